/-! nothing goes away -/
def mj_le (σ σ' : mj_H) : Prop := mj_tot σ ≤ mj_tot σ' ∧ σ.2.2.2 ≤ σ'.2.2.2
theorem mj_le.rf (σ : mj_H) : mj_le σ σ := ⟨Nat.le_refl _, Nat.le_refl _⟩
theorem mj_le.tr {a b c : mj_H} (h : mj_le a b) (h' : mj_le b c) : mj_le a c := ⟨Nat.le_trans h.1 h'.1, Nat.le_trans h.2 h'.2⟩
theorem mj_le_new (P : mj_P) (σ : mj_H) (c : mj_C) (n : Nat) : mj_le σ (mj_new P σ c n) := by
  have h := mj_new_tot (P := P) (σ := σ) (c := c) n
  exact ⟨by rw [h.1]; omega, by rw [h.2]; omega⟩
theorem mj_le_set {σ : mj_H} {a : Nat} {c : mj_C} (ha : a % 4 ≠ 0) : mj_le σ (mj_set σ a c) := by
  have h := mj_set_tot (σ := σ) (c := c) ha
  exact ⟨by rw [h.1]; omega, by rw [h.2]; omega⟩
theorem mj_to_le {pc pc' : Nat} {off : Int} {L L' : mj_L} {st st' : List Value} {σ σ' : mj_H} (h : mj_to pc off L st σ = some (pc', L', st', σ')) : mj_le σ σ' := by
  unfold mj_to at h
  split at h
  · cases h
  · cases h; exact mj_le.rf _
theorem mj_if_le {b : Bool} {pc pc' : Nat} {off : Int} {L L' : mj_L} {st st' : List Value} {σ σ' : mj_H} (h : mj_if b pc off L st σ = some (pc', L', st', σ')) : mj_le σ σ' := by
  unfold mj_if at h
  split at h
  · cases h
  · split at h
    · cases h; exact mj_le.rf _
    · cases h; exact mj_le.rf _
set_option maxHeartbeats 4000000 in
theorem mj_sim_le {P : mj_P} {mi : Nat} {i : Instr} {len pc pc' : Nat} {L L' : mj_L} {st st' : List Value} {σ σ' : mj_H} (h : mj_sim P mi i len pc L st σ = some (pc', L', st', σ')) : mj_le σ σ' := by
  unfold mj_sim at h
  split at h
  all_goals
    repeat' (first | contradiction | exact mj_to_le h | exact mj_if_le h | (cases h; exact mj_le.rf _) | (cases h; exact mj_le_new _ _ _ _) | split at h)
  all_goals
    first
      | (rename_i hq; cases h; exact mj_le_set hq.2.1)
      | (rename_i hq x9 A9 h9; cases h; exact mj_le_set hq.2.1)
theorem mj_cpy_le {P : mj_P} {st r : List Value} {σ σ' : mj_H} (h : mj_cpy P st σ = some (r, σ')) : mj_le σ σ' := by
  unfold mj_cpy at h
  split at h
  · split at h
    · split at h
      · rename_i hq
        cases h
        exact mj_le_set hq.2.2.2.2.2.2.1
      · cases h
    · cases h
  · cases h
theorem mj_cln_le {P : mj_P} {st r : List Value} {σ σ' : mj_H} (h : mj_cln P st σ = some (r, σ')) : mj_le σ σ' := by
  unfold mj_cln at h
  split at h
  · split at h
    · split at h
      · cases h
        exact mj_le_new _ _ _ _
      · cases h
    · cases h
  · cases h
set_option maxHeartbeats 4000000 in
theorem mj_run_le (P : mj_P) : ∀ (n d mi pc : Nat) (L : mj_L) (st : List Value) (σ σ' : mj_H) (res : Option Value ⊕ Nat), mj_run P n d mi pc L st σ = some (res, σ') → mj_le σ σ' := by
  intro n
  induction n with
  | zero => intro d mi pc L st σ σ' res h; simp [mj_run] at h
  | succ n ih =>
    intro d mi pc L st σ σ' res h
    rw [mj_run] at h
    split at h
    · cases h
    · split at h
      · split at h
        · split at h
          · split at h
            · exact ih _ _ _ _ _ _ _ _ h
            · cases h
          · cases h
        · split at h
          · exact (mj_cpy_le (by assumption)).tr (ih _ _ _ _ _ _ _ _ h)
          · cases h
        · split at h
          · exact (mj_cln_le (by assumption)).tr (ih _ _ _ _ _ _ _ _ h)
          · cases h
        · split at h
          · split at h
            · split at h
              · cases h
              · rename_i hr
                exact (ih _ _ _ _ _ _ _ _ hr).tr (ih _ _ _ _ _ _ _ _ h)
              · rename_i hr
                have h1 := ih _ _ _ _ _ _ _ _ hr
                split at h
                · cases h
                split at h
                · cases h; exact h1
                · split at h
                  · split at h
                    · split at h
                      · exact h1.tr (ih _ _ _ _ _ _ _ _ h)
                      · cases h
                    · split at h
                      · exact h1.tr (ih _ _ _ _ _ _ _ _ h)
                      · cases h
                    · cases h
                  · cases h
                · cases h
            · cases h
          · cases h
        · cases h
      · split at h
        · cases h; exact mj_le.rf _
        · split at h
          · split at h
            · split at h
              · cases h; exact mj_le_new _ _ _ _
              · cases h
            · exact (mj_le_new _ _ _ _).tr (ih _ _ _ _ _ _ _ _ h)
            · cases h
          · split at h
            · rename_i hs
              exact (mj_sim_le hs).tr (ih _ _ _ _ _ _ _ _ h)
            · cases h
