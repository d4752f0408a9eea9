/-! kinds and lengths stay -/
def csh (c : mj_C) : (FieldType × Nat) ⊕ Nat := match c with
  | .inl (ty, A) => .inl (ty, A.1)
  | .inr (ci, _) => .inr ci
def hsg (P : mj_P) (σ σ' : mj_H) : Prop := ∀ (a : Nat) (c : mj_C), mj_get P σ a = some c → ∃ c', mj_get P σ' a = some c' ∧ csh c' = csh c
section SH1
variable {P : mj_P} {σ σ' σ'' : mj_H} {a : Nat} {c c' : mj_C}
theorem hsg_rf (σ : mj_H) : hsg P σ σ := fun a c h => ⟨c, h, rfl⟩
theorem hsg_tr (h : hsg P σ σ') (h' : hsg P σ' σ'') : hsg P σ σ'' := fun a c q => by
  obtain ⟨c1, h1, h2⟩ := h a c q
  obtain ⟨c2, h3, h4⟩ := h' a c1 h1
  exact ⟨c2, h3, h4.trans h2⟩
theorem hsg_set (ha : a % 4 ≠ 0) (hg : mj_get P σ a = some c) (hc : csh c' = csh c) : hsg P σ (mj_set σ a c') := fun b x hb => by
  by_cases e : b = a
  · subst e
    rw [hg] at hb
    cases hb
    exact ⟨c', mj_get_set_self ha hg, hc⟩
  · exact ⟨x, by rw [mj_get_set_ne ha e]; exact hb, rfl⟩
theorem app_get {α : Type} {l : List α} {i : Nat} {x y : α} (h : l[i]? = some x) : (l ++ [y])[i]? = some x := by
  rw [List.getElem?_append_left (List.getElem?_eq_some_iff.mp h).1]
  exact h
theorem hsg_new (x : mj_C) (n : Nat) : hsg P σ (mj_new P σ x n) := fun a c h => by
  refine ⟨c, ?_, rfl⟩
  unfold mj_new
  split
  · rcases mj_seg a with q | q | q | q
    · rw [mj_get0 q] at h ⊢; exact h
    · rw [mj_get1 q] at h ⊢; exact app_get h
    · rw [mj_get2 q] at h ⊢; exact h
    · rw [mj_get3 q] at h ⊢; exact h
  · split
    · rcases mj_seg a with q | q | q | q
      · rw [mj_get0 q] at h ⊢; exact h
      · rw [mj_get1 q] at h ⊢; exact h
      · rw [mj_get2 q] at h ⊢; exact app_get h
      · rw [mj_get3 q] at h ⊢; exact h
    · rcases mj_seg a with q | q | q | q
      · rw [mj_get0 q] at h ⊢; exact h
      · rw [mj_get1 q] at h ⊢; exact h
      · rw [mj_get2 q] at h ⊢; exact h
      · rw [mj_get3 q] at h ⊢; exact app_get h
theorem to_sh {pc pc' : Nat} {off : Int} {L L' : mj_L} {st st' : List Value} (h : mj_to pc off L st σ = some (pc', L', st', σ')) : hsg P σ σ' := by
  unfold mj_to at h
  split at h
  · cases h
  · cases h; exact hsg_rf _
theorem if_sh {b : Bool} {pc pc' : Nat} {off : Int} {L L' : mj_L} {st st' : List Value} (h : mj_if b pc off L st σ = some (pc', L', st', σ')) : hsg P σ σ' := by
  unfold mj_if at h
  split at h
  · cases h
  · split at h
    · cases h; exact hsg_rf _
    · cases h; exact hsg_rf _
theorem ast_len {i : Instr} {ty : FieldType} {A A' : vp_A} {j : Nat} {v : Value} (h : mj_ast i ty A j v = some A') : A'.1 = A.1 := by
  unfold mj_ast at h
  split at h <;> first | (cases h; rfl) | contradiction
set_option maxHeartbeats 4000000 in
theorem sim_sh {mi : Nat} {i : Instr} {len pc pc' : Nat} {L L' : mj_L} {st st' : List Value} (h : mj_sim P mi i len pc L st σ = some (pc', L', st', σ')) : hsg P σ σ' := by
  unfold mj_sim at h
  split at h
  all_goals
    repeat' (first | contradiction | exact to_sh h | exact if_sh h | (cases h; exact hsg_rf _) | (cases h; exact hsg_new _ _) | split at h)
  all_goals
    first
      | (rename_i hg hq; cases h; exact hsg_set hq.2.1 hg rfl)
      | (rename_i ty A hg hq x9 A9 h9; cases h; exact hsg_set hq.2.1 hg (congrArg (fun z => (Sum.inl (ty, z) : (FieldType × Nat) ⊕ Nat)) (ast_len h9)))
theorem cpy_sh {st r : List Value} (h : mj_cpy P st σ = some (r, σ')) : hsg P σ σ' := by
  unfold mj_cpy at h
  split at h
  · split at h
    · rename_i h1 h2
      split at h
      · rename_i hq
        cases h
        exact hsg_set hq.2.2.2.2.2.2.1 h2 rfl
      · cases h
    · cases h
  · cases h
theorem cln_sh {st r : List Value} (h : mj_cln P st σ = some (r, σ')) : hsg P σ σ' := by
  unfold mj_cln at h
  split at h
  · split at h
    · split at h
      · cases h
        exact hsg_new _ _
      · cases h
    · cases h
  · cases h
end SH1
set_option maxHeartbeats 4000000 in
theorem run_sh (P : mj_P) : ∀ (n d mi pc : Nat) (L : mj_L) (st : List Value) (σ σ' : mj_H) (res : Option Value ⊕ Nat), mj_run P n d mi pc L st σ = some (res, σ') → hsg P σ σ' := by
  intro n
  induction n with
  | zero => intro d mi pc L st σ σ' res h; simp [mj_run] at h
  | succ n ih =>
    intro d mi pc L st σ σ' res h
    rw [mj_run] at h
    split at h
    · cases h
    · split at h
      · split at h
        · split at h
          · split at h
            · exact ih _ _ _ _ _ _ _ _ h
            · cases h
          · cases h
        · split at h
          · exact hsg_tr (cpy_sh (by assumption)) (ih _ _ _ _ _ _ _ _ h)
          · cases h
        · split at h
          · exact hsg_tr (cln_sh (by assumption)) (ih _ _ _ _ _ _ _ _ h)
          · cases h
        · split at h
          · split at h
            · split at h
              · cases h
              · rename_i hr
                exact hsg_tr (ih _ _ _ _ _ _ _ _ hr) (ih _ _ _ _ _ _ _ _ h)
              · rename_i hr
                have h1 := ih _ _ _ _ _ _ _ _ hr
                split at h
                · cases h
                split at h
                · cases h; exact h1
                · split at h
                  · split at h
                    · split at h
                      · exact hsg_tr h1 (ih _ _ _ _ _ _ _ _ h)
                      · cases h
                    · split at h
                      · exact hsg_tr h1 (ih _ _ _ _ _ _ _ _ h)
                      · cases h
                    · cases h
                  · cases h
                · cases h
            · cases h
          · cases h
        · cases h
      · split at h
        · cases h; exact hsg_rf _
        · split at h
          · split at h
            · split at h
              · cases h; exact hsg_new _ _
              · cases h
            · exact hsg_tr (hsg_new _ _) (ih _ _ _ _ _ _ _ _ h)
            · cases h
          · split at h
            · rename_i hs
              exact hsg_tr (sim_sh hs) (ih _ _ _ _ _ _ _ _ h)
            · cases h
theorem cal_sh {P : mj_P} {d mi : Nat} {as : List Value} {σ : mj_H} {Q : PO} (h : cal P d mi as σ Q) : cal P d mi as σ (fun r σ' => Q r σ' ∧ hsg P σ σ') := by
  obtain ⟨M, h1, h2, N, r, σ', h3, h4⟩ := h
  exact ⟨M, h1, h2, N, r, σ', ⟨h3, run_sh P _ _ _ _ _ _ _ _ _ (h4 N (Nat.le_refl _))⟩, h4⟩
/-- of the class's cells: what was there stays of its kind -/
def sg (T T' : XS) : Prop := ∀ a, (∀ ci, 2 ≤ ci ∧ ci ≤ 12 → ob T a ci → ob T' a ci) ∧ (∀ kd n, 20 ≤ kd ∧ kd ≤ 25 → ar T a kd n → ar T' a kd n)
theorem inb_of {P : mj_P} {c : CX} {T : XS} {a : Nat} {x : mj_C} (h4 : a % 4 = 1 ∨ a % 4 = 3) (h : mj_get P (hX c T) a = some x) : inb T a := by
  rcases h4 with q | q
  · rw [mj_get1 q] at h
    have := (List.getElem?_eq_some_iff.mp h).1
    unfold hX at this
    simp at this
    exact Or.inl ⟨q, this⟩
  · rw [mj_get3 q] at h
    have := (List.getElem?_eq_some_iff.mp h).1
    unfold hX at this
    simp at this
    exact Or.inr ⟨q, this⟩
theorem inb_o {T : XS} {a : Nat} (h : inb T a) : a % 4 = 1 ∨ a % 4 = 3 := h.elim (fun q => Or.inl q.1) (fun q => Or.inr q.1)
theorem csh_X (T : XS) (a : Nat) : csh (cellX T a) = (if (shx T a).1 = 20 then .inl (.int, (shx T a).2) else if (shx T a).1 = 21 then .inl (.byte, (shx T a).2) else if (shx T a).1 = 22 then .inl (.long, (shx T a).2) else if (shx T a).1 = 23 then .inl (.object "InsultRow$Standing", (shx T a).2) else if (shx T a).1 = 24 then .inl (.object "InsultRow$Fair", (shx T a).2) else if (shx T a).1 = 25 then .inl (.object "InsultRow$Tray", (shx T a).2) else .inr (shx T a).1) := by
  unfold cellX
  split <;> rename_i e <;> rw [e] <;> first | rfl | skip
  rename_i n1 n2 n3 n4 n5 n6
  rw [if_neg (fun q => by simp at q; exact n1 q), if_neg (fun q => by simp at q; exact n2 q), if_neg (fun q => by simp at q; exact n3 q), if_neg (fun q => by simp at q; exact n4 q), if_neg (fun q => by simp at q; exact n5 q), if_neg (fun q => by simp at q; exact n6 q)]
  rfl
theorem sg_of {P : mj_P} {c : CX} {T T' : XS} (h : hsg P (hX c T) (hX c T')) : sg T T' := by
  intro a
  refine ⟨fun ci hc ho => ?_, fun kd n hk ho => ?_⟩
  · obtain ⟨x, h1, h2⟩ := h a _ (x_get ho.1)
    have hi := inb_of (inb_o ho.1) h1
    refine ⟨hi, ?_⟩
    rw [x_get hi] at h1
    cases h1
    rw [csh_X, csh_X, ho.2] at h2
    simp only [show ¬ ci = 20 by omega, show ¬ ci = 21 by omega, show ¬ ci = 22 by omega, show ¬ ci = 23 by omega, show ¬ ci = 24 by omega, show ¬ ci = 25 by omega, if_false] at h2
    repeat' split at h2
    all_goals first | (cases h2; done) | exact Sum.inr.inj h2
  · obtain ⟨x, h1, h2⟩ := h a _ (x_get ho.1)
    have hi := inb_of (inb_o ho.1) h1
    refine ⟨hi, ?_⟩
    rw [x_get hi] at h1
    cases h1
    rw [csh_X, csh_X, ho.2] at h2
    have : kd = 20 ∨ kd = 21 ∨ kd = 22 ∨ kd = 23 ∨ kd = 24 ∨ kd = 25 := by omega
    rcases this with rfl | rfl | rfl | rfl | rfl | rfl
    all_goals
      simp only [Nat.reduceEqDiff, if_true, if_false] at h2
      repeat' split at h2
      all_goals first | (rename_i e; cases h2; exact Prod.ext e rfl) | (simp at h2; done) | skip
theorem XI_sg {c : CX} {d m : Nat} {as : List Value} {T : XS} {Q : Int32 → XS → Prop} (h : XI c d m as T Q) : XI c d m as T (fun x T' => Q x T' ∧ sg T T') := by
  refine cal_mono (cal_sh h) ?_
  rintro r σ' ⟨⟨x, T', rfl, rfl, hq⟩, hs⟩
  exact ⟨x, T', rfl, rfl, hq, sg_of hs⟩
theorem XIt_sg {c : CX} {d m : Nat} {as : List Value} {T : XS} {Q : Int32 → XS → Prop} {E : Nat → XS → Prop} (h : XIt c d m as T Q E) : XIt c d m as T (fun x T' => Q x T' ∧ sg T T') E := by
  refine cal_mono (cal_sh h) ?_
  rintro r σ' ⟨⟨x, T', rfl, rfl, hq⟩ | ⟨e, T', rfl, rfl, hq⟩, hs⟩
  · exact Or.inl ⟨x, T', rfl, rfl, hq, sg_of hs⟩
  · exact Or.inr ⟨e, T', rfl, rfl, hq⟩
theorem XB_sg {c : CX} {d m : Nat} {as : List Value} {T : XS} {Q : Bool → XS → Prop} (h : XB c d m as T Q) : XB c d m as T (fun x T' => Q x T' ∧ sg T T') := by
  refine cal_mono (cal_sh h) ?_
  rintro r σ' ⟨⟨x, T', rfl, rfl, hq⟩, hs⟩
  exact ⟨x, T', rfl, rfl, hq, sg_of hs⟩
theorem XBt_sg {c : CX} {d m : Nat} {as : List Value} {T : XS} {Q : Bool → XS → Prop} {E : Nat → XS → Prop} (h : XBt c d m as T Q E) : XBt c d m as T (fun x T' => Q x T' ∧ sg T T') E := by
  refine cal_mono (cal_sh h) ?_
  rintro r σ' ⟨⟨x, T', rfl, rfl, hq⟩ | ⟨e, T', rfl, rfl, hq⟩, hs⟩
  · exact Or.inl ⟨x, T', rfl, rfl, hq, sg_of hs⟩
  · exact Or.inr ⟨e, T', rfl, rfl, hq⟩
theorem XJ_sg {c : CX} {d m : Nat} {as : List Value} {T : XS} {Q : Int64 → XS → Prop} (h : XJ c d m as T Q) : XJ c d m as T (fun x T' => Q x T' ∧ sg T T') := by
  refine cal_mono (cal_sh h) ?_
  rintro r σ' ⟨⟨x, T', rfl, rfl, hq⟩, hs⟩
  exact ⟨x, T', rfl, rfl, hq, sg_of hs⟩
theorem XJt_sg {c : CX} {d m : Nat} {as : List Value} {T : XS} {Q : Int64 → XS → Prop} {E : Nat → XS → Prop} (h : XJt c d m as T Q E) : XJt c d m as T (fun x T' => Q x T' ∧ sg T T') E := by
  refine cal_mono (cal_sh h) ?_
  rintro r σ' ⟨⟨x, T', rfl, rfl, hq⟩ | ⟨e, T', rfl, rfl, hq⟩, hs⟩
  · exact Or.inl ⟨x, T', rfl, rfl, hq, sg_of hs⟩
  · exact Or.inr ⟨e, T', rfl, rfl, hq⟩
theorem XO_sg {c : CX} {d m : Nat} {as : List Value} {T : XS} {Q : Option Nat → XS → Prop} (h : XO c d m as T Q) : XO c d m as T (fun x T' => Q x T' ∧ sg T T') := by
  refine cal_mono (cal_sh h) ?_
  rintro r σ' ⟨⟨x, T', rfl, rfl, hq⟩, hs⟩
  exact ⟨x, T', rfl, rfl, hq, sg_of hs⟩
theorem XOt_sg {c : CX} {d m : Nat} {as : List Value} {T : XS} {Q : Option Nat → XS → Prop} {E : Nat → XS → Prop} (h : XOt c d m as T Q E) : XOt c d m as T (fun x T' => Q x T' ∧ sg T T') E := by
  refine cal_mono (cal_sh h) ?_
  rintro r σ' ⟨⟨x, T', rfl, rfl, hq⟩ | ⟨e, T', rfl, rfl, hq⟩, hs⟩
  · exact Or.inl ⟨x, T', rfl, rfl, hq, sg_of hs⟩
  · exact Or.inr ⟨e, T', rfl, rfl, hq⟩
theorem XV_sg {c : CX} {d m : Nat} {as : List Value} {T : XS} {Q : XS → Prop} (h : XV c d m as T Q) : XV c d m as T (fun T' => Q T' ∧ sg T T') := by
  refine cal_mono (cal_sh h) ?_
  rintro r σ' ⟨⟨T', rfl, rfl, hq⟩, hs⟩
  exact ⟨T', rfl, rfl, hq, sg_of hs⟩
theorem XVt_sg {c : CX} {d m : Nat} {as : List Value} {T : XS} {Q : XS → Prop} {E : Nat → XS → Prop} (h : XVt c d m as T Q E) : XVt c d m as T (fun T' => Q T' ∧ sg T T') E := by
  refine cal_mono (cal_sh h) ?_
  rintro r σ' ⟨⟨T', rfl, rfl, hq⟩ | ⟨e, T', rfl, rfl, hq⟩, hs⟩
  · exact Or.inl ⟨T', rfl, rfl, hq, sg_of hs⟩
  · exact Or.inr ⟨e, T', rfl, rfl, hq⟩
