/-! locals that nobody reads -/
def mj_tl (i : Instr) : Bool := match i with
  | .iload_n _ | .iload _ | .lload_n _ | .lload _ | .aload_n _ | .aload _ | .istore_n _ | .istore _ | .lstore_n _ | .lstore _ | .astore_n _ | .astore _ | .iinc _ _ => true
  | _ => false
section LL1
variable {P : mj_P} {d mi pc pc' : Nat} {L L' L1 : mj_L} {st st' : List Value} {σ σ' : mj_H} {Q : PO}
theorem to_loc {off : Int} (h : mj_to pc off L st σ = some (pc', L1, st', σ')) : L1 = L ∧ ∀ L2, mj_to pc off L2 st σ = some (pc', L2, st', σ') := by
  unfold mj_to at h ⊢
  split at h
  · cases h
  · rename_i hq
    cases h
    exact ⟨rfl, fun L2 => if_neg hq⟩
theorem if_loc {b : Bool} {off : Int} (h : mj_if b pc off L st σ = some (pc', L1, st', σ')) : L1 = L ∧ ∀ L2, mj_if b pc off L2 st σ = some (pc', L2, st', σ') := by
  unfold mj_if at h ⊢
  split at h
  · cases h
  · rename_i hq
    split at h
    · rename_i hb
      cases h
      exact ⟨rfl, fun L2 => by rw [if_neg hq, if_pos hb]⟩
    · rename_i hb
      cases h
      exact ⟨rfl, fun L2 => by rw [if_neg hq, if_neg hb]⟩
set_option maxHeartbeats 4000000 in
theorem sim_loc {i : Instr} {len : Nat} (ht : mj_tl i = false) (h : mj_sim P mi i len pc L st σ = some (pc', L1, st', σ')) : L1 = L ∧ ∀ L2, mj_sim P mi i len pc L2 st σ = some (pc', L2, st', σ') := by
  unfold mj_sim at h ⊢
  split at h
  all_goals first | (cases ht; done) | skip
  all_goals
    repeat' (first | contradiction | (exact to_loc h) | (exact if_loc h) | (cases h; exact ⟨rfl, fun _ => rfl⟩) | split at h)
  all_goals
    first
      | (cases h; refine ⟨rfl, fun L2 => ?_⟩; simp [*]; done)
      | (refine ⟨(to_loc h).1, fun L2 => ?_⟩; have e3 := (to_loc h).2 L2; try simp only
         first
           | (rw [if_pos (by assumption)]; exact e3)
           | (rw [if_neg (by assumption)]; exact e3))
theorem lle_rf (L : mj_L) : lle L L := ⟨rfl, fun _ _ h => h⟩
theorem lle_set {k : Nat} (h : lle L L') (o : Option Value) : lle (L.set k o) (L'.set k o) := by
  refine ⟨by simp [h.1], fun i v hv => ?_⟩
  rw [List.getElem?_set] at hv ⊢
  split at hv
  · rename_i hk
    rw [if_pos hk, ← h.1]
    exact hv
  · rename_i hk
    rw [if_neg hk]
    exact h.2 i v hv
theorem lle_none {k : Nat} (h : lle L L') (hk : ∀ v, L[k]? ≠ some (some v)) : lle L (L'.set k none) := by
  refine ⟨by simp [h.1], fun i v hv => ?_⟩
  rw [List.getElem?_set]
  split
  · rename_i hq
    subst hq
    exact absurd hv (hk v)
  · exact h.2 i v hv
theorem lle_kill (h : lle L L') (k : Nat) : lle (mj_kill L k) (mj_kill L' k) := by
  unfold mj_kill
  match k with
  | 0 => exact h
  | j + 1 =>
    simp only
    split
    · rename_i v hv
      rw [h.2 j v hv]
      simp only
      split
      · exact lle_set h none
      · exact h
    · rename_i hv
      split
      · split
        · exact lle_none h (fun v q => hv v q)
        · exact h
      · exact h
theorem lle_st1 (h : lle L L') (k : Nat) (v : Value) : lle (mj_st1 L k v) (mj_st1 L' k v) := lle_set (lle_kill h k) _
theorem lle_st2 (h : lle L L') (k : Nat) (v : Value) : lle (mj_st2 L k v) (mj_st2 L' k v) := lle_set (lle_set (lle_kill h k) _) _
set_option maxHeartbeats 4000000 in
theorem sim_less {i : Instr} {len : Nat} (hl : lle L L') (h : mj_sim P mi i len pc L st σ = some (pc', L1, st', σ')) : ∃ L2, mj_sim P mi i len pc L' st σ = some (pc', L2, st', σ') ∧ lle L1 L2 := by
  by_cases ht : mj_tl i = false
  · obtain ⟨e1, e2⟩ := sim_loc ht h
    subst e1
    exact ⟨L', e2 L', hl⟩
  · cases i <;> first | exact absurd rfl ht | skip
    all_goals
      simp only [mj_sim] at h ⊢
      split at h <;> try contradiction
    all_goals
      first
        | (rename_i x hx; cases h; rw [hl.2 _ _ hx]; exact ⟨_, rfl, hl⟩)
        | (rename_i hx; cases h; rw [hl.2 _ _ hx]; exact ⟨_, rfl, hl⟩)
        | (rename_i x hx; cases h; rw [hl.2 _ _ hx]; exact ⟨_, rfl, lle_st1 hl _ _⟩)
        | (split at h
           · rename_i hk; cases h; rw [if_pos (by rw [← hl.1]; exact hk)]; exact ⟨_, rfl, lle_st1 hl _ _⟩
           · cases h)
        | (split at h
           · rename_i hk; cases h; rw [if_pos (by rw [← hl.1]; exact hk)]; exact ⟨_, rfl, lle_st2 hl _ _⟩
           · cases h)
end LL1
section LL2
variable {P : mj_P}
set_option maxHeartbeats 4000000 in
theorem run_less : ∀ (n d mi pc : Nat) (L L' : mj_L) (st : List Value) (σ : mj_H) (r : mj_Q), lle L L' → mj_run P n d mi pc L st σ = some r → mj_run P n d mi pc L' st σ = some r := by
  intro n
  induction n with
  | zero => intro d mi pc L L' st σ r _ h; simp [mj_run] at h
  | succ n ih =>
    intro d mi pc L L' st σ r hl h
    rw [mj_run] at h ⊢
    split at h
    · cases h
    · rename_i i len hi
      try simp only [hi]
      split at h
      · rename_i idx hv
        try simp only [hv]
        split at h
        · rename_i hk
          try simp only [hk]
          split at h
          · split at h
            · rename_i hc
              try simp only [if_pos hc]
              exact ih _ _ _ _ _ _ _ _ hl h
            · cases h
          · cases h
        · rename_i hk
          try simp only [hk]
          split at h
          · rename_i hc
            try simp only [hc]
            exact ih _ _ _ _ _ _ _ _ hl h
          · cases h
        · rename_i hk
          try simp only [hk]
          split at h
          · rename_i hc
            try simp only [hc]
            exact ih _ _ _ _ _ _ _ _ hl h
          · cases h
        · rename_i hk
          try simp only [hk]
          split at h
          · rename_i d' _ nl _ hh' cs' hM
            try simp only [hM]
            split at h
            · rename_i hq
              try simp only [if_pos hq]
              split at h
              · cases h
              · rename_i hr
                try simp only [hr]
                exact ih _ _ _ _ _ _ _ _ hl h
              · rename_i e σ1 hr
                try simp only [hr]
                split at h
                · cases h
                rename_i hcs
                rw [if_neg hcs]
                split at h
                · rename_i hm
                  try simp only [hm]
                  exact h
                · rename_i hhne hm
                  split at h
                  · rename_i hnd
                    split at h
                    · rename_i hin
                      split at h
                      · rename_i hkl
                        try simp only [hnd, hin]
                        rw [if_pos (by rw [← hl.1]; exact hkl)]
                        exact ih _ _ _ _ _ _ _ _ (lle_set (lle_kill hl _) _) h
                      · cases h
                    · rename_i hin
                      split at h
                      · rename_i hkl
                        try simp only [hnd, hin]
                        rw [if_pos (by rw [← hl.1]; exact hkl)]
                        exact ih _ _ _ _ _ _ _ _ (lle_set (lle_kill hl _) _) h
                      · cases h
                    · cases h
                  · cases h
                · cases h
            · cases h
          · cases h
        · cases h
      · rename_i hv
        try simp only [hv]
        split at h
        · rename_i hr
          try simp only [hr]
          exact h
        · rename_i hr
          try simp only [hr]
          split at h
          · split at h
            · rename_i hk
              try simp only [hk]
              exact h
            · rename_i hk
              try simp only [hk]
              exact ih _ _ _ _ _ _ _ _ hl h
            · cases h
          · rename_i hn
            split at h
            · rename_i hs
              obtain ⟨L2, e1, e2⟩ := sim_less hl hs
              try rw [e1]
              exact ih _ _ _ _ _ _ _ _ e2 h
            · cases h
theorem ev_less {d mi pc : Nat} {L L' : mj_L} {st : List Value} {σ : mj_H} {Q : PO} (hl : lle L L') (h : ev P d mi pc L st σ Q) : ev P d mi pc L' st σ Q := by
  obtain ⟨N, r, σ', h1, h2⟩ := h
  exact ⟨N, r, σ', h1, fun n hn => run_less _ _ _ _ _ _ _ _ _ hl (h2 n hn)⟩
end LL2
def lleb : mj_L → mj_L → Prop
  | [], [] => True
  | none :: a, _ :: b => lleb a b
  | some v :: a, w :: b => w = some v ∧ lleb a b
  | _, _ => False
theorem lle_of : ∀ {L L' : mj_L}, lleb L L' → lle L L'
  | [], [], _ => ⟨rfl, fun _ _ h => h⟩
  | none :: a, w :: b, h => by
    have h2 := lle_of (L := a) (L' := b) h
    refine ⟨by simp [h2.1], fun i v hv => ?_⟩
    match i with
    | 0 => cases hv
    | i + 1 => exact h2.2 i v hv
  | some u :: a, w :: b, h => by
    obtain ⟨rfl, h1⟩ := h
    have h2 := lle_of (L := a) (L' := b) h1
    refine ⟨by simp [h2.1], fun i v hv => ?_⟩
    match i with
    | 0 => exact hv
    | i + 1 => exact h2.2 i v hv
section LL3
variable {P : mj_P} {d mi pc : Nat} {L : mj_L} {st : List Value} {σ : mj_H} {Q : PO}
theorem ev_sw {i : Instr} {len tgt : Nat} {x y : Int32} {r : List Value} (hx : x = y) (hi : mj_ins P mi pc = some (i, len)) (hs : mj_ex P mi 1 (pc, L, .int y :: r, σ) = some (tgt, L, r, σ)) (k : ev P d mi tgt L r σ Q) : ev P d mi pc L (.int x :: r) σ Q := by
  subst hx
  exact ev_ex 1 hs k
theorem ev_tswd {len tgt : Nat} {df lo hi : Int} {offs : Array Int} {x : Int32} {r : List Value} (hi' : mj_ins P mi pc = some (.tableswitch df lo hi offs, len)) (hx : x.toInt < lo ∨ hi < x.toInt) (ht : (pc : Int) + df = (tgt : Int)) (k : ev P d mi tgt L r σ Q) : ev P d mi pc L (.int x :: r) σ Q := by
  have e0 : ¬ (pc : Int) + df < 0 := by omega
  have e1 : ((pc : Int) + df).toNat = tgt := by omega
  exact ev_step hi' rfl (by simp only [mj_sim, mj_to, if_pos hx, if_neg e0, e1]) k
theorem i32_ne {x y : Int32} {z : Int} (h : ¬ x = y) (hz : y.toInt = z) : x.toInt ≠ z := fun q => h (Int32.toInt_inj.mp (q.trans hz.symm))
theorem ev_idiv {len : Nat} {x y : Int32} {r : List Value} (hi : mj_ins P mi pc = some (.idiv, len)) (h : ¬ y = 0) (k : ev P d mi (pc + len) L (.int (x / y) :: r) σ Q) : ev P d mi pc L (.int y :: .int x :: r) σ Q := ev_step hi rfl (by simp only [mj_sim, mj_b32, if_neg h]) k
theorem ev_irem {len : Nat} {x y : Int32} {r : List Value} (hi : mj_ins P mi pc = some (.irem, len)) (h : ¬ y = 0) (k : ev P d mi (pc + len) L (.int (x - x / y * y) :: r) σ Q) : ev P d mi pc L (.int y :: .int x :: r) σ Q := ev_step hi rfl (by simp only [mj_sim, mj_b32, if_neg h]) k
end LL3
section LL4
variable {c : CX} {d mi pc : Nat} {L : mj_L} {st : List Value} {s : RS} {Q : PO}
theorem rq_I {i : Instr} {len idx mj na ci : Nat} {v : Value} {V : Int32} {S : RS} (hi : mj_ins (cP c) mi pc = some (i, len)) (hv : mj_inv i = some idx) (hl : mj_lnk (cP c) mi idx = some (4, mj, na, ci, v)) (hn : na ≤ st.length) (hc : mj_cat (st.drop na) ≤ 8) (hr : mj_rcv (cP c) (cH c s) i ci (st.take na).reverse = true)
    (k : RI c d mj (st.take na).reverse s (fun x s' => x = V ∧ s' = S)) (h : ev (cP c) (d + 1) mi (pc + 3) L (.int V :: st.drop na) (cH c S) Q) : ev (cP c) (d + 1) mi pc L st (cH c s) Q :=
  rc_I hi hv hl hn hc hr k (fun x s' q => by rw [q.1, q.2]; exact h)
theorem rq_B {i : Instr} {len idx mj na ci : Nat} {v : Value} {V : Bool} {S : RS} (hi : mj_ins (cP c) mi pc = some (i, len)) (hv : mj_inv i = some idx) (hl : mj_lnk (cP c) mi idx = some (4, mj, na, ci, v)) (hn : na ≤ st.length) (hc : mj_cat (st.drop na) ≤ 8) (hr : mj_rcv (cP c) (cH c s) i ci (st.take na).reverse = true)
    (k : RB c d mj (st.take na).reverse s (fun x s' => x = V ∧ s' = S)) (h : ev (cP c) (d + 1) mi (pc + 3) L (.int (bI V) :: st.drop na) (cH c S) Q) : ev (cP c) (d + 1) mi pc L st (cH c s) Q :=
  rc_B hi hv hl hn hc hr k (fun x s' q => by rw [q.1, q.2]; exact h)
theorem rq_J {i : Instr} {len idx mj na ci : Nat} {v : Value} {V : Int64} {S : RS} (hi : mj_ins (cP c) mi pc = some (i, len)) (hv : mj_inv i = some idx) (hl : mj_lnk (cP c) mi idx = some (4, mj, na, ci, v)) (hn : na ≤ st.length) (hc : mj_cat (st.drop na) ≤ 8) (hr : mj_rcv (cP c) (cH c s) i ci (st.take na).reverse = true)
    (k : RJ c d mj (st.take na).reverse s (fun x s' => x = V ∧ s' = S)) (h : ev (cP c) (d + 1) mi (pc + 3) L (.long V :: st.drop na) (cH c S) Q) : ev (cP c) (d + 1) mi pc L st (cH c s) Q :=
  rc_J hi hv hl hn hc hr k (fun x s' q => by rw [q.1, q.2]; exact h)
end LL4
section LL5
variable {P : mj_P} {d mi pc : Nat} {L : mj_L} {st : List Value} {σ σ' : mj_H} {Q : PO}
theorem ev_gf {idx len ci k w a : Nat} {v v0 : Value} {fs r : List Value} (hi : mj_ins P mi pc = some (.getfield idx, len)) (hl : mj_lnk P mi idx = some (0, ci, k, w, v0)) (hg : mj_get P σ a = some (.inr (ci, fs))) (h01 : a % 4 = 0 ↔ ci = 1) (hk : fs[k]? = some v) (hc : ev P d mi (pc + len) L (v :: r) σ Q) : ev P d mi pc L (.ref a :: r) σ Q :=
  ev_step hi rfl (by simp only [mj_sim, hl, hg, h01, and_self, if_true, hk]) hc
theorem ev_pf {idx len ci k w a : Nat} {v v0 : Value} {fs r : List Value} (hi : mj_ins P mi pc = some (.putfield idx, len)) (hl : mj_lnk P mi idx = some (0, ci, k, w, v0)) (hg : mj_get P σ a = some (.inr (ci, fs))) (h01 : a % 4 ≠ 0) (hk : k < fs.length) (hf : mj_fit w v = true) (hσ : mj_set σ a (.inr (ci, fs.set k v)) = σ') (hc : ev P d mi (pc + len) L r σ' Q) : ev P d mi pc L (v :: .ref a :: r) σ Q := by
  subst hσ
  exact ev_step hi rfl (by simp only [mj_sim, hl, hg, h01, hk, hf, ne_eq, not_false_eq_true, and_self, if_true]) hc
theorem ev_len {len a : Nat} {ty : FieldType} {A : vp_A} {r : List Value} (hi : mj_ins P mi pc = some (.arraylength, len)) (hg : mj_get P σ a = some (.inl (ty, A))) (hc : ev P d mi (pc + len) L (.int (nI A.1) :: r) σ Q) : ev P d mi pc L (.ref a :: r) σ Q :=
  ev_step hi rfl (by simp only [mj_sim, hg]; rfl) hc
end LL5
