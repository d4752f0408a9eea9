/-! runs of the small machine, by what they come to -/
def ev (P : mj_P) (d mi pc : Nat) (L : mj_L) (st : List Value) (σ : mj_H) (Q : (Option Value ⊕ Nat) → mj_H → Prop) : Prop := ∃ (N : Nat) (r : Option Value ⊕ Nat) (σ' : mj_H), Q r σ' ∧ ∀ n, N ≤ n → mj_run P n d mi pc L st σ = some (r, σ')
/-- a method called -/
def cal (P : mj_P) (d mi : Nat) (as : List Value) (σ : mj_H) (Q : (Option Value ⊕ Nat) → mj_H → Prop) : Prop := ∃ M, mj_mth P mi = some M ∧ (mj_args as).length ≤ M.2.2.1 ∧ ev P d mi 0 (mj_ent as M.2.2.1) [] σ Q
def mj_pl (i : Instr) : Bool := match i with
  | .invokevirtual _ | .invokestatic _ | .invokespecial _ | .new _ | .ireturn | .lreturn | .areturn | .return_ => false
  | _ => true
abbrev mj_cf : Type := Nat × mj_L × List Value × mj_H
def mj_ex (P : mj_P) (mi : Nat) : Nat → mj_cf → Option mj_cf
  | 0, c => some c
  | k + 1, c => match mj_ins P mi c.1 with
    | none => none
    | some (i, len) => if mj_pl i = true then match mj_sim P mi i len c.1 c.2.1 c.2.2.1 c.2.2.2 with
        | some c' => mj_ex P mi k c'
        | none => none
      else none
section EV1
variable {P : mj_P} {d mi pc : Nat} {L : mj_L} {st : List Value} {σ : mj_H} {Q : (Option Value ⊕ Nat) → mj_H → Prop}
theorem ev_mono {Q' : (Option Value ⊕ Nat) → mj_H → Prop} (h : ev P d mi pc L st σ Q) (hq : ∀ r σ', Q r σ' → Q' r σ') : ev P d mi pc L st σ Q' := by
  obtain ⟨N, r, σ', h1, h2⟩ := h
  exact ⟨N, r, σ', hq r σ' h1, h2⟩
theorem cal_mono {as : List Value} {Q' : (Option Value ⊕ Nat) → mj_H → Prop} (h : cal P d mi as σ Q) (hq : ∀ r σ', Q r σ' → Q' r σ') : cal P d mi as σ Q' := by
  obtain ⟨M, h1, h2, h3⟩ := h
  exact ⟨M, h1, h2, ev_mono h3 hq⟩
theorem mj_pl_ok {i : Instr} (h : mj_pl i = true) (st : List Value) (rt : Option FieldType) : mj_inv i = none ∧ mj_ret i st rt = none ∧ ∀ x, i ≠ .new x := by
  cases i <;> first | (simp [mj_pl] at h; done) | exact ⟨rfl, by unfold mj_ret; split <;> first | contradiction | rfl, fun x q => by cases q⟩
theorem ev_step {i : Instr} {len pc' : Nat} {L' : mj_L} {st' : List Value} {σ' : mj_H} (hi : mj_ins P mi pc = some (i, len)) (hp : mj_pl i = true) (hs : mj_sim P mi i len pc L st σ = some (pc', L', st', σ')) (k : ev P d mi pc' L' st' σ' Q) : ev P d mi pc L st σ Q := by
  obtain ⟨N, r, σ2, h1, h2⟩ := k
  refine ⟨N + 1, r, σ2, h1, fun n hn => ?_⟩
  obtain ⟨a, b, c⟩ := mj_pl_ok hp st (mj_rt P mi)
  match n, hn with
  | n + 1, hn =>
    rw [mj_run]
    simp only [hi, a, b]
    split
    · rename_i hq
      rw [hs] at hq
      cases hq
      exact h2 n (by omega)
    · rename_i hq
      rw [hs] at hq
      cases hq
theorem ev_ex (k : Nat) {c' : mj_cf} (h : mj_ex P mi k (pc, L, st, σ) = some c') (hk : ev P d mi c'.1 c'.2.1 c'.2.2.1 c'.2.2.2 Q) : ev P d mi pc L st σ Q := by
  induction k generalizing pc L st σ with
  | zero =>
    rw [mj_ex] at h
    cases h
    exact hk
  | succ k ih =>
    rw [mj_ex] at h
    split at h
    · cases h
    · rename_i i len hi
      split at h
      · rename_i hp
        split at h
        · rename_i c1 hs
          exact ev_step hi hp hs (ih h)
        · cases h
      · cases h
theorem ev_ret {i : Instr} {len : Nat} {v : Option Value} (hi : mj_ins P mi pc = some (i, len)) (hv : mj_inv i = none) (hr : mj_ret i st (mj_rt P mi) = some v) (k : Q (.inl v) σ) : ev P d mi pc L st σ Q := by
  refine ⟨1, .inl v, σ, k, fun n hn => ?_⟩
  match n, hn with
  | n + 1, hn =>
    rw [mj_run]
    simp only [hi, hv, hr]
/-- a call whose callee returns -/
theorem ev_call {i : Instr} {len idx mj na ci : Nat} {v : Value} (hi : mj_ins P mi pc = some (i, len)) (hv : mj_inv i = some idx) (hl : mj_lnk P mi idx = some (4, mj, na, ci, v)) (hn : na ≤ st.length) (hc : mj_cat (st.drop na) ≤ 8) (hr : mj_rcv P σ i ci (st.take na).reverse = true)
    (k : cal P d mj (st.take na).reverse σ (fun r σ' => ∃ w, r = .inl w ∧ ev P (d + 1) mi (pc + 3) L (w.toList ++ st.drop na) σ' Q)) : ev P (d + 1) mi pc L st σ Q := by
  obtain ⟨M, hM, hlen, N, r, σ1, ⟨w, rfl, N2, r2, σ2, h1, h2⟩, h3⟩ := k
  obtain ⟨y, b, nl, rt, hh, cs⟩ := M
  refine ⟨N + N2 + 1, r2, σ2, h1, fun n hnn => ?_⟩
  match n, hnn with
  | n + 1, hnn =>
    rw [mj_run]
    simp only [hi, hv, hl, hM]
    rw [if_pos ⟨hn, hlen, hc, hr⟩]
    simp only [h3 n (by omega)]
    exact h2 n (by omega)
theorem ev_icmp_eq {x y : Int32} {off : Int} {len tgt : Nat} {r : List Value} (hi : mj_ins P mi pc = some (.if_icmp .eq off, len)) (ht : (pc : Int) + off = (tgt : Int)) (kt : x = y → ev P d mi tgt L r σ Q) (kf : ¬ x = y → ev P d mi (pc + 3) L r σ Q) : ev P d mi pc L (.int y :: .int x :: r) σ Q := by
  have e0 : ¬ (pc : Int) + off < 0 := by omega
  have e1 : ((pc : Int) + off).toNat = tgt := by omega
  by_cases h : x = y
  · exact ev_step hi rfl (by simp only [mj_sim, mj_cmp, mj_if, if_neg e0, e1, decide_eq_true h, if_true]) (kt h)
  · exact ev_step hi rfl (by simp only [mj_sim, mj_cmp, mj_if, if_neg e0, decide_eq_false h, Bool.false_eq_true, if_false]) (kf h)
theorem ev_if_eq {x : Int32} {off : Int} {len tgt : Nat} {r : List Value} (hi : mj_ins P mi pc = some (.ifCond .eq off, len)) (ht : (pc : Int) + off = (tgt : Int)) (kt : x = 0 → ev P d mi tgt L r σ Q) (kf : ¬ x = 0 → ev P d mi (pc + 3) L r σ Q) : ev P d mi pc L (.int x :: r) σ Q := by
  have e0 : ¬ (pc : Int) + off < 0 := by omega
  have e1 : ((pc : Int) + off).toNat = tgt := by omega
  by_cases h : x = 0
  · exact ev_step hi rfl (by simp only [mj_sim, mj_cm0, mj_if, if_neg e0, e1, decide_eq_true h, if_true]) (kt h)
  · exact ev_step hi rfl (by simp only [mj_sim, mj_cm0, mj_if, if_neg e0, decide_eq_false h, Bool.false_eq_true, if_false]) (kf h)
theorem ev_icmp_ne {x y : Int32} {off : Int} {len tgt : Nat} {r : List Value} (hi : mj_ins P mi pc = some (.if_icmp .ne off, len)) (ht : (pc : Int) + off = (tgt : Int)) (kt : ¬ x = y → ev P d mi tgt L r σ Q) (kf : x = y → ev P d mi (pc + 3) L r σ Q) : ev P d mi pc L (.int y :: .int x :: r) σ Q := by
  have e0 : ¬ (pc : Int) + off < 0 := by omega
  have e1 : ((pc : Int) + off).toNat = tgt := by omega
  by_cases h : ¬ x = y
  · exact ev_step hi rfl (by simp only [mj_sim, mj_cmp, mj_if, if_neg e0, e1, decide_eq_true h, if_true]) (kt h)
  · exact ev_step hi rfl (by simp only [mj_sim, mj_cmp, mj_if, if_neg e0, decide_eq_false h, Bool.false_eq_true, if_false]) (kf (Classical.byContradiction h))
theorem ev_if_ne {x : Int32} {off : Int} {len tgt : Nat} {r : List Value} (hi : mj_ins P mi pc = some (.ifCond .ne off, len)) (ht : (pc : Int) + off = (tgt : Int)) (kt : ¬ x = 0 → ev P d mi tgt L r σ Q) (kf : x = 0 → ev P d mi (pc + 3) L r σ Q) : ev P d mi pc L (.int x :: r) σ Q := by
  have e0 : ¬ (pc : Int) + off < 0 := by omega
  have e1 : ((pc : Int) + off).toNat = tgt := by omega
  by_cases h : ¬ x = 0
  · exact ev_step hi rfl (by simp only [mj_sim, mj_cm0, mj_if, if_neg e0, e1, decide_eq_true h, if_true]) (kt h)
  · exact ev_step hi rfl (by simp only [mj_sim, mj_cm0, mj_if, if_neg e0, decide_eq_false h, Bool.false_eq_true, if_false]) (kf (Classical.byContradiction h))
theorem ev_icmp_lt {x y : Int32} {off : Int} {len tgt : Nat} {r : List Value} (hi : mj_ins P mi pc = some (.if_icmp .lt off, len)) (ht : (pc : Int) + off = (tgt : Int)) (kt : x < y → ev P d mi tgt L r σ Q) (kf : ¬ x < y → ev P d mi (pc + 3) L r σ Q) : ev P d mi pc L (.int y :: .int x :: r) σ Q := by
  have e0 : ¬ (pc : Int) + off < 0 := by omega
  have e1 : ((pc : Int) + off).toNat = tgt := by omega
  by_cases h : x < y
  · exact ev_step hi rfl (by simp only [mj_sim, mj_cmp, mj_if, if_neg e0, e1, decide_eq_true h, if_true]) (kt h)
  · exact ev_step hi rfl (by simp only [mj_sim, mj_cmp, mj_if, if_neg e0, decide_eq_false h, Bool.false_eq_true, if_false]) (kf h)
theorem ev_if_lt {x : Int32} {off : Int} {len tgt : Nat} {r : List Value} (hi : mj_ins P mi pc = some (.ifCond .lt off, len)) (ht : (pc : Int) + off = (tgt : Int)) (kt : x < 0 → ev P d mi tgt L r σ Q) (kf : ¬ x < 0 → ev P d mi (pc + 3) L r σ Q) : ev P d mi pc L (.int x :: r) σ Q := by
  have e0 : ¬ (pc : Int) + off < 0 := by omega
  have e1 : ((pc : Int) + off).toNat = tgt := by omega
  by_cases h : x < 0
  · exact ev_step hi rfl (by simp only [mj_sim, mj_cm0, mj_if, if_neg e0, e1, decide_eq_true h, if_true]) (kt h)
  · exact ev_step hi rfl (by simp only [mj_sim, mj_cm0, mj_if, if_neg e0, decide_eq_false h, Bool.false_eq_true, if_false]) (kf h)
theorem ev_icmp_ge {x y : Int32} {off : Int} {len tgt : Nat} {r : List Value} (hi : mj_ins P mi pc = some (.if_icmp .ge off, len)) (ht : (pc : Int) + off = (tgt : Int)) (kt : y ≤ x → ev P d mi tgt L r σ Q) (kf : ¬ y ≤ x → ev P d mi (pc + 3) L r σ Q) : ev P d mi pc L (.int y :: .int x :: r) σ Q := by
  have e0 : ¬ (pc : Int) + off < 0 := by omega
  have e1 : ((pc : Int) + off).toNat = tgt := by omega
  by_cases h : y ≤ x
  · exact ev_step hi rfl (by simp only [mj_sim, mj_cmp, mj_if, if_neg e0, e1, decide_eq_true h, if_true]) (kt h)
  · exact ev_step hi rfl (by simp only [mj_sim, mj_cmp, mj_if, if_neg e0, decide_eq_false h, Bool.false_eq_true, if_false]) (kf h)
theorem ev_if_ge {x : Int32} {off : Int} {len tgt : Nat} {r : List Value} (hi : mj_ins P mi pc = some (.ifCond .ge off, len)) (ht : (pc : Int) + off = (tgt : Int)) (kt : 0 ≤ x → ev P d mi tgt L r σ Q) (kf : ¬ 0 ≤ x → ev P d mi (pc + 3) L r σ Q) : ev P d mi pc L (.int x :: r) σ Q := by
  have e0 : ¬ (pc : Int) + off < 0 := by omega
  have e1 : ((pc : Int) + off).toNat = tgt := by omega
  by_cases h : 0 ≤ x
  · exact ev_step hi rfl (by simp only [mj_sim, mj_cm0, mj_if, if_neg e0, e1, decide_eq_true h, if_true]) (kt h)
  · exact ev_step hi rfl (by simp only [mj_sim, mj_cm0, mj_if, if_neg e0, decide_eq_false h, Bool.false_eq_true, if_false]) (kf h)
theorem ev_icmp_gt {x y : Int32} {off : Int} {len tgt : Nat} {r : List Value} (hi : mj_ins P mi pc = some (.if_icmp .gt off, len)) (ht : (pc : Int) + off = (tgt : Int)) (kt : y < x → ev P d mi tgt L r σ Q) (kf : ¬ y < x → ev P d mi (pc + 3) L r σ Q) : ev P d mi pc L (.int y :: .int x :: r) σ Q := by
  have e0 : ¬ (pc : Int) + off < 0 := by omega
  have e1 : ((pc : Int) + off).toNat = tgt := by omega
  by_cases h : y < x
  · exact ev_step hi rfl (by simp only [mj_sim, mj_cmp, mj_if, if_neg e0, e1, decide_eq_true h, if_true]) (kt h)
  · exact ev_step hi rfl (by simp only [mj_sim, mj_cmp, mj_if, if_neg e0, decide_eq_false h, Bool.false_eq_true, if_false]) (kf h)
theorem ev_if_gt {x : Int32} {off : Int} {len tgt : Nat} {r : List Value} (hi : mj_ins P mi pc = some (.ifCond .gt off, len)) (ht : (pc : Int) + off = (tgt : Int)) (kt : 0 < x → ev P d mi tgt L r σ Q) (kf : ¬ 0 < x → ev P d mi (pc + 3) L r σ Q) : ev P d mi pc L (.int x :: r) σ Q := by
  have e0 : ¬ (pc : Int) + off < 0 := by omega
  have e1 : ((pc : Int) + off).toNat = tgt := by omega
  by_cases h : 0 < x
  · exact ev_step hi rfl (by simp only [mj_sim, mj_cm0, mj_if, if_neg e0, e1, decide_eq_true h, if_true]) (kt h)
  · exact ev_step hi rfl (by simp only [mj_sim, mj_cm0, mj_if, if_neg e0, decide_eq_false h, Bool.false_eq_true, if_false]) (kf h)
theorem ev_icmp_le {x y : Int32} {off : Int} {len tgt : Nat} {r : List Value} (hi : mj_ins P mi pc = some (.if_icmp .le off, len)) (ht : (pc : Int) + off = (tgt : Int)) (kt : x ≤ y → ev P d mi tgt L r σ Q) (kf : ¬ x ≤ y → ev P d mi (pc + 3) L r σ Q) : ev P d mi pc L (.int y :: .int x :: r) σ Q := by
  have e0 : ¬ (pc : Int) + off < 0 := by omega
  have e1 : ((pc : Int) + off).toNat = tgt := by omega
  by_cases h : x ≤ y
  · exact ev_step hi rfl (by simp only [mj_sim, mj_cmp, mj_if, if_neg e0, e1, decide_eq_true h, if_true]) (kt h)
  · exact ev_step hi rfl (by simp only [mj_sim, mj_cmp, mj_if, if_neg e0, decide_eq_false h, Bool.false_eq_true, if_false]) (kf h)
theorem ev_if_le {x : Int32} {off : Int} {len tgt : Nat} {r : List Value} (hi : mj_ins P mi pc = some (.ifCond .le off, len)) (ht : (pc : Int) + off = (tgt : Int)) (kt : x ≤ 0 → ev P d mi tgt L r σ Q) (kf : ¬ x ≤ 0 → ev P d mi (pc + 3) L r σ Q) : ev P d mi pc L (.int x :: r) σ Q := by
  have e0 : ¬ (pc : Int) + off < 0 := by omega
  have e1 : ((pc : Int) + off).toNat = tgt := by omega
  by_cases h : x ≤ 0
  · exact ev_step hi rfl (by simp only [mj_sim, mj_cm0, mj_if, if_neg e0, e1, decide_eq_true h, if_true]) (kt h)
  · exact ev_step hi rfl (by simp only [mj_sim, mj_cm0, mj_if, if_neg e0, decide_eq_false h, Bool.false_eq_true, if_false]) (kf h)
/-- an index within -/
theorem ev_ald {i : Instr} {len a : Nat} {j : Int32} {ty : FieldType} {A : vp_A} {v : Value} {r : List Value} (hi : mj_ins P mi pc = some (i, len)) (hl : i = .iaload ∨ i = .baload ∨ i = .laload ∨ i = .aaload) (hg : mj_get P σ a = some (.inl (ty, A))) (hok : mj_okx j A.1 = true) (hv : mj_ald i ty A j.toNatClampNeg = some v) (k : ev P d mi (pc + len) L (v :: r) σ Q) : ev P d mi pc L (.int j :: .ref a :: r) σ Q := by
  rcases hl with rfl | rfl | rfl | rfl <;> exact ev_step hi rfl (by simp only [mj_sim, hg, hok, hv, if_true]) k
theorem ev_ast {i : Instr} {len a : Nat} {j : Int32} {ty : FieldType} {A A' : vp_A} {v : Value} {r : List Value} {σ' : mj_H} (hi : mj_ins P mi pc = some (i, len)) (hl : i = .iastore ∨ i = .bastore ∨ i = .lastore ∨ i = .aastore) (hg : mj_get P σ a = some (.inl (ty, A))) (hok : mj_okx j A.1 = true) (ha : a % 4 ≠ 0) (hs : mj_asg P σ ty v = true) (hv : mj_ast i ty A j.toNatClampNeg v = some A') (hσ : mj_set σ a (.inl (ty, A')) = σ') (k : ev P d mi (pc + len) L r σ' Q) : ev P d mi pc L (v :: .int j :: .ref a :: r) σ Q := by
  subst hσ
  rcases hl with rfl | rfl | rfl | rfl <;> exact ev_step hi rfl (by simp only [mj_sim, hg, hok, hs, hv, ha, ne_eq, not_false_eq_true, and_self, if_true]) k
theorem okx_nI {i n : Nat} (h : i < n) (hn : n < 2 ^ 31) : mj_okx (nI i) n = true := decide_eq_true (nI_in h hn)
/-- a throw of the class's own -/
theorem ev_thr {idx len x k2 k3 : Nat} {v : Value} (hi : mj_ins P mi pc = some (.new idx, len)) (hl : mj_lnk P mi idx = some (7, x, k2, k3, v)) (hc : mj_cat st ≤ 8) (k : Q (.inr x) (mj_new P σ (.inr (0, [])) 6)) : ev P d mi pc L st σ Q := by
  refine ⟨1, .inr x, _, k, fun n hn => ?_⟩
  match n, hn with
  | n + 1, hn =>
    rw [mj_run]
    simp only [hi, mj_inv, mj_ret, hl, if_pos hc]
/-- an object made -/
theorem ev_new {idx len ci nf k3 : Nat} {v : Value} {σ' : mj_H} {a : Nat} (hi : mj_ins P mi pc = some (.new idx, len)) (hl : mj_lnk P mi idx = some (2, ci, nf, k3, v)) (hσ : mj_new P σ (.inr (ci, mj_df P ci)) nf = σ') (ha : mj_nx P σ = a) (k : ev P d mi (pc + 3) L (.ref a :: st) σ' Q) : ev P d mi pc L st σ Q := by
  subst hσ; subst ha
  obtain ⟨N, r, σ2, h1, h2⟩ := k
  refine ⟨N + 1, r, σ2, h1, fun n hn => ?_⟩
  match n, hn with
  | n + 1, hn =>
    rw [mj_run]
    simp only [hi, mj_inv, mj_ret, hl]
    exact h2 n (by omega)
theorem ev_obj {idx len a : Nat} {k1 k2 k3 : Nat} {v : Value} {r : List Value} (hi : mj_ins P mi pc = some (.invokespecial idx, len)) (hl : mj_lnk P mi idx = some (5, k1, k2, k3, v)) (hc : mj_cat r ≤ 8) (k : ev P d mi (pc + 3) L r σ Q) : ev P d mi pc L (.ref a :: r) σ Q := by
  obtain ⟨N, r2, σ2, h1, h2⟩ := k
  refine ⟨N + 1, r2, σ2, h1, fun n hn => ?_⟩
  match n, hn with
  | n + 1, hn =>
    rw [mj_run]
    simp only [hi, mj_inv, hl, if_pos hc]
    exact h2 n (by omega)
theorem ev_cpy {idx len : Nat} {k1 k2 k3 : Nat} {v : Value} {r : List Value} {σ' : mj_H} (hi : mj_ins P mi pc = some (.invokestatic idx, len)) (hl : mj_lnk P mi idx = some (6, k1, k2, k3, v)) (hc : mj_cpy P st σ = some (r, σ')) (k : ev P d mi (pc + 3) L r σ' Q) : ev P d mi pc L st σ Q := by
  obtain ⟨N, r2, σ2, h1, h2⟩ := k
  refine ⟨N + 1, r2, σ2, h1, fun n hn => ?_⟩
  match n, hn with
  | n + 1, hn =>
    rw [mj_run]
    simp only [hi, mj_inv, hl, hc]
    exact h2 n (by omega)
theorem ev_cln {idx len : Nat} {k1 k2 k3 : Nat} {v : Value} {r : List Value} {σ' : mj_H} (hi : mj_ins P mi pc = some (.invokevirtual idx, len)) (hl : mj_lnk P mi idx = some (11, k1, k2, k3, v)) (hc : mj_cln P st σ = some (r, σ')) (k : ev P d mi (pc + 3) L r σ' Q) : ev P d mi pc L st σ Q := by
  obtain ⟨N, r2, σ2, h1, h2⟩ := k
  refine ⟨N + 1, r2, σ2, h1, fun n hn => ?_⟩
  match n, hn with
  | n + 1, hn =>
    rw [mj_run]
    simp only [hi, mj_inv, hl, hc]
    exact h2 n (by omega)
/-- a call that may throw, from a method without handlers -/
theorem ev_callT {i : Instr} {len idx mj na ci : Nat} {v : Value} {M M' : mj_M} (hi : mj_ins P mi pc = some (i, len)) (hv : mj_inv i = some idx) (hl : mj_lnk P mi idx = some (4, mj, na, ci, v)) (hn : na ≤ st.length) (hc : mj_cat (st.drop na) ≤ 8) (hr : mj_rcv P σ i ci (st.take na).reverse = true) (hM : mj_mth P mi = some M) (hM' : mj_mth P mj = some M') (h0 : M.2.2.2.2.1 = []) (h0' : M'.2.2.2.2.1 = []) (hcs : M'.2.2.2.2.2 ≠ [])
    (k : cal P d mj (st.take na).reverse σ (fun r σ' => (∃ w, r = .inl w ∧ ev P (d + 1) mi (pc + 3) L (w.toList ++ st.drop na) σ' Q) ∨ ∃ x, r = .inr x ∧ Q (.inr x) σ')) : ev P (d + 1) mi pc L st σ Q := by
  obtain ⟨M2, hM2, hlen, N, r, σ1, hq, h3⟩ := k
  cases hM'.symm.trans hM2
  obtain ⟨y, b, nl, rt, hh, cs⟩ := M'
  obtain ⟨y2, b2, nl2, rt2, hh2, cs2⟩ := M
  simp only at h0 h0' hcs hlen h3
  subst h0; subst h0'
  rcases hq with ⟨w, rfl, N2, r2, σ2, h1, h2⟩ | ⟨x, rfl, hq⟩
  · refine ⟨N + N2 + 1, r2, σ2, h1, fun n hnn => ?_⟩
    match n, hnn with
    | n + 1, hnn =>
      rw [mj_run]
      simp only [hi, hv, hl, hM']
      rw [if_pos ⟨hn, hlen, hc, hr⟩]
      simp only [h3 n (by omega)]
      exact h2 n (by omega)
  · refine ⟨N + 1, .inr x, σ1, hq, fun n hnn => ?_⟩
    match n, hnn with
    | n + 1, hnn =>
      rw [mj_run]
      simp only [hi, hv, hl, hM']
      rw [if_pos ⟨hn, hlen, hc, hr⟩]
      simp only [h3 n (by omega), hM]
      rw [if_neg (by simp [hcs])]
end EV1
