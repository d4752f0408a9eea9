/-! the small machine's runs are the big one's -/
section MJ15
variable {G : mj_G} {P : mj_P} {Tg NW : List Cond} {l : Launch}
def mj_Pc4 (P : mj_P) (Tg NW : List Cond) : Prop := ∀ (mi pc : Nat) (i : Instr) (len idx mj na ci : Nat) (v : Value) (M M' : mj_M), mj_mth P mi = some M → mj_ins P mi pc = some (i, len) → mj_inv i = some idx → mj_lnk P mi idx = some (4, mj, na, ci, v) → mj_mth P mj = some M' → mj_cw P Tg NW M.1.cls i M' na ci
theorem mj_inv_ln {i : Instr} {idx len : Nat} (h : mj_inv i = some idx) (hl : mj_ln i len = true) : len = 3 ∧ mj_idx i = some idx := by
  cases i <;> first | (simp [mj_inv] at h; done) | skip
  all_goals
    cases h
    exact ⟨of_decide_eq_true hl, rfl⟩
theorem mj_ret_ok {p : Program} {e : Env} {R : Room} {s : State} {m : MethodId} {args : Array Value} {below : List Frame} {meth : Method} {c : Code} {H : Heap} {locs : List Loc} {cells slots pc len : Nat} {M : mj_M} {i : Instr} {st : List Value} {σ : mj_H} {v : Option Value} {ls : Array Slot}
    (C : mj_Cx G P Tg NW M p s m args meth c) (hdg : decode M.2.1 pc = .ok (i, len)) (hln : mj_ln i len = true) (h : mj_ret i st M.2.2.2.1 = some v) (hR : mj_HR G P σ H) (hS : ∀ q ∈ locs, G.2.1 ≤ q.base) : W p l e R s m args below meth c H locs cells slots (MQ below (mj_Qr G P v σ) args s cells slots (mj_fr G)) (F0 m pc ls (st.map (mj_tr (mj_ad G P)))) := by
  obtain ⟨hx, hb, hr, -, -, -, hlocks, -⟩ := C
  unfold mj_ret at h
  split at h <;> try contradiction
  · rename_i x hret
    cases h
    cases (of_decide_eq_true hln : len = 1)
    exact W.iret hx hb (by rw [hr]; exact hret) (fun t ht _ => ⟨rfl, by rw [ht]; exact hR⟩) hS hdg hlocks
  · rename_i x ty hno hret
    split at h
    · rename_i hn
      cases h
      cases (of_decide_eq_true hln : len = 1)
      exact W.zret hx hb (by rw [hr]; exact hret) hn (fun t ht _ => ⟨rfl, by rw [ht]; exact hR⟩) hS hdg hlocks
    · cases h
  · rename_i x hret
    cases h
    cases (of_decide_eq_true hln : len = 1)
    exact W.lret hx hb (by rw [hr]; exact hret) (fun t ht _ => ⟨rfl, by rw [ht]; exact hR⟩) hS hdg hlocks
  · rename_i a nm hret
    cases h
    cases (of_decide_eq_true hln : len = 1)
    exact W.aret hx hb (by rw [hr]; exact hret) (Or.inl ⟨_, rfl⟩) (Or.inr ⟨_, rfl⟩) (fun t ht _ => ⟨rfl, by rw [ht]; exact hR⟩) hS hdg hlocks
  · rename_i nm hret
    cases h
    cases (of_decide_eq_true hln : len = 1)
    exact W.aret (v := .null) hx hb (by rw [hr]; exact hret) (Or.inl ⟨_, rfl⟩) (Or.inl rfl) (fun t ht _ => ⟨rfl, by rw [ht]; exact hR⟩) hS hdg hlocks
  · rename_i a nm hret
    cases h
    cases (of_decide_eq_true hln : len = 1)
    exact W.aret hx hb (by rw [hr]; exact hret) (Or.inr ⟨_, rfl⟩) (Or.inr ⟨_, rfl⟩) (fun t ht _ => ⟨rfl, by rw [ht]; exact hR⟩) hS hdg hlocks
  · rename_i nm hret
    cases h
    cases (of_decide_eq_true hln : len = 1)
    exact W.aret (v := .null) hx hb (by rw [hr]; exact hret) (Or.inr ⟨_, rfl⟩) (Or.inl rfl) (fun t ht _ => ⟨rfl, by rw [ht]; exact hR⟩) hS hdg hlocks
  · rename_i hret
    cases h
    cases (of_decide_eq_true hln : len = 1)
    exact W.vret hx hb (by rw [hr]; exact hret) (fun t ht _ => ⟨rfl, by rw [ht]; exact hR⟩) hS hdg hlocks
end MJ15
