/-! calls that may throw, caught -/
def mj_hgo (P : mj_P) (mi h : Nat) (L : mj_L) : Option (Nat × mj_L) := match mj_ins P mi h with
  | some (.astore_n k, _) => if (k : Nat) < L.length then some (h + 1, (mj_kill L k).set k none) else none
  | some (.astore k, _) => if k < L.length then some (h + 2, (mj_kill L k).set k none) else none
  | _ => none
section CA1
variable {P : mj_P} {d mi pc : Nat} {L : mj_L} {st : List Value} {σ : mj_H} {Q : PO}
theorem ev_callC {i : Instr} {len idx mj na ci : Nat} {v : Value} {M M' : mj_M} (hi : mj_ins P mi pc = some (i, len)) (hv : mj_inv i = some idx) (hl : mj_lnk P mi idx = some (4, mj, na, ci, v)) (hn : na ≤ st.length) (hc : mj_cat (st.drop na) ≤ 8) (hr : mj_rcv P σ i ci (st.take na).reverse = true) (hM : mj_mth P mi = some M) (hM' : mj_mth P mj = some M') (h0 : M.2.2.2.2.1 ≠ []) (h0' : M'.2.2.2.2.1 = []) (hcs : M'.2.2.2.2.2 ≠ [])
    (k : cal P d mj (st.take na).reverse σ (fun r σ' => (∃ w, r = .inl w ∧ ev P (d + 1) mi (pc + 3) L (w.toList ++ st.drop na) σ' Q) ∨ ∃ x h pc' L', r = .inr x ∧ mj_hnd M.2.2.2.2.1 M.2.2.2.2.2 pc x = some h ∧ mj_hgo P mi h L = some (pc', L') ∧ ev P (d + 1) mi pc' L' [] σ' Q)) : ev P (d + 1) mi pc L st σ Q := by
  obtain ⟨M2, hM2, hlen, N, r, σ1, hq, h3⟩ := k
  cases hM'.symm.trans hM2
  obtain ⟨y, b, nl, rt, hh, cs⟩ := M'
  obtain ⟨y2, b2, nl2, rt2, hh2, cs2⟩ := M
  simp only at h0 h0' hcs hlen h3 hq
  subst h0'
  rcases hq with ⟨w, rfl, N2, r2, σ2, h1, h2⟩ | ⟨x, h, pc', L', rfl, hh, hg, N2, r2, σ2, h1, h2⟩
  · refine ⟨N + N2 + 1, r2, σ2, h1, fun n hnn => ?_⟩
    match n, hnn with
    | n + 1, hnn =>
      rw [mj_run]
      simp only [hi, hv, hl, hM']
      rw [if_pos ⟨hn, hlen, hc, hr⟩]
      simp only [h3 n (by omega)]
      exact h2 n (by omega)
  · refine ⟨N + N2 + 1, r2, σ2, h1, fun n hnn => ?_⟩
    match n, hnn with
    | n + 1, hnn =>
      rw [mj_run]
      simp only [hi, hv, hl, hM']
      rw [if_pos ⟨hn, hlen, hc, hr⟩]
      simp only [h3 n (by omega), hM]
      rw [if_neg (by simp [hcs])]
      match hh2, h0, hh with
      | a :: l, _, hh =>
        simp only [hh]
        unfold mj_hgo at hg
        split at hg
        · rename_i kk l e
          split at hg
          · rename_i hlt
            cases hg
            first
              | (simp only [e]; rw [if_pos hlt]; exact h2 n (by omega))
              | (rw [if_pos hlt]; exact h2 n (by omega))
              | (rw [e]; show (if _ then _ else _) = _; rw [if_pos hlt]; exact h2 n (by omega))
          · cases hg
        · rename_i kk l e
          split at hg
          · rename_i hlt
            cases hg
            first
              | (simp only [e]; rw [if_pos hlt]; exact h2 n (by omega))
              | (rw [if_pos hlt]; exact h2 n (by omega))
              | (rw [e]; show (if _ then _ else _) = _; rw [if_pos hlt]; exact h2 n (by omega))
          · cases hg
        · cases hg
end CA1
