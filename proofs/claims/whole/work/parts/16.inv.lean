/-! a call whose callee returns; a call whose callee throws -/
section MJ12
variable {p : Program} {l : Launch} {e : Env} {R : Room} {s : State} {m : MethodId} {args : Array Value} {below : List Frame} {meth : Method} {c : Code} {H : Heap} {locs : List Loc} {cells slots : Nat} {Q : State → Prop}
variable {G : mj_G} {P : mj_P} {Tg NW : List Cond} {mi pc len pc' : Nat} {L L' : mj_L} {st st' : List Value} {σ σ' : mj_H} {ls : Array Slot}
theorem mj_split (ad : Nat → Nat) (st : List Value) (na : Nat) : st.map (mj_tr ad) = ((st.take na).reverse.map (mj_tr ad)).reverse ++ (st.drop na).map (mj_tr ad) := by
  rw [← List.map_reverse, List.reverse_reverse, ← List.map_append, List.take_append_drop]
theorem mj_rmF {d' : Nat} {R : Room} (h : 8 + (d' + 1) ≤ R.frames) (h2 : 200 + 64 * (d' + 1) ≤ R.locals) (mc ms maxL : Nat) (h3 : maxL ≤ 40) : (mj_rm d' mc ms).frames + 1 ≤ R.frames ∧ 8 + (maxL + 11) + (mj_rm d' mc ms).locals ≤ R.locals := by
  unfold mj_rm
  simp only
  omega
theorem mj_inv_ret {M M' : mj_M} {i : Instr} {idx na ci mj n d' : Nat} {v : Option Value} (hI : mj_Snd G P Tg NW l n) (hk : mj_Pk P Tg NW) (C : mj_Cx G P Tg NW M p s m args meth c) (hdg : decode M.2.1 pc = .ok (i, 3)) (hM' : mj_mth P mj = some M') (hcw : mj_cw P Tg NW M.1.cls i M' na ci) (hinv : mj_inv i = some idx)
    (hna : na ≤ st.length) (hlen : (mj_args (st.take na).reverse).length ≤ M'.2.2.1) (hcat : mj_cat (st.drop na) ≤ 8) (hrcv : mj_rcv P σ i ci (st.take na).reverse = true) (hrun : mj_run P n d' mj 0 (mj_ent (st.take na).reverse M'.2.2.1) [] σ = some (.inl v, σ'))
    (hR : mj_HR G P σ H) (hL : mj_LR (mj_ad G P) L ls M.2.2.1) (hS : ∀ q ∈ locs, G.2.1 ≤ q.base) (hRf : 8 + (d' + 1) ≤ R.frames) (hRl : 200 + 64 * (d' + 1) ≤ R.locals) (hc : cells + (mj_tot σ' - mj_tot σ) ≤ R.cells) (hsl : slots + (σ'.2.2.2 - σ.2.2.2) ≤ R.slots)
    (kk : mj_kk G P p l e R s m args below meth c cells slots Q M.2.2.1 σ (pc + 3) L (v.toList ++ st.drop na) σ') : W p l e R s m args below meth c H locs cells slots Q (F0 m pc ls (st.map (mj_tr (mj_ad G P)))) := by
  have hle := mj_run_le P _ _ _ _ _ _ _ _ _ hrun
  obtain ⟨hx, hb, -, hml, hown, hts, -, -, -, hW, hs⟩ := C
  obtain ⟨hp, hcd, hcdW, hini, hnh, hmx, -, hrest⟩ := hcw
  have hrm := mj_rmF hRf hRl (mj_tot σ' - mj_tot σ) (σ'.2.2.2 - σ.2.2.2) M'.2.2.1 hmx
  have hsum : (((st.drop na).map (mj_tr (mj_ad G P))).map (fun v => v.category)).sum ≤ 8 := by rw [mj_cat_tr]; exact hcat
  have hpre := mj_pre hk hW hs hR (st.take na).reverse
  have hal : ((st.take na).reverse.map (mj_tr (mj_ad G P))).length = na := by simp; omega
  rw [mj_split (mj_ad G P) st na]
  cases i <;> try contradiction
  case invokestatic idx =>
    obtain ⟨hst, hpd, hlk⟩ := hrest
    by_cases h0 : M'.2.2.2.2.1 = []
    · have hMet := mj_met hI hM' h0 hp hrun hlen
      rcases hlk with hlk | ⟨-, host, hlk⟩
      · exact mj_callR (va_runS (As := (st.take na).reverse.map (mj_tr (mj_ad G P))) (rest := (st.drop na).map (mj_tr (mj_ad G P))) ⟨hx, hb, hml, hown, hts⟩ hMet ⟨callB_of na hts (mj_good hk (hcd h0)) rfl rfl rfl (hts _ hini) (hts _ hlk) ⟨hnh.1, hnh.2, hpd⟩ hrm, hts _ hst⟩ hpre rfl hal hL.2.1 rfl (lv_room hsum) hdg ⟨hc, hsl⟩) hL hS rfl rfl hle kk
      · exact mj_callR (va_runSN (As := (st.take na).reverse.map (mj_tr (mj_ad G P))) (rest := (st.drop na).map (mj_tr (mj_ad G P))) ⟨hx, hb, hml, hown, hts⟩ hMet ⟨va_cnB na hts (mj_good hk (hcd h0)) rfl rfl rfl (hW.1 _ hlk) (hts _ hini) ⟨hnh.1, hnh.2, hpd⟩ hrm, hts _ hst, trivial⟩ hpre rfl hal hL.2.1 rfl (lv_room hsum) hdg ⟨hc, hsl⟩) hL hS rfl rfl hle kk
    · have hMet := mj_metW hI hM' (hcdW h0).2 hrun hlen
      rcases hlk with hlk | ⟨h0', -⟩
      · refine mj_callR (vx_runSW (As := (st.take na).reverse.map (mj_tr (mj_ad G P))) (rest := (st.drop na).map (mj_tr (mj_ad G P))) ⟨hx, hb, hml, hown, hts⟩ hMet (vx_cwSW na hts (fun w hw => ?_) rfl rfl rfl ⟨hnh.1, hnh.2, hpd⟩ hrm) hpre rfl hal hL.2.1 rfl (lv_room hsum) hdg ⟨hc, hsl⟩) hL hS rfl rfl hle kk
        rcases List.mem_append.mp hw with z | z
        · simp only [List.mem_cons, List.not_mem_nil, or_false] at z
          rcases z with rfl | rfl | rfl
          · exact ⟨hlk, good_of_word (hk.2.1 _ hlk)⟩
          · exact ⟨hst, good_of_word (hk.2.1 _ hst)⟩
          · exact ⟨hini, good_of_word (hk.2.1 _ hini)⟩
        · exact mj_good hk (hcdW h0).1 w z
      · exact absurd h0' h0
  case invokevirtual idx =>
    obtain ⟨h0, hin, hsel, ⟨nn, rfl, hpd⟩, hlk, hC⟩ := hrest
    have hMet := mj_met hI hM' h0 hp hrun hlen
    generalize has : (st.take (nn + 1)).reverse = as at *
    simp only [mj_rcv] at hrcv
    split at hrcv
    · rename_i b as'
      split at hrcv
      · rename_i cj fs hg
        obtain ⟨rfl, hne, h01⟩ := of_decide_eq_true hrcv
        have hrv := mj_recv hW hs hR hg h01 hC
        have e1 : ((Value.ref b :: as').map (mj_tr (mj_ad G P))).reverse ++ (st.drop (nn + 1)).map (mj_tr (mj_ad G P)) = (as'.map (mj_tr (mj_ad G P))).reverse ++ .ref (mj_ad G P b) :: (st.drop (nn + 1)).map (mj_tr (mj_ad G P)) := by
          simp [mj_tr]
        rw [e1]
        have hal2 : (as'.map (mj_tr (mj_ad G P))).length = nn := by simpa using hal
        exact mj_callR (va_runV (As := as'.map (mj_tr (mj_ad G P))) (rest := (st.drop (nn + 1)).map (mj_tr (mj_ad G P))) ⟨hx, hb, hml, hown, hts⟩ hMet ⟨callB_of nn hts (mj_good hk (hcd h0)) rfl rfl rfl (hts _ hini) (hts _ hlk) ⟨hnh.1, hnh.2, hpd⟩ hrm, hts _ hin, hts _ hsel⟩ ⟨hpre.1, hrv, hpre.2⟩ rfl hal2 hL.2.1 rfl (lv_room hsum) hdg ⟨hc, hsl⟩) hL hS rfl rfl hle kk
      · cases hrcv
    · cases hrcv
  case invokespecial idx =>
    obtain ⟨h0, hret, hnm, hin, ⟨nn, rfl, hpd⟩, hlk⟩ := hrest
    have hMet := mj_met hI hM' h0 hp hrun hlen
    generalize has : (st.take (nn + 1)).reverse = as at *
    simp only [mj_rcv] at hrcv
    split at hrcv
    · rename_i b as'
      have e1 : ((Value.ref b :: as').map (mj_tr (mj_ad G P))).reverse ++ (st.drop (nn + 1)).map (mj_tr (mj_ad G P)) = (as'.map (mj_tr (mj_ad G P))).reverse ++ .ref (mj_ad G P b) :: (st.drop (nn + 1)).map (mj_tr (mj_ad G P)) := by
        simp [mj_tr]
      rw [e1]
      have hal2 : (as'.map (mj_tr (mj_ad G P))).length = nn := by simpa using hal
      have hcd2 : Cond.code M'.1 M'.2.1 M'.2.2.1 none ∈ Tg := by rw [← hret]; exact hcd h0
      rw [hret] at hMet
      rcases hlk with hlk | ⟨host, hlk⟩
      · exact mj_callR (va_runI (As := as'.map (mj_tr (mj_ad G P))) (rest := (st.drop (nn + 1)).map (mj_tr (mj_ad G P))) ⟨hx, hb, hml, hown, hts⟩ hMet ⟨callB_of nn hts (mj_good hk hcd2) rfl rfl rfl (hts _ hini) (hts _ hlk) ⟨hnh.1, hnh.2, hpd⟩ hrm, hnm, hts _ hin⟩ hpre rfl hal2 hL.2.1 rfl (lv_room hsum) hdg ⟨hc, hsl⟩) hL hS rfl rfl hle kk
      · exact mj_callR (va_runIN (As := as'.map (mj_tr (mj_ad G P))) (rest := (st.drop (nn + 1)).map (mj_tr (mj_ad G P))) ⟨hx, hb, hml, hown, hts⟩ hMet ⟨va_cnB nn hts (mj_good hk hcd2) rfl rfl rfl (hW.1 _ hlk) (hts _ hini) ⟨hnh.1, hnh.2, hpd⟩ hrm, hnm, hts _ hin⟩ hpre rfl hal2 hL.2.1 rfl (lv_room hsum) hdg ⟨hc, hsl⟩) hL hS rfl rfl hle kk
    · cases hrcv
end MJ12
