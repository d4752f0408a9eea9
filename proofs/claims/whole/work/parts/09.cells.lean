/-! fields and arrays -/
section MJ5
variable {p : Program} {l : Launch} {e : Env} {R : Room} {s : State} {m : MethodId} {args : Array Value} {below : List Frame} {meth : Method} {c : Code} {H : Heap} {locs : List Loc} {cells slots : Nat} {Q : State → Prop}
variable {G : mj_G} {P : mj_P} {Tg NW : List Cond} {cc : ByteArray} {own : String} {nL mi pc len pc' : Nat} {L L' : mj_L} {st st' : List Value} {σ σ' : mj_H} {ls : Array Slot}
theorem mj_obj {a ci : Nat} {fs : List Value} {r : vw_C} (hR : mj_HR G P σ H) (ha : a % 4 ≠ 0) (hg : mj_get P σ a = some (.inr (ci, fs))) (hci : ci ≠ 0) (hr : (mj_cl P)[ci]? = some r) : fs.length = r.2.2 ∧ t_OB (mj_ad G P a) (G.2.2.2.1.1 ci) r.2.2 (G.2.2.2.1.2 ci) H (vp_V (fs.map (mj_tr (mj_ad G P)))) := by
  rcases hR.2.2.1 a _ ha hg with h | ⟨r', h1, h2, h3⟩
  · exact absurd h hci
  · rw [hr] at h1
    cases h1
    exact ⟨h2, h3⟩
theorem mj_va (hW : mj_Wd G P Tg NW s) {ci : Nat} {C : String} {T : u_T} {N : Nat} (hci : 1 < ci) (hc : (mj_cl P)[ci]? = some (C, T, N)) : va_K ((fun _ => G.2.2.2.1.1 ci), (fun _ => G.2.2.2.1.2 ci)) [(C, T, N)] [] s := by
  refine ⟨fun k q hq => ?_, fun k q hq => by simp at hq⟩
  have hz : k < 1 := (List.getElem?_eq_some_iff.mp hq).1
  rw [show k = 0 by omega] at hq
  cases hq
  exact hW.2.1 ci _ hci hc
theorem mj_vP {a ci : Nat} {fs : List Value} {C : String} {T : u_T} {N : Nat} (hR : mj_HR G P σ H) (ha : a % 4 ≠ 0) (hg : mj_get P σ a = some (.inr (ci, fs))) (hci : ci ≠ 0) (hc : (mj_cl P)[ci]? = some (C, T, N)) : va_P ((fun _ => G.2.2.2.1.1 ci), (fun _ => G.2.2.2.1.2 ci)) [(C, T, N)] [(mj_ad G P a, .inr (0, fs.map (mj_tr (mj_ad G P))))] H := by
  intro k q hq
  have hz : k < 1 := (List.getElem?_eq_some_iff.mp hq).1
  rw [show k = 0 by omega] at hq
  cases hq
  exact ⟨_, rfl, (mj_obj hR ha hg hci hc).2⟩
theorem mk_getfield {idx : Nat} (hx : p.tables.exec = Jvm.exec) (hb : c.code = cc) (hdg : decode cc pc = .ok (.getfield idx, len)) (hR : mj_HR G P σ H) (hL : mj_LR (mj_ad G P) L ls nL) (hS : ∀ q ∈ locs, G.2.1 ≤ q.base) (hlen : len = 3) (hts : ∀ w ∈ Tg, w.before args s = true) (hW : mj_Wd G P Tg NW s) (hown : s.vm.findClass own = some m.cls) (hs : ∀ q : Nat, q < G.2.1 → s.heap[q]? = G.2.2.1[q]?) (hz : s.heap.size ≤ H.size) (hK : ∀ K, mj_lnk P mi idx = some K → mj_lok P Tg NW own (.getfield idx) K ∧ mj_lokU G P Tg NW s own (.getfield idx) K)
    (h : mj_sim P mi (.getfield idx) len pc L st σ = some (pc', L', st', σ')) (kk : mj_kk G P p l e R s m args below meth c cells slots Q nL σ pc' L' st' σ') : W p l e R s m args below meth c H locs cells slots Q (F0 m pc ls (st.map (mj_tr (mj_ad G P)))) := by
  subst hlen
  simp only [mj_sim] at h
  split at h
  · rename_i a r ci k w v0 hk
    split at h
    · rename_i cj fs hg
      split at h
      · rename_i hcond
        obtain ⟨rfl, h01⟩ := hcond
        split at h
        · rename_i v hv
          cases h
          rcases (hK _ hk).1 with ⟨rfl, hlk⟩ | ⟨hci, hne, C, T, N, ty, hc, hkN, hcok, hty, hkd, hlk, -⟩
          · have h0 := h01.mpr rfl
            rw [mj_get0 h0] at hg
            obtain ⟨-, a2, rfl, g1, g2, g3⟩ := hW.2.2.2.2.1 _ _ hg
            have hSS : va_S (mj_A G) s.heap H locs := mj_SS hR hs hS hz
            have e0 : Value.ref (mj_ad G P a) = Value.ref (G.1 (a / 4)) := by rw [mj_ad0 h0]
            show W p l e R s m args below meth c H locs cells slots Q (F0 m pc ls (Value.ref (mj_ad G P a) :: r.map (mj_tr (mj_ad G P))))
            rw [e0]
            rcases hlk with ⟨rfl, hlk⟩ | ⟨rfl, hlk⟩
            · cases hv
              exact vk_getf hx hb g2 hSS hown (hts _ hlk) (fun _ z => z) hdg (kk H locs ls cells slots hR hL hS rfl rfl)
            · cases hv
              exact vk_getf hx hb g3 hSS hown (hts _ hlk) (fun _ z => z) hdg (kk H locs ls cells slots hR hL hS rfl rfl)
          · have h0 : a % 4 ≠ 0 := fun z => by have := h01.mp z; omega
            have hvK := mj_va hW hci hc
            have hvP := mj_vP hR h0 hg hne hc
            have hown2 : (T k).1 = C := hcok.2.2.2 k hkN
            have hsame : ∀ x, s.fieldFound? (T k).1 (T k).2.1 (T k).2.2.1 = some x → s.fieldFound? C (T k).2.1 (T k).2.2.1 = some x := by rw [hown2]; exact fun _ z => z
            have hv' : (fs.map (mj_tr (mj_ad G P)))[k]? = some (mj_tr (mj_ad G P) v) := by rw [List.getElem?_map, hv]; rfl
            rcases hlk with hlk | ⟨-, host, hlk⟩
            · exact va_get hx hb hts hcok.1 hown hvK hvP 0 rfl rfl k hkN (hts _ hlk) hsame hv' hdg (kk H locs ls cells slots hR hL hS rfl rfl)
            · exact va_getN hx hb hts hcok.1 hown hvK hvP 0 rfl rfl k hkN (va_Nw.use rfl (hW.1 _ hlk)) hsame hv' hdg (kk H locs ls cells slots hR hL hS rfl rfl)
        · cases h
      · cases h
    · cases h
  · cases h
theorem mk_putfield {idx : Nat} (hx : p.tables.exec = Jvm.exec) (hb : c.code = cc) (hdg : decode cc pc = .ok (.putfield idx, len)) (hR : mj_HR G P σ H) (hL : mj_LR (mj_ad G P) L ls nL) (hS : ∀ q ∈ locs, G.2.1 ≤ q.base) (hlen : len = 3) (hts : ∀ w ∈ Tg, w.before args s = true) (hW : mj_Wd G P Tg NW s) (hown : s.vm.findClass own = some m.cls) (hini : ∀ ci k w v, mj_lnk P mi idx = some (0, ci, k, w, v) → (∃ C T N, (mj_cl P)[ci]? = some (C, T, N) ∧ (T k).2.2.2 = true) → meth.name = "<init>") (hK : ∀ K, mj_lnk P mi idx = some K → mj_lok P Tg NW own (.putfield idx) K ∧ mj_lokU G P Tg NW s own (.putfield idx) K)
    (h : mj_sim P mi (.putfield idx) len pc L st σ = some (pc', L', st', σ')) (kk : mj_kk G P p l e R s m args below meth c cells slots Q nL σ pc' L' st' σ') : W p l e R s m args below meth c H locs cells slots Q (F0 m pc ls (st.map (mj_tr (mj_ad G P)))) := by
  subst hlen
  simp only [mj_sim] at h
  split at h
  · rename_i v a r ci k w v0 hk
    split at h
    · rename_i cj fs hg
      split at h
      · rename_i hcond
        obtain ⟨rfl, h0, hkl, hfit⟩ := hcond
        cases h
        obtain ⟨hci, hne, C, T, N, ty, hc, hkN, hcok, hty, hkd, hlk, hfin⟩ := (hK _ hk).1
        obtain ⟨hn, hf⟩ := mj_fit_ok (ad := mj_ad G P) hfit hkd
        have hown2 : (T k).1 = C := hcok.2.2.2 k hkN
        have hvK := mj_va hW hci hc
        obtain ⟨ty0, hty0⟩ := hcok.2.2.1
        have hap := va_apart (own := own) (ci := 0) hts hcok.1 ty0 hty0 hcok.2.1 hvK rfl
        obtain ⟨hlen2, cell, q1, q2, q3, q4⟩ := mj_obj hR h0 hg hne hc
        obtain ⟨hSl, hfc, kC, hkC, hkind⟩ := hW.2.1 _ _ hci hc
        obtain ⟨cf, kf, fi, f, hi, hsl⟩ := hSl k hkN
        have hst := (u_facts hfc hkC (u_lays hts hcok.1 hkN) hi).1
        have hsame : s.fieldFound? C (T k).2.1 (T k).2.2.1 = some (cf, kf, fi, f) := by rw [← hown2]; exact hi
        have hlt := (hR.lt h0 hg).1
        have fin : ∀ H' : Heap, H'[mj_ad G P a]? = some (cell.setSlot f.slot (mj_tr (mj_ad G P) v)) → H'.size = H.size → (∀ q, q ≠ mj_ad G P a → H'[q]? = H[q]?) → W p l e R s m args below meth c H' (locs ++ [⟨mj_ad G P a, f.slot⟩]) cells slots Q (F0 m (pc + 3) ls (st'.map (mj_tr (mj_ad G P)))) := by
          intro H' e1 e2 e3
          rw [hsl] at e1
          have hR' : mj_HR G P (mj_set σ a (.inr (cj, fs.set k v))) H' := by
            refine hR.set h0 hg (Or.inr ⟨_, hc, by rw [List.length_set]; exact hlen2, ?_⟩) e2 e3
            refine t_OB.to (V := updV (vp_V (fs.map (mj_tr (mj_ad G P)))) k (mj_tr (mj_ad G P) v)) ⟨_, e1, q2, q3, t_set q4 hap hkN _⟩ (fun j _ => ?_)
            rw [vp_updV_set (by rw [List.length_map]; exact hkl), List.map_set]
          refine kk H' _ ls cells slots hR' hL (fun q hq => ?_) (by rw [(mj_set_tot h0).1]) (by rw [(mj_set_tot h0).2])
          rcases List.mem_append.mp hq with z | z
          · exact hS q z
          · rw [List.mem_singleton.mp z]; exact hlt
        have hlay := hts _ (hcok.1 _ (u_in_lay hkN))
        unfold u_lay at hlay
        rcases hlk with hlk | ⟨hnf, host, hlk⟩
        · by_cases hF : (T k).2.2.2 = true
          · rw [if_pos hF] at hlay
            have hin2 := hini _ _ _ _ hk ⟨C, T, N, hc, hF⟩
            have hoC := hfin rfl hF
            have hcf : m.cls = cf := by
              obtain ⟨_, _, c', _, _, _, -, -, hf', -, -, -, hown3, -⟩ := Cond.laysFinal_spec hlay
              have e1 : c' = cf := by have := hi.symm.trans hf'; simp at this; exact this.1.symm
              rw [hown2, ← hoC] at hown3
              rw [← e1]; exact Option.some.inj (hown.symm.trans hown3)
            have h6 := u_fits hfc hkC hkind (Or.inr hlay) hi hty hn hf
            exact W.putFinK hx hb hown (hts _ hlk) hsame hst hcf hin2 (by rw [q2]; exact h6) q1 q3 (by rw [hsl]; exact k2_hasslot (q4 k hkN)) rfl rfl hdg fin
          · rw [if_neg hF] at hlay
            have h6 := u_store hfc hkC hkind hlay hi hty hn hf
            exact W.putK hx hb (f := f) ⟨hown, hts _ hlk, ⟨_, _, _, hsame⟩, hst⟩ (by rw [q2]; exact h6) q1 q3 (by rw [hsl]; exact k2_hasslot (q4 k hkN)) rfl rfl hdg fin
        · have hF : ¬ (T k).2.2.2 = true := by
            rcases hnf with z | z
            · rw [z]; decide
            · cases z
          rw [if_neg hF] at hlay
          have h6 := u_store hfc hkC hkind hlay hi hty hn hf
          exact va_WputK hx hb hown (va_Nw.use rfl (hW.1 _ hlk)) hsame hst (by rw [q2]; exact h6) q1 q3 (by rw [hsl]; exact k2_hasslot (q4 k hkN)) rfl rfl hdg fin
      · cases h
    · cases h
  · cases h
end MJ5
