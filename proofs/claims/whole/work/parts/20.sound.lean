/-! by induction on the steps -/
section MJ16
variable {G : mj_G} {P : mj_P} {Tg NW : List Cond} {l : Launch}
theorem mj_rx_ok (x : Nat) : decode (mj_rx x) 0 = .ok (.aload_n 0, 1) ∧ decode (mj_rx x) 1 = .ok (.aload_n 1, 1) ∧ decode (mj_rx x) 2 = .ok (.invokespecial (mj_ix x), 3) ∧ decode (mj_rx x) 5 = .ok (.return_, 1) := by
  unfold mj_rx mj_ix
  split
  · exact ⟨by decide +kernel, by decide +kernel, by decide +kernel, by decide +kernel⟩
  · exact ⟨by decide +kernel, by decide +kernel, by decide +kernel, by decide +kernel⟩
/-- the throw itself -/
theorem mj_throw_ok {p : Program} {e : Env} {R : Room} {s : State} {m : MethodId} {args : Array Value} {below : List Frame} {meth : Method} {c : Code} {H : Heap} {locs : List Loc} {cells slots pc idx x d mi : Nat} {M : mj_M} {st : List Value} {σ : mj_H} {ls : Array Slot} {L : mj_L} {mc ms : Nat}
    (hk : mj_Pk P Tg NW) (hl : l.stackTraces = false) (C : mj_Cx G P Tg NW M p s m args meth c) (hdg : decode M.2.1 pc = .ok (.new idx, 3)) (hM : mj_mth P mi = some M) (ht : mj_thr P Tg NW mi M pc idx x) (hcat : mj_cat st ≤ 8) (hR : mj_HR G P σ H) (hL : mj_LR (mj_ad G P) L ls M.2.2.1) (hS : ∀ q ∈ locs, G.2.1 ≤ q.base) (hz : s.heap.size ≤ H.size)
    (hRf : 8 + d ≤ R.frames) (hRl : 200 + 64 * d ≤ R.locals) (hRc : cells + 1 ≤ R.cells) (hRs : slots + 6 ≤ R.slots) (hc : cells + 1 ≤ mc) (hsl : slots + 6 ≤ ms) : W p l e R s m args below meth c H locs cells slots (vx_MQ below (fun _ _ _ _ => False) (mj_XC G P x (mj_new P σ (.inr (0, [])) 6)) args s mc ms (mj_fr G)) (F0 m pc ls (st.map (mj_tr (mj_ad G P)))) := by
  obtain ⟨hx, hb, -, hml, hown, hts, hlocks, -, hex, hW, hs⟩ := C
  obtain ⟨is, ic, a0, ⟨d3, hd⟩, t1, t2, t3, t4, t5, t6, t7⟩ := ht
  have hSS : va_S (mj_A G) s.heap H locs := mj_SS hR hs hS hz
  have hat : ∀ w ∈ mj_at M.1.cls ic x, w.before args s = true := fun w hw => by
    rcases t4 w hw with z | z
    · exact hts w z
    · have h1 := hW.1 w z
      rcases hk.1 w z with ⟨_, _, _, _, _, _, rfl⟩ | ⟨_, _, _, _, rfl⟩ | ⟨_, _, rfl⟩ | ⟨_, rfl⟩ <;> exact va_Nw.use rfl h1
  have hgood : ∀ w ∈ Cond.classLink M.1.cls idx (mj_en x) :: Cond.initialized (mj_en x) :: mj_at M.1.cls ic x, vx_ot w = true := fun w hw => by
    rcases List.mem_cons.mp hw with rfl | hw
    · unfold vx_ot; rw [hk.2.1 _ t1, Bool.or_true]
    · rcases List.mem_cons.mp hw with rfl | hw
      · unfold vx_ot; rw [hk.2.1 _ t2, Bool.or_true]
      · exact t5 w hw
  have hsum : (((st.map (mj_tr (mj_ad G P))).map fun v => v.category).sum) ≤ 8 := by rw [mj_cat_tr]; exact hcat
  have hout : ∀ (q : Nat), ∀ x ∈ c.exceptionTable.toList, covers x q = false := fun q z hz => by rw [hex, t6] at hz; cases hz
  have hnm : ∀ n ∈ mj_sup, Bundle.fit n = true := by decide +kernel
  have hXC : ∀ t : State, s.vm.Alike t.vm → t.heap.size = H.size + 1 → (∀ q : Nat, q < H.size → t.heap[q]? = H[q]?) → mj_XC G P x (mj_new P σ (.inr (0, [])) 6) (mj_en x) s t := fun t _ h1 h2 => ⟨rfl, hR.new (Or.inl rfl) h1 h2⟩
  obtain ⟨x0, x1, x2, x5⟩ := mj_rx_ok x
  rcases hd with ⟨i4, d6, d9⟩ | ⟨i4, d7, d10⟩
  · obtain ⟨a, tx, -, hstr⟩ := hW.2.2.2.1 mi (pc + 4) is M _ _ _ hM i4 rfl t7
    have d4 := (hk.2.2.2 mi (pc + 4) M _ _ hM i4).1
    exact mj_throwS hx hb hl x0 x1 x2 x5 hown t3 hnm (hts _ t1) (hts _ t2) hstr hat hgood hW.2.2.2.2.2.1 hW.2.2.2.2.2.2.1 hSS (hL.2.1.trans hml.symm) hdg d3 d4 d6 d9 (hout _) (by show 2 + 3 < _; omega) (by show _ + (13 * (2 + 1) + 43) ≤ _; omega) hRc hRs hlocks hXC hS hc hsl
  · obtain ⟨a, tx, -, hstr⟩ := hW.2.2.2.1 mi (pc + 4) is M _ _ _ hM i4 rfl t7
    have d4 := (hk.2.2.2 mi (pc + 4) M _ _ hM i4).1
    exact mj_throwSW hx hb hl x0 x1 x2 x5 hown t3 hnm (hts _ t1) (hts _ t2) hstr hat hgood hW.2.2.2.2.2.1 hW.2.2.2.2.2.2.1 hSS (hL.2.1.trans hml.symm) hdg d3 d4 d7 d10 (hout _) (by show 2 + 3 < _; omega) (by show _ + (13 * (2 + 1) + 43) ≤ _; omega) hRc hRs hlocks hXC hS hc hsl
set_option maxHeartbeats 4000000 in
theorem mj_sound (hk : mj_Pk P Tg NW) (hpx : mj_Px P Tg NW) (hp4 : mj_Pc4 P Tg NW) (hl : l.stackTraces = false) (hcatch : mj_Catch l) : ∀ n, mj_Snd G P Tg NW l n := by
  intro n
  induction n with
  | zero => intro d mi M pc L st σ σ' res _ h; simp [mj_run] at h
  | succ n ih =>
    intro d mi M pc L st σ σ' res hM h p e R s m args below meth c H locs cells slots ls mc ms C hR hL hS hz hRf hRl hRc hRs hcq hsq
    have hgo : ∀ (pc' : Nat) (L' : mj_L) (st' : List Value) (σ1 : mj_H), mj_le σ σ1 → mj_run P n d mi pc' L' st' σ1 = some (res, σ') → mj_kk G P p l e R s m args below meth c cells slots (mj_Fin G P below res σ' args s mc ms) M.2.2.1 σ pc' L' st' σ1 := by
      intro pc' L' st' σ1 hle hrun H' locs' ls' cells' slots' hR' hL' hS' e1 e2
      have hz' : s.heap.size ≤ H'.size := by
        have := hle.1
        rw [hR'.1]
        rw [hR.1] at hz
        omega
      exact ih d mi M pc' L' st' σ1 σ' res hM hrun p e R s m args below meth c H' locs' cells' slots' ls' mc ms C hR' hL' hS' hz' hRf hRl hRc hRs (by omega) (by omega)
    have hmono := mj_run_le P _ _ _ _ _ _ _ _ _ h
    rw [mj_run] at h
    split at h
    · cases h
    · rename_i i len hi
      obtain ⟨hdg, hln, hKs⟩ := hk.2.2.2 mi pc M i len hM hi
      split at h
      · rename_i idx hinv
        obtain ⟨rfl, hidx⟩ := mj_inv_ln hinv hln
        split at h
        · -- Object.<init>
          rename_i k1 k2 k3 v0 hlk
          split at h
          · rename_i idx2 a r
            split at h
            · rename_i hcat
              obtain ⟨hx, hb, -, hml, hown, hts, -⟩ := id C
              cases hinv
              obtain ⟨⟨w1, w2, w3⟩, -⟩ := hKs _ _ rfl hlk
              have hsum : ((r.map (mj_tr (mj_ad G P))).map fun v => v.category).sum = mj_cat r := mj_cat_tr r
              refine W.objInit hx hb hown (hts _ w1) (hts _ w2) (hts _ w3) rfl (by rw [hml]; exact hL.2.1) rfl hdg (by omega) (by show 2 * 0 + _ + 12 ≤ _; rw [hsum]; omega) ?_
              exact hgo (pc + 3) L r σ (mj_le.rf _) h H locs ls cells slots hR hL hS rfl rfl
            · cases h
          · cases h
        · -- arraycopy
          rename_i k1 k2 k3 v0 hlk
          split at h
          · rename_i idx2 r σ1 hcp
            obtain ⟨hx, hb, -, hml, hown, hts, -, -, -, hW, hs⟩ := id C
            cases hinv
            exact mk_copy hx hb hml hdg hR hL hS hts hW hown hs hz (hKs _ _ rfl hlk).1 (by omega) (by omega) hcp (hgo (pc + 3) L r σ1 (mj_cpy_le hcp) h)
          · cases h
        · -- clone
          rename_i k1 k2 k3 v0 hlk
          split at h
          · rename_i idx2 r σ1 hcp
            obtain ⟨hx, hb, -, hml, hown, hts, -, -, -, hW, hs⟩ := id C
            cases hinv
            have hle2 := mj_run_le P _ _ _ _ _ _ _ _ _ h
            exact mk_clone hx hb hml hdg hR hL hS hts hW hown (hKs _ _ rfl hlk).1 (by omega) (by omega) (by have := hle2.1; omega) (by have := hle2.2; omega) hcp (hgo (pc + 3) L _ σ1 (mj_cln_le hcp) h)
          · cases h
        · -- a call
          rename_i mj na ci v0 hlk
          split at h
          · rename_i d' y b nl rt hh' cs' hM'
            have hcw := hp4 mi pc i 3 idx mj na ci v0 M _ hM hi hinv hlk hM'
            split at h
            · rename_i hq
              obtain ⟨q1, q2, q3, q4⟩ := hq
              split at h
              · cases h
              · rename_i v σ1 hrun
                have hle := mj_run_le P _ _ _ _ _ _ _ _ _ hrun
                have hle2 := mj_run_le P _ _ _ _ _ _ _ _ _ h
                refine mj_inv_ret ih hk C hdg hM' hcw hinv q1 q2 q3 q4 hrun hR hL hS hRf hRl ?_ ?_ (hgo _ _ _ _ hle h)
                · have := hle.1; have := hle2.1; omega
                · have := hle.2; have := hle2.2; omega
              · rename_i x σ1 hrun
                have hle := mj_run_le P _ _ _ _ _ _ _ _ _ hrun
                split at h
                · cases h
                · rename_i hcs
                  have hcs1 : cs' ≠ [] := fun z => hcs (Or.inl z)
                  have hhh : hh' = [] := Classical.byContradiction (fun z => hcs (Or.inr z))
                  split at h
                  · -- it goes on to the caller
                    rename_i y1 y2 y3 y4 y5 hM2
                    cases hM.symm.trans hM2
                    cases h
                    refine mj_inv_thr ih hk C hdg hM' hcw hinv hcs1 hhh q1 q2 q3 q4 hrun hR hL hS hRf hRl (by have := hle.1; omega) (by have := hle.2; omega) (fun q9 ce H1 locs1 hR1 hS1 hce hcv hcl => ?_)
                    refine vx_out (E := mj_en x) (fun z hz => ?_) C.2.2.2.2.2.2.1 hce hcv hcl (fun t ht _ => ⟨rfl, by rw [ht]; exact hR1⟩) hS1 (by have := hle.1; omega) (by have := hle.2; omega)
                    have hz2 : z ∈ tableOf [] := by rw [C.2.2.2.2.2.2.2.2.1] at hz; exact hz
                    cases hz2
                  · -- it is caught here
                    rename_i y1 y2 y3 y4 hh cs hne hM2
                    cases hM.symm.trans hM2
                    split at h
                    · rename_i hp hhnd
                      have hne2 : hh ≠ [] := fun z => by subst z; simp [mj_hnd] at hhnd
                      have hcat : ∀ (q9 : Addr) (ce : Cell) (H1 : Heap) (locs1 : List Loc), mj_HR G P σ1 H1 → (∀ q ∈ locs1, G.2.1 ≤ q.base) → H1[q9]? = some ce → ce.vm = .none → s.vm.findClass (mj_en x) = some ce.cls → W p l e R s m args below meth c H1 locs1 (cells + (mj_tot σ1 - mj_tot σ)) (slots + (σ1.2.2.2 - σ.2.2.2)) (mj_Fin G P below res σ' args s mc ms) (F0 m hp ls [.ref q9]) → vx_W p l e R s m args below meth c H1 locs1 (cells + (mj_tot σ1 - mj_tot σ)) (slots + (σ1.2.2.2 - σ.2.2.2)) (mj_Fin G P below res σ' args s mc ms) (F0 m pc ls ((st.drop na).map (mj_tr (mj_ad G P)))) q9 := by
                        intro q9 ce H1 locs1 hR1 hS1 hce hcv hcl hWW
                        obtain ⟨hx, hb, -, hml, hown, hts, -, -, hex, hW, hs⟩ := id C
                        obtain ⟨pre, z0, suf, e1, e2, e3, e4, e5, e6, e7⟩ := mj_hfind (Tg := Tg) (NW := NW) (own := y1.cls) hh cs [] [] hp (fun z hz => by cases hz) (hpx.2 mi _ hM hne2) hhnd
                        refine hcatch p e R s m args below meth c H1 locs1 _ _ _ pc ls _ y1.cls (mj_en x) (mj_en x) ce q9 hown pre z0 suf (by rw [hex]; exact e1) (fun z hz => ?_) e3 e5 (hts _ e6) (va_Nw.use rfl (hW.1 _ e7)) hce hcv hcl (by rw [e4]; exact hWW)
                        rcases e2 z hz with w | ⟨w1, y, w2, w3⟩
                        · exact Or.inl w
                        · exact Or.inr ⟨w1, mj_en y, hts _ w2, hW.2.2.2.2.2.2.2 (x, y) w3⟩
                      split at h
                      · rename_i k len2 hins2
                        split at h
                        · rename_i hkl
                          have hle2 := mj_run_le P _ _ _ _ _ _ _ _ _ h
                          refine mj_inv_thr ih hk C hdg hM' hcw hinv hcs1 hhh q1 q2 q3 q4 hrun hR hL hS hRf hRl (by have := hle.1; have := hle2.1; omega) (by have := hle.2; have := hle2.2; omega) (fun q9 ce H1 locs1 hR1 hS1 hce hcv hcl => hcat q9 ce H1 locs1 hR1 hS1 hce hcv hcl ?_)
                          obtain ⟨hx, hb, -⟩ := id C
                          obtain ⟨hdg2, hln2, -⟩ := hk.2.2.2 mi hp _ _ _ hM hins2
                          cases (of_decide_eq_true hln2 : len2 = 1)
                          refine lv_astore_n hx hb hdg2 rfl hL.has (by have := hL.1; omega) rfl (fun ls' hl' => ?_)
                          exact hgo _ _ [] σ1 hle h H1 locs1 ls' _ _ hR1 (hL.st0 hl') hS1 (by have := hle.1; omega) (by have := hle.2; omega)
                        · cases h
                      · rename_i k len2 hins2
                        split at h
                        · rename_i hkl
                          have hle2 := mj_run_le P _ _ _ _ _ _ _ _ _ h
                          refine mj_inv_thr ih hk C hdg hM' hcw hinv hcs1 hhh q1 q2 q3 q4 hrun hR hL hS hRf hRl (by have := hle.1; have := hle2.1; omega) (by have := hle.2; have := hle2.2; omega) (fun q9 ce H1 locs1 hR1 hS1 hce hcv hcl => hcat q9 ce H1 locs1 hR1 hS1 hce hcv hcl ?_)
                          obtain ⟨hx, hb, -⟩ := id C
                          obtain ⟨hdg2, hln2, -⟩ := hk.2.2.2 mi hp _ _ _ hM hins2
                          cases (of_decide_eq_true hln2 : len2 = 2)
                          refine lv_astore hx hb hdg2 hL.has (by have := hL.1; omega) rfl (fun ls' hl' => ?_)
                          exact hgo _ _ [] σ1 hle h H1 locs1 ls' _ _ hR1 (hL.st0 hl') hS1 (by have := hle.1; omega) (by have := hle.2; omega)
                        · cases h
                      · cases h
                    · cases h
                  · cases h
            · cases h
          · cases h
        · cases h
      · split at h
        · -- the end
          rename_i v hret
          cases h
          have hrt : mj_rt P mi = M.2.2.2.1 := by unfold mj_rt; rw [hM]
          rw [hrt] at hret
          have e1 : mc = cells := by omega
          have e2 : ms = slots := by omega
          subst e1; subst e2
          exact mj_ret_ok C hdg hln hret hR hS
        · split at h
          · split at h
            · rename_i x is ic v0 hlk
              split at h
              · rename_i hcat
                cases h
                cases (of_decide_eq_true hln : len = 3)
                have ht := hpx.1 mi pc _ 3 x is ic M v0 hM hi hlk
                have t1 := mj_new_tot (P := P) (σ := σ) (c := .inr (0, [])) 6
                rw [t1.1] at hcq
                rw [t1.2] at hsq
                exact mj_throw_ok (d := d) hk hl C hdg hM ht hcat hR hL hS hz hRf hRl (by omega) (by omega) (by omega) (by omega)
              · cases h
            · rename_i ci nf k3 v0 hlk
              cases (of_decide_eq_true hln : len = 3)
              obtain ⟨hx, hb, -, hml, hown, hts, -, -, -, hW, hs⟩ := id C
              have hle2 := mj_run_le P _ _ _ _ _ _ _ _ _ h
              have t1 := mj_new_tot (P := P) (σ := σ) (c := .inr (ci, mj_df P ci)) nf
              refine mk_new hx hb hdg hR hL hS hts hW hown (hKs _ _ rfl hlk).1 ?_ ?_ (hgo _ _ _ _ (mj_le_new _ _ _ _) h)
              · have := hle2.1; rw [t1.1] at this; omega
              · have := hle2.2; rw [t1.2] at this; omega
            · cases h
          · split at h
            · rename_i pc' L' st' σ1 hsim
              have hle2 := mj_run_le P _ _ _ _ _ _ _ _ _ h
              exact mj_sim_ok hk hM hi C hR hL hS hz (by have := hle2.1; omega) (by have := hle2.2; omega) hsim (hgo _ _ _ _ (mj_sim_le hsim) h)
            · cases h
end MJ16
