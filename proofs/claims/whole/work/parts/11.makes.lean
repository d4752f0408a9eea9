/-! what makes cells; copies -/
section MJ7
variable {p : Program} {l : Launch} {e : Env} {R : Room} {s : State} {m : MethodId} {args : Array Value} {below : List Frame} {meth : Method} {c : Code} {H : Heap} {locs : List Loc} {cells slots : Nat} {Q : State → Prop}
variable {G : mj_G} {P : mj_P} {Tg NW : List Cond} {cc : ByteArray} {own : String} {nL mi pc len pc' : Nat} {L L' : mj_L} {st st' : List Value} {σ σ' : mj_H} {ls : Array Slot}
theorem mj_mk {cN : mj_C} {n : Nat} {H' : Heap} (hR : mj_HR G P σ H) (hL : mj_LR (mj_ad G P) L ls nL) (hS : ∀ q ∈ locs, G.2.1 ≤ q.base) (hc : mj_cR G P cN H.size H') (hz : H'.size = H.size + 1) (ho : ∀ q, q < H.size → H'[q]? = H[q]?)
    (kk : mj_kk G P p l e R s m args below meth c cells slots Q nL σ pc' L (.ref (mj_nx P σ) :: st') (mj_new P σ cN n)) : W p l e R s m args below meth c H' locs (cells + 1) (slots + n) Q (F0 m pc' ls (.ref H.size :: st'.map (mj_tr (mj_ad G P)))) := by
  have h1 := kk H' locs ls (cells + 1) (slots + n) (hR.new hc hz ho) hL hS (by rw [(mj_new_tot n).1]; omega) (by rw [(mj_new_tot n).2]; omega)
  have h2 : mj_tr (mj_ad G P) (.ref (mj_nx P σ)) = .ref H.size := congrArg Value.ref (mj_nx_ad hR)
  rw [List.map_cons, h2] at h1
  exact h1
theorem mj_na {t : ArrayType} {ty : FieldType} {n : Int32} {A0 : vp_A} (hx : p.tables.exec = Jvm.exec) (hb : c.code = cc) (hdg : decode cc pc = .ok (.newarray t, 2)) (hR : mj_HR G P σ H) (hL : mj_LR (mj_ad G P) L ls nL) (hS : ∀ q ∈ locs, G.2.1 ≤ q.base) (hW : mj_Wd G P Tg NW s) (hts : ∀ w ∈ Tg, w.before args s = true) (hty : newarray.typeOf t = ty) (hAC : Cond.arrayClass ty ∈ Tg) (hT : mj_ty P ty) (hra : ∀ cA, va_RA s cA ty → s.vm.findClass ("[" ++ ty.toString) = some cA) (hn : ¬ (n < 0 ∨ 65536 < n.toNatClampNeg)) (hcb : componentBytes ty ≤ 8) (hA : ∀ cA : ClassId, vp_cell cA (mj_trA (mj_ad G P) A0) = arrV cA n.toNatClampNeg (fun _ => defaultValue ty))
    (hc : cells + 1 ≤ R.cells) (hsl : slots + n.toNatClampNeg ≤ R.slots)
    (kk : mj_kk G P p l e R s m args below meth c cells slots Q nL σ (pc + 2) L (.ref (mj_nx P σ) :: st') (mj_new P σ (.inl (ty, A0)) n.toNatClampNeg)) : W p l e R s m args below meth c H locs cells slots Q (F0 m pc ls (.int n :: st'.map (mj_tr (mj_ad G P)))) := by
  subst hty
  have hn1 : ¬ n < 0 := fun z => hn (Or.inl z)
  have hn2 : n.toNatClampNeg ≤ 65536 := Nat.le_of_not_lt (fun z => hn (Or.inr z))
  refine va_newaK hx hb (hts _ hAC) rfl hdg rfl hn1 rfl ?_ hc hsl rfl (fun H' cA e1 e2 e3 e4 e5 => ?_)
  · have := Nat.mul_le_mul hn2 hcb
    omega
  · have hcA : cA = G.2.2.2.2 (newarray.typeOf t) := Option.some.inj (e5.symm.trans (hra _ (hW.2.2.1 _ hT).2))
    exact mj_mk (cN := .inl (newarray.typeOf t, A0)) hR hL hS ⟨hT, by rw [e1, hA, hcA]⟩ e2 e3 kk
theorem mk_newarray {t : ArrayType} (hx : p.tables.exec = Jvm.exec) (hb : c.code = cc) (hdg : decode cc pc = .ok (.newarray t, len)) (hR : mj_HR G P σ H) (hL : mj_LR (mj_ad G P) L ls nL) (hS : ∀ q ∈ locs, G.2.1 ≤ q.base) (hlen : len = 2) (hts : ∀ w ∈ Tg, w.before args s = true) (hW : mj_Wd G P Tg NW s) (hAC : Cond.arrayClass .int ∈ Tg ∧ Cond.arrayClass .long ∈ Tg ∧ Cond.arrayClass .byte ∈ Tg ∧ Cond.arrayClass .boolean ∈ Tg)
    (hc : cells + mj_tot σ' ≤ R.cells + mj_tot σ) (hsl : slots + σ'.2.2.2 ≤ R.slots + σ.2.2.2)
    (h : mj_sim P mi (.newarray t) len pc L st σ = some (pc', L', st', σ')) (kk : mj_kk G P p l e R s m args below meth c cells slots Q nL σ pc' L' st' σ') : W p l e R s m args below meth c H locs cells slots Q (F0 m pc ls (st.map (mj_tr (mj_ad G P)))) := by
  subst hlen
  simp only [mj_sim] at h
  split at h
  · rename_i n r
    split at h
    · cases h
    · rename_i hn
      split at h <;> try contradiction
      · cases h
        rw [(mj_new_tot _).1] at hc
        rw [(mj_new_tot _).2] at hsl
        exact mj_na hx hb hdg hR hL hS hW hts rfl hAC.1 (Or.inl rfl) (fun _ z => z) hn (by decide) (fun _ => rfl) (by omega) (by omega) kk
      · cases h
        rw [(mj_new_tot _).1] at hc
        rw [(mj_new_tot _).2] at hsl
        exact mj_na hx hb hdg hR hL hS hW hts rfl hAC.2.2.1 (Or.inr (Or.inr (Or.inl rfl))) (fun _ z => z) hn (by decide) (fun _ => rfl) (by omega) (by omega) kk
      · cases h
        rw [(mj_new_tot _).1] at hc
        rw [(mj_new_tot _).2] at hsl
        exact mj_na hx hb hdg hR hL hS hW hts rfl hAC.2.2.2 (Or.inr (Or.inr (Or.inr (Or.inl rfl)))) (fun _ z => z) hn (by decide) (fun _ => rfl) (by omega) (by omega) kk
      · cases h
        rw [(mj_new_tot _).1] at hc
        rw [(mj_new_tot _).2] at hsl
        exact mj_na hx hb hdg hR hL hS hW hts rfl hAC.2.1 (Or.inr (Or.inl rfl)) (fun _ z => z) hn (by decide) (fun _ => rfl) (by omega) (by omega) kk
  · cases h
theorem mk_anewarray {idx : Nat} (hx : p.tables.exec = Jvm.exec) (hb : c.code = cc) (hdg : decode cc pc = .ok (.anewarray idx, len)) (hR : mj_HR G P σ H) (hL : mj_LR (mj_ad G P) L ls nL) (hS : ∀ q ∈ locs, G.2.1 ≤ q.base) (hlen : len = 3) (hts : ∀ w ∈ Tg, w.before args s = true) (hW : mj_Wd G P Tg NW s) (hown : s.vm.findClass own = some m.cls)
    (hK : ∀ K, mj_lnk P mi idx = some K → mj_lok P Tg NW own (.anewarray idx) K ∧ mj_lokU G P Tg NW s own (.anewarray idx) K) (hTy : ∀ k0 ci C T N w v u, mj_lnk P mi idx = some (k0, ci, w, v, u) → (mj_cl P)[ci]? = some (C, T, N) → mj_ty P (.object C))
    (hc : cells + mj_tot σ' ≤ R.cells + mj_tot σ) (hsl : slots + σ'.2.2.2 ≤ R.slots + σ.2.2.2)
    (h : mj_sim P mi (.anewarray idx) len pc L st σ = some (pc', L', st', σ')) (kk : mj_kk G P p l e R s m args below meth c cells slots Q nL σ pc' L' st' σ') : W p l e R s m args below meth c H locs cells slots Q (F0 m pc ls (st.map (mj_tr (mj_ad G P)))) := by
  subst hlen
  simp only [mj_sim] at h
  split at h
  · rename_i n r k0 ci w v u hk
    split at h
    · rename_i C T N hcl
      split at h
      · cases h
      · rename_i hn
        cases h
        rw [(mj_new_tot _).1] at hc
        rw [(mj_new_tot _).2] at hsl
        have hn1 : ¬ n < 0 := fun z => hn (Or.inl z)
        have hn2 : n.toNatClampNeg ≤ 65536 := Nat.le_of_not_lt (fun z => hn (Or.inr z))
        obtain ⟨⟨hci, C1, T1, N1, hc1, hlk⟩, C2, T2, N2, hc2, hao⟩ := hK _ hk
        cases hc1.symm.trans hcl
        cases hc2.symm.trans hcl
        have hT := hTy _ _ _ _ _ _ _ _ hk hcl
        obtain ⟨kA, comp, a1, a2, a3, a4⟩ := (hW.2.2.1 _ hT).2
        refine W.anew hx hb hown (hts _ hlk) (va_AO.use hao) rfl hdg rfl hn1 (by omega) (by omega) (by omega) (fun cA kA comp f1 f2 f3 f4 => ?_)
        have hcA : cA = G.2.2.2.2 (.object C) := Option.some.inj (f1.symm.trans a4)
        refine mj_mk (cN := .inl (.object C, n.toNatClampNeg, .inr (.inr (.inr (.inr (fun _ => none)))))) hR hL hS ⟨hT, ?_⟩ (by simp) (fun q hq => by rw [Array.getElem?_push, if_neg (Nat.ne_of_lt hq)]) kk
        rw [Array.getElem?_push_size, arrV_new, hcA]
        rfl
    · cases h
  · cases h
theorem mk_new {idx ci nf k3 : Nat} {v0 : Value} (hx : p.tables.exec = Jvm.exec) (hb : c.code = cc) (hdg : decode cc pc = .ok (.new idx, 3)) (hR : mj_HR G P σ H) (hL : mj_LR (mj_ad G P) L ls nL) (hS : ∀ q ∈ locs, G.2.1 ≤ q.base) (hts : ∀ w ∈ Tg, w.before args s = true) (hW : mj_Wd G P Tg NW s) (hown : s.vm.findClass own = some m.cls)
    (hK : mj_lok P Tg NW own (.new idx) (2, ci, nf, k3, v0)) (hc : cells + 1 ≤ R.cells) (hsl : slots + nf ≤ R.slots)
    (kk : mj_kk G P p l e R s m args below meth c cells slots Q nL σ (pc + 3) L (.ref (mj_nx P σ) :: st) (mj_new P σ (.inr (ci, mj_df P ci)) nf)) : W p l e R s m args below meth c H locs cells slots Q (F0 m pc ls (st.map (mj_tr (mj_ad G P)))) := by
  obtain ⟨hci, C, T, hcl, hcok, hlk, hins, hini, hdl, hdf⟩ := hK
  have hKn := hW.2.1 ci _ hci hcl
  obtain ⟨ty, hty⟩ := hcok.2.2.1
  refine W.newcK hx hb hown (hts _ hlk) (hts _ hins) (hts _ hini) rfl hdg hc hsl hKn.2.1 rfl (fun H1 kC hkC e1 z1 o1 => ?_)
  refine mj_mk (cN := .inr (ci, mj_df P ci)) hR hL hS (Or.inr ⟨_, hcl, hdl, ?_⟩) z1 o1 kk
  refine (u_born ty hts hcok.1 hKn hkC e1 hty).to (fun j hj => ?_)
  have h1 := hdf ty hty j hj
  have h2 : ∀ q : FieldType, mj_tr (mj_ad G P) (defaultValue q) = defaultValue q := fun q => by cases q <;> rfl
  simp [vp_V, List.getElem?_map, h1, h2]
/-- arraycopy of ints -/
theorem mk_copy {idx : Nat} {r : List Value} {k1 k2 k3 : Nat} {v0 : Value} (hx : p.tables.exec = Jvm.exec) (hb : c.code = cc) (hml : c.maxLocals = nL) (hdg : decode cc pc = .ok (.invokestatic idx, 3)) (hR : mj_HR G P σ H) (hL : mj_LR (mj_ad G P) L ls nL) (hS : ∀ q ∈ locs, G.2.1 ≤ q.base) (hts : ∀ w ∈ Tg, w.before args s = true) (hW : mj_Wd G P Tg NW s) (hown : s.vm.findClass own = some m.cls) (hs : ∀ q : Nat, q < G.2.1 → s.heap[q]? = G.2.2.1[q]?) (hz : s.heap.size ≤ H.size)
    (hK : mj_lok P Tg NW own (.invokestatic idx) (6, k1, k2, k3, v0)) (hRf : 1 ≤ R.frames) (hRl : 100 ≤ R.locals)
    (h : mj_cpy P st σ = some (r, σ')) (kk : mj_kk G P p l e R s m args below meth c cells slots Q nL σ (pc + 3) L r σ') : W p l e R s m args below meth c H locs cells slots Q (F0 m pc ls (st.map (mj_tr (mj_ad G P)))) := by
  unfold mj_cpy at h
  split at h
  · rename_i n dp b sp a r2
    split at h
    · rename_i n0 f n1 g hga hgb
      split at h
      · rename_i hq
        obtain ⟨h1, h2, h3, h4, h5, ha, hb4, hab, hcat⟩ := hq
        cases h
        obtain ⟨hk1, hk2, hk3, hk4⟩ := hK
        have ca := (hR.2.2.1 a _ ha hga).2
        have cb := (hR.2.2.1 b _ hb4 hgb).2
        have hne : mj_ad G P a ≠ mj_ad G P b := fun z => hab (hR.inj ha hga hb4 hgb z)
        have nn : ∀ z : Int32, ¬ z < 0 → z.toInt = (z.toNatClampNeg : Int) := by
          intro z hz
          have hz0 : (0 : Int) ≤ z.toInt := by
            have := Int32.not_lt.mp hz
            simpa using Int32.le_iff_toInt_le.mp this
          show z.toInt = ((z.toInt.toNat : Nat) : Int)
          omega
        rw [mj_vc_i] at ca cb
        intro T hT X
        have hAr := (hW.2.2.1 .int (Or.inl rfl)).1
        obtain ⟨-, k0, hk0, cm0, hkk0⟩ := hAr n0 (fun j => .int (f j))
        obtain ⟨-, k1', hk1', cm1, hkk1⟩ := hAr n1 (fun j => .int (g j))
        have hsum : ((r.map (mj_tr (mj_ad G P))).map fun v => v.category).sum = mj_cat r := mj_cat_tr r
        obtain ⟨vm', X', step⟩ := X.arraycopy hx hown (hts _ hk1) (hts _ hk2) (hts _ hk3) (hts _ hk4) (src := mj_ad G P a) (dst := mj_ad G P b) (cs := arrV (G.2.2.2.2 .int) n0 (fun j => .int (f j))) (cd := arrV (G.2.2.2.2 .int) n1 (fun j => .int (g j))) (srcPos := sp) (destPos := dp) (n := n) (by rw [hT]; exact ca) (by rw [hT]; exact cb)
          (fun _ h => by cases h) (fun _ h => by cases h) (fun h => by cases h) (fun h => by cases h) hk0 hk1' hkk0 hkk1 (by simp [refKind]) h1 h2 h3 (by rw [nn sp h1, nn n h3, arrV_size]; omega) (by rw [nn dp h2, nn n h3, arrV_size]; omega)
          (fun vm₁ _ i hi => by
            have ee : (arrV (G.2.2.2.2 .int) n0 (fun j => Value.int (f j))).slots.getD (sp.toNatClampNeg + i) .null = .int (f (sp.toNatClampNeg + i)) := by
              rw [Array.getD_eq_getD_getElem?, arrV_read _ _ (by omega)]
              rfl
            rw [ee]
            exact ⟨rfl, trivial⟩)
          (g := F0 m pc ls (.int n :: .int dp :: .ref (mj_ad G P b) :: .int sp :: .ref (mj_ad G P a) :: r.map (mj_tr (mj_ad G P)))) rfl (by rw [hml]; exact hL.2.1) (rest := r.map (mj_tr (mj_ad G P))) rfl (by rw [hb]; exact hdg) hRf (by
            have hnw : nativeFrameWords "java/lang/System" "arraycopy" 5 ≤ 60 := by decide
            show 2 * 0 + _ + _ ≤ _
            rw [hsum]; omega)
        have e1 : copied (arrV (G.2.2.2.2 .int) n0 (fun j => .int (f j))) (arrV (G.2.2.2.2 .int) n1 (fun j => .int (g j))) sp dp n = arrV (G.2.2.2.2 .int) n1 (fun j => .int (va_cpy f g sp.toNatClampNeg dp.toNatClampNeg n.toNatClampNeg j)) := va_copied (fun z => .int z) _ _ f g h4
        rw [e1] at X' step
        have hl := (hR.lt hb4 hgb)
        have hR' : mj_HR G P (mj_set σ b (.inl (.int, n1, .inl (va_cpy f g sp.toNatClampNeg dp.toNatClampNeg n.toNatClampNeg)))) (H.setIfInBounds (mj_ad G P b) (arrV (G.2.2.2.2 .int) n1 (fun j => .int (va_cpy f g sp.toNatClampNeg dp.toNatClampNeg n.toNatClampNeg j)))) := by
          refine hR.set hb4 hgb ⟨Or.inl rfl, ?_⟩ (by simp) (fun q hq => by simp [Array.getElem?_setIfInBounds, Ne.symm hq])
          rw [mj_vc_i]
          simp [Array.getElem?_setIfInBounds, hl.2]
        obtain ⟨t, a1, b1⟩ := kk _ _ ls cells slots hR' hL (fun q hq => by
          rcases List.mem_append.mp hq with z | z
          · exact hS q z
          · obtain ⟨y, -, hy⟩ := List.mem_map.mp z
            rw [← hy]
            exact hl.1) (by rw [(mj_set_tot hb4).1]) (by rw [(mj_set_tot hb4).2]) _ (show ((T.setVm vm').setCell _ _).heap = _ by rw [← hT]; rfl) X'
        exact ⟨t, step t a1, b1⟩
      · cases h
    · cases h
  · cases h
/-- clone of an array of ints -/
theorem mk_clone {idx : Nat} {k1 k2 k3 : Nat} {v0 : Value} (hx : p.tables.exec = Jvm.exec) (hb : c.code = cc) (hml : c.maxLocals = nL) (hdg : decode cc pc = .ok (.invokevirtual idx, 3)) (hR : mj_HR G P σ H) (hL : mj_LR (mj_ad G P) L ls nL) (hS : ∀ q ∈ locs, G.2.1 ≤ q.base) (hts : ∀ w ∈ Tg, w.before args s = true) (hW : mj_Wd G P Tg NW s) (hown : s.vm.findClass own = some m.cls)
    (hK : mj_lok P Tg NW own (.invokevirtual idx) (11, k1, k2, k3, v0)) (hRf : 1 ≤ R.frames) (hRl : 100 ≤ R.locals) (hc : cells + mj_tot σ' ≤ R.cells + mj_tot σ) (hsl : slots + σ'.2.2.2 ≤ R.slots + σ.2.2.2)
    (h : mj_cln P st σ = some (st', σ')) (kk : mj_kk G P p l e R s m args below meth c cells slots Q nL σ (pc + 3) L st' σ') : W p l e R s m args below meth c H locs cells slots Q (F0 m pc ls (st.map (mj_tr (mj_ad G P)))) := by
  unfold mj_cln at h
  split at h
  · rename_i a r
    split at h
    · rename_i n0 f hga
      split at h
      · rename_i hq
        obtain ⟨ha, hcat⟩ := hq
        cases h
        rw [(mj_new_tot _).1] at hc
        rw [(mj_new_tot _).2] at hsl
        obtain ⟨w1, w2, w3, w4, w5, w6⟩ := hK
        obtain ⟨ht, ca⟩ := hR.2.2.1 a _ ha hga
        rw [mj_vc_i] at ca
        have hAr := (hW.2.2.1 .int ht).1
        have hnm : s.vm.findClass "[I" = some (G.2.2.2.2 .int) := (hW.2.2.1 .int ht).2
        have hsum : ((r.map (mj_tr (mj_ad G P))).map fun v => v.category).sum = mj_cat r := mj_cat_tr r
        obtain ⟨c0, t0', f1, f2, f3⟩ := Cond.castable_spec (va_Nw.use (A := args) rfl (hW.1 _ w6))
        cases hnm.symm.trans f1
        intro T hT X
        obtain ⟨-, kA, hkA, comp, hkind⟩ := State.isArrayOf_alike X.warmed.alike (hAr 0 (fun _ => .null))
        obtain ⟨-, kS, hkS, compS, hkindS⟩ := hAr 0 (fun _ => .null)
        obtain ⟨vm', X', hst⟩ := X.cloneArray hx hown (hts _ w1) (hts _ w2) (hts _ w3) (hts _ w4) (hts _ w5) (a := mj_ad G P a) (cell := arrV (G.2.2.2.2 .int) n0 (fun j => .int (f j))) (by rw [hT]; exact ca) (fun k h => by cases h) (fun h => by cases h) hnm f2 f3
          (fun i v hv => by
            have hk' : T.vm.classes[G.2.2.2.2 .int]? = some kA := hkA
            have hi : i < n0 := by
              have h1 := (Array.getElem?_eq_some_iff.mp hv).1
              rwa [arrV_size] at h1
            rw [arrV_read _ _ hi] at hv
            cases hv
            show T.fitsSlot (G.2.2.2.2 .int) _ _ _ = true
            simp [State.fitsSlot, State.slotType?, hk', hkind, fits, arrV])
          (g := F0 m pc ls (.ref (mj_ad G P a) :: r.map (mj_tr (mj_ad G P)))) rfl (by rw [hml]; exact hL.2.1) rfl (by rw [hb]; exact hdg) hRf (by show 2 * 0 + _ + 14 ≤ _; rw [hsum]; omega) (by omega) (by rw [arrV_size]; omega) (hloader := Vm.clonesLoader_of_array hkS hkindS)
        rw [arrV_size] at X'
        have hmk := mj_mk (cN := .inl (.int, n0, .inl f)) (n := n0) (H' := H.push (arrV (G.2.2.2.2 .int) n0 (fun j => .int (f j)))) hR hL hS ⟨ht, by rw [Array.getElem?_push_size, mj_vc_i]⟩ (by simp) (fun q hq => by rw [Array.getElem?_push, if_neg (Nat.ne_of_lt hq)]) kk
        obtain ⟨t, a1, b1⟩ := hmk ((T.setVm vm').pushCell (arrV (G.2.2.2.2 .int) n0 (fun j => .int (f j)))) (by rw [← hT]; rfl) X'
        refine ⟨t, hst t ?_, b1⟩
        rw [hT]
        exact a1
      · cases h
    · cases h
  · cases h
theorem mk_checkcast {idx : Nat} (hx : p.tables.exec = Jvm.exec) (hb : c.code = cc) (hdg : decode cc pc = .ok (.checkcast idx, len)) (hR : mj_HR G P σ H) (hL : mj_LR (mj_ad G P) L ls nL) (hS : ∀ q ∈ locs, G.2.1 ≤ q.base) (hlen : len = 3) (hts : ∀ w ∈ Tg, w.before args s = true) (hW : mj_Wd G P Tg NW s) (hown : s.vm.findClass own = some m.cls)
    (hK : ∀ K, mj_lnk P mi idx = some K → mj_lok P Tg NW own (.checkcast idx) K ∧ mj_lokU G P Tg NW s own (.checkcast idx) K)
    (h : mj_sim P mi (.checkcast idx) len pc L st σ = some (pc', L', st', σ')) (kk : mj_kk G P p l e R s m args below meth c cells slots Q nL σ pc' L' st' σ') : W p l e R s m args below meth c H locs cells slots Q (F0 m pc ls (st.map (mj_tr (mj_ad G P)))) := by
  subst hlen
  simp only [mj_sim] at h
  split at h
  · rename_i a r k1 k2 k3 v0 hk
    split at h
    · rename_i A hg
      split at h
      · rename_i ha
        cases h
        obtain ⟨ht, ca⟩ := hR.2.2.1 a _ ha hg
        have hnm : s.vm.findClass "[I" = some (G.2.2.2.2 .int) := (hW.2.2.1 .int ht).2
        have hvP : va_P (fun _ => default, fun _ _ => 0) [] [(mj_ad G P a, .inl (G.2.2.2.2 .int, mj_trA (mj_ad G P) A))] H := by
          intro k q hq
          have hz : k < 1 := (List.getElem?_eq_some_iff.mp hq).1
          rw [show k = 0 by omega] at hq
          cases hq
          exact ca
        exact va_castA hx hb hown (hts _ (hK _ hk).1) hvP 0 rfl hnm hdg (kk H locs ls cells slots hR hL hS rfl rfl)
      · cases h
    · cases h
  · cases h
end MJ7
