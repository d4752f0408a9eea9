/-! the law: its loop -/
section LC1
variable {i : IN} {B d j pc : Nat} {T T' : XS} {s s' : RS} {L : mj_L} {st r : List Value} {Q : PO}
theorem and63 (x : Int32) : ∃ k : Nat, k < 64 ∧ (x &&& 63).toInt = k := by
  have hb : (x.toBitVec &&& 63#32).toNat < 64 := by
    rw [BitVec.toNat_and]
    exact Nat.lt_of_le_of_lt Nat.and_le_right (by decide)
  refine ⟨(x.toBitVec &&& 63#32).toNat, hb, ?_⟩
  show (x &&& 63).toBitVec.toInt = _
  rw [Int32.toBitVec_and, show (63 : Int32).toBitVec = 63#32 from rfl]
  exact BitVec.toInt_eq_toNat_of_lt (by omega)
theorem l_sw {x : Int32} {k len tgt : Nat} {offs : Array Int} {o df : Int} (hx : x.toInt = k) (hk : k < 48) (hi : mj_ins (t_P i.1 i.2.1 i.2.2) m_L_law 40 = some (.tableswitch df 0 47 offs, len)) (ho : offs[k]? = some o) (ht : (40 : Int) + o = tgt) (kk : EL i d tgt L r T s Q) : EL i d 40 L (.int x :: r) T s Q := by
  refine ev_step hi rfl ?_ kk
  simp only [mj_sim]
  rw [if_neg (by omega), hx, show ((k : Int) - 0).toNat = k by omega, ho]
  show mj_to 40 o L r _ = _
  unfold mj_to
  rw [if_neg (by omega)]
  rw [show (((40 : Nat) : Int) + o).toNat = tgt by omega]
theorem l_swd {x : Int32} {k len tgt : Nat} {offs : Array Int} {df : Int} (hx : x.toInt = k) (hk : 48 ≤ k) (hi : mj_ins (t_P i.1 i.2.1 i.2.2) m_L_law 40 = some (.tableswitch df 0 47 offs, len)) (ht : (40 : Int) + df = tgt) (kk : EL i d tgt L r T s Q) : EL i d 40 L (.int x :: r) T s Q := by
  refine ev_step hi rfl ?_ kk
  simp only [mj_sim]
  rw [if_pos (by omega)]
  unfold mj_to
  rw [if_neg (by omega)]
  rw [show (((40 : Nat) : Int) + df).toNat = tgt by omega]
theorem IVE.up (h : IVE B T s) : IVE (B + 1) T s := ⟨⟨h.1.choose, h.1.choose_spec.nx h.1.choose_spec.1 h.1.choose_spec.2.1 (gw.rf _ _)⟩, h.2⟩
theorem l_case (hf : ∀ s, fvok (cX i s)) (hj : j + 6 ≤ i.1) (hn : i.1 < 2 ^ 31) (h : IVE B T s) (nx : NX i (B + 1) (d + 66) j Q) (x y z : Option Value) {w : Int32} {k : Nat} (hk : k < 64) (hw : w.toInt = k) : EL i (d + 66) 40 (lL j x y z) [.int w] T s Q := by
  by_cases z48 : 48 ≤ k
  · exact l_swd (tgt := 2695) hw z48 rfl (by decide) (nx T s x y z h.up)
  by_cases z0 : k = 0
  · subst z0; exact l_sw (k := 0) (tgt := 248) (o := 208) hw (by decide) rfl rfl (by decide) (lc_0 hj hn h nx x y z)
  by_cases z1 : k = 1
  · subst z1; exact l_sw (k := 1) (tgt := 321) (o := 281) hw (by decide) rfl rfl (by decide) (lc_1 hf hj hn h nx x y z)
  by_cases z2 : k = 2
  · subst z2; exact l_sw (k := 2) (tgt := 377) (o := 337) hw (by decide) rfl rfl (by decide) (lc_2 hj hn h nx x y z)
  by_cases z3 : k = 3
  · subst z3; exact l_sw (k := 3) (tgt := 402) (o := 362) hw (by decide) rfl rfl (by decide) (lc_3 hj hn h nx x y z)
  by_cases z4 : k = 4
  · subst z4; exact l_sw (k := 4) (tgt := 470) (o := 430) hw (by decide) rfl rfl (by decide) (lc_4 hj hn h nx x y z)
  by_cases z5 : k = 5
  · subst z5; exact l_sw (k := 5) (tgt := 545) (o := 505) hw (by decide) rfl rfl (by decide) (lc_5 hj hn h nx x y z)
  by_cases z6 : k = 6
  · subst z6; exact l_sw (k := 6) (tgt := 601) (o := 561) hw (by decide) rfl rfl (by decide) (lc_6 hj hn h nx x y z)
  by_cases z7 : k = 7
  · subst z7; exact l_sw (k := 7) (tgt := 669) (o := 629) hw (by decide) rfl rfl (by decide) (lc_7 hj hn h nx x y z)
  by_cases z8 : k = 8
  · subst z8; exact l_sw (k := 8) (tgt := 706) (o := 666) hw (by decide) rfl rfl (by decide) (lc_8 hj hn h nx x y z)
  by_cases z9 : k = 9
  · subst z9; exact l_sw (k := 9) (tgt := 762) (o := 722) hw (by decide) rfl rfl (by decide) (lc_9 hj hn h nx x y z)
  by_cases z10 : k = 10
  · subst z10; exact l_sw (k := 10) (tgt := 830) (o := 790) hw (by decide) rfl rfl (by decide) (lc_10 hj hn h nx x y z)
  by_cases z11 : k = 11
  · subst z11; exact l_sw (k := 11) (tgt := 886) (o := 846) hw (by decide) rfl rfl (by decide) (lc_11 hj hn h nx x y z)
  by_cases z12 : k = 12
  · subst z12; exact l_sw (k := 12) (tgt := 942) (o := 902) hw (by decide) rfl rfl (by decide) (lc_12 hj hn h nx x y z)
  by_cases z13 : k = 13
  · subst z13; exact l_sw (k := 13) (tgt := 1010) (o := 970) hw (by decide) rfl rfl (by decide) (lc_13 hj hn h nx x y z)
  by_cases z14 : k = 14
  · subst z14; exact l_sw (k := 14) (tgt := 1066) (o := 1026) hw (by decide) rfl rfl (by decide) (lc_14 hj hn h nx x y z)
  by_cases z15 : k = 15
  · subst z15; exact l_sw (k := 15) (tgt := 1134) (o := 1094) hw (by decide) rfl rfl (by decide) (lc_15 hj hn h nx x y z)
  by_cases z16 : k = 16
  · subst z16; exact l_sw (k := 16) (tgt := 1147) (o := 1107) hw (by decide) rfl rfl (by decide) (lc_16 hj hn h nx x y z)
  by_cases z17 : k = 17
  · subst z17; exact l_sw (k := 17) (tgt := 1188) (o := 1148) hw (by decide) rfl rfl (by decide) (lc_17 hj hn h nx x y z)
  by_cases z18 : k = 18
  · subst z18; exact l_sw (k := 18) (tgt := 1201) (o := 1161) hw (by decide) rfl rfl (by decide) (lc_18 hj hn h nx x y z)
  by_cases z19 : k = 19
  · subst z19; exact l_sw (k := 19) (tgt := 1214) (o := 1174) hw (by decide) rfl rfl (by decide) (lc_19 hj hn h nx x y z)
  by_cases z20 : k = 20
  · subst z20; exact l_sw (k := 20) (tgt := 1270) (o := 1230) hw (by decide) rfl rfl (by decide) (lc_20 hj hn h nx x y z)
  by_cases z21 : k = 21
  · subst z21; exact l_sw (k := 21) (tgt := 1326) (o := 1286) hw (by decide) rfl rfl (by decide) (lc_21 hj hn h nx x y z)
  by_cases z22 : k = 22
  · subst z22; exact l_sw (k := 22) (tgt := 1339) (o := 1299) hw (by decide) rfl rfl (by decide) (lc_22 hj hn h nx x y z)
  by_cases z23 : k = 23
  · subst z23; exact l_sw (k := 23) (tgt := 1395) (o := 1355) hw (by decide) rfl rfl (by decide) (lc_23 hj hn h nx x y z)
  by_cases z24 : k = 24
  · subst z24; exact l_sw (k := 24) (tgt := 1451) (o := 1411) hw (by decide) rfl rfl (by decide) (lc_24 hj hn h nx x y z)
  by_cases z25 : k = 25
  · subst z25; exact l_sw (k := 25) (tgt := 1464) (o := 1424) hw (by decide) rfl rfl (by decide) (lc_25 hj hn h nx x y z)
  by_cases z26 : k = 26
  · subst z26; exact l_sw (k := 26) (tgt := 1520) (o := 1480) hw (by decide) rfl rfl (by decide) (lc_26 hj hn h nx x y z)
  by_cases z27 : k = 27
  · subst z27; exact l_sw (k := 27) (tgt := 1576) (o := 1536) hw (by decide) rfl rfl (by decide) (lc_27 hj hn h nx x y z)
  by_cases z28 : k = 28
  · subst z28; exact l_sw (k := 28) (tgt := 1632) (o := 1592) hw (by decide) rfl rfl (by decide) (lc_28 hj hn h nx x y z)
  by_cases z29 : k = 29
  · subst z29; exact l_sw (k := 29) (tgt := 1645) (o := 1605) hw (by decide) rfl rfl (by decide) (lc_29 hj hn h nx x y z)
  by_cases z30 : k = 30
  · subst z30; exact l_sw (k := 30) (tgt := 1701) (o := 1661) hw (by decide) rfl rfl (by decide) (lc_30 hj hn h nx x y z)
  by_cases z31 : k = 31
  · subst z31; exact l_sw (k := 31) (tgt := 1769) (o := 1729) hw (by decide) rfl rfl (by decide) (lc_31 hj hn h nx x y z)
  by_cases z32 : k = 32
  · subst z32; exact l_sw (k := 32) (tgt := 1825) (o := 1785) hw (by decide) rfl rfl (by decide) (lc_32 hj hn h nx x y z)
  by_cases z33 : k = 33
  · subst z33; exact l_sw (k := 33) (tgt := 1893) (o := 1853) hw (by decide) rfl rfl (by decide) (lc_33 hj hn h nx x y z)
  by_cases z34 : k = 34
  · subst z34; exact l_sw (k := 34) (tgt := 1906) (o := 1866) hw (by decide) rfl rfl (by decide) (lc_34 hj hn h nx x y z)
  by_cases z35 : k = 35
  · subst z35; exact l_sw (k := 35) (tgt := 1974) (o := 1934) hw (by decide) rfl rfl (by decide) (lc_35 hj hn h nx x y z)
  by_cases z36 : k = 36
  · subst z36; exact l_sw (k := 36) (tgt := 1987) (o := 1947) hw (by decide) rfl rfl (by decide) (lc_36 hj hn h nx x y z)
  by_cases z37 : k = 37
  · subst z37; exact l_sw (k := 37) (tgt := 2055) (o := 2015) hw (by decide) rfl rfl (by decide) (lc_37 hj hn h nx x y z)
  by_cases z38 : k = 38
  · subst z38; exact l_sw (k := 38) (tgt := 2111) (o := 2071) hw (by decide) rfl rfl (by decide) (lc_38 hj hn h nx x y z)
  by_cases z39 : k = 39
  · subst z39; exact l_sw (k := 39) (tgt := 2179) (o := 2139) hw (by decide) rfl rfl (by decide) (lc_39 hj hn h nx x y z)
  by_cases z40 : k = 40
  · subst z40; exact l_sw (k := 40) (tgt := 2235) (o := 2195) hw (by decide) rfl rfl (by decide) (lc_40 hj hn h nx x y z)
  by_cases z41 : k = 41
  · subst z41; exact l_sw (k := 41) (tgt := 2303) (o := 2263) hw (by decide) rfl rfl (by decide) (lc_41 hj hn h nx x y z)
  by_cases z42 : k = 42
  · subst z42; exact l_sw (k := 42) (tgt := 2371) (o := 2331) hw (by decide) rfl rfl (by decide) (lc_42 hj hn h nx x y z)
  by_cases z43 : k = 43
  · subst z43; exact l_sw (k := 43) (tgt := 2431) (o := 2391) hw (by decide) rfl rfl (by decide) (lc_43 hj hn h nx x y z)
  by_cases z44 : k = 44
  · subst z44; exact l_sw (k := 44) (tgt := 2542) (o := 2502) hw (by decide) rfl rfl (by decide) (lc_44 hj hn h nx x y z)
  by_cases z45 : k = 45
  · subst z45; exact l_sw (k := 45) (tgt := 2598) (o := 2558) hw (by decide) rfl rfl (by decide) (lc_45 hj hn h nx x y z)
  by_cases z46 : k = 46
  · subst z46; exact l_sw (k := 46) (tgt := 2634) (o := 2594) hw (by decide) rfl rfl (by decide) (lc_46 hj hn h nx x y z)
  by_cases z47 : k = 47
  · subst z47; exact l_sw (k := 47) (tgt := 2670) (o := 2630) hw (by decide) rfl rfl (by decide) (lc_47 hj hn h nx x y z)
  omega
set_option maxRecDepth 8000 in
theorem l_nx {x y z : Option Value} (h : EL i d 23 (lL (j + 6) x y z) [] T s Q) : EL i d 2695 (lL j x y z) [] T s Q := by
  refine ev_ex 1 (c' := (2698, [some (.ref 0), some (.ref 1), some (.ref 2), some (.ref 3), some (.int (nI j + 6)), x, y, z], [], hX (cX i s) T)) rfl ?_
  rw [show nI j + (6 : Int32) = nI (j + 6) from nI_add j 6]
  refine ev_step (i := .goto (-2675)) (len := 3) (pc' := 23) (L' := lL (j + 6) x y z) (st' := []) (σ' := hX (cX i s) T) rfl rfl ?_ h
  simp only [mj_sim]
  unfold mj_to
  rw [if_neg (by decide)]
  rfl
/-- the law answers yes -/
def QF (i : IN) : PO := fun r σ => r = .inl (some (.int 1)) ∧ ∃ B T s, IVE B T s ∧ 6 * B ≤ i.1 + 6 ∧ σ = hX (cX i s) T
set_option maxRecDepth 8000 in
theorem law_lp (hf : ∀ s, fvok (cX i s)) (hN : i.1 ≤ 100000) : ∀ (m B : Nat) (T : XS) (s : RS) (x y z : Option Value), i.1 < 6 * B + 6 + m → 6 * B ≤ i.1 + 6 → IVE B T s → EL i (d + 66) 23 (lL (6 * B) x y z) [] T s (QF i) := by
  have hn : i.1 < 2 ^ 31 := by omega
  intro m
  induction m with
  | zero =>
    intro B T s x y z hm hB h
    refine ev_ex 2 (c' := (26, lL (6 * B) x y z, [.ref 0, .int (nI (6 * B))], hX (cX i s) T)) rfl ?_
    refine ev_len (ty := .int) (A := (i.1, .inl i.2.1)) rfl rfl ?_
    refine ev_ex 2 (c' := (30, lL (6 * B) x y z, [.int (nI i.1 - 6), .int (nI (6 * B))], hX (cX i s) T)) rfl ?_
    refine ev_icmp_gt (tgt := 2701) rfl rfl (fun _ => ?_) (fun w => absurd ?_ w)
    · refine ev_ex 1 (c' := (2702, lL (6 * B) x y z, [.int 1], hX (cX i s) T)) rfl ?_
      exact ev_ret rfl rfl rfl ⟨rfl, B, T, s, h, hB, rfl⟩
    · rw [Int32.lt_iff_toInt_lt, show (nI i.1 - 6 : Int32).toInt = (i.1 : Int) - 6 from sub_toInt (y := 6) hn (by decide), nI_toInt (by omega)]
      omega
  | succ m ih =>
    intro B T s x y z hm hB h
    by_cases hj : 6 * B + 6 ≤ i.1
    · refine ev_ex 2 (c' := (26, lL (6 * B) x y z, [.ref 0, .int (nI (6 * B))], hX (cX i s) T)) rfl ?_
      refine ev_len (ty := .int) (A := (i.1, .inl i.2.1)) rfl rfl ?_
      refine ev_ex 2 (c' := (30, lL (6 * B) x y z, [.int (nI i.1 - 6), .int (nI (6 * B))], hX (cX i s) T)) rfl ?_
      refine ev_icmp_gt (tgt := 2701) rfl rfl (fun w => ?_) (fun _ => ?_)
      · exfalso
        rw [Int32.lt_iff_toInt_lt, show (nI i.1 - 6 : Int32).toInt = (i.1 : Int) - 6 from sub_toInt (y := 6) hn (by decide), nI_toInt (by omega)] at w
        omega
      · refine ev_ex 2 (c' := (36, lL (6 * B) x y z, [.int (nI (6 * B)), .ref 0], hX (cX i s) T)) rfl ?_
        refine ev_ald (i := .iaload) (ty := .int) (A := (i.1, .inl i.2.1)) rfl (Or.inl rfl) rfl (okx_nI (n := i.1) (by omega) hn) (v := .int (i.2.1 (6 * B))) (by rw [nI_clamp (by omega)]; rfl) ?_
        refine ev_ex 2 (c' := (40, lL (6 * B) x y z, [.int (i.2.1 (6 * B) &&& 63)], hX (cX i s) T)) rfl ?_
        obtain ⟨k, hk, hw⟩ := and63 (i.2.1 (6 * B))
        refine l_case (d := d) hf hj hn h (fun T' s' x' y' z' h' => ?_) x y z hk hw
        have e6 : 6 * (B + 1) = 6 * B + 6 := by omega
        have hh := ih (B + 1) T' s' x' y' z' (by omega) (by omega) h'
        rw [e6] at hh
        exact l_nx hh
    · refine ev_ex 2 (c' := (26, lL (6 * B) x y z, [.ref 0, .int (nI (6 * B))], hX (cX i s) T)) rfl ?_
      refine ev_len (ty := .int) (A := (i.1, .inl i.2.1)) rfl rfl ?_
      refine ev_ex 2 (c' := (30, lL (6 * B) x y z, [.int (nI i.1 - 6), .int (nI (6 * B))], hX (cX i s) T)) rfl ?_
      refine ev_icmp_gt (tgt := 2701) rfl rfl (fun _ => ?_) (fun w => absurd ?_ w)
      · refine ev_ex 1 (c' := (2702, lL (6 * B) x y z, [.int 1], hX (cX i s) T)) rfl ?_
        exact ev_ret rfl rfl rfl ⟨rfl, B, T, s, h, hB, rfl⟩
      · rw [Int32.lt_iff_toInt_lt, show (nI i.1 - 6 : Int32).toInt = (i.1 : Int) - 6 from sub_toInt (y := 6) hn (by decide), nI_toInt (by omega)]
        omega
end LC1
