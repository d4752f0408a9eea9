/-! the law: its other cases -/
section LB1
variable {i : IN} {B d j pc : Nat} {T T' : XS} {s s' : RS} {L : mj_L} {st : List Value} {Q : PO}
def QLB (i : IN) (B dr mr : Nat) (as : List Value) (s : RS) (cd : Int32) (T' : XS) : Prop := RB (cR i T') dr mr as s (fun y s' => s'.1 4 = cd ∧ (cd = 0 → xL T' 3 0 = if y = true then 1 else 0) ∧ IVE B T' s')
def QLJ (i : IN) (B dr mr : Nat) (as : List Value) (s : RS) (cd : Int32) (T' : XS) : Prop := RJ (cR i T') dr mr as s (fun y s' => s'.1 4 = cd ∧ (cd = 0 → xL T' 3 0 = y) ∧ IVE B T' s')
def QLV (i : IN) (B dr mr : Nat) (as : List Value) (s : RS) (cd : Int32) (T' : XS) : Prop := RV (cR i T') dr mr as s (fun s' => s'.1 4 = cd ∧ IVE B T' s')
theorem lg_may (h : IVE B T s) (g n : Int32) : XI (cX i s) (d + 65) m_L_may [.ref 1, .int g, .int n, .ref 3] T (QLB i (B + 1) (d + 65) m_R_may [.ref 2, .int g, .int n] s) := by
  obtain ⟨⟨A, h⟩, a3⟩ := h
  exact wl_may _ _ a3 (XBt_u (ag_may (d := d) (i := i) h (g := g) (n := n)) (fun x T' q q2 => RB_mn (q _) (fun y s' q => ⟨q.2.1, fun _ => by rw [tL_30, q.1], ⟨q.2.2.choose, q.2.2.choose_spec.o3 (sg3 q2 a3) _⟩, sg3 q2 a3⟩)) (fun e T' q q2 => q.imp (fun w => ⟨w.1, RB_mn (w.2 _) (fun y s' q => ⟨q.1, fun z => absurd z (by decide), q.2, sg3 q2 a3⟩)⟩) (fun w => ⟨w.1, RB_mn (w.2 _) (fun y s' q => ⟨q.1, fun z => absurd z (by decide), q.2, sg3 q2 a3⟩)⟩)))
theorem lg_write (h : IVE B T s) (g m : Int32) (x : Int64) : XI (cX i s) (d + 65) m_L_write [.ref 1, .int g, .int m, .long x, .ref 3] T (QLJ i (B + 1) (d + 65) m_R_write [.ref 2, .int g, .int m, .long x] s) := by
  obtain ⟨⟨A, h⟩, a3⟩ := h
  exact wl_write _ _ _ a3 (XJt_u (ag_write (d := d) (i := i) h (g := g) (m := m) (x := x)) (fun u T' q q2 => RJ_mn (q _) (fun y s' q => ⟨q.2.1, fun _ => by rw [tL_30, q.1], ⟨q.2.2.choose, q.2.2.choose_spec.o3 (sg3 q2 a3) _⟩, sg3 q2 a3⟩)) (fun e T' q q2 => q.imp (fun w => ⟨w.1, RJ_mn (w.2 _) (fun y s' q => ⟨q.1, fun z => absurd z (by decide), q.2, sg3 q2 a3⟩)⟩) (fun q => q.imp (fun w => ⟨w.1, RJ_mn (w.2 _) (fun y s' q => ⟨q.1, fun z => absurd z (by decide), q.2, sg3 q2 a3⟩)⟩) (fun w => ⟨w.1, RJ_mn (w.2 _) (fun y s' q => ⟨q.1, fun z => absurd z (by decide), q.2, sg3 q2 a3⟩)⟩))))
theorem lg_tray (h : IVE B T s) (g so m : Int32) : XI (cX i s) (d + 65) m_L_tray [.ref 1, .int g, .int so, .int m] T (QLV i (B + 1) (d + 65) m_R_tray [.ref 2, .int g, .int so, .int m] s) := by
  obtain ⟨⟨A, h⟩, a3⟩ := h
  exact wl_tray _ _ _ (XVt_u (ag_tray (d := d) (i := i) h (g := g) (so := so) (m := m)) (fun T' q q2 => RV.mn (q _) (fun s' q => ⟨q.1, q.2, sg3 q2 a3⟩)) (fun e T' q q2 => q.imp (fun w => ⟨w.1, RV.mn (w.2 _) (fun s' q => ⟨q.1, q.2, sg3 q2 a3⟩)⟩) (fun w => ⟨w.1, RV.mn (w.2 _) (fun s' q => ⟨q.1, q.2, sg3 q2 a3⟩)⟩)))
theorem lg_image (h : IVE B T s) (g : Int32) : XI (cX i s) (d + 65) m_L_image [.ref 1, .int g] T (QLV i (B + 1) (d + 65) m_R_image [.ref 2, .int g] s) := by
  obtain ⟨⟨A, h⟩, a3⟩ := h
  exact wl_image _ (XVt_u (ag_image (d := d) (i := i) h (g := g)) (fun T' q q2 => RV.mn (q _) (fun s' q => ⟨q.1, q.2, sg3 q2 a3⟩)) (fun e T' w q2 => ⟨w.1, RV.mn (w.2 _) (fun s' q => ⟨q.1, q.2, sg3 q2 a3⟩)⟩))
theorem lg_restore (h : IVE B T s) (g : Int32) : XI (cX i s) (d + 65) m_L_restore [.ref 1, .int g] T (QLV i (B + 1) (d + 65) m_R_restore [.ref 2, .int g] s) := by
  obtain ⟨⟨A, h⟩, a3⟩ := h
  exact wl_restore _ (XVt_u (ag_restore (d := d) (i := i) h (g := g)) (fun T' q q2 => RV.mn (q _) (fun s' q => ⟨q.1, q.2, sg3 q2 a3⟩)) (fun e T' q q2 => q.imp (fun w => ⟨w.1, RV.mn (w.2 _) (fun s' q => ⟨q.1, q.2, sg3 q2 a3⟩)⟩) (fun w => ⟨w.1, RV.mn (w.2 _) (fun s' q => ⟨q.1, q.2, sg3 q2 a3⟩)⟩)))
/-- a long of two ints -/
def two (a b : Int32) : Int64 := (a.toInt64 <<< ((32 : Int32).toInt64 &&& 63)) ||| (b.toInt64 &&& 4294967295)
set_option maxRecDepth 8000 in
theorem lc_4 (hj : j + 6 ≤ i.1) (hn : i.1 < 2 ^ 31) (h : IVE B T s) (nx : NX i (B + 1) (d + 66) j Q) (x y z : Option Value) : EL i (d + 66) 470 (lL j x y z) [] T s Q := by
  refine ev_ex 5 (c' := (476, lL j x y z, [.int (nI j + nI 1), .ref 0, .ref 1], hX (cX i s) T)) rfl ?_
  refine l_A (k := 1) rfl (by omega) hn ?_
  refine ev_ex 4 (c' := (482, lL j x y z, [.int (nI j + nI 2), .ref 0, .int (i.2.1 (j + 1)), .ref 1], hX (cX i s) T)) rfl ?_
  refine l_A (k := 2) rfl (by omega) hn ?_
  refine ev_ex 1 (c' := (484, lL j x y z, [.ref 3, .int (i.2.1 (j + 2)), .int (i.2.1 (j + 1)), .ref 1], hX (cX i s) T)) rfl ?_
  refine lx_I (idx := 155) rfl rfl rfl (Nat.le_of_ble_eq_true rfl) (Nat.le_of_ble_eq_true rfl) rfl (lg_may (d := d) h _ _) (fun cd T' q => ?_)
  refine ev_ex 6 (c' := (495, lL j (some (.int cd)) y z, [.int (nI j + nI 1), .ref 0, .ref 2], hX (cX i s) T')) rfl ?_
  refine l_A (k := 1) rfl (by omega) hn ?_
  refine ev_ex 4 (c' := (501, lL j (some (.int cd)) y z, [.int (nI j + nI 2), .ref 0, .int (i.2.1 (j + 1)), .ref 2], hX (cX i s) T')) rfl ?_
  refine l_A (k := 2) rfl (by omega) hn ?_
  refine lr_B (idx := 157) rfl rfl rfl (Nat.le_of_ble_eq_true rfl) (Nat.le_of_ble_eq_true rfl) rfl q (fun u s' q' => ?_)
  refine ev_ex 2 (c' := (508, lL j (some (.int cd)) (some (.int (bI u))) z, [.ref 2], hX (cX i s') T')) rfl ?_
  refine lr_I (idx := 143) rfl rfl rfl (Nat.le_of_ble_eq_true rfl) (Nat.le_of_ble_eq_true rfl) rfl (w_R_thrown (Q := fun t s2 => t = s'.1 4 ∧ s2 = s') ⟨rfl, rfl⟩) (fun t s2 q2 => ?_)
  obtain ⟨rfl, rfl⟩ := q2
  refine ev_ex 1 (c' := (513, lL j (some (.int cd)) (some (.int (bI u))) z, [.int cd, .int (s2.1 4)], hX (cX i s2) T')) rfl ?_
  refine ev_icmp_eq (tgt := 518) rfl rfl (fun _ => ?_) (fun w => absurd q'.1 w)
  refine ev_ex 1 (c' := (520, lL j (some (.int cd)) (some (.int (bI u))) z, [.int cd], hX (cX i s2) T')) rfl ?_
  have go : ev (t_P i.1 i.2.1 i.2.2) (d + 66) m_L_law 542 (lL j (some (.int cd)) (some (.int (bI u))) z) [] (hX (cX i s2) T') Q := by
    refine ev_ex 1 (c' := (2695, lL j (some (.int cd)) (some (.int (bI u))) z, [], hX (cX i s2) T')) rfl ?_
    exact nx T' s2 _ _ _ q'.2.2
  refine ev_if_ne (tgt := 542) rfl rfl (fun _ => go) (fun w => ?_)
  refine ev_ex 2 (c' := (525, lL j (some (.int cd)) (some (.int (bI u))) z, [.int 0, .ref 3], hX (cX i s2) T')) rfl ?_
  refine l_out rfl q'.2.2.2 ?_
  rw [q'.2.1 w]
  refine ev_ex 1 (c' := (528, lL j (some (.int cd)) (some (.int (bI u))) z, [.int (bI u), .long (if u = true then 1 else 0)], hX (cX i s2) T')) rfl ?_
  refine ev_if_eqB (x := u) (tgt := 535) rfl rfl (fun w => ?_) (fun w => ?_)
  · subst w
    refine ev_ex 1 (c' := (536, lL j (some (.int cd)) (some (.int (bI false))) z, [.long 0, .long 0], hX (cX i s2) T')) rfl ?_
    refine l_cmp rfl ?_
    exact ev_if_eq (tgt := 542) rfl rfl (fun _ => go) (fun w => absurd rfl w)
  · subst w
    refine ev_ex 2 (c' := (536, lL j (some (.int cd)) (some (.int (bI true))) z, [.long 1, .long 1], hX (cX i s2) T')) rfl ?_
    refine l_cmp rfl ?_
    exact ev_if_eq (tgt := 542) rfl rfl (fun _ => go) (fun w => absurd rfl w)
set_option maxRecDepth 8000 in
theorem lc_42 (hj : j + 6 ≤ i.1) (hn : i.1 < 2 ^ 31) (h : IVE B T s) (nx : NX i (B + 1) (d + 66) j Q) (x y z : Option Value) : EL i (d + 66) 2371 (lL j x y z) [] T s Q := by
  refine ev_ex 5 (c' := (2377, lL j x y z, [.int (nI j + nI 1), .ref 0, .ref 1], hX (cX i s) T)) rfl ?_
  refine l_A (k := 1) rfl (by omega) hn ?_
  refine ev_ex 4 (c' := (2383, lL j x y z, [.int (nI j + nI 2), .ref 0, .int (i.2.1 (j + 1)), .ref 1], hX (cX i s) T)) rfl ?_
  refine l_A (k := 2) rfl (by omega) hn ?_
  refine ev_ex 4 (c' := (2389, lL j x y z, [.int (nI j + nI 3), .ref 0, .int (i.2.1 (j + 2)), .int (i.2.1 (j + 1)), .ref 1], hX (cX i s) T)) rfl ?_
  refine l_A (k := 3) rfl (by omega) hn ?_
  refine lx_I (idx := 280) rfl rfl rfl (Nat.le_of_ble_eq_true rfl) (Nat.le_of_ble_eq_true rfl) rfl (lg_tray (d := d) h _ _ _) (fun cd T' q => ?_)
  refine ev_ex 6 (c' := (2401, lL j (some (.int cd)) y z, [.int (nI j + nI 1), .ref 0, .ref 2], hX (cX i s) T')) rfl ?_
  refine l_A (k := 1) rfl (by omega) hn ?_
  refine ev_ex 4 (c' := (2407, lL j (some (.int cd)) y z, [.int (nI j + nI 2), .ref 0, .int (i.2.1 (j + 1)), .ref 2], hX (cX i s) T')) rfl ?_
  refine l_A (k := 2) rfl (by omega) hn ?_
  refine ev_ex 4 (c' := (2413, lL j (some (.int cd)) y z, [.int (nI j + nI 3), .ref 0, .int (i.2.1 (j + 2)), .int (i.2.1 (j + 1)), .ref 2], hX (cX i s) T')) rfl ?_
  refine l_A (k := 3) rfl (by omega) hn ?_
  refine lr_V (idx := 283) rfl rfl rfl (Nat.le_of_ble_eq_true rfl) (Nat.le_of_ble_eq_true rfl) rfl q (fun s' q' => ?_)
  refine ev_ex 1 (c' := (2418, lL j (some (.int cd)) y z, [.ref 2], hX (cX i s') T')) rfl ?_
  refine lr_I (idx := 143) rfl rfl rfl (Nat.le_of_ble_eq_true rfl) (Nat.le_of_ble_eq_true rfl) rfl (w_R_thrown (Q := fun t s2 => t = s'.1 4 ∧ s2 = s') ⟨rfl, rfl⟩) (fun t s2 q2 => ?_)
  obtain ⟨rfl, rfl⟩ := q2
  refine ev_ex 1 (c' := (2423, lL j (some (.int cd)) y z, [.int cd, .int (s2.1 4)], hX (cX i s2) T')) rfl ?_
  refine ev_icmp_eq (tgt := 2428) rfl rfl (fun _ => ?_) (fun w => absurd q'.1 w)
  refine ev_ex 1 (c' := (2695, lL j (some (.int cd)) y z, [], hX (cX i s2) T')) rfl ?_
  exact nx T' s2 _ _ _ q'.2
set_option maxRecDepth 8000 in
theorem lc_43 (hj : j + 6 ≤ i.1) (hn : i.1 < 2 ^ 31) (h : IVE B T s) (nx : NX i (B + 1) (d + 66) j Q) (x y z : Option Value) : EL i (d + 66) 2431 (lL j x y z) [] T s Q := by
  refine ev_ex 5 (c' := (2437, lL j x y z, [.int (nI j + nI 1), .ref 0, .ref 1], hX (cX i s) T)) rfl ?_
  refine l_A (k := 1) rfl (by omega) hn ?_
  refine ev_ex 4 (c' := (2443, lL j x y z, [.int (nI j + nI 2), .ref 0, .int (i.2.1 (j + 1)), .ref 1], hX (cX i s) T)) rfl ?_
  refine l_A (k := 2) rfl (by omega) hn ?_
  refine ev_ex 4 (c' := (2449, lL j x y z, [.int (nI j + nI 3), .ref 0, .int (i.2.1 (j + 2)), .int (i.2.1 (j + 1)), .ref 1], hX (cX i s) T)) rfl ?_
  refine l_A (k := 3) rfl (by omega) hn ?_
  refine ev_ex 7 (c' := (2459, lL j x y z, [.int (nI j + nI 4), .ref 0, .long ((i.2.1 (j + 3)).toInt64 <<< ((32 : Int32).toInt64 &&& 63)), .int (i.2.1 (j + 2)), .int (i.2.1 (j + 1)), .ref 1], hX (cX i s) T)) rfl ?_
  refine l_A (k := 4) rfl (by omega) hn ?_
  refine ev_ex 5 (c' := (2467, lL j x y z, [.ref 3, .long (two (i.2.1 (j + 3)) (i.2.1 (j + 4))), .int (i.2.1 (j + 2)), .int (i.2.1 (j + 1)), .ref 1], hX (cX i s) T)) rfl ?_
  refine lx_I (idx := 286) rfl rfl rfl (Nat.le_of_ble_eq_true rfl) (Nat.le_of_ble_eq_true rfl) rfl (lg_write (d := d) h _ _ _) (fun cd T' q => ?_)
  refine ev_ex 6 (c' := (2478, lL j (some (.int cd)) y z, [.int (nI j + nI 1), .ref 0, .ref 2], hX (cX i s) T')) rfl ?_
  refine l_A (k := 1) rfl (by omega) hn ?_
  refine ev_ex 4 (c' := (2484, lL j (some (.int cd)) y z, [.int (nI j + nI 2), .ref 0, .int (i.2.1 (j + 1)), .ref 2], hX (cX i s) T')) rfl ?_
  refine l_A (k := 2) rfl (by omega) hn ?_
  refine ev_ex 4 (c' := (2490, lL j (some (.int cd)) y z, [.int (nI j + nI 3), .ref 0, .int (i.2.1 (j + 2)), .int (i.2.1 (j + 1)), .ref 2], hX (cX i s) T')) rfl ?_
  refine l_A (k := 3) rfl (by omega) hn ?_
  refine ev_ex 7 (c' := (2500, lL j (some (.int cd)) y z, [.int (nI j + nI 4), .ref 0, .long ((i.2.1 (j + 3)).toInt64 <<< ((32 : Int32).toInt64 &&& 63)), .int (i.2.1 (j + 2)), .int (i.2.1 (j + 1)), .ref 2], hX (cX i s) T')) rfl ?_
  refine l_A (k := 4) rfl (by omega) hn ?_
  refine ev_ex 4 (c' := (2507, lL j (some (.int cd)) y z, [.long (two (i.2.1 (j + 3)) (i.2.1 (j + 4))), .int (i.2.1 (j + 2)), .int (i.2.1 (j + 1)), .ref 2], hX (cX i s) T')) rfl ?_
  refine lr_J (idx := 289) rfl rfl rfl (Nat.le_of_ble_eq_true rfl) (Nat.le_of_ble_eq_true rfl) rfl q (fun u s' q' => ?_)
  refine ev_ex 2 (c' := (2513, lL j (some (.int cd)) (some (.long u)) none, [.ref 2], hX (cX i s') T')) rfl ?_
  refine lr_I (idx := 143) rfl rfl rfl (Nat.le_of_ble_eq_true rfl) (Nat.le_of_ble_eq_true rfl) rfl (w_R_thrown (Q := fun t s2 => t = s'.1 4 ∧ s2 = s') ⟨rfl, rfl⟩) (fun t s2 q2 => ?_)
  obtain ⟨rfl, rfl⟩ := q2
  refine ev_ex 1 (c' := (2518, lL j (some (.int cd)) (some (.long u)) none, [.int cd, .int (s2.1 4)], hX (cX i s2) T')) rfl ?_
  refine ev_icmp_eq (tgt := 2523) rfl rfl (fun _ => ?_) (fun w => absurd q'.1 w)
  refine ev_ex 1 (c' := (2525, lL j (some (.int cd)) (some (.long u)) none, [.int cd], hX (cX i s2) T')) rfl ?_
  have go : ev (t_P i.1 i.2.1 i.2.2) (d + 66) m_L_law 2539 (lL j (some (.int cd)) (some (.long u)) none) [] (hX (cX i s2) T') Q := by
    refine ev_ex 1 (c' := (2695, lL j (some (.int cd)) (some (.long u)) none, [], hX (cX i s2) T')) rfl ?_
    exact nx T' s2 _ _ _ q'.2.2
  refine ev_if_ne (tgt := 2539) rfl rfl (fun _ => go) (fun w => ?_)
  refine ev_ex 2 (c' := (2530, lL j (some (.int cd)) (some (.long u)) none, [.int 0, .ref 3], hX (cX i s2) T')) rfl ?_
  refine l_out rfl q'.2.2.2 ?_
  rw [q'.2.1 w]
  refine ev_ex 1 (c' := (2533, lL j (some (.int cd)) (some (.long u)) none, [.long u, .long u], hX (cX i s2) T')) rfl ?_
  refine l_cmp rfl ?_
  exact ev_if_eq (tgt := 2539) rfl rfl (fun _ => go) (fun w => absurd rfl w)
set_option maxRecDepth 8000 in
theorem lc_45 (hj : j + 6 ≤ i.1) (hn : i.1 < 2 ^ 31) (h : IVE B T s) (nx : NX i (B + 1) (d + 66) j Q) (x y z : Option Value) : EL i (d + 66) 2598 (lL j x y z) [] T s Q := by
  refine ev_ex 5 (c' := (2604, lL j x y z, [.int (nI j + nI 1), .ref 0, .ref 1], hX (cX i s) T)) rfl ?_
  refine l_A (k := 1) rfl (by omega) hn ?_
  refine lx_I (idx := 293) rfl rfl rfl (Nat.le_of_ble_eq_true rfl) (Nat.le_of_ble_eq_true rfl) rfl (lg_image (d := d) h _) (fun cd T' q => ?_)
  refine ev_ex 6 (c' := (2616, lL j (some (.int cd)) y z, [.int (nI j + nI 1), .ref 0, .ref 2], hX (cX i s) T')) rfl ?_
  refine l_A (k := 1) rfl (by omega) hn ?_
  refine lr_V (idx := 296) rfl rfl rfl (Nat.le_of_ble_eq_true rfl) (Nat.le_of_ble_eq_true rfl) rfl q (fun s' q' => ?_)
  refine ev_ex 1 (c' := (2621, lL j (some (.int cd)) y z, [.ref 2], hX (cX i s') T')) rfl ?_
  refine lr_I (idx := 143) rfl rfl rfl (Nat.le_of_ble_eq_true rfl) (Nat.le_of_ble_eq_true rfl) rfl (w_R_thrown (Q := fun t s2 => t = s'.1 4 ∧ s2 = s') ⟨rfl, rfl⟩) (fun t s2 q2 => ?_)
  obtain ⟨rfl, rfl⟩ := q2
  refine ev_ex 1 (c' := (2626, lL j (some (.int cd)) y z, [.int cd, .int (s2.1 4)], hX (cX i s2) T')) rfl ?_
  refine ev_icmp_eq (tgt := 2631) rfl rfl (fun _ => ?_) (fun w => absurd q'.1 w)
  refine ev_ex 1 (c' := (2695, lL j (some (.int cd)) y z, [], hX (cX i s2) T')) rfl ?_
  exact nx T' s2 _ _ _ q'.2
set_option maxRecDepth 8000 in
theorem lc_46 (hj : j + 6 ≤ i.1) (hn : i.1 < 2 ^ 31) (h : IVE B T s) (nx : NX i (B + 1) (d + 66) j Q) (x y z : Option Value) : EL i (d + 66) 2634 (lL j x y z) [] T s Q := by
  refine ev_ex 5 (c' := (2640, lL j x y z, [.int (nI j + nI 1), .ref 0, .ref 1], hX (cX i s) T)) rfl ?_
  refine l_A (k := 1) rfl (by omega) hn ?_
  refine lx_I (idx := 297) rfl rfl rfl (Nat.le_of_ble_eq_true rfl) (Nat.le_of_ble_eq_true rfl) rfl (lg_restore (d := d) h _) (fun cd T' q => ?_)
  refine ev_ex 6 (c' := (2652, lL j (some (.int cd)) y z, [.int (nI j + nI 1), .ref 0, .ref 2], hX (cX i s) T')) rfl ?_
  refine l_A (k := 1) rfl (by omega) hn ?_
  refine lr_V (idx := 299) rfl rfl rfl (Nat.le_of_ble_eq_true rfl) (Nat.le_of_ble_eq_true rfl) rfl q (fun s' q' => ?_)
  refine ev_ex 1 (c' := (2657, lL j (some (.int cd)) y z, [.ref 2], hX (cX i s') T')) rfl ?_
  refine lr_I (idx := 143) rfl rfl rfl (Nat.le_of_ble_eq_true rfl) (Nat.le_of_ble_eq_true rfl) rfl (w_R_thrown (Q := fun t s2 => t = s'.1 4 ∧ s2 = s') ⟨rfl, rfl⟩) (fun t s2 q2 => ?_)
  obtain ⟨rfl, rfl⟩ := q2
  refine ev_ex 1 (c' := (2662, lL j (some (.int cd)) y z, [.int cd, .int (s2.1 4)], hX (cX i s2) T')) rfl ?_
  refine ev_icmp_eq (tgt := 2667) rfl rfl (fun _ => ?_) (fun w => absurd q'.1 w)
  refine ev_ex 1 (c' := (2695, lL j (some (.int cd)) y z, [], hX (cX i s2) T')) rfl ?_
  exact nx T' s2 _ _ _ q'.2
set_option maxRecDepth 8000 in
theorem lc_16 (hj : j + 6 ≤ i.1) (hn : i.1 < 2 ^ 31) (h : IVE B T s) (nx : NX i (B + 1) (d + 66) j Q) (x y z : Option Value) : EL i (d + 66) 1147 (lL j x y z) [] T s Q := by
  obtain ⟨⟨A, h⟩, a3⟩ := h
  by_cases zz : i.2.1 (j + 1) = 0
  · refine ev_ex 5 (c' := (1153, lL j x y z, [.int (nI j + nI 1), .ref 0, .ref 1], hX (cX i s) T)) rfl ?_
    refine l_A (k := 1) rfl (by omega) hn ?_
    refine ev_if_eq (tgt := 1161) rfl rfl (fun w => ?_) (fun w => absurd zz w)
    refine ev_ex 1 (c' := (1162, lL j x y z, [.int (bI false), .ref 1], hX (cX i s) T)) rfl ?_
    refine lx_I (idx := 193) rfl rfl rfl (Nat.le_of_ble_eq_true rfl) (Nat.le_of_ble_eq_true rfl) (x_rcv (c := cX i s) (T := T) (ob_lit (i := 0) rfl (by decide) rfl) ⟨by decide, by decide⟩ _ _) (XI_sg (ag_rings (d := d + 1) (i := i) h false)) (fun u T' q => ?_)
    refine ev_ex 5 (c' := (1171, lL j x y z, [.int (nI j + nI 1), .ref 0, .ref 2, .int u], hX (cX i s) T')) rfl ?_
    refine l_A (k := 1) rfl (by omega) hn ?_
    refine ev_if_eq (tgt := 1179) rfl rfl (fun w => ?_) (fun w => absurd zz w)
    refine ev_ex 1 (c' := (1180, lL j x y z, [.int (bI false), .ref 2, .int u], hX (cX i s) T')) rfl ?_
    refine lr_I (idx := 197) rfl rfl rfl (Nat.le_of_ble_eq_true rfl) (Nat.le_of_ble_eq_true rfl) rfl q.1 (fun v s' q' => ?_)
    exact ev_icmp_eq (tgt := 2695) rfl rfl (fun _ => nx T' s' _ _ _ ⟨q'.2, sg3 q.2 a3⟩) (fun w => absurd q'.1.symm w)
  · refine ev_ex 5 (c' := (1153, lL j x y z, [.int (nI j + nI 1), .ref 0, .ref 1], hX (cX i s) T)) rfl ?_
    refine l_A (k := 1) rfl (by omega) hn ?_
    refine ev_if_eq (tgt := 1161) rfl rfl (fun w => absurd w zz) (fun w => ?_)
    refine ev_ex 2 (c' := (1162, lL j x y z, [.int (bI true), .ref 1], hX (cX i s) T)) rfl ?_
    refine lx_I (idx := 193) rfl rfl rfl (Nat.le_of_ble_eq_true rfl) (Nat.le_of_ble_eq_true rfl) (x_rcv (c := cX i s) (T := T) (ob_lit (i := 0) rfl (by decide) rfl) ⟨by decide, by decide⟩ _ _) (XI_sg (ag_rings (d := d + 1) (i := i) h true)) (fun u T' q => ?_)
    refine ev_ex 5 (c' := (1171, lL j x y z, [.int (nI j + nI 1), .ref 0, .ref 2, .int u], hX (cX i s) T')) rfl ?_
    refine l_A (k := 1) rfl (by omega) hn ?_
    refine ev_if_eq (tgt := 1179) rfl rfl (fun w => absurd w zz) (fun w => ?_)
    refine ev_ex 2 (c' := (1180, lL j x y z, [.int (bI true), .ref 2, .int u], hX (cX i s) T')) rfl ?_
    refine lr_I (idx := 197) rfl rfl rfl (Nat.le_of_ble_eq_true rfl) (Nat.le_of_ble_eq_true rfl) rfl q.1 (fun v s' q' => ?_)
    exact ev_icmp_eq (tgt := 2695) rfl rfl (fun _ => nx T' s' _ _ _ ⟨q'.2, sg3 q.2 a3⟩) (fun w => absurd q'.1.symm w)
end LB1
