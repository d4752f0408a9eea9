/-! the law: its cases -/
section LA1
variable {i : IN} {B d j pc : Nat} {T T' : XS} {s s' : RS} {L : mj_L} {st : List Value} {Q : PO}
theorem l_cmp {len : Nat} {v : Int64} {r : List Value} (hi : mj_ins (t_P i.1 i.2.1 i.2.2) m_L_law pc = some (.lcmp, len)) (kk : EL i d (pc + len) L (.int 0 :: r) T s Q) : EL i d pc L (.long v :: .long v :: r) T s Q := by
  refine ev_step hi rfl ?_ kk
  simp only [mj_sim]
  rw [show lg_cmp v v = 0 from by unfold lg_cmp; simp]
set_option maxRecDepth 8000 in
theorem lc_0 (hj : j + 6 ≤ i.1) (hn : i.1 < 2 ^ 31) (h : IVE B T s) (nx : NX i (B + 1) (d + 66) j Q) (x y z : Option Value) : EL i (d + 66) 248 (lL j x y z) [] T s Q := by
  refine ev_ex 5 (c' := (254, lL j x y z, [.int (nI j + nI 1), .ref 0, .ref 1], hX (cX i s) T)) rfl ?_
  refine l_A (k := 1) rfl (by omega) hn ?_
  refine ev_ex 4 (c' := (260, lL j x y z, [.int (nI j + nI 2), .ref 0, .int (i.2.1 (j + 1)), .ref 1], hX (cX i s) T)) rfl ?_
  refine l_A (k := 2) rfl (by omega) hn ?_
  refine ev_ex 4 (c' := (266, lL j x y z, [.int (nI j + nI 3), .ref 0, .int (i.2.1 (j + 2)), .int (i.2.1 (j + 1)), .ref 1], hX (cX i s) T)) rfl ?_
  refine l_A (k := 3) rfl (by omega) hn ?_
  refine ev_ex 4 (c' := (272, lL j x y z, [.int (nI j + nI 4), .ref 0, .int (i.2.1 (j + 3)), .int (i.2.1 (j + 2)), .int (i.2.1 (j + 1)), .ref 1], hX (cX i s) T)) rfl ?_
  refine l_A (k := 4) rfl (by omega) hn ?_
  refine ev_ex 4 (c' := (278, lL j x y z, [.int (nI j + nI 5), .ref 0, .int (i.2.1 (j + 4)), .int (i.2.1 (j + 3)), .int (i.2.1 (j + 2)), .int (i.2.1 (j + 1)), .ref 1], hX (cX i s) T)) rfl ?_
  refine l_A (k := 5) rfl (by omega) hn ?_
  obtain ⟨⟨A, h⟩, a3⟩ := h
  refine lx_I (idx := 132) rfl rfl rfl (Nat.le_of_ble_eq_true rfl) (Nat.le_of_ble_eq_true rfl) (x_rcv (c := cX i s) (T := T) (ob_lit (i := 0) rfl (by decide) rfl) ⟨by decide, by decide⟩ _ _) (XI_sg (ag_feed (d := d + 1) (i := i) h)) (fun u T' q => ?_)
  refine ev_ex 5 (c' := (288, lL j x y z, [.int (nI j + nI 1), .ref 0, .ref 2, .int u], hX (cX i s) T')) rfl ?_
  refine l_A (k := 1) rfl (by omega) hn ?_
  refine ev_ex 4 (c' := (294, lL j x y z, [.int (nI j + nI 2), .ref 0, .int (i.2.1 (j + 1)), .ref 2, .int u], hX (cX i s) T')) rfl ?_
  refine l_A (k := 2) rfl (by omega) hn ?_
  refine ev_ex 4 (c' := (300, lL j x y z, [.int (nI j + nI 3), .ref 0, .int (i.2.1 (j + 2)), .int (i.2.1 (j + 1)), .ref 2, .int u], hX (cX i s) T')) rfl ?_
  refine l_A (k := 3) rfl (by omega) hn ?_
  refine ev_ex 4 (c' := (306, lL j x y z, [.int (nI j + nI 4), .ref 0, .int (i.2.1 (j + 3)), .int (i.2.1 (j + 2)), .int (i.2.1 (j + 1)), .ref 2, .int u], hX (cX i s) T')) rfl ?_
  refine l_A (k := 4) rfl (by omega) hn ?_
  refine ev_ex 4 (c' := (312, lL j x y z, [.int (nI j + nI 5), .ref 0, .int (i.2.1 (j + 4)), .int (i.2.1 (j + 3)), .int (i.2.1 (j + 2)), .int (i.2.1 (j + 1)), .ref 2, .int u], hX (cX i s) T')) rfl ?_
  refine l_A (k := 5) rfl (by omega) hn ?_
  refine lr_I (idx := 136) rfl rfl rfl (Nat.le_of_ble_eq_true rfl) (Nat.le_of_ble_eq_true rfl) rfl q.1 (fun v s' q' => ?_)
  exact ev_icmp_eq (tgt := 2695) rfl rfl (fun _ => nx T' s' _ _ _ ⟨q'.2, sg3 q.2 a3⟩) (fun w => absurd q'.1.symm w)
set_option maxRecDepth 8000 in
theorem lc_1 (hf : ∀ s, fvok (cX i s)) (hj : j + 6 ≤ i.1) (hn : i.1 < 2 ^ 31) (h : IVE B T s) (nx : NX i (B + 1) (d + 66) j Q) (x y z : Option Value) : EL i (d + 66) 321 (lL j x y z) [] T s Q := by
  refine ev_ex 5 (c' := (327, lL j x y z, [.int (nI j + nI 1), .ref 0, .ref 1], hX (cX i s) T)) rfl ?_
  refine l_A (k := 1) rfl (by omega) hn ?_
  refine ev_ex 1 (c' := (329, lL j x y z, [.ref 3, .int (i.2.1 (j + 1)), .ref 1], hX (cX i s) T)) rfl ?_
  refine lx_I (idx := 137) rfl rfl rfl (Nat.le_of_ble_eq_true rfl) (Nat.le_of_ble_eq_true rfl) rfl (lg_carnival (d := d) hf h _) (fun cd T' q => ?_)
  refine ev_ex 6 (c' := (340, lL j (some (.int cd)) y z, [.int (nI j + nI 1), .ref 0, .ref 2], hX (cX i s) T')) rfl ?_
  refine l_A (k := 1) rfl (by omega) hn ?_
  refine lr_I (idx := 142) rfl rfl rfl (Nat.le_of_ble_eq_true rfl) (Nat.le_of_ble_eq_true rfl) rfl q (fun u s' q' => ?_)
  refine ev_ex 2 (c' := (347, lL j (some (.int cd)) (some (.int u)) z, [.ref 2], hX (cX i s') T')) rfl ?_
  refine lr_I (idx := 143) rfl rfl rfl (Nat.le_of_ble_eq_true rfl) (Nat.le_of_ble_eq_true rfl) rfl (w_R_thrown (Q := fun t s2 => t = s'.1 4 ∧ s2 = s') ⟨rfl, rfl⟩) (fun t s2 q2 => ?_)
  obtain ⟨rfl, rfl⟩ := q2
  refine ev_ex 1 (c' := (352, lL j (some (.int cd)) (some (.int u)) z, [.int cd, .int (s2.1 4)], hX (cX i s2) T')) rfl ?_
  refine ev_icmp_eq (tgt := 357) rfl rfl (fun _ => ?_) (fun w => absurd q'.1 w)
  refine ev_ex 1 (c' := (359, lL j (some (.int cd)) (some (.int u)) z, [.int cd], hX (cX i s2) T')) rfl ?_
  have go : ev (t_P i.1 i.2.1 i.2.2) (d + 66) m_L_law 374 (lL j (some (.int cd)) (some (.int u)) z) [] (hX (cX i s2) T') Q := by
    refine ev_ex 1 (c' := (2695, lL j (some (.int cd)) (some (.int u)) z, [], hX (cX i s2) T')) rfl ?_
    exact nx T' s2 _ _ _ q'.2.2
  refine ev_if_ne (tgt := 374) rfl rfl (fun _ => go) (fun w => ?_)
  refine ev_ex 2 (c' := (364, lL j (some (.int cd)) (some (.int u)) z, [.int 0, .ref 3], hX (cX i s2) T')) rfl ?_
  refine l_out rfl q'.2.2.2 ?_
  rw [q'.2.1 w]
  refine ev_ex 2 (c' := (368, lL j (some (.int cd)) (some (.int u)) z, [.long u.toInt64, .long u.toInt64], hX (cX i s2) T')) rfl ?_
  refine l_cmp rfl ?_
  exact ev_if_eq (tgt := 374) rfl rfl (fun _ => go) (fun w => absurd rfl w)
set_option maxRecDepth 8000 in
theorem lc_2 (hj : j + 6 ≤ i.1) (hn : i.1 < 2 ^ 31) (h : IVE B T s) (nx : NX i (B + 1) (d + 66) j Q) (x y z : Option Value) : EL i (d + 66) 377 (lL j x y z) [] T s Q := by
  refine ev_ex 5 (c' := (383, lL j x y z, [.int (nI j + nI 1), .ref 0, .ref 1], hX (cX i s) T)) rfl ?_
  refine l_A (k := 1) rfl (by omega) hn ?_
  obtain ⟨⟨A, h⟩, a3⟩ := h
  refine lx_I (idx := 147) rfl rfl rfl (Nat.le_of_ble_eq_true rfl) (Nat.le_of_ble_eq_true rfl) (x_rcv (c := cX i s) (T := T) (ob_lit (i := 0) rfl (by decide) rfl) ⟨by decide, by decide⟩ _ _) (XI_sg (ag_fault (d := d + 1) (i := i) h)) (fun u T' q => ?_)
  refine ev_ex 5 (c' := (393, lL j x y z, [.int (nI j + nI 1), .ref 0, .ref 2, .int u], hX (cX i s) T')) rfl ?_
  refine l_A (k := 1) rfl (by omega) hn ?_
  refine lr_I (idx := 150) rfl rfl rfl (Nat.le_of_ble_eq_true rfl) (Nat.le_of_ble_eq_true rfl) rfl q.1 (fun v s' q' => ?_)
  exact ev_icmp_eq (tgt := 2695) rfl rfl (fun _ => nx T' s' _ _ _ ⟨q'.2, sg3 q.2 a3⟩) (fun w => absurd q'.1.symm w)
set_option maxRecDepth 8000 in
theorem lc_3 (hj : j + 6 ≤ i.1) (hn : i.1 < 2 ^ 31) (h : IVE B T s) (nx : NX i (B + 1) (d + 66) j Q) (x y z : Option Value) : EL i (d + 66) 402 (lL j x y z) [] T s Q := by
  refine ev_ex 5 (c' := (408, lL j x y z, [.int (nI j + nI 1), .ref 0, .ref 1], hX (cX i s) T)) rfl ?_
  refine l_A (k := 1) rfl (by omega) hn ?_
  refine ev_ex 4 (c' := (414, lL j x y z, [.int (nI j + nI 2), .ref 0, .int (i.2.1 (j + 1)), .ref 1], hX (cX i s) T)) rfl ?_
  refine l_A (k := 2) rfl (by omega) hn ?_
  refine ev_ex 1 (c' := (416, lL j x y z, [.ref 3, .int (i.2.1 (j + 2)), .int (i.2.1 (j + 1)), .ref 1], hX (cX i s) T)) rfl ?_
  refine lx_I (idx := 151) rfl rfl rfl (Nat.le_of_ble_eq_true rfl) (Nat.le_of_ble_eq_true rfl) rfl (lg_guild (d := d) h _ _) (fun cd T' q => ?_)
  refine ev_ex 6 (c' := (427, lL j (some (.int cd)) y z, [.int (nI j + nI 1), .ref 0, .ref 2], hX (cX i s) T')) rfl ?_
  refine l_A (k := 1) rfl (by omega) hn ?_
  refine ev_ex 4 (c' := (433, lL j (some (.int cd)) y z, [.int (nI j + nI 2), .ref 0, .int (i.2.1 (j + 1)), .ref 2], hX (cX i s) T')) rfl ?_
  refine l_A (k := 2) rfl (by omega) hn ?_
  refine lr_I (idx := 154) rfl rfl rfl (Nat.le_of_ble_eq_true rfl) (Nat.le_of_ble_eq_true rfl) rfl q (fun u s' q' => ?_)
  refine ev_ex 2 (c' := (440, lL j (some (.int cd)) (some (.int u)) z, [.ref 2], hX (cX i s') T')) rfl ?_
  refine lr_I (idx := 143) rfl rfl rfl (Nat.le_of_ble_eq_true rfl) (Nat.le_of_ble_eq_true rfl) rfl (w_R_thrown (Q := fun t s2 => t = s'.1 4 ∧ s2 = s') ⟨rfl, rfl⟩) (fun t s2 q2 => ?_)
  obtain ⟨rfl, rfl⟩ := q2
  refine ev_ex 1 (c' := (445, lL j (some (.int cd)) (some (.int u)) z, [.int cd, .int (s2.1 4)], hX (cX i s2) T')) rfl ?_
  refine ev_icmp_eq (tgt := 450) rfl rfl (fun _ => ?_) (fun w => absurd q'.1 w)
  refine ev_ex 1 (c' := (452, lL j (some (.int cd)) (some (.int u)) z, [.int cd], hX (cX i s2) T')) rfl ?_
  have go : ev (t_P i.1 i.2.1 i.2.2) (d + 66) m_L_law 467 (lL j (some (.int cd)) (some (.int u)) z) [] (hX (cX i s2) T') Q := by
    refine ev_ex 1 (c' := (2695, lL j (some (.int cd)) (some (.int u)) z, [], hX (cX i s2) T')) rfl ?_
    exact nx T' s2 _ _ _ q'.2.2
  refine ev_if_ne (tgt := 467) rfl rfl (fun _ => go) (fun w => ?_)
  refine ev_ex 2 (c' := (457, lL j (some (.int cd)) (some (.int u)) z, [.int 0, .ref 3], hX (cX i s2) T')) rfl ?_
  refine l_out rfl q'.2.2.2 ?_
  rw [q'.2.1 w]
  refine ev_ex 2 (c' := (461, lL j (some (.int cd)) (some (.int u)) z, [.long u.toInt64, .long u.toInt64], hX (cX i s2) T')) rfl ?_
  refine l_cmp rfl ?_
  exact ev_if_eq (tgt := 467) rfl rfl (fun _ => go) (fun w => absurd rfl w)
set_option maxRecDepth 8000 in
theorem lc_5 (hj : j + 6 ≤ i.1) (hn : i.1 < 2 ^ 31) (h : IVE B T s) (nx : NX i (B + 1) (d + 66) j Q) (x y z : Option Value) : EL i (d + 66) 545 (lL j x y z) [] T s Q := by
  refine ev_ex 5 (c' := (551, lL j x y z, [.int (nI j + nI 1), .ref 0, .ref 1], hX (cX i s) T)) rfl ?_
  refine l_A (k := 1) rfl (by omega) hn ?_
  refine ev_ex 1 (c' := (553, lL j x y z, [.ref 3, .int (i.2.1 (j + 1)), .ref 1], hX (cX i s) T)) rfl ?_
  refine lx_I (idx := 158) rfl rfl rfl (Nat.le_of_ble_eq_true rfl) (Nat.le_of_ble_eq_true rfl) rfl (lg_tomorrow (d := d) h _) (fun cd T' q => ?_)
  refine ev_ex 6 (c' := (564, lL j (some (.int cd)) y z, [.int (nI j + nI 1), .ref 0, .ref 2], hX (cX i s) T')) rfl ?_
  refine l_A (k := 1) rfl (by omega) hn ?_
  refine lr_I (idx := 160) rfl rfl rfl (Nat.le_of_ble_eq_true rfl) (Nat.le_of_ble_eq_true rfl) rfl q (fun u s' q' => ?_)
  refine ev_ex 2 (c' := (571, lL j (some (.int cd)) (some (.int u)) z, [.ref 2], hX (cX i s') T')) rfl ?_
  refine lr_I (idx := 143) rfl rfl rfl (Nat.le_of_ble_eq_true rfl) (Nat.le_of_ble_eq_true rfl) rfl (w_R_thrown (Q := fun t s2 => t = s'.1 4 ∧ s2 = s') ⟨rfl, rfl⟩) (fun t s2 q2 => ?_)
  obtain ⟨rfl, rfl⟩ := q2
  refine ev_ex 1 (c' := (576, lL j (some (.int cd)) (some (.int u)) z, [.int cd, .int (s2.1 4)], hX (cX i s2) T')) rfl ?_
  refine ev_icmp_eq (tgt := 581) rfl rfl (fun _ => ?_) (fun w => absurd q'.1 w)
  refine ev_ex 1 (c' := (583, lL j (some (.int cd)) (some (.int u)) z, [.int cd], hX (cX i s2) T')) rfl ?_
  have go : ev (t_P i.1 i.2.1 i.2.2) (d + 66) m_L_law 598 (lL j (some (.int cd)) (some (.int u)) z) [] (hX (cX i s2) T') Q := by
    refine ev_ex 1 (c' := (2695, lL j (some (.int cd)) (some (.int u)) z, [], hX (cX i s2) T')) rfl ?_
    exact nx T' s2 _ _ _ q'.2.2
  refine ev_if_ne (tgt := 598) rfl rfl (fun _ => go) (fun w => ?_)
  refine ev_ex 2 (c' := (588, lL j (some (.int cd)) (some (.int u)) z, [.int 0, .ref 3], hX (cX i s2) T')) rfl ?_
  refine l_out rfl q'.2.2.2 ?_
  rw [q'.2.1 w]
  refine ev_ex 2 (c' := (592, lL j (some (.int cd)) (some (.int u)) z, [.long u.toInt64, .long u.toInt64], hX (cX i s2) T')) rfl ?_
  refine l_cmp rfl ?_
  exact ev_if_eq (tgt := 598) rfl rfl (fun _ => go) (fun w => absurd rfl w)
set_option maxRecDepth 8000 in
theorem lc_6 (hj : j + 6 ≤ i.1) (hn : i.1 < 2 ^ 31) (h : IVE B T s) (nx : NX i (B + 1) (d + 66) j Q) (x y z : Option Value) : EL i (d + 66) 601 (lL j x y z) [] T s Q := by
  refine ev_ex 5 (c' := (607, lL j x y z, [.int (nI j + nI 1), .ref 0, .ref 1], hX (cX i s) T)) rfl ?_
  refine l_A (k := 1) rfl (by omega) hn ?_
  refine ev_ex 4 (c' := (613, lL j x y z, [.int (nI j + nI 2), .ref 0, .int (i.2.1 (j + 1)), .ref 1], hX (cX i s) T)) rfl ?_
  refine l_A (k := 2) rfl (by omega) hn ?_
  refine ev_ex 1 (c' := (615, lL j x y z, [.ref 3, .int (i.2.1 (j + 2)), .int (i.2.1 (j + 1)), .ref 1], hX (cX i s) T)) rfl ?_
  refine lx_I (idx := 161) rfl rfl rfl (Nat.le_of_ble_eq_true rfl) (Nat.le_of_ble_eq_true rfl) rfl (lg_step (d := d) h _ _) (fun cd T' q => ?_)
  refine ev_ex 6 (c' := (626, lL j (some (.int cd)) y z, [.int (nI j + nI 1), .ref 0, .ref 2], hX (cX i s) T')) rfl ?_
  refine l_A (k := 1) rfl (by omega) hn ?_
  refine ev_ex 4 (c' := (632, lL j (some (.int cd)) y z, [.int (nI j + nI 2), .ref 0, .int (i.2.1 (j + 1)), .ref 2], hX (cX i s) T')) rfl ?_
  refine l_A (k := 2) rfl (by omega) hn ?_
  refine lr_I (idx := 163) rfl rfl rfl (Nat.le_of_ble_eq_true rfl) (Nat.le_of_ble_eq_true rfl) rfl q (fun u s' q' => ?_)
  refine ev_ex 2 (c' := (639, lL j (some (.int cd)) (some (.int u)) z, [.ref 2], hX (cX i s') T')) rfl ?_
  refine lr_I (idx := 143) rfl rfl rfl (Nat.le_of_ble_eq_true rfl) (Nat.le_of_ble_eq_true rfl) rfl (w_R_thrown (Q := fun t s2 => t = s'.1 4 ∧ s2 = s') ⟨rfl, rfl⟩) (fun t s2 q2 => ?_)
  obtain ⟨rfl, rfl⟩ := q2
  refine ev_ex 1 (c' := (644, lL j (some (.int cd)) (some (.int u)) z, [.int cd, .int (s2.1 4)], hX (cX i s2) T')) rfl ?_
  refine ev_icmp_eq (tgt := 649) rfl rfl (fun _ => ?_) (fun w => absurd q'.1 w)
  refine ev_ex 1 (c' := (651, lL j (some (.int cd)) (some (.int u)) z, [.int cd], hX (cX i s2) T')) rfl ?_
  have go : ev (t_P i.1 i.2.1 i.2.2) (d + 66) m_L_law 666 (lL j (some (.int cd)) (some (.int u)) z) [] (hX (cX i s2) T') Q := by
    refine ev_ex 1 (c' := (2695, lL j (some (.int cd)) (some (.int u)) z, [], hX (cX i s2) T')) rfl ?_
    exact nx T' s2 _ _ _ q'.2.2
  refine ev_if_ne (tgt := 666) rfl rfl (fun _ => go) (fun w => ?_)
  refine ev_ex 2 (c' := (656, lL j (some (.int cd)) (some (.int u)) z, [.int 0, .ref 3], hX (cX i s2) T')) rfl ?_
  refine l_out rfl q'.2.2.2 ?_
  rw [q'.2.1 w]
  refine ev_ex 2 (c' := (660, lL j (some (.int cd)) (some (.int u)) z, [.long u.toInt64, .long u.toInt64], hX (cX i s2) T')) rfl ?_
  refine l_cmp rfl ?_
  exact ev_if_eq (tgt := 666) rfl rfl (fun _ => go) (fun w => absurd rfl w)
set_option maxRecDepth 8000 in
theorem lc_7 (hj : j + 6 ≤ i.1) (hn : i.1 < 2 ^ 31) (h : IVE B T s) (nx : NX i (B + 1) (d + 66) j Q) (x y z : Option Value) : EL i (d + 66) 669 (lL j x y z) [] T s Q := by
  refine ev_ex 5 (c' := (675, lL j x y z, [.int (nI j + nI 1), .ref 0, .ref 1], hX (cX i s) T)) rfl ?_
  refine l_A (k := 1) rfl (by omega) hn ?_
  refine ev_ex 4 (c' := (681, lL j x y z, [.int (nI j + nI 2), .ref 0, .int (i.2.1 (j + 1)), .ref 1], hX (cX i s) T)) rfl ?_
  refine l_A (k := 2) rfl (by omega) hn ?_
  obtain ⟨⟨A, h⟩, a3⟩ := h
  refine lx_I (idx := 164) rfl rfl rfl (Nat.le_of_ble_eq_true rfl) (Nat.le_of_ble_eq_true rfl) (x_rcv (c := cX i s) (T := T) (ob_lit (i := 0) rfl (by decide) rfl) ⟨by decide, by decide⟩ _ _) (XI_sg (ag_mock (d := d + 1) (i := i) h)) (fun u T' q => ?_)
  refine ev_ex 5 (c' := (691, lL j x y z, [.int (nI j + nI 1), .ref 0, .ref 2, .int u], hX (cX i s) T')) rfl ?_
  refine l_A (k := 1) rfl (by omega) hn ?_
  refine ev_ex 4 (c' := (697, lL j x y z, [.int (nI j + nI 2), .ref 0, .int (i.2.1 (j + 1)), .ref 2, .int u], hX (cX i s) T')) rfl ?_
  refine l_A (k := 2) rfl (by omega) hn ?_
  refine lr_I (idx := 167) rfl rfl rfl (Nat.le_of_ble_eq_true rfl) (Nat.le_of_ble_eq_true rfl) rfl q.1 (fun v s' q' => ?_)
  exact ev_icmp_eq (tgt := 2695) rfl rfl (fun _ => nx T' s' _ _ _ ⟨q'.2, sg3 q.2 a3⟩) (fun w => absurd q'.1.symm w)
set_option maxRecDepth 8000 in
theorem lc_8 (hj : j + 6 ≤ i.1) (hn : i.1 < 2 ^ 31) (h : IVE B T s) (nx : NX i (B + 1) (d + 66) j Q) (x y z : Option Value) : EL i (d + 66) 706 (lL j x y z) [] T s Q := by
  refine ev_ex 5 (c' := (712, lL j x y z, [.int (nI j + nI 1), .ref 0, .ref 1], hX (cX i s) T)) rfl ?_
  refine l_A (k := 1) rfl (by omega) hn ?_
  refine ev_ex 1 (c' := (714, lL j x y z, [.ref 3, .int (i.2.1 (j + 1)), .ref 1], hX (cX i s) T)) rfl ?_
  refine lx_I (idx := 168) rfl rfl rfl (Nat.le_of_ble_eq_true rfl) (Nat.le_of_ble_eq_true rfl) rfl (lg_spare (d := d) h _) (fun cd T' q => ?_)
  refine ev_ex 6 (c' := (725, lL j (some (.int cd)) y z, [.int (nI j + nI 1), .ref 0, .ref 2], hX (cX i s) T')) rfl ?_
  refine l_A (k := 1) rfl (by omega) hn ?_
  refine lr_I (idx := 170) rfl rfl rfl (Nat.le_of_ble_eq_true rfl) (Nat.le_of_ble_eq_true rfl) rfl q (fun u s' q' => ?_)
  refine ev_ex 2 (c' := (732, lL j (some (.int cd)) (some (.int u)) z, [.ref 2], hX (cX i s') T')) rfl ?_
  refine lr_I (idx := 143) rfl rfl rfl (Nat.le_of_ble_eq_true rfl) (Nat.le_of_ble_eq_true rfl) rfl (w_R_thrown (Q := fun t s2 => t = s'.1 4 ∧ s2 = s') ⟨rfl, rfl⟩) (fun t s2 q2 => ?_)
  obtain ⟨rfl, rfl⟩ := q2
  refine ev_ex 1 (c' := (737, lL j (some (.int cd)) (some (.int u)) z, [.int cd, .int (s2.1 4)], hX (cX i s2) T')) rfl ?_
  refine ev_icmp_eq (tgt := 742) rfl rfl (fun _ => ?_) (fun w => absurd q'.1 w)
  refine ev_ex 1 (c' := (744, lL j (some (.int cd)) (some (.int u)) z, [.int cd], hX (cX i s2) T')) rfl ?_
  have go : ev (t_P i.1 i.2.1 i.2.2) (d + 66) m_L_law 759 (lL j (some (.int cd)) (some (.int u)) z) [] (hX (cX i s2) T') Q := by
    refine ev_ex 1 (c' := (2695, lL j (some (.int cd)) (some (.int u)) z, [], hX (cX i s2) T')) rfl ?_
    exact nx T' s2 _ _ _ q'.2.2
  refine ev_if_ne (tgt := 759) rfl rfl (fun _ => go) (fun w => ?_)
  refine ev_ex 2 (c' := (749, lL j (some (.int cd)) (some (.int u)) z, [.int 0, .ref 3], hX (cX i s2) T')) rfl ?_
  refine l_out rfl q'.2.2.2 ?_
  rw [q'.2.1 w]
  refine ev_ex 2 (c' := (753, lL j (some (.int cd)) (some (.int u)) z, [.long u.toInt64, .long u.toInt64], hX (cX i s2) T')) rfl ?_
  refine l_cmp rfl ?_
  exact ev_if_eq (tgt := 759) rfl rfl (fun _ => go) (fun w => absurd rfl w)
set_option maxRecDepth 8000 in
theorem lc_9 (hj : j + 6 ≤ i.1) (hn : i.1 < 2 ^ 31) (h : IVE B T s) (nx : NX i (B + 1) (d + 66) j Q) (x y z : Option Value) : EL i (d + 66) 762 (lL j x y z) [] T s Q := by
  refine ev_ex 5 (c' := (768, lL j x y z, [.int (nI j + nI 1), .ref 0, .ref 1], hX (cX i s) T)) rfl ?_
  refine l_A (k := 1) rfl (by omega) hn ?_
  refine ev_ex 4 (c' := (774, lL j x y z, [.int (nI j + nI 2), .ref 0, .int (i.2.1 (j + 1)), .ref 1], hX (cX i s) T)) rfl ?_
  refine l_A (k := 2) rfl (by omega) hn ?_
  refine ev_ex 1 (c' := (776, lL j x y z, [.ref 3, .int (i.2.1 (j + 2)), .int (i.2.1 (j + 1)), .ref 1], hX (cX i s) T)) rfl ?_
  refine lx_I (idx := 171) rfl rfl rfl (Nat.le_of_ble_eq_true rfl) (Nat.le_of_ble_eq_true rfl) rfl (lg_rank (d := d) h _ _) (fun cd T' q => ?_)
  refine ev_ex 6 (c' := (787, lL j (some (.int cd)) y z, [.int (nI j + nI 1), .ref 0, .ref 2], hX (cX i s) T')) rfl ?_
  refine l_A (k := 1) rfl (by omega) hn ?_
  refine ev_ex 4 (c' := (793, lL j (some (.int cd)) y z, [.int (nI j + nI 2), .ref 0, .int (i.2.1 (j + 1)), .ref 2], hX (cX i s) T')) rfl ?_
  refine l_A (k := 2) rfl (by omega) hn ?_
  refine lr_I (idx := 173) rfl rfl rfl (Nat.le_of_ble_eq_true rfl) (Nat.le_of_ble_eq_true rfl) rfl q (fun u s' q' => ?_)
  refine ev_ex 2 (c' := (800, lL j (some (.int cd)) (some (.int u)) z, [.ref 2], hX (cX i s') T')) rfl ?_
  refine lr_I (idx := 143) rfl rfl rfl (Nat.le_of_ble_eq_true rfl) (Nat.le_of_ble_eq_true rfl) rfl (w_R_thrown (Q := fun t s2 => t = s'.1 4 ∧ s2 = s') ⟨rfl, rfl⟩) (fun t s2 q2 => ?_)
  obtain ⟨rfl, rfl⟩ := q2
  refine ev_ex 1 (c' := (805, lL j (some (.int cd)) (some (.int u)) z, [.int cd, .int (s2.1 4)], hX (cX i s2) T')) rfl ?_
  refine ev_icmp_eq (tgt := 810) rfl rfl (fun _ => ?_) (fun w => absurd q'.1 w)
  refine ev_ex 1 (c' := (812, lL j (some (.int cd)) (some (.int u)) z, [.int cd], hX (cX i s2) T')) rfl ?_
  have go : ev (t_P i.1 i.2.1 i.2.2) (d + 66) m_L_law 827 (lL j (some (.int cd)) (some (.int u)) z) [] (hX (cX i s2) T') Q := by
    refine ev_ex 1 (c' := (2695, lL j (some (.int cd)) (some (.int u)) z, [], hX (cX i s2) T')) rfl ?_
    exact nx T' s2 _ _ _ q'.2.2
  refine ev_if_ne (tgt := 827) rfl rfl (fun _ => go) (fun w => ?_)
  refine ev_ex 2 (c' := (817, lL j (some (.int cd)) (some (.int u)) z, [.int 0, .ref 3], hX (cX i s2) T')) rfl ?_
  refine l_out rfl q'.2.2.2 ?_
  rw [q'.2.1 w]
  refine ev_ex 2 (c' := (821, lL j (some (.int cd)) (some (.int u)) z, [.long u.toInt64, .long u.toInt64], hX (cX i s2) T')) rfl ?_
  refine l_cmp rfl ?_
  exact ev_if_eq (tgt := 827) rfl rfl (fun _ => go) (fun w => absurd rfl w)
set_option maxRecDepth 8000 in
theorem lc_10 (hj : j + 6 ≤ i.1) (hn : i.1 < 2 ^ 31) (h : IVE B T s) (nx : NX i (B + 1) (d + 66) j Q) (x y z : Option Value) : EL i (d + 66) 830 (lL j x y z) [] T s Q := by
  refine ev_ex 5 (c' := (836, lL j x y z, [.int (nI j + nI 1), .ref 0, .ref 1], hX (cX i s) T)) rfl ?_
  refine l_A (k := 1) rfl (by omega) hn ?_
  refine ev_ex 1 (c' := (838, lL j x y z, [.ref 3, .int (i.2.1 (j + 1)), .ref 1], hX (cX i s) T)) rfl ?_
  refine lx_I (idx := 174) rfl rfl rfl (Nat.le_of_ble_eq_true rfl) (Nat.le_of_ble_eq_true rfl) rfl (lg_nights (d := d) h _) (fun cd T' q => ?_)
  refine ev_ex 6 (c' := (849, lL j (some (.int cd)) y z, [.int (nI j + nI 1), .ref 0, .ref 2], hX (cX i s) T')) rfl ?_
  refine l_A (k := 1) rfl (by omega) hn ?_
  refine lr_I (idx := 176) rfl rfl rfl (Nat.le_of_ble_eq_true rfl) (Nat.le_of_ble_eq_true rfl) rfl q (fun u s' q' => ?_)
  refine ev_ex 2 (c' := (856, lL j (some (.int cd)) (some (.int u)) z, [.ref 2], hX (cX i s') T')) rfl ?_
  refine lr_I (idx := 143) rfl rfl rfl (Nat.le_of_ble_eq_true rfl) (Nat.le_of_ble_eq_true rfl) rfl (w_R_thrown (Q := fun t s2 => t = s'.1 4 ∧ s2 = s') ⟨rfl, rfl⟩) (fun t s2 q2 => ?_)
  obtain ⟨rfl, rfl⟩ := q2
  refine ev_ex 1 (c' := (861, lL j (some (.int cd)) (some (.int u)) z, [.int cd, .int (s2.1 4)], hX (cX i s2) T')) rfl ?_
  refine ev_icmp_eq (tgt := 866) rfl rfl (fun _ => ?_) (fun w => absurd q'.1 w)
  refine ev_ex 1 (c' := (868, lL j (some (.int cd)) (some (.int u)) z, [.int cd], hX (cX i s2) T')) rfl ?_
  have go : ev (t_P i.1 i.2.1 i.2.2) (d + 66) m_L_law 883 (lL j (some (.int cd)) (some (.int u)) z) [] (hX (cX i s2) T') Q := by
    refine ev_ex 1 (c' := (2695, lL j (some (.int cd)) (some (.int u)) z, [], hX (cX i s2) T')) rfl ?_
    exact nx T' s2 _ _ _ q'.2.2
  refine ev_if_ne (tgt := 883) rfl rfl (fun _ => go) (fun w => ?_)
  refine ev_ex 2 (c' := (873, lL j (some (.int cd)) (some (.int u)) z, [.int 0, .ref 3], hX (cX i s2) T')) rfl ?_
  refine l_out rfl q'.2.2.2 ?_
  rw [q'.2.1 w]
  refine ev_ex 2 (c' := (877, lL j (some (.int cd)) (some (.int u)) z, [.long u.toInt64, .long u.toInt64], hX (cX i s2) T')) rfl ?_
  refine l_cmp rfl ?_
  exact ev_if_eq (tgt := 883) rfl rfl (fun _ => go) (fun w => absurd rfl w)
set_option maxRecDepth 8000 in
theorem lc_11 (hj : j + 6 ≤ i.1) (hn : i.1 < 2 ^ 31) (h : IVE B T s) (nx : NX i (B + 1) (d + 66) j Q) (x y z : Option Value) : EL i (d + 66) 886 (lL j x y z) [] T s Q := by
  refine ev_ex 5 (c' := (892, lL j x y z, [.int (nI j + nI 1), .ref 0, .ref 1], hX (cX i s) T)) rfl ?_
  refine l_A (k := 1) rfl (by omega) hn ?_
  refine ev_ex 1 (c' := (894, lL j x y z, [.ref 3, .int (i.2.1 (j + 1)), .ref 1], hX (cX i s) T)) rfl ?_
  refine lx_I (idx := 177) rfl rfl rfl (Nat.le_of_ble_eq_true rfl) (Nat.le_of_ble_eq_true rfl) rfl (lg_undo (d := d) h _) (fun cd T' q => ?_)
  refine ev_ex 6 (c' := (905, lL j (some (.int cd)) y z, [.int (nI j + nI 1), .ref 0, .ref 2], hX (cX i s) T')) rfl ?_
  refine l_A (k := 1) rfl (by omega) hn ?_
  refine lr_I (idx := 179) rfl rfl rfl (Nat.le_of_ble_eq_true rfl) (Nat.le_of_ble_eq_true rfl) rfl q (fun u s' q' => ?_)
  refine ev_ex 2 (c' := (912, lL j (some (.int cd)) (some (.int u)) z, [.ref 2], hX (cX i s') T')) rfl ?_
  refine lr_I (idx := 143) rfl rfl rfl (Nat.le_of_ble_eq_true rfl) (Nat.le_of_ble_eq_true rfl) rfl (w_R_thrown (Q := fun t s2 => t = s'.1 4 ∧ s2 = s') ⟨rfl, rfl⟩) (fun t s2 q2 => ?_)
  obtain ⟨rfl, rfl⟩ := q2
  refine ev_ex 1 (c' := (917, lL j (some (.int cd)) (some (.int u)) z, [.int cd, .int (s2.1 4)], hX (cX i s2) T')) rfl ?_
  refine ev_icmp_eq (tgt := 922) rfl rfl (fun _ => ?_) (fun w => absurd q'.1 w)
  refine ev_ex 1 (c' := (924, lL j (some (.int cd)) (some (.int u)) z, [.int cd], hX (cX i s2) T')) rfl ?_
  have go : ev (t_P i.1 i.2.1 i.2.2) (d + 66) m_L_law 939 (lL j (some (.int cd)) (some (.int u)) z) [] (hX (cX i s2) T') Q := by
    refine ev_ex 1 (c' := (2695, lL j (some (.int cd)) (some (.int u)) z, [], hX (cX i s2) T')) rfl ?_
    exact nx T' s2 _ _ _ q'.2.2
  refine ev_if_ne (tgt := 939) rfl rfl (fun _ => go) (fun w => ?_)
  refine ev_ex 2 (c' := (929, lL j (some (.int cd)) (some (.int u)) z, [.int 0, .ref 3], hX (cX i s2) T')) rfl ?_
  refine l_out rfl q'.2.2.2 ?_
  rw [q'.2.1 w]
  refine ev_ex 2 (c' := (933, lL j (some (.int cd)) (some (.int u)) z, [.long u.toInt64, .long u.toInt64], hX (cX i s2) T')) rfl ?_
  refine l_cmp rfl ?_
  exact ev_if_eq (tgt := 939) rfl rfl (fun _ => go) (fun w => absurd rfl w)
set_option maxRecDepth 8000 in
theorem lc_12 (hj : j + 6 ≤ i.1) (hn : i.1 < 2 ^ 31) (h : IVE B T s) (nx : NX i (B + 1) (d + 66) j Q) (x y z : Option Value) : EL i (d + 66) 942 (lL j x y z) [] T s Q := by
  refine ev_ex 5 (c' := (948, lL j x y z, [.int (nI j + nI 1), .ref 0, .ref 1], hX (cX i s) T)) rfl ?_
  refine l_A (k := 1) rfl (by omega) hn ?_
  refine ev_ex 4 (c' := (954, lL j x y z, [.int (nI j + nI 2), .ref 0, .int (i.2.1 (j + 1)), .ref 1], hX (cX i s) T)) rfl ?_
  refine l_A (k := 2) rfl (by omega) hn ?_
  refine ev_ex 1 (c' := (956, lL j x y z, [.ref 3, .int (i.2.1 (j + 2)), .int (i.2.1 (j + 1)), .ref 1], hX (cX i s) T)) rfl ?_
  refine lx_I (idx := 180) rfl rfl rfl (Nat.le_of_ble_eq_true rfl) (Nat.le_of_ble_eq_true rfl) rfl (lg_judge (d := d) h _ _) (fun cd T' q => ?_)
  refine ev_ex 6 (c' := (967, lL j (some (.int cd)) y z, [.int (nI j + nI 1), .ref 0, .ref 2], hX (cX i s) T')) rfl ?_
  refine l_A (k := 1) rfl (by omega) hn ?_
  refine ev_ex 4 (c' := (973, lL j (some (.int cd)) y z, [.int (nI j + nI 2), .ref 0, .int (i.2.1 (j + 1)), .ref 2], hX (cX i s) T')) rfl ?_
  refine l_A (k := 2) rfl (by omega) hn ?_
  refine lr_I (idx := 182) rfl rfl rfl (Nat.le_of_ble_eq_true rfl) (Nat.le_of_ble_eq_true rfl) rfl q (fun u s' q' => ?_)
  refine ev_ex 2 (c' := (980, lL j (some (.int cd)) (some (.int u)) z, [.ref 2], hX (cX i s') T')) rfl ?_
  refine lr_I (idx := 143) rfl rfl rfl (Nat.le_of_ble_eq_true rfl) (Nat.le_of_ble_eq_true rfl) rfl (w_R_thrown (Q := fun t s2 => t = s'.1 4 ∧ s2 = s') ⟨rfl, rfl⟩) (fun t s2 q2 => ?_)
  obtain ⟨rfl, rfl⟩ := q2
  refine ev_ex 1 (c' := (985, lL j (some (.int cd)) (some (.int u)) z, [.int cd, .int (s2.1 4)], hX (cX i s2) T')) rfl ?_
  refine ev_icmp_eq (tgt := 990) rfl rfl (fun _ => ?_) (fun w => absurd q'.1 w)
  refine ev_ex 1 (c' := (992, lL j (some (.int cd)) (some (.int u)) z, [.int cd], hX (cX i s2) T')) rfl ?_
  have go : ev (t_P i.1 i.2.1 i.2.2) (d + 66) m_L_law 1007 (lL j (some (.int cd)) (some (.int u)) z) [] (hX (cX i s2) T') Q := by
    refine ev_ex 1 (c' := (2695, lL j (some (.int cd)) (some (.int u)) z, [], hX (cX i s2) T')) rfl ?_
    exact nx T' s2 _ _ _ q'.2.2
  refine ev_if_ne (tgt := 1007) rfl rfl (fun _ => go) (fun w => ?_)
  refine ev_ex 2 (c' := (997, lL j (some (.int cd)) (some (.int u)) z, [.int 0, .ref 3], hX (cX i s2) T')) rfl ?_
  refine l_out rfl q'.2.2.2 ?_
  rw [q'.2.1 w]
  refine ev_ex 2 (c' := (1001, lL j (some (.int cd)) (some (.int u)) z, [.long u.toInt64, .long u.toInt64], hX (cX i s2) T')) rfl ?_
  refine l_cmp rfl ?_
  exact ev_if_eq (tgt := 1007) rfl rfl (fun _ => go) (fun w => absurd rfl w)
set_option maxRecDepth 8000 in
theorem lc_13 (hj : j + 6 ≤ i.1) (hn : i.1 < 2 ^ 31) (h : IVE B T s) (nx : NX i (B + 1) (d + 66) j Q) (x y z : Option Value) : EL i (d + 66) 1010 (lL j x y z) [] T s Q := by
  refine ev_ex 5 (c' := (1016, lL j x y z, [.int (nI j + nI 1), .ref 0, .ref 1], hX (cX i s) T)) rfl ?_
  refine l_A (k := 1) rfl (by omega) hn ?_
  refine ev_ex 1 (c' := (1018, lL j x y z, [.ref 3, .int (i.2.1 (j + 1)), .ref 1], hX (cX i s) T)) rfl ?_
  refine lx_I (idx := 183) rfl rfl rfl (Nat.le_of_ble_eq_true rfl) (Nat.le_of_ble_eq_true rfl) rfl (lg_perform (d := d) h _) (fun cd T' q => ?_)
  refine ev_ex 6 (c' := (1029, lL j (some (.int cd)) y z, [.int (nI j + nI 1), .ref 0, .ref 2], hX (cX i s) T')) rfl ?_
  refine l_A (k := 1) rfl (by omega) hn ?_
  refine lr_I (idx := 185) rfl rfl rfl (Nat.le_of_ble_eq_true rfl) (Nat.le_of_ble_eq_true rfl) rfl q (fun u s' q' => ?_)
  refine ev_ex 2 (c' := (1036, lL j (some (.int cd)) (some (.int u)) z, [.ref 2], hX (cX i s') T')) rfl ?_
  refine lr_I (idx := 143) rfl rfl rfl (Nat.le_of_ble_eq_true rfl) (Nat.le_of_ble_eq_true rfl) rfl (w_R_thrown (Q := fun t s2 => t = s'.1 4 ∧ s2 = s') ⟨rfl, rfl⟩) (fun t s2 q2 => ?_)
  obtain ⟨rfl, rfl⟩ := q2
  refine ev_ex 1 (c' := (1041, lL j (some (.int cd)) (some (.int u)) z, [.int cd, .int (s2.1 4)], hX (cX i s2) T')) rfl ?_
  refine ev_icmp_eq (tgt := 1046) rfl rfl (fun _ => ?_) (fun w => absurd q'.1 w)
  refine ev_ex 1 (c' := (1048, lL j (some (.int cd)) (some (.int u)) z, [.int cd], hX (cX i s2) T')) rfl ?_
  have go : ev (t_P i.1 i.2.1 i.2.2) (d + 66) m_L_law 1063 (lL j (some (.int cd)) (some (.int u)) z) [] (hX (cX i s2) T') Q := by
    refine ev_ex 1 (c' := (2695, lL j (some (.int cd)) (some (.int u)) z, [], hX (cX i s2) T')) rfl ?_
    exact nx T' s2 _ _ _ q'.2.2
  refine ev_if_ne (tgt := 1063) rfl rfl (fun _ => go) (fun w => ?_)
  refine ev_ex 2 (c' := (1053, lL j (some (.int cd)) (some (.int u)) z, [.int 0, .ref 3], hX (cX i s2) T')) rfl ?_
  refine l_out rfl q'.2.2.2 ?_
  rw [q'.2.1 w]
  refine ev_ex 2 (c' := (1057, lL j (some (.int cd)) (some (.int u)) z, [.long u.toInt64, .long u.toInt64], hX (cX i s2) T')) rfl ?_
  refine l_cmp rfl ?_
  exact ev_if_eq (tgt := 1063) rfl rfl (fun _ => go) (fun w => absurd rfl w)
set_option maxRecDepth 8000 in
theorem lc_14 (hj : j + 6 ≤ i.1) (hn : i.1 < 2 ^ 31) (h : IVE B T s) (nx : NX i (B + 1) (d + 66) j Q) (x y z : Option Value) : EL i (d + 66) 1066 (lL j x y z) [] T s Q := by
  refine ev_ex 5 (c' := (1072, lL j x y z, [.int (nI j + nI 1), .ref 0, .ref 1], hX (cX i s) T)) rfl ?_
  refine l_A (k := 1) rfl (by omega) hn ?_
  refine ev_ex 4 (c' := (1078, lL j x y z, [.int (nI j + nI 2), .ref 0, .int (i.2.1 (j + 1)), .ref 1], hX (cX i s) T)) rfl ?_
  refine l_A (k := 2) rfl (by omega) hn ?_
  refine ev_ex 1 (c' := (1080, lL j x y z, [.ref 3, .int (i.2.1 (j + 2)), .int (i.2.1 (j + 1)), .ref 1], hX (cX i s) T)) rfl ?_
  refine lx_I (idx := 186) rfl rfl rfl (Nat.le_of_ble_eq_true rfl) (Nat.le_of_ble_eq_true rfl) rfl (lg_week (d := d) h _ _) (fun cd T' q => ?_)
  refine ev_ex 6 (c' := (1091, lL j (some (.int cd)) y z, [.int (nI j + nI 1), .ref 0, .ref 2], hX (cX i s) T')) rfl ?_
  refine l_A (k := 1) rfl (by omega) hn ?_
  refine ev_ex 4 (c' := (1097, lL j (some (.int cd)) y z, [.int (nI j + nI 2), .ref 0, .int (i.2.1 (j + 1)), .ref 2], hX (cX i s) T')) rfl ?_
  refine l_A (k := 2) rfl (by omega) hn ?_
  refine lr_I (idx := 188) rfl rfl rfl (Nat.le_of_ble_eq_true rfl) (Nat.le_of_ble_eq_true rfl) rfl q (fun u s' q' => ?_)
  refine ev_ex 2 (c' := (1104, lL j (some (.int cd)) (some (.int u)) z, [.ref 2], hX (cX i s') T')) rfl ?_
  refine lr_I (idx := 143) rfl rfl rfl (Nat.le_of_ble_eq_true rfl) (Nat.le_of_ble_eq_true rfl) rfl (w_R_thrown (Q := fun t s2 => t = s'.1 4 ∧ s2 = s') ⟨rfl, rfl⟩) (fun t s2 q2 => ?_)
  obtain ⟨rfl, rfl⟩ := q2
  refine ev_ex 1 (c' := (1109, lL j (some (.int cd)) (some (.int u)) z, [.int cd, .int (s2.1 4)], hX (cX i s2) T')) rfl ?_
  refine ev_icmp_eq (tgt := 1114) rfl rfl (fun _ => ?_) (fun w => absurd q'.1 w)
  refine ev_ex 1 (c' := (1116, lL j (some (.int cd)) (some (.int u)) z, [.int cd], hX (cX i s2) T')) rfl ?_
  have go : ev (t_P i.1 i.2.1 i.2.2) (d + 66) m_L_law 1131 (lL j (some (.int cd)) (some (.int u)) z) [] (hX (cX i s2) T') Q := by
    refine ev_ex 1 (c' := (2695, lL j (some (.int cd)) (some (.int u)) z, [], hX (cX i s2) T')) rfl ?_
    exact nx T' s2 _ _ _ q'.2.2
  refine ev_if_ne (tgt := 1131) rfl rfl (fun _ => go) (fun w => ?_)
  refine ev_ex 2 (c' := (1121, lL j (some (.int cd)) (some (.int u)) z, [.int 0, .ref 3], hX (cX i s2) T')) rfl ?_
  refine l_out rfl q'.2.2.2 ?_
  rw [q'.2.1 w]
  refine ev_ex 2 (c' := (1125, lL j (some (.int cd)) (some (.int u)) z, [.long u.toInt64, .long u.toInt64], hX (cX i s2) T')) rfl ?_
  refine l_cmp rfl ?_
  exact ev_if_eq (tgt := 1131) rfl rfl (fun _ => go) (fun w => absurd rfl w)
set_option maxRecDepth 8000 in
theorem lc_15 (hj : j + 6 ≤ i.1) (hn : i.1 < 2 ^ 31) (h : IVE B T s) (nx : NX i (B + 1) (d + 66) j Q) (x y z : Option Value) : EL i (d + 66) 1134 (lL j x y z) [] T s Q := by
  refine ev_ex 1 (c' := (1135, lL j x y z, [.ref 1], hX (cX i s) T)) rfl ?_
  obtain ⟨⟨A, h⟩, a3⟩ := h
  refine lx_I (idx := 189) rfl rfl rfl (Nat.le_of_ble_eq_true rfl) (Nat.le_of_ble_eq_true rfl) (x_rcv (c := cX i s) (T := T) (ob_lit (i := 0) rfl (by decide) rfl) ⟨by decide, by decide⟩ _ _) (XI_sg (ag_ringed (d := d + 1) (i := i) h)) (fun u T' q => ?_)
  refine ev_ex 1 (c' := (1139, lL j x y z, [.ref 2, .int u], hX (cX i s) T')) rfl ?_
  refine lr_I (idx := 192) rfl rfl rfl (Nat.le_of_ble_eq_true rfl) (Nat.le_of_ble_eq_true rfl) rfl q.1 (fun v s' q' => ?_)
  exact ev_icmp_eq (tgt := 2695) rfl rfl (fun _ => nx T' s' _ _ _ ⟨q'.2, sg3 q.2 a3⟩) (fun w => absurd q'.1.symm w)
set_option maxRecDepth 8000 in
theorem lc_17 (hj : j + 6 ≤ i.1) (hn : i.1 < 2 ^ 31) (h : IVE B T s) (nx : NX i (B + 1) (d + 66) j Q) (x y z : Option Value) : EL i (d + 66) 1188 (lL j x y z) [] T s Q := by
  refine ev_ex 1 (c' := (1189, lL j x y z, [.ref 1], hX (cX i s) T)) rfl ?_
  obtain ⟨⟨A, h⟩, a3⟩ := h
  refine lx_I (idx := 198) rfl rfl rfl (Nat.le_of_ble_eq_true rfl) (Nat.le_of_ble_eq_true rfl) (x_rcv (c := cX i s) (T := T) (ob_lit (i := 0) rfl (by decide) rfl) ⟨by decide, by decide⟩ _ _) (XI_sg (ag_cakes (d := d + 1) (i := i) h)) (fun u T' q => ?_)
  refine ev_ex 1 (c' := (1193, lL j x y z, [.ref 2, .int u], hX (cX i s) T')) rfl ?_
  refine lr_I (idx := 201) rfl rfl rfl (Nat.le_of_ble_eq_true rfl) (Nat.le_of_ble_eq_true rfl) rfl q.1 (fun v s' q' => ?_)
  exact ev_icmp_eq (tgt := 2695) rfl rfl (fun _ => nx T' s' _ _ _ ⟨q'.2, sg3 q.2 a3⟩) (fun w => absurd q'.1.symm w)
set_option maxRecDepth 8000 in
theorem lc_18 (hj : j + 6 ≤ i.1) (hn : i.1 < 2 ^ 31) (h : IVE B T s) (nx : NX i (B + 1) (d + 66) j Q) (x y z : Option Value) : EL i (d + 66) 1201 (lL j x y z) [] T s Q := by
  refine ev_ex 1 (c' := (1202, lL j x y z, [.ref 1], hX (cX i s) T)) rfl ?_
  obtain ⟨⟨A, h⟩, a3⟩ := h
  refine lx_I (idx := 202) rfl rfl rfl (Nat.le_of_ble_eq_true rfl) (Nat.le_of_ble_eq_true rfl) (x_rcv (c := cX i s) (T := T) (ob_lit (i := 0) rfl (by decide) rfl) ⟨by decide, by decide⟩ _ _) (XI_sg (ag_chains (d := d + 1) (i := i) h)) (fun u T' q => ?_)
  refine ev_ex 1 (c' := (1206, lL j x y z, [.ref 2, .int u], hX (cX i s) T')) rfl ?_
  refine lr_I (idx := 205) rfl rfl rfl (Nat.le_of_ble_eq_true rfl) (Nat.le_of_ble_eq_true rfl) rfl q.1 (fun v s' q' => ?_)
  exact ev_icmp_eq (tgt := 2695) rfl rfl (fun _ => nx T' s' _ _ _ ⟨q'.2, sg3 q.2 a3⟩) (fun w => absurd q'.1.symm w)
set_option maxRecDepth 8000 in
theorem lc_19 (hj : j + 6 ≤ i.1) (hn : i.1 < 2 ^ 31) (h : IVE B T s) (nx : NX i (B + 1) (d + 66) j Q) (x y z : Option Value) : EL i (d + 66) 1214 (lL j x y z) [] T s Q := by
  refine ev_ex 5 (c' := (1220, lL j x y z, [.int (nI j + nI 1), .ref 0, .ref 1], hX (cX i s) T)) rfl ?_
  refine l_A (k := 1) rfl (by omega) hn ?_
  refine ev_ex 1 (c' := (1222, lL j x y z, [.ref 3, .int (i.2.1 (j + 1)), .ref 1], hX (cX i s) T)) rfl ?_
  refine lx_I (idx := 206) rfl rfl rfl (Nat.le_of_ble_eq_true rfl) (Nat.le_of_ble_eq_true rfl) rfl (lg_walks (d := d) h _) (fun cd T' q => ?_)
  refine ev_ex 6 (c' := (1233, lL j (some (.int cd)) y z, [.int (nI j + nI 1), .ref 0, .ref 2], hX (cX i s) T')) rfl ?_
  refine l_A (k := 1) rfl (by omega) hn ?_
  refine lr_I (idx := 208) rfl rfl rfl (Nat.le_of_ble_eq_true rfl) (Nat.le_of_ble_eq_true rfl) rfl q (fun u s' q' => ?_)
  refine ev_ex 2 (c' := (1240, lL j (some (.int cd)) (some (.int u)) z, [.ref 2], hX (cX i s') T')) rfl ?_
  refine lr_I (idx := 143) rfl rfl rfl (Nat.le_of_ble_eq_true rfl) (Nat.le_of_ble_eq_true rfl) rfl (w_R_thrown (Q := fun t s2 => t = s'.1 4 ∧ s2 = s') ⟨rfl, rfl⟩) (fun t s2 q2 => ?_)
  obtain ⟨rfl, rfl⟩ := q2
  refine ev_ex 1 (c' := (1245, lL j (some (.int cd)) (some (.int u)) z, [.int cd, .int (s2.1 4)], hX (cX i s2) T')) rfl ?_
  refine ev_icmp_eq (tgt := 1250) rfl rfl (fun _ => ?_) (fun w => absurd q'.1 w)
  refine ev_ex 1 (c' := (1252, lL j (some (.int cd)) (some (.int u)) z, [.int cd], hX (cX i s2) T')) rfl ?_
  have go : ev (t_P i.1 i.2.1 i.2.2) (d + 66) m_L_law 1267 (lL j (some (.int cd)) (some (.int u)) z) [] (hX (cX i s2) T') Q := by
    refine ev_ex 1 (c' := (2695, lL j (some (.int cd)) (some (.int u)) z, [], hX (cX i s2) T')) rfl ?_
    exact nx T' s2 _ _ _ q'.2.2
  refine ev_if_ne (tgt := 1267) rfl rfl (fun _ => go) (fun w => ?_)
  refine ev_ex 2 (c' := (1257, lL j (some (.int cd)) (some (.int u)) z, [.int 0, .ref 3], hX (cX i s2) T')) rfl ?_
  refine l_out rfl q'.2.2.2 ?_
  rw [q'.2.1 w]
  refine ev_ex 2 (c' := (1261, lL j (some (.int cd)) (some (.int u)) z, [.long u.toInt64, .long u.toInt64], hX (cX i s2) T')) rfl ?_
  refine l_cmp rfl ?_
  exact ev_if_eq (tgt := 1267) rfl rfl (fun _ => go) (fun w => absurd rfl w)
set_option maxRecDepth 8000 in
theorem lc_20 (hj : j + 6 ≤ i.1) (hn : i.1 < 2 ^ 31) (h : IVE B T s) (nx : NX i (B + 1) (d + 66) j Q) (x y z : Option Value) : EL i (d + 66) 1270 (lL j x y z) [] T s Q := by
  refine ev_ex 5 (c' := (1276, lL j x y z, [.int (nI j + nI 1), .ref 0, .ref 1], hX (cX i s) T)) rfl ?_
  refine l_A (k := 1) rfl (by omega) hn ?_
  refine ev_ex 1 (c' := (1278, lL j x y z, [.ref 3, .int (i.2.1 (j + 1)), .ref 1], hX (cX i s) T)) rfl ?_
  refine lx_I (idx := 209) rfl rfl rfl (Nat.le_of_ble_eq_true rfl) (Nat.le_of_ble_eq_true rfl) rfl (lg_place (d := d) h _) (fun cd T' q => ?_)
  refine ev_ex 6 (c' := (1289, lL j (some (.int cd)) y z, [.int (nI j + nI 1), .ref 0, .ref 2], hX (cX i s) T')) rfl ?_
  refine l_A (k := 1) rfl (by omega) hn ?_
  refine lr_I (idx := 211) rfl rfl rfl (Nat.le_of_ble_eq_true rfl) (Nat.le_of_ble_eq_true rfl) rfl q (fun u s' q' => ?_)
  refine ev_ex 2 (c' := (1296, lL j (some (.int cd)) (some (.int u)) z, [.ref 2], hX (cX i s') T')) rfl ?_
  refine lr_I (idx := 143) rfl rfl rfl (Nat.le_of_ble_eq_true rfl) (Nat.le_of_ble_eq_true rfl) rfl (w_R_thrown (Q := fun t s2 => t = s'.1 4 ∧ s2 = s') ⟨rfl, rfl⟩) (fun t s2 q2 => ?_)
  obtain ⟨rfl, rfl⟩ := q2
  refine ev_ex 1 (c' := (1301, lL j (some (.int cd)) (some (.int u)) z, [.int cd, .int (s2.1 4)], hX (cX i s2) T')) rfl ?_
  refine ev_icmp_eq (tgt := 1306) rfl rfl (fun _ => ?_) (fun w => absurd q'.1 w)
  refine ev_ex 1 (c' := (1308, lL j (some (.int cd)) (some (.int u)) z, [.int cd], hX (cX i s2) T')) rfl ?_
  have go : ev (t_P i.1 i.2.1 i.2.2) (d + 66) m_L_law 1323 (lL j (some (.int cd)) (some (.int u)) z) [] (hX (cX i s2) T') Q := by
    refine ev_ex 1 (c' := (2695, lL j (some (.int cd)) (some (.int u)) z, [], hX (cX i s2) T')) rfl ?_
    exact nx T' s2 _ _ _ q'.2.2
  refine ev_if_ne (tgt := 1323) rfl rfl (fun _ => go) (fun w => ?_)
  refine ev_ex 2 (c' := (1313, lL j (some (.int cd)) (some (.int u)) z, [.int 0, .ref 3], hX (cX i s2) T')) rfl ?_
  refine l_out rfl q'.2.2.2 ?_
  rw [q'.2.1 w]
  refine ev_ex 2 (c' := (1317, lL j (some (.int cd)) (some (.int u)) z, [.long u.toInt64, .long u.toInt64], hX (cX i s2) T')) rfl ?_
  refine l_cmp rfl ?_
  exact ev_if_eq (tgt := 1323) rfl rfl (fun _ => go) (fun w => absurd rfl w)
set_option maxRecDepth 8000 in
theorem lc_21 (hj : j + 6 ≤ i.1) (hn : i.1 < 2 ^ 31) (h : IVE B T s) (nx : NX i (B + 1) (d + 66) j Q) (x y z : Option Value) : EL i (d + 66) 1326 (lL j x y z) [] T s Q := by
  refine ev_ex 1 (c' := (1327, lL j x y z, [.ref 1], hX (cX i s) T)) rfl ?_
  obtain ⟨⟨A, h⟩, a3⟩ := h
  refine lx_I (idx := 212) rfl rfl rfl (Nat.le_of_ble_eq_true rfl) (Nat.le_of_ble_eq_true rfl) (x_rcv (c := cX i s) (T := T) (ob_lit (i := 0) rfl (by decide) rfl) ⟨by decide, by decide⟩ _ _) (XI_sg (ag_length (d := d + 1) (i := i) h)) (fun u T' q => ?_)
  refine ev_ex 1 (c' := (1331, lL j x y z, [.ref 2, .int u], hX (cX i s) T')) rfl ?_
  refine lr_I (idx := 215) rfl rfl rfl (Nat.le_of_ble_eq_true rfl) (Nat.le_of_ble_eq_true rfl) rfl q.1 (fun v s' q' => ?_)
  exact ev_icmp_eq (tgt := 2695) rfl rfl (fun _ => nx T' s' _ _ _ ⟨q'.2, sg3 q.2 a3⟩) (fun w => absurd q'.1.symm w)
set_option maxRecDepth 8000 in
theorem lc_22 (hj : j + 6 ≤ i.1) (hn : i.1 < 2 ^ 31) (h : IVE B T s) (nx : NX i (B + 1) (d + 66) j Q) (x y z : Option Value) : EL i (d + 66) 1339 (lL j x y z) [] T s Q := by
  refine ev_ex 5 (c' := (1345, lL j x y z, [.int (nI j + nI 1), .ref 0, .ref 1], hX (cX i s) T)) rfl ?_
  refine l_A (k := 1) rfl (by omega) hn ?_
  refine ev_ex 1 (c' := (1347, lL j x y z, [.ref 3, .int (i.2.1 (j + 1)), .ref 1], hX (cX i s) T)) rfl ?_
  refine lx_I (idx := 216) rfl rfl rfl (Nat.le_of_ble_eq_true rfl) (Nat.le_of_ble_eq_true rfl) rfl (lg_persuaded (d := d) h _) (fun cd T' q => ?_)
  refine ev_ex 6 (c' := (1358, lL j (some (.int cd)) y z, [.int (nI j + nI 1), .ref 0, .ref 2], hX (cX i s) T')) rfl ?_
  refine l_A (k := 1) rfl (by omega) hn ?_
  refine lr_I (idx := 218) rfl rfl rfl (Nat.le_of_ble_eq_true rfl) (Nat.le_of_ble_eq_true rfl) rfl q (fun u s' q' => ?_)
  refine ev_ex 2 (c' := (1365, lL j (some (.int cd)) (some (.int u)) z, [.ref 2], hX (cX i s') T')) rfl ?_
  refine lr_I (idx := 143) rfl rfl rfl (Nat.le_of_ble_eq_true rfl) (Nat.le_of_ble_eq_true rfl) rfl (w_R_thrown (Q := fun t s2 => t = s'.1 4 ∧ s2 = s') ⟨rfl, rfl⟩) (fun t s2 q2 => ?_)
  obtain ⟨rfl, rfl⟩ := q2
  refine ev_ex 1 (c' := (1370, lL j (some (.int cd)) (some (.int u)) z, [.int cd, .int (s2.1 4)], hX (cX i s2) T')) rfl ?_
  refine ev_icmp_eq (tgt := 1375) rfl rfl (fun _ => ?_) (fun w => absurd q'.1 w)
  refine ev_ex 1 (c' := (1377, lL j (some (.int cd)) (some (.int u)) z, [.int cd], hX (cX i s2) T')) rfl ?_
  have go : ev (t_P i.1 i.2.1 i.2.2) (d + 66) m_L_law 1392 (lL j (some (.int cd)) (some (.int u)) z) [] (hX (cX i s2) T') Q := by
    refine ev_ex 1 (c' := (2695, lL j (some (.int cd)) (some (.int u)) z, [], hX (cX i s2) T')) rfl ?_
    exact nx T' s2 _ _ _ q'.2.2
  refine ev_if_ne (tgt := 1392) rfl rfl (fun _ => go) (fun w => ?_)
  refine ev_ex 2 (c' := (1382, lL j (some (.int cd)) (some (.int u)) z, [.int 0, .ref 3], hX (cX i s2) T')) rfl ?_
  refine l_out rfl q'.2.2.2 ?_
  rw [q'.2.1 w]
  refine ev_ex 2 (c' := (1386, lL j (some (.int cd)) (some (.int u)) z, [.long u.toInt64, .long u.toInt64], hX (cX i s2) T')) rfl ?_
  refine l_cmp rfl ?_
  exact ev_if_eq (tgt := 1392) rfl rfl (fun _ => go) (fun w => absurd rfl w)
set_option maxRecDepth 8000 in
theorem lc_23 (hj : j + 6 ≤ i.1) (hn : i.1 < 2 ^ 31) (h : IVE B T s) (nx : NX i (B + 1) (d + 66) j Q) (x y z : Option Value) : EL i (d + 66) 1395 (lL j x y z) [] T s Q := by
  refine ev_ex 5 (c' := (1401, lL j x y z, [.int (nI j + nI 1), .ref 0, .ref 1], hX (cX i s) T)) rfl ?_
  refine l_A (k := 1) rfl (by omega) hn ?_
  refine ev_ex 1 (c' := (1403, lL j x y z, [.ref 3, .int (i.2.1 (j + 1)), .ref 1], hX (cX i s) T)) rfl ?_
  refine lx_I (idx := 219) rfl rfl rfl (Nat.le_of_ble_eq_true rfl) (Nat.le_of_ble_eq_true rfl) rfl (lg_peace (d := d) h _) (fun cd T' q => ?_)
  refine ev_ex 6 (c' := (1414, lL j (some (.int cd)) y z, [.int (nI j + nI 1), .ref 0, .ref 2], hX (cX i s) T')) rfl ?_
  refine l_A (k := 1) rfl (by omega) hn ?_
  refine lr_I (idx := 221) rfl rfl rfl (Nat.le_of_ble_eq_true rfl) (Nat.le_of_ble_eq_true rfl) rfl q (fun u s' q' => ?_)
  refine ev_ex 2 (c' := (1421, lL j (some (.int cd)) (some (.int u)) z, [.ref 2], hX (cX i s') T')) rfl ?_
  refine lr_I (idx := 143) rfl rfl rfl (Nat.le_of_ble_eq_true rfl) (Nat.le_of_ble_eq_true rfl) rfl (w_R_thrown (Q := fun t s2 => t = s'.1 4 ∧ s2 = s') ⟨rfl, rfl⟩) (fun t s2 q2 => ?_)
  obtain ⟨rfl, rfl⟩ := q2
  refine ev_ex 1 (c' := (1426, lL j (some (.int cd)) (some (.int u)) z, [.int cd, .int (s2.1 4)], hX (cX i s2) T')) rfl ?_
  refine ev_icmp_eq (tgt := 1431) rfl rfl (fun _ => ?_) (fun w => absurd q'.1 w)
  refine ev_ex 1 (c' := (1433, lL j (some (.int cd)) (some (.int u)) z, [.int cd], hX (cX i s2) T')) rfl ?_
  have go : ev (t_P i.1 i.2.1 i.2.2) (d + 66) m_L_law 1448 (lL j (some (.int cd)) (some (.int u)) z) [] (hX (cX i s2) T') Q := by
    refine ev_ex 1 (c' := (2695, lL j (some (.int cd)) (some (.int u)) z, [], hX (cX i s2) T')) rfl ?_
    exact nx T' s2 _ _ _ q'.2.2
  refine ev_if_ne (tgt := 1448) rfl rfl (fun _ => go) (fun w => ?_)
  refine ev_ex 2 (c' := (1438, lL j (some (.int cd)) (some (.int u)) z, [.int 0, .ref 3], hX (cX i s2) T')) rfl ?_
  refine l_out rfl q'.2.2.2 ?_
  rw [q'.2.1 w]
  refine ev_ex 2 (c' := (1442, lL j (some (.int cd)) (some (.int u)) z, [.long u.toInt64, .long u.toInt64], hX (cX i s2) T')) rfl ?_
  refine l_cmp rfl ?_
  exact ev_if_eq (tgt := 1448) rfl rfl (fun _ => go) (fun w => absurd rfl w)
set_option maxRecDepth 8000 in
theorem lc_24 (hj : j + 6 ≤ i.1) (hn : i.1 < 2 ^ 31) (h : IVE B T s) (nx : NX i (B + 1) (d + 66) j Q) (x y z : Option Value) : EL i (d + 66) 1451 (lL j x y z) [] T s Q := by
  refine ev_ex 1 (c' := (1452, lL j x y z, [.ref 1], hX (cX i s) T)) rfl ?_
  obtain ⟨⟨A, h⟩, a3⟩ := h
  refine lx_I (idx := 222) rfl rfl rfl (Nat.le_of_ble_eq_true rfl) (Nat.le_of_ble_eq_true rfl) (x_rcv (c := cX i s) (T := T) (ob_lit (i := 0) rfl (by decide) rfl) ⟨by decide, by decide⟩ _ _) (XI_sg (ag_goat (d := d + 1) (i := i) h)) (fun u T' q => ?_)
  refine ev_ex 1 (c' := (1456, lL j x y z, [.ref 2, .int u], hX (cX i s) T')) rfl ?_
  refine lr_I (idx := 225) rfl rfl rfl (Nat.le_of_ble_eq_true rfl) (Nat.le_of_ble_eq_true rfl) rfl q.1 (fun v s' q' => ?_)
  exact ev_icmp_eq (tgt := 2695) rfl rfl (fun _ => nx T' s' _ _ _ ⟨q'.2, sg3 q.2 a3⟩) (fun w => absurd q'.1.symm w)
set_option maxRecDepth 8000 in
theorem lc_25 (hj : j + 6 ≤ i.1) (hn : i.1 < 2 ^ 31) (h : IVE B T s) (nx : NX i (B + 1) (d + 66) j Q) (x y z : Option Value) : EL i (d + 66) 1464 (lL j x y z) [] T s Q := by
  refine ev_ex 5 (c' := (1470, lL j x y z, [.int (nI j + nI 1), .ref 0, .ref 1], hX (cX i s) T)) rfl ?_
  refine l_A (k := 1) rfl (by omega) hn ?_
  refine ev_ex 1 (c' := (1472, lL j x y z, [.ref 3, .int (i.2.1 (j + 1)), .ref 1], hX (cX i s) T)) rfl ?_
  refine lx_I (idx := 226) rfl rfl rfl (Nat.le_of_ble_eq_true rfl) (Nat.le_of_ble_eq_true rfl) rfl (lg_below (d := d) h _) (fun cd T' q => ?_)
  refine ev_ex 6 (c' := (1483, lL j (some (.int cd)) y z, [.int (nI j + nI 1), .ref 0, .ref 2], hX (cX i s) T')) rfl ?_
  refine l_A (k := 1) rfl (by omega) hn ?_
  refine lr_I (idx := 228) rfl rfl rfl (Nat.le_of_ble_eq_true rfl) (Nat.le_of_ble_eq_true rfl) rfl q (fun u s' q' => ?_)
  refine ev_ex 2 (c' := (1490, lL j (some (.int cd)) (some (.int u)) z, [.ref 2], hX (cX i s') T')) rfl ?_
  refine lr_I (idx := 143) rfl rfl rfl (Nat.le_of_ble_eq_true rfl) (Nat.le_of_ble_eq_true rfl) rfl (w_R_thrown (Q := fun t s2 => t = s'.1 4 ∧ s2 = s') ⟨rfl, rfl⟩) (fun t s2 q2 => ?_)
  obtain ⟨rfl, rfl⟩ := q2
  refine ev_ex 1 (c' := (1495, lL j (some (.int cd)) (some (.int u)) z, [.int cd, .int (s2.1 4)], hX (cX i s2) T')) rfl ?_
  refine ev_icmp_eq (tgt := 1500) rfl rfl (fun _ => ?_) (fun w => absurd q'.1 w)
  refine ev_ex 1 (c' := (1502, lL j (some (.int cd)) (some (.int u)) z, [.int cd], hX (cX i s2) T')) rfl ?_
  have go : ev (t_P i.1 i.2.1 i.2.2) (d + 66) m_L_law 1517 (lL j (some (.int cd)) (some (.int u)) z) [] (hX (cX i s2) T') Q := by
    refine ev_ex 1 (c' := (2695, lL j (some (.int cd)) (some (.int u)) z, [], hX (cX i s2) T')) rfl ?_
    exact nx T' s2 _ _ _ q'.2.2
  refine ev_if_ne (tgt := 1517) rfl rfl (fun _ => go) (fun w => ?_)
  refine ev_ex 2 (c' := (1507, lL j (some (.int cd)) (some (.int u)) z, [.int 0, .ref 3], hX (cX i s2) T')) rfl ?_
  refine l_out rfl q'.2.2.2 ?_
  rw [q'.2.1 w]
  refine ev_ex 2 (c' := (1511, lL j (some (.int cd)) (some (.int u)) z, [.long u.toInt64, .long u.toInt64], hX (cX i s2) T')) rfl ?_
  refine l_cmp rfl ?_
  exact ev_if_eq (tgt := 1517) rfl rfl (fun _ => go) (fun w => absurd rfl w)
set_option maxRecDepth 8000 in
theorem lc_26 (hj : j + 6 ≤ i.1) (hn : i.1 < 2 ^ 31) (h : IVE B T s) (nx : NX i (B + 1) (d + 66) j Q) (x y z : Option Value) : EL i (d + 66) 1520 (lL j x y z) [] T s Q := by
  refine ev_ex 5 (c' := (1526, lL j x y z, [.int (nI j + nI 1), .ref 0, .ref 1], hX (cX i s) T)) rfl ?_
  refine l_A (k := 1) rfl (by omega) hn ?_
  refine ev_ex 1 (c' := (1528, lL j x y z, [.ref 3, .int (i.2.1 (j + 1)), .ref 1], hX (cX i s) T)) rfl ?_
  refine lx_I (idx := 229) rfl rfl rfl (Nat.le_of_ble_eq_true rfl) (Nat.le_of_ble_eq_true rfl) rfl (lg_cakesOf (d := d) h _) (fun cd T' q => ?_)
  refine ev_ex 6 (c' := (1539, lL j (some (.int cd)) y z, [.int (nI j + nI 1), .ref 0, .ref 2], hX (cX i s) T')) rfl ?_
  refine l_A (k := 1) rfl (by omega) hn ?_
  refine lr_I (idx := 231) rfl rfl rfl (Nat.le_of_ble_eq_true rfl) (Nat.le_of_ble_eq_true rfl) rfl q (fun u s' q' => ?_)
  refine ev_ex 2 (c' := (1546, lL j (some (.int cd)) (some (.int u)) z, [.ref 2], hX (cX i s') T')) rfl ?_
  refine lr_I (idx := 143) rfl rfl rfl (Nat.le_of_ble_eq_true rfl) (Nat.le_of_ble_eq_true rfl) rfl (w_R_thrown (Q := fun t s2 => t = s'.1 4 ∧ s2 = s') ⟨rfl, rfl⟩) (fun t s2 q2 => ?_)
  obtain ⟨rfl, rfl⟩ := q2
  refine ev_ex 1 (c' := (1551, lL j (some (.int cd)) (some (.int u)) z, [.int cd, .int (s2.1 4)], hX (cX i s2) T')) rfl ?_
  refine ev_icmp_eq (tgt := 1556) rfl rfl (fun _ => ?_) (fun w => absurd q'.1 w)
  refine ev_ex 1 (c' := (1558, lL j (some (.int cd)) (some (.int u)) z, [.int cd], hX (cX i s2) T')) rfl ?_
  have go : ev (t_P i.1 i.2.1 i.2.2) (d + 66) m_L_law 1573 (lL j (some (.int cd)) (some (.int u)) z) [] (hX (cX i s2) T') Q := by
    refine ev_ex 1 (c' := (2695, lL j (some (.int cd)) (some (.int u)) z, [], hX (cX i s2) T')) rfl ?_
    exact nx T' s2 _ _ _ q'.2.2
  refine ev_if_ne (tgt := 1573) rfl rfl (fun _ => go) (fun w => ?_)
  refine ev_ex 2 (c' := (1563, lL j (some (.int cd)) (some (.int u)) z, [.int 0, .ref 3], hX (cX i s2) T')) rfl ?_
  refine l_out rfl q'.2.2.2 ?_
  rw [q'.2.1 w]
  refine ev_ex 2 (c' := (1567, lL j (some (.int cd)) (some (.int u)) z, [.long u.toInt64, .long u.toInt64], hX (cX i s2) T')) rfl ?_
  refine l_cmp rfl ?_
  exact ev_if_eq (tgt := 1573) rfl rfl (fun _ => go) (fun w => absurd rfl w)
set_option maxRecDepth 8000 in
theorem lc_27 (hj : j + 6 ≤ i.1) (hn : i.1 < 2 ^ 31) (h : IVE B T s) (nx : NX i (B + 1) (d + 66) j Q) (x y z : Option Value) : EL i (d + 66) 1576 (lL j x y z) [] T s Q := by
  refine ev_ex 5 (c' := (1582, lL j x y z, [.int (nI j + nI 1), .ref 0, .ref 1], hX (cX i s) T)) rfl ?_
  refine l_A (k := 1) rfl (by omega) hn ?_
  refine ev_ex 1 (c' := (1584, lL j x y z, [.ref 3, .int (i.2.1 (j + 1)), .ref 1], hX (cX i s) T)) rfl ?_
  refine lx_I (idx := 232) rfl rfl rfl (Nat.le_of_ble_eq_true rfl) (Nat.le_of_ble_eq_true rfl) rfl (lg_chainOf (d := d) h _) (fun cd T' q => ?_)
  refine ev_ex 6 (c' := (1595, lL j (some (.int cd)) y z, [.int (nI j + nI 1), .ref 0, .ref 2], hX (cX i s) T')) rfl ?_
  refine l_A (k := 1) rfl (by omega) hn ?_
  refine lr_I (idx := 234) rfl rfl rfl (Nat.le_of_ble_eq_true rfl) (Nat.le_of_ble_eq_true rfl) rfl q (fun u s' q' => ?_)
  refine ev_ex 2 (c' := (1602, lL j (some (.int cd)) (some (.int u)) z, [.ref 2], hX (cX i s') T')) rfl ?_
  refine lr_I (idx := 143) rfl rfl rfl (Nat.le_of_ble_eq_true rfl) (Nat.le_of_ble_eq_true rfl) rfl (w_R_thrown (Q := fun t s2 => t = s'.1 4 ∧ s2 = s') ⟨rfl, rfl⟩) (fun t s2 q2 => ?_)
  obtain ⟨rfl, rfl⟩ := q2
  refine ev_ex 1 (c' := (1607, lL j (some (.int cd)) (some (.int u)) z, [.int cd, .int (s2.1 4)], hX (cX i s2) T')) rfl ?_
  refine ev_icmp_eq (tgt := 1612) rfl rfl (fun _ => ?_) (fun w => absurd q'.1 w)
  refine ev_ex 1 (c' := (1614, lL j (some (.int cd)) (some (.int u)) z, [.int cd], hX (cX i s2) T')) rfl ?_
  have go : ev (t_P i.1 i.2.1 i.2.2) (d + 66) m_L_law 1629 (lL j (some (.int cd)) (some (.int u)) z) [] (hX (cX i s2) T') Q := by
    refine ev_ex 1 (c' := (2695, lL j (some (.int cd)) (some (.int u)) z, [], hX (cX i s2) T')) rfl ?_
    exact nx T' s2 _ _ _ q'.2.2
  refine ev_if_ne (tgt := 1629) rfl rfl (fun _ => go) (fun w => ?_)
  refine ev_ex 2 (c' := (1619, lL j (some (.int cd)) (some (.int u)) z, [.int 0, .ref 3], hX (cX i s2) T')) rfl ?_
  refine l_out rfl q'.2.2.2 ?_
  rw [q'.2.1 w]
  refine ev_ex 2 (c' := (1623, lL j (some (.int cd)) (some (.int u)) z, [.long u.toInt64, .long u.toInt64], hX (cX i s2) T')) rfl ?_
  refine l_cmp rfl ?_
  exact ev_if_eq (tgt := 1629) rfl rfl (fun _ => go) (fun w => absurd rfl w)
set_option maxRecDepth 8000 in
theorem lc_28 (hj : j + 6 ≤ i.1) (hn : i.1 < 2 ^ 31) (h : IVE B T s) (nx : NX i (B + 1) (d + 66) j Q) (x y z : Option Value) : EL i (d + 66) 1632 (lL j x y z) [] T s Q := by
  refine ev_ex 1 (c' := (1633, lL j x y z, [.ref 1], hX (cX i s) T)) rfl ?_
  obtain ⟨⟨A, h⟩, a3⟩ := h
  refine lx_I (idx := 235) rfl rfl rfl (Nat.le_of_ble_eq_true rfl) (Nat.le_of_ble_eq_true rfl) (x_rcv (c := cX i s) (T := T) (ob_lit (i := 0) rfl (by decide) rfl) ⟨by decide, by decide⟩ _ _) (XI_sg (ag_longest (d := d + 1) (i := i) h)) (fun u T' q => ?_)
  refine ev_ex 1 (c' := (1637, lL j x y z, [.ref 2, .int u], hX (cX i s) T')) rfl ?_
  refine lr_I (idx := 238) rfl rfl rfl (Nat.le_of_ble_eq_true rfl) (Nat.le_of_ble_eq_true rfl) rfl q.1 (fun v s' q' => ?_)
  exact ev_icmp_eq (tgt := 2695) rfl rfl (fun _ => nx T' s' _ _ _ ⟨q'.2, sg3 q.2 a3⟩) (fun w => absurd q'.1.symm w)
set_option maxRecDepth 8000 in
theorem lc_29 (hj : j + 6 ≤ i.1) (hn : i.1 < 2 ^ 31) (h : IVE B T s) (nx : NX i (B + 1) (d + 66) j Q) (x y z : Option Value) : EL i (d + 66) 1645 (lL j x y z) [] T s Q := by
  refine ev_ex 5 (c' := (1651, lL j x y z, [.int (nI j + nI 1), .ref 0, .ref 1], hX (cX i s) T)) rfl ?_
  refine l_A (k := 1) rfl (by omega) hn ?_
  refine ev_ex 1 (c' := (1653, lL j x y z, [.ref 3, .int (i.2.1 (j + 1)), .ref 1], hX (cX i s) T)) rfl ?_
  refine lx_I (idx := 239) rfl rfl rfl (Nat.le_of_ble_eq_true rfl) (Nat.le_of_ble_eq_true rfl) rfl (lg_freeFor (d := d) h _) (fun cd T' q => ?_)
  refine ev_ex 6 (c' := (1664, lL j (some (.int cd)) y z, [.int (nI j + nI 1), .ref 0, .ref 2], hX (cX i s) T')) rfl ?_
  refine l_A (k := 1) rfl (by omega) hn ?_
  refine lr_I (idx := 241) rfl rfl rfl (Nat.le_of_ble_eq_true rfl) (Nat.le_of_ble_eq_true rfl) rfl q (fun u s' q' => ?_)
  refine ev_ex 2 (c' := (1671, lL j (some (.int cd)) (some (.int u)) z, [.ref 2], hX (cX i s') T')) rfl ?_
  refine lr_I (idx := 143) rfl rfl rfl (Nat.le_of_ble_eq_true rfl) (Nat.le_of_ble_eq_true rfl) rfl (w_R_thrown (Q := fun t s2 => t = s'.1 4 ∧ s2 = s') ⟨rfl, rfl⟩) (fun t s2 q2 => ?_)
  obtain ⟨rfl, rfl⟩ := q2
  refine ev_ex 1 (c' := (1676, lL j (some (.int cd)) (some (.int u)) z, [.int cd, .int (s2.1 4)], hX (cX i s2) T')) rfl ?_
  refine ev_icmp_eq (tgt := 1681) rfl rfl (fun _ => ?_) (fun w => absurd q'.1 w)
  refine ev_ex 1 (c' := (1683, lL j (some (.int cd)) (some (.int u)) z, [.int cd], hX (cX i s2) T')) rfl ?_
  have go : ev (t_P i.1 i.2.1 i.2.2) (d + 66) m_L_law 1698 (lL j (some (.int cd)) (some (.int u)) z) [] (hX (cX i s2) T') Q := by
    refine ev_ex 1 (c' := (2695, lL j (some (.int cd)) (some (.int u)) z, [], hX (cX i s2) T')) rfl ?_
    exact nx T' s2 _ _ _ q'.2.2
  refine ev_if_ne (tgt := 1698) rfl rfl (fun _ => go) (fun w => ?_)
  refine ev_ex 2 (c' := (1688, lL j (some (.int cd)) (some (.int u)) z, [.int 0, .ref 3], hX (cX i s2) T')) rfl ?_
  refine l_out rfl q'.2.2.2 ?_
  rw [q'.2.1 w]
  refine ev_ex 2 (c' := (1692, lL j (some (.int cd)) (some (.int u)) z, [.long u.toInt64, .long u.toInt64], hX (cX i s2) T')) rfl ?_
  refine l_cmp rfl ?_
  exact ev_if_eq (tgt := 1698) rfl rfl (fun _ => go) (fun w => absurd rfl w)
set_option maxRecDepth 8000 in
theorem lc_30 (hj : j + 6 ≤ i.1) (hn : i.1 < 2 ^ 31) (h : IVE B T s) (nx : NX i (B + 1) (d + 66) j Q) (x y z : Option Value) : EL i (d + 66) 1701 (lL j x y z) [] T s Q := by
  refine ev_ex 5 (c' := (1707, lL j x y z, [.int (nI j + nI 1), .ref 0, .ref 1], hX (cX i s) T)) rfl ?_
  refine l_A (k := 1) rfl (by omega) hn ?_
  refine ev_ex 4 (c' := (1713, lL j x y z, [.int (nI j + nI 2), .ref 0, .int (i.2.1 (j + 1)), .ref 1], hX (cX i s) T)) rfl ?_
  refine l_A (k := 2) rfl (by omega) hn ?_
  refine ev_ex 1 (c' := (1715, lL j x y z, [.ref 3, .int (i.2.1 (j + 2)), .int (i.2.1 (j + 1)), .ref 1], hX (cX i s) T)) rfl ?_
  refine lx_I (idx := 242) rfl rfl rfl (Nat.le_of_ble_eq_true rfl) (Nat.le_of_ble_eq_true rfl) rfl (lg_at (d := d) h _ _) (fun cd T' q => ?_)
  refine ev_ex 6 (c' := (1726, lL j (some (.int cd)) y z, [.int (nI j + nI 1), .ref 0, .ref 2], hX (cX i s) T')) rfl ?_
  refine l_A (k := 1) rfl (by omega) hn ?_
  refine ev_ex 4 (c' := (1732, lL j (some (.int cd)) y z, [.int (nI j + nI 2), .ref 0, .int (i.2.1 (j + 1)), .ref 2], hX (cX i s) T')) rfl ?_
  refine l_A (k := 2) rfl (by omega) hn ?_
  refine lr_I (idx := 244) rfl rfl rfl (Nat.le_of_ble_eq_true rfl) (Nat.le_of_ble_eq_true rfl) rfl q (fun u s' q' => ?_)
  refine ev_ex 2 (c' := (1739, lL j (some (.int cd)) (some (.int u)) z, [.ref 2], hX (cX i s') T')) rfl ?_
  refine lr_I (idx := 143) rfl rfl rfl (Nat.le_of_ble_eq_true rfl) (Nat.le_of_ble_eq_true rfl) rfl (w_R_thrown (Q := fun t s2 => t = s'.1 4 ∧ s2 = s') ⟨rfl, rfl⟩) (fun t s2 q2 => ?_)
  obtain ⟨rfl, rfl⟩ := q2
  refine ev_ex 1 (c' := (1744, lL j (some (.int cd)) (some (.int u)) z, [.int cd, .int (s2.1 4)], hX (cX i s2) T')) rfl ?_
  refine ev_icmp_eq (tgt := 1749) rfl rfl (fun _ => ?_) (fun w => absurd q'.1 w)
  refine ev_ex 1 (c' := (1751, lL j (some (.int cd)) (some (.int u)) z, [.int cd], hX (cX i s2) T')) rfl ?_
  have go : ev (t_P i.1 i.2.1 i.2.2) (d + 66) m_L_law 1766 (lL j (some (.int cd)) (some (.int u)) z) [] (hX (cX i s2) T') Q := by
    refine ev_ex 1 (c' := (2695, lL j (some (.int cd)) (some (.int u)) z, [], hX (cX i s2) T')) rfl ?_
    exact nx T' s2 _ _ _ q'.2.2
  refine ev_if_ne (tgt := 1766) rfl rfl (fun _ => go) (fun w => ?_)
  refine ev_ex 2 (c' := (1756, lL j (some (.int cd)) (some (.int u)) z, [.int 0, .ref 3], hX (cX i s2) T')) rfl ?_
  refine l_out rfl q'.2.2.2 ?_
  rw [q'.2.1 w]
  refine ev_ex 2 (c' := (1760, lL j (some (.int cd)) (some (.int u)) z, [.long u.toInt64, .long u.toInt64], hX (cX i s2) T')) rfl ?_
  refine l_cmp rfl ?_
  exact ev_if_eq (tgt := 1766) rfl rfl (fun _ => go) (fun w => absurd rfl w)
set_option maxRecDepth 8000 in
theorem lc_31 (hj : j + 6 ≤ i.1) (hn : i.1 < 2 ^ 31) (h : IVE B T s) (nx : NX i (B + 1) (d + 66) j Q) (x y z : Option Value) : EL i (d + 66) 1769 (lL j x y z) [] T s Q := by
  refine ev_ex 5 (c' := (1775, lL j x y z, [.int (nI j + nI 1), .ref 0, .ref 1], hX (cX i s) T)) rfl ?_
  refine l_A (k := 1) rfl (by omega) hn ?_
  refine ev_ex 1 (c' := (1777, lL j x y z, [.ref 3, .int (i.2.1 (j + 1)), .ref 1], hX (cX i s) T)) rfl ?_
  refine lx_I (idx := 245) rfl rfl rfl (Nat.le_of_ble_eq_true rfl) (Nat.le_of_ble_eq_true rfl) rfl (lg_arrives (d := d) h _) (fun cd T' q => ?_)
  refine ev_ex 6 (c' := (1788, lL j (some (.int cd)) y z, [.int (nI j + nI 1), .ref 0, .ref 2], hX (cX i s) T')) rfl ?_
  refine l_A (k := 1) rfl (by omega) hn ?_
  refine lr_I (idx := 247) rfl rfl rfl (Nat.le_of_ble_eq_true rfl) (Nat.le_of_ble_eq_true rfl) rfl q (fun u s' q' => ?_)
  refine ev_ex 2 (c' := (1795, lL j (some (.int cd)) (some (.int u)) z, [.ref 2], hX (cX i s') T')) rfl ?_
  refine lr_I (idx := 143) rfl rfl rfl (Nat.le_of_ble_eq_true rfl) (Nat.le_of_ble_eq_true rfl) rfl (w_R_thrown (Q := fun t s2 => t = s'.1 4 ∧ s2 = s') ⟨rfl, rfl⟩) (fun t s2 q2 => ?_)
  obtain ⟨rfl, rfl⟩ := q2
  refine ev_ex 1 (c' := (1800, lL j (some (.int cd)) (some (.int u)) z, [.int cd, .int (s2.1 4)], hX (cX i s2) T')) rfl ?_
  refine ev_icmp_eq (tgt := 1805) rfl rfl (fun _ => ?_) (fun w => absurd q'.1 w)
  refine ev_ex 1 (c' := (1807, lL j (some (.int cd)) (some (.int u)) z, [.int cd], hX (cX i s2) T')) rfl ?_
  have go : ev (t_P i.1 i.2.1 i.2.2) (d + 66) m_L_law 1822 (lL j (some (.int cd)) (some (.int u)) z) [] (hX (cX i s2) T') Q := by
    refine ev_ex 1 (c' := (2695, lL j (some (.int cd)) (some (.int u)) z, [], hX (cX i s2) T')) rfl ?_
    exact nx T' s2 _ _ _ q'.2.2
  refine ev_if_ne (tgt := 1822) rfl rfl (fun _ => go) (fun w => ?_)
  refine ev_ex 2 (c' := (1812, lL j (some (.int cd)) (some (.int u)) z, [.int 0, .ref 3], hX (cX i s2) T')) rfl ?_
  refine l_out rfl q'.2.2.2 ?_
  rw [q'.2.1 w]
  refine ev_ex 2 (c' := (1816, lL j (some (.int cd)) (some (.int u)) z, [.long u.toInt64, .long u.toInt64], hX (cX i s2) T')) rfl ?_
  refine l_cmp rfl ?_
  exact ev_if_eq (tgt := 1822) rfl rfl (fun _ => go) (fun w => absurd rfl w)
set_option maxRecDepth 8000 in
theorem lc_32 (hj : j + 6 ≤ i.1) (hn : i.1 < 2 ^ 31) (h : IVE B T s) (nx : NX i (B + 1) (d + 66) j Q) (x y z : Option Value) : EL i (d + 66) 1825 (lL j x y z) [] T s Q := by
  refine ev_ex 5 (c' := (1831, lL j x y z, [.int (nI j + nI 1), .ref 0, .ref 1], hX (cX i s) T)) rfl ?_
  refine l_A (k := 1) rfl (by omega) hn ?_
  refine ev_ex 4 (c' := (1837, lL j x y z, [.int (nI j + nI 2), .ref 0, .int (i.2.1 (j + 1)), .ref 1], hX (cX i s) T)) rfl ?_
  refine l_A (k := 2) rfl (by omega) hn ?_
  refine ev_ex 1 (c' := (1839, lL j x y z, [.ref 3, .int (i.2.1 (j + 2)), .int (i.2.1 (j + 1)), .ref 1], hX (cX i s) T)) rfl ?_
  refine lx_I (idx := 248) rfl rfl rfl (Nat.le_of_ble_eq_true rfl) (Nat.le_of_ble_eq_true rfl) rfl (lg_meets (d := d) h _ _) (fun cd T' q => ?_)
  refine ev_ex 6 (c' := (1850, lL j (some (.int cd)) y z, [.int (nI j + nI 1), .ref 0, .ref 2], hX (cX i s) T')) rfl ?_
  refine l_A (k := 1) rfl (by omega) hn ?_
  refine ev_ex 4 (c' := (1856, lL j (some (.int cd)) y z, [.int (nI j + nI 2), .ref 0, .int (i.2.1 (j + 1)), .ref 2], hX (cX i s) T')) rfl ?_
  refine l_A (k := 2) rfl (by omega) hn ?_
  refine lr_I (idx := 250) rfl rfl rfl (Nat.le_of_ble_eq_true rfl) (Nat.le_of_ble_eq_true rfl) rfl q (fun u s' q' => ?_)
  refine ev_ex 2 (c' := (1863, lL j (some (.int cd)) (some (.int u)) z, [.ref 2], hX (cX i s') T')) rfl ?_
  refine lr_I (idx := 143) rfl rfl rfl (Nat.le_of_ble_eq_true rfl) (Nat.le_of_ble_eq_true rfl) rfl (w_R_thrown (Q := fun t s2 => t = s'.1 4 ∧ s2 = s') ⟨rfl, rfl⟩) (fun t s2 q2 => ?_)
  obtain ⟨rfl, rfl⟩ := q2
  refine ev_ex 1 (c' := (1868, lL j (some (.int cd)) (some (.int u)) z, [.int cd, .int (s2.1 4)], hX (cX i s2) T')) rfl ?_
  refine ev_icmp_eq (tgt := 1873) rfl rfl (fun _ => ?_) (fun w => absurd q'.1 w)
  refine ev_ex 1 (c' := (1875, lL j (some (.int cd)) (some (.int u)) z, [.int cd], hX (cX i s2) T')) rfl ?_
  have go : ev (t_P i.1 i.2.1 i.2.2) (d + 66) m_L_law 1890 (lL j (some (.int cd)) (some (.int u)) z) [] (hX (cX i s2) T') Q := by
    refine ev_ex 1 (c' := (2695, lL j (some (.int cd)) (some (.int u)) z, [], hX (cX i s2) T')) rfl ?_
    exact nx T' s2 _ _ _ q'.2.2
  refine ev_if_ne (tgt := 1890) rfl rfl (fun _ => go) (fun w => ?_)
  refine ev_ex 2 (c' := (1880, lL j (some (.int cd)) (some (.int u)) z, [.int 0, .ref 3], hX (cX i s2) T')) rfl ?_
  refine l_out rfl q'.2.2.2 ?_
  rw [q'.2.1 w]
  refine ev_ex 2 (c' := (1884, lL j (some (.int cd)) (some (.int u)) z, [.long u.toInt64, .long u.toInt64], hX (cX i s2) T')) rfl ?_
  refine l_cmp rfl ?_
  exact ev_if_eq (tgt := 1890) rfl rfl (fun _ => go) (fun w => absurd rfl w)
set_option maxRecDepth 8000 in
theorem lc_33 (hj : j + 6 ≤ i.1) (hn : i.1 < 2 ^ 31) (h : IVE B T s) (nx : NX i (B + 1) (d + 66) j Q) (x y z : Option Value) : EL i (d + 66) 1893 (lL j x y z) [] T s Q := by
  refine ev_ex 1 (c' := (1894, lL j x y z, [.ref 1], hX (cX i s) T)) rfl ?_
  obtain ⟨⟨A, h⟩, a3⟩ := h
  refine lx_I (idx := 251) rfl rfl rfl (Nat.le_of_ble_eq_true rfl) (Nat.le_of_ble_eq_true rfl) (x_rcv (c := cX i s) (T := T) (ob_lit (i := 0) rfl (by decide) rfl) ⟨by decide, by decide⟩ _ _) (XI_sg (ag_bows (d := d + 1) (i := i) h)) (fun u T' q => ?_)
  refine ev_ex 1 (c' := (1898, lL j x y z, [.ref 2, .int u], hX (cX i s) T')) rfl ?_
  refine lr_I (idx := 254) rfl rfl rfl (Nat.le_of_ble_eq_true rfl) (Nat.le_of_ble_eq_true rfl) rfl q.1 (fun v s' q' => ?_)
  exact ev_icmp_eq (tgt := 2695) rfl rfl (fun _ => nx T' s' _ _ _ ⟨q'.2, sg3 q.2 a3⟩) (fun w => absurd q'.1.symm w)
set_option maxRecDepth 8000 in
theorem lc_34 (hj : j + 6 ≤ i.1) (hn : i.1 < 2 ^ 31) (h : IVE B T s) (nx : NX i (B + 1) (d + 66) j Q) (x y z : Option Value) : EL i (d + 66) 1906 (lL j x y z) [] T s Q := by
  refine ev_ex 5 (c' := (1912, lL j x y z, [.int (nI j + nI 1), .ref 0, .ref 1], hX (cX i s) T)) rfl ?_
  refine l_A (k := 1) rfl (by omega) hn ?_
  refine ev_ex 4 (c' := (1918, lL j x y z, [.int (nI j + nI 2), .ref 0, .int (i.2.1 (j + 1)), .ref 1], hX (cX i s) T)) rfl ?_
  refine l_A (k := 2) rfl (by omega) hn ?_
  refine ev_ex 1 (c' := (1920, lL j x y z, [.ref 3, .int (i.2.1 (j + 2)), .int (i.2.1 (j + 1)), .ref 1], hX (cX i s) T)) rfl ?_
  refine lx_I (idx := 255) rfl rfl rfl (Nat.le_of_ble_eq_true rfl) (Nat.le_of_ble_eq_true rfl) rfl (lg_melted (d := d) h _ _) (fun cd T' q => ?_)
  refine ev_ex 6 (c' := (1931, lL j (some (.int cd)) y z, [.int (nI j + nI 1), .ref 0, .ref 2], hX (cX i s) T')) rfl ?_
  refine l_A (k := 1) rfl (by omega) hn ?_
  refine ev_ex 4 (c' := (1937, lL j (some (.int cd)) y z, [.int (nI j + nI 2), .ref 0, .int (i.2.1 (j + 1)), .ref 2], hX (cX i s) T')) rfl ?_
  refine l_A (k := 2) rfl (by omega) hn ?_
  refine lr_I (idx := 257) rfl rfl rfl (Nat.le_of_ble_eq_true rfl) (Nat.le_of_ble_eq_true rfl) rfl q (fun u s' q' => ?_)
  refine ev_ex 2 (c' := (1944, lL j (some (.int cd)) (some (.int u)) z, [.ref 2], hX (cX i s') T')) rfl ?_
  refine lr_I (idx := 143) rfl rfl rfl (Nat.le_of_ble_eq_true rfl) (Nat.le_of_ble_eq_true rfl) rfl (w_R_thrown (Q := fun t s2 => t = s'.1 4 ∧ s2 = s') ⟨rfl, rfl⟩) (fun t s2 q2 => ?_)
  obtain ⟨rfl, rfl⟩ := q2
  refine ev_ex 1 (c' := (1949, lL j (some (.int cd)) (some (.int u)) z, [.int cd, .int (s2.1 4)], hX (cX i s2) T')) rfl ?_
  refine ev_icmp_eq (tgt := 1954) rfl rfl (fun _ => ?_) (fun w => absurd q'.1 w)
  refine ev_ex 1 (c' := (1956, lL j (some (.int cd)) (some (.int u)) z, [.int cd], hX (cX i s2) T')) rfl ?_
  have go : ev (t_P i.1 i.2.1 i.2.2) (d + 66) m_L_law 1971 (lL j (some (.int cd)) (some (.int u)) z) [] (hX (cX i s2) T') Q := by
    refine ev_ex 1 (c' := (2695, lL j (some (.int cd)) (some (.int u)) z, [], hX (cX i s2) T')) rfl ?_
    exact nx T' s2 _ _ _ q'.2.2
  refine ev_if_ne (tgt := 1971) rfl rfl (fun _ => go) (fun w => ?_)
  refine ev_ex 2 (c' := (1961, lL j (some (.int cd)) (some (.int u)) z, [.int 0, .ref 3], hX (cX i s2) T')) rfl ?_
  refine l_out rfl q'.2.2.2 ?_
  rw [q'.2.1 w]
  refine ev_ex 2 (c' := (1965, lL j (some (.int cd)) (some (.int u)) z, [.long u.toInt64, .long u.toInt64], hX (cX i s2) T')) rfl ?_
  refine l_cmp rfl ?_
  exact ev_if_eq (tgt := 1971) rfl rfl (fun _ => go) (fun w => absurd rfl w)
set_option maxRecDepth 8000 in
theorem lc_35 (hj : j + 6 ≤ i.1) (hn : i.1 < 2 ^ 31) (h : IVE B T s) (nx : NX i (B + 1) (d + 66) j Q) (x y z : Option Value) : EL i (d + 66) 1974 (lL j x y z) [] T s Q := by
  refine ev_ex 1 (c' := (1975, lL j x y z, [.ref 1], hX (cX i s) T)) rfl ?_
  obtain ⟨⟨A, h⟩, a3⟩ := h
  refine lx_I (idx := 258) rfl rfl rfl (Nat.le_of_ble_eq_true rfl) (Nat.le_of_ble_eq_true rfl) (x_rcv (c := cX i s) (T := T) (ob_lit (i := 0) rfl (by decide) rfl) ⟨by decide, by decide⟩ _ _) (XI_sg (ag_noise (d := d + 1) (i := i) h)) (fun u T' q => ?_)
  refine ev_ex 1 (c' := (1979, lL j x y z, [.ref 2, .int u], hX (cX i s) T')) rfl ?_
  refine lr_I (idx := 261) rfl rfl rfl (Nat.le_of_ble_eq_true rfl) (Nat.le_of_ble_eq_true rfl) rfl q.1 (fun v s' q' => ?_)
  exact ev_icmp_eq (tgt := 2695) rfl rfl (fun _ => nx T' s' _ _ _ ⟨q'.2, sg3 q.2 a3⟩) (fun w => absurd q'.1.symm w)
set_option maxRecDepth 8000 in
theorem lc_36 (hj : j + 6 ≤ i.1) (hn : i.1 < 2 ^ 31) (h : IVE B T s) (nx : NX i (B + 1) (d + 66) j Q) (x y z : Option Value) : EL i (d + 66) 1987 (lL j x y z) [] T s Q := by
  refine ev_ex 5 (c' := (1993, lL j x y z, [.int (nI j + nI 1), .ref 0, .ref 1], hX (cX i s) T)) rfl ?_
  refine l_A (k := 1) rfl (by omega) hn ?_
  refine ev_ex 4 (c' := (1999, lL j x y z, [.int (nI j + nI 2), .ref 0, .int (i.2.1 (j + 1)), .ref 1], hX (cX i s) T)) rfl ?_
  refine l_A (k := 2) rfl (by omega) hn ?_
  refine ev_ex 1 (c' := (2001, lL j x y z, [.ref 3, .int (i.2.1 (j + 2)), .int (i.2.1 (j + 1)), .ref 1], hX (cX i s) T)) rfl ?_
  refine lx_I (idx := 262) rfl rfl rfl (Nat.le_of_ble_eq_true rfl) (Nat.le_of_ble_eq_true rfl) rfl (lg_quietest (d := d) h _ _) (fun cd T' q => ?_)
  refine ev_ex 6 (c' := (2012, lL j (some (.int cd)) y z, [.int (nI j + nI 1), .ref 0, .ref 2], hX (cX i s) T')) rfl ?_
  refine l_A (k := 1) rfl (by omega) hn ?_
  refine ev_ex 4 (c' := (2018, lL j (some (.int cd)) y z, [.int (nI j + nI 2), .ref 0, .int (i.2.1 (j + 1)), .ref 2], hX (cX i s) T')) rfl ?_
  refine l_A (k := 2) rfl (by omega) hn ?_
  refine lr_I (idx := 264) rfl rfl rfl (Nat.le_of_ble_eq_true rfl) (Nat.le_of_ble_eq_true rfl) rfl q (fun u s' q' => ?_)
  refine ev_ex 2 (c' := (2025, lL j (some (.int cd)) (some (.int u)) z, [.ref 2], hX (cX i s') T')) rfl ?_
  refine lr_I (idx := 143) rfl rfl rfl (Nat.le_of_ble_eq_true rfl) (Nat.le_of_ble_eq_true rfl) rfl (w_R_thrown (Q := fun t s2 => t = s'.1 4 ∧ s2 = s') ⟨rfl, rfl⟩) (fun t s2 q2 => ?_)
  obtain ⟨rfl, rfl⟩ := q2
  refine ev_ex 1 (c' := (2030, lL j (some (.int cd)) (some (.int u)) z, [.int cd, .int (s2.1 4)], hX (cX i s2) T')) rfl ?_
  refine ev_icmp_eq (tgt := 2035) rfl rfl (fun _ => ?_) (fun w => absurd q'.1 w)
  refine ev_ex 1 (c' := (2037, lL j (some (.int cd)) (some (.int u)) z, [.int cd], hX (cX i s2) T')) rfl ?_
  have go : ev (t_P i.1 i.2.1 i.2.2) (d + 66) m_L_law 2052 (lL j (some (.int cd)) (some (.int u)) z) [] (hX (cX i s2) T') Q := by
    refine ev_ex 1 (c' := (2695, lL j (some (.int cd)) (some (.int u)) z, [], hX (cX i s2) T')) rfl ?_
    exact nx T' s2 _ _ _ q'.2.2
  refine ev_if_ne (tgt := 2052) rfl rfl (fun _ => go) (fun w => ?_)
  refine ev_ex 2 (c' := (2042, lL j (some (.int cd)) (some (.int u)) z, [.int 0, .ref 3], hX (cX i s2) T')) rfl ?_
  refine l_out rfl q'.2.2.2 ?_
  rw [q'.2.1 w]
  refine ev_ex 2 (c' := (2046, lL j (some (.int cd)) (some (.int u)) z, [.long u.toInt64, .long u.toInt64], hX (cX i s2) T')) rfl ?_
  refine l_cmp rfl ?_
  exact ev_if_eq (tgt := 2052) rfl rfl (fun _ => go) (fun w => absurd rfl w)
set_option maxRecDepth 8000 in
theorem lc_37 (hj : j + 6 ≤ i.1) (hn : i.1 < 2 ^ 31) (h : IVE B T s) (nx : NX i (B + 1) (d + 66) j Q) (x y z : Option Value) : EL i (d + 66) 2055 (lL j x y z) [] T s Q := by
  refine ev_ex 5 (c' := (2061, lL j x y z, [.int (nI j + nI 1), .ref 0, .ref 1], hX (cX i s) T)) rfl ?_
  refine l_A (k := 1) rfl (by omega) hn ?_
  refine ev_ex 1 (c' := (2063, lL j x y z, [.ref 3, .int (i.2.1 (j + 1)), .ref 1], hX (cX i s) T)) rfl ?_
  refine lx_I (idx := 265) rfl rfl rfl (Nat.le_of_ble_eq_true rfl) (Nat.le_of_ble_eq_true rfl) rfl (lg_comesBack (d := d) h _) (fun cd T' q => ?_)
  refine ev_ex 6 (c' := (2074, lL j (some (.int cd)) y z, [.int (nI j + nI 1), .ref 0, .ref 2], hX (cX i s) T')) rfl ?_
  refine l_A (k := 1) rfl (by omega) hn ?_
  refine lr_I (idx := 267) rfl rfl rfl (Nat.le_of_ble_eq_true rfl) (Nat.le_of_ble_eq_true rfl) rfl q (fun u s' q' => ?_)
  refine ev_ex 2 (c' := (2081, lL j (some (.int cd)) (some (.int u)) z, [.ref 2], hX (cX i s') T')) rfl ?_
  refine lr_I (idx := 143) rfl rfl rfl (Nat.le_of_ble_eq_true rfl) (Nat.le_of_ble_eq_true rfl) rfl (w_R_thrown (Q := fun t s2 => t = s'.1 4 ∧ s2 = s') ⟨rfl, rfl⟩) (fun t s2 q2 => ?_)
  obtain ⟨rfl, rfl⟩ := q2
  refine ev_ex 1 (c' := (2086, lL j (some (.int cd)) (some (.int u)) z, [.int cd, .int (s2.1 4)], hX (cX i s2) T')) rfl ?_
  refine ev_icmp_eq (tgt := 2091) rfl rfl (fun _ => ?_) (fun w => absurd q'.1 w)
  refine ev_ex 1 (c' := (2093, lL j (some (.int cd)) (some (.int u)) z, [.int cd], hX (cX i s2) T')) rfl ?_
  have go : ev (t_P i.1 i.2.1 i.2.2) (d + 66) m_L_law 2108 (lL j (some (.int cd)) (some (.int u)) z) [] (hX (cX i s2) T') Q := by
    refine ev_ex 1 (c' := (2695, lL j (some (.int cd)) (some (.int u)) z, [], hX (cX i s2) T')) rfl ?_
    exact nx T' s2 _ _ _ q'.2.2
  refine ev_if_ne (tgt := 2108) rfl rfl (fun _ => go) (fun w => ?_)
  refine ev_ex 2 (c' := (2098, lL j (some (.int cd)) (some (.int u)) z, [.int 0, .ref 3], hX (cX i s2) T')) rfl ?_
  refine l_out rfl q'.2.2.2 ?_
  rw [q'.2.1 w]
  refine ev_ex 2 (c' := (2102, lL j (some (.int cd)) (some (.int u)) z, [.long u.toInt64, .long u.toInt64], hX (cX i s2) T')) rfl ?_
  refine l_cmp rfl ?_
  exact ev_if_eq (tgt := 2108) rfl rfl (fun _ => go) (fun w => absurd rfl w)
set_option maxRecDepth 8000 in
theorem lc_38 (hj : j + 6 ≤ i.1) (hn : i.1 < 2 ^ 31) (h : IVE B T s) (nx : NX i (B + 1) (d + 66) j Q) (x y z : Option Value) : EL i (d + 66) 2111 (lL j x y z) [] T s Q := by
  refine ev_ex 5 (c' := (2117, lL j x y z, [.int (nI j + nI 1), .ref 0, .ref 1], hX (cX i s) T)) rfl ?_
  refine l_A (k := 1) rfl (by omega) hn ?_
  refine ev_ex 4 (c' := (2123, lL j x y z, [.int (nI j + nI 2), .ref 0, .int (i.2.1 (j + 1)), .ref 1], hX (cX i s) T)) rfl ?_
  refine l_A (k := 2) rfl (by omega) hn ?_
  refine ev_ex 1 (c' := (2125, lL j x y z, [.ref 3, .int (i.2.1 (j + 2)), .int (i.2.1 (j + 1)), .ref 1], hX (cX i s) T)) rfl ?_
  refine lx_I (idx := 268) rfl rfl rfl (Nat.le_of_ble_eq_true rfl) (Nat.le_of_ble_eq_true rfl) rfl (lg_mocksIn (d := d) h _ _) (fun cd T' q => ?_)
  refine ev_ex 6 (c' := (2136, lL j (some (.int cd)) y z, [.int (nI j + nI 1), .ref 0, .ref 2], hX (cX i s) T')) rfl ?_
  refine l_A (k := 1) rfl (by omega) hn ?_
  refine ev_ex 4 (c' := (2142, lL j (some (.int cd)) y z, [.int (nI j + nI 2), .ref 0, .int (i.2.1 (j + 1)), .ref 2], hX (cX i s) T')) rfl ?_
  refine l_A (k := 2) rfl (by omega) hn ?_
  refine lr_I (idx := 270) rfl rfl rfl (Nat.le_of_ble_eq_true rfl) (Nat.le_of_ble_eq_true rfl) rfl q (fun u s' q' => ?_)
  refine ev_ex 2 (c' := (2149, lL j (some (.int cd)) (some (.int u)) z, [.ref 2], hX (cX i s') T')) rfl ?_
  refine lr_I (idx := 143) rfl rfl rfl (Nat.le_of_ble_eq_true rfl) (Nat.le_of_ble_eq_true rfl) rfl (w_R_thrown (Q := fun t s2 => t = s'.1 4 ∧ s2 = s') ⟨rfl, rfl⟩) (fun t s2 q2 => ?_)
  obtain ⟨rfl, rfl⟩ := q2
  refine ev_ex 1 (c' := (2154, lL j (some (.int cd)) (some (.int u)) z, [.int cd, .int (s2.1 4)], hX (cX i s2) T')) rfl ?_
  refine ev_icmp_eq (tgt := 2159) rfl rfl (fun _ => ?_) (fun w => absurd q'.1 w)
  refine ev_ex 1 (c' := (2161, lL j (some (.int cd)) (some (.int u)) z, [.int cd], hX (cX i s2) T')) rfl ?_
  have go : ev (t_P i.1 i.2.1 i.2.2) (d + 66) m_L_law 2176 (lL j (some (.int cd)) (some (.int u)) z) [] (hX (cX i s2) T') Q := by
    refine ev_ex 1 (c' := (2695, lL j (some (.int cd)) (some (.int u)) z, [], hX (cX i s2) T')) rfl ?_
    exact nx T' s2 _ _ _ q'.2.2
  refine ev_if_ne (tgt := 2176) rfl rfl (fun _ => go) (fun w => ?_)
  refine ev_ex 2 (c' := (2166, lL j (some (.int cd)) (some (.int u)) z, [.int 0, .ref 3], hX (cX i s2) T')) rfl ?_
  refine l_out rfl q'.2.2.2 ?_
  rw [q'.2.1 w]
  refine ev_ex 2 (c' := (2170, lL j (some (.int cd)) (some (.int u)) z, [.long u.toInt64, .long u.toInt64], hX (cX i s2) T')) rfl ?_
  refine l_cmp rfl ?_
  exact ev_if_eq (tgt := 2176) rfl rfl (fun _ => go) (fun w => absurd rfl w)
set_option maxRecDepth 8000 in
theorem lc_39 (hj : j + 6 ≤ i.1) (hn : i.1 < 2 ^ 31) (h : IVE B T s) (nx : NX i (B + 1) (d + 66) j Q) (x y z : Option Value) : EL i (d + 66) 2179 (lL j x y z) [] T s Q := by
  refine ev_ex 5 (c' := (2185, lL j x y z, [.int (nI j + nI 1), .ref 0, .ref 1], hX (cX i s) T)) rfl ?_
  refine l_A (k := 1) rfl (by omega) hn ?_
  refine ev_ex 1 (c' := (2187, lL j x y z, [.ref 3, .int (i.2.1 (j + 1)), .ref 1], hX (cX i s) T)) rfl ?_
  refine lx_I (idx := 271) rfl rfl rfl (Nat.le_of_ble_eq_true rfl) (Nat.le_of_ble_eq_true rfl) rfl (lg_seen (d := d) h _) (fun cd T' q => ?_)
  refine ev_ex 6 (c' := (2198, lL j (some (.int cd)) y z, [.int (nI j + nI 1), .ref 0, .ref 2], hX (cX i s) T')) rfl ?_
  refine l_A (k := 1) rfl (by omega) hn ?_
  refine lr_I (idx := 273) rfl rfl rfl (Nat.le_of_ble_eq_true rfl) (Nat.le_of_ble_eq_true rfl) rfl q (fun u s' q' => ?_)
  refine ev_ex 2 (c' := (2205, lL j (some (.int cd)) (some (.int u)) z, [.ref 2], hX (cX i s') T')) rfl ?_
  refine lr_I (idx := 143) rfl rfl rfl (Nat.le_of_ble_eq_true rfl) (Nat.le_of_ble_eq_true rfl) rfl (w_R_thrown (Q := fun t s2 => t = s'.1 4 ∧ s2 = s') ⟨rfl, rfl⟩) (fun t s2 q2 => ?_)
  obtain ⟨rfl, rfl⟩ := q2
  refine ev_ex 1 (c' := (2210, lL j (some (.int cd)) (some (.int u)) z, [.int cd, .int (s2.1 4)], hX (cX i s2) T')) rfl ?_
  refine ev_icmp_eq (tgt := 2215) rfl rfl (fun _ => ?_) (fun w => absurd q'.1 w)
  refine ev_ex 1 (c' := (2217, lL j (some (.int cd)) (some (.int u)) z, [.int cd], hX (cX i s2) T')) rfl ?_
  have go : ev (t_P i.1 i.2.1 i.2.2) (d + 66) m_L_law 2232 (lL j (some (.int cd)) (some (.int u)) z) [] (hX (cX i s2) T') Q := by
    refine ev_ex 1 (c' := (2695, lL j (some (.int cd)) (some (.int u)) z, [], hX (cX i s2) T')) rfl ?_
    exact nx T' s2 _ _ _ q'.2.2
  refine ev_if_ne (tgt := 2232) rfl rfl (fun _ => go) (fun w => ?_)
  refine ev_ex 2 (c' := (2222, lL j (some (.int cd)) (some (.int u)) z, [.int 0, .ref 3], hX (cX i s2) T')) rfl ?_
  refine l_out rfl q'.2.2.2 ?_
  rw [q'.2.1 w]
  refine ev_ex 2 (c' := (2226, lL j (some (.int cd)) (some (.int u)) z, [.long u.toInt64, .long u.toInt64], hX (cX i s2) T')) rfl ?_
  refine l_cmp rfl ?_
  exact ev_if_eq (tgt := 2232) rfl rfl (fun _ => go) (fun w => absurd rfl w)
set_option maxRecDepth 8000 in
theorem lc_40 (hj : j + 6 ≤ i.1) (hn : i.1 < 2 ^ 31) (h : IVE B T s) (nx : NX i (B + 1) (d + 66) j Q) (x y z : Option Value) : EL i (d + 66) 2235 (lL j x y z) [] T s Q := by
  refine ev_ex 5 (c' := (2241, lL j x y z, [.int (nI j + nI 1), .ref 0, .ref 1], hX (cX i s) T)) rfl ?_
  refine l_A (k := 1) rfl (by omega) hn ?_
  refine ev_ex 4 (c' := (2247, lL j x y z, [.int (nI j + nI 2), .ref 0, .int (i.2.1 (j + 1)), .ref 1], hX (cX i s) T)) rfl ?_
  refine l_A (k := 2) rfl (by omega) hn ?_
  refine ev_ex 1 (c' := (2249, lL j x y z, [.ref 3, .int (i.2.1 (j + 2)), .int (i.2.1 (j + 1)), .ref 1], hX (cX i s) T)) rfl ?_
  refine lx_I (idx := 274) rfl rfl rfl (Nat.le_of_ble_eq_true rfl) (Nat.le_of_ble_eq_true rfl) rfl (lg_ever (d := d) h _ _) (fun cd T' q => ?_)
  refine ev_ex 6 (c' := (2260, lL j (some (.int cd)) y z, [.int (nI j + nI 1), .ref 0, .ref 2], hX (cX i s) T')) rfl ?_
  refine l_A (k := 1) rfl (by omega) hn ?_
  refine ev_ex 4 (c' := (2266, lL j (some (.int cd)) y z, [.int (nI j + nI 2), .ref 0, .int (i.2.1 (j + 1)), .ref 2], hX (cX i s) T')) rfl ?_
  refine l_A (k := 2) rfl (by omega) hn ?_
  refine lr_I (idx := 276) rfl rfl rfl (Nat.le_of_ble_eq_true rfl) (Nat.le_of_ble_eq_true rfl) rfl q (fun u s' q' => ?_)
  refine ev_ex 2 (c' := (2273, lL j (some (.int cd)) (some (.int u)) z, [.ref 2], hX (cX i s') T')) rfl ?_
  refine lr_I (idx := 143) rfl rfl rfl (Nat.le_of_ble_eq_true rfl) (Nat.le_of_ble_eq_true rfl) rfl (w_R_thrown (Q := fun t s2 => t = s'.1 4 ∧ s2 = s') ⟨rfl, rfl⟩) (fun t s2 q2 => ?_)
  obtain ⟨rfl, rfl⟩ := q2
  refine ev_ex 1 (c' := (2278, lL j (some (.int cd)) (some (.int u)) z, [.int cd, .int (s2.1 4)], hX (cX i s2) T')) rfl ?_
  refine ev_icmp_eq (tgt := 2283) rfl rfl (fun _ => ?_) (fun w => absurd q'.1 w)
  refine ev_ex 1 (c' := (2285, lL j (some (.int cd)) (some (.int u)) z, [.int cd], hX (cX i s2) T')) rfl ?_
  have go : ev (t_P i.1 i.2.1 i.2.2) (d + 66) m_L_law 2300 (lL j (some (.int cd)) (some (.int u)) z) [] (hX (cX i s2) T') Q := by
    refine ev_ex 1 (c' := (2695, lL j (some (.int cd)) (some (.int u)) z, [], hX (cX i s2) T')) rfl ?_
    exact nx T' s2 _ _ _ q'.2.2
  refine ev_if_ne (tgt := 2300) rfl rfl (fun _ => go) (fun w => ?_)
  refine ev_ex 2 (c' := (2290, lL j (some (.int cd)) (some (.int u)) z, [.int 0, .ref 3], hX (cX i s2) T')) rfl ?_
  refine l_out rfl q'.2.2.2 ?_
  rw [q'.2.1 w]
  refine ev_ex 2 (c' := (2294, lL j (some (.int cd)) (some (.int u)) z, [.long u.toInt64, .long u.toInt64], hX (cX i s2) T')) rfl ?_
  refine l_cmp rfl ?_
  exact ev_if_eq (tgt := 2300) rfl rfl (fun _ => go) (fun w => absurd rfl w)
set_option maxRecDepth 8000 in
theorem lc_41 (hj : j + 6 ≤ i.1) (hn : i.1 < 2 ^ 31) (h : IVE B T s) (nx : NX i (B + 1) (d + 66) j Q) (x y z : Option Value) : EL i (d + 66) 2303 (lL j x y z) [] T s Q := by
  refine ev_ex 5 (c' := (2309, lL j x y z, [.int (nI j + nI 1), .ref 0, .ref 1], hX (cX i s) T)) rfl ?_
  refine l_A (k := 1) rfl (by omega) hn ?_
  refine ev_ex 4 (c' := (2315, lL j x y z, [.int (nI j + nI 2), .ref 0, .int (i.2.1 (j + 1)), .ref 1], hX (cX i s) T)) rfl ?_
  refine l_A (k := 2) rfl (by omega) hn ?_
  refine ev_ex 1 (c' := (2317, lL j x y z, [.ref 3, .int (i.2.1 (j + 2)), .int (i.2.1 (j + 1)), .ref 1], hX (cX i s) T)) rfl ?_
  refine lx_I (idx := 277) rfl rfl rfl (Nat.le_of_ble_eq_true rfl) (Nat.le_of_ble_eq_true rfl) rfl (lg_fewest (d := d) h _ _) (fun cd T' q => ?_)
  refine ev_ex 6 (c' := (2328, lL j (some (.int cd)) y z, [.int (nI j + nI 1), .ref 0, .ref 2], hX (cX i s) T')) rfl ?_
  refine l_A (k := 1) rfl (by omega) hn ?_
  refine ev_ex 4 (c' := (2334, lL j (some (.int cd)) y z, [.int (nI j + nI 2), .ref 0, .int (i.2.1 (j + 1)), .ref 2], hX (cX i s) T')) rfl ?_
  refine l_A (k := 2) rfl (by omega) hn ?_
  refine lr_I (idx := 279) rfl rfl rfl (Nat.le_of_ble_eq_true rfl) (Nat.le_of_ble_eq_true rfl) rfl q (fun u s' q' => ?_)
  refine ev_ex 2 (c' := (2341, lL j (some (.int cd)) (some (.int u)) z, [.ref 2], hX (cX i s') T')) rfl ?_
  refine lr_I (idx := 143) rfl rfl rfl (Nat.le_of_ble_eq_true rfl) (Nat.le_of_ble_eq_true rfl) rfl (w_R_thrown (Q := fun t s2 => t = s'.1 4 ∧ s2 = s') ⟨rfl, rfl⟩) (fun t s2 q2 => ?_)
  obtain ⟨rfl, rfl⟩ := q2
  refine ev_ex 1 (c' := (2346, lL j (some (.int cd)) (some (.int u)) z, [.int cd, .int (s2.1 4)], hX (cX i s2) T')) rfl ?_
  refine ev_icmp_eq (tgt := 2351) rfl rfl (fun _ => ?_) (fun w => absurd q'.1 w)
  refine ev_ex 1 (c' := (2353, lL j (some (.int cd)) (some (.int u)) z, [.int cd], hX (cX i s2) T')) rfl ?_
  have go : ev (t_P i.1 i.2.1 i.2.2) (d + 66) m_L_law 2368 (lL j (some (.int cd)) (some (.int u)) z) [] (hX (cX i s2) T') Q := by
    refine ev_ex 1 (c' := (2695, lL j (some (.int cd)) (some (.int u)) z, [], hX (cX i s2) T')) rfl ?_
    exact nx T' s2 _ _ _ q'.2.2
  refine ev_if_ne (tgt := 2368) rfl rfl (fun _ => go) (fun w => ?_)
  refine ev_ex 2 (c' := (2358, lL j (some (.int cd)) (some (.int u)) z, [.int 0, .ref 3], hX (cX i s2) T')) rfl ?_
  refine l_out rfl q'.2.2.2 ?_
  rw [q'.2.1 w]
  refine ev_ex 2 (c' := (2362, lL j (some (.int cd)) (some (.int u)) z, [.long u.toInt64, .long u.toInt64], hX (cX i s2) T')) rfl ?_
  refine l_cmp rfl ?_
  exact ev_if_eq (tgt := 2368) rfl rfl (fun _ => go) (fun w => absurd rfl w)
set_option maxRecDepth 8000 in
theorem lc_44 (hj : j + 6 ≤ i.1) (hn : i.1 < 2 ^ 31) (h : IVE B T s) (nx : NX i (B + 1) (d + 66) j Q) (x y z : Option Value) : EL i (d + 66) 2542 (lL j x y z) [] T s Q := by
  refine ev_ex 5 (c' := (2548, lL j x y z, [.int (nI j + nI 1), .ref 0, .ref 1], hX (cX i s) T)) rfl ?_
  refine l_A (k := 1) rfl (by omega) hn ?_
  refine ev_ex 1 (c' := (2550, lL j x y z, [.ref 3, .int (i.2.1 (j + 1)), .ref 1], hX (cX i s) T)) rfl ?_
  refine lx_I (idx := 290) rfl rfl rfl (Nat.le_of_ble_eq_true rfl) (Nat.le_of_ble_eq_true rfl) rfl (lg_copy (d := d) h _) (fun cd T' q => ?_)
  refine ev_ex 6 (c' := (2561, lL j (some (.int cd)) y z, [.int (nI j + nI 1), .ref 0, .ref 2], hX (cX i s) T')) rfl ?_
  refine l_A (k := 1) rfl (by omega) hn ?_
  refine lr_I (idx := 292) rfl rfl rfl (Nat.le_of_ble_eq_true rfl) (Nat.le_of_ble_eq_true rfl) rfl q (fun u s' q' => ?_)
  refine ev_ex 2 (c' := (2568, lL j (some (.int cd)) (some (.int u)) z, [.ref 2], hX (cX i s') T')) rfl ?_
  refine lr_I (idx := 143) rfl rfl rfl (Nat.le_of_ble_eq_true rfl) (Nat.le_of_ble_eq_true rfl) rfl (w_R_thrown (Q := fun t s2 => t = s'.1 4 ∧ s2 = s') ⟨rfl, rfl⟩) (fun t s2 q2 => ?_)
  obtain ⟨rfl, rfl⟩ := q2
  refine ev_ex 1 (c' := (2573, lL j (some (.int cd)) (some (.int u)) z, [.int cd, .int (s2.1 4)], hX (cX i s2) T')) rfl ?_
  refine ev_icmp_eq (tgt := 2578) rfl rfl (fun _ => ?_) (fun w => absurd q'.1 w)
  refine ev_ex 1 (c' := (2580, lL j (some (.int cd)) (some (.int u)) z, [.int cd], hX (cX i s2) T')) rfl ?_
  have go : ev (t_P i.1 i.2.1 i.2.2) (d + 66) m_L_law 2595 (lL j (some (.int cd)) (some (.int u)) z) [] (hX (cX i s2) T') Q := by
    refine ev_ex 1 (c' := (2695, lL j (some (.int cd)) (some (.int u)) z, [], hX (cX i s2) T')) rfl ?_
    exact nx T' s2 _ _ _ q'.2.2
  refine ev_if_ne (tgt := 2595) rfl rfl (fun _ => go) (fun w => ?_)
  refine ev_ex 2 (c' := (2585, lL j (some (.int cd)) (some (.int u)) z, [.int 0, .ref 3], hX (cX i s2) T')) rfl ?_
  refine l_out rfl q'.2.2.2 ?_
  rw [q'.2.1 w]
  refine ev_ex 2 (c' := (2589, lL j (some (.int cd)) (some (.int u)) z, [.long u.toInt64, .long u.toInt64], hX (cX i s2) T')) rfl ?_
  refine l_cmp rfl ?_
  exact ev_if_eq (tgt := 2595) rfl rfl (fun _ => go) (fun w => absurd rfl w)
set_option maxRecDepth 8000 in
theorem lc_47 (hj : j + 6 ≤ i.1) (hn : i.1 < 2 ^ 31) (h : IVE B T s) (nx : NX i (B + 1) (d + 66) j Q) (x y z : Option Value) : EL i (d + 66) 2670 (lL j x y z) [] T s Q := by
  refine ev_ex 5 (c' := (2676, lL j x y z, [.int (nI j + nI 1), .ref 0, .ref 1], hX (cX i s) T)) rfl ?_
  refine l_A (k := 1) rfl (by omega) hn ?_
  obtain ⟨⟨A, h⟩, a3⟩ := h
  refine lx_I (idx := 300) rfl rfl rfl (Nat.le_of_ble_eq_true rfl) (Nat.le_of_ble_eq_true rfl) (x_rcv (c := cX i s) (T := T) (ob_lit (i := 0) rfl (by decide) rfl) ⟨by decide, by decide⟩ _ _) (XI_sg (ag_count (d := d + 1) (i := i) h)) (fun u T' q => ?_)
  refine ev_ex 5 (c' := (2686, lL j x y z, [.int (nI j + nI 1), .ref 0, .ref 2, .int u], hX (cX i s) T')) rfl ?_
  refine l_A (k := 1) rfl (by omega) hn ?_
  refine lr_I (idx := 303) rfl rfl rfl (Nat.le_of_ble_eq_true rfl) (Nat.le_of_ble_eq_true rfl) rfl q.1 (fun v s' q' => ?_)
  exact ev_icmp_eq (tgt := 2695) rfl rfl (fun _ => nx T' s' _ _ _ ⟨q'.2, sg3 q.2 a3⟩) (fun w => absurd q'.1.symm w)
end LA1
