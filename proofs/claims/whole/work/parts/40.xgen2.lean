/-! written by wip/gen/vcx.py: what runs of the class ask -/
set_option maxRecDepth 8000 in
theorem wx_X_cakes {c : CX} {d : Nat} {T : XS} {Q : Int32 → XS → Prop}  (H : XO c d m_X_rowNow [.ref 1] T (fun v2 T1 => (v2 = some 129 ∧ Q (xI T1 129 3) T1))) : XI c (d + 1) m_X_cakes [.ref 1] T Q := by
  refine ⟨q_X_cakes, rfl, Nat.le_of_ble_eq_true rfl, ?_⟩
  refine ev_ex 0 (c' := (0, [some (.ref 1)], [], hX c T)) rfl ?_
  refine ev_ex 1 (c' := (1, [some (.ref 1)], [.ref 1], hX c T)) rfl ?_
  refine xc_O (idx := 255) rfl rfl rfl (Nat.le_of_ble_eq_true rfl) (Nat.le_of_ble_eq_true rfl) (x_rcv (T := T) (ob_lit (i := 0) rfl (by decide) rfl) ⟨by decide, by decide⟩ _ _) H (fun v2 T1 H => ?_)
  obtain ⟨rfl, H⟩ := H
  refine ev_ex 0 (c' := (4, [some (.ref 1)], [.ref 129], hX c T1)) rfl ?_
  refine xe_gf (ci := 8) (k := 3) rfl rfl (ob_lit (i := 32) rfl (by decide) rfl) ⟨by decide, by decide⟩ (v := .int (xI T1 129 3)) rfl ?_
  exact ev_ret rfl rfl rfl ⟨_, _, rfl, rfl, H⟩
set_option maxRecDepth 8000 in
theorem wx_X_chains {c : CX} {d : Nat} {T : XS} {Q : Int32 → XS → Prop}  (H : XO c d m_X_rowNow [.ref 1] T (fun v2 T1 => (v2 = some 129 ∧ Q (xI T1 129 4) T1))) : XI c (d + 1) m_X_chains [.ref 1] T Q := by
  refine ⟨q_X_chains, rfl, Nat.le_of_ble_eq_true rfl, ?_⟩
  refine ev_ex 0 (c' := (0, [some (.ref 1)], [], hX c T)) rfl ?_
  refine ev_ex 1 (c' := (1, [some (.ref 1)], [.ref 1], hX c T)) rfl ?_
  refine xc_O (idx := 255) rfl rfl rfl (Nat.le_of_ble_eq_true rfl) (Nat.le_of_ble_eq_true rfl) (x_rcv (T := T) (ob_lit (i := 0) rfl (by decide) rfl) ⟨by decide, by decide⟩ _ _) H (fun v2 T1 H => ?_)
  obtain ⟨rfl, H⟩ := H
  refine ev_ex 0 (c' := (4, [some (.ref 1)], [.ref 129], hX c T1)) rfl ?_
  refine xe_gf (ci := 8) (k := 4) rfl rfl (ob_lit (i := 32) rfl (by decide) rfl) ⟨by decide, by decide⟩ (v := .int (xI T1 129 4)) rfl ?_
  exact ev_ret rfl rfl rfl ⟨_, _, rfl, rfl, H⟩
set_option maxRecDepth 8000 in
theorem wx_X_length {c : CX} {d : Nat} {T : XS} {Q : Int32 → XS → Prop}  (H : XO c d m_X_rowNow [.ref 1] T (fun v2 T1 => (v2 = some 129 ∧ Q (xI T1 129 2) T1))) : XI c (d + 1) m_X_length [.ref 1] T Q := by
  refine ⟨q_X_length, rfl, Nat.le_of_ble_eq_true rfl, ?_⟩
  refine ev_ex 0 (c' := (0, [some (.ref 1)], [], hX c T)) rfl ?_
  refine ev_ex 1 (c' := (1, [some (.ref 1)], [.ref 1], hX c T)) rfl ?_
  refine xc_O (idx := 255) rfl rfl rfl (Nat.le_of_ble_eq_true rfl) (Nat.le_of_ble_eq_true rfl) (x_rcv (T := T) (ob_lit (i := 0) rfl (by decide) rfl) ⟨by decide, by decide⟩ _ _) H (fun v2 T1 H => ?_)
  obtain ⟨rfl, H⟩ := H
  refine ev_ex 0 (c' := (4, [some (.ref 1)], [.ref 129], hX c T1)) rfl ?_
  refine xe_gf (ci := 8) (k := 2) rfl rfl (ob_lit (i := 32) rfl (by decide) rfl) ⟨by decide, by decide⟩ (v := .int (xI T1 129 2)) rfl ?_
  exact ev_ret rfl rfl rfl ⟨_, _, rfl, rfl, H⟩
set_option maxRecDepth 8000 in
theorem wx_X_goat {c : CX} {d : Nat} {T : XS} {Q : Int32 → XS → Prop}  (H : eX c (d + 1) m_X_goat 15 [some (.ref 1), some (.ref 93), some (.int ((-1))), some (.int 0), some (.int 0), none] T (yI c Q)) : XI c (d + 1) m_X_goat [.ref 1] T Q := by
  refine ⟨q_X_goat, rfl, Nat.le_of_ble_eq_true rfl, ?_⟩
  refine ev_ex 0 (c' := (0, [some (.ref 1), none, none, none, none, none], [], hX c T)) rfl ?_
  refine ev_ex 1 (c' := (1, [some (.ref 1), none, none, none, none, none], [.ref 1], hX c T)) rfl ?_
  refine xe_gf (ci := 12) (k := 5) rfl rfl (ob_lit (i := 0) rfl (by decide) rfl) ⟨by decide, by decide⟩ (v := .ref 49) rfl ?_
  refine xe_gf (ci := 4) (k := 0) rfl rfl (ob_lit (i := 12) rfl (by decide) rfl) ⟨by decide, by decide⟩ (v := .ref 93) rfl ?_
  refine ev_ex 7 (c' := (15, [some (.ref 1), some (.ref 93), some (.int ((-1))), some (.int 0), some (.int 0), none], [], hX c T)) rfl ?_
  exact H
set_option maxRecDepth 8000 in
theorem wx_X_goat_15 {c : CX} {d : Nat} {T : XS} {Q : Int32 → XS → Prop} (l2 : Int32) (l3 : Int32) (l4 : Int32) (H : (∃ b51 : Nat, frx T 93 0 = some b51 ∧ (CvS T b51 ∧ (((xI T b51 1) ≤ l4 → Q l2 T) ∧ (¬ (xI T b51 1) ≤ l4 → (okx l4 10 ∧ (((bcI (xA T 101 (ix l4))) ≤ l3 → eX c (d + 1) m_X_goat 15 [some (.ref 1), some (.ref 93), some (.int l2), some (.int l3), some (.int (l4 + 1)), none] T (yI c Q)) ∧ (¬ (bcI (xA T 101 (ix l4))) ≤ l3 → eX c (d + 1) m_X_goat 15 [some (.ref 1), some (.ref 93), some (.int l4), some (.int (bcI (xA T 101 (ix l4)))), some (.int (l4 + 1)), none] T (yI c Q))))))))) : eX c (d + 1) m_X_goat 15 [some (.ref 1), some (.ref 93), some (.int l2), some (.int l3), some (.int l4), none] T (yI c Q) := by
  unfold eX
  refine ev_ex 0 (c' := (15, [some (.ref 1), some (.ref 93), some (.int l2), some (.int l3), some (.int l4), none], [], hX c T)) rfl ?_
  refine ev_ex 2 (c' := (18, [some (.ref 1), some (.ref 93), some (.int l2), some (.int l3), some (.int l4), none], [.ref 93, .int l4], hX c T)) rfl ?_
  obtain ⟨b51, h52, H⟩ := H
  refine xe_gfr (ci := 9) (k := 0) rfl rfl (ob_lit (i := 23) rfl (by decide) rfl) ⟨by decide, by decide⟩ rfl h52 ?_
  obtain ⟨h53, H⟩ := H
  refine xe_gf (ci := 2) (k := 1) rfl rfl h53.1 ⟨by decide, by decide⟩ (v := .int (xI T b51 1)) rfl ?_
  refine ev_icmp_ge (tgt := 57) rfl rfl (fun h => ?_) (fun h => ?_)
  · replace H := H.1 (h)
    refine ev_ex 1 (c' := (58, [some (.ref 1), some (.ref 93), some (.int l2), some (.int l3), some (.int l4), none], [.int l2], hX c T)) rfl ?_
    exact ev_ret rfl rfl rfl ⟨_, _, rfl, rfl, H⟩
  · replace H := H.2 (h)
    refine ev_ex 1 (c' := (28, [some (.ref 1), some (.ref 93), some (.int l2), some (.int l3), some (.int l4), none], [.ref 93], hX c T)) rfl ?_
    refine xe_gf (ci := 9) (k := 2) rfl rfl (ob_lit (i := 23) rfl (by decide) rfl) ⟨by decide, by decide⟩ (v := .ref 101) rfl ?_
    refine ev_ex 1 (c' := (33, [some (.ref 1), some (.ref 93), some (.int l2), some (.int l3), some (.int l4), none], [.int l4, .ref 101], hX c T)) rfl ?_
    obtain ⟨H0, H⟩ := H
    refine xe_al rfl (ar_lit (i := 25) rfl (by decide) rfl) H0 ?_
    refine ev_ex 0 (c' := (34, [some (.ref 1), some (.ref 93), some (.int l2), some (.int l3), some (.int l4), none], [.int (xA T 101 (ix l4))], hX c T)) rfl ?_
    refine xq_I (idx := 184) (V := bcI (xA T 101 (ix l4))) (S := T) rfl rfl rfl (Nat.le_of_ble_eq_true rfl) (Nat.le_of_ble_eq_true rfl) rfl (zx_JI_bitCount ⟨rfl, rfl⟩) ?_
    refine ev_ex 3 (c' := (42, [some (.ref 1), some (.ref 93), some (.int l2), some (.int l3), some (.int l4), some (.int (bcI (xA T 101 (ix l4))))], [.int l3, .int (bcI (xA T 101 (ix l4)))], hX c T)) rfl ?_
    refine ev_icmp_le (tgt := 51) rfl rfl (fun h => ?_) (fun h => ?_)
    · replace H := H.1 (h)
      refine ev_ex 2 (c' := (15, [some (.ref 1), some (.ref 93), some (.int l2), some (.int l3), some (.int (l4 + 1)), some (.int (bcI (xA T 101 (ix l4))))], [], hX c T)) rfl ?_
      exact ev_less (lle_of (L := [some (.ref 1), some (.ref 93), some (.int l2), some (.int l3), some (.int (l4 + 1)), none]) ⟨rfl, ⟨rfl, ⟨rfl, ⟨rfl, ⟨rfl, trivial⟩⟩⟩⟩⟩) H
    · replace H := H.2 (h)
      refine ev_ex 6 (c' := (15, [some (.ref 1), some (.ref 93), some (.int l4), some (.int (bcI (xA T 101 (ix l4)))), some (.int (l4 + 1)), some (.int (bcI (xA T 101 (ix l4))))], [], hX c T)) rfl ?_
      exact ev_less (lle_of (L := [some (.ref 1), some (.ref 93), some (.int l4), some (.int (bcI (xA T 101 (ix l4)))), some (.int (l4 + 1)), none]) ⟨rfl, ⟨rfl, ⟨rfl, ⟨rfl, ⟨rfl, trivial⟩⟩⟩⟩⟩) H
set_option maxRecDepth 8000 in
theorem wx_X_longest {c : CX} {d : Nat} {T : XS} {Q : Int32 → XS → Prop}  (H : XO c d m_X_rowNow [.ref 1] T (fun v2 T1 => (v2 = some 129 ∧ eX c (d + 1) m_X_longest 9 [some (.ref 1), some (.ref 129), some (.int 0), some (.int 0)] T1 (yI c Q)))) : XI c (d + 1) m_X_longest [.ref 1] T Q := by
  refine ⟨q_X_longest, rfl, Nat.le_of_ble_eq_true rfl, ?_⟩
  refine ev_ex 0 (c' := (0, [some (.ref 1), none, none, none], [], hX c T)) rfl ?_
  refine ev_ex 1 (c' := (1, [some (.ref 1), none, none, none], [.ref 1], hX c T)) rfl ?_
  refine xc_O (idx := 255) rfl rfl rfl (Nat.le_of_ble_eq_true rfl) (Nat.le_of_ble_eq_true rfl) (x_rcv (T := T) (ob_lit (i := 0) rfl (by decide) rfl) ⟨by decide, by decide⟩ _ _) H (fun v2 T1 H => ?_)
  obtain ⟨rfl, H⟩ := H
  refine ev_ex 0 (c' := (4, [some (.ref 1), none, none, none], [.ref 129], hX c T1)) rfl ?_
  refine ev_ex 5 (c' := (9, [some (.ref 1), some (.ref 129), some (.int 0), some (.int 0)], [], hX c T1)) rfl ?_
  exact H
set_option maxRecDepth 8000 in
theorem wx_X_longest_9 {c : CX} {d : Nat} {T : XS} {Q : Int32 → XS → Prop} (l2 : Int32) (l3 : Int32) (H : (((xI T 129 0) ≤ l3 → Q l2 T) ∧ (¬ (xI T 129 0) ≤ l3 → (okx l3 10 ∧ eX c (d + 1) m_X_longest 9 [some (.ref 1), some (.ref 129), some (.int (mxI l2 (xA T 153 (ix l3)))), some (.int (l3 + 1))] T (yI c Q))))) : eX c (d + 1) m_X_longest 9 [some (.ref 1), some (.ref 129), some (.int l2), some (.int l3)] T (yI c Q) := by
  unfold eX
  refine ev_ex 0 (c' := (9, [some (.ref 1), some (.ref 129), some (.int l2), some (.int l3)], [], hX c T)) rfl ?_
  refine ev_ex 2 (c' := (11, [some (.ref 1), some (.ref 129), some (.int l2), some (.int l3)], [.ref 129, .int l3], hX c T)) rfl ?_
  refine xe_gf (ci := 8) (k := 0) rfl rfl (ob_lit (i := 32) rfl (by decide) rfl) ⟨by decide, by decide⟩ (v := .int (xI T 129 0)) rfl ?_
  refine ev_icmp_ge (tgt := 34) rfl rfl (fun h => ?_) (fun h => ?_)
  · replace H := H.1 (h)
    refine ev_ex 1 (c' := (35, [some (.ref 1), some (.ref 129), some (.int l2), some (.int l3)], [.int l2], hX c T)) rfl ?_
    exact ev_ret rfl rfl rfl ⟨_, _, rfl, rfl, H⟩
  · replace H := H.2 (h)
    refine ev_ex 2 (c' := (19, [some (.ref 1), some (.ref 129), some (.int l2), some (.int l3)], [.ref 129, .int l2], hX c T)) rfl ?_
    refine xe_gf (ci := 8) (k := 10) rfl rfl (ob_lit (i := 32) rfl (by decide) rfl) ⟨by decide, by decide⟩ (v := .ref 153) rfl ?_
    refine ev_ex 1 (c' := (23, [some (.ref 1), some (.ref 129), some (.int l2), some (.int l3)], [.int l3, .ref 153, .int l2], hX c T)) rfl ?_
    obtain ⟨H0, H⟩ := H
    refine xe_al rfl (ar_lit (i := 38) rfl (by decide) rfl) H0 ?_
    refine ev_ex 0 (c' := (24, [some (.ref 1), some (.ref 129), some (.int l2), some (.int l3)], [.int (xA T 153 (ix l3)), .int l2], hX c T)) rfl ?_
    refine xq_I (idx := 300) (V := mxI l2 (xA T 153 (ix l3))) (S := T) rfl rfl rfl (Nat.le_of_ble_eq_true rfl) (Nat.le_of_ble_eq_true rfl) rfl (zx_JM_max ⟨rfl, rfl⟩) ?_
    refine ev_ex 3 (c' := (9, [some (.ref 1), some (.ref 129), some (.int (mxI l2 (xA T 153 (ix l3)))), some (.int (l3 + 1))], [], hX c T)) rfl ?_
    exact H
set_option maxRecDepth 8000 in
theorem wx_X_bows {c : CX} {d : Nat} {T : XS} {Q : Int32 → XS → Prop}  (H : (∃ b1 : Nat, frx T 93 0 = some b1 ∧ XO c d m_X_rowNow [.ref 1] T (fun v4 T3 => (v4 = some 129 ∧ (CvS T3 b1 ∧ XI c d m_Cv_steps [.ref b1] T3 (fun v7 T6 => eX c (d + 1) m_X_bows 32 [some (.ref 1), some (.ref b1), some (.ref 129), some (.int ((xI T3 129 2) + v7)), some (.int 0), some (.int 0)] T6 (yI c Q))))))) : XI c (d + 1) m_X_bows [.ref 1] T Q := by
  refine ⟨q_X_bows, rfl, Nat.le_of_ble_eq_true rfl, ?_⟩
  refine ev_ex 0 (c' := (0, [some (.ref 1), none, none, none, none, none], [], hX c T)) rfl ?_
  refine ev_ex 1 (c' := (1, [some (.ref 1), none, none, none, none, none], [.ref 1], hX c T)) rfl ?_
  refine xe_gf (ci := 12) (k := 5) rfl rfl (ob_lit (i := 0) rfl (by decide) rfl) ⟨by decide, by decide⟩ (v := .ref 49) rfl ?_
  refine xe_gf (ci := 4) (k := 0) rfl rfl (ob_lit (i := 12) rfl (by decide) rfl) ⟨by decide, by decide⟩ (v := .ref 93) rfl ?_
  obtain ⟨b1, h2, H⟩ := H
  refine xe_gfr (ci := 9) (k := 0) rfl rfl (ob_lit (i := 23) rfl (by decide) rfl) ⟨by decide, by decide⟩ rfl h2 ?_
  refine ev_ex 2 (c' := (12, [some (.ref 1), some (.ref b1), none, none, none, none], [.ref 1], hX c T)) rfl ?_
  refine xc_O (idx := 255) rfl rfl rfl (Nat.le_of_ble_eq_true rfl) (Nat.le_of_ble_eq_true rfl) (x_rcv (T := T) (ob_lit (i := 0) rfl (by decide) rfl) ⟨by decide, by decide⟩ _ _) H (fun v4 T3 H => ?_)
  obtain ⟨rfl, H⟩ := H
  refine ev_ex 0 (c' := (15, [some (.ref 1), some (.ref b1), none, none, none, none], [.ref 129], hX c T3)) rfl ?_
  refine ev_ex 2 (c' := (17, [some (.ref 1), some (.ref b1), some (.ref 129), none, none, none], [.ref 129], hX c T3)) rfl ?_
  refine xe_gf (ci := 8) (k := 2) rfl rfl (ob_lit (i := 32) rfl (by decide) rfl) ⟨by decide, by decide⟩ (v := .int (xI T3 129 2)) rfl ?_
  refine ev_ex 1 (c' := (21, [some (.ref 1), some (.ref b1), some (.ref 129), none, none, none], [.ref b1, .int (xI T3 129 2)], hX c T3)) rfl ?_
  obtain ⟨h5, H⟩ := H
  refine xc_I (idx := 158) rfl rfl rfl (Nat.le_of_ble_eq_true rfl) (Nat.le_of_ble_eq_true rfl) (x_rcv (T := T3) h5.1 ⟨by decide, by decide⟩ _ _) H (fun v7 T6 H => ?_)
  refine ev_ex 6 (c' := (32, [some (.ref 1), some (.ref b1), some (.ref 129), some (.int ((xI T3 129 2) + v7)), some (.int 0), some (.int 0)], [], hX c T6)) rfl ?_
  exact H
set_option maxRecDepth 8000 in
theorem wx_X_bows_32 {c : CX} {d : Nat} {T : XS} {Q : Int32 → XS → Prop} (b1 : Nat) (l3 : Int32) (l4 : Int32) (l5 : Int32) (H : ((l3 ≤ l5 → Q l4 T) ∧ (¬ l3 ≤ l5 → XB c d m_Rw_anyMeeting [.ref 129, .ref b1, .int l5] T (fun v52 T51 => ((v52 = false → eX c (d + 1) m_X_bows 32 [some (.ref 1), some (.ref b1), some (.ref 129), some (.int l3), some (.int l4), some (.int (l5 + 1))] T51 (yI c Q)) ∧ (v52 = true → eX c (d + 1) m_X_bows 32 [some (.ref 1), some (.ref b1), some (.ref 129), some (.int l3), some (.int (l4 + 1)), some (.int (l5 + 1))] T51 (yI c Q))))))) : eX c (d + 1) m_X_bows 32 [some (.ref 1), some (.ref b1), some (.ref 129), some (.int l3), some (.int l4), some (.int l5)] T (yI c Q) := by
  unfold eX
  refine ev_ex 0 (c' := (32, [some (.ref 1), some (.ref b1), some (.ref 129), some (.int l3), some (.int l4), some (.int l5)], [], hX c T)) rfl ?_
  refine ev_ex 2 (c' := (35, [some (.ref 1), some (.ref b1), some (.ref 129), some (.int l3), some (.int l4), some (.int l5)], [.int l3, .int l5], hX c T)) rfl ?_
  refine ev_icmp_ge (tgt := 57) rfl rfl (fun h => ?_) (fun h => ?_)
  · replace H := H.1 (h)
    refine ev_ex 1 (c' := (59, [some (.ref 1), some (.ref b1), some (.ref 129), some (.int l3), some (.int l4), some (.int l5)], [.int l4], hX c T)) rfl ?_
    exact ev_ret rfl rfl rfl ⟨_, _, rfl, rfl, H⟩
  · replace H := H.2 (h)
    refine ev_ex 3 (c' := (42, [some (.ref 1), some (.ref b1), some (.ref 129), some (.int l3), some (.int l4), some (.int l5)], [.int l5, .ref b1, .ref 129], hX c T)) rfl ?_
    refine xc_B (idx := 319) rfl rfl rfl (Nat.le_of_ble_eq_true rfl) (Nat.le_of_ble_eq_true rfl) (x_rcv (T := T) (ob_lit (i := 32) rfl (by decide) rfl) ⟨by decide, by decide⟩ _ _) H (fun v52 T51 H => ?_)
    refine ev_if_eqB (x := v52) (tgt := 51) rfl rfl (fun h => ?_) (fun h => ?_)
    · replace H := H.1 (h)
      refine ev_ex 2 (c' := (32, [some (.ref 1), some (.ref b1), some (.ref 129), some (.int l3), some (.int l4), some (.int (l5 + 1))], [], hX c T51)) rfl ?_
      exact H
    · replace H := H.2 (h)
      refine ev_ex 3 (c' := (32, [some (.ref 1), some (.ref b1), some (.ref 129), some (.int l3), some (.int (l4 + 1)), some (.int (l5 + 1))], [], hX c T51)) rfl ?_
      exact H
set_option maxRecDepth 8000 in
theorem wx_X_noise {c : CX} {d : Nat} {T : XS} {Q : Int32 → XS → Prop}  (H : (∃ b1 : Nat, frx T 93 0 = some b1 ∧ XO c d m_X_rowNow [.ref 1] T (fun v4 T3 => (v4 = some 129 ∧ eX c (d + 1) m_X_noise 21 [some (.ref 1), some (.ref b1), some (.ref 129), some (.int 0), some (.int 0)] T3 (yI c Q))))) : XI c (d + 1) m_X_noise [.ref 1] T Q := by
  refine ⟨q_X_noise, rfl, Nat.le_of_ble_eq_true rfl, ?_⟩
  refine ev_ex 0 (c' := (0, [some (.ref 1), none, none, none, none], [], hX c T)) rfl ?_
  refine ev_ex 1 (c' := (1, [some (.ref 1), none, none, none, none], [.ref 1], hX c T)) rfl ?_
  refine xe_gf (ci := 12) (k := 5) rfl rfl (ob_lit (i := 0) rfl (by decide) rfl) ⟨by decide, by decide⟩ (v := .ref 49) rfl ?_
  refine xe_gf (ci := 4) (k := 0) rfl rfl (ob_lit (i := 12) rfl (by decide) rfl) ⟨by decide, by decide⟩ (v := .ref 93) rfl ?_
  obtain ⟨b1, h2, H⟩ := H
  refine xe_gfr (ci := 9) (k := 0) rfl rfl (ob_lit (i := 23) rfl (by decide) rfl) ⟨by decide, by decide⟩ rfl h2 ?_
  refine ev_ex 2 (c' := (12, [some (.ref 1), some (.ref b1), none, none, none], [.ref 1], hX c T)) rfl ?_
  refine xc_O (idx := 255) rfl rfl rfl (Nat.le_of_ble_eq_true rfl) (Nat.le_of_ble_eq_true rfl) (x_rcv (T := T) (ob_lit (i := 0) rfl (by decide) rfl) ⟨by decide, by decide⟩ _ _) H (fun v4 T3 H => ?_)
  obtain ⟨rfl, H⟩ := H
  refine ev_ex 0 (c' := (15, [some (.ref 1), some (.ref b1), none, none, none], [.ref 129], hX c T3)) rfl ?_
  refine ev_ex 5 (c' := (21, [some (.ref 1), some (.ref b1), some (.ref 129), some (.int 0), some (.int 0)], [], hX c T3)) rfl ?_
  exact H
set_option maxRecDepth 8000 in
theorem wx_X_noise_21 {c : CX} {d : Nat} {T : XS} {Q : Int32 → XS → Prop} (b1 : Nat) (l3 : Int32) (l4 : Int32) (H : (((xI T 129 0) ≤ l4 → Q l3 T) ∧ (¬ (xI T 129 0) ≤ l4 → (okx l4 10 ∧ (CvS T b1 ∧ XI c d m_Cv_noiseOf [.ref b1, .int l4, .int (xA T 141 (ix l4))] T (fun v53 T52 => eX c (d + 1) m_X_noise 21 [some (.ref 1), some (.ref b1), some (.ref 129), some (.int (l3 + v53)), some (.int (l4 + 1))] T52 (yI c Q))))))) : eX c (d + 1) m_X_noise 21 [some (.ref 1), some (.ref b1), some (.ref 129), some (.int l3), some (.int l4)] T (yI c Q) := by
  unfold eX
  refine ev_ex 0 (c' := (21, [some (.ref 1), some (.ref b1), some (.ref 129), some (.int l3), some (.int l4)], [], hX c T)) rfl ?_
  refine ev_ex 2 (c' := (24, [some (.ref 1), some (.ref b1), some (.ref 129), some (.int l3), some (.int l4)], [.ref 129, .int l4], hX c T)) rfl ?_
  refine xe_gf (ci := 8) (k := 0) rfl rfl (ob_lit (i := 32) rfl (by decide) rfl) ⟨by decide, by decide⟩ (v := .int (xI T 129 0)) rfl ?_
  refine ev_icmp_ge (tgt := 52) rfl rfl (fun h => ?_) (fun h => ?_)
  · replace H := H.1 (h)
    refine ev_ex 1 (c' := (53, [some (.ref 1), some (.ref b1), some (.ref 129), some (.int l3), some (.int l4)], [.int l3], hX c T)) rfl ?_
    exact ev_ret rfl rfl rfl ⟨_, _, rfl, rfl, H⟩
  · replace H := H.2 (h)
    refine ev_ex 4 (c' := (35, [some (.ref 1), some (.ref b1), some (.ref 129), some (.int l3), some (.int l4)], [.ref 129, .int l4, .ref b1, .int l3], hX c T)) rfl ?_
    refine xe_gf (ci := 8) (k := 7) rfl rfl (ob_lit (i := 32) rfl (by decide) rfl) ⟨by decide, by decide⟩ (v := .ref 141) rfl ?_
    refine ev_ex 1 (c' := (40, [some (.ref 1), some (.ref b1), some (.ref 129), some (.int l3), some (.int l4)], [.int l4, .ref 141, .int l4, .ref b1, .int l3], hX c T)) rfl ?_
    obtain ⟨H0, H⟩ := H
    refine xe_al rfl (ar_lit (i := 35) rfl (by decide) rfl) H0 ?_
    refine ev_ex 0 (c' := (41, [some (.ref 1), some (.ref b1), some (.ref 129), some (.int l3), some (.int l4)], [.int (xA T 141 (ix l4)), .int l4, .ref b1, .int l3], hX c T)) rfl ?_
    obtain ⟨h51, H⟩ := H
    refine xc_I (idx := 326) rfl rfl rfl (Nat.le_of_ble_eq_true rfl) (Nat.le_of_ble_eq_true rfl) (x_rcv (T := T) h51.1 ⟨by decide, by decide⟩ _ _) H (fun v53 T52 H => ?_)
    refine ev_ex 4 (c' := (21, [some (.ref 1), some (.ref b1), some (.ref 129), some (.int (l3 + v53)), some (.int (l4 + 1))], [], hX c T52)) rfl ?_
    exact H
set_option maxRecDepth 8000 in
theorem wx_X_count {c : CX} {d : Nat} {T : XS} {Q : Int32 → XS → Prop} (a0 : Int32) (H : (∃ b1 : Nat, frx T 93 0 = some b1 ∧ ((a0 = 0 → (CvS T b1 ∧ Q (xI T b1 0) T)) ∧ (a0 = 1 → (CvS T b1 ∧ Q (xI T b1 1) T)) ∧ (a0 = 2 → (CvS T b1 ∧ Q (xI T b1 2) T)) ∧ (a0 = 3 → (CvS T b1 ∧ XI c d m_Cv_steps [.ref b1] T (fun v8 T7 => Q v8 T7))) ∧ (a0 = 4 → Q (xI T 93 4) T) ∧ (a0 = 5 → XI c d m_Sd_mocking [.ref 93] T (fun v10 T9 => Q v10 T9)) ∧ (a0 = 6 → Q (xI T 49 2) T) ∧ (a0 = 7 → Q (xI T 1 1) T) ∧ (a0 = 8 → (CvS T b1 ∧ ((frx T b1 4 = none → Q 0 T) ∧ (∀ b12, frx T b1 4 = some b12 → Q 1 T)))) ∧ (a0 = 9 → (CvS T b1 ∧ ((frx T b1 5 = none → Q 0 T) ∧ (∀ b14, frx T b1 5 = some b14 → Q 1 T)))) ∧ (¬ a0 = 0 ∧ ¬ a0 = 1 ∧ ¬ a0 = 2 ∧ ¬ a0 = 3 ∧ ¬ a0 = 4 ∧ ¬ a0 = 5 ∧ ¬ a0 = 6 ∧ ¬ a0 = 7 ∧ ¬ a0 = 8 ∧ ¬ a0 = 9 → Q ((-1)) T)))) : XI c (d + 1) m_X_count [.ref 1, .int a0] T Q := by
  refine ⟨q_X_count, rfl, Nat.le_of_ble_eq_true rfl, ?_⟩
  refine ev_ex 0 (c' := (0, [some (.ref 1), some (.int a0), none, none], [], hX c T)) rfl ?_
  refine ev_ex 1 (c' := (1, [some (.ref 1), some (.int a0), none, none], [.ref 1], hX c T)) rfl ?_
  refine xe_gf (ci := 12) (k := 5) rfl rfl (ob_lit (i := 0) rfl (by decide) rfl) ⟨by decide, by decide⟩ (v := .ref 49) rfl ?_
  refine xe_gf (ci := 4) (k := 0) rfl rfl (ob_lit (i := 12) rfl (by decide) rfl) ⟨by decide, by decide⟩ (v := .ref 93) rfl ?_
  refine ev_ex 2 (c' := (9, [some (.ref 1), some (.int a0), some (.ref 93), none], [.ref 93], hX c T)) rfl ?_
  obtain ⟨b1, h2, H⟩ := H
  refine xe_gfr (ci := 9) (k := 0) rfl rfl (ob_lit (i := 23) rfl (by decide) rfl) ⟨by decide, by decide⟩ rfl h2 ?_
  refine ev_ex 2 (c' := (14, [some (.ref 1), some (.int a0), some (.ref 93), some (.ref b1)], [.int a0], hX c T)) rfl ?_
  by_cases h0 : a0 = 0
  · refine ev_sw h0 (tgt := 68) rfl rfl ?_
    replace H := H.1 h0
    refine ev_ex 1 (c' := (69, [some (.ref 1), some (.int a0), some (.ref 93), some (.ref b1)], [.ref b1], hX c T)) rfl ?_
    obtain ⟨h3, H⟩ := H
    refine xe_gf (ci := 2) (k := 0) rfl rfl h3.1 ⟨by decide, by decide⟩ (v := .int (xI T b1 0)) rfl ?_
    exact ev_ret rfl rfl rfl ⟨_, _, rfl, rfl, H⟩
  by_cases h1 : a0 = 1
  · refine ev_sw h1 (tgt := 73) rfl rfl ?_
    replace H := H.2.1 h1
    refine ev_ex 1 (c' := (74, [some (.ref 1), some (.int a0), some (.ref 93), some (.ref b1)], [.ref b1], hX c T)) rfl ?_
    obtain ⟨h4, H⟩ := H
    refine xe_gf (ci := 2) (k := 1) rfl rfl h4.1 ⟨by decide, by decide⟩ (v := .int (xI T b1 1)) rfl ?_
    exact ev_ret rfl rfl rfl ⟨_, _, rfl, rfl, H⟩
  by_cases h2 : a0 = 2
  · refine ev_sw h2 (tgt := 78) rfl rfl ?_
    replace H := H.2.2.1 h2
    refine ev_ex 1 (c' := (79, [some (.ref 1), some (.int a0), some (.ref 93), some (.ref b1)], [.ref b1], hX c T)) rfl ?_
    obtain ⟨h5, H⟩ := H
    refine xe_gf (ci := 2) (k := 2) rfl rfl h5.1 ⟨by decide, by decide⟩ (v := .int (xI T b1 2)) rfl ?_
    exact ev_ret rfl rfl rfl ⟨_, _, rfl, rfl, H⟩
  by_cases h3 : a0 = 3
  · refine ev_sw h3 (tgt := 83) rfl rfl ?_
    replace H := H.2.2.2.1 h3
    refine ev_ex 1 (c' := (84, [some (.ref 1), some (.int a0), some (.ref 93), some (.ref b1)], [.ref b1], hX c T)) rfl ?_
    obtain ⟨h6, H⟩ := H
    refine xc_I (idx := 158) rfl rfl rfl (Nat.le_of_ble_eq_true rfl) (Nat.le_of_ble_eq_true rfl) (x_rcv (T := T) h6.1 ⟨by decide, by decide⟩ _ _) H (fun v8 T7 H => ?_)
    exact ev_ret rfl rfl rfl ⟨_, _, rfl, rfl, H⟩
  by_cases h4 : a0 = 4
  · refine ev_sw h4 (tgt := 88) rfl rfl ?_
    replace H := H.2.2.2.2.1 h4
    refine ev_ex 1 (c' := (89, [some (.ref 1), some (.int a0), some (.ref 93), some (.ref b1)], [.ref 93], hX c T)) rfl ?_
    refine xe_gf (ci := 9) (k := 4) rfl rfl (ob_lit (i := 23) rfl (by decide) rfl) ⟨by decide, by decide⟩ (v := .int (xI T 93 4)) rfl ?_
    exact ev_ret rfl rfl rfl ⟨_, _, rfl, rfl, H⟩
  by_cases h5 : a0 = 5
  · refine ev_sw h5 (tgt := 93) rfl rfl ?_
    replace H := H.2.2.2.2.2.1 h5
    refine ev_ex 1 (c' := (94, [some (.ref 1), some (.int a0), some (.ref 93), some (.ref b1)], [.ref 93], hX c T)) rfl ?_
    refine xc_I (idx := 223) rfl rfl rfl (Nat.le_of_ble_eq_true rfl) (Nat.le_of_ble_eq_true rfl) (x_rcv (T := T) (ob_lit (i := 23) rfl (by decide) rfl) ⟨by decide, by decide⟩ _ _) H (fun v10 T9 H => ?_)
    exact ev_ret rfl rfl rfl ⟨_, _, rfl, rfl, H⟩
  by_cases h6 : a0 = 6
  · refine ev_sw h6 (tgt := 98) rfl rfl ?_
    replace H := H.2.2.2.2.2.2.1 h6
    refine ev_ex 1 (c' := (99, [some (.ref 1), some (.int a0), some (.ref 93), some (.ref b1)], [.ref 1], hX c T)) rfl ?_
    refine xe_gf (ci := 12) (k := 5) rfl rfl (ob_lit (i := 0) rfl (by decide) rfl) ⟨by decide, by decide⟩ (v := .ref 49) rfl ?_
    refine xe_gf (ci := 4) (k := 2) rfl rfl (ob_lit (i := 12) rfl (by decide) rfl) ⟨by decide, by decide⟩ (v := .int (xI T 49 2)) rfl ?_
    exact ev_ret rfl rfl rfl ⟨_, _, rfl, rfl, H⟩
  by_cases h7 : a0 = 7
  · refine ev_sw h7 (tgt := 106) rfl rfl ?_
    replace H := H.2.2.2.2.2.2.2.1 h7
    refine ev_ex 1 (c' := (107, [some (.ref 1), some (.int a0), some (.ref 93), some (.ref b1)], [.ref 1], hX c T)) rfl ?_
    refine xe_gf (ci := 12) (k := 1) rfl rfl (ob_lit (i := 0) rfl (by decide) rfl) ⟨by decide, by decide⟩ (v := .int (xI T 1 1)) rfl ?_
    exact ev_ret rfl rfl rfl ⟨_, _, rfl, rfl, H⟩
  by_cases h8 : a0 = 8
  · refine ev_sw h8 (tgt := 111) rfl rfl ?_
    replace H := H.2.2.2.2.2.2.2.2.1 h8
    refine ev_ex 1 (c' := (112, [some (.ref 1), some (.int a0), some (.ref 93), some (.ref b1)], [.ref b1], hX c T)) rfl ?_
    obtain ⟨h11, H⟩ := H
    refine xe_gf (ci := 2) (k := 4) rfl rfl h11.1 ⟨by decide, by decide⟩ (v := va_rf (frx T b1 4)) rfl ?_
    refine xe_nnl (e := (frx T b1 4)) (tgt := 122) rfl rfl (fun b12 hb => ?_) (fun hb => ?_)
    · replace H := H.2 b12 hb
      refine ev_ex 0 (c' := (122, [some (.ref 1), some (.int a0), some (.ref 93), some (.ref b1)], [], hX c T)) rfl ?_
      refine ev_ex 1 (c' := (123, [some (.ref 1), some (.int a0), some (.ref 93), some (.ref b1)], [.int 1], hX c T)) rfl ?_
      exact ev_ret rfl rfl rfl ⟨_, _, rfl, rfl, H⟩
    · replace H := H.1 hb
      refine ev_ex 0 (c' := (118, [some (.ref 1), some (.int a0), some (.ref 93), some (.ref b1)], [], hX c T)) rfl ?_
      refine ev_ex 2 (c' := (123, [some (.ref 1), some (.int a0), some (.ref 93), some (.ref b1)], [.int 0], hX c T)) rfl ?_
      exact ev_ret rfl rfl rfl ⟨_, _, rfl, rfl, H⟩
  by_cases h9 : a0 = 9
  · refine ev_sw h9 (tgt := 124) rfl rfl ?_
    replace H := H.2.2.2.2.2.2.2.2.2.1 h9
    refine ev_ex 1 (c' := (125, [some (.ref 1), some (.int a0), some (.ref 93), some (.ref b1)], [.ref b1], hX c T)) rfl ?_
    obtain ⟨h13, H⟩ := H
    refine xe_gf (ci := 2) (k := 5) rfl rfl h13.1 ⟨by decide, by decide⟩ (v := va_rf (frx T b1 5)) rfl ?_
    refine xe_nnl (e := (frx T b1 5)) (tgt := 135) rfl rfl (fun b14 hb => ?_) (fun hb => ?_)
    · replace H := H.2 b14 hb
      refine ev_ex 0 (c' := (135, [some (.ref 1), some (.int a0), some (.ref 93), some (.ref b1)], [], hX c T)) rfl ?_
      refine ev_ex 1 (c' := (136, [some (.ref 1), some (.int a0), some (.ref 93), some (.ref b1)], [.int 1], hX c T)) rfl ?_
      exact ev_ret rfl rfl rfl ⟨_, _, rfl, rfl, H⟩
    · replace H := H.1 hb
      refine ev_ex 0 (c' := (131, [some (.ref 1), some (.int a0), some (.ref 93), some (.ref b1)], [], hX c T)) rfl ?_
      refine ev_ex 2 (c' := (136, [some (.ref 1), some (.int a0), some (.ref 93), some (.ref b1)], [.int 0], hX c T)) rfl ?_
      exact ev_ret rfl rfl rfl ⟨_, _, rfl, rfl, H⟩
  replace H := H.2.2.2.2.2.2.2.2.2.2 ⟨h0, h1, h2, h3, h4, h5, h6, h7, h8, h9⟩
  refine ev_tswd (tgt := 137) rfl (by have e0 := i32_ne h0 (z := 0) rfl; have e1 := i32_ne h1 (z := 1) rfl; have e2 := i32_ne h2 (z := 2) rfl; have e3 := i32_ne h3 (z := 3) rfl; have e4 := i32_ne h4 (z := 4) rfl; have e5 := i32_ne h5 (z := 5) rfl; have e6 := i32_ne h6 (z := 6) rfl; have e7 := i32_ne h7 (z := 7) rfl; have e8 := i32_ne h8 (z := 8) rfl; have e9 := i32_ne h9 (z := 9) rfl; omega) rfl ?_
  refine ev_ex 1 (c' := (138, [some (.ref 1), some (.int a0), some (.ref 93), some (.ref b1)], [.int ((-1))], hX c T)) rfl ?_
  exact ev_ret rfl rfl rfl ⟨_, _, rfl, rfl, H⟩
set_option maxRecDepth 8000 in
theorem wx_X_putBytes {c : CX} {d : Nat} {T : XS} {Q : XS → Prop} (a0 : Int32) (H : eX c (d) m_X_putBytes 3 [some (.ref 1), some (.int a0), some (.int 24)] T (yV c Q)) : XV c (d) m_X_putBytes [.ref 1, .int a0] T Q := by
  refine ⟨q_X_putBytes, rfl, Nat.le_of_ble_eq_true rfl, ?_⟩
  refine ev_ex 0 (c' := (0, [some (.ref 1), some (.int a0), none], [], hX c T)) rfl ?_
  refine ev_ex 2 (c' := (3, [some (.ref 1), some (.int a0), some (.int 24)], [], hX c T)) rfl ?_
  exact H
set_option maxRecDepth 8000 in
theorem wx_X_putBytes_3 {c : CX} {d : Nat} {T : XS} {Q : XS → Prop} (l1 : Int32) (l2 : Int32) (H : ((l2 < 0 → Q T) ∧ (¬ l2 < 0 → ((900 ≤ (xI T 1 1) → eX c (d) m_X_putBytes 3 [some (.ref 1), some (.int l1), some (.int (l2 + (-8)))] T (yV c Q)) ∧ (¬ 900 ≤ (xI T 1 1) → (okx (xI T 1 1) 900 ∧ eX c (d) m_X_putBytes 3 [some (.ref 1), some (.int l1), some (.int (l2 + (-8)))] (tI (tA T 5 (ix (xI T 1 1)) (vp_nar .byte ((l1 >>> (l2 &&& 31)).toInt8.toInt32))) 1 1 ((xI T 1 1) + 1)) (yV c Q))))))) : eX c (d) m_X_putBytes 3 [some (.ref 1), some (.int l1), some (.int l2)] T (yV c Q) := by
  unfold eX
  refine ev_ex 0 (c' := (3, [some (.ref 1), some (.int l1), some (.int l2)], [], hX c T)) rfl ?_
  refine ev_ex 1 (c' := (4, [some (.ref 1), some (.int l1), some (.int l2)], [.int l2], hX c T)) rfl ?_
  refine ev_if_lt (tgt := 48) rfl rfl (fun h => ?_) (fun h => ?_)
  · replace H := H.1 (h)
    exact ev_ret rfl rfl rfl ⟨_, rfl, rfl, H⟩
  · replace H := H.2 (h)
    refine ev_ex 1 (c' := (8, [some (.ref 1), some (.int l1), some (.int l2)], [.ref 1], hX c T)) rfl ?_
    refine xe_gf (ci := 12) (k := 1) rfl rfl (ob_lit (i := 0) rfl (by decide) rfl) ⟨by decide, by decide⟩ (v := .int (xI T 1 1)) rfl ?_
    refine ev_ex 1 (c' := (12, [some (.ref 1), some (.int l1), some (.int l2)], [.ref 1, .int (xI T 1 1)], hX c T)) rfl ?_
    refine xe_gf (ci := 12) (k := 0) rfl rfl (ob_lit (i := 0) rfl (by decide) rfl) ⟨by decide, by decide⟩ (v := .ref 5) rfl ?_
    refine xe_len (kd := 21) rfl (ar_lit (i := 1) rfl (by decide) rfl) (by decide) ?_
    refine ev_ex 0 (c' := (16, [some (.ref 1), some (.int l1), some (.int l2)], [.int 900, .int (xI T 1 1)], hX c T)) rfl ?_
    refine ev_icmp_ge (tgt := 42) rfl rfl (fun h => ?_) (fun h => ?_)
    · replace H := H.1 (h)
      refine ev_ex 2 (c' := (3, [some (.ref 1), some (.int l1), some (.int (l2 + (-8)))], [], hX c T)) rfl ?_
      exact H
    · replace H := H.2 (h)
      refine ev_ex 1 (c' := (20, [some (.ref 1), some (.int l1), some (.int l2)], [.ref 1], hX c T)) rfl ?_
      refine xe_gf (ci := 12) (k := 0) rfl rfl (ob_lit (i := 0) rfl (by decide) rfl) ⟨by decide, by decide⟩ (v := .ref 5) rfl ?_
      refine ev_ex 1 (c' := (24, [some (.ref 1), some (.int l1), some (.int l2)], [.ref 1, .ref 5], hX c T)) rfl ?_
      refine xe_gf (ci := 12) (k := 1) rfl rfl (ob_lit (i := 0) rfl (by decide) rfl) ⟨by decide, by decide⟩ (v := .int (xI T 1 1)) rfl ?_
      refine ev_ex 4 (c' := (31, [some (.ref 1), some (.int l1), some (.int l2)], [.int ((l1 >>> (l2 &&& 31)).toInt8.toInt32), .int (xI T 1 1), .ref 5], hX c T)) rfl ?_
      obtain ⟨H0, H⟩ := H
      refine xe_bs rfl (ar_lit (i := 1) rfl (by decide) rfl) H0 ?_
      refine ev_ex 2 (c' := (34, [some (.ref 1), some (.int l1), some (.int l2)], [.ref 1, .ref 1], hX c (tA T 5 (ix (xI T 1 1)) (vp_nar .byte ((l1 >>> (l2 &&& 31)).toInt8.toInt32))))) rfl ?_
      refine xe_gf (ci := 12) (k := 1) rfl rfl (ob_lit (i := 0) rfl (by decide) rfl) ⟨by decide, by decide⟩ (v := .int (xI T 1 1)) rfl ?_
      refine ev_ex 2 (c' := (39, [some (.ref 1), some (.int l1), some (.int l2)], [.int ((xI T 1 1) + 1), .ref 1], hX c (tA T 5 (ix (xI T 1 1)) (vp_nar .byte ((l1 >>> (l2 &&& 31)).toInt8.toInt32))))) rfl ?_
      refine xe_pi (ci := 12) (k := 1) rfl rfl (ob_lit (i := 0) rfl (by decide) rfl) ⟨by decide, by decide⟩ (Nat.le_of_ble_eq_true rfl) rfl (fi_12_1 _ _ _) ?_
      refine ev_ex 2 (c' := (3, [some (.ref 1), some (.int l1), some (.int (l2 + (-8)))], [], hX c (tI (tA T 5 (ix (xI T 1 1)) (vp_nar .byte ((l1 >>> (l2 &&& 31)).toInt8.toInt32))) 1 1 ((xI T 1 1) + 1)))) rfl ?_
      exact H
set_option maxRecDepth 8000 in
theorem wx_X_carnival {c : CX} {d : Nat} {T : XS} {Q : Int32 → XS → Prop} {E : Nat → XS → Prop} (hR : c.2.2.2.1.length = 18) (a0 : Int32) (H : ((a0 < 0 → E 1 (tN T 0 0 6)) ∧ (¬ a0 < 0 → ((a0 ≤ (xI T 1 1) → XO c d m_Rd_read [.ref 9, .ref 5, .int a0] T (fun v2 T1 => XI c d m_Rd_faultKind [.ref 9] (tI T1 1 1 0) (fun v4 T3 => XI c d m_Rd_faultPlace [.ref 9] (tI T3 1 2 v4) (fun v6 T5 => ((v2 = none → Q (((-10)) - (xI T5 1 2)) (tI T5 1 3 v6)) ∧ (∀ b7, v2 = some b7 → XV c d m_Fr_open [.ref 49, .ref b7] (tI T5 1 3 v6) (fun T8 => (CvS T8 b7 ∧ Q (xI T8 b7 0) T8)))))))) ∧ (¬ a0 ≤ (xI T 1 1) → E 1 (tN T 0 0 6)))))) : XIt c (d + 1) m_X_carnival [.ref 1, .int a0] T Q E := by
  refine ⟨q_X_carnival, rfl, Nat.le_of_ble_eq_true rfl, ?_⟩
  refine ev_ex 0 (c' := (0, [some (.ref 1), some (.int a0), none], [], hX c T)) rfl ?_
  refine ev_ex 1 (c' := (1, [some (.ref 1), some (.int a0), none], [.int a0], hX c T)) rfl ?_
  refine ev_if_lt (tgt := 12) rfl rfl (fun h => ?_) (fun h => ?_)
  · replace H := H.1 (h)
    exact xe_thr hR rfl rfl (Nat.le_of_ble_eq_true rfl) (Or.inr ⟨_, _, rfl, rfl, H⟩)
  · replace H := H.2 (h)
    refine ev_ex 2 (c' := (6, [some (.ref 1), some (.int a0), none], [.ref 1, .int a0], hX c T)) rfl ?_
    refine xe_gf (ci := 12) (k := 1) rfl rfl (ob_lit (i := 0) rfl (by decide) rfl) ⟨by decide, by decide⟩ (v := .int (xI T 1 1)) rfl ?_
    refine ev_icmp_le (tgt := 22) rfl rfl (fun h => ?_) (fun h => ?_)
    · replace H := H.1 (h)
      refine ev_ex 1 (c' := (23, [some (.ref 1), some (.int a0), none], [.ref 1], hX c T)) rfl ?_
      refine xe_gf (ci := 12) (k := 4) rfl rfl (ob_lit (i := 0) rfl (by decide) rfl) ⟨by decide, by decide⟩ (v := .ref 9) rfl ?_
      refine ev_ex 1 (c' := (27, [some (.ref 1), some (.int a0), none], [.ref 1, .ref 9], hX c T)) rfl ?_
      refine xe_gf (ci := 12) (k := 0) rfl rfl (ob_lit (i := 0) rfl (by decide) rfl) ⟨by decide, by decide⟩ (v := .ref 5) rfl ?_
      refine ev_ex 1 (c' := (31, [some (.ref 1), some (.int a0), none], [.int a0, .ref 5, .ref 9], hX c T)) rfl ?_
      refine xc_O (idx := 92) rfl rfl rfl (Nat.le_of_ble_eq_true rfl) (Nat.le_of_ble_eq_true rfl) (x_rcv (T := T) (ob_lit (i := 2) rfl (by decide) rfl) ⟨by decide, by decide⟩ _ _) H (fun v2 T1 H => ?_)
      refine ev_ex 0 (c' := (34, [some (.ref 1), some (.int a0), none], [va_rf v2], hX c T1)) rfl ?_
      refine xe_aso (e := v2) rfl (Nat.le_of_ble_eq_true rfl) ?_
      refine ev_ex 0 (c' := (35, [some (.ref 1), some (.int a0), some (va_rf v2)], [], hX c T1)) rfl ?_
      refine ev_ex 2 (c' := (37, [some (.ref 1), some (.int a0), some (va_rf v2)], [.int 0, .ref 1], hX c T1)) rfl ?_
      refine xe_pi (ci := 12) (k := 1) rfl rfl (ob_lit (i := 0) rfl (by decide) rfl) ⟨by decide, by decide⟩ (Nat.le_of_ble_eq_true rfl) rfl (fi_12_1 _ _ _) ?_
      refine ev_ex 2 (c' := (42, [some (.ref 1), some (.int a0), some (va_rf v2)], [.ref 1, .ref 1], hX c (tI T1 1 1 0))) rfl ?_
      refine xe_gf (ci := 12) (k := 4) rfl rfl (ob_lit (i := 0) rfl (by decide) rfl) ⟨by decide, by decide⟩ (v := .ref 9) rfl ?_
      refine xc_I (idx := 96) rfl rfl rfl (Nat.le_of_ble_eq_true rfl) (Nat.le_of_ble_eq_true rfl) (x_rcv (T := tI T1 1 1 0) (ob_lit (i := 2) rfl (by decide) rfl) ⟨by decide, by decide⟩ _ _) H (fun v4 T3 H => ?_)
      refine xe_pi (ci := 12) (k := 2) rfl rfl (ob_lit (i := 0) rfl (by decide) rfl) ⟨by decide, by decide⟩ (Nat.le_of_ble_eq_true rfl) rfl (fi_12_2 _ _ _) ?_
      refine ev_ex 2 (c' := (53, [some (.ref 1), some (.int a0), some (va_rf v2)], [.ref 1, .ref 1], hX c (tI T3 1 2 v4))) rfl ?_
      refine xe_gf (ci := 12) (k := 4) rfl rfl (ob_lit (i := 0) rfl (by decide) rfl) ⟨by decide, by decide⟩ (v := .ref 9) rfl ?_
      refine xc_I (idx := 102) rfl rfl rfl (Nat.le_of_ble_eq_true rfl) (Nat.le_of_ble_eq_true rfl) (x_rcv (T := tI T3 1 2 v4) (ob_lit (i := 2) rfl (by decide) rfl) ⟨by decide, by decide⟩ _ _) H (fun v6 T5 H => ?_)
      refine xe_pi (ci := 12) (k := 3) rfl rfl (ob_lit (i := 0) rfl (by decide) rfl) ⟨by decide, by decide⟩ (Nat.le_of_ble_eq_true rfl) rfl (fi_12_3 _ _ _) ?_
      refine xe_alo (e := v2) rfl rfl ?_
      refine xe_nnl (e := v2) (tgt := 74) rfl rfl (fun b7 hb => ?_) (fun hb => ?_)
      · replace H := H.2 b7 hb
        rw [hb]
        refine ev_ex 0 (c' := (74, [some (.ref 1), some (.int a0), some (.ref b7)], [], hX c (tI T5 1 3 v6))) rfl ?_
        refine ev_ex 1 (c' := (75, [some (.ref 1), some (.int a0), some (.ref b7)], [.ref 1], hX c (tI T5 1 3 v6))) rfl ?_
        refine xe_gf (ci := 12) (k := 5) rfl rfl (ob_lit (i := 0) rfl (by decide) rfl) ⟨by decide, by decide⟩ (v := .ref 49) rfl ?_
        refine ev_ex 1 (c' := (79, [some (.ref 1), some (.int a0), some (.ref b7)], [.ref b7, .ref 49], hX c (tI T5 1 3 v6))) rfl ?_
        refine xc_V (idx := 104) rfl rfl rfl (Nat.le_of_ble_eq_true rfl) (Nat.le_of_ble_eq_true rfl) (x_rcv (T := tI T5 1 3 v6) (ob_lit (i := 12) rfl (by decide) rfl) ⟨by decide, by decide⟩ _ _) H (fun T8 H => ?_)
        refine ev_ex 1 (c' := (83, [some (.ref 1), some (.int a0), some (.ref b7)], [.ref b7], hX c T8)) rfl ?_
        obtain ⟨h9, H⟩ := H
        refine xe_gf (ci := 2) (k := 0) rfl rfl h9.1 ⟨by decide, by decide⟩ (v := .int (xI T8 b7 0)) rfl ?_
        exact ev_ret rfl rfl rfl (Or.inl ⟨_, _, rfl, rfl, H⟩)
      · replace H := H.1 hb
        rw [hb]
        refine ev_ex 0 (c' := (66, [some (.ref 1), some (.int a0), some (.null)], [], hX c (tI T5 1 3 v6))) rfl ?_
        refine ev_ex 2 (c' := (69, [some (.ref 1), some (.int a0), some (.null)], [.ref 1, .int ((-10))], hX c (tI T5 1 3 v6))) rfl ?_
        refine xe_gf (ci := 12) (k := 2) rfl rfl (ob_lit (i := 0) rfl (by decide) rfl) ⟨by decide, by decide⟩ (v := .int (xI T5 1 2)) rfl ?_
        refine ev_ex 1 (c' := (73, [some (.ref 1), some (.int a0), some (.null)], [.int (((-10)) - (xI T5 1 2))], hX c (tI T5 1 3 v6))) rfl ?_
        exact ev_ret rfl rfl rfl (Or.inl ⟨_, _, rfl, rfl, H⟩)
    · replace H := H.2 (h)
      exact xe_thr hR rfl rfl (Nat.le_of_ble_eq_true rfl) (Or.inr ⟨_, _, rfl, rfl, H⟩)
set_option maxRecDepth 8000 in
theorem wx_X_guild {c : CX} {d : Nat} {T : XS} {Q : Int32 → XS → Prop} {E : Nat → XS → Prop} (a0 : Int32) (a1 : Int32) (H : XVt c d m_X_needGuild [.ref 1, .int a0] T (fun T1 => XVt c d m_X_needWithin [.int a1, .int 0, .int 6] T1 (fun T2 => ((a1 = 0 → (okx a0 10 ∧ Q (xA T2 97 (ix a0)) T2)) ∧ (a1 = 1 → (okx a0 10 ∧ Q (xA T2 105 (ix a0)) T2)) ∧ (a1 = 2 → (∃ b3 : Nat, frx T2 93 0 = some b3 ∧ (CvS T2 b3 ∧ (okx a0 10 ∧ Q (xA T2 (b3 + 12) (ix a0)) T2)))) ∧ (a1 = 3 → (∃ b6 : Nat, frx T2 93 0 = some b6 ∧ (CvS T2 b6 ∧ (okx a0 10 ∧ Q (xA T2 (b6 + 16) (ix a0)) T2)))) ∧ (a1 = 4 → (∃ b9 : Nat, frx T2 93 0 = some b9 ∧ (CvS T2 b9 ∧ (okx a0 10 ∧ Q (xA T2 (b9 + 20) (ix a0)) T2)))) ∧ (a1 = 5 → (∃ b12 : Nat, frx T2 93 0 = some b12 ∧ (CvS T2 b12 ∧ (okx a0 10 ∧ Q (xA T2 (b12 + 24) (ix a0)) T2)))) ∧ (¬ a1 = 0 ∧ ¬ a1 = 1 ∧ ¬ a1 = 2 ∧ ¬ a1 = 3 ∧ ¬ a1 = 4 ∧ ¬ a1 = 5 → (okx a0 10 ∧ Q (xA T2 101 (ix a0)) T2)))) E) E) : XIt c (d + 1) m_X_guild [.ref 1, .int a0, .int a1] T Q E := by
  refine ⟨q_X_guild, rfl, Nat.le_of_ble_eq_true rfl, ?_⟩
  refine ev_ex 0 (c' := (0, [some (.ref 1), some (.int a0), some (.int a1), none], [], hX c T)) rfl ?_
  refine ev_ex 2 (c' := (2, [some (.ref 1), some (.int a0), some (.int a1), none], [.int a0, .ref 1], hX c T)) rfl ?_
  refine xt_V (idx := 110) rfl rfl rfl (Nat.le_of_ble_eq_true rfl) (Nat.le_of_ble_eq_true rfl) (x_rcv (T := T) (ob_lit (i := 0) rfl (by decide) rfl) ⟨by decide, by decide⟩ _ _) rfl rfl rfl rfl (by decide) H (fun T1 H => ?_)
  refine ev_ex 3 (c' := (9, [some (.ref 1), some (.int a0), some (.int a1), none], [.int 6, .int 0, .int a1], hX c T1)) rfl ?_
  refine xt_V (idx := 113) rfl rfl rfl (Nat.le_of_ble_eq_true rfl) (Nat.le_of_ble_eq_true rfl) rfl rfl rfl rfl rfl (by decide) H (fun T2 H => ?_)
  refine ev_ex 1 (c' := (13, [some (.ref 1), some (.int a0), some (.int a1), none], [.ref 1], hX c T2)) rfl ?_
  refine xe_gf (ci := 12) (k := 5) rfl rfl (ob_lit (i := 0) rfl (by decide) rfl) ⟨by decide, by decide⟩ (v := .ref 49) rfl ?_
  refine xe_gf (ci := 4) (k := 0) rfl rfl (ob_lit (i := 12) rfl (by decide) rfl) ⟨by decide, by decide⟩ (v := .ref 93) rfl ?_
  refine ev_ex 2 (c' := (21, [some (.ref 1), some (.int a0), some (.int a1), some (.ref 93)], [.int a1], hX c T2)) rfl ?_
  by_cases h0 : a1 = 0
  · refine ev_sw h0 (tgt := 60) rfl rfl ?_
    replace H := H.1 h0
    refine ev_ex 1 (c' := (61, [some (.ref 1), some (.int a0), some (.int a1), some (.ref 93)], [.ref 93], hX c T2)) rfl ?_
    refine xe_gf (ci := 9) (k := 1) rfl rfl (ob_lit (i := 23) rfl (by decide) rfl) ⟨by decide, by decide⟩ (v := .ref 97) rfl ?_
    refine ev_ex 1 (c' := (65, [some (.ref 1), some (.int a0), some (.int a1), some (.ref 93)], [.int a0, .ref 97], hX c T2)) rfl ?_
    obtain ⟨H0, H⟩ := H
    refine xe_al rfl (ar_lit (i := 24) rfl (by decide) rfl) H0 ?_
    refine ev_ex 0 (c' := (66, [some (.ref 1), some (.int a0), some (.int a1), some (.ref 93)], [.int (xA T2 97 (ix a0))], hX c T2)) rfl ?_
    exact ev_ret rfl rfl rfl (Or.inl ⟨_, _, rfl, rfl, H⟩)
  by_cases h1 : a1 = 1
  · refine ev_sw h1 (tgt := 67) rfl rfl ?_
    replace H := H.2.1 h1
    refine ev_ex 1 (c' := (68, [some (.ref 1), some (.int a0), some (.int a1), some (.ref 93)], [.ref 93], hX c T2)) rfl ?_
    refine xe_gf (ci := 9) (k := 3) rfl rfl (ob_lit (i := 23) rfl (by decide) rfl) ⟨by decide, by decide⟩ (v := .ref 105) rfl ?_
    refine ev_ex 1 (c' := (72, [some (.ref 1), some (.int a0), some (.int a1), some (.ref 93)], [.int a0, .ref 105], hX c T2)) rfl ?_
    obtain ⟨H0, H⟩ := H
    refine xe_al rfl (ar_lit (i := 26) rfl (by decide) rfl) H0 ?_
    refine ev_ex 0 (c' := (73, [some (.ref 1), some (.int a0), some (.int a1), some (.ref 93)], [.int (xA T2 105 (ix a0))], hX c T2)) rfl ?_
    exact ev_ret rfl rfl rfl (Or.inl ⟨_, _, rfl, rfl, H⟩)
  by_cases h2 : a1 = 2
  · refine ev_sw h2 (tgt := 74) rfl rfl ?_
    replace H := H.2.2.1 h2
    refine ev_ex 1 (c' := (75, [some (.ref 1), some (.int a0), some (.int a1), some (.ref 93)], [.ref 93], hX c T2)) rfl ?_
    obtain ⟨b3, h4, H⟩ := H
    refine xe_gfr (ci := 9) (k := 0) rfl rfl (ob_lit (i := 23) rfl (by decide) rfl) ⟨by decide, by decide⟩ rfl h4 ?_
    obtain ⟨h5, H⟩ := H
    refine xe_gfr (ci := 2) (k := 10) rfl rfl h5.1 ⟨by decide, by decide⟩ rfl h5.f10 ?_
    refine ev_ex 1 (c' := (82, [some (.ref 1), some (.int a0), some (.int a1), some (.ref 93)], [.int a0, .ref (b3 + 12)], hX c T2)) rfl ?_
    obtain ⟨H0, H⟩ := H
    refine xe_al rfl h5.a10 H0 ?_
    refine ev_ex 0 (c' := (83, [some (.ref 1), some (.int a0), some (.int a1), some (.ref 93)], [.int (xA T2 (b3 + 12) (ix a0))], hX c T2)) rfl ?_
    exact ev_ret rfl rfl rfl (Or.inl ⟨_, _, rfl, rfl, H⟩)
  by_cases h3 : a1 = 3
  · refine ev_sw h3 (tgt := 84) rfl rfl ?_
    replace H := H.2.2.2.1 h3
    refine ev_ex 1 (c' := (85, [some (.ref 1), some (.int a0), some (.int a1), some (.ref 93)], [.ref 93], hX c T2)) rfl ?_
    obtain ⟨b6, h7, H⟩ := H
    refine xe_gfr (ci := 9) (k := 0) rfl rfl (ob_lit (i := 23) rfl (by decide) rfl) ⟨by decide, by decide⟩ rfl h7 ?_
    obtain ⟨h8, H⟩ := H
    refine xe_gfr (ci := 2) (k := 11) rfl rfl h8.1 ⟨by decide, by decide⟩ rfl h8.f11 ?_
    refine ev_ex 1 (c' := (92, [some (.ref 1), some (.int a0), some (.int a1), some (.ref 93)], [.int a0, .ref (b6 + 16)], hX c T2)) rfl ?_
    obtain ⟨H0, H⟩ := H
    refine xe_al rfl h8.a11 H0 ?_
    refine ev_ex 0 (c' := (93, [some (.ref 1), some (.int a0), some (.int a1), some (.ref 93)], [.int (xA T2 (b6 + 16) (ix a0))], hX c T2)) rfl ?_
    exact ev_ret rfl rfl rfl (Or.inl ⟨_, _, rfl, rfl, H⟩)
  by_cases h4 : a1 = 4
  · refine ev_sw h4 (tgt := 94) rfl rfl ?_
    replace H := H.2.2.2.2.1 h4
    refine ev_ex 1 (c' := (95, [some (.ref 1), some (.int a0), some (.int a1), some (.ref 93)], [.ref 93], hX c T2)) rfl ?_
    obtain ⟨b9, h10, H⟩ := H
    refine xe_gfr (ci := 9) (k := 0) rfl rfl (ob_lit (i := 23) rfl (by decide) rfl) ⟨by decide, by decide⟩ rfl h10 ?_
    obtain ⟨h11, H⟩ := H
    refine xe_gfr (ci := 2) (k := 12) rfl rfl h11.1 ⟨by decide, by decide⟩ rfl h11.f12 ?_
    refine ev_ex 1 (c' := (102, [some (.ref 1), some (.int a0), some (.int a1), some (.ref 93)], [.int a0, .ref (b9 + 20)], hX c T2)) rfl ?_
    obtain ⟨H0, H⟩ := H
    refine xe_al rfl h11.a12 H0 ?_
    refine ev_ex 0 (c' := (103, [some (.ref 1), some (.int a0), some (.int a1), some (.ref 93)], [.int (xA T2 (b9 + 20) (ix a0))], hX c T2)) rfl ?_
    exact ev_ret rfl rfl rfl (Or.inl ⟨_, _, rfl, rfl, H⟩)
  by_cases h5 : a1 = 5
  · refine ev_sw h5 (tgt := 104) rfl rfl ?_
    replace H := H.2.2.2.2.2.1 h5
    refine ev_ex 1 (c' := (105, [some (.ref 1), some (.int a0), some (.int a1), some (.ref 93)], [.ref 93], hX c T2)) rfl ?_
    obtain ⟨b12, h13, H⟩ := H
    refine xe_gfr (ci := 9) (k := 0) rfl rfl (ob_lit (i := 23) rfl (by decide) rfl) ⟨by decide, by decide⟩ rfl h13 ?_
    obtain ⟨h14, H⟩ := H
    refine xe_gfr (ci := 2) (k := 13) rfl rfl h14.1 ⟨by decide, by decide⟩ rfl h14.f13 ?_
    refine ev_ex 1 (c' := (112, [some (.ref 1), some (.int a0), some (.int a1), some (.ref 93)], [.int a0, .ref (b12 + 24)], hX c T2)) rfl ?_
    obtain ⟨H0, H⟩ := H
    refine xe_al rfl h14.a13 H0 ?_
    refine ev_ex 0 (c' := (113, [some (.ref 1), some (.int a0), some (.int a1), some (.ref 93)], [.int (xA T2 (b12 + 24) (ix a0))], hX c T2)) rfl ?_
    exact ev_ret rfl rfl rfl (Or.inl ⟨_, _, rfl, rfl, H⟩)
  replace H := H.2.2.2.2.2.2 ⟨h0, h1, h2, h3, h4, h5⟩
  refine ev_tswd (tgt := 114) rfl (by have e0 := i32_ne h0 (z := 0) rfl; have e1 := i32_ne h1 (z := 1) rfl; have e2 := i32_ne h2 (z := 2) rfl; have e3 := i32_ne h3 (z := 3) rfl; have e4 := i32_ne h4 (z := 4) rfl; have e5 := i32_ne h5 (z := 5) rfl; omega) rfl ?_
  refine ev_ex 1 (c' := (115, [some (.ref 1), some (.int a0), some (.int a1), some (.ref 93)], [.ref 93], hX c T2)) rfl ?_
  refine xe_gf (ci := 9) (k := 2) rfl rfl (ob_lit (i := 23) rfl (by decide) rfl) ⟨by decide, by decide⟩ (v := .ref 101) rfl ?_
  refine ev_ex 1 (c' := (119, [some (.ref 1), some (.int a0), some (.int a1), some (.ref 93)], [.int a0, .ref 101], hX c T2)) rfl ?_
  obtain ⟨H0, H⟩ := H
  refine xe_al rfl (ar_lit (i := 25) rfl (by decide) rfl) H0 ?_
  refine ev_ex 0 (c' := (120, [some (.ref 1), some (.int a0), some (.int a1), some (.ref 93)], [.int (xA T2 101 (ix a0))], hX c T2)) rfl ?_
  exact ev_ret rfl rfl rfl (Or.inl ⟨_, _, rfl, rfl, H⟩)
set_option maxRecDepth 8000 in
theorem wx_X_may {c : CX} {d : Nat} {T : XS} {Q : Bool → XS → Prop} {E : Nat → XS → Prop} (a0 : Int32) (a1 : Int32) (H : XVt c d m_X_needTwoGuilds [.ref 1, .int a0, .int a1] T (fun T1 => XB c d m_Ct_allows [.ref 117, .ref 93, .int a0, .int a1] T1 (fun v3 T2 => Q v3 T2)) E) : XBt c (d + 1) m_X_may [.ref 1, .int a0, .int a1] T Q E := by
  refine ⟨q_X_may, rfl, Nat.le_of_ble_eq_true rfl, ?_⟩
  refine ev_ex 0 (c' := (0, [some (.ref 1), some (.int a0), some (.int a1)], [], hX c T)) rfl ?_
  refine ev_ex 3 (c' := (3, [some (.ref 1), some (.int a0), some (.int a1)], [.int a1, .int a0, .ref 1], hX c T)) rfl ?_
  refine xt_V (idx := 146) rfl rfl rfl (Nat.le_of_ble_eq_true rfl) (Nat.le_of_ble_eq_true rfl) (x_rcv (T := T) (ob_lit (i := 0) rfl (by decide) rfl) ⟨by decide, by decide⟩ _ _) rfl rfl rfl rfl (by decide) H (fun T1 H => ?_)
  refine ev_ex 1 (c' := (7, [some (.ref 1), some (.int a0), some (.int a1)], [.ref 1], hX c T1)) rfl ?_
  refine xe_gf (ci := 12) (k := 8) rfl rfl (ob_lit (i := 0) rfl (by decide) rfl) ⟨by decide, by decide⟩ (v := .ref 117) rfl ?_
  refine ev_ex 1 (c' := (11, [some (.ref 1), some (.int a0), some (.int a1)], [.ref 1, .ref 117], hX c T1)) rfl ?_
  refine xe_gf (ci := 12) (k := 5) rfl rfl (ob_lit (i := 0) rfl (by decide) rfl) ⟨by decide, by decide⟩ (v := .ref 49) rfl ?_
  refine xe_gf (ci := 4) (k := 0) rfl rfl (ob_lit (i := 12) rfl (by decide) rfl) ⟨by decide, by decide⟩ (v := .ref 93) rfl ?_
  refine ev_ex 2 (c' := (19, [some (.ref 1), some (.int a0), some (.int a1)], [.int a1, .int a0, .ref 93, .ref 117], hX c T1)) rfl ?_
  refine xc_B (idx := 150) rfl rfl rfl (Nat.le_of_ble_eq_true rfl) (Nat.le_of_ble_eq_true rfl) (x_rcv (T := T1) (ob_lit (i := 29) rfl (by decide) rfl) ⟨by decide, by decide⟩ _ _) H (fun v3 T2 H => ?_)
  exact ev_retB (x := v3) rfl rfl (Or.inl ⟨_, _, rfl, rfl, H⟩)
set_option maxRecDepth 8000 in
theorem wx_X_tomorrow {c : CX} {d : Nat} {T : XS} {Q : Int32 → XS → Prop} {E : Nat → XS → Prop} (a0 : Int32) (H : XVt c d m_X_needGuild [.ref 1, .int a0] T (fun T1 => XI c d m_Ct_answer [.ref 117, .ref 93, .int a0] T1 (fun v3 T2 => Q v3 T2)) E) : XIt c (d + 1) m_X_tomorrow [.ref 1, .int a0] T Q E := by
  refine ⟨q_X_tomorrow, rfl, Nat.le_of_ble_eq_true rfl, ?_⟩
  refine ev_ex 0 (c' := (0, [some (.ref 1), some (.int a0)], [], hX c T)) rfl ?_
  refine ev_ex 2 (c' := (2, [some (.ref 1), some (.int a0)], [.int a0, .ref 1], hX c T)) rfl ?_
  refine xt_V (idx := 110) rfl rfl rfl (Nat.le_of_ble_eq_true rfl) (Nat.le_of_ble_eq_true rfl) (x_rcv (T := T) (ob_lit (i := 0) rfl (by decide) rfl) ⟨by decide, by decide⟩ _ _) rfl rfl rfl rfl (by decide) H (fun T1 H => ?_)
  refine ev_ex 1 (c' := (6, [some (.ref 1), some (.int a0)], [.ref 1], hX c T1)) rfl ?_
  refine xe_gf (ci := 12) (k := 8) rfl rfl (ob_lit (i := 0) rfl (by decide) rfl) ⟨by decide, by decide⟩ (v := .ref 117) rfl ?_
  refine ev_ex 1 (c' := (10, [some (.ref 1), some (.int a0)], [.ref 1, .ref 117], hX c T1)) rfl ?_
  refine xe_gf (ci := 12) (k := 5) rfl rfl (ob_lit (i := 0) rfl (by decide) rfl) ⟨by decide, by decide⟩ (v := .ref 49) rfl ?_
  refine xe_gf (ci := 4) (k := 0) rfl rfl (ob_lit (i := 12) rfl (by decide) rfl) ⟨by decide, by decide⟩ (v := .ref 93) rfl ?_
  refine ev_ex 1 (c' := (17, [some (.ref 1), some (.int a0)], [.int a0, .ref 93, .ref 117], hX c T1)) rfl ?_
  refine xc_I (idx := 154) rfl rfl rfl (Nat.le_of_ble_eq_true rfl) (Nat.le_of_ble_eq_true rfl) (x_rcv (T := T1) (ob_lit (i := 29) rfl (by decide) rfl) ⟨by decide, by decide⟩ _ _) H (fun v3 T2 H => ?_)
  exact ev_ret rfl rfl rfl (Or.inl ⟨_, _, rfl, rfl, H⟩)
set_option maxRecDepth 8000 in
theorem wx_X_step {c : CX} {d : Nat} {T : XS} {Q : Int32 → XS → Prop} {E : Nat → XS → Prop} (hR : c.2.2.2.1.length = 18) (a0 : Int32) (a1 : Int32) (H : (∃ b1 : Nat, frx T 93 0 = some b1 ∧ ((a0 < 0 → E 2 (tN T 0 0 6)) ∧ (¬ a0 < 0 → (CvS T b1 ∧ XI c d m_Cv_steps [.ref b1] T (fun v5 T4 => ((a0 < v5 → ((a1 = 0 → ((¬ a1 = 0 → (CvS T4 b1 ∧ (okx a0 (nst T4 b1) ∧ Q (xA T4 (b1 + 32) (ix a0)) T4))) ∧ (a1 = 0 → (CvS T4 b1 ∧ (okx a0 (nst T4 b1) ∧ Q (xA T4 (b1 + 28) (ix a0)) T4))))) ∧ (¬ a1 = 0 → ((a1 = 1 → ((¬ a1 = 0 → (CvS T4 b1 ∧ (okx a0 (nst T4 b1) ∧ Q (xA T4 (b1 + 32) (ix a0)) T4))) ∧ (a1 = 0 → (CvS T4 b1 ∧ (okx a0 (nst T4 b1) ∧ Q (xA T4 (b1 + 28) (ix a0)) T4))))) ∧ (¬ a1 = 1 → E 1 (tN T4 0 0 6)))))) ∧ (¬ a0 < v5 → E 2 (tN T4 0 0 6))))))))) : XIt c (d + 1) m_X_step [.ref 1, .int a0, .int a1] T Q E := by
  refine ⟨q_X_step, rfl, Nat.le_of_ble_eq_true rfl, ?_⟩
  refine ev_ex 0 (c' := (0, [some (.ref 1), some (.int a0), some (.int a1), none], [], hX c T)) rfl ?_
  refine ev_ex 1 (c' := (1, [some (.ref 1), some (.int a0), some (.int a1), none], [.ref 1], hX c T)) rfl ?_
  refine xe_gf (ci := 12) (k := 5) rfl rfl (ob_lit (i := 0) rfl (by decide) rfl) ⟨by decide, by decide⟩ (v := .ref 49) rfl ?_
  refine xe_gf (ci := 4) (k := 0) rfl rfl (ob_lit (i := 12) rfl (by decide) rfl) ⟨by decide, by decide⟩ (v := .ref 93) rfl ?_
  obtain ⟨b1, h2, H⟩ := H
  refine xe_gfr (ci := 9) (k := 0) rfl rfl (ob_lit (i := 23) rfl (by decide) rfl) ⟨by decide, by decide⟩ rfl h2 ?_
  refine ev_ex 2 (c' := (12, [some (.ref 1), some (.int a0), some (.int a1), some (.ref b1)], [.int a0], hX c T)) rfl ?_
  refine ev_if_lt (tgt := 23) rfl rfl (fun h => ?_) (fun h => ?_)
  · replace H := H.1 (h)
    exact xe_thr hR rfl rfl (Nat.le_of_ble_eq_true rfl) (Or.inr ⟨_, _, rfl, rfl, H⟩)
  · replace H := H.2 (h)
    refine ev_ex 2 (c' := (17, [some (.ref 1), some (.int a0), some (.int a1), some (.ref b1)], [.ref b1, .int a0], hX c T)) rfl ?_
    obtain ⟨h3, H⟩ := H
    refine xc_I (idx := 158) rfl rfl rfl (Nat.le_of_ble_eq_true rfl) (Nat.le_of_ble_eq_true rfl) (x_rcv (T := T) h3.1 ⟨by decide, by decide⟩ _ _) H (fun v5 T4 H => ?_)
    refine ev_icmp_lt (tgt := 33) rfl rfl (fun h => ?_) (fun h => ?_)
    · replace H := H.1 (h)
      refine ev_ex 1 (c' := (34, [some (.ref 1), some (.int a0), some (.int a1), some (.ref b1)], [.int a1], hX c T4)) rfl ?_
      refine ev_if_eq (tgt := 52) rfl rfl (fun h => ?_) (fun h => ?_)
      · replace H := H.1 (h)
        refine ev_ex 1 (c' := (53, [some (.ref 1), some (.int a0), some (.int a1), some (.ref b1)], [.int a1], hX c T4)) rfl ?_
        refine ev_if_ne (tgt := 65) rfl rfl (fun h => ?_) (fun h => ?_)
        · replace H := H.1 (h)
          refine ev_ex 1 (c' := (66, [some (.ref 1), some (.int a0), some (.int a1), some (.ref b1)], [.ref b1], hX c T4)) rfl ?_
          obtain ⟨h6, H⟩ := H
          refine xe_gfr (ci := 2) (k := 8) rfl rfl h6.1 ⟨by decide, by decide⟩ rfl h6.f8 ?_
          refine ev_ex 1 (c' := (70, [some (.ref 1), some (.int a0), some (.int a1), some (.ref b1)], [.int a0, .ref (b1 + 32)], hX c T4)) rfl ?_
          obtain ⟨H0, H⟩ := H
          refine xe_al rfl h6.a8 H0 ?_
          refine ev_ex 0 (c' := (71, [some (.ref 1), some (.int a0), some (.int a1), some (.ref b1)], [.int (xA T4 (b1 + 32) (ix a0))], hX c T4)) rfl ?_
          exact ev_ret rfl rfl rfl (Or.inl ⟨_, _, rfl, rfl, H⟩)
        · replace H := H.2 (h)
          refine ev_ex 1 (c' := (57, [some (.ref 1), some (.int a0), some (.int a1), some (.ref b1)], [.ref b1], hX c T4)) rfl ?_
          obtain ⟨h7, H⟩ := H
          refine xe_gfr (ci := 2) (k := 7) rfl rfl h7.1 ⟨by decide, by decide⟩ rfl h7.f7 ?_
          refine ev_ex 1 (c' := (61, [some (.ref 1), some (.int a0), some (.int a1), some (.ref b1)], [.int a0, .ref (b1 + 28)], hX c T4)) rfl ?_
          obtain ⟨H0, H⟩ := H
          refine xe_al rfl h7.a7 H0 ?_
          refine ev_ex 0 (c' := (62, [some (.ref 1), some (.int a0), some (.int a1), some (.ref b1)], [.int (xA T4 (b1 + 28) (ix a0))], hX c T4)) rfl ?_
          refine ev_ex 1 (c' := (71, [some (.ref 1), some (.int a0), some (.int a1), some (.ref b1)], [.int (xA T4 (b1 + 28) (ix a0))], hX c T4)) rfl ?_
          exact ev_ret rfl rfl rfl (Or.inl ⟨_, _, rfl, rfl, H⟩)
      · replace H := H.2 (h)
        refine ev_ex 2 (c' := (39, [some (.ref 1), some (.int a0), some (.int a1), some (.ref b1)], [.int 1, .int a1], hX c T4)) rfl ?_
        refine ev_icmp_eq (tgt := 52) rfl rfl (fun h => ?_) (fun h => ?_)
        · replace H := H.1 (h)
          refine ev_ex 1 (c' := (53, [some (.ref 1), some (.int a0), some (.int a1), some (.ref b1)], [.int a1], hX c T4)) rfl ?_
          refine ev_if_ne (tgt := 65) rfl rfl (fun h => ?_) (fun h => ?_)
          · replace H := H.1 (h)
            refine ev_ex 1 (c' := (66, [some (.ref 1), some (.int a0), some (.int a1), some (.ref b1)], [.ref b1], hX c T4)) rfl ?_
            obtain ⟨h8, H⟩ := H
            refine xe_gfr (ci := 2) (k := 8) rfl rfl h8.1 ⟨by decide, by decide⟩ rfl h8.f8 ?_
            refine ev_ex 1 (c' := (70, [some (.ref 1), some (.int a0), some (.int a1), some (.ref b1)], [.int a0, .ref (b1 + 32)], hX c T4)) rfl ?_
            obtain ⟨H0, H⟩ := H
            refine xe_al rfl h8.a8 H0 ?_
            refine ev_ex 0 (c' := (71, [some (.ref 1), some (.int a0), some (.int a1), some (.ref b1)], [.int (xA T4 (b1 + 32) (ix a0))], hX c T4)) rfl ?_
            exact ev_ret rfl rfl rfl (Or.inl ⟨_, _, rfl, rfl, H⟩)
          · replace H := H.2 (h)
            refine ev_ex 1 (c' := (57, [some (.ref 1), some (.int a0), some (.int a1), some (.ref b1)], [.ref b1], hX c T4)) rfl ?_
            obtain ⟨h9, H⟩ := H
            refine xe_gfr (ci := 2) (k := 7) rfl rfl h9.1 ⟨by decide, by decide⟩ rfl h9.f7 ?_
            refine ev_ex 1 (c' := (61, [some (.ref 1), some (.int a0), some (.int a1), some (.ref b1)], [.int a0, .ref (b1 + 28)], hX c T4)) rfl ?_
            obtain ⟨H0, H⟩ := H
            refine xe_al rfl h9.a7 H0 ?_
            refine ev_ex 0 (c' := (62, [some (.ref 1), some (.int a0), some (.int a1), some (.ref b1)], [.int (xA T4 (b1 + 28) (ix a0))], hX c T4)) rfl ?_
            refine ev_ex 1 (c' := (71, [some (.ref 1), some (.int a0), some (.int a1), some (.ref b1)], [.int (xA T4 (b1 + 28) (ix a0))], hX c T4)) rfl ?_
            exact ev_ret rfl rfl rfl (Or.inl ⟨_, _, rfl, rfl, H⟩)
        · replace H := H.2 (h)
          exact xe_thr hR rfl rfl (Nat.le_of_ble_eq_true rfl) (Or.inr ⟨_, _, rfl, rfl, H⟩)
    · replace H := H.2 (h)
      exact xe_thr hR rfl rfl (Nat.le_of_ble_eq_true rfl) (Or.inr ⟨_, _, rfl, rfl, H⟩)
set_option maxRecDepth 8000 in
theorem wx_X_spare {c : CX} {d : Nat} {T : XS} {Q : Int32 → XS → Prop} {E : Nat → XS → Prop} (a0 : Int32) (H : XVt c d m_X_needGuild [.ref 1, .int a0] T (fun T1 => (okx a0 10 ∧ XV c d m_Fr_remember [.ref 49] T1 (fun T2 => XV c d m_Sd_turn [.ref 93, .int a0, .int ((-1))] T2 (fun T3 => Q (xA T1 97 (ix a0)) T3)))) E) : XIt c (d + 1) m_X_spare [.ref 1, .int a0] T Q E := by
  refine ⟨q_X_spare, rfl, Nat.le_of_ble_eq_true rfl, ?_⟩
  refine ev_ex 0 (c' := (0, [some (.ref 1), some (.int a0), none], [], hX c T)) rfl ?_
  refine ev_ex 2 (c' := (2, [some (.ref 1), some (.int a0), none], [.int a0, .ref 1], hX c T)) rfl ?_
  refine xt_V (idx := 110) rfl rfl rfl (Nat.le_of_ble_eq_true rfl) (Nat.le_of_ble_eq_true rfl) (x_rcv (T := T) (ob_lit (i := 0) rfl (by decide) rfl) ⟨by decide, by decide⟩ _ _) rfl rfl rfl rfl (by decide) H (fun T1 H => ?_)
  refine ev_ex 1 (c' := (6, [some (.ref 1), some (.int a0), none], [.ref 1], hX c T1)) rfl ?_
  refine xe_gf (ci := 12) (k := 5) rfl rfl (ob_lit (i := 0) rfl (by decide) rfl) ⟨by decide, by decide⟩ (v := .ref 49) rfl ?_
  refine xe_gf (ci := 4) (k := 0) rfl rfl (ob_lit (i := 12) rfl (by decide) rfl) ⟨by decide, by decide⟩ (v := .ref 93) rfl ?_
  refine xe_gf (ci := 9) (k := 1) rfl rfl (ob_lit (i := 23) rfl (by decide) rfl) ⟨by decide, by decide⟩ (v := .ref 97) rfl ?_
  refine ev_ex 1 (c' := (16, [some (.ref 1), some (.int a0), none], [.int a0, .ref 97], hX c T1)) rfl ?_
  obtain ⟨H0, H⟩ := H
  refine xe_al rfl (ar_lit (i := 24) rfl (by decide) rfl) H0 ?_
  refine ev_ex 0 (c' := (17, [some (.ref 1), some (.int a0), none], [.int (xA T1 97 (ix a0))], hX c T1)) rfl ?_
  refine ev_ex 2 (c' := (19, [some (.ref 1), some (.int a0), some (.int (xA T1 97 (ix a0)))], [.ref 1], hX c T1)) rfl ?_
  refine xe_gf (ci := 12) (k := 5) rfl rfl (ob_lit (i := 0) rfl (by decide) rfl) ⟨by decide, by decide⟩ (v := .ref 49) rfl ?_
  refine xc_V (idx := 178) rfl rfl rfl (Nat.le_of_ble_eq_true rfl) (Nat.le_of_ble_eq_true rfl) (x_rcv (T := T1) (ob_lit (i := 12) rfl (by decide) rfl) ⟨by decide, by decide⟩ _ _) H (fun T2 H => ?_)
  refine ev_ex 1 (c' := (26, [some (.ref 1), some (.int a0), some (.int (xA T1 97 (ix a0)))], [.ref 1], hX c T2)) rfl ?_
  refine xe_gf (ci := 12) (k := 5) rfl rfl (ob_lit (i := 0) rfl (by decide) rfl) ⟨by decide, by decide⟩ (v := .ref 49) rfl ?_
  refine xe_gf (ci := 4) (k := 0) rfl rfl (ob_lit (i := 12) rfl (by decide) rfl) ⟨by decide, by decide⟩ (v := .ref 93) rfl ?_
  refine ev_ex 2 (c' := (34, [some (.ref 1), some (.int a0), some (.int (xA T1 97 (ix a0)))], [.int ((-1)), .int a0, .ref 93], hX c T2)) rfl ?_
  refine xc_V (idx := 181) rfl rfl rfl (Nat.le_of_ble_eq_true rfl) (Nat.le_of_ble_eq_true rfl) (x_rcv (T := T2) (ob_lit (i := 23) rfl (by decide) rfl) ⟨by decide, by decide⟩ _ _) H (fun T3 H => ?_)
  refine ev_ex 1 (c' := (38, [some (.ref 1), some (.int a0), some (.int (xA T1 97 (ix a0)))], [.int (xA T1 97 (ix a0))], hX c T3)) rfl ?_
  exact ev_ret rfl rfl rfl (Or.inl ⟨_, _, rfl, rfl, H⟩)
set_option maxRecDepth 8000 in
theorem wx_X_rank {c : CX} {d : Nat} {T : XS} {Q : Int32 → XS → Prop} {E : Nat → XS → Prop} (a0 : Int32) (a1 : Int32) (H : XVt c d m_X_needGuild [.ref 1, .int a0] T (fun T1 => XVt c d m_X_needWithin [.int a1, .int 0, .int 99] T1 (fun T2 => (okx a0 10 ∧ XV c d m_Fr_remember [.ref 49] T2 (fun T3 => (okx a0 10 ∧ Q (xA T2 105 (ix a0)) (tA T3 105 (ix a0) a1))))) E) E) : XIt c (d + 1) m_X_rank [.ref 1, .int a0, .int a1] T Q E := by
  refine ⟨q_X_rank, rfl, Nat.le_of_ble_eq_true rfl, ?_⟩
  refine ev_ex 0 (c' := (0, [some (.ref 1), some (.int a0), some (.int a1), none], [], hX c T)) rfl ?_
  refine ev_ex 2 (c' := (2, [some (.ref 1), some (.int a0), some (.int a1), none], [.int a0, .ref 1], hX c T)) rfl ?_
  refine xt_V (idx := 110) rfl rfl rfl (Nat.le_of_ble_eq_true rfl) (Nat.le_of_ble_eq_true rfl) (x_rcv (T := T) (ob_lit (i := 0) rfl (by decide) rfl) ⟨by decide, by decide⟩ _ _) rfl rfl rfl rfl (by decide) H (fun T1 H => ?_)
  refine ev_ex 3 (c' := (9, [some (.ref 1), some (.int a0), some (.int a1), none], [.int 99, .int 0, .int a1], hX c T1)) rfl ?_
  refine xt_V (idx := 113) rfl rfl rfl (Nat.le_of_ble_eq_true rfl) (Nat.le_of_ble_eq_true rfl) rfl rfl rfl rfl rfl (by decide) H (fun T2 H => ?_)
  refine ev_ex 1 (c' := (13, [some (.ref 1), some (.int a0), some (.int a1), none], [.ref 1], hX c T2)) rfl ?_
  refine xe_gf (ci := 12) (k := 5) rfl rfl (ob_lit (i := 0) rfl (by decide) rfl) ⟨by decide, by decide⟩ (v := .ref 49) rfl ?_
  refine xe_gf (ci := 4) (k := 0) rfl rfl (ob_lit (i := 12) rfl (by decide) rfl) ⟨by decide, by decide⟩ (v := .ref 93) rfl ?_
  refine xe_gf (ci := 9) (k := 3) rfl rfl (ob_lit (i := 23) rfl (by decide) rfl) ⟨by decide, by decide⟩ (v := .ref 105) rfl ?_
  refine ev_ex 1 (c' := (23, [some (.ref 1), some (.int a0), some (.int a1), none], [.int a0, .ref 105], hX c T2)) rfl ?_
  obtain ⟨H0, H⟩ := H
  refine xe_al rfl (ar_lit (i := 26) rfl (by decide) rfl) H0 ?_
  refine ev_ex 0 (c' := (24, [some (.ref 1), some (.int a0), some (.int a1), none], [.int (xA T2 105 (ix a0))], hX c T2)) rfl ?_
  refine ev_ex 2 (c' := (26, [some (.ref 1), some (.int a0), some (.int a1), some (.int (xA T2 105 (ix a0)))], [.ref 1], hX c T2)) rfl ?_
  refine xe_gf (ci := 12) (k := 5) rfl rfl (ob_lit (i := 0) rfl (by decide) rfl) ⟨by decide, by decide⟩ (v := .ref 49) rfl ?_
  refine xc_V (idx := 178) rfl rfl rfl (Nat.le_of_ble_eq_true rfl) (Nat.le_of_ble_eq_true rfl) (x_rcv (T := T2) (ob_lit (i := 12) rfl (by decide) rfl) ⟨by decide, by decide⟩ _ _) H (fun T3 H => ?_)
  refine ev_ex 1 (c' := (33, [some (.ref 1), some (.int a0), some (.int a1), some (.int (xA T2 105 (ix a0)))], [.ref 1], hX c T3)) rfl ?_
  refine xe_gf (ci := 12) (k := 5) rfl rfl (ob_lit (i := 0) rfl (by decide) rfl) ⟨by decide, by decide⟩ (v := .ref 49) rfl ?_
  refine xe_gf (ci := 4) (k := 0) rfl rfl (ob_lit (i := 12) rfl (by decide) rfl) ⟨by decide, by decide⟩ (v := .ref 93) rfl ?_
  refine xe_gf (ci := 9) (k := 3) rfl rfl (ob_lit (i := 23) rfl (by decide) rfl) ⟨by decide, by decide⟩ (v := .ref 105) rfl ?_
  refine ev_ex 2 (c' := (44, [some (.ref 1), some (.int a0), some (.int a1), some (.int (xA T2 105 (ix a0)))], [.int a1, .int a0, .ref 105], hX c T3)) rfl ?_
  obtain ⟨H0, H⟩ := H
  refine xe_as rfl (ar_lit (i := 26) rfl (by decide) rfl) H0 ?_
  refine ev_ex 1 (c' := (46, [some (.ref 1), some (.int a0), some (.int a1), some (.int (xA T2 105 (ix a0)))], [.int (xA T2 105 (ix a0))], hX c (tA T3 105 (ix a0) a1))) rfl ?_
  exact ev_ret rfl rfl rfl (Or.inl ⟨_, _, rfl, rfl, H⟩)
set_option maxRecDepth 8000 in
theorem wx_X_nights {c : CX} {d : Nat} {T : XS} {Q : Int32 → XS → Prop} {E : Nat → XS → Prop} (a0 : Int32) (H : XVt c d m_X_needWithin [.int a0, .int 1, .int 60] T (fun T1 => XV c d m_Fr_remember [.ref 49] T1 (fun T2 => XV c d m_Sd_copyFrom [.ref 173, .ref 93] T2 (fun T3 => eX c (d + 1) m_X_nights 30 [some (.ref 1), some (.int a0), some (.int 0), none] T3 (yt c E (yI c Q))))) E) : XIt c (d + 1) m_X_nights [.ref 1, .int a0] T Q E := by
  refine ⟨q_X_nights, rfl, Nat.le_of_ble_eq_true rfl, ?_⟩
  refine ev_ex 0 (c' := (0, [some (.ref 1), some (.int a0), none, none], [], hX c T)) rfl ?_
  refine ev_ex 3 (c' := (4, [some (.ref 1), some (.int a0), none, none], [.int 60, .int 1, .int a0], hX c T)) rfl ?_
  refine xt_V (idx := 113) rfl rfl rfl (Nat.le_of_ble_eq_true rfl) (Nat.le_of_ble_eq_true rfl) rfl rfl rfl rfl rfl (by decide) H (fun T1 H => ?_)
  refine ev_ex 1 (c' := (8, [some (.ref 1), some (.int a0), none, none], [.ref 1], hX c T1)) rfl ?_
  refine xe_gf (ci := 12) (k := 5) rfl rfl (ob_lit (i := 0) rfl (by decide) rfl) ⟨by decide, by decide⟩ (v := .ref 49) rfl ?_
  refine xc_V (idx := 178) rfl rfl rfl (Nat.le_of_ble_eq_true rfl) (Nat.le_of_ble_eq_true rfl) (x_rcv (T := T1) (ob_lit (i := 12) rfl (by decide) rfl) ⟨by decide, by decide⟩ _ _) H (fun T2 H => ?_)
  refine ev_ex 1 (c' := (15, [some (.ref 1), some (.int a0), none, none], [.ref 1], hX c T2)) rfl ?_
  refine xe_gf (ci := 12) (k := 11) rfl rfl (ob_lit (i := 0) rfl (by decide) rfl) ⟨by decide, by decide⟩ (v := .ref 173) rfl ?_
  refine ev_ex 1 (c' := (19, [some (.ref 1), some (.int a0), none, none], [.ref 1, .ref 173], hX c T2)) rfl ?_
  refine xe_gf (ci := 12) (k := 5) rfl rfl (ob_lit (i := 0) rfl (by decide) rfl) ⟨by decide, by decide⟩ (v := .ref 49) rfl ?_
  refine xe_gf (ci := 4) (k := 0) rfl rfl (ob_lit (i := 12) rfl (by decide) rfl) ⟨by decide, by decide⟩ (v := .ref 93) rfl ?_
  refine xc_V (idx := 190) rfl rfl rfl (Nat.le_of_ble_eq_true rfl) (Nat.le_of_ble_eq_true rfl) (x_rcv (T := T2) (ob_lit (i := 43) rfl (by decide) rfl) ⟨by decide, by decide⟩ _ _) H (fun T3 H => ?_)
  refine ev_ex 2 (c' := (30, [some (.ref 1), some (.int a0), some (.int 0), none], [], hX c T3)) rfl ?_
  exact H
set_option maxRecDepth 8000 in
theorem wx_X_nights_30 {c : CX} {d : Nat} {T : XS} {Q : Int32 → XS → Prop} {E : Nat → XS → Prop} (l1 : Int32) (l2 : Int32) (H : ((l1 ≤ l2 → eX c (d + 1) m_X_nights 60 [some (.ref 1), some (.int l1), some (.int 0), some (.int 0)] T (yt c E (yI c Q))) ∧ (¬ l1 ≤ l2 → XB c d m_Ct_passNight [.ref 117, .ref 93] T (fun v52 T51 => eX c (d + 1) m_X_nights 30 [some (.ref 1), some (.int l1), some (.int (l2 + 1)), none] T51 (yt c E (yI c Q)))))) : eX c (d + 1) m_X_nights 30 [some (.ref 1), some (.int l1), some (.int l2), none] T (yt c E (yI c Q)) := by
  unfold eX
  refine ev_ex 0 (c' := (30, [some (.ref 1), some (.int l1), some (.int l2), none], [], hX c T)) rfl ?_
  refine ev_ex 2 (c' := (32, [some (.ref 1), some (.int l1), some (.int l2), none], [.int l1, .int l2], hX c T)) rfl ?_
  refine ev_icmp_ge (tgt := 56) rfl rfl (fun h => ?_) (fun h => ?_)
  · replace H := H.1 (h)
    refine ev_ex 4 (c' := (60, [some (.ref 1), some (.int l1), some (.int 0), some (.int 0)], [], hX c T)) rfl ?_
    exact H
  · replace H := H.2 (h)
    refine ev_ex 1 (c' := (36, [some (.ref 1), some (.int l1), some (.int l2), none], [.ref 1], hX c T)) rfl ?_
    refine xe_gf (ci := 12) (k := 8) rfl rfl (ob_lit (i := 0) rfl (by decide) rfl) ⟨by decide, by decide⟩ (v := .ref 117) rfl ?_
    refine ev_ex 1 (c' := (40, [some (.ref 1), some (.int l1), some (.int l2), none], [.ref 1, .ref 117], hX c T)) rfl ?_
    refine xe_gf (ci := 12) (k := 5) rfl rfl (ob_lit (i := 0) rfl (by decide) rfl) ⟨by decide, by decide⟩ (v := .ref 49) rfl ?_
    refine xe_gf (ci := 4) (k := 0) rfl rfl (ob_lit (i := 12) rfl (by decide) rfl) ⟨by decide, by decide⟩ (v := .ref 93) rfl ?_
    refine xc_B (idx := 194) rfl rfl rfl (Nat.le_of_ble_eq_true rfl) (Nat.le_of_ble_eq_true rfl) (x_rcv (T := T) (ob_lit (i := 29) rfl (by decide) rfl) ⟨by decide, by decide⟩ _ _) H (fun v52 T51 H => ?_)
    refine ev_ex 3 (c' := (30, [some (.ref 1), some (.int l1), some (.int (l2 + 1)), none], [], hX c T51)) rfl ?_
    exact H
set_option maxRecDepth 8000 in
theorem wx_X_nights_60 {c : CX} {d : Nat} {T : XS} {Q : Int32 → XS → Prop} {E : Nat → XS → Prop} (l1 : Int32) (l2 : Int32) (l3 : Int32) (H : ((10 ≤ l3 → Q l2 T) ∧ (¬ 10 ≤ l3 → (okx l3 10 ∧ (okx l3 10 ∧ (((xA T 213 (ix l3)) = (xA T 97 (ix l3)) → eX c (d + 1) m_X_nights 60 [some (.ref 1), some (.int l1), some (.int l2), some (.int (l3 + 1))] T (yt c E (yI c Q))) ∧ (¬ (xA T 213 (ix l3)) = (xA T 97 (ix l3)) → eX c (d + 1) m_X_nights 60 [some (.ref 1), some (.int l1), some (.int (l2 + 1)), some (.int (l3 + 1))] T (yt c E (yI c Q))))))))) : eX c (d + 1) m_X_nights 60 [some (.ref 1), some (.int l1), some (.int l2), some (.int l3)] T (yt c E (yI c Q)) := by
  unfold eX
  refine ev_ex 0 (c' := (60, [some (.ref 1), some (.int l1), some (.int l2), some (.int l3)], [], hX c T)) rfl ?_
  refine ev_ex 2 (c' := (63, [some (.ref 1), some (.int l1), some (.int l2), some (.int l3)], [.int 10, .int l3], hX c T)) rfl ?_
  refine ev_icmp_ge (tgt := 99) rfl rfl (fun h => ?_) (fun h => ?_)
  · replace H := H.1 (h)
    refine ev_ex 1 (c' := (100, [some (.ref 1), some (.int l1), some (.int l2), some (.int l3)], [.int l2], hX c T)) rfl ?_
    exact ev_ret rfl rfl rfl (Or.inl ⟨_, _, rfl, rfl, H⟩)
  · replace H := H.2 (h)
    refine ev_ex 1 (c' := (67, [some (.ref 1), some (.int l1), some (.int l2), some (.int l3)], [.ref 1], hX c T)) rfl ?_
    refine xe_gf (ci := 12) (k := 11) rfl rfl (ob_lit (i := 0) rfl (by decide) rfl) ⟨by decide, by decide⟩ (v := .ref 173) rfl ?_
    refine xe_gf (ci := 9) (k := 1) rfl rfl (ob_lit (i := 43) rfl (by decide) rfl) ⟨by decide, by decide⟩ (v := .ref 213) rfl ?_
    refine ev_ex 1 (c' := (74, [some (.ref 1), some (.int l1), some (.int l2), some (.int l3)], [.int l3, .ref 213], hX c T)) rfl ?_
    obtain ⟨H0, H⟩ := H
    refine xe_al rfl (ar_lit (i := 53) rfl (by decide) rfl) H0 ?_
    refine ev_ex 0 (c' := (75, [some (.ref 1), some (.int l1), some (.int l2), some (.int l3)], [.int (xA T 213 (ix l3))], hX c T)) rfl ?_
    refine ev_ex 1 (c' := (76, [some (.ref 1), some (.int l1), some (.int l2), some (.int l3)], [.ref 1, .int (xA T 213 (ix l3))], hX c T)) rfl ?_
    refine xe_gf (ci := 12) (k := 5) rfl rfl (ob_lit (i := 0) rfl (by decide) rfl) ⟨by decide, by decide⟩ (v := .ref 49) rfl ?_
    refine xe_gf (ci := 4) (k := 0) rfl rfl (ob_lit (i := 12) rfl (by decide) rfl) ⟨by decide, by decide⟩ (v := .ref 93) rfl ?_
    refine xe_gf (ci := 9) (k := 1) rfl rfl (ob_lit (i := 23) rfl (by decide) rfl) ⟨by decide, by decide⟩ (v := .ref 97) rfl ?_
    refine ev_ex 1 (c' := (86, [some (.ref 1), some (.int l1), some (.int l2), some (.int l3)], [.int l3, .ref 97, .int (xA T 213 (ix l3))], hX c T)) rfl ?_
    obtain ⟨H0, H⟩ := H
    refine xe_al rfl (ar_lit (i := 24) rfl (by decide) rfl) H0 ?_
    refine ev_ex 0 (c' := (87, [some (.ref 1), some (.int l1), some (.int l2), some (.int l3)], [.int (xA T 97 (ix l3)), .int (xA T 213 (ix l3))], hX c T)) rfl ?_
    refine ev_icmp_eq (tgt := 93) rfl rfl (fun h => ?_) (fun h => ?_)
    · replace H := H.1 (h)
      refine ev_ex 2 (c' := (60, [some (.ref 1), some (.int l1), some (.int l2), some (.int (l3 + 1))], [], hX c T)) rfl ?_
      exact H
    · replace H := H.2 (h)
      refine ev_ex 3 (c' := (60, [some (.ref 1), some (.int l1), some (.int (l2 + 1)), some (.int (l3 + 1))], [], hX c T)) rfl ?_
      exact H
set_option maxRecDepth 8000 in
theorem wx_X_undo {c : CX} {d : Nat} {T : XS} {Q : Int32 → XS → Prop} {E : Nat → XS → Prop} (a0 : Int32) (H : XVt c d m_X_needWithin [.int a0, .int 1, .int (xI T 49 2)] T (fun T1 => XV c d m_Fr_takeBack [.ref 49, .int a0] T1 (fun T2 => Q (xI T2 49 2) T2)) E) : XIt c (d + 1) m_X_undo [.ref 1, .int a0] T Q E := by
  refine ⟨q_X_undo, rfl, Nat.le_of_ble_eq_true rfl, ?_⟩
  refine ev_ex 0 (c' := (0, [some (.ref 1), some (.int a0)], [], hX c T)) rfl ?_
  refine ev_ex 3 (c' := (3, [some (.ref 1), some (.int a0)], [.ref 1, .int 1, .int a0], hX c T)) rfl ?_
  refine xe_gf (ci := 12) (k := 5) rfl rfl (ob_lit (i := 0) rfl (by decide) rfl) ⟨by decide, by decide⟩ (v := .ref 49) rfl ?_
  refine xe_gf (ci := 4) (k := 2) rfl rfl (ob_lit (i := 12) rfl (by decide) rfl) ⟨by decide, by decide⟩ (v := .int (xI T 49 2)) rfl ?_
  refine xt_V (idx := 113) rfl rfl rfl (Nat.le_of_ble_eq_true rfl) (Nat.le_of_ble_eq_true rfl) rfl rfl rfl rfl rfl (by decide) H (fun T1 H => ?_)
  refine ev_ex 1 (c' := (13, [some (.ref 1), some (.int a0)], [.ref 1], hX c T1)) rfl ?_
  refine xe_gf (ci := 12) (k := 5) rfl rfl (ob_lit (i := 0) rfl (by decide) rfl) ⟨by decide, by decide⟩ (v := .ref 49) rfl ?_
  refine ev_ex 1 (c' := (17, [some (.ref 1), some (.int a0)], [.int a0, .ref 49], hX c T1)) rfl ?_
  refine xc_V (idx := 201) rfl rfl rfl (Nat.le_of_ble_eq_true rfl) (Nat.le_of_ble_eq_true rfl) (x_rcv (T := T1) (ob_lit (i := 12) rfl (by decide) rfl) ⟨by decide, by decide⟩ _ _) H (fun T2 H => ?_)
  refine ev_ex 1 (c' := (21, [some (.ref 1), some (.int a0)], [.ref 1], hX c T2)) rfl ?_
  refine xe_gf (ci := 12) (k := 5) rfl rfl (ob_lit (i := 0) rfl (by decide) rfl) ⟨by decide, by decide⟩ (v := .ref 49) rfl ?_
  refine xe_gf (ci := 4) (k := 2) rfl rfl (ob_lit (i := 12) rfl (by decide) rfl) ⟨by decide, by decide⟩ (v := .int (xI T2 49 2)) rfl ?_
  exact ev_ret rfl rfl rfl (Or.inl ⟨_, _, rfl, rfl, H⟩)
set_option maxRecDepth 8000 in
theorem wx_X_judge {c : CX} {d : Nat} {T : XS} {Q : Int32 → XS → Prop} {E : Nat → XS → Prop} (a0 : Int32) (a1 : Int32) (H : XOt c d m_X_needTray [.ref 1, .int a0] T (fun v2 T1 => (∃ b3 : Nat, v2 = some b3 ∧ XVt c d m_X_needWithin [.int a1, .int 0, .int 3] T1 (fun T4 => XV c d m_Sd_copyFrom [.ref 173, .ref 93] T4 (fun T5 => eX c (d + 1) m_X_judge 32 [some (.ref 1), some (.int a0), some (.int a1), some (.ref b3), some (.int 0), some (.int 0), none, none] T5 (yt c E (yI c Q)))) E)) E) : XIt c (d + 1) m_X_judge [.ref 1, .int a0, .int a1] T Q E := by
  refine ⟨q_X_judge, rfl, Nat.le_of_ble_eq_true rfl, ?_⟩
  refine ev_ex 0 (c' := (0, [some (.ref 1), some (.int a0), some (.int a1), none, none, none, none, none], [], hX c T)) rfl ?_
  refine ev_ex 2 (c' := (2, [some (.ref 1), some (.int a0), some (.int a1), none, none, none, none, none], [.int a0, .ref 1], hX c T)) rfl ?_
  refine xt_O (idx := 204) rfl rfl rfl (Nat.le_of_ble_eq_true rfl) (Nat.le_of_ble_eq_true rfl) (x_rcv (T := T) (ob_lit (i := 0) rfl (by decide) rfl) ⟨by decide, by decide⟩ _ _) rfl rfl rfl rfl (by decide) H (fun v2 T1 H => ?_)
  obtain ⟨b3, rfl, H⟩ := H
  refine ev_ex 0 (c' := (5, [some (.ref 1), some (.int a0), some (.int a1), none, none, none, none, none], [.ref b3], hX c T1)) rfl ?_
  refine ev_ex 4 (c' := (9, [some (.ref 1), some (.int a0), some (.int a1), some (.ref b3), none, none, none, none], [.int 3, .int 0, .int a1], hX c T1)) rfl ?_
  refine xt_V (idx := 113) rfl rfl rfl (Nat.le_of_ble_eq_true rfl) (Nat.le_of_ble_eq_true rfl) rfl rfl rfl rfl rfl (by decide) H (fun T4 H => ?_)
  refine ev_ex 1 (c' := (13, [some (.ref 1), some (.int a0), some (.int a1), some (.ref b3), none, none, none, none], [.ref 1], hX c T4)) rfl ?_
  refine xe_gf (ci := 12) (k := 11) rfl rfl (ob_lit (i := 0) rfl (by decide) rfl) ⟨by decide, by decide⟩ (v := .ref 173) rfl ?_
  refine ev_ex 1 (c' := (17, [some (.ref 1), some (.int a0), some (.int a1), some (.ref b3), none, none, none, none], [.ref 1, .ref 173], hX c T4)) rfl ?_
  refine xe_gf (ci := 12) (k := 5) rfl rfl (ob_lit (i := 0) rfl (by decide) rfl) ⟨by decide, by decide⟩ (v := .ref 49) rfl ?_
  refine xe_gf (ci := 4) (k := 0) rfl rfl (ob_lit (i := 12) rfl (by decide) rfl) ⟨by decide, by decide⟩ (v := .ref 93) rfl ?_
  refine xc_V (idx := 190) rfl rfl rfl (Nat.le_of_ble_eq_true rfl) (Nat.le_of_ble_eq_true rfl) (x_rcv (T := T4) (ob_lit (i := 43) rfl (by decide) rfl) ⟨by decide, by decide⟩ _ _) H (fun T5 H => ?_)
  refine ev_ex 4 (c' := (32, [some (.ref 1), some (.int a0), some (.int a1), some (.ref b3), some (.int 0), some (.int 0), none, none], [], hX c T5)) rfl ?_
  exact H
set_option maxRecDepth 8000 in
theorem wx_X_judge_32 {c : CX} {d : Nat} {T : XS} {Q : Int32 → XS → Prop} {E : Nat → XS → Prop} (l1 : Int32) (l2 : Int32) (b3 : Nat) (l4 : Int32) (l5 : Int32) (H : (TyS T b3 ∧ (((xI T b3 2) ≤ l5 → ((¬ l2 = 0 → ((¬ l2 = 1 → ((¬ l2 = 2 → XO c d m_Rw_build [.ref 129, .ref 173] T (fun v53 T52 => (v53 = some 129 ∧ Q (xI T52 129 3) T52))) ∧ (l2 = 2 → XI c d m_Sd_mocking [.ref 173] T (fun v55 T54 => Q v55 T54)))) ∧ (l2 = 1 → Q l4 T))) ∧ (l2 = 0 → ((¬ l4 = 0 → Q l5 T) ∧ (l4 = 0 → Q ((-1)) T))))) ∧ (¬ (xI T b3 2) ≤ l5 → XJ c d m_Ty_numberAt [.ref b3, .int l5] T (fun v57 T56 => XI c d m_Ct_whyNotTold [.ref 117, .ref 173, .long v57] T56 (fun v59 T58 => ((v59 = 0 → XV c d m_Ct_enact [.ref 117, .ref 173, .long v57] T58 (fun T60 => eX c (d + 1) m_X_judge 32 [some (.ref 1), some (.int l1), some (.int l2), some (.ref b3), some (.int v59), some (.int (l5 + 1)), none, none] T60 (yt c E (yI c Q)))) ∧ (¬ v59 = 0 → ((¬ l2 = 0 → ((¬ l2 = 1 → ((¬ l2 = 2 → XO c d m_Rw_build [.ref 129, .ref 173] T58 (fun v62 T61 => (v62 = some 129 ∧ Q (xI T61 129 3) T61))) ∧ (l2 = 2 → XI c d m_Sd_mocking [.ref 173] T58 (fun v64 T63 => Q v64 T63)))) ∧ (l2 = 1 → Q v59 T58))) ∧ (l2 = 0 → ((¬ v59 = 0 → Q l5 T58) ∧ (v59 = 0 → Q ((-1)) T58)))))))))))) : eX c (d + 1) m_X_judge 32 [some (.ref 1), some (.int l1), some (.int l2), some (.ref b3), some (.int l4), some (.int l5), none, none] T (yt c E (yI c Q)) := by
  unfold eX
  refine ev_ex 0 (c' := (32, [some (.ref 1), some (.int l1), some (.int l2), some (.ref b3), some (.int l4), some (.int l5), none, none], [], hX c T)) rfl ?_
  refine ev_ex 2 (c' := (35, [some (.ref 1), some (.int l1), some (.int l2), some (.ref b3), some (.int l4), some (.int l5), none, none], [.ref b3, .int l5], hX c T)) rfl ?_
  obtain ⟨h51, H⟩ := H
  refine xe_gf (ci := 11) (k := 2) rfl rfl h51.1 ⟨by decide, by decide⟩ (v := .int (xI T b3 2)) rfl ?_
  refine ev_icmp_ge (tgt := 91) rfl rfl (fun h => ?_) (fun h => ?_)
  · replace H := H.1 (h)
    refine ev_ex 1 (c' := (92, [some (.ref 1), some (.int l1), some (.int l2), some (.ref b3), some (.int l4), some (.int l5), none, none], [.int l2], hX c T)) rfl ?_
    refine ev_if_ne (tgt := 107) rfl rfl (fun h => ?_) (fun h => ?_)
    · replace H := H.1 (h)
      refine ev_ex 2 (c' := (109, [some (.ref 1), some (.int l1), some (.int l2), some (.ref b3), some (.int l4), some (.int l5), none, none], [.int 1, .int l2], hX c T)) rfl ?_
      refine ev_icmp_ne (tgt := 115) rfl rfl (fun h => ?_) (fun h => ?_)
      · replace H := H.1 (h)
        refine ev_ex 2 (c' := (117, [some (.ref 1), some (.int l1), some (.int l2), some (.ref b3), some (.int l4), some (.int l5), none, none], [.int 2, .int l2], hX c T)) rfl ?_
        refine ev_icmp_ne (tgt := 130) rfl rfl (fun h => ?_) (fun h => ?_)
        · replace H := H.1 (h)
          refine ev_ex 1 (c' := (131, [some (.ref 1), some (.int l1), some (.int l2), some (.ref b3), some (.int l4), some (.int l5), none, none], [.ref 1], hX c T)) rfl ?_
          refine xe_gf (ci := 12) (k := 9) rfl rfl (ob_lit (i := 0) rfl (by decide) rfl) ⟨by decide, by decide⟩ (v := .ref 129) rfl ?_
          refine ev_ex 1 (c' := (135, [some (.ref 1), some (.int l1), some (.int l2), some (.ref b3), some (.int l4), some (.int l5), none, none], [.ref 1, .ref 129], hX c T)) rfl ?_
          refine xe_gf (ci := 12) (k := 11) rfl rfl (ob_lit (i := 0) rfl (by decide) rfl) ⟨by decide, by decide⟩ (v := .ref 173) rfl ?_
          refine xc_O (idx := 226) rfl rfl rfl (Nat.le_of_ble_eq_true rfl) (Nat.le_of_ble_eq_true rfl) (x_rcv (T := T) (ob_lit (i := 32) rfl (by decide) rfl) ⟨by decide, by decide⟩ _ _) H (fun v53 T52 H => ?_)
          obtain ⟨rfl, H⟩ := H
          refine ev_ex 0 (c' := (141, [some (.ref 1), some (.int l1), some (.int l2), some (.ref b3), some (.int l4), some (.int l5), none, none], [.ref 129], hX c T52)) rfl ?_
          refine xe_gf (ci := 8) (k := 3) rfl rfl (ob_lit (i := 32) rfl (by decide) rfl) ⟨by decide, by decide⟩ (v := .int (xI T52 129 3)) rfl ?_
          exact ev_ret rfl rfl rfl (Or.inl ⟨_, _, rfl, rfl, H⟩)
        · replace H := H.2 (h)
          refine ev_ex 1 (c' := (121, [some (.ref 1), some (.int l1), some (.int l2), some (.ref b3), some (.int l4), some (.int l5), none, none], [.ref 1], hX c T)) rfl ?_
          refine xe_gf (ci := 12) (k := 11) rfl rfl (ob_lit (i := 0) rfl (by decide) rfl) ⟨by decide, by decide⟩ (v := .ref 173) rfl ?_
          refine xc_I (idx := 223) rfl rfl rfl (Nat.le_of_ble_eq_true rfl) (Nat.le_of_ble_eq_true rfl) (x_rcv (T := T) (ob_lit (i := 43) rfl (by decide) rfl) ⟨by decide, by decide⟩ _ _) H (fun v55 T54 H => ?_)
          refine ev_ex 1 (c' := (144, [some (.ref 1), some (.int l1), some (.int l2), some (.ref b3), some (.int l4), some (.int l5), none, none], [.int v55], hX c T54)) rfl ?_
          exact ev_ret rfl rfl rfl (Or.inl ⟨_, _, rfl, rfl, H⟩)
      · replace H := H.2 (h)
        refine ev_ex 1 (c' := (114, [some (.ref 1), some (.int l1), some (.int l2), some (.ref b3), some (.int l4), some (.int l5), none, none], [.int l4], hX c T)) rfl ?_
        exact ev_ret rfl rfl rfl (Or.inl ⟨_, _, rfl, rfl, H⟩)
    · replace H := H.2 (h)
      refine ev_ex 1 (c' := (97, [some (.ref 1), some (.int l1), some (.int l2), some (.ref b3), some (.int l4), some (.int l5), none, none], [.int l4], hX c T)) rfl ?_
      refine ev_if_ne (tgt := 104) rfl rfl (fun h => ?_) (fun h => ?_)
      · replace H := H.1 (h)
        refine ev_ex 1 (c' := (106, [some (.ref 1), some (.int l1), some (.int l2), some (.ref b3), some (.int l4), some (.int l5), none, none], [.int l5], hX c T)) rfl ?_
        exact ev_ret rfl rfl rfl (Or.inl ⟨_, _, rfl, rfl, H⟩)
      · replace H := H.2 (h)
        refine ev_ex 2 (c' := (106, [some (.ref 1), some (.int l1), some (.int l2), some (.ref b3), some (.int l4), some (.int l5), none, none], [.int ((-1))], hX c T)) rfl ?_
        exact ev_ret rfl rfl rfl (Or.inl ⟨_, _, rfl, rfl, H⟩)
  · replace H := H.2 (h)
    refine ev_ex 2 (c' := (44, [some (.ref 1), some (.int l1), some (.int l2), some (.ref b3), some (.int l4), some (.int l5), none, none], [.int l5, .ref b3], hX c T)) rfl ?_
    refine xc_J (idx := 211) rfl rfl rfl (Nat.le_of_ble_eq_true rfl) (Nat.le_of_ble_eq_true rfl) (x_rcv (T := T) h51.1 ⟨by decide, by decide⟩ _ _) H (fun v57 T56 H => ?_)
    refine ev_ex 2 (c' := (50, [some (.ref 1), some (.int l1), some (.int l2), some (.ref b3), some (.int l4), some (.int l5), some (.long v57), none], [.ref 1], hX c T56)) rfl ?_
    refine xe_gf (ci := 12) (k := 8) rfl rfl (ob_lit (i := 0) rfl (by decide) rfl) ⟨by decide, by decide⟩ (v := .ref 117) rfl ?_
    refine ev_ex 1 (c' := (54, [some (.ref 1), some (.int l1), some (.int l2), some (.ref b3), some (.int l4), some (.int l5), some (.long v57), none], [.ref 1, .ref 117], hX c T56)) rfl ?_
    refine xe_gf (ci := 12) (k := 11) rfl rfl (ob_lit (i := 0) rfl (by decide) rfl) ⟨by decide, by decide⟩ (v := .ref 173) rfl ?_
    refine ev_ex 1 (c' := (59, [some (.ref 1), some (.int l1), some (.int l2), some (.ref b3), some (.int l4), some (.int l5), some (.long v57), none], [.long v57, .ref 173, .ref 117], hX c T56)) rfl ?_
    refine xc_I (idx := 215) rfl rfl rfl (Nat.le_of_ble_eq_true rfl) (Nat.le_of_ble_eq_true rfl) (x_rcv (T := T56) (ob_lit (i := 29) rfl (by decide) rfl) ⟨by decide, by decide⟩ _ _) H (fun v59 T58 H => ?_)
    refine ev_ex 2 (c' := (66, [some (.ref 1), some (.int l1), some (.int l2), some (.ref b3), some (.int v59), some (.int l5), some (.long v57), none], [.int v59], hX c T58)) rfl ?_
    refine ev_if_eq (tgt := 72) rfl rfl (fun h => ?_) (fun h => ?_)
    · replace H := H.1 (h)
      refine ev_ex 1 (c' := (73, [some (.ref 1), some (.int l1), some (.int l2), some (.ref b3), some (.int v59), some (.int l5), some (.long v57), none], [.ref 1], hX c T58)) rfl ?_
      refine xe_gf (ci := 12) (k := 8) rfl rfl (ob_lit (i := 0) rfl (by decide) rfl) ⟨by decide, by decide⟩ (v := .ref 117) rfl ?_
      refine ev_ex 1 (c' := (77, [some (.ref 1), some (.int l1), some (.int l2), some (.ref b3), some (.int v59), some (.int l5), some (.long v57), none], [.ref 1, .ref 117], hX c T58)) rfl ?_
      refine xe_gf (ci := 12) (k := 11) rfl rfl (ob_lit (i := 0) rfl (by decide) rfl) ⟨by decide, by decide⟩ (v := .ref 173) rfl ?_
      refine ev_ex 1 (c' := (82, [some (.ref 1), some (.int l1), some (.int l2), some (.ref b3), some (.int v59), some (.int l5), some (.long v57), none], [.long v57, .ref 173, .ref 117], hX c T58)) rfl ?_
      refine xc_V (idx := 219) rfl rfl rfl (Nat.le_of_ble_eq_true rfl) (Nat.le_of_ble_eq_true rfl) (x_rcv (T := T58) (ob_lit (i := 29) rfl (by decide) rfl) ⟨by decide, by decide⟩ _ _) H (fun T60 H => ?_)
      refine ev_ex 2 (c' := (32, [some (.ref 1), some (.int l1), some (.int l2), some (.ref b3), some (.int v59), some (.int (l5 + 1)), some (.long v57), none], [], hX c T60)) rfl ?_
      exact ev_less (lle_of (L := [some (.ref 1), some (.int l1), some (.int l2), some (.ref b3), some (.int v59), some (.int (l5 + 1)), none, none]) ⟨rfl, ⟨rfl, ⟨rfl, ⟨rfl, ⟨rfl, ⟨rfl, trivial⟩⟩⟩⟩⟩⟩) H
    · replace H := H.2 (h)
      refine ev_ex 2 (c' := (92, [some (.ref 1), some (.int l1), some (.int l2), some (.ref b3), some (.int v59), some (.int l5), some (.long v57), none], [.int l2], hX c T58)) rfl ?_
      refine ev_if_ne (tgt := 107) rfl rfl (fun h => ?_) (fun h => ?_)
      · replace H := H.1 (h)
        refine ev_ex 2 (c' := (109, [some (.ref 1), some (.int l1), some (.int l2), some (.ref b3), some (.int v59), some (.int l5), some (.long v57), none], [.int 1, .int l2], hX c T58)) rfl ?_
        refine ev_icmp_ne (tgt := 115) rfl rfl (fun h => ?_) (fun h => ?_)
        · replace H := H.1 (h)
          refine ev_ex 2 (c' := (117, [some (.ref 1), some (.int l1), some (.int l2), some (.ref b3), some (.int v59), some (.int l5), some (.long v57), none], [.int 2, .int l2], hX c T58)) rfl ?_
          refine ev_icmp_ne (tgt := 130) rfl rfl (fun h => ?_) (fun h => ?_)
          · replace H := H.1 (h)
            refine ev_ex 1 (c' := (131, [some (.ref 1), some (.int l1), some (.int l2), some (.ref b3), some (.int v59), some (.int l5), some (.long v57), none], [.ref 1], hX c T58)) rfl ?_
            refine xe_gf (ci := 12) (k := 9) rfl rfl (ob_lit (i := 0) rfl (by decide) rfl) ⟨by decide, by decide⟩ (v := .ref 129) rfl ?_
            refine ev_ex 1 (c' := (135, [some (.ref 1), some (.int l1), some (.int l2), some (.ref b3), some (.int v59), some (.int l5), some (.long v57), none], [.ref 1, .ref 129], hX c T58)) rfl ?_
            refine xe_gf (ci := 12) (k := 11) rfl rfl (ob_lit (i := 0) rfl (by decide) rfl) ⟨by decide, by decide⟩ (v := .ref 173) rfl ?_
            refine xc_O (idx := 226) rfl rfl rfl (Nat.le_of_ble_eq_true rfl) (Nat.le_of_ble_eq_true rfl) (x_rcv (T := T58) (ob_lit (i := 32) rfl (by decide) rfl) ⟨by decide, by decide⟩ _ _) H (fun v62 T61 H => ?_)
            obtain ⟨rfl, H⟩ := H
            refine ev_ex 0 (c' := (141, [some (.ref 1), some (.int l1), some (.int l2), some (.ref b3), some (.int v59), some (.int l5), some (.long v57), none], [.ref 129], hX c T61)) rfl ?_
            refine xe_gf (ci := 8) (k := 3) rfl rfl (ob_lit (i := 32) rfl (by decide) rfl) ⟨by decide, by decide⟩ (v := .int (xI T61 129 3)) rfl ?_
            exact ev_ret rfl rfl rfl (Or.inl ⟨_, _, rfl, rfl, H⟩)
          · replace H := H.2 (h)
            refine ev_ex 1 (c' := (121, [some (.ref 1), some (.int l1), some (.int l2), some (.ref b3), some (.int v59), some (.int l5), some (.long v57), none], [.ref 1], hX c T58)) rfl ?_
            refine xe_gf (ci := 12) (k := 11) rfl rfl (ob_lit (i := 0) rfl (by decide) rfl) ⟨by decide, by decide⟩ (v := .ref 173) rfl ?_
            refine xc_I (idx := 223) rfl rfl rfl (Nat.le_of_ble_eq_true rfl) (Nat.le_of_ble_eq_true rfl) (x_rcv (T := T58) (ob_lit (i := 43) rfl (by decide) rfl) ⟨by decide, by decide⟩ _ _) H (fun v64 T63 H => ?_)
            refine ev_ex 1 (c' := (144, [some (.ref 1), some (.int l1), some (.int l2), some (.ref b3), some (.int v59), some (.int l5), some (.long v57), none], [.int v64], hX c T63)) rfl ?_
            exact ev_ret rfl rfl rfl (Or.inl ⟨_, _, rfl, rfl, H⟩)
        · replace H := H.2 (h)
          refine ev_ex 1 (c' := (114, [some (.ref 1), some (.int l1), some (.int l2), some (.ref b3), some (.int v59), some (.int l5), some (.long v57), none], [.int v59], hX c T58)) rfl ?_
          exact ev_ret rfl rfl rfl (Or.inl ⟨_, _, rfl, rfl, H⟩)
      · replace H := H.2 (h)
        refine ev_ex 1 (c' := (97, [some (.ref 1), some (.int l1), some (.int l2), some (.ref b3), some (.int v59), some (.int l5), some (.long v57), none], [.int v59], hX c T58)) rfl ?_
        refine ev_if_ne (tgt := 104) rfl rfl (fun h => ?_) (fun h => ?_)
        · replace H := H.1 (h)
          refine ev_ex 1 (c' := (106, [some (.ref 1), some (.int l1), some (.int l2), some (.ref b3), some (.int v59), some (.int l5), some (.long v57), none], [.int l5], hX c T58)) rfl ?_
          exact ev_ret rfl rfl rfl (Or.inl ⟨_, _, rfl, rfl, H⟩)
        · replace H := H.2 (h)
          refine ev_ex 2 (c' := (106, [some (.ref 1), some (.int l1), some (.int l2), some (.ref b3), some (.int v59), some (.int l5), some (.long v57), none], [.int ((-1))], hX c T58)) rfl ?_
          exact ev_ret rfl rfl rfl (Or.inl ⟨_, _, rfl, rfl, H⟩)
set_option maxRecDepth 8000 in
theorem wx_X_perform {c : CX} {d : Nat} {T : XS} {Q : Int32 → XS → Prop} {E : Nat → XS → Prop} (a0 : Int32) (H : XOt c d m_X_needTray [.ref 1, .int a0] T (fun v2 T1 => (∃ b3 : Nat, v2 = some b3 ∧ eX c (d + 1) m_X_perform 8 [some (.ref 1), some (.int a0), some (.ref b3), some (.int 0)] T1 (yt c E (yI c Q)))) E) : XIt c (d + 1) m_X_perform [.ref 1, .int a0] T Q E := by
  refine ⟨q_X_perform, rfl, Nat.le_of_ble_eq_true rfl, ?_⟩
  refine ev_ex 0 (c' := (0, [some (.ref 1), some (.int a0), none, none], [], hX c T)) rfl ?_
  refine ev_ex 2 (c' := (2, [some (.ref 1), some (.int a0), none, none], [.int a0, .ref 1], hX c T)) rfl ?_
  refine xt_O (idx := 204) rfl rfl rfl (Nat.le_of_ble_eq_true rfl) (Nat.le_of_ble_eq_true rfl) (x_rcv (T := T) (ob_lit (i := 0) rfl (by decide) rfl) ⟨by decide, by decide⟩ _ _) rfl rfl rfl rfl (by decide) H (fun v2 T1 H => ?_)
  obtain ⟨b3, rfl, H⟩ := H
  refine ev_ex 0 (c' := (5, [some (.ref 1), some (.int a0), none, none], [.ref b3], hX c T1)) rfl ?_
  refine ev_ex 3 (c' := (8, [some (.ref 1), some (.int a0), some (.ref b3), some (.int 0)], [], hX c T1)) rfl ?_
  exact H
set_option maxRecDepth 8000 in
theorem wx_X_perform_8 {c : CX} {d : Nat} {T : XS} {Q : Int32 → XS → Prop} {E : Nat → XS → Prop} (l1 : Int32) (b3 : Nat) (l3 : Int32) (H : (TyS T b3 ∧ (((xI T b3 2) ≤ l3 → Q l3 T) ∧ (¬ (xI T b3 2) ≤ l3 → XJ c d m_Ty_numberAt [.ref b3, .int l3] T (fun v53 T52 => XB c d m_X_tryDeed [.ref 1, .long v53] T52 (fun v55 T54 => ((v55 = false → Q l3 T54) ∧ (v55 = true → eX c (d + 1) m_X_perform 8 [some (.ref 1), some (.int l1), some (.ref b3), some (.int (l3 + 1))] T54 (yt c E (yI c Q)))))))))) : eX c (d + 1) m_X_perform 8 [some (.ref 1), some (.int l1), some (.ref b3), some (.int l3)] T (yt c E (yI c Q)) := by
  unfold eX
  refine ev_ex 0 (c' := (8, [some (.ref 1), some (.int l1), some (.ref b3), some (.int l3)], [], hX c T)) rfl ?_
  refine ev_ex 2 (c' := (10, [some (.ref 1), some (.int l1), some (.ref b3), some (.int l3)], [.ref b3, .int l3], hX c T)) rfl ?_
  obtain ⟨h51, H⟩ := H
  refine xe_gf (ci := 11) (k := 2) rfl rfl h51.1 ⟨by decide, by decide⟩ (v := .int (xI T b3 2)) rfl ?_
  refine ev_icmp_ge (tgt := 34) rfl rfl (fun h => ?_) (fun h => ?_)
  · replace H := H.1 (h)
    refine ev_ex 1 (c' := (35, [some (.ref 1), some (.int l1), some (.ref b3), some (.int l3)], [.int l3], hX c T)) rfl ?_
    exact ev_ret rfl rfl rfl (Or.inl ⟨_, _, rfl, rfl, H⟩)
  · replace H := H.2 (h)
    refine ev_ex 3 (c' := (19, [some (.ref 1), some (.int l1), some (.ref b3), some (.int l3)], [.int l3, .ref b3, .ref 1], hX c T)) rfl ?_
    refine xc_J (idx := 211) rfl rfl rfl (Nat.le_of_ble_eq_true rfl) (Nat.le_of_ble_eq_true rfl) (x_rcv (T := T) h51.1 ⟨by decide, by decide⟩ _ _) H (fun v53 T52 H => ?_)
    refine xc_B (idx := 233) rfl rfl rfl (Nat.le_of_ble_eq_true rfl) (Nat.le_of_ble_eq_true rfl) (x_rcv (T := T52) (ob_lit (i := 0) rfl (by decide) rfl) ⟨by decide, by decide⟩ _ _) H (fun v55 T54 H => ?_)
    refine ev_if_eqB (x := v55) (tgt := 34) rfl rfl (fun h => ?_) (fun h => ?_)
    · replace H := H.1 (h)
      refine ev_ex 1 (c' := (35, [some (.ref 1), some (.int l1), some (.ref b3), some (.int l3)], [.int l3], hX c T54)) rfl ?_
      exact ev_ret rfl rfl rfl (Or.inl ⟨_, _, rfl, rfl, H⟩)
    · replace H := H.2 (h)
      refine ev_ex 2 (c' := (8, [some (.ref 1), some (.int l1), some (.ref b3), some (.int (l3 + 1))], [], hX c T54)) rfl ?_
      exact H
set_option maxRecDepth 8000 in
theorem wx_X_week {c : CX} {d : Nat} {T : XS} {Q : Int32 → XS → Prop} {E : Nat → XS → Prop} (hR : c.2.2.2.1.length = 18) (a0 : Int32) (a1 : Int32) (H : XVt c d m_X_needWithin [.int a1, .int 1, .int 30] T (fun T1 => (∃ b2 : Nat, frx T1 93 0 = some b2 ∧ (CvS T1 b2 ∧ ((0 < (xI T1 b2 1) → eX c (d + 1) m_X_week 44 [some (.ref 1), some (.int a0), some (.int a1), some (.int (xI T1 b2 1)), some (.int a0), some (.int 0), some (.int 0), none, none, none] T1 (yt c E (yI c Q))) ∧ (¬ 0 < (xI T1 b2 1) → E 3 (tN T1 0 0 6)))))) E) : XIt c (d + 1) m_X_week [.ref 1, .int a0, .int a1] T Q E := by
  refine ⟨q_X_week, rfl, Nat.le_of_ble_eq_true rfl, ?_⟩
  refine ev_ex 0 (c' := (0, [some (.ref 1), some (.int a0), some (.int a1), none, none, none, none, none, none, none], [], hX c T)) rfl ?_
  refine ev_ex 3 (c' := (4, [some (.ref 1), some (.int a0), some (.int a1), none, none, none, none, none, none, none], [.int 30, .int 1, .int a1], hX c T)) rfl ?_
  refine xt_V (idx := 113) rfl rfl rfl (Nat.le_of_ble_eq_true rfl) (Nat.le_of_ble_eq_true rfl) rfl rfl rfl rfl rfl (by decide) H (fun T1 H => ?_)
  refine ev_ex 1 (c' := (8, [some (.ref 1), some (.int a0), some (.int a1), none, none, none, none, none, none, none], [.ref 1], hX c T1)) rfl ?_
  refine xe_gf (ci := 12) (k := 5) rfl rfl (ob_lit (i := 0) rfl (by decide) rfl) ⟨by decide, by decide⟩ (v := .ref 49) rfl ?_
  refine xe_gf (ci := 4) (k := 0) rfl rfl (ob_lit (i := 12) rfl (by decide) rfl) ⟨by decide, by decide⟩ (v := .ref 93) rfl ?_
  obtain ⟨b2, h3, H⟩ := H
  refine xe_gfr (ci := 9) (k := 0) rfl rfl (ob_lit (i := 23) rfl (by decide) rfl) ⟨by decide, by decide⟩ rfl h3 ?_
  obtain ⟨h4, H⟩ := H
  refine xe_gf (ci := 2) (k := 1) rfl rfl h4.1 ⟨by decide, by decide⟩ (v := .int (xI T1 b2 1)) rfl ?_
  refine ev_ex 2 (c' := (22, [some (.ref 1), some (.int a0), some (.int a1), some (.int (xI T1 b2 1)), none, none, none, none, none, none], [.int (xI T1 b2 1)], hX c T1)) rfl ?_
  refine ev_if_gt (tgt := 35) rfl rfl (fun h => ?_) (fun h => ?_)
  · replace H := H.1 (h)
    refine ev_ex 6 (c' := (44, [some (.ref 1), some (.int a0), some (.int a1), some (.int (xI T1 b2 1)), some (.int a0), some (.int 0), some (.int 0), none, none, none], [], hX c T1)) rfl ?_
    exact H
  · replace H := H.2 (h)
    exact xe_thr hR rfl rfl (Nat.le_of_ble_eq_true rfl) (Or.inr ⟨_, _, rfl, rfl, H⟩)
set_option maxRecDepth 8000 in
theorem wx_X_week_44 {c : CX} {d : Nat} {T : XS} {Q : Int32 → XS → Prop} {E : Nat → XS → Prop} (l1 : Int32) (l2 : Int32) (l3 : Int32) (l4 : Int32) (l5 : Int32) (l6 : Int32) (H : ((l2 ≤ l6 → Q l5 T) ∧ (¬ l2 ≤ l6 → ((((((drw l4).toUInt32 >>> ((16 : Int32).toUInt32 &&& Int32.toUInt32 31)).toInt32) - (((drw l4).toUInt32 >>> ((16 : Int32).toUInt32 &&& Int32.toUInt32 31)).toInt32) / 3 * 3) = 0 → eX c (d + 1) m_X_week 101 [some (.ref 1), some (.int l1), some (.int l2), some (.int l3), some (.int (drw l4)), some (.int l5), some (.int l6), some (.int ((((drw l4).toUInt32 >>> ((16 : Int32).toUInt32 &&& Int32.toUInt32 31)).toInt32) - (((drw l4).toUInt32 >>> ((16 : Int32).toUInt32 &&& Int32.toUInt32 31)).toInt32) / 3 * 3)), some (.long ((-1))), none] T (yt c E (yI c Q))) ∧ (¬ ((((drw l4).toUInt32 >>> ((16 : Int32).toUInt32 &&& Int32.toUInt32 31)).toInt32) - (((drw l4).toUInt32 >>> ((16 : Int32).toUInt32 &&& Int32.toUInt32 31)).toInt32) / 3 * 3) = 0 → (¬ l3 = 0 ∧ eX c (d + 1) m_X_week 101 [some (.ref 1), some (.int l1), some (.int l2), some (.int l3), some (.int (drw (drw l4))), some (.int l5), some (.int l6), some (.int ((((drw l4).toUInt32 >>> ((16 : Int32).toUInt32 &&& Int32.toUInt32 31)).toInt32) - (((drw l4).toUInt32 >>> ((16 : Int32).toUInt32 &&& Int32.toUInt32 31)).toInt32) / 3 * 3)), some (.long ((100 * (((((drw (drw l4)).toUInt32 >>> ((16 : Int32).toUInt32 &&& Int32.toUInt32 31)).toInt32) - (((drw (drw l4)).toUInt32 >>> ((16 : Int32).toUInt32 &&& Int32.toUInt32 31)).toInt32) / l3 * l3).toInt64)) + 99)), none] T (yt c E (yI c Q)))))))) : eX c (d + 1) m_X_week 44 [some (.ref 1), some (.int l1), some (.int l2), some (.int l3), some (.int l4), some (.int l5), some (.int l6), none, none, none] T (yt c E (yI c Q)) := by
  unfold eX
  refine ev_ex 0 (c' := (44, [some (.ref 1), some (.int l1), some (.int l2), some (.int l3), some (.int l4), some (.int l5), some (.int l6), none, none, none], [], hX c T)) rfl ?_
  refine ev_ex 2 (c' := (47, [some (.ref 1), some (.int l1), some (.int l2), some (.int l3), some (.int l4), some (.int l5), some (.int l6), none, none, none], [.int l2, .int l6], hX c T)) rfl ?_
  refine ev_icmp_ge (tgt := 149) rfl rfl (fun h => ?_) (fun h => ?_)
  · replace H := H.1 (h)
    refine ev_ex 1 (c' := (151, [some (.ref 1), some (.int l1), some (.int l2), some (.int l3), some (.int l4), some (.int l5), some (.int l6), none, none, none], [.int l5], hX c T)) rfl ?_
    exact ev_ret rfl rfl rfl (Or.inl ⟨_, _, rfl, rfl, H⟩)
  · replace H := H.2 (h)
    refine ev_ex 1 (c' := (52, [some (.ref 1), some (.int l1), some (.int l2), some (.int l3), some (.int l4), some (.int l5), some (.int l6), none, none, none], [.int l4], hX c T)) rfl ?_
    refine xq_I (idx := 245) (V := drw l4) (S := T) rfl rfl rfl (Nat.le_of_ble_eq_true rfl) (Nat.le_of_ble_eq_true rfl) rfl (zx_X_drawn ⟨rfl, rfl⟩) ?_
    refine ev_ex 5 (c' := (63, [some (.ref 1), some (.int l1), some (.int l2), some (.int l3), some (.int (drw l4)), some (.int l5), some (.int l6), none, none, none], [.int 3, .int (((drw l4).toUInt32 >>> ((16 : Int32).toUInt32 &&& Int32.toUInt32 31)).toInt32)], hX c T)) rfl ?_
    refine ev_ex 5 (c' := (73, [some (.ref 1), some (.int l1), some (.int l2), some (.int l3), some (.int (drw l4)), some (.int l5), some (.int l6), some (.int ((((drw l4).toUInt32 >>> ((16 : Int32).toUInt32 &&& Int32.toUInt32 31)).toInt32) - (((drw l4).toUInt32 >>> ((16 : Int32).toUInt32 &&& Int32.toUInt32 31)).toInt32) / 3 * 3)), some (.long ((-1))), none], [.int ((((drw l4).toUInt32 >>> ((16 : Int32).toUInt32 &&& Int32.toUInt32 31)).toInt32) - (((drw l4).toUInt32 >>> ((16 : Int32).toUInt32 &&& Int32.toUInt32 31)).toInt32) / 3 * 3)], hX c T)) rfl ?_
    refine ev_if_eq (tgt := 101) rfl rfl (fun h => ?_) (fun h => ?_)
    · replace H := H.1 (h)
      exact H
    · replace H := H.2 (h)
      refine ev_ex 1 (c' := (78, [some (.ref 1), some (.int l1), some (.int l2), some (.int l3), some (.int (drw l4)), some (.int l5), some (.int l6), some (.int ((((drw l4).toUInt32 >>> ((16 : Int32).toUInt32 &&& Int32.toUInt32 31)).toInt32) - (((drw l4).toUInt32 >>> ((16 : Int32).toUInt32 &&& Int32.toUInt32 31)).toInt32) / 3 * 3)), some (.long ((-1))), none], [.int (drw l4)], hX c T)) rfl ?_
      refine xq_I (idx := 245) (V := drw (drw l4)) (S := T) rfl rfl rfl (Nat.le_of_ble_eq_true rfl) (Nat.le_of_ble_eq_true rfl) rfl (zx_X_drawn ⟨rfl, rfl⟩) ?_
      refine ev_ex 6 (c' := (92, [some (.ref 1), some (.int l1), some (.int l2), some (.int l3), some (.int (drw (drw l4))), some (.int l5), some (.int l6), some (.int ((((drw l4).toUInt32 >>> ((16 : Int32).toUInt32 &&& Int32.toUInt32 31)).toInt32) - (((drw l4).toUInt32 >>> ((16 : Int32).toUInt32 &&& Int32.toUInt32 31)).toInt32) / 3 * 3)), some (.long ((-1))), none], [.int l3, .int (((drw (drw l4)).toUInt32 >>> ((16 : Int32).toUInt32 &&& Int32.toUInt32 31)).toInt32), .long 100], hX c T)) rfl ?_
      obtain ⟨H0, H⟩ := H
      refine ev_irem rfl H0 ?_
      refine ev_ex 5 (c' := (101, [some (.ref 1), some (.int l1), some (.int l2), some (.int l3), some (.int (drw (drw l4))), some (.int l5), some (.int l6), some (.int ((((drw l4).toUInt32 >>> ((16 : Int32).toUInt32 &&& Int32.toUInt32 31)).toInt32) - (((drw l4).toUInt32 >>> ((16 : Int32).toUInt32 &&& Int32.toUInt32 31)).toInt32) / 3 * 3)), some (.long ((100 * (((((drw (drw l4)).toUInt32 >>> ((16 : Int32).toUInt32 &&& Int32.toUInt32 31)).toInt32) - (((drw (drw l4)).toUInt32 >>> ((16 : Int32).toUInt32 &&& Int32.toUInt32 31)).toInt32) / l3 * l3).toInt64)) + 99)), none], [], hX c T)) rfl ?_
      exact H
set_option maxRecDepth 8000 in
theorem wx_X_week_101 {c : CX} {d : Nat} {T : XS} {Q : Int32 → XS → Prop} {E : Nat → XS → Prop} (l1 : Int32) (l2 : Int32) (l3 : Int32) (l4 : Int32) (l5 : Int32) (l6 : Int32) (l7 : Int32) (l8 : Int64) (H : ((¬ l7 = 1 → eX c (d + 1) m_X_week 131 [some (.ref 1), some (.int l1), some (.int l2), some (.int l3), some (.int l4), some (.int l5), some (.int l6), some (.int l7), some (.long l8), none] T (yt c E (yI c Q))) ∧ (l7 = 1 → (¬ l3 = 0 ∧ eX c (d + 1) m_X_week 131 [some (.ref 1), some (.int l1), some (.int l2), some (.int l3), some (.int (drw l4)), some (.int l5), some (.int l6), some (.int l7), some (.long ((l8 - 99) + (((((drw l4).toUInt32 >>> ((16 : Int32).toUInt32 &&& Int32.toUInt32 31)).toInt32) - (((drw l4).toUInt32 >>> ((16 : Int32).toUInt32 &&& Int32.toUInt32 31)).toInt32) / l3 * l3).toInt64))), none] T (yt c E (yI c Q)))))) : eX c (d + 1) m_X_week 101 [some (.ref 1), some (.int l1), some (.int l2), some (.int l3), some (.int l4), some (.int l5), some (.int l6), some (.int l7), some (.long l8), none] T (yt c E (yI c Q)) := by
  unfold eX
  refine ev_ex 0 (c' := (101, [some (.ref 1), some (.int l1), some (.int l2), some (.int l3), some (.int l4), some (.int l5), some (.int l6), some (.int l7), some (.long l8), none], [], hX c T)) rfl ?_
  refine ev_ex 2 (c' := (104, [some (.ref 1), some (.int l1), some (.int l2), some (.int l3), some (.int l4), some (.int l5), some (.int l6), some (.int l7), some (.long l8), none], [.int 1, .int l7], hX c T)) rfl ?_
  refine ev_icmp_ne (tgt := 131) rfl rfl (fun h => ?_) (fun h => ?_)
  · replace H := H.1 (h)
    exact H
  · replace H := H.2 (h)
    refine ev_ex 1 (c' := (109, [some (.ref 1), some (.int l1), some (.int l2), some (.int l3), some (.int l4), some (.int l5), some (.int l6), some (.int l7), some (.long l8), none], [.int l4], hX c T)) rfl ?_
    refine xq_I (idx := 245) (V := drw l4) (S := T) rfl rfl rfl (Nat.le_of_ble_eq_true rfl) (Nat.le_of_ble_eq_true rfl) rfl (zx_X_drawn ⟨rfl, rfl⟩) ?_
    refine ev_ex 8 (c' := (126, [some (.ref 1), some (.int l1), some (.int l2), some (.int l3), some (.int (drw l4)), some (.int l5), some (.int l6), some (.int l7), some (.long l8), none], [.int l3, .int (((drw l4).toUInt32 >>> ((16 : Int32).toUInt32 &&& Int32.toUInt32 31)).toInt32), .long (l8 - 99)], hX c T)) rfl ?_
    obtain ⟨H0, H⟩ := H
    refine ev_irem rfl H0 ?_
    refine ev_ex 3 (c' := (131, [some (.ref 1), some (.int l1), some (.int l2), some (.int l3), some (.int (drw l4)), some (.int l5), some (.int l6), some (.int l7), some (.long ((l8 - 99) + (((((drw l4).toUInt32 >>> ((16 : Int32).toUInt32 &&& Int32.toUInt32 31)).toInt32) - (((drw l4).toUInt32 >>> ((16 : Int32).toUInt32 &&& Int32.toUInt32 31)).toInt32) / l3 * l3).toInt64))), none], [], hX c T)) rfl ?_
    exact H
set_option maxRecDepth 8000 in
theorem wx_X_week_131 {c : CX} {d : Nat} {T : XS} {Q : Int32 → XS → Prop} {E : Nat → XS → Prop} (l1 : Int32) (l2 : Int32) (l3 : Int32) (l4 : Int32) (l5 : Int32) (l6 : Int32) (l7 : Int32) (l8 : Int64) (H : XB c d m_X_tryDeed [.ref 1, .long l8] T (fun v52 T51 => ((v52 = false → eX c (d + 1) m_X_week 44 [some (.ref 1), some (.int l1), some (.int l2), some (.int l3), some (.int l4), some (.int l5), some (.int (l6 + 1)), none, none, none] T51 (yt c E (yI c Q))) ∧ (v52 = true → eX c (d + 1) m_X_week 44 [some (.ref 1), some (.int l1), some (.int l2), some (.int l3), some (.int l4), some (.int (l5 + 1)), some (.int (l6 + 1)), none, none, none] T51 (yt c E (yI c Q)))))) : eX c (d + 1) m_X_week 131 [some (.ref 1), some (.int l1), some (.int l2), some (.int l3), some (.int l4), some (.int l5), some (.int l6), some (.int l7), some (.long l8), none] T (yt c E (yI c Q)) := by
  unfold eX
  refine ev_ex 0 (c' := (131, [some (.ref 1), some (.int l1), some (.int l2), some (.int l3), some (.int l4), some (.int l5), some (.int l6), some (.int l7), some (.long l8), none], [], hX c T)) rfl ?_
  refine ev_ex 2 (c' := (134, [some (.ref 1), some (.int l1), some (.int l2), some (.int l3), some (.int l4), some (.int l5), some (.int l6), some (.int l7), some (.long l8), none], [.long l8, .ref 1], hX c T)) rfl ?_
  refine xc_B (idx := 233) rfl rfl rfl (Nat.le_of_ble_eq_true rfl) (Nat.le_of_ble_eq_true rfl) (x_rcv (T := T) (ob_lit (i := 0) rfl (by decide) rfl) ⟨by decide, by decide⟩ _ _) H (fun v52 T51 H => ?_)
  refine ev_if_eqB (x := v52) (tgt := 143) rfl rfl (fun h => ?_) (fun h => ?_)
  · replace H := H.1 (h)
    refine ev_ex 2 (c' := (44, [some (.ref 1), some (.int l1), some (.int l2), some (.int l3), some (.int l4), some (.int l5), some (.int (l6 + 1)), some (.int l7), some (.long l8), none], [], hX c T51)) rfl ?_
    exact ev_less (lle_of (L := [some (.ref 1), some (.int l1), some (.int l2), some (.int l3), some (.int l4), some (.int l5), some (.int (l6 + 1)), none, none, none]) ⟨rfl, ⟨rfl, ⟨rfl, ⟨rfl, ⟨rfl, ⟨rfl, ⟨rfl, trivial⟩⟩⟩⟩⟩⟩⟩) H
  · replace H := H.2 (h)
    refine ev_ex 3 (c' := (44, [some (.ref 1), some (.int l1), some (.int l2), some (.int l3), some (.int l4), some (.int (l5 + 1)), some (.int (l6 + 1)), some (.int l7), some (.long l8), none], [], hX c T51)) rfl ?_
    exact ev_less (lle_of (L := [some (.ref 1), some (.int l1), some (.int l2), some (.int l3), some (.int l4), some (.int (l5 + 1)), some (.int (l6 + 1)), none, none, none]) ⟨rfl, ⟨rfl, ⟨rfl, ⟨rfl, ⟨rfl, ⟨rfl, ⟨rfl, trivial⟩⟩⟩⟩⟩⟩⟩) H
set_option maxRecDepth 8000 in
theorem wx_X_rowNow {c : CX} {d : Nat} {T : XS} {Q : Option Nat → XS → Prop}  (H : XO c d m_Rw_build [.ref 129, .ref 93] T (fun v2 T1 => (v2 = some 129 ∧ Q (some 129) T1))) : XO c (d + 1) m_X_rowNow [.ref 1] T Q := by
  refine ⟨q_X_rowNow, rfl, Nat.le_of_ble_eq_true rfl, ?_⟩
  refine ev_ex 0 (c' := (0, [some (.ref 1)], [], hX c T)) rfl ?_
  refine ev_ex 1 (c' := (1, [some (.ref 1)], [.ref 1], hX c T)) rfl ?_
  refine xe_gf (ci := 12) (k := 9) rfl rfl (ob_lit (i := 0) rfl (by decide) rfl) ⟨by decide, by decide⟩ (v := .ref 129) rfl ?_
  refine ev_ex 1 (c' := (5, [some (.ref 1)], [.ref 1, .ref 129], hX c T)) rfl ?_
  refine xe_gf (ci := 12) (k := 5) rfl rfl (ob_lit (i := 0) rfl (by decide) rfl) ⟨by decide, by decide⟩ (v := .ref 49) rfl ?_
  refine xe_gf (ci := 4) (k := 0) rfl rfl (ob_lit (i := 12) rfl (by decide) rfl) ⟨by decide, by decide⟩ (v := .ref 93) rfl ?_
  refine xc_O (idx := 226) rfl rfl rfl (Nat.le_of_ble_eq_true rfl) (Nat.le_of_ble_eq_true rfl) (x_rcv (T := T) (ob_lit (i := 32) rfl (by decide) rfl) ⟨by decide, by decide⟩ _ _) H (fun v2 T1 H => ?_)
  obtain ⟨rfl, H⟩ := H
  refine ev_ex 0 (c' := (14, [some (.ref 1)], [.ref 129], hX c T1)) rfl ?_
  exact ev_retO (e := (some 129)) rfl rfl (Or.inl ⟨_, rfl⟩) ⟨_, _, rfl, rfl, H⟩
set_option maxRecDepth 8000 in
theorem wx_X_leastOf {c : CX} {d : Nat} {T : XS} {Q : Int32 → XS → Prop} (a0 : Int32) (H : eX c (d) m_X_leastOf 2 [some (.int a0), some (.int 0)] T (yI c Q)) : XI c (d) m_X_leastOf [.int a0] T Q := by
  refine ⟨q_X_leastOf, rfl, Nat.le_of_ble_eq_true rfl, ?_⟩
  refine ev_ex 0 (c' := (0, [some (.int a0), none], [], hX c T)) rfl ?_
  refine ev_ex 2 (c' := (2, [some (.int a0), some (.int 0)], [], hX c T)) rfl ?_
  exact H
set_option maxRecDepth 8000 in
theorem wx_X_leastOf_2 {c : CX} {d : Nat} {T : XS} {Q : Int32 → XS → Prop} (l0 : Int32) (l1 : Int32) (H : ((10 ≤ l1 → Q ((-1)) T) ∧ (¬ 10 ≤ l1 → (((l0 &&& ((1 : Int32) <<< (l1 &&& 31))) = 0 → eX c (d) m_X_leastOf 2 [some (.int l0), some (.int (l1 + 1))] T (yI c Q)) ∧ (¬ (l0 &&& ((1 : Int32) <<< (l1 &&& 31))) = 0 → Q l1 T))))) : eX c (d) m_X_leastOf 2 [some (.int l0), some (.int l1)] T (yI c Q) := by
  unfold eX
  refine ev_ex 0 (c' := (2, [some (.int l0), some (.int l1)], [], hX c T)) rfl ?_
  refine ev_ex 2 (c' := (5, [some (.int l0), some (.int l1)], [.int 10, .int l1], hX c T)) rfl ?_
  refine ev_icmp_ge (tgt := 24) rfl rfl (fun h => ?_) (fun h => ?_)
  · replace H := H.1 (h)
    refine ev_ex 1 (c' := (25, [some (.int l0), some (.int l1)], [.int ((-1))], hX c T)) rfl ?_
    exact ev_ret rfl rfl rfl ⟨_, _, rfl, rfl, H⟩
  · replace H := H.2 (h)
    refine ev_ex 5 (c' := (13, [some (.int l0), some (.int l1)], [.int (l0 &&& ((1 : Int32) <<< (l1 &&& 31)))], hX c T)) rfl ?_
    refine ev_if_eq (tgt := 18) rfl rfl (fun h => ?_) (fun h => ?_)
    · replace H := H.1 (h)
      refine ev_ex 2 (c' := (2, [some (.int l0), some (.int (l1 + 1))], [], hX c T)) rfl ?_
      exact H
    · replace H := H.2 (h)
      refine ev_ex 1 (c' := (17, [some (.int l0), some (.int l1)], [.int l1], hX c T)) rfl ?_
      exact ev_ret rfl rfl rfl ⟨_, _, rfl, rfl, H⟩
set_option maxRecDepth 8000 in
theorem wx_X_walks {c : CX} {d : Nat} {T : XS} {Q : Int32 → XS → Prop} {E : Nat → XS → Prop} (hR : c.2.2.2.1.length = 18) (a0 : Int32) (H : ((0 ≤ a0 → XO c d m_X_rowNow [.ref 1] T (fun v2 T1 => (v2 = some 129 ∧ (((xI T1 129 1) ≤ a0 → Q ((-1)) T1) ∧ (¬ (xI T1 129 1) ≤ a0 → (okx a0 20 ∧ Q (xA T1 133 (ix a0)) T1)))))) ∧ (¬ 0 ≤ a0 → E 1 (tN T 0 0 6)))) : XIt c (d + 1) m_X_walks [.ref 1, .int a0] T Q E := by
  refine ⟨q_X_walks, rfl, Nat.le_of_ble_eq_true rfl, ?_⟩
  refine ev_ex 0 (c' := (0, [some (.ref 1), some (.int a0), none], [], hX c T)) rfl ?_
  refine ev_ex 1 (c' := (1, [some (.ref 1), some (.int a0), none], [.int a0], hX c T)) rfl ?_
  refine ev_if_ge (tgt := 15) rfl rfl (fun h => ?_) (fun h => ?_)
  · replace H := H.1 (h)
    refine ev_ex 1 (c' := (16, [some (.ref 1), some (.int a0), none], [.ref 1], hX c T)) rfl ?_
    refine xc_O (idx := 255) rfl rfl rfl (Nat.le_of_ble_eq_true rfl) (Nat.le_of_ble_eq_true rfl) (x_rcv (T := T) (ob_lit (i := 0) rfl (by decide) rfl) ⟨by decide, by decide⟩ _ _) H (fun v2 T1 H => ?_)
    obtain ⟨rfl, H⟩ := H
    refine ev_ex 0 (c' := (19, [some (.ref 1), some (.int a0), none], [.ref 129], hX c T1)) rfl ?_
    refine ev_ex 3 (c' := (22, [some (.ref 1), some (.int a0), some (.ref 129)], [.ref 129, .int a0], hX c T1)) rfl ?_
    refine xe_gf (ci := 8) (k := 1) rfl rfl (ob_lit (i := 32) rfl (by decide) rfl) ⟨by decide, by decide⟩ (v := .int (xI T1 129 1)) rfl ?_
    refine ev_icmp_ge (tgt := 37) rfl rfl (fun h => ?_) (fun h => ?_)
    · replace H := H.1 (h)
      refine ev_ex 1 (c' := (38, [some (.ref 1), some (.int a0), some (.ref 129)], [.int ((-1))], hX c T1)) rfl ?_
      exact ev_ret rfl rfl rfl (Or.inl ⟨_, _, rfl, rfl, H⟩)
    · replace H := H.2 (h)
      refine ev_ex 1 (c' := (29, [some (.ref 1), some (.int a0), some (.ref 129)], [.ref 129], hX c T1)) rfl ?_
      refine xe_gf (ci := 8) (k := 5) rfl rfl (ob_lit (i := 32) rfl (by decide) rfl) ⟨by decide, by decide⟩ (v := .ref 133) rfl ?_
      refine ev_ex 1 (c' := (33, [some (.ref 1), some (.int a0), some (.ref 129)], [.int a0, .ref 133], hX c T1)) rfl ?_
      obtain ⟨H0, H⟩ := H
      refine xe_al rfl (ar_lit (i := 33) rfl (by decide) rfl) H0 ?_
      refine ev_ex 0 (c' := (34, [some (.ref 1), some (.int a0), some (.ref 129)], [.int (xA T1 133 (ix a0))], hX c T1)) rfl ?_
      refine ev_ex 1 (c' := (38, [some (.ref 1), some (.int a0), some (.ref 129)], [.int (xA T1 133 (ix a0))], hX c T1)) rfl ?_
      exact ev_ret rfl rfl rfl (Or.inl ⟨_, _, rfl, rfl, H⟩)
  · replace H := H.2 (h)
    exact xe_thr hR rfl rfl (Nat.le_of_ble_eq_true rfl) (Or.inr ⟨_, _, rfl, rfl, H⟩)
set_option maxRecDepth 8000 in
theorem wx_X_place {c : CX} {d : Nat} {T : XS} {Q : Int32 → XS → Prop} {E : Nat → XS → Prop} (a0 : Int32) (H : XVt c d m_X_needGuild [.ref 1, .int a0] T (fun T1 => XO c d m_X_rowNow [.ref 1] T1 (fun v3 T2 => (v3 = some 129 ∧ (okx a0 10 ∧ Q (xA T2 145 (ix a0)) T2)))) E) : XIt c (d + 1) m_X_place [.ref 1, .int a0] T Q E := by
  refine ⟨q_X_place, rfl, Nat.le_of_ble_eq_true rfl, ?_⟩
  refine ev_ex 0 (c' := (0, [some (.ref 1), some (.int a0)], [], hX c T)) rfl ?_
  refine ev_ex 2 (c' := (2, [some (.ref 1), some (.int a0)], [.int a0, .ref 1], hX c T)) rfl ?_
  refine xt_V (idx := 110) rfl rfl rfl (Nat.le_of_ble_eq_true rfl) (Nat.le_of_ble_eq_true rfl) (x_rcv (T := T) (ob_lit (i := 0) rfl (by decide) rfl) ⟨by decide, by decide⟩ _ _) rfl rfl rfl rfl (by decide) H (fun T1 H => ?_)
  refine ev_ex 1 (c' := (6, [some (.ref 1), some (.int a0)], [.ref 1], hX c T1)) rfl ?_
  refine xc_O (idx := 255) rfl rfl rfl (Nat.le_of_ble_eq_true rfl) (Nat.le_of_ble_eq_true rfl) (x_rcv (T := T1) (ob_lit (i := 0) rfl (by decide) rfl) ⟨by decide, by decide⟩ _ _) H (fun v3 T2 H => ?_)
  obtain ⟨rfl, H⟩ := H
  refine ev_ex 0 (c' := (9, [some (.ref 1), some (.int a0)], [.ref 129], hX c T2)) rfl ?_
  refine xe_gf (ci := 8) (k := 8) rfl rfl (ob_lit (i := 32) rfl (by decide) rfl) ⟨by decide, by decide⟩ (v := .ref 145) rfl ?_
  refine ev_ex 1 (c' := (13, [some (.ref 1), some (.int a0)], [.int a0, .ref 145], hX c T2)) rfl ?_
  obtain ⟨H0, H⟩ := H
  refine xe_al rfl (ar_lit (i := 36) rfl (by decide) rfl) H0 ?_
  refine ev_ex 0 (c' := (14, [some (.ref 1), some (.int a0)], [.int (xA T2 145 (ix a0))], hX c T2)) rfl ?_
  exact ev_ret rfl rfl rfl (Or.inl ⟨_, _, rfl, rfl, H⟩)
