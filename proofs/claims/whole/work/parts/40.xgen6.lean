/-! written by wip/gen/vcx.py: what runs of the class ask -/
set_option maxRecDepth 8000 in
theorem wx_Tk_isSemicolon {c : CX} {d : Nat} {T : XS} {Q : Bool → XS → Prop}  (H : (((xI T 13 4) = 25 → Q true T) ∧ (¬ (xI T 13 4) = 25 → XB c d m_Tk_refuse [.ref 13, .int 2] T (fun v2 T1 => ((v2 = false → Q false T1) ∧ (v2 = true → Q true T1)))))) : XB c (d + 1) m_Tk_isSemicolon [.ref 13] T Q := by
  refine ⟨q_Tk_isSemicolon, rfl, Nat.le_of_ble_eq_true rfl, ?_⟩
  refine ev_ex 0 (c' := (0, [some (.ref 13)], [], hX c T)) rfl ?_
  refine ev_ex 1 (c' := (1, [some (.ref 13)], [.ref 13], hX c T)) rfl ?_
  refine xe_gf (ci := 10) (k := 4) rfl rfl (ob_lit (i := 3) rfl (by decide) rfl) ⟨by decide, by decide⟩ (v := .int (xI T 13 4)) rfl ?_
  refine ev_ex 1 (c' := (6, [some (.ref 13)], [.int 25, .int (xI T 13 4)], hX c T)) rfl ?_
  refine ev_icmp_eq (tgt := 17) rfl rfl (fun h => ?_) (fun h => ?_)
  · replace H := H.1 (h)
    refine ev_ex 2 (c' := (22, [some (.ref 13)], [.int 1], hX c T)) rfl ?_
    exact ev_retB (x := true) rfl rfl ⟨_, _, rfl, rfl, H⟩
  · replace H := H.2 (h)
    refine ev_ex 2 (c' := (11, [some (.ref 13)], [.int 2, .ref 13], hX c T)) rfl ?_
    refine xc_B (idx := 78) rfl rfl rfl (Nat.le_of_ble_eq_true rfl) (Nat.le_of_ble_eq_true rfl) (x_rcv (T := T) (ob_lit (i := 3) rfl (by decide) rfl) ⟨by decide, by decide⟩ _ _) H (fun v2 T1 H => ?_)
    refine ev_if_eqB (x := v2) (tgt := 21) rfl rfl (fun h => ?_) (fun h => ?_)
    · replace H := H.1 (h)
      refine ev_ex 1 (c' := (22, [some (.ref 13)], [.int 0], hX c T1)) rfl ?_
      exact ev_retB (x := false) rfl rfl ⟨_, _, rfl, rfl, H⟩
    · replace H := H.2 (h)
      refine ev_ex 2 (c' := (22, [some (.ref 13)], [.int 1], hX c T1)) rfl ?_
      exact ev_retB (x := true) rfl rfl ⟨_, _, rfl, rfl, H⟩
set_option maxRecDepth 8000 in
theorem wx_Lr_read {c : CX} {d : Nat} {T : XS} {Q : Option Nat → XS → Prop}  (H : eX c (d + 1) m_Lr_read 37 [some (.ref 21), some (.ref 13), some (.int 0), none] (tI (tI (tI (tI (tI (tI (tI T 21 1 0) 21 3 0) 21 4 0) 21 5 0) 21 6 0) 21 7 0) 21 8 0) (yO c Q)) : XO c (d + 1) m_Lr_read [.ref 21, .ref 13] T Q := by
  refine ⟨q_Lr_read, rfl, Nat.le_of_ble_eq_true rfl, ?_⟩
  refine ev_ex 0 (c' := (0, [some (.ref 21), some (.ref 13), none, none], [], hX c T)) rfl ?_
  refine ev_ex 2 (c' := (2, [some (.ref 21), some (.ref 13), none, none], [.int 0, .ref 21], hX c T)) rfl ?_
  refine xe_pi (ci := 5) (k := 1) rfl rfl (ob_lit (i := 5) rfl (by decide) rfl) ⟨by decide, by decide⟩ (Nat.le_of_ble_eq_true rfl) rfl (fi_5_1 _ _ _) ?_
  refine ev_ex 2 (c' := (7, [some (.ref 21), some (.ref 13), none, none], [.int 0, .ref 21], hX c (tI T 21 1 0))) rfl ?_
  refine xe_pi (ci := 5) (k := 3) rfl rfl (ob_lit (i := 5) rfl (by decide) rfl) ⟨by decide, by decide⟩ (Nat.le_of_ble_eq_true rfl) rfl (fi_5_3 _ _ _) ?_
  refine ev_ex 2 (c' := (12, [some (.ref 21), some (.ref 13), none, none], [.int 0, .ref 21], hX c (tI (tI T 21 1 0) 21 3 0))) rfl ?_
  refine xe_pi (ci := 5) (k := 4) rfl rfl (ob_lit (i := 5) rfl (by decide) rfl) ⟨by decide, by decide⟩ (Nat.le_of_ble_eq_true rfl) rfl (fi_5_4 _ _ _) ?_
  refine ev_ex 2 (c' := (17, [some (.ref 21), some (.ref 13), none, none], [.int 0, .ref 21], hX c (tI (tI (tI T 21 1 0) 21 3 0) 21 4 0))) rfl ?_
  refine xe_pi (ci := 5) (k := 5) rfl rfl (ob_lit (i := 5) rfl (by decide) rfl) ⟨by decide, by decide⟩ (Nat.le_of_ble_eq_true rfl) rfl (fi_5_5 _ _ _) ?_
  refine ev_ex 2 (c' := (22, [some (.ref 21), some (.ref 13), none, none], [.int 0, .ref 21], hX c (tI (tI (tI (tI T 21 1 0) 21 3 0) 21 4 0) 21 5 0))) rfl ?_
  refine xe_pi (ci := 5) (k := 6) rfl rfl (ob_lit (i := 5) rfl (by decide) rfl) ⟨by decide, by decide⟩ (Nat.le_of_ble_eq_true rfl) rfl (fi_5_6 _ _ _) ?_
  refine ev_ex 2 (c' := (27, [some (.ref 21), some (.ref 13), none, none], [.int 0, .ref 21], hX c (tI (tI (tI (tI (tI T 21 1 0) 21 3 0) 21 4 0) 21 5 0) 21 6 0))) rfl ?_
  refine xe_pi (ci := 5) (k := 7) rfl rfl (ob_lit (i := 5) rfl (by decide) rfl) ⟨by decide, by decide⟩ (Nat.le_of_ble_eq_true rfl) rfl (fi_5_7 _ _ _) ?_
  refine ev_ex 2 (c' := (32, [some (.ref 21), some (.ref 13), none, none], [.int 0, .ref 21], hX c (tI (tI (tI (tI (tI (tI T 21 1 0) 21 3 0) 21 4 0) 21 5 0) 21 6 0) 21 7 0))) rfl ?_
  refine xe_pi (ci := 5) (k := 8) rfl rfl (ob_lit (i := 5) rfl (by decide) rfl) ⟨by decide, by decide⟩ (Nat.le_of_ble_eq_true rfl) rfl (fi_5_8 _ _ _) ?_
  refine ev_ex 2 (c' := (37, [some (.ref 21), some (.ref 13), some (.int 0), none], [], hX c (tI (tI (tI (tI (tI (tI (tI T 21 1 0) 21 3 0) 21 4 0) 21 5 0) 21 6 0) 21 7 0) 21 8 0))) rfl ?_
  exact H
set_option maxRecDepth 8000 in
theorem wx_Lr_read_37 {c : CX} {d : Nat} {T : XS} {Q : Option Nat → XS → Prop} (l2 : Int32) (H : ((900 < l2 → XB c d m_Tk_refuse [.ref 13, .int 2] T (fun v52 T51 => Q none T51)) ∧ (¬ 900 < l2 → XV c d m_Tk_move [.ref 13] T (fun T53 => ((¬ (xI T53 13 4) = 25 → eX c (d + 1) m_Lr_read 88 [some (.ref 21), some (.ref 13), some (.int l2), none] T53 (yO c Q)) ∧ ((xI T53 13 4) = 25 → XB c d m_Lr_unitEnds [.ref 21] T53 (fun v55 T54 => ((v55 = false → eX c (d + 1) m_Lr_read 88 [some (.ref 21), some (.ref 13), some (.int l2), none] T54 (yO c Q)) ∧ (v55 = true → ((¬ (xI T54 21 7) = 0 → eX c (d + 1) m_Lr_read 88 [some (.ref 21), some (.ref 13), some (.int l2), none] T54 (yO c Q)) ∧ ((xI T54 21 7) = 0 → XV c d m_Lr_unwind [.ref 21, .int 1] T54 (fun T56 => XO c d m_JA_copyOf [.ref 25, .int (xI T56 21 1)] T56 (fun v58 T57 => Q v58 T57))))))))))))) : eX c (d + 1) m_Lr_read 37 [some (.ref 21), some (.ref 13), some (.int l2), none] T (yO c Q) := by
  unfold eX
  refine ev_ex 0 (c' := (37, [some (.ref 21), some (.ref 13), some (.int l2), none], [], hX c T)) rfl ?_
  refine ev_ex 2 (c' := (41, [some (.ref 21), some (.ref 13), some (.int l2), none], [.int 900, .int l2], hX c T)) rfl ?_
  refine ev_icmp_gt (tgt := 130) rfl rfl (fun h => ?_) (fun h => ?_)
  · replace H := H.1 (h)
    refine ev_ex 2 (c' := (132, [some (.ref 21), some (.ref 13), some (.int l2), none], [.int 2, .ref 13], hX c T)) rfl ?_
    refine xc_B (idx := 74) rfl rfl rfl (Nat.le_of_ble_eq_true rfl) (Nat.le_of_ble_eq_true rfl) (x_rcv (T := T) (ob_lit (i := 3) rfl (by decide) rfl) ⟨by decide, by decide⟩ _ _) H (fun v52 T51 H => ?_)
    refine ev_ex 2 (c' := (137, [some (.ref 21), some (.ref 13), some (.int l2), none], [.null], hX c T51)) rfl ?_
    exact ev_retO (e := none) rfl rfl (Or.inr ⟨_, rfl⟩) ⟨_, _, rfl, rfl, H⟩
  · replace H := H.2 (h)
    refine ev_ex 1 (c' := (45, [some (.ref 21), some (.ref 13), some (.int l2), none], [.ref 13], hX c T)) rfl ?_
    refine xc_V (idx := 41) rfl rfl rfl (Nat.le_of_ble_eq_true rfl) (Nat.le_of_ble_eq_true rfl) (x_rcv (T := T) (ob_lit (i := 3) rfl (by decide) rfl) ⟨by decide, by decide⟩ _ _) H (fun T53 H => ?_)
    refine ev_ex 1 (c' := (49, [some (.ref 21), some (.ref 13), some (.int l2), none], [.ref 13], hX c T53)) rfl ?_
    refine xe_gf (ci := 10) (k := 4) rfl rfl (ob_lit (i := 3) rfl (by decide) rfl) ⟨by decide, by decide⟩ (v := .int (xI T53 13 4)) rfl ?_
    refine ev_ex 1 (c' := (54, [some (.ref 21), some (.ref 13), some (.int l2), none], [.int 25, .int (xI T53 13 4)], hX c T53)) rfl ?_
    refine ev_icmp_ne (tgt := 88) rfl rfl (fun h => ?_) (fun h => ?_)
    · replace H := H.1 (h)
      exact H
    · replace H := H.2 (h)
      refine ev_ex 1 (c' := (58, [some (.ref 21), some (.ref 13), some (.int l2), none], [.ref 21], hX c T53)) rfl ?_
      refine xc_B (idx := 49) rfl rfl rfl (Nat.le_of_ble_eq_true rfl) (Nat.le_of_ble_eq_true rfl) (x_rcv (T := T53) (ob_lit (i := 5) rfl (by decide) rfl) ⟨by decide, by decide⟩ _ _) H (fun v55 T54 H => ?_)
      refine ev_if_eqB (x := v55) (tgt := 88) rfl rfl (fun h => ?_) (fun h => ?_)
      · replace H := H.1 (h)
        exact H
      · replace H := H.2 (h)
        refine ev_ex 1 (c' := (65, [some (.ref 21), some (.ref 13), some (.int l2), none], [.ref 21], hX c T54)) rfl ?_
        refine xe_gf (ci := 5) (k := 7) rfl rfl (ob_lit (i := 5) rfl (by decide) rfl) ⟨by decide, by decide⟩ (v := .int (xI T54 21 7)) rfl ?_
        refine ev_if_ne (tgt := 88) rfl rfl (fun h => ?_) (fun h => ?_)
        · replace H := H.1 (h)
          exact H
        · replace H := H.2 (h)
          refine ev_ex 2 (c' := (73, [some (.ref 21), some (.ref 13), some (.int l2), none], [.int 1, .ref 21], hX c T54)) rfl ?_
          refine xc_V (idx := 53) rfl rfl rfl (Nat.le_of_ble_eq_true rfl) (Nat.le_of_ble_eq_true rfl) (x_rcv (T := T54) (ob_lit (i := 5) rfl (by decide) rfl) ⟨by decide, by decide⟩ _ _) H (fun T56 H => ?_)
          refine ev_ex 1 (c' := (77, [some (.ref 21), some (.ref 13), some (.int l2), none], [.ref 21], hX c T56)) rfl ?_
          refine xe_gf (ci := 5) (k := 0) rfl rfl (ob_lit (i := 5) rfl (by decide) rfl) ⟨by decide, by decide⟩ (v := .ref 25) rfl ?_
          refine ev_ex 1 (c' := (81, [some (.ref 21), some (.ref 13), some (.int l2), none], [.ref 21, .ref 25], hX c T56)) rfl ?_
          refine xe_gf (ci := 5) (k := 1) rfl rfl (ob_lit (i := 5) rfl (by decide) rfl) ⟨by decide, by decide⟩ (v := .int (xI T56 21 1)) rfl ?_
          refine xc_O (idx := 57) rfl rfl rfl (Nat.le_of_ble_eq_true rfl) (Nat.le_of_ble_eq_true rfl) rfl H (fun v58 T57 H => ?_)
          refine ev_ex 0 (c' := (87, [some (.ref 21), some (.ref 13), some (.int l2), none], [va_rf v58], hX c T57)) rfl ?_
          exact ev_retO (e := v58) rfl rfl (Or.inr ⟨_, rfl⟩) ⟨_, _, rfl, rfl, H⟩
set_option maxRecDepth 8000 in
theorem wx_Lr_read_88 {c : CX} {d : Nat} {T : XS} {Q : Option Nat → XS → Prop} (l2 : Int32) (H : XB c d m_Lr_wantsMore [.ref 21] T (fun v52 T51 => ((v52 = false → XI c d m_Lr_takeJoint [.ref 21, .int (xI T51 13 4)] T51 (fun v54 T53 => eX c (d + 1) m_Lr_read 112 [some (.ref 21), some (.ref 13), some (.int l2), some (.int v54)] T53 (yO c Q))) ∧ (v52 = true → XI c d m_Lr_takeBeginning [.ref 21, .ref 13] T51 (fun v56 T55 => eX c (d + 1) m_Lr_read 112 [some (.ref 21), some (.ref 13), some (.int l2), some (.int v56)] T55 (yO c Q)))))) : eX c (d + 1) m_Lr_read 88 [some (.ref 21), some (.ref 13), some (.int l2), none] T (yO c Q) := by
  unfold eX
  refine ev_ex 0 (c' := (88, [some (.ref 21), some (.ref 13), some (.int l2), none], [], hX c T)) rfl ?_
  refine ev_ex 1 (c' := (89, [some (.ref 21), some (.ref 13), some (.int l2), none], [.ref 21], hX c T)) rfl ?_
  refine xc_B (idx := 63) rfl rfl rfl (Nat.le_of_ble_eq_true rfl) (Nat.le_of_ble_eq_true rfl) (x_rcv (T := T) (ob_lit (i := 5) rfl (by decide) rfl) ⟨by decide, by decide⟩ _ _) H (fun v52 T51 H => ?_)
  refine ev_if_eqB (x := v52) (tgt := 103) rfl rfl (fun h => ?_) (fun h => ?_)
  · replace H := H.1 (h)
    refine ev_ex 2 (c' := (105, [some (.ref 21), some (.ref 13), some (.int l2), none], [.ref 13, .ref 21], hX c T51)) rfl ?_
    refine xe_gf (ci := 10) (k := 4) rfl rfl (ob_lit (i := 3) rfl (by decide) rfl) ⟨by decide, by decide⟩ (v := .int (xI T51 13 4)) rfl ?_
    refine xc_I (idx := 70) rfl rfl rfl (Nat.le_of_ble_eq_true rfl) (Nat.le_of_ble_eq_true rfl) (x_rcv (T := T51) (ob_lit (i := 5) rfl (by decide) rfl) ⟨by decide, by decide⟩ _ _) H (fun v54 T53 H => ?_)
    refine ev_ex 1 (c' := (112, [some (.ref 21), some (.ref 13), some (.int l2), some (.int v54)], [], hX c T53)) rfl ?_
    exact H
  · replace H := H.2 (h)
    refine ev_ex 2 (c' := (97, [some (.ref 21), some (.ref 13), some (.int l2), none], [.ref 13, .ref 21], hX c T51)) rfl ?_
    refine xc_I (idx := 66) rfl rfl rfl (Nat.le_of_ble_eq_true rfl) (Nat.le_of_ble_eq_true rfl) (x_rcv (T := T51) (ob_lit (i := 5) rfl (by decide) rfl) ⟨by decide, by decide⟩ _ _) H (fun v56 T55 H => ?_)
    refine ev_ex 2 (c' := (112, [some (.ref 21), some (.ref 13), some (.int l2), some (.int v56)], [], hX c T55)) rfl ?_
    exact H
set_option maxRecDepth 8000 in
theorem wx_Lr_read_112 {c : CX} {d : Nat} {T : XS} {Q : Option Nat → XS → Prop} (l2 : Int32) (l3 : Int32) (H : ((l3 = 0 → eX c (d + 1) m_Lr_read 37 [some (.ref 21), some (.ref 13), some (.int (l2 + 1)), none] T (yO c Q)) ∧ (¬ l3 = 0 → XB c d m_Tk_refuse [.ref 13, .int l3] T (fun v52 T51 => Q none T51)))) : eX c (d + 1) m_Lr_read 112 [some (.ref 21), some (.ref 13), some (.int l2), some (.int l3)] T (yO c Q) := by
  unfold eX
  refine ev_ex 0 (c' := (112, [some (.ref 21), some (.ref 13), some (.int l2), some (.int l3)], [], hX c T)) rfl ?_
  refine ev_ex 1 (c' := (113, [some (.ref 21), some (.ref 13), some (.int l2), some (.int l3)], [.int l3], hX c T)) rfl ?_
  refine ev_if_eq (tgt := 124) rfl rfl (fun h => ?_) (fun h => ?_)
  · replace H := H.1 (h)
    refine ev_ex 2 (c' := (37, [some (.ref 21), some (.ref 13), some (.int (l2 + 1)), some (.int l3)], [], hX c T)) rfl ?_
    exact ev_less (lle_of (L := [some (.ref 21), some (.ref 13), some (.int (l2 + 1)), none]) ⟨rfl, ⟨rfl, ⟨rfl, trivial⟩⟩⟩) H
  · replace H := H.2 (h)
    refine ev_ex 2 (c' := (118, [some (.ref 21), some (.ref 13), some (.int l2), some (.int l3)], [.int l3, .ref 13], hX c T)) rfl ?_
    refine xc_B (idx := 74) rfl rfl rfl (Nat.le_of_ble_eq_true rfl) (Nat.le_of_ble_eq_true rfl) (x_rcv (T := T) (ob_lit (i := 3) rfl (by decide) rfl) ⟨by decide, by decide⟩ _ _) H (fun v52 T51 H => ?_)
    refine ev_ex 2 (c' := (123, [some (.ref 21), some (.ref 13), some (.int l2), some (.int l3)], [.null], hX c T51)) rfl ?_
    exact ev_retO (e := none) rfl rfl (Or.inr ⟨_, rfl⟩) ⟨_, _, rfl, rfl, H⟩
set_option maxRecDepth 8000 in
theorem wx_Lr_unitEnds {c : CX} {d : Nat} {T : XS} {Q : Bool → XS → Prop}  (H : XB c d m_Lr_wantsMore [.ref 21] T (fun v2 T1 => ((v2 = true → Q false T1) ∧ (v2 = false → ((¬ (xI T1 21 6) = 0 → Q false T1) ∧ ((xI T1 21 6) = 0 → (∃ q3 : Bool, xI T1 21 8 = bI q3 ∧ ((q3 = false → Q false T1) ∧ (q3 = true → Q true T1))))))))) : XB c (d + 1) m_Lr_unitEnds [.ref 21] T Q := by
  refine ⟨q_Lr_unitEnds, rfl, Nat.le_of_ble_eq_true rfl, ?_⟩
  refine ev_ex 0 (c' := (0, [some (.ref 21)], [], hX c T)) rfl ?_
  refine ev_ex 1 (c' := (1, [some (.ref 21)], [.ref 21], hX c T)) rfl ?_
  refine xc_B (idx := 63) rfl rfl rfl (Nat.le_of_ble_eq_true rfl) (Nat.le_of_ble_eq_true rfl) (x_rcv (T := T) (ob_lit (i := 5) rfl (by decide) rfl) ⟨by decide, by decide⟩ _ _) H (fun v2 T1 H => ?_)
  refine ev_if_neB (x := v2) (tgt := 25) rfl rfl (fun h => ?_) (fun h => ?_)
  · replace H := H.1 (h)
    refine ev_ex 1 (c' := (26, [some (.ref 21)], [.int 0], hX c T1)) rfl ?_
    exact ev_retB (x := false) rfl rfl ⟨_, _, rfl, rfl, H⟩
  · replace H := H.2 (h)
    refine ev_ex 1 (c' := (8, [some (.ref 21)], [.ref 21], hX c T1)) rfl ?_
    refine xe_gf (ci := 5) (k := 6) rfl rfl (ob_lit (i := 5) rfl (by decide) rfl) ⟨by decide, by decide⟩ (v := .int (xI T1 21 6)) rfl ?_
    refine ev_if_ne (tgt := 25) rfl rfl (fun h => ?_) (fun h => ?_)
    · replace H := H.1 (h)
      refine ev_ex 1 (c' := (26, [some (.ref 21)], [.int 0], hX c T1)) rfl ?_
      exact ev_retB (x := false) rfl rfl ⟨_, _, rfl, rfl, H⟩
    · replace H := H.2 (h)
      refine ev_ex 1 (c' := (15, [some (.ref 21)], [.ref 21], hX c T1)) rfl ?_
      obtain ⟨q3, h4, H⟩ := H
      refine xe_gf (ci := 5) (k := 8) rfl rfl (ob_lit (i := 5) rfl (by decide) rfl) ⟨by decide, by decide⟩ (v := .int (bI q3)) (by rw [← h4]; rfl) ?_
      refine ev_if_eqB (x := q3) (tgt := 25) rfl rfl (fun h => ?_) (fun h => ?_)
      · replace H := H.1 (h)
        refine ev_ex 1 (c' := (26, [some (.ref 21)], [.int 0], hX c T1)) rfl ?_
        exact ev_retB (x := false) rfl rfl ⟨_, _, rfl, rfl, H⟩
      · replace H := H.2 (h)
        refine ev_ex 2 (c' := (26, [some (.ref 21)], [.int 1], hX c T1)) rfl ?_
        exact ev_retB (x := true) rfl rfl ⟨_, _, rfl, rfl, H⟩
set_option maxRecDepth 8000 in
theorem wx_Lr_unwind {c : CX} {d : Nat} {T : XS} {Q : XS → Prop} (a0 : Int32) (H : eX c (d + 1) m_Lr_unwind 0 [some (.ref 21), some (.int a0)] T (yV c Q)) : XV c (d + 1) m_Lr_unwind [.ref 21, .int a0] T Q := by
  refine ⟨q_Lr_unwind, rfl, Nat.le_of_ble_eq_true rfl, ?_⟩
  refine ev_ex 0 (c' := (0, [some (.ref 21), some (.int a0)], [], hX c T)) rfl ?_
  exact H
set_option maxRecDepth 8000 in
theorem wx_Lr_unwind_0 {c : CX} {d : Nat} {T : XS} {Q : XS → Prop} (l1 : Int32) (H : (((xI T 21 3) ≤ 0 → Q T) ∧ (¬ (xI T 21 3) ≤ 0 → (okx ((xI T 21 3) - 1) 64 ∧ (((stg (xA T 29 (ix ((xI T 21 3) - 1)))) < l1 → Q T) ∧ (¬ (stg (xA T 29 (ix ((xI T 21 3) - 1)))) < l1 → (okx ((xI T 21 3) - 1) 64 ∧ XV c d m_Lr_emit [.ref 21, .int (1000 + (xA T 29 (ix ((xI T 21 3) - 1))))] (tI T 21 3 ((xI T 21 3) - 1)) (fun T51 => (okx (xI T51 21 3) 64 ∧ ((¬ (xA T51 29 (ix (xI T51 21 3))) = 16 → eX c (d + 1) m_Lr_unwind 0 [some (.ref 21), some (.int l1)] T51 (yV c Q)) ∧ ((xA T51 29 (ix (xI T51 21 3))) = 16 → eX c (d + 1) m_Lr_unwind 0 [some (.ref 21), some (.int l1)] (tI T51 21 5 ((xI T51 21 5) - 1)) (yV c Q)))))))))))) : eX c (d + 1) m_Lr_unwind 0 [some (.ref 21), some (.int l1)] T (yV c Q) := by
  unfold eX
  refine ev_ex 0 (c' := (0, [some (.ref 21), some (.int l1)], [], hX c T)) rfl ?_
  refine ev_ex 1 (c' := (1, [some (.ref 21), some (.int l1)], [.ref 21], hX c T)) rfl ?_
  refine xe_gf (ci := 5) (k := 3) rfl rfl (ob_lit (i := 5) rfl (by decide) rfl) ⟨by decide, by decide⟩ (v := .int (xI T 21 3)) rfl ?_
  refine ev_if_le (tgt := 79) rfl rfl (fun h => ?_) (fun h => ?_)
  · replace H := H.1 (h)
    exact ev_ret rfl rfl rfl ⟨_, rfl, rfl, H⟩
  · replace H := H.2 (h)
    refine ev_ex 1 (c' := (8, [some (.ref 21), some (.int l1)], [.ref 21], hX c T)) rfl ?_
    refine xe_gf (ci := 5) (k := 2) rfl rfl (ob_lit (i := 5) rfl (by decide) rfl) ⟨by decide, by decide⟩ (v := .ref 29) rfl ?_
    refine ev_ex 1 (c' := (12, [some (.ref 21), some (.int l1)], [.ref 21, .ref 29], hX c T)) rfl ?_
    refine xe_gf (ci := 5) (k := 3) rfl rfl (ob_lit (i := 5) rfl (by decide) rfl) ⟨by decide, by decide⟩ (v := .int (xI T 21 3)) rfl ?_
    refine ev_ex 2 (c' := (17, [some (.ref 21), some (.int l1)], [.int ((xI T 21 3) - 1), .ref 29], hX c T)) rfl ?_
    obtain ⟨H0, H⟩ := H
    refine xe_al rfl (ar_lit (i := 7) rfl (by decide) rfl) H0 ?_
    refine ev_ex 0 (c' := (18, [some (.ref 21), some (.int l1)], [.int (xA T 29 (ix ((xI T 21 3) - 1)))], hX c T)) rfl ?_
    refine xq_I (idx := 90) (V := stg (xA T 29 (ix ((xI T 21 3) - 1)))) (S := T) rfl rfl rfl (Nat.le_of_ble_eq_true rfl) (Nat.le_of_ble_eq_true rfl) rfl (zx_Lr_strength ⟨rfl, rfl⟩) ?_
    refine ev_ex 1 (c' := (22, [some (.ref 21), some (.int l1)], [.int l1, .int (stg (xA T 29 (ix ((xI T 21 3) - 1))))], hX c T)) rfl ?_
    refine ev_icmp_lt (tgt := 79) rfl rfl (fun h => ?_) (fun h => ?_)
    · replace H := H.1 (h)
      exact ev_ret rfl rfl rfl ⟨_, rfl, rfl, H⟩
    · replace H := H.2 (h)
      refine ev_ex 2 (c' := (27, [some (.ref 21), some (.int l1)], [.ref 21, .ref 21], hX c T)) rfl ?_
      refine xe_gf (ci := 5) (k := 3) rfl rfl (ob_lit (i := 5) rfl (by decide) rfl) ⟨by decide, by decide⟩ (v := .int (xI T 21 3)) rfl ?_
      refine ev_ex 2 (c' := (32, [some (.ref 21), some (.int l1)], [.int ((xI T 21 3) - 1), .ref 21], hX c T)) rfl ?_
      refine xe_pi (ci := 5) (k := 3) rfl rfl (ob_lit (i := 5) rfl (by decide) rfl) ⟨by decide, by decide⟩ (Nat.le_of_ble_eq_true rfl) rfl (fi_5_3 _ _ _) ?_
      refine ev_ex 3 (c' := (40, [some (.ref 21), some (.int l1)], [.ref 21, .int 1000, .ref 21], hX c (tI T 21 3 ((xI T 21 3) - 1)))) rfl ?_
      refine xe_gf (ci := 5) (k := 2) rfl rfl (ob_lit (i := 5) rfl (by decide) rfl) ⟨by decide, by decide⟩ (v := .ref 29) rfl ?_
      refine ev_ex 1 (c' := (44, [some (.ref 21), some (.int l1)], [.ref 21, .ref 29, .int 1000, .ref 21], hX c (tI T 21 3 ((xI T 21 3) - 1)))) rfl ?_
      refine xe_gf (ci := 5) (k := 3) rfl rfl (ob_lit (i := 5) rfl (by decide) rfl) ⟨by decide, by decide⟩ (v := .int ((xI T 21 3) - 1)) rfl ?_
      obtain ⟨H0, H⟩ := H
      refine xe_al rfl (ar_lit (i := 7) rfl (by decide) rfl) H0 ?_
      refine ev_ex 0 (c' := (48, [some (.ref 21), some (.int l1)], [.int (xA T 29 (ix ((xI T 21 3) - 1))), .int 1000, .ref 21], hX c (tI T 21 3 ((xI T 21 3) - 1)))) rfl ?_
      refine ev_ex 1 (c' := (49, [some (.ref 21), some (.int l1)], [.int (1000 + (xA T 29 (ix ((xI T 21 3) - 1)))), .ref 21], hX c (tI T 21 3 ((xI T 21 3) - 1)))) rfl ?_
      refine xc_V (idx := 81) rfl rfl rfl (Nat.le_of_ble_eq_true rfl) (Nat.le_of_ble_eq_true rfl) (x_rcv (T := tI T 21 3 ((xI T 21 3) - 1)) (ob_lit (i := 5) rfl (by decide) rfl) ⟨by decide, by decide⟩ _ _) H (fun T51 H => ?_)
      refine ev_ex 1 (c' := (53, [some (.ref 21), some (.int l1)], [.ref 21], hX c T51)) rfl ?_
      refine xe_gf (ci := 5) (k := 2) rfl rfl (ob_lit (i := 5) rfl (by decide) rfl) ⟨by decide, by decide⟩ (v := .ref 29) rfl ?_
      refine ev_ex 1 (c' := (57, [some (.ref 21), some (.int l1)], [.ref 21, .ref 29], hX c T51)) rfl ?_
      refine xe_gf (ci := 5) (k := 3) rfl rfl (ob_lit (i := 5) rfl (by decide) rfl) ⟨by decide, by decide⟩ (v := .int (xI T51 21 3)) rfl ?_
      obtain ⟨H0, H⟩ := H
      refine xe_al rfl (ar_lit (i := 7) rfl (by decide) rfl) H0 ?_
      refine ev_ex 0 (c' := (61, [some (.ref 21), some (.int l1)], [.int (xA T51 29 (ix (xI T51 21 3)))], hX c T51)) rfl ?_
      refine ev_ex 1 (c' := (63, [some (.ref 21), some (.int l1)], [.int 16, .int (xA T51 29 (ix (xI T51 21 3)))], hX c T51)) rfl ?_
      refine ev_icmp_ne (tgt := 0) rfl rfl (fun h => ?_) (fun h => ?_)
      · replace H := H.1 (h)
        exact H
      · replace H := H.2 (h)
        refine ev_ex 2 (c' := (68, [some (.ref 21), some (.int l1)], [.ref 21, .ref 21], hX c T51)) rfl ?_
        refine xe_gf (ci := 5) (k := 5) rfl rfl (ob_lit (i := 5) rfl (by decide) rfl) ⟨by decide, by decide⟩ (v := .int (xI T51 21 5)) rfl ?_
        refine ev_ex 2 (c' := (73, [some (.ref 21), some (.int l1)], [.int ((xI T51 21 5) - 1), .ref 21], hX c T51)) rfl ?_
        refine xe_pi (ci := 5) (k := 5) rfl rfl (ob_lit (i := 5) rfl (by decide) rfl) ⟨by decide, by decide⟩ (Nat.le_of_ble_eq_true rfl) rfl (fi_5_5 _ _ _) ?_
        refine ev_ex 1 (c' := (0, [some (.ref 21), some (.int l1)], [], hX c (tI T51 21 5 ((xI T51 21 5) - 1)))) rfl ?_
        exact H
set_option maxRecDepth 8000 in
theorem wx_Lr_wantsMore {c : CX} {d : Nat} {T : XS} {Q : Bool → XS → Prop}  (H : (((xI T 21 4) = 0 → Q true T) ∧ (¬ (xI T 21 4) = 0 → ((¬ (xI T 21 4) = 1 → Q false T) ∧ ((xI T 21 4) = 1 → Q true T))))) : XB c (d) m_Lr_wantsMore [.ref 21] T Q := by
  refine ⟨q_Lr_wantsMore, rfl, Nat.le_of_ble_eq_true rfl, ?_⟩
  refine ev_ex 0 (c' := (0, [some (.ref 21)], [], hX c T)) rfl ?_
  refine ev_ex 1 (c' := (1, [some (.ref 21)], [.ref 21], hX c T)) rfl ?_
  refine xe_gf (ci := 5) (k := 4) rfl rfl (ob_lit (i := 5) rfl (by decide) rfl) ⟨by decide, by decide⟩ (v := .int (xI T 21 4)) rfl ?_
  refine ev_if_eq (tgt := 15) rfl rfl (fun h => ?_) (fun h => ?_)
  · replace H := H.1 (h)
    refine ev_ex 2 (c' := (20, [some (.ref 21)], [.int 1], hX c T)) rfl ?_
    exact ev_retB (x := true) rfl rfl ⟨_, _, rfl, rfl, H⟩
  · replace H := H.2 (h)
    refine ev_ex 1 (c' := (8, [some (.ref 21)], [.ref 21], hX c T)) rfl ?_
    refine xe_gf (ci := 5) (k := 4) rfl rfl (ob_lit (i := 5) rfl (by decide) rfl) ⟨by decide, by decide⟩ (v := .int (xI T 21 4)) rfl ?_
    refine ev_ex 1 (c' := (12, [some (.ref 21)], [.int 1, .int (xI T 21 4)], hX c T)) rfl ?_
    refine ev_icmp_ne (tgt := 19) rfl rfl (fun h => ?_) (fun h => ?_)
    · replace H := H.1 (h)
      refine ev_ex 1 (c' := (20, [some (.ref 21)], [.int 0], hX c T)) rfl ?_
      exact ev_retB (x := false) rfl rfl ⟨_, _, rfl, rfl, H⟩
    · replace H := H.2 (h)
      refine ev_ex 2 (c' := (20, [some (.ref 21)], [.int 1], hX c T)) rfl ?_
      exact ev_retB (x := true) rfl rfl ⟨_, _, rfl, rfl, H⟩
set_option maxRecDepth 8000 in
theorem wx_Lr_takeBeginning {c : CX} {d : Nat} {T : XS} {Q : Int32 → XS → Prop}  (H : (((xI T 13 4) = 36 → ((¬ (xI T 13 4) = 36 → XV c d m_Lr_emit [.ref 21, .int (1000 + (xI T 13 4))] T (fun T1 => Q 0 (tI T1 21 4 2))) ∧ ((xI T 13 4) = 36 → XV c d m_Lr_emit [.ref 21, .int (xI T 13 5)] T (fun T2 => Q 0 (tI T2 21 4 2))))) ∧ (¬ (xI T 13 4) = 36 → (((xI T 13 4) < 17 → eX c (d + 1) m_Lr_takeBeginning 52 [some (.ref 21), some (.ref 13), some (.int (xI T 13 4)), none] T (yI c Q)) ∧ (¬ (xI T 13 4) < 17 → ((24 < (xI T 13 4) → eX c (d + 1) m_Lr_takeBeginning 52 [some (.ref 21), some (.ref 13), some (.int (xI T 13 4)), none] T (yI c Q)) ∧ (¬ 24 < (xI T 13 4) → ((¬ (xI T 13 4) = 36 → XV c d m_Lr_emit [.ref 21, .int (1000 + (xI T 13 4))] T (fun T3 => Q 0 (tI T3 21 4 2))) ∧ ((xI T 13 4) = 36 → XV c d m_Lr_emit [.ref 21, .int (xI T 13 5)] T (fun T4 => Q 0 (tI T4 21 4 2))))))))))) : XI c (d + 1) m_Lr_takeBeginning [.ref 21, .ref 13] T Q := by
  refine ⟨q_Lr_takeBeginning, rfl, Nat.le_of_ble_eq_true rfl, ?_⟩
  refine ev_ex 0 (c' := (0, [some (.ref 21), some (.ref 13), none, none], [], hX c T)) rfl ?_
  refine ev_ex 1 (c' := (1, [some (.ref 21), some (.ref 13), none, none], [.ref 13], hX c T)) rfl ?_
  refine xe_gf (ci := 10) (k := 4) rfl rfl (ob_lit (i := 3) rfl (by decide) rfl) ⟨by decide, by decide⟩ (v := .int (xI T 13 4)) rfl ?_
  refine ev_ex 3 (c' := (8, [some (.ref 21), some (.ref 13), some (.int (xI T 13 4)), none], [.int 36, .int (xI T 13 4)], hX c T)) rfl ?_
  refine ev_icmp_eq (tgt := 23) rfl rfl (fun h => ?_) (fun h => ?_)
  · replace H := H.1 (h)
    refine ev_ex 3 (c' := (27, [some (.ref 21), some (.ref 13), some (.int (xI T 13 4)), none], [.int 36, .int (xI T 13 4), .ref 21], hX c T)) rfl ?_
    refine ev_icmp_ne (tgt := 37) rfl rfl (fun h => ?_) (fun h => ?_)
    · replace H := H.1 (h)
      refine ev_ex 3 (c' := (42, [some (.ref 21), some (.ref 13), some (.int (xI T 13 4)), none], [.int (1000 + (xI T 13 4)), .ref 21], hX c T)) rfl ?_
      refine xc_V (idx := 81) rfl rfl rfl (Nat.le_of_ble_eq_true rfl) (Nat.le_of_ble_eq_true rfl) (x_rcv (T := T) (ob_lit (i := 5) rfl (by decide) rfl) ⟨by decide, by decide⟩ _ _) H (fun T1 H => ?_)
      refine ev_ex 2 (c' := (47, [some (.ref 21), some (.ref 13), some (.int (xI T 13 4)), none], [.int 2, .ref 21], hX c T1)) rfl ?_
      refine xe_pi (ci := 5) (k := 4) rfl rfl (ob_lit (i := 5) rfl (by decide) rfl) ⟨by decide, by decide⟩ (Nat.le_of_ble_eq_true rfl) rfl (fi_5_4 _ _ _) ?_
      refine ev_ex 1 (c' := (51, [some (.ref 21), some (.ref 13), some (.int (xI T 13 4)), none], [.int 0], hX c (tI T1 21 4 2))) rfl ?_
      exact ev_ret rfl rfl rfl ⟨_, _, rfl, rfl, H⟩
    · replace H := H.2 (h)
      refine ev_ex 1 (c' := (31, [some (.ref 21), some (.ref 13), some (.int (xI T 13 4)), none], [.ref 13, .ref 21], hX c T)) rfl ?_
      refine xe_gf (ci := 10) (k := 5) rfl rfl (ob_lit (i := 3) rfl (by decide) rfl) ⟨by decide, by decide⟩ (v := .int (xI T 13 5)) rfl ?_
      refine ev_ex 1 (c' := (42, [some (.ref 21), some (.ref 13), some (.int (xI T 13 4)), none], [.int (xI T 13 5), .ref 21], hX c T)) rfl ?_
      refine xc_V (idx := 81) rfl rfl rfl (Nat.le_of_ble_eq_true rfl) (Nat.le_of_ble_eq_true rfl) (x_rcv (T := T) (ob_lit (i := 5) rfl (by decide) rfl) ⟨by decide, by decide⟩ _ _) H (fun T2 H => ?_)
      refine ev_ex 2 (c' := (47, [some (.ref 21), some (.ref 13), some (.int (xI T 13 4)), none], [.int 2, .ref 21], hX c T2)) rfl ?_
      refine xe_pi (ci := 5) (k := 4) rfl rfl (ob_lit (i := 5) rfl (by decide) rfl) ⟨by decide, by decide⟩ (Nat.le_of_ble_eq_true rfl) rfl (fi_5_4 _ _ _) ?_
      refine ev_ex 1 (c' := (51, [some (.ref 21), some (.ref 13), some (.int (xI T 13 4)), none], [.int 0], hX c (tI T2 21 4 2))) rfl ?_
      exact ev_ret rfl rfl rfl ⟨_, _, rfl, rfl, H⟩
  · replace H := H.2 (h)
    refine ev_ex 2 (c' := (14, [some (.ref 21), some (.ref 13), some (.int (xI T 13 4)), none], [.int 17, .int (xI T 13 4)], hX c T)) rfl ?_
    refine ev_icmp_lt (tgt := 52) rfl rfl (fun h => ?_) (fun h => ?_)
    · replace H := H.1 (h)
      exact H
    · replace H := H.2 (h)
      refine ev_ex 2 (c' := (20, [some (.ref 21), some (.ref 13), some (.int (xI T 13 4)), none], [.int 24, .int (xI T 13 4)], hX c T)) rfl ?_
      refine ev_icmp_gt (tgt := 52) rfl rfl (fun h => ?_) (fun h => ?_)
      · replace H := H.1 (h)
        exact H
      · replace H := H.2 (h)
        refine ev_ex 3 (c' := (27, [some (.ref 21), some (.ref 13), some (.int (xI T 13 4)), none], [.int 36, .int (xI T 13 4), .ref 21], hX c T)) rfl ?_
        refine ev_icmp_ne (tgt := 37) rfl rfl (fun h => ?_) (fun h => ?_)
        · replace H := H.1 (h)
          refine ev_ex 3 (c' := (42, [some (.ref 21), some (.ref 13), some (.int (xI T 13 4)), none], [.int (1000 + (xI T 13 4)), .ref 21], hX c T)) rfl ?_
          refine xc_V (idx := 81) rfl rfl rfl (Nat.le_of_ble_eq_true rfl) (Nat.le_of_ble_eq_true rfl) (x_rcv (T := T) (ob_lit (i := 5) rfl (by decide) rfl) ⟨by decide, by decide⟩ _ _) H (fun T3 H => ?_)
          refine ev_ex 2 (c' := (47, [some (.ref 21), some (.ref 13), some (.int (xI T 13 4)), none], [.int 2, .ref 21], hX c T3)) rfl ?_
          refine xe_pi (ci := 5) (k := 4) rfl rfl (ob_lit (i := 5) rfl (by decide) rfl) ⟨by decide, by decide⟩ (Nat.le_of_ble_eq_true rfl) rfl (fi_5_4 _ _ _) ?_
          refine ev_ex 1 (c' := (51, [some (.ref 21), some (.ref 13), some (.int (xI T 13 4)), none], [.int 0], hX c (tI T3 21 4 2))) rfl ?_
          exact ev_ret rfl rfl rfl ⟨_, _, rfl, rfl, H⟩
        · replace H := H.2 (h)
          refine ev_ex 1 (c' := (31, [some (.ref 21), some (.ref 13), some (.int (xI T 13 4)), none], [.ref 13, .ref 21], hX c T)) rfl ?_
          refine xe_gf (ci := 10) (k := 5) rfl rfl (ob_lit (i := 3) rfl (by decide) rfl) ⟨by decide, by decide⟩ (v := .int (xI T 13 5)) rfl ?_
          refine ev_ex 1 (c' := (42, [some (.ref 21), some (.ref 13), some (.int (xI T 13 4)), none], [.int (xI T 13 5), .ref 21], hX c T)) rfl ?_
          refine xc_V (idx := 81) rfl rfl rfl (Nat.le_of_ble_eq_true rfl) (Nat.le_of_ble_eq_true rfl) (x_rcv (T := T) (ob_lit (i := 5) rfl (by decide) rfl) ⟨by decide, by decide⟩ _ _) H (fun T4 H => ?_)
          refine ev_ex 2 (c' := (47, [some (.ref 21), some (.ref 13), some (.int (xI T 13 4)), none], [.int 2, .ref 21], hX c T4)) rfl ?_
          refine xe_pi (ci := 5) (k := 4) rfl rfl (ob_lit (i := 5) rfl (by decide) rfl) ⟨by decide, by decide⟩ (Nat.le_of_ble_eq_true rfl) rfl (fi_5_4 _ _ _) ?_
          refine ev_ex 1 (c' := (51, [some (.ref 21), some (.ref 13), some (.int (xI T 13 4)), none], [.int 0], hX c (tI T4 21 4 2))) rfl ?_
          exact ev_ret rfl rfl rfl ⟨_, _, rfl, rfl, H⟩
set_option maxRecDepth 8000 in
theorem wx_Lr_takeBeginning_52 {c : CX} {d : Nat} {T : XS} {Q : Int32 → XS → Prop} (l2 : Int32) (H : ((¬ (xI T 21 4) = 0 → ((l2 = 29 → eX c (d + 1) m_Lr_takeBeginning 89 [some (.ref 21), some (.ref 13), some (.int l2), none] T (yI c Q)) ∧ (¬ l2 = 29 → Q 2 T))) ∧ ((xI T 21 4) = 0 → ((l2 = 16 → eX c (d + 1) m_Lr_takeBeginning 89 [some (.ref 21), some (.ref 13), some (.int l2), none] T (yI c Q)) ∧ (¬ l2 = 16 → ((¬ l2 = 31 → ((l2 = 29 → eX c (d + 1) m_Lr_takeBeginning 89 [some (.ref 21), some (.ref 13), some (.int l2), none] T (yI c Q)) ∧ (¬ l2 = 29 → Q 2 T))) ∧ (l2 = 31 → eX c (d + 1) m_Lr_takeBeginning 89 [some (.ref 21), some (.ref 13), some (.int l2), none] T (yI c Q)))))))) : eX c (d + 1) m_Lr_takeBeginning 52 [some (.ref 21), some (.ref 13), some (.int l2), none] T (yI c Q) := by
  unfold eX
  refine ev_ex 0 (c' := (52, [some (.ref 21), some (.ref 13), some (.int l2), none], [], hX c T)) rfl ?_
  refine ev_ex 1 (c' := (53, [some (.ref 21), some (.ref 13), some (.int l2), none], [.ref 21], hX c T)) rfl ?_
  refine xe_gf (ci := 5) (k := 4) rfl rfl (ob_lit (i := 5) rfl (by decide) rfl) ⟨by decide, by decide⟩ (v := .int (xI T 21 4)) rfl ?_
  refine ev_if_ne (tgt := 75) rfl rfl (fun h => ?_) (fun h => ?_)
  · replace H := H.1 (h)
    refine ev_ex 6 (c' := (84, [some (.ref 21), some (.ref 13), some (.int l2), some (.int 0)], [.int 29, .int l2], hX c T)) rfl ?_
    refine ev_icmp_eq (tgt := 89) rfl rfl (fun h => ?_) (fun h => ?_)
    · replace H := H.1 (h)
      exact ev_less (lle_of (L := [some (.ref 21), some (.ref 13), some (.int l2), none]) ⟨rfl, ⟨rfl, ⟨rfl, trivial⟩⟩⟩) H
    · replace H := H.2 (h)
      refine ev_ex 1 (c' := (88, [some (.ref 21), some (.ref 13), some (.int l2), some (.int 0)], [.int 2], hX c T)) rfl ?_
      exact ev_ret rfl rfl rfl ⟨_, _, rfl, rfl, H⟩
  · replace H := H.2 (h)
    refine ev_ex 2 (c' := (62, [some (.ref 21), some (.ref 13), some (.int l2), none], [.int 16, .int l2], hX c T)) rfl ?_
    refine ev_icmp_eq (tgt := 71) rfl rfl (fun h => ?_) (fun h => ?_)
    · replace H := H.1 (h)
      refine ev_ex 5 (c' := (89, [some (.ref 21), some (.ref 13), some (.int l2), some (.int 1)], [], hX c T)) rfl ?_
      exact ev_less (lle_of (L := [some (.ref 21), some (.ref 13), some (.int l2), none]) ⟨rfl, ⟨rfl, ⟨rfl, trivial⟩⟩⟩) H
    · replace H := H.2 (h)
      refine ev_ex 2 (c' := (68, [some (.ref 21), some (.ref 13), some (.int l2), none], [.int 31, .int l2], hX c T)) rfl ?_
      refine ev_icmp_ne (tgt := 75) rfl rfl (fun h => ?_) (fun h => ?_)
      · replace H := H.1 (h)
        refine ev_ex 6 (c' := (84, [some (.ref 21), some (.ref 13), some (.int l2), some (.int 0)], [.int 29, .int l2], hX c T)) rfl ?_
        refine ev_icmp_eq (tgt := 89) rfl rfl (fun h => ?_) (fun h => ?_)
        · replace H := H.1 (h)
          exact ev_less (lle_of (L := [some (.ref 21), some (.ref 13), some (.int l2), none]) ⟨rfl, ⟨rfl, ⟨rfl, trivial⟩⟩⟩) H
        · replace H := H.2 (h)
          refine ev_ex 1 (c' := (88, [some (.ref 21), some (.ref 13), some (.int l2), some (.int 0)], [.int 2], hX c T)) rfl ?_
          exact ev_ret rfl rfl rfl ⟨_, _, rfl, rfl, H⟩
      · replace H := H.2 (h)
        refine ev_ex 5 (c' := (89, [some (.ref 21), some (.ref 13), some (.int l2), some (.int 1)], [], hX c T)) rfl ?_
        exact ev_less (lle_of (L := [some (.ref 21), some (.ref 13), some (.int l2), none]) ⟨rfl, ⟨rfl, ⟨rfl, trivial⟩⟩⟩) H
set_option maxRecDepth 8000 in
theorem wx_Lr_takeBeginning_89 {c : CX} {d : Nat} {T : XS} {Q : Int32 → XS → Prop} (l2 : Int32) (H : ((¬ (xI T 21 5) = 6 → XV c d m_Lr_push [.ref 21, .int l2] (tI T 21 5 ((xI T 21 5) + 1)) (fun T51 => ((¬ l2 = 31 → eX c (d + 1) m_Lr_takeBeginning 131 [some (.ref 21), some (.ref 13), some (.int l2), none] T51 (yI c Q)) ∧ (l2 = 31 → eX c (d + 1) m_Lr_takeBeginning 131 [some (.ref 21), some (.ref 13), some (.int l2), none] (tI T51 21 7 ((xI T51 21 7) + 1)) (yI c Q))))) ∧ ((xI T 21 5) = 6 → Q 4 T))) : eX c (d + 1) m_Lr_takeBeginning 89 [some (.ref 21), some (.ref 13), some (.int l2), none] T (yI c Q) := by
  unfold eX
  refine ev_ex 0 (c' := (89, [some (.ref 21), some (.ref 13), some (.int l2), none], [], hX c T)) rfl ?_
  refine ev_ex 1 (c' := (90, [some (.ref 21), some (.ref 13), some (.int l2), none], [.ref 21], hX c T)) rfl ?_
  refine xe_gf (ci := 5) (k := 5) rfl rfl (ob_lit (i := 5) rfl (by decide) rfl) ⟨by decide, by decide⟩ (v := .int (xI T 21 5)) rfl ?_
  refine ev_ex 1 (c' := (95, [some (.ref 21), some (.ref 13), some (.int l2), none], [.int 6, .int (xI T 21 5)], hX c T)) rfl ?_
  refine ev_icmp_ne (tgt := 100) rfl rfl (fun h => ?_) (fun h => ?_)
  · replace H := H.1 (h)
    refine ev_ex 2 (c' := (102, [some (.ref 21), some (.ref 13), some (.int l2), none], [.ref 21, .ref 21], hX c T)) rfl ?_
    refine xe_gf (ci := 5) (k := 5) rfl rfl (ob_lit (i := 5) rfl (by decide) rfl) ⟨by decide, by decide⟩ (v := .int (xI T 21 5)) rfl ?_
    refine ev_ex 2 (c' := (107, [some (.ref 21), some (.ref 13), some (.int l2), none], [.int ((xI T 21 5) + 1), .ref 21], hX c T)) rfl ?_
    refine xe_pi (ci := 5) (k := 5) rfl rfl (ob_lit (i := 5) rfl (by decide) rfl) ⟨by decide, by decide⟩ (Nat.le_of_ble_eq_true rfl) rfl (fi_5_5 _ _ _) ?_
    refine ev_ex 2 (c' := (112, [some (.ref 21), some (.ref 13), some (.int l2), none], [.int l2, .ref 21], hX c (tI T 21 5 ((xI T 21 5) + 1)))) rfl ?_
    refine xc_V (idx := 84) rfl rfl rfl (Nat.le_of_ble_eq_true rfl) (Nat.le_of_ble_eq_true rfl) (x_rcv (T := tI T 21 5 ((xI T 21 5) + 1)) (ob_lit (i := 5) rfl (by decide) rfl) ⟨by decide, by decide⟩ _ _) H (fun T51 H => ?_)
    refine ev_ex 2 (c' := (118, [some (.ref 21), some (.ref 13), some (.int l2), none], [.int 31, .int l2], hX c T51)) rfl ?_
    refine ev_icmp_ne (tgt := 131) rfl rfl (fun h => ?_) (fun h => ?_)
    · replace H := H.1 (h)
      exact H
    · replace H := H.2 (h)
      refine ev_ex 2 (c' := (123, [some (.ref 21), some (.ref 13), some (.int l2), none], [.ref 21, .ref 21], hX c T51)) rfl ?_
      refine xe_gf (ci := 5) (k := 7) rfl rfl (ob_lit (i := 5) rfl (by decide) rfl) ⟨by decide, by decide⟩ (v := .int (xI T51 21 7)) rfl ?_
      refine ev_ex 2 (c' := (128, [some (.ref 21), some (.ref 13), some (.int l2), none], [.int ((xI T51 21 7) + 1), .ref 21], hX c T51)) rfl ?_
      refine xe_pi (ci := 5) (k := 7) rfl rfl (ob_lit (i := 5) rfl (by decide) rfl) ⟨by decide, by decide⟩ (Nat.le_of_ble_eq_true rfl) rfl (fi_5_7 _ _ _) ?_
      exact H
  · replace H := H.2 (h)
    refine ev_ex 1 (c' := (99, [some (.ref 21), some (.ref 13), some (.int l2), none], [.int 4], hX c T)) rfl ?_
    exact ev_ret rfl rfl rfl ⟨_, _, rfl, rfl, H⟩
set_option maxRecDepth 8000 in
theorem wx_Lr_takeBeginning_131 {c : CX} {d : Nat} {T : XS} {Q : Int32 → XS → Prop} (l2 : Int32) (H : ((¬ l2 = 29 → Q 0 T) ∧ (l2 = 29 → Q 0 (tI (tI T 21 6 ((xI T 21 6) + 1)) 21 4 1)))) : eX c (d + 1) m_Lr_takeBeginning 131 [some (.ref 21), some (.ref 13), some (.int l2), none] T (yI c Q) := by
  unfold eX
  refine ev_ex 0 (c' := (131, [some (.ref 21), some (.ref 13), some (.int l2), none], [], hX c T)) rfl ?_
  refine ev_ex 2 (c' := (134, [some (.ref 21), some (.ref 13), some (.int l2), none], [.int 29, .int l2], hX c T)) rfl ?_
  refine ev_icmp_ne (tgt := 152) rfl rfl (fun h => ?_) (fun h => ?_)
  · replace H := H.1 (h)
    refine ev_ex 1 (c' := (153, [some (.ref 21), some (.ref 13), some (.int l2), none], [.int 0], hX c T)) rfl ?_
    exact ev_ret rfl rfl rfl ⟨_, _, rfl, rfl, H⟩
  · replace H := H.2 (h)
    refine ev_ex 2 (c' := (139, [some (.ref 21), some (.ref 13), some (.int l2), none], [.ref 21, .ref 21], hX c T)) rfl ?_
    refine xe_gf (ci := 5) (k := 6) rfl rfl (ob_lit (i := 5) rfl (by decide) rfl) ⟨by decide, by decide⟩ (v := .int (xI T 21 6)) rfl ?_
    refine ev_ex 2 (c' := (144, [some (.ref 21), some (.ref 13), some (.int l2), none], [.int ((xI T 21 6) + 1), .ref 21], hX c T)) rfl ?_
    refine xe_pi (ci := 5) (k := 6) rfl rfl (ob_lit (i := 5) rfl (by decide) rfl) ⟨by decide, by decide⟩ (Nat.le_of_ble_eq_true rfl) rfl (fi_5_6 _ _ _) ?_
    refine ev_ex 2 (c' := (149, [some (.ref 21), some (.ref 13), some (.int l2), none], [.int 1, .ref 21], hX c (tI T 21 6 ((xI T 21 6) + 1)))) rfl ?_
    refine xe_pi (ci := 5) (k := 4) rfl rfl (ob_lit (i := 5) rfl (by decide) rfl) ⟨by decide, by decide⟩ (Nat.le_of_ble_eq_true rfl) rfl (fi_5_4 _ _ _) ?_
    refine ev_ex 1 (c' := (153, [some (.ref 21), some (.ref 13), some (.int l2), none], [.int 0], hX c (tI (tI T 21 6 ((xI T 21 6) + 1)) 21 4 1))) rfl ?_
    exact ev_ret rfl rfl rfl ⟨_, _, rfl, rfl, H⟩
set_option maxRecDepth 8000 in
theorem wx_Lr_takeJoint {c : CX} {d : Nat} {T : XS} {Q : Int32 → XS → Prop} (a0 : Int32) (H : XB c d m_Lr_canJoin [.ref 21, .int a0] T (fun v2 T1 => ((v2 = true → XV c d m_Lr_unwind [.ref 21, .int (stg a0)] T1 (fun T3 => ((a0 = 30 → XV c d m_Lr_takeShut [.ref 21, .int a0] T3 (fun T4 => Q 0 T4)) ∧ (¬ a0 = 30 → ((¬ a0 = 32 → XV c d m_Lr_push [.ref 21, .int a0] T3 (fun T5 => ((a0 = 15 → Q 0 (tI (tI T5 21 8 0) 21 4 0)) ∧ (¬ a0 = 15 → ((¬ a0 = 14 → ((a0 = 33 → Q 0 (tI (tI T5 21 8 1) 21 4 1)) ∧ (¬ a0 = 33 → ((a0 = 34 → Q 0 (tI (tI T5 21 8 1) 21 4 1)) ∧ (¬ a0 = 34 → ((¬ a0 = 35 → Q 0 (tI T5 21 4 1)) ∧ (a0 = 35 → Q 0 (tI (tI T5 21 8 1) 21 4 1)))))))) ∧ (a0 = 14 → Q 0 (tI (tI T5 21 8 0) 21 4 0))))))) ∧ (a0 = 32 → XV c d m_Lr_takeShut [.ref 21, .int a0] T3 (fun T6 => Q 0 T6))))))) ∧ (v2 = false → Q 2 T1)))) : XI c (d + 1) m_Lr_takeJoint [.ref 21, .int a0] T Q := by
  refine ⟨q_Lr_takeJoint, rfl, Nat.le_of_ble_eq_true rfl, ?_⟩
  refine ev_ex 0 (c' := (0, [some (.ref 21), some (.int a0)], [], hX c T)) rfl ?_
  refine ev_ex 2 (c' := (2, [some (.ref 21), some (.int a0)], [.int a0, .ref 21], hX c T)) rfl ?_
  refine xc_B (idx := 87) rfl rfl rfl (Nat.le_of_ble_eq_true rfl) (Nat.le_of_ble_eq_true rfl) (x_rcv (T := T) (ob_lit (i := 5) rfl (by decide) rfl) ⟨by decide, by decide⟩ _ _) H (fun v2 T1 H => ?_)
  refine ev_if_neB (x := v2) (tgt := 10) rfl rfl (fun h => ?_) (fun h => ?_)
  · replace H := H.1 (h)
    refine ev_ex 2 (c' := (12, [some (.ref 21), some (.int a0)], [.int a0, .ref 21], hX c T1)) rfl ?_
    refine xq_I (idx := 90) (V := stg a0) (S := T1) rfl rfl rfl (Nat.le_of_ble_eq_true rfl) (Nat.le_of_ble_eq_true rfl) rfl (zx_Lr_strength ⟨rfl, rfl⟩) ?_
    refine xc_V (idx := 53) rfl rfl rfl (Nat.le_of_ble_eq_true rfl) (Nat.le_of_ble_eq_true rfl) (x_rcv (T := T1) (ob_lit (i := 5) rfl (by decide) rfl) ⟨by decide, by decide⟩ _ _) H (fun T3 H => ?_)
    refine ev_ex 2 (c' := (21, [some (.ref 21), some (.int a0)], [.int 30, .int a0], hX c T3)) rfl ?_
    refine ev_icmp_eq (tgt := 30) rfl rfl (fun h => ?_) (fun h => ?_)
    · replace H := H.1 (h)
      refine ev_ex 2 (c' := (32, [some (.ref 21), some (.int a0)], [.int a0, .ref 21], hX c T3)) rfl ?_
      refine xc_V (idx := 93) rfl rfl rfl (Nat.le_of_ble_eq_true rfl) (Nat.le_of_ble_eq_true rfl) (x_rcv (T := T3) (ob_lit (i := 5) rfl (by decide) rfl) ⟨by decide, by decide⟩ _ _) H (fun T4 H => ?_)
      refine ev_ex 1 (c' := (36, [some (.ref 21), some (.int a0)], [.int 0], hX c T4)) rfl ?_
      exact ev_ret rfl rfl rfl ⟨_, _, rfl, rfl, H⟩
    · replace H := H.2 (h)
      refine ev_ex 2 (c' := (27, [some (.ref 21), some (.int a0)], [.int 32, .int a0], hX c T3)) rfl ?_
      refine ev_icmp_ne (tgt := 37) rfl rfl (fun h => ?_) (fun h => ?_)
      · replace H := H.1 (h)
        refine ev_ex 2 (c' := (39, [some (.ref 21), some (.int a0)], [.int a0, .ref 21], hX c T3)) rfl ?_
        refine xc_V (idx := 84) rfl rfl rfl (Nat.le_of_ble_eq_true rfl) (Nat.le_of_ble_eq_true rfl) (x_rcv (T := T3) (ob_lit (i := 5) rfl (by decide) rfl) ⟨by decide, by decide⟩ _ _) H (fun T5 H => ?_)
        refine ev_ex 2 (c' := (45, [some (.ref 21), some (.int a0)], [.int 15, .int a0], hX c T5)) rfl ?_
        refine ev_icmp_eq (tgt := 54) rfl rfl (fun h => ?_) (fun h => ?_)
        · replace H := H.1 (h)
          refine ev_ex 2 (c' := (56, [some (.ref 21), some (.int a0)], [.int 0, .ref 21], hX c T5)) rfl ?_
          refine xe_pi (ci := 5) (k := 8) rfl rfl (ob_lit (i := 5) rfl (by decide) rfl) ⟨by decide, by decide⟩ (Nat.le_of_ble_eq_true rfl) rfl (fi_5_8 _ _ _) ?_
          refine ev_ex 2 (c' := (61, [some (.ref 21), some (.int a0)], [.int 0, .ref 21], hX c (tI T5 21 8 0))) rfl ?_
          refine xe_pi (ci := 5) (k := 4) rfl rfl (ob_lit (i := 5) rfl (by decide) rfl) ⟨by decide, by decide⟩ (Nat.le_of_ble_eq_true rfl) rfl (fi_5_4 _ _ _) ?_
          refine ev_ex 1 (c' := (65, [some (.ref 21), some (.int a0)], [.int 0], hX c (tI (tI T5 21 8 0) 21 4 0))) rfl ?_
          exact ev_ret rfl rfl rfl ⟨_, _, rfl, rfl, H⟩
        · replace H := H.2 (h)
          refine ev_ex 2 (c' := (51, [some (.ref 21), some (.int a0)], [.int 14, .int a0], hX c T5)) rfl ?_
          refine ev_icmp_ne (tgt := 66) rfl rfl (fun h => ?_) (fun h => ?_)
          · replace H := H.1 (h)
            refine ev_ex 2 (c' := (69, [some (.ref 21), some (.int a0)], [.int 33, .int a0], hX c T5)) rfl ?_
            refine ev_icmp_eq (tgt := 84) rfl rfl (fun h => ?_) (fun h => ?_)
            · replace H := H.1 (h)
              refine ev_ex 2 (c' := (86, [some (.ref 21), some (.int a0)], [.int 1, .ref 21], hX c T5)) rfl ?_
              refine xe_pi (ci := 5) (k := 8) rfl rfl (ob_lit (i := 5) rfl (by decide) rfl) ⟨by decide, by decide⟩ (Nat.le_of_ble_eq_true rfl) rfl (fi_5_8 _ _ _) ?_
              refine ev_ex 2 (c' := (91, [some (.ref 21), some (.int a0)], [.int 1, .ref 21], hX c (tI T5 21 8 1))) rfl ?_
              refine xe_pi (ci := 5) (k := 4) rfl rfl (ob_lit (i := 5) rfl (by decide) rfl) ⟨by decide, by decide⟩ (Nat.le_of_ble_eq_true rfl) rfl (fi_5_4 _ _ _) ?_
              refine ev_ex 1 (c' := (95, [some (.ref 21), some (.int a0)], [.int 0], hX c (tI (tI T5 21 8 1) 21 4 1))) rfl ?_
              exact ev_ret rfl rfl rfl ⟨_, _, rfl, rfl, H⟩
            · replace H := H.2 (h)
              refine ev_ex 2 (c' := (75, [some (.ref 21), some (.int a0)], [.int 34, .int a0], hX c T5)) rfl ?_
              refine ev_icmp_eq (tgt := 84) rfl rfl (fun h => ?_) (fun h => ?_)
              · replace H := H.1 (h)
                refine ev_ex 2 (c' := (86, [some (.ref 21), some (.int a0)], [.int 1, .ref 21], hX c T5)) rfl ?_
                refine xe_pi (ci := 5) (k := 8) rfl rfl (ob_lit (i := 5) rfl (by decide) rfl) ⟨by decide, by decide⟩ (Nat.le_of_ble_eq_true rfl) rfl (fi_5_8 _ _ _) ?_
                refine ev_ex 2 (c' := (91, [some (.ref 21), some (.int a0)], [.int 1, .ref 21], hX c (tI T5 21 8 1))) rfl ?_
                refine xe_pi (ci := 5) (k := 4) rfl rfl (ob_lit (i := 5) rfl (by decide) rfl) ⟨by decide, by decide⟩ (Nat.le_of_ble_eq_true rfl) rfl (fi_5_4 _ _ _) ?_
                refine ev_ex 1 (c' := (95, [some (.ref 21), some (.int a0)], [.int 0], hX c (tI (tI T5 21 8 1) 21 4 1))) rfl ?_
                exact ev_ret rfl rfl rfl ⟨_, _, rfl, rfl, H⟩
              · replace H := H.2 (h)
                refine ev_ex 2 (c' := (81, [some (.ref 21), some (.int a0)], [.int 35, .int a0], hX c T5)) rfl ?_
                refine ev_icmp_ne (tgt := 89) rfl rfl (fun h => ?_) (fun h => ?_)
                · replace H := H.1 (h)
                  refine ev_ex 2 (c' := (91, [some (.ref 21), some (.int a0)], [.int 1, .ref 21], hX c T5)) rfl ?_
                  refine xe_pi (ci := 5) (k := 4) rfl rfl (ob_lit (i := 5) rfl (by decide) rfl) ⟨by decide, by decide⟩ (Nat.le_of_ble_eq_true rfl) rfl (fi_5_4 _ _ _) ?_
                  refine ev_ex 1 (c' := (95, [some (.ref 21), some (.int a0)], [.int 0], hX c (tI T5 21 4 1))) rfl ?_
                  exact ev_ret rfl rfl rfl ⟨_, _, rfl, rfl, H⟩
                · replace H := H.2 (h)
                  refine ev_ex 2 (c' := (86, [some (.ref 21), some (.int a0)], [.int 1, .ref 21], hX c T5)) rfl ?_
                  refine xe_pi (ci := 5) (k := 8) rfl rfl (ob_lit (i := 5) rfl (by decide) rfl) ⟨by decide, by decide⟩ (Nat.le_of_ble_eq_true rfl) rfl (fi_5_8 _ _ _) ?_
                  refine ev_ex 2 (c' := (91, [some (.ref 21), some (.int a0)], [.int 1, .ref 21], hX c (tI T5 21 8 1))) rfl ?_
                  refine xe_pi (ci := 5) (k := 4) rfl rfl (ob_lit (i := 5) rfl (by decide) rfl) ⟨by decide, by decide⟩ (Nat.le_of_ble_eq_true rfl) rfl (fi_5_4 _ _ _) ?_
                  refine ev_ex 1 (c' := (95, [some (.ref 21), some (.int a0)], [.int 0], hX c (tI (tI T5 21 8 1) 21 4 1))) rfl ?_
                  exact ev_ret rfl rfl rfl ⟨_, _, rfl, rfl, H⟩
          · replace H := H.2 (h)
            refine ev_ex 2 (c' := (56, [some (.ref 21), some (.int a0)], [.int 0, .ref 21], hX c T5)) rfl ?_
            refine xe_pi (ci := 5) (k := 8) rfl rfl (ob_lit (i := 5) rfl (by decide) rfl) ⟨by decide, by decide⟩ (Nat.le_of_ble_eq_true rfl) rfl (fi_5_8 _ _ _) ?_
            refine ev_ex 2 (c' := (61, [some (.ref 21), some (.int a0)], [.int 0, .ref 21], hX c (tI T5 21 8 0))) rfl ?_
            refine xe_pi (ci := 5) (k := 4) rfl rfl (ob_lit (i := 5) rfl (by decide) rfl) ⟨by decide, by decide⟩ (Nat.le_of_ble_eq_true rfl) rfl (fi_5_4 _ _ _) ?_
            refine ev_ex 1 (c' := (65, [some (.ref 21), some (.int a0)], [.int 0], hX c (tI (tI T5 21 8 0) 21 4 0))) rfl ?_
            exact ev_ret rfl rfl rfl ⟨_, _, rfl, rfl, H⟩
      · replace H := H.2 (h)
        refine ev_ex 2 (c' := (32, [some (.ref 21), some (.int a0)], [.int a0, .ref 21], hX c T3)) rfl ?_
        refine xc_V (idx := 93) rfl rfl rfl (Nat.le_of_ble_eq_true rfl) (Nat.le_of_ble_eq_true rfl) (x_rcv (T := T3) (ob_lit (i := 5) rfl (by decide) rfl) ⟨by decide, by decide⟩ _ _) H (fun T6 H => ?_)
        refine ev_ex 1 (c' := (36, [some (.ref 21), some (.int a0)], [.int 0], hX c T6)) rfl ?_
        exact ev_ret rfl rfl rfl ⟨_, _, rfl, rfl, H⟩
  · replace H := H.2 (h)
    refine ev_ex 1 (c' := (9, [some (.ref 21), some (.int a0)], [.int 2], hX c T1)) rfl ?_
    exact ev_ret rfl rfl rfl ⟨_, _, rfl, rfl, H⟩
set_option maxRecDepth 8000 in
theorem wx_Lr_emit {c : CX} {d : Nat} {T : XS} {Q : XS → Prop} (a0 : Int32) (H : ((900 ≤ (xI T 21 1) → Q T) ∧ (¬ 900 ≤ (xI T 21 1) → (okx (xI T 21 1) 900 ∧ Q (tI (tA T 25 (ix (xI T 21 1)) a0) 21 1 ((xI T 21 1) + 1)))))) : XV c (d) m_Lr_emit [.ref 21, .int a0] T Q := by
  refine ⟨q_Lr_emit, rfl, Nat.le_of_ble_eq_true rfl, ?_⟩
  refine ev_ex 0 (c' := (0, [some (.ref 21), some (.int a0)], [], hX c T)) rfl ?_
  refine ev_ex 1 (c' := (1, [some (.ref 21), some (.int a0)], [.ref 21], hX c T)) rfl ?_
  refine xe_gf (ci := 5) (k := 1) rfl rfl (ob_lit (i := 5) rfl (by decide) rfl) ⟨by decide, by decide⟩ (v := .int (xI T 21 1)) rfl ?_
  refine ev_ex 1 (c' := (5, [some (.ref 21), some (.int a0)], [.ref 21, .int (xI T 21 1)], hX c T)) rfl ?_
  refine xe_gf (ci := 5) (k := 0) rfl rfl (ob_lit (i := 5) rfl (by decide) rfl) ⟨by decide, by decide⟩ (v := .ref 25) rfl ?_
  refine xe_len (kd := 20) rfl (ar_lit (i := 6) rfl (by decide) rfl) (by decide) ?_
  refine ev_ex 0 (c' := (9, [some (.ref 21), some (.int a0)], [.int 900, .int (xI T 21 1)], hX c T)) rfl ?_
  refine ev_icmp_ge (tgt := 32) rfl rfl (fun h => ?_) (fun h => ?_)
  · replace H := H.1 (h)
    exact ev_ret rfl rfl rfl ⟨_, rfl, rfl, H⟩
  · replace H := H.2 (h)
    refine ev_ex 1 (c' := (13, [some (.ref 21), some (.int a0)], [.ref 21], hX c T)) rfl ?_
    refine xe_gf (ci := 5) (k := 0) rfl rfl (ob_lit (i := 5) rfl (by decide) rfl) ⟨by decide, by decide⟩ (v := .ref 25) rfl ?_
    refine ev_ex 1 (c' := (17, [some (.ref 21), some (.int a0)], [.ref 21, .ref 25], hX c T)) rfl ?_
    refine xe_gf (ci := 5) (k := 1) rfl rfl (ob_lit (i := 5) rfl (by decide) rfl) ⟨by decide, by decide⟩ (v := .int (xI T 21 1)) rfl ?_
    refine ev_ex 1 (c' := (21, [some (.ref 21), some (.int a0)], [.int a0, .int (xI T 21 1), .ref 25], hX c T)) rfl ?_
    obtain ⟨H0, H⟩ := H
    refine xe_as rfl (ar_lit (i := 6) rfl (by decide) rfl) H0 ?_
    refine ev_ex 2 (c' := (24, [some (.ref 21), some (.int a0)], [.ref 21, .ref 21], hX c (tA T 25 (ix (xI T 21 1)) a0))) rfl ?_
    refine xe_gf (ci := 5) (k := 1) rfl rfl (ob_lit (i := 5) rfl (by decide) rfl) ⟨by decide, by decide⟩ (v := .int (xI T 21 1)) rfl ?_
    refine ev_ex 2 (c' := (29, [some (.ref 21), some (.int a0)], [.int ((xI T 21 1) + 1), .ref 21], hX c (tA T 25 (ix (xI T 21 1)) a0))) rfl ?_
    refine xe_pi (ci := 5) (k := 1) rfl rfl (ob_lit (i := 5) rfl (by decide) rfl) ⟨by decide, by decide⟩ (Nat.le_of_ble_eq_true rfl) rfl (fi_5_1 _ _ _) ?_
    exact ev_ret rfl rfl rfl ⟨_, rfl, rfl, H⟩
set_option maxRecDepth 8000 in
theorem wx_Lr_push {c : CX} {d : Nat} {T : XS} {Q : XS → Prop} (a0 : Int32) (H : ((64 ≤ (xI T 21 3) → Q T) ∧ (¬ 64 ≤ (xI T 21 3) → (okx (xI T 21 3) 64 ∧ Q (tI (tA T 29 (ix (xI T 21 3)) a0) 21 3 ((xI T 21 3) + 1)))))) : XV c (d) m_Lr_push [.ref 21, .int a0] T Q := by
  refine ⟨q_Lr_push, rfl, Nat.le_of_ble_eq_true rfl, ?_⟩
  refine ev_ex 0 (c' := (0, [some (.ref 21), some (.int a0)], [], hX c T)) rfl ?_
  refine ev_ex 1 (c' := (1, [some (.ref 21), some (.int a0)], [.ref 21], hX c T)) rfl ?_
  refine xe_gf (ci := 5) (k := 3) rfl rfl (ob_lit (i := 5) rfl (by decide) rfl) ⟨by decide, by decide⟩ (v := .int (xI T 21 3)) rfl ?_
  refine ev_ex 1 (c' := (5, [some (.ref 21), some (.int a0)], [.ref 21, .int (xI T 21 3)], hX c T)) rfl ?_
  refine xe_gf (ci := 5) (k := 2) rfl rfl (ob_lit (i := 5) rfl (by decide) rfl) ⟨by decide, by decide⟩ (v := .ref 29) rfl ?_
  refine xe_len (kd := 20) rfl (ar_lit (i := 7) rfl (by decide) rfl) (by decide) ?_
  refine ev_ex 0 (c' := (9, [some (.ref 21), some (.int a0)], [.int 64, .int (xI T 21 3)], hX c T)) rfl ?_
  refine ev_icmp_ge (tgt := 32) rfl rfl (fun h => ?_) (fun h => ?_)
  · replace H := H.1 (h)
    exact ev_ret rfl rfl rfl ⟨_, rfl, rfl, H⟩
  · replace H := H.2 (h)
    refine ev_ex 1 (c' := (13, [some (.ref 21), some (.int a0)], [.ref 21], hX c T)) rfl ?_
    refine xe_gf (ci := 5) (k := 2) rfl rfl (ob_lit (i := 5) rfl (by decide) rfl) ⟨by decide, by decide⟩ (v := .ref 29) rfl ?_
    refine ev_ex 1 (c' := (17, [some (.ref 21), some (.int a0)], [.ref 21, .ref 29], hX c T)) rfl ?_
    refine xe_gf (ci := 5) (k := 3) rfl rfl (ob_lit (i := 5) rfl (by decide) rfl) ⟨by decide, by decide⟩ (v := .int (xI T 21 3)) rfl ?_
    refine ev_ex 1 (c' := (21, [some (.ref 21), some (.int a0)], [.int a0, .int (xI T 21 3), .ref 29], hX c T)) rfl ?_
    obtain ⟨H0, H⟩ := H
    refine xe_as rfl (ar_lit (i := 7) rfl (by decide) rfl) H0 ?_
    refine ev_ex 2 (c' := (24, [some (.ref 21), some (.int a0)], [.ref 21, .ref 21], hX c (tA T 29 (ix (xI T 21 3)) a0))) rfl ?_
    refine xe_gf (ci := 5) (k := 3) rfl rfl (ob_lit (i := 5) rfl (by decide) rfl) ⟨by decide, by decide⟩ (v := .int (xI T 21 3)) rfl ?_
    refine ev_ex 2 (c' := (29, [some (.ref 21), some (.int a0)], [.int ((xI T 21 3) + 1), .ref 21], hX c (tA T 29 (ix (xI T 21 3)) a0))) rfl ?_
    refine xe_pi (ci := 5) (k := 3) rfl rfl (ob_lit (i := 5) rfl (by decide) rfl) ⟨by decide, by decide⟩ (Nat.le_of_ble_eq_true rfl) rfl (fi_5_3 _ _ _) ?_
    exact ev_ret rfl rfl rfl ⟨_, rfl, rfl, H⟩
set_option maxRecDepth 8000 in
theorem wx_Lr_canJoin {c : CX} {d : Nat} {T : XS} {Q : Bool → XS → Prop} (a0 : Int32) (H : ((a0 = 14 → XB c d m_Lr_unitEnds [.ref 21] T (fun v2 T1 => Q v2 T1)) ∧ (a0 = 15 → XB c d m_Lr_unitEnds [.ref 21] T (fun v4 T3 => Q v4 T3)) ∧ (a0 = 26 → ((¬ (xI T 21 4) = 2 → Q false T) ∧ ((xI T 21 4) = 2 → Q true T))) ∧ (a0 = 27 → ((¬ (xI T 21 4) = 2 → Q false T) ∧ ((xI T 21 4) = 2 → Q true T))) ∧ (a0 = 28 → ((¬ (xI T 21 4) = 2 → Q false T) ∧ ((xI T 21 4) = 2 → Q true T))) ∧ (a0 = 30 → (((xI T 21 6) ≤ 0 → Q false T) ∧ (¬ (xI T 21 6) ≤ 0 → Q true T))) ∧ (a0 = 32 → XB c d m_Lr_unitEnds [.ref 21] T (fun v6 T5 => ((v6 = false → Q false T5) ∧ (v6 = true → (((xI T5 21 7) ≤ 0 → Q false T5) ∧ (¬ (xI T5 21 7) ≤ 0 → Q true T5)))))) ∧ (a0 = 33 → ((¬ (xI T 21 6) = 0 → Q false T) ∧ ((xI T 21 6) = 0 → (∃ q7 : Bool, xI T 21 8 = bI q7 ∧ ((q7 = true → Q false T) ∧ (q7 = false → Q true T)))))) ∧ (a0 = 34 → ((¬ (xI T 21 6) = 0 → Q false T) ∧ ((xI T 21 6) = 0 → (∃ q9 : Bool, xI T 21 8 = bI q9 ∧ ((q9 = true → Q false T) ∧ (q9 = false → Q true T)))))) ∧ (a0 = 35 → ((¬ (xI T 21 6) = 0 → Q false T) ∧ ((xI T 21 6) = 0 → (∃ q11 : Bool, xI T 21 8 = bI q11 ∧ ((q11 = true → Q false T) ∧ (q11 = false → Q true T)))))) ∧ (¬ a0 = 14 ∧ ¬ a0 = 15 ∧ ¬ a0 = 26 ∧ ¬ a0 = 27 ∧ ¬ a0 = 28 ∧ ¬ a0 = 30 ∧ ¬ a0 = 32 ∧ ¬ a0 = 33 ∧ ¬ a0 = 34 ∧ ¬ a0 = 35 → Q false T))) : XB c (d + 1) m_Lr_canJoin [.ref 21, .int a0] T Q := by
  refine ⟨q_Lr_canJoin, rfl, Nat.le_of_ble_eq_true rfl, ?_⟩
  refine ev_ex 0 (c' := (0, [some (.ref 21), some (.int a0)], [], hX c T)) rfl ?_
  refine ev_ex 1 (c' := (1, [some (.ref 21), some (.int a0)], [.int a0], hX c T)) rfl ?_
  by_cases h0 : a0 = 14
  · refine ev_sw h0 (tgt := 138) rfl rfl ?_
    replace H := H.1 h0
    refine ev_ex 1 (c' := (139, [some (.ref 21), some (.int a0)], [.ref 21], hX c T)) rfl ?_
    refine xc_B (idx := 49) rfl rfl rfl (Nat.le_of_ble_eq_true rfl) (Nat.le_of_ble_eq_true rfl) (x_rcv (T := T) (ob_lit (i := 5) rfl (by decide) rfl) ⟨by decide, by decide⟩ _ _) H (fun v2 T1 H => ?_)
    exact ev_retB (x := v2) rfl rfl ⟨_, _, rfl, rfl, H⟩
  by_cases h1 : a0 = 15
  · refine ev_sw h1 (tgt := 138) rfl rfl ?_
    replace H := H.2.1 h1
    refine ev_ex 1 (c' := (139, [some (.ref 21), some (.int a0)], [.ref 21], hX c T)) rfl ?_
    refine xc_B (idx := 49) rfl rfl rfl (Nat.le_of_ble_eq_true rfl) (Nat.le_of_ble_eq_true rfl) (x_rcv (T := T) (ob_lit (i := 5) rfl (by decide) rfl) ⟨by decide, by decide⟩ _ _) H (fun v4 T3 H => ?_)
    exact ev_retB (x := v4) rfl rfl ⟨_, _, rfl, rfl, H⟩
  by_cases h2 : a0 = 26
  · refine ev_sw h2 (tgt := 104) rfl rfl ?_
    replace H := H.2.2.1 h2
    refine ev_ex 1 (c' := (105, [some (.ref 21), some (.int a0)], [.ref 21], hX c T)) rfl ?_
    refine xe_gf (ci := 5) (k := 4) rfl rfl (ob_lit (i := 5) rfl (by decide) rfl) ⟨by decide, by decide⟩ (v := .int (xI T 21 4)) rfl ?_
    refine ev_ex 1 (c' := (109, [some (.ref 21), some (.int a0)], [.int 2, .int (xI T 21 4)], hX c T)) rfl ?_
    refine ev_icmp_ne (tgt := 116) rfl rfl (fun h => ?_) (fun h => ?_)
    · replace H := H.1 (h)
      refine ev_ex 1 (c' := (117, [some (.ref 21), some (.int a0)], [.int 0], hX c T)) rfl ?_
      exact ev_retB (x := false) rfl rfl ⟨_, _, rfl, rfl, H⟩
    · replace H := H.2 (h)
      refine ev_ex 2 (c' := (117, [some (.ref 21), some (.int a0)], [.int 1], hX c T)) rfl ?_
      exact ev_retB (x := true) rfl rfl ⟨_, _, rfl, rfl, H⟩
  by_cases h3 : a0 = 27
  · refine ev_sw h3 (tgt := 104) rfl rfl ?_
    replace H := H.2.2.2.1 h3
    refine ev_ex 1 (c' := (105, [some (.ref 21), some (.int a0)], [.ref 21], hX c T)) rfl ?_
    refine xe_gf (ci := 5) (k := 4) rfl rfl (ob_lit (i := 5) rfl (by decide) rfl) ⟨by decide, by decide⟩ (v := .int (xI T 21 4)) rfl ?_
    refine ev_ex 1 (c' := (109, [some (.ref 21), some (.int a0)], [.int 2, .int (xI T 21 4)], hX c T)) rfl ?_
    refine ev_icmp_ne (tgt := 116) rfl rfl (fun h => ?_) (fun h => ?_)
    · replace H := H.1 (h)
      refine ev_ex 1 (c' := (117, [some (.ref 21), some (.int a0)], [.int 0], hX c T)) rfl ?_
      exact ev_retB (x := false) rfl rfl ⟨_, _, rfl, rfl, H⟩
    · replace H := H.2 (h)
      refine ev_ex 2 (c' := (117, [some (.ref 21), some (.int a0)], [.int 1], hX c T)) rfl ?_
      exact ev_retB (x := true) rfl rfl ⟨_, _, rfl, rfl, H⟩
  by_cases h4 : a0 = 28
  · refine ev_sw h4 (tgt := 104) rfl rfl ?_
    replace H := H.2.2.2.2.1 h4
    refine ev_ex 1 (c' := (105, [some (.ref 21), some (.int a0)], [.ref 21], hX c T)) rfl ?_
    refine xe_gf (ci := 5) (k := 4) rfl rfl (ob_lit (i := 5) rfl (by decide) rfl) ⟨by decide, by decide⟩ (v := .int (xI T 21 4)) rfl ?_
    refine ev_ex 1 (c' := (109, [some (.ref 21), some (.int a0)], [.int 2, .int (xI T 21 4)], hX c T)) rfl ?_
    refine ev_icmp_ne (tgt := 116) rfl rfl (fun h => ?_) (fun h => ?_)
    · replace H := H.1 (h)
      refine ev_ex 1 (c' := (117, [some (.ref 21), some (.int a0)], [.int 0], hX c T)) rfl ?_
      exact ev_retB (x := false) rfl rfl ⟨_, _, rfl, rfl, H⟩
    · replace H := H.2 (h)
      refine ev_ex 2 (c' := (117, [some (.ref 21), some (.int a0)], [.int 1], hX c T)) rfl ?_
      exact ev_retB (x := true) rfl rfl ⟨_, _, rfl, rfl, H⟩
  by_cases h5 : a0 = 30
  · refine ev_sw h5 (tgt := 143) rfl rfl ?_
    replace H := H.2.2.2.2.2.1 h5
    refine ev_ex 1 (c' := (144, [some (.ref 21), some (.int a0)], [.ref 21], hX c T)) rfl ?_
    refine xe_gf (ci := 5) (k := 6) rfl rfl (ob_lit (i := 5) rfl (by decide) rfl) ⟨by decide, by decide⟩ (v := .int (xI T 21 6)) rfl ?_
    refine ev_if_le (tgt := 154) rfl rfl (fun h => ?_) (fun h => ?_)
    · replace H := H.1 (h)
      refine ev_ex 1 (c' := (155, [some (.ref 21), some (.int a0)], [.int 0], hX c T)) rfl ?_
      exact ev_retB (x := false) rfl rfl ⟨_, _, rfl, rfl, H⟩
    · replace H := H.2 (h)
      refine ev_ex 2 (c' := (155, [some (.ref 21), some (.int a0)], [.int 1], hX c T)) rfl ?_
      exact ev_retB (x := true) rfl rfl ⟨_, _, rfl, rfl, H⟩
  by_cases h6 : a0 = 32
  · refine ev_sw h6 (tgt := 156) rfl rfl ?_
    replace H := H.2.2.2.2.2.2.1 h6
    refine ev_ex 1 (c' := (157, [some (.ref 21), some (.int a0)], [.ref 21], hX c T)) rfl ?_
    refine xc_B (idx := 49) rfl rfl rfl (Nat.le_of_ble_eq_true rfl) (Nat.le_of_ble_eq_true rfl) (x_rcv (T := T) (ob_lit (i := 5) rfl (by decide) rfl) ⟨by decide, by decide⟩ _ _) H (fun v6 T5 H => ?_)
    refine ev_if_eqB (x := v6) (tgt := 174) rfl rfl (fun h => ?_) (fun h => ?_)
    · replace H := H.1 (h)
      refine ev_ex 1 (c' := (175, [some (.ref 21), some (.int a0)], [.int 0], hX c T5)) rfl ?_
      exact ev_retB (x := false) rfl rfl ⟨_, _, rfl, rfl, H⟩
    · replace H := H.2 (h)
      refine ev_ex 1 (c' := (164, [some (.ref 21), some (.int a0)], [.ref 21], hX c T5)) rfl ?_
      refine xe_gf (ci := 5) (k := 7) rfl rfl (ob_lit (i := 5) rfl (by decide) rfl) ⟨by decide, by decide⟩ (v := .int (xI T5 21 7)) rfl ?_
      refine ev_if_le (tgt := 174) rfl rfl (fun h => ?_) (fun h => ?_)
      · replace H := H.1 (h)
        refine ev_ex 1 (c' := (175, [some (.ref 21), some (.int a0)], [.int 0], hX c T5)) rfl ?_
        exact ev_retB (x := false) rfl rfl ⟨_, _, rfl, rfl, H⟩
      · replace H := H.2 (h)
        refine ev_ex 2 (c' := (175, [some (.ref 21), some (.int a0)], [.int 1], hX c T5)) rfl ?_
        exact ev_retB (x := true) rfl rfl ⟨_, _, rfl, rfl, H⟩
  by_cases h7 : a0 = 33
  · refine ev_sw h7 (tgt := 118) rfl rfl ?_
    replace H := H.2.2.2.2.2.2.2.1 h7
    refine ev_ex 1 (c' := (119, [some (.ref 21), some (.int a0)], [.ref 21], hX c T)) rfl ?_
    refine xe_gf (ci := 5) (k := 6) rfl rfl (ob_lit (i := 5) rfl (by decide) rfl) ⟨by decide, by decide⟩ (v := .int (xI T 21 6)) rfl ?_
    refine ev_if_ne (tgt := 136) rfl rfl (fun h => ?_) (fun h => ?_)
    · replace H := H.1 (h)
      refine ev_ex 1 (c' := (137, [some (.ref 21), some (.int a0)], [.int 0], hX c T)) rfl ?_
      exact ev_retB (x := false) rfl rfl ⟨_, _, rfl, rfl, H⟩
    · replace H := H.2 (h)
      refine ev_ex 1 (c' := (126, [some (.ref 21), some (.int a0)], [.ref 21], hX c T)) rfl ?_
      obtain ⟨q7, h8, H⟩ := H
      refine xe_gf (ci := 5) (k := 8) rfl rfl (ob_lit (i := 5) rfl (by decide) rfl) ⟨by decide, by decide⟩ (v := .int (bI q7)) (by rw [← h8]; rfl) ?_
      refine ev_if_neB (x := q7) (tgt := 136) rfl rfl (fun h => ?_) (fun h => ?_)
      · replace H := H.1 (h)
        refine ev_ex 1 (c' := (137, [some (.ref 21), some (.int a0)], [.int 0], hX c T)) rfl ?_
        exact ev_retB (x := false) rfl rfl ⟨_, _, rfl, rfl, H⟩
      · replace H := H.2 (h)
        refine ev_ex 2 (c' := (137, [some (.ref 21), some (.int a0)], [.int 1], hX c T)) rfl ?_
        exact ev_retB (x := true) rfl rfl ⟨_, _, rfl, rfl, H⟩
  by_cases h8 : a0 = 34
  · refine ev_sw h8 (tgt := 118) rfl rfl ?_
    replace H := H.2.2.2.2.2.2.2.2.1 h8
    refine ev_ex 1 (c' := (119, [some (.ref 21), some (.int a0)], [.ref 21], hX c T)) rfl ?_
    refine xe_gf (ci := 5) (k := 6) rfl rfl (ob_lit (i := 5) rfl (by decide) rfl) ⟨by decide, by decide⟩ (v := .int (xI T 21 6)) rfl ?_
    refine ev_if_ne (tgt := 136) rfl rfl (fun h => ?_) (fun h => ?_)
    · replace H := H.1 (h)
      refine ev_ex 1 (c' := (137, [some (.ref 21), some (.int a0)], [.int 0], hX c T)) rfl ?_
      exact ev_retB (x := false) rfl rfl ⟨_, _, rfl, rfl, H⟩
    · replace H := H.2 (h)
      refine ev_ex 1 (c' := (126, [some (.ref 21), some (.int a0)], [.ref 21], hX c T)) rfl ?_
      obtain ⟨q9, h10, H⟩ := H
      refine xe_gf (ci := 5) (k := 8) rfl rfl (ob_lit (i := 5) rfl (by decide) rfl) ⟨by decide, by decide⟩ (v := .int (bI q9)) (by rw [← h10]; rfl) ?_
      refine ev_if_neB (x := q9) (tgt := 136) rfl rfl (fun h => ?_) (fun h => ?_)
      · replace H := H.1 (h)
        refine ev_ex 1 (c' := (137, [some (.ref 21), some (.int a0)], [.int 0], hX c T)) rfl ?_
        exact ev_retB (x := false) rfl rfl ⟨_, _, rfl, rfl, H⟩
      · replace H := H.2 (h)
        refine ev_ex 2 (c' := (137, [some (.ref 21), some (.int a0)], [.int 1], hX c T)) rfl ?_
        exact ev_retB (x := true) rfl rfl ⟨_, _, rfl, rfl, H⟩
  by_cases h9 : a0 = 35
  · refine ev_sw h9 (tgt := 118) rfl rfl ?_
    replace H := H.2.2.2.2.2.2.2.2.2.1 h9
    refine ev_ex 1 (c' := (119, [some (.ref 21), some (.int a0)], [.ref 21], hX c T)) rfl ?_
    refine xe_gf (ci := 5) (k := 6) rfl rfl (ob_lit (i := 5) rfl (by decide) rfl) ⟨by decide, by decide⟩ (v := .int (xI T 21 6)) rfl ?_
    refine ev_if_ne (tgt := 136) rfl rfl (fun h => ?_) (fun h => ?_)
    · replace H := H.1 (h)
      refine ev_ex 1 (c' := (137, [some (.ref 21), some (.int a0)], [.int 0], hX c T)) rfl ?_
      exact ev_retB (x := false) rfl rfl ⟨_, _, rfl, rfl, H⟩
    · replace H := H.2 (h)
      refine ev_ex 1 (c' := (126, [some (.ref 21), some (.int a0)], [.ref 21], hX c T)) rfl ?_
      obtain ⟨q11, h12, H⟩ := H
      refine xe_gf (ci := 5) (k := 8) rfl rfl (ob_lit (i := 5) rfl (by decide) rfl) ⟨by decide, by decide⟩ (v := .int (bI q11)) (by rw [← h12]; rfl) ?_
      refine ev_if_neB (x := q11) (tgt := 136) rfl rfl (fun h => ?_) (fun h => ?_)
      · replace H := H.1 (h)
        refine ev_ex 1 (c' := (137, [some (.ref 21), some (.int a0)], [.int 0], hX c T)) rfl ?_
        exact ev_retB (x := false) rfl rfl ⟨_, _, rfl, rfl, H⟩
      · replace H := H.2 (h)
        refine ev_ex 2 (c' := (137, [some (.ref 21), some (.int a0)], [.int 1], hX c T)) rfl ?_
        exact ev_retB (x := true) rfl rfl ⟨_, _, rfl, rfl, H⟩
  replace H := H.2.2.2.2.2.2.2.2.2.2 ⟨h0, h1, h2, h3, h4, h5, h6, h7, h8, h9⟩
  refine ev_tswh (tgt := 176) (hs := [16, 17, 18, 19, 20, 21, 22, 23, 24, 25, 29, 31]) rfl (by have e0 := i32_ne h0 (z := 14) rfl; have e1 := i32_ne h1 (z := 15) rfl; have e2 := i32_ne h2 (z := 26) rfl; have e3 := i32_ne h3 (z := 27) rfl; have e4 := i32_ne h4 (z := 28) rfl; have e5 := i32_ne h5 (z := 30) rfl; have e6 := i32_ne h6 (z := 32) rfl; have e7 := i32_ne h7 (z := 33) rfl; have e8 := i32_ne h8 (z := 34) rfl; have e9 := i32_ne h9 (z := 35) rfl; simp only [List.mem_cons, List.not_mem_nil, or_false]; omega) (by decide) rfl ?_
  refine ev_ex 1 (c' := (177, [some (.ref 21), some (.int a0)], [.int 0], hX c T)) rfl ?_
  exact ev_retB (x := false) rfl rfl ⟨_, _, rfl, rfl, H⟩
set_option maxRecDepth 8000 in
theorem wx_Lr_takeShut {c : CX} {d : Nat} {T : XS} {Q : XS → Prop} (a0 : Int32) (H : (((xI T 21 3) ≤ 0 → ((¬ a0 = 30 → Q (tI (tI T 21 7 ((xI T 21 7) - 1)) 21 4 3)) ∧ (a0 = 30 → Q (tI T 21 6 ((xI T 21 6) - 1))))) ∧ (¬ (xI T 21 3) ≤ 0 → ((¬ a0 = 30 → Q (tI (tI (tI (tI T 21 3 ((xI T 21 3) - 1)) 21 5 ((xI T 21 5) - 1)) 21 7 ((xI T 21 7) - 1)) 21 4 3)) ∧ (a0 = 30 → Q (tI (tI (tI T 21 3 ((xI T 21 3) - 1)) 21 5 ((xI T 21 5) - 1)) 21 6 ((xI T 21 6) - 1))))))) : XV c (d) m_Lr_takeShut [.ref 21, .int a0] T Q := by
  refine ⟨q_Lr_takeShut, rfl, Nat.le_of_ble_eq_true rfl, ?_⟩
  refine ev_ex 0 (c' := (0, [some (.ref 21), some (.int a0)], [], hX c T)) rfl ?_
  refine ev_ex 1 (c' := (1, [some (.ref 21), some (.int a0)], [.ref 21], hX c T)) rfl ?_
  refine xe_gf (ci := 5) (k := 3) rfl rfl (ob_lit (i := 5) rfl (by decide) rfl) ⟨by decide, by decide⟩ (v := .int (xI T 21 3)) rfl ?_
  refine ev_if_le (tgt := 27) rfl rfl (fun h => ?_) (fun h => ?_)
  · replace H := H.1 (h)
    refine ev_ex 2 (c' := (30, [some (.ref 21), some (.int a0)], [.int 30, .int a0], hX c T)) rfl ?_
    refine ev_icmp_ne (tgt := 46) rfl rfl (fun h => ?_) (fun h => ?_)
    · replace H := H.1 (h)
      refine ev_ex 2 (c' := (48, [some (.ref 21), some (.int a0)], [.ref 21, .ref 21], hX c T)) rfl ?_
      refine xe_gf (ci := 5) (k := 7) rfl rfl (ob_lit (i := 5) rfl (by decide) rfl) ⟨by decide, by decide⟩ (v := .int (xI T 21 7)) rfl ?_
      refine ev_ex 2 (c' := (53, [some (.ref 21), some (.int a0)], [.int ((xI T 21 7) - 1), .ref 21], hX c T)) rfl ?_
      refine xe_pi (ci := 5) (k := 7) rfl rfl (ob_lit (i := 5) rfl (by decide) rfl) ⟨by decide, by decide⟩ (Nat.le_of_ble_eq_true rfl) rfl (fi_5_7 _ _ _) ?_
      refine ev_ex 2 (c' := (58, [some (.ref 21), some (.int a0)], [.int 3, .ref 21], hX c (tI T 21 7 ((xI T 21 7) - 1)))) rfl ?_
      refine xe_pi (ci := 5) (k := 4) rfl rfl (ob_lit (i := 5) rfl (by decide) rfl) ⟨by decide, by decide⟩ (Nat.le_of_ble_eq_true rfl) rfl (fi_5_4 _ _ _) ?_
      exact ev_ret rfl rfl rfl ⟨_, rfl, rfl, H⟩
    · replace H := H.2 (h)
      refine ev_ex 2 (c' := (35, [some (.ref 21), some (.int a0)], [.ref 21, .ref 21], hX c T)) rfl ?_
      refine xe_gf (ci := 5) (k := 6) rfl rfl (ob_lit (i := 5) rfl (by decide) rfl) ⟨by decide, by decide⟩ (v := .int (xI T 21 6)) rfl ?_
      refine ev_ex 2 (c' := (40, [some (.ref 21), some (.int a0)], [.int ((xI T 21 6) - 1), .ref 21], hX c T)) rfl ?_
      refine xe_pi (ci := 5) (k := 6) rfl rfl (ob_lit (i := 5) rfl (by decide) rfl) ⟨by decide, by decide⟩ (Nat.le_of_ble_eq_true rfl) rfl (fi_5_6 _ _ _) ?_
      refine ev_ex 1 (c' := (61, [some (.ref 21), some (.int a0)], [], hX c (tI T 21 6 ((xI T 21 6) - 1)))) rfl ?_
      exact ev_ret rfl rfl rfl ⟨_, rfl, rfl, H⟩
  · replace H := H.2 (h)
    refine ev_ex 2 (c' := (9, [some (.ref 21), some (.int a0)], [.ref 21, .ref 21], hX c T)) rfl ?_
    refine xe_gf (ci := 5) (k := 3) rfl rfl (ob_lit (i := 5) rfl (by decide) rfl) ⟨by decide, by decide⟩ (v := .int (xI T 21 3)) rfl ?_
    refine ev_ex 2 (c' := (14, [some (.ref 21), some (.int a0)], [.int ((xI T 21 3) - 1), .ref 21], hX c T)) rfl ?_
    refine xe_pi (ci := 5) (k := 3) rfl rfl (ob_lit (i := 5) rfl (by decide) rfl) ⟨by decide, by decide⟩ (Nat.le_of_ble_eq_true rfl) rfl (fi_5_3 _ _ _) ?_
    refine ev_ex 2 (c' := (19, [some (.ref 21), some (.int a0)], [.ref 21, .ref 21], hX c (tI T 21 3 ((xI T 21 3) - 1)))) rfl ?_
    refine xe_gf (ci := 5) (k := 5) rfl rfl (ob_lit (i := 5) rfl (by decide) rfl) ⟨by decide, by decide⟩ (v := .int (xI T 21 5)) rfl ?_
    refine ev_ex 2 (c' := (24, [some (.ref 21), some (.int a0)], [.int ((xI T 21 5) - 1), .ref 21], hX c (tI T 21 3 ((xI T 21 3) - 1)))) rfl ?_
    refine xe_pi (ci := 5) (k := 5) rfl rfl (ob_lit (i := 5) rfl (by decide) rfl) ⟨by decide, by decide⟩ (Nat.le_of_ble_eq_true rfl) rfl (fi_5_5 _ _ _) ?_
    refine ev_ex 2 (c' := (30, [some (.ref 21), some (.int a0)], [.int 30, .int a0], hX c (tI (tI T 21 3 ((xI T 21 3) - 1)) 21 5 ((xI T 21 5) - 1)))) rfl ?_
    refine ev_icmp_ne (tgt := 46) rfl rfl (fun h => ?_) (fun h => ?_)
    · replace H := H.1 (h)
      refine ev_ex 2 (c' := (48, [some (.ref 21), some (.int a0)], [.ref 21, .ref 21], hX c (tI (tI T 21 3 ((xI T 21 3) - 1)) 21 5 ((xI T 21 5) - 1)))) rfl ?_
      refine xe_gf (ci := 5) (k := 7) rfl rfl (ob_lit (i := 5) rfl (by decide) rfl) ⟨by decide, by decide⟩ (v := .int (xI T 21 7)) rfl ?_
      refine ev_ex 2 (c' := (53, [some (.ref 21), some (.int a0)], [.int ((xI T 21 7) - 1), .ref 21], hX c (tI (tI T 21 3 ((xI T 21 3) - 1)) 21 5 ((xI T 21 5) - 1)))) rfl ?_
      refine xe_pi (ci := 5) (k := 7) rfl rfl (ob_lit (i := 5) rfl (by decide) rfl) ⟨by decide, by decide⟩ (Nat.le_of_ble_eq_true rfl) rfl (fi_5_7 _ _ _) ?_
      refine ev_ex 2 (c' := (58, [some (.ref 21), some (.int a0)], [.int 3, .ref 21], hX c (tI (tI (tI T 21 3 ((xI T 21 3) - 1)) 21 5 ((xI T 21 5) - 1)) 21 7 ((xI T 21 7) - 1)))) rfl ?_
      refine xe_pi (ci := 5) (k := 4) rfl rfl (ob_lit (i := 5) rfl (by decide) rfl) ⟨by decide, by decide⟩ (Nat.le_of_ble_eq_true rfl) rfl (fi_5_4 _ _ _) ?_
      exact ev_ret rfl rfl rfl ⟨_, rfl, rfl, H⟩
    · replace H := H.2 (h)
      refine ev_ex 2 (c' := (35, [some (.ref 21), some (.int a0)], [.ref 21, .ref 21], hX c (tI (tI T 21 3 ((xI T 21 3) - 1)) 21 5 ((xI T 21 5) - 1)))) rfl ?_
      refine xe_gf (ci := 5) (k := 6) rfl rfl (ob_lit (i := 5) rfl (by decide) rfl) ⟨by decide, by decide⟩ (v := .int (xI T 21 6)) rfl ?_
      refine ev_ex 2 (c' := (40, [some (.ref 21), some (.int a0)], [.int ((xI T 21 6) - 1), .ref 21], hX c (tI (tI T 21 3 ((xI T 21 3) - 1)) 21 5 ((xI T 21 5) - 1)))) rfl ?_
      refine xe_pi (ci := 5) (k := 6) rfl rfl (ob_lit (i := 5) rfl (by decide) rfl) ⟨by decide, by decide⟩ (Nat.le_of_ble_eq_true rfl) rfl (fi_5_6 _ _ _) ?_
      refine ev_ex 1 (c' := (61, [some (.ref 21), some (.int a0)], [], hX c (tI (tI (tI T 21 3 ((xI T 21 3) - 1)) 21 5 ((xI T 21 5) - 1)) 21 6 ((xI T 21 6) - 1)))) rfl ?_
      exact ev_ret rfl rfl rfl ⟨_, rfl, rfl, H⟩
set_option maxRecDepth 8000 in
theorem wx_Rd_faultKind {c : CX} {d : Nat} {T : XS} {Q : Int32 → XS → Prop}  (H : Q (xI T 13 6) T) : XI c (d) m_Rd_faultKind [.ref 9] T Q := by
  refine ⟨q_Rd_faultKind, rfl, Nat.le_of_ble_eq_true rfl, ?_⟩
  refine ev_ex 0 (c' := (0, [some (.ref 9)], [], hX c T)) rfl ?_
  refine ev_ex 1 (c' := (1, [some (.ref 9)], [.ref 9], hX c T)) rfl ?_
  refine xe_gf (ci := 7) (k := 0) rfl rfl (ob_lit (i := 2) rfl (by decide) rfl) ⟨by decide, by decide⟩ (v := .ref 13) rfl ?_
  refine xe_gf (ci := 10) (k := 6) rfl rfl (ob_lit (i := 3) rfl (by decide) rfl) ⟨by decide, by decide⟩ (v := .int (xI T 13 6)) rfl ?_
  exact ev_ret rfl rfl rfl ⟨_, _, rfl, rfl, H⟩
set_option maxRecDepth 8000 in
theorem wx_Rd_faultPlace {c : CX} {d : Nat} {T : XS} {Q : Int32 → XS → Prop}  (H : Q (xI T 13 7) T) : XI c (d) m_Rd_faultPlace [.ref 9] T Q := by
  refine ⟨q_Rd_faultPlace, rfl, Nat.le_of_ble_eq_true rfl, ?_⟩
  refine ev_ex 0 (c' := (0, [some (.ref 9)], [], hX c T)) rfl ?_
  refine ev_ex 1 (c' := (1, [some (.ref 9)], [.ref 9], hX c T)) rfl ?_
  refine xe_gf (ci := 7) (k := 0) rfl rfl (ob_lit (i := 2) rfl (by decide) rfl) ⟨by decide, by decide⟩ (v := .ref 13) rfl ?_
  refine xe_gf (ci := 10) (k := 7) rfl rfl (ob_lit (i := 3) rfl (by decide) rfl) ⟨by decide, by decide⟩ (v := .int (xI T 13 7)) rfl ?_
  exact ev_ret rfl rfl rfl ⟨_, _, rfl, rfl, H⟩
set_option maxRecDepth 8000 in
theorem wx_Rd_readLine {c : CX} {d : Nat} {T : XS} {Q : Bool → XS → Prop}  (H : (((xI T 13 4) = 0 → XB c d m_Rd_readGuild [.ref 9] T (fun v2 T1 => Q v2 T1)) ∧ ((xI T 13 4) = 1 → XB c d m_Rd_readMocks [.ref 9] T (fun v4 T3 => Q v4 T3)) ∧ ((xI T 13 4) = 2 → XO c d m_Lr_read [.ref 21, .ref 13] T (fun v6 T5 => ((v6 = none → Q false (tR T5 9 9 v6)) ∧ (∀ b7, v6 = some b7 → Q true (tR T5 9 9 v6))))) ∧ ((xI T 13 4) = 3 → XO c d m_Lr_read [.ref 21, .ref 13] T (fun v9 T8 => ((v9 = none → Q false (tR T8 9 10 v9)) ∧ (∀ b10, v9 = some b10 → Q true (tR T8 9 10 v9))))) ∧ ((xI T 13 4) = 4 → XB c d m_Rd_readStreet [.ref 9] T (fun v12 T11 => Q v12 T11)) ∧ (¬ (xI T 13 4) = 0 ∧ ¬ (xI T 13 4) = 1 ∧ ¬ (xI T 13 4) = 2 ∧ ¬ (xI T 13 4) = 3 ∧ ¬ (xI T 13 4) = 4 → XB c d m_Tk_refuse [.ref 13, .int 2] T (fun v14 T13 => Q v14 T13)))) : XB c (d + 1) m_Rd_readLine [.ref 9] T Q := by
  refine ⟨q_Rd_readLine, rfl, Nat.le_of_ble_eq_true rfl, ?_⟩
  refine ev_ex 0 (c' := (0, [some (.ref 9)], [], hX c T)) rfl ?_
  refine ev_ex 1 (c' := (1, [some (.ref 9)], [.ref 9], hX c T)) rfl ?_
  refine xe_gf (ci := 7) (k := 0) rfl rfl (ob_lit (i := 2) rfl (by decide) rfl) ⟨by decide, by decide⟩ (v := .ref 13) rfl ?_
  refine xe_gf (ci := 10) (k := 4) rfl rfl (ob_lit (i := 3) rfl (by decide) rfl) ⟨by decide, by decide⟩ (v := .int (xI T 13 4)) rfl ?_
  by_cases h0 : (xI T 13 4) = 0
  · refine ev_sw h0 (tgt := 40) rfl rfl ?_
    replace H := H.1 h0
    refine ev_ex 1 (c' := (41, [some (.ref 9)], [.ref 9], hX c T)) rfl ?_
    refine xc_B (idx := 79) rfl rfl rfl (Nat.le_of_ble_eq_true rfl) (Nat.le_of_ble_eq_true rfl) (x_rcv (T := T) (ob_lit (i := 2) rfl (by decide) rfl) ⟨by decide, by decide⟩ _ _) H (fun v2 T1 H => ?_)
    exact ev_retB (x := v2) rfl rfl ⟨_, _, rfl, rfl, H⟩
  by_cases h1 : (xI T 13 4) = 1
  · refine ev_sw h1 (tgt := 45) rfl rfl ?_
    replace H := H.2.1 h1
    refine ev_ex 1 (c' := (46, [some (.ref 9)], [.ref 9], hX c T)) rfl ?_
    refine xc_B (idx := 82) rfl rfl rfl (Nat.le_of_ble_eq_true rfl) (Nat.le_of_ble_eq_true rfl) (x_rcv (T := T) (ob_lit (i := 2) rfl (by decide) rfl) ⟨by decide, by decide⟩ _ _) H (fun v4 T3 H => ?_)
    exact ev_retB (x := v4) rfl rfl ⟨_, _, rfl, rfl, H⟩
  by_cases h2 : (xI T 13 4) = 2
  · refine ev_sw h2 (tgt := 50) rfl rfl ?_
    replace H := H.2.2.1 h2
    refine ev_ex 2 (c' := (52, [some (.ref 9)], [.ref 9, .ref 9], hX c T)) rfl ?_
    refine xe_gf (ci := 7) (k := 1) rfl rfl (ob_lit (i := 2) rfl (by decide) rfl) ⟨by decide, by decide⟩ (v := .ref 21) rfl ?_
    refine ev_ex 1 (c' := (56, [some (.ref 9)], [.ref 9, .ref 21, .ref 9], hX c T)) rfl ?_
    refine xe_gf (ci := 7) (k := 0) rfl rfl (ob_lit (i := 2) rfl (by decide) rfl) ⟨by decide, by decide⟩ (v := .ref 13) rfl ?_
    refine xc_O (idx := 85) rfl rfl rfl (Nat.le_of_ble_eq_true rfl) (Nat.le_of_ble_eq_true rfl) (x_rcv (T := T) (ob_lit (i := 5) rfl (by decide) rfl) ⟨by decide, by decide⟩ _ _) H (fun v6 T5 H => ?_)
    refine ev_ex 0 (c' := (62, [some (.ref 9)], [va_rf v6, .ref 9], hX c T5)) rfl ?_
    refine xe_pr (ci := 7) (k := 9) (x := v6) rfl rfl (ob_lit (i := 2) rfl (by decide) rfl) ⟨by decide, by decide⟩ (Nat.le_of_ble_eq_true rfl) (fr_7_9 _ _ _ (frx_put (Or.inr rfl))) ?_
    refine ev_ex 1 (c' := (66, [some (.ref 9)], [.ref 9], hX c (tR T5 9 9 v6))) rfl ?_
    refine xe_gf (ci := 7) (k := 9) rfl rfl (ob_lit (i := 2) rfl (by decide) rfl) ⟨by decide, by decide⟩ (v := va_rf v6) rfl ?_
    refine xe_nul (e := v6) (tgt := 76) rfl rfl (fun hb => ?_) (fun b7 hb => ?_)
    · replace H := H.1 hb
      refine ev_ex 0 (c' := (76, [some (.ref 9)], [], hX c (tR T5 9 9 v6))) rfl ?_
      refine ev_ex 1 (c' := (77, [some (.ref 9)], [.int 0], hX c (tR T5 9 9 v6))) rfl ?_
      exact ev_retB (x := false) rfl rfl ⟨_, _, rfl, rfl, H⟩
    · replace H := H.2 b7 hb
      refine ev_ex 0 (c' := (72, [some (.ref 9)], [], hX c (tR T5 9 9 v6))) rfl ?_
      refine ev_ex 2 (c' := (77, [some (.ref 9)], [.int 1], hX c (tR T5 9 9 v6))) rfl ?_
      exact ev_retB (x := true) rfl rfl ⟨_, _, rfl, rfl, H⟩
  by_cases h3 : (xI T 13 4) = 3
  · refine ev_sw h3 (tgt := 78) rfl rfl ?_
    replace H := H.2.2.2.1 h3
    refine ev_ex 2 (c' := (80, [some (.ref 9)], [.ref 9, .ref 9], hX c T)) rfl ?_
    refine xe_gf (ci := 7) (k := 1) rfl rfl (ob_lit (i := 2) rfl (by decide) rfl) ⟨by decide, by decide⟩ (v := .ref 21) rfl ?_
    refine ev_ex 1 (c' := (84, [some (.ref 9)], [.ref 9, .ref 21, .ref 9], hX c T)) rfl ?_
    refine xe_gf (ci := 7) (k := 0) rfl rfl (ob_lit (i := 2) rfl (by decide) rfl) ⟨by decide, by decide⟩ (v := .ref 13) rfl ?_
    refine xc_O (idx := 85) rfl rfl rfl (Nat.le_of_ble_eq_true rfl) (Nat.le_of_ble_eq_true rfl) (x_rcv (T := T) (ob_lit (i := 5) rfl (by decide) rfl) ⟨by decide, by decide⟩ _ _) H (fun v9 T8 H => ?_)
    refine ev_ex 0 (c' := (90, [some (.ref 9)], [va_rf v9, .ref 9], hX c T8)) rfl ?_
    refine xe_pr (ci := 7) (k := 10) (x := v9) rfl rfl (ob_lit (i := 2) rfl (by decide) rfl) ⟨by decide, by decide⟩ (Nat.le_of_ble_eq_true rfl) (fr_7_10 _ _ _ (frx_put (Or.inr rfl))) ?_
    refine ev_ex 1 (c' := (94, [some (.ref 9)], [.ref 9], hX c (tR T8 9 10 v9))) rfl ?_
    refine xe_gf (ci := 7) (k := 10) rfl rfl (ob_lit (i := 2) rfl (by decide) rfl) ⟨by decide, by decide⟩ (v := va_rf v9) rfl ?_
    refine xe_nul (e := v9) (tgt := 104) rfl rfl (fun hb => ?_) (fun b10 hb => ?_)
    · replace H := H.1 hb
      refine ev_ex 0 (c' := (104, [some (.ref 9)], [], hX c (tR T8 9 10 v9))) rfl ?_
      refine ev_ex 1 (c' := (105, [some (.ref 9)], [.int 0], hX c (tR T8 9 10 v9))) rfl ?_
      exact ev_retB (x := false) rfl rfl ⟨_, _, rfl, rfl, H⟩
    · replace H := H.2 b10 hb
      refine ev_ex 0 (c' := (100, [some (.ref 9)], [], hX c (tR T8 9 10 v9))) rfl ?_
      refine ev_ex 2 (c' := (105, [some (.ref 9)], [.int 1], hX c (tR T8 9 10 v9))) rfl ?_
      exact ev_retB (x := true) rfl rfl ⟨_, _, rfl, rfl, H⟩
  by_cases h4 : (xI T 13 4) = 4
  · refine ev_sw h4 (tgt := 106) rfl rfl ?_
    replace H := H.2.2.2.2.1 h4
    refine ev_ex 1 (c' := (107, [some (.ref 9)], [.ref 9], hX c T)) rfl ?_
    refine xc_B (idx := 89) rfl rfl rfl (Nat.le_of_ble_eq_true rfl) (Nat.le_of_ble_eq_true rfl) (x_rcv (T := T) (ob_lit (i := 2) rfl (by decide) rfl) ⟨by decide, by decide⟩ _ _) H (fun v12 T11 H => ?_)
    exact ev_retB (x := v12) rfl rfl ⟨_, _, rfl, rfl, H⟩
  replace H := H.2.2.2.2.2 ⟨h0, h1, h2, h3, h4⟩
  refine ev_tswd (tgt := 111) rfl (by have e0 := i32_ne h0 (z := 0) rfl; have e1 := i32_ne h1 (z := 1) rfl; have e2 := i32_ne h2 (z := 2) rfl; have e3 := i32_ne h3 (z := 3) rfl; have e4 := i32_ne h4 (z := 4) rfl; omega) rfl ?_
  refine ev_ex 1 (c' := (112, [some (.ref 9)], [.ref 9], hX c T)) rfl ?_
  refine xe_gf (ci := 7) (k := 0) rfl rfl (ob_lit (i := 2) rfl (by decide) rfl) ⟨by decide, by decide⟩ (v := .ref 13) rfl ?_
  refine ev_ex 1 (c' := (116, [some (.ref 9)], [.int 2, .ref 13], hX c T)) rfl ?_
  refine xc_B (idx := 92) rfl rfl rfl (Nat.le_of_ble_eq_true rfl) (Nat.le_of_ble_eq_true rfl) (x_rcv (T := T) (ob_lit (i := 3) rfl (by decide) rfl) ⟨by decide, by decide⟩ _ _) H (fun v14 T13 H => ?_)
  exact ev_retB (x := v14) rfl rfl ⟨_, _, rfl, rfl, H⟩
set_option maxRecDepth 8000 in
theorem wx_Rd_readGuild {c : CX} {d : Nat} {T : XS} {Q : Bool → XS → Prop}  (H : (((xI T 9 7) < 10 → (okx (xI T 9 7) 10 ∧ eX c (d + 1) m_Rd_readGuild 42 [some (.ref 9), some (.int (xI T 9 7)), some (.int 0), none] (tA (tI T 9 7 ((xI T 9 7) + 1)) 37 (ix (xI T 9 7)) ((-1))) (yB c Q))) ∧ (¬ (xI T 9 7) < 10 → XB c d m_Tk_refuse [.ref 13, .int 4] T (fun v2 T1 => Q v2 T1)))) : XB c (d + 1) m_Rd_readGuild [.ref 9] T Q := by
  refine ⟨q_Rd_readGuild, rfl, Nat.le_of_ble_eq_true rfl, ?_⟩
  refine ev_ex 0 (c' := (0, [some (.ref 9), none, none, none], [], hX c T)) rfl ?_
  refine ev_ex 1 (c' := (1, [some (.ref 9), none, none, none], [.ref 9], hX c T)) rfl ?_
  refine xe_gf (ci := 7) (k := 7) rfl rfl (ob_lit (i := 2) rfl (by decide) rfl) ⟨by decide, by decide⟩ (v := .int (xI T 9 7)) rfl ?_
  refine ev_ex 1 (c' := (6, [some (.ref 9), none, none, none], [.int 10, .int (xI T 9 7)], hX c T)) rfl ?_
  refine ev_icmp_lt (tgt := 18) rfl rfl (fun h => ?_) (fun h => ?_)
  · replace H := H.1 (h)
    refine ev_ex 1 (c' := (19, [some (.ref 9), none, none, none], [.ref 9], hX c T)) rfl ?_
    refine xe_gf (ci := 7) (k := 7) rfl rfl (ob_lit (i := 2) rfl (by decide) rfl) ⟨by decide, by decide⟩ (v := .int (xI T 9 7)) rfl ?_
    refine ev_ex 3 (c' := (25, [some (.ref 9), some (.int (xI T 9 7)), none, none], [.ref 9, .ref 9], hX c T)) rfl ?_
    refine xe_gf (ci := 7) (k := 7) rfl rfl (ob_lit (i := 2) rfl (by decide) rfl) ⟨by decide, by decide⟩ (v := .int (xI T 9 7)) rfl ?_
    refine ev_ex 2 (c' := (30, [some (.ref 9), some (.int (xI T 9 7)), none, none], [.int ((xI T 9 7) + 1), .ref 9], hX c T)) rfl ?_
    refine xe_pi (ci := 7) (k := 7) rfl rfl (ob_lit (i := 2) rfl (by decide) rfl) ⟨by decide, by decide⟩ (Nat.le_of_ble_eq_true rfl) rfl (fi_7_7 _ _ _) ?_
    refine ev_ex 1 (c' := (34, [some (.ref 9), some (.int (xI T 9 7)), none, none], [.ref 9], hX c (tI T 9 7 ((xI T 9 7) + 1)))) rfl ?_
    refine xe_gf (ci := 7) (k := 3) rfl rfl (ob_lit (i := 2) rfl (by decide) rfl) ⟨by decide, by decide⟩ (v := .ref 37) rfl ?_
    refine ev_ex 2 (c' := (39, [some (.ref 9), some (.int (xI T 9 7)), none, none], [.int ((-1)), .int (xI T 9 7), .ref 37], hX c (tI T 9 7 ((xI T 9 7) + 1)))) rfl ?_
    obtain ⟨H0, H⟩ := H
    refine xe_as rfl (ar_lit (i := 9) rfl (by decide) rfl) H0 ?_
    refine ev_ex 2 (c' := (42, [some (.ref 9), some (.int (xI T 9 7)), some (.int 0), none], [], hX c (tA (tI T 9 7 ((xI T 9 7) + 1)) 37 (ix (xI T 9 7)) ((-1))))) rfl ?_
    exact H
  · replace H := H.2 (h)
    refine ev_ex 1 (c' := (10, [some (.ref 9), none, none, none], [.ref 9], hX c T)) rfl ?_
    refine xe_gf (ci := 7) (k := 0) rfl rfl (ob_lit (i := 2) rfl (by decide) rfl) ⟨by decide, by decide⟩ (v := .ref 13) rfl ?_
    refine ev_ex 1 (c' := (14, [some (.ref 9), none, none, none], [.int 4, .ref 13], hX c T)) rfl ?_
    refine xc_B (idx := 92) rfl rfl rfl (Nat.le_of_ble_eq_true rfl) (Nat.le_of_ble_eq_true rfl) (x_rcv (T := T) (ob_lit (i := 3) rfl (by decide) rfl) ⟨by decide, by decide⟩ _ _) H (fun v2 T1 H => ?_)
    exact ev_retB (x := v2) rfl rfl ⟨_, _, rfl, rfl, H⟩
set_option maxRecDepth 8000 in
theorem wx_Rd_readGuild_42 {c : CX} {d : Nat} {T : XS} {Q : Bool → XS → Prop} (l1 : Int32) (l2 : Int32) (H : ((5 ≤ l2 → eX c (d + 1) m_Rd_readGuild 71 [some (.ref 9), some (.int l1), some (.int 0), none] T (yB c Q)) ∧ (¬ 5 ≤ l2 → (okx l2 5 ∧ (okx ((l2 * 10) + l1) 50 ∧ eX c (d + 1) m_Rd_readGuild 42 [some (.ref 9), some (.int l1), some (.int (l2 + 1)), none] (tA T 33 (ix ((l2 * 10) + l1)) (([(0), (1), (0), (0), (0)].getD (ix l2) 0 : Int32))) (yB c Q)))))) : eX c (d + 1) m_Rd_readGuild 42 [some (.ref 9), some (.int l1), some (.int l2), none] T (yB c Q) := by
  unfold eX
  refine ev_ex 0 (c' := (42, [some (.ref 9), some (.int l1), some (.int l2), none], [], hX c T)) rfl ?_
  refine ev_ex 2 (c' := (44, [some (.ref 9), some (.int l1), some (.int l2), none], [.int 5, .int l2], hX c T)) rfl ?_
  refine ev_icmp_ge (tgt := 69) rfl rfl (fun h => ?_) (fun h => ?_)
  · replace H := H.1 (h)
    refine ev_ex 2 (c' := (71, [some (.ref 9), some (.int l1), some (.int 0), none], [], hX c T)) rfl ?_
    exact H
  · replace H := H.2 (h)
    refine ev_ex 1 (c' := (48, [some (.ref 9), some (.int l1), some (.int l2), none], [.ref 9], hX c T)) rfl ?_
    refine xe_gf (ci := 7) (k := 2) rfl rfl (ob_lit (i := 2) rfl (by decide) rfl) ⟨by decide, by decide⟩ (v := .ref 33) rfl ?_
    refine ev_ex 7 (c' := (61, [some (.ref 9), some (.int l1), some (.int l2), none], [.int l2, .ref 12, .int ((l2 * 10) + l1), .ref 33], hX c T)) rfl ?_
    obtain ⟨H0, H⟩ := H
    refine ev_ald (i := .iaload) rfl (Or.inl rfl) rfl H0 (v := .int ([(0), (1), (0), (0), (0)].getD (ix l2) 0 : Int32)) rfl ?_
    obtain ⟨H0, H⟩ := H
    refine xe_as rfl (ar_lit (i := 8) rfl (by decide) rfl) H0 ?_
    refine ev_ex 2 (c' := (42, [some (.ref 9), some (.int l1), some (.int (l2 + 1)), none], [], hX c (tA T 33 (ix ((l2 * 10) + l1)) (([(0), (1), (0), (0), (0)].getD (ix l2) 0 : Int32))))) rfl ?_
    exact H
set_option maxRecDepth 8000 in
theorem wx_Rd_readGuild_71 {c : CX} {d : Nat} {T : XS} {Q : Bool → XS → Prop} (l1 : Int32) (l2 : Int32) (H : ((900 < l2 → XB c d m_Tk_refuse [.ref 13, .int 2] T (fun v52 T51 => Q v52 T51)) ∧ (¬ 900 < l2 → XV c d m_Tk_move [.ref 13] T (fun T53 => ((¬ (xI T53 13 4) = 25 → (((xI T53 13 4) < 5 → XB c d m_Tk_refuse [.ref 13, .int 2] T53 (fun v55 T54 => Q v55 T54)) ∧ (¬ (xI T53 13 4) < 5 → (((xI T53 13 4) ≤ 9 → XV c d m_Tk_move [.ref 13] T53 (fun T56 => (okx ((xI T53 13 4) - 5) 5 ∧ (okx ((xI T53 13 4) - 5) 5 ∧ XB c d m_Tk_isNumber [.ref 13, .int (([(0), (1), (0), (0), (1)].getD (ix ((xI T53 13 4) - 5)) 0 : Int32)), .int (([(99), (9), (9), (9), (99)].getD (ix ((xI T53 13 4) - 5)) 0 : Int32))] T56 (fun v58 T57 => ((v58 = true → (okx ((((xI T53 13 4) - 5) * 10) + l1) 50 ∧ eX c (d + 1) m_Rd_readGuild 71 [some (.ref 9), some (.int l1), some (.int (l2 + 1)), none] (tA T57 33 (ix ((((xI T53 13 4) - 5) * 10) + l1)) (xI T57 13 5)) (yB c Q))) ∧ (v58 = false → Q false T57))))))) ∧ (¬ (xI T53 13 4) ≤ 9 → XB c d m_Tk_refuse [.ref 13, .int 2] T53 (fun v60 T59 => Q v60 T59)))))) ∧ ((xI T53 13 4) = 25 → Q true T53)))))) : eX c (d + 1) m_Rd_readGuild 71 [some (.ref 9), some (.int l1), some (.int l2), none] T (yB c Q) := by
  unfold eX
  refine ev_ex 0 (c' := (71, [some (.ref 9), some (.int l1), some (.int l2), none], [], hX c T)) rfl ?_
  refine ev_ex 2 (c' := (75, [some (.ref 9), some (.int l1), some (.int l2), none], [.int 900, .int l2], hX c T)) rfl ?_
  refine ev_icmp_gt (tgt := 194) rfl rfl (fun h => ?_) (fun h => ?_)
  · replace H := H.1 (h)
    refine ev_ex 1 (c' := (195, [some (.ref 9), some (.int l1), some (.int l2), none], [.ref 9], hX c T)) rfl ?_
    refine xe_gf (ci := 7) (k := 0) rfl rfl (ob_lit (i := 2) rfl (by decide) rfl) ⟨by decide, by decide⟩ (v := .ref 13) rfl ?_
    refine ev_ex 1 (c' := (199, [some (.ref 9), some (.int l1), some (.int l2), none], [.int 2, .ref 13], hX c T)) rfl ?_
    refine xc_B (idx := 92) rfl rfl rfl (Nat.le_of_ble_eq_true rfl) (Nat.le_of_ble_eq_true rfl) (x_rcv (T := T) (ob_lit (i := 3) rfl (by decide) rfl) ⟨by decide, by decide⟩ _ _) H (fun v52 T51 H => ?_)
    exact ev_retB (x := v52) rfl rfl ⟨_, _, rfl, rfl, H⟩
  · replace H := H.2 (h)
    refine ev_ex 1 (c' := (79, [some (.ref 9), some (.int l1), some (.int l2), none], [.ref 9], hX c T)) rfl ?_
    refine xe_gf (ci := 7) (k := 0) rfl rfl (ob_lit (i := 2) rfl (by decide) rfl) ⟨by decide, by decide⟩ (v := .ref 13) rfl ?_
    refine xc_V (idx := 64) rfl rfl rfl (Nat.le_of_ble_eq_true rfl) (Nat.le_of_ble_eq_true rfl) (x_rcv (T := T) (ob_lit (i := 3) rfl (by decide) rfl) ⟨by decide, by decide⟩ _ _) H (fun T53 H => ?_)
    refine ev_ex 1 (c' := (86, [some (.ref 9), some (.int l1), some (.int l2), none], [.ref 9], hX c T53)) rfl ?_
    refine xe_gf (ci := 7) (k := 0) rfl rfl (ob_lit (i := 2) rfl (by decide) rfl) ⟨by decide, by decide⟩ (v := .ref 13) rfl ?_
    refine xe_gf (ci := 10) (k := 4) rfl rfl (ob_lit (i := 3) rfl (by decide) rfl) ⟨by decide, by decide⟩ (v := .int (xI T53 13 4)) rfl ?_
    refine ev_ex 1 (c' := (94, [some (.ref 9), some (.int l1), some (.int l2), none], [.int 25, .int (xI T53 13 4)], hX c T53)) rfl ?_
    refine ev_icmp_ne (tgt := 99) rfl rfl (fun h => ?_) (fun h => ?_)
    · replace H := H.1 (h)
      refine ev_ex 1 (c' := (100, [some (.ref 9), some (.int l1), some (.int l2), none], [.ref 9], hX c T53)) rfl ?_
      refine xe_gf (ci := 7) (k := 0) rfl rfl (ob_lit (i := 2) rfl (by decide) rfl) ⟨by decide, by decide⟩ (v := .ref 13) rfl ?_
      refine xe_gf (ci := 10) (k := 4) rfl rfl (ob_lit (i := 3) rfl (by decide) rfl) ⟨by decide, by decide⟩ (v := .int (xI T53 13 4)) rfl ?_
      refine ev_ex 1 (c' := (107, [some (.ref 9), some (.int l1), some (.int l2), none], [.int 5, .int (xI T53 13 4)], hX c T53)) rfl ?_
      refine ev_icmp_lt (tgt := 122) rfl rfl (fun h => ?_) (fun h => ?_)
      · replace H := H.1 (h)
        refine ev_ex 1 (c' := (123, [some (.ref 9), some (.int l1), some (.int l2), none], [.ref 9], hX c T53)) rfl ?_
        refine xe_gf (ci := 7) (k := 0) rfl rfl (ob_lit (i := 2) rfl (by decide) rfl) ⟨by decide, by decide⟩ (v := .ref 13) rfl ?_
        refine ev_ex 1 (c' := (127, [some (.ref 9), some (.int l1), some (.int l2), none], [.int 2, .ref 13], hX c T53)) rfl ?_
        refine xc_B (idx := 92) rfl rfl rfl (Nat.le_of_ble_eq_true rfl) (Nat.le_of_ble_eq_true rfl) (x_rcv (T := T53) (ob_lit (i := 3) rfl (by decide) rfl) ⟨by decide, by decide⟩ _ _) H (fun v55 T54 H => ?_)
        exact ev_retB (x := v55) rfl rfl ⟨_, _, rfl, rfl, H⟩
      · replace H := H.2 (h)
        refine ev_ex 1 (c' := (111, [some (.ref 9), some (.int l1), some (.int l2), none], [.ref 9], hX c T53)) rfl ?_
        refine xe_gf (ci := 7) (k := 0) rfl rfl (ob_lit (i := 2) rfl (by decide) rfl) ⟨by decide, by decide⟩ (v := .ref 13) rfl ?_
        refine xe_gf (ci := 10) (k := 4) rfl rfl (ob_lit (i := 3) rfl (by decide) rfl) ⟨by decide, by decide⟩ (v := .int (xI T53 13 4)) rfl ?_
        refine ev_ex 1 (c' := (119, [some (.ref 9), some (.int l1), some (.int l2), none], [.int 9, .int (xI T53 13 4)], hX c T53)) rfl ?_
        refine ev_icmp_le (tgt := 131) rfl rfl (fun h => ?_) (fun h => ?_)
        · replace H := H.1 (h)
          refine ev_ex 1 (c' := (132, [some (.ref 9), some (.int l1), some (.int l2), none], [.ref 9], hX c T53)) rfl ?_
          refine xe_gf (ci := 7) (k := 0) rfl rfl (ob_lit (i := 2) rfl (by decide) rfl) ⟨by decide, by decide⟩ (v := .ref 13) rfl ?_
          refine xe_gf (ci := 10) (k := 4) rfl rfl (ob_lit (i := 3) rfl (by decide) rfl) ⟨by decide, by decide⟩ (v := .int (xI T53 13 4)) rfl ?_
          refine ev_ex 4 (c' := (142, [some (.ref 9), some (.int l1), some (.int l2), some (.int ((xI T53 13 4) - 5))], [.ref 9], hX c T53)) rfl ?_
          refine xe_gf (ci := 7) (k := 0) rfl rfl (ob_lit (i := 2) rfl (by decide) rfl) ⟨by decide, by decide⟩ (v := .ref 13) rfl ?_
          refine xc_V (idx := 64) rfl rfl rfl (Nat.le_of_ble_eq_true rfl) (Nat.le_of_ble_eq_true rfl) (x_rcv (T := T53) (ob_lit (i := 3) rfl (by decide) rfl) ⟨by decide, by decide⟩ _ _) H (fun T56 H => ?_)
          refine ev_ex 1 (c' := (149, [some (.ref 9), some (.int l1), some (.int l2), some (.int ((xI T53 13 4) - 5))], [.ref 9], hX c T56)) rfl ?_
          refine xe_gf (ci := 7) (k := 0) rfl rfl (ob_lit (i := 2) rfl (by decide) rfl) ⟨by decide, by decide⟩ (v := .ref 13) rfl ?_
          refine ev_ex 2 (c' := (156, [some (.ref 9), some (.int l1), some (.int l2), some (.int ((xI T53 13 4) - 5))], [.int ((xI T53 13 4) - 5), .ref 4, .ref 13], hX c T56)) rfl ?_
          obtain ⟨H0, H⟩ := H
          refine ev_ald (i := .iaload) rfl (Or.inl rfl) rfl H0 (v := .int ([(0), (1), (0), (0), (1)].getD (ix ((xI T53 13 4) - 5)) 0 : Int32)) rfl ?_
          refine ev_ex 2 (c' := (161, [some (.ref 9), some (.int l1), some (.int l2), some (.int ((xI T53 13 4) - 5))], [.int ((xI T53 13 4) - 5), .ref 8, .int (([(0), (1), (0), (0), (1)].getD (ix ((xI T53 13 4) - 5)) 0 : Int32)), .ref 13], hX c T56)) rfl ?_
          obtain ⟨H0, H⟩ := H
          refine ev_ald (i := .iaload) rfl (Or.inl rfl) rfl H0 (v := .int ([(99), (9), (9), (9), (99)].getD (ix ((xI T53 13 4) - 5)) 0 : Int32)) rfl ?_
          refine xc_B (idx := 105) rfl rfl rfl (Nat.le_of_ble_eq_true rfl) (Nat.le_of_ble_eq_true rfl) (x_rcv (T := T56) (ob_lit (i := 3) rfl (by decide) rfl) ⟨by decide, by decide⟩ _ _) H (fun v58 T57 H => ?_)
          refine ev_if_neB (x := v58) (tgt := 170) rfl rfl (fun h => ?_) (fun h => ?_)
          · replace H := H.1 (h)
            refine ev_ex 1 (c' := (171, [some (.ref 9), some (.int l1), some (.int l2), some (.int ((xI T53 13 4) - 5))], [.ref 9], hX c T57)) rfl ?_
            refine xe_gf (ci := 7) (k := 2) rfl rfl (ob_lit (i := 2) rfl (by decide) rfl) ⟨by decide, by decide⟩ (v := .ref 33) rfl ?_
            refine ev_ex 6 (c' := (181, [some (.ref 9), some (.int l1), some (.int l2), some (.int ((xI T53 13 4) - 5))], [.ref 9, .int ((((xI T53 13 4) - 5) * 10) + l1), .ref 33], hX c T57)) rfl ?_
            refine xe_gf (ci := 7) (k := 0) rfl rfl (ob_lit (i := 2) rfl (by decide) rfl) ⟨by decide, by decide⟩ (v := .ref 13) rfl ?_
            refine xe_gf (ci := 10) (k := 5) rfl rfl (ob_lit (i := 3) rfl (by decide) rfl) ⟨by decide, by decide⟩ (v := .int (xI T57 13 5)) rfl ?_
            obtain ⟨H0, H⟩ := H
            refine xe_as rfl (ar_lit (i := 8) rfl (by decide) rfl) H0 ?_
            refine ev_ex 2 (c' := (71, [some (.ref 9), some (.int l1), some (.int (l2 + 1)), some (.int ((xI T53 13 4) - 5))], [], hX c (tA T57 33 (ix ((((xI T53 13 4) - 5) * 10) + l1)) (xI T57 13 5)))) rfl ?_
            exact ev_less (lle_of (L := [some (.ref 9), some (.int l1), some (.int (l2 + 1)), none]) ⟨rfl, ⟨rfl, ⟨rfl, trivial⟩⟩⟩) H
          · replace H := H.2 (h)
            refine ev_ex 1 (c' := (169, [some (.ref 9), some (.int l1), some (.int l2), some (.int ((xI T53 13 4) - 5))], [.int 0], hX c T57)) rfl ?_
            exact ev_retB (x := false) rfl rfl ⟨_, _, rfl, rfl, H⟩
        · replace H := H.2 (h)
          refine ev_ex 1 (c' := (123, [some (.ref 9), some (.int l1), some (.int l2), none], [.ref 9], hX c T53)) rfl ?_
          refine xe_gf (ci := 7) (k := 0) rfl rfl (ob_lit (i := 2) rfl (by decide) rfl) ⟨by decide, by decide⟩ (v := .ref 13) rfl ?_
          refine ev_ex 1 (c' := (127, [some (.ref 9), some (.int l1), some (.int l2), none], [.int 2, .ref 13], hX c T53)) rfl ?_
          refine xc_B (idx := 92) rfl rfl rfl (Nat.le_of_ble_eq_true rfl) (Nat.le_of_ble_eq_true rfl) (x_rcv (T := T53) (ob_lit (i := 3) rfl (by decide) rfl) ⟨by decide, by decide⟩ _ _) H (fun v60 T59 H => ?_)
          exact ev_retB (x := v60) rfl rfl ⟨_, _, rfl, rfl, H⟩
    · replace H := H.2 (h)
      refine ev_ex 1 (c' := (98, [some (.ref 9), some (.int l1), some (.int l2), none], [.int 1], hX c T53)) rfl ?_
      exact ev_retB (x := true) rfl rfl ⟨_, _, rfl, rfl, H⟩
set_option maxRecDepth 8000 in
theorem wx_Rd_readMocks {c : CX} {d : Nat} {T : XS} {Q : Bool → XS → Prop}  (H : XV c d m_Tk_move [.ref 13] T (fun T1 => XB c d m_Tk_isNumber [.ref 13, .int 0, .int ((xI T1 9 7) - 1)] T1 (fun v3 T2 => ((v3 = true → XV c d m_Tk_move [.ref 13] T2 (fun T4 => XB c d m_Tk_isNumber [.ref 13, .int 0, .int ((xI T4 9 7) - 1)] T4 (fun v6 T5 => ((v6 = true → ((¬ (xI T2 13 5) = (xI T5 13 5) → (((one (xI T2 13 5)) = false → XV c d m_Tk_move [.ref 13] T5 (fun T7 => XB c d m_Tk_isSemicolon [.ref 13] T7 (fun v9 T8 => Q v9 T8))) ∧ ((one (xI T2 13 5)) = true → (okx (xI T2 13 5) 10 ∧ XV c d m_Tk_move [.ref 13] (tA T5 37 (ix (xI T2 13 5)) (xI T5 13 5)) (fun T10 => XB c d m_Tk_isSemicolon [.ref 13] T10 (fun v12 T11 => Q v12 T11)))))) ∧ ((xI T2 13 5) = (xI T5 13 5) → XB c d m_Tk_refuse [.ref 13, .int 3] T5 (fun v14 T13 => Q v14 T13)))) ∧ (v6 = false → Q false T5))))) ∧ (v3 = false → Q false T2))))) : XB c (d + 1) m_Rd_readMocks [.ref 9] T Q := by
  refine ⟨q_Rd_readMocks, rfl, Nat.le_of_ble_eq_true rfl, ?_⟩
  refine ev_ex 0 (c' := (0, [some (.ref 9), none, none], [], hX c T)) rfl ?_
  refine ev_ex 1 (c' := (1, [some (.ref 9), none, none], [.ref 9], hX c T)) rfl ?_
  refine xe_gf (ci := 7) (k := 0) rfl rfl (ob_lit (i := 2) rfl (by decide) rfl) ⟨by decide, by decide⟩ (v := .ref 13) rfl ?_
  refine xc_V (idx := 64) rfl rfl rfl (Nat.le_of_ble_eq_true rfl) (Nat.le_of_ble_eq_true rfl) (x_rcv (T := T) (ob_lit (i := 3) rfl (by decide) rfl) ⟨by decide, by decide⟩ _ _) H (fun T1 H => ?_)
  refine ev_ex 1 (c' := (8, [some (.ref 9), none, none], [.ref 9], hX c T1)) rfl ?_
  refine xe_gf (ci := 7) (k := 0) rfl rfl (ob_lit (i := 2) rfl (by decide) rfl) ⟨by decide, by decide⟩ (v := .ref 13) rfl ?_
  refine ev_ex 2 (c' := (13, [some (.ref 9), none, none], [.ref 9, .int 0, .ref 13], hX c T1)) rfl ?_
  refine xe_gf (ci := 7) (k := 7) rfl rfl (ob_lit (i := 2) rfl (by decide) rfl) ⟨by decide, by decide⟩ (v := .int (xI T1 9 7)) rfl ?_
  refine ev_ex 2 (c' := (18, [some (.ref 9), none, none], [.int ((xI T1 9 7) - 1), .int 0, .ref 13], hX c T1)) rfl ?_
  refine xc_B (idx := 105) rfl rfl rfl (Nat.le_of_ble_eq_true rfl) (Nat.le_of_ble_eq_true rfl) (x_rcv (T := T1) (ob_lit (i := 3) rfl (by decide) rfl) ⟨by decide, by decide⟩ _ _) H (fun v3 T2 H => ?_)
  refine ev_if_neB (x := v3) (tgt := 26) rfl rfl (fun h => ?_) (fun h => ?_)
  · replace H := H.1 (h)
    refine ev_ex 1 (c' := (27, [some (.ref 9), none, none], [.ref 9], hX c T2)) rfl ?_
    refine xe_gf (ci := 7) (k := 0) rfl rfl (ob_lit (i := 2) rfl (by decide) rfl) ⟨by decide, by decide⟩ (v := .ref 13) rfl ?_
    refine xe_gf (ci := 10) (k := 5) rfl rfl (ob_lit (i := 3) rfl (by decide) rfl) ⟨by decide, by decide⟩ (v := .int (xI T2 13 5)) rfl ?_
    refine ev_ex 2 (c' := (35, [some (.ref 9), some (.int (xI T2 13 5)), none], [.ref 9], hX c T2)) rfl ?_
    refine xe_gf (ci := 7) (k := 0) rfl rfl (ob_lit (i := 2) rfl (by decide) rfl) ⟨by decide, by decide⟩ (v := .ref 13) rfl ?_
    refine xc_V (idx := 64) rfl rfl rfl (Nat.le_of_ble_eq_true rfl) (Nat.le_of_ble_eq_true rfl) (x_rcv (T := T2) (ob_lit (i := 3) rfl (by decide) rfl) ⟨by decide, by decide⟩ _ _) H (fun T4 H => ?_)
    refine ev_ex 1 (c' := (42, [some (.ref 9), some (.int (xI T2 13 5)), none], [.ref 9], hX c T4)) rfl ?_
    refine xe_gf (ci := 7) (k := 0) rfl rfl (ob_lit (i := 2) rfl (by decide) rfl) ⟨by decide, by decide⟩ (v := .ref 13) rfl ?_
    refine ev_ex 2 (c' := (47, [some (.ref 9), some (.int (xI T2 13 5)), none], [.ref 9, .int 0, .ref 13], hX c T4)) rfl ?_
    refine xe_gf (ci := 7) (k := 7) rfl rfl (ob_lit (i := 2) rfl (by decide) rfl) ⟨by decide, by decide⟩ (v := .int (xI T4 9 7)) rfl ?_
    refine ev_ex 2 (c' := (52, [some (.ref 9), some (.int (xI T2 13 5)), none], [.int ((xI T4 9 7) - 1), .int 0, .ref 13], hX c T4)) rfl ?_
    refine xc_B (idx := 105) rfl rfl rfl (Nat.le_of_ble_eq_true rfl) (Nat.le_of_ble_eq_true rfl) (x_rcv (T := T4) (ob_lit (i := 3) rfl (by decide) rfl) ⟨by decide, by decide⟩ _ _) H (fun v6 T5 H => ?_)
    refine ev_if_neB (x := v6) (tgt := 60) rfl rfl (fun h => ?_) (fun h => ?_)
    · replace H := H.1 (h)
      refine ev_ex 1 (c' := (61, [some (.ref 9), some (.int (xI T2 13 5)), none], [.ref 9], hX c T5)) rfl ?_
      refine xe_gf (ci := 7) (k := 0) rfl rfl (ob_lit (i := 2) rfl (by decide) rfl) ⟨by decide, by decide⟩ (v := .ref 13) rfl ?_
      refine xe_gf (ci := 10) (k := 5) rfl rfl (ob_lit (i := 3) rfl (by decide) rfl) ⟨by decide, by decide⟩ (v := .int (xI T5 13 5)) rfl ?_
      refine ev_ex 3 (c' := (70, [some (.ref 9), some (.int (xI T2 13 5)), some (.int (xI T5 13 5))], [.int (xI T5 13 5), .int (xI T2 13 5)], hX c T5)) rfl ?_
      refine ev_icmp_ne (tgt := 82) rfl rfl (fun h => ?_) (fun h => ?_)
      · replace H := H.1 (h)
        refine ev_ex 1 (c' := (83, [some (.ref 9), some (.int (xI T2 13 5)), some (.int (xI T5 13 5))], [.int (xI T2 13 5)], hX c T5)) rfl ?_
        refine xq_B (idx := 112) (V := one (xI T2 13 5)) (S := T5) rfl rfl rfl (Nat.le_of_ble_eq_true rfl) (Nat.le_of_ble_eq_true rfl) rfl (zx_X_isOne ⟨rfl, rfl⟩) ?_
        refine ev_if_eqB (x := (one (xI T2 13 5))) (tgt := 96) rfl rfl (fun h => ?_) (fun h => ?_)
        · replace H := H.1 (h)
          refine ev_ex 1 (c' := (97, [some (.ref 9), some (.int (xI T2 13 5)), some (.int (xI T5 13 5))], [.ref 9], hX c T5)) rfl ?_
          refine xe_gf (ci := 7) (k := 0) rfl rfl (ob_lit (i := 2) rfl (by decide) rfl) ⟨by decide, by decide⟩ (v := .ref 13) rfl ?_
          refine xc_V (idx := 64) rfl rfl rfl (Nat.le_of_ble_eq_true rfl) (Nat.le_of_ble_eq_true rfl) (x_rcv (T := T5) (ob_lit (i := 3) rfl (by decide) rfl) ⟨by decide, by decide⟩ _ _) H (fun T7 H => ?_)
          refine ev_ex 1 (c' := (104, [some (.ref 9), some (.int (xI T2 13 5)), some (.int (xI T5 13 5))], [.ref 9], hX c T7)) rfl ?_
          refine xe_gf (ci := 7) (k := 0) rfl rfl (ob_lit (i := 2) rfl (by decide) rfl) ⟨by decide, by decide⟩ (v := .ref 13) rfl ?_
          refine xc_B (idx := 115) rfl rfl rfl (Nat.le_of_ble_eq_true rfl) (Nat.le_of_ble_eq_true rfl) (x_rcv (T := T7) (ob_lit (i := 3) rfl (by decide) rfl) ⟨by decide, by decide⟩ _ _) H (fun v9 T8 H => ?_)
          exact ev_retB (x := v9) rfl rfl ⟨_, _, rfl, rfl, H⟩
        · replace H := H.2 (h)
          refine ev_ex 1 (c' := (90, [some (.ref 9), some (.int (xI T2 13 5)), some (.int (xI T5 13 5))], [.ref 9], hX c T5)) rfl ?_
          refine xe_gf (ci := 7) (k := 3) rfl rfl (ob_lit (i := 2) rfl (by decide) rfl) ⟨by decide, by decide⟩ (v := .ref 37) rfl ?_
          refine ev_ex 2 (c' := (95, [some (.ref 9), some (.int (xI T2 13 5)), some (.int (xI T5 13 5))], [.int (xI T5 13 5), .int (xI T2 13 5), .ref 37], hX c T5)) rfl ?_
          obtain ⟨H0, H⟩ := H
          refine xe_as rfl (ar_lit (i := 9) rfl (by decide) rfl) H0 ?_
          refine ev_ex 1 (c' := (97, [some (.ref 9), some (.int (xI T2 13 5)), some (.int (xI T5 13 5))], [.ref 9], hX c (tA T5 37 (ix (xI T2 13 5)) (xI T5 13 5)))) rfl ?_
          refine xe_gf (ci := 7) (k := 0) rfl rfl (ob_lit (i := 2) rfl (by decide) rfl) ⟨by decide, by decide⟩ (v := .ref 13) rfl ?_
          refine xc_V (idx := 64) rfl rfl rfl (Nat.le_of_ble_eq_true rfl) (Nat.le_of_ble_eq_true rfl) (x_rcv (T := tA T5 37 (ix (xI T2 13 5)) (xI T5 13 5)) (ob_lit (i := 3) rfl (by decide) rfl) ⟨by decide, by decide⟩ _ _) H (fun T10 H => ?_)
          refine ev_ex 1 (c' := (104, [some (.ref 9), some (.int (xI T2 13 5)), some (.int (xI T5 13 5))], [.ref 9], hX c T10)) rfl ?_
          refine xe_gf (ci := 7) (k := 0) rfl rfl (ob_lit (i := 2) rfl (by decide) rfl) ⟨by decide, by decide⟩ (v := .ref 13) rfl ?_
          refine xc_B (idx := 115) rfl rfl rfl (Nat.le_of_ble_eq_true rfl) (Nat.le_of_ble_eq_true rfl) (x_rcv (T := T10) (ob_lit (i := 3) rfl (by decide) rfl) ⟨by decide, by decide⟩ _ _) H (fun v12 T11 H => ?_)
          exact ev_retB (x := v12) rfl rfl ⟨_, _, rfl, rfl, H⟩
      · replace H := H.2 (h)
        refine ev_ex 1 (c' := (74, [some (.ref 9), some (.int (xI T2 13 5)), some (.int (xI T5 13 5))], [.ref 9], hX c T5)) rfl ?_
        refine xe_gf (ci := 7) (k := 0) rfl rfl (ob_lit (i := 2) rfl (by decide) rfl) ⟨by decide, by decide⟩ (v := .ref 13) rfl ?_
        refine ev_ex 1 (c' := (78, [some (.ref 9), some (.int (xI T2 13 5)), some (.int (xI T5 13 5))], [.int 3, .ref 13], hX c T5)) rfl ?_
        refine xc_B (idx := 92) rfl rfl rfl (Nat.le_of_ble_eq_true rfl) (Nat.le_of_ble_eq_true rfl) (x_rcv (T := T5) (ob_lit (i := 3) rfl (by decide) rfl) ⟨by decide, by decide⟩ _ _) H (fun v14 T13 H => ?_)
        exact ev_retB (x := v14) rfl rfl ⟨_, _, rfl, rfl, H⟩
    · replace H := H.2 (h)
      refine ev_ex 1 (c' := (59, [some (.ref 9), some (.int (xI T2 13 5)), none], [.int 0], hX c T5)) rfl ?_
      exact ev_retB (x := false) rfl rfl ⟨_, _, rfl, rfl, H⟩
  · replace H := H.2 (h)
    refine ev_ex 1 (c' := (25, [some (.ref 9), none, none], [.int 0], hX c T2)) rfl ?_
    exact ev_retB (x := false) rfl rfl ⟨_, _, rfl, rfl, H⟩
set_option maxRecDepth 8000 in
theorem wx_Rd_readStreet {c : CX} {d : Nat} {T : XS} {Q : Bool → XS → Prop}  (H : (((xI T 9 8) < 12 → XV c d m_Tk_move [.ref 13] T (fun T1 => (((xI T1 13 4) < 10 → XB c d m_Tk_refuse [.ref 13, .int 2] T1 (fun v3 T2 => Q v3 T2)) ∧ (¬ (xI T1 13 4) < 10 → (((xI T1 13 4) ≤ 13 → (okx (xI T1 9 8) 12 ∧ XV c d m_Tk_move [.ref 13] (tA T1 41 (ix (xI T1 9 8)) ((xI T1 13 4) - 10)) (fun T4 => XB c d m_Tk_isNumber [.ref 13, .int 1, .int 20] T4 (fun v6 T5 => ((v6 = true → (okx (xI T5 9 8) 12 ∧ XV c d m_Tk_move [.ref 13] (tI (tA T5 45 (ix (xI T5 9 8)) (xI T5 13 5)) 9 8 ((xI T5 9 8) + 1)) (fun T7 => XB c d m_Tk_isSemicolon [.ref 13] T7 (fun v9 T8 => Q v9 T8)))) ∧ (v6 = false → Q false T5)))))) ∧ (¬ (xI T1 13 4) ≤ 13 → XB c d m_Tk_refuse [.ref 13, .int 2] T1 (fun v11 T10 => Q v11 T10))))))) ∧ (¬ (xI T 9 8) < 12 → XB c d m_Tk_refuse [.ref 13, .int 4] T (fun v13 T12 => Q v13 T12)))) : XB c (d + 1) m_Rd_readStreet [.ref 9] T Q := by
  refine ⟨q_Rd_readStreet, rfl, Nat.le_of_ble_eq_true rfl, ?_⟩
  refine ev_ex 0 (c' := (0, [some (.ref 9)], [], hX c T)) rfl ?_
  refine ev_ex 1 (c' := (1, [some (.ref 9)], [.ref 9], hX c T)) rfl ?_
  refine xe_gf (ci := 7) (k := 8) rfl rfl (ob_lit (i := 2) rfl (by decide) rfl) ⟨by decide, by decide⟩ (v := .int (xI T 9 8)) rfl ?_
  refine ev_ex 1 (c' := (6, [some (.ref 9)], [.int 12, .int (xI T 9 8)], hX c T)) rfl ?_
  refine ev_icmp_lt (tgt := 18) rfl rfl (fun h => ?_) (fun h => ?_)
  · replace H := H.1 (h)
    refine ev_ex 1 (c' := (19, [some (.ref 9)], [.ref 9], hX c T)) rfl ?_
    refine xe_gf (ci := 7) (k := 0) rfl rfl (ob_lit (i := 2) rfl (by decide) rfl) ⟨by decide, by decide⟩ (v := .ref 13) rfl ?_
    refine xc_V (idx := 64) rfl rfl rfl (Nat.le_of_ble_eq_true rfl) (Nat.le_of_ble_eq_true rfl) (x_rcv (T := T) (ob_lit (i := 3) rfl (by decide) rfl) ⟨by decide, by decide⟩ _ _) H (fun T1 H => ?_)
    refine ev_ex 1 (c' := (26, [some (.ref 9)], [.ref 9], hX c T1)) rfl ?_
    refine xe_gf (ci := 7) (k := 0) rfl rfl (ob_lit (i := 2) rfl (by decide) rfl) ⟨by decide, by decide⟩ (v := .ref 13) rfl ?_
    refine xe_gf (ci := 10) (k := 4) rfl rfl (ob_lit (i := 3) rfl (by decide) rfl) ⟨by decide, by decide⟩ (v := .int (xI T1 13 4)) rfl ?_
    refine ev_ex 1 (c' := (34, [some (.ref 9)], [.int 10, .int (xI T1 13 4)], hX c T1)) rfl ?_
    refine ev_icmp_lt (tgt := 49) rfl rfl (fun h => ?_) (fun h => ?_)
    · replace H := H.1 (h)
      refine ev_ex 1 (c' := (50, [some (.ref 9)], [.ref 9], hX c T1)) rfl ?_
      refine xe_gf (ci := 7) (k := 0) rfl rfl (ob_lit (i := 2) rfl (by decide) rfl) ⟨by decide, by decide⟩ (v := .ref 13) rfl ?_
      refine ev_ex 1 (c' := (54, [some (.ref 9)], [.int 2, .ref 13], hX c T1)) rfl ?_
      refine xc_B (idx := 92) rfl rfl rfl (Nat.le_of_ble_eq_true rfl) (Nat.le_of_ble_eq_true rfl) (x_rcv (T := T1) (ob_lit (i := 3) rfl (by decide) rfl) ⟨by decide, by decide⟩ _ _) H (fun v3 T2 H => ?_)
      exact ev_retB (x := v3) rfl rfl ⟨_, _, rfl, rfl, H⟩
    · replace H := H.2 (h)
      refine ev_ex 1 (c' := (38, [some (.ref 9)], [.ref 9], hX c T1)) rfl ?_
      refine xe_gf (ci := 7) (k := 0) rfl rfl (ob_lit (i := 2) rfl (by decide) rfl) ⟨by decide, by decide⟩ (v := .ref 13) rfl ?_
      refine xe_gf (ci := 10) (k := 4) rfl rfl (ob_lit (i := 3) rfl (by decide) rfl) ⟨by decide, by decide⟩ (v := .int (xI T1 13 4)) rfl ?_
      refine ev_ex 1 (c' := (46, [some (.ref 9)], [.int 13, .int (xI T1 13 4)], hX c T1)) rfl ?_
      refine ev_icmp_le (tgt := 58) rfl rfl (fun h => ?_) (fun h => ?_)
      · replace H := H.1 (h)
        refine ev_ex 1 (c' := (59, [some (.ref 9)], [.ref 9], hX c T1)) rfl ?_
        refine xe_gf (ci := 7) (k := 4) rfl rfl (ob_lit (i := 2) rfl (by decide) rfl) ⟨by decide, by decide⟩ (v := .ref 41) rfl ?_
        refine ev_ex 1 (c' := (63, [some (.ref 9)], [.ref 9, .ref 41], hX c T1)) rfl ?_
        refine xe_gf (ci := 7) (k := 8) rfl rfl (ob_lit (i := 2) rfl (by decide) rfl) ⟨by decide, by decide⟩ (v := .int (xI T1 9 8)) rfl ?_
        refine ev_ex 1 (c' := (67, [some (.ref 9)], [.ref 9, .int (xI T1 9 8), .ref 41], hX c T1)) rfl ?_
        refine xe_gf (ci := 7) (k := 0) rfl rfl (ob_lit (i := 2) rfl (by decide) rfl) ⟨by decide, by decide⟩ (v := .ref 13) rfl ?_
        refine xe_gf (ci := 10) (k := 4) rfl rfl (ob_lit (i := 3) rfl (by decide) rfl) ⟨by decide, by decide⟩ (v := .int (xI T1 13 4)) rfl ?_
        refine ev_ex 2 (c' := (76, [some (.ref 9)], [.int ((xI T1 13 4) - 10), .int (xI T1 9 8), .ref 41], hX c T1)) rfl ?_
        obtain ⟨H0, H⟩ := H
        refine xe_as rfl (ar_lit (i := 10) rfl (by decide) rfl) H0 ?_
        refine ev_ex 1 (c' := (78, [some (.ref 9)], [.ref 9], hX c (tA T1 41 (ix (xI T1 9 8)) ((xI T1 13 4) - 10)))) rfl ?_
        refine xe_gf (ci := 7) (k := 0) rfl rfl (ob_lit (i := 2) rfl (by decide) rfl) ⟨by decide, by decide⟩ (v := .ref 13) rfl ?_
        refine xc_V (idx := 64) rfl rfl rfl (Nat.le_of_ble_eq_true rfl) (Nat.le_of_ble_eq_true rfl) (x_rcv (T := tA T1 41 (ix (xI T1 9 8)) ((xI T1 13 4) - 10)) (ob_lit (i := 3) rfl (by decide) rfl) ⟨by decide, by decide⟩ _ _) H (fun T4 H => ?_)
        refine ev_ex 1 (c' := (85, [some (.ref 9)], [.ref 9], hX c T4)) rfl ?_
        refine xe_gf (ci := 7) (k := 0) rfl rfl (ob_lit (i := 2) rfl (by decide) rfl) ⟨by decide, by decide⟩ (v := .ref 13) rfl ?_
        refine ev_ex 2 (c' := (91, [some (.ref 9)], [.int 20, .int 1, .ref 13], hX c T4)) rfl ?_
        refine xc_B (idx := 105) rfl rfl rfl (Nat.le_of_ble_eq_true rfl) (Nat.le_of_ble_eq_true rfl) (x_rcv (T := T4) (ob_lit (i := 3) rfl (by decide) rfl) ⟨by decide, by decide⟩ _ _) H (fun v6 T5 H => ?_)
        refine ev_if_neB (x := v6) (tgt := 99) rfl rfl (fun h => ?_) (fun h => ?_)
        · replace H := H.1 (h)
          refine ev_ex 1 (c' := (100, [some (.ref 9)], [.ref 9], hX c T5)) rfl ?_
          refine xe_gf (ci := 7) (k := 5) rfl rfl (ob_lit (i := 2) rfl (by decide) rfl) ⟨by decide, by decide⟩ (v := .ref 45) rfl ?_
          refine ev_ex 1 (c' := (104, [some (.ref 9)], [.ref 9, .ref 45], hX c T5)) rfl ?_
          refine xe_gf (ci := 7) (k := 8) rfl rfl (ob_lit (i := 2) rfl (by decide) rfl) ⟨by decide, by decide⟩ (v := .int (xI T5 9 8)) rfl ?_
          refine ev_ex 1 (c' := (108, [some (.ref 9)], [.ref 9, .int (xI T5 9 8), .ref 45], hX c T5)) rfl ?_
          refine xe_gf (ci := 7) (k := 0) rfl rfl (ob_lit (i := 2) rfl (by decide) rfl) ⟨by decide, by decide⟩ (v := .ref 13) rfl ?_
          refine xe_gf (ci := 10) (k := 5) rfl rfl (ob_lit (i := 3) rfl (by decide) rfl) ⟨by decide, by decide⟩ (v := .int (xI T5 13 5)) rfl ?_
          obtain ⟨H0, H⟩ := H
          refine xe_as rfl (ar_lit (i := 11) rfl (by decide) rfl) H0 ?_
          refine ev_ex 2 (c' := (117, [some (.ref 9)], [.ref 9, .ref 9], hX c (tA T5 45 (ix (xI T5 9 8)) (xI T5 13 5)))) rfl ?_
          refine xe_gf (ci := 7) (k := 8) rfl rfl (ob_lit (i := 2) rfl (by decide) rfl) ⟨by decide, by decide⟩ (v := .int (xI T5 9 8)) rfl ?_
          refine ev_ex 2 (c' := (122, [some (.ref 9)], [.int ((xI T5 9 8) + 1), .ref 9], hX c (tA T5 45 (ix (xI T5 9 8)) (xI T5 13 5)))) rfl ?_
          refine xe_pi (ci := 7) (k := 8) rfl rfl (ob_lit (i := 2) rfl (by decide) rfl) ⟨by decide, by decide⟩ (Nat.le_of_ble_eq_true rfl) rfl (fi_7_8 _ _ _) ?_
          refine ev_ex 1 (c' := (126, [some (.ref 9)], [.ref 9], hX c (tI (tA T5 45 (ix (xI T5 9 8)) (xI T5 13 5)) 9 8 ((xI T5 9 8) + 1)))) rfl ?_
          refine xe_gf (ci := 7) (k := 0) rfl rfl (ob_lit (i := 2) rfl (by decide) rfl) ⟨by decide, by decide⟩ (v := .ref 13) rfl ?_
          refine xc_V (idx := 64) rfl rfl rfl (Nat.le_of_ble_eq_true rfl) (Nat.le_of_ble_eq_true rfl) (x_rcv (T := tI (tA T5 45 (ix (xI T5 9 8)) (xI T5 13 5)) 9 8 ((xI T5 9 8) + 1)) (ob_lit (i := 3) rfl (by decide) rfl) ⟨by decide, by decide⟩ _ _) H (fun T7 H => ?_)
          refine ev_ex 1 (c' := (133, [some (.ref 9)], [.ref 9], hX c T7)) rfl ?_
          refine xe_gf (ci := 7) (k := 0) rfl rfl (ob_lit (i := 2) rfl (by decide) rfl) ⟨by decide, by decide⟩ (v := .ref 13) rfl ?_
          refine xc_B (idx := 115) rfl rfl rfl (Nat.le_of_ble_eq_true rfl) (Nat.le_of_ble_eq_true rfl) (x_rcv (T := T7) (ob_lit (i := 3) rfl (by decide) rfl) ⟨by decide, by decide⟩ _ _) H (fun v9 T8 H => ?_)
          exact ev_retB (x := v9) rfl rfl ⟨_, _, rfl, rfl, H⟩
        · replace H := H.2 (h)
          refine ev_ex 1 (c' := (98, [some (.ref 9)], [.int 0], hX c T5)) rfl ?_
          exact ev_retB (x := false) rfl rfl ⟨_, _, rfl, rfl, H⟩
      · replace H := H.2 (h)
        refine ev_ex 1 (c' := (50, [some (.ref 9)], [.ref 9], hX c T1)) rfl ?_
        refine xe_gf (ci := 7) (k := 0) rfl rfl (ob_lit (i := 2) rfl (by decide) rfl) ⟨by decide, by decide⟩ (v := .ref 13) rfl ?_
        refine ev_ex 1 (c' := (54, [some (.ref 9)], [.int 2, .ref 13], hX c T1)) rfl ?_
        refine xc_B (idx := 92) rfl rfl rfl (Nat.le_of_ble_eq_true rfl) (Nat.le_of_ble_eq_true rfl) (x_rcv (T := T1) (ob_lit (i := 3) rfl (by decide) rfl) ⟨by decide, by decide⟩ _ _) H (fun v11 T10 H => ?_)
        exact ev_retB (x := v11) rfl rfl ⟨_, _, rfl, rfl, H⟩
  · replace H := H.2 (h)
    refine ev_ex 1 (c' := (10, [some (.ref 9)], [.ref 9], hX c T)) rfl ?_
    refine xe_gf (ci := 7) (k := 0) rfl rfl (ob_lit (i := 2) rfl (by decide) rfl) ⟨by decide, by decide⟩ (v := .ref 13) rfl ?_
    refine ev_ex 1 (c' := (14, [some (.ref 9)], [.int 4, .ref 13], hX c T)) rfl ?_
    refine xc_B (idx := 92) rfl rfl rfl (Nat.le_of_ble_eq_true rfl) (Nat.le_of_ble_eq_true rfl) (x_rcv (T := T) (ob_lit (i := 3) rfl (by decide) rfl) ⟨by decide, by decide⟩ _ _) H (fun v13 T12 H => ?_)
    exact ev_retB (x := v13) rfl rfl ⟨_, _, rfl, rfl, H⟩
