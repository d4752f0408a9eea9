/-! written by wip/gen/vcx.py: what runs of the class ask -/
set_option maxRecDepth 8000 in
theorem wx_X_needWithin {c : CX} {d : Nat} {T : XS} {Q : XS → Prop} {E : Nat → XS → Prop} (hR : c.2.2.2.1.length = 18) (a0 : Int32) (a1 : Int32) (a2 : Int32) (H : ((a0 < a1 → E 1 (tN T 0 0 6)) ∧ (¬ a0 < a1 → ((a0 ≤ a2 → Q T) ∧ (¬ a0 ≤ a2 → E 1 (tN T 0 0 6)))))) : XVt c (d) m_X_needWithin [.int a0, .int a1, .int a2] T Q E := by
  refine ⟨q_X_needWithin, rfl, Nat.le_of_ble_eq_true rfl, ?_⟩
  refine ev_ex 0 (c' := (0, [some (.int a0), some (.int a1), some (.int a2)], [], hX c T)) rfl ?_
  refine ev_ex 2 (c' := (2, [some (.int a0), some (.int a1), some (.int a2)], [.int a1, .int a0], hX c T)) rfl ?_
  refine ev_icmp_lt (tgt := 10) rfl rfl (fun h => ?_) (fun h => ?_)
  · replace H := H.1 (h)
    exact xe_thr hR rfl rfl (Nat.le_of_ble_eq_true rfl) (Or.inr ⟨_, _, rfl, rfl, H⟩)
  · replace H := H.2 (h)
    refine ev_ex 2 (c' := (7, [some (.int a0), some (.int a1), some (.int a2)], [.int a2, .int a0], hX c T)) rfl ?_
    refine ev_icmp_le (tgt := 21) rfl rfl (fun h => ?_) (fun h => ?_)
    · replace H := H.1 (h)
      exact ev_ret rfl rfl rfl (Or.inl ⟨_, rfl, rfl, H⟩)
    · replace H := H.2 (h)
      exact xe_thr hR rfl rfl (Nat.le_of_ble_eq_true rfl) (Or.inr ⟨_, _, rfl, rfl, H⟩)
set_option maxRecDepth 8000 in
theorem wx_X_needTwoGuilds {c : CX} {d : Nat} {T : XS} {Q : XS → Prop} {E : Nat → XS → Prop} (hR : c.2.2.2.1.length = 18) (a0 : Int32) (a1 : Int32) (H : XVt c d m_X_needGuild [.ref 1, .int a0] T (fun T1 => XVt c d m_X_needGuild [.ref 1, .int a1] T1 (fun T2 => ((¬ a0 = a1 → Q T2) ∧ (a0 = a1 → E 1 (tN T2 0 0 6)))) E) E) : XVt c (d + 1) m_X_needTwoGuilds [.ref 1, .int a0, .int a1] T Q E := by
  refine ⟨q_X_needTwoGuilds, rfl, Nat.le_of_ble_eq_true rfl, ?_⟩
  refine ev_ex 0 (c' := (0, [some (.ref 1), some (.int a0), some (.int a1)], [], hX c T)) rfl ?_
  refine ev_ex 2 (c' := (2, [some (.ref 1), some (.int a0), some (.int a1)], [.int a0, .ref 1], hX c T)) rfl ?_
  refine xt_V (idx := 110) rfl rfl rfl (Nat.le_of_ble_eq_true rfl) (Nat.le_of_ble_eq_true rfl) (x_rcv (T := T) (ob_lit (i := 0) rfl (by decide) rfl) ⟨by decide, by decide⟩ _ _) rfl rfl rfl rfl (by decide) H (fun T1 H => ?_)
  refine ev_ex 2 (c' := (7, [some (.ref 1), some (.int a0), some (.int a1)], [.int a1, .ref 1], hX c T1)) rfl ?_
  refine xt_V (idx := 110) rfl rfl rfl (Nat.le_of_ble_eq_true rfl) (Nat.le_of_ble_eq_true rfl) (x_rcv (T := T1) (ob_lit (i := 0) rfl (by decide) rfl) ⟨by decide, by decide⟩ _ _) rfl rfl rfl rfl (by decide) H (fun T2 H => ?_)
  refine ev_ex 2 (c' := (12, [some (.ref 1), some (.int a0), some (.int a1)], [.int a1, .int a0], hX c T2)) rfl ?_
  refine ev_icmp_ne (tgt := 26) rfl rfl (fun h => ?_) (fun h => ?_)
  · replace H := H.1 (h)
    exact ev_ret rfl rfl rfl (Or.inl ⟨_, rfl, rfl, H⟩)
  · replace H := H.2 (h)
    exact xe_thr hR rfl rfl (Nat.le_of_ble_eq_true rfl) (Or.inr ⟨_, _, rfl, rfl, H⟩)
set_option maxRecDepth 8000 in
theorem wx_X_needTray {c : CX} {d : Nat} {T : XS} {Q : Option Nat → XS → Prop} {E : Nat → XS → Prop} (hR : c.2.2.2.1.length = 18) (a0 : Int32) (H : ((a0 < 0 → E 2 (tN T 0 0 6)) ∧ (¬ a0 < 0 → ((a0 < 4 → (okx a0 4 ∧ ((xQ T 113 (ix a0) = none → E 3 (tN T 0 0 6)) ∧ (∀ b1, xQ T 113 (ix a0) = some b1 → Q (some b1) T)))) ∧ (¬ a0 < 4 → E 2 (tN T 0 0 6)))))) : XOt c (d) m_X_needTray [.ref 1, .int a0] T Q E := by
  refine ⟨q_X_needTray, rfl, Nat.le_of_ble_eq_true rfl, ?_⟩
  refine ev_ex 0 (c' := (0, [some (.ref 1), some (.int a0), none], [], hX c T)) rfl ?_
  refine ev_ex 1 (c' := (1, [some (.ref 1), some (.int a0), none], [.int a0], hX c T)) rfl ?_
  refine ev_if_lt (tgt := 9) rfl rfl (fun h => ?_) (fun h => ?_)
  · replace H := H.1 (h)
    exact xe_thr hR rfl rfl (Nat.le_of_ble_eq_true rfl) (Or.inr ⟨_, _, rfl, rfl, H⟩)
  · replace H := H.2 (h)
    refine ev_ex 2 (c' := (6, [some (.ref 1), some (.int a0), none], [.int 4, .int a0], hX c T)) rfl ?_
    refine ev_icmp_lt (tgt := 20) rfl rfl (fun h => ?_) (fun h => ?_)
    · replace H := H.1 (h)
      refine ev_ex 1 (c' := (21, [some (.ref 1), some (.int a0), none], [.ref 1], hX c T)) rfl ?_
      refine xe_gf (ci := 12) (k := 7) rfl rfl (ob_lit (i := 0) rfl (by decide) rfl) ⟨by decide, by decide⟩ (v := .ref 113) rfl ?_
      refine ev_ex 1 (c' := (25, [some (.ref 1), some (.int a0), none], [.int a0, .ref 113], hX c T)) rfl ?_
      obtain ⟨H0, H⟩ := H
      refine xe_ql rfl (ar_lit (i := 28) rfl (by decide) rfl) (by decide) H0 ?_
      refine ev_ex 0 (c' := (26, [some (.ref 1), some (.int a0), none], [va_rf (xQ T 113 (ix a0))], hX c T)) rfl ?_
      refine xe_aso (e := xQ T 113 (ix a0)) rfl (Nat.le_of_ble_eq_true rfl) ?_
      refine ev_ex 0 (c' := (27, [some (.ref 1), some (.int a0), some (va_rf (xQ T 113 (ix a0)))], [], hX c T)) rfl ?_
      refine xe_alo (e := xQ T 113 (ix a0)) rfl rfl ?_
      refine xe_nnl (e := (xQ T 113 (ix a0))) (tgt := 42) rfl rfl (fun b1 hb => ?_) (fun hb => ?_)
      · replace H := H.2 b1 hb
        rw [hb]
        refine ev_ex 0 (c' := (42, [some (.ref 1), some (.int a0), some (.ref b1)], [], hX c T)) rfl ?_
        refine ev_ex 1 (c' := (43, [some (.ref 1), some (.int a0), some (.ref b1)], [.ref b1], hX c T)) rfl ?_
        exact ev_retO (e := (some b1)) rfl rfl (Or.inl ⟨_, rfl⟩) (Or.inl ⟨_, _, rfl, rfl, H⟩)
      · replace H := H.1 hb
        rw [hb]
        refine ev_ex 0 (c' := (31, [some (.ref 1), some (.int a0), some (.null)], [], hX c T)) rfl ?_
        exact xe_thr hR rfl rfl (Nat.le_of_ble_eq_true rfl) (Or.inr ⟨_, _, rfl, rfl, H⟩)
    · replace H := H.2 (h)
      exact xe_thr hR rfl rfl (Nat.le_of_ble_eq_true rfl) (Or.inr ⟨_, _, rfl, rfl, H⟩)
set_option maxRecDepth 8000 in
theorem wx_X_tryDeed {c : CX} {d : Nat} {T : XS} {Q : Bool → XS → Prop} (a0 : Int64) (H : XI c d m_Ct_whyNotTold [.ref 117, .ref 93, .long a0] T (fun v2 T1 => ((v2 = 0 → XV c d m_Fr_remember [.ref 49] T1 (fun T3 => XV c d m_Ct_enact [.ref 117, .ref 93, .long a0] T3 (fun T4 => Q true T4))) ∧ (¬ v2 = 0 → Q false T1)))) : XB c (d + 1) m_X_tryDeed [.ref 1, .long a0] T Q := by
  refine ⟨q_X_tryDeed, rfl, Nat.le_of_ble_eq_true rfl, ?_⟩
  refine ev_ex 0 (c' := (0, [some (.ref 1), some (.long a0), none], [], hX c T)) rfl ?_
  refine ev_ex 1 (c' := (1, [some (.ref 1), some (.long a0), none], [.ref 1], hX c T)) rfl ?_
  refine xe_gf (ci := 12) (k := 8) rfl rfl (ob_lit (i := 0) rfl (by decide) rfl) ⟨by decide, by decide⟩ (v := .ref 117) rfl ?_
  refine ev_ex 1 (c' := (5, [some (.ref 1), some (.long a0), none], [.ref 1, .ref 117], hX c T)) rfl ?_
  refine xe_gf (ci := 12) (k := 5) rfl rfl (ob_lit (i := 0) rfl (by decide) rfl) ⟨by decide, by decide⟩ (v := .ref 49) rfl ?_
  refine xe_gf (ci := 4) (k := 0) rfl rfl (ob_lit (i := 12) rfl (by decide) rfl) ⟨by decide, by decide⟩ (v := .ref 93) rfl ?_
  refine ev_ex 1 (c' := (12, [some (.ref 1), some (.long a0), none], [.long a0, .ref 93, .ref 117], hX c T)) rfl ?_
  refine xc_I (idx := 215) rfl rfl rfl (Nat.le_of_ble_eq_true rfl) (Nat.le_of_ble_eq_true rfl) (x_rcv (T := T) (ob_lit (i := 29) rfl (by decide) rfl) ⟨by decide, by decide⟩ _ _) H (fun v2 T1 H => ?_)
  refine ev_if_eq (tgt := 20) rfl rfl (fun h => ?_) (fun h => ?_)
  · replace H := H.1 (h)
    refine ev_ex 1 (c' := (21, [some (.ref 1), some (.long a0), none], [.ref 1], hX c T1)) rfl ?_
    refine xe_gf (ci := 12) (k := 5) rfl rfl (ob_lit (i := 0) rfl (by decide) rfl) ⟨by decide, by decide⟩ (v := .ref 49) rfl ?_
    refine xc_V (idx := 178) rfl rfl rfl (Nat.le_of_ble_eq_true rfl) (Nat.le_of_ble_eq_true rfl) (x_rcv (T := T1) (ob_lit (i := 12) rfl (by decide) rfl) ⟨by decide, by decide⟩ _ _) H (fun T3 H => ?_)
    refine ev_ex 1 (c' := (28, [some (.ref 1), some (.long a0), none], [.ref 1], hX c T3)) rfl ?_
    refine xe_gf (ci := 12) (k := 8) rfl rfl (ob_lit (i := 0) rfl (by decide) rfl) ⟨by decide, by decide⟩ (v := .ref 117) rfl ?_
    refine ev_ex 1 (c' := (32, [some (.ref 1), some (.long a0), none], [.ref 1, .ref 117], hX c T3)) rfl ?_
    refine xe_gf (ci := 12) (k := 5) rfl rfl (ob_lit (i := 0) rfl (by decide) rfl) ⟨by decide, by decide⟩ (v := .ref 49) rfl ?_
    refine xe_gf (ci := 4) (k := 0) rfl rfl (ob_lit (i := 12) rfl (by decide) rfl) ⟨by decide, by decide⟩ (v := .ref 93) rfl ?_
    refine ev_ex 1 (c' := (39, [some (.ref 1), some (.long a0), none], [.long a0, .ref 93, .ref 117], hX c T3)) rfl ?_
    refine xc_V (idx := 219) rfl rfl rfl (Nat.le_of_ble_eq_true rfl) (Nat.le_of_ble_eq_true rfl) (x_rcv (T := T3) (ob_lit (i := 29) rfl (by decide) rfl) ⟨by decide, by decide⟩ _ _) H (fun T4 H => ?_)
    refine ev_ex 1 (c' := (43, [some (.ref 1), some (.long a0), none], [.int 1], hX c T4)) rfl ?_
    exact ev_retB (x := true) rfl rfl ⟨_, _, rfl, rfl, H⟩
  · replace H := H.2 (h)
    refine ev_ex 1 (c' := (19, [some (.ref 1), some (.long a0), none], [.int 0], hX c T1)) rfl ?_
    exact ev_retB (x := false) rfl rfl ⟨_, _, rfl, rfl, H⟩
set_option maxRecDepth 8000 in
theorem wx_X_needSight {c : CX} {d : Nat} {T : XS} {Q : XS → Prop} {E : Nat → XS → Prop} (hR : c.2.2.2.1.length = 18) (a0 : Nat) (H : (∃ b1 : Nat, frx T 93 0 = some b1 ∧ (CvS T b1 ∧ (TyS T a0 ∧ (((xI T a0 2) = (xI T b1 1) → eX c (d + 1) m_X_needSight 35 [some (.ref 1), some (.ref a0), some (.int (xI T b1 1)), some (.int 0), none, none] T (yt c E (yV c Q))) ∧ (¬ (xI T a0 2) = (xI T b1 1) → E 1 (tN T 0 0 6))))))) : XVt c (d + 1) m_X_needSight [.ref 1, .ref a0] T Q E := by
  refine ⟨q_X_needSight, rfl, Nat.le_of_ble_eq_true rfl, ?_⟩
  refine ev_ex 0 (c' := (0, [some (.ref 1), some (.ref a0), none, none, none, none], [], hX c T)) rfl ?_
  refine ev_ex 1 (c' := (1, [some (.ref 1), some (.ref a0), none, none, none, none], [.ref 1], hX c T)) rfl ?_
  refine xe_gf (ci := 12) (k := 5) rfl rfl (ob_lit (i := 0) rfl (by decide) rfl) ⟨by decide, by decide⟩ (v := .ref 49) rfl ?_
  refine xe_gf (ci := 4) (k := 0) rfl rfl (ob_lit (i := 12) rfl (by decide) rfl) ⟨by decide, by decide⟩ (v := .ref 93) rfl ?_
  obtain ⟨b1, h2, H⟩ := H
  refine xe_gfr (ci := 9) (k := 0) rfl rfl (ob_lit (i := 23) rfl (by decide) rfl) ⟨by decide, by decide⟩ rfl h2 ?_
  obtain ⟨h3, H⟩ := H
  refine xe_gf (ci := 2) (k := 1) rfl rfl h3.1 ⟨by decide, by decide⟩ (v := .int (xI T b1 1)) rfl ?_
  refine ev_ex 2 (c' := (15, [some (.ref 1), some (.ref a0), some (.int (xI T b1 1)), none, none, none], [.ref a0], hX c T)) rfl ?_
  obtain ⟨h4, H⟩ := H
  refine xe_gf (ci := 11) (k := 2) rfl rfl h4.1 ⟨by decide, by decide⟩ (v := .int (xI T a0 2)) rfl ?_
  refine ev_ex 1 (c' := (19, [some (.ref 1), some (.ref a0), some (.int (xI T b1 1)), none, none, none], [.int (xI T b1 1), .int (xI T a0 2)], hX c T)) rfl ?_
  refine ev_icmp_eq (tgt := 33) rfl rfl (fun h => ?_) (fun h => ?_)
  · replace H := H.1 (h)
    refine ev_ex 2 (c' := (35, [some (.ref 1), some (.ref a0), some (.int (xI T b1 1)), some (.int 0), none, none], [], hX c T)) rfl ?_
    exact H
  · replace H := H.2 (h)
    exact xe_thr hR rfl rfl (Nat.le_of_ble_eq_true rfl) (Or.inr ⟨_, _, rfl, rfl, H⟩)
set_option maxRecDepth 8000 in
theorem wx_X_needSight_35 {c : CX} {d : Nat} {T : XS} {Q : XS → Prop} {E : Nat → XS → Prop} (hR : c.2.2.2.1.length = 18) (a0 : Nat) (l2 : Int32) (l3 : Int32) (H : ((l2 ≤ l3 → Q T) ∧ (¬ l2 ≤ l3 → (TyS T a0 ∧ XJ c d m_Ty_numberAt [.ref a0, .int l3] T (fun v53 T52 => ((v53 = 99 → eX c (d + 1) m_X_needSight 35 [some (.ref 1), some (.ref a0), some (.int l2), some (.int (l3 + 1)), none, none] T52 (yt c E (yV c Q))) ∧ (¬ v53 = 99 → ((v53 < ((-1)) → E 1 (tN T52 0 0 6)) ∧ (¬ v53 < ((-1)) → ((v53 < l2.toInt64 → eX c (d + 1) m_X_needSight 35 [some (.ref 1), some (.ref a0), some (.int l2), some (.int (l3 + 1)), none, none] T52 (yt c E (yV c Q))) ∧ (¬ v53 < l2.toInt64 → E 1 (tN T52 0 0 6)))))))))))) : eX c (d + 1) m_X_needSight 35 [some (.ref 1), some (.ref a0), some (.int l2), some (.int l3), none, none] T (yt c E (yV c Q)) := by
  unfold eX
  refine ev_ex 0 (c' := (35, [some (.ref 1), some (.ref a0), some (.int l2), some (.int l3), none, none], [], hX c T)) rfl ?_
  refine ev_ex 2 (c' := (37, [some (.ref 1), some (.ref a0), some (.int l2), some (.int l3), none, none], [.int l2, .int l3], hX c T)) rfl ?_
  refine ev_icmp_ge (tgt := 90) rfl rfl (fun h => ?_) (fun h => ?_)
  · replace H := H.1 (h)
    exact ev_ret rfl rfl rfl (Or.inl ⟨_, rfl, rfl, H⟩)
  · replace H := H.2 (h)
    refine ev_ex 2 (c' := (42, [some (.ref 1), some (.ref a0), some (.int l2), some (.int l3), none, none], [.int l3, .ref a0], hX c T)) rfl ?_
    obtain ⟨h51, H⟩ := H
    refine xc_J (idx := 211) rfl rfl rfl (Nat.le_of_ble_eq_true rfl) (Nat.le_of_ble_eq_true rfl) (x_rcv (T := T) h51.1 ⟨by decide, by decide⟩ _ _) H (fun v53 T52 H => ?_)
    refine ev_ex 4 (c' := (53, [some (.ref 1), some (.ref a0), some (.int l2), some (.int l3), some (.long v53), none], [.int (lg_cmp v53 99)], hX c T52)) rfl ?_
    refine ev_if_eq (tgt := 84) rfl rfl (fun h => ?_) (fun h => ?_)
    · replace H := H.1 ((lg_cmp_eq _ _).mp h)
      refine ev_ex 2 (c' := (35, [some (.ref 1), some (.ref a0), some (.int l2), some (.int (l3 + 1)), some (.long v53), none], [], hX c T52)) rfl ?_
      exact ev_less (lle_of (L := [some (.ref 1), some (.ref a0), some (.int l2), some (.int (l3 + 1)), none, none]) ⟨rfl, ⟨rfl, ⟨rfl, ⟨rfl, trivial⟩⟩⟩⟩) H
    · replace H := H.2 ((fun q => h ((lg_cmp_eq _ _).mpr q)))
      refine ev_ex 3 (c' := (62, [some (.ref 1), some (.ref a0), some (.int l2), some (.int l3), some (.long v53), none], [.int (lg_cmp v53 ((-1)))], hX c T52)) rfl ?_
      refine ev_if_lt (tgt := 73) rfl rfl (fun h => ?_) (fun h => ?_)
      · replace H := H.1 ((lg_cmp_lt _ _).mp h)
        exact xe_thr hR rfl rfl (Nat.le_of_ble_eq_true rfl) (Or.inr ⟨_, _, rfl, rfl, H⟩)
      · replace H := H.2 ((fun q => h ((lg_cmp_lt _ _).mpr q)))
        refine ev_ex 4 (c' := (70, [some (.ref 1), some (.ref a0), some (.int l2), some (.int l3), some (.long v53), none], [.int (lg_cmp v53 l2.toInt64)], hX c T52)) rfl ?_
        refine ev_if_lt (tgt := 84) rfl rfl (fun h => ?_) (fun h => ?_)
        · replace H := H.1 ((lg_cmp_lt _ _).mp h)
          refine ev_ex 2 (c' := (35, [some (.ref 1), some (.ref a0), some (.int l2), some (.int (l3 + 1)), some (.long v53), none], [], hX c T52)) rfl ?_
          exact ev_less (lle_of (L := [some (.ref 1), some (.ref a0), some (.int l2), some (.int (l3 + 1)), none, none]) ⟨rfl, ⟨rfl, ⟨rfl, ⟨rfl, trivial⟩⟩⟩⟩) H
        · replace H := H.2 ((fun q => h ((lg_cmp_lt _ _).mpr q)))
          exact xe_thr hR rfl rfl (Nat.le_of_ble_eq_true rfl) (Or.inr ⟨_, _, rfl, rfl, H⟩)
set_option maxRecDepth 8000 in
theorem wx_X_looksSo {c : CX} {d : Nat} {T : XS} {Q : Bool → XS → Prop} (a0 : Nat) (H : eX c (d + 1) m_X_looksSo 2 [some (.ref 1), some (.ref a0), some (.int 0), none, none, none, none] T (yB c Q)) : XB c (d + 1) m_X_looksSo [.ref 1, .ref a0] T Q := by
  refine ⟨q_X_looksSo, rfl, Nat.le_of_ble_eq_true rfl, ?_⟩
  refine ev_ex 0 (c' := (0, [some (.ref 1), some (.ref a0), none, none, none, none, none], [], hX c T)) rfl ?_
  refine ev_ex 2 (c' := (2, [some (.ref 1), some (.ref a0), some (.int 0), none, none, none, none], [], hX c T)) rfl ?_
  exact H
set_option maxRecDepth 8000 in
theorem wx_X_looksSo_2 {c : CX} {d : Nat} {T : XS} {Q : Bool → XS → Prop} (a0 : Nat) (l2 : Int32) (H : (TyS T a0 ∧ (((xI T a0 2) ≤ l2 → Q true T) ∧ (¬ (xI T a0 2) ≤ l2 → ((10 ≤ l2 → Q true T) ∧ (¬ 10 ≤ l2 → XJ c d m_Ty_numberAt [.ref a0, .int l2] T (fun v53 T52 => (okx l2 10 ∧ ((¬ (xA T52 213 (ix l2)) = ((-1)) → (okx l2 10 ∧ ((v53 = ((-1)) → eX c (d + 1) m_X_looksSo 2 [some (.ref 1), some (.ref a0), some (.int (l2 + 1)), none, none, none, none] T52 (yB c Q)) ∧ (¬ v53 = ((-1)) → ((v53 = ((xA T52 213 (ix l2)).toInt64) → eX c (d + 1) m_X_looksSo 2 [some (.ref 1), some (.ref a0), some (.int (l2 + 1)), none, none, none, none] T52 (yB c Q)) ∧ (¬ v53 = ((xA T52 213 (ix l2)).toInt64) → Q false T52)))))) ∧ ((xA T52 213 (ix l2)) = ((-1)) → ((v53 = ((-1)) → eX c (d + 1) m_X_looksSo 2 [some (.ref 1), some (.ref a0), some (.int (l2 + 1)), none, none, none, none] T52 (yB c Q)) ∧ (¬ v53 = ((-1)) → ((v53 = 99 → eX c (d + 1) m_X_looksSo 2 [some (.ref 1), some (.ref a0), some (.int (l2 + 1)), none, none, none, none] T52 (yB c Q)) ∧ (¬ v53 = 99 → Q false T52)))))))))))))) : eX c (d + 1) m_X_looksSo 2 [some (.ref 1), some (.ref a0), some (.int l2), none, none, none, none] T (yB c Q) := by
  unfold eX
  refine ev_ex 0 (c' := (2, [some (.ref 1), some (.ref a0), some (.int l2), none, none, none, none], [], hX c T)) rfl ?_
  refine ev_ex 2 (c' := (4, [some (.ref 1), some (.ref a0), some (.int l2), none, none, none, none], [.ref a0, .int l2], hX c T)) rfl ?_
  obtain ⟨h51, H⟩ := H
  refine xe_gf (ci := 11) (k := 2) rfl rfl h51.1 ⟨by decide, by decide⟩ (v := .int (xI T a0 2)) rfl ?_
  refine ev_icmp_ge (tgt := 76) rfl rfl (fun h => ?_) (fun h => ?_)
  · replace H := H.1 (h)
    refine ev_ex 1 (c' := (77, [some (.ref 1), some (.ref a0), some (.int l2), none, none, none, none], [.int 1], hX c T)) rfl ?_
    exact ev_retB (x := true) rfl rfl ⟨_, _, rfl, rfl, H⟩
  · replace H := H.2 (h)
    refine ev_ex 2 (c' := (13, [some (.ref 1), some (.ref a0), some (.int l2), none, none, none, none], [.int 10, .int l2], hX c T)) rfl ?_
    refine ev_icmp_ge (tgt := 76) rfl rfl (fun h => ?_) (fun h => ?_)
    · replace H := H.1 (h)
      refine ev_ex 1 (c' := (77, [some (.ref 1), some (.ref a0), some (.int l2), none, none, none, none], [.int 1], hX c T)) rfl ?_
      exact ev_retB (x := true) rfl rfl ⟨_, _, rfl, rfl, H⟩
    · replace H := H.2 (h)
      refine ev_ex 2 (c' := (18, [some (.ref 1), some (.ref a0), some (.int l2), none, none, none, none], [.int l2, .ref a0], hX c T)) rfl ?_
      refine xc_J (idx := 211) rfl rfl rfl (Nat.le_of_ble_eq_true rfl) (Nat.le_of_ble_eq_true rfl) (x_rcv (T := T) h51.1 ⟨by decide, by decide⟩ _ _) H (fun v53 T52 H => ?_)
      refine ev_ex 2 (c' := (23, [some (.ref 1), some (.ref a0), some (.int l2), some (.long v53), none, none, none], [.ref 1], hX c T52)) rfl ?_
      refine xe_gf (ci := 12) (k := 11) rfl rfl (ob_lit (i := 0) rfl (by decide) rfl) ⟨by decide, by decide⟩ (v := .ref 173) rfl ?_
      refine xe_gf (ci := 9) (k := 1) rfl rfl (ob_lit (i := 43) rfl (by decide) rfl) ⟨by decide, by decide⟩ (v := .ref 213) rfl ?_
      refine ev_ex 1 (c' := (30, [some (.ref 1), some (.ref a0), some (.int l2), some (.long v53), none, none, none], [.int l2, .ref 213], hX c T52)) rfl ?_
      obtain ⟨H0, H⟩ := H
      refine xe_al rfl (ar_lit (i := 53) rfl (by decide) rfl) H0 ?_
      refine ev_ex 0 (c' := (31, [some (.ref 1), some (.ref a0), some (.int l2), some (.long v53), none, none, none], [.int (xA T52 213 (ix l2))], hX c T52)) rfl ?_
      refine ev_ex 1 (c' := (32, [some (.ref 1), some (.ref a0), some (.int l2), some (.long v53), none, none, none], [.int ((-1)), .int (xA T52 213 (ix l2))], hX c T52)) rfl ?_
      refine ev_icmp_ne (tgt := 41) rfl rfl (fun h => ?_) (fun h => ?_)
      · replace H := H.1 (h)
        refine ev_ex 1 (c' := (42, [some (.ref 1), some (.ref a0), some (.int l2), some (.long v53), none, none, none], [.ref 1], hX c T52)) rfl ?_
        refine xe_gf (ci := 12) (k := 11) rfl rfl (ob_lit (i := 0) rfl (by decide) rfl) ⟨by decide, by decide⟩ (v := .ref 173) rfl ?_
        refine xe_gf (ci := 9) (k := 1) rfl rfl (ob_lit (i := 43) rfl (by decide) rfl) ⟨by decide, by decide⟩ (v := .ref 213) rfl ?_
        refine ev_ex 1 (c' := (49, [some (.ref 1), some (.ref a0), some (.int l2), some (.long v53), none, none, none], [.int l2, .ref 213], hX c T52)) rfl ?_
        obtain ⟨H0, H⟩ := H
        refine xe_al rfl (ar_lit (i := 53) rfl (by decide) rfl) H0 ?_
        refine ev_ex 0 (c' := (50, [some (.ref 1), some (.ref a0), some (.int l2), some (.long v53), none, none, none], [.int (xA T52 213 (ix l2))], hX c T52)) rfl ?_
        refine ev_ex 5 (c' := (58, [some (.ref 1), some (.ref a0), some (.int l2), some (.long v53), none, some (.long ((xA T52 213 (ix l2)).toInt64)), none], [.int (lg_cmp v53 ((-1)))], hX c T52)) rfl ?_
        refine ev_if_eq (tgt := 70) rfl rfl (fun h => ?_) (fun h => ?_)
        · replace H := H.1 ((lg_cmp_eq _ _).mp h)
          refine ev_ex 2 (c' := (2, [some (.ref 1), some (.ref a0), some (.int (l2 + 1)), some (.long v53), none, some (.long ((xA T52 213 (ix l2)).toInt64)), none], [], hX c T52)) rfl ?_
          exact ev_less (lle_of (L := [some (.ref 1), some (.ref a0), some (.int (l2 + 1)), none, none, none, none]) ⟨rfl, ⟨rfl, ⟨rfl, trivial⟩⟩⟩) H
        · replace H := H.2 ((fun q => h ((lg_cmp_eq _ _).mpr q)))
          refine ev_ex 3 (c' := (65, [some (.ref 1), some (.ref a0), some (.int l2), some (.long v53), none, some (.long ((xA T52 213 (ix l2)).toInt64)), none], [.int (lg_cmp v53 ((xA T52 213 (ix l2)).toInt64))], hX c T52)) rfl ?_
          refine ev_if_eq (tgt := 70) rfl rfl (fun h => ?_) (fun h => ?_)
          · replace H := H.1 ((lg_cmp_eq _ _).mp h)
            refine ev_ex 2 (c' := (2, [some (.ref 1), some (.ref a0), some (.int (l2 + 1)), some (.long v53), none, some (.long ((xA T52 213 (ix l2)).toInt64)), none], [], hX c T52)) rfl ?_
            exact ev_less (lle_of (L := [some (.ref 1), some (.ref a0), some (.int (l2 + 1)), none, none, none, none]) ⟨rfl, ⟨rfl, ⟨rfl, trivial⟩⟩⟩) H
          · replace H := H.2 ((fun q => h ((lg_cmp_eq _ _).mpr q)))
            refine ev_ex 1 (c' := (69, [some (.ref 1), some (.ref a0), some (.int l2), some (.long v53), none, some (.long ((xA T52 213 (ix l2)).toInt64)), none], [.int 0], hX c T52)) rfl ?_
            exact ev_retB (x := false) rfl rfl ⟨_, _, rfl, rfl, H⟩
      · replace H := H.2 (h)
        refine ev_ex 6 (c' := (58, [some (.ref 1), some (.ref a0), some (.int l2), some (.long v53), none, some (.long 99), none], [.int (lg_cmp v53 ((-1)))], hX c T52)) rfl ?_
        refine ev_if_eq (tgt := 70) rfl rfl (fun h => ?_) (fun h => ?_)
        · replace H := H.1 ((lg_cmp_eq _ _).mp h)
          refine ev_ex 2 (c' := (2, [some (.ref 1), some (.ref a0), some (.int (l2 + 1)), some (.long v53), none, some (.long 99), none], [], hX c T52)) rfl ?_
          exact ev_less (lle_of (L := [some (.ref 1), some (.ref a0), some (.int (l2 + 1)), none, none, none, none]) ⟨rfl, ⟨rfl, ⟨rfl, trivial⟩⟩⟩) H
        · replace H := H.2 ((fun q => h ((lg_cmp_eq _ _).mpr q)))
          refine ev_ex 3 (c' := (65, [some (.ref 1), some (.ref a0), some (.int l2), some (.long v53), none, some (.long 99), none], [.int (lg_cmp v53 99)], hX c T52)) rfl ?_
          refine ev_if_eq (tgt := 70) rfl rfl (fun h => ?_) (fun h => ?_)
          · replace H := H.1 ((lg_cmp_eq _ _).mp h)
            refine ev_ex 2 (c' := (2, [some (.ref 1), some (.ref a0), some (.int (l2 + 1)), some (.long v53), none, some (.long 99), none], [], hX c T52)) rfl ?_
            exact ev_less (lle_of (L := [some (.ref 1), some (.ref a0), some (.int (l2 + 1)), none, none, none, none]) ⟨rfl, ⟨rfl, ⟨rfl, trivial⟩⟩⟩) H
          · replace H := H.2 ((fun q => h ((lg_cmp_eq _ _).mpr q)))
            refine ev_ex 1 (c' := (69, [some (.ref 1), some (.ref a0), some (.int l2), some (.long v53), none, some (.long 99), none], [.int 0], hX c T52)) rfl ?_
            exact ev_retB (x := false) rfl rfl ⟨_, _, rfl, rfl, H⟩
set_option maxRecDepth 8000 in
theorem wx_X_needImage {c : CX} {d : Nat} {T : XS} {Q : XS → Prop} {E : Nat → XS → Prop} (hR : c.2.2.2.1.length = 18) (a0 : Int32) (H : ((a0 < 0 → E 2 (tN T 0 0 6)) ∧ (¬ a0 < 0 → ((a0 < 3 → Q T) ∧ (¬ a0 < 3 → E 2 (tN T 0 0 6)))))) : XVt c (d) m_X_needImage [.int a0] T Q E := by
  refine ⟨q_X_needImage, rfl, Nat.le_of_ble_eq_true rfl, ?_⟩
  refine ev_ex 0 (c' := (0, [some (.int a0)], [], hX c T)) rfl ?_
  refine ev_ex 1 (c' := (1, [some (.int a0)], [.int a0], hX c T)) rfl ?_
  refine ev_if_lt (tgt := 9) rfl rfl (fun h => ?_) (fun h => ?_)
  · replace H := H.1 (h)
    exact xe_thr hR rfl rfl (Nat.le_of_ble_eq_true rfl) (Or.inr ⟨_, _, rfl, rfl, H⟩)
  · replace H := H.2 (h)
    refine ev_ex 2 (c' := (6, [some (.int a0)], [.int 3, .int a0], hX c T)) rfl ?_
    refine ev_icmp_lt (tgt := 20) rfl rfl (fun h => ?_) (fun h => ?_)
    · replace H := H.1 (h)
      exact ev_ret rfl rfl rfl (Or.inl ⟨_, rfl, rfl, H⟩)
    · replace H := H.2 (h)
      exact xe_thr hR rfl rfl (Nat.le_of_ble_eq_true rfl) (Or.inr ⟨_, _, rfl, rfl, H⟩)
set_option maxRecDepth 8000 in
theorem wx_Fr_remember {c : CX} {d : Nat} {T : XS} {Q : XS → Prop} (a : Nat) (H : (FrS T a ∧ (((xI T a 2) < 10 → XV c d m_Fr_keep [.ref a, .int (xI T a 2), .ref (fN a)] T (fun T2 => (FrS T2 a ∧ Q (tI T2 a 2 ((xI T2 a 2) + 1))))) ∧ (¬ (xI T a 2) < 10 → XV c d m_Fr_forgetEldest [.ref a] T (fun T4 => (FrS T4 a ∧ XV c d m_Fr_keep [.ref a, .int (xI T4 a 2), .ref (fN a)] T4 (fun T6 => (FrS T6 a ∧ Q (tI T6 a 2 ((xI T6 a 2) + 1)))))))))) : XV c (d + 1) m_Fr_remember [.ref a] T Q := by
  refine ⟨q_Fr_remember, rfl, Nat.le_of_ble_eq_true rfl, ?_⟩
  refine ev_ex 0 (c' := (0, [some (.ref a)], [], hX c T)) rfl ?_
  refine ev_ex 1 (c' := (1, [some (.ref a)], [.ref a], hX c T)) rfl ?_
  obtain ⟨h1, H⟩ := H
  refine xe_gf (ci := 4) (k := 2) rfl rfl h1.1 ⟨by decide, by decide⟩ (v := .int (xI T a 2)) rfl ?_
  refine ev_ex 1 (c' := (6, [some (.ref a)], [.int 10, .int (xI T a 2)], hX c T)) rfl ?_
  refine ev_icmp_lt (tgt := 13) rfl rfl (fun h => ?_) (fun h => ?_)
  · replace H := H.1 (h)
    refine ev_ex 2 (c' := (15, [some (.ref a)], [.ref a, .ref a], hX c T)) rfl ?_
    refine xe_gf (ci := 4) (k := 2) rfl rfl h1.1 ⟨by decide, by decide⟩ (v := .int (xI T a 2)) rfl ?_
    refine ev_ex 1 (c' := (19, [some (.ref a)], [.ref a, .int (xI T a 2), .ref a], hX c T)) rfl ?_
    refine xe_gfr (ci := 4) (k := 0) rfl rfl h1.1 ⟨by decide, by decide⟩ rfl h1.fn ?_
    refine xc_V (idx := 34) rfl rfl rfl (Nat.le_of_ble_eq_true rfl) (Nat.le_of_ble_eq_true rfl) (x_rcv (T := T) h1.1 ⟨by decide, by decide⟩ _ _) H (fun T2 H => ?_)
    refine ev_ex 2 (c' := (27, [some (.ref a)], [.ref a, .ref a], hX c T2)) rfl ?_
    obtain ⟨h3, H⟩ := H
    refine xe_gf (ci := 4) (k := 2) rfl rfl h3.1 ⟨by decide, by decide⟩ (v := .int (xI T2 a 2)) rfl ?_
    refine ev_ex 2 (c' := (32, [some (.ref a)], [.int ((xI T2 a 2) + 1), .ref a], hX c T2)) rfl ?_
    refine xe_pi (ci := 4) (k := 2) rfl rfl h3.1 ⟨by decide, by decide⟩ (Nat.le_of_ble_eq_true rfl) rfl (fi_4_2 _ _ _) ?_
    exact ev_ret rfl rfl rfl ⟨_, rfl, rfl, H⟩
  · replace H := H.2 (h)
    refine ev_ex 1 (c' := (10, [some (.ref a)], [.ref a], hX c T)) rfl ?_
    refine xc_V (idx := 31) rfl rfl rfl (Nat.le_of_ble_eq_true rfl) (Nat.le_of_ble_eq_true rfl) (x_rcv (T := T) h1.1 ⟨by decide, by decide⟩ _ _) H (fun T4 H => ?_)
    refine ev_ex 2 (c' := (15, [some (.ref a)], [.ref a, .ref a], hX c T4)) rfl ?_
    obtain ⟨h5, H⟩ := H
    refine xe_gf (ci := 4) (k := 2) rfl rfl h5.1 ⟨by decide, by decide⟩ (v := .int (xI T4 a 2)) rfl ?_
    refine ev_ex 1 (c' := (19, [some (.ref a)], [.ref a, .int (xI T4 a 2), .ref a], hX c T4)) rfl ?_
    refine xe_gfr (ci := 4) (k := 0) rfl rfl h5.1 ⟨by decide, by decide⟩ rfl h5.fn ?_
    refine xc_V (idx := 34) rfl rfl rfl (Nat.le_of_ble_eq_true rfl) (Nat.le_of_ble_eq_true rfl) (x_rcv (T := T4) h5.1 ⟨by decide, by decide⟩ _ _) H (fun T6 H => ?_)
    refine ev_ex 2 (c' := (27, [some (.ref a)], [.ref a, .ref a], hX c T6)) rfl ?_
    obtain ⟨h7, H⟩ := H
    refine xe_gf (ci := 4) (k := 2) rfl rfl h7.1 ⟨by decide, by decide⟩ (v := .int (xI T6 a 2)) rfl ?_
    refine ev_ex 2 (c' := (32, [some (.ref a)], [.int ((xI T6 a 2) + 1), .ref a], hX c T6)) rfl ?_
    refine xe_pi (ci := 4) (k := 2) rfl rfl h7.1 ⟨by decide, by decide⟩ (Nat.le_of_ble_eq_true rfl) rfl (fi_4_2 _ _ _) ?_
    exact ev_ret rfl rfl rfl ⟨_, rfl, rfl, H⟩
set_option maxRecDepth 8000 in
theorem wx_Fr_open {c : CX} {d : Nat} {T : XS} {Q : XS → Prop} (a : Nat) (a0 : Nat) (H : (FrS T a ∧ (SdS T (fN a) ∧ XV c d m_Sd_open [.ref (fN a), .ref a0] T (fun T3 => (FrS T3 a ∧ Q (tI T3 a 2 0)))))) : XV c (d + 1) m_Fr_open [.ref a, .ref a0] T Q := by
  refine ⟨q_Fr_open, rfl, Nat.le_of_ble_eq_true rfl, ?_⟩
  refine ev_ex 0 (c' := (0, [some (.ref a), some (.ref a0)], [], hX c T)) rfl ?_
  refine ev_ex 1 (c' := (1, [some (.ref a), some (.ref a0)], [.ref a], hX c T)) rfl ?_
  obtain ⟨h1, H⟩ := H
  refine xe_gfr (ci := 4) (k := 0) rfl rfl h1.1 ⟨by decide, by decide⟩ rfl h1.fn ?_
  refine ev_ex 1 (c' := (5, [some (.ref a), some (.ref a0)], [.ref a0, .ref (fN a)], hX c T)) rfl ?_
  obtain ⟨h2, H⟩ := H
  refine xc_V (idx := 24) rfl rfl rfl (Nat.le_of_ble_eq_true rfl) (Nat.le_of_ble_eq_true rfl) (x_rcv (T := T) h2.1 ⟨by decide, by decide⟩ _ _) H (fun T3 H => ?_)
  refine ev_ex 2 (c' := (10, [some (.ref a), some (.ref a0)], [.int 0, .ref a], hX c T3)) rfl ?_
  obtain ⟨h4, H⟩ := H
  refine xe_pi (ci := 4) (k := 2) rfl rfl h4.1 ⟨by decide, by decide⟩ (Nat.le_of_ble_eq_true rfl) rfl (fi_4_2 _ _ _) ?_
  exact ev_ret rfl rfl rfl ⟨_, rfl, rfl, H⟩
set_option maxRecDepth 8000 in
theorem wx_Fr_takeBack {c : CX} {d : Nat} {T : XS} {Q : XS → Prop} (a : Nat) (a0 : Int32) (H : ((a0 < 1 → Q T) ∧ (¬ a0 < 1 → (FrS T a ∧ ((a0 ≤ (xI T a 2) → (okx ((xI T a 2) - a0) 10 ∧ ((xQ T (fP a) (ix ((xI T a 2) - a0)) = none → Q (tI T a 2 ((xI T a 2) - a0))) ∧ (∀ b2, xQ T (fP a) (ix ((xI T a 2) - a0)) = some b2 → (SdS T (fN a) ∧ XV c d m_Sd_copyFrom [.ref (fN a), .ref b2] T (fun T4 => (FrS T4 a ∧ Q (tI T4 a 2 ((xI T4 a 2) - a0))))))))) ∧ (¬ a0 ≤ (xI T a 2) → Q T)))))) : XV c (d + 1) m_Fr_takeBack [.ref a, .int a0] T Q := by
  refine ⟨q_Fr_takeBack, rfl, Nat.le_of_ble_eq_true rfl, ?_⟩
  refine ev_ex 0 (c' := (0, [some (.ref a), some (.int a0), none], [], hX c T)) rfl ?_
  refine ev_ex 2 (c' := (2, [some (.ref a), some (.int a0), none], [.int 1, .int a0], hX c T)) rfl ?_
  refine ev_icmp_lt (tgt := 13) rfl rfl (fun h => ?_) (fun h => ?_)
  · replace H := H.1 (h)
    exact ev_ret rfl rfl rfl ⟨_, rfl, rfl, H⟩
  · replace H := H.2 (h)
    refine ev_ex 2 (c' := (7, [some (.ref a), some (.int a0), none], [.ref a, .int a0], hX c T)) rfl ?_
    obtain ⟨h1, H⟩ := H
    refine xe_gf (ci := 4) (k := 2) rfl rfl h1.1 ⟨by decide, by decide⟩ (v := .int (xI T a 2)) rfl ?_
    refine ev_icmp_le (tgt := 14) rfl rfl (fun h => ?_) (fun h => ?_)
    · replace H := H.1 (h)
      refine ev_ex 1 (c' := (15, [some (.ref a), some (.int a0), none], [.ref a], hX c T)) rfl ?_
      refine xe_gfr (ci := 4) (k := 1) rfl rfl h1.1 ⟨by decide, by decide⟩ rfl h1.fp ?_
      refine ev_ex 1 (c' := (19, [some (.ref a), some (.int a0), none], [.ref a, .ref (fP a)], hX c T)) rfl ?_
      refine xe_gf (ci := 4) (k := 2) rfl rfl h1.1 ⟨by decide, by decide⟩ (v := .int (xI T a 2)) rfl ?_
      refine ev_ex 2 (c' := (24, [some (.ref a), some (.int a0), none], [.int ((xI T a 2) - a0), .ref (fP a)], hX c T)) rfl ?_
      obtain ⟨H0, H⟩ := H
      refine xe_ql rfl h1.ap (by decide) H0 ?_
      refine ev_ex 0 (c' := (25, [some (.ref a), some (.int a0), none], [va_rf (xQ T (fP a) (ix ((xI T a 2) - a0)))], hX c T)) rfl ?_
      refine xe_aso (e := xQ T (fP a) (ix ((xI T a 2) - a0))) rfl (Nat.le_of_ble_eq_true rfl) ?_
      refine ev_ex 0 (c' := (26, [some (.ref a), some (.int a0), some (va_rf (xQ T (fP a) (ix ((xI T a 2) - a0))))], [], hX c T)) rfl ?_
      refine xe_alo (e := xQ T (fP a) (ix ((xI T a 2) - a0))) rfl rfl ?_
      refine xe_nul (e := (xQ T (fP a) (ix ((xI T a 2) - a0)))) (tgt := 38) rfl rfl (fun hb => ?_) (fun b2 hb => ?_)
      · replace H := H.1 hb
        rw [hb]
        refine ev_ex 0 (c' := (38, [some (.ref a), some (.int a0), some (.null)], [], hX c T)) rfl ?_
        refine ev_ex 2 (c' := (40, [some (.ref a), some (.int a0), some (.null)], [.ref a, .ref a], hX c T)) rfl ?_
        refine xe_gf (ci := 4) (k := 2) rfl rfl h1.1 ⟨by decide, by decide⟩ (v := .int (xI T a 2)) rfl ?_
        refine ev_ex 2 (c' := (45, [some (.ref a), some (.int a0), some (.null)], [.int ((xI T a 2) - a0), .ref a], hX c T)) rfl ?_
        refine xe_pi (ci := 4) (k := 2) rfl rfl h1.1 ⟨by decide, by decide⟩ (Nat.le_of_ble_eq_true rfl) rfl (fi_4_2 _ _ _) ?_
        exact ev_ret rfl rfl rfl ⟨_, rfl, rfl, H⟩
      · replace H := H.2 b2 hb
        rw [hb]
        refine ev_ex 0 (c' := (30, [some (.ref a), some (.int a0), some (.ref b2)], [], hX c T)) rfl ?_
        refine ev_ex 1 (c' := (31, [some (.ref a), some (.int a0), some (.ref b2)], [.ref a], hX c T)) rfl ?_
        refine xe_gfr (ci := 4) (k := 0) rfl rfl h1.1 ⟨by decide, by decide⟩ rfl h1.fn ?_
        refine ev_ex 1 (c' := (35, [some (.ref a), some (.int a0), some (.ref b2)], [.ref b2, .ref (fN a)], hX c T)) rfl ?_
        obtain ⟨h3, H⟩ := H
        refine xc_V (idx := 42) rfl rfl rfl (Nat.le_of_ble_eq_true rfl) (Nat.le_of_ble_eq_true rfl) (x_rcv (T := T) h3.1 ⟨by decide, by decide⟩ _ _) H (fun T4 H => ?_)
        refine ev_ex 2 (c' := (40, [some (.ref a), some (.int a0), some (.ref b2)], [.ref a, .ref a], hX c T4)) rfl ?_
        obtain ⟨h5, H⟩ := H
        refine xe_gf (ci := 4) (k := 2) rfl rfl h5.1 ⟨by decide, by decide⟩ (v := .int (xI T4 a 2)) rfl ?_
        refine ev_ex 2 (c' := (45, [some (.ref a), some (.int a0), some (.ref b2)], [.int ((xI T4 a 2) - a0), .ref a], hX c T4)) rfl ?_
        refine xe_pi (ci := 4) (k := 2) rfl rfl h5.1 ⟨by decide, by decide⟩ (Nat.le_of_ble_eq_true rfl) rfl (fi_4_2 _ _ _) ?_
        exact ev_ret rfl rfl rfl ⟨_, rfl, rfl, H⟩
    · replace H := H.2 (h)
      exact ev_ret rfl rfl rfl ⟨_, rfl, rfl, H⟩
set_option maxRecDepth 8000 in
theorem wx_Fr_copyFrom {c : CX} {d : Nat} {T : XS} {Q : XS → Prop} (a : Nat) (a0 : Nat) (H : (FrS T a ∧ (FrS T a0 ∧ (SdS T (fN a) ∧ XV c d m_Sd_copyFrom [.ref (fN a), .ref (fN a0)] T (fun T4 => (FrS T4 a0 ∧ (FrS T4 a ∧ eX c (d + 1) m_Fr_copyFrom 21 [some (.ref a), some (.ref a0), some (.int 0)] (tI T4 a 2 (xI T4 a0 2)) (yV c Q)))))))) : XV c (d + 1) m_Fr_copyFrom [.ref a, .ref a0] T Q := by
  refine ⟨q_Fr_copyFrom, rfl, Nat.le_of_ble_eq_true rfl, ?_⟩
  refine ev_ex 0 (c' := (0, [some (.ref a), some (.ref a0), none], [], hX c T)) rfl ?_
  refine ev_ex 1 (c' := (1, [some (.ref a), some (.ref a0), none], [.ref a], hX c T)) rfl ?_
  obtain ⟨h1, H⟩ := H
  refine xe_gfr (ci := 4) (k := 0) rfl rfl h1.1 ⟨by decide, by decide⟩ rfl h1.fn ?_
  refine ev_ex 1 (c' := (5, [some (.ref a), some (.ref a0), none], [.ref a0, .ref (fN a)], hX c T)) rfl ?_
  obtain ⟨h2, H⟩ := H
  refine xe_gfr (ci := 4) (k := 0) rfl rfl h2.1 ⟨by decide, by decide⟩ rfl h2.fn ?_
  obtain ⟨h3, H⟩ := H
  refine xc_V (idx := 42) rfl rfl rfl (Nat.le_of_ble_eq_true rfl) (Nat.le_of_ble_eq_true rfl) (x_rcv (T := T) h3.1 ⟨by decide, by decide⟩ _ _) H (fun T4 H => ?_)
  refine ev_ex 2 (c' := (13, [some (.ref a), some (.ref a0), none], [.ref a0, .ref a], hX c T4)) rfl ?_
  obtain ⟨h5, H⟩ := H
  refine xe_gf (ci := 4) (k := 2) rfl rfl h5.1 ⟨by decide, by decide⟩ (v := .int (xI T4 a0 2)) rfl ?_
  obtain ⟨h6, H⟩ := H
  refine xe_pi (ci := 4) (k := 2) rfl rfl h6.1 ⟨by decide, by decide⟩ (Nat.le_of_ble_eq_true rfl) rfl (fi_4_2 _ _ _) ?_
  refine ev_ex 2 (c' := (21, [some (.ref a), some (.ref a0), some (.int 0)], [], hX c (tI T4 a 2 (xI T4 a0 2)))) rfl ?_
  exact H
set_option maxRecDepth 8000 in
theorem wx_Fr_copyFrom_21 {c : CX} {d : Nat} {T : XS} {Q : XS → Prop} (a : Nat) (a0 : Nat) (l2 : Int32) (H : (FrS T a ∧ (((xI T a 2) ≤ l2 → Q T) ∧ (¬ (xI T a 2) ≤ l2 → ((10 ≤ l2 → Q T) ∧ (¬ 10 ≤ l2 → (FrS T a0 ∧ (okx l2 10 ∧ XV c d m_Fr_keep [.ref a, .int l2, va_rf (xQ T (fP a0) (ix l2))] T (fun T53 => eX c (d + 1) m_Fr_copyFrom 21 [some (.ref a), some (.ref a0), some (.int (l2 + 1))] T53 (yV c Q)))))))))) : eX c (d + 1) m_Fr_copyFrom 21 [some (.ref a), some (.ref a0), some (.int l2)] T (yV c Q) := by
  unfold eX
  refine ev_ex 0 (c' := (21, [some (.ref a), some (.ref a0), some (.int l2)], [], hX c T)) rfl ?_
  refine ev_ex 2 (c' := (23, [some (.ref a), some (.ref a0), some (.int l2)], [.ref a, .int l2], hX c T)) rfl ?_
  obtain ⟨h51, H⟩ := H
  refine xe_gf (ci := 4) (k := 2) rfl rfl h51.1 ⟨by decide, by decide⟩ (v := .int (xI T a 2)) rfl ?_
  refine ev_icmp_ge (tgt := 52) rfl rfl (fun h => ?_) (fun h => ?_)
  · replace H := H.1 (h)
    exact ev_ret rfl rfl rfl ⟨_, rfl, rfl, H⟩
  · replace H := H.2 (h)
    refine ev_ex 2 (c' := (32, [some (.ref a), some (.ref a0), some (.int l2)], [.int 10, .int l2], hX c T)) rfl ?_
    refine ev_icmp_ge (tgt := 52) rfl rfl (fun h => ?_) (fun h => ?_)
    · replace H := H.1 (h)
      exact ev_ret rfl rfl rfl ⟨_, rfl, rfl, H⟩
    · replace H := H.2 (h)
      refine ev_ex 3 (c' := (38, [some (.ref a), some (.ref a0), some (.int l2)], [.ref a0, .int l2, .ref a], hX c T)) rfl ?_
      obtain ⟨h52, H⟩ := H
      refine xe_gfr (ci := 4) (k := 1) rfl rfl h52.1 ⟨by decide, by decide⟩ rfl h52.fp ?_
      refine ev_ex 1 (c' := (42, [some (.ref a), some (.ref a0), some (.int l2)], [.int l2, .ref (fP a0), .int l2, .ref a], hX c T)) rfl ?_
      obtain ⟨H0, H⟩ := H
      refine xe_ql rfl h52.ap (by decide) H0 ?_
      refine ev_ex 0 (c' := (43, [some (.ref a), some (.ref a0), some (.int l2)], [va_rf (xQ T (fP a0) (ix l2)), .int l2, .ref a], hX c T)) rfl ?_
      refine xc_V (idx := 34) rfl rfl rfl (Nat.le_of_ble_eq_true rfl) (Nat.le_of_ble_eq_true rfl) (x_rcv (T := T) h51.1 ⟨by decide, by decide⟩ _ _) H (fun T53 H => ?_)
      refine ev_ex 2 (c' := (21, [some (.ref a), some (.ref a0), some (.int (l2 + 1))], [], hX c T53)) rfl ?_
      exact H
set_option maxRecDepth 8000 in
theorem wx_Rw_opening {c : CX} {d : Nat} {T : XS} {Q : Int32 → XS → Prop} (a0 : Nat) (a1 : Int32) (H : eX c (d) m_Rw_opening 2 [some (.ref 129), some (.ref a0), some (.int a1), some (.int 0)] T (yI c Q)) : XI c (d) m_Rw_opening [.ref 129, .ref a0, .int a1] T Q := by
  refine ⟨q_Rw_opening, rfl, Nat.le_of_ble_eq_true rfl, ?_⟩
  refine ev_ex 0 (c' := (0, [some (.ref 129), some (.ref a0), some (.int a1), none], [], hX c T)) rfl ?_
  refine ev_ex 2 (c' := (2, [some (.ref 129), some (.ref a0), some (.int a1), some (.int 0)], [], hX c T)) rfl ?_
  exact H
set_option maxRecDepth 8000 in
theorem wx_Rw_opening_2 {c : CX} {d : Nat} {T : XS} {Q : Int32 → XS → Prop} (a0 : Nat) (l2 : Int32) (l3 : Int32) (H : (((xI T 129 0) ≤ l3 → Q ((-1)) T) ∧ (¬ (xI T 129 0) ≤ l3 → (((l2 &&& ((1 : Int32) <<< (l3 &&& 31))) = 0 → eX c (d) m_Rw_opening 2 [some (.ref 129), some (.ref a0), some (.int l2), some (.int (l3 + 1))] T (yI c Q)) ∧ (¬ (l2 &&& ((1 : Int32) <<< (l3 &&& 31))) = 0 → (SdS T a0 ∧ (okx l3 10 ∧ ((((xA T (sM a0) (ix l3)) &&& (l2 ^^^ ((-1)))) = 0 → eX c (d) m_Rw_opening 2 [some (.ref 129), some (.ref a0), some (.int l2), some (.int (l3 + 1))] T (yI c Q)) ∧ (¬ ((xA T (sM a0) (ix l3)) &&& (l2 ^^^ ((-1)))) = 0 → Q l3 T))))))))) : eX c (d) m_Rw_opening 2 [some (.ref 129), some (.ref a0), some (.int l2), some (.int l3)] T (yI c Q) := by
  unfold eX
  refine ev_ex 0 (c' := (2, [some (.ref 129), some (.ref a0), some (.int l2), some (.int l3)], [], hX c T)) rfl ?_
  refine ev_ex 2 (c' := (4, [some (.ref 129), some (.ref a0), some (.int l2), some (.int l3)], [.ref 129, .int l3], hX c T)) rfl ?_
  refine xe_gf (ci := 8) (k := 0) rfl rfl (ob_lit (i := 32) rfl (by decide) rfl) ⟨by decide, by decide⟩ (v := .int (xI T 129 0)) rfl ?_
  refine ev_icmp_ge (tgt := 39) rfl rfl (fun h => ?_) (fun h => ?_)
  · replace H := H.1 (h)
    refine ev_ex 1 (c' := (40, [some (.ref 129), some (.ref a0), some (.int l2), some (.int l3)], [.int ((-1))], hX c T)) rfl ?_
    exact ev_ret rfl rfl rfl ⟨_, _, rfl, rfl, H⟩
  · replace H := H.2 (h)
    refine ev_ex 5 (c' := (15, [some (.ref 129), some (.ref a0), some (.int l2), some (.int l3)], [.int (l2 &&& ((1 : Int32) <<< (l3 &&& 31)))], hX c T)) rfl ?_
    refine ev_if_eq (tgt := 33) rfl rfl (fun h => ?_) (fun h => ?_)
    · replace H := H.1 (h)
      refine ev_ex 2 (c' := (2, [some (.ref 129), some (.ref a0), some (.int l2), some (.int (l3 + 1))], [], hX c T)) rfl ?_
      exact H
    · replace H := H.2 (h)
      refine ev_ex 1 (c' := (19, [some (.ref 129), some (.ref a0), some (.int l2), some (.int l3)], [.ref a0], hX c T)) rfl ?_
      obtain ⟨h51, H⟩ := H
      refine xe_gfr (ci := 9) (k := 2) rfl rfl h51.1 ⟨by decide, by decide⟩ rfl h51.fm ?_
      refine ev_ex 1 (c' := (23, [some (.ref 129), some (.ref a0), some (.int l2), some (.int l3)], [.int l3, .ref (sM a0)], hX c T)) rfl ?_
      obtain ⟨H0, H⟩ := H
      refine xe_al rfl h51.am H0 ?_
      refine ev_ex 0 (c' := (24, [some (.ref 129), some (.ref a0), some (.int l2), some (.int l3)], [.int (xA T (sM a0) (ix l3))], hX c T)) rfl ?_
      refine ev_ex 4 (c' := (28, [some (.ref 129), some (.ref a0), some (.int l2), some (.int l3)], [.int ((xA T (sM a0) (ix l3)) &&& (l2 ^^^ ((-1))))], hX c T)) rfl ?_
      refine ev_if_eq (tgt := 33) rfl rfl (fun h => ?_) (fun h => ?_)
      · replace H := H.1 (h)
        refine ev_ex 2 (c' := (2, [some (.ref 129), some (.ref a0), some (.int l2), some (.int (l3 + 1))], [], hX c T)) rfl ?_
        exact H
      · replace H := H.2 (h)
        refine ev_ex 1 (c' := (32, [some (.ref 129), some (.ref a0), some (.int l2), some (.int l3)], [.int l3], hX c T)) rfl ?_
        exact ev_ret rfl rfl rfl ⟨_, _, rfl, rfl, H⟩
set_option maxRecDepth 8000 in
theorem wx_Rw_anyMeeting {c : CX} {d : Nat} {T : XS} {Q : Bool → XS → Prop} (a0 : Nat) (a1 : Int32) (H : eX c (d + 1) m_Rw_anyMeeting 2 [some (.ref 129), some (.ref a0), some (.int a1), some (.int 0), none] T (yB c Q)) : XB c (d + 1) m_Rw_anyMeeting [.ref 129, .ref a0, .int a1] T Q := by
  refine ⟨q_Rw_anyMeeting, rfl, Nat.le_of_ble_eq_true rfl, ?_⟩
  refine ev_ex 0 (c' := (0, [some (.ref 129), some (.ref a0), some (.int a1), none, none], [], hX c T)) rfl ?_
  refine ev_ex 2 (c' := (2, [some (.ref 129), some (.ref a0), some (.int a1), some (.int 0), none], [], hX c T)) rfl ?_
  exact H
set_option maxRecDepth 8000 in
theorem wx_Rw_anyMeeting_2 {c : CX} {d : Nat} {T : XS} {Q : Bool → XS → Prop} (a0 : Nat) (l2 : Int32) (l3 : Int32) (H : (((xI T 129 0) ≤ l3 → Q false T) ∧ (¬ (xI T 129 0) ≤ l3 → eX c (d + 1) m_Rw_anyMeeting 13 [some (.ref 129), some (.ref a0), some (.int l2), some (.int l3), some (.int 0)] T (yB c Q)))) : eX c (d + 1) m_Rw_anyMeeting 2 [some (.ref 129), some (.ref a0), some (.int l2), some (.int l3), none] T (yB c Q) := by
  unfold eX
  refine ev_ex 0 (c' := (2, [some (.ref 129), some (.ref a0), some (.int l2), some (.int l3), none], [], hX c T)) rfl ?_
  refine ev_ex 2 (c' := (4, [some (.ref 129), some (.ref a0), some (.int l2), some (.int l3), none], [.ref 129, .int l3], hX c T)) rfl ?_
  refine xe_gf (ci := 8) (k := 0) rfl rfl (ob_lit (i := 32) rfl (by decide) rfl) ⟨by decide, by decide⟩ (v := .int (xI T 129 0)) rfl ?_
  refine ev_icmp_ge (tgt := 45) rfl rfl (fun h => ?_) (fun h => ?_)
  · replace H := H.1 (h)
    refine ev_ex 1 (c' := (46, [some (.ref 129), some (.ref a0), some (.int l2), some (.int l3), none], [.int 0], hX c T)) rfl ?_
    exact ev_retB (x := false) rfl rfl ⟨_, _, rfl, rfl, H⟩
  · replace H := H.2 (h)
    refine ev_ex 2 (c' := (13, [some (.ref 129), some (.ref a0), some (.int l2), some (.int l3), some (.int 0)], [], hX c T)) rfl ?_
    exact H
set_option maxRecDepth 8000 in
theorem wx_Rw_anyMeeting_13 {c : CX} {d : Nat} {T : XS} {Q : Bool → XS → Prop} (a0 : Nat) (l2 : Int32) (l3 : Int32) (l4 : Int32) (H : ((l3 ≤ l4 → eX c (d + 1) m_Rw_anyMeeting 2 [some (.ref 129), some (.ref a0), some (.int l2), some (.int (l3 + 1)), none] T (yB c Q)) ∧ (¬ l3 ≤ l4 → XB c d m_Rw_meeting [.ref 129, .ref a0, .int l3, .int l4, .int l2] T (fun v52 T51 => ((v52 = false → eX c (d + 1) m_Rw_anyMeeting 13 [some (.ref 129), some (.ref a0), some (.int l2), some (.int l3), some (.int (l4 + 1))] T51 (yB c Q)) ∧ (v52 = true → Q true T51)))))) : eX c (d + 1) m_Rw_anyMeeting 13 [some (.ref 129), some (.ref a0), some (.int l2), some (.int l3), some (.int l4)] T (yB c Q) := by
  unfold eX
  refine ev_ex 0 (c' := (13, [some (.ref 129), some (.ref a0), some (.int l2), some (.int l3), some (.int l4)], [], hX c T)) rfl ?_
  refine ev_ex 2 (c' := (16, [some (.ref 129), some (.ref a0), some (.int l2), some (.int l3), some (.int l4)], [.int l3, .int l4], hX c T)) rfl ?_
  refine ev_icmp_ge (tgt := 39) rfl rfl (fun h => ?_) (fun h => ?_)
  · replace H := H.1 (h)
    refine ev_ex 2 (c' := (2, [some (.ref 129), some (.ref a0), some (.int l2), some (.int (l3 + 1)), some (.int l4)], [], hX c T)) rfl ?_
    exact ev_less (lle_of (L := [some (.ref 129), some (.ref a0), some (.int l2), some (.int (l3 + 1)), none]) ⟨rfl, ⟨rfl, ⟨rfl, ⟨rfl, trivial⟩⟩⟩⟩) H
  · replace H := H.2 (h)
    refine ev_ex 5 (c' := (25, [some (.ref 129), some (.ref a0), some (.int l2), some (.int l3), some (.int l4)], [.int l2, .int l4, .int l3, .ref a0, .ref 129], hX c T)) rfl ?_
    refine xc_B (idx := 118) rfl rfl rfl (Nat.le_of_ble_eq_true rfl) (Nat.le_of_ble_eq_true rfl) (x_rcv (T := T) (ob_lit (i := 32) rfl (by decide) rfl) ⟨by decide, by decide⟩ _ _) H (fun v52 T51 H => ?_)
    refine ev_if_eqB (x := v52) (tgt := 33) rfl rfl (fun h => ?_) (fun h => ?_)
    · replace H := H.1 (h)
      refine ev_ex 2 (c' := (13, [some (.ref 129), some (.ref a0), some (.int l2), some (.int l3), some (.int (l4 + 1))], [], hX c T51)) rfl ?_
      exact H
    · replace H := H.2 (h)
      refine ev_ex 1 (c' := (32, [some (.ref 129), some (.ref a0), some (.int l2), some (.int l3), some (.int l4)], [.int 1], hX c T51)) rfl ?_
      exact ev_retB (x := true) rfl rfl ⟨_, _, rfl, rfl, H⟩
set_option maxRecDepth 8000 in
theorem wx_Rw_build {c : CX} {d : Nat} {T : XS} {Q : Option Nat → XS → Prop} (a0 : Nat) (H : (SdS T a0 ∧ (∃ b2 : Nat, frx T a0 0 = some b2 ∧ (CvS T b2 ∧ eX c (d + 1) m_Rw_build 33 [some (.ref 129), some (.ref a0), some (.int 0), none] (tI (tI (tI (tI (tI T 129 0 (xI T b2 1)) 129 1 0) 129 2 0) 129 3 0) 129 4 0) (yO c Q))))) : XO c (d + 1) m_Rw_build [.ref 129, .ref a0] T Q := by
  refine ⟨q_Rw_build, rfl, Nat.le_of_ble_eq_true rfl, ?_⟩
  refine ev_ex 0 (c' := (0, [some (.ref 129), some (.ref a0), none, none], [], hX c T)) rfl ?_
  refine ev_ex 2 (c' := (2, [some (.ref 129), some (.ref a0), none, none], [.ref a0, .ref 129], hX c T)) rfl ?_
  obtain ⟨h1, H⟩ := H
  obtain ⟨b2, h3, H⟩ := H
  refine xe_gfr (ci := 9) (k := 0) rfl rfl h1.1 ⟨by decide, by decide⟩ rfl h3 ?_
  obtain ⟨h4, H⟩ := H
  refine xe_gf (ci := 2) (k := 1) rfl rfl h4.1 ⟨by decide, by decide⟩ (v := .int (xI T b2 1)) rfl ?_
  refine xe_pi (ci := 8) (k := 0) rfl rfl (ob_lit (i := 32) rfl (by decide) rfl) ⟨by decide, by decide⟩ (Nat.le_of_ble_eq_true rfl) rfl (fi_8_0 _ _ _) ?_
  refine ev_ex 2 (c' := (13, [some (.ref 129), some (.ref a0), none, none], [.int 0, .ref 129], hX c (tI T 129 0 (xI T b2 1)))) rfl ?_
  refine xe_pi (ci := 8) (k := 1) rfl rfl (ob_lit (i := 32) rfl (by decide) rfl) ⟨by decide, by decide⟩ (Nat.le_of_ble_eq_true rfl) rfl (fi_8_1 _ _ _) ?_
  refine ev_ex 2 (c' := (18, [some (.ref 129), some (.ref a0), none, none], [.int 0, .ref 129], hX c (tI (tI T 129 0 (xI T b2 1)) 129 1 0))) rfl ?_
  refine xe_pi (ci := 8) (k := 2) rfl rfl (ob_lit (i := 32) rfl (by decide) rfl) ⟨by decide, by decide⟩ (Nat.le_of_ble_eq_true rfl) rfl (fi_8_2 _ _ _) ?_
  refine ev_ex 2 (c' := (23, [some (.ref 129), some (.ref a0), none, none], [.int 0, .ref 129], hX c (tI (tI (tI T 129 0 (xI T b2 1)) 129 1 0) 129 2 0))) rfl ?_
  refine xe_pi (ci := 8) (k := 3) rfl rfl (ob_lit (i := 32) rfl (by decide) rfl) ⟨by decide, by decide⟩ (Nat.le_of_ble_eq_true rfl) rfl (fi_8_3 _ _ _) ?_
  refine ev_ex 2 (c' := (28, [some (.ref 129), some (.ref a0), none, none], [.int 0, .ref 129], hX c (tI (tI (tI (tI T 129 0 (xI T b2 1)) 129 1 0) 129 2 0) 129 3 0))) rfl ?_
  refine xe_pi (ci := 8) (k := 4) rfl rfl (ob_lit (i := 32) rfl (by decide) rfl) ⟨by decide, by decide⟩ (Nat.le_of_ble_eq_true rfl) rfl (fi_8_4 _ _ _) ?_
  refine ev_ex 2 (c' := (33, [some (.ref 129), some (.ref a0), some (.int 0), none], [], hX c (tI (tI (tI (tI (tI T 129 0 (xI T b2 1)) 129 1 0) 129 2 0) 129 3 0) 129 4 0))) rfl ?_
  exact H
set_option maxRecDepth 8000 in
theorem wx_Rw_build_33 {c : CX} {d : Nat} {T : XS} {Q : Option Nat → XS → Prop} (a0 : Nat) (l2 : Int32) (H : (((xI T 129 0) ≤ l2 → eX c (d + 1) m_Rw_build 60 [some (.ref 129), some (.ref a0), some (.int 0), none] T (yO c Q)) ∧ (¬ (xI T 129 0) ≤ l2 → XI c d m_Rw_ringOf [.ref a0, .int l2] T (fun v52 T51 => (okx l2 10 ∧ eX c (d + 1) m_Rw_build 33 [some (.ref 129), some (.ref a0), some (.int (l2 + 1)), none] (tA T51 137 (ix l2) v52) (yO c Q)))))) : eX c (d + 1) m_Rw_build 33 [some (.ref 129), some (.ref a0), some (.int l2), none] T (yO c Q) := by
  unfold eX
  refine ev_ex 0 (c' := (33, [some (.ref 129), some (.ref a0), some (.int l2), none], [], hX c T)) rfl ?_
  refine ev_ex 2 (c' := (35, [some (.ref 129), some (.ref a0), some (.int l2), none], [.ref 129, .int l2], hX c T)) rfl ?_
  refine xe_gf (ci := 8) (k := 0) rfl rfl (ob_lit (i := 32) rfl (by decide) rfl) ⟨by decide, by decide⟩ (v := .int (xI T 129 0)) rfl ?_
  refine ev_icmp_ge (tgt := 58) rfl rfl (fun h => ?_) (fun h => ?_)
  · replace H := H.1 (h)
    refine ev_ex 2 (c' := (60, [some (.ref 129), some (.ref a0), some (.int 0), none], [], hX c T)) rfl ?_
    exact H
  · replace H := H.2 (h)
    refine ev_ex 1 (c' := (42, [some (.ref 129), some (.ref a0), some (.int l2), none], [.ref 129], hX c T)) rfl ?_
    refine xe_gf (ci := 8) (k := 6) rfl rfl (ob_lit (i := 32) rfl (by decide) rfl) ⟨by decide, by decide⟩ (v := .ref 137) rfl ?_
    refine ev_ex 3 (c' := (48, [some (.ref 129), some (.ref a0), some (.int l2), none], [.int l2, .ref a0, .int l2, .ref 137], hX c T)) rfl ?_
    refine xc_I (idx := 55) rfl rfl rfl (Nat.le_of_ble_eq_true rfl) (Nat.le_of_ble_eq_true rfl) rfl H (fun v52 T51 H => ?_)
    obtain ⟨H0, H⟩ := H
    refine xe_as rfl (ar_lit (i := 34) rfl (by decide) rfl) H0 ?_
    refine ev_ex 2 (c' := (33, [some (.ref 129), some (.ref a0), some (.int (l2 + 1)), none], [], hX c (tA T51 137 (ix l2) v52))) rfl ?_
    exact H
set_option maxRecDepth 8000 in
theorem wx_Rw_build_60 {c : CX} {d : Nat} {T : XS} {Q : Option Nat → XS → Prop} (a0 : Nat) (l2 : Int32) (H : (((xI T 129 0) ≤ l2 → eX c (d + 1) m_Rw_build 88 [some (.ref 129), some (.ref a0), some (.int 0), none] T (yO c Q)) ∧ (¬ (xI T 129 0) ≤ l2 → XI c d m_Rw_whoIsBehind [.ref 129, .ref a0, .int l2] T (fun v52 T51 => (okx l2 10 ∧ eX c (d + 1) m_Rw_build 60 [some (.ref 129), some (.ref a0), some (.int (l2 + 1)), none] (tA T51 141 (ix l2) v52) (yO c Q)))))) : eX c (d + 1) m_Rw_build 60 [some (.ref 129), some (.ref a0), some (.int l2), none] T (yO c Q) := by
  unfold eX
  refine ev_ex 0 (c' := (60, [some (.ref 129), some (.ref a0), some (.int l2), none], [], hX c T)) rfl ?_
  refine ev_ex 2 (c' := (62, [some (.ref 129), some (.ref a0), some (.int l2), none], [.ref 129, .int l2], hX c T)) rfl ?_
  refine xe_gf (ci := 8) (k := 0) rfl rfl (ob_lit (i := 32) rfl (by decide) rfl) ⟨by decide, by decide⟩ (v := .int (xI T 129 0)) rfl ?_
  refine ev_icmp_ge (tgt := 86) rfl rfl (fun h => ?_) (fun h => ?_)
  · replace H := H.1 (h)
    refine ev_ex 2 (c' := (88, [some (.ref 129), some (.ref a0), some (.int 0), none], [], hX c T)) rfl ?_
    exact H
  · replace H := H.2 (h)
    refine ev_ex 1 (c' := (69, [some (.ref 129), some (.ref a0), some (.int l2), none], [.ref 129], hX c T)) rfl ?_
    refine xe_gf (ci := 8) (k := 7) rfl rfl (ob_lit (i := 32) rfl (by decide) rfl) ⟨by decide, by decide⟩ (v := .ref 141) rfl ?_
    refine ev_ex 4 (c' := (76, [some (.ref 129), some (.ref a0), some (.int l2), none], [.int l2, .ref a0, .ref 129, .int l2, .ref 141], hX c T)) rfl ?_
    refine xc_I (idx := 59) rfl rfl rfl (Nat.le_of_ble_eq_true rfl) (Nat.le_of_ble_eq_true rfl) (x_rcv (T := T) (ob_lit (i := 32) rfl (by decide) rfl) ⟨by decide, by decide⟩ _ _) H (fun v52 T51 H => ?_)
    obtain ⟨H0, H⟩ := H
    refine xe_as rfl (ar_lit (i := 35) rfl (by decide) rfl) H0 ?_
    refine ev_ex 2 (c' := (60, [some (.ref 129), some (.ref a0), some (.int (l2 + 1)), none], [], hX c (tA T51 141 (ix l2) v52))) rfl ?_
    exact H
set_option maxRecDepth 8000 in
theorem wx_Rw_build_88 {c : CX} {d : Nat} {T : XS} {Q : Option Nat → XS → Prop} (a0 : Nat) (l2 : Int32) (H : (((xI T 129 0) ≤ l2 → Q (some 129) T) ∧ (¬ (xI T 129 0) ≤ l2 → (SdS T a0 ∧ (okx l2 10 ∧ (((one (xA T (sW a0) (ix l2))) = false → XV c d m_Rw_lineUp [.ref 129, .ref a0, .int l2] T (fun T52 => eX c (d + 1) m_Rw_build 88 [some (.ref 129), some (.ref a0), some (.int (l2 + 1)), none] T52 (yO c Q))) ∧ ((one (xA T (sW a0) (ix l2))) = true → (okx (xA T (sW a0) (ix l2)) 10 ∧ (((xA T 141 (ix (xA T (sW a0) (ix l2)))) = l2 → eX c (d + 1) m_Rw_build 88 [some (.ref 129), some (.ref a0), some (.int (l2 + 1)), none] T (yO c Q)) ∧ (¬ (xA T 141 (ix (xA T (sW a0) (ix l2)))) = l2 → XV c d m_Rw_lineUp [.ref 129, .ref a0, .int l2] T (fun T53 => eX c (d + 1) m_Rw_build 88 [some (.ref 129), some (.ref a0), some (.int (l2 + 1)), none] T53 (yO c Q)))))))))))) : eX c (d + 1) m_Rw_build 88 [some (.ref 129), some (.ref a0), some (.int l2), none] T (yO c Q) := by
  unfold eX
  refine ev_ex 0 (c' := (88, [some (.ref 129), some (.ref a0), some (.int l2), none], [], hX c T)) rfl ?_
  refine ev_ex 2 (c' := (90, [some (.ref 129), some (.ref a0), some (.int l2), none], [.ref 129, .int l2], hX c T)) rfl ?_
  refine xe_gf (ci := 8) (k := 0) rfl rfl (ob_lit (i := 32) rfl (by decide) rfl) ⟨by decide, by decide⟩ (v := .int (xI T 129 0)) rfl ?_
  refine ev_icmp_ge (tgt := 132) rfl rfl (fun h => ?_) (fun h => ?_)
  · replace H := H.1 (h)
    refine ev_ex 1 (c' := (133, [some (.ref 129), some (.ref a0), some (.int l2), none], [.ref 129], hX c T)) rfl ?_
    exact ev_retO (e := (some 129)) rfl rfl (Or.inl ⟨_, rfl⟩) ⟨_, _, rfl, rfl, H⟩
  · replace H := H.2 (h)
    refine ev_ex 1 (c' := (97, [some (.ref 129), some (.ref a0), some (.int l2), none], [.ref a0], hX c T)) rfl ?_
    obtain ⟨h51, H⟩ := H
    refine xe_gfr (ci := 9) (k := 1) rfl rfl h51.1 ⟨by decide, by decide⟩ rfl h51.fw ?_
    refine ev_ex 1 (c' := (101, [some (.ref 129), some (.ref a0), some (.int l2), none], [.int l2, .ref (sW a0)], hX c T)) rfl ?_
    obtain ⟨H0, H⟩ := H
    refine xe_al rfl h51.aw H0 ?_
    refine ev_ex 0 (c' := (102, [some (.ref 129), some (.ref a0), some (.int l2), none], [.int (xA T (sW a0) (ix l2))], hX c T)) rfl ?_
    refine ev_ex 2 (c' := (104, [some (.ref 129), some (.ref a0), some (.int l2), some (.int (xA T (sW a0) (ix l2)))], [.int (xA T (sW a0) (ix l2))], hX c T)) rfl ?_
    refine xq_B (idx := 65) (V := one (xA T (sW a0) (ix l2))) (S := T) rfl rfl rfl (Nat.le_of_ble_eq_true rfl) (Nat.le_of_ble_eq_true rfl) rfl (zx_X_isOne ⟨rfl, rfl⟩) ?_
    refine ev_if_eqB (x := (one (xA T (sW a0) (ix l2)))) (tgt := 120) rfl rfl (fun h => ?_) (fun h => ?_)
    · replace H := H.1 (h)
      refine ev_ex 3 (c' := (123, [some (.ref 129), some (.ref a0), some (.int l2), some (.int (xA T (sW a0) (ix l2)))], [.int l2, .ref a0, .ref 129], hX c T)) rfl ?_
      refine xc_V (idx := 69) rfl rfl rfl (Nat.le_of_ble_eq_true rfl) (Nat.le_of_ble_eq_true rfl) (x_rcv (T := T) (ob_lit (i := 32) rfl (by decide) rfl) ⟨by decide, by decide⟩ _ _) H (fun T52 H => ?_)
      refine ev_ex 2 (c' := (88, [some (.ref 129), some (.ref a0), some (.int (l2 + 1)), some (.int (xA T (sW a0) (ix l2)))], [], hX c T52)) rfl ?_
      exact ev_less (lle_of (L := [some (.ref 129), some (.ref a0), some (.int (l2 + 1)), none]) ⟨rfl, ⟨rfl, ⟨rfl, trivial⟩⟩⟩) H
    · replace H := H.2 (h)
      refine ev_ex 1 (c' := (111, [some (.ref 129), some (.ref a0), some (.int l2), some (.int (xA T (sW a0) (ix l2)))], [.ref 129], hX c T)) rfl ?_
      refine xe_gf (ci := 8) (k := 7) rfl rfl (ob_lit (i := 32) rfl (by decide) rfl) ⟨by decide, by decide⟩ (v := .ref 141) rfl ?_
      refine ev_ex 1 (c' := (115, [some (.ref 129), some (.ref a0), some (.int l2), some (.int (xA T (sW a0) (ix l2)))], [.int (xA T (sW a0) (ix l2)), .ref 141], hX c T)) rfl ?_
      obtain ⟨H0, H⟩ := H
      refine xe_al rfl (ar_lit (i := 35) rfl (by decide) rfl) H0 ?_
      refine ev_ex 0 (c' := (116, [some (.ref 129), some (.ref a0), some (.int l2), some (.int (xA T (sW a0) (ix l2)))], [.int (xA T 141 (ix (xA T (sW a0) (ix l2))))], hX c T)) rfl ?_
      refine ev_ex 1 (c' := (117, [some (.ref 129), some (.ref a0), some (.int l2), some (.int (xA T (sW a0) (ix l2)))], [.int l2, .int (xA T 141 (ix (xA T (sW a0) (ix l2))))], hX c T)) rfl ?_
      refine ev_icmp_eq (tgt := 126) rfl rfl (fun h => ?_) (fun h => ?_)
      · replace H := H.1 (h)
        refine ev_ex 2 (c' := (88, [some (.ref 129), some (.ref a0), some (.int (l2 + 1)), some (.int (xA T (sW a0) (ix l2)))], [], hX c T)) rfl ?_
        exact ev_less (lle_of (L := [some (.ref 129), some (.ref a0), some (.int (l2 + 1)), none]) ⟨rfl, ⟨rfl, ⟨rfl, trivial⟩⟩⟩) H
      · replace H := H.2 (h)
        refine ev_ex 3 (c' := (123, [some (.ref 129), some (.ref a0), some (.int l2), some (.int (xA T (sW a0) (ix l2)))], [.int l2, .ref a0, .ref 129], hX c T)) rfl ?_
        refine xc_V (idx := 69) rfl rfl rfl (Nat.le_of_ble_eq_true rfl) (Nat.le_of_ble_eq_true rfl) (x_rcv (T := T) (ob_lit (i := 32) rfl (by decide) rfl) ⟨by decide, by decide⟩ _ _) H (fun T53 H => ?_)
        refine ev_ex 2 (c' := (88, [some (.ref 129), some (.ref a0), some (.int (l2 + 1)), some (.int (xA T (sW a0) (ix l2)))], [], hX c T53)) rfl ?_
        exact ev_less (lle_of (L := [some (.ref 129), some (.ref a0), some (.int (l2 + 1)), none]) ⟨rfl, ⟨rfl, ⟨rfl, trivial⟩⟩⟩) H
set_option maxRecDepth 8000 in
theorem wx_Rw_fewestPersuaded {c : CX} {d : Nat} {T : XS} {Q : Int32 → XS → Prop} (a0 : Nat) (H : eX c (d + 1) m_Rw_fewestPersuaded 8 [some (.ref 129), some (.ref a0), some (.int 11), some (.int 0), some (.int 0), none] T (yI c Q)) : XI c (d + 1) m_Rw_fewestPersuaded [.ref 129, .ref a0] T Q := by
  refine ⟨q_Rw_fewestPersuaded, rfl, Nat.le_of_ble_eq_true rfl, ?_⟩
  refine ev_ex 0 (c' := (0, [some (.ref 129), some (.ref a0), none, none, none, none], [], hX c T)) rfl ?_
  refine ev_ex 6 (c' := (8, [some (.ref 129), some (.ref a0), some (.int 11), some (.int 0), some (.int 0), none], [], hX c T)) rfl ?_
  exact H
set_option maxRecDepth 8000 in
theorem wx_Rw_fewestPersuaded_8 {c : CX} {d : Nat} {T : XS} {Q : Int32 → XS → Prop} (a0 : Nat) (l2 : Int32) (l3 : Int32) (l4 : Int32) (H : ((((1 : Int32) <<< ((xI T 129 0) &&& 31)) ≤ l4 → Q l3 T) ∧ (¬ ((1 : Int32) <<< ((xI T 129 0) &&& 31)) ≤ l4 → ((l2 ≤ (bcI l4) → eX c (d + 1) m_Rw_fewestPersuaded 8 [some (.ref 129), some (.ref a0), some (.int l2), some (.int l3), some (.int (l4 + 1)), none] T (yI c Q)) ∧ (¬ l2 ≤ (bcI l4) → XB c d m_Rw_isEnough [.ref 129, .ref a0, .int l4] T (fun v52 T51 => ((v52 = false → eX c (d + 1) m_Rw_fewestPersuaded 8 [some (.ref 129), some (.ref a0), some (.int l2), some (.int l3), some (.int (l4 + 1)), none] T51 (yI c Q)) ∧ (v52 = true → eX c (d + 1) m_Rw_fewestPersuaded 8 [some (.ref 129), some (.ref a0), some (.int (bcI l4)), some (.int l4), some (.int (l4 + 1)), none] T51 (yI c Q))))))))) : eX c (d + 1) m_Rw_fewestPersuaded 8 [some (.ref 129), some (.ref a0), some (.int l2), some (.int l3), some (.int l4), none] T (yI c Q) := by
  unfold eX
  refine ev_ex 0 (c' := (8, [some (.ref 129), some (.ref a0), some (.int l2), some (.int l3), some (.int l4), none], [], hX c T)) rfl ?_
  refine ev_ex 3 (c' := (12, [some (.ref 129), some (.ref a0), some (.int l2), some (.int l3), some (.int l4), none], [.ref 129, .int 1, .int l4], hX c T)) rfl ?_
  refine xe_gf (ci := 8) (k := 0) rfl rfl (ob_lit (i := 32) rfl (by decide) rfl) ⟨by decide, by decide⟩ (v := .int (xI T 129 0)) rfl ?_
  refine ev_ex 1 (c' := (16, [some (.ref 129), some (.ref a0), some (.int l2), some (.int l3), some (.int l4), none], [.int ((1 : Int32) <<< ((xI T 129 0) &&& 31)), .int l4], hX c T)) rfl ?_
  refine ev_icmp_ge (tgt := 54) rfl rfl (fun h => ?_) (fun h => ?_)
  · replace H := H.1 (h)
    refine ev_ex 1 (c' := (55, [some (.ref 129), some (.ref a0), some (.int l2), some (.int l3), some (.int l4), none], [.int l3], hX c T)) rfl ?_
    exact ev_ret rfl rfl rfl ⟨_, _, rfl, rfl, H⟩
  · replace H := H.2 (h)
    refine ev_ex 1 (c' := (21, [some (.ref 129), some (.ref a0), some (.int l2), some (.int l3), some (.int l4), none], [.int l4], hX c T)) rfl ?_
    refine xq_I (idx := 90) (V := bcI l4) (S := T) rfl rfl rfl (Nat.le_of_ble_eq_true rfl) (Nat.le_of_ble_eq_true rfl) rfl (zx_JI_bitCount ⟨rfl, rfl⟩) ?_
    refine ev_ex 3 (c' := (29, [some (.ref 129), some (.ref a0), some (.int l2), some (.int l3), some (.int l4), some (.int (bcI l4))], [.int l2, .int (bcI l4)], hX c T)) rfl ?_
    refine ev_icmp_ge (tgt := 48) rfl rfl (fun h => ?_) (fun h => ?_)
    · replace H := H.1 (h)
      refine ev_ex 2 (c' := (8, [some (.ref 129), some (.ref a0), some (.int l2), some (.int l3), some (.int (l4 + 1)), some (.int (bcI l4))], [], hX c T)) rfl ?_
      exact ev_less (lle_of (L := [some (.ref 129), some (.ref a0), some (.int l2), some (.int l3), some (.int (l4 + 1)), none]) ⟨rfl, ⟨rfl, ⟨rfl, ⟨rfl, ⟨rfl, trivial⟩⟩⟩⟩⟩) H
    · replace H := H.2 (h)
      refine ev_ex 3 (c' := (36, [some (.ref 129), some (.ref a0), some (.int l2), some (.int l3), some (.int l4), some (.int (bcI l4))], [.int l4, .ref a0, .ref 129], hX c T)) rfl ?_
      refine xc_B (idx := 95) rfl rfl rfl (Nat.le_of_ble_eq_true rfl) (Nat.le_of_ble_eq_true rfl) (x_rcv (T := T) (ob_lit (i := 32) rfl (by decide) rfl) ⟨by decide, by decide⟩ _ _) H (fun v52 T51 H => ?_)
      refine ev_if_eqB (x := v52) (tgt := 48) rfl rfl (fun h => ?_) (fun h => ?_)
      · replace H := H.1 (h)
        refine ev_ex 2 (c' := (8, [some (.ref 129), some (.ref a0), some (.int l2), some (.int l3), some (.int (l4 + 1)), some (.int (bcI l4))], [], hX c T51)) rfl ?_
        exact ev_less (lle_of (L := [some (.ref 129), some (.ref a0), some (.int l2), some (.int l3), some (.int (l4 + 1)), none]) ⟨rfl, ⟨rfl, ⟨rfl, ⟨rfl, ⟨rfl, trivial⟩⟩⟩⟩⟩) H
      · replace H := H.2 (h)
        refine ev_ex 6 (c' := (8, [some (.ref 129), some (.ref a0), some (.int (bcI l4)), some (.int l4), some (.int (l4 + 1)), some (.int (bcI l4))], [], hX c T51)) rfl ?_
        exact ev_less (lle_of (L := [some (.ref 129), some (.ref a0), some (.int (bcI l4)), some (.int l4), some (.int (l4 + 1)), none]) ⟨rfl, ⟨rfl, ⟨rfl, ⟨rfl, ⟨rfl, trivial⟩⟩⟩⟩⟩) H
set_option maxRecDepth 8000 in
theorem wx_Rw_stepAt {c : CX} {d : Nat} {T : XS} {Q : Int32 → XS → Prop} (a0 : Nat) (a1 : Int32) (a2 : Int32) (H : (okx a1 10 ∧ (((a2 - (xA T 149 (ix a1))) < 0 → Q ((-1)) T) ∧ (¬ (a2 - (xA T 149 (ix a1))) < 0 → (CvS T a0 ∧ XI c d m_Cv_steps [.ref a0] T (fun v3 T2 => ((v3 ≤ (a2 - (xA T 149 (ix a1))) → Q ((-1)) T2) ∧ (¬ v3 ≤ (a2 - (xA T 149 (ix a1))) → Q (a2 - (xA T 149 (ix a1))) T2)))))))) : XI c (d + 1) m_Rw_stepAt [.ref 129, .ref a0, .int a1, .int a2] T Q := by
  refine ⟨q_Rw_stepAt, rfl, Nat.le_of_ble_eq_true rfl, ?_⟩
  refine ev_ex 0 (c' := (0, [some (.ref 129), some (.ref a0), some (.int a1), some (.int a2), none], [], hX c T)) rfl ?_
  refine ev_ex 2 (c' := (2, [some (.ref 129), some (.ref a0), some (.int a1), some (.int a2), none], [.ref 129, .int a2], hX c T)) rfl ?_
  refine xe_gf (ci := 8) (k := 9) rfl rfl (ob_lit (i := 32) rfl (by decide) rfl) ⟨by decide, by decide⟩ (v := .ref 149) rfl ?_
  refine ev_ex 1 (c' := (6, [some (.ref 129), some (.ref a0), some (.int a1), some (.int a2), none], [.int a1, .ref 149, .int a2], hX c T)) rfl ?_
  obtain ⟨H0, H⟩ := H
  refine xe_al rfl (ar_lit (i := 37) rfl (by decide) rfl) H0 ?_
  refine ev_ex 0 (c' := (7, [some (.ref 129), some (.ref a0), some (.int a1), some (.int a2), none], [.int (xA T 149 (ix a1)), .int a2], hX c T)) rfl ?_
  refine ev_ex 3 (c' := (12, [some (.ref 129), some (.ref a0), some (.int a1), some (.int a2), some (.int (a2 - (xA T 149 (ix a1))))], [.int (a2 - (xA T 149 (ix a1)))], hX c T)) rfl ?_
  refine ev_if_lt (tgt := 29) rfl rfl (fun h => ?_) (fun h => ?_)
  · replace H := H.1 (h)
    refine ev_ex 1 (c' := (30, [some (.ref 129), some (.ref a0), some (.int a1), some (.int a2), some (.int (a2 - (xA T 149 (ix a1))))], [.int ((-1))], hX c T)) rfl ?_
    exact ev_ret rfl rfl rfl ⟨_, _, rfl, rfl, H⟩
  · replace H := H.2 (h)
    refine ev_ex 2 (c' := (18, [some (.ref 129), some (.ref a0), some (.int a1), some (.int a2), some (.int (a2 - (xA T 149 (ix a1))))], [.ref a0, .int (a2 - (xA T 149 (ix a1)))], hX c T)) rfl ?_
    obtain ⟨h1, H⟩ := H
    refine xc_I (idx := 99) rfl rfl rfl (Nat.le_of_ble_eq_true rfl) (Nat.le_of_ble_eq_true rfl) (x_rcv (T := T) h1.1 ⟨by decide, by decide⟩ _ _) H (fun v3 T2 H => ?_)
    refine ev_icmp_ge (tgt := 29) rfl rfl (fun h => ?_) (fun h => ?_)
    · replace H := H.1 (h)
      refine ev_ex 1 (c' := (30, [some (.ref 129), some (.ref a0), some (.int a1), some (.int a2), some (.int (a2 - (xA T 149 (ix a1))))], [.int ((-1))], hX c T2)) rfl ?_
      exact ev_ret rfl rfl rfl ⟨_, _, rfl, rfl, H⟩
    · replace H := H.2 (h)
      refine ev_ex 2 (c' := (30, [some (.ref 129), some (.ref a0), some (.int a1), some (.int a2), some (.int (a2 - (xA T 149 (ix a1))))], [.int (a2 - (xA T 149 (ix a1)))], hX c T2)) rfl ?_
      exact ev_ret rfl rfl rfl ⟨_, _, rfl, rfl, H⟩
set_option maxRecDepth 8000 in
theorem wx_Rw_meeting {c : CX} {d : Nat} {T : XS} {Q : Bool → XS → Prop} (a0 : Nat) (a1 : Int32) (a2 : Int32) (a3 : Int32) (H : XI c d m_Rw_stepAt [.ref 129, .ref a0, .int a1, .int a3] T (fun v2 T1 => XI c d m_Rw_stepAt [.ref 129, .ref a0, .int a2, .int a3] T1 (fun v4 T3 => ((v2 = ((-1)) → Q false T3) ∧ (¬ v2 = ((-1)) → ((v4 = ((-1)) → Q false T3) ∧ (¬ v4 = ((-1)) → ((3 ≤ (abI (v2 - v4)) → (CvS T3 a0 ∧ (okx v2 (nst T3 a0) ∧ (okx v4 (nst T3 a0) ∧ (okx v2 (nst T3 a0) ∧ (okx v4 (nst T3 a0) ∧ ((1 < ((abI ((xA T3 (a0 + 28) (ix v2)) - (xA T3 (a0 + 28) (ix v4)))) + (abI ((xA T3 (a0 + 32) (ix v2)) - (xA T3 (a0 + 32) (ix v4))))) → Q false T3) ∧ (¬ 1 < ((abI ((xA T3 (a0 + 28) (ix v2)) - (xA T3 (a0 + 28) (ix v4)))) + (abI ((xA T3 (a0 + 32) (ix v2)) - (xA T3 (a0 + 32) (ix v4))))) → Q true T3)))))))) ∧ (¬ 3 ≤ (abI (v2 - v4)) → Q false T3))))))))) : XB c (d + 1) m_Rw_meeting [.ref 129, .ref a0, .int a1, .int a2, .int a3] T Q := by
  refine ⟨q_Rw_meeting, rfl, Nat.le_of_ble_eq_true rfl, ?_⟩
  refine ev_ex 0 (c' := (0, [some (.ref 129), some (.ref a0), some (.int a1), some (.int a2), some (.int a3), none, none], [], hX c T)) rfl ?_
  refine ev_ex 4 (c' := (5, [some (.ref 129), some (.ref a0), some (.int a1), some (.int a2), some (.int a3), none, none], [.int a3, .int a1, .ref a0, .ref 129], hX c T)) rfl ?_
  refine xc_I (idx := 103) rfl rfl rfl (Nat.le_of_ble_eq_true rfl) (Nat.le_of_ble_eq_true rfl) (x_rcv (T := T) (ob_lit (i := 32) rfl (by decide) rfl) ⟨by decide, by decide⟩ _ _) H (fun v2 T1 H => ?_)
  refine ev_ex 5 (c' := (15, [some (.ref 129), some (.ref a0), some (.int a1), some (.int a2), some (.int a3), some (.int v2), none], [.int a3, .int a2, .ref a0, .ref 129], hX c T1)) rfl ?_
  refine xc_I (idx := 103) rfl rfl rfl (Nat.le_of_ble_eq_true rfl) (Nat.le_of_ble_eq_true rfl) (x_rcv (T := T1) (ob_lit (i := 32) rfl (by decide) rfl) ⟨by decide, by decide⟩ _ _) H (fun v4 T3 H => ?_)
  refine ev_ex 3 (c' := (23, [some (.ref 129), some (.ref a0), some (.int a1), some (.int a2), some (.int a3), some (.int v2), some (.int v4)], [.int ((-1)), .int v2], hX c T3)) rfl ?_
  refine ev_icmp_eq (tgt := 44) rfl rfl (fun h => ?_) (fun h => ?_)
  · replace H := H.1 (h)
    refine ev_ex 1 (c' := (45, [some (.ref 129), some (.ref a0), some (.int a1), some (.int a2), some (.int a3), some (.int v2), some (.int v4)], [.int 0], hX c T3)) rfl ?_
    exact ev_retB (x := false) rfl rfl ⟨_, _, rfl, rfl, H⟩
  · replace H := H.2 (h)
    refine ev_ex 2 (c' := (29, [some (.ref 129), some (.ref a0), some (.int a1), some (.int a2), some (.int a3), some (.int v2), some (.int v4)], [.int ((-1)), .int v4], hX c T3)) rfl ?_
    refine ev_icmp_eq (tgt := 44) rfl rfl (fun h => ?_) (fun h => ?_)
    · replace H := H.1 (h)
      refine ev_ex 1 (c' := (45, [some (.ref 129), some (.ref a0), some (.int a1), some (.int a2), some (.int a3), some (.int v2), some (.int v4)], [.int 0], hX c T3)) rfl ?_
      exact ev_retB (x := false) rfl rfl ⟨_, _, rfl, rfl, H⟩
    · replace H := H.2 (h)
      refine ev_ex 3 (c' := (37, [some (.ref 129), some (.ref a0), some (.int a1), some (.int a2), some (.int a3), some (.int v2), some (.int v4)], [.int (v2 - v4)], hX c T3)) rfl ?_
      refine xq_I (idx := 107) (V := abI (v2 - v4)) (S := T3) rfl rfl rfl (Nat.le_of_ble_eq_true rfl) (Nat.le_of_ble_eq_true rfl) rfl (zx_JM_abs ⟨rfl, rfl⟩) ?_
      refine ev_ex 1 (c' := (41, [some (.ref 129), some (.ref a0), some (.int a1), some (.int a2), some (.int a3), some (.int v2), some (.int v4)], [.int 3, .int (abI (v2 - v4))], hX c T3)) rfl ?_
      refine ev_icmp_ge (tgt := 46) rfl rfl (fun h => ?_) (fun h => ?_)
      · replace H := H.1 (h)
        refine ev_ex 1 (c' := (47, [some (.ref 129), some (.ref a0), some (.int a1), some (.int a2), some (.int a3), some (.int v2), some (.int v4)], [.ref a0], hX c T3)) rfl ?_
        obtain ⟨h5, H⟩ := H
        refine xe_gfr (ci := 2) (k := 7) rfl rfl h5.1 ⟨by decide, by decide⟩ rfl h5.f7 ?_
        refine ev_ex 1 (c' := (52, [some (.ref 129), some (.ref a0), some (.int a1), some (.int a2), some (.int a3), some (.int v2), some (.int v4)], [.int v2, .ref (a0 + 28)], hX c T3)) rfl ?_
        obtain ⟨H0, H⟩ := H
        refine xe_al rfl h5.a7 H0 ?_
        refine ev_ex 0 (c' := (53, [some (.ref 129), some (.ref a0), some (.int a1), some (.int a2), some (.int a3), some (.int v2), some (.int v4)], [.int (xA T3 (a0 + 28) (ix v2))], hX c T3)) rfl ?_
        refine ev_ex 1 (c' := (54, [some (.ref 129), some (.ref a0), some (.int a1), some (.int a2), some (.int a3), some (.int v2), some (.int v4)], [.ref a0, .int (xA T3 (a0 + 28) (ix v2))], hX c T3)) rfl ?_
        refine xe_gfr (ci := 2) (k := 7) rfl rfl h5.1 ⟨by decide, by decide⟩ rfl h5.f7 ?_
        refine ev_ex 1 (c' := (59, [some (.ref 129), some (.ref a0), some (.int a1), some (.int a2), some (.int a3), some (.int v2), some (.int v4)], [.int v4, .ref (a0 + 28), .int (xA T3 (a0 + 28) (ix v2))], hX c T3)) rfl ?_
        obtain ⟨H0, H⟩ := H
        refine xe_al rfl h5.a7 H0 ?_
        refine ev_ex 0 (c' := (60, [some (.ref 129), some (.ref a0), some (.int a1), some (.int a2), some (.int a3), some (.int v2), some (.int v4)], [.int (xA T3 (a0 + 28) (ix v4)), .int (xA T3 (a0 + 28) (ix v2))], hX c T3)) rfl ?_
        refine ev_ex 1 (c' := (61, [some (.ref 129), some (.ref a0), some (.int a1), some (.int a2), some (.int a3), some (.int v2), some (.int v4)], [.int ((xA T3 (a0 + 28) (ix v2)) - (xA T3 (a0 + 28) (ix v4)))], hX c T3)) rfl ?_
        refine xq_I (idx := 107) (V := abI ((xA T3 (a0 + 28) (ix v2)) - (xA T3 (a0 + 28) (ix v4)))) (S := T3) rfl rfl rfl (Nat.le_of_ble_eq_true rfl) (Nat.le_of_ble_eq_true rfl) rfl (zx_JM_abs ⟨rfl, rfl⟩) ?_
        refine ev_ex 1 (c' := (65, [some (.ref 129), some (.ref a0), some (.int a1), some (.int a2), some (.int a3), some (.int v2), some (.int v4)], [.ref a0, .int (abI ((xA T3 (a0 + 28) (ix v2)) - (xA T3 (a0 + 28) (ix v4))))], hX c T3)) rfl ?_
        refine xe_gfr (ci := 2) (k := 8) rfl rfl h5.1 ⟨by decide, by decide⟩ rfl h5.f8 ?_
        refine ev_ex 1 (c' := (70, [some (.ref 129), some (.ref a0), some (.int a1), some (.int a2), some (.int a3), some (.int v2), some (.int v4)], [.int v2, .ref (a0 + 32), .int (abI ((xA T3 (a0 + 28) (ix v2)) - (xA T3 (a0 + 28) (ix v4))))], hX c T3)) rfl ?_
        obtain ⟨H0, H⟩ := H
        refine xe_al rfl h5.a8 H0 ?_
        refine ev_ex 0 (c' := (71, [some (.ref 129), some (.ref a0), some (.int a1), some (.int a2), some (.int a3), some (.int v2), some (.int v4)], [.int (xA T3 (a0 + 32) (ix v2)), .int (abI ((xA T3 (a0 + 28) (ix v2)) - (xA T3 (a0 + 28) (ix v4))))], hX c T3)) rfl ?_
        refine ev_ex 1 (c' := (72, [some (.ref 129), some (.ref a0), some (.int a1), some (.int a2), some (.int a3), some (.int v2), some (.int v4)], [.ref a0, .int (xA T3 (a0 + 32) (ix v2)), .int (abI ((xA T3 (a0 + 28) (ix v2)) - (xA T3 (a0 + 28) (ix v4))))], hX c T3)) rfl ?_
        refine xe_gfr (ci := 2) (k := 8) rfl rfl h5.1 ⟨by decide, by decide⟩ rfl h5.f8 ?_
        refine ev_ex 1 (c' := (77, [some (.ref 129), some (.ref a0), some (.int a1), some (.int a2), some (.int a3), some (.int v2), some (.int v4)], [.int v4, .ref (a0 + 32), .int (xA T3 (a0 + 32) (ix v2)), .int (abI ((xA T3 (a0 + 28) (ix v2)) - (xA T3 (a0 + 28) (ix v4))))], hX c T3)) rfl ?_
        obtain ⟨H0, H⟩ := H
        refine xe_al rfl h5.a8 H0 ?_
        refine ev_ex 0 (c' := (78, [some (.ref 129), some (.ref a0), some (.int a1), some (.int a2), some (.int a3), some (.int v2), some (.int v4)], [.int (xA T3 (a0 + 32) (ix v4)), .int (xA T3 (a0 + 32) (ix v2)), .int (abI ((xA T3 (a0 + 28) (ix v2)) - (xA T3 (a0 + 28) (ix v4))))], hX c T3)) rfl ?_
        refine ev_ex 1 (c' := (79, [some (.ref 129), some (.ref a0), some (.int a1), some (.int a2), some (.int a3), some (.int v2), some (.int v4)], [.int ((xA T3 (a0 + 32) (ix v2)) - (xA T3 (a0 + 32) (ix v4))), .int (abI ((xA T3 (a0 + 28) (ix v2)) - (xA T3 (a0 + 28) (ix v4))))], hX c T3)) rfl ?_
        refine xq_I (idx := 107) (V := abI ((xA T3 (a0 + 32) (ix v2)) - (xA T3 (a0 + 32) (ix v4)))) (S := T3) rfl rfl rfl (Nat.le_of_ble_eq_true rfl) (Nat.le_of_ble_eq_true rfl) rfl (zx_JM_abs ⟨rfl, rfl⟩) ?_
        refine ev_ex 2 (c' := (84, [some (.ref 129), some (.ref a0), some (.int a1), some (.int a2), some (.int a3), some (.int v2), some (.int v4)], [.int 1, .int ((abI ((xA T3 (a0 + 28) (ix v2)) - (xA T3 (a0 + 28) (ix v4)))) + (abI ((xA T3 (a0 + 32) (ix v2)) - (xA T3 (a0 + 32) (ix v4)))))], hX c T3)) rfl ?_
        refine ev_icmp_gt (tgt := 91) rfl rfl (fun h => ?_) (fun h => ?_)
        · replace H := H.1 (h)
          refine ev_ex 1 (c' := (92, [some (.ref 129), some (.ref a0), some (.int a1), some (.int a2), some (.int a3), some (.int v2), some (.int v4)], [.int 0], hX c T3)) rfl ?_
          exact ev_retB (x := false) rfl rfl ⟨_, _, rfl, rfl, H⟩
        · replace H := H.2 (h)
          refine ev_ex 2 (c' := (92, [some (.ref 129), some (.ref a0), some (.int a1), some (.int a2), some (.int a3), some (.int v2), some (.int v4)], [.int 1], hX c T3)) rfl ?_
          exact ev_retB (x := true) rfl rfl ⟨_, _, rfl, rfl, H⟩
      · replace H := H.2 (h)
        refine ev_ex 1 (c' := (45, [some (.ref 129), some (.ref a0), some (.int a1), some (.int a2), some (.int a3), some (.int v2), some (.int v4)], [.int 0], hX c T3)) rfl ?_
        exact ev_retB (x := false) rfl rfl ⟨_, _, rfl, rfl, H⟩
set_option maxRecDepth 8000 in
theorem wx_Rw_ringOf {c : CX} {d : Nat} {T : XS} {Q : Int32 → XS → Prop} (a0 : Nat) (a1 : Int32) (H : eX c (d + 1) m_Rw_ringOf 7 [some (.ref a0), some (.int a1), some (.int 0), some (.int a1), some (.int 0)] T (yI c Q)) : XI c (d + 1) m_Rw_ringOf [.ref a0, .int a1] T Q := by
  refine ⟨q_Rw_ringOf, rfl, Nat.le_of_ble_eq_true rfl, ?_⟩
  refine ev_ex 0 (c' := (0, [some (.ref a0), some (.int a1), none, none, none], [], hX c T)) rfl ?_
  refine ev_ex 6 (c' := (7, [some (.ref a0), some (.int a1), some (.int 0), some (.int a1), some (.int 0)], [], hX c T)) rfl ?_
  exact H
set_option maxRecDepth 8000 in
theorem wx_Rw_ringOf_7 {c : CX} {d : Nat} {T : XS} {Q : Int32 → XS → Prop} (a0 : Nat) (l1 : Int32) (l2 : Int32) (l3 : Int32) (l4 : Int32) (H : ((10 ≤ l4 → Q 0 T) ∧ (¬ 10 ≤ l4 → (((one l3) = false → Q 0 T) ∧ ((one l3) = true → (SdS T a0 ∧ (okx l3 10 ∧ ((¬ (xA T (sW a0) (ix l3)) = l1 → eX c (d + 1) m_Rw_ringOf 7 [some (.ref a0), some (.int l1), some (.int (l2 ||| ((1 : Int32) <<< (l3 &&& 31)))), some (.int (xA T (sW a0) (ix l3))), some (.int (l4 + 1))] T (yI c Q)) ∧ ((xA T (sW a0) (ix l3)) = l1 → Q (l2 ||| ((1 : Int32) <<< (l3 &&& 31))) T))))))))) : eX c (d + 1) m_Rw_ringOf 7 [some (.ref a0), some (.int l1), some (.int l2), some (.int l3), some (.int l4)] T (yI c Q) := by
  unfold eX
  refine ev_ex 0 (c' := (7, [some (.ref a0), some (.int l1), some (.int l2), some (.int l3), some (.int l4)], [], hX c T)) rfl ?_
  refine ev_ex 2 (c' := (11, [some (.ref a0), some (.int l1), some (.int l2), some (.int l3), some (.int l4)], [.int 10, .int l4], hX c T)) rfl ?_
  refine ev_icmp_ge (tgt := 47) rfl rfl (fun h => ?_) (fun h => ?_)
  · replace H := H.1 (h)
    refine ev_ex 1 (c' := (48, [some (.ref a0), some (.int l1), some (.int l2), some (.int l3), some (.int l4)], [.int 0], hX c T)) rfl ?_
    exact ev_ret rfl rfl rfl ⟨_, _, rfl, rfl, H⟩
  · replace H := H.2 (h)
    refine ev_ex 1 (c' := (15, [some (.ref a0), some (.int l1), some (.int l2), some (.int l3), some (.int l4)], [.int l3], hX c T)) rfl ?_
    refine xq_B (idx := 65) (V := one l3) (S := T) rfl rfl rfl (Nat.le_of_ble_eq_true rfl) (Nat.le_of_ble_eq_true rfl) rfl (zx_X_isOne ⟨rfl, rfl⟩) ?_
    refine ev_if_eqB (x := (one l3)) (tgt := 47) rfl rfl (fun h => ?_) (fun h => ?_)
    · replace H := H.1 (h)
      refine ev_ex 1 (c' := (48, [some (.ref a0), some (.int l1), some (.int l2), some (.int l3), some (.int l4)], [.int 0], hX c T)) rfl ?_
      exact ev_ret rfl rfl rfl ⟨_, _, rfl, rfl, H⟩
    · replace H := H.2 (h)
      refine ev_ex 7 (c' := (28, [some (.ref a0), some (.int l1), some (.int (l2 ||| ((1 : Int32) <<< (l3 &&& 31)))), some (.int l3), some (.int l4)], [.ref a0], hX c T)) rfl ?_
      obtain ⟨h51, H⟩ := H
      refine xe_gfr (ci := 9) (k := 1) rfl rfl h51.1 ⟨by decide, by decide⟩ rfl h51.fw ?_
      refine ev_ex 1 (c' := (32, [some (.ref a0), some (.int l1), some (.int (l2 ||| ((1 : Int32) <<< (l3 &&& 31)))), some (.int l3), some (.int l4)], [.int l3, .ref (sW a0)], hX c T)) rfl ?_
      obtain ⟨H0, H⟩ := H
      refine xe_al rfl h51.aw H0 ?_
      refine ev_ex 0 (c' := (33, [some (.ref a0), some (.int l1), some (.int (l2 ||| ((1 : Int32) <<< (l3 &&& 31)))), some (.int l3), some (.int l4)], [.int (xA T (sW a0) (ix l3))], hX c T)) rfl ?_
      refine ev_ex 3 (c' := (36, [some (.ref a0), some (.int l1), some (.int (l2 ||| ((1 : Int32) <<< (l3 &&& 31)))), some (.int (xA T (sW a0) (ix l3))), some (.int l4)], [.int l1, .int (xA T (sW a0) (ix l3))], hX c T)) rfl ?_
      refine ev_icmp_ne (tgt := 41) rfl rfl (fun h => ?_) (fun h => ?_)
      · replace H := H.1 (h)
        refine ev_ex 2 (c' := (7, [some (.ref a0), some (.int l1), some (.int (l2 ||| ((1 : Int32) <<< (l3 &&& 31)))), some (.int (xA T (sW a0) (ix l3))), some (.int (l4 + 1))], [], hX c T)) rfl ?_
        exact H
      · replace H := H.2 (h)
        refine ev_ex 1 (c' := (40, [some (.ref a0), some (.int l1), some (.int (l2 ||| ((1 : Int32) <<< (l3 &&& 31)))), some (.int (xA T (sW a0) (ix l3))), some (.int l4)], [.int (l2 ||| ((1 : Int32) <<< (l3 &&& 31)))], hX c T)) rfl ?_
        exact ev_ret rfl rfl rfl ⟨_, _, rfl, rfl, H⟩
set_option maxRecDepth 8000 in
theorem wx_Rw_whoIsBehind {c : CX} {d : Nat} {T : XS} {Q : Int32 → XS → Prop} (a0 : Nat) (a1 : Int32) (H : (SdS T a0 ∧ (okx a1 10 ∧ (okx a1 10 ∧ ((¬ (xA T 137 (ix a1)) = 0 → XI c d m_Rw_opening [.ref 129, .ref a0, .int (xA T 137 (ix a1))] T (fun v3 T2 => ((¬ v3 = ((-1)) → ((¬ a1 = v3 → XI c d m_X_leastOf [.int ((xA T (sM a0) (ix a1)) &&& (xA T 137 (ix a1)))] T2 (fun v5 T4 => Q v5 T4)) ∧ (a1 = v3 → XI c d m_X_leastOf [.int ((xA T (sM a0) (ix a1)) &&& ((xA T 137 (ix a1)) ^^^ ((-1))))] T2 (fun v7 T6 => Q v7 T6)))) ∧ (v3 = ((-1)) → XI c d m_X_leastOf [.int (xA T 137 (ix a1))] T2 (fun v9 T8 => ((¬ a1 = v9 → XI c d m_X_leastOf [.int (xA T (sM a0) (ix a1))] T8 (fun v11 T10 => Q v11 T10)) ∧ (a1 = v9 → Q ((-1)) T8))))))) ∧ ((xA T 137 (ix a1)) = 0 → XI c d m_X_leastOf [.int (xA T (sM a0) (ix a1))] T (fun v13 T12 => Q v13 T12))))))) : XI c (d + 1) m_Rw_whoIsBehind [.ref 129, .ref a0, .int a1] T Q := by
  refine ⟨q_Rw_whoIsBehind, rfl, Nat.le_of_ble_eq_true rfl, ?_⟩
  refine ev_ex 0 (c' := (0, [some (.ref 129), some (.ref a0), some (.int a1), none, none, none], [], hX c T)) rfl ?_
  refine ev_ex 1 (c' := (1, [some (.ref 129), some (.ref a0), some (.int a1), none, none, none], [.ref a0], hX c T)) rfl ?_
  obtain ⟨h1, H⟩ := H
  refine xe_gfr (ci := 9) (k := 2) rfl rfl h1.1 ⟨by decide, by decide⟩ rfl h1.fm ?_
  refine ev_ex 1 (c' := (5, [some (.ref 129), some (.ref a0), some (.int a1), none, none, none], [.int a1, .ref (sM a0)], hX c T)) rfl ?_
  obtain ⟨H0, H⟩ := H
  refine xe_al rfl h1.am H0 ?_
  refine ev_ex 0 (c' := (6, [some (.ref 129), some (.ref a0), some (.int a1), none, none, none], [.int (xA T (sM a0) (ix a1))], hX c T)) rfl ?_
  refine ev_ex 2 (c' := (8, [some (.ref 129), some (.ref a0), some (.int a1), some (.int (xA T (sM a0) (ix a1))), none, none], [.ref 129], hX c T)) rfl ?_
  refine xe_gf (ci := 8) (k := 6) rfl rfl (ob_lit (i := 32) rfl (by decide) rfl) ⟨by decide, by decide⟩ (v := .ref 137) rfl ?_
  refine ev_ex 1 (c' := (12, [some (.ref 129), some (.ref a0), some (.int a1), some (.int (xA T (sM a0) (ix a1))), none, none], [.int a1, .ref 137], hX c T)) rfl ?_
  obtain ⟨H0, H⟩ := H
  refine xe_al rfl (ar_lit (i := 34) rfl (by decide) rfl) H0 ?_
  refine ev_ex 0 (c' := (13, [some (.ref 129), some (.ref a0), some (.int a1), some (.int (xA T (sM a0) (ix a1))), none, none], [.int (xA T 137 (ix a1))], hX c T)) rfl ?_
  refine ev_ex 2 (c' := (17, [some (.ref 129), some (.ref a0), some (.int a1), some (.int (xA T (sM a0) (ix a1))), some (.int (xA T 137 (ix a1))), none], [.int (xA T 137 (ix a1))], hX c T)) rfl ?_
  refine ev_if_ne (tgt := 25) rfl rfl (fun h => ?_) (fun h => ?_)
  · replace H := H.1 (h)
    refine ev_ex 3 (c' := (29, [some (.ref 129), some (.ref a0), some (.int a1), some (.int (xA T (sM a0) (ix a1))), some (.int (xA T 137 (ix a1))), none], [.int (xA T 137 (ix a1)), .ref a0, .ref 129], hX c T)) rfl ?_
    refine xc_I (idx := 80) rfl rfl rfl (Nat.le_of_ble_eq_true rfl) (Nat.le_of_ble_eq_true rfl) (x_rcv (T := T) (ob_lit (i := 32) rfl (by decide) rfl) ⟨by decide, by decide⟩ _ _) H (fun v3 T2 H => ?_)
    refine ev_ex 3 (c' := (37, [some (.ref 129), some (.ref a0), some (.int a1), some (.int (xA T (sM a0) (ix a1))), some (.int (xA T 137 (ix a1))), some (.int v3)], [.int ((-1)), .int v3], hX c T2)) rfl ?_
    refine ev_icmp_ne (tgt := 58) rfl rfl (fun h => ?_) (fun h => ?_)
    · replace H := H.1 (h)
      refine ev_ex 2 (c' := (61, [some (.ref 129), some (.ref a0), some (.int a1), some (.int (xA T (sM a0) (ix a1))), some (.int (xA T 137 (ix a1))), some (.int v3)], [.int v3, .int a1], hX c T2)) rfl ?_
      refine ev_icmp_ne (tgt := 73) rfl rfl (fun h => ?_) (fun h => ?_)
      · replace H := H.1 (h)
        refine ev_ex 3 (c' := (77, [some (.ref 129), some (.ref a0), some (.int a1), some (.int (xA T (sM a0) (ix a1))), some (.int (xA T 137 (ix a1))), some (.int v3)], [.int ((xA T (sM a0) (ix a1)) &&& (xA T 137 (ix a1)))], hX c T2)) rfl ?_
        refine xc_I (idx := 76) rfl rfl rfl (Nat.le_of_ble_eq_true rfl) (Nat.le_of_ble_eq_true rfl) rfl H (fun v5 T4 H => ?_)
        exact ev_ret rfl rfl rfl ⟨_, _, rfl, rfl, H⟩
      · replace H := H.2 (h)
        refine ev_ex 6 (c' := (77, [some (.ref 129), some (.ref a0), some (.int a1), some (.int (xA T (sM a0) (ix a1))), some (.int (xA T 137 (ix a1))), some (.int v3)], [.int ((xA T (sM a0) (ix a1)) &&& ((xA T 137 (ix a1)) ^^^ ((-1))))], hX c T2)) rfl ?_
        refine xc_I (idx := 76) rfl rfl rfl (Nat.le_of_ble_eq_true rfl) (Nat.le_of_ble_eq_true rfl) rfl H (fun v7 T6 H => ?_)
        exact ev_ret rfl rfl rfl ⟨_, _, rfl, rfl, H⟩
    · replace H := H.2 (h)
      refine ev_ex 2 (c' := (43, [some (.ref 129), some (.ref a0), some (.int a1), some (.int (xA T (sM a0) (ix a1))), some (.int (xA T 137 (ix a1))), some (.int v3)], [.int (xA T 137 (ix a1)), .int a1], hX c T2)) rfl ?_
      refine xc_I (idx := 76) rfl rfl rfl (Nat.le_of_ble_eq_true rfl) (Nat.le_of_ble_eq_true rfl) rfl H (fun v9 T8 H => ?_)
      refine ev_icmp_ne (tgt := 53) rfl rfl (fun h => ?_) (fun h => ?_)
      · replace H := H.1 (h)
        refine ev_ex 1 (c' := (54, [some (.ref 129), some (.ref a0), some (.int a1), some (.int (xA T (sM a0) (ix a1))), some (.int (xA T 137 (ix a1))), some (.int v3)], [.int (xA T (sM a0) (ix a1))], hX c T8)) rfl ?_
        refine xc_I (idx := 76) rfl rfl rfl (Nat.le_of_ble_eq_true rfl) (Nat.le_of_ble_eq_true rfl) rfl H (fun v11 T10 H => ?_)
        exact ev_ret rfl rfl rfl ⟨_, _, rfl, rfl, H⟩
      · replace H := H.2 (h)
        refine ev_ex 2 (c' := (57, [some (.ref 129), some (.ref a0), some (.int a1), some (.int (xA T (sM a0) (ix a1))), some (.int (xA T 137 (ix a1))), some (.int v3)], [.int ((-1))], hX c T8)) rfl ?_
        exact ev_ret rfl rfl rfl ⟨_, _, rfl, rfl, H⟩
  · replace H := H.2 (h)
    refine ev_ex 1 (c' := (21, [some (.ref 129), some (.ref a0), some (.int a1), some (.int (xA T (sM a0) (ix a1))), some (.int (xA T 137 (ix a1))), none], [.int (xA T (sM a0) (ix a1))], hX c T)) rfl ?_
    refine xc_I (idx := 76) rfl rfl rfl (Nat.le_of_ble_eq_true rfl) (Nat.le_of_ble_eq_true rfl) rfl H (fun v13 T12 H => ?_)
    exact ev_ret rfl rfl rfl ⟨_, _, rfl, rfl, H⟩
set_option maxRecDepth 8000 in
theorem wx_Rw_lineUp {c : CX} {d : Nat} {T : XS} {Q : XS → Prop} (a0 : Nat) (a1 : Int32) (H : (SdS T a0 ∧ (okx a1 10 ∧ (((xA T (sW a0) (ix a1)) = ((-1)) → eX c (d + 1) m_Rw_lineUp 61 [some (.ref 129), some (.ref a0), some (.int a1), some (.int 0), some (.int a1), some (.int 0)] (tI T 129 4 ((xI T 129 4) + 1)) (yV c Q)) ∧ (¬ (xA T (sW a0) (ix a1)) = ((-1)) → (okx a1 10 ∧ XV c d m_Rw_put [.ref 129, .int (100 + (xA T (sW a0) (ix a1)))] (tI T 129 4 ((xI T 129 4) + 1)) (fun T2 => eX c (d + 1) m_Rw_lineUp 61 [some (.ref 129), some (.ref a0), some (.int a1), some (.int 0), some (.int a1), some (.int 0)] (tI (tI T2 129 3 ((xI T2 129 3) + 1)) 129 2 ((xI T2 129 2) + 1)) (yV c Q)))))))) : XV c (d + 1) m_Rw_lineUp [.ref 129, .ref a0, .int a1] T Q := by
  refine ⟨q_Rw_lineUp, rfl, Nat.le_of_ble_eq_true rfl, ?_⟩
  refine ev_ex 0 (c' := (0, [some (.ref 129), some (.ref a0), some (.int a1), none, none, none], [], hX c T)) rfl ?_
  refine ev_ex 2 (c' := (2, [some (.ref 129), some (.ref a0), some (.int a1), none, none, none], [.ref 129, .ref 129], hX c T)) rfl ?_
  refine xe_gf (ci := 8) (k := 4) rfl rfl (ob_lit (i := 32) rfl (by decide) rfl) ⟨by decide, by decide⟩ (v := .int (xI T 129 4)) rfl ?_
  refine ev_ex 2 (c' := (7, [some (.ref 129), some (.ref a0), some (.int a1), none, none, none], [.int ((xI T 129 4) + 1), .ref 129], hX c T)) rfl ?_
  refine xe_pi (ci := 8) (k := 4) rfl rfl (ob_lit (i := 32) rfl (by decide) rfl) ⟨by decide, by decide⟩ (Nat.le_of_ble_eq_true rfl) rfl (fi_8_4 _ _ _) ?_
  refine ev_ex 1 (c' := (11, [some (.ref 129), some (.ref a0), some (.int a1), none, none, none], [.ref a0], hX c (tI T 129 4 ((xI T 129 4) + 1)))) rfl ?_
  obtain ⟨h1, H⟩ := H
  refine xe_gfr (ci := 9) (k := 1) rfl rfl h1.1 ⟨by decide, by decide⟩ rfl h1.fw ?_
  refine ev_ex 1 (c' := (15, [some (.ref 129), some (.ref a0), some (.int a1), none, none, none], [.int a1, .ref (sW a0)], hX c (tI T 129 4 ((xI T 129 4) + 1)))) rfl ?_
  obtain ⟨H0, H⟩ := H
  refine xe_al rfl h1.aw H0 ?_
  refine ev_ex 0 (c' := (16, [some (.ref 129), some (.ref a0), some (.int a1), none, none, none], [.int (xA T (sW a0) (ix a1))], hX c (tI T 129 4 ((xI T 129 4) + 1)))) rfl ?_
  refine ev_ex 1 (c' := (17, [some (.ref 129), some (.ref a0), some (.int a1), none, none, none], [.int ((-1)), .int (xA T (sW a0) (ix a1))], hX c (tI T 129 4 ((xI T 129 4) + 1)))) rfl ?_
  refine ev_icmp_eq (tgt := 53) rfl rfl (fun h => ?_) (fun h => ?_)
  · replace H := H.1 (h)
    refine ev_ex 6 (c' := (61, [some (.ref 129), some (.ref a0), some (.int a1), some (.int 0), some (.int a1), some (.int 0)], [], hX c (tI T 129 4 ((xI T 129 4) + 1)))) rfl ?_
    exact H
  · replace H := H.2 (h)
    refine ev_ex 3 (c' := (24, [some (.ref 129), some (.ref a0), some (.int a1), none, none, none], [.ref a0, .int 100, .ref 129], hX c (tI T 129 4 ((xI T 129 4) + 1)))) rfl ?_
    refine xe_gfr (ci := 9) (k := 1) rfl rfl h1.1 ⟨by decide, by decide⟩ rfl h1.fw ?_
    refine ev_ex 1 (c' := (28, [some (.ref 129), some (.ref a0), some (.int a1), none, none, none], [.int a1, .ref (sW a0), .int 100, .ref 129], hX c (tI T 129 4 ((xI T 129 4) + 1)))) rfl ?_
    obtain ⟨H0, H⟩ := H
    refine xe_al rfl h1.aw H0 ?_
    refine ev_ex 0 (c' := (29, [some (.ref 129), some (.ref a0), some (.int a1), none, none, none], [.int (xA T (sW a0) (ix a1)), .int 100, .ref 129], hX c (tI T 129 4 ((xI T 129 4) + 1)))) rfl ?_
    refine ev_ex 1 (c' := (30, [some (.ref 129), some (.ref a0), some (.int a1), none, none, none], [.int (100 + (xA T (sW a0) (ix a1))), .ref 129], hX c (tI T 129 4 ((xI T 129 4) + 1)))) rfl ?_
    refine xc_V (idx := 83) rfl rfl rfl (Nat.le_of_ble_eq_true rfl) (Nat.le_of_ble_eq_true rfl) (x_rcv (T := tI T 129 4 ((xI T 129 4) + 1)) (ob_lit (i := 32) rfl (by decide) rfl) ⟨by decide, by decide⟩ _ _) H (fun T2 H => ?_)
    refine ev_ex 2 (c' := (35, [some (.ref 129), some (.ref a0), some (.int a1), none, none, none], [.ref 129, .ref 129], hX c T2)) rfl ?_
    refine xe_gf (ci := 8) (k := 3) rfl rfl (ob_lit (i := 32) rfl (by decide) rfl) ⟨by decide, by decide⟩ (v := .int (xI T2 129 3)) rfl ?_
    refine ev_ex 2 (c' := (40, [some (.ref 129), some (.ref a0), some (.int a1), none, none, none], [.int ((xI T2 129 3) + 1), .ref 129], hX c T2)) rfl ?_
    refine xe_pi (ci := 8) (k := 3) rfl rfl (ob_lit (i := 32) rfl (by decide) rfl) ⟨by decide, by decide⟩ (Nat.le_of_ble_eq_true rfl) rfl (fi_8_3 _ _ _) ?_
    refine ev_ex 2 (c' := (45, [some (.ref 129), some (.ref a0), some (.int a1), none, none, none], [.ref 129, .ref 129], hX c (tI T2 129 3 ((xI T2 129 3) + 1)))) rfl ?_
    refine xe_gf (ci := 8) (k := 2) rfl rfl (ob_lit (i := 32) rfl (by decide) rfl) ⟨by decide, by decide⟩ (v := .int (xI T2 129 2)) rfl ?_
    refine ev_ex 2 (c' := (50, [some (.ref 129), some (.ref a0), some (.int a1), none, none, none], [.int ((xI T2 129 2) + 1), .ref 129], hX c (tI T2 129 3 ((xI T2 129 3) + 1)))) rfl ?_
    refine xe_pi (ci := 8) (k := 2) rfl rfl (ob_lit (i := 32) rfl (by decide) rfl) ⟨by decide, by decide⟩ (Nat.le_of_ble_eq_true rfl) rfl (fi_8_2 _ _ _) ?_
    refine ev_ex 6 (c' := (61, [some (.ref 129), some (.ref a0), some (.int a1), some (.int 0), some (.int a1), some (.int 0)], [], hX c (tI (tI T2 129 3 ((xI T2 129 3) + 1)) 129 2 ((xI T2 129 2) + 1)))) rfl ?_
    exact H
set_option maxRecDepth 8000 in
theorem wx_Rw_lineUp_61 {c : CX} {d : Nat} {T : XS} {Q : XS → Prop} (a0 : Nat) (l2 : Int32) (l3 : Int32) (l4 : Int32) (l5 : Int32) (H : (((xI T 129 0) ≤ l5 → eX c (d + 1) m_Rw_lineUp 150 [some (.ref 129), some (.ref a0), some (.int l2), some (.int l3), some (.int l4), some (.int 0)] T (yV c Q)) ∧ (¬ (xI T 129 0) ≤ l5 → (((one l4) = false → eX c (d + 1) m_Rw_lineUp 150 [some (.ref 129), some (.ref a0), some (.int l2), some (.int l3), some (.int l4), some (.int 0)] T (yV c Q)) ∧ ((one l4) = true → (okx l4 10 ∧ (okx l4 10 ∧ XV c d m_Rw_put [.ref 129, .int l4] (tA (tA T 145 (ix l4) (xI T 129 1)) 149 (ix l4) (xI T 129 2)) (fun T51 => (SdS T51 a0 ∧ (∃ b53 : Nat, frx T51 a0 0 = some b53 ∧ (CvS T51 b53 ∧ (okx l4 10 ∧ (okx l4 10 ∧ eX c (d + 1) m_Rw_lineUp 61 [some (.ref 129), some (.ref a0), some (.int l2), some (.int (l3 ||| ((1 : Int32) <<< (l4 &&& 31)))), some (.int (xA T51 141 (ix l4))), some (.int (l5 + 1))] (tI T51 129 2 ((xI T51 129 2) + (xA T51 (b53 + 12) (ix l4)))) (yV c Q)))))))))))))) : eX c (d + 1) m_Rw_lineUp 61 [some (.ref 129), some (.ref a0), some (.int l2), some (.int l3), some (.int l4), some (.int l5)] T (yV c Q) := by
  unfold eX
  refine ev_ex 0 (c' := (61, [some (.ref 129), some (.ref a0), some (.int l2), some (.int l3), some (.int l4), some (.int l5)], [], hX c T)) rfl ?_
  refine ev_ex 2 (c' := (64, [some (.ref 129), some (.ref a0), some (.int l2), some (.int l3), some (.int l4), some (.int l5)], [.ref 129, .int l5], hX c T)) rfl ?_
  refine xe_gf (ci := 8) (k := 0) rfl rfl (ob_lit (i := 32) rfl (by decide) rfl) ⟨by decide, by decide⟩ (v := .int (xI T 129 0)) rfl ?_
  refine ev_icmp_ge (tgt := 147) rfl rfl (fun h => ?_) (fun h => ?_)
  · replace H := H.1 (h)
    refine ev_ex 2 (c' := (150, [some (.ref 129), some (.ref a0), some (.int l2), some (.int l3), some (.int l4), some (.int 0)], [], hX c T)) rfl ?_
    exact H
  · replace H := H.2 (h)
    refine ev_ex 1 (c' := (72, [some (.ref 129), some (.ref a0), some (.int l2), some (.int l3), some (.int l4), some (.int l5)], [.int l4], hX c T)) rfl ?_
    refine xq_B (idx := 65) (V := one l4) (S := T) rfl rfl rfl (Nat.le_of_ble_eq_true rfl) (Nat.le_of_ble_eq_true rfl) rfl (zx_X_isOne ⟨rfl, rfl⟩) ?_
    refine ev_if_eqB (x := (one l4)) (tgt := 147) rfl rfl (fun h => ?_) (fun h => ?_)
    · replace H := H.1 (h)
      refine ev_ex 2 (c' := (150, [some (.ref 129), some (.ref a0), some (.int l2), some (.int l3), some (.int l4), some (.int 0)], [], hX c T)) rfl ?_
      exact H
    · replace H := H.2 (h)
      refine ev_ex 7 (c' := (86, [some (.ref 129), some (.ref a0), some (.int l2), some (.int (l3 ||| ((1 : Int32) <<< (l4 &&& 31)))), some (.int l4), some (.int l5)], [.ref 129], hX c T)) rfl ?_
      refine xe_gf (ci := 8) (k := 8) rfl rfl (ob_lit (i := 32) rfl (by decide) rfl) ⟨by decide, by decide⟩ (v := .ref 145) rfl ?_
      refine ev_ex 2 (c' := (92, [some (.ref 129), some (.ref a0), some (.int l2), some (.int (l3 ||| ((1 : Int32) <<< (l4 &&& 31)))), some (.int l4), some (.int l5)], [.ref 129, .int l4, .ref 145], hX c T)) rfl ?_
      refine xe_gf (ci := 8) (k := 1) rfl rfl (ob_lit (i := 32) rfl (by decide) rfl) ⟨by decide, by decide⟩ (v := .int (xI T 129 1)) rfl ?_
      obtain ⟨H0, H⟩ := H
      refine xe_as rfl (ar_lit (i := 36) rfl (by decide) rfl) H0 ?_
      refine ev_ex 1 (c' := (97, [some (.ref 129), some (.ref a0), some (.int l2), some (.int (l3 ||| ((1 : Int32) <<< (l4 &&& 31)))), some (.int l4), some (.int l5)], [.ref 129], hX c (tA T 145 (ix l4) (xI T 129 1)))) rfl ?_
      refine xe_gf (ci := 8) (k := 9) rfl rfl (ob_lit (i := 32) rfl (by decide) rfl) ⟨by decide, by decide⟩ (v := .ref 149) rfl ?_
      refine ev_ex 2 (c' := (103, [some (.ref 129), some (.ref a0), some (.int l2), some (.int (l3 ||| ((1 : Int32) <<< (l4 &&& 31)))), some (.int l4), some (.int l5)], [.ref 129, .int l4, .ref 149], hX c (tA T 145 (ix l4) (xI T 129 1)))) rfl ?_
      refine xe_gf (ci := 8) (k := 2) rfl rfl (ob_lit (i := 32) rfl (by decide) rfl) ⟨by decide, by decide⟩ (v := .int (xI T 129 2)) rfl ?_
      obtain ⟨H0, H⟩ := H
      refine xe_as rfl (ar_lit (i := 37) rfl (by decide) rfl) H0 ?_
      refine ev_ex 2 (c' := (110, [some (.ref 129), some (.ref a0), some (.int l2), some (.int (l3 ||| ((1 : Int32) <<< (l4 &&& 31)))), some (.int l4), some (.int l5)], [.int l4, .ref 129], hX c (tA (tA T 145 (ix l4) (xI T 129 1)) 149 (ix l4) (xI T 129 2)))) rfl ?_
      refine xc_V (idx := 83) rfl rfl rfl (Nat.le_of_ble_eq_true rfl) (Nat.le_of_ble_eq_true rfl) (x_rcv (T := tA (tA T 145 (ix l4) (xI T 129 1)) 149 (ix l4) (xI T 129 2)) (ob_lit (i := 32) rfl (by decide) rfl) ⟨by decide, by decide⟩ _ _) H (fun T51 H => ?_)
      refine ev_ex 2 (c' := (115, [some (.ref 129), some (.ref a0), some (.int l2), some (.int (l3 ||| ((1 : Int32) <<< (l4 &&& 31)))), some (.int l4), some (.int l5)], [.ref 129, .ref 129], hX c T51)) rfl ?_
      refine xe_gf (ci := 8) (k := 2) rfl rfl (ob_lit (i := 32) rfl (by decide) rfl) ⟨by decide, by decide⟩ (v := .int (xI T51 129 2)) rfl ?_
      refine ev_ex 1 (c' := (119, [some (.ref 129), some (.ref a0), some (.int l2), some (.int (l3 ||| ((1 : Int32) <<< (l4 &&& 31)))), some (.int l4), some (.int l5)], [.ref a0, .int (xI T51 129 2), .ref 129], hX c T51)) rfl ?_
      obtain ⟨h52, H⟩ := H
      obtain ⟨b53, h54, H⟩ := H
      refine xe_gfr (ci := 9) (k := 0) rfl rfl h52.1 ⟨by decide, by decide⟩ rfl h54 ?_
      obtain ⟨h55, H⟩ := H
      refine xe_gfr (ci := 2) (k := 10) rfl rfl h55.1 ⟨by decide, by decide⟩ rfl h55.f10 ?_
      refine ev_ex 1 (c' := (127, [some (.ref 129), some (.ref a0), some (.int l2), some (.int (l3 ||| ((1 : Int32) <<< (l4 &&& 31)))), some (.int l4), some (.int l5)], [.int l4, .ref (b53 + 12), .int (xI T51 129 2), .ref 129], hX c T51)) rfl ?_
      obtain ⟨H0, H⟩ := H
      refine xe_al rfl h55.a10 H0 ?_
      refine ev_ex 0 (c' := (128, [some (.ref 129), some (.ref a0), some (.int l2), some (.int (l3 ||| ((1 : Int32) <<< (l4 &&& 31)))), some (.int l4), some (.int l5)], [.int (xA T51 (b53 + 12) (ix l4)), .int (xI T51 129 2), .ref 129], hX c T51)) rfl ?_
      refine ev_ex 1 (c' := (129, [some (.ref 129), some (.ref a0), some (.int l2), some (.int (l3 ||| ((1 : Int32) <<< (l4 &&& 31)))), some (.int l4), some (.int l5)], [.int ((xI T51 129 2) + (xA T51 (b53 + 12) (ix l4))), .ref 129], hX c T51)) rfl ?_
      refine xe_pi (ci := 8) (k := 2) rfl rfl (ob_lit (i := 32) rfl (by decide) rfl) ⟨by decide, by decide⟩ (Nat.le_of_ble_eq_true rfl) rfl (fi_8_2 _ _ _) ?_
      refine ev_ex 1 (c' := (133, [some (.ref 129), some (.ref a0), some (.int l2), some (.int (l3 ||| ((1 : Int32) <<< (l4 &&& 31)))), some (.int l4), some (.int l5)], [.ref 129], hX c (tI T51 129 2 ((xI T51 129 2) + (xA T51 (b53 + 12) (ix l4)))))) rfl ?_
      refine xe_gf (ci := 8) (k := 7) rfl rfl (ob_lit (i := 32) rfl (by decide) rfl) ⟨by decide, by decide⟩ (v := .ref 141) rfl ?_
      refine ev_ex 1 (c' := (138, [some (.ref 129), some (.ref a0), some (.int l2), some (.int (l3 ||| ((1 : Int32) <<< (l4 &&& 31)))), some (.int l4), some (.int l5)], [.int l4, .ref 141], hX c (tI T51 129 2 ((xI T51 129 2) + (xA T51 (b53 + 12) (ix l4)))))) rfl ?_
      obtain ⟨H0, H⟩ := H
      refine xe_al rfl (ar_lit (i := 35) rfl (by decide) rfl) H0 ?_
      refine ev_ex 0 (c' := (139, [some (.ref 129), some (.ref a0), some (.int l2), some (.int (l3 ||| ((1 : Int32) <<< (l4 &&& 31)))), some (.int l4), some (.int l5)], [.int (xA T51 141 (ix l4))], hX c (tI T51 129 2 ((xI T51 129 2) + (xA T51 (b53 + 12) (ix l4)))))) rfl ?_
      refine ev_ex 3 (c' := (61, [some (.ref 129), some (.ref a0), some (.int l2), some (.int (l3 ||| ((1 : Int32) <<< (l4 &&& 31)))), some (.int (xA T51 141 (ix l4))), some (.int (l5 + 1))], [], hX c (tI T51 129 2 ((xI T51 129 2) + (xA T51 (b53 + 12) (ix l4)))))) rfl ?_
      exact H
set_option maxRecDepth 8000 in
theorem wx_Rw_lineUp_150 {c : CX} {d : Nat} {T : XS} {Q : XS → Prop} (a0 : Nat) (l2 : Int32) (l3 : Int32) (l4 : Int32) (l5 : Int32) (H : (((xI T 129 0) ≤ l5 → Q T) ∧ (¬ (xI T 129 0) ≤ l5 → (((l3 &&& ((1 : Int32) <<< (l5 &&& 31))) = 0 → eX c (d + 1) m_Rw_lineUp 150 [some (.ref 129), some (.ref a0), some (.int l2), some (.int l3), some (.int l4), some (.int (l5 + 1))] T (yV c Q)) ∧ (¬ (l3 &&& ((1 : Int32) <<< (l5 &&& 31))) = 0 → (okx l5 10 ∧ eX c (d + 1) m_Rw_lineUp 150 [some (.ref 129), some (.ref a0), some (.int l2), some (.int l3), some (.int l4), some (.int (l5 + 1))] (tA T 153 (ix l5) (bcI l3)) (yV c Q))))))) : eX c (d + 1) m_Rw_lineUp 150 [some (.ref 129), some (.ref a0), some (.int l2), some (.int l3), some (.int l4), some (.int l5)] T (yV c Q) := by
  unfold eX
  refine ev_ex 0 (c' := (150, [some (.ref 129), some (.ref a0), some (.int l2), some (.int l3), some (.int l4), some (.int l5)], [], hX c T)) rfl ?_
  refine ev_ex 2 (c' := (153, [some (.ref 129), some (.ref a0), some (.int l2), some (.int l3), some (.int l4), some (.int l5)], [.ref 129, .int l5], hX c T)) rfl ?_
  refine xe_gf (ci := 8) (k := 0) rfl rfl (ob_lit (i := 32) rfl (by decide) rfl) ⟨by decide, by decide⟩ (v := .int (xI T 129 0)) rfl ?_
  refine ev_icmp_ge (tgt := 185) rfl rfl (fun h => ?_) (fun h => ?_)
  · replace H := H.1 (h)
    exact ev_ret rfl rfl rfl ⟨_, rfl, rfl, H⟩
  · replace H := H.2 (h)
    refine ev_ex 5 (c' := (165, [some (.ref 129), some (.ref a0), some (.int l2), some (.int l3), some (.int l4), some (.int l5)], [.int (l3 &&& ((1 : Int32) <<< (l5 &&& 31)))], hX c T)) rfl ?_
    refine ev_if_eq (tgt := 179) rfl rfl (fun h => ?_) (fun h => ?_)
    · replace H := H.1 (h)
      refine ev_ex 2 (c' := (150, [some (.ref 129), some (.ref a0), some (.int l2), some (.int l3), some (.int l4), some (.int (l5 + 1))], [], hX c T)) rfl ?_
      exact H
    · replace H := H.2 (h)
      refine ev_ex 1 (c' := (169, [some (.ref 129), some (.ref a0), some (.int l2), some (.int l3), some (.int l4), some (.int l5)], [.ref 129], hX c T)) rfl ?_
      refine xe_gf (ci := 8) (k := 10) rfl rfl (ob_lit (i := 32) rfl (by decide) rfl) ⟨by decide, by decide⟩ (v := .ref 153) rfl ?_
      refine ev_ex 2 (c' := (175, [some (.ref 129), some (.ref a0), some (.int l2), some (.int l3), some (.int l4), some (.int l5)], [.int l3, .int l5, .ref 153], hX c T)) rfl ?_
      refine xq_I (idx := 90) (V := bcI l3) (S := T) rfl rfl rfl (Nat.le_of_ble_eq_true rfl) (Nat.le_of_ble_eq_true rfl) rfl (zx_JI_bitCount ⟨rfl, rfl⟩) ?_
      obtain ⟨H0, H⟩ := H
      refine xe_as rfl (ar_lit (i := 38) rfl (by decide) rfl) H0 ?_
      refine ev_ex 2 (c' := (150, [some (.ref 129), some (.ref a0), some (.int l2), some (.int l3), some (.int l4), some (.int (l5 + 1))], [], hX c (tA T 153 (ix l5) (bcI l3)))) rfl ?_
      exact H
set_option maxRecDepth 8000 in
theorem wx_Rw_isEnough {c : CX} {d : Nat} {T : XS} {Q : Bool → XS → Prop} (a0 : Nat) (a1 : Int32) (H : eX c (d + 1) m_Rw_isEnough 5 [some (.ref 129), some (.ref a0), some (.int a1), some (.int 0), some (.int 0)] T (yB c Q)) : XB c (d + 1) m_Rw_isEnough [.ref 129, .ref a0, .int a1] T Q := by
  refine ⟨q_Rw_isEnough, rfl, Nat.le_of_ble_eq_true rfl, ?_⟩
  refine ev_ex 0 (c' := (0, [some (.ref 129), some (.ref a0), some (.int a1), none, none], [], hX c T)) rfl ?_
  refine ev_ex 4 (c' := (5, [some (.ref 129), some (.ref a0), some (.int a1), some (.int 0), some (.int 0)], [], hX c T)) rfl ?_
  exact H
set_option maxRecDepth 8000 in
theorem wx_Rw_isEnough_5 {c : CX} {d : Nat} {T : XS} {Q : Bool → XS → Prop} (a0 : Nat) (l2 : Int32) (l3 : Int32) (l4 : Int32) (H : (((xI T 129 0) ≤ l4 → Q true T) ∧ (¬ (xI T 129 0) ≤ l4 → (SdS T a0 ∧ (okx l4 10 ∧ (((bcI ((xA T (sM a0) (ix l4)) &&& (l2 ^^^ ((-1))))) ≤ 1 → (okx l4 10 ∧ (((xA T 137 (ix l4)) = 0 → (okx l4 10 ∧ ((¬ (xA T (sW a0) (ix l4)) = ((-1)) → eX c (d + 1) m_Rw_isEnough 5 [some (.ref 129), some (.ref a0), some (.int l2), some (.int l3), some (.int (l4 + 1))] T (yB c Q)) ∧ ((xA T (sW a0) (ix l4)) = ((-1)) → ((¬ (l2 &&& ((1 : Int32) <<< (l4 &&& 31))) = 0 → eX c (d + 1) m_Rw_isEnough 5 [some (.ref 129), some (.ref a0), some (.int l2), some (.int l3), some (.int (l4 + 1))] T (yB c Q)) ∧ ((l2 &&& ((1 : Int32) <<< (l4 &&& 31))) = 0 → ((l3 = 0 → eX c (d + 1) m_Rw_isEnough 5 [some (.ref 129), some (.ref a0), some (.int l2), some (.int 1), some (.int (l4 + 1))] T (yB c Q)) ∧ (¬ l3 = 0 → Q false T)))))))) ∧ (¬ (xA T 137 (ix l4)) = 0 → (okx l4 10 ∧ ((¬ ((xA T 137 (ix l4)) &&& l2) = 0 → (okx l4 10 ∧ ((¬ (xA T (sW a0) (ix l4)) = ((-1)) → eX c (d + 1) m_Rw_isEnough 5 [some (.ref 129), some (.ref a0), some (.int l2), some (.int l3), some (.int (l4 + 1))] T (yB c Q)) ∧ ((xA T (sW a0) (ix l4)) = ((-1)) → ((¬ (l2 &&& ((1 : Int32) <<< (l4 &&& 31))) = 0 → eX c (d + 1) m_Rw_isEnough 5 [some (.ref 129), some (.ref a0), some (.int l2), some (.int l3), some (.int (l4 + 1))] T (yB c Q)) ∧ ((l2 &&& ((1 : Int32) <<< (l4 &&& 31))) = 0 → ((l3 = 0 → eX c (d + 1) m_Rw_isEnough 5 [some (.ref 129), some (.ref a0), some (.int l2), some (.int 1), some (.int (l4 + 1))] T (yB c Q)) ∧ (¬ l3 = 0 → Q false T)))))))) ∧ (((xA T 137 (ix l4)) &&& l2) = 0 → Q false T))))))) ∧ (¬ (bcI ((xA T (sM a0) (ix l4)) &&& (l2 ^^^ ((-1))))) ≤ 1 → Q false T))))))) : eX c (d + 1) m_Rw_isEnough 5 [some (.ref 129), some (.ref a0), some (.int l2), some (.int l3), some (.int l4)] T (yB c Q) := by
  unfold eX
  refine ev_ex 0 (c' := (5, [some (.ref 129), some (.ref a0), some (.int l2), some (.int l3), some (.int l4)], [], hX c T)) rfl ?_
  refine ev_ex 2 (c' := (8, [some (.ref 129), some (.ref a0), some (.int l2), some (.int l3), some (.int l4)], [.ref 129, .int l4], hX c T)) rfl ?_
  refine xe_gf (ci := 8) (k := 0) rfl rfl (ob_lit (i := 32) rfl (by decide) rfl) ⟨by decide, by decide⟩ (v := .int (xI T 129 0)) rfl ?_
  refine ev_icmp_ge (tgt := 92) rfl rfl (fun h => ?_) (fun h => ?_)
  · replace H := H.1 (h)
    refine ev_ex 1 (c' := (93, [some (.ref 129), some (.ref a0), some (.int l2), some (.int l3), some (.int l4)], [.int 1], hX c T)) rfl ?_
    exact ev_retB (x := true) rfl rfl ⟨_, _, rfl, rfl, H⟩
  · replace H := H.2 (h)
    refine ev_ex 1 (c' := (15, [some (.ref 129), some (.ref a0), some (.int l2), some (.int l3), some (.int l4)], [.ref a0], hX c T)) rfl ?_
    obtain ⟨h51, H⟩ := H
    refine xe_gfr (ci := 9) (k := 2) rfl rfl h51.1 ⟨by decide, by decide⟩ rfl h51.fm ?_
    refine ev_ex 1 (c' := (20, [some (.ref 129), some (.ref a0), some (.int l2), some (.int l3), some (.int l4)], [.int l4, .ref (sM a0)], hX c T)) rfl ?_
    obtain ⟨H0, H⟩ := H
    refine xe_al rfl h51.am H0 ?_
    refine ev_ex 0 (c' := (21, [some (.ref 129), some (.ref a0), some (.int l2), some (.int l3), some (.int l4)], [.int (xA T (sM a0) (ix l4))], hX c T)) rfl ?_
    refine ev_ex 4 (c' := (25, [some (.ref 129), some (.ref a0), some (.int l2), some (.int l3), some (.int l4)], [.int ((xA T (sM a0) (ix l4)) &&& (l2 ^^^ ((-1))))], hX c T)) rfl ?_
    refine xq_I (idx := 90) (V := bcI ((xA T (sM a0) (ix l4)) &&& (l2 ^^^ ((-1))))) (S := T) rfl rfl rfl (Nat.le_of_ble_eq_true rfl) (Nat.le_of_ble_eq_true rfl) rfl (zx_JI_bitCount ⟨rfl, rfl⟩) ?_
    refine ev_ex 1 (c' := (29, [some (.ref 129), some (.ref a0), some (.int l2), some (.int l3), some (.int l4)], [.int 1, .int (bcI ((xA T (sM a0) (ix l4)) &&& (l2 ^^^ ((-1)))))], hX c T)) rfl ?_
    refine ev_icmp_le (tgt := 34) rfl rfl (fun h => ?_) (fun h => ?_)
    · replace H := H.1 (h)
      refine ev_ex 1 (c' := (35, [some (.ref 129), some (.ref a0), some (.int l2), some (.int l3), some (.int l4)], [.ref 129], hX c T)) rfl ?_
      refine xe_gf (ci := 8) (k := 6) rfl rfl (ob_lit (i := 32) rfl (by decide) rfl) ⟨by decide, by decide⟩ (v := .ref 137) rfl ?_
      refine ev_ex 1 (c' := (40, [some (.ref 129), some (.ref a0), some (.int l2), some (.int l3), some (.int l4)], [.int l4, .ref 137], hX c T)) rfl ?_
      obtain ⟨H0, H⟩ := H
      refine xe_al rfl (ar_lit (i := 34) rfl (by decide) rfl) H0 ?_
      refine ev_ex 0 (c' := (41, [some (.ref 129), some (.ref a0), some (.int l2), some (.int l3), some (.int l4)], [.int (xA T 137 (ix l4))], hX c T)) rfl ?_
      refine ev_if_eq (tgt := 58) rfl rfl (fun h => ?_) (fun h => ?_)
      · replace H := H.1 (h)
        refine ev_ex 1 (c' := (59, [some (.ref 129), some (.ref a0), some (.int l2), some (.int l3), some (.int l4)], [.ref a0], hX c T)) rfl ?_
        refine xe_gfr (ci := 9) (k := 1) rfl rfl h51.1 ⟨by decide, by decide⟩ rfl h51.fw ?_
        refine ev_ex 1 (c' := (64, [some (.ref 129), some (.ref a0), some (.int l2), some (.int l3), some (.int l4)], [.int l4, .ref (sW a0)], hX c T)) rfl ?_
        obtain ⟨H0, H⟩ := H
        refine xe_al rfl h51.aw H0 ?_
        refine ev_ex 0 (c' := (65, [some (.ref 129), some (.ref a0), some (.int l2), some (.int l3), some (.int l4)], [.int (xA T (sW a0) (ix l4))], hX c T)) rfl ?_
        refine ev_ex 1 (c' := (66, [some (.ref 129), some (.ref a0), some (.int l2), some (.int l3), some (.int l4)], [.int ((-1)), .int (xA T (sW a0) (ix l4))], hX c T)) rfl ?_
        refine ev_icmp_ne (tgt := 86) rfl rfl (fun h => ?_) (fun h => ?_)
        · replace H := H.1 (h)
          refine ev_ex 2 (c' := (5, [some (.ref 129), some (.ref a0), some (.int l2), some (.int l3), some (.int (l4 + 1))], [], hX c T)) rfl ?_
          exact H
        · replace H := H.2 (h)
          refine ev_ex 5 (c' := (75, [some (.ref 129), some (.ref a0), some (.int l2), some (.int l3), some (.int l4)], [.int (l2 &&& ((1 : Int32) <<< (l4 &&& 31)))], hX c T)) rfl ?_
          refine ev_if_ne (tgt := 86) rfl rfl (fun h => ?_) (fun h => ?_)
          · replace H := H.1 (h)
            refine ev_ex 2 (c' := (5, [some (.ref 129), some (.ref a0), some (.int l2), some (.int l3), some (.int (l4 + 1))], [], hX c T)) rfl ?_
            exact H
          · replace H := H.2 (h)
            refine ev_ex 1 (c' := (79, [some (.ref 129), some (.ref a0), some (.int l2), some (.int l3), some (.int l4)], [.int l3], hX c T)) rfl ?_
            refine ev_if_eq (tgt := 84) rfl rfl (fun h => ?_) (fun h => ?_)
            · replace H := H.1 (h)
              refine ev_ex 4 (c' := (5, [some (.ref 129), some (.ref a0), some (.int l2), some (.int 1), some (.int (l4 + 1))], [], hX c T)) rfl ?_
              exact H
            · replace H := H.2 (h)
              refine ev_ex 1 (c' := (83, [some (.ref 129), some (.ref a0), some (.int l2), some (.int l3), some (.int l4)], [.int 0], hX c T)) rfl ?_
              exact ev_retB (x := false) rfl rfl ⟨_, _, rfl, rfl, H⟩
      · replace H := H.2 (h)
        refine ev_ex 1 (c' := (45, [some (.ref 129), some (.ref a0), some (.int l2), some (.int l3), some (.int l4)], [.ref 129], hX c T)) rfl ?_
        refine xe_gf (ci := 8) (k := 6) rfl rfl (ob_lit (i := 32) rfl (by decide) rfl) ⟨by decide, by decide⟩ (v := .ref 137) rfl ?_
        refine ev_ex 1 (c' := (50, [some (.ref 129), some (.ref a0), some (.int l2), some (.int l3), some (.int l4)], [.int l4, .ref 137], hX c T)) rfl ?_
        obtain ⟨H0, H⟩ := H
        refine xe_al rfl (ar_lit (i := 34) rfl (by decide) rfl) H0 ?_
        refine ev_ex 0 (c' := (51, [some (.ref 129), some (.ref a0), some (.int l2), some (.int l3), some (.int l4)], [.int (xA T 137 (ix l4))], hX c T)) rfl ?_
        refine ev_ex 2 (c' := (53, [some (.ref 129), some (.ref a0), some (.int l2), some (.int l3), some (.int l4)], [.int ((xA T 137 (ix l4)) &&& l2)], hX c T)) rfl ?_
        refine ev_if_ne (tgt := 58) rfl rfl (fun h => ?_) (fun h => ?_)
        · replace H := H.1 (h)
          refine ev_ex 1 (c' := (59, [some (.ref 129), some (.ref a0), some (.int l2), some (.int l3), some (.int l4)], [.ref a0], hX c T)) rfl ?_
          refine xe_gfr (ci := 9) (k := 1) rfl rfl h51.1 ⟨by decide, by decide⟩ rfl h51.fw ?_
          refine ev_ex 1 (c' := (64, [some (.ref 129), some (.ref a0), some (.int l2), some (.int l3), some (.int l4)], [.int l4, .ref (sW a0)], hX c T)) rfl ?_
          obtain ⟨H0, H⟩ := H
          refine xe_al rfl h51.aw H0 ?_
          refine ev_ex 0 (c' := (65, [some (.ref 129), some (.ref a0), some (.int l2), some (.int l3), some (.int l4)], [.int (xA T (sW a0) (ix l4))], hX c T)) rfl ?_
          refine ev_ex 1 (c' := (66, [some (.ref 129), some (.ref a0), some (.int l2), some (.int l3), some (.int l4)], [.int ((-1)), .int (xA T (sW a0) (ix l4))], hX c T)) rfl ?_
          refine ev_icmp_ne (tgt := 86) rfl rfl (fun h => ?_) (fun h => ?_)
          · replace H := H.1 (h)
            refine ev_ex 2 (c' := (5, [some (.ref 129), some (.ref a0), some (.int l2), some (.int l3), some (.int (l4 + 1))], [], hX c T)) rfl ?_
            exact H
          · replace H := H.2 (h)
            refine ev_ex 5 (c' := (75, [some (.ref 129), some (.ref a0), some (.int l2), some (.int l3), some (.int l4)], [.int (l2 &&& ((1 : Int32) <<< (l4 &&& 31)))], hX c T)) rfl ?_
            refine ev_if_ne (tgt := 86) rfl rfl (fun h => ?_) (fun h => ?_)
            · replace H := H.1 (h)
              refine ev_ex 2 (c' := (5, [some (.ref 129), some (.ref a0), some (.int l2), some (.int l3), some (.int (l4 + 1))], [], hX c T)) rfl ?_
              exact H
            · replace H := H.2 (h)
              refine ev_ex 1 (c' := (79, [some (.ref 129), some (.ref a0), some (.int l2), some (.int l3), some (.int l4)], [.int l3], hX c T)) rfl ?_
              refine ev_if_eq (tgt := 84) rfl rfl (fun h => ?_) (fun h => ?_)
              · replace H := H.1 (h)
                refine ev_ex 4 (c' := (5, [some (.ref 129), some (.ref a0), some (.int l2), some (.int 1), some (.int (l4 + 1))], [], hX c T)) rfl ?_
                exact H
              · replace H := H.2 (h)
                refine ev_ex 1 (c' := (83, [some (.ref 129), some (.ref a0), some (.int l2), some (.int l3), some (.int l4)], [.int 0], hX c T)) rfl ?_
                exact ev_retB (x := false) rfl rfl ⟨_, _, rfl, rfl, H⟩
        · replace H := H.2 (h)
          refine ev_ex 1 (c' := (57, [some (.ref 129), some (.ref a0), some (.int l2), some (.int l3), some (.int l4)], [.int 0], hX c T)) rfl ?_
          exact ev_retB (x := false) rfl rfl ⟨_, _, rfl, rfl, H⟩
    · replace H := H.2 (h)
      refine ev_ex 1 (c' := (33, [some (.ref 129), some (.ref a0), some (.int l2), some (.int l3), some (.int l4)], [.int 0], hX c T)) rfl ?_
      exact ev_retB (x := false) rfl rfl ⟨_, _, rfl, rfl, H⟩
