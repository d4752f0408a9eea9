/-! written by wip/gen/vcx.py: what runs of the class ask -/
set_option maxRecDepth 8000 in
theorem wx_X_persuaded {c : CX} {d : Nat} {T : XS} {Q : Int32 → XS → Prop} {E : Nat → XS → Prop} (a0 : Int32) (H : XVt c d m_X_needWithin [.int a0, .int 0, .int 1] T (fun T1 => XO c d m_X_rowNow [.ref 1] T1 (fun v3 T2 => (v3 = some 129 ∧ XI c d m_Rw_fewestPersuaded [.ref 129, .ref 93] T2 (fun v5 T4 => ((¬ a0 = 0 → Q v5 T4) ∧ (a0 = 0 → Q (bcI v5) T4)))))) E) : XIt c (d + 1) m_X_persuaded [.ref 1, .int a0] T Q E := by
  refine ⟨q_X_persuaded, rfl, Nat.le_of_ble_eq_true rfl, ?_⟩
  refine ev_ex 0 (c' := (0, [some (.ref 1), some (.int a0), none], [], hX c T)) rfl ?_
  refine ev_ex 3 (c' := (3, [some (.ref 1), some (.int a0), none], [.int 1, .int 0, .int a0], hX c T)) rfl ?_
  refine xt_V (idx := 113) rfl rfl rfl (Nat.le_of_ble_eq_true rfl) (Nat.le_of_ble_eq_true rfl) rfl rfl rfl rfl rfl (by decide) H (fun T1 H => ?_)
  refine ev_ex 1 (c' := (7, [some (.ref 1), some (.int a0), none], [.ref 1], hX c T1)) rfl ?_
  refine xc_O (idx := 255) rfl rfl rfl (Nat.le_of_ble_eq_true rfl) (Nat.le_of_ble_eq_true rfl) (x_rcv (T := T1) (ob_lit (i := 0) rfl (by decide) rfl) ⟨by decide, by decide⟩ _ _) H (fun v3 T2 H => ?_)
  obtain ⟨rfl, H⟩ := H
  refine ev_ex 0 (c' := (10, [some (.ref 1), some (.int a0), none], [.ref 129], hX c T2)) rfl ?_
  refine ev_ex 1 (c' := (11, [some (.ref 1), some (.int a0), none], [.ref 1, .ref 129], hX c T2)) rfl ?_
  refine xe_gf (ci := 12) (k := 5) rfl rfl (ob_lit (i := 0) rfl (by decide) rfl) ⟨by decide, by decide⟩ (v := .ref 49) rfl ?_
  refine xe_gf (ci := 4) (k := 0) rfl rfl (ob_lit (i := 12) rfl (by decide) rfl) ⟨by decide, by decide⟩ (v := .ref 93) rfl ?_
  refine xc_I (idx := 286) rfl rfl rfl (Nat.le_of_ble_eq_true rfl) (Nat.le_of_ble_eq_true rfl) (x_rcv (T := T2) (ob_lit (i := 32) rfl (by decide) rfl) ⟨by decide, by decide⟩ _ _) H (fun v5 T4 H => ?_)
  refine ev_ex 2 (c' := (22, [some (.ref 1), some (.int a0), some (.int v5)], [.int a0], hX c T4)) rfl ?_
  refine ev_if_ne (tgt := 32) rfl rfl (fun h => ?_) (fun h => ?_)
  · replace H := H.1 (h)
    refine ev_ex 1 (c' := (33, [some (.ref 1), some (.int a0), some (.int v5)], [.int v5], hX c T4)) rfl ?_
    exact ev_ret rfl rfl rfl (Or.inl ⟨_, _, rfl, rfl, H⟩)
  · replace H := H.2 (h)
    refine ev_ex 1 (c' := (26, [some (.ref 1), some (.int a0), some (.int v5)], [.int v5], hX c T4)) rfl ?_
    refine xq_I (idx := 184) (V := bcI v5) (S := T4) rfl rfl rfl (Nat.le_of_ble_eq_true rfl) (Nat.le_of_ble_eq_true rfl) rfl (zx_JI_bitCount ⟨rfl, rfl⟩) ?_
    refine ev_ex 1 (c' := (33, [some (.ref 1), some (.int a0), some (.int v5)], [.int (bcI v5)], hX c T4)) rfl ?_
    exact ev_ret rfl rfl rfl (Or.inl ⟨_, _, rfl, rfl, H⟩)
set_option maxRecDepth 8000 in
theorem wx_X_peace {c : CX} {d : Nat} {T : XS} {Q : Int32 → XS → Prop} {E : Nat → XS → Prop} (a0 : Int32) (H : XVt c d m_X_needWithin [.int a0, .int 0, .int 1] T (fun T1 => XO c d m_X_rowNow [.ref 1] T1 (fun v3 T2 => (v3 = some 129 ∧ eX c (d + 1) m_X_peace 16 [some (.ref 1), some (.int a0), some (.ref 129), some (.int 0), some (.int 0)] T2 (yt c E (yI c Q))))) E) : XIt c (d + 1) m_X_peace [.ref 1, .int a0] T Q E := by
  refine ⟨q_X_peace, rfl, Nat.le_of_ble_eq_true rfl, ?_⟩
  refine ev_ex 0 (c' := (0, [some (.ref 1), some (.int a0), none, none, none], [], hX c T)) rfl ?_
  refine ev_ex 3 (c' := (3, [some (.ref 1), some (.int a0), none, none, none], [.int 1, .int 0, .int a0], hX c T)) rfl ?_
  refine xt_V (idx := 113) rfl rfl rfl (Nat.le_of_ble_eq_true rfl) (Nat.le_of_ble_eq_true rfl) rfl rfl rfl rfl rfl (by decide) H (fun T1 H => ?_)
  refine ev_ex 1 (c' := (7, [some (.ref 1), some (.int a0), none, none, none], [.ref 1], hX c T1)) rfl ?_
  refine xc_O (idx := 255) rfl rfl rfl (Nat.le_of_ble_eq_true rfl) (Nat.le_of_ble_eq_true rfl) (x_rcv (T := T1) (ob_lit (i := 0) rfl (by decide) rfl) ⟨by decide, by decide⟩ _ _) H (fun v3 T2 H => ?_)
  obtain ⟨rfl, H⟩ := H
  refine ev_ex 0 (c' := (10, [some (.ref 1), some (.int a0), none, none, none], [.ref 129], hX c T2)) rfl ?_
  refine ev_ex 5 (c' := (16, [some (.ref 1), some (.int a0), some (.ref 129), some (.int 0), some (.int 0)], [], hX c T2)) rfl ?_
  exact H
set_option maxRecDepth 8000 in
theorem wx_X_peace_16 {c : CX} {d : Nat} {T : XS} {Q : Int32 → XS → Prop} {E : Nat → XS → Prop} (l1 : Int32) (l3 : Int32) (l4 : Int32) (H : (((xI T 129 0) ≤ l4 → ((¬ l1 = 0 → Q l3 T) ∧ (l1 = 0 → Q (bcI l3) T))) ∧ (¬ (xI T 129 0) ≤ l4 → (okx l4 10 ∧ XI c d m_X_leastOf [.int (xA T 137 (ix l4))] T (fun v52 T51 => ((¬ v52 = l4 → eX c (d + 1) m_X_peace 16 [some (.ref 1), some (.int l1), some (.ref 129), some (.int l3), some (.int (l4 + 1))] T51 (yt c E (yI c Q))) ∧ (v52 = l4 → eX c (d + 1) m_X_peace 16 [some (.ref 1), some (.int l1), some (.ref 129), some (.int (l3 ||| ((1 : Int32) <<< (l4 &&& 31)))), some (.int (l4 + 1))] T51 (yt c E (yI c Q))))))))) : eX c (d + 1) m_X_peace 16 [some (.ref 1), some (.int l1), some (.ref 129), some (.int l3), some (.int l4)] T (yt c E (yI c Q)) := by
  unfold eX
  refine ev_ex 0 (c' := (16, [some (.ref 1), some (.int l1), some (.ref 129), some (.int l3), some (.int l4)], [], hX c T)) rfl ?_
  refine ev_ex 2 (c' := (19, [some (.ref 1), some (.int l1), some (.ref 129), some (.int l3), some (.int l4)], [.ref 129, .int l4], hX c T)) rfl ?_
  refine xe_gf (ci := 8) (k := 0) rfl rfl (ob_lit (i := 32) rfl (by decide) rfl) ⟨by decide, by decide⟩ (v := .int (xI T 129 0)) rfl ?_
  refine ev_icmp_ge (tgt := 53) rfl rfl (fun h => ?_) (fun h => ?_)
  · replace H := H.1 (h)
    refine ev_ex 1 (c' := (54, [some (.ref 1), some (.int l1), some (.ref 129), some (.int l3), some (.int l4)], [.int l1], hX c T)) rfl ?_
    refine ev_if_ne (tgt := 64) rfl rfl (fun h => ?_) (fun h => ?_)
    · replace H := H.1 (h)
      refine ev_ex 1 (c' := (65, [some (.ref 1), some (.int l1), some (.ref 129), some (.int l3), some (.int l4)], [.int l3], hX c T)) rfl ?_
      exact ev_ret rfl rfl rfl (Or.inl ⟨_, _, rfl, rfl, H⟩)
    · replace H := H.2 (h)
      refine ev_ex 1 (c' := (58, [some (.ref 1), some (.int l1), some (.ref 129), some (.int l3), some (.int l4)], [.int l3], hX c T)) rfl ?_
      refine xq_I (idx := 184) (V := bcI l3) (S := T) rfl rfl rfl (Nat.le_of_ble_eq_true rfl) (Nat.le_of_ble_eq_true rfl) rfl (zx_JI_bitCount ⟨rfl, rfl⟩) ?_
      refine ev_ex 1 (c' := (65, [some (.ref 1), some (.int l1), some (.ref 129), some (.int l3), some (.int l4)], [.int (bcI l3)], hX c T)) rfl ?_
      exact ev_ret rfl rfl rfl (Or.inl ⟨_, _, rfl, rfl, H⟩)
  · replace H := H.2 (h)
    refine ev_ex 1 (c' := (26, [some (.ref 1), some (.int l1), some (.ref 129), some (.int l3), some (.int l4)], [.ref 129], hX c T)) rfl ?_
    refine xe_gf (ci := 8) (k := 6) rfl rfl (ob_lit (i := 32) rfl (by decide) rfl) ⟨by decide, by decide⟩ (v := .ref 137) rfl ?_
    refine ev_ex 1 (c' := (31, [some (.ref 1), some (.int l1), some (.ref 129), some (.int l3), some (.int l4)], [.int l4, .ref 137], hX c T)) rfl ?_
    obtain ⟨H0, H⟩ := H
    refine xe_al rfl (ar_lit (i := 34) rfl (by decide) rfl) H0 ?_
    refine ev_ex 0 (c' := (32, [some (.ref 1), some (.int l1), some (.ref 129), some (.int l3), some (.int l4)], [.int (xA T 137 (ix l4))], hX c T)) rfl ?_
    refine xc_I (idx := 263) rfl rfl rfl (Nat.le_of_ble_eq_true rfl) (Nat.le_of_ble_eq_true rfl) rfl H (fun v52 T51 H => ?_)
    refine ev_ex 1 (c' := (37, [some (.ref 1), some (.int l1), some (.ref 129), some (.int l3), some (.int l4)], [.int l4, .int v52], hX c T51)) rfl ?_
    refine ev_icmp_ne (tgt := 47) rfl rfl (fun h => ?_) (fun h => ?_)
    · replace H := H.1 (h)
      refine ev_ex 2 (c' := (16, [some (.ref 1), some (.int l1), some (.ref 129), some (.int l3), some (.int (l4 + 1))], [], hX c T51)) rfl ?_
      exact H
    · replace H := H.2 (h)
      refine ev_ex 8 (c' := (16, [some (.ref 1), some (.int l1), some (.ref 129), some (.int (l3 ||| ((1 : Int32) <<< (l4 &&& 31)))), some (.int (l4 + 1))], [], hX c T51)) rfl ?_
      exact H
set_option maxRecDepth 8000 in
theorem wx_X_below {c : CX} {d : Nat} {T : XS} {Q : Int32 → XS → Prop} {E : Nat → XS → Prop} (a0 : Int32) (H : XVt c d m_X_needGuild [.ref 1, .int a0] T (fun T1 => eX c (d + 1) m_X_below 12 [some (.ref 1), some (.int a0), some (.int 0), some (.int a0), some (.int 0)] T1 (yt c E (yI c Q))) E) : XIt c (d + 1) m_X_below [.ref 1, .int a0] T Q E := by
  refine ⟨q_X_below, rfl, Nat.le_of_ble_eq_true rfl, ?_⟩
  refine ev_ex 0 (c' := (0, [some (.ref 1), some (.int a0), none, none, none], [], hX c T)) rfl ?_
  refine ev_ex 2 (c' := (2, [some (.ref 1), some (.int a0), none, none, none], [.int a0, .ref 1], hX c T)) rfl ?_
  refine xt_V (idx := 110) rfl rfl rfl (Nat.le_of_ble_eq_true rfl) (Nat.le_of_ble_eq_true rfl) (x_rcv (T := T) (ob_lit (i := 0) rfl (by decide) rfl) ⟨by decide, by decide⟩ _ _) rfl rfl rfl rfl (by decide) H (fun T1 H => ?_)
  refine ev_ex 6 (c' := (12, [some (.ref 1), some (.int a0), some (.int 0), some (.int a0), some (.int 0)], [], hX c T1)) rfl ?_
  exact H
set_option maxRecDepth 8000 in
theorem wx_X_below_12 {c : CX} {d : Nat} {T : XS} {Q : Int32 → XS → Prop} {E : Nat → XS → Prop} (l1 : Int32) (l2 : Int32) (l3 : Int32) (l4 : Int32) (H : ((10 ≤ l4 → Q (bcI (l2 &&& (((1 : Int32) <<< (l1 &&& 31)) ^^^ ((-1))))) T) ∧ (¬ 10 ≤ l4 → (((one l3) = false → Q (bcI (l2 &&& (((1 : Int32) <<< (l1 &&& 31)) ^^^ ((-1))))) T) ∧ ((one l3) = true → (okx l3 10 ∧ (((one (xA T 97 (ix l3))) = false → eX c (d + 1) m_X_below 12 [some (.ref 1), some (.int l1), some (.int l2), some (.int (xA T 97 (ix l3))), some (.int (l4 + 1))] T (yt c E (yI c Q))) ∧ ((one (xA T 97 (ix l3))) = true → eX c (d + 1) m_X_below 12 [some (.ref 1), some (.int l1), some (.int (l2 ||| ((1 : Int32) <<< ((xA T 97 (ix l3)) &&& 31)))), some (.int (xA T 97 (ix l3))), some (.int (l4 + 1))] T (yt c E (yI c Q)))))))))) : eX c (d + 1) m_X_below 12 [some (.ref 1), some (.int l1), some (.int l2), some (.int l3), some (.int l4)] T (yt c E (yI c Q)) := by
  unfold eX
  refine ev_ex 0 (c' := (12, [some (.ref 1), some (.int l1), some (.int l2), some (.int l3), some (.int l4)], [], hX c T)) rfl ?_
  refine ev_ex 2 (c' := (16, [some (.ref 1), some (.int l1), some (.int l2), some (.int l3), some (.int l4)], [.int 10, .int l4], hX c T)) rfl ?_
  refine ev_icmp_ge (tgt := 58) rfl rfl (fun h => ?_) (fun h => ?_)
  · replace H := H.1 (h)
    refine ev_ex 7 (c' := (65, [some (.ref 1), some (.int l1), some (.int l2), some (.int l3), some (.int l4)], [.int (l2 &&& (((1 : Int32) <<< (l1 &&& 31)) ^^^ ((-1))))], hX c T)) rfl ?_
    refine xq_I (idx := 184) (V := bcI (l2 &&& (((1 : Int32) <<< (l1 &&& 31)) ^^^ ((-1))))) (S := T) rfl rfl rfl (Nat.le_of_ble_eq_true rfl) (Nat.le_of_ble_eq_true rfl) rfl (zx_JI_bitCount ⟨rfl, rfl⟩) ?_
    exact ev_ret rfl rfl rfl (Or.inl ⟨_, _, rfl, rfl, H⟩)
  · replace H := H.2 (h)
    refine ev_ex 1 (c' := (20, [some (.ref 1), some (.int l1), some (.int l2), some (.int l3), some (.int l4)], [.int l3], hX c T)) rfl ?_
    refine xq_B (idx := 290) (V := one l3) (S := T) rfl rfl rfl (Nat.le_of_ble_eq_true rfl) (Nat.le_of_ble_eq_true rfl) rfl (zx_X_isOne ⟨rfl, rfl⟩) ?_
    refine ev_if_eqB (x := (one l3)) (tgt := 58) rfl rfl (fun h => ?_) (fun h => ?_)
    · replace H := H.1 (h)
      refine ev_ex 7 (c' := (65, [some (.ref 1), some (.int l1), some (.int l2), some (.int l3), some (.int l4)], [.int (l2 &&& (((1 : Int32) <<< (l1 &&& 31)) ^^^ ((-1))))], hX c T)) rfl ?_
      refine xq_I (idx := 184) (V := bcI (l2 &&& (((1 : Int32) <<< (l1 &&& 31)) ^^^ ((-1))))) (S := T) rfl rfl rfl (Nat.le_of_ble_eq_true rfl) (Nat.le_of_ble_eq_true rfl) rfl (zx_JI_bitCount ⟨rfl, rfl⟩) ?_
      exact ev_ret rfl rfl rfl (Or.inl ⟨_, _, rfl, rfl, H⟩)
    · replace H := H.2 (h)
      refine ev_ex 1 (c' := (27, [some (.ref 1), some (.int l1), some (.int l2), some (.int l3), some (.int l4)], [.ref 1], hX c T)) rfl ?_
      refine xe_gf (ci := 12) (k := 5) rfl rfl (ob_lit (i := 0) rfl (by decide) rfl) ⟨by decide, by decide⟩ (v := .ref 49) rfl ?_
      refine xe_gf (ci := 4) (k := 0) rfl rfl (ob_lit (i := 12) rfl (by decide) rfl) ⟨by decide, by decide⟩ (v := .ref 93) rfl ?_
      refine xe_gf (ci := 9) (k := 1) rfl rfl (ob_lit (i := 23) rfl (by decide) rfl) ⟨by decide, by decide⟩ (v := .ref 97) rfl ?_
      refine ev_ex 1 (c' := (37, [some (.ref 1), some (.int l1), some (.int l2), some (.int l3), some (.int l4)], [.int l3, .ref 97], hX c T)) rfl ?_
      obtain ⟨H0, H⟩ := H
      refine xe_al rfl (ar_lit (i := 24) rfl (by decide) rfl) H0 ?_
      refine ev_ex 0 (c' := (38, [some (.ref 1), some (.int l1), some (.int l2), some (.int l3), some (.int l4)], [.int (xA T 97 (ix l3))], hX c T)) rfl ?_
      refine ev_ex 2 (c' := (40, [some (.ref 1), some (.int l1), some (.int l2), some (.int (xA T 97 (ix l3))), some (.int l4)], [.int (xA T 97 (ix l3))], hX c T)) rfl ?_
      refine xq_B (idx := 290) (V := one (xA T 97 (ix l3))) (S := T) rfl rfl rfl (Nat.le_of_ble_eq_true rfl) (Nat.le_of_ble_eq_true rfl) rfl (zx_X_isOne ⟨rfl, rfl⟩) ?_
      refine ev_if_eqB (x := (one (xA T 97 (ix l3)))) (tgt := 52) rfl rfl (fun h => ?_) (fun h => ?_)
      · replace H := H.1 (h)
        refine ev_ex 2 (c' := (12, [some (.ref 1), some (.int l1), some (.int l2), some (.int (xA T 97 (ix l3))), some (.int (l4 + 1))], [], hX c T)) rfl ?_
        exact H
      · replace H := H.2 (h)
        refine ev_ex 8 (c' := (12, [some (.ref 1), some (.int l1), some (.int (l2 ||| ((1 : Int32) <<< ((xA T 97 (ix l3)) &&& 31)))), some (.int (xA T 97 (ix l3))), some (.int (l4 + 1))], [], hX c T)) rfl ?_
        exact H
set_option maxRecDepth 8000 in
theorem wx_X_cakesOf {c : CX} {d : Nat} {T : XS} {Q : Int32 → XS → Prop} {E : Nat → XS → Prop} (a0 : Int32) (H : XVt c d m_X_needGuild [.ref 1, .int a0] T (fun T1 => (okx a0 10 ∧ XO c d m_X_rowNow [.ref 1] T1 (fun v3 T2 => (v3 = some 129 ∧ (okx a0 10 ∧ ((¬ (xA T2 141 (ix a0)) = ((-1)) → Q ((bcI (xA T1 101 (ix a0))) - 1) T2) ∧ ((xA T2 141 (ix a0)) = ((-1)) → Q (bcI (xA T1 101 (ix a0))) T2))))))) E) : XIt c (d + 1) m_X_cakesOf [.ref 1, .int a0] T Q E := by
  refine ⟨q_X_cakesOf, rfl, Nat.le_of_ble_eq_true rfl, ?_⟩
  refine ev_ex 0 (c' := (0, [some (.ref 1), some (.int a0), none], [], hX c T)) rfl ?_
  refine ev_ex 2 (c' := (2, [some (.ref 1), some (.int a0), none], [.int a0, .ref 1], hX c T)) rfl ?_
  refine xt_V (idx := 110) rfl rfl rfl (Nat.le_of_ble_eq_true rfl) (Nat.le_of_ble_eq_true rfl) (x_rcv (T := T) (ob_lit (i := 0) rfl (by decide) rfl) ⟨by decide, by decide⟩ _ _) rfl rfl rfl rfl (by decide) H (fun T1 H => ?_)
  refine ev_ex 1 (c' := (6, [some (.ref 1), some (.int a0), none], [.ref 1], hX c T1)) rfl ?_
  refine xe_gf (ci := 12) (k := 5) rfl rfl (ob_lit (i := 0) rfl (by decide) rfl) ⟨by decide, by decide⟩ (v := .ref 49) rfl ?_
  refine xe_gf (ci := 4) (k := 0) rfl rfl (ob_lit (i := 12) rfl (by decide) rfl) ⟨by decide, by decide⟩ (v := .ref 93) rfl ?_
  refine xe_gf (ci := 9) (k := 2) rfl rfl (ob_lit (i := 23) rfl (by decide) rfl) ⟨by decide, by decide⟩ (v := .ref 101) rfl ?_
  refine ev_ex 1 (c' := (16, [some (.ref 1), some (.int a0), none], [.int a0, .ref 101], hX c T1)) rfl ?_
  obtain ⟨H0, H⟩ := H
  refine xe_al rfl (ar_lit (i := 25) rfl (by decide) rfl) H0 ?_
  refine ev_ex 0 (c' := (17, [some (.ref 1), some (.int a0), none], [.int (xA T1 101 (ix a0))], hX c T1)) rfl ?_
  refine xq_I (idx := 184) (V := bcI (xA T1 101 (ix a0))) (S := T1) rfl rfl rfl (Nat.le_of_ble_eq_true rfl) (Nat.le_of_ble_eq_true rfl) rfl (zx_JI_bitCount ⟨rfl, rfl⟩) ?_
  refine ev_ex 2 (c' := (22, [some (.ref 1), some (.int a0), some (.int (bcI (xA T1 101 (ix a0))))], [.ref 1], hX c T1)) rfl ?_
  refine xc_O (idx := 255) rfl rfl rfl (Nat.le_of_ble_eq_true rfl) (Nat.le_of_ble_eq_true rfl) (x_rcv (T := T1) (ob_lit (i := 0) rfl (by decide) rfl) ⟨by decide, by decide⟩ _ _) H (fun v3 T2 H => ?_)
  obtain ⟨rfl, H⟩ := H
  refine ev_ex 0 (c' := (25, [some (.ref 1), some (.int a0), some (.int (bcI (xA T1 101 (ix a0))))], [.ref 129], hX c T2)) rfl ?_
  refine xe_gf (ci := 8) (k := 7) rfl rfl (ob_lit (i := 32) rfl (by decide) rfl) ⟨by decide, by decide⟩ (v := .ref 141) rfl ?_
  refine ev_ex 1 (c' := (29, [some (.ref 1), some (.int a0), some (.int (bcI (xA T1 101 (ix a0))))], [.int a0, .ref 141], hX c T2)) rfl ?_
  obtain ⟨H0, H⟩ := H
  refine xe_al rfl (ar_lit (i := 35) rfl (by decide) rfl) H0 ?_
  refine ev_ex 0 (c' := (30, [some (.ref 1), some (.int a0), some (.int (bcI (xA T1 101 (ix a0))))], [.int (xA T2 141 (ix a0))], hX c T2)) rfl ?_
  refine ev_ex 1 (c' := (31, [some (.ref 1), some (.int a0), some (.int (bcI (xA T1 101 (ix a0))))], [.int ((-1)), .int (xA T2 141 (ix a0))], hX c T2)) rfl ?_
  refine ev_icmp_ne (tgt := 38) rfl rfl (fun h => ?_) (fun h => ?_)
  · replace H := H.1 (h)
    refine ev_ex 3 (c' := (41, [some (.ref 1), some (.int a0), some (.int (bcI (xA T1 101 (ix a0))))], [.int ((bcI (xA T1 101 (ix a0))) - 1)], hX c T2)) rfl ?_
    exact ev_ret rfl rfl rfl (Or.inl ⟨_, _, rfl, rfl, H⟩)
  · replace H := H.2 (h)
    refine ev_ex 2 (c' := (41, [some (.ref 1), some (.int a0), some (.int (bcI (xA T1 101 (ix a0))))], [.int (bcI (xA T1 101 (ix a0)))], hX c T2)) rfl ?_
    exact ev_ret rfl rfl rfl (Or.inl ⟨_, _, rfl, rfl, H⟩)
set_option maxRecDepth 8000 in
theorem wx_X_chainOf {c : CX} {d : Nat} {T : XS} {Q : Int32 → XS → Prop} {E : Nat → XS → Prop} (a0 : Int32) (H : XVt c d m_X_needGuild [.ref 1, .int a0] T (fun T1 => XO c d m_X_rowNow [.ref 1] T1 (fun v3 T2 => (v3 = some 129 ∧ (okx a0 10 ∧ Q (xA T2 153 (ix a0)) T2)))) E) : XIt c (d + 1) m_X_chainOf [.ref 1, .int a0] T Q E := by
  refine ⟨q_X_chainOf, rfl, Nat.le_of_ble_eq_true rfl, ?_⟩
  refine ev_ex 0 (c' := (0, [some (.ref 1), some (.int a0)], [], hX c T)) rfl ?_
  refine ev_ex 2 (c' := (2, [some (.ref 1), some (.int a0)], [.int a0, .ref 1], hX c T)) rfl ?_
  refine xt_V (idx := 110) rfl rfl rfl (Nat.le_of_ble_eq_true rfl) (Nat.le_of_ble_eq_true rfl) (x_rcv (T := T) (ob_lit (i := 0) rfl (by decide) rfl) ⟨by decide, by decide⟩ _ _) rfl rfl rfl rfl (by decide) H (fun T1 H => ?_)
  refine ev_ex 1 (c' := (6, [some (.ref 1), some (.int a0)], [.ref 1], hX c T1)) rfl ?_
  refine xc_O (idx := 255) rfl rfl rfl (Nat.le_of_ble_eq_true rfl) (Nat.le_of_ble_eq_true rfl) (x_rcv (T := T1) (ob_lit (i := 0) rfl (by decide) rfl) ⟨by decide, by decide⟩ _ _) H (fun v3 T2 H => ?_)
  obtain ⟨rfl, H⟩ := H
  refine ev_ex 0 (c' := (9, [some (.ref 1), some (.int a0)], [.ref 129], hX c T2)) rfl ?_
  refine xe_gf (ci := 8) (k := 10) rfl rfl (ob_lit (i := 32) rfl (by decide) rfl) ⟨by decide, by decide⟩ (v := .ref 153) rfl ?_
  refine ev_ex 1 (c' := (13, [some (.ref 1), some (.int a0)], [.int a0, .ref 153], hX c T2)) rfl ?_
  obtain ⟨H0, H⟩ := H
  refine xe_al rfl (ar_lit (i := 38) rfl (by decide) rfl) H0 ?_
  refine ev_ex 0 (c' := (14, [some (.ref 1), some (.int a0)], [.int (xA T2 153 (ix a0))], hX c T2)) rfl ?_
  exact ev_ret rfl rfl rfl (Or.inl ⟨_, _, rfl, rfl, H⟩)
set_option maxRecDepth 8000 in
theorem wx_X_freeFor {c : CX} {d : Nat} {T : XS} {Q : Int32 → XS → Prop} {E : Nat → XS → Prop} (a0 : Int32) (H : XVt c d m_X_needGuild [.ref 1, .int a0] T (fun T1 => XO c d m_X_rowNow [.ref 1] T1 (fun v3 T2 => (v3 = some 129 ∧ eX c (d + 1) m_X_freeFor 18 [some (.ref 1), some (.int a0), some (.int (xI T2 129 3)), some (.int 0), some (.int 0)] T2 (yt c E (yI c Q))))) E) : XIt c (d + 1) m_X_freeFor [.ref 1, .int a0] T Q E := by
  refine ⟨q_X_freeFor, rfl, Nat.le_of_ble_eq_true rfl, ?_⟩
  refine ev_ex 0 (c' := (0, [some (.ref 1), some (.int a0), none, none, none], [], hX c T)) rfl ?_
  refine ev_ex 2 (c' := (2, [some (.ref 1), some (.int a0), none, none, none], [.int a0, .ref 1], hX c T)) rfl ?_
  refine xt_V (idx := 110) rfl rfl rfl (Nat.le_of_ble_eq_true rfl) (Nat.le_of_ble_eq_true rfl) (x_rcv (T := T) (ob_lit (i := 0) rfl (by decide) rfl) ⟨by decide, by decide⟩ _ _) rfl rfl rfl rfl (by decide) H (fun T1 H => ?_)
  refine ev_ex 1 (c' := (6, [some (.ref 1), some (.int a0), none, none, none], [.ref 1], hX c T1)) rfl ?_
  refine xc_O (idx := 255) rfl rfl rfl (Nat.le_of_ble_eq_true rfl) (Nat.le_of_ble_eq_true rfl) (x_rcv (T := T1) (ob_lit (i := 0) rfl (by decide) rfl) ⟨by decide, by decide⟩ _ _) H (fun v3 T2 H => ?_)
  obtain ⟨rfl, H⟩ := H
  refine ev_ex 0 (c' := (9, [some (.ref 1), some (.int a0), none, none, none], [.ref 129], hX c T2)) rfl ?_
  refine xe_gf (ci := 8) (k := 3) rfl rfl (ob_lit (i := 32) rfl (by decide) rfl) ⟨by decide, by decide⟩ (v := .int (xI T2 129 3)) rfl ?_
  refine ev_ex 5 (c' := (18, [some (.ref 1), some (.int a0), some (.int (xI T2 129 3)), some (.int 0), some (.int 0)], [], hX c T2)) rfl ?_
  exact H
set_option maxRecDepth 8000 in
theorem wx_X_freeFor_18 {c : CX} {d : Nat} {T : XS} {Q : Int32 → XS → Prop} {E : Nat → XS → Prop} (l1 : Int32) (l2 : Int32) (l3 : Int32) (l4 : Int32) (H : (∃ b51 : Nat, frx T 93 0 = some b51 ∧ (CvS T b51 ∧ (((xI T b51 1) ≤ l4 → Q l3 T) ∧ (¬ (xI T b51 1) ≤ l4 → ((l4 = l1 → eX c (d + 1) m_X_freeFor 18 [some (.ref 1), some (.int l1), some (.int l2), some (.int l3), some (.int (l4 + 1))] T (yt c E (yI c Q))) ∧ (¬ l4 = l1 → XB c d m_Ct_allows [.ref 117, .ref 93, .int l1, .int l4] T (fun v55 T54 => ((v55 = false → eX c (d + 1) m_X_freeFor 18 [some (.ref 1), some (.int l1), some (.int l2), some (.int l3), some (.int (l4 + 1))] T54 (yt c E (yI c Q))) ∧ (v55 = true → XV c d m_Sd_copyFrom [.ref 173, .ref 93] T54 (fun T56 => XV c d m_Sd_turn [.ref 173, .int l1, .int l4] T56 (fun T57 => XO c d m_Rw_build [.ref 129, .ref 173] T57 (fun v59 T58 => (v59 = some 129 ∧ ((l2 < (xI T58 129 3) → eX c (d + 1) m_X_freeFor 18 [some (.ref 1), some (.int l1), some (.int l2), some (.int l3), some (.int (l4 + 1))] T58 (yt c E (yI c Q))) ∧ (¬ l2 < (xI T58 129 3) → eX c (d + 1) m_X_freeFor 18 [some (.ref 1), some (.int l1), some (.int l2), some (.int (l3 ||| ((1 : Int32) <<< (l4 &&& 31)))), some (.int (l4 + 1))] T58 (yt c E (yI c Q)))))))))))))))))) : eX c (d + 1) m_X_freeFor 18 [some (.ref 1), some (.int l1), some (.int l2), some (.int l3), some (.int l4)] T (yt c E (yI c Q)) := by
  unfold eX
  refine ev_ex 0 (c' := (18, [some (.ref 1), some (.int l1), some (.int l2), some (.int l3), some (.int l4)], [], hX c T)) rfl ?_
  refine ev_ex 2 (c' := (21, [some (.ref 1), some (.int l1), some (.int l2), some (.int l3), some (.int l4)], [.ref 1, .int l4], hX c T)) rfl ?_
  refine xe_gf (ci := 12) (k := 5) rfl rfl (ob_lit (i := 0) rfl (by decide) rfl) ⟨by decide, by decide⟩ (v := .ref 49) rfl ?_
  refine xe_gf (ci := 4) (k := 0) rfl rfl (ob_lit (i := 12) rfl (by decide) rfl) ⟨by decide, by decide⟩ (v := .ref 93) rfl ?_
  obtain ⟨b51, h52, H⟩ := H
  refine xe_gfr (ci := 9) (k := 0) rfl rfl (ob_lit (i := 23) rfl (by decide) rfl) ⟨by decide, by decide⟩ rfl h52 ?_
  obtain ⟨h53, H⟩ := H
  refine xe_gf (ci := 2) (k := 1) rfl rfl h53.1 ⟨by decide, by decide⟩ (v := .int (xI T b51 1)) rfl ?_
  refine ev_icmp_ge (tgt := 117) rfl rfl (fun h => ?_) (fun h => ?_)
  · replace H := H.1 (h)
    refine ev_ex 1 (c' := (118, [some (.ref 1), some (.int l1), some (.int l2), some (.int l3), some (.int l4)], [.int l3], hX c T)) rfl ?_
    exact ev_ret rfl rfl rfl (Or.inl ⟨_, _, rfl, rfl, H⟩)
  · replace H := H.2 (h)
    refine ev_ex 2 (c' := (39, [some (.ref 1), some (.int l1), some (.int l2), some (.int l3), some (.int l4)], [.int l1, .int l4], hX c T)) rfl ?_
    refine ev_icmp_eq (tgt := 111) rfl rfl (fun h => ?_) (fun h => ?_)
    · replace H := H.1 (h)
      refine ev_ex 2 (c' := (18, [some (.ref 1), some (.int l1), some (.int l2), some (.int l3), some (.int (l4 + 1))], [], hX c T)) rfl ?_
      exact H
    · replace H := H.2 (h)
      refine ev_ex 1 (c' := (43, [some (.ref 1), some (.int l1), some (.int l2), some (.int l3), some (.int l4)], [.ref 1], hX c T)) rfl ?_
      refine xe_gf (ci := 12) (k := 8) rfl rfl (ob_lit (i := 0) rfl (by decide) rfl) ⟨by decide, by decide⟩ (v := .ref 117) rfl ?_
      refine ev_ex 1 (c' := (47, [some (.ref 1), some (.int l1), some (.int l2), some (.int l3), some (.int l4)], [.ref 1, .ref 117], hX c T)) rfl ?_
      refine xe_gf (ci := 12) (k := 5) rfl rfl (ob_lit (i := 0) rfl (by decide) rfl) ⟨by decide, by decide⟩ (v := .ref 49) rfl ?_
      refine xe_gf (ci := 4) (k := 0) rfl rfl (ob_lit (i := 12) rfl (by decide) rfl) ⟨by decide, by decide⟩ (v := .ref 93) rfl ?_
      refine ev_ex 2 (c' := (56, [some (.ref 1), some (.int l1), some (.int l2), some (.int l3), some (.int l4)], [.int l4, .int l1, .ref 93, .ref 117], hX c T)) rfl ?_
      refine xc_B (idx := 150) rfl rfl rfl (Nat.le_of_ble_eq_true rfl) (Nat.le_of_ble_eq_true rfl) (x_rcv (T := T) (ob_lit (i := 29) rfl (by decide) rfl) ⟨by decide, by decide⟩ _ _) H (fun v55 T54 H => ?_)
      refine ev_if_eqB (x := v55) (tgt := 111) rfl rfl (fun h => ?_) (fun h => ?_)
      · replace H := H.1 (h)
        refine ev_ex 2 (c' := (18, [some (.ref 1), some (.int l1), some (.int l2), some (.int l3), some (.int (l4 + 1))], [], hX c T54)) rfl ?_
        exact H
      · replace H := H.2 (h)
        refine ev_ex 1 (c' := (63, [some (.ref 1), some (.int l1), some (.int l2), some (.int l3), some (.int l4)], [.ref 1], hX c T54)) rfl ?_
        refine xe_gf (ci := 12) (k := 11) rfl rfl (ob_lit (i := 0) rfl (by decide) rfl) ⟨by decide, by decide⟩ (v := .ref 173) rfl ?_
        refine ev_ex 1 (c' := (67, [some (.ref 1), some (.int l1), some (.int l2), some (.int l3), some (.int l4)], [.ref 1, .ref 173], hX c T54)) rfl ?_
        refine xe_gf (ci := 12) (k := 5) rfl rfl (ob_lit (i := 0) rfl (by decide) rfl) ⟨by decide, by decide⟩ (v := .ref 49) rfl ?_
        refine xe_gf (ci := 4) (k := 0) rfl rfl (ob_lit (i := 12) rfl (by decide) rfl) ⟨by decide, by decide⟩ (v := .ref 93) rfl ?_
        refine xc_V (idx := 190) rfl rfl rfl (Nat.le_of_ble_eq_true rfl) (Nat.le_of_ble_eq_true rfl) (x_rcv (T := T54) (ob_lit (i := 43) rfl (by decide) rfl) ⟨by decide, by decide⟩ _ _) H (fun T56 H => ?_)
        refine ev_ex 1 (c' := (77, [some (.ref 1), some (.int l1), some (.int l2), some (.int l3), some (.int l4)], [.ref 1], hX c T56)) rfl ?_
        refine xe_gf (ci := 12) (k := 11) rfl rfl (ob_lit (i := 0) rfl (by decide) rfl) ⟨by decide, by decide⟩ (v := .ref 173) rfl ?_
        refine ev_ex 2 (c' := (83, [some (.ref 1), some (.int l1), some (.int l2), some (.int l3), some (.int l4)], [.int l4, .int l1, .ref 173], hX c T56)) rfl ?_
        refine xc_V (idx := 181) rfl rfl rfl (Nat.le_of_ble_eq_true rfl) (Nat.le_of_ble_eq_true rfl) (x_rcv (T := T56) (ob_lit (i := 43) rfl (by decide) rfl) ⟨by decide, by decide⟩ _ _) H (fun T57 H => ?_)
        refine ev_ex 1 (c' := (87, [some (.ref 1), some (.int l1), some (.int l2), some (.int l3), some (.int l4)], [.ref 1], hX c T57)) rfl ?_
        refine xe_gf (ci := 12) (k := 9) rfl rfl (ob_lit (i := 0) rfl (by decide) rfl) ⟨by decide, by decide⟩ (v := .ref 129) rfl ?_
        refine ev_ex 1 (c' := (91, [some (.ref 1), some (.int l1), some (.int l2), some (.int l3), some (.int l4)], [.ref 1, .ref 129], hX c T57)) rfl ?_
        refine xe_gf (ci := 12) (k := 11) rfl rfl (ob_lit (i := 0) rfl (by decide) rfl) ⟨by decide, by decide⟩ (v := .ref 173) rfl ?_
        refine xc_O (idx := 226) rfl rfl rfl (Nat.le_of_ble_eq_true rfl) (Nat.le_of_ble_eq_true rfl) (x_rcv (T := T57) (ob_lit (i := 32) rfl (by decide) rfl) ⟨by decide, by decide⟩ _ _) H (fun v59 T58 H => ?_)
        obtain ⟨rfl, H⟩ := H
        refine ev_ex 0 (c' := (97, [some (.ref 1), some (.int l1), some (.int l2), some (.int l3), some (.int l4)], [.ref 129], hX c T58)) rfl ?_
        refine xe_gf (ci := 8) (k := 3) rfl rfl (ob_lit (i := 32) rfl (by decide) rfl) ⟨by decide, by decide⟩ (v := .int (xI T58 129 3)) rfl ?_
        refine ev_ex 1 (c' := (101, [some (.ref 1), some (.int l1), some (.int l2), some (.int l3), some (.int l4)], [.int l2, .int (xI T58 129 3)], hX c T58)) rfl ?_
        refine ev_icmp_gt (tgt := 111) rfl rfl (fun h => ?_) (fun h => ?_)
        · replace H := H.1 (h)
          refine ev_ex 2 (c' := (18, [some (.ref 1), some (.int l1), some (.int l2), some (.int l3), some (.int (l4 + 1))], [], hX c T58)) rfl ?_
          exact H
        · replace H := H.2 (h)
          refine ev_ex 8 (c' := (18, [some (.ref 1), some (.int l1), some (.int l2), some (.int (l3 ||| ((1 : Int32) <<< (l4 &&& 31)))), some (.int (l4 + 1))], [], hX c T58)) rfl ?_
          exact H
set_option maxRecDepth 8000 in
theorem wx_X_at {c : CX} {d : Nat} {T : XS} {Q : Int32 → XS → Prop} {E : Nat → XS → Prop} (hR : c.2.2.2.1.length = 18) (a0 : Int32) (a1 : Int32) (H : XVt c d m_X_needGuild [.ref 1, .int a0] T (fun T1 => ((0 ≤ a1 → XO c d m_X_rowNow [.ref 1] T1 (fun v3 T2 => (v3 = some 129 ∧ (∃ b4 : Nat, frx T2 93 0 = some b4 ∧ XI c d m_Rw_stepAt [.ref 129, .ref b4, .int a0, .int a1] T2 (fun v7 T6 => Q v7 T6))))) ∧ (¬ 0 ≤ a1 → E 1 (tN T1 0 0 6)))) E) : XIt c (d + 1) m_X_at [.ref 1, .int a0, .int a1] T Q E := by
  refine ⟨q_X_at, rfl, Nat.le_of_ble_eq_true rfl, ?_⟩
  refine ev_ex 0 (c' := (0, [some (.ref 1), some (.int a0), some (.int a1)], [], hX c T)) rfl ?_
  refine ev_ex 2 (c' := (2, [some (.ref 1), some (.int a0), some (.int a1)], [.int a0, .ref 1], hX c T)) rfl ?_
  refine xt_V (idx := 110) rfl rfl rfl (Nat.le_of_ble_eq_true rfl) (Nat.le_of_ble_eq_true rfl) (x_rcv (T := T) (ob_lit (i := 0) rfl (by decide) rfl) ⟨by decide, by decide⟩ _ _) rfl rfl rfl rfl (by decide) H (fun T1 H => ?_)
  refine ev_ex 1 (c' := (6, [some (.ref 1), some (.int a0), some (.int a1)], [.int a1], hX c T1)) rfl ?_
  refine ev_if_ge (tgt := 20) rfl rfl (fun h => ?_) (fun h => ?_)
  · replace H := H.1 (h)
    refine ev_ex 1 (c' := (21, [some (.ref 1), some (.int a0), some (.int a1)], [.ref 1], hX c T1)) rfl ?_
    refine xc_O (idx := 255) rfl rfl rfl (Nat.le_of_ble_eq_true rfl) (Nat.le_of_ble_eq_true rfl) (x_rcv (T := T1) (ob_lit (i := 0) rfl (by decide) rfl) ⟨by decide, by decide⟩ _ _) H (fun v3 T2 H => ?_)
    obtain ⟨rfl, H⟩ := H
    refine ev_ex 0 (c' := (24, [some (.ref 1), some (.int a0), some (.int a1)], [.ref 129], hX c T2)) rfl ?_
    refine ev_ex 1 (c' := (25, [some (.ref 1), some (.int a0), some (.int a1)], [.ref 1, .ref 129], hX c T2)) rfl ?_
    refine xe_gf (ci := 12) (k := 5) rfl rfl (ob_lit (i := 0) rfl (by decide) rfl) ⟨by decide, by decide⟩ (v := .ref 49) rfl ?_
    refine xe_gf (ci := 4) (k := 0) rfl rfl (ob_lit (i := 12) rfl (by decide) rfl) ⟨by decide, by decide⟩ (v := .ref 93) rfl ?_
    obtain ⟨b4, h5, H⟩ := H
    refine xe_gfr (ci := 9) (k := 0) rfl rfl (ob_lit (i := 23) rfl (by decide) rfl) ⟨by decide, by decide⟩ rfl h5 ?_
    refine ev_ex 2 (c' := (36, [some (.ref 1), some (.int a0), some (.int a1)], [.int a1, .int a0, .ref b4, .ref 129], hX c T2)) rfl ?_
    refine xc_I (idx := 308) rfl rfl rfl (Nat.le_of_ble_eq_true rfl) (Nat.le_of_ble_eq_true rfl) (x_rcv (T := T2) (ob_lit (i := 32) rfl (by decide) rfl) ⟨by decide, by decide⟩ _ _) H (fun v7 T6 H => ?_)
    exact ev_ret rfl rfl rfl (Or.inl ⟨_, _, rfl, rfl, H⟩)
  · replace H := H.2 (h)
    exact xe_thr hR rfl rfl (Nat.le_of_ble_eq_true rfl) (Or.inr ⟨_, _, rfl, rfl, H⟩)
set_option maxRecDepth 8000 in
theorem wx_X_arrives {c : CX} {d : Nat} {T : XS} {Q : Int32 → XS → Prop} {E : Nat → XS → Prop} (a0 : Int32) (H : XVt c d m_X_needGuild [.ref 1, .int a0] T (fun T1 => XO c d m_X_rowNow [.ref 1] T1 (fun v3 T2 => (v3 = some 129 ∧ (okx a0 10 ∧ (∃ b4 : Nat, frx T2 93 0 = some b4 ∧ (CvS T2 b4 ∧ XI c d m_Cv_steps [.ref b4] T2 (fun v8 T7 => Q ((xA T2 149 (ix a0)) + v8) T7))))))) E) : XIt c (d + 1) m_X_arrives [.ref 1, .int a0] T Q E := by
  refine ⟨q_X_arrives, rfl, Nat.le_of_ble_eq_true rfl, ?_⟩
  refine ev_ex 0 (c' := (0, [some (.ref 1), some (.int a0)], [], hX c T)) rfl ?_
  refine ev_ex 2 (c' := (2, [some (.ref 1), some (.int a0)], [.int a0, .ref 1], hX c T)) rfl ?_
  refine xt_V (idx := 110) rfl rfl rfl (Nat.le_of_ble_eq_true rfl) (Nat.le_of_ble_eq_true rfl) (x_rcv (T := T) (ob_lit (i := 0) rfl (by decide) rfl) ⟨by decide, by decide⟩ _ _) rfl rfl rfl rfl (by decide) H (fun T1 H => ?_)
  refine ev_ex 1 (c' := (6, [some (.ref 1), some (.int a0)], [.ref 1], hX c T1)) rfl ?_
  refine xc_O (idx := 255) rfl rfl rfl (Nat.le_of_ble_eq_true rfl) (Nat.le_of_ble_eq_true rfl) (x_rcv (T := T1) (ob_lit (i := 0) rfl (by decide) rfl) ⟨by decide, by decide⟩ _ _) H (fun v3 T2 H => ?_)
  obtain ⟨rfl, H⟩ := H
  refine ev_ex 0 (c' := (9, [some (.ref 1), some (.int a0)], [.ref 129], hX c T2)) rfl ?_
  refine xe_gf (ci := 8) (k := 9) rfl rfl (ob_lit (i := 32) rfl (by decide) rfl) ⟨by decide, by decide⟩ (v := .ref 149) rfl ?_
  refine ev_ex 1 (c' := (13, [some (.ref 1), some (.int a0)], [.int a0, .ref 149], hX c T2)) rfl ?_
  obtain ⟨H0, H⟩ := H
  refine xe_al rfl (ar_lit (i := 37) rfl (by decide) rfl) H0 ?_
  refine ev_ex 0 (c' := (14, [some (.ref 1), some (.int a0)], [.int (xA T2 149 (ix a0))], hX c T2)) rfl ?_
  refine ev_ex 1 (c' := (15, [some (.ref 1), some (.int a0)], [.ref 1, .int (xA T2 149 (ix a0))], hX c T2)) rfl ?_
  refine xe_gf (ci := 12) (k := 5) rfl rfl (ob_lit (i := 0) rfl (by decide) rfl) ⟨by decide, by decide⟩ (v := .ref 49) rfl ?_
  refine xe_gf (ci := 4) (k := 0) rfl rfl (ob_lit (i := 12) rfl (by decide) rfl) ⟨by decide, by decide⟩ (v := .ref 93) rfl ?_
  obtain ⟨b4, h5, H⟩ := H
  refine xe_gfr (ci := 9) (k := 0) rfl rfl (ob_lit (i := 23) rfl (by decide) rfl) ⟨by decide, by decide⟩ rfl h5 ?_
  obtain ⟨h6, H⟩ := H
  refine xc_I (idx := 158) rfl rfl rfl (Nat.le_of_ble_eq_true rfl) (Nat.le_of_ble_eq_true rfl) (x_rcv (T := T2) h6.1 ⟨by decide, by decide⟩ _ _) H (fun v8 T7 H => ?_)
  refine ev_ex 1 (c' := (28, [some (.ref 1), some (.int a0)], [.int ((xA T2 149 (ix a0)) + v8)], hX c T7)) rfl ?_
  exact ev_ret rfl rfl rfl (Or.inl ⟨_, _, rfl, rfl, H⟩)
set_option maxRecDepth 8000 in
theorem wx_X_meets {c : CX} {d : Nat} {T : XS} {Q : Int32 → XS → Prop} {E : Nat → XS → Prop} (a0 : Int32) (a1 : Int32) (H : XVt c d m_X_needTwoGuilds [.ref 1, .int a0, .int a1] T (fun T1 => (∃ b2 : Nat, frx T1 93 0 = some b2 ∧ XO c d m_X_rowNow [.ref 1] T1 (fun v5 T4 => (v5 = some 129 ∧ (CvS T4 b2 ∧ XI c d m_Cv_steps [.ref b2] T4 (fun v8 T7 => eX c (d + 1) m_X_meets 38 [some (.ref 1), some (.int a0), some (.int a1), some (.ref b2), some (.ref 129), some (.int ((xI T4 129 2) + v8)), some (.int 0)] T7 (yt c E (yI c Q)))))))) E) : XIt c (d + 1) m_X_meets [.ref 1, .int a0, .int a1] T Q E := by
  refine ⟨q_X_meets, rfl, Nat.le_of_ble_eq_true rfl, ?_⟩
  refine ev_ex 0 (c' := (0, [some (.ref 1), some (.int a0), some (.int a1), none, none, none, none], [], hX c T)) rfl ?_
  refine ev_ex 3 (c' := (3, [some (.ref 1), some (.int a0), some (.int a1), none, none, none, none], [.int a1, .int a0, .ref 1], hX c T)) rfl ?_
  refine xt_V (idx := 146) rfl rfl rfl (Nat.le_of_ble_eq_true rfl) (Nat.le_of_ble_eq_true rfl) (x_rcv (T := T) (ob_lit (i := 0) rfl (by decide) rfl) ⟨by decide, by decide⟩ _ _) rfl rfl rfl rfl (by decide) H (fun T1 H => ?_)
  refine ev_ex 1 (c' := (7, [some (.ref 1), some (.int a0), some (.int a1), none, none, none, none], [.ref 1], hX c T1)) rfl ?_
  refine xe_gf (ci := 12) (k := 5) rfl rfl (ob_lit (i := 0) rfl (by decide) rfl) ⟨by decide, by decide⟩ (v := .ref 49) rfl ?_
  refine xe_gf (ci := 4) (k := 0) rfl rfl (ob_lit (i := 12) rfl (by decide) rfl) ⟨by decide, by decide⟩ (v := .ref 93) rfl ?_
  obtain ⟨b2, h3, H⟩ := H
  refine xe_gfr (ci := 9) (k := 0) rfl rfl (ob_lit (i := 23) rfl (by decide) rfl) ⟨by decide, by decide⟩ rfl h3 ?_
  refine ev_ex 2 (c' := (18, [some (.ref 1), some (.int a0), some (.int a1), some (.ref b2), none, none, none], [.ref 1], hX c T1)) rfl ?_
  refine xc_O (idx := 255) rfl rfl rfl (Nat.le_of_ble_eq_true rfl) (Nat.le_of_ble_eq_true rfl) (x_rcv (T := T1) (ob_lit (i := 0) rfl (by decide) rfl) ⟨by decide, by decide⟩ _ _) H (fun v5 T4 H => ?_)
  obtain ⟨rfl, H⟩ := H
  refine ev_ex 0 (c' := (21, [some (.ref 1), some (.int a0), some (.int a1), some (.ref b2), none, none, none], [.ref 129], hX c T4)) rfl ?_
  refine ev_ex 2 (c' := (25, [some (.ref 1), some (.int a0), some (.int a1), some (.ref b2), some (.ref 129), none, none], [.ref 129], hX c T4)) rfl ?_
  refine xe_gf (ci := 8) (k := 2) rfl rfl (ob_lit (i := 32) rfl (by decide) rfl) ⟨by decide, by decide⟩ (v := .int (xI T4 129 2)) rfl ?_
  refine ev_ex 1 (c' := (29, [some (.ref 1), some (.int a0), some (.int a1), some (.ref b2), some (.ref 129), none, none], [.ref b2, .int (xI T4 129 2)], hX c T4)) rfl ?_
  obtain ⟨h6, H⟩ := H
  refine xc_I (idx := 158) rfl rfl rfl (Nat.le_of_ble_eq_true rfl) (Nat.le_of_ble_eq_true rfl) (x_rcv (T := T4) h6.1 ⟨by decide, by decide⟩ _ _) H (fun v8 T7 H => ?_)
  refine ev_ex 4 (c' := (38, [some (.ref 1), some (.int a0), some (.int a1), some (.ref b2), some (.ref 129), some (.int ((xI T4 129 2) + v8)), some (.int 0)], [], hX c T7)) rfl ?_
  exact H
set_option maxRecDepth 8000 in
theorem wx_X_meets_38 {c : CX} {d : Nat} {T : XS} {Q : Int32 → XS → Prop} {E : Nat → XS → Prop} (l1 : Int32) (l2 : Int32) (b2 : Nat) (l5 : Int32) (l6 : Int32) (H : ((l5 ≤ l6 → Q ((-1)) T) ∧ (¬ l5 ≤ l6 → XB c d m_Rw_meeting [.ref 129, .ref b2, .int l1, .int l2, .int l6] T (fun v52 T51 => ((v52 = false → eX c (d + 1) m_X_meets 38 [some (.ref 1), some (.int l1), some (.int l2), some (.ref b2), some (.ref 129), some (.int l5), some (.int (l6 + 1))] T51 (yt c E (yI c Q))) ∧ (v52 = true → Q l6 T51)))))) : eX c (d + 1) m_X_meets 38 [some (.ref 1), some (.int l1), some (.int l2), some (.ref b2), some (.ref 129), some (.int l5), some (.int l6)] T (yt c E (yI c Q)) := by
  unfold eX
  refine ev_ex 0 (c' := (38, [some (.ref 1), some (.int l1), some (.int l2), some (.ref b2), some (.ref 129), some (.int l5), some (.int l6)], [], hX c T)) rfl ?_
  refine ev_ex 2 (c' := (42, [some (.ref 1), some (.int l1), some (.int l2), some (.ref b2), some (.ref 129), some (.int l5), some (.int l6)], [.int l5, .int l6], hX c T)) rfl ?_
  refine ev_icmp_ge (tgt := 67) rfl rfl (fun h => ?_) (fun h => ?_)
  · replace H := H.1 (h)
    refine ev_ex 1 (c' := (68, [some (.ref 1), some (.int l1), some (.int l2), some (.ref b2), some (.ref 129), some (.int l5), some (.int l6)], [.int ((-1))], hX c T)) rfl ?_
    exact ev_ret rfl rfl rfl (Or.inl ⟨_, _, rfl, rfl, H⟩)
  · replace H := H.2 (h)
    refine ev_ex 5 (c' := (52, [some (.ref 1), some (.int l1), some (.int l2), some (.ref b2), some (.ref 129), some (.int l5), some (.int l6)], [.int l6, .int l2, .int l1, .ref b2, .ref 129], hX c T)) rfl ?_
    refine xc_B (idx := 315) rfl rfl rfl (Nat.le_of_ble_eq_true rfl) (Nat.le_of_ble_eq_true rfl) (x_rcv (T := T) (ob_lit (i := 32) rfl (by decide) rfl) ⟨by decide, by decide⟩ _ _) H (fun v52 T51 H => ?_)
    refine ev_if_eqB (x := v52) (tgt := 61) rfl rfl (fun h => ?_) (fun h => ?_)
    · replace H := H.1 (h)
      refine ev_ex 2 (c' := (38, [some (.ref 1), some (.int l1), some (.int l2), some (.ref b2), some (.ref 129), some (.int l5), some (.int (l6 + 1))], [], hX c T51)) rfl ?_
      exact H
    · replace H := H.2 (h)
      refine ev_ex 1 (c' := (60, [some (.ref 1), some (.int l1), some (.int l2), some (.ref b2), some (.ref 129), some (.int l5), some (.int l6)], [.int l6], hX c T51)) rfl ?_
      exact ev_ret rfl rfl rfl (Or.inl ⟨_, _, rfl, rfl, H⟩)
set_option maxRecDepth 8000 in
theorem wx_X_melted {c : CX} {d : Nat} {T : XS} {Q : Int32 → XS → Prop} {E : Nat → XS → Prop} (a0 : Int32) (a1 : Int32) (H : XVt c d m_X_needWithin [.int a0, .int 0, .int 999] T (fun T1 => XVt c d m_X_needWithin [.int a1, .int 0, .int 999] T1 (fun T2 => (∃ b3 : Nat, frx T2 93 0 = some b3 ∧ XO c d m_X_rowNow [.ref 1] T2 (fun v6 T5 => (v6 = some 129 ∧ eX c (d + 1) m_X_melted 39 [some (.ref 1), some (.int a0), some (.int a1), some (.ref b3), some (.ref 129), some (.int 0), some (.int 0), none, none, none] T5 (yt c E (yI c Q)))))) E) E) : XIt c (d + 1) m_X_melted [.ref 1, .int a0, .int a1] T Q E := by
  refine ⟨q_X_melted, rfl, Nat.le_of_ble_eq_true rfl, ?_⟩
  refine ev_ex 0 (c' := (0, [some (.ref 1), some (.int a0), some (.int a1), none, none, none, none, none, none, none], [], hX c T)) rfl ?_
  refine ev_ex 3 (c' := (5, [some (.ref 1), some (.int a0), some (.int a1), none, none, none, none, none, none, none], [.int 999, .int 0, .int a0], hX c T)) rfl ?_
  refine xt_V (idx := 113) rfl rfl rfl (Nat.le_of_ble_eq_true rfl) (Nat.le_of_ble_eq_true rfl) rfl rfl rfl rfl rfl (by decide) H (fun T1 H => ?_)
  refine ev_ex 3 (c' := (13, [some (.ref 1), some (.int a0), some (.int a1), none, none, none, none, none, none, none], [.int 999, .int 0, .int a1], hX c T1)) rfl ?_
  refine xt_V (idx := 113) rfl rfl rfl (Nat.le_of_ble_eq_true rfl) (Nat.le_of_ble_eq_true rfl) rfl rfl rfl rfl rfl (by decide) H (fun T2 H => ?_)
  refine ev_ex 1 (c' := (17, [some (.ref 1), some (.int a0), some (.int a1), none, none, none, none, none, none, none], [.ref 1], hX c T2)) rfl ?_
  refine xe_gf (ci := 12) (k := 5) rfl rfl (ob_lit (i := 0) rfl (by decide) rfl) ⟨by decide, by decide⟩ (v := .ref 49) rfl ?_
  refine xe_gf (ci := 4) (k := 0) rfl rfl (ob_lit (i := 12) rfl (by decide) rfl) ⟨by decide, by decide⟩ (v := .ref 93) rfl ?_
  obtain ⟨b3, h4, H⟩ := H
  refine xe_gfr (ci := 9) (k := 0) rfl rfl (ob_lit (i := 23) rfl (by decide) rfl) ⟨by decide, by decide⟩ rfl h4 ?_
  refine ev_ex 2 (c' := (28, [some (.ref 1), some (.int a0), some (.int a1), some (.ref b3), none, none, none, none, none, none], [.ref 1], hX c T2)) rfl ?_
  refine xc_O (idx := 255) rfl rfl rfl (Nat.le_of_ble_eq_true rfl) (Nat.le_of_ble_eq_true rfl) (x_rcv (T := T2) (ob_lit (i := 0) rfl (by decide) rfl) ⟨by decide, by decide⟩ _ _) H (fun v6 T5 H => ?_)
  obtain ⟨rfl, H⟩ := H
  refine ev_ex 0 (c' := (31, [some (.ref 1), some (.int a0), some (.int a1), some (.ref b3), none, none, none, none, none, none], [.ref 129], hX c T5)) rfl ?_
  refine ev_ex 5 (c' := (39, [some (.ref 1), some (.int a0), some (.int a1), some (.ref b3), some (.ref 129), some (.int 0), some (.int 0), none, none, none], [], hX c T5)) rfl ?_
  exact H
set_option maxRecDepth 8000 in
theorem wx_X_melted_39 {c : CX} {d : Nat} {T : XS} {Q : Int32 → XS → Prop} {E : Nat → XS → Prop} (l1 : Int32) (l2 : Int32) (b3 : Nat) (l5 : Int32) (l6 : Int32) (H : (CvS T b3 ∧ (((xI T b3 1) ≤ l6 → Q l5 T) ∧ (¬ (xI T b3 1) ≤ l6 → (okx l6 10 ∧ (okx l6 10 ∧ XI c d m_Cv_steps [.ref b3] T (fun v53 T52 => (CvS T52 b3 ∧ (okx l6 10 ∧ (((xA T52 (b3 + 24) (ix l6)) ≤ 0 → eX c (d + 1) m_X_melted 39 [some (.ref 1), some (.int l1), some (.int l2), some (.ref b3), some (.ref 129), some (.int l5), some (.int (l6 + 1)), none, none, none] T52 (yt c E (yI c Q))) ∧ (¬ (xA T52 (b3 + 24) (ix l6)) ≤ 0 → ((((mnI (l1 + l2) ((xA T 149 (ix l6)) + v53)) - (mxI l1 (xA T 149 (ix l6)))) < (xA T52 (b3 + 24) (ix l6)) → eX c (d + 1) m_X_melted 39 [some (.ref 1), some (.int l1), some (.int l2), some (.ref b3), some (.ref 129), some (.int l5), some (.int (l6 + 1)), none, none, none] T52 (yt c E (yI c Q))) ∧ (¬ ((mnI (l1 + l2) ((xA T 149 (ix l6)) + v53)) - (mxI l1 (xA T 149 (ix l6)))) < (xA T52 (b3 + 24) (ix l6)) → eX c (d + 1) m_X_melted 39 [some (.ref 1), some (.int l1), some (.int l2), some (.ref b3), some (.ref 129), some (.int (l5 ||| ((1 : Int32) <<< (l6 &&& 31)))), some (.int (l6 + 1)), none, none, none] T52 (yt c E (yI c Q))))))))))))))) : eX c (d + 1) m_X_melted 39 [some (.ref 1), some (.int l1), some (.int l2), some (.ref b3), some (.ref 129), some (.int l5), some (.int l6), none, none, none] T (yt c E (yI c Q)) := by
  unfold eX
  refine ev_ex 0 (c' := (39, [some (.ref 1), some (.int l1), some (.int l2), some (.ref b3), some (.ref 129), some (.int l5), some (.int l6), none, none, none], [], hX c T)) rfl ?_
  refine ev_ex 2 (c' := (42, [some (.ref 1), some (.int l1), some (.int l2), some (.ref b3), some (.ref 129), some (.int l5), some (.int l6), none, none, none], [.ref b3, .int l6], hX c T)) rfl ?_
  obtain ⟨h51, H⟩ := H
  refine xe_gf (ci := 2) (k := 1) rfl rfl h51.1 ⟨by decide, by decide⟩ (v := .int (xI T b3 1)) rfl ?_
  refine ev_icmp_ge (tgt := 122) rfl rfl (fun h => ?_) (fun h => ?_)
  · replace H := H.1 (h)
    refine ev_ex 1 (c' := (124, [some (.ref 1), some (.int l1), some (.int l2), some (.ref b3), some (.ref 129), some (.int l5), some (.int l6), none, none, none], [.int l5], hX c T)) rfl ?_
    exact ev_ret rfl rfl rfl (Or.inl ⟨_, _, rfl, rfl, H⟩)
  · replace H := H.2 (h)
    refine ev_ex 2 (c' := (51, [some (.ref 1), some (.int l1), some (.int l2), some (.ref b3), some (.ref 129), some (.int l5), some (.int l6), none, none, none], [.ref 129, .int l1], hX c T)) rfl ?_
    refine xe_gf (ci := 8) (k := 9) rfl rfl (ob_lit (i := 32) rfl (by decide) rfl) ⟨by decide, by decide⟩ (v := .ref 149) rfl ?_
    refine ev_ex 1 (c' := (56, [some (.ref 1), some (.int l1), some (.int l2), some (.ref b3), some (.ref 129), some (.int l5), some (.int l6), none, none, none], [.int l6, .ref 149, .int l1], hX c T)) rfl ?_
    obtain ⟨H0, H⟩ := H
    refine xe_al rfl (ar_lit (i := 37) rfl (by decide) rfl) H0 ?_
    refine ev_ex 0 (c' := (57, [some (.ref 1), some (.int l1), some (.int l2), some (.ref b3), some (.ref 129), some (.int l5), some (.int l6), none, none, none], [.int (xA T 149 (ix l6)), .int l1], hX c T)) rfl ?_
    refine xq_I (idx := 300) (V := mxI l1 (xA T 149 (ix l6))) (S := T) rfl rfl rfl (Nat.le_of_ble_eq_true rfl) (Nat.le_of_ble_eq_true rfl) rfl (zx_JM_max ⟨rfl, rfl⟩) ?_
    refine ev_ex 5 (c' := (67, [some (.ref 1), some (.int l1), some (.int l2), some (.ref b3), some (.ref 129), some (.int l5), some (.int l6), some (.int (mxI l1 (xA T 149 (ix l6)))), none, none], [.ref 129, .int (l1 + l2)], hX c T)) rfl ?_
    refine xe_gf (ci := 8) (k := 9) rfl rfl (ob_lit (i := 32) rfl (by decide) rfl) ⟨by decide, by decide⟩ (v := .ref 149) rfl ?_
    refine ev_ex 1 (c' := (72, [some (.ref 1), some (.int l1), some (.int l2), some (.ref b3), some (.ref 129), some (.int l5), some (.int l6), some (.int (mxI l1 (xA T 149 (ix l6)))), none, none], [.int l6, .ref 149, .int (l1 + l2)], hX c T)) rfl ?_
    obtain ⟨H0, H⟩ := H
    refine xe_al rfl (ar_lit (i := 37) rfl (by decide) rfl) H0 ?_
    refine ev_ex 0 (c' := (73, [some (.ref 1), some (.int l1), some (.int l2), some (.ref b3), some (.ref 129), some (.int l5), some (.int l6), some (.int (mxI l1 (xA T 149 (ix l6)))), none, none], [.int (xA T 149 (ix l6)), .int (l1 + l2)], hX c T)) rfl ?_
    refine ev_ex 1 (c' := (74, [some (.ref 1), some (.int l1), some (.int l2), some (.ref b3), some (.ref 129), some (.int l5), some (.int l6), some (.int (mxI l1 (xA T 149 (ix l6)))), none, none], [.ref b3, .int (xA T 149 (ix l6)), .int (l1 + l2)], hX c T)) rfl ?_
    refine xc_I (idx := 158) rfl rfl rfl (Nat.le_of_ble_eq_true rfl) (Nat.le_of_ble_eq_true rfl) (x_rcv (T := T) h51.1 ⟨by decide, by decide⟩ _ _) H (fun v53 T52 H => ?_)
    refine ev_ex 1 (c' := (78, [some (.ref 1), some (.int l1), some (.int l2), some (.ref b3), some (.ref 129), some (.int l5), some (.int l6), some (.int (mxI l1 (xA T 149 (ix l6)))), none, none], [.int ((xA T 149 (ix l6)) + v53), .int (l1 + l2)], hX c T52)) rfl ?_
    refine xq_I (idx := 323) (V := mnI (l1 + l2) ((xA T 149 (ix l6)) + v53)) (S := T52) rfl rfl rfl (Nat.le_of_ble_eq_true rfl) (Nat.le_of_ble_eq_true rfl) rfl (zx_JM_min ⟨rfl, rfl⟩) ?_
    refine ev_ex 2 (c' := (84, [some (.ref 1), some (.int l1), some (.int l2), some (.ref b3), some (.ref 129), some (.int l5), some (.int l6), some (.int (mxI l1 (xA T 149 (ix l6)))), some (.int (mnI (l1 + l2) ((xA T 149 (ix l6)) + v53))), none], [.ref b3], hX c T52)) rfl ?_
    obtain ⟨h54, H⟩ := H
    refine xe_gfr (ci := 2) (k := 13) rfl rfl h54.1 ⟨by decide, by decide⟩ rfl h54.f13 ?_
    refine ev_ex 1 (c' := (89, [some (.ref 1), some (.int l1), some (.int l2), some (.ref b3), some (.ref 129), some (.int l5), some (.int l6), some (.int (mxI l1 (xA T 149 (ix l6)))), some (.int (mnI (l1 + l2) ((xA T 149 (ix l6)) + v53))), none], [.int l6, .ref (b3 + 24)], hX c T52)) rfl ?_
    obtain ⟨H0, H⟩ := H
    refine xe_al rfl h54.a13 H0 ?_
    refine ev_ex 0 (c' := (90, [some (.ref 1), some (.int l1), some (.int l2), some (.ref b3), some (.ref 129), some (.int l5), some (.int l6), some (.int (mxI l1 (xA T 149 (ix l6)))), some (.int (mnI (l1 + l2) ((xA T 149 (ix l6)) + v53))), none], [.int (xA T52 (b3 + 24) (ix l6))], hX c T52)) rfl ?_
    refine ev_ex 2 (c' := (94, [some (.ref 1), some (.int l1), some (.int l2), some (.ref b3), some (.ref 129), some (.int l5), some (.int l6), some (.int (mxI l1 (xA T 149 (ix l6)))), some (.int (mnI (l1 + l2) ((xA T 149 (ix l6)) + v53))), some (.int (xA T52 (b3 + 24) (ix l6)))], [.int (xA T52 (b3 + 24) (ix l6))], hX c T52)) rfl ?_
    refine ev_if_le (tgt := 116) rfl rfl (fun h => ?_) (fun h => ?_)
    · replace H := H.1 (h)
      refine ev_ex 2 (c' := (39, [some (.ref 1), some (.int l1), some (.int l2), some (.ref b3), some (.ref 129), some (.int l5), some (.int (l6 + 1)), some (.int (mxI l1 (xA T 149 (ix l6)))), some (.int (mnI (l1 + l2) ((xA T 149 (ix l6)) + v53))), some (.int (xA T52 (b3 + 24) (ix l6)))], [], hX c T52)) rfl ?_
      exact ev_less (lle_of (L := [some (.ref 1), some (.int l1), some (.int l2), some (.ref b3), some (.ref 129), some (.int l5), some (.int (l6 + 1)), none, none, none]) ⟨rfl, ⟨rfl, ⟨rfl, ⟨rfl, ⟨rfl, ⟨rfl, ⟨rfl, trivial⟩⟩⟩⟩⟩⟩⟩) H
    · replace H := H.2 (h)
      refine ev_ex 4 (c' := (104, [some (.ref 1), some (.int l1), some (.int l2), some (.ref b3), some (.ref 129), some (.int l5), some (.int l6), some (.int (mxI l1 (xA T 149 (ix l6)))), some (.int (mnI (l1 + l2) ((xA T 149 (ix l6)) + v53))), some (.int (xA T52 (b3 + 24) (ix l6)))], [.int (xA T52 (b3 + 24) (ix l6)), .int ((mnI (l1 + l2) ((xA T 149 (ix l6)) + v53)) - (mxI l1 (xA T 149 (ix l6))))], hX c T52)) rfl ?_
      refine ev_icmp_lt (tgt := 116) rfl rfl (fun h => ?_) (fun h => ?_)
      · replace H := H.1 (h)
        refine ev_ex 2 (c' := (39, [some (.ref 1), some (.int l1), some (.int l2), some (.ref b3), some (.ref 129), some (.int l5), some (.int (l6 + 1)), some (.int (mxI l1 (xA T 149 (ix l6)))), some (.int (mnI (l1 + l2) ((xA T 149 (ix l6)) + v53))), some (.int (xA T52 (b3 + 24) (ix l6)))], [], hX c T52)) rfl ?_
        exact ev_less (lle_of (L := [some (.ref 1), some (.int l1), some (.int l2), some (.ref b3), some (.ref 129), some (.int l5), some (.int (l6 + 1)), none, none, none]) ⟨rfl, ⟨rfl, ⟨rfl, ⟨rfl, ⟨rfl, ⟨rfl, ⟨rfl, trivial⟩⟩⟩⟩⟩⟩⟩) H
      · replace H := H.2 (h)
        refine ev_ex 8 (c' := (39, [some (.ref 1), some (.int l1), some (.int l2), some (.ref b3), some (.ref 129), some (.int (l5 ||| ((1 : Int32) <<< (l6 &&& 31)))), some (.int (l6 + 1)), some (.int (mxI l1 (xA T 149 (ix l6)))), some (.int (mnI (l1 + l2) ((xA T 149 (ix l6)) + v53))), some (.int (xA T52 (b3 + 24) (ix l6)))], [], hX c T52)) rfl ?_
        exact ev_less (lle_of (L := [some (.ref 1), some (.int l1), some (.int l2), some (.ref b3), some (.ref 129), some (.int (l5 ||| ((1 : Int32) <<< (l6 &&& 31)))), some (.int (l6 + 1)), none, none, none]) ⟨rfl, ⟨rfl, ⟨rfl, ⟨rfl, ⟨rfl, ⟨rfl, ⟨rfl, trivial⟩⟩⟩⟩⟩⟩⟩) H
set_option maxRecDepth 8000 in
theorem wx_X_quietest {c : CX} {d : Nat} {T : XS} {Q : Int32 → XS → Prop} {E : Nat → XS → Prop} (hR : c.2.2.2.1.length = 18) (a0 : Int32) (a1 : Int32) (H : (∃ b1 : Nat, frx T 93 0 = some b1 ∧ ((a0 < 0 → E 1 (tN T 0 0 6)) ∧ (¬ a0 < 0 → (CvS T b1 ∧ ((((1 : Int32) <<< ((xI T b1 1) &&& 31)) ≤ a0 → E 1 (tN T 0 0 6)) ∧ (¬ ((1 : Int32) <<< ((xI T b1 1) &&& 31)) ≤ a0 → (((bcI a0) ≤ 8 → ((a1 = 0 → XV c d m_Qt_arrange [.ref 157, .ref b1, .int a0] T (fun T4 => ((¬ a1 = 0 → XI c d m_Qt_walksAt [.ref 157, .int (a1 - 10)] T4 (fun v6 T5 => Q v6 T5)) ∧ (a1 = 0 → Q (xI T4 157 4) T4)))) ∧ (¬ a1 = 0 → ((a1 < 10 → E 1 (tN T 0 0 6)) ∧ (¬ a1 < 10 → ((a1 ≤ 17 → XV c d m_Qt_arrange [.ref 157, .ref b1, .int a0] T (fun T7 => ((¬ a1 = 0 → XI c d m_Qt_walksAt [.ref 157, .int (a1 - 10)] T7 (fun v9 T8 => Q v9 T8)) ∧ (a1 = 0 → Q (xI T7 157 4) T7)))) ∧ (¬ a1 ≤ 17 → E 1 (tN T 0 0 6)))))))) ∧ (¬ (bcI a0) ≤ 8 → E 1 (tN T 0 0 6)))))))))) : XIt c (d + 1) m_X_quietest [.ref 1, .int a0, .int a1] T Q E := by
  refine ⟨q_X_quietest, rfl, Nat.le_of_ble_eq_true rfl, ?_⟩
  refine ev_ex 0 (c' := (0, [some (.ref 1), some (.int a0), some (.int a1), none], [], hX c T)) rfl ?_
  refine ev_ex 1 (c' := (1, [some (.ref 1), some (.int a0), some (.int a1), none], [.ref 1], hX c T)) rfl ?_
  refine xe_gf (ci := 12) (k := 5) rfl rfl (ob_lit (i := 0) rfl (by decide) rfl) ⟨by decide, by decide⟩ (v := .ref 49) rfl ?_
  refine xe_gf (ci := 4) (k := 0) rfl rfl (ob_lit (i := 12) rfl (by decide) rfl) ⟨by decide, by decide⟩ (v := .ref 93) rfl ?_
  obtain ⟨b1, h2, H⟩ := H
  refine xe_gfr (ci := 9) (k := 0) rfl rfl (ob_lit (i := 23) rfl (by decide) rfl) ⟨by decide, by decide⟩ rfl h2 ?_
  refine ev_ex 2 (c' := (12, [some (.ref 1), some (.int a0), some (.int a1), some (.ref b1)], [.int a0], hX c T)) rfl ?_
  refine ev_if_lt (tgt := 34) rfl rfl (fun h => ?_) (fun h => ?_)
  · replace H := H.1 (h)
    exact xe_thr hR rfl rfl (Nat.le_of_ble_eq_true rfl) (Or.inr ⟨_, _, rfl, rfl, H⟩)
  · replace H := H.2 (h)
    refine ev_ex 3 (c' := (18, [some (.ref 1), some (.int a0), some (.int a1), some (.ref b1)], [.ref b1, .int 1, .int a0], hX c T)) rfl ?_
    obtain ⟨h3, H⟩ := H
    refine xe_gf (ci := 2) (k := 1) rfl rfl h3.1 ⟨by decide, by decide⟩ (v := .int (xI T b1 1)) rfl ?_
    refine ev_ex 1 (c' := (22, [some (.ref 1), some (.int a0), some (.int a1), some (.ref b1)], [.int ((1 : Int32) <<< ((xI T b1 1) &&& 31)), .int a0], hX c T)) rfl ?_
    refine ev_icmp_ge (tgt := 34) rfl rfl (fun h => ?_) (fun h => ?_)
    · replace H := H.1 (h)
      exact xe_thr hR rfl rfl (Nat.le_of_ble_eq_true rfl) (Or.inr ⟨_, _, rfl, rfl, H⟩)
    · replace H := H.2 (h)
      refine ev_ex 1 (c' := (26, [some (.ref 1), some (.int a0), some (.int a1), some (.ref b1)], [.int a0], hX c T)) rfl ?_
      refine xq_I (idx := 184) (V := bcI a0) (S := T) rfl rfl rfl (Nat.le_of_ble_eq_true rfl) (Nat.le_of_ble_eq_true rfl) rfl (zx_JI_bitCount ⟨rfl, rfl⟩) ?_
      refine ev_ex 1 (c' := (31, [some (.ref 1), some (.int a0), some (.int a1), some (.ref b1)], [.int 8, .int (bcI a0)], hX c T)) rfl ?_
      refine ev_icmp_le (tgt := 45) rfl rfl (fun h => ?_) (fun h => ?_)
      · replace H := H.1 (h)
        refine ev_ex 1 (c' := (46, [some (.ref 1), some (.int a0), some (.int a1), some (.ref b1)], [.int a1], hX c T)) rfl ?_
        refine ev_if_eq (tgt := 71) rfl rfl (fun h => ?_) (fun h => ?_)
        · replace H := H.1 (h)
          refine ev_ex 1 (c' := (72, [some (.ref 1), some (.int a0), some (.int a1), some (.ref b1)], [.ref 1], hX c T)) rfl ?_
          refine xe_gf (ci := 12) (k := 10) rfl rfl (ob_lit (i := 0) rfl (by decide) rfl) ⟨by decide, by decide⟩ (v := .ref 157) rfl ?_
          refine ev_ex 2 (c' := (77, [some (.ref 1), some (.int a0), some (.int a1), some (.ref b1)], [.int a0, .ref b1, .ref 157], hX c T)) rfl ?_
          refine xc_V (idx := 331) rfl rfl rfl (Nat.le_of_ble_eq_true rfl) (Nat.le_of_ble_eq_true rfl) (x_rcv (T := T) (ob_lit (i := 39) rfl (by decide) rfl) ⟨by decide, by decide⟩ _ _) H (fun T4 H => ?_)
          refine ev_ex 1 (c' := (81, [some (.ref 1), some (.int a0), some (.int a1), some (.ref b1)], [.int a1], hX c T4)) rfl ?_
          refine ev_if_ne (tgt := 94) rfl rfl (fun h => ?_) (fun h => ?_)
          · replace H := H.1 (h)
            refine ev_ex 1 (c' := (95, [some (.ref 1), some (.int a0), some (.int a1), some (.ref b1)], [.ref 1], hX c T4)) rfl ?_
            refine xe_gf (ci := 12) (k := 10) rfl rfl (ob_lit (i := 0) rfl (by decide) rfl) ⟨by decide, by decide⟩ (v := .ref 157) rfl ?_
            refine ev_ex 3 (c' := (102, [some (.ref 1), some (.int a0), some (.int a1), some (.ref b1)], [.int (a1 - 10), .ref 157], hX c T4)) rfl ?_
            refine xc_I (idx := 338) rfl rfl rfl (Nat.le_of_ble_eq_true rfl) (Nat.le_of_ble_eq_true rfl) (x_rcv (T := T4) (ob_lit (i := 39) rfl (by decide) rfl) ⟨by decide, by decide⟩ _ _) H (fun v6 T5 H => ?_)
            exact ev_ret rfl rfl rfl (Or.inl ⟨_, _, rfl, rfl, H⟩)
          · replace H := H.2 (h)
            refine ev_ex 1 (c' := (85, [some (.ref 1), some (.int a0), some (.int a1), some (.ref b1)], [.ref 1], hX c T4)) rfl ?_
            refine xe_gf (ci := 12) (k := 10) rfl rfl (ob_lit (i := 0) rfl (by decide) rfl) ⟨by decide, by decide⟩ (v := .ref 157) rfl ?_
            refine xe_gf (ci := 6) (k := 4) rfl rfl (ob_lit (i := 39) rfl (by decide) rfl) ⟨by decide, by decide⟩ (v := .int (xI T4 157 4)) rfl ?_
            refine ev_ex 1 (c' := (105, [some (.ref 1), some (.int a0), some (.int a1), some (.ref b1)], [.int (xI T4 157 4)], hX c T4)) rfl ?_
            exact ev_ret rfl rfl rfl (Or.inl ⟨_, _, rfl, rfl, H⟩)
        · replace H := H.2 (h)
          refine ev_ex 2 (c' := (52, [some (.ref 1), some (.int a0), some (.int a1), some (.ref b1)], [.int 10, .int a1], hX c T)) rfl ?_
          refine ev_icmp_lt (tgt := 61) rfl rfl (fun h => ?_) (fun h => ?_)
          · replace H := H.1 (h)
            exact xe_thr hR rfl rfl (Nat.le_of_ble_eq_true rfl) (Or.inr ⟨_, _, rfl, rfl, H⟩)
          · replace H := H.2 (h)
            refine ev_ex 2 (c' := (58, [some (.ref 1), some (.int a0), some (.int a1), some (.ref b1)], [.int 17, .int a1], hX c T)) rfl ?_
            refine ev_icmp_le (tgt := 71) rfl rfl (fun h => ?_) (fun h => ?_)
            · replace H := H.1 (h)
              refine ev_ex 1 (c' := (72, [some (.ref 1), some (.int a0), some (.int a1), some (.ref b1)], [.ref 1], hX c T)) rfl ?_
              refine xe_gf (ci := 12) (k := 10) rfl rfl (ob_lit (i := 0) rfl (by decide) rfl) ⟨by decide, by decide⟩ (v := .ref 157) rfl ?_
              refine ev_ex 2 (c' := (77, [some (.ref 1), some (.int a0), some (.int a1), some (.ref b1)], [.int a0, .ref b1, .ref 157], hX c T)) rfl ?_
              refine xc_V (idx := 331) rfl rfl rfl (Nat.le_of_ble_eq_true rfl) (Nat.le_of_ble_eq_true rfl) (x_rcv (T := T) (ob_lit (i := 39) rfl (by decide) rfl) ⟨by decide, by decide⟩ _ _) H (fun T7 H => ?_)
              refine ev_ex 1 (c' := (81, [some (.ref 1), some (.int a0), some (.int a1), some (.ref b1)], [.int a1], hX c T7)) rfl ?_
              refine ev_if_ne (tgt := 94) rfl rfl (fun h => ?_) (fun h => ?_)
              · replace H := H.1 (h)
                refine ev_ex 1 (c' := (95, [some (.ref 1), some (.int a0), some (.int a1), some (.ref b1)], [.ref 1], hX c T7)) rfl ?_
                refine xe_gf (ci := 12) (k := 10) rfl rfl (ob_lit (i := 0) rfl (by decide) rfl) ⟨by decide, by decide⟩ (v := .ref 157) rfl ?_
                refine ev_ex 3 (c' := (102, [some (.ref 1), some (.int a0), some (.int a1), some (.ref b1)], [.int (a1 - 10), .ref 157], hX c T7)) rfl ?_
                refine xc_I (idx := 338) rfl rfl rfl (Nat.le_of_ble_eq_true rfl) (Nat.le_of_ble_eq_true rfl) (x_rcv (T := T7) (ob_lit (i := 39) rfl (by decide) rfl) ⟨by decide, by decide⟩ _ _) H (fun v9 T8 H => ?_)
                exact ev_ret rfl rfl rfl (Or.inl ⟨_, _, rfl, rfl, H⟩)
              · replace H := H.2 (h)
                refine ev_ex 1 (c' := (85, [some (.ref 1), some (.int a0), some (.int a1), some (.ref b1)], [.ref 1], hX c T7)) rfl ?_
                refine xe_gf (ci := 12) (k := 10) rfl rfl (ob_lit (i := 0) rfl (by decide) rfl) ⟨by decide, by decide⟩ (v := .ref 157) rfl ?_
                refine xe_gf (ci := 6) (k := 4) rfl rfl (ob_lit (i := 39) rfl (by decide) rfl) ⟨by decide, by decide⟩ (v := .int (xI T7 157 4)) rfl ?_
                refine ev_ex 1 (c' := (105, [some (.ref 1), some (.int a0), some (.int a1), some (.ref b1)], [.int (xI T7 157 4)], hX c T7)) rfl ?_
                exact ev_ret rfl rfl rfl (Or.inl ⟨_, _, rfl, rfl, H⟩)
            · replace H := H.2 (h)
              exact xe_thr hR rfl rfl (Nat.le_of_ble_eq_true rfl) (Or.inr ⟨_, _, rfl, rfl, H⟩)
      · replace H := H.2 (h)
        exact xe_thr hR rfl rfl (Nat.le_of_ble_eq_true rfl) (Or.inr ⟨_, _, rfl, rfl, H⟩)
set_option maxRecDepth 8000 in
theorem wx_X_comesBack {c : CX} {d : Nat} {T : XS} {Q : Int32 → XS → Prop} {E : Nat → XS → Prop} (a0 : Int32) (H : XVt c d m_X_needWithin [.int a0, .int 0, .int 1] T (fun T1 => XV c d m_Sd_copyFrom [.ref 173, .ref 93] T1 (fun T2 => XJ c d m_Sd_packed [.ref 173] T2 (fun v4 T3 => (okx 0 1001 ∧ eX c (d + 1) m_X_comesBack 35 [some (.ref 1), some (.int a0), some (.int 1), none, none, none] (tL T3 225 (ix 0) v4) (yt c E (yI c Q)))))) E) : XIt c (d + 1) m_X_comesBack [.ref 1, .int a0] T Q E := by
  refine ⟨q_X_comesBack, rfl, Nat.le_of_ble_eq_true rfl, ?_⟩
  refine ev_ex 0 (c' := (0, [some (.ref 1), some (.int a0), none, none, none, none], [], hX c T)) rfl ?_
  refine ev_ex 3 (c' := (3, [some (.ref 1), some (.int a0), none, none, none, none], [.int 1, .int 0, .int a0], hX c T)) rfl ?_
  refine xt_V (idx := 113) rfl rfl rfl (Nat.le_of_ble_eq_true rfl) (Nat.le_of_ble_eq_true rfl) rfl rfl rfl rfl rfl (by decide) H (fun T1 H => ?_)
  refine ev_ex 1 (c' := (7, [some (.ref 1), some (.int a0), none, none, none, none], [.ref 1], hX c T1)) rfl ?_
  refine xe_gf (ci := 12) (k := 11) rfl rfl (ob_lit (i := 0) rfl (by decide) rfl) ⟨by decide, by decide⟩ (v := .ref 173) rfl ?_
  refine ev_ex 1 (c' := (11, [some (.ref 1), some (.int a0), none, none, none, none], [.ref 1, .ref 173], hX c T1)) rfl ?_
  refine xe_gf (ci := 12) (k := 5) rfl rfl (ob_lit (i := 0) rfl (by decide) rfl) ⟨by decide, by decide⟩ (v := .ref 49) rfl ?_
  refine xe_gf (ci := 4) (k := 0) rfl rfl (ob_lit (i := 12) rfl (by decide) rfl) ⟨by decide, by decide⟩ (v := .ref 93) rfl ?_
  refine xc_V (idx := 190) rfl rfl rfl (Nat.le_of_ble_eq_true rfl) (Nat.le_of_ble_eq_true rfl) (x_rcv (T := T1) (ob_lit (i := 43) rfl (by decide) rfl) ⟨by decide, by decide⟩ _ _) H (fun T2 H => ?_)
  refine ev_ex 1 (c' := (21, [some (.ref 1), some (.int a0), none, none, none, none], [.ref 1], hX c T2)) rfl ?_
  refine xe_gf (ci := 12) (k := 12) rfl rfl (ob_lit (i := 0) rfl (by decide) rfl) ⟨by decide, by decide⟩ (v := .ref 225) rfl ?_
  refine ev_ex 2 (c' := (26, [some (.ref 1), some (.int a0), none, none, none, none], [.ref 1, .int 0, .ref 225], hX c T2)) rfl ?_
  refine xe_gf (ci := 12) (k := 11) rfl rfl (ob_lit (i := 0) rfl (by decide) rfl) ⟨by decide, by decide⟩ (v := .ref 173) rfl ?_
  refine xc_J (idx := 341) rfl rfl rfl (Nat.le_of_ble_eq_true rfl) (Nat.le_of_ble_eq_true rfl) (x_rcv (T := T2) (ob_lit (i := 43) rfl (by decide) rfl) ⟨by decide, by decide⟩ _ _) H (fun v4 T3 H => ?_)
  obtain ⟨H0, H⟩ := H
  refine xe_ls rfl (ar_lit (i := 56) rfl (by decide) rfl) H0 ?_
  refine ev_ex 2 (c' := (35, [some (.ref 1), some (.int a0), some (.int 1), none, none, none], [], hX c (tL T3 225 (ix 0) v4))) rfl ?_
  exact H
set_option maxRecDepth 8000 in
theorem wx_X_comesBack_35 {c : CX} {d : Nat} {T : XS} {Q : Int32 → XS → Prop} {E : Nat → XS → Prop} (l1 : Int32) (l2 : Int32) (H : ((1000 < l2 → Q ((-1)) T) ∧ (¬ 1000 < l2 → XB c d m_Ct_passNight [.ref 117, .ref 173] T (fun v52 T51 => XJ c d m_Sd_packed [.ref 173] T51 (fun v54 T53 => eX c (d + 1) m_X_comesBack 65 [some (.ref 1), some (.int l1), some (.int l2), some (.long v54), none, some (.int 0)] T53 (yt c E (yI c Q))))))) : eX c (d + 1) m_X_comesBack 35 [some (.ref 1), some (.int l1), some (.int l2), none, none, none] T (yt c E (yI c Q)) := by
  unfold eX
  refine ev_ex 0 (c' := (35, [some (.ref 1), some (.int l1), some (.int l2), none, none, none], [], hX c T)) rfl ?_
  refine ev_ex 2 (c' := (39, [some (.ref 1), some (.int l1), some (.int l2), none, none, none], [.int 1000, .int l2], hX c T)) rfl ?_
  refine ev_icmp_gt (tgt := 116) rfl rfl (fun h => ?_) (fun h => ?_)
  · replace H := H.1 (h)
    refine ev_ex 1 (c' := (117, [some (.ref 1), some (.int l1), some (.int l2), none, none, none], [.int ((-1))], hX c T)) rfl ?_
    exact ev_ret rfl rfl rfl (Or.inl ⟨_, _, rfl, rfl, H⟩)
  · replace H := H.2 (h)
    refine ev_ex 1 (c' := (43, [some (.ref 1), some (.int l1), some (.int l2), none, none, none], [.ref 1], hX c T)) rfl ?_
    refine xe_gf (ci := 12) (k := 8) rfl rfl (ob_lit (i := 0) rfl (by decide) rfl) ⟨by decide, by decide⟩ (v := .ref 117) rfl ?_
    refine ev_ex 1 (c' := (47, [some (.ref 1), some (.int l1), some (.int l2), none, none, none], [.ref 1, .ref 117], hX c T)) rfl ?_
    refine xe_gf (ci := 12) (k := 11) rfl rfl (ob_lit (i := 0) rfl (by decide) rfl) ⟨by decide, by decide⟩ (v := .ref 173) rfl ?_
    refine xc_B (idx := 194) rfl rfl rfl (Nat.le_of_ble_eq_true rfl) (Nat.le_of_ble_eq_true rfl) (x_rcv (T := T) (ob_lit (i := 29) rfl (by decide) rfl) ⟨by decide, by decide⟩ _ _) H (fun v52 T51 H => ?_)
    refine ev_ex 2 (c' := (55, [some (.ref 1), some (.int l1), some (.int l2), none, none, none], [.ref 1], hX c T51)) rfl ?_
    refine xe_gf (ci := 12) (k := 11) rfl rfl (ob_lit (i := 0) rfl (by decide) rfl) ⟨by decide, by decide⟩ (v := .ref 173) rfl ?_
    refine xc_J (idx := 341) rfl rfl rfl (Nat.le_of_ble_eq_true rfl) (Nat.le_of_ble_eq_true rfl) (x_rcv (T := T51) (ob_lit (i := 43) rfl (by decide) rfl) ⟨by decide, by decide⟩ _ _) H (fun v54 T53 H => ?_)
    refine ev_ex 3 (c' := (65, [some (.ref 1), some (.int l1), some (.int l2), some (.long v54), none, some (.int 0)], [], hX c T53)) rfl ?_
    exact H
set_option maxRecDepth 8000 in
theorem wx_X_comesBack_65 {c : CX} {d : Nat} {T : XS} {Q : Int32 → XS → Prop} {E : Nat → XS → Prop} (l1 : Int32) (l2 : Int32) (l3 : Int64) (l5 : Int32) (H : ((l2 ≤ l5 → (okx l2 1001 ∧ eX c (d + 1) m_X_comesBack 35 [some (.ref 1), some (.int l1), some (.int (l2 + 1)), none, none, none] (tL T 225 (ix l2) l3) (yt c E (yI c Q)))) ∧ (¬ l2 ≤ l5 → (okx l5 1001 ∧ ((¬ (xL T 225 (ix l5)) = l3 → eX c (d + 1) m_X_comesBack 65 [some (.ref 1), some (.int l1), some (.int l2), some (.long l3), none, some (.int (l5 + 1))] T (yt c E (yI c Q))) ∧ ((xL T 225 (ix l5)) = l3 → ((¬ l1 = 0 → Q (l2 - l5) T) ∧ (l1 = 0 → Q l5 T)))))))) : eX c (d + 1) m_X_comesBack 65 [some (.ref 1), some (.int l1), some (.int l2), some (.long l3), none, some (.int l5)] T (yt c E (yI c Q)) := by
  unfold eX
  refine ev_ex 0 (c' := (65, [some (.ref 1), some (.int l1), some (.int l2), some (.long l3), none, some (.int l5)], [], hX c T)) rfl ?_
  refine ev_ex 2 (c' := (68, [some (.ref 1), some (.int l1), some (.int l2), some (.long l3), none, some (.int l5)], [.int l2, .int l5], hX c T)) rfl ?_
  refine ev_icmp_ge (tgt := 103) rfl rfl (fun h => ?_) (fun h => ?_)
  · replace H := H.1 (h)
    refine ev_ex 1 (c' := (104, [some (.ref 1), some (.int l1), some (.int l2), some (.long l3), none, some (.int l5)], [.ref 1], hX c T)) rfl ?_
    refine xe_gf (ci := 12) (k := 12) rfl rfl (ob_lit (i := 0) rfl (by decide) rfl) ⟨by decide, by decide⟩ (v := .ref 225) rfl ?_
    refine ev_ex 2 (c' := (109, [some (.ref 1), some (.int l1), some (.int l2), some (.long l3), none, some (.int l5)], [.long l3, .int l2, .ref 225], hX c T)) rfl ?_
    obtain ⟨H0, H⟩ := H
    refine xe_ls rfl (ar_lit (i := 56) rfl (by decide) rfl) H0 ?_
    refine ev_ex 2 (c' := (35, [some (.ref 1), some (.int l1), some (.int (l2 + 1)), some (.long l3), none, some (.int l5)], [], hX c (tL T 225 (ix l2) l3))) rfl ?_
    exact ev_less (lle_of (L := [some (.ref 1), some (.int l1), some (.int (l2 + 1)), none, none, none]) ⟨rfl, ⟨rfl, ⟨rfl, trivial⟩⟩⟩) H
  · replace H := H.2 (h)
    refine ev_ex 1 (c' := (72, [some (.ref 1), some (.int l1), some (.int l2), some (.long l3), none, some (.int l5)], [.ref 1], hX c T)) rfl ?_
    refine xe_gf (ci := 12) (k := 12) rfl rfl (ob_lit (i := 0) rfl (by decide) rfl) ⟨by decide, by decide⟩ (v := .ref 225) rfl ?_
    refine ev_ex 1 (c' := (77, [some (.ref 1), some (.int l1), some (.int l2), some (.long l3), none, some (.int l5)], [.int l5, .ref 225], hX c T)) rfl ?_
    obtain ⟨H0, H⟩ := H
    refine xe_ll rfl (ar_lit (i := 56) rfl (by decide) rfl) H0 ?_
    refine ev_ex 0 (c' := (78, [some (.ref 1), some (.int l1), some (.int l2), some (.long l3), none, some (.int l5)], [.long (xL T 225 (ix l5))], hX c T)) rfl ?_
    refine ev_ex 2 (c' := (80, [some (.ref 1), some (.int l1), some (.int l2), some (.long l3), none, some (.int l5)], [.int (lg_cmp (xL T 225 (ix l5)) l3)], hX c T)) rfl ?_
    refine ev_if_ne (tgt := 97) rfl rfl (fun h => ?_) (fun h => ?_)
    · replace H := H.1 ((fun q => h ((lg_cmp_eq _ _).mpr q)))
      refine ev_ex 2 (c' := (65, [some (.ref 1), some (.int l1), some (.int l2), some (.long l3), none, some (.int (l5 + 1))], [], hX c T)) rfl ?_
      exact H
    · replace H := H.2 ((lg_cmp_eq _ _).mp h)
      refine ev_ex 1 (c' := (84, [some (.ref 1), some (.int l1), some (.int l2), some (.long l3), none, some (.int l5)], [.int l1], hX c T)) rfl ?_
      refine ev_if_ne (tgt := 92) rfl rfl (fun h => ?_) (fun h => ?_)
      · replace H := H.1 (h)
        refine ev_ex 3 (c' := (96, [some (.ref 1), some (.int l1), some (.int l2), some (.long l3), none, some (.int l5)], [.int (l2 - l5)], hX c T)) rfl ?_
        exact ev_ret rfl rfl rfl (Or.inl ⟨_, _, rfl, rfl, H⟩)
      · replace H := H.2 (h)
        refine ev_ex 2 (c' := (96, [some (.ref 1), some (.int l1), some (.int l2), some (.long l3), none, some (.int l5)], [.int l5], hX c T)) rfl ?_
        exact ev_ret rfl rfl rfl (Or.inl ⟨_, _, rfl, rfl, H⟩)
set_option maxRecDepth 8000 in
theorem wx_X_mocksIn {c : CX} {d : Nat} {T : XS} {Q : Int32 → XS → Prop} {E : Nat → XS → Prop} (a0 : Int32) (a1 : Int32) (H : XVt c d m_X_needGuild [.ref 1, .int a0] T (fun T1 => XVt c d m_X_needWithin [.int a1, .int 0, .int 1000] T1 (fun T2 => XV c d m_Sd_copyFrom [.ref 173, .ref 93] T2 (fun T3 => eX c (d + 1) m_X_mocksIn 32 [some (.ref 1), some (.int a0), some (.int a1), some (.int 1), some (.int 0)] T3 (yt c E (yI c Q)))) E) E) : XIt c (d + 1) m_X_mocksIn [.ref 1, .int a0, .int a1] T Q E := by
  refine ⟨q_X_mocksIn, rfl, Nat.le_of_ble_eq_true rfl, ?_⟩
  refine ev_ex 0 (c' := (0, [some (.ref 1), some (.int a0), some (.int a1), none, none], [], hX c T)) rfl ?_
  refine ev_ex 2 (c' := (2, [some (.ref 1), some (.int a0), some (.int a1), none, none], [.int a0, .ref 1], hX c T)) rfl ?_
  refine xt_V (idx := 110) rfl rfl rfl (Nat.le_of_ble_eq_true rfl) (Nat.le_of_ble_eq_true rfl) (x_rcv (T := T) (ob_lit (i := 0) rfl (by decide) rfl) ⟨by decide, by decide⟩ _ _) rfl rfl rfl rfl (by decide) H (fun T1 H => ?_)
  refine ev_ex 3 (c' := (10, [some (.ref 1), some (.int a0), some (.int a1), none, none], [.int 1000, .int 0, .int a1], hX c T1)) rfl ?_
  refine xt_V (idx := 113) rfl rfl rfl (Nat.le_of_ble_eq_true rfl) (Nat.le_of_ble_eq_true rfl) rfl rfl rfl rfl rfl (by decide) H (fun T2 H => ?_)
  refine ev_ex 1 (c' := (14, [some (.ref 1), some (.int a0), some (.int a1), none, none], [.ref 1], hX c T2)) rfl ?_
  refine xe_gf (ci := 12) (k := 11) rfl rfl (ob_lit (i := 0) rfl (by decide) rfl) ⟨by decide, by decide⟩ (v := .ref 173) rfl ?_
  refine ev_ex 1 (c' := (18, [some (.ref 1), some (.int a0), some (.int a1), none, none], [.ref 1, .ref 173], hX c T2)) rfl ?_
  refine xe_gf (ci := 12) (k := 5) rfl rfl (ob_lit (i := 0) rfl (by decide) rfl) ⟨by decide, by decide⟩ (v := .ref 49) rfl ?_
  refine xe_gf (ci := 4) (k := 0) rfl rfl (ob_lit (i := 12) rfl (by decide) rfl) ⟨by decide, by decide⟩ (v := .ref 93) rfl ?_
  refine xc_V (idx := 190) rfl rfl rfl (Nat.le_of_ble_eq_true rfl) (Nat.le_of_ble_eq_true rfl) (x_rcv (T := T2) (ob_lit (i := 43) rfl (by decide) rfl) ⟨by decide, by decide⟩ _ _) H (fun T3 H => ?_)
  refine ev_ex 4 (c' := (32, [some (.ref 1), some (.int a0), some (.int a1), some (.int 1), some (.int 0)], [], hX c T3)) rfl ?_
  exact H
set_option maxRecDepth 8000 in
theorem wx_X_mocksIn_32 {c : CX} {d : Nat} {T : XS} {Q : Int32 → XS → Prop} {E : Nat → XS → Prop} (l1 : Int32) (l2 : Int32) (l3 : Int32) (l4 : Int32) (H : ((l2 ≤ l4 → (okx l1 10 ∧ Q (xA T 213 (ix l1)) T)) ∧ (¬ l2 ≤ l4 → ((l3 = 0 → (okx l1 10 ∧ Q (xA T 213 (ix l1)) T)) ∧ (¬ l3 = 0 → XB c d m_Ct_passNight [.ref 117, .ref 173] T (fun v52 T51 => eX c (d + 1) m_X_mocksIn 32 [some (.ref 1), some (.int l1), some (.int l2), some (.int (bI v52)), some (.int (l4 + 1))] T51 (yt c E (yI c Q)))))))) : eX c (d + 1) m_X_mocksIn 32 [some (.ref 1), some (.int l1), some (.int l2), some (.int l3), some (.int l4)] T (yt c E (yI c Q)) := by
  unfold eX
  refine ev_ex 0 (c' := (32, [some (.ref 1), some (.int l1), some (.int l2), some (.int l3), some (.int l4)], [], hX c T)) rfl ?_
  refine ev_ex 2 (c' := (35, [some (.ref 1), some (.int l1), some (.int l2), some (.int l3), some (.int l4)], [.int l2, .int l4], hX c T)) rfl ?_
  refine ev_icmp_ge (tgt := 60) rfl rfl (fun h => ?_) (fun h => ?_)
  · replace H := H.1 (h)
    refine ev_ex 1 (c' := (61, [some (.ref 1), some (.int l1), some (.int l2), some (.int l3), some (.int l4)], [.ref 1], hX c T)) rfl ?_
    refine xe_gf (ci := 12) (k := 11) rfl rfl (ob_lit (i := 0) rfl (by decide) rfl) ⟨by decide, by decide⟩ (v := .ref 173) rfl ?_
    refine xe_gf (ci := 9) (k := 1) rfl rfl (ob_lit (i := 43) rfl (by decide) rfl) ⟨by decide, by decide⟩ (v := .ref 213) rfl ?_
    refine ev_ex 1 (c' := (68, [some (.ref 1), some (.int l1), some (.int l2), some (.int l3), some (.int l4)], [.int l1, .ref 213], hX c T)) rfl ?_
    obtain ⟨H0, H⟩ := H
    refine xe_al rfl (ar_lit (i := 53) rfl (by decide) rfl) H0 ?_
    refine ev_ex 0 (c' := (69, [some (.ref 1), some (.int l1), some (.int l2), some (.int l3), some (.int l4)], [.int (xA T 213 (ix l1))], hX c T)) rfl ?_
    exact ev_ret rfl rfl rfl (Or.inl ⟨_, _, rfl, rfl, H⟩)
  · replace H := H.2 (h)
    refine ev_ex 1 (c' := (39, [some (.ref 1), some (.int l1), some (.int l2), some (.int l3), some (.int l4)], [.int l3], hX c T)) rfl ?_
    refine ev_if_eq (tgt := 60) rfl rfl (fun h => ?_) (fun h => ?_)
    · replace H := H.1 (h)
      refine ev_ex 1 (c' := (61, [some (.ref 1), some (.int l1), some (.int l2), some (.int l3), some (.int l4)], [.ref 1], hX c T)) rfl ?_
      refine xe_gf (ci := 12) (k := 11) rfl rfl (ob_lit (i := 0) rfl (by decide) rfl) ⟨by decide, by decide⟩ (v := .ref 173) rfl ?_
      refine xe_gf (ci := 9) (k := 1) rfl rfl (ob_lit (i := 43) rfl (by decide) rfl) ⟨by decide, by decide⟩ (v := .ref 213) rfl ?_
      refine ev_ex 1 (c' := (68, [some (.ref 1), some (.int l1), some (.int l2), some (.int l3), some (.int l4)], [.int l1, .ref 213], hX c T)) rfl ?_
      obtain ⟨H0, H⟩ := H
      refine xe_al rfl (ar_lit (i := 53) rfl (by decide) rfl) H0 ?_
      refine ev_ex 0 (c' := (69, [some (.ref 1), some (.int l1), some (.int l2), some (.int l3), some (.int l4)], [.int (xA T 213 (ix l1))], hX c T)) rfl ?_
      exact ev_ret rfl rfl rfl (Or.inl ⟨_, _, rfl, rfl, H⟩)
    · replace H := H.2 (h)
      refine ev_ex 1 (c' := (43, [some (.ref 1), some (.int l1), some (.int l2), some (.int l3), some (.int l4)], [.ref 1], hX c T)) rfl ?_
      refine xe_gf (ci := 12) (k := 8) rfl rfl (ob_lit (i := 0) rfl (by decide) rfl) ⟨by decide, by decide⟩ (v := .ref 117) rfl ?_
      refine ev_ex 1 (c' := (47, [some (.ref 1), some (.int l1), some (.int l2), some (.int l3), some (.int l4)], [.ref 1, .ref 117], hX c T)) rfl ?_
      refine xe_gf (ci := 12) (k := 11) rfl rfl (ob_lit (i := 0) rfl (by decide) rfl) ⟨by decide, by decide⟩ (v := .ref 173) rfl ?_
      refine xc_B (idx := 194) rfl rfl rfl (Nat.le_of_ble_eq_true rfl) (Nat.le_of_ble_eq_true rfl) (x_rcv (T := T) (ob_lit (i := 29) rfl (by decide) rfl) ⟨by decide, by decide⟩ _ _) H (fun v52 T51 H => ?_)
      refine ev_ex 3 (c' := (32, [some (.ref 1), some (.int l1), some (.int l2), some (.int (bI v52)), some (.int (l4 + 1))], [], hX c T51)) rfl ?_
      exact H
set_option maxRecDepth 8000 in
theorem wx_X_seen {c : CX} {d : Nat} {T : XS} {Q : Int32 → XS → Prop} {E : Nat → XS → Prop} (a0 : Int32) (H : XOt c d m_X_needTray [.ref 1, .int a0] T (fun v2 T1 => (∃ b3 : Nat, v2 = some b3 ∧ XVt c d m_X_needSight [.ref 1, .ref b3] T1 (fun T4 => XV c d m_Sd_copyFrom [.ref 173, .ref 93] T4 (fun T5 => eX c (d + 1) m_X_seen 30 [some (.ref 1), some (.int a0), some (.ref b3), some (.int 1), some (.int 0)] T5 (yt c E (yI c Q)))) E)) E) : XIt c (d + 1) m_X_seen [.ref 1, .int a0] T Q E := by
  refine ⟨q_X_seen, rfl, Nat.le_of_ble_eq_true rfl, ?_⟩
  refine ev_ex 0 (c' := (0, [some (.ref 1), some (.int a0), none, none, none], [], hX c T)) rfl ?_
  refine ev_ex 2 (c' := (2, [some (.ref 1), some (.int a0), none, none, none], [.int a0, .ref 1], hX c T)) rfl ?_
  refine xt_O (idx := 204) rfl rfl rfl (Nat.le_of_ble_eq_true rfl) (Nat.le_of_ble_eq_true rfl) (x_rcv (T := T) (ob_lit (i := 0) rfl (by decide) rfl) ⟨by decide, by decide⟩ _ _) rfl rfl rfl rfl (by decide) H (fun v2 T1 H => ?_)
  obtain ⟨b3, rfl, H⟩ := H
  refine ev_ex 0 (c' := (5, [some (.ref 1), some (.int a0), none, none, none], [.ref b3], hX c T1)) rfl ?_
  refine ev_ex 3 (c' := (8, [some (.ref 1), some (.int a0), some (.ref b3), none, none], [.ref b3, .ref 1], hX c T1)) rfl ?_
  refine xt_V (idx := 345) rfl rfl rfl (Nat.le_of_ble_eq_true rfl) (Nat.le_of_ble_eq_true rfl) (x_rcv (T := T1) (ob_lit (i := 0) rfl (by decide) rfl) ⟨by decide, by decide⟩ _ _) rfl rfl rfl rfl (by decide) H (fun T4 H => ?_)
  refine ev_ex 1 (c' := (12, [some (.ref 1), some (.int a0), some (.ref b3), none, none], [.ref 1], hX c T4)) rfl ?_
  refine xe_gf (ci := 12) (k := 11) rfl rfl (ob_lit (i := 0) rfl (by decide) rfl) ⟨by decide, by decide⟩ (v := .ref 173) rfl ?_
  refine ev_ex 1 (c' := (16, [some (.ref 1), some (.int a0), some (.ref b3), none, none], [.ref 1, .ref 173], hX c T4)) rfl ?_
  refine xe_gf (ci := 12) (k := 5) rfl rfl (ob_lit (i := 0) rfl (by decide) rfl) ⟨by decide, by decide⟩ (v := .ref 49) rfl ?_
  refine xe_gf (ci := 4) (k := 0) rfl rfl (ob_lit (i := 12) rfl (by decide) rfl) ⟨by decide, by decide⟩ (v := .ref 93) rfl ?_
  refine xc_V (idx := 190) rfl rfl rfl (Nat.le_of_ble_eq_true rfl) (Nat.le_of_ble_eq_true rfl) (x_rcv (T := T4) (ob_lit (i := 43) rfl (by decide) rfl) ⟨by decide, by decide⟩ _ _) H (fun T5 H => ?_)
  refine ev_ex 4 (c' := (30, [some (.ref 1), some (.int a0), some (.ref b3), some (.int 1), some (.int 0)], [], hX c T5)) rfl ?_
  exact H
set_option maxRecDepth 8000 in
theorem wx_X_seen_30 {c : CX} {d : Nat} {T : XS} {Q : Int32 → XS → Prop} {E : Nat → XS → Prop} (l1 : Int32) (b3 : Nat) (l3 : Int32) (l4 : Int32) (H : ((200 < l4 → Q ((-1)) T) ∧ (¬ 200 < l4 → ((l3 = 0 → Q ((-1)) T) ∧ (¬ l3 = 0 → XB c d m_X_looksSo [.ref 1, .ref b3] T (fun v52 T51 => ((v52 = false → XB c d m_Ct_passNight [.ref 117, .ref 173] T51 (fun v54 T53 => eX c (d + 1) m_X_seen 30 [some (.ref 1), some (.int l1), some (.ref b3), some (.int (bI v54)), some (.int (l4 + 1))] T53 (yt c E (yI c Q)))) ∧ (v52 = true → Q l4 T51)))))))) : eX c (d + 1) m_X_seen 30 [some (.ref 1), some (.int l1), some (.ref b3), some (.int l3), some (.int l4)] T (yt c E (yI c Q)) := by
  unfold eX
  refine ev_ex 0 (c' := (30, [some (.ref 1), some (.int l1), some (.ref b3), some (.int l3), some (.int l4)], [], hX c T)) rfl ?_
  refine ev_ex 2 (c' := (35, [some (.ref 1), some (.int l1), some (.ref b3), some (.int l3), some (.int l4)], [.int 200, .int l4], hX c T)) rfl ?_
  refine ev_icmp_gt (tgt := 71) rfl rfl (fun h => ?_) (fun h => ?_)
  · replace H := H.1 (h)
    refine ev_ex 1 (c' := (72, [some (.ref 1), some (.int l1), some (.ref b3), some (.int l3), some (.int l4)], [.int ((-1))], hX c T)) rfl ?_
    exact ev_ret rfl rfl rfl (Or.inl ⟨_, _, rfl, rfl, H⟩)
  · replace H := H.2 (h)
    refine ev_ex 1 (c' := (39, [some (.ref 1), some (.int l1), some (.ref b3), some (.int l3), some (.int l4)], [.int l3], hX c T)) rfl ?_
    refine ev_if_eq (tgt := 71) rfl rfl (fun h => ?_) (fun h => ?_)
    · replace H := H.1 (h)
      refine ev_ex 1 (c' := (72, [some (.ref 1), some (.int l1), some (.ref b3), some (.int l3), some (.int l4)], [.int ((-1))], hX c T)) rfl ?_
      exact ev_ret rfl rfl rfl (Or.inl ⟨_, _, rfl, rfl, H⟩)
    · replace H := H.2 (h)
      refine ev_ex 2 (c' := (44, [some (.ref 1), some (.int l1), some (.ref b3), some (.int l3), some (.int l4)], [.ref b3, .ref 1], hX c T)) rfl ?_
      refine xc_B (idx := 349) rfl rfl rfl (Nat.le_of_ble_eq_true rfl) (Nat.le_of_ble_eq_true rfl) (x_rcv (T := T) (ob_lit (i := 0) rfl (by decide) rfl) ⟨by decide, by decide⟩ _ _) H (fun v52 T51 H => ?_)
      refine ev_if_eqB (x := v52) (tgt := 53) rfl rfl (fun h => ?_) (fun h => ?_)
      · replace H := H.1 (h)
        refine ev_ex 1 (c' := (54, [some (.ref 1), some (.int l1), some (.ref b3), some (.int l3), some (.int l4)], [.ref 1], hX c T51)) rfl ?_
        refine xe_gf (ci := 12) (k := 8) rfl rfl (ob_lit (i := 0) rfl (by decide) rfl) ⟨by decide, by decide⟩ (v := .ref 117) rfl ?_
        refine ev_ex 1 (c' := (58, [some (.ref 1), some (.int l1), some (.ref b3), some (.int l3), some (.int l4)], [.ref 1, .ref 117], hX c T51)) rfl ?_
        refine xe_gf (ci := 12) (k := 11) rfl rfl (ob_lit (i := 0) rfl (by decide) rfl) ⟨by decide, by decide⟩ (v := .ref 173) rfl ?_
        refine xc_B (idx := 194) rfl rfl rfl (Nat.le_of_ble_eq_true rfl) (Nat.le_of_ble_eq_true rfl) (x_rcv (T := T51) (ob_lit (i := 29) rfl (by decide) rfl) ⟨by decide, by decide⟩ _ _) H (fun v54 T53 H => ?_)
        refine ev_ex 3 (c' := (30, [some (.ref 1), some (.int l1), some (.ref b3), some (.int (bI v54)), some (.int (l4 + 1))], [], hX c T53)) rfl ?_
        exact H
      · replace H := H.2 (h)
        refine ev_ex 1 (c' := (52, [some (.ref 1), some (.int l1), some (.ref b3), some (.int l3), some (.int l4)], [.int l4], hX c T51)) rfl ?_
        exact ev_ret rfl rfl rfl (Or.inl ⟨_, _, rfl, rfl, H⟩)
set_option maxRecDepth 8000 in
theorem wx_X_ever {c : CX} {d : Nat} {T : XS} {Q : Int32 → XS → Prop} {E : Nat → XS → Prop} (a0 : Int32) (a1 : Int32) (H : XVt c d m_X_needGuild [.ref 1, .int a0] T (fun T1 => XVt c d m_X_needWithin [.int a1, .int 0, .int 1000] T1 (fun T2 => XV c d m_Sd_copyFrom [.ref 173, .ref 93] T2 (fun T3 => (okx a0 10 ∧ eX c (d + 1) m_X_ever 43 [some (.ref 1), some (.int a0), some (.int a1), some (.int (xA T3 217 (ix a0))), some (.int 1), some (.int 0)] T3 (yt c E (yI c Q))))) E) E) : XIt c (d + 1) m_X_ever [.ref 1, .int a0, .int a1] T Q E := by
  refine ⟨q_X_ever, rfl, Nat.le_of_ble_eq_true rfl, ?_⟩
  refine ev_ex 0 (c' := (0, [some (.ref 1), some (.int a0), some (.int a1), none, none, none], [], hX c T)) rfl ?_
  refine ev_ex 2 (c' := (2, [some (.ref 1), some (.int a0), some (.int a1), none, none, none], [.int a0, .ref 1], hX c T)) rfl ?_
  refine xt_V (idx := 110) rfl rfl rfl (Nat.le_of_ble_eq_true rfl) (Nat.le_of_ble_eq_true rfl) (x_rcv (T := T) (ob_lit (i := 0) rfl (by decide) rfl) ⟨by decide, by decide⟩ _ _) rfl rfl rfl rfl (by decide) H (fun T1 H => ?_)
  refine ev_ex 3 (c' := (10, [some (.ref 1), some (.int a0), some (.int a1), none, none, none], [.int 1000, .int 0, .int a1], hX c T1)) rfl ?_
  refine xt_V (idx := 113) rfl rfl rfl (Nat.le_of_ble_eq_true rfl) (Nat.le_of_ble_eq_true rfl) rfl rfl rfl rfl rfl (by decide) H (fun T2 H => ?_)
  refine ev_ex 1 (c' := (14, [some (.ref 1), some (.int a0), some (.int a1), none, none, none], [.ref 1], hX c T2)) rfl ?_
  refine xe_gf (ci := 12) (k := 11) rfl rfl (ob_lit (i := 0) rfl (by decide) rfl) ⟨by decide, by decide⟩ (v := .ref 173) rfl ?_
  refine ev_ex 1 (c' := (18, [some (.ref 1), some (.int a0), some (.int a1), none, none, none], [.ref 1, .ref 173], hX c T2)) rfl ?_
  refine xe_gf (ci := 12) (k := 5) rfl rfl (ob_lit (i := 0) rfl (by decide) rfl) ⟨by decide, by decide⟩ (v := .ref 49) rfl ?_
  refine xe_gf (ci := 4) (k := 0) rfl rfl (ob_lit (i := 12) rfl (by decide) rfl) ⟨by decide, by decide⟩ (v := .ref 93) rfl ?_
  refine xc_V (idx := 190) rfl rfl rfl (Nat.le_of_ble_eq_true rfl) (Nat.le_of_ble_eq_true rfl) (x_rcv (T := T2) (ob_lit (i := 43) rfl (by decide) rfl) ⟨by decide, by decide⟩ _ _) H (fun T3 H => ?_)
  refine ev_ex 1 (c' := (28, [some (.ref 1), some (.int a0), some (.int a1), none, none, none], [.ref 1], hX c T3)) rfl ?_
  refine xe_gf (ci := 12) (k := 11) rfl rfl (ob_lit (i := 0) rfl (by decide) rfl) ⟨by decide, by decide⟩ (v := .ref 173) rfl ?_
  refine xe_gf (ci := 9) (k := 2) rfl rfl (ob_lit (i := 43) rfl (by decide) rfl) ⟨by decide, by decide⟩ (v := .ref 217) rfl ?_
  refine ev_ex 1 (c' := (35, [some (.ref 1), some (.int a0), some (.int a1), none, none, none], [.int a0, .ref 217], hX c T3)) rfl ?_
  obtain ⟨H0, H⟩ := H
  refine xe_al rfl (ar_lit (i := 54) rfl (by decide) rfl) H0 ?_
  refine ev_ex 0 (c' := (36, [some (.ref 1), some (.int a0), some (.int a1), none, none, none], [.int (xA T3 217 (ix a0))], hX c T3)) rfl ?_
  refine ev_ex 5 (c' := (43, [some (.ref 1), some (.int a0), some (.int a1), some (.int (xA T3 217 (ix a0))), some (.int 1), some (.int 0)], [], hX c T3)) rfl ?_
  exact H
set_option maxRecDepth 8000 in
theorem wx_X_ever_43 {c : CX} {d : Nat} {T : XS} {Q : Int32 → XS → Prop} {E : Nat → XS → Prop} (l1 : Int32) (l2 : Int32) (l3 : Int32) (l4 : Int32) (l5 : Int32) (H : ((l2 ≤ l5 → Q l3 T) ∧ (¬ l2 ≤ l5 → ((l4 = 0 → Q l3 T) ∧ (¬ l4 = 0 → XB c d m_Ct_passNight [.ref 117, .ref 173] T (fun v52 T51 => (okx l1 10 ∧ eX c (d + 1) m_X_ever 43 [some (.ref 1), some (.int l1), some (.int l2), some (.int (l3 ||| (xA T51 217 (ix l1)))), some (.int (bI v52)), some (.int (l5 + 1))] T51 (yt c E (yI c Q))))))))) : eX c (d + 1) m_X_ever 43 [some (.ref 1), some (.int l1), some (.int l2), some (.int l3), some (.int l4), some (.int l5)] T (yt c E (yI c Q)) := by
  unfold eX
  refine ev_ex 0 (c' := (43, [some (.ref 1), some (.int l1), some (.int l2), some (.int l3), some (.int l4), some (.int l5)], [], hX c T)) rfl ?_
  refine ev_ex 2 (c' := (46, [some (.ref 1), some (.int l1), some (.int l2), some (.int l3), some (.int l4), some (.int l5)], [.int l2, .int l5], hX c T)) rfl ?_
  refine ev_icmp_ge (tgt := 85) rfl rfl (fun h => ?_) (fun h => ?_)
  · replace H := H.1 (h)
    refine ev_ex 1 (c' := (86, [some (.ref 1), some (.int l1), some (.int l2), some (.int l3), some (.int l4), some (.int l5)], [.int l3], hX c T)) rfl ?_
    exact ev_ret rfl rfl rfl (Or.inl ⟨_, _, rfl, rfl, H⟩)
  · replace H := H.2 (h)
    refine ev_ex 1 (c' := (51, [some (.ref 1), some (.int l1), some (.int l2), some (.int l3), some (.int l4), some (.int l5)], [.int l4], hX c T)) rfl ?_
    refine ev_if_eq (tgt := 85) rfl rfl (fun h => ?_) (fun h => ?_)
    · replace H := H.1 (h)
      refine ev_ex 1 (c' := (86, [some (.ref 1), some (.int l1), some (.int l2), some (.int l3), some (.int l4), some (.int l5)], [.int l3], hX c T)) rfl ?_
      exact ev_ret rfl rfl rfl (Or.inl ⟨_, _, rfl, rfl, H⟩)
    · replace H := H.2 (h)
      refine ev_ex 1 (c' := (55, [some (.ref 1), some (.int l1), some (.int l2), some (.int l3), some (.int l4), some (.int l5)], [.ref 1], hX c T)) rfl ?_
      refine xe_gf (ci := 12) (k := 8) rfl rfl (ob_lit (i := 0) rfl (by decide) rfl) ⟨by decide, by decide⟩ (v := .ref 117) rfl ?_
      refine ev_ex 1 (c' := (59, [some (.ref 1), some (.int l1), some (.int l2), some (.int l3), some (.int l4), some (.int l5)], [.ref 1, .ref 117], hX c T)) rfl ?_
      refine xe_gf (ci := 12) (k := 11) rfl rfl (ob_lit (i := 0) rfl (by decide) rfl) ⟨by decide, by decide⟩ (v := .ref 173) rfl ?_
      refine xc_B (idx := 194) rfl rfl rfl (Nat.le_of_ble_eq_true rfl) (Nat.le_of_ble_eq_true rfl) (x_rcv (T := T) (ob_lit (i := 29) rfl (by decide) rfl) ⟨by decide, by decide⟩ _ _) H (fun v52 T51 H => ?_)
      refine ev_ex 3 (c' := (69, [some (.ref 1), some (.int l1), some (.int l2), some (.int l3), some (.int (bI v52)), some (.int l5)], [.ref 1, .int l3], hX c T51)) rfl ?_
      refine xe_gf (ci := 12) (k := 11) rfl rfl (ob_lit (i := 0) rfl (by decide) rfl) ⟨by decide, by decide⟩ (v := .ref 173) rfl ?_
      refine xe_gf (ci := 9) (k := 2) rfl rfl (ob_lit (i := 43) rfl (by decide) rfl) ⟨by decide, by decide⟩ (v := .ref 217) rfl ?_
      refine ev_ex 1 (c' := (76, [some (.ref 1), some (.int l1), some (.int l2), some (.int l3), some (.int (bI v52)), some (.int l5)], [.int l1, .ref 217, .int l3], hX c T51)) rfl ?_
      obtain ⟨H0, H⟩ := H
      refine xe_al rfl (ar_lit (i := 54) rfl (by decide) rfl) H0 ?_
      refine ev_ex 0 (c' := (77, [some (.ref 1), some (.int l1), some (.int l2), some (.int l3), some (.int (bI v52)), some (.int l5)], [.int (xA T51 217 (ix l1)), .int l3], hX c T51)) rfl ?_
      refine ev_ex 4 (c' := (43, [some (.ref 1), some (.int l1), some (.int l2), some (.int (l3 ||| (xA T51 217 (ix l1)))), some (.int (bI v52)), some (.int (l5 + 1))], [], hX c T51)) rfl ?_
      exact H
set_option maxRecDepth 8000 in
theorem wx_X_fewest {c : CX} {d : Nat} {T : XS} {Q : Int32 → XS → Prop} {E : Nat → XS → Prop} (a0 : Int32) (a1 : Int32) (H : XVt c d m_X_needWithin [.int a0, .int 0, .int 200] T (fun T1 => XVt c d m_X_needWithin [.int a1, .int 0, .int 1] T1 (fun T2 => XV c d m_Sd_copyFrom [.ref 173, .ref 93] T2 (fun T3 => XO c d m_Rw_build [.ref 129, .ref 173] T3 (fun v5 T4 => (v5 = some 129 ∧ eX c (d + 1) m_X_fewest 52 [some (.ref 1), some (.int a0), some (.int a1), some (.int (xI T4 129 3)), some (.int 0), some (.int 1), some (.int 1), none] T4 (yt c E (yI c Q)))))) E) E) : XIt c (d + 1) m_X_fewest [.ref 1, .int a0, .int a1] T Q E := by
  refine ⟨q_X_fewest, rfl, Nat.le_of_ble_eq_true rfl, ?_⟩
  refine ev_ex 0 (c' := (0, [some (.ref 1), some (.int a0), some (.int a1), none, none, none, none, none], [], hX c T)) rfl ?_
  refine ev_ex 3 (c' := (5, [some (.ref 1), some (.int a0), some (.int a1), none, none, none, none, none], [.int 200, .int 0, .int a0], hX c T)) rfl ?_
  refine xt_V (idx := 113) rfl rfl rfl (Nat.le_of_ble_eq_true rfl) (Nat.le_of_ble_eq_true rfl) rfl rfl rfl rfl rfl (by decide) H (fun T1 H => ?_)
  refine ev_ex 3 (c' := (11, [some (.ref 1), some (.int a0), some (.int a1), none, none, none, none, none], [.int 1, .int 0, .int a1], hX c T1)) rfl ?_
  refine xt_V (idx := 113) rfl rfl rfl (Nat.le_of_ble_eq_true rfl) (Nat.le_of_ble_eq_true rfl) rfl rfl rfl rfl rfl (by decide) H (fun T2 H => ?_)
  refine ev_ex 1 (c' := (15, [some (.ref 1), some (.int a0), some (.int a1), none, none, none, none, none], [.ref 1], hX c T2)) rfl ?_
  refine xe_gf (ci := 12) (k := 11) rfl rfl (ob_lit (i := 0) rfl (by decide) rfl) ⟨by decide, by decide⟩ (v := .ref 173) rfl ?_
  refine ev_ex 1 (c' := (19, [some (.ref 1), some (.int a0), some (.int a1), none, none, none, none, none], [.ref 1, .ref 173], hX c T2)) rfl ?_
  refine xe_gf (ci := 12) (k := 5) rfl rfl (ob_lit (i := 0) rfl (by decide) rfl) ⟨by decide, by decide⟩ (v := .ref 49) rfl ?_
  refine xe_gf (ci := 4) (k := 0) rfl rfl (ob_lit (i := 12) rfl (by decide) rfl) ⟨by decide, by decide⟩ (v := .ref 93) rfl ?_
  refine xc_V (idx := 190) rfl rfl rfl (Nat.le_of_ble_eq_true rfl) (Nat.le_of_ble_eq_true rfl) (x_rcv (T := T2) (ob_lit (i := 43) rfl (by decide) rfl) ⟨by decide, by decide⟩ _ _) H (fun T3 H => ?_)
  refine ev_ex 1 (c' := (29, [some (.ref 1), some (.int a0), some (.int a1), none, none, none, none, none], [.ref 1], hX c T3)) rfl ?_
  refine xe_gf (ci := 12) (k := 9) rfl rfl (ob_lit (i := 0) rfl (by decide) rfl) ⟨by decide, by decide⟩ (v := .ref 129) rfl ?_
  refine ev_ex 1 (c' := (33, [some (.ref 1), some (.int a0), some (.int a1), none, none, none, none, none], [.ref 1, .ref 129], hX c T3)) rfl ?_
  refine xe_gf (ci := 12) (k := 11) rfl rfl (ob_lit (i := 0) rfl (by decide) rfl) ⟨by decide, by decide⟩ (v := .ref 173) rfl ?_
  refine xc_O (idx := 226) rfl rfl rfl (Nat.le_of_ble_eq_true rfl) (Nat.le_of_ble_eq_true rfl) (x_rcv (T := T3) (ob_lit (i := 32) rfl (by decide) rfl) ⟨by decide, by decide⟩ _ _) H (fun v5 T4 H => ?_)
  obtain ⟨rfl, H⟩ := H
  refine ev_ex 0 (c' := (39, [some (.ref 1), some (.int a0), some (.int a1), none, none, none, none, none], [.ref 129], hX c T4)) rfl ?_
  refine xe_gf (ci := 8) (k := 3) rfl rfl (ob_lit (i := 32) rfl (by decide) rfl) ⟨by decide, by decide⟩ (v := .int (xI T4 129 3)) rfl ?_
  refine ev_ex 7 (c' := (52, [some (.ref 1), some (.int a0), some (.int a1), some (.int (xI T4 129 3)), some (.int 0), some (.int 1), some (.int 1), none], [], hX c T4)) rfl ?_
  exact H
set_option maxRecDepth 8000 in
theorem wx_X_fewest_52 {c : CX} {d : Nat} {T : XS} {Q : Int32 → XS → Prop} {E : Nat → XS → Prop} (l1 : Int32) (l2 : Int32) (l3 : Int32) (l4 : Int32) (l5 : Int32) (l6 : Int32) (H : ((l1 < l6 → ((¬ l2 = 0 → Q l4 T) ∧ (l2 = 0 → Q l3 T))) ∧ (¬ l1 < l6 → ((l5 = 0 → ((¬ l2 = 0 → Q l4 T) ∧ (l2 = 0 → Q l3 T))) ∧ (¬ l5 = 0 → XB c d m_Ct_passNight [.ref 117, .ref 173] T (fun v52 T51 => XO c d m_Rw_build [.ref 129, .ref 173] T51 (fun v54 T53 => (v54 = some 129 ∧ ((l3 ≤ (xI T53 129 3) → eX c (d + 1) m_X_fewest 52 [some (.ref 1), some (.int l1), some (.int l2), some (.int l3), some (.int l4), some (.int (bI v52)), some (.int (l6 + 1)), none] T53 (yt c E (yI c Q))) ∧ (¬ l3 ≤ (xI T53 129 3) → eX c (d + 1) m_X_fewest 52 [some (.ref 1), some (.int l1), some (.int l2), some (.int (xI T53 129 3)), some (.int l6), some (.int (bI v52)), some (.int (l6 + 1)), none] T53 (yt c E (yI c Q)))))))))))) : eX c (d + 1) m_X_fewest 52 [some (.ref 1), some (.int l1), some (.int l2), some (.int l3), some (.int l4), some (.int l5), some (.int l6), none] T (yt c E (yI c Q)) := by
  unfold eX
  refine ev_ex 0 (c' := (52, [some (.ref 1), some (.int l1), some (.int l2), some (.int l3), some (.int l4), some (.int l5), some (.int l6), none], [], hX c T)) rfl ?_
  refine ev_ex 2 (c' := (55, [some (.ref 1), some (.int l1), some (.int l2), some (.int l3), some (.int l4), some (.int l5), some (.int l6), none], [.int l1, .int l6], hX c T)) rfl ?_
  refine ev_icmp_gt (tgt := 111) rfl rfl (fun h => ?_) (fun h => ?_)
  · replace H := H.1 (h)
    refine ev_ex 1 (c' := (112, [some (.ref 1), some (.int l1), some (.int l2), some (.int l3), some (.int l4), some (.int l5), some (.int l6), none], [.int l2], hX c T)) rfl ?_
    refine ev_if_ne (tgt := 119) rfl rfl (fun h => ?_) (fun h => ?_)
    · replace H := H.1 (h)
      refine ev_ex 1 (c' := (121, [some (.ref 1), some (.int l1), some (.int l2), some (.int l3), some (.int l4), some (.int l5), some (.int l6), none], [.int l4], hX c T)) rfl ?_
      exact ev_ret rfl rfl rfl (Or.inl ⟨_, _, rfl, rfl, H⟩)
    · replace H := H.2 (h)
      refine ev_ex 2 (c' := (121, [some (.ref 1), some (.int l1), some (.int l2), some (.int l3), some (.int l4), some (.int l5), some (.int l6), none], [.int l3], hX c T)) rfl ?_
      exact ev_ret rfl rfl rfl (Or.inl ⟨_, _, rfl, rfl, H⟩)
  · replace H := H.2 (h)
    refine ev_ex 1 (c' := (60, [some (.ref 1), some (.int l1), some (.int l2), some (.int l3), some (.int l4), some (.int l5), some (.int l6), none], [.int l5], hX c T)) rfl ?_
    refine ev_if_eq (tgt := 111) rfl rfl (fun h => ?_) (fun h => ?_)
    · replace H := H.1 (h)
      refine ev_ex 1 (c' := (112, [some (.ref 1), some (.int l1), some (.int l2), some (.int l3), some (.int l4), some (.int l5), some (.int l6), none], [.int l2], hX c T)) rfl ?_
      refine ev_if_ne (tgt := 119) rfl rfl (fun h => ?_) (fun h => ?_)
      · replace H := H.1 (h)
        refine ev_ex 1 (c' := (121, [some (.ref 1), some (.int l1), some (.int l2), some (.int l3), some (.int l4), some (.int l5), some (.int l6), none], [.int l4], hX c T)) rfl ?_
        exact ev_ret rfl rfl rfl (Or.inl ⟨_, _, rfl, rfl, H⟩)
      · replace H := H.2 (h)
        refine ev_ex 2 (c' := (121, [some (.ref 1), some (.int l1), some (.int l2), some (.int l3), some (.int l4), some (.int l5), some (.int l6), none], [.int l3], hX c T)) rfl ?_
        exact ev_ret rfl rfl rfl (Or.inl ⟨_, _, rfl, rfl, H⟩)
    · replace H := H.2 (h)
      refine ev_ex 1 (c' := (64, [some (.ref 1), some (.int l1), some (.int l2), some (.int l3), some (.int l4), some (.int l5), some (.int l6), none], [.ref 1], hX c T)) rfl ?_
      refine xe_gf (ci := 12) (k := 8) rfl rfl (ob_lit (i := 0) rfl (by decide) rfl) ⟨by decide, by decide⟩ (v := .ref 117) rfl ?_
      refine ev_ex 1 (c' := (68, [some (.ref 1), some (.int l1), some (.int l2), some (.int l3), some (.int l4), some (.int l5), some (.int l6), none], [.ref 1, .ref 117], hX c T)) rfl ?_
      refine xe_gf (ci := 12) (k := 11) rfl rfl (ob_lit (i := 0) rfl (by decide) rfl) ⟨by decide, by decide⟩ (v := .ref 173) rfl ?_
      refine xc_B (idx := 194) rfl rfl rfl (Nat.le_of_ble_eq_true rfl) (Nat.le_of_ble_eq_true rfl) (x_rcv (T := T) (ob_lit (i := 29) rfl (by decide) rfl) ⟨by decide, by decide⟩ _ _) H (fun v52 T51 H => ?_)
      refine ev_ex 2 (c' := (77, [some (.ref 1), some (.int l1), some (.int l2), some (.int l3), some (.int l4), some (.int (bI v52)), some (.int l6), none], [.ref 1], hX c T51)) rfl ?_
      refine xe_gf (ci := 12) (k := 9) rfl rfl (ob_lit (i := 0) rfl (by decide) rfl) ⟨by decide, by decide⟩ (v := .ref 129) rfl ?_
      refine ev_ex 1 (c' := (81, [some (.ref 1), some (.int l1), some (.int l2), some (.int l3), some (.int l4), some (.int (bI v52)), some (.int l6), none], [.ref 1, .ref 129], hX c T51)) rfl ?_
      refine xe_gf (ci := 12) (k := 11) rfl rfl (ob_lit (i := 0) rfl (by decide) rfl) ⟨by decide, by decide⟩ (v := .ref 173) rfl ?_
      refine xc_O (idx := 226) rfl rfl rfl (Nat.le_of_ble_eq_true rfl) (Nat.le_of_ble_eq_true rfl) (x_rcv (T := T51) (ob_lit (i := 32) rfl (by decide) rfl) ⟨by decide, by decide⟩ _ _) H (fun v54 T53 H => ?_)
      obtain ⟨rfl, H⟩ := H
      refine ev_ex 0 (c' := (87, [some (.ref 1), some (.int l1), some (.int l2), some (.int l3), some (.int l4), some (.int (bI v52)), some (.int l6), none], [.ref 129], hX c T53)) rfl ?_
      refine xe_gf (ci := 8) (k := 3) rfl rfl (ob_lit (i := 32) rfl (by decide) rfl) ⟨by decide, by decide⟩ (v := .int (xI T53 129 3)) rfl ?_
      refine ev_ex 3 (c' := (95, [some (.ref 1), some (.int l1), some (.int l2), some (.int l3), some (.int l4), some (.int (bI v52)), some (.int l6), some (.int (xI T53 129 3))], [.int l3, .int (xI T53 129 3)], hX c T53)) rfl ?_
      refine ev_icmp_ge (tgt := 105) rfl rfl (fun h => ?_) (fun h => ?_)
      · replace H := H.1 (h)
        refine ev_ex 2 (c' := (52, [some (.ref 1), some (.int l1), some (.int l2), some (.int l3), some (.int l4), some (.int (bI v52)), some (.int (l6 + 1)), some (.int (xI T53 129 3))], [], hX c T53)) rfl ?_
        exact ev_less (lle_of (L := [some (.ref 1), some (.int l1), some (.int l2), some (.int l3), some (.int l4), some (.int (bI v52)), some (.int (l6 + 1)), none]) ⟨rfl, ⟨rfl, ⟨rfl, ⟨rfl, ⟨rfl, ⟨rfl, ⟨rfl, trivial⟩⟩⟩⟩⟩⟩⟩) H
      · replace H := H.2 (h)
        refine ev_ex 6 (c' := (52, [some (.ref 1), some (.int l1), some (.int l2), some (.int (xI T53 129 3)), some (.int l6), some (.int (bI v52)), some (.int (l6 + 1)), some (.int (xI T53 129 3))], [], hX c T53)) rfl ?_
        exact ev_less (lle_of (L := [some (.ref 1), some (.int l1), some (.int l2), some (.int (xI T53 129 3)), some (.int l6), some (.int (bI v52)), some (.int (l6 + 1)), none]) ⟨rfl, ⟨rfl, ⟨rfl, ⟨rfl, ⟨rfl, ⟨rfl, ⟨rfl, trivial⟩⟩⟩⟩⟩⟩⟩) H
set_option maxRecDepth 8000 in
theorem wx_X_write {c : CX} {d : Nat} {T : XS} {Q : Int64 → XS → Prop} {E : Nat → XS → Prop} (hR : c.2.2.2.1.length = 18) (a0 : Int32) (a1 : Int32) (a2 : Int64) (H : XOt c d m_X_needTray [.ref 1, .int a0] T (fun v2 T1 => (∃ b3 : Nat, v2 = some b3 ∧ ((a1 < 0 → E 4 (tN T1 0 0 6)) ∧ (¬ a1 < 0 → (TyS T1 b3 ∧ ((a1 < (xI T1 b3 2) → XJ c d m_Ty_put [.ref b3, .int a1, .long a2] T1 (fun v6 T5 => Q v6 T5)) ∧ (¬ a1 < (xI T1 b3 2) → E 4 (tN T1 0 0 6)))))))) E) : XJt c (d + 1) m_X_write [.ref 1, .int a0, .int a1, .long a2] T Q E := by
  refine ⟨q_X_write, rfl, Nat.le_of_ble_eq_true rfl, ?_⟩
  refine ev_ex 0 (c' := (0, [some (.ref 1), some (.int a0), some (.int a1), some (.long a2), none, none], [], hX c T)) rfl ?_
  refine ev_ex 2 (c' := (2, [some (.ref 1), some (.int a0), some (.int a1), some (.long a2), none, none], [.int a0, .ref 1], hX c T)) rfl ?_
  refine xt_O (idx := 204) rfl rfl rfl (Nat.le_of_ble_eq_true rfl) (Nat.le_of_ble_eq_true rfl) (x_rcv (T := T) (ob_lit (i := 0) rfl (by decide) rfl) ⟨by decide, by decide⟩ _ _) rfl rfl rfl rfl (by decide) H (fun v2 T1 H => ?_)
  obtain ⟨b3, rfl, H⟩ := H
  refine ev_ex 0 (c' := (5, [some (.ref 1), some (.int a0), some (.int a1), some (.long a2), none, none], [.ref b3], hX c T1)) rfl ?_
  refine ev_ex 2 (c' := (8, [some (.ref 1), some (.int a0), some (.int a1), some (.long a2), none, some (.ref b3)], [.int a1], hX c T1)) rfl ?_
  refine ev_if_lt (tgt := 20) rfl rfl (fun h => ?_) (fun h => ?_)
  · replace H := H.1 (h)
    exact xe_thr hR rfl rfl (Nat.le_of_ble_eq_true rfl) (Or.inr ⟨_, _, rfl, rfl, H⟩)
  · replace H := H.2 (h)
    refine ev_ex 2 (c' := (14, [some (.ref 1), some (.int a0), some (.int a1), some (.long a2), none, some (.ref b3)], [.ref b3, .int a1], hX c T1)) rfl ?_
    obtain ⟨h4, H⟩ := H
    refine xe_gf (ci := 11) (k := 2) rfl rfl h4.1 ⟨by decide, by decide⟩ (v := .int (xI T1 b3 2)) rfl ?_
    refine ev_icmp_lt (tgt := 31) rfl rfl (fun h => ?_) (fun h => ?_)
    · replace H := H.1 (h)
      refine ev_ex 3 (c' := (35, [some (.ref 1), some (.int a0), some (.int a1), some (.long a2), none, some (.ref b3)], [.long a2, .int a1, .ref b3], hX c T1)) rfl ?_
      refine xc_J (idx := 368) rfl rfl rfl (Nat.le_of_ble_eq_true rfl) (Nat.le_of_ble_eq_true rfl) (x_rcv (T := T1) h4.1 ⟨by decide, by decide⟩ _ _) H (fun v6 T5 H => ?_)
      exact ev_ret rfl rfl rfl (Or.inl ⟨_, _, rfl, rfl, H⟩)
    · replace H := H.2 (h)
      exact xe_thr hR rfl rfl (Nat.le_of_ble_eq_true rfl) (Or.inr ⟨_, _, rfl, rfl, H⟩)
set_option maxRecDepth 8000 in
theorem wx_X_copy {c : CX} {d : Nat} {T : XS} {Q : Int32 → XS → Prop} {E : Nat → XS → Prop} (a0 : Int32) (H : XOt c d m_X_needTray [.ref 1, .int a0] T (fun v2 T1 => (∃ b3 : Nat, v2 = some b3 ∧ (TyS T1 b3 ∧ (∃ b5 : Nat, frx T1 93 0 = some b5 ∧ (CvS T1 b5 ∧ eX c (d + 1) m_X_copy 33 [some (.ref 1), some (.int a0), some (.ref b3), some (.ref 93), some (.int (mnI (xI T1 b3 2) (xI T1 b5 1))), some (.int 0)] T1 (yt c E (yI c Q))))))) E) : XIt c (d + 1) m_X_copy [.ref 1, .int a0] T Q E := by
  refine ⟨q_X_copy, rfl, Nat.le_of_ble_eq_true rfl, ?_⟩
  refine ev_ex 0 (c' := (0, [some (.ref 1), some (.int a0), none, none, none, none], [], hX c T)) rfl ?_
  refine ev_ex 2 (c' := (2, [some (.ref 1), some (.int a0), none, none, none, none], [.int a0, .ref 1], hX c T)) rfl ?_
  refine xt_O (idx := 204) rfl rfl rfl (Nat.le_of_ble_eq_true rfl) (Nat.le_of_ble_eq_true rfl) (x_rcv (T := T) (ob_lit (i := 0) rfl (by decide) rfl) ⟨by decide, by decide⟩ _ _) rfl rfl rfl rfl (by decide) H (fun v2 T1 H => ?_)
  obtain ⟨b3, rfl, H⟩ := H
  refine ev_ex 0 (c' := (5, [some (.ref 1), some (.int a0), none, none, none, none], [.ref b3], hX c T1)) rfl ?_
  refine ev_ex 2 (c' := (7, [some (.ref 1), some (.int a0), some (.ref b3), none, none, none], [.ref 1], hX c T1)) rfl ?_
  refine xe_gf (ci := 12) (k := 5) rfl rfl (ob_lit (i := 0) rfl (by decide) rfl) ⟨by decide, by decide⟩ (v := .ref 49) rfl ?_
  refine xe_gf (ci := 4) (k := 0) rfl rfl (ob_lit (i := 12) rfl (by decide) rfl) ⟨by decide, by decide⟩ (v := .ref 93) rfl ?_
  refine ev_ex 2 (c' := (15, [some (.ref 1), some (.int a0), some (.ref b3), some (.ref 93), none, none], [.ref b3], hX c T1)) rfl ?_
  obtain ⟨h4, H⟩ := H
  refine xe_gf (ci := 11) (k := 2) rfl rfl h4.1 ⟨by decide, by decide⟩ (v := .int (xI T1 b3 2)) rfl ?_
  refine ev_ex 1 (c' := (19, [some (.ref 1), some (.int a0), some (.ref b3), some (.ref 93), none, none], [.ref 93, .int (xI T1 b3 2)], hX c T1)) rfl ?_
  obtain ⟨b5, h6, H⟩ := H
  refine xe_gfr (ci := 9) (k := 0) rfl rfl (ob_lit (i := 23) rfl (by decide) rfl) ⟨by decide, by decide⟩ rfl h6 ?_
  obtain ⟨h7, H⟩ := H
  refine xe_gf (ci := 2) (k := 1) rfl rfl h7.1 ⟨by decide, by decide⟩ (v := .int (xI T1 b5 1)) rfl ?_
  refine xq_I (idx := 323) (V := mnI (xI T1 b3 2) (xI T1 b5 1)) (S := T1) rfl rfl rfl (Nat.le_of_ble_eq_true rfl) (Nat.le_of_ble_eq_true rfl) rfl (zx_JM_min ⟨rfl, rfl⟩) ?_
  refine ev_ex 3 (c' := (33, [some (.ref 1), some (.int a0), some (.ref b3), some (.ref 93), some (.int (mnI (xI T1 b3 2) (xI T1 b5 1))), some (.int 0)], [], hX c T1)) rfl ?_
  exact H
set_option maxRecDepth 8000 in
theorem wx_X_copy_33 {c : CX} {d : Nat} {T : XS} {Q : Int32 → XS → Prop} {E : Nat → XS → Prop} (l1 : Int32) (b3 : Nat) (l4 : Int32) (l5 : Int32) (H : ((l4 ≤ l5 → Q l4 T) ∧ (¬ l4 ≤ l5 → (okx l5 10 ∧ ((¬ (xA T 97 (ix l5)) = ((-1)) → (okx l5 10 ∧ (TyS T b3 ∧ XJ c d m_Ty_put [.ref b3, .int l5, .long ((xA T 97 (ix l5)).toInt64)] T (fun v53 T52 => eX c (d + 1) m_X_copy 33 [some (.ref 1), some (.int l1), some (.ref b3), some (.ref 93), some (.int l4), some (.int (l5 + 1))] T52 (yt c E (yI c Q)))))) ∧ ((xA T 97 (ix l5)) = ((-1)) → (TyS T b3 ∧ XJ c d m_Ty_put [.ref b3, .int l5, .long 99] T (fun v56 T55 => eX c (d + 1) m_X_copy 33 [some (.ref 1), some (.int l1), some (.ref b3), some (.ref 93), some (.int l4), some (.int (l5 + 1))] T55 (yt c E (yI c Q)))))))))) : eX c (d + 1) m_X_copy 33 [some (.ref 1), some (.int l1), some (.ref b3), some (.ref 93), some (.int l4), some (.int l5)] T (yt c E (yI c Q)) := by
  unfold eX
  refine ev_ex 0 (c' := (33, [some (.ref 1), some (.int l1), some (.ref b3), some (.ref 93), some (.int l4), some (.int l5)], [], hX c T)) rfl ?_
  refine ev_ex 2 (c' := (37, [some (.ref 1), some (.int l1), some (.ref b3), some (.ref 93), some (.int l4), some (.int l5)], [.int l4, .int l5], hX c T)) rfl ?_
  refine ev_icmp_ge (tgt := 78) rfl rfl (fun h => ?_) (fun h => ?_)
  · replace H := H.1 (h)
    refine ev_ex 1 (c' := (80, [some (.ref 1), some (.int l1), some (.ref b3), some (.ref 93), some (.int l4), some (.int l5)], [.int l4], hX c T)) rfl ?_
    exact ev_ret rfl rfl rfl (Or.inl ⟨_, _, rfl, rfl, H⟩)
  · replace H := H.2 (h)
    refine ev_ex 3 (c' := (44, [some (.ref 1), some (.int l1), some (.ref b3), some (.ref 93), some (.int l4), some (.int l5)], [.ref 93, .int l5, .ref b3], hX c T)) rfl ?_
    refine xe_gf (ci := 9) (k := 1) rfl rfl (ob_lit (i := 23) rfl (by decide) rfl) ⟨by decide, by decide⟩ (v := .ref 97) rfl ?_
    refine ev_ex 1 (c' := (49, [some (.ref 1), some (.int l1), some (.ref b3), some (.ref 93), some (.int l4), some (.int l5)], [.int l5, .ref 97, .int l5, .ref b3], hX c T)) rfl ?_
    obtain ⟨H0, H⟩ := H
    refine xe_al rfl (ar_lit (i := 24) rfl (by decide) rfl) H0 ?_
    refine ev_ex 0 (c' := (50, [some (.ref 1), some (.int l1), some (.ref b3), some (.ref 93), some (.int l4), some (.int l5)], [.int (xA T 97 (ix l5)), .int l5, .ref b3], hX c T)) rfl ?_
    refine ev_ex 1 (c' := (51, [some (.ref 1), some (.int l1), some (.ref b3), some (.ref 93), some (.int l4), some (.int l5)], [.int ((-1)), .int (xA T 97 (ix l5)), .int l5, .ref b3], hX c T)) rfl ?_
    refine ev_icmp_ne (tgt := 60) rfl rfl (fun h => ?_) (fun h => ?_)
    · replace H := H.1 (h)
      refine ev_ex 1 (c' := (61, [some (.ref 1), some (.int l1), some (.ref b3), some (.ref 93), some (.int l4), some (.int l5)], [.ref 93, .int l5, .ref b3], hX c T)) rfl ?_
      refine xe_gf (ci := 9) (k := 1) rfl rfl (ob_lit (i := 23) rfl (by decide) rfl) ⟨by decide, by decide⟩ (v := .ref 97) rfl ?_
      refine ev_ex 1 (c' := (66, [some (.ref 1), some (.int l1), some (.ref b3), some (.ref 93), some (.int l4), some (.int l5)], [.int l5, .ref 97, .int l5, .ref b3], hX c T)) rfl ?_
      obtain ⟨H0, H⟩ := H
      refine xe_al rfl (ar_lit (i := 24) rfl (by decide) rfl) H0 ?_
      refine ev_ex 0 (c' := (67, [some (.ref 1), some (.int l1), some (.ref b3), some (.ref 93), some (.int l4), some (.int l5)], [.int (xA T 97 (ix l5)), .int l5, .ref b3], hX c T)) rfl ?_
      refine ev_ex 1 (c' := (68, [some (.ref 1), some (.int l1), some (.ref b3), some (.ref 93), some (.int l4), some (.int l5)], [.long ((xA T 97 (ix l5)).toInt64), .int l5, .ref b3], hX c T)) rfl ?_
      obtain ⟨h51, H⟩ := H
      refine xc_J (idx := 368) rfl rfl rfl (Nat.le_of_ble_eq_true rfl) (Nat.le_of_ble_eq_true rfl) (x_rcv (T := T) h51.1 ⟨by decide, by decide⟩ _ _) H (fun v53 T52 H => ?_)
      refine ev_ex 3 (c' := (33, [some (.ref 1), some (.int l1), some (.ref b3), some (.ref 93), some (.int l4), some (.int (l5 + 1))], [], hX c T52)) rfl ?_
      exact H
    · replace H := H.2 (h)
      refine ev_ex 2 (c' := (68, [some (.ref 1), some (.int l1), some (.ref b3), some (.ref 93), some (.int l4), some (.int l5)], [.long 99, .int l5, .ref b3], hX c T)) rfl ?_
      obtain ⟨h54, H⟩ := H
      refine xc_J (idx := 368) rfl rfl rfl (Nat.le_of_ble_eq_true rfl) (Nat.le_of_ble_eq_true rfl) (x_rcv (T := T) h54.1 ⟨by decide, by decide⟩ _ _) H (fun v56 T55 H => ?_)
      refine ev_ex 3 (c' := (33, [some (.ref 1), some (.int l1), some (.ref b3), some (.ref 93), some (.int l4), some (.int (l5 + 1))], [], hX c T55)) rfl ?_
      exact H
set_option maxRecDepth 8000 in
theorem wx_X_restore {c : CX} {d : Nat} {T : XS} {Q : XS → Prop} {E : Nat → XS → Prop} (hR : c.2.2.2.1.length = 18) (a0 : Int32) (H : XVt c d m_X_needImage [.int a0] T (fun T1 => (okx a0 3 ∧ ((xQ T1 109 (ix a0) = none → E 3 (tN T1 0 0 6)) ∧ (∀ b2, xQ T1 109 (ix a0) = some b2 → XV c d m_Fr_copyFrom [.ref 49, .ref b2] T1 (fun T3 => Q T3))))) E) : XVt c (d + 1) m_X_restore [.ref 1, .int a0] T Q E := by
  refine ⟨q_X_restore, rfl, Nat.le_of_ble_eq_true rfl, ?_⟩
  refine ev_ex 0 (c' := (0, [some (.ref 1), some (.int a0), none], [], hX c T)) rfl ?_
  refine ev_ex 1 (c' := (1, [some (.ref 1), some (.int a0), none], [.int a0], hX c T)) rfl ?_
  refine xt_V (idx := 372) rfl rfl rfl (Nat.le_of_ble_eq_true rfl) (Nat.le_of_ble_eq_true rfl) rfl rfl rfl rfl rfl (by decide) H (fun T1 H => ?_)
  refine ev_ex 1 (c' := (5, [some (.ref 1), some (.int a0), none], [.ref 1], hX c T1)) rfl ?_
  refine xe_gf (ci := 12) (k := 6) rfl rfl (ob_lit (i := 0) rfl (by decide) rfl) ⟨by decide, by decide⟩ (v := .ref 109) rfl ?_
  refine ev_ex 1 (c' := (9, [some (.ref 1), some (.int a0), none], [.int a0, .ref 109], hX c T1)) rfl ?_
  obtain ⟨H0, H⟩ := H
  refine xe_ql rfl (ar_lit (i := 27) rfl (by decide) rfl) (by decide) H0 ?_
  refine ev_ex 0 (c' := (10, [some (.ref 1), some (.int a0), none], [va_rf (xQ T1 109 (ix a0))], hX c T1)) rfl ?_
  refine xe_aso (e := xQ T1 109 (ix a0)) rfl (Nat.le_of_ble_eq_true rfl) ?_
  refine ev_ex 0 (c' := (11, [some (.ref 1), some (.int a0), some (va_rf (xQ T1 109 (ix a0)))], [], hX c T1)) rfl ?_
  refine xe_alo (e := xQ T1 109 (ix a0)) rfl rfl ?_
  refine xe_nnl (e := (xQ T1 109 (ix a0))) (tgt := 26) rfl rfl (fun b2 hb => ?_) (fun hb => ?_)
  · replace H := H.2 b2 hb
    rw [hb]
    refine ev_ex 0 (c' := (26, [some (.ref 1), some (.int a0), some (.ref b2)], [], hX c T1)) rfl ?_
    refine ev_ex 1 (c' := (27, [some (.ref 1), some (.int a0), some (.ref b2)], [.ref 1], hX c T1)) rfl ?_
    refine xe_gf (ci := 12) (k := 5) rfl rfl (ob_lit (i := 0) rfl (by decide) rfl) ⟨by decide, by decide⟩ (v := .ref 49) rfl ?_
    refine ev_ex 1 (c' := (31, [some (.ref 1), some (.int a0), some (.ref b2)], [.ref b2, .ref 49], hX c T1)) rfl ?_
    refine xc_V (idx := 375) rfl rfl rfl (Nat.le_of_ble_eq_true rfl) (Nat.le_of_ble_eq_true rfl) (x_rcv (T := T1) (ob_lit (i := 12) rfl (by decide) rfl) ⟨by decide, by decide⟩ _ _) H (fun T3 H => ?_)
    exact ev_ret rfl rfl rfl (Or.inl ⟨_, rfl, rfl, H⟩)
  · replace H := H.1 hb
    rw [hb]
    refine ev_ex 0 (c' := (15, [some (.ref 1), some (.int a0), some (.null)], [], hX c T1)) rfl ?_
    exact xe_thr hR rfl rfl (Nat.le_of_ble_eq_true rfl) (Or.inr ⟨_, _, rfl, rfl, H⟩)
set_option maxRecDepth 8000 in
theorem wx_X_needGuild {c : CX} {d : Nat} {T : XS} {Q : XS → Prop} {E : Nat → XS → Prop} (hR : c.2.2.2.1.length = 18) (a0 : Int32) (H : ((a0 < 0 → E 2 (tN T 0 0 6)) ∧ (¬ a0 < 0 → (∃ b1 : Nat, frx T 93 0 = some b1 ∧ (CvS T b1 ∧ ((a0 < (xI T b1 1) → Q T) ∧ (¬ a0 < (xI T b1 1) → E 2 (tN T 0 0 6)))))))) : XVt c (d) m_X_needGuild [.ref 1, .int a0] T Q E := by
  refine ⟨q_X_needGuild, rfl, Nat.le_of_ble_eq_true rfl, ?_⟩
  refine ev_ex 0 (c' := (0, [some (.ref 1), some (.int a0)], [], hX c T)) rfl ?_
  refine ev_ex 1 (c' := (1, [some (.ref 1), some (.int a0)], [.int a0], hX c T)) rfl ?_
  refine ev_if_lt (tgt := 21) rfl rfl (fun h => ?_) (fun h => ?_)
  · replace H := H.1 (h)
    exact xe_thr hR rfl rfl (Nat.le_of_ble_eq_true rfl) (Or.inr ⟨_, _, rfl, rfl, H⟩)
  · replace H := H.2 (h)
    refine ev_ex 2 (c' := (6, [some (.ref 1), some (.int a0)], [.ref 1, .int a0], hX c T)) rfl ?_
    refine xe_gf (ci := 12) (k := 5) rfl rfl (ob_lit (i := 0) rfl (by decide) rfl) ⟨by decide, by decide⟩ (v := .ref 49) rfl ?_
    refine xe_gf (ci := 4) (k := 0) rfl rfl (ob_lit (i := 12) rfl (by decide) rfl) ⟨by decide, by decide⟩ (v := .ref 93) rfl ?_
    obtain ⟨b1, h2, H⟩ := H
    refine xe_gfr (ci := 9) (k := 0) rfl rfl (ob_lit (i := 23) rfl (by decide) rfl) ⟨by decide, by decide⟩ rfl h2 ?_
    obtain ⟨h3, H⟩ := H
    refine xe_gf (ci := 2) (k := 1) rfl rfl h3.1 ⟨by decide, by decide⟩ (v := .int (xI T b1 1)) rfl ?_
    refine ev_icmp_lt (tgt := 32) rfl rfl (fun h => ?_) (fun h => ?_)
    · replace H := H.1 (h)
      exact ev_ret rfl rfl rfl (Or.inl ⟨_, rfl, rfl, H⟩)
    · replace H := H.2 (h)
      exact xe_thr hR rfl rfl (Nat.le_of_ble_eq_true rfl) (Or.inr ⟨_, _, rfl, rfl, H⟩)
