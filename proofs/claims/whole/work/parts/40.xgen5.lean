/-! written by wip/gen/vcx.py: what runs of the class ask -/
set_option maxRecDepth 8000 in
theorem wx_Rw_put {c : CX} {d : Nat} {T : XS} {Q : XS → Prop} (a0 : Int32) (H : ((20 ≤ (xI T 129 1) → Q T) ∧ (¬ 20 ≤ (xI T 129 1) → (okx (xI T 129 1) 20 ∧ Q (tI (tA T 133 (ix (xI T 129 1)) a0) 129 1 ((xI T 129 1) + 1)))))) : XV c (d) m_Rw_put [.ref 129, .int a0] T Q := by
  refine ⟨q_Rw_put, rfl, Nat.le_of_ble_eq_true rfl, ?_⟩
  refine ev_ex 0 (c' := (0, [some (.ref 129), some (.int a0)], [], hX c T)) rfl ?_
  refine ev_ex 1 (c' := (1, [some (.ref 129), some (.int a0)], [.ref 129], hX c T)) rfl ?_
  refine xe_gf (ci := 8) (k := 1) rfl rfl (ob_lit (i := 32) rfl (by decide) rfl) ⟨by decide, by decide⟩ (v := .int (xI T 129 1)) rfl ?_
  refine ev_ex 1 (c' := (5, [some (.ref 129), some (.int a0)], [.ref 129, .int (xI T 129 1)], hX c T)) rfl ?_
  refine xe_gf (ci := 8) (k := 5) rfl rfl (ob_lit (i := 32) rfl (by decide) rfl) ⟨by decide, by decide⟩ (v := .ref 133) rfl ?_
  refine xe_len (kd := 20) rfl (ar_lit (i := 33) rfl (by decide) rfl) (by decide) ?_
  refine ev_ex 0 (c' := (9, [some (.ref 129), some (.int a0)], [.int 20, .int (xI T 129 1)], hX c T)) rfl ?_
  refine ev_icmp_ge (tgt := 32) rfl rfl (fun h => ?_) (fun h => ?_)
  · replace H := H.1 (h)
    exact ev_ret rfl rfl rfl ⟨_, rfl, rfl, H⟩
  · replace H := H.2 (h)
    refine ev_ex 1 (c' := (13, [some (.ref 129), some (.int a0)], [.ref 129], hX c T)) rfl ?_
    refine xe_gf (ci := 8) (k := 5) rfl rfl (ob_lit (i := 32) rfl (by decide) rfl) ⟨by decide, by decide⟩ (v := .ref 133) rfl ?_
    refine ev_ex 1 (c' := (17, [some (.ref 129), some (.int a0)], [.ref 129, .ref 133], hX c T)) rfl ?_
    refine xe_gf (ci := 8) (k := 1) rfl rfl (ob_lit (i := 32) rfl (by decide) rfl) ⟨by decide, by decide⟩ (v := .int (xI T 129 1)) rfl ?_
    refine ev_ex 1 (c' := (21, [some (.ref 129), some (.int a0)], [.int a0, .int (xI T 129 1), .ref 133], hX c T)) rfl ?_
    obtain ⟨H0, H⟩ := H
    refine xe_as rfl (ar_lit (i := 33) rfl (by decide) rfl) H0 ?_
    refine ev_ex 2 (c' := (24, [some (.ref 129), some (.int a0)], [.ref 129, .ref 129], hX c (tA T 133 (ix (xI T 129 1)) a0))) rfl ?_
    refine xe_gf (ci := 8) (k := 1) rfl rfl (ob_lit (i := 32) rfl (by decide) rfl) ⟨by decide, by decide⟩ (v := .int (xI T 129 1)) rfl ?_
    refine ev_ex 2 (c' := (29, [some (.ref 129), some (.int a0)], [.int ((xI T 129 1) + 1), .ref 129], hX c (tA T 133 (ix (xI T 129 1)) a0))) rfl ?_
    refine xe_pi (ci := 8) (k := 1) rfl rfl (ob_lit (i := 32) rfl (by decide) rfl) ⟨by decide, by decide⟩ (Nat.le_of_ble_eq_true rfl) rfl (fi_8_1 _ _ _) ?_
    exact ev_ret rfl rfl rfl ⟨_, rfl, rfl, H⟩
set_option maxRecDepth 8000 in
theorem wx_Qt_arrange {c : CX} {d : Nat} {T : XS} {Q : XS → Prop} (a0 : Nat) (a1 : Int32) (H : eX c (d + 1) m_Qt_arrange 7 [some (.ref 157), some (.ref a0), some (.int a1), some (.int 0), none, none] (tI T 157 3 0) (yV c Q)) : XV c (d + 1) m_Qt_arrange [.ref 157, .ref a0, .int a1] T Q := by
  refine ⟨q_Qt_arrange, rfl, Nat.le_of_ble_eq_true rfl, ?_⟩
  refine ev_ex 0 (c' := (0, [some (.ref 157), some (.ref a0), some (.int a1), none, none, none], [], hX c T)) rfl ?_
  refine ev_ex 2 (c' := (2, [some (.ref 157), some (.ref a0), some (.int a1), none, none, none], [.int 0, .ref 157], hX c T)) rfl ?_
  refine xe_pi (ci := 6) (k := 3) rfl rfl (ob_lit (i := 39) rfl (by decide) rfl) ⟨by decide, by decide⟩ (Nat.le_of_ble_eq_true rfl) rfl (fi_6_3 _ _ _) ?_
  refine ev_ex 2 (c' := (7, [some (.ref 157), some (.ref a0), some (.int a1), some (.int 0), none, none], [], hX c (tI T 157 3 0))) rfl ?_
  exact H
set_option maxRecDepth 8000 in
theorem wx_Qt_arrange_7 {c : CX} {d : Nat} {T : XS} {Q : XS → Prop} (a0 : Nat) (l2 : Int32) (l3 : Int32) (H : (CvS T a0 ∧ (((xI T a0 1) ≤ l3 → eX c (d + 1) m_Qt_arrange 67 [some (.ref 157), some (.ref a0), some (.int l2), some (.int (((1 : Int32) <<< ((xI T 157 3) &&& 31)) - 1)), none, none] T (yV c Q)) ∧ (¬ (xI T a0 1) ≤ l3 → (((l2 &&& ((1 : Int32) <<< (l3 &&& 31))) = 0 → eX c (d + 1) m_Qt_arrange 7 [some (.ref 157), some (.ref a0), some (.int l2), some (.int (l3 + 1)), none, none] T (yV c Q)) ∧ (¬ (l2 &&& ((1 : Int32) <<< (l3 &&& 31))) = 0 → ((8 ≤ (xI T 157 3) → eX c (d + 1) m_Qt_arrange 7 [some (.ref 157), some (.ref a0), some (.int l2), some (.int (l3 + 1)), none, none] T (yV c Q)) ∧ (¬ 8 ≤ (xI T 157 3) → (okx (xI T 157 3) 8 ∧ eX c (d + 1) m_Qt_arrange 7 [some (.ref 157), some (.ref a0), some (.int l2), some (.int (l3 + 1)), none, none] (tI (tA T 161 (ix (xI T 157 3)) l3) 157 3 ((xI T 157 3) + 1)) (yV c Q)))))))))) : eX c (d + 1) m_Qt_arrange 7 [some (.ref 157), some (.ref a0), some (.int l2), some (.int l3), none, none] T (yV c Q) := by
  unfold eX
  refine ev_ex 0 (c' := (7, [some (.ref 157), some (.ref a0), some (.int l2), some (.int l3), none, none], [], hX c T)) rfl ?_
  refine ev_ex 2 (c' := (9, [some (.ref 157), some (.ref a0), some (.int l2), some (.int l3), none, none], [.ref a0, .int l3], hX c T)) rfl ?_
  obtain ⟨h51, H⟩ := H
  refine xe_gf (ci := 2) (k := 1) rfl rfl h51.1 ⟨by decide, by decide⟩ (v := .int (xI T a0 1)) rfl ?_
  refine ev_icmp_ge (tgt := 58) rfl rfl (fun h => ?_) (fun h => ?_)
  · replace H := H.1 (h)
    refine ev_ex 2 (c' := (60, [some (.ref 157), some (.ref a0), some (.int l2), some (.int l3), none, none], [.ref 157, .int 1], hX c T)) rfl ?_
    refine xe_gf (ci := 6) (k := 3) rfl rfl (ob_lit (i := 39) rfl (by decide) rfl) ⟨by decide, by decide⟩ (v := .int (xI T 157 3)) rfl ?_
    refine ev_ex 4 (c' := (67, [some (.ref 157), some (.ref a0), some (.int l2), some (.int (((1 : Int32) <<< ((xI T 157 3) &&& 31)) - 1)), none, none], [], hX c T)) rfl ?_
    exact H
  · replace H := H.2 (h)
    refine ev_ex 5 (c' := (20, [some (.ref 157), some (.ref a0), some (.int l2), some (.int l3), none, none], [.int (l2 &&& ((1 : Int32) <<< (l3 &&& 31)))], hX c T)) rfl ?_
    refine ev_if_eq (tgt := 52) rfl rfl (fun h => ?_) (fun h => ?_)
    · replace H := H.1 (h)
      refine ev_ex 2 (c' := (7, [some (.ref 157), some (.ref a0), some (.int l2), some (.int (l3 + 1)), none, none], [], hX c T)) rfl ?_
      exact H
    · replace H := H.2 (h)
      refine ev_ex 1 (c' := (24, [some (.ref 157), some (.ref a0), some (.int l2), some (.int l3), none, none], [.ref 157], hX c T)) rfl ?_
      refine xe_gf (ci := 6) (k := 3) rfl rfl (ob_lit (i := 39) rfl (by decide) rfl) ⟨by decide, by decide⟩ (v := .int (xI T 157 3)) rfl ?_
      refine ev_ex 1 (c' := (29, [some (.ref 157), some (.ref a0), some (.int l2), some (.int l3), none, none], [.int 8, .int (xI T 157 3)], hX c T)) rfl ?_
      refine ev_icmp_ge (tgt := 52) rfl rfl (fun h => ?_) (fun h => ?_)
      · replace H := H.1 (h)
        refine ev_ex 2 (c' := (7, [some (.ref 157), some (.ref a0), some (.int l2), some (.int (l3 + 1)), none, none], [], hX c T)) rfl ?_
        exact H
      · replace H := H.2 (h)
        refine ev_ex 1 (c' := (33, [some (.ref 157), some (.ref a0), some (.int l2), some (.int l3), none, none], [.ref 157], hX c T)) rfl ?_
        refine xe_gf (ci := 6) (k := 0) rfl rfl (ob_lit (i := 39) rfl (by decide) rfl) ⟨by decide, by decide⟩ (v := .ref 161) rfl ?_
        refine ev_ex 1 (c' := (37, [some (.ref 157), some (.ref a0), some (.int l2), some (.int l3), none, none], [.ref 157, .ref 161], hX c T)) rfl ?_
        refine xe_gf (ci := 6) (k := 3) rfl rfl (ob_lit (i := 39) rfl (by decide) rfl) ⟨by decide, by decide⟩ (v := .int (xI T 157 3)) rfl ?_
        refine ev_ex 1 (c' := (41, [some (.ref 157), some (.ref a0), some (.int l2), some (.int l3), none, none], [.int l3, .int (xI T 157 3), .ref 161], hX c T)) rfl ?_
        obtain ⟨H0, H⟩ := H
        refine xe_as rfl (ar_lit (i := 40) rfl (by decide) rfl) H0 ?_
        refine ev_ex 2 (c' := (44, [some (.ref 157), some (.ref a0), some (.int l2), some (.int l3), none, none], [.ref 157, .ref 157], hX c (tA T 161 (ix (xI T 157 3)) l3))) rfl ?_
        refine xe_gf (ci := 6) (k := 3) rfl rfl (ob_lit (i := 39) rfl (by decide) rfl) ⟨by decide, by decide⟩ (v := .int (xI T 157 3)) rfl ?_
        refine ev_ex 2 (c' := (49, [some (.ref 157), some (.ref a0), some (.int l2), some (.int l3), none, none], [.int ((xI T 157 3) + 1), .ref 157], hX c (tA T 161 (ix (xI T 157 3)) l3))) rfl ?_
        refine xe_pi (ci := 6) (k := 3) rfl rfl (ob_lit (i := 39) rfl (by decide) rfl) ⟨by decide, by decide⟩ (Nat.le_of_ble_eq_true rfl) rfl (fi_6_3 _ _ _) ?_
        refine ev_ex 2 (c' := (7, [some (.ref 157), some (.ref a0), some (.int l2), some (.int (l3 + 1)), none, none], [], hX c (tI (tA T 161 (ix (xI T 157 3)) l3) 157 3 ((xI T 157 3) + 1)))) rfl ?_
        exact H
set_option maxRecDepth 8000 in
theorem wx_Qt_arrange_67 {c : CX} {d : Nat} {T : XS} {Q : XS → Prop} (a0 : Nat) (l2 : Int32) (l3 : Int32) (H : ((l3 ≤ 0 → XV c d m_Qt_follow [.ref 157, .ref a0] T (fun T51 => Q T51)) ∧ (¬ l3 ≤ 0 → eX c (d + 1) m_Qt_arrange 74 [some (.ref 157), some (.ref a0), some (.int l2), some (.int l3), some (.int 0), none] T (yV c Q)))) : eX c (d + 1) m_Qt_arrange 67 [some (.ref 157), some (.ref a0), some (.int l2), some (.int l3), none, none] T (yV c Q) := by
  unfold eX
  refine ev_ex 0 (c' := (67, [some (.ref 157), some (.ref a0), some (.int l2), some (.int l3), none, none], [], hX c T)) rfl ?_
  refine ev_ex 1 (c' := (68, [some (.ref 157), some (.ref a0), some (.int l2), some (.int l3), none, none], [.int l3], hX c T)) rfl ?_
  refine ev_if_le (tgt := 146) rfl rfl (fun h => ?_) (fun h => ?_)
  · replace H := H.1 (h)
    refine ev_ex 2 (c' := (148, [some (.ref 157), some (.ref a0), some (.int l2), some (.int l3), none, none], [.ref a0, .ref 157], hX c T)) rfl ?_
    refine xc_V (idx := 38) rfl rfl rfl (Nat.le_of_ble_eq_true rfl) (Nat.le_of_ble_eq_true rfl) (x_rcv (T := T) (ob_lit (i := 39) rfl (by decide) rfl) ⟨by decide, by decide⟩ _ _) H (fun T51 H => ?_)
    exact ev_ret rfl rfl rfl ⟨_, rfl, rfl, H⟩
  · replace H := H.2 (h)
    refine ev_ex 2 (c' := (74, [some (.ref 157), some (.ref a0), some (.int l2), some (.int l3), some (.int 0), none], [], hX c T)) rfl ?_
    exact H
set_option maxRecDepth 8000 in
theorem wx_Qt_arrange_74 {c : CX} {d : Nat} {T : XS} {Q : XS → Prop} (a0 : Nat) (l2 : Int32) (l3 : Int32) (l4 : Int32) (H : (((xI T 157 3) ≤ l4 → eX c (d + 1) m_Qt_arrange 67 [some (.ref 157), some (.ref a0), some (.int l2), some (.int (l3 + (-1))), none, none] T (yV c Q)) ∧ (¬ (xI T 157 3) ≤ l4 → (((l3 &&& ((1 : Int32) <<< (l4 &&& 31))) = 0 → eX c (d + 1) m_Qt_arrange 74 [some (.ref 157), some (.ref a0), some (.int l2), some (.int l3), some (.int (l4 + 1)), none] T (yV c Q)) ∧ (¬ (l3 &&& ((1 : Int32) <<< (l4 &&& 31))) = 0 → XI c d m_Qt_bestBehind [.ref 157, .ref a0, .int l3, .int l4] T (fun v52 T51 => ((¬ v52 = ((-1)) → XI c d m_Qt_with [.ref 157, .ref a0, .int l3, .int l4, .int v52] T51 (fun v54 T53 => (okx ((l3 * 8) + l4) 2048 ∧ eX c (d + 1) m_Qt_arrange 74 [some (.ref 157), some (.ref a0), some (.int l2), some (.int l3), some (.int (l4 + 1)), none] (tA T53 169 (ix ((l3 * 8) + l4)) v54) (yV c Q)))) ∧ (v52 = ((-1)) → (okx ((l3 * 8) + l4) 2048 ∧ eX c (d + 1) m_Qt_arrange 74 [some (.ref 157), some (.ref a0), some (.int l2), some (.int l3), some (.int (l4 + 1)), none] (tA T51 169 (ix ((l3 * 8) + l4)) 0) (yV c Q)))))))))) : eX c (d + 1) m_Qt_arrange 74 [some (.ref 157), some (.ref a0), some (.int l2), some (.int l3), some (.int l4), none] T (yV c Q) := by
  unfold eX
  refine ev_ex 0 (c' := (74, [some (.ref 157), some (.ref a0), some (.int l2), some (.int l3), some (.int l4), none], [], hX c T)) rfl ?_
  refine ev_ex 2 (c' := (77, [some (.ref 157), some (.ref a0), some (.int l2), some (.int l3), some (.int l4), none], [.ref 157, .int l4], hX c T)) rfl ?_
  refine xe_gf (ci := 6) (k := 3) rfl rfl (ob_lit (i := 39) rfl (by decide) rfl) ⟨by decide, by decide⟩ (v := .int (xI T 157 3)) rfl ?_
  refine ev_icmp_ge (tgt := 140) rfl rfl (fun h => ?_) (fun h => ?_)
  · replace H := H.1 (h)
    refine ev_ex 2 (c' := (67, [some (.ref 157), some (.ref a0), some (.int l2), some (.int (l3 + (-1))), some (.int l4), none], [], hX c T)) rfl ?_
    exact ev_less (lle_of (L := [some (.ref 157), some (.ref a0), some (.int l2), some (.int (l3 + (-1))), none, none]) ⟨rfl, ⟨rfl, ⟨rfl, ⟨rfl, trivial⟩⟩⟩⟩) H
  · replace H := H.2 (h)
    refine ev_ex 5 (c' := (89, [some (.ref 157), some (.ref a0), some (.int l2), some (.int l3), some (.int l4), none], [.int (l3 &&& ((1 : Int32) <<< (l4 &&& 31)))], hX c T)) rfl ?_
    refine ev_if_eq (tgt := 134) rfl rfl (fun h => ?_) (fun h => ?_)
    · replace H := H.1 (h)
      refine ev_ex 2 (c' := (74, [some (.ref 157), some (.ref a0), some (.int l2), some (.int l3), some (.int (l4 + 1)), none], [], hX c T)) rfl ?_
      exact H
    · replace H := H.2 (h)
      refine ev_ex 4 (c' := (97, [some (.ref 157), some (.ref a0), some (.int l2), some (.int l3), some (.int l4), none], [.int l4, .int l3, .ref a0, .ref 157], hX c T)) rfl ?_
      refine xc_I (idx := 30) rfl rfl rfl (Nat.le_of_ble_eq_true rfl) (Nat.le_of_ble_eq_true rfl) (x_rcv (T := T) (ob_lit (i := 39) rfl (by decide) rfl) ⟨by decide, by decide⟩ _ _) H (fun v52 T51 H => ?_)
      refine ev_ex 2 (c' := (103, [some (.ref 157), some (.ref a0), some (.int l2), some (.int l3), some (.int l4), some (.int v52)], [.ref 157], hX c T51)) rfl ?_
      refine xe_gf (ci := 6) (k := 2) rfl rfl (ob_lit (i := 39) rfl (by decide) rfl) ⟨by decide, by decide⟩ (v := .ref 169) rfl ?_
      refine ev_ex 7 (c' := (116, [some (.ref 157), some (.ref a0), some (.int l2), some (.int l3), some (.int l4), some (.int v52)], [.int ((-1)), .int v52, .int ((l3 * 8) + l4), .ref 169], hX c T51)) rfl ?_
      refine ev_icmp_ne (tgt := 123) rfl rfl (fun h => ?_) (fun h => ?_)
      · replace H := H.1 (h)
        refine ev_ex 5 (c' := (130, [some (.ref 157), some (.ref a0), some (.int l2), some (.int l3), some (.int l4), some (.int v52)], [.int v52, .int l4, .int l3, .ref a0, .ref 157, .int ((l3 * 8) + l4), .ref 169], hX c T51)) rfl ?_
        refine xc_I (idx := 34) rfl rfl rfl (Nat.le_of_ble_eq_true rfl) (Nat.le_of_ble_eq_true rfl) (x_rcv (T := T51) (ob_lit (i := 39) rfl (by decide) rfl) ⟨by decide, by decide⟩ _ _) H (fun v54 T53 H => ?_)
        obtain ⟨H0, H⟩ := H
        refine xe_as rfl (ar_lit (i := 42) rfl (by decide) rfl) H0 ?_
        refine ev_ex 2 (c' := (74, [some (.ref 157), some (.ref a0), some (.int l2), some (.int l3), some (.int (l4 + 1)), some (.int v52)], [], hX c (tA T53 169 (ix ((l3 * 8) + l4)) v54))) rfl ?_
        exact ev_less (lle_of (L := [some (.ref 157), some (.ref a0), some (.int l2), some (.int l3), some (.int (l4 + 1)), none]) ⟨rfl, ⟨rfl, ⟨rfl, ⟨rfl, ⟨rfl, trivial⟩⟩⟩⟩⟩) H
      · replace H := H.2 (h)
        refine ev_ex 2 (c' := (133, [some (.ref 157), some (.ref a0), some (.int l2), some (.int l3), some (.int l4), some (.int v52)], [.int 0, .int ((l3 * 8) + l4), .ref 169], hX c T51)) rfl ?_
        obtain ⟨H0, H⟩ := H
        refine xe_as rfl (ar_lit (i := 42) rfl (by decide) rfl) H0 ?_
        refine ev_ex 2 (c' := (74, [some (.ref 157), some (.ref a0), some (.int l2), some (.int l3), some (.int (l4 + 1)), some (.int v52)], [], hX c (tA T51 169 (ix ((l3 * 8) + l4)) 0))) rfl ?_
        exact ev_less (lle_of (L := [some (.ref 157), some (.ref a0), some (.int l2), some (.int l3), some (.int (l4 + 1)), none]) ⟨rfl, ⟨rfl, ⟨rfl, ⟨rfl, ⟨rfl, trivial⟩⟩⟩⟩⟩) H
set_option maxRecDepth 8000 in
theorem wx_Qt_walksAt {c : CX} {d : Nat} {T : XS} {Q : Int32 → XS → Prop} (a0 : Int32) (H : ((a0 < 0 → Q ((-1)) T) ∧ (¬ a0 < 0 → (((xI T 157 3) ≤ a0 → Q ((-1)) T) ∧ (¬ (xI T 157 3) ≤ a0 → (okx a0 8 ∧ Q (xA T 165 (ix a0)) T)))))) : XI c (d) m_Qt_walksAt [.ref 157, .int a0] T Q := by
  refine ⟨q_Qt_walksAt, rfl, Nat.le_of_ble_eq_true rfl, ?_⟩
  refine ev_ex 0 (c' := (0, [some (.ref 157), some (.int a0)], [], hX c T)) rfl ?_
  refine ev_ex 1 (c' := (1, [some (.ref 157), some (.int a0)], [.int a0], hX c T)) rfl ?_
  refine ev_if_lt (tgt := 21) rfl rfl (fun h => ?_) (fun h => ?_)
  · replace H := H.1 (h)
    refine ev_ex 1 (c' := (22, [some (.ref 157), some (.int a0)], [.int ((-1))], hX c T)) rfl ?_
    exact ev_ret rfl rfl rfl ⟨_, _, rfl, rfl, H⟩
  · replace H := H.2 (h)
    refine ev_ex 2 (c' := (6, [some (.ref 157), some (.int a0)], [.ref 157, .int a0], hX c T)) rfl ?_
    refine xe_gf (ci := 6) (k := 3) rfl rfl (ob_lit (i := 39) rfl (by decide) rfl) ⟨by decide, by decide⟩ (v := .int (xI T 157 3)) rfl ?_
    refine ev_icmp_ge (tgt := 21) rfl rfl (fun h => ?_) (fun h => ?_)
    · replace H := H.1 (h)
      refine ev_ex 1 (c' := (22, [some (.ref 157), some (.int a0)], [.int ((-1))], hX c T)) rfl ?_
      exact ev_ret rfl rfl rfl ⟨_, _, rfl, rfl, H⟩
    · replace H := H.2 (h)
      refine ev_ex 1 (c' := (13, [some (.ref 157), some (.int a0)], [.ref 157], hX c T)) rfl ?_
      refine xe_gf (ci := 6) (k := 1) rfl rfl (ob_lit (i := 39) rfl (by decide) rfl) ⟨by decide, by decide⟩ (v := .ref 165) rfl ?_
      refine ev_ex 1 (c' := (17, [some (.ref 157), some (.int a0)], [.int a0, .ref 165], hX c T)) rfl ?_
      obtain ⟨H0, H⟩ := H
      refine xe_al rfl (ar_lit (i := 41) rfl (by decide) rfl) H0 ?_
      refine ev_ex 0 (c' := (18, [some (.ref 157), some (.int a0)], [.int (xA T 165 (ix a0))], hX c T)) rfl ?_
      refine ev_ex 1 (c' := (22, [some (.ref 157), some (.int a0)], [.int (xA T 165 (ix a0))], hX c T)) rfl ?_
      exact ev_ret rfl rfl rfl ⟨_, _, rfl, rfl, H⟩
set_option maxRecDepth 8000 in
theorem wx_Qt_bestBehind {c : CX} {d : Nat} {T : XS} {Q : Int32 → XS → Prop} (a0 : Nat) (a1 : Int32) (a2 : Int32) (H : eX c (d + 1) m_Qt_bestBehind 6 [some (.ref 157), some (.ref a0), some (.int a1), some (.int a2), some (.int ((-1))), some (.int 0), none] T (yI c Q)) : XI c (d + 1) m_Qt_bestBehind [.ref 157, .ref a0, .int a1, .int a2] T Q := by
  refine ⟨q_Qt_bestBehind, rfl, Nat.le_of_ble_eq_true rfl, ?_⟩
  refine ev_ex 0 (c' := (0, [some (.ref 157), some (.ref a0), some (.int a1), some (.int a2), none, none, none], [], hX c T)) rfl ?_
  refine ev_ex 4 (c' := (6, [some (.ref 157), some (.ref a0), some (.int a1), some (.int a2), some (.int ((-1))), some (.int 0), none], [], hX c T)) rfl ?_
  exact H
set_option maxRecDepth 8000 in
theorem wx_Qt_bestBehind_6 {c : CX} {d : Nat} {T : XS} {Q : Int32 → XS → Prop} (a0 : Nat) (l2 : Int32) (l3 : Int32) (l4 : Int32) (l5 : Int32) (H : (((xI T 157 3) ≤ l5 → Q l4 T) ∧ (¬ (xI T 157 3) ≤ l5 → ((¬ (l2 &&& ((1 : Int32) <<< (l5 &&& 31))) = 0 → eX c (d + 1) m_Qt_bestBehind 6 [some (.ref 157), some (.ref a0), some (.int l2), some (.int l3), some (.int l4), some (.int (l5 + 1)), none] T (yI c Q)) ∧ ((l2 &&& ((1 : Int32) <<< (l5 &&& 31))) = 0 → ((l4 = ((-1)) → eX c (d + 1) m_Qt_bestBehind 6 [some (.ref 157), some (.ref a0), some (.int l2), some (.int l3), some (.int l5), some (.int (l5 + 1)), none] T (yI c Q)) ∧ (¬ l4 = ((-1)) → XI c d m_Qt_with [.ref 157, .ref a0, .int l2, .int l3, .int l5] T (fun v52 T51 => XI c d m_Qt_with [.ref 157, .ref a0, .int l2, .int l3, .int l4] T51 (fun v54 T53 => ((v54 ≤ v52 → eX c (d + 1) m_Qt_bestBehind 6 [some (.ref 157), some (.ref a0), some (.int l2), some (.int l3), some (.int l4), some (.int (l5 + 1)), none] T53 (yI c Q)) ∧ (¬ v54 ≤ v52 → eX c (d + 1) m_Qt_bestBehind 6 [some (.ref 157), some (.ref a0), some (.int l2), some (.int l3), some (.int l5), some (.int (l5 + 1)), none] T53 (yI c Q)))))))))))) : eX c (d + 1) m_Qt_bestBehind 6 [some (.ref 157), some (.ref a0), some (.int l2), some (.int l3), some (.int l4), some (.int l5), none] T (yI c Q) := by
  unfold eX
  refine ev_ex 0 (c' := (6, [some (.ref 157), some (.ref a0), some (.int l2), some (.int l3), some (.int l4), some (.int l5), none], [], hX c T)) rfl ?_
  refine ev_ex 2 (c' := (9, [some (.ref 157), some (.ref a0), some (.int l2), some (.int l3), some (.int l4), some (.int l5), none], [.ref 157, .int l5], hX c T)) rfl ?_
  refine xe_gf (ci := 6) (k := 3) rfl rfl (ob_lit (i := 39) rfl (by decide) rfl) ⟨by decide, by decide⟩ (v := .int (xI T 157 3)) rfl ?_
  refine ev_icmp_ge (tgt := 73) rfl rfl (fun h => ?_) (fun h => ?_)
  · replace H := H.1 (h)
    refine ev_ex 1 (c' := (75, [some (.ref 157), some (.ref a0), some (.int l2), some (.int l3), some (.int l4), some (.int l5), none], [.int l4], hX c T)) rfl ?_
    exact ev_ret rfl rfl rfl ⟨_, _, rfl, rfl, H⟩
  · replace H := H.2 (h)
    refine ev_ex 5 (c' := (21, [some (.ref 157), some (.ref a0), some (.int l2), some (.int l3), some (.int l4), some (.int l5), none], [.int (l2 &&& ((1 : Int32) <<< (l5 &&& 31)))], hX c T)) rfl ?_
    refine ev_if_ne (tgt := 28) rfl rfl (fun h => ?_) (fun h => ?_)
    · replace H := H.1 (h)
      refine ev_ex 6 (c' := (6, [some (.ref 157), some (.ref a0), some (.int l2), some (.int l3), some (.int l4), some (.int (l5 + 1)), some (.int 0)], [], hX c T)) rfl ?_
      exact ev_less (lle_of (L := [some (.ref 157), some (.ref a0), some (.int l2), some (.int l3), some (.int l4), some (.int (l5 + 1)), none]) ⟨rfl, ⟨rfl, ⟨rfl, ⟨rfl, ⟨rfl, ⟨rfl, trivial⟩⟩⟩⟩⟩⟩) H
    · replace H := H.2 (h)
      refine ev_ex 7 (c' := (39, [some (.ref 157), some (.ref a0), some (.int l2), some (.int l3), some (.int l4), some (.int l5), some (.int 1)], [.int ((-1)), .int l4], hX c T)) rfl ?_
      refine ev_icmp_eq (tgt := 63) rfl rfl (fun h => ?_) (fun h => ?_)
      · replace H := H.1 (h)
        refine ev_ex 4 (c' := (6, [some (.ref 157), some (.ref a0), some (.int l2), some (.int l3), some (.int l5), some (.int (l5 + 1)), some (.int 1)], [], hX c T)) rfl ?_
        exact ev_less (lle_of (L := [some (.ref 157), some (.ref a0), some (.int l2), some (.int l3), some (.int l5), some (.int (l5 + 1)), none]) ⟨rfl, ⟨rfl, ⟨rfl, ⟨rfl, ⟨rfl, ⟨rfl, trivial⟩⟩⟩⟩⟩⟩) H
      · replace H := H.2 (h)
        refine ev_ex 5 (c' := (48, [some (.ref 157), some (.ref a0), some (.int l2), some (.int l3), some (.int l4), some (.int l5), some (.int 1)], [.int l5, .int l3, .int l2, .ref a0, .ref 157], hX c T)) rfl ?_
        refine xc_I (idx := 34) rfl rfl rfl (Nat.le_of_ble_eq_true rfl) (Nat.le_of_ble_eq_true rfl) (x_rcv (T := T) (ob_lit (i := 39) rfl (by decide) rfl) ⟨by decide, by decide⟩ _ _) H (fun v52 T51 H => ?_)
        refine ev_ex 5 (c' := (57, [some (.ref 157), some (.ref a0), some (.int l2), some (.int l3), some (.int l4), some (.int l5), some (.int 1)], [.int l4, .int l3, .int l2, .ref a0, .ref 157, .int v52], hX c T51)) rfl ?_
        refine xc_I (idx := 34) rfl rfl rfl (Nat.le_of_ble_eq_true rfl) (Nat.le_of_ble_eq_true rfl) (x_rcv (T := T51) (ob_lit (i := 39) rfl (by decide) rfl) ⟨by decide, by decide⟩ _ _) H (fun v54 T53 H => ?_)
        refine ev_icmp_ge (tgt := 67) rfl rfl (fun h => ?_) (fun h => ?_)
        · replace H := H.1 (h)
          refine ev_ex 2 (c' := (6, [some (.ref 157), some (.ref a0), some (.int l2), some (.int l3), some (.int l4), some (.int (l5 + 1)), some (.int 1)], [], hX c T53)) rfl ?_
          exact ev_less (lle_of (L := [some (.ref 157), some (.ref a0), some (.int l2), some (.int l3), some (.int l4), some (.int (l5 + 1)), none]) ⟨rfl, ⟨rfl, ⟨rfl, ⟨rfl, ⟨rfl, ⟨rfl, trivial⟩⟩⟩⟩⟩⟩) H
        · replace H := H.2 (h)
          refine ev_ex 4 (c' := (6, [some (.ref 157), some (.ref a0), some (.int l2), some (.int l3), some (.int l5), some (.int (l5 + 1)), some (.int 1)], [], hX c T53)) rfl ?_
          exact ev_less (lle_of (L := [some (.ref 157), some (.ref a0), some (.int l2), some (.int l3), some (.int l5), some (.int (l5 + 1)), none]) ⟨rfl, ⟨rfl, ⟨rfl, ⟨rfl, ⟨rfl, ⟨rfl, trivial⟩⟩⟩⟩⟩⟩) H
set_option maxRecDepth 8000 in
theorem wx_Qt_with {c : CX} {d : Nat} {T : XS} {Q : Int32 → XS → Prop} (a0 : Nat) (a1 : Int32) (a2 : Int32) (a3 : Int32) (H : (okx (((a1 ||| ((1 : Int32) <<< (a3 &&& 31))) * 8) + a3) 2048 ∧ ((¬ a2 = ((-1)) → (okx a2 8 ∧ (okx a3 8 ∧ (CvS T a0 ∧ XI c d m_Cv_noiseOf [.ref a0, .int (xA T 161 (ix a2)), .int (xA T 161 (ix a3))] T (fun v3 T2 => Q ((xA T 169 (ix (((a1 ||| ((1 : Int32) <<< (a3 &&& 31))) * 8) + a3))) + v3) T2))))) ∧ (a2 = ((-1)) → Q (xA T 169 (ix (((a1 ||| ((1 : Int32) <<< (a3 &&& 31))) * 8) + a3))) T)))) : XI c (d + 1) m_Qt_with [.ref 157, .ref a0, .int a1, .int a2, .int a3] T Q := by
  refine ⟨q_Qt_with, rfl, Nat.le_of_ble_eq_true rfl, ?_⟩
  refine ev_ex 0 (c' := (0, [some (.ref 157), some (.ref a0), some (.int a1), some (.int a2), some (.int a3), none], [], hX c T)) rfl ?_
  refine ev_ex 1 (c' := (1, [some (.ref 157), some (.ref a0), some (.int a1), some (.int a2), some (.int a3), none], [.ref 157], hX c T)) rfl ?_
  refine xe_gf (ci := 6) (k := 2) rfl rfl (ob_lit (i := 39) rfl (by decide) rfl) ⟨by decide, by decide⟩ (v := .ref 169) rfl ?_
  refine ev_ex 9 (c' := (16, [some (.ref 157), some (.ref a0), some (.int a1), some (.int a2), some (.int a3), none], [.int (((a1 ||| ((1 : Int32) <<< (a3 &&& 31))) * 8) + a3), .ref 169], hX c T)) rfl ?_
  obtain ⟨H0, H⟩ := H
  refine xe_al rfl (ar_lit (i := 42) rfl (by decide) rfl) H0 ?_
  refine ev_ex 0 (c' := (17, [some (.ref 157), some (.ref a0), some (.int a1), some (.int a2), some (.int a3), none], [.int (xA T 169 (ix (((a1 ||| ((1 : Int32) <<< (a3 &&& 31))) * 8) + a3)))], hX c T)) rfl ?_
  refine ev_ex 3 (c' := (21, [some (.ref 157), some (.ref a0), some (.int a1), some (.int a2), some (.int a3), some (.int (xA T 169 (ix (((a1 ||| ((1 : Int32) <<< (a3 &&& 31))) * 8) + a3))))], [.int ((-1)), .int a2], hX c T)) rfl ?_
  refine ev_icmp_ne (tgt := 29) rfl rfl (fun h => ?_) (fun h => ?_)
  · replace H := H.1 (h)
    refine ev_ex 3 (c' := (33, [some (.ref 157), some (.ref a0), some (.int a1), some (.int a2), some (.int a3), some (.int (xA T 169 (ix (((a1 ||| ((1 : Int32) <<< (a3 &&& 31))) * 8) + a3))))], [.ref 157, .ref a0, .int (xA T 169 (ix (((a1 ||| ((1 : Int32) <<< (a3 &&& 31))) * 8) + a3)))], hX c T)) rfl ?_
    refine xe_gf (ci := 6) (k := 0) rfl rfl (ob_lit (i := 39) rfl (by decide) rfl) ⟨by decide, by decide⟩ (v := .ref 161) rfl ?_
    refine ev_ex 1 (c' := (37, [some (.ref 157), some (.ref a0), some (.int a1), some (.int a2), some (.int a3), some (.int (xA T 169 (ix (((a1 ||| ((1 : Int32) <<< (a3 &&& 31))) * 8) + a3))))], [.int a2, .ref 161, .ref a0, .int (xA T 169 (ix (((a1 ||| ((1 : Int32) <<< (a3 &&& 31))) * 8) + a3)))], hX c T)) rfl ?_
    obtain ⟨H0, H⟩ := H
    refine xe_al rfl (ar_lit (i := 40) rfl (by decide) rfl) H0 ?_
    refine ev_ex 0 (c' := (38, [some (.ref 157), some (.ref a0), some (.int a1), some (.int a2), some (.int a3), some (.int (xA T 169 (ix (((a1 ||| ((1 : Int32) <<< (a3 &&& 31))) * 8) + a3))))], [.int (xA T 161 (ix a2)), .ref a0, .int (xA T 169 (ix (((a1 ||| ((1 : Int32) <<< (a3 &&& 31))) * 8) + a3)))], hX c T)) rfl ?_
    refine ev_ex 1 (c' := (39, [some (.ref 157), some (.ref a0), some (.int a1), some (.int a2), some (.int a3), some (.int (xA T 169 (ix (((a1 ||| ((1 : Int32) <<< (a3 &&& 31))) * 8) + a3))))], [.ref 157, .int (xA T 161 (ix a2)), .ref a0, .int (xA T 169 (ix (((a1 ||| ((1 : Int32) <<< (a3 &&& 31))) * 8) + a3)))], hX c T)) rfl ?_
    refine xe_gf (ci := 6) (k := 0) rfl rfl (ob_lit (i := 39) rfl (by decide) rfl) ⟨by decide, by decide⟩ (v := .ref 161) rfl ?_
    refine ev_ex 1 (c' := (44, [some (.ref 157), some (.ref a0), some (.int a1), some (.int a2), some (.int a3), some (.int (xA T 169 (ix (((a1 ||| ((1 : Int32) <<< (a3 &&& 31))) * 8) + a3))))], [.int a3, .ref 161, .int (xA T 161 (ix a2)), .ref a0, .int (xA T 169 (ix (((a1 ||| ((1 : Int32) <<< (a3 &&& 31))) * 8) + a3)))], hX c T)) rfl ?_
    obtain ⟨H0, H⟩ := H
    refine xe_al rfl (ar_lit (i := 40) rfl (by decide) rfl) H0 ?_
    refine ev_ex 0 (c' := (45, [some (.ref 157), some (.ref a0), some (.int a1), some (.int a2), some (.int a3), some (.int (xA T 169 (ix (((a1 ||| ((1 : Int32) <<< (a3 &&& 31))) * 8) + a3))))], [.int (xA T 161 (ix a3)), .int (xA T 161 (ix a2)), .ref a0, .int (xA T 169 (ix (((a1 ||| ((1 : Int32) <<< (a3 &&& 31))) * 8) + a3)))], hX c T)) rfl ?_
    obtain ⟨h1, H⟩ := H
    refine xc_I (idx := 42) rfl rfl rfl (Nat.le_of_ble_eq_true rfl) (Nat.le_of_ble_eq_true rfl) (x_rcv (T := T) h1.1 ⟨by decide, by decide⟩ _ _) H (fun v3 T2 H => ?_)
    refine ev_ex 1 (c' := (49, [some (.ref 157), some (.ref a0), some (.int a1), some (.int a2), some (.int a3), some (.int (xA T 169 (ix (((a1 ||| ((1 : Int32) <<< (a3 &&& 31))) * 8) + a3))))], [.int ((xA T 169 (ix (((a1 ||| ((1 : Int32) <<< (a3 &&& 31))) * 8) + a3))) + v3)], hX c T2)) rfl ?_
    exact ev_ret rfl rfl rfl ⟨_, _, rfl, rfl, H⟩
  · replace H := H.2 (h)
    refine ev_ex 2 (c' := (49, [some (.ref 157), some (.ref a0), some (.int a1), some (.int a2), some (.int a3), some (.int (xA T 169 (ix (((a1 ||| ((1 : Int32) <<< (a3 &&& 31))) * 8) + a3))))], [.int (xA T 169 (ix (((a1 ||| ((1 : Int32) <<< (a3 &&& 31))) * 8) + a3)))], hX c T)) rfl ?_
    exact ev_ret rfl rfl rfl ⟨_, _, rfl, rfl, H⟩
set_option maxRecDepth 8000 in
theorem wx_Qt_follow {c : CX} {d : Nat} {T : XS} {Q : XS → Prop} (a0 : Nat) (H : eX c (d + 1) m_Qt_follow 12 [some (.ref 157), some (.ref a0), some (.int 0), some (.int ((-1))), some (.int 0), none] (tI T 157 4 0) (yV c Q)) : XV c (d + 1) m_Qt_follow [.ref 157, .ref a0] T Q := by
  refine ⟨q_Qt_follow, rfl, Nat.le_of_ble_eq_true rfl, ?_⟩
  refine ev_ex 0 (c' := (0, [some (.ref 157), some (.ref a0), none, none, none, none], [], hX c T)) rfl ?_
  refine ev_ex 6 (c' := (6, [some (.ref 157), some (.ref a0), some (.int 0), some (.int ((-1))), none, none], [.int 0, .ref 157], hX c T)) rfl ?_
  refine xe_pi (ci := 6) (k := 4) rfl rfl (ob_lit (i := 39) rfl (by decide) rfl) ⟨by decide, by decide⟩ (Nat.le_of_ble_eq_true rfl) rfl (fi_6_4 _ _ _) ?_
  refine ev_ex 2 (c' := (12, [some (.ref 157), some (.ref a0), some (.int 0), some (.int ((-1))), some (.int 0), none], [], hX c (tI T 157 4 0))) rfl ?_
  exact H
set_option maxRecDepth 8000 in
theorem wx_Qt_follow_12 {c : CX} {d : Nat} {T : XS} {Q : XS → Prop} (a0 : Nat) (l2 : Int32) (l3 : Int32) (l4 : Int32) (H : (((xI T 157 3) ≤ l4 → Q T) ∧ (¬ (xI T 157 3) ≤ l4 → XI c d m_Qt_bestBehind [.ref 157, .ref a0, .int l2, .int l3] T (fun v52 T51 => ((¬ v52 = ((-1)) → ((¬ l4 = 0 → (okx v52 8 ∧ (okx l4 8 ∧ eX c (d + 1) m_Qt_follow 12 [some (.ref 157), some (.ref a0), some (.int (l2 ||| ((1 : Int32) <<< (v52 &&& 31)))), some (.int v52), some (.int (l4 + 1)), none] (tA T51 165 (ix l4) (xA T51 161 (ix v52))) (yV c Q)))) ∧ (l4 = 0 → XI c d m_Qt_with [.ref 157, .ref a0, .int l2, .int l3, .int v52] T51 (fun v54 T53 => (okx v52 8 ∧ (okx l4 8 ∧ eX c (d + 1) m_Qt_follow 12 [some (.ref 157), some (.ref a0), some (.int (l2 ||| ((1 : Int32) <<< (v52 &&& 31)))), some (.int v52), some (.int (l4 + 1)), none] (tA (tI T53 157 4 v54) 165 (ix l4) (xA T53 161 (ix v52))) (yV c Q))))))) ∧ (v52 = ((-1)) → Q T51)))))) : eX c (d + 1) m_Qt_follow 12 [some (.ref 157), some (.ref a0), some (.int l2), some (.int l3), some (.int l4), none] T (yV c Q) := by
  unfold eX
  refine ev_ex 0 (c' := (12, [some (.ref 157), some (.ref a0), some (.int l2), some (.int l3), some (.int l4), none], [], hX c T)) rfl ?_
  refine ev_ex 2 (c' := (15, [some (.ref 157), some (.ref a0), some (.int l2), some (.int l3), some (.int l4), none], [.ref 157, .int l4], hX c T)) rfl ?_
  refine xe_gf (ci := 6) (k := 3) rfl rfl (ob_lit (i := 39) rfl (by decide) rfl) ⟨by decide, by decide⟩ (v := .int (xI T 157 3)) rfl ?_
  refine ev_icmp_ge (tgt := 85) rfl rfl (fun h => ?_) (fun h => ?_)
  · replace H := H.1 (h)
    exact ev_ret rfl rfl rfl ⟨_, rfl, rfl, H⟩
  · replace H := H.2 (h)
    refine ev_ex 4 (c' := (25, [some (.ref 157), some (.ref a0), some (.int l2), some (.int l3), some (.int l4), none], [.int l3, .int l2, .ref a0, .ref 157], hX c T)) rfl ?_
    refine xc_I (idx := 30) rfl rfl rfl (Nat.le_of_ble_eq_true rfl) (Nat.le_of_ble_eq_true rfl) (x_rcv (T := T) (ob_lit (i := 39) rfl (by decide) rfl) ⟨by decide, by decide⟩ _ _) H (fun v52 T51 H => ?_)
    refine ev_ex 3 (c' := (33, [some (.ref 157), some (.ref a0), some (.int l2), some (.int l3), some (.int l4), some (.int v52)], [.int ((-1)), .int v52], hX c T51)) rfl ?_
    refine ev_icmp_ne (tgt := 37) rfl rfl (fun h => ?_) (fun h => ?_)
    · replace H := H.1 (h)
      refine ev_ex 1 (c' := (39, [some (.ref 157), some (.ref a0), some (.int l2), some (.int l3), some (.int l4), some (.int v52)], [.int l4], hX c T51)) rfl ?_
      refine ev_if_ne (tgt := 55) rfl rfl (fun h => ?_) (fun h => ?_)
      · replace H := H.1 (h)
        refine ev_ex 1 (c' := (56, [some (.ref 157), some (.ref a0), some (.int l2), some (.int l3), some (.int l4), some (.int v52)], [.ref 157], hX c T51)) rfl ?_
        refine xe_gf (ci := 6) (k := 1) rfl rfl (ob_lit (i := 39) rfl (by decide) rfl) ⟨by decide, by decide⟩ (v := .ref 165) rfl ?_
        refine ev_ex 2 (c' := (62, [some (.ref 157), some (.ref a0), some (.int l2), some (.int l3), some (.int l4), some (.int v52)], [.ref 157, .int l4, .ref 165], hX c T51)) rfl ?_
        refine xe_gf (ci := 6) (k := 0) rfl rfl (ob_lit (i := 39) rfl (by decide) rfl) ⟨by decide, by decide⟩ (v := .ref 161) rfl ?_
        refine ev_ex 1 (c' := (67, [some (.ref 157), some (.ref a0), some (.int l2), some (.int l3), some (.int l4), some (.int v52)], [.int v52, .ref 161, .int l4, .ref 165], hX c T51)) rfl ?_
        obtain ⟨H0, H⟩ := H
        refine xe_al rfl (ar_lit (i := 40) rfl (by decide) rfl) H0 ?_
        refine ev_ex 0 (c' := (68, [some (.ref 157), some (.ref a0), some (.int l2), some (.int l3), some (.int l4), some (.int v52)], [.int (xA T51 161 (ix v52)), .int l4, .ref 165], hX c T51)) rfl ?_
        obtain ⟨H0, H⟩ := H
        refine xe_as rfl (ar_lit (i := 41) rfl (by decide) rfl) H0 ?_
        refine ev_ex 10 (c' := (12, [some (.ref 157), some (.ref a0), some (.int (l2 ||| ((1 : Int32) <<< (v52 &&& 31)))), some (.int v52), some (.int (l4 + 1)), some (.int v52)], [], hX c (tA T51 165 (ix l4) (xA T51 161 (ix v52))))) rfl ?_
        exact ev_less (lle_of (L := [some (.ref 157), some (.ref a0), some (.int (l2 ||| ((1 : Int32) <<< (v52 &&& 31)))), some (.int v52), some (.int (l4 + 1)), none]) ⟨rfl, ⟨rfl, ⟨rfl, ⟨rfl, ⟨rfl, trivial⟩⟩⟩⟩⟩) H
      · replace H := H.2 (h)
        refine ev_ex 6 (c' := (49, [some (.ref 157), some (.ref a0), some (.int l2), some (.int l3), some (.int l4), some (.int v52)], [.int v52, .int l3, .int l2, .ref a0, .ref 157, .ref 157], hX c T51)) rfl ?_
        refine xc_I (idx := 34) rfl rfl rfl (Nat.le_of_ble_eq_true rfl) (Nat.le_of_ble_eq_true rfl) (x_rcv (T := T51) (ob_lit (i := 39) rfl (by decide) rfl) ⟨by decide, by decide⟩ _ _) H (fun v54 T53 H => ?_)
        refine xe_pi (ci := 6) (k := 4) rfl rfl (ob_lit (i := 39) rfl (by decide) rfl) ⟨by decide, by decide⟩ (Nat.le_of_ble_eq_true rfl) rfl (fi_6_4 _ _ _) ?_
        refine ev_ex 1 (c' := (56, [some (.ref 157), some (.ref a0), some (.int l2), some (.int l3), some (.int l4), some (.int v52)], [.ref 157], hX c (tI T53 157 4 v54))) rfl ?_
        refine xe_gf (ci := 6) (k := 1) rfl rfl (ob_lit (i := 39) rfl (by decide) rfl) ⟨by decide, by decide⟩ (v := .ref 165) rfl ?_
        refine ev_ex 2 (c' := (62, [some (.ref 157), some (.ref a0), some (.int l2), some (.int l3), some (.int l4), some (.int v52)], [.ref 157, .int l4, .ref 165], hX c (tI T53 157 4 v54))) rfl ?_
        refine xe_gf (ci := 6) (k := 0) rfl rfl (ob_lit (i := 39) rfl (by decide) rfl) ⟨by decide, by decide⟩ (v := .ref 161) rfl ?_
        refine ev_ex 1 (c' := (67, [some (.ref 157), some (.ref a0), some (.int l2), some (.int l3), some (.int l4), some (.int v52)], [.int v52, .ref 161, .int l4, .ref 165], hX c (tI T53 157 4 v54))) rfl ?_
        obtain ⟨H0, H⟩ := H
        refine xe_al rfl (ar_lit (i := 40) rfl (by decide) rfl) H0 ?_
        refine ev_ex 0 (c' := (68, [some (.ref 157), some (.ref a0), some (.int l2), some (.int l3), some (.int l4), some (.int v52)], [.int (xA T53 161 (ix v52)), .int l4, .ref 165], hX c (tI T53 157 4 v54))) rfl ?_
        obtain ⟨H0, H⟩ := H
        refine xe_as rfl (ar_lit (i := 41) rfl (by decide) rfl) H0 ?_
        refine ev_ex 10 (c' := (12, [some (.ref 157), some (.ref a0), some (.int (l2 ||| ((1 : Int32) <<< (v52 &&& 31)))), some (.int v52), some (.int (l4 + 1)), some (.int v52)], [], hX c (tA (tI T53 157 4 v54) 165 (ix l4) (xA T53 161 (ix v52))))) rfl ?_
        exact ev_less (lle_of (L := [some (.ref 157), some (.ref a0), some (.int (l2 ||| ((1 : Int32) <<< (v52 &&& 31)))), some (.int v52), some (.int (l4 + 1)), none]) ⟨rfl, ⟨rfl, ⟨rfl, ⟨rfl, ⟨rfl, trivial⟩⟩⟩⟩⟩) H
    · replace H := H.2 (h)
      exact ev_ret rfl rfl rfl ⟨_, rfl, rfl, H⟩
set_option maxRecDepth 8000 in
theorem wx_Ty_numberAt {c : CX} {d : Nat} {T : XS} {Q : Int64 → XS → Prop} (a : Nat) (a0 : Int32) (H : ((a0 < 0 → Q 0 T) ∧ (¬ a0 < 0 → (TyS T a ∧ (((xI T a 2) ≤ a0 → Q 0 T) ∧ (¬ (xI T a 2) ≤ a0 → (okx a0 30 ∧ Q (xL T (a + 4) (ix a0)) T))))))) : XJ c (d) m_Ty_numberAt [.ref a, .int a0] T Q := by
  refine ⟨q_Ty_numberAt, rfl, Nat.le_of_ble_eq_true rfl, ?_⟩
  refine ev_ex 0 (c' := (0, [some (.ref a), some (.int a0)], [], hX c T)) rfl ?_
  refine ev_ex 1 (c' := (1, [some (.ref a), some (.int a0)], [.int a0], hX c T)) rfl ?_
  refine ev_if_lt (tgt := 21) rfl rfl (fun h => ?_) (fun h => ?_)
  · replace H := H.1 (h)
    refine ev_ex 1 (c' := (22, [some (.ref a), some (.int a0)], [.long 0], hX c T)) rfl ?_
    exact ev_ret rfl rfl rfl ⟨_, _, rfl, rfl, H⟩
  · replace H := H.2 (h)
    refine ev_ex 2 (c' := (6, [some (.ref a), some (.int a0)], [.ref a, .int a0], hX c T)) rfl ?_
    obtain ⟨h1, H⟩ := H
    refine xe_gf (ci := 11) (k := 2) rfl rfl h1.1 ⟨by decide, by decide⟩ (v := .int (xI T a 2)) rfl ?_
    refine ev_icmp_ge (tgt := 21) rfl rfl (fun h => ?_) (fun h => ?_)
    · replace H := H.1 (h)
      refine ev_ex 1 (c' := (22, [some (.ref a), some (.int a0)], [.long 0], hX c T)) rfl ?_
      exact ev_ret rfl rfl rfl ⟨_, _, rfl, rfl, H⟩
    · replace H := H.2 (h)
      refine ev_ex 1 (c' := (13, [some (.ref a), some (.int a0)], [.ref a], hX c T)) rfl ?_
      refine xe_gfr (ci := 11) (k := 0) rfl rfl h1.1 ⟨by decide, by decide⟩ rfl h1.fz ?_
      refine ev_ex 1 (c' := (17, [some (.ref a), some (.int a0)], [.int a0, .ref (a + 4)], hX c T)) rfl ?_
      obtain ⟨H0, H⟩ := H
      refine xe_ll rfl h1.az H0 ?_
      refine ev_ex 0 (c' := (18, [some (.ref a), some (.int a0)], [.long (xL T (a + 4) (ix a0))], hX c T)) rfl ?_
      refine ev_ex 1 (c' := (22, [some (.ref a), some (.int a0)], [.long (xL T (a + 4) (ix a0))], hX c T)) rfl ?_
      exact ev_ret rfl rfl rfl ⟨_, _, rfl, rfl, H⟩
set_option maxRecDepth 8000 in
theorem wx_Ty_lay {c : CX} {d : Nat} {T : XS} {Q : XS → Prop} (a : Nat) (a0 : Int32) (a1 : Int32) (H : (TyS T a ∧ XV c d m_JA_fill_2 [.ref (a + 4), .long 0] (tI (tI T a 1 a0) a 2 (mxI 0 (mnI 30 a1))) (fun T2 => Q T2))) : XV c (d + 1) m_Ty_lay [.ref a, .int a0, .int a1] T Q := by
  refine ⟨q_Ty_lay, rfl, Nat.le_of_ble_eq_true rfl, ?_⟩
  refine ev_ex 0 (c' := (0, [some (.ref a), some (.int a0), some (.int a1)], [], hX c T)) rfl ?_
  refine ev_ex 2 (c' := (2, [some (.ref a), some (.int a0), some (.int a1)], [.int a0, .ref a], hX c T)) rfl ?_
  obtain ⟨h1, H⟩ := H
  refine xe_pi (ci := 11) (k := 1) rfl rfl h1.1 ⟨by decide, by decide⟩ (Nat.le_of_ble_eq_true rfl) rfl (fi_11_1 _ _ _) ?_
  refine ev_ex 4 (c' := (10, [some (.ref a), some (.int a0), some (.int a1)], [.int a1, .int 30, .int 0, .ref a], hX c (tI T a 1 a0))) rfl ?_
  refine xq_I (idx := 19) (V := mnI 30 a1) (S := tI T a 1 a0) rfl rfl rfl (Nat.le_of_ble_eq_true rfl) (Nat.le_of_ble_eq_true rfl) rfl (zx_JM_min ⟨rfl, rfl⟩) ?_
  refine xq_I (idx := 25) (V := mxI 0 (mnI 30 a1)) (S := tI T a 1 a0) rfl rfl rfl (Nat.le_of_ble_eq_true rfl) (Nat.le_of_ble_eq_true rfl) rfl (zx_JM_max ⟨rfl, rfl⟩) ?_
  refine xe_pi (ci := 11) (k := 2) rfl rfl h1.1 ⟨by decide, by decide⟩ (Nat.le_of_ble_eq_true rfl) rfl (fi_11_2 _ _ _) ?_
  refine ev_ex 1 (c' := (20, [some (.ref a), some (.int a0), some (.int a1)], [.ref a], hX c (tI (tI T a 1 a0) a 2 (mxI 0 (mnI 30 a1))))) rfl ?_
  refine xe_gfr (ci := 11) (k := 0) rfl rfl h1.1 ⟨by decide, by decide⟩ rfl h1.fz ?_
  refine ev_ex 1 (c' := (24, [some (.ref a), some (.int a0), some (.int a1)], [.long 0, .ref (a + 4)], hX c (tI (tI T a 1 a0) a 2 (mxI 0 (mnI 30 a1))))) rfl ?_
  refine xc_V (idx := 31) rfl rfl rfl (Nat.le_of_ble_eq_true rfl) (Nat.le_of_ble_eq_true rfl) rfl H (fun T2 H => ?_)
  exact ev_ret rfl rfl rfl ⟨_, rfl, rfl, H⟩
set_option maxRecDepth 8000 in
theorem wx_Ty_put {c : CX} {d : Nat} {T : XS} {Q : Int64 → XS → Prop} (a : Nat) (a0 : Int32) (a1 : Int64) (H : ((a0 < 0 → Q 0 T) ∧ (¬ a0 < 0 → (TyS T a ∧ ((a0 < (xI T a 2) → XJ c d m_Ty_cut [.ref a, .long a1] T (fun v3 T2 => (TyS T2 a ∧ (okx a0 30 ∧ (okx a0 30 ∧ Q (xL (tL T2 (a + 4) (ix a0) v3) (a + 4) (ix a0)) (tL T2 (a + 4) (ix a0) v3)))))) ∧ (¬ a0 < (xI T a 2) → Q 0 T)))))) : XJ c (d + 1) m_Ty_put [.ref a, .int a0, .long a1] T Q := by
  refine ⟨q_Ty_put, rfl, Nat.le_of_ble_eq_true rfl, ?_⟩
  refine ev_ex 0 (c' := (0, [some (.ref a), some (.int a0), some (.long a1), none], [], hX c T)) rfl ?_
  refine ev_ex 1 (c' := (1, [some (.ref a), some (.int a0), some (.long a1), none], [.int a0], hX c T)) rfl ?_
  refine ev_if_lt (tgt := 12) rfl rfl (fun h => ?_) (fun h => ?_)
  · replace H := H.1 (h)
    refine ev_ex 1 (c' := (13, [some (.ref a), some (.int a0), some (.long a1), none], [.long 0], hX c T)) rfl ?_
    exact ev_ret rfl rfl rfl ⟨_, _, rfl, rfl, H⟩
  · replace H := H.2 (h)
    refine ev_ex 2 (c' := (6, [some (.ref a), some (.int a0), some (.long a1), none], [.ref a, .int a0], hX c T)) rfl ?_
    obtain ⟨h1, H⟩ := H
    refine xe_gf (ci := 11) (k := 2) rfl rfl h1.1 ⟨by decide, by decide⟩ (v := .int (xI T a 2)) rfl ?_
    refine ev_icmp_lt (tgt := 14) rfl rfl (fun h => ?_) (fun h => ?_)
    · replace H := H.1 (h)
      refine ev_ex 1 (c' := (15, [some (.ref a), some (.int a0), some (.long a1), none], [.ref a], hX c T)) rfl ?_
      refine xe_gfr (ci := 11) (k := 0) rfl rfl h1.1 ⟨by decide, by decide⟩ rfl h1.fz ?_
      refine ev_ex 3 (c' := (21, [some (.ref a), some (.int a0), some (.long a1), none], [.long a1, .ref a, .int a0, .ref (a + 4)], hX c T)) rfl ?_
      refine xc_J (idx := 37) rfl rfl rfl (Nat.le_of_ble_eq_true rfl) (Nat.le_of_ble_eq_true rfl) (x_rcv (T := T) h1.1 ⟨by decide, by decide⟩ _ _) H (fun v3 T2 H => ?_)
      obtain ⟨h4, H⟩ := H
      obtain ⟨H0, H⟩ := H
      refine xe_ls rfl h4.az H0 ?_
      refine ev_ex 1 (c' := (26, [some (.ref a), some (.int a0), some (.long a1), none], [.ref a], hX c (tL T2 (a + 4) (ix a0) v3))) rfl ?_
      refine xe_gfr (ci := 11) (k := 0) rfl rfl h4.1 ⟨by decide, by decide⟩ rfl h4.fz ?_
      refine ev_ex 1 (c' := (30, [some (.ref a), some (.int a0), some (.long a1), none], [.int a0, .ref (a + 4)], hX c (tL T2 (a + 4) (ix a0) v3))) rfl ?_
      obtain ⟨H0, H⟩ := H
      refine xe_ll rfl h4.az H0 ?_
      refine ev_ex 0 (c' := (31, [some (.ref a), some (.int a0), some (.long a1), none], [.long (xL (tL T2 (a + 4) (ix a0) v3) (a + 4) (ix a0))], hX c (tL T2 (a + 4) (ix a0) v3))) rfl ?_
      exact ev_ret rfl rfl rfl ⟨_, _, rfl, rfl, H⟩
    · replace H := H.2 (h)
      refine ev_ex 1 (c' := (13, [some (.ref a), some (.int a0), some (.long a1), none], [.long 0], hX c T)) rfl ?_
      exact ev_ret rfl rfl rfl ⟨_, _, rfl, rfl, H⟩
set_option maxRecDepth 8000 in
theorem wx_Ty_cut {c : CX} {d : Nat} {T : XS} {Q : Int64 → XS → Prop} (a : Nat) (a0 : Int64) (H : (TyS T a ∧ (((xI T a 1) = 0 → Q a0.toInt32.toInt8.toInt32.toInt64 T) ∧ ((xI T a 1) = 1 → Q a0.toInt32.toInt16.toInt32.toInt64 T) ∧ ((xI T a 1) = 2 → Q a0.toInt32.toInt64 T) ∧ (¬ (xI T a 1) = 0 ∧ ¬ (xI T a 1) = 1 ∧ ¬ (xI T a 1) = 2 → Q a0 T)))) : XJ c (d) m_Ty_cut [.ref a, .long a0] T Q := by
  refine ⟨q_Ty_cut, rfl, Nat.le_of_ble_eq_true rfl, ?_⟩
  refine ev_ex 0 (c' := (0, [some (.ref a), some (.long a0), none], [], hX c T)) rfl ?_
  refine ev_ex 1 (c' := (1, [some (.ref a), some (.long a0), none], [.ref a], hX c T)) rfl ?_
  obtain ⟨h1, H⟩ := H
  refine xe_gf (ci := 11) (k := 1) rfl rfl h1.1 ⟨by decide, by decide⟩ (v := .int (xI T a 1)) rfl ?_
  by_cases h0 : (xI T a 1) = 0
  · refine ev_sw h0 (tgt := 32) rfl rfl ?_
    replace H := H.1 h0
    refine ev_ex 4 (c' := (36, [some (.ref a), some (.long a0), none], [.long a0.toInt32.toInt8.toInt32.toInt64], hX c T)) rfl ?_
    exact ev_ret rfl rfl rfl ⟨_, _, rfl, rfl, H⟩
  by_cases h1 : (xI T a 1) = 1
  · refine ev_sw h1 (tgt := 37) rfl rfl ?_
    replace H := H.2.1 h1
    refine ev_ex 4 (c' := (41, [some (.ref a), some (.long a0), none], [.long a0.toInt32.toInt16.toInt32.toInt64], hX c T)) rfl ?_
    exact ev_ret rfl rfl rfl ⟨_, _, rfl, rfl, H⟩
  by_cases h2 : (xI T a 1) = 2
  · refine ev_sw h2 (tgt := 42) rfl rfl ?_
    replace H := H.2.2.1 h2
    refine ev_ex 3 (c' := (45, [some (.ref a), some (.long a0), none], [.long a0.toInt32.toInt64], hX c T)) rfl ?_
    exact ev_ret rfl rfl rfl ⟨_, _, rfl, rfl, H⟩
  replace H := H.2.2.2 ⟨h0, h1, h2⟩
  refine ev_tswd (tgt := 46) rfl (by have e0 := i32_ne h0 (z := 0) rfl; have e1 := i32_ne h1 (z := 1) rfl; have e2 := i32_ne h2 (z := 2) rfl; omega) rfl ?_
  refine ev_ex 1 (c' := (47, [some (.ref a), some (.long a0), none], [.long a0], hX c T)) rfl ?_
  exact ev_ret rfl rfl rfl ⟨_, _, rfl, rfl, H⟩
set_option maxRecDepth 8000 in
theorem wx_JA_fill {c : CX} {d : Nat} {T : XS} {Q : XS → Prop} (a0 : Nat) (n_a0 : Nat) (a1 : Int32) (H : (ar T a0 20 n_a0 ∧ eX c (d) m_JA_fill 5 [some (.ref a0), some (.int a1), some (.int 0), some (.int (nI n_a0))] T (yV c Q))) : XV c (d) m_JA_fill [.ref a0, .int a1] T Q := by
  refine ⟨q_JA_fill, rfl, Nat.le_of_ble_eq_true rfl, ?_⟩
  refine ev_ex 0 (c' := (0, [some (.ref a0), some (.int a1), none, none], [], hX c T)) rfl ?_
  refine ev_ex 3 (c' := (3, [some (.ref a0), some (.int a1), some (.int 0), none], [.ref a0], hX c T)) rfl ?_
  obtain ⟨h1, H⟩ := H
  refine xe_len (kd := 20) rfl h1 (by decide) ?_
  refine ev_ex 1 (c' := (5, [some (.ref a0), some (.int a1), some (.int 0), some (.int (nI n_a0))], [], hX c T)) rfl ?_
  exact H
set_option maxRecDepth 8000 in
theorem wx_JA_fill_5 {c : CX} {d : Nat} {T : XS} {Q : XS → Prop} (a0 : Nat) (n_a0 : Nat) (l1 : Int32) (l2 : Int32) (l3 : Int32) (H : ((l3 ≤ l2 → Q T) ∧ (¬ l3 ≤ l2 → (ar T a0 20 n_a0 ∧ (okx l2 n_a0 ∧ eX c (d) m_JA_fill 5 [some (.ref a0), some (.int l1), some (.int (l2 + 1)), some (.int l3)] (tA T a0 (ix l2) l1) (yV c Q)))))) : eX c (d) m_JA_fill 5 [some (.ref a0), some (.int l1), some (.int l2), some (.int l3)] T (yV c Q) := by
  unfold eX
  refine ev_ex 0 (c' := (5, [some (.ref a0), some (.int l1), some (.int l2), some (.int l3)], [], hX c T)) rfl ?_
  refine ev_ex 2 (c' := (7, [some (.ref a0), some (.int l1), some (.int l2), some (.int l3)], [.int l3, .int l2], hX c T)) rfl ?_
  refine ev_icmp_ge (tgt := 20) rfl rfl (fun h => ?_) (fun h => ?_)
  · replace H := H.1 (h)
    exact ev_ret rfl rfl rfl ⟨_, rfl, rfl, H⟩
  · replace H := H.2 (h)
    refine ev_ex 3 (c' := (13, [some (.ref a0), some (.int l1), some (.int l2), some (.int l3)], [.int l1, .int l2, .ref a0], hX c T)) rfl ?_
    obtain ⟨h51, H⟩ := H
    obtain ⟨H0, H⟩ := H
    refine xe_as rfl h51 H0 ?_
    refine ev_ex 2 (c' := (5, [some (.ref a0), some (.int l1), some (.int (l2 + 1)), some (.int l3)], [], hX c (tA T a0 (ix l2) l1))) rfl ?_
    exact H
set_option maxRecDepth 8000 in
theorem wx_JA_fill_2 {c : CX} {d : Nat} {T : XS} {Q : XS → Prop} (a0 : Nat) (n_a0 : Nat) (a1 : Int64) (H : (ar T a0 22 n_a0 ∧ eX c (d) m_JA_fill_2 6 [some (.ref a0), some (.long a1), none, some (.int 0), some (.int (nI n_a0))] T (yV c Q))) : XV c (d) m_JA_fill_2 [.ref a0, .long a1] T Q := by
  refine ⟨q_JA_fill_2, rfl, Nat.le_of_ble_eq_true rfl, ?_⟩
  refine ev_ex 0 (c' := (0, [some (.ref a0), some (.long a1), none, none, none], [], hX c T)) rfl ?_
  refine ev_ex 3 (c' := (3, [some (.ref a0), some (.long a1), none, some (.int 0), none], [.ref a0], hX c T)) rfl ?_
  obtain ⟨h1, H⟩ := H
  refine xe_len (kd := 22) rfl h1 (by decide) ?_
  refine ev_ex 1 (c' := (6, [some (.ref a0), some (.long a1), none, some (.int 0), some (.int (nI n_a0))], [], hX c T)) rfl ?_
  exact H
set_option maxRecDepth 8000 in
theorem wx_JA_fill_2_6 {c : CX} {d : Nat} {T : XS} {Q : XS → Prop} (a0 : Nat) (n_a0 : Nat) (l1 : Int64) (l3 : Int32) (l4 : Int32) (H : ((l4 ≤ l3 → Q T) ∧ (¬ l4 ≤ l3 → (ar T a0 22 n_a0 ∧ (okx l3 n_a0 ∧ eX c (d) m_JA_fill_2 6 [some (.ref a0), some (.long l1), none, some (.int (l3 + 1)), some (.int l4)] (tL T a0 (ix l3) l1) (yV c Q)))))) : eX c (d) m_JA_fill_2 6 [some (.ref a0), some (.long l1), none, some (.int l3), some (.int l4)] T (yV c Q) := by
  unfold eX
  refine ev_ex 0 (c' := (6, [some (.ref a0), some (.long l1), none, some (.int l3), some (.int l4)], [], hX c T)) rfl ?_
  refine ev_ex 2 (c' := (9, [some (.ref a0), some (.long l1), none, some (.int l3), some (.int l4)], [.int l4, .int l3], hX c T)) rfl ?_
  refine ev_icmp_ge (tgt := 22) rfl rfl (fun h => ?_) (fun h => ?_)
  · replace H := H.1 (h)
    exact ev_ret rfl rfl rfl ⟨_, rfl, rfl, H⟩
  · replace H := H.2 (h)
    refine ev_ex 3 (c' := (15, [some (.ref a0), some (.long l1), none, some (.int l3), some (.int l4)], [.long l1, .int l3, .ref a0], hX c T)) rfl ?_
    obtain ⟨h51, H⟩ := H
    obtain ⟨H0, H⟩ := H
    refine xe_ls rfl h51 H0 ?_
    refine ev_ex 2 (c' := (6, [some (.ref a0), some (.long l1), none, some (.int (l3 + 1)), some (.int l4)], [], hX c (tL T a0 (ix l3) l1))) rfl ?_
    exact H
set_option maxRecDepth 8000 in
theorem wx_Cv_steps {c : CX} {d : Nat} {T : XS} {Q : Int32 → XS → Prop} (a : Nat) (H : (CvS T a ∧ Q (nI (nst T a)) T)) : XI c (d) m_Cv_steps [.ref a] T Q := by
  refine ⟨q_Cv_steps, rfl, Nat.le_of_ble_eq_true rfl, ?_⟩
  refine ev_ex 0 (c' := (0, [some (.ref a)], [], hX c T)) rfl ?_
  refine ev_ex 1 (c' := (1, [some (.ref a)], [.ref a], hX c T)) rfl ?_
  obtain ⟨h1, H⟩ := H
  refine xe_gfr (ci := 2) (k := 7) rfl rfl h1.1 ⟨by decide, by decide⟩ rfl h1.f7 ?_
  refine xe_len (kd := 20) rfl h1.a7 (by decide) ?_
  exact ev_ret rfl rfl rfl ⟨_, _, rfl, rfl, H⟩
set_option maxRecDepth 8000 in
theorem wx_Cv_noiseOf {c : CX} {d : Nat} {T : XS} {Q : Int32 → XS → Prop} (a : Nat) (a0 : Int32) (a1 : Int32) (H : (((one a0) = false → Q 0 T) ∧ ((one a0) = true → (((one a1) = false → Q 0 T) ∧ ((one a1) = true → (CvS T a ∧ (okx a0 10 ∧ (okx a1 10 ∧ Q ((xA T (a + 16) (ix a0)) * (xA T (a + 20) (ix a1))) T)))))))) : XI c (d + 1) m_Cv_noiseOf [.ref a, .int a0, .int a1] T Q := by
  refine ⟨q_Cv_noiseOf, rfl, Nat.le_of_ble_eq_true rfl, ?_⟩
  refine ev_ex 0 (c' := (0, [some (.ref a), some (.int a0), some (.int a1)], [], hX c T)) rfl ?_
  refine ev_ex 1 (c' := (1, [some (.ref a), some (.int a0), some (.int a1)], [.int a0], hX c T)) rfl ?_
  refine xq_B (idx := 101) (V := one a0) (S := T) rfl rfl rfl (Nat.le_of_ble_eq_true rfl) (Nat.le_of_ble_eq_true rfl) rfl (zx_X_isOne ⟨rfl, rfl⟩) ?_
  refine ev_if_eqB (x := (one a0)) (tgt := 30) rfl rfl (fun h => ?_) (fun h => ?_)
  · replace H := H.1 (h)
    refine ev_ex 1 (c' := (31, [some (.ref a), some (.int a0), some (.int a1)], [.int 0], hX c T)) rfl ?_
    exact ev_ret rfl rfl rfl ⟨_, _, rfl, rfl, H⟩
  · replace H := H.2 (h)
    refine ev_ex 1 (c' := (8, [some (.ref a), some (.int a0), some (.int a1)], [.int a1], hX c T)) rfl ?_
    refine xq_B (idx := 101) (V := one a1) (S := T) rfl rfl rfl (Nat.le_of_ble_eq_true rfl) (Nat.le_of_ble_eq_true rfl) rfl (zx_X_isOne ⟨rfl, rfl⟩) ?_
    refine ev_if_eqB (x := (one a1)) (tgt := 30) rfl rfl (fun h => ?_) (fun h => ?_)
    · replace H := H.1 (h)
      refine ev_ex 1 (c' := (31, [some (.ref a), some (.int a0), some (.int a1)], [.int 0], hX c T)) rfl ?_
      exact ev_ret rfl rfl rfl ⟨_, _, rfl, rfl, H⟩
    · replace H := H.2 (h)
      refine ev_ex 1 (c' := (15, [some (.ref a), some (.int a0), some (.int a1)], [.ref a], hX c T)) rfl ?_
      obtain ⟨h1, H⟩ := H
      refine xe_gfr (ci := 2) (k := 11) rfl rfl h1.1 ⟨by decide, by decide⟩ rfl h1.f11 ?_
      refine ev_ex 1 (c' := (19, [some (.ref a), some (.int a0), some (.int a1)], [.int a0, .ref (a + 16)], hX c T)) rfl ?_
      obtain ⟨H0, H⟩ := H
      refine xe_al rfl h1.a11 H0 ?_
      refine ev_ex 0 (c' := (20, [some (.ref a), some (.int a0), some (.int a1)], [.int (xA T (a + 16) (ix a0))], hX c T)) rfl ?_
      refine ev_ex 1 (c' := (21, [some (.ref a), some (.int a0), some (.int a1)], [.ref a, .int (xA T (a + 16) (ix a0))], hX c T)) rfl ?_
      refine xe_gfr (ci := 2) (k := 12) rfl rfl h1.1 ⟨by decide, by decide⟩ rfl h1.f12 ?_
      refine ev_ex 1 (c' := (25, [some (.ref a), some (.int a0), some (.int a1)], [.int a1, .ref (a + 20), .int (xA T (a + 16) (ix a0))], hX c T)) rfl ?_
      obtain ⟨H0, H⟩ := H
      refine xe_al rfl h1.a12 H0 ?_
      refine ev_ex 0 (c' := (26, [some (.ref a), some (.int a0), some (.int a1)], [.int (xA T (a + 20) (ix a1)), .int (xA T (a + 16) (ix a0))], hX c T)) rfl ?_
      refine ev_ex 2 (c' := (31, [some (.ref a), some (.int a0), some (.int a1)], [.int ((xA T (a + 16) (ix a0)) * (xA T (a + 20) (ix a1)))], hX c T)) rfl ?_
      exact ev_ret rfl rfl rfl ⟨_, _, rfl, rfl, H⟩
set_option maxRecDepth 8000 in
theorem wx_Cv_flagOfAll {c : CX} {d : Nat} {T : XS} {Q : Option Nat → XS → Prop} (a1 : Int32) (H : XO c d m_JA_copyOfRange [.ref 33, .int (a1 * 10), .int ((a1 + 1) * 10)] T (fun v2 T1 => Q v2 T1)) : XO c (d + 1) m_Cv_flagOfAll [.ref 9, .int a1] T Q := by
  refine ⟨q_Cv_flagOfAll, rfl, Nat.le_of_ble_eq_true rfl, ?_⟩
  refine ev_ex 0 (c' := (0, [some (.ref 9), some (.int a1)], [], hX c T)) rfl ?_
  refine ev_ex 1 (c' := (1, [some (.ref 9), some (.int a1)], [.ref 9], hX c T)) rfl ?_
  refine xe_gf (ci := 7) (k := 2) rfl rfl (ob_lit (i := 2) rfl (by decide) rfl) ⟨by decide, by decide⟩ (v := .ref 33) rfl ?_
  refine ev_ex 8 (c' := (14, [some (.ref 9), some (.int a1)], [.int ((a1 + 1) * 10), .int (a1 * 10), .ref 33], hX c T)) rfl ?_
  refine xc_O (idx := 91) rfl rfl rfl (Nat.le_of_ble_eq_true rfl) (Nat.le_of_ble_eq_true rfl) rfl H (fun v2 T1 H => ?_)
  refine ev_ex 0 (c' := (17, [some (.ref 9), some (.int a1)], [va_rf v2], hX c T1)) rfl ?_
  exact ev_retO (e := v2) rfl rfl (Or.inr ⟨_, rfl⟩) ⟨_, _, rfl, rfl, H⟩
set_option maxRecDepth 8000 in
theorem wx_Cv_tellsOfNight {c : CX} {d : Nat} {T : XS} {Q : Bool → XS → Prop} (a0 : Nat) (n_a0 : Nat) (H : eX c (d) m_Cv_tellsOfNight 8 [some (.ref a0), some (.int 0)] T (yB c Q)) : XB c (d) m_Cv_tellsOfNight [.ref a0] T Q := by
  refine ⟨q_Cv_tellsOfNight, rfl, Nat.le_of_ble_eq_true rfl, ?_⟩
  refine ev_ex 0 (c' := (0, [some (.ref a0), none], [], hX c T)) rfl ?_
  refine ev_ex 1 (c' := (1, [some (.ref a0), none], [.ref a0], hX c T)) rfl ?_
  refine ev_ex 3 (c' := (8, [some (.ref a0), some (.int 0)], [], hX c T)) rfl ?_
  exact H
set_option maxRecDepth 8000 in
theorem wx_Cv_tellsOfNight_8 {c : CX} {d : Nat} {T : XS} {Q : Bool → XS → Prop} (a0 : Nat) (n_a0 : Nat) (l1 : Int32) (H : (ar T a0 20 n_a0 ∧ (((nI n_a0) ≤ l1 → Q false T) ∧ (¬ (nI n_a0) ≤ l1 → (okx l1 n_a0 ∧ ((¬ (xA T a0 (ix l1)) = 1024 → eX c (d) m_Cv_tellsOfNight 8 [some (.ref a0), some (.int (l1 + 1))] T (yB c Q)) ∧ ((xA T a0 (ix l1)) = 1024 → Q true T))))))) : eX c (d) m_Cv_tellsOfNight 8 [some (.ref a0), some (.int l1)] T (yB c Q) := by
  unfold eX
  refine ev_ex 0 (c' := (8, [some (.ref a0), some (.int l1)], [], hX c T)) rfl ?_
  refine ev_ex 2 (c' := (10, [some (.ref a0), some (.int l1)], [.ref a0, .int l1], hX c T)) rfl ?_
  obtain ⟨h51, H⟩ := H
  refine xe_len (kd := 20) rfl h51 (by decide) ?_
  refine ev_icmp_ge (tgt := 31) rfl rfl (fun h => ?_) (fun h => ?_)
  · replace H := H.1 (h)
    refine ev_ex 1 (c' := (32, [some (.ref a0), some (.int l1)], [.int 0], hX c T)) rfl ?_
    exact ev_retB (x := false) rfl rfl ⟨_, _, rfl, rfl, H⟩
  · replace H := H.2 (h)
    refine ev_ex 2 (c' := (16, [some (.ref a0), some (.int l1)], [.int l1, .ref a0], hX c T)) rfl ?_
    obtain ⟨H0, H⟩ := H
    refine xe_al rfl h51 H0 ?_
    refine ev_ex 0 (c' := (17, [some (.ref a0), some (.int l1)], [.int (xA T a0 (ix l1))], hX c T)) rfl ?_
    refine ev_ex 1 (c' := (20, [some (.ref a0), some (.int l1)], [.int 1024, .int (xA T a0 (ix l1))], hX c T)) rfl ?_
    refine ev_icmp_ne (tgt := 25) rfl rfl (fun h => ?_) (fun h => ?_)
    · replace H := H.1 (h)
      refine ev_ex 2 (c' := (8, [some (.ref a0), some (.int (l1 + 1))], [], hX c T)) rfl ?_
      exact H
    · replace H := H.2 (h)
      refine ev_ex 1 (c' := (24, [some (.ref a0), some (.int l1)], [.int 1], hX c T)) rfl ?_
      exact ev_retB (x := true) rfl rfl ⟨_, _, rfl, rfl, H⟩
set_option maxRecDepth 8000 in
theorem wx_Tk_begin {c : CX} {d : Nat} {T : XS} {Q : XS → Prop} (a1 : Int32) (H : Q (tI (tI (tI (tI (tR T 13 0 (some 5)) 13 1 (mnI a1 900)) 13 2 0) 13 6 0) 13 7 ((-1)))) : XV c (d + 1) m_Tk_begin [.ref 13, .ref 5, .int a1] T Q := by
  refine ⟨q_Tk_begin, rfl, Nat.le_of_ble_eq_true rfl, ?_⟩
  refine ev_ex 0 (c' := (0, [some (.ref 13), some (.ref 5), some (.int a1)], [], hX c T)) rfl ?_
  refine ev_ex 2 (c' := (2, [some (.ref 13), some (.ref 5), some (.int a1)], [.ref 5, .ref 13], hX c T)) rfl ?_
  refine xe_pr (ci := 10) (k := 0) (x := (some 5)) rfl rfl (ob_lit (i := 3) rfl (by decide) rfl) ⟨by decide, by decide⟩ (Nat.le_of_ble_eq_true rfl) (fr_10_0 _ _ _ (frx_put (Or.inr rfl))) ?_
  refine ev_ex 3 (c' := (8, [some (.ref 13), some (.ref 5), some (.int a1)], [.ref 5, .int a1, .ref 13], hX c (tR T 13 0 (some 5)))) rfl ?_
  refine xe_len (kd := 21) rfl (ar_lit (i := 1) rfl (by decide) rfl) (by decide) ?_
  refine ev_ex 0 (c' := (9, [some (.ref 13), some (.ref 5), some (.int a1)], [.int 900, .int a1, .ref 13], hX c (tR T 13 0 (some 5)))) rfl ?_
  refine xq_I (idx := 19) (V := mnI a1 900) (S := tR T 13 0 (some 5)) rfl rfl rfl (Nat.le_of_ble_eq_true rfl) (Nat.le_of_ble_eq_true rfl) rfl (zx_JM_min ⟨rfl, rfl⟩) ?_
  refine xe_pi (ci := 10) (k := 1) rfl rfl (ob_lit (i := 3) rfl (by decide) rfl) ⟨by decide, by decide⟩ (Nat.le_of_ble_eq_true rfl) rfl (fi_10_1 _ _ _) ?_
  refine ev_ex 2 (c' := (17, [some (.ref 13), some (.ref 5), some (.int a1)], [.int 0, .ref 13], hX c (tI (tR T 13 0 (some 5)) 13 1 (mnI a1 900)))) rfl ?_
  refine xe_pi (ci := 10) (k := 2) rfl rfl (ob_lit (i := 3) rfl (by decide) rfl) ⟨by decide, by decide⟩ (Nat.le_of_ble_eq_true rfl) rfl (fi_10_2 _ _ _) ?_
  refine ev_ex 2 (c' := (22, [some (.ref 13), some (.ref 5), some (.int a1)], [.int 0, .ref 13], hX c (tI (tI (tR T 13 0 (some 5)) 13 1 (mnI a1 900)) 13 2 0))) rfl ?_
  refine xe_pi (ci := 10) (k := 6) rfl rfl (ob_lit (i := 3) rfl (by decide) rfl) ⟨by decide, by decide⟩ (Nat.le_of_ble_eq_true rfl) rfl (fi_10_6 _ _ _) ?_
  refine ev_ex 2 (c' := (27, [some (.ref 13), some (.ref 5), some (.int a1)], [.int ((-1)), .ref 13], hX c (tI (tI (tI (tR T 13 0 (some 5)) 13 1 (mnI a1 900)) 13 2 0) 13 6 0))) rfl ?_
  refine xe_pi (ci := 10) (k := 7) rfl rfl (ob_lit (i := 3) rfl (by decide) rfl) ⟨by decide, by decide⟩ (Nat.le_of_ble_eq_true rfl) rfl (fi_10_7 _ _ _) ?_
  exact ev_ret rfl rfl rfl ⟨_, rfl, rfl, H⟩
set_option maxRecDepth 8000 in
theorem wx_Tk_move {c : CX} {d : Nat} {T : XS} {Q : XS → Prop}  (H : eX c (d + 1) m_Tk_move 0 [some (.ref 13), none] T (yV c Q)) : XV c (d + 1) m_Tk_move [.ref 13] T Q := by
  refine ⟨q_Tk_move, rfl, Nat.le_of_ble_eq_true rfl, ?_⟩
  refine ev_ex 0 (c' := (0, [some (.ref 13), none], [], hX c T)) rfl ?_
  exact H
set_option maxRecDepth 8000 in
theorem wx_Tk_move_0 {c : CX} {d : Nat} {T : XS} {Q : XS → Prop}  (H : (((xI T 13 1) ≤ (xI T 13 2) → (((xI T 13 2) < (xI T 13 1) → (frx T 13 0 = some 5 ∧ (okx (xI T 13 2) 900 ∧ (((isLt (xA T 5 (ix (xI T 13 2)))) = false → (okx (xI T 13 2) 900 ∧ (((isDg (xA T 5 (ix (xI T 13 2)))) = false → (okx (xI T 13 2) 900 ∧ (((xA T 5 (ix (xI T 13 2))) ≤ 0 → Q (tI (tI (tI T 13 3 (xI T 13 2)) 13 4 38) 13 2 ((xI T 13 2) + 1))) ∧ (¬ (xA T 5 (ix (xI T 13 2))) ≤ 0 → (okx (xI T 13 2) 900 ∧ XI c d m_JS_indexOf [.ref 40, .int (((xA T 5 (ix (xI T 13 2))).toUInt32 % 65536).toInt32)] (tI T 13 3 (xI T 13 2)) (fun v53 T52 => ((0 ≤ v53 → Q (tI (tI T52 13 4 (25 + v53)) 13 2 ((xI T52 13 2) + 1))) ∧ (¬ 0 ≤ v53 → Q (tI (tI T52 13 4 38) 13 2 ((xI T52 13 2) + 1)))))))))) ∧ ((isDg (xA T 5 (ix (xI T 13 2)))) = true → XV c d m_Tk_moveOverNumber [.ref 13] (tI T 13 3 (xI T 13 2)) (fun T54 => Q T54))))) ∧ ((isLt (xA T 5 (ix (xI T 13 2)))) = true → XV c d m_Tk_moveOverWord [.ref 13] (tI T 13 3 (xI T 13 2)) (fun T55 => Q T55)))))) ∧ (¬ (xI T 13 2) < (xI T 13 1) → Q (tI (tI T 13 3 (xI T 13 2)) 13 4 37)))) ∧ (¬ (xI T 13 1) ≤ (xI T 13 2) → (frx T 13 0 = some 5 ∧ (okx (xI T 13 2) 900 ∧ (((xA T 5 (ix (xI T 13 2))) = 10 → eX c (d + 1) m_Tk_move 0 [some (.ref 13), none] (tI T 13 2 ((xI T 13 2) + 1)) (yV c Q)) ∧ (¬ (xA T 5 (ix (xI T 13 2))) = 10 → (okx (xI T 13 2) 900 ∧ ((¬ (xA T 5 (ix (xI T 13 2))) = 32 → (((xI T 13 2) < (xI T 13 1) → (okx (xI T 13 2) 900 ∧ (((isLt (xA T 5 (ix (xI T 13 2)))) = false → (okx (xI T 13 2) 900 ∧ (((isDg (xA T 5 (ix (xI T 13 2)))) = false → (okx (xI T 13 2) 900 ∧ (((xA T 5 (ix (xI T 13 2))) ≤ 0 → Q (tI (tI (tI T 13 3 (xI T 13 2)) 13 4 38) 13 2 ((xI T 13 2) + 1))) ∧ (¬ (xA T 5 (ix (xI T 13 2))) ≤ 0 → (okx (xI T 13 2) 900 ∧ XI c d m_JS_indexOf [.ref 40, .int (((xA T 5 (ix (xI T 13 2))).toUInt32 % 65536).toInt32)] (tI T 13 3 (xI T 13 2)) (fun v58 T57 => ((0 ≤ v58 → Q (tI (tI T57 13 4 (25 + v58)) 13 2 ((xI T57 13 2) + 1))) ∧ (¬ 0 ≤ v58 → Q (tI (tI T57 13 4 38) 13 2 ((xI T57 13 2) + 1)))))))))) ∧ ((isDg (xA T 5 (ix (xI T 13 2)))) = true → XV c d m_Tk_moveOverNumber [.ref 13] (tI T 13 3 (xI T 13 2)) (fun T59 => Q T59))))) ∧ ((isLt (xA T 5 (ix (xI T 13 2)))) = true → XV c d m_Tk_moveOverWord [.ref 13] (tI T 13 3 (xI T 13 2)) (fun T60 => Q T60))))) ∧ (¬ (xI T 13 2) < (xI T 13 1) → Q (tI (tI T 13 3 (xI T 13 2)) 13 4 37)))) ∧ ((xA T 5 (ix (xI T 13 2))) = 32 → eX c (d + 1) m_Tk_move 0 [some (.ref 13), none] (tI T 13 2 ((xI T 13 2) + 1)) (yV c Q))))))))))) : eX c (d + 1) m_Tk_move 0 [some (.ref 13), none] T (yV c Q) := by
  unfold eX
  refine ev_ex 0 (c' := (0, [some (.ref 13), none], [], hX c T)) rfl ?_
  refine ev_ex 1 (c' := (1, [some (.ref 13), none], [.ref 13], hX c T)) rfl ?_
  refine xe_gf (ci := 10) (k := 2) rfl rfl (ob_lit (i := 3) rfl (by decide) rfl) ⟨by decide, by decide⟩ (v := .int (xI T 13 2)) rfl ?_
  refine ev_ex 1 (c' := (5, [some (.ref 13), none], [.ref 13, .int (xI T 13 2)], hX c T)) rfl ?_
  refine xe_gf (ci := 10) (k := 1) rfl rfl (ob_lit (i := 3) rfl (by decide) rfl) ⟨by decide, by decide⟩ (v := .int (xI T 13 1)) rfl ?_
  refine ev_icmp_ge (tgt := 52) rfl rfl (fun h => ?_) (fun h => ?_)
  · replace H := H.1 (h)
    refine ev_ex 2 (c' := (54, [some (.ref 13), none], [.ref 13, .ref 13], hX c T)) rfl ?_
    refine xe_gf (ci := 10) (k := 2) rfl rfl (ob_lit (i := 3) rfl (by decide) rfl) ⟨by decide, by decide⟩ (v := .int (xI T 13 2)) rfl ?_
    refine xe_pi (ci := 10) (k := 3) rfl rfl (ob_lit (i := 3) rfl (by decide) rfl) ⟨by decide, by decide⟩ (Nat.le_of_ble_eq_true rfl) rfl (fi_10_3 _ _ _) ?_
    refine ev_ex 1 (c' := (61, [some (.ref 13), none], [.ref 13], hX c (tI T 13 3 (xI T 13 2)))) rfl ?_
    refine xe_gf (ci := 10) (k := 2) rfl rfl (ob_lit (i := 3) rfl (by decide) rfl) ⟨by decide, by decide⟩ (v := .int (xI T 13 2)) rfl ?_
    refine ev_ex 1 (c' := (65, [some (.ref 13), none], [.ref 13, .int (xI T 13 2)], hX c (tI T 13 3 (xI T 13 2)))) rfl ?_
    refine xe_gf (ci := 10) (k := 1) rfl rfl (ob_lit (i := 3) rfl (by decide) rfl) ⟨by decide, by decide⟩ (v := .int (xI T 13 1)) rfl ?_
    refine ev_icmp_lt (tgt := 80) rfl rfl (fun h => ?_) (fun h => ?_)
    · replace H := H.1 (h)
      refine ev_ex 1 (c' := (81, [some (.ref 13), none], [.ref 13], hX c (tI T 13 3 (xI T 13 2)))) rfl ?_
      obtain ⟨h51, H⟩ := H
      refine xe_gfr (ci := 10) (k := 0) rfl rfl (ob_lit (i := 3) rfl (by decide) rfl) ⟨by decide, by decide⟩ rfl h51 ?_
      refine ev_ex 1 (c' := (85, [some (.ref 13), none], [.ref 13, .ref 5], hX c (tI T 13 3 (xI T 13 2)))) rfl ?_
      refine xe_gf (ci := 10) (k := 2) rfl rfl (ob_lit (i := 3) rfl (by decide) rfl) ⟨by decide, by decide⟩ (v := .int (xI T 13 2)) rfl ?_
      obtain ⟨H0, H⟩ := H
      refine xe_bl rfl (ar_lit (i := 1) rfl (by decide) rfl) H0 ?_
      refine ev_ex 0 (c' := (89, [some (.ref 13), none], [.int (xA T 5 (ix (xI T 13 2)))], hX c (tI T 13 3 (xI T 13 2)))) rfl ?_
      refine xq_B (idx := 40) (V := isLt (xA T 5 (ix (xI T 13 2)))) (S := tI T 13 3 (xI T 13 2)) rfl rfl rfl (Nat.le_of_ble_eq_true rfl) (Nat.le_of_ble_eq_true rfl) rfl (zx_Tk_isLetter ⟨rfl, rfl⟩) ?_
      refine ev_if_eqB (x := (isLt (xA T 5 (ix (xI T 13 2))))) (tgt := 102) rfl rfl (fun h => ?_) (fun h => ?_)
      · replace H := H.1 (h)
        refine ev_ex 1 (c' := (103, [some (.ref 13), none], [.ref 13], hX c (tI T 13 3 (xI T 13 2)))) rfl ?_
        refine xe_gfr (ci := 10) (k := 0) rfl rfl (ob_lit (i := 3) rfl (by decide) rfl) ⟨by decide, by decide⟩ rfl h51 ?_
        refine ev_ex 1 (c' := (107, [some (.ref 13), none], [.ref 13, .ref 5], hX c (tI T 13 3 (xI T 13 2)))) rfl ?_
        refine xe_gf (ci := 10) (k := 2) rfl rfl (ob_lit (i := 3) rfl (by decide) rfl) ⟨by decide, by decide⟩ (v := .int (xI T 13 2)) rfl ?_
        obtain ⟨H0, H⟩ := H
        refine xe_bl rfl (ar_lit (i := 1) rfl (by decide) rfl) H0 ?_
        refine ev_ex 0 (c' := (111, [some (.ref 13), none], [.int (xA T 5 (ix (xI T 13 2)))], hX c (tI T 13 3 (xI T 13 2)))) rfl ?_
        refine xq_B (idx := 47) (V := isDg (xA T 5 (ix (xI T 13 2)))) (S := tI T 13 3 (xI T 13 2)) rfl rfl rfl (Nat.le_of_ble_eq_true rfl) (Nat.le_of_ble_eq_true rfl) rfl (zx_Tk_isDigit ⟨rfl, rfl⟩) ?_
        refine ev_if_eqB (x := (isDg (xA T 5 (ix (xI T 13 2))))) (tgt := 124) rfl rfl (fun h => ?_) (fun h => ?_)
        · replace H := H.1 (h)
          refine ev_ex 1 (c' := (125, [some (.ref 13), none], [.ref 13], hX c (tI T 13 3 (xI T 13 2)))) rfl ?_
          refine xe_gfr (ci := 10) (k := 0) rfl rfl (ob_lit (i := 3) rfl (by decide) rfl) ⟨by decide, by decide⟩ rfl h51 ?_
          refine ev_ex 1 (c' := (129, [some (.ref 13), none], [.ref 13, .ref 5], hX c (tI T 13 3 (xI T 13 2)))) rfl ?_
          refine xe_gf (ci := 10) (k := 2) rfl rfl (ob_lit (i := 3) rfl (by decide) rfl) ⟨by decide, by decide⟩ (v := .int (xI T 13 2)) rfl ?_
          obtain ⟨H0, H⟩ := H
          refine xe_bl rfl (ar_lit (i := 1) rfl (by decide) rfl) H0 ?_
          refine ev_ex 0 (c' := (133, [some (.ref 13), none], [.int (xA T 5 (ix (xI T 13 2)))], hX c (tI T 13 3 (xI T 13 2)))) rfl ?_
          refine ev_if_le (tgt := 154) rfl rfl (fun h => ?_) (fun h => ?_)
          · replace H := H.1 (h)
            refine ev_ex 7 (c' := (170, [some (.ref 13), some (.int ((-1)))], [.int 38, .ref 13], hX c (tI T 13 3 (xI T 13 2)))) rfl ?_
            refine xe_pi (ci := 10) (k := 4) rfl rfl (ob_lit (i := 3) rfl (by decide) rfl) ⟨by decide, by decide⟩ (Nat.le_of_ble_eq_true rfl) rfl (fi_10_4 _ _ _) ?_
            refine ev_ex 2 (c' := (175, [some (.ref 13), some (.int ((-1)))], [.ref 13, .ref 13], hX c (tI (tI T 13 3 (xI T 13 2)) 13 4 38))) rfl ?_
            refine xe_gf (ci := 10) (k := 2) rfl rfl (ob_lit (i := 3) rfl (by decide) rfl) ⟨by decide, by decide⟩ (v := .int (xI T 13 2)) rfl ?_
            refine ev_ex 2 (c' := (180, [some (.ref 13), some (.int ((-1)))], [.int ((xI T 13 2) + 1), .ref 13], hX c (tI (tI T 13 3 (xI T 13 2)) 13 4 38))) rfl ?_
            refine xe_pi (ci := 10) (k := 2) rfl rfl (ob_lit (i := 3) rfl (by decide) rfl) ⟨by decide, by decide⟩ (Nat.le_of_ble_eq_true rfl) rfl (fi_10_2 _ _ _) ?_
            exact ev_ret rfl rfl rfl ⟨_, rfl, rfl, H⟩
          · replace H := H.2 (h)
            refine ev_ex 2 (c' := (139, [some (.ref 13), none], [.ref 13, .ref 40], hX c (tI T 13 3 (xI T 13 2)))) rfl ?_
            refine xe_gfr (ci := 10) (k := 0) rfl rfl (ob_lit (i := 3) rfl (by decide) rfl) ⟨by decide, by decide⟩ rfl h51 ?_
            refine ev_ex 1 (c' := (143, [some (.ref 13), none], [.ref 13, .ref 5, .ref 40], hX c (tI T 13 3 (xI T 13 2)))) rfl ?_
            refine xe_gf (ci := 10) (k := 2) rfl rfl (ob_lit (i := 3) rfl (by decide) rfl) ⟨by decide, by decide⟩ (v := .int (xI T 13 2)) rfl ?_
            obtain ⟨H0, H⟩ := H
            refine xe_bl rfl (ar_lit (i := 1) rfl (by decide) rfl) H0 ?_
            refine ev_ex 0 (c' := (147, [some (.ref 13), none], [.int (xA T 5 (ix (xI T 13 2))), .ref 40], hX c (tI T 13 3 (xI T 13 2)))) rfl ?_
            refine ev_ex 1 (c' := (148, [some (.ref 13), none], [.int (((xA T 5 (ix (xI T 13 2))).toUInt32 % 65536).toInt32), .ref 40], hX c (tI T 13 3 (xI T 13 2)))) rfl ?_
            refine xc_I (idx := 55) rfl rfl rfl (Nat.le_of_ble_eq_true rfl) (Nat.le_of_ble_eq_true rfl) rfl H (fun v53 T52 H => ?_)
            refine ev_ex 4 (c' := (158, [some (.ref 13), some (.int v53)], [.int v53, .ref 13], hX c T52)) rfl ?_
            refine ev_if_ge (tgt := 166) rfl rfl (fun h => ?_) (fun h => ?_)
            · replace H := H.1 (h)
              refine ev_ex 3 (c' := (170, [some (.ref 13), some (.int v53)], [.int (25 + v53), .ref 13], hX c T52)) rfl ?_
              refine xe_pi (ci := 10) (k := 4) rfl rfl (ob_lit (i := 3) rfl (by decide) rfl) ⟨by decide, by decide⟩ (Nat.le_of_ble_eq_true rfl) rfl (fi_10_4 _ _ _) ?_
              refine ev_ex 2 (c' := (175, [some (.ref 13), some (.int v53)], [.ref 13, .ref 13], hX c (tI T52 13 4 (25 + v53)))) rfl ?_
              refine xe_gf (ci := 10) (k := 2) rfl rfl (ob_lit (i := 3) rfl (by decide) rfl) ⟨by decide, by decide⟩ (v := .int (xI T52 13 2)) rfl ?_
              refine ev_ex 2 (c' := (180, [some (.ref 13), some (.int v53)], [.int ((xI T52 13 2) + 1), .ref 13], hX c (tI T52 13 4 (25 + v53)))) rfl ?_
              refine xe_pi (ci := 10) (k := 2) rfl rfl (ob_lit (i := 3) rfl (by decide) rfl) ⟨by decide, by decide⟩ (Nat.le_of_ble_eq_true rfl) rfl (fi_10_2 _ _ _) ?_
              exact ev_ret rfl rfl rfl ⟨_, rfl, rfl, H⟩
            · replace H := H.2 (h)
              refine ev_ex 2 (c' := (170, [some (.ref 13), some (.int v53)], [.int 38, .ref 13], hX c T52)) rfl ?_
              refine xe_pi (ci := 10) (k := 4) rfl rfl (ob_lit (i := 3) rfl (by decide) rfl) ⟨by decide, by decide⟩ (Nat.le_of_ble_eq_true rfl) rfl (fi_10_4 _ _ _) ?_
              refine ev_ex 2 (c' := (175, [some (.ref 13), some (.int v53)], [.ref 13, .ref 13], hX c (tI T52 13 4 38))) rfl ?_
              refine xe_gf (ci := 10) (k := 2) rfl rfl (ob_lit (i := 3) rfl (by decide) rfl) ⟨by decide, by decide⟩ (v := .int (xI T52 13 2)) rfl ?_
              refine ev_ex 2 (c' := (180, [some (.ref 13), some (.int v53)], [.int ((xI T52 13 2) + 1), .ref 13], hX c (tI T52 13 4 38))) rfl ?_
              refine xe_pi (ci := 10) (k := 2) rfl rfl (ob_lit (i := 3) rfl (by decide) rfl) ⟨by decide, by decide⟩ (Nat.le_of_ble_eq_true rfl) rfl (fi_10_2 _ _ _) ?_
              exact ev_ret rfl rfl rfl ⟨_, rfl, rfl, H⟩
        · replace H := H.2 (h)
          refine ev_ex 1 (c' := (118, [some (.ref 13), none], [.ref 13], hX c (tI T 13 3 (xI T 13 2)))) rfl ?_
          refine xc_V (idx := 50) rfl rfl rfl (Nat.le_of_ble_eq_true rfl) (Nat.le_of_ble_eq_true rfl) (x_rcv (T := tI T 13 3 (xI T 13 2)) (ob_lit (i := 3) rfl (by decide) rfl) ⟨by decide, by decide⟩ _ _) H (fun T54 H => ?_)
          refine ev_ex 1 (c' := (183, [some (.ref 13), none], [], hX c T54)) rfl ?_
          exact ev_ret rfl rfl rfl ⟨_, rfl, rfl, H⟩
      · replace H := H.2 (h)
        refine ev_ex 1 (c' := (96, [some (.ref 13), none], [.ref 13], hX c (tI T 13 3 (xI T 13 2)))) rfl ?_
        refine xc_V (idx := 44) rfl rfl rfl (Nat.le_of_ble_eq_true rfl) (Nat.le_of_ble_eq_true rfl) (x_rcv (T := tI T 13 3 (xI T 13 2)) (ob_lit (i := 3) rfl (by decide) rfl) ⟨by decide, by decide⟩ _ _) H (fun T55 H => ?_)
        refine ev_ex 1 (c' := (183, [some (.ref 13), none], [], hX c T55)) rfl ?_
        exact ev_ret rfl rfl rfl ⟨_, rfl, rfl, H⟩
    · replace H := H.2 (h)
      refine ev_ex 2 (c' := (74, [some (.ref 13), none], [.int 37, .ref 13], hX c (tI T 13 3 (xI T 13 2)))) rfl ?_
      refine xe_pi (ci := 10) (k := 4) rfl rfl (ob_lit (i := 3) rfl (by decide) rfl) ⟨by decide, by decide⟩ (Nat.le_of_ble_eq_true rfl) rfl (fi_10_4 _ _ _) ?_
      refine ev_ex 1 (c' := (183, [some (.ref 13), none], [], hX c (tI (tI T 13 3 (xI T 13 2)) 13 4 37))) rfl ?_
      exact ev_ret rfl rfl rfl ⟨_, rfl, rfl, H⟩
  · replace H := H.2 (h)
    refine ev_ex 1 (c' := (12, [some (.ref 13), none], [.ref 13], hX c T)) rfl ?_
    obtain ⟨h56, H⟩ := H
    refine xe_gfr (ci := 10) (k := 0) rfl rfl (ob_lit (i := 3) rfl (by decide) rfl) ⟨by decide, by decide⟩ rfl h56 ?_
    refine ev_ex 1 (c' := (16, [some (.ref 13), none], [.ref 13, .ref 5], hX c T)) rfl ?_
    refine xe_gf (ci := 10) (k := 2) rfl rfl (ob_lit (i := 3) rfl (by decide) rfl) ⟨by decide, by decide⟩ (v := .int (xI T 13 2)) rfl ?_
    obtain ⟨H0, H⟩ := H
    refine xe_bl rfl (ar_lit (i := 1) rfl (by decide) rfl) H0 ?_
    refine ev_ex 0 (c' := (20, [some (.ref 13), none], [.int (xA T 5 (ix (xI T 13 2)))], hX c T)) rfl ?_
    refine ev_ex 1 (c' := (22, [some (.ref 13), none], [.int 10, .int (xA T 5 (ix (xI T 13 2)))], hX c T)) rfl ?_
    refine ev_icmp_eq (tgt := 39) rfl rfl (fun h => ?_) (fun h => ?_)
    · replace H := H.1 (h)
      refine ev_ex 2 (c' := (41, [some (.ref 13), none], [.ref 13, .ref 13], hX c T)) rfl ?_
      refine xe_gf (ci := 10) (k := 2) rfl rfl (ob_lit (i := 3) rfl (by decide) rfl) ⟨by decide, by decide⟩ (v := .int (xI T 13 2)) rfl ?_
      refine ev_ex 2 (c' := (46, [some (.ref 13), none], [.int ((xI T 13 2) + 1), .ref 13], hX c T)) rfl ?_
      refine xe_pi (ci := 10) (k := 2) rfl rfl (ob_lit (i := 3) rfl (by decide) rfl) ⟨by decide, by decide⟩ (Nat.le_of_ble_eq_true rfl) rfl (fi_10_2 _ _ _) ?_
      refine ev_ex 1 (c' := (0, [some (.ref 13), none], [], hX c (tI T 13 2 ((xI T 13 2) + 1)))) rfl ?_
      exact H
    · replace H := H.2 (h)
      refine ev_ex 1 (c' := (26, [some (.ref 13), none], [.ref 13], hX c T)) rfl ?_
      refine xe_gfr (ci := 10) (k := 0) rfl rfl (ob_lit (i := 3) rfl (by decide) rfl) ⟨by decide, by decide⟩ rfl h56 ?_
      refine ev_ex 1 (c' := (30, [some (.ref 13), none], [.ref 13, .ref 5], hX c T)) rfl ?_
      refine xe_gf (ci := 10) (k := 2) rfl rfl (ob_lit (i := 3) rfl (by decide) rfl) ⟨by decide, by decide⟩ (v := .int (xI T 13 2)) rfl ?_
      obtain ⟨H0, H⟩ := H
      refine xe_bl rfl (ar_lit (i := 1) rfl (by decide) rfl) H0 ?_
      refine ev_ex 0 (c' := (34, [some (.ref 13), none], [.int (xA T 5 (ix (xI T 13 2)))], hX c T)) rfl ?_
      refine ev_ex 1 (c' := (36, [some (.ref 13), none], [.int 32, .int (xA T 5 (ix (xI T 13 2)))], hX c T)) rfl ?_
      refine ev_icmp_ne (tgt := 52) rfl rfl (fun h => ?_) (fun h => ?_)
      · replace H := H.1 (h)
        refine ev_ex 2 (c' := (54, [some (.ref 13), none], [.ref 13, .ref 13], hX c T)) rfl ?_
        refine xe_gf (ci := 10) (k := 2) rfl rfl (ob_lit (i := 3) rfl (by decide) rfl) ⟨by decide, by decide⟩ (v := .int (xI T 13 2)) rfl ?_
        refine xe_pi (ci := 10) (k := 3) rfl rfl (ob_lit (i := 3) rfl (by decide) rfl) ⟨by decide, by decide⟩ (Nat.le_of_ble_eq_true rfl) rfl (fi_10_3 _ _ _) ?_
        refine ev_ex 1 (c' := (61, [some (.ref 13), none], [.ref 13], hX c (tI T 13 3 (xI T 13 2)))) rfl ?_
        refine xe_gf (ci := 10) (k := 2) rfl rfl (ob_lit (i := 3) rfl (by decide) rfl) ⟨by decide, by decide⟩ (v := .int (xI T 13 2)) rfl ?_
        refine ev_ex 1 (c' := (65, [some (.ref 13), none], [.ref 13, .int (xI T 13 2)], hX c (tI T 13 3 (xI T 13 2)))) rfl ?_
        refine xe_gf (ci := 10) (k := 1) rfl rfl (ob_lit (i := 3) rfl (by decide) rfl) ⟨by decide, by decide⟩ (v := .int (xI T 13 1)) rfl ?_
        refine ev_icmp_lt (tgt := 80) rfl rfl (fun h => ?_) (fun h => ?_)
        · replace H := H.1 (h)
          refine ev_ex 1 (c' := (81, [some (.ref 13), none], [.ref 13], hX c (tI T 13 3 (xI T 13 2)))) rfl ?_
          refine xe_gfr (ci := 10) (k := 0) rfl rfl (ob_lit (i := 3) rfl (by decide) rfl) ⟨by decide, by decide⟩ rfl h56 ?_
          refine ev_ex 1 (c' := (85, [some (.ref 13), none], [.ref 13, .ref 5], hX c (tI T 13 3 (xI T 13 2)))) rfl ?_
          refine xe_gf (ci := 10) (k := 2) rfl rfl (ob_lit (i := 3) rfl (by decide) rfl) ⟨by decide, by decide⟩ (v := .int (xI T 13 2)) rfl ?_
          obtain ⟨H0, H⟩ := H
          refine xe_bl rfl (ar_lit (i := 1) rfl (by decide) rfl) H0 ?_
          refine ev_ex 0 (c' := (89, [some (.ref 13), none], [.int (xA T 5 (ix (xI T 13 2)))], hX c (tI T 13 3 (xI T 13 2)))) rfl ?_
          refine xq_B (idx := 40) (V := isLt (xA T 5 (ix (xI T 13 2)))) (S := tI T 13 3 (xI T 13 2)) rfl rfl rfl (Nat.le_of_ble_eq_true rfl) (Nat.le_of_ble_eq_true rfl) rfl (zx_Tk_isLetter ⟨rfl, rfl⟩) ?_
          refine ev_if_eqB (x := (isLt (xA T 5 (ix (xI T 13 2))))) (tgt := 102) rfl rfl (fun h => ?_) (fun h => ?_)
          · replace H := H.1 (h)
            refine ev_ex 1 (c' := (103, [some (.ref 13), none], [.ref 13], hX c (tI T 13 3 (xI T 13 2)))) rfl ?_
            refine xe_gfr (ci := 10) (k := 0) rfl rfl (ob_lit (i := 3) rfl (by decide) rfl) ⟨by decide, by decide⟩ rfl h56 ?_
            refine ev_ex 1 (c' := (107, [some (.ref 13), none], [.ref 13, .ref 5], hX c (tI T 13 3 (xI T 13 2)))) rfl ?_
            refine xe_gf (ci := 10) (k := 2) rfl rfl (ob_lit (i := 3) rfl (by decide) rfl) ⟨by decide, by decide⟩ (v := .int (xI T 13 2)) rfl ?_
            obtain ⟨H0, H⟩ := H
            refine xe_bl rfl (ar_lit (i := 1) rfl (by decide) rfl) H0 ?_
            refine ev_ex 0 (c' := (111, [some (.ref 13), none], [.int (xA T 5 (ix (xI T 13 2)))], hX c (tI T 13 3 (xI T 13 2)))) rfl ?_
            refine xq_B (idx := 47) (V := isDg (xA T 5 (ix (xI T 13 2)))) (S := tI T 13 3 (xI T 13 2)) rfl rfl rfl (Nat.le_of_ble_eq_true rfl) (Nat.le_of_ble_eq_true rfl) rfl (zx_Tk_isDigit ⟨rfl, rfl⟩) ?_
            refine ev_if_eqB (x := (isDg (xA T 5 (ix (xI T 13 2))))) (tgt := 124) rfl rfl (fun h => ?_) (fun h => ?_)
            · replace H := H.1 (h)
              refine ev_ex 1 (c' := (125, [some (.ref 13), none], [.ref 13], hX c (tI T 13 3 (xI T 13 2)))) rfl ?_
              refine xe_gfr (ci := 10) (k := 0) rfl rfl (ob_lit (i := 3) rfl (by decide) rfl) ⟨by decide, by decide⟩ rfl h56 ?_
              refine ev_ex 1 (c' := (129, [some (.ref 13), none], [.ref 13, .ref 5], hX c (tI T 13 3 (xI T 13 2)))) rfl ?_
              refine xe_gf (ci := 10) (k := 2) rfl rfl (ob_lit (i := 3) rfl (by decide) rfl) ⟨by decide, by decide⟩ (v := .int (xI T 13 2)) rfl ?_
              obtain ⟨H0, H⟩ := H
              refine xe_bl rfl (ar_lit (i := 1) rfl (by decide) rfl) H0 ?_
              refine ev_ex 0 (c' := (133, [some (.ref 13), none], [.int (xA T 5 (ix (xI T 13 2)))], hX c (tI T 13 3 (xI T 13 2)))) rfl ?_
              refine ev_if_le (tgt := 154) rfl rfl (fun h => ?_) (fun h => ?_)
              · replace H := H.1 (h)
                refine ev_ex 7 (c' := (170, [some (.ref 13), some (.int ((-1)))], [.int 38, .ref 13], hX c (tI T 13 3 (xI T 13 2)))) rfl ?_
                refine xe_pi (ci := 10) (k := 4) rfl rfl (ob_lit (i := 3) rfl (by decide) rfl) ⟨by decide, by decide⟩ (Nat.le_of_ble_eq_true rfl) rfl (fi_10_4 _ _ _) ?_
                refine ev_ex 2 (c' := (175, [some (.ref 13), some (.int ((-1)))], [.ref 13, .ref 13], hX c (tI (tI T 13 3 (xI T 13 2)) 13 4 38))) rfl ?_
                refine xe_gf (ci := 10) (k := 2) rfl rfl (ob_lit (i := 3) rfl (by decide) rfl) ⟨by decide, by decide⟩ (v := .int (xI T 13 2)) rfl ?_
                refine ev_ex 2 (c' := (180, [some (.ref 13), some (.int ((-1)))], [.int ((xI T 13 2) + 1), .ref 13], hX c (tI (tI T 13 3 (xI T 13 2)) 13 4 38))) rfl ?_
                refine xe_pi (ci := 10) (k := 2) rfl rfl (ob_lit (i := 3) rfl (by decide) rfl) ⟨by decide, by decide⟩ (Nat.le_of_ble_eq_true rfl) rfl (fi_10_2 _ _ _) ?_
                exact ev_ret rfl rfl rfl ⟨_, rfl, rfl, H⟩
              · replace H := H.2 (h)
                refine ev_ex 2 (c' := (139, [some (.ref 13), none], [.ref 13, .ref 40], hX c (tI T 13 3 (xI T 13 2)))) rfl ?_
                refine xe_gfr (ci := 10) (k := 0) rfl rfl (ob_lit (i := 3) rfl (by decide) rfl) ⟨by decide, by decide⟩ rfl h56 ?_
                refine ev_ex 1 (c' := (143, [some (.ref 13), none], [.ref 13, .ref 5, .ref 40], hX c (tI T 13 3 (xI T 13 2)))) rfl ?_
                refine xe_gf (ci := 10) (k := 2) rfl rfl (ob_lit (i := 3) rfl (by decide) rfl) ⟨by decide, by decide⟩ (v := .int (xI T 13 2)) rfl ?_
                obtain ⟨H0, H⟩ := H
                refine xe_bl rfl (ar_lit (i := 1) rfl (by decide) rfl) H0 ?_
                refine ev_ex 0 (c' := (147, [some (.ref 13), none], [.int (xA T 5 (ix (xI T 13 2))), .ref 40], hX c (tI T 13 3 (xI T 13 2)))) rfl ?_
                refine ev_ex 1 (c' := (148, [some (.ref 13), none], [.int (((xA T 5 (ix (xI T 13 2))).toUInt32 % 65536).toInt32), .ref 40], hX c (tI T 13 3 (xI T 13 2)))) rfl ?_
                refine xc_I (idx := 55) rfl rfl rfl (Nat.le_of_ble_eq_true rfl) (Nat.le_of_ble_eq_true rfl) rfl H (fun v58 T57 H => ?_)
                refine ev_ex 4 (c' := (158, [some (.ref 13), some (.int v58)], [.int v58, .ref 13], hX c T57)) rfl ?_
                refine ev_if_ge (tgt := 166) rfl rfl (fun h => ?_) (fun h => ?_)
                · replace H := H.1 (h)
                  refine ev_ex 3 (c' := (170, [some (.ref 13), some (.int v58)], [.int (25 + v58), .ref 13], hX c T57)) rfl ?_
                  refine xe_pi (ci := 10) (k := 4) rfl rfl (ob_lit (i := 3) rfl (by decide) rfl) ⟨by decide, by decide⟩ (Nat.le_of_ble_eq_true rfl) rfl (fi_10_4 _ _ _) ?_
                  refine ev_ex 2 (c' := (175, [some (.ref 13), some (.int v58)], [.ref 13, .ref 13], hX c (tI T57 13 4 (25 + v58)))) rfl ?_
                  refine xe_gf (ci := 10) (k := 2) rfl rfl (ob_lit (i := 3) rfl (by decide) rfl) ⟨by decide, by decide⟩ (v := .int (xI T57 13 2)) rfl ?_
                  refine ev_ex 2 (c' := (180, [some (.ref 13), some (.int v58)], [.int ((xI T57 13 2) + 1), .ref 13], hX c (tI T57 13 4 (25 + v58)))) rfl ?_
                  refine xe_pi (ci := 10) (k := 2) rfl rfl (ob_lit (i := 3) rfl (by decide) rfl) ⟨by decide, by decide⟩ (Nat.le_of_ble_eq_true rfl) rfl (fi_10_2 _ _ _) ?_
                  exact ev_ret rfl rfl rfl ⟨_, rfl, rfl, H⟩
                · replace H := H.2 (h)
                  refine ev_ex 2 (c' := (170, [some (.ref 13), some (.int v58)], [.int 38, .ref 13], hX c T57)) rfl ?_
                  refine xe_pi (ci := 10) (k := 4) rfl rfl (ob_lit (i := 3) rfl (by decide) rfl) ⟨by decide, by decide⟩ (Nat.le_of_ble_eq_true rfl) rfl (fi_10_4 _ _ _) ?_
                  refine ev_ex 2 (c' := (175, [some (.ref 13), some (.int v58)], [.ref 13, .ref 13], hX c (tI T57 13 4 38))) rfl ?_
                  refine xe_gf (ci := 10) (k := 2) rfl rfl (ob_lit (i := 3) rfl (by decide) rfl) ⟨by decide, by decide⟩ (v := .int (xI T57 13 2)) rfl ?_
                  refine ev_ex 2 (c' := (180, [some (.ref 13), some (.int v58)], [.int ((xI T57 13 2) + 1), .ref 13], hX c (tI T57 13 4 38))) rfl ?_
                  refine xe_pi (ci := 10) (k := 2) rfl rfl (ob_lit (i := 3) rfl (by decide) rfl) ⟨by decide, by decide⟩ (Nat.le_of_ble_eq_true rfl) rfl (fi_10_2 _ _ _) ?_
                  exact ev_ret rfl rfl rfl ⟨_, rfl, rfl, H⟩
            · replace H := H.2 (h)
              refine ev_ex 1 (c' := (118, [some (.ref 13), none], [.ref 13], hX c (tI T 13 3 (xI T 13 2)))) rfl ?_
              refine xc_V (idx := 50) rfl rfl rfl (Nat.le_of_ble_eq_true rfl) (Nat.le_of_ble_eq_true rfl) (x_rcv (T := tI T 13 3 (xI T 13 2)) (ob_lit (i := 3) rfl (by decide) rfl) ⟨by decide, by decide⟩ _ _) H (fun T59 H => ?_)
              refine ev_ex 1 (c' := (183, [some (.ref 13), none], [], hX c T59)) rfl ?_
              exact ev_ret rfl rfl rfl ⟨_, rfl, rfl, H⟩
          · replace H := H.2 (h)
            refine ev_ex 1 (c' := (96, [some (.ref 13), none], [.ref 13], hX c (tI T 13 3 (xI T 13 2)))) rfl ?_
            refine xc_V (idx := 44) rfl rfl rfl (Nat.le_of_ble_eq_true rfl) (Nat.le_of_ble_eq_true rfl) (x_rcv (T := tI T 13 3 (xI T 13 2)) (ob_lit (i := 3) rfl (by decide) rfl) ⟨by decide, by decide⟩ _ _) H (fun T60 H => ?_)
            refine ev_ex 1 (c' := (183, [some (.ref 13), none], [], hX c T60)) rfl ?_
            exact ev_ret rfl rfl rfl ⟨_, rfl, rfl, H⟩
        · replace H := H.2 (h)
          refine ev_ex 2 (c' := (74, [some (.ref 13), none], [.int 37, .ref 13], hX c (tI T 13 3 (xI T 13 2)))) rfl ?_
          refine xe_pi (ci := 10) (k := 4) rfl rfl (ob_lit (i := 3) rfl (by decide) rfl) ⟨by decide, by decide⟩ (Nat.le_of_ble_eq_true rfl) rfl (fi_10_4 _ _ _) ?_
          refine ev_ex 1 (c' := (183, [some (.ref 13), none], [], hX c (tI (tI T 13 3 (xI T 13 2)) 13 4 37))) rfl ?_
          exact ev_ret rfl rfl rfl ⟨_, rfl, rfl, H⟩
      · replace H := H.2 (h)
        refine ev_ex 2 (c' := (41, [some (.ref 13), none], [.ref 13, .ref 13], hX c T)) rfl ?_
        refine xe_gf (ci := 10) (k := 2) rfl rfl (ob_lit (i := 3) rfl (by decide) rfl) ⟨by decide, by decide⟩ (v := .int (xI T 13 2)) rfl ?_
        refine ev_ex 2 (c' := (46, [some (.ref 13), none], [.int ((xI T 13 2) + 1), .ref 13], hX c T)) rfl ?_
        refine xe_pi (ci := 10) (k := 2) rfl rfl (ob_lit (i := 3) rfl (by decide) rfl) ⟨by decide, by decide⟩ (Nat.le_of_ble_eq_true rfl) rfl (fi_10_2 _ _ _) ?_
        refine ev_ex 1 (c' := (0, [some (.ref 13), none], [], hX c (tI T 13 2 ((xI T 13 2) + 1)))) rfl ?_
        exact H
set_option maxRecDepth 8000 in
theorem wx_Tk_moveOverWord {c : CX} {d : Nat} {T : XS} {Q : XS → Prop}  (H : eX c (d + 1) m_Tk_moveOverWord 0 [some (.ref 13), none, none, none] T (yV c Q)) : XV c (d + 1) m_Tk_moveOverWord [.ref 13] T Q := by
  refine ⟨q_Tk_moveOverWord, rfl, Nat.le_of_ble_eq_true rfl, ?_⟩
  refine ev_ex 0 (c' := (0, [some (.ref 13), none, none, none], [], hX c T)) rfl ?_
  exact H
set_option maxRecDepth 8000 in
theorem wx_Tk_moveOverWord_0 {c : CX} {d : Nat} {T : XS} {Q : XS → Prop}  (H : (((xI T 13 1) ≤ (xI T 13 2) → eX c (d + 1) m_Tk_moveOverWord 51 [some (.ref 13), some (.int 0), some (.int 0), some (.int 0)] (tI T 13 4 39) (yV c Q)) ∧ (¬ (xI T 13 1) ≤ (xI T 13 2) → (frx T 13 0 = some 5 ∧ (okx (xI T 13 2) 900 ∧ (((isLt (xA T 5 (ix (xI T 13 2)))) = false → eX c (d + 1) m_Tk_moveOverWord 51 [some (.ref 13), some (.int 0), some (.int 0), some (.int 0)] (tI T 13 4 39) (yV c Q)) ∧ ((isLt (xA T 5 (ix (xI T 13 2)))) = true → eX c (d + 1) m_Tk_moveOverWord 0 [some (.ref 13), none, none, none] (tI T 13 2 ((xI T 13 2) + 1)) (yV c Q)))))))) : eX c (d + 1) m_Tk_moveOverWord 0 [some (.ref 13), none, none, none] T (yV c Q) := by
  unfold eX
  refine ev_ex 0 (c' := (0, [some (.ref 13), none, none, none], [], hX c T)) rfl ?_
  refine ev_ex 1 (c' := (1, [some (.ref 13), none, none, none], [.ref 13], hX c T)) rfl ?_
  refine xe_gf (ci := 10) (k := 2) rfl rfl (ob_lit (i := 3) rfl (by decide) rfl) ⟨by decide, by decide⟩ (v := .int (xI T 13 2)) rfl ?_
  refine ev_ex 1 (c' := (5, [some (.ref 13), none, none, none], [.ref 13, .int (xI T 13 2)], hX c T)) rfl ?_
  refine xe_gf (ci := 10) (k := 1) rfl rfl (ob_lit (i := 3) rfl (by decide) rfl) ⟨by decide, by decide⟩ (v := .int (xI T 13 1)) rfl ?_
  refine ev_icmp_ge (tgt := 39) rfl rfl (fun h => ?_) (fun h => ?_)
  · replace H := H.1 (h)
    refine ev_ex 2 (c' := (42, [some (.ref 13), none, none, none], [.int 39, .ref 13], hX c T)) rfl ?_
    refine xe_pi (ci := 10) (k := 4) rfl rfl (ob_lit (i := 3) rfl (by decide) rfl) ⟨by decide, by decide⟩ (Nat.le_of_ble_eq_true rfl) rfl (fi_10_4 _ _ _) ?_
    refine ev_ex 6 (c' := (51, [some (.ref 13), some (.int 0), some (.int 0), some (.int 0)], [], hX c (tI T 13 4 39))) rfl ?_
    exact H
  · replace H := H.2 (h)
    refine ev_ex 1 (c' := (12, [some (.ref 13), none, none, none], [.ref 13], hX c T)) rfl ?_
    obtain ⟨h51, H⟩ := H
    refine xe_gfr (ci := 10) (k := 0) rfl rfl (ob_lit (i := 3) rfl (by decide) rfl) ⟨by decide, by decide⟩ rfl h51 ?_
    refine ev_ex 1 (c' := (16, [some (.ref 13), none, none, none], [.ref 13, .ref 5], hX c T)) rfl ?_
    refine xe_gf (ci := 10) (k := 2) rfl rfl (ob_lit (i := 3) rfl (by decide) rfl) ⟨by decide, by decide⟩ (v := .int (xI T 13 2)) rfl ?_
    obtain ⟨H0, H⟩ := H
    refine xe_bl rfl (ar_lit (i := 1) rfl (by decide) rfl) H0 ?_
    refine ev_ex 0 (c' := (20, [some (.ref 13), none, none, none], [.int (xA T 5 (ix (xI T 13 2)))], hX c T)) rfl ?_
    refine xq_B (idx := 40) (V := isLt (xA T 5 (ix (xI T 13 2)))) (S := T) rfl rfl rfl (Nat.le_of_ble_eq_true rfl) (Nat.le_of_ble_eq_true rfl) rfl (zx_Tk_isLetter ⟨rfl, rfl⟩) ?_
    refine ev_if_eqB (x := (isLt (xA T 5 (ix (xI T 13 2))))) (tgt := 39) rfl rfl (fun h => ?_) (fun h => ?_)
    · replace H := H.1 (h)
      refine ev_ex 2 (c' := (42, [some (.ref 13), none, none, none], [.int 39, .ref 13], hX c T)) rfl ?_
      refine xe_pi (ci := 10) (k := 4) rfl rfl (ob_lit (i := 3) rfl (by decide) rfl) ⟨by decide, by decide⟩ (Nat.le_of_ble_eq_true rfl) rfl (fi_10_4 _ _ _) ?_
      refine ev_ex 6 (c' := (51, [some (.ref 13), some (.int 0), some (.int 0), some (.int 0)], [], hX c (tI T 13 4 39))) rfl ?_
      exact H
    · replace H := H.2 (h)
      refine ev_ex 2 (c' := (28, [some (.ref 13), none, none, none], [.ref 13, .ref 13], hX c T)) rfl ?_
      refine xe_gf (ci := 10) (k := 2) rfl rfl (ob_lit (i := 3) rfl (by decide) rfl) ⟨by decide, by decide⟩ (v := .int (xI T 13 2)) rfl ?_
      refine ev_ex 2 (c' := (33, [some (.ref 13), none, none, none], [.int ((xI T 13 2) + 1), .ref 13], hX c T)) rfl ?_
      refine xe_pi (ci := 10) (k := 2) rfl rfl (ob_lit (i := 3) rfl (by decide) rfl) ⟨by decide, by decide⟩ (Nat.le_of_ble_eq_true rfl) rfl (fi_10_2 _ _ _) ?_
      refine ev_ex 1 (c' := (0, [some (.ref 13), none, none, none], [], hX c (tI T 13 2 ((xI T 13 2) + 1)))) rfl ?_
      exact H
set_option maxRecDepth 8000 in
theorem wx_Tk_moveOverWord_51 {c : CX} {d : Nat} {T : XS} {Q : XS → Prop} (l1 : Int32) (l2 : Int32) (l3 : Int32) (H : XI c d m_JS_length [.ref 32] T (fun v52 T51 => ((v52 ≤ l3 → Q T51) ∧ (¬ v52 ≤ l3 → XI c d m_JS_charAt [.ref 32, .int l3] T51 (fun v54 T53 => ((¬ v54 = 32 → eX c (d + 1) m_Tk_moveOverWord 51 [some (.ref 13), some (.int l1), some (.int l2), some (.int (l3 + 1))] T53 (yV c Q)) ∧ (v54 = 32 → XB c d m_Tk_isWord [.ref 13, .int l2, .int l3] T53 (fun v56 T55 => ((v56 = false → eX c (d + 1) m_Tk_moveOverWord 51 [some (.ref 13), some (.int (l1 + 1)), some (.int (l3 + 1)), some (.int (l3 + 1))] T55 (yV c Q)) ∧ (v56 = true → Q (tI T55 13 4 l1))))))))))) : eX c (d + 1) m_Tk_moveOverWord 51 [some (.ref 13), some (.int l1), some (.int l2), some (.int l3)] T (yV c Q) := by
  unfold eX
  refine ev_ex 0 (c' := (51, [some (.ref 13), some (.int l1), some (.int l2), some (.int l3)], [], hX c T)) rfl ?_
  refine ev_ex 2 (c' := (54, [some (.ref 13), some (.int l1), some (.int l2), some (.int l3)], [.ref 32, .int l3], hX c T)) rfl ?_
  refine xc_I (idx := 63) rfl rfl rfl (Nat.le_of_ble_eq_true rfl) (Nat.le_of_ble_eq_true rfl) rfl H (fun v52 T51 H => ?_)
  refine ev_icmp_ge (tgt := 99) rfl rfl (fun h => ?_) (fun h => ?_)
  · replace H := H.1 (h)
    exact ev_ret rfl rfl rfl ⟨_, rfl, rfl, H⟩
  · replace H := H.2 (h)
    refine ev_ex 2 (c' := (63, [some (.ref 13), some (.int l1), some (.int l2), some (.int l3)], [.int l3, .ref 32], hX c T51)) rfl ?_
    refine xc_I (idx := 67) rfl rfl rfl (Nat.le_of_ble_eq_true rfl) (Nat.le_of_ble_eq_true rfl) rfl H (fun v54 T53 H => ?_)
    refine ev_ex 1 (c' := (68, [some (.ref 13), some (.int l1), some (.int l2), some (.int l3)], [.int 32, .int v54], hX c T53)) rfl ?_
    refine ev_icmp_ne (tgt := 93) rfl rfl (fun h => ?_) (fun h => ?_)
    · replace H := H.1 (h)
      refine ev_ex 2 (c' := (51, [some (.ref 13), some (.int l1), some (.int l2), some (.int (l3 + 1))], [], hX c T53)) rfl ?_
      exact H
    · replace H := H.2 (h)
      refine ev_ex 3 (c' := (74, [some (.ref 13), some (.int l1), some (.int l2), some (.int l3)], [.int l3, .int l2, .ref 13], hX c T53)) rfl ?_
      refine xc_B (idx := 71) rfl rfl rfl (Nat.le_of_ble_eq_true rfl) (Nat.le_of_ble_eq_true rfl) (x_rcv (T := T53) (ob_lit (i := 3) rfl (by decide) rfl) ⟨by decide, by decide⟩ _ _) H (fun v56 T55 H => ?_)
      refine ev_if_eqB (x := v56) (tgt := 86) rfl rfl (fun h => ?_) (fun h => ?_)
      · replace H := H.1 (h)
        refine ev_ex 7 (c' := (51, [some (.ref 13), some (.int (l1 + 1)), some (.int (l3 + 1)), some (.int (l3 + 1))], [], hX c T55)) rfl ?_
        exact H
      · replace H := H.2 (h)
        refine ev_ex 2 (c' := (82, [some (.ref 13), some (.int l1), some (.int l2), some (.int l3)], [.int l1, .ref 13], hX c T55)) rfl ?_
        refine xe_pi (ci := 10) (k := 4) rfl rfl (ob_lit (i := 3) rfl (by decide) rfl) ⟨by decide, by decide⟩ (Nat.le_of_ble_eq_true rfl) rfl (fi_10_4 _ _ _) ?_
        exact ev_ret rfl rfl rfl ⟨_, rfl, rfl, H⟩
set_option maxRecDepth 8000 in
theorem wx_Tk_moveOverNumber {c : CX} {d : Nat} {T : XS} {Q : XS → Prop}  (H : eX c (d + 1) m_Tk_moveOverNumber 5 [some (.ref 13)] (tI T 13 5 0) (yV c Q)) : XV c (d + 1) m_Tk_moveOverNumber [.ref 13] T Q := by
  refine ⟨q_Tk_moveOverNumber, rfl, Nat.le_of_ble_eq_true rfl, ?_⟩
  refine ev_ex 0 (c' := (0, [some (.ref 13)], [], hX c T)) rfl ?_
  refine ev_ex 2 (c' := (2, [some (.ref 13)], [.int 0, .ref 13], hX c T)) rfl ?_
  refine xe_pi (ci := 10) (k := 5) rfl rfl (ob_lit (i := 3) rfl (by decide) rfl) ⟨by decide, by decide⟩ (Nat.le_of_ble_eq_true rfl) rfl (fi_10_5 _ _ _) ?_
  exact H
set_option maxRecDepth 8000 in
theorem wx_Tk_moveOverNumber_5 {c : CX} {d : Nat} {T : XS} {Q : XS → Prop}  (H : (((xI T 13 1) ≤ (xI T 13 2) → ((((xI T 13 2) - (xI T 13 3)) ≤ 3 → Q (tI T 13 4 36)) ∧ (¬ ((xI T 13 2) - (xI T 13 3)) ≤ 3 → Q (tI T 13 4 38)))) ∧ (¬ (xI T 13 1) ≤ (xI T 13 2) → (frx T 13 0 = some 5 ∧ (okx (xI T 13 2) 900 ∧ (((isDg (xA T 5 (ix (xI T 13 2)))) = false → ((((xI T 13 2) - (xI T 13 3)) ≤ 3 → Q (tI T 13 4 36)) ∧ (¬ ((xI T 13 2) - (xI T 13 3)) ≤ 3 → Q (tI T 13 4 38)))) ∧ ((isDg (xA T 5 (ix (xI T 13 2)))) = true → ((3 ≤ ((xI T 13 2) - (xI T 13 3)) → eX c (d + 1) m_Tk_moveOverNumber 5 [some (.ref 13)] (tI T 13 2 ((xI T 13 2) + 1)) (yV c Q)) ∧ (¬ 3 ≤ ((xI T 13 2) - (xI T 13 3)) → (okx (xI T 13 2) 900 ∧ eX c (d + 1) m_Tk_moveOverNumber 5 [some (.ref 13)] (tI (tI T 13 5 ((((xI T 13 5) * 10) + (xA T 5 (ix (xI T 13 2)))) - 48)) 13 2 ((xI T 13 2) + 1)) (yV c Q))))))))))) : eX c (d + 1) m_Tk_moveOverNumber 5 [some (.ref 13)] T (yV c Q) := by
  unfold eX
  refine ev_ex 0 (c' := (5, [some (.ref 13)], [], hX c T)) rfl ?_
  refine ev_ex 1 (c' := (6, [some (.ref 13)], [.ref 13], hX c T)) rfl ?_
  refine xe_gf (ci := 10) (k := 2) rfl rfl (ob_lit (i := 3) rfl (by decide) rfl) ⟨by decide, by decide⟩ (v := .int (xI T 13 2)) rfl ?_
  refine ev_ex 1 (c' := (10, [some (.ref 13)], [.ref 13, .int (xI T 13 2)], hX c T)) rfl ?_
  refine xe_gf (ci := 10) (k := 1) rfl rfl (ob_lit (i := 3) rfl (by decide) rfl) ⟨by decide, by decide⟩ (v := .int (xI T 13 1)) rfl ?_
  refine ev_icmp_ge (tgt := 81) rfl rfl (fun h => ?_) (fun h => ?_)
  · replace H := H.1 (h)
    refine ev_ex 2 (c' := (83, [some (.ref 13)], [.ref 13, .ref 13], hX c T)) rfl ?_
    refine xe_gf (ci := 10) (k := 2) rfl rfl (ob_lit (i := 3) rfl (by decide) rfl) ⟨by decide, by decide⟩ (v := .int (xI T 13 2)) rfl ?_
    refine ev_ex 1 (c' := (87, [some (.ref 13)], [.ref 13, .int (xI T 13 2), .ref 13], hX c T)) rfl ?_
    refine xe_gf (ci := 10) (k := 3) rfl rfl (ob_lit (i := 3) rfl (by decide) rfl) ⟨by decide, by decide⟩ (v := .int (xI T 13 3)) rfl ?_
    refine ev_ex 2 (c' := (92, [some (.ref 13)], [.int 3, .int ((xI T 13 2) - (xI T 13 3)), .ref 13], hX c T)) rfl ?_
    refine ev_icmp_le (tgt := 100) rfl rfl (fun h => ?_) (fun h => ?_)
    · replace H := H.1 (h)
      refine ev_ex 1 (c' := (102, [some (.ref 13)], [.int 36, .ref 13], hX c T)) rfl ?_
      refine xe_pi (ci := 10) (k := 4) rfl rfl (ob_lit (i := 3) rfl (by decide) rfl) ⟨by decide, by decide⟩ (Nat.le_of_ble_eq_true rfl) rfl (fi_10_4 _ _ _) ?_
      exact ev_ret rfl rfl rfl ⟨_, rfl, rfl, H⟩
    · replace H := H.2 (h)
      refine ev_ex 2 (c' := (102, [some (.ref 13)], [.int 38, .ref 13], hX c T)) rfl ?_
      refine xe_pi (ci := 10) (k := 4) rfl rfl (ob_lit (i := 3) rfl (by decide) rfl) ⟨by decide, by decide⟩ (Nat.le_of_ble_eq_true rfl) rfl (fi_10_4 _ _ _) ?_
      exact ev_ret rfl rfl rfl ⟨_, rfl, rfl, H⟩
  · replace H := H.2 (h)
    refine ev_ex 1 (c' := (17, [some (.ref 13)], [.ref 13], hX c T)) rfl ?_
    obtain ⟨h51, H⟩ := H
    refine xe_gfr (ci := 10) (k := 0) rfl rfl (ob_lit (i := 3) rfl (by decide) rfl) ⟨by decide, by decide⟩ rfl h51 ?_
    refine ev_ex 1 (c' := (21, [some (.ref 13)], [.ref 13, .ref 5], hX c T)) rfl ?_
    refine xe_gf (ci := 10) (k := 2) rfl rfl (ob_lit (i := 3) rfl (by decide) rfl) ⟨by decide, by decide⟩ (v := .int (xI T 13 2)) rfl ?_
    obtain ⟨H0, H⟩ := H
    refine xe_bl rfl (ar_lit (i := 1) rfl (by decide) rfl) H0 ?_
    refine ev_ex 0 (c' := (25, [some (.ref 13)], [.int (xA T 5 (ix (xI T 13 2)))], hX c T)) rfl ?_
    refine xq_B (idx := 47) (V := isDg (xA T 5 (ix (xI T 13 2)))) (S := T) rfl rfl rfl (Nat.le_of_ble_eq_true rfl) (Nat.le_of_ble_eq_true rfl) rfl (zx_Tk_isDigit ⟨rfl, rfl⟩) ?_
    refine ev_if_eqB (x := (isDg (xA T 5 (ix (xI T 13 2))))) (tgt := 81) rfl rfl (fun h => ?_) (fun h => ?_)
    · replace H := H.1 (h)
      refine ev_ex 2 (c' := (83, [some (.ref 13)], [.ref 13, .ref 13], hX c T)) rfl ?_
      refine xe_gf (ci := 10) (k := 2) rfl rfl (ob_lit (i := 3) rfl (by decide) rfl) ⟨by decide, by decide⟩ (v := .int (xI T 13 2)) rfl ?_
      refine ev_ex 1 (c' := (87, [some (.ref 13)], [.ref 13, .int (xI T 13 2), .ref 13], hX c T)) rfl ?_
      refine xe_gf (ci := 10) (k := 3) rfl rfl (ob_lit (i := 3) rfl (by decide) rfl) ⟨by decide, by decide⟩ (v := .int (xI T 13 3)) rfl ?_
      refine ev_ex 2 (c' := (92, [some (.ref 13)], [.int 3, .int ((xI T 13 2) - (xI T 13 3)), .ref 13], hX c T)) rfl ?_
      refine ev_icmp_le (tgt := 100) rfl rfl (fun h => ?_) (fun h => ?_)
      · replace H := H.1 (h)
        refine ev_ex 1 (c' := (102, [some (.ref 13)], [.int 36, .ref 13], hX c T)) rfl ?_
        refine xe_pi (ci := 10) (k := 4) rfl rfl (ob_lit (i := 3) rfl (by decide) rfl) ⟨by decide, by decide⟩ (Nat.le_of_ble_eq_true rfl) rfl (fi_10_4 _ _ _) ?_
        exact ev_ret rfl rfl rfl ⟨_, rfl, rfl, H⟩
      · replace H := H.2 (h)
        refine ev_ex 2 (c' := (102, [some (.ref 13)], [.int 38, .ref 13], hX c T)) rfl ?_
        refine xe_pi (ci := 10) (k := 4) rfl rfl (ob_lit (i := 3) rfl (by decide) rfl) ⟨by decide, by decide⟩ (Nat.le_of_ble_eq_true rfl) rfl (fi_10_4 _ _ _) ?_
        exact ev_ret rfl rfl rfl ⟨_, rfl, rfl, H⟩
    · replace H := H.2 (h)
      refine ev_ex 1 (c' := (32, [some (.ref 13)], [.ref 13], hX c T)) rfl ?_
      refine xe_gf (ci := 10) (k := 2) rfl rfl (ob_lit (i := 3) rfl (by decide) rfl) ⟨by decide, by decide⟩ (v := .int (xI T 13 2)) rfl ?_
      refine ev_ex 1 (c' := (36, [some (.ref 13)], [.ref 13, .int (xI T 13 2)], hX c T)) rfl ?_
      refine xe_gf (ci := 10) (k := 3) rfl rfl (ob_lit (i := 3) rfl (by decide) rfl) ⟨by decide, by decide⟩ (v := .int (xI T 13 3)) rfl ?_
      refine ev_ex 2 (c' := (41, [some (.ref 13)], [.int 3, .int ((xI T 13 2) - (xI T 13 3))], hX c T)) rfl ?_
      refine ev_icmp_ge (tgt := 68) rfl rfl (fun h => ?_) (fun h => ?_)
      · replace H := H.1 (h)
        refine ev_ex 2 (c' := (70, [some (.ref 13)], [.ref 13, .ref 13], hX c T)) rfl ?_
        refine xe_gf (ci := 10) (k := 2) rfl rfl (ob_lit (i := 3) rfl (by decide) rfl) ⟨by decide, by decide⟩ (v := .int (xI T 13 2)) rfl ?_
        refine ev_ex 2 (c' := (75, [some (.ref 13)], [.int ((xI T 13 2) + 1), .ref 13], hX c T)) rfl ?_
        refine xe_pi (ci := 10) (k := 2) rfl rfl (ob_lit (i := 3) rfl (by decide) rfl) ⟨by decide, by decide⟩ (Nat.le_of_ble_eq_true rfl) rfl (fi_10_2 _ _ _) ?_
        refine ev_ex 1 (c' := (5, [some (.ref 13)], [], hX c (tI T 13 2 ((xI T 13 2) + 1)))) rfl ?_
        exact H
      · replace H := H.2 (h)
        refine ev_ex 2 (c' := (46, [some (.ref 13)], [.ref 13, .ref 13], hX c T)) rfl ?_
        refine xe_gf (ci := 10) (k := 5) rfl rfl (ob_lit (i := 3) rfl (by decide) rfl) ⟨by decide, by decide⟩ (v := .int (xI T 13 5)) rfl ?_
        refine ev_ex 3 (c' := (53, [some (.ref 13)], [.ref 13, .int ((xI T 13 5) * 10), .ref 13], hX c T)) rfl ?_
        refine xe_gfr (ci := 10) (k := 0) rfl rfl (ob_lit (i := 3) rfl (by decide) rfl) ⟨by decide, by decide⟩ rfl h51 ?_
        refine ev_ex 1 (c' := (57, [some (.ref 13)], [.ref 13, .ref 5, .int ((xI T 13 5) * 10), .ref 13], hX c T)) rfl ?_
        refine xe_gf (ci := 10) (k := 2) rfl rfl (ob_lit (i := 3) rfl (by decide) rfl) ⟨by decide, by decide⟩ (v := .int (xI T 13 2)) rfl ?_
        obtain ⟨H0, H⟩ := H
        refine xe_bl rfl (ar_lit (i := 1) rfl (by decide) rfl) H0 ?_
        refine ev_ex 0 (c' := (61, [some (.ref 13)], [.int (xA T 5 (ix (xI T 13 2))), .int ((xI T 13 5) * 10), .ref 13], hX c T)) rfl ?_
        refine ev_ex 3 (c' := (65, [some (.ref 13)], [.int ((((xI T 13 5) * 10) + (xA T 5 (ix (xI T 13 2)))) - 48), .ref 13], hX c T)) rfl ?_
        refine xe_pi (ci := 10) (k := 5) rfl rfl (ob_lit (i := 3) rfl (by decide) rfl) ⟨by decide, by decide⟩ (Nat.le_of_ble_eq_true rfl) rfl (fi_10_5 _ _ _) ?_
        refine ev_ex 2 (c' := (70, [some (.ref 13)], [.ref 13, .ref 13], hX c (tI T 13 5 ((((xI T 13 5) * 10) + (xA T 5 (ix (xI T 13 2)))) - 48)))) rfl ?_
        refine xe_gf (ci := 10) (k := 2) rfl rfl (ob_lit (i := 3) rfl (by decide) rfl) ⟨by decide, by decide⟩ (v := .int (xI T 13 2)) rfl ?_
        refine ev_ex 2 (c' := (75, [some (.ref 13)], [.int ((xI T 13 2) + 1), .ref 13], hX c (tI T 13 5 ((((xI T 13 5) * 10) + (xA T 5 (ix (xI T 13 2)))) - 48)))) rfl ?_
        refine xe_pi (ci := 10) (k := 2) rfl rfl (ob_lit (i := 3) rfl (by decide) rfl) ⟨by decide, by decide⟩ (Nat.le_of_ble_eq_true rfl) rfl (fi_10_2 _ _ _) ?_
        refine ev_ex 1 (c' := (5, [some (.ref 13)], [], hX c (tI (tI T 13 5 ((((xI T 13 5) * 10) + (xA T 5 (ix (xI T 13 2)))) - 48)) 13 2 ((xI T 13 2) + 1)))) rfl ?_
        exact H
set_option maxRecDepth 8000 in
theorem wx_Tk_refuse {c : CX} {d : Nat} {T : XS} {Q : Bool → XS → Prop} (a0 : Int32) (H : ((¬ (xI T 13 4) = 38 → Q false (tI (tI T 13 6 a0) 13 7 (xI T 13 3))) ∧ ((xI T 13 4) = 38 → Q false (tI (tI T 13 6 1) 13 7 (xI T 13 3))))) : XB c (d) m_Tk_refuse [.ref 13, .int a0] T Q := by
  refine ⟨q_Tk_refuse, rfl, Nat.le_of_ble_eq_true rfl, ?_⟩
  refine ev_ex 0 (c' := (0, [some (.ref 13), some (.int a0)], [], hX c T)) rfl ?_
  refine ev_ex 2 (c' := (2, [some (.ref 13), some (.int a0)], [.ref 13, .ref 13], hX c T)) rfl ?_
  refine xe_gf (ci := 10) (k := 4) rfl rfl (ob_lit (i := 3) rfl (by decide) rfl) ⟨by decide, by decide⟩ (v := .int (xI T 13 4)) rfl ?_
  refine ev_ex 1 (c' := (7, [some (.ref 13), some (.int a0)], [.int 38, .int (xI T 13 4), .ref 13], hX c T)) rfl ?_
  refine ev_icmp_ne (tgt := 14) rfl rfl (fun h => ?_) (fun h => ?_)
  · replace H := H.1 (h)
    refine ev_ex 1 (c' := (15, [some (.ref 13), some (.int a0)], [.int a0, .ref 13], hX c T)) rfl ?_
    refine xe_pi (ci := 10) (k := 6) rfl rfl (ob_lit (i := 3) rfl (by decide) rfl) ⟨by decide, by decide⟩ (Nat.le_of_ble_eq_true rfl) rfl (fi_10_6 _ _ _) ?_
    refine ev_ex 2 (c' := (20, [some (.ref 13), some (.int a0)], [.ref 13, .ref 13], hX c (tI T 13 6 a0))) rfl ?_
    refine xe_gf (ci := 10) (k := 3) rfl rfl (ob_lit (i := 3) rfl (by decide) rfl) ⟨by decide, by decide⟩ (v := .int (xI T 13 3)) rfl ?_
    refine xe_pi (ci := 10) (k := 7) rfl rfl (ob_lit (i := 3) rfl (by decide) rfl) ⟨by decide, by decide⟩ (Nat.le_of_ble_eq_true rfl) rfl (fi_10_7 _ _ _) ?_
    refine ev_ex 1 (c' := (27, [some (.ref 13), some (.int a0)], [.int 0], hX c (tI (tI T 13 6 a0) 13 7 (xI T 13 3)))) rfl ?_
    exact ev_retB (x := false) rfl rfl ⟨_, _, rfl, rfl, H⟩
  · replace H := H.2 (h)
    refine ev_ex 2 (c' := (15, [some (.ref 13), some (.int a0)], [.int 1, .ref 13], hX c T)) rfl ?_
    refine xe_pi (ci := 10) (k := 6) rfl rfl (ob_lit (i := 3) rfl (by decide) rfl) ⟨by decide, by decide⟩ (Nat.le_of_ble_eq_true rfl) rfl (fi_10_6 _ _ _) ?_
    refine ev_ex 2 (c' := (20, [some (.ref 13), some (.int a0)], [.ref 13, .ref 13], hX c (tI T 13 6 1))) rfl ?_
    refine xe_gf (ci := 10) (k := 3) rfl rfl (ob_lit (i := 3) rfl (by decide) rfl) ⟨by decide, by decide⟩ (v := .int (xI T 13 3)) rfl ?_
    refine xe_pi (ci := 10) (k := 7) rfl rfl (ob_lit (i := 3) rfl (by decide) rfl) ⟨by decide, by decide⟩ (Nat.le_of_ble_eq_true rfl) rfl (fi_10_7 _ _ _) ?_
    refine ev_ex 1 (c' := (27, [some (.ref 13), some (.int a0)], [.int 0], hX c (tI (tI T 13 6 1) 13 7 (xI T 13 3)))) rfl ?_
    exact ev_retB (x := false) rfl rfl ⟨_, _, rfl, rfl, H⟩
set_option maxRecDepth 8000 in
theorem wx_Tk_isWord {c : CX} {d : Nat} {T : XS} {Q : Bool → XS → Prop} (a0 : Int32) (a1 : Int32) (H : (((a1 - a0) = ((xI T 13 2) - (xI T 13 3)) → eX c (d + 1) m_Tk_isWord 19 [some (.ref 13), some (.int a0), some (.int a1), some (.int 0)] T (yB c Q)) ∧ (¬ (a1 - a0) = ((xI T 13 2) - (xI T 13 3)) → Q false T))) : XB c (d + 1) m_Tk_isWord [.ref 13, .int a0, .int a1] T Q := by
  refine ⟨q_Tk_isWord, rfl, Nat.le_of_ble_eq_true rfl, ?_⟩
  refine ev_ex 0 (c' := (0, [some (.ref 13), some (.int a0), some (.int a1), none], [], hX c T)) rfl ?_
  refine ev_ex 4 (c' := (4, [some (.ref 13), some (.int a0), some (.int a1), none], [.ref 13, .int (a1 - a0)], hX c T)) rfl ?_
  refine xe_gf (ci := 10) (k := 2) rfl rfl (ob_lit (i := 3) rfl (by decide) rfl) ⟨by decide, by decide⟩ (v := .int (xI T 13 2)) rfl ?_
  refine ev_ex 1 (c' := (8, [some (.ref 13), some (.int a0), some (.int a1), none], [.ref 13, .int (xI T 13 2), .int (a1 - a0)], hX c T)) rfl ?_
  refine xe_gf (ci := 10) (k := 3) rfl rfl (ob_lit (i := 3) rfl (by decide) rfl) ⟨by decide, by decide⟩ (v := .int (xI T 13 3)) rfl ?_
  refine ev_ex 1 (c' := (12, [some (.ref 13), some (.int a0), some (.int a1), none], [.int ((xI T 13 2) - (xI T 13 3)), .int (a1 - a0)], hX c T)) rfl ?_
  refine ev_icmp_eq (tgt := 17) rfl rfl (fun h => ?_) (fun h => ?_)
  · replace H := H.1 (h)
    refine ev_ex 2 (c' := (19, [some (.ref 13), some (.int a0), some (.int a1), some (.int 0)], [], hX c T)) rfl ?_
    exact H
  · replace H := H.2 (h)
    refine ev_ex 1 (c' := (16, [some (.ref 13), some (.int a0), some (.int a1), none], [.int 0], hX c T)) rfl ?_
    exact ev_retB (x := false) rfl rfl ⟨_, _, rfl, rfl, H⟩
set_option maxRecDepth 8000 in
theorem wx_Tk_isWord_19 {c : CX} {d : Nat} {T : XS} {Q : Bool → XS → Prop} (l1 : Int32) (l2 : Int32) (l3 : Int32) (H : (((l2 - l1) ≤ l3 → Q true T) ∧ (¬ (l2 - l1) ≤ l3 → (frx T 13 0 = some 5 ∧ (okx ((xI T 13 3) + l3) 900 ∧ XI c d m_JS_charAt [.ref 32, .int (l1 + l3)] T (fun v53 T52 => (((xA T 5 (ix ((xI T 13 3) + l3))) = v53 → eX c (d + 1) m_Tk_isWord 19 [some (.ref 13), some (.int l1), some (.int l2), some (.int (l3 + 1))] T52 (yB c Q)) ∧ (¬ (xA T 5 (ix ((xI T 13 3) + l3))) = v53 → Q false T52)))))))) : eX c (d + 1) m_Tk_isWord 19 [some (.ref 13), some (.int l1), some (.int l2), some (.int l3)] T (yB c Q) := by
  unfold eX
  refine ev_ex 0 (c' := (19, [some (.ref 13), some (.int l1), some (.int l2), some (.int l3)], [], hX c T)) rfl ?_
  refine ev_ex 4 (c' := (23, [some (.ref 13), some (.int l1), some (.int l2), some (.int l3)], [.int (l2 - l1), .int l3], hX c T)) rfl ?_
  refine ev_icmp_ge (tgt := 56) rfl rfl (fun h => ?_) (fun h => ?_)
  · replace H := H.1 (h)
    refine ev_ex 1 (c' := (57, [some (.ref 13), some (.int l1), some (.int l2), some (.int l3)], [.int 1], hX c T)) rfl ?_
    exact ev_retB (x := true) rfl rfl ⟨_, _, rfl, rfl, H⟩
  · replace H := H.2 (h)
    refine ev_ex 1 (c' := (27, [some (.ref 13), some (.int l1), some (.int l2), some (.int l3)], [.ref 13], hX c T)) rfl ?_
    obtain ⟨h51, H⟩ := H
    refine xe_gfr (ci := 10) (k := 0) rfl rfl (ob_lit (i := 3) rfl (by decide) rfl) ⟨by decide, by decide⟩ rfl h51 ?_
    refine ev_ex 1 (c' := (31, [some (.ref 13), some (.int l1), some (.int l2), some (.int l3)], [.ref 13, .ref 5], hX c T)) rfl ?_
    refine xe_gf (ci := 10) (k := 3) rfl rfl (ob_lit (i := 3) rfl (by decide) rfl) ⟨by decide, by decide⟩ (v := .int (xI T 13 3)) rfl ?_
    refine ev_ex 2 (c' := (36, [some (.ref 13), some (.int l1), some (.int l2), some (.int l3)], [.int ((xI T 13 3) + l3), .ref 5], hX c T)) rfl ?_
    obtain ⟨H0, H⟩ := H
    refine xe_bl rfl (ar_lit (i := 1) rfl (by decide) rfl) H0 ?_
    refine ev_ex 0 (c' := (37, [some (.ref 13), some (.int l1), some (.int l2), some (.int l3)], [.int (xA T 5 (ix ((xI T 13 3) + l3)))], hX c T)) rfl ?_
    refine ev_ex 4 (c' := (42, [some (.ref 13), some (.int l1), some (.int l2), some (.int l3)], [.int (l1 + l3), .ref 32, .int (xA T 5 (ix ((xI T 13 3) + l3)))], hX c T)) rfl ?_
    refine xc_I (idx := 67) rfl rfl rfl (Nat.le_of_ble_eq_true rfl) (Nat.le_of_ble_eq_true rfl) rfl H (fun v53 T52 H => ?_)
    refine ev_icmp_eq (tgt := 50) rfl rfl (fun h => ?_) (fun h => ?_)
    · replace H := H.1 (h)
      refine ev_ex 2 (c' := (19, [some (.ref 13), some (.int l1), some (.int l2), some (.int (l3 + 1))], [], hX c T52)) rfl ?_
      exact H
    · replace H := H.2 (h)
      refine ev_ex 1 (c' := (49, [some (.ref 13), some (.int l1), some (.int l2), some (.int l3)], [.int 0], hX c T52)) rfl ?_
      exact ev_retB (x := false) rfl rfl ⟨_, _, rfl, rfl, H⟩
set_option maxRecDepth 8000 in
theorem wx_Tk_isNumber {c : CX} {d : Nat} {T : XS} {Q : Bool → XS → Prop} (a0 : Int32) (a1 : Int32) (H : (((xI T 13 4) = 36 → (((xI T 13 5) < a0 → XB c d m_Tk_refuse [.ref 13, .int 3] T (fun v2 T1 => ((v2 = false → Q false T1) ∧ (v2 = true → Q true T1)))) ∧ (¬ (xI T 13 5) < a0 → (((xI T 13 5) ≤ a1 → Q true T) ∧ (¬ (xI T 13 5) ≤ a1 → XB c d m_Tk_refuse [.ref 13, .int 3] T (fun v4 T3 => ((v4 = false → Q false T3) ∧ (v4 = true → Q true T3)))))))) ∧ (¬ (xI T 13 4) = 36 → XB c d m_Tk_refuse [.ref 13, .int 2] T (fun v6 T5 => Q v6 T5)))) : XB c (d + 1) m_Tk_isNumber [.ref 13, .int a0, .int a1] T Q := by
  refine ⟨q_Tk_isNumber, rfl, Nat.le_of_ble_eq_true rfl, ?_⟩
  refine ev_ex 0 (c' := (0, [some (.ref 13), some (.int a0), some (.int a1)], [], hX c T)) rfl ?_
  refine ev_ex 1 (c' := (1, [some (.ref 13), some (.int a0), some (.int a1)], [.ref 13], hX c T)) rfl ?_
  refine xe_gf (ci := 10) (k := 4) rfl rfl (ob_lit (i := 3) rfl (by decide) rfl) ⟨by decide, by decide⟩ (v := .int (xI T 13 4)) rfl ?_
  refine ev_ex 1 (c' := (6, [some (.ref 13), some (.int a0), some (.int a1)], [.int 36, .int (xI T 13 4)], hX c T)) rfl ?_
  refine ev_icmp_eq (tgt := 15) rfl rfl (fun h => ?_) (fun h => ?_)
  · replace H := H.1 (h)
    refine ev_ex 1 (c' := (16, [some (.ref 13), some (.int a0), some (.int a1)], [.ref 13], hX c T)) rfl ?_
    refine xe_gf (ci := 10) (k := 5) rfl rfl (ob_lit (i := 3) rfl (by decide) rfl) ⟨by decide, by decide⟩ (v := .int (xI T 13 5)) rfl ?_
    refine ev_ex 1 (c' := (20, [some (.ref 13), some (.int a0), some (.int a1)], [.int a0, .int (xI T 13 5)], hX c T)) rfl ?_
    refine ev_icmp_lt (tgt := 31) rfl rfl (fun h => ?_) (fun h => ?_)
    · replace H := H.1 (h)
      refine ev_ex 2 (c' := (33, [some (.ref 13), some (.int a0), some (.int a1)], [.int 3, .ref 13], hX c T)) rfl ?_
      refine xc_B (idx := 78) rfl rfl rfl (Nat.le_of_ble_eq_true rfl) (Nat.le_of_ble_eq_true rfl) (x_rcv (T := T) (ob_lit (i := 3) rfl (by decide) rfl) ⟨by decide, by decide⟩ _ _) H (fun v2 T1 H => ?_)
      refine ev_if_eqB (x := v2) (tgt := 43) rfl rfl (fun h => ?_) (fun h => ?_)
      · replace H := H.1 (h)
        refine ev_ex 1 (c' := (44, [some (.ref 13), some (.int a0), some (.int a1)], [.int 0], hX c T1)) rfl ?_
        exact ev_retB (x := false) rfl rfl ⟨_, _, rfl, rfl, H⟩
      · replace H := H.2 (h)
        refine ev_ex 2 (c' := (44, [some (.ref 13), some (.int a0), some (.int a1)], [.int 1], hX c T1)) rfl ?_
        exact ev_retB (x := true) rfl rfl ⟨_, _, rfl, rfl, H⟩
    · replace H := H.2 (h)
      refine ev_ex 1 (c' := (24, [some (.ref 13), some (.int a0), some (.int a1)], [.ref 13], hX c T)) rfl ?_
      refine xe_gf (ci := 10) (k := 5) rfl rfl (ob_lit (i := 3) rfl (by decide) rfl) ⟨by decide, by decide⟩ (v := .int (xI T 13 5)) rfl ?_
      refine ev_ex 1 (c' := (28, [some (.ref 13), some (.int a0), some (.int a1)], [.int a1, .int (xI T 13 5)], hX c T)) rfl ?_
      refine ev_icmp_le (tgt := 39) rfl rfl (fun h => ?_) (fun h => ?_)
      · replace H := H.1 (h)
        refine ev_ex 2 (c' := (44, [some (.ref 13), some (.int a0), some (.int a1)], [.int 1], hX c T)) rfl ?_
        exact ev_retB (x := true) rfl rfl ⟨_, _, rfl, rfl, H⟩
      · replace H := H.2 (h)
        refine ev_ex 2 (c' := (33, [some (.ref 13), some (.int a0), some (.int a1)], [.int 3, .ref 13], hX c T)) rfl ?_
        refine xc_B (idx := 78) rfl rfl rfl (Nat.le_of_ble_eq_true rfl) (Nat.le_of_ble_eq_true rfl) (x_rcv (T := T) (ob_lit (i := 3) rfl (by decide) rfl) ⟨by decide, by decide⟩ _ _) H (fun v4 T3 H => ?_)
        refine ev_if_eqB (x := v4) (tgt := 43) rfl rfl (fun h => ?_) (fun h => ?_)
        · replace H := H.1 (h)
          refine ev_ex 1 (c' := (44, [some (.ref 13), some (.int a0), some (.int a1)], [.int 0], hX c T3)) rfl ?_
          exact ev_retB (x := false) rfl rfl ⟨_, _, rfl, rfl, H⟩
        · replace H := H.2 (h)
          refine ev_ex 2 (c' := (44, [some (.ref 13), some (.int a0), some (.int a1)], [.int 1], hX c T3)) rfl ?_
          exact ev_retB (x := true) rfl rfl ⟨_, _, rfl, rfl, H⟩
  · replace H := H.2 (h)
    refine ev_ex 2 (c' := (11, [some (.ref 13), some (.int a0), some (.int a1)], [.int 2, .ref 13], hX c T)) rfl ?_
    refine xc_B (idx := 78) rfl rfl rfl (Nat.le_of_ble_eq_true rfl) (Nat.le_of_ble_eq_true rfl) (x_rcv (T := T) (ob_lit (i := 3) rfl (by decide) rfl) ⟨by decide, by decide⟩ _ _) H (fun v6 T5 H => ?_)
    exact ev_retB (x := v6) rfl rfl ⟨_, _, rfl, rfl, H⟩
