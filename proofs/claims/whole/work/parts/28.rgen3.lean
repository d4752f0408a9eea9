/-! written by wip/gen/vcg.py: what runs of the reference ask -/
set_option maxRecDepth 8000 in
theorem w_R_mockers {c : CX} {d : Nat} {s : RS} {Q : Int32 → RS → Prop} (a0 : Int32) (H : eR c (d + 1) m_R_mockers 4 [some (.ref 2), some (.int a0), some (.int 0), some (.int 0)] s (pI c Q)) : RI c (d + 1) m_R_mockers [.ref 2, .int a0] s Q := by
  refine ⟨q_R_mockers, rfl, Nat.le_of_ble_eq_true rfl, ?_⟩
  refine ev_ex 0 (c' := (0, [some (.ref 2), some (.int a0), none, none], [], cH c s)) rfl ?_
  refine ev_ex 4 (c' := (4, [some (.ref 2), some (.int a0), some (.int 0), some (.int 0)], [], cH c s)) rfl ?_
  exact H
set_option maxRecDepth 8000 in
theorem w_R_mockers_4 {c : CX} {d : Nat} {s : RS} {Q : Int32 → RS → Prop} (l1 : Int32) (l2 : Int32) (l3 : Int32) (H : (((s.2.1 1 1) ≤ l3 → Q l2 s) ∧ (¬ (s.2.1 1 1) ≤ l3 → (okx (6 + l3) 2101 ∧ ((¬ (s.2.1 1 (ix (6 + l3))) = l1 → eR c (d + 1) m_R_mockers 4 [some (.ref 2), some (.int l1), some (.int (l2 ||| 0)), some (.int (l3 + 1))] s (pI c Q)) ∧ ((s.2.1 1 (ix (6 + l3))) = l1 → eR c (d + 1) m_R_mockers 4 [some (.ref 2), some (.int l1), some (.int (l2 ||| ((1 : Int32) <<< (l3 &&& 31)))), some (.int (l3 + 1))] s (pI c Q))))))) : eR c (d + 1) m_R_mockers 4 [some (.ref 2), some (.int l1), some (.int l2), some (.int l3)] s (pI c Q) := by
  unfold eR
  refine ev_ex 0 (c' := (4, [some (.ref 2), some (.int l1), some (.int l2), some (.int l3)], [], cH c s)) rfl ?_
  refine ev_ex 2 (c' := (6, [some (.ref 2), some (.int l1), some (.int l2), some (.int l3)], [.ref 2, .int l3], cH c s)) rfl ?_
  refine rq_I (idx := 267) (V := s.2.1 1 1) (S := s) rfl rfl rfl (Nat.le_of_ble_eq_true rfl) (Nat.le_of_ble_eq_true rfl) rfl (zq_R_guilds ⟨rfl, rfl⟩) ?_
  refine ev_icmp_ge (tgt := 37) rfl rfl (fun h => ?_) (fun h => ?_)
  · replace H := H.1 (h)
    refine ev_ex 1 (c' := (38, [some (.ref 2), some (.int l1), some (.int l2), some (.int l3)], [.int l2], cH c s)) rfl ?_
    exact ev_ret rfl rfl rfl ⟨_, _, rfl, rfl, H⟩
  · replace H := H.2 (h)
    refine ev_ex 3 (c' := (15, [some (.ref 2), some (.int l1), some (.int l2), some (.int l3)], [.int l3, .ref 2, .int l2], cH c s)) rfl ?_
    obtain ⟨H1, H⟩ := H
    refine rq_I (idx := 270) (V := s.2.1 1 (ix (6 + l3))) (S := s) rfl rfl rfl (Nat.le_of_ble_eq_true rfl) (Nat.le_of_ble_eq_true rfl) rfl (zq_R_mocked H1 ⟨rfl, rfl⟩) ?_
    refine ev_ex 1 (c' := (19, [some (.ref 2), some (.int l1), some (.int l2), some (.int l3)], [.int l1, .int (s.2.1 1 (ix (6 + l3))), .int l2], cH c s)) rfl ?_
    refine ev_icmp_ne (tgt := 28) rfl rfl (fun h => ?_) (fun h => ?_)
    · replace H := H.1 (h)
      refine ev_ex 5 (c' := (4, [some (.ref 2), some (.int l1), some (.int (l2 ||| 0)), some (.int (l3 + 1))], [], cH c s)) rfl ?_
      exact H
    · replace H := H.2 (h)
      refine ev_ex 8 (c' := (4, [some (.ref 2), some (.int l1), some (.int (l2 ||| ((1 : Int32) <<< (l3 &&& 31)))), some (.int (l3 + 1))], [], cH c s)) rfl ?_
      exact H
set_option maxRecDepth 8000 in
theorem w_R_mayMock {c : CX} {d : Nat} {s : RS} {Q : Bool → RS → Prop} (a0 : Int32) (a1 : Int32) (H : (okx 3 2101 ∧ (((s.2.1 1 (ix 3)) = 0 → Q true s) ∧ (¬ (s.2.1 1 (ix 3)) = 0 → RB c d m_R_holds [.ref 2, .int 3, .int 301, .int a0, .int a1] s (fun v2 s1 => ((v2 = false → Q false s1) ∧ (v2 = true → Q true s1))))))) : RB c (d + 1) m_R_mayMock [.ref 2, .int a0, .int a1] s Q := by
  refine ⟨q_R_mayMock, rfl, Nat.le_of_ble_eq_true rfl, ?_⟩
  refine ev_ex 0 (c' := (0, [some (.ref 2), some (.int a0), some (.int a1)], [], cH c s)) rfl ?_
  refine ev_ex 3 (c' := (5, [some (.ref 2), some (.int a0), some (.int a1)], [.int 3, .ref 6], cH c s)) rfl ?_
  obtain ⟨H0, H⟩ := H
  refine ev_ald (i := .iaload) rfl (Or.inl rfl) rfl H0 (v := .int (s.2.1 1 (ix 3))) rfl ?_
  refine ev_if_eq (tgt := 22) rfl rfl (fun h => ?_) (fun h => ?_)
  · replace H := H.1 (h)
    refine ev_ex 2 (c' := (27, [some (.ref 2), some (.int a0), some (.int a1)], [.int 1], cH c s)) rfl ?_
    exact ev_retB (x := true) rfl rfl ⟨_, _, rfl, rfl, H⟩
  · replace H := H.2 (h)
    refine ev_ex 5 (c' := (16, [some (.ref 2), some (.int a0), some (.int a1)], [.int a1, .int a0, .int 301, .int 3, .ref 2], cH c s)) rfl ?_
    refine rc_B (idx := 304) rfl rfl rfl (Nat.le_of_ble_eq_true rfl) (Nat.le_of_ble_eq_true rfl) rfl H (fun v2 s1 H => ?_)
    refine ev_if_eqB (x := v2) (tgt := 26) rfl rfl (fun h => ?_) (fun h => ?_)
    · replace H := H.1 (h)
      refine ev_ex 1 (c' := (27, [some (.ref 2), some (.int a0), some (.int a1)], [.int 0], cH c s1)) rfl ?_
      exact ev_retB (x := false) rfl rfl ⟨_, _, rfl, rfl, H⟩
    · replace H := H.2 (h)
      refine ev_ex 2 (c' := (27, [some (.ref 2), some (.int a0), some (.int a1)], [.int 1], cH c s1)) rfl ?_
      exact ev_retB (x := true) rfl rfl ⟨_, _, rfl, rfl, H⟩
set_option maxRecDepth 8000 in
theorem w_R_then {c : CX} {d : Nat} {s : RS} {Q : Int32 → RS → Prop} (a0 : Int32) (H : RI c d m_R_mockers [.ref 2, .int a0] s (fun v2 s1 => ((¬ v2 = 0 → RI c d m_R_firstOf [.int v2] s1 (fun v4 s3 => RB c d m_R_holds [.ref 2, .int 4, .int 1201, .int a0, .int v4] s3 (fun v6 s5 => ((v6 = false → (okx (6 + a0) 2101 ∧ Q (s5.2.1 1 (ix (6 + a0))) s5)) ∧ (v6 = true → Q v4 s5))))) ∧ (v2 = 0 → (okx (6 + a0) 2101 ∧ Q (s1.2.1 1 (ix (6 + a0))) s1))))) : RI c (d + 1) m_R_then [.ref 2, .int a0] s Q := by
  refine ⟨q_R_then, rfl, Nat.le_of_ble_eq_true rfl, ?_⟩
  refine ev_ex 0 (c' := (0, [some (.ref 2), some (.int a0), none, none], [], cH c s)) rfl ?_
  refine ev_ex 2 (c' := (2, [some (.ref 2), some (.int a0), none, none], [.int a0, .ref 2], cH c s)) rfl ?_
  refine rc_I (idx := 290) rfl rfl rfl (Nat.le_of_ble_eq_true rfl) (Nat.le_of_ble_eq_true rfl) rfl H (fun v2 s1 H => ?_)
  refine ev_ex 2 (c' := (7, [some (.ref 2), some (.int a0), some (.int v2), none], [.int v2], cH c s1)) rfl ?_
  refine ev_if_ne (tgt := 16) rfl rfl (fun h => ?_) (fun h => ?_)
  · replace H := H.1 (h)
    refine ev_ex 1 (c' := (17, [some (.ref 2), some (.int a0), some (.int v2), none], [.int v2], cH c s1)) rfl ?_
    refine rc_I (idx := 308) rfl rfl rfl (Nat.le_of_ble_eq_true rfl) (Nat.le_of_ble_eq_true rfl) rfl H (fun v4 s3 H => ?_)
    refine ev_ex 6 (c' := (28, [some (.ref 2), some (.int a0), some (.int v2), some (.int v4)], [.int v4, .int a0, .int 1201, .int 4, .ref 2], cH c s3)) rfl ?_
    refine rc_B (idx := 304) rfl rfl rfl (Nat.le_of_ble_eq_true rfl) (Nat.le_of_ble_eq_true rfl) rfl H (fun v6 s5 H => ?_)
    refine ev_if_eqB (x := v6) (tgt := 38) rfl rfl (fun h => ?_) (fun h => ?_)
    · replace H := H.1 (h)
      refine ev_ex 2 (c' := (40, [some (.ref 2), some (.int a0), some (.int v2), some (.int v4)], [.int a0, .ref 2], cH c s5)) rfl ?_
      obtain ⟨H1, H⟩ := H
      refine rq_I (idx := 270) (V := s5.2.1 1 (ix (6 + a0))) (S := s5) rfl rfl rfl (Nat.le_of_ble_eq_true rfl) (Nat.le_of_ble_eq_true rfl) rfl (zq_R_mocked H1 ⟨rfl, rfl⟩) ?_
      exact ev_ret rfl rfl rfl ⟨_, _, rfl, rfl, H⟩
    · replace H := H.2 (h)
      refine ev_ex 2 (c' := (43, [some (.ref 2), some (.int a0), some (.int v2), some (.int v4)], [.int v4], cH c s5)) rfl ?_
      exact ev_ret rfl rfl rfl ⟨_, _, rfl, rfl, H⟩
  · replace H := H.2 (h)
    refine ev_ex 2 (c' := (12, [some (.ref 2), some (.int a0), some (.int v2), none], [.int a0, .ref 2], cH c s1)) rfl ?_
    obtain ⟨H1, H⟩ := H
    refine rq_I (idx := 270) (V := s1.2.1 1 (ix (6 + a0))) (S := s1) rfl rfl rfl (Nat.le_of_ble_eq_true rfl) (Nat.le_of_ble_eq_true rfl) rfl (zq_R_mocked H1 ⟨rfl, rfl⟩) ?_
    exact ev_ret rfl rfl rfl ⟨_, _, rfl, rfl, H⟩
set_option maxRecDepth 8000 in
theorem w_R_steps {c : CX} {d : Nat} {s : RS} {Q : Int32 → RS → Prop}  (H : eR c (d) m_R_steps 4 [some (.ref 2), some (.int 1), some (.int 0)] s (pI c Q)) : RI c (d) m_R_steps [.ref 2] s Q := by
  refine ⟨q_R_steps, rfl, Nat.le_of_ble_eq_true rfl, ?_⟩
  refine ev_ex 0 (c' := (0, [some (.ref 2), none, none], [], cH c s)) rfl ?_
  refine ev_ex 4 (c' := (4, [some (.ref 2), some (.int 1), some (.int 0)], [], cH c s)) rfl ?_
  exact H
set_option maxRecDepth 8000 in
theorem w_R_steps_4 {c : CX} {d : Nat} {s : RS} {Q : Int32 → RS → Prop} (l1 : Int32) (l2 : Int32) (H : (okx 2 2101 ∧ (((s.2.1 1 (ix 2)) ≤ l2 → Q l1 s) ∧ (¬ (s.2.1 1 (ix 2)) ≤ l2 → (okx ((67 + (2 * l2)) + 1) 2101 ∧ eR c (d) m_R_steps 4 [some (.ref 2), some (.int (l1 + (s.2.1 1 (ix ((67 + (2 * l2)) + 1))))), some (.int (l2 + 1))] s (pI c Q)))))) : eR c (d) m_R_steps 4 [some (.ref 2), some (.int l1), some (.int l2)] s (pI c Q) := by
  unfold eR
  refine ev_ex 0 (c' := (4, [some (.ref 2), some (.int l1), some (.int l2)], [], cH c s)) rfl ?_
  refine ev_ex 4 (c' := (10, [some (.ref 2), some (.int l1), some (.int l2)], [.int 2, .ref 6, .int l2], cH c s)) rfl ?_
  obtain ⟨H0, H⟩ := H
  refine ev_ald (i := .iaload) rfl (Or.inl rfl) rfl H0 (v := .int (s.2.1 1 (ix 2))) rfl ?_
  refine ev_icmp_ge (tgt := 36) rfl rfl (fun h => ?_) (fun h => ?_)
  · replace H := H.1 (h)
    refine ev_ex 1 (c' := (37, [some (.ref 2), some (.int l1), some (.int l2)], [.int l1], cH c s)) rfl ?_
    exact ev_ret rfl rfl rfl ⟨_, _, rfl, rfl, H⟩
  · replace H := H.2 (h)
    refine ev_ex 10 (c' := (27, [some (.ref 2), some (.int l1), some (.int l2)], [.int ((67 + (2 * l2)) + 1), .ref 6, .int l1], cH c s)) rfl ?_
    obtain ⟨H0, H⟩ := H
    refine ev_ald (i := .iaload) rfl (Or.inl rfl) rfl H0 (v := .int (s.2.1 1 (ix ((67 + (2 * l2)) + 1)))) rfl ?_
    refine ev_ex 4 (c' := (4, [some (.ref 2), some (.int (l1 + (s.2.1 1 (ix ((67 + (2 * l2)) + 1))))), some (.int (l2 + 1))], [], cH c s)) rfl ?_
    exact H
set_option maxRecDepth 8000 in
theorem w_R_whereOf {c : CX} {d : Nat} {s : RS} {Q : Int32 → RS → Prop} (a0 : Int32) (a1 : Int32) (H : eR c (d + 1) m_R_whereOf 8 [some (.ref 2), some (.int a0), some (.int a1), some (.int a0), some (.int 0), some (.int 0), none, none] s (pI c Q)) : RI c (d + 1) m_R_whereOf [.ref 2, .int a0, .int a1] s Q := by
  refine ⟨q_R_whereOf, rfl, Nat.le_of_ble_eq_true rfl, ?_⟩
  refine ev_ex 0 (c' := (0, [some (.ref 2), some (.int a0), some (.int a1), none, none, none, none, none], [], cH c s)) rfl ?_
  refine ev_ex 6 (c' := (8, [some (.ref 2), some (.int a0), some (.int a1), some (.int a0), some (.int 0), some (.int 0), none, none], [], cH c s)) rfl ?_
  exact H
set_option maxRecDepth 8000 in
theorem w_R_whereOf_8 {c : CX} {d : Nat} {s : RS} {Q : Int32 → RS → Prop} (l1 : Int32) (l2 : Int32) (l3 : Int32) (l4 : Int32) (l5 : Int32) (H : (okx 2 2101 ∧ (((s.2.1 1 (ix 2)) ≤ l5 → Q l4 s) ∧ (¬ (s.2.1 1 (ix 2)) ≤ l5 → ((l3 ≤ 0 → Q l4 s) ∧ (¬ l3 ≤ 0 → (okx (67 + (2 * l5)) 2101 ∧ (okx ((67 + (2 * l5)) + 1) 2101 ∧ ((¬ l2 = 0 → ((¬ (s.2.1 1 (ix (67 + (2 * l5)))) = 0 → ((¬ (s.2.1 1 (ix (67 + (2 * l5)))) = 2 → eR c (d + 1) m_R_whereOf 8 [some (.ref 2), some (.int l1), some (.int l2), some (.int (l3 - (mnI l3 (s.2.1 1 (ix ((67 + (2 * l5)) + 1)))))), some (.int (l4 + 0)), some (.int (l5 + 1)), none, none] s (pI c Q)) ∧ ((s.2.1 1 (ix (67 + (2 * l5)))) = 2 → eR c (d + 1) m_R_whereOf 8 [some (.ref 2), some (.int l1), some (.int l2), some (.int (l3 - (mnI l3 (s.2.1 1 (ix ((67 + (2 * l5)) + 1)))))), some (.int (l4 + (-(mnI l3 (s.2.1 1 (ix ((67 + (2 * l5)) + 1))))))), some (.int (l5 + 1)), none, none] s (pI c Q)))) ∧ ((s.2.1 1 (ix (67 + (2 * l5)))) = 0 → eR c (d + 1) m_R_whereOf 8 [some (.ref 2), some (.int l1), some (.int l2), some (.int (l3 - (mnI l3 (s.2.1 1 (ix ((67 + (2 * l5)) + 1)))))), some (.int (l4 + (mnI l3 (s.2.1 1 (ix ((67 + (2 * l5)) + 1)))))), some (.int (l5 + 1)), none, none] s (pI c Q)))) ∧ (l2 = 0 → ((¬ (s.2.1 1 (ix (67 + (2 * l5)))) = 1 → ((¬ (s.2.1 1 (ix (67 + (2 * l5)))) = 3 → eR c (d + 1) m_R_whereOf 8 [some (.ref 2), some (.int l1), some (.int l2), some (.int (l3 - (mnI l3 (s.2.1 1 (ix ((67 + (2 * l5)) + 1)))))), some (.int (l4 + 0)), some (.int (l5 + 1)), none, none] s (pI c Q)) ∧ ((s.2.1 1 (ix (67 + (2 * l5)))) = 3 → eR c (d + 1) m_R_whereOf 8 [some (.ref 2), some (.int l1), some (.int l2), some (.int (l3 - (mnI l3 (s.2.1 1 (ix ((67 + (2 * l5)) + 1)))))), some (.int (l4 + (-(mnI l3 (s.2.1 1 (ix ((67 + (2 * l5)) + 1))))))), some (.int (l5 + 1)), none, none] s (pI c Q)))) ∧ ((s.2.1 1 (ix (67 + (2 * l5)))) = 1 → eR c (d + 1) m_R_whereOf 8 [some (.ref 2), some (.int l1), some (.int l2), some (.int (l3 - (mnI l3 (s.2.1 1 (ix ((67 + (2 * l5)) + 1)))))), some (.int (l4 + (mnI l3 (s.2.1 1 (ix ((67 + (2 * l5)) + 1)))))), some (.int (l5 + 1)), none, none] s (pI c Q))))))))))))) : eR c (d + 1) m_R_whereOf 8 [some (.ref 2), some (.int l1), some (.int l2), some (.int l3), some (.int l4), some (.int l5), none, none] s (pI c Q) := by
  unfold eR
  refine ev_ex 0 (c' := (8, [some (.ref 2), some (.int l1), some (.int l2), some (.int l3), some (.int l4), some (.int l5), none, none], [], cH c s)) rfl ?_
  refine ev_ex 4 (c' := (15, [some (.ref 2), some (.int l1), some (.int l2), some (.int l3), some (.int l4), some (.int l5), none, none], [.int 2, .ref 6, .int l5], cH c s)) rfl ?_
  obtain ⟨H0, H⟩ := H
  refine ev_ald (i := .iaload) rfl (Or.inl rfl) rfl H0 (v := .int (s.2.1 1 (ix 2))) rfl ?_
  refine ev_icmp_ge (tgt := 132) rfl rfl (fun h => ?_) (fun h => ?_)
  · replace H := H.1 (h)
    refine ev_ex 1 (c' := (134, [some (.ref 2), some (.int l1), some (.int l2), some (.int l3), some (.int l4), some (.int l5), none, none], [.int l4], cH c s)) rfl ?_
    exact ev_ret rfl rfl rfl ⟨_, _, rfl, rfl, H⟩
  · replace H := H.2 (h)
    refine ev_ex 1 (c' := (20, [some (.ref 2), some (.int l1), some (.int l2), some (.int l3), some (.int l4), some (.int l5), none, none], [.int l3], cH c s)) rfl ?_
    refine ev_if_le (tgt := 132) rfl rfl (fun h => ?_) (fun h => ?_)
    · replace H := H.1 (h)
      refine ev_ex 1 (c' := (134, [some (.ref 2), some (.int l1), some (.int l2), some (.int l3), some (.int l4), some (.int l5), none, none], [.int l4], cH c s)) rfl ?_
      exact ev_ret rfl rfl rfl ⟨_, _, rfl, rfl, H⟩
    · replace H := H.2 (h)
      refine ev_ex 7 (c' := (34, [some (.ref 2), some (.int l1), some (.int l2), some (.int l3), some (.int l4), some (.int l5), none, none], [.int (67 + (2 * l5)), .ref 6], cH c s)) rfl ?_
      obtain ⟨H0, H⟩ := H
      refine ev_ald (i := .iaload) rfl (Or.inl rfl) rfl H0 (v := .int (s.2.1 1 (ix (67 + (2 * l5))))) rfl ?_
      refine ev_ex 11 (c' := (51, [some (.ref 2), some (.int l1), some (.int l2), some (.int l3), some (.int l4), some (.int l5), some (.int (s.2.1 1 (ix (67 + (2 * l5))))), none], [.int ((67 + (2 * l5)) + 1), .ref 6, .int l3], cH c s)) rfl ?_
      obtain ⟨H0, H⟩ := H
      refine ev_ald (i := .iaload) rfl (Or.inl rfl) rfl H0 (v := .int (s.2.1 1 (ix ((67 + (2 * l5)) + 1)))) rfl ?_
      refine rq_I (idx := 416) (V := mnI l3 (s.2.1 1 (ix ((67 + (2 * l5)) + 1)))) (S := s) rfl rfl rfl (Nat.le_of_ble_eq_true rfl) (Nat.le_of_ble_eq_true rfl) rfl (zq_JM_min ⟨rfl, rfl⟩) ?_
      refine ev_ex 6 (c' := (63, [some (.ref 2), some (.int l1), some (.int l2), some (.int (l3 - (mnI l3 (s.2.1 1 (ix ((67 + (2 * l5)) + 1)))))), some (.int l4), some (.int l5), some (.int (s.2.1 1 (ix (67 + (2 * l5))))), some (.int (mnI l3 (s.2.1 1 (ix ((67 + (2 * l5)) + 1)))))], [.int l2], cH c s)) rfl ?_
      refine ev_if_ne (tgt := 98) rfl rfl (fun h => ?_) (fun h => ?_)
      · replace H := H.1 (h)
        refine ev_ex 2 (c' := (102, [some (.ref 2), some (.int l1), some (.int l2), some (.int (l3 - (mnI l3 (s.2.1 1 (ix ((67 + (2 * l5)) + 1)))))), some (.int l4), some (.int l5), some (.int (s.2.1 1 (ix (67 + (2 * l5))))), some (.int (mnI l3 (s.2.1 1 (ix ((67 + (2 * l5)) + 1)))))], [.int (s.2.1 1 (ix (67 + (2 * l5)))), .int l4], cH c s)) rfl ?_
        refine ev_if_ne (tgt := 110) rfl rfl (fun h => ?_) (fun h => ?_)
        · replace H := H.1 (h)
          refine ev_ex 2 (c' := (113, [some (.ref 2), some (.int l1), some (.int l2), some (.int (l3 - (mnI l3 (s.2.1 1 (ix ((67 + (2 * l5)) + 1)))))), some (.int l4), some (.int l5), some (.int (s.2.1 1 (ix (67 + (2 * l5))))), some (.int (mnI l3 (s.2.1 1 (ix ((67 + (2 * l5)) + 1)))))], [.int 2, .int (s.2.1 1 (ix (67 + (2 * l5)))), .int l4], cH c s)) rfl ?_
          refine ev_icmp_ne (tgt := 122) rfl rfl (fun h => ?_) (fun h => ?_)
          · replace H := H.1 (h)
            refine ev_ex 5 (c' := (8, [some (.ref 2), some (.int l1), some (.int l2), some (.int (l3 - (mnI l3 (s.2.1 1 (ix ((67 + (2 * l5)) + 1)))))), some (.int (l4 + 0)), some (.int (l5 + 1)), some (.int (s.2.1 1 (ix (67 + (2 * l5))))), some (.int (mnI l3 (s.2.1 1 (ix ((67 + (2 * l5)) + 1)))))], [], cH c s)) rfl ?_
            exact ev_less (lle_of (L := [some (.ref 2), some (.int l1), some (.int l2), some (.int (l3 - (mnI l3 (s.2.1 1 (ix ((67 + (2 * l5)) + 1)))))), some (.int (l4 + 0)), some (.int (l5 + 1)), none, none]) ⟨rfl, ⟨rfl, ⟨rfl, ⟨rfl, ⟨rfl, ⟨rfl, trivial⟩⟩⟩⟩⟩⟩) H
          · replace H := H.2 (h)
            refine ev_ex 7 (c' := (8, [some (.ref 2), some (.int l1), some (.int l2), some (.int (l3 - (mnI l3 (s.2.1 1 (ix ((67 + (2 * l5)) + 1)))))), some (.int (l4 + (-(mnI l3 (s.2.1 1 (ix ((67 + (2 * l5)) + 1))))))), some (.int (l5 + 1)), some (.int (s.2.1 1 (ix (67 + (2 * l5))))), some (.int (mnI l3 (s.2.1 1 (ix ((67 + (2 * l5)) + 1)))))], [], cH c s)) rfl ?_
            exact ev_less (lle_of (L := [some (.ref 2), some (.int l1), some (.int l2), some (.int (l3 - (mnI l3 (s.2.1 1 (ix ((67 + (2 * l5)) + 1)))))), some (.int (l4 + (-(mnI l3 (s.2.1 1 (ix ((67 + (2 * l5)) + 1))))))), some (.int (l5 + 1)), none, none]) ⟨rfl, ⟨rfl, ⟨rfl, ⟨rfl, ⟨rfl, ⟨rfl, trivial⟩⟩⟩⟩⟩⟩) H
        · replace H := H.2 (h)
          refine ev_ex 6 (c' := (8, [some (.ref 2), some (.int l1), some (.int l2), some (.int (l3 - (mnI l3 (s.2.1 1 (ix ((67 + (2 * l5)) + 1)))))), some (.int (l4 + (mnI l3 (s.2.1 1 (ix ((67 + (2 * l5)) + 1)))))), some (.int (l5 + 1)), some (.int (s.2.1 1 (ix (67 + (2 * l5))))), some (.int (mnI l3 (s.2.1 1 (ix ((67 + (2 * l5)) + 1)))))], [], cH c s)) rfl ?_
          exact ev_less (lle_of (L := [some (.ref 2), some (.int l1), some (.int l2), some (.int (l3 - (mnI l3 (s.2.1 1 (ix ((67 + (2 * l5)) + 1)))))), some (.int (l4 + (mnI l3 (s.2.1 1 (ix ((67 + (2 * l5)) + 1)))))), some (.int (l5 + 1)), none, none]) ⟨rfl, ⟨rfl, ⟨rfl, ⟨rfl, ⟨rfl, ⟨rfl, trivial⟩⟩⟩⟩⟩⟩) H
      · replace H := H.2 (h)
        refine ev_ex 3 (c' := (71, [some (.ref 2), some (.int l1), some (.int l2), some (.int (l3 - (mnI l3 (s.2.1 1 (ix ((67 + (2 * l5)) + 1)))))), some (.int l4), some (.int l5), some (.int (s.2.1 1 (ix (67 + (2 * l5))))), some (.int (mnI l3 (s.2.1 1 (ix ((67 + (2 * l5)) + 1)))))], [.int 1, .int (s.2.1 1 (ix (67 + (2 * l5)))), .int l4], cH c s)) rfl ?_
        refine ev_icmp_ne (tgt := 79) rfl rfl (fun h => ?_) (fun h => ?_)
        · replace H := H.1 (h)
          refine ev_ex 2 (c' := (82, [some (.ref 2), some (.int l1), some (.int l2), some (.int (l3 - (mnI l3 (s.2.1 1 (ix ((67 + (2 * l5)) + 1)))))), some (.int l4), some (.int l5), some (.int (s.2.1 1 (ix (67 + (2 * l5))))), some (.int (mnI l3 (s.2.1 1 (ix ((67 + (2 * l5)) + 1)))))], [.int 3, .int (s.2.1 1 (ix (67 + (2 * l5)))), .int l4], cH c s)) rfl ?_
          refine ev_icmp_ne (tgt := 91) rfl rfl (fun h => ?_) (fun h => ?_)
          · replace H := H.1 (h)
            refine ev_ex 6 (c' := (8, [some (.ref 2), some (.int l1), some (.int l2), some (.int (l3 - (mnI l3 (s.2.1 1 (ix ((67 + (2 * l5)) + 1)))))), some (.int (l4 + 0)), some (.int (l5 + 1)), some (.int (s.2.1 1 (ix (67 + (2 * l5))))), some (.int (mnI l3 (s.2.1 1 (ix ((67 + (2 * l5)) + 1)))))], [], cH c s)) rfl ?_
            exact ev_less (lle_of (L := [some (.ref 2), some (.int l1), some (.int l2), some (.int (l3 - (mnI l3 (s.2.1 1 (ix ((67 + (2 * l5)) + 1)))))), some (.int (l4 + 0)), some (.int (l5 + 1)), none, none]) ⟨rfl, ⟨rfl, ⟨rfl, ⟨rfl, ⟨rfl, ⟨rfl, trivial⟩⟩⟩⟩⟩⟩) H
          · replace H := H.2 (h)
            refine ev_ex 8 (c' := (8, [some (.ref 2), some (.int l1), some (.int l2), some (.int (l3 - (mnI l3 (s.2.1 1 (ix ((67 + (2 * l5)) + 1)))))), some (.int (l4 + (-(mnI l3 (s.2.1 1 (ix ((67 + (2 * l5)) + 1))))))), some (.int (l5 + 1)), some (.int (s.2.1 1 (ix (67 + (2 * l5))))), some (.int (mnI l3 (s.2.1 1 (ix ((67 + (2 * l5)) + 1)))))], [], cH c s)) rfl ?_
            exact ev_less (lle_of (L := [some (.ref 2), some (.int l1), some (.int l2), some (.int (l3 - (mnI l3 (s.2.1 1 (ix ((67 + (2 * l5)) + 1)))))), some (.int (l4 + (-(mnI l3 (s.2.1 1 (ix ((67 + (2 * l5)) + 1))))))), some (.int (l5 + 1)), none, none]) ⟨rfl, ⟨rfl, ⟨rfl, ⟨rfl, ⟨rfl, ⟨rfl, trivial⟩⟩⟩⟩⟩⟩) H
        · replace H := H.2 (h)
          refine ev_ex 7 (c' := (8, [some (.ref 2), some (.int l1), some (.int l2), some (.int (l3 - (mnI l3 (s.2.1 1 (ix ((67 + (2 * l5)) + 1)))))), some (.int (l4 + (mnI l3 (s.2.1 1 (ix ((67 + (2 * l5)) + 1)))))), some (.int (l5 + 1)), some (.int (s.2.1 1 (ix (67 + (2 * l5))))), some (.int (mnI l3 (s.2.1 1 (ix ((67 + (2 * l5)) + 1)))))], [], cH c s)) rfl ?_
          exact ev_less (lle_of (L := [some (.ref 2), some (.int l1), some (.int l2), some (.int (l3 - (mnI l3 (s.2.1 1 (ix ((67 + (2 * l5)) + 1)))))), some (.int (l4 + (mnI l3 (s.2.1 1 (ix ((67 + (2 * l5)) + 1)))))), some (.int (l5 + 1)), none, none]) ⟨rfl, ⟨rfl, ⟨rfl, ⟨rfl, ⟨rfl, ⟨rfl, trivial⟩⟩⟩⟩⟩⟩) H
set_option maxRecDepth 8000 in
theorem w_R_whyNot {c : CX} {d : Nat} {s : RS} {Q : Int32 → RS → Prop} (a0 : Int64) (a1 : Int64) (H : (((wth a0 0 (s.2.1 1 1 - 1).toInt64) = false → Q 1 s) ∧ ((wth a0 0 (s.2.1 1 1 - 1).toInt64) = true → (((wth a1 0 (s.2.1 1 1 - 1).toInt64) = false → Q 1 s) ∧ ((wth a1 0 (s.2.1 1 1 - 1).toInt64) = true → ((¬ a0 = a1 → RB c (d + 1) m_R_mayMock [.ref 2, .int a0.toInt32, .int a1.toInt32] s (fun v2 s1 => ((v2 = false → Q 2 s1) ∧ (v2 = true → Q 0 s1)))) ∧ (a0 = a1 → Q 1 s))))))) : RI c (d + 2) m_R_whyNot [.ref 2, .long a0, .long a1] s Q := by
  refine ⟨q_R_whyNot, rfl, Nat.le_of_ble_eq_true rfl, ?_⟩
  refine ev_ex 0 (c' := (0, [some (.ref 2), some (.long a0), none, some (.long a1), none], [], cH c s)) rfl ?_
  refine ev_ex 2 (c' := (2, [some (.ref 2), some (.long a0), none, some (.long a1), none], [.long a0, .ref 2], cH c s)) rfl ?_
  refine rq_B (idx := 314) (V := wth a0 0 (s.2.1 1 1 - 1).toInt64) (S := s) rfl rfl rfl (Nat.le_of_ble_eq_true rfl) (Nat.le_of_ble_eq_true rfl) rfl (zq_R_isGuild ⟨rfl, rfl⟩) ?_
  refine ev_if_eqB (x := (wth a0 0 (s.2.1 1 1 - 1).toInt64)) (tgt := 22) rfl rfl (fun h => ?_) (fun h => ?_)
  · replace H := H.1 (h)
    refine ev_ex 1 (c' := (23, [some (.ref 2), some (.long a0), none, some (.long a1), none], [.int 1], cH c s)) rfl ?_
    exact ev_ret rfl rfl rfl ⟨_, _, rfl, rfl, H⟩
  · replace H := H.2 (h)
    refine ev_ex 2 (c' := (10, [some (.ref 2), some (.long a0), none, some (.long a1), none], [.long a1, .ref 2], cH c s)) rfl ?_
    refine rq_B (idx := 314) (V := wth a1 0 (s.2.1 1 1 - 1).toInt64) (S := s) rfl rfl rfl (Nat.le_of_ble_eq_true rfl) (Nat.le_of_ble_eq_true rfl) rfl (zq_R_isGuild ⟨rfl, rfl⟩) ?_
    refine ev_if_eqB (x := (wth a1 0 (s.2.1 1 1 - 1).toInt64)) (tgt := 22) rfl rfl (fun h => ?_) (fun h => ?_)
    · replace H := H.1 (h)
      refine ev_ex 1 (c' := (23, [some (.ref 2), some (.long a0), none, some (.long a1), none], [.int 1], cH c s)) rfl ?_
      exact ev_ret rfl rfl rfl ⟨_, _, rfl, rfl, H⟩
    · replace H := H.2 (h)
      refine ev_ex 3 (c' := (19, [some (.ref 2), some (.long a0), none, some (.long a1), none], [.int (lg_cmp a0 a1)], cH c s)) rfl ?_
      refine ev_if_ne (tgt := 24) rfl rfl (fun h => ?_) (fun h => ?_)
      · replace H := H.1 ((fun q => h ((lg_cmp_eq _ _).mpr q)))
        refine ev_ex 5 (c' := (29, [some (.ref 2), some (.long a0), none, some (.long a1), none], [.int a1.toInt32, .int a0.toInt32, .ref 2], cH c s)) rfl ?_
        refine rc_B (idx := 320) rfl rfl rfl (Nat.le_of_ble_eq_true rfl) (Nat.le_of_ble_eq_true rfl) rfl H (fun v2 s1 H => ?_)
        refine ev_if_eqB (x := v2) (tgt := 39) rfl rfl (fun h => ?_) (fun h => ?_)
        · replace H := H.1 (h)
          refine ev_ex 1 (c' := (40, [some (.ref 2), some (.long a0), none, some (.long a1), none], [.int 2], cH c s1)) rfl ?_
          exact ev_ret rfl rfl rfl ⟨_, _, rfl, rfl, H⟩
        · replace H := H.2 (h)
          refine ev_ex 2 (c' := (40, [some (.ref 2), some (.long a0), none, some (.long a1), none], [.int 0], cH c s1)) rfl ?_
          exact ev_ret rfl rfl rfl ⟨_, _, rfl, rfl, H⟩
      · replace H := H.2 ((lg_cmp_eq _ _).mp h)
        refine ev_ex 1 (c' := (23, [some (.ref 2), some (.long a0), none, some (.long a1), none], [.int 1], cH c s)) rfl ?_
        exact ev_ret rfl rfl rfl ⟨_, _, rfl, rfl, H⟩
set_option maxRecDepth 8000 in
theorem w_R_keeps {c : CX} {d : Nat} {s : RS} {Q : RS → Prop}  (H : (okx 5 2101 ∧ ((¬ (s.2.1 1 (ix 5)) = 10 → eR c (d) m_R_keeps 54 [some (.ref 2), some (.int 0)] s (pV c Q)) ∧ ((s.2.1 1 (ix 5)) = 10 → eR c (d) m_R_keeps 14 [some (.ref 2), some (.int 91)] s (pV c Q))))) : RV c (d) m_R_keeps [.ref 2] s Q := by
  refine ⟨q_R_keeps, rfl, Nat.le_of_ble_eq_true rfl, ?_⟩
  refine ev_ex 0 (c' := (0, [some (.ref 2), none], [], cH c s)) rfl ?_
  refine ev_ex 3 (c' := (5, [some (.ref 2), none], [.int 5, .ref 6], cH c s)) rfl ?_
  obtain ⟨H0, H⟩ := H
  refine ev_ald (i := .iaload) rfl (Or.inl rfl) rfl H0 (v := .int (s.2.1 1 (ix 5))) rfl ?_
  refine ev_ex 1 (c' := (8, [some (.ref 2), none], [.int 10, .int (s.2.1 1 (ix 5))], cH c s)) rfl ?_
  refine ev_icmp_ne (tgt := 52) rfl rfl (fun h => ?_) (fun h => ?_)
  · replace H := H.1 (h)
    refine ev_ex 2 (c' := (54, [some (.ref 2), some (.int 0)], [], cH c s)) rfl ?_
    exact H
  · replace H := H.2 (h)
    refine ev_ex 2 (c' := (14, [some (.ref 2), some (.int 91)], [], cH c s)) rfl ?_
    exact H
set_option maxRecDepth 8000 in
theorem w_R_keeps_54 {c : CX} {d : Nat} {s : RS} {Q : RS → Prop} (l1 : Int32) (H : ((21 ≤ l1 → (okx 5 2101 ∧ (okx 5 2101 ∧ Q (rA s 1 (ix 5) ((s.2.1 1 (ix 5)) + 1))))) ∧ (¬ 21 ≤ l1 → (okx 5 2101 ∧ (okx (6 + l1) 2101 ∧ (okx ((91 + (21 * (s.2.1 1 (ix 5)))) + l1) 2101 ∧ eR c (d) m_R_keeps 54 [some (.ref 2), some (.int (l1 + 1))] (rA s 1 (ix ((91 + (21 * (s.2.1 1 (ix 5)))) + l1)) (s.2.1 1 (ix (6 + l1)))) (pV c Q))))))) : eR c (d) m_R_keeps 54 [some (.ref 2), some (.int l1)] s (pV c Q) := by
  unfold eR
  refine ev_ex 0 (c' := (54, [some (.ref 2), some (.int l1)], [], cH c s)) rfl ?_
  refine ev_ex 2 (c' := (57, [some (.ref 2), some (.int l1)], [.int 21, .int l1], cH c s)) rfl ?_
  refine ev_icmp_ge (tgt := 94) rfl rfl (fun h => ?_) (fun h => ?_)
  · replace H := H.1 (h)
    refine ev_ex 4 (c' := (100, [some (.ref 2), some (.int l1)], [.int 5, .ref 6, .int 5, .ref 6], cH c s)) rfl ?_
    obtain ⟨H0, H⟩ := H
    refine ev_ald (i := .iaload) rfl (Or.inl rfl) rfl H0 (v := .int (s.2.1 1 (ix 5))) rfl ?_
    refine ev_ex 2 (c' := (103, [some (.ref 2), some (.int l1)], [.int ((s.2.1 1 (ix 5)) + 1), .int 5, .ref 6], cH c s)) rfl ?_
    obtain ⟨H0, H⟩ := H
    refine ev_ast (i := .iastore) rfl (Or.inl rfl) rfl H0 (by decide) rfl rfl (σ' := cH c (rA s 1 (ix 5) ((s.2.1 1 (ix 5)) + 1))) rfl ?_
    exact ev_ret rfl rfl rfl ⟨_, rfl, rfl, H⟩
  · replace H := H.2 (h)
    refine ev_ex 7 (c' := (73, [some (.ref 2), some (.int l1)], [.int 5, .ref 6, .int 21, .int 91, .ref 6], cH c s)) rfl ?_
    obtain ⟨H0, H⟩ := H
    refine ev_ald (i := .iaload) rfl (Or.inl rfl) rfl H0 (v := .int (s.2.1 1 (ix 5))) rfl ?_
    refine ev_ex 9 (c' := (86, [some (.ref 2), some (.int l1)], [.int (6 + l1), .ref 6, .int ((91 + (21 * (s.2.1 1 (ix 5)))) + l1), .ref 6], cH c s)) rfl ?_
    obtain ⟨H0, H⟩ := H
    refine ev_ald (i := .iaload) rfl (Or.inl rfl) rfl H0 (v := .int (s.2.1 1 (ix (6 + l1)))) rfl ?_
    obtain ⟨H0, H⟩ := H
    refine ev_ast (i := .iastore) rfl (Or.inl rfl) rfl H0 (by decide) rfl rfl (σ' := cH c (rA s 1 (ix ((91 + (21 * (s.2.1 1 (ix 5)))) + l1)) (s.2.1 1 (ix (6 + l1))))) rfl ?_
    refine ev_ex 2 (c' := (54, [some (.ref 2), some (.int (l1 + 1))], [], cH c (rA s 1 (ix ((91 + (21 * (s.2.1 1 (ix 5)))) + l1)) (s.2.1 1 (ix (6 + l1)))))) rfl ?_
    exact H
set_option maxRecDepth 8000 in
theorem w_R_keeps_14 {c : CX} {d : Nat} {s : RS} {Q : RS → Prop} (l1 : Int32) (H : ((280 ≤ l1 → (okx 5 2101 ∧ (okx 5 2101 ∧ eR c (d) m_R_keeps 54 [some (.ref 2), some (.int 0)] (rA s 1 (ix 5) ((s.2.1 1 (ix 5)) - 1)) (pV c Q)))) ∧ (¬ 280 ≤ l1 → (okx (l1 + 21) 2101 ∧ (okx l1 2101 ∧ eR c (d) m_R_keeps 14 [some (.ref 2), some (.int (l1 + 1))] (rA s 1 (ix l1) (s.2.1 1 (ix (l1 + 21)))) (pV c Q)))))) : eR c (d) m_R_keeps 14 [some (.ref 2), some (.int l1)] s (pV c Q) := by
  unfold eR
  refine ev_ex 0 (c' := (14, [some (.ref 2), some (.int l1)], [], cH c s)) rfl ?_
  refine ev_ex 2 (c' := (18, [some (.ref 2), some (.int l1)], [.int 280, .int l1], cH c s)) rfl ?_
  refine ev_icmp_ge (tgt := 42) rfl rfl (fun h => ?_) (fun h => ?_)
  · replace H := H.1 (h)
    refine ev_ex 4 (c' := (48, [some (.ref 2), some (.int l1)], [.int 5, .ref 6, .int 5, .ref 6], cH c s)) rfl ?_
    obtain ⟨H0, H⟩ := H
    refine ev_ald (i := .iaload) rfl (Or.inl rfl) rfl H0 (v := .int (s.2.1 1 (ix 5))) rfl ?_
    refine ev_ex 2 (c' := (51, [some (.ref 2), some (.int l1)], [.int ((s.2.1 1 (ix 5)) - 1), .int 5, .ref 6], cH c s)) rfl ?_
    obtain ⟨H0, H⟩ := H
    refine ev_ast (i := .iastore) rfl (Or.inl rfl) rfl H0 (by decide) rfl rfl (σ' := cH c (rA s 1 (ix 5) ((s.2.1 1 (ix 5)) - 1))) rfl ?_
    refine ev_ex 2 (c' := (54, [some (.ref 2), some (.int 0)], [], cH c (rA s 1 (ix 5) ((s.2.1 1 (ix 5)) - 1)))) rfl ?_
    exact H
  · replace H := H.2 (h)
    refine ev_ex 8 (c' := (34, [some (.ref 2), some (.int l1)], [.int (l1 + 21), .ref 6, .int l1, .ref 6], cH c s)) rfl ?_
    obtain ⟨H0, H⟩ := H
    refine ev_ald (i := .iaload) rfl (Or.inl rfl) rfl H0 (v := .int (s.2.1 1 (ix (l1 + 21)))) rfl ?_
    obtain ⟨H0, H⟩ := H
    refine ev_ast (i := .iastore) rfl (Or.inl rfl) rfl H0 (by decide) rfl rfl (σ' := cH c (rA s 1 (ix l1) (s.2.1 1 (ix (l1 + 21))))) rfl ?_
    refine ev_ex 2 (c' := (14, [some (.ref 2), some (.int (l1 + 1))], [], cH c (rA s 1 (ix l1) (s.2.1 1 (ix (l1 + 21)))))) rfl ?_
    exact H
set_option maxRecDepth 8000 in
theorem w_R_putsAside {c : CX} {d : Nat} {s : RS} {Q : RS → Prop}  (H : eR c (d) m_R_putsAside 2 [some (.ref 2), some (.int 0)] s (pV c Q)) : RV c (d) m_R_putsAside [.ref 2] s Q := by
  refine ⟨q_R_putsAside, rfl, Nat.le_of_ble_eq_true rfl, ?_⟩
  refine ev_ex 0 (c' := (0, [some (.ref 2), none], [], cH c s)) rfl ?_
  refine ev_ex 2 (c' := (2, [some (.ref 2), some (.int 0)], [], cH c s)) rfl ?_
  exact H
set_option maxRecDepth 8000 in
theorem w_R_putsAside_2 {c : CX} {d : Nat} {s : RS} {Q : RS → Prop} (l1 : Int32) (H : ((21 ≤ l1 → Q s) ∧ (¬ 21 ≤ l1 → (okx (6 + l1) 2101 ∧ (okx l1 21 ∧ eR c (d) m_R_putsAside 2 [some (.ref 2), some (.int (l1 + 1))] (rA s 8 (ix l1) (s.2.1 1 (ix (6 + l1)))) (pV c Q)))))) : eR c (d) m_R_putsAside 2 [some (.ref 2), some (.int l1)] s (pV c Q) := by
  unfold eR
  refine ev_ex 0 (c' := (2, [some (.ref 2), some (.int l1)], [], cH c s)) rfl ?_
  refine ev_ex 2 (c' := (5, [some (.ref 2), some (.int l1)], [.int 21, .int l1], cH c s)) rfl ?_
  refine ev_icmp_ge (tgt := 29) rfl rfl (fun h => ?_) (fun h => ?_)
  · replace H := H.1 (h)
    exact ev_ret rfl rfl rfl ⟨_, rfl, rfl, H⟩
  · replace H := H.2 (h)
    refine ev_ex 8 (c' := (21, [some (.ref 2), some (.int l1)], [.int (6 + l1), .ref 6, .int l1, .ref 34], cH c s)) rfl ?_
    obtain ⟨H0, H⟩ := H
    refine ev_ald (i := .iaload) rfl (Or.inl rfl) rfl H0 (v := .int (s.2.1 1 (ix (6 + l1)))) rfl ?_
    obtain ⟨H0, H⟩ := H
    refine ev_ast (i := .iastore) rfl (Or.inl rfl) rfl H0 (by decide) rfl rfl (σ' := cH c (rA s 8 (ix l1) (s.2.1 1 (ix (6 + l1))))) rfl ?_
    refine ev_ex 2 (c' := (2, [some (.ref 2), some (.int (l1 + 1))], [], cH c (rA s 8 (ix l1) (s.2.1 1 (ix (6 + l1)))))) rfl ?_
    exact H
set_option maxRecDepth 8000 in
theorem w_R_night {c : CX} {d : Nat} {s : RS} {Q : RS → Prop}  (H : eR c (d + 1) m_R_night 2 [some (.ref 2), some (.int 0)] s (pV c Q)) : RV c (d + 1) m_R_night [.ref 2] s Q := by
  refine ⟨q_R_night, rfl, Nat.le_of_ble_eq_true rfl, ?_⟩
  refine ev_ex 0 (c' := (0, [some (.ref 2), none], [], cH c s)) rfl ?_
  refine ev_ex 2 (c' := (2, [some (.ref 2), some (.int 0)], [], cH c s)) rfl ?_
  exact H
set_option maxRecDepth 8000 in
theorem w_R_night_2 {c : CX} {d : Nat} {s : RS} {Q : RS → Prop} (l1 : Int32) (H : (((s.2.1 1 1) ≤ l1 → eR c (d + 1) m_R_night 29 [some (.ref 2), some (.int 0)] s (pV c Q)) ∧ (¬ (s.2.1 1 1) ≤ l1 → RI c d m_R_then [.ref 2, .int l1] s (fun v2 s1 => (okx l1 10 ∧ eR c (d + 1) m_R_night 2 [some (.ref 2), some (.int (l1 + 1))] (rA s1 7 (ix l1) v2) (pV c Q)))))) : eR c (d + 1) m_R_night 2 [some (.ref 2), some (.int l1)] s (pV c Q) := by
  unfold eR
  refine ev_ex 0 (c' := (2, [some (.ref 2), some (.int l1)], [], cH c s)) rfl ?_
  refine ev_ex 2 (c' := (4, [some (.ref 2), some (.int l1)], [.ref 2, .int l1], cH c s)) rfl ?_
  refine rq_I (idx := 267) (V := s.2.1 1 1) (S := s) rfl rfl rfl (Nat.le_of_ble_eq_true rfl) (Nat.le_of_ble_eq_true rfl) rfl (zq_R_guilds ⟨rfl, rfl⟩) ?_
  refine ev_icmp_ge (tgt := 27) rfl rfl (fun h => ?_) (fun h => ?_)
  · replace H := H.1 (h)
    refine ev_ex 2 (c' := (29, [some (.ref 2), some (.int 0)], [], cH c s)) rfl ?_
    exact H
  · replace H := H.2 (h)
    refine ev_ex 5 (c' := (17, [some (.ref 2), some (.int l1)], [.int l1, .ref 2, .int l1, .ref 30], cH c s)) rfl ?_
    refine rc_I (idx := 311) rfl rfl rfl (Nat.le_of_ble_eq_true rfl) (Nat.le_of_ble_eq_true rfl) rfl H (fun v2 s1 H => ?_)
    obtain ⟨H0, H⟩ := H
    refine ev_ast (i := .iastore) rfl (Or.inl rfl) rfl H0 (by decide) rfl rfl (σ' := cH c (rA s1 7 (ix l1) v2)) rfl ?_
    refine ev_ex 2 (c' := (2, [some (.ref 2), some (.int (l1 + 1))], [], cH c (rA s1 7 (ix l1) v2))) rfl ?_
    exact H
set_option maxRecDepth 8000 in
theorem w_R_night_29 {c : CX} {d : Nat} {s : RS} {Q : RS → Prop} (l1 : Int32) (H : (((s.2.1 1 1) ≤ l1 → (okx 26 2101 ∧ (okx 26 2101 ∧ Q (rA s 1 (ix 26) ((s.2.1 1 (ix 26)) + 1))))) ∧ (¬ (s.2.1 1 1) ≤ l1 → (okx l1 10 ∧ (okx (6 + l1) 2101 ∧ eR c (d + 1) m_R_night 29 [some (.ref 2), some (.int (l1 + 1))] (rA s 1 (ix (6 + l1)) (s.2.1 7 (ix l1))) (pV c Q)))))) : eR c (d + 1) m_R_night 29 [some (.ref 2), some (.int l1)] s (pV c Q) := by
  unfold eR
  refine ev_ex 0 (c' := (29, [some (.ref 2), some (.int l1)], [], cH c s)) rfl ?_
  refine ev_ex 2 (c' := (31, [some (.ref 2), some (.int l1)], [.ref 2, .int l1], cH c s)) rfl ?_
  refine rq_I (idx := 267) (V := s.2.1 1 1) (S := s) rfl rfl rfl (Nat.le_of_ble_eq_true rfl) (Nat.le_of_ble_eq_true rfl) rfl (zq_R_guilds ⟨rfl, rfl⟩) ?_
  refine ev_icmp_ge (tgt := 58) rfl rfl (fun h => ?_) (fun h => ?_)
  · replace H := H.1 (h)
    refine ev_ex 4 (c' := (65, [some (.ref 2), some (.int l1)], [.int 26, .ref 6, .int 26, .ref 6], cH c s)) rfl ?_
    obtain ⟨H0, H⟩ := H
    refine ev_ald (i := .iaload) rfl (Or.inl rfl) rfl H0 (v := .int (s.2.1 1 (ix 26))) rfl ?_
    refine ev_ex 2 (c' := (68, [some (.ref 2), some (.int l1)], [.int ((s.2.1 1 (ix 26)) + 1), .int 26, .ref 6], cH c s)) rfl ?_
    obtain ⟨H0, H⟩ := H
    refine ev_ast (i := .iastore) rfl (Or.inl rfl) rfl H0 (by decide) rfl rfl (σ' := cH c (rA s 1 (ix 26) ((s.2.1 1 (ix 26)) + 1))) rfl ?_
    exact ev_ret rfl rfl rfl ⟨_, rfl, rfl, H⟩
  · replace H := H.2 (h)
    refine ev_ex 8 (c' := (50, [some (.ref 2), some (.int l1)], [.int l1, .ref 30, .int (6 + l1), .ref 6], cH c s)) rfl ?_
    obtain ⟨H0, H⟩ := H
    refine ev_ald (i := .iaload) rfl (Or.inl rfl) rfl H0 (v := .int (s.2.1 7 (ix l1))) rfl ?_
    obtain ⟨H0, H⟩ := H
    refine ev_ast (i := .iastore) rfl (Or.inl rfl) rfl H0 (by decide) rfl rfl (σ' := cH c (rA s 1 (ix (6 + l1)) (s.2.1 7 (ix l1)))) rfl ?_
    refine ev_ex 2 (c' := (29, [some (.ref 2), some (.int (l1 + 1))], [], cH c (rA s 1 (ix (6 + l1)) (s.2.1 7 (ix l1))))) rfl ?_
    exact H
set_option maxRecDepth 8000 in
theorem w_R_whyTold {c : CX} {d : Nat} {s : RS} {Q : Int32 → RS → Prop} (a0 : Int64) (H : ((¬ a0 = ((-1)) → ((a0 < 0 → Q 1 s) ∧ (¬ a0 < 0 → (((wth (a0 / 100) 0 (s.2.1 1 1 - 1).toInt64) = true → ((¬ (a0 - a0 / 100 * 100) = 99 → RI c (d + 1) m_R_whyNot [.ref 2, .long (a0 / 100), .long (a0 - a0 / 100 * 100)] s (fun v2 s1 => Q v2 s1)) ∧ ((a0 - a0 / 100 * 100) = 99 → Q 0 s))) ∧ ((wth (a0 / 100) 0 (s.2.1 1 1 - 1).toInt64) = false → Q 1 s))))) ∧ (a0 = ((-1)) → Q 0 s))) : RI c (d + 2) m_R_whyTold [.ref 2, .long a0] s Q := by
  refine ⟨q_R_whyTold, rfl, Nat.le_of_ble_eq_true rfl, ?_⟩
  refine ev_ex 0 (c' := (0, [some (.ref 2), some (.long a0), none], [], cH c s)) rfl ?_
  refine ev_ex 3 (c' := (5, [some (.ref 2), some (.long a0), none], [.int (lg_cmp a0 ((-1)))], cH c s)) rfl ?_
  refine ev_if_ne (tgt := 10) rfl rfl (fun h => ?_) (fun h => ?_)
  · replace H := H.1 ((fun q => h ((lg_cmp_eq _ _).mpr q)))
    refine ev_ex 3 (c' := (13, [some (.ref 2), some (.long a0), none], [.int (lg_cmp a0 0)], cH c s)) rfl ?_
    refine ev_if_lt (tgt := 28) rfl rfl (fun h => ?_) (fun h => ?_)
    · replace H := H.1 ((lg_cmp_lt _ _).mp h)
      refine ev_ex 1 (c' := (29, [some (.ref 2), some (.long a0), none], [.int 1], cH c s)) rfl ?_
      exact ev_ret rfl rfl rfl ⟨_, _, rfl, rfl, H⟩
    · replace H := H.2 ((fun q => h ((lg_cmp_lt _ _).mpr q)))
      refine ev_ex 4 (c' := (22, [some (.ref 2), some (.long a0), none], [.long (a0 / 100), .ref 2], cH c s)) rfl ?_
      refine rq_B (idx := 314) (V := wth (a0 / 100) 0 (s.2.1 1 1 - 1).toInt64) (S := s) rfl rfl rfl (Nat.le_of_ble_eq_true rfl) (Nat.le_of_ble_eq_true rfl) rfl (zq_R_isGuild ⟨rfl, rfl⟩) ?_
      refine ev_if_neB (x := (wth (a0 / 100) 0 (s.2.1 1 1 - 1).toInt64)) (tgt := 30) rfl rfl (fun h => ?_) (fun h => ?_)
      · replace H := H.1 (h)
        refine ev_ex 5 (c' := (39, [some (.ref 2), some (.long a0), none], [.int (lg_cmp (a0 - a0 / 100 * 100) 99)], cH c s)) rfl ?_
        refine ev_if_ne (tgt := 46) rfl rfl (fun h => ?_) (fun h => ?_)
        · replace H := H.1 ((fun q => h ((lg_cmp_eq _ _).mpr q)))
          refine ev_ex 7 (c' := (57, [some (.ref 2), some (.long a0), none], [.long (a0 - a0 / 100 * 100), .long (a0 / 100), .ref 2], cH c s)) rfl ?_
          refine rc_I (idx := 323) rfl rfl rfl (Nat.le_of_ble_eq_true rfl) (Nat.le_of_ble_eq_true rfl) rfl H (fun v2 s1 H => ?_)
          exact ev_ret rfl rfl rfl ⟨_, _, rfl, rfl, H⟩
        · replace H := H.2 ((lg_cmp_eq _ _).mp h)
          refine ev_ex 2 (c' := (60, [some (.ref 2), some (.long a0), none], [.int 0], cH c s)) rfl ?_
          exact ev_ret rfl rfl rfl ⟨_, _, rfl, rfl, H⟩
      · replace H := H.2 (h)
        refine ev_ex 1 (c' := (29, [some (.ref 2), some (.long a0), none], [.int 1], cH c s)) rfl ?_
        exact ev_ret rfl rfl rfl ⟨_, _, rfl, rfl, H⟩
  · replace H := H.2 ((lg_cmp_eq _ _).mp h)
    refine ev_ex 1 (c' := (9, [some (.ref 2), some (.long a0), none], [.int 0], cH c s)) rfl ?_
    exact ev_ret rfl rfl rfl ⟨_, _, rfl, rfl, H⟩
set_option maxRecDepth 8000 in
theorem w_R_does {c : CX} {d : Nat} {s : RS} {Q : RS → Prop} (a0 : Int32) (H : ((¬ a0 = ((-1)) → ((¬ (a0 - a0 / 100 * 100) = 99 → (okx (6 + (a0 / 100)) 2101 ∧ Q (rA s 1 (ix (6 + (a0 / 100))) (a0 - a0 / 100 * 100)))) ∧ ((a0 - a0 / 100 * 100) = 99 → (okx (6 + (a0 / 100)) 2101 ∧ Q (rA s 1 (ix (6 + (a0 / 100))) ((-1))))))) ∧ (a0 = ((-1)) → RV c d m_R_night [.ref 2] s (fun s1 => Q s1)))) : RV c (d + 1) m_R_does [.ref 2, .int a0] s Q := by
  refine ⟨q_R_does, rfl, Nat.le_of_ble_eq_true rfl, ?_⟩
  refine ev_ex 0 (c' := (0, [some (.ref 2), some (.int a0)], [], cH c s)) rfl ?_
  refine ev_ex 2 (c' := (2, [some (.ref 2), some (.int a0)], [.int ((-1)), .int a0], cH c s)) rfl ?_
  refine ev_icmp_ne (tgt := 12) rfl rfl (fun h => ?_) (fun h => ?_)
  · replace H := H.1 (h)
    refine ev_ex 5 (c' := (21, [some (.ref 2), some (.int a0)], [.int 100, .int a0, .int 6, .ref 6], cH c s)) rfl ?_
    refine ev_ex 4 (c' := (26, [some (.ref 2), some (.int a0)], [.int 100, .int a0, .int (6 + (a0 / 100)), .ref 6], cH c s)) rfl ?_
    refine ev_ex 2 (c' := (29, [some (.ref 2), some (.int a0)], [.int 99, .int (a0 - a0 / 100 * 100), .int (6 + (a0 / 100)), .ref 6], cH c s)) rfl ?_
    refine ev_icmp_ne (tgt := 36) rfl rfl (fun h => ?_) (fun h => ?_)
    · replace H := H.1 (h)
      refine ev_ex 2 (c' := (39, [some (.ref 2), some (.int a0)], [.int 100, .int a0, .int (6 + (a0 / 100)), .ref 6], cH c s)) rfl ?_
      refine ev_ex 1 (c' := (40, [some (.ref 2), some (.int a0)], [.int (a0 - a0 / 100 * 100), .int (6 + (a0 / 100)), .ref 6], cH c s)) rfl ?_
      obtain ⟨H0, H⟩ := H
      refine ev_ast (i := .iastore) rfl (Or.inl rfl) rfl H0 (by decide) rfl rfl (σ' := cH c (rA s 1 (ix (6 + (a0 / 100))) (a0 - a0 / 100 * 100))) rfl ?_
      exact ev_ret rfl rfl rfl ⟨_, rfl, rfl, H⟩
    · replace H := H.2 (h)
      refine ev_ex 2 (c' := (40, [some (.ref 2), some (.int a0)], [.int ((-1)), .int (6 + (a0 / 100)), .ref 6], cH c s)) rfl ?_
      obtain ⟨H0, H⟩ := H
      refine ev_ast (i := .iastore) rfl (Or.inl rfl) rfl H0 (by decide) rfl rfl (σ' := cH c (rA s 1 (ix (6 + (a0 / 100))) ((-1)))) rfl ?_
      exact ev_ret rfl rfl rfl ⟨_, rfl, rfl, H⟩
  · replace H := H.2 (h)
    refine ev_ex 1 (c' := (6, [some (.ref 2), some (.int a0)], [.ref 2], cH c s)) rfl ?_
    refine rc_V (idx := 337) rfl rfl rfl (Nat.le_of_ble_eq_true rfl) (Nat.le_of_ble_eq_true rfl) rfl H (fun s1 H => ?_)
    refine ev_ex 1 (c' := (41, [some (.ref 2), some (.int a0)], [], cH c s1)) rfl ?_
    exact ev_ret rfl rfl rfl ⟨_, rfl, rfl, H⟩
set_option maxRecDepth 8000 in
theorem w_R_mocking {c : CX} {d : Nat} {s : RS} {Q : Int32 → RS → Prop}  (H : eR c (d + 1) m_R_mocking 4 [some (.ref 2), some (.int 0), some (.int 0)] s (pI c Q)) : RI c (d + 1) m_R_mocking [.ref 2] s Q := by
  refine ⟨q_R_mocking, rfl, Nat.le_of_ble_eq_true rfl, ?_⟩
  refine ev_ex 0 (c' := (0, [some (.ref 2), none, none], [], cH c s)) rfl ?_
  refine ev_ex 4 (c' := (4, [some (.ref 2), some (.int 0), some (.int 0)], [], cH c s)) rfl ?_
  exact H
set_option maxRecDepth 8000 in
theorem w_R_mocking_4 {c : CX} {d : Nat} {s : RS} {Q : Int32 → RS → Prop} (l1 : Int32) (l2 : Int32) (H : (((s.2.1 1 1) ≤ l2 → Q l1 s) ∧ (¬ (s.2.1 1 1) ≤ l2 → (okx (6 + l2) 2101 ∧ ((¬ (s.2.1 1 (ix (6 + l2))) = ((-1)) → eR c (d + 1) m_R_mocking 4 [some (.ref 2), some (.int (l1 + 1)), some (.int (l2 + 1))] s (pI c Q)) ∧ ((s.2.1 1 (ix (6 + l2))) = ((-1)) → eR c (d + 1) m_R_mocking 4 [some (.ref 2), some (.int (l1 + 0)), some (.int (l2 + 1))] s (pI c Q))))))) : eR c (d + 1) m_R_mocking 4 [some (.ref 2), some (.int l1), some (.int l2)] s (pI c Q) := by
  unfold eR
  refine ev_ex 0 (c' := (4, [some (.ref 2), some (.int l1), some (.int l2)], [], cH c s)) rfl ?_
  refine ev_ex 2 (c' := (6, [some (.ref 2), some (.int l1), some (.int l2)], [.ref 2, .int l2], cH c s)) rfl ?_
  refine rq_I (idx := 267) (V := s.2.1 1 1) (S := s) rfl rfl rfl (Nat.le_of_ble_eq_true rfl) (Nat.le_of_ble_eq_true rfl) rfl (zq_R_guilds ⟨rfl, rfl⟩) ?_
  refine ev_icmp_ge (tgt := 35) rfl rfl (fun h => ?_) (fun h => ?_)
  · replace H := H.1 (h)
    refine ev_ex 1 (c' := (36, [some (.ref 2), some (.int l1), some (.int l2)], [.int l1], cH c s)) rfl ?_
    exact ev_ret rfl rfl rfl ⟨_, _, rfl, rfl, H⟩
  · replace H := H.2 (h)
    refine ev_ex 3 (c' := (15, [some (.ref 2), some (.int l1), some (.int l2)], [.int l2, .ref 2, .int l1], cH c s)) rfl ?_
    obtain ⟨H1, H⟩ := H
    refine rq_I (idx := 270) (V := s.2.1 1 (ix (6 + l2))) (S := s) rfl rfl rfl (Nat.le_of_ble_eq_true rfl) (Nat.le_of_ble_eq_true rfl) rfl (zq_R_mocked H1 ⟨rfl, rfl⟩) ?_
    refine ev_ex 1 (c' := (19, [some (.ref 2), some (.int l1), some (.int l2)], [.int ((-1)), .int (s.2.1 1 (ix (6 + l2))), .int l1], cH c s)) rfl ?_
    refine ev_icmp_ne (tgt := 26) rfl rfl (fun h => ?_) (fun h => ?_)
    · replace H := H.1 (h)
      refine ev_ex 5 (c' := (4, [some (.ref 2), some (.int (l1 + 1)), some (.int (l2 + 1))], [], cH c s)) rfl ?_
      exact H
    · replace H := H.2 (h)
      refine ev_ex 6 (c' := (4, [some (.ref 2), some (.int (l1 + 0)), some (.int (l2 + 1))], [], cH c s)) rfl ?_
      exact H
set_option maxRecDepth 8000 in
theorem w_R_laysRow {c : CX} {d : Nat} {s : RS} {Q : RS → Prop}  (H : (okx 0 21 ∧ eR c (d + 1) m_R_laysRow 24 [some (.ref 2), some (.int 0), none] (rA (rF (rF (rF s 26 0) 27 0) 28 0) 10 (ix 0) 0) (pV c Q))) : RV c (d + 1) m_R_laysRow [.ref 2] s Q := by
  refine ⟨q_R_laysRow, rfl, Nat.le_of_ble_eq_true rfl, ?_⟩
  refine ev_ex 0 (c' := (0, [some (.ref 2), none, none], [], cH c s)) rfl ?_
  refine ev_ex 13 (c' := (21, [some (.ref 2), none, none], [.int 0, .int 0, .ref 42], cH c (rF (rF (rF s 26 0) 27 0) 28 0))) rfl ?_
  obtain ⟨H0, H⟩ := H
  refine ev_ast (i := .iastore) rfl (Or.inl rfl) rfl H0 (by decide) rfl rfl (σ' := cH c (rA (rF (rF (rF s 26 0) 27 0) 28 0) 10 (ix 0) 0)) rfl ?_
  refine ev_ex 2 (c' := (24, [some (.ref 2), some (.int 0), none], [], cH c (rA (rF (rF (rF s 26 0) 27 0) 28 0) 10 (ix 0) 0))) rfl ?_
  exact H
set_option maxRecDepth 8000 in
theorem w_R_laysRow_24 {c : CX} {d : Nat} {s : RS} {Q : RS → Prop} (l1 : Int32) (H : (((s.2.1 1 1) ≤ l1 → Q s) ∧ (¬ (s.2.1 1 1) ≤ l1 → (okx (6 + l1) 2101 ∧ (((s.2.1 1 (ix (6 + l1))) = ((-1)) → (okx (6 + l1) 2101 ∧ (((s.2.1 1 (ix (6 + l1))) = ((-1)) → eR c (d + 1) m_R_laysRow 100 [some (.ref 2), some (.int l1), some (.int l1)] (rF s 28 ((s.1 28) + 1)) (pV c Q)) ∧ (¬ (s.2.1 1 (ix (6 + l1))) = ((-1)) → (okx (6 + l1) 2101 ∧ RV c d m_R_walksOn [.ref 2, .int (100 + (s.2.1 1 (ix (6 + l1))))] (rF s 28 ((s.1 28) + 1)) (fun s1 => eR c (d + 1) m_R_laysRow 100 [some (.ref 2), some (.int l1), some (.int l1)] (rF s1 27 ((s1.1 27) + 1)) (pV c Q))))))) ∧ (¬ (s.2.1 1 (ix (6 + l1))) = ((-1)) → (okx (6 + l1) 2101 ∧ RI c d m_R_behind [.ref 2, .int (s.2.1 1 (ix (6 + l1)))] s (fun v3 s2 => ((¬ v3 = l1 → (okx (6 + l1) 2101 ∧ (((s2.2.1 1 (ix (6 + l1))) = ((-1)) → eR c (d + 1) m_R_laysRow 100 [some (.ref 2), some (.int l1), some (.int l1)] (rF s2 28 ((s2.1 28) + 1)) (pV c Q)) ∧ (¬ (s2.2.1 1 (ix (6 + l1))) = ((-1)) → (okx (6 + l1) 2101 ∧ RV c d m_R_walksOn [.ref 2, .int (100 + (s2.2.1 1 (ix (6 + l1))))] (rF s2 28 ((s2.1 28) + 1)) (fun s4 => eR c (d + 1) m_R_laysRow 100 [some (.ref 2), some (.int l1), some (.int l1)] (rF s4 27 ((s4.1 27) + 1)) (pV c Q))))))) ∧ (v3 = l1 → eR c (d + 1) m_R_laysRow 24 [some (.ref 2), some (.int (l1 + 1)), none] s2 (pV c Q))))))))))) : eR c (d + 1) m_R_laysRow 24 [some (.ref 2), some (.int l1), none] s (pV c Q) := by
  unfold eR
  refine ev_ex 0 (c' := (24, [some (.ref 2), some (.int l1), none], [], cH c s)) rfl ?_
  refine ev_ex 2 (c' := (26, [some (.ref 2), some (.int l1), none], [.ref 2, .int l1], cH c s)) rfl ?_
  refine rq_I (idx := 267) (V := s.2.1 1 1) (S := s) rfl rfl rfl (Nat.le_of_ble_eq_true rfl) (Nat.le_of_ble_eq_true rfl) rfl (zq_R_guilds ⟨rfl, rfl⟩) ?_
  refine ev_icmp_ge (tgt := 135) rfl rfl (fun h => ?_) (fun h => ?_)
  · replace H := H.1 (h)
    exact ev_ret rfl rfl rfl ⟨_, rfl, rfl, H⟩
  · replace H := H.2 (h)
    refine ev_ex 2 (c' := (34, [some (.ref 2), some (.int l1), none], [.int l1, .ref 2], cH c s)) rfl ?_
    obtain ⟨H1, H⟩ := H
    refine rq_I (idx := 270) (V := s.2.1 1 (ix (6 + l1))) (S := s) rfl rfl rfl (Nat.le_of_ble_eq_true rfl) (Nat.le_of_ble_eq_true rfl) rfl (zq_R_mocked H1 ⟨rfl, rfl⟩) ?_
    refine ev_ex 1 (c' := (38, [some (.ref 2), some (.int l1), none], [.int ((-1)), .int (s.2.1 1 (ix (6 + l1)))], cH c s)) rfl ?_
    refine ev_icmp_eq (tgt := 57) rfl rfl (fun h => ?_) (fun h => ?_)
    · replace H := H.1 (h)
      refine ev_ex 8 (c' := (69, [some (.ref 2), some (.int l1), none], [.int l1, .ref 2], cH c (rF s 28 ((s.1 28) + 1)))) rfl ?_
      obtain ⟨H1, H⟩ := H
      refine rq_I (idx := 270) (V := s.2.1 1 (ix (6 + l1))) (S := rF s 28 ((s.1 28) + 1)) rfl rfl rfl (Nat.le_of_ble_eq_true rfl) (Nat.le_of_ble_eq_true rfl) rfl (zq_R_mocked H1 ⟨rfl, rfl⟩) ?_
      refine ev_ex 1 (c' := (73, [some (.ref 2), some (.int l1), none], [.int ((-1)), .int (s.2.1 1 (ix (6 + l1)))], cH c (rF s 28 ((s.1 28) + 1)))) rfl ?_
      refine ev_icmp_eq (tgt := 98) rfl rfl (fun h => ?_) (fun h => ?_)
      · replace H := H.1 (h)
        refine ev_ex 2 (c' := (100, [some (.ref 2), some (.int l1), some (.int l1)], [], cH c (rF s 28 ((s.1 28) + 1)))) rfl ?_
        exact H
      · replace H := H.2 (h)
        refine ev_ex 4 (c' := (81, [some (.ref 2), some (.int l1), none], [.int l1, .ref 2, .int 100, .ref 2], cH c (rF s 28 ((s.1 28) + 1)))) rfl ?_
        obtain ⟨H1, H⟩ := H
        refine rq_I (idx := 270) (V := s.2.1 1 (ix (6 + l1))) (S := rF s 28 ((s.1 28) + 1)) rfl rfl rfl (Nat.le_of_ble_eq_true rfl) (Nat.le_of_ble_eq_true rfl) rfl (zq_R_mocked H1 ⟨rfl, rfl⟩) ?_
        refine ev_ex 1 (c' := (85, [some (.ref 2), some (.int l1), none], [.int (100 + (s.2.1 1 (ix (6 + l1)))), .ref 2], cH c (rF s 28 ((s.1 28) + 1)))) rfl ?_
        refine rc_V (idx := 395) rfl rfl rfl (Nat.le_of_ble_eq_true rfl) (Nat.le_of_ble_eq_true rfl) rfl H (fun s1 H => ?_)
        refine ev_ex 8 (c' := (100, [some (.ref 2), some (.int l1), some (.int l1)], [], cH c (rF s1 27 ((s1.1 27) + 1)))) rfl ?_
        exact H
    · replace H := H.2 (h)
      refine ev_ex 3 (c' := (44, [some (.ref 2), some (.int l1), none], [.int l1, .ref 2, .ref 2], cH c s)) rfl ?_
      obtain ⟨H1, H⟩ := H
      refine rq_I (idx := 270) (V := s.2.1 1 (ix (6 + l1))) (S := s) rfl rfl rfl (Nat.le_of_ble_eq_true rfl) (Nat.le_of_ble_eq_true rfl) rfl (zq_R_mocked H1 ⟨rfl, rfl⟩) ?_
      refine rc_I (idx := 392) rfl rfl rfl (Nat.le_of_ble_eq_true rfl) (Nat.le_of_ble_eq_true rfl) rfl H (fun v3 s2 H => ?_)
      refine ev_ex 1 (c' := (51, [some (.ref 2), some (.int l1), none], [.int l1, .int v3], cH c s2)) rfl ?_
      refine ev_icmp_ne (tgt := 57) rfl rfl (fun h => ?_) (fun h => ?_)
      · replace H := H.1 (h)
        refine ev_ex 8 (c' := (69, [some (.ref 2), some (.int l1), none], [.int l1, .ref 2], cH c (rF s2 28 ((s2.1 28) + 1)))) rfl ?_
        obtain ⟨H1, H⟩ := H
        refine rq_I (idx := 270) (V := s2.2.1 1 (ix (6 + l1))) (S := rF s2 28 ((s2.1 28) + 1)) rfl rfl rfl (Nat.le_of_ble_eq_true rfl) (Nat.le_of_ble_eq_true rfl) rfl (zq_R_mocked H1 ⟨rfl, rfl⟩) ?_
        refine ev_ex 1 (c' := (73, [some (.ref 2), some (.int l1), none], [.int ((-1)), .int (s2.2.1 1 (ix (6 + l1)))], cH c (rF s2 28 ((s2.1 28) + 1)))) rfl ?_
        refine ev_icmp_eq (tgt := 98) rfl rfl (fun h => ?_) (fun h => ?_)
        · replace H := H.1 (h)
          refine ev_ex 2 (c' := (100, [some (.ref 2), some (.int l1), some (.int l1)], [], cH c (rF s2 28 ((s2.1 28) + 1)))) rfl ?_
          exact H
        · replace H := H.2 (h)
          refine ev_ex 4 (c' := (81, [some (.ref 2), some (.int l1), none], [.int l1, .ref 2, .int 100, .ref 2], cH c (rF s2 28 ((s2.1 28) + 1)))) rfl ?_
          obtain ⟨H1, H⟩ := H
          refine rq_I (idx := 270) (V := s2.2.1 1 (ix (6 + l1))) (S := rF s2 28 ((s2.1 28) + 1)) rfl rfl rfl (Nat.le_of_ble_eq_true rfl) (Nat.le_of_ble_eq_true rfl) rfl (zq_R_mocked H1 ⟨rfl, rfl⟩) ?_
          refine ev_ex 1 (c' := (85, [some (.ref 2), some (.int l1), none], [.int (100 + (s2.2.1 1 (ix (6 + l1)))), .ref 2], cH c (rF s2 28 ((s2.1 28) + 1)))) rfl ?_
          refine rc_V (idx := 395) rfl rfl rfl (Nat.le_of_ble_eq_true rfl) (Nat.le_of_ble_eq_true rfl) rfl H (fun s4 H => ?_)
          refine ev_ex 8 (c' := (100, [some (.ref 2), some (.int l1), some (.int l1)], [], cH c (rF s4 27 ((s4.1 27) + 1)))) rfl ?_
          exact H
      · replace H := H.2 (h)
        refine ev_ex 3 (c' := (24, [some (.ref 2), some (.int (l1 + 1)), none], [], cH c s2)) rfl ?_
        exact H
set_option maxRecDepth 8000 in
theorem w_R_laysRow_100 {c : CX} {d : Nat} {s : RS} {Q : RS → Prop} (l1 : Int32) (l2 : Int32) (H : ((l2 = ((-1)) → eR c (d + 1) m_R_laysRow 24 [some (.ref 2), some (.int (l1 + 1)), none] s (pV c Q)) ∧ (¬ l2 = ((-1)) → (okx l2 10 ∧ RV c d m_R_walksOn [.ref 2, .int l2] (rA s 11 (ix l2) (s.1 26)) (fun s1 => RI c d m_R_behind [.ref 2, .int l2] s1 (fun v3 s2 => eR c (d + 1) m_R_laysRow 100 [some (.ref 2), some (.int l1), some (.int v3)] s2 (pV c Q))))))) : eR c (d + 1) m_R_laysRow 100 [some (.ref 2), some (.int l1), some (.int l2)] s (pV c Q) := by
  unfold eR
  refine ev_ex 0 (c' := (100, [some (.ref 2), some (.int l1), some (.int l2)], [], cH c s)) rfl ?_
  refine ev_ex 2 (c' := (102, [some (.ref 2), some (.int l1), some (.int l2)], [.int ((-1)), .int l2], cH c s)) rfl ?_
  refine ev_icmp_eq (tgt := 129) rfl rfl (fun h => ?_) (fun h => ?_)
  · replace H := H.1 (h)
    refine ev_ex 2 (c' := (24, [some (.ref 2), some (.int (l1 + 1)), some (.int l2)], [], cH c s)) rfl ?_
    exact ev_less (lle_of (L := [some (.ref 2), some (.int (l1 + 1)), none]) ⟨rfl, ⟨rfl, trivial⟩⟩) H
  · replace H := H.2 (h)
    refine ev_ex 5 (c' := (114, [some (.ref 2), some (.int l1), some (.int l2)], [.int (s.1 26), .int l2, .ref 46], cH c s)) rfl ?_
    obtain ⟨H0, H⟩ := H
    refine ev_ast (i := .iastore) rfl (Or.inl rfl) rfl H0 (by decide) rfl rfl (σ' := cH c (rA s 11 (ix l2) (s.1 26))) rfl ?_
    refine ev_ex 2 (c' := (117, [some (.ref 2), some (.int l1), some (.int l2)], [.int l2, .ref 2], cH c (rA s 11 (ix l2) (s.1 26)))) rfl ?_
    refine rc_V (idx := 395) rfl rfl rfl (Nat.le_of_ble_eq_true rfl) (Nat.le_of_ble_eq_true rfl) rfl H (fun s1 H => ?_)
    refine ev_ex 2 (c' := (122, [some (.ref 2), some (.int l1), some (.int l2)], [.int l2, .ref 2], cH c s1)) rfl ?_
    refine rc_I (idx := 392) rfl rfl rfl (Nat.le_of_ble_eq_true rfl) (Nat.le_of_ble_eq_true rfl) rfl H (fun v3 s2 H => ?_)
    refine ev_ex 2 (c' := (100, [some (.ref 2), some (.int l1), some (.int v3)], [], cH c s2)) rfl ?_
    exact H
set_option maxRecDepth 8000 in
theorem w_R_putsBack {c : CX} {d : Nat} {s : RS} {Q : RS → Prop}  (H : eR c (d) m_R_putsBack 2 [some (.ref 2), some (.int 0)] s (pV c Q)) : RV c (d) m_R_putsBack [.ref 2] s Q := by
  refine ⟨q_R_putsBack, rfl, Nat.le_of_ble_eq_true rfl, ?_⟩
  refine ev_ex 0 (c' := (0, [some (.ref 2), none], [], cH c s)) rfl ?_
  refine ev_ex 2 (c' := (2, [some (.ref 2), some (.int 0)], [], cH c s)) rfl ?_
  exact H
set_option maxRecDepth 8000 in
theorem w_R_putsBack_2 {c : CX} {d : Nat} {s : RS} {Q : RS → Prop} (l1 : Int32) (H : ((21 ≤ l1 → Q s) ∧ (¬ 21 ≤ l1 → (okx l1 21 ∧ (okx (6 + l1) 2101 ∧ eR c (d) m_R_putsBack 2 [some (.ref 2), some (.int (l1 + 1))] (rA s 1 (ix (6 + l1)) (s.2.1 8 (ix l1))) (pV c Q)))))) : eR c (d) m_R_putsBack 2 [some (.ref 2), some (.int l1)] s (pV c Q) := by
  unfold eR
  refine ev_ex 0 (c' := (2, [some (.ref 2), some (.int l1)], [], cH c s)) rfl ?_
  refine ev_ex 2 (c' := (5, [some (.ref 2), some (.int l1)], [.int 21, .int l1], cH c s)) rfl ?_
  refine ev_icmp_ge (tgt := 29) rfl rfl (fun h => ?_) (fun h => ?_)
  · replace H := H.1 (h)
    exact ev_ret rfl rfl rfl ⟨_, rfl, rfl, H⟩
  · replace H := H.2 (h)
    refine ev_ex 8 (c' := (21, [some (.ref 2), some (.int l1)], [.int l1, .ref 34, .int (6 + l1), .ref 6], cH c s)) rfl ?_
    obtain ⟨H0, H⟩ := H
    refine ev_ald (i := .iaload) rfl (Or.inl rfl) rfl H0 (v := .int (s.2.1 8 (ix l1))) rfl ?_
    obtain ⟨H0, H⟩ := H
    refine ev_ast (i := .iastore) rfl (Or.inl rfl) rfl H0 (by decide) rfl rfl (σ' := cH c (rA s 1 (ix (6 + l1)) (s.2.1 8 (ix l1)))) rfl ?_
    refine ev_ex 2 (c' := (2, [some (.ref 2), some (.int (l1 + 1))], [], cH c (rA s 1 (ix (6 + l1)) (s.2.1 8 (ix l1))))) rfl ?_
    exact H
set_option maxRecDepth 8000 in
theorem w_R_draw {c : CX} {d : Nat} {s : RS} {Q : Int32 → RS → Prop} (a0 : Int32) (H : (¬ a0 = 0 ∧ Q (((((1103515245 * (s.1 22)) + 12345).toUInt32 >>> ((16 : Int32).toUInt32 &&& Int32.toUInt32 31)).toInt32) - ((((1103515245 * (s.1 22)) + 12345).toUInt32 >>> ((16 : Int32).toUInt32 &&& Int32.toUInt32 31)).toInt32) / a0 * a0) (rF s 22 ((1103515245 * (s.1 22)) + 12345)))) : RI c (d) m_R_draw [.ref 2, .int a0] s Q := by
  refine ⟨q_R_draw, rfl, Nat.le_of_ble_eq_true rfl, ?_⟩
  refine ev_ex 0 (c' := (0, [some (.ref 2), some (.int a0)], [], cH c s)) rfl ?_
  refine ev_ex 13 (c' := (24, [some (.ref 2), some (.int a0)], [.int a0, .int ((((1103515245 * (s.1 22)) + 12345).toUInt32 >>> ((16 : Int32).toUInt32 &&& Int32.toUInt32 31)).toInt32)], cH c (rF s 22 ((1103515245 * (s.1 22)) + 12345)))) rfl ?_
  obtain ⟨H0, H⟩ := H
  refine ev_irem rfl H0 ?_
  exact ev_ret rfl rfl rfl ⟨_, _, rfl, rfl, H⟩
set_option maxRecDepth 8000 in
theorem w_R_ringOf {c : CX} {d : Nat} {s : RS} {Q : Int32 → RS → Prop} (a0 : Int32) (H : eR c (d + 1) m_R_ringOf 4 [some (.ref 2), some (.int a0), some (.int 0), some (.int a0)] s (pI c Q)) : RI c (d + 1) m_R_ringOf [.ref 2, .int a0] s Q := by
  refine ⟨q_R_ringOf, rfl, Nat.le_of_ble_eq_true rfl, ?_⟩
  refine ev_ex 0 (c' := (0, [some (.ref 2), some (.int a0), none, none], [], cH c s)) rfl ?_
  refine ev_ex 4 (c' := (4, [some (.ref 2), some (.int a0), some (.int 0), some (.int a0)], [], cH c s)) rfl ?_
  exact H
set_option maxRecDepth 8000 in
theorem w_R_ringOf_4 {c : CX} {d : Nat} {s : RS} {Q : Int32 → RS → Prop} (l1 : Int32) (l2 : Int32) (l3 : Int32) (H : ((l3 = ((-1)) → ((¬ l3 = l1 → Q 0 s) ∧ (l3 = l1 → Q l2 s))) ∧ (¬ l3 = ((-1)) → (((hs l2 l3) = true → ((¬ l3 = l1 → Q 0 s) ∧ (l3 = l1 → Q l2 s))) ∧ ((hs l2 l3) = false → (okx (6 + l3) 2101 ∧ eR c (d + 1) m_R_ringOf 4 [some (.ref 2), some (.int l1), some (.int (l2 ||| ((1 : Int32) <<< (l3 &&& 31)))), some (.int (s.2.1 1 (ix (6 + l3))))] s (pI c Q))))))) : eR c (d + 1) m_R_ringOf 4 [some (.ref 2), some (.int l1), some (.int l2), some (.int l3)] s (pI c Q) := by
  unfold eR
  refine ev_ex 0 (c' := (4, [some (.ref 2), some (.int l1), some (.int l2), some (.int l3)], [], cH c s)) rfl ?_
  refine ev_ex 2 (c' := (6, [some (.ref 2), some (.int l1), some (.int l2), some (.int l3)], [.int ((-1)), .int l3], cH c s)) rfl ?_
  refine ev_icmp_eq (tgt := 32) rfl rfl (fun h => ?_) (fun h => ?_)
  · replace H := H.1 (h)
    refine ev_ex 2 (c' := (34, [some (.ref 2), some (.int l1), some (.int l2), some (.int l3)], [.int l1, .int l3], cH c s)) rfl ?_
    refine ev_icmp_ne (tgt := 41) rfl rfl (fun h => ?_) (fun h => ?_)
    · replace H := H.1 (h)
      refine ev_ex 1 (c' := (42, [some (.ref 2), some (.int l1), some (.int l2), some (.int l3)], [.int 0], cH c s)) rfl ?_
      exact ev_ret rfl rfl rfl ⟨_, _, rfl, rfl, H⟩
    · replace H := H.2 (h)
      refine ev_ex 2 (c' := (42, [some (.ref 2), some (.int l1), some (.int l2), some (.int l3)], [.int l2], cH c s)) rfl ?_
      exact ev_ret rfl rfl rfl ⟨_, _, rfl, rfl, H⟩
  · replace H := H.2 (h)
    refine ev_ex 2 (c' := (11, [some (.ref 2), some (.int l1), some (.int l2), some (.int l3)], [.int l3, .int l2], cH c s)) rfl ?_
    refine rq_B (idx := 74) (V := hs l2 l3) (S := s) rfl rfl rfl (Nat.le_of_ble_eq_true rfl) (Nat.le_of_ble_eq_true rfl) rfl (zq_R_has ⟨rfl, rfl⟩) ?_
    refine ev_if_neB (x := (hs l2 l3)) (tgt := 32) rfl rfl (fun h => ?_) (fun h => ?_)
    · replace H := H.1 (h)
      refine ev_ex 2 (c' := (34, [some (.ref 2), some (.int l1), some (.int l2), some (.int l3)], [.int l1, .int l3], cH c s)) rfl ?_
      refine ev_icmp_ne (tgt := 41) rfl rfl (fun h => ?_) (fun h => ?_)
      · replace H := H.1 (h)
        refine ev_ex 1 (c' := (42, [some (.ref 2), some (.int l1), some (.int l2), some (.int l3)], [.int 0], cH c s)) rfl ?_
        exact ev_ret rfl rfl rfl ⟨_, _, rfl, rfl, H⟩
      · replace H := H.2 (h)
        refine ev_ex 2 (c' := (42, [some (.ref 2), some (.int l1), some (.int l2), some (.int l3)], [.int l2], cH c s)) rfl ?_
        exact ev_ret rfl rfl rfl ⟨_, _, rfl, rfl, H⟩
    · replace H := H.2 (h)
      refine ev_ex 8 (c' := (25, [some (.ref 2), some (.int l1), some (.int (l2 ||| ((1 : Int32) <<< (l3 &&& 31)))), some (.int l3)], [.int l3, .ref 2], cH c s)) rfl ?_
      obtain ⟨H1, H⟩ := H
      refine rq_I (idx := 270) (V := s.2.1 1 (ix (6 + l3))) (S := s) rfl rfl rfl (Nat.le_of_ble_eq_true rfl) (Nat.le_of_ble_eq_true rfl) rfl (zq_R_mocked H1 ⟨rfl, rfl⟩) ?_
      refine ev_ex 2 (c' := (4, [some (.ref 2), some (.int l1), some (.int (l2 ||| ((1 : Int32) <<< (l3 &&& 31)))), some (.int (s.2.1 1 (ix (6 + l3))))], [], cH c s)) rfl ?_
      exact H
set_option maxRecDepth 8000 in
theorem w_R_isShut {c : CX} {d : Nat} {s : RS} {Q : Bool → RS → Prop} (a0 : Int32) (H : eR c (d + 1) m_R_isShut 2 [some (.ref 2), some (.int a0), some (.int 0)] s (pB c Q)) : RB c (d + 1) m_R_isShut [.ref 2, .int a0] s Q := by
  refine ⟨q_R_isShut, rfl, Nat.le_of_ble_eq_true rfl, ?_⟩
  refine ev_ex 0 (c' := (0, [some (.ref 2), some (.int a0), none], [], cH c s)) rfl ?_
  refine ev_ex 2 (c' := (2, [some (.ref 2), some (.int a0), some (.int 0)], [], cH c s)) rfl ?_
  exact H
set_option maxRecDepth 8000 in
theorem w_R_isShut_2 {c : CX} {d : Nat} {s : RS} {Q : Bool → RS → Prop} (l1 : Int32) (l2 : Int32) (H : (((s.2.1 1 1) ≤ l2 → Q true s) ∧ (¬ (s.2.1 1 1) ≤ l2 → (((hs l1 l2) = false → eR c (d + 1) m_R_isShut 2 [some (.ref 2), some (.int l1), some (.int (l2 + 1))] s (pB c Q)) ∧ ((hs l1 l2) = true → RI c d m_R_mockers [.ref 2, .int l2] s (fun v2 s1 => RI c d m_R_size [.int v2] s1 (fun v4 s3 => ((v4 = 1 → eR c (d + 1) m_R_isShut 2 [some (.ref 2), some (.int l1), some (.int (l2 + 1))] s3 (pB c Q)) ∧ (¬ v4 = 1 → Q false s3))))))))) : eR c (d + 1) m_R_isShut 2 [some (.ref 2), some (.int l1), some (.int l2)] s (pB c Q) := by
  unfold eR
  refine ev_ex 0 (c' := (2, [some (.ref 2), some (.int l1), some (.int l2)], [], cH c s)) rfl ?_
  refine ev_ex 2 (c' := (4, [some (.ref 2), some (.int l1), some (.int l2)], [.ref 2, .int l2], cH c s)) rfl ?_
  refine rq_I (idx := 267) (V := s.2.1 1 1) (S := s) rfl rfl rfl (Nat.le_of_ble_eq_true rfl) (Nat.le_of_ble_eq_true rfl) rfl (zq_R_guilds ⟨rfl, rfl⟩) ?_
  refine ev_icmp_ge (tgt := 38) rfl rfl (fun h => ?_) (fun h => ?_)
  · replace H := H.1 (h)
    refine ev_ex 1 (c' := (39, [some (.ref 2), some (.int l1), some (.int l2)], [.int 1], cH c s)) rfl ?_
    exact ev_retB (x := true) rfl rfl ⟨_, _, rfl, rfl, H⟩
  · replace H := H.2 (h)
    refine ev_ex 2 (c' := (12, [some (.ref 2), some (.int l1), some (.int l2)], [.int l2, .int l1], cH c s)) rfl ?_
    refine rq_B (idx := 74) (V := hs l1 l2) (S := s) rfl rfl rfl (Nat.le_of_ble_eq_true rfl) (Nat.le_of_ble_eq_true rfl) rfl (zq_R_has ⟨rfl, rfl⟩) ?_
    refine ev_if_eqB (x := (hs l1 l2)) (tgt := 32) rfl rfl (fun h => ?_) (fun h => ?_)
    · replace H := H.1 (h)
      refine ev_ex 2 (c' := (2, [some (.ref 2), some (.int l1), some (.int (l2 + 1))], [], cH c s)) rfl ?_
      exact H
    · replace H := H.2 (h)
      refine ev_ex 2 (c' := (20, [some (.ref 2), some (.int l1), some (.int l2)], [.int l2, .ref 2], cH c s)) rfl ?_
      refine rc_I (idx := 290) rfl rfl rfl (Nat.le_of_ble_eq_true rfl) (Nat.le_of_ble_eq_true rfl) rfl H (fun v2 s1 H => ?_)
      refine rc_I (idx := 293) rfl rfl rfl (Nat.le_of_ble_eq_true rfl) (Nat.le_of_ble_eq_true rfl) rfl H (fun v4 s3 H => ?_)
      refine ev_ex 1 (c' := (27, [some (.ref 2), some (.int l1), some (.int l2)], [.int 1, .int v4], cH c s3)) rfl ?_
      refine ev_icmp_eq (tgt := 32) rfl rfl (fun h => ?_) (fun h => ?_)
      · replace H := H.1 (h)
        refine ev_ex 2 (c' := (2, [some (.ref 2), some (.int l1), some (.int (l2 + 1))], [], cH c s3)) rfl ?_
        exact H
      · replace H := H.2 (h)
        refine ev_ex 1 (c' := (31, [some (.ref 2), some (.int l1), some (.int l2)], [.int 0], cH c s3)) rfl ?_
        exact ev_retB (x := false) rfl rfl ⟨_, _, rfl, rfl, H⟩
set_option maxRecDepth 8000 in
theorem w_R_fewestOf {c : CX} {d : Nat} {s : RS} {Q : Int32 → RS → Prop} (a0 : Bool) (H : eR c (d + 1) m_R_fewestOf 4 [some (.ref 2), some (.int (bI a0)), some (.int ((-1))), some (.int 0)] s (pI c Q)) : RI c (d + 1) m_R_fewestOf [.ref 2, .int (bI a0)] s Q := by
  refine ⟨q_R_fewestOf, rfl, Nat.le_of_ble_eq_true rfl, ?_⟩
  refine ev_ex 0 (c' := (0, [some (.ref 2), some (.int (bI a0)), none, none], [], cH c s)) rfl ?_
  refine ev_ex 4 (c' := (4, [some (.ref 2), some (.int (bI a0)), some (.int ((-1))), some (.int 0)], [], cH c s)) rfl ?_
  exact H
set_option maxRecDepth 8000 in
theorem w_R_fewestOf_4 {c : CX} {d : Nat} {s : RS} {Q : Int32 → RS → Prop} (l1 : Bool) (l2 : Int32) (l3 : Int32) (H : ((((1 : Int32) <<< ((s.2.1 1 1) &&& 31)) ≤ l3 → Q l2 s) ∧ (¬ ((1 : Int32) <<< ((s.2.1 1 1) &&& 31)) ≤ l3 → ((l2 = ((-1)) → ((l1 = false → RB c d m_R_areOpen [.ref 2, .int l3] s (fun v2 s1 => ((v2 = false → eR c (d + 1) m_R_fewestOf 4 [some (.ref 2), some (.int (bI l1)), some (.int l2), some (.int (l3 + 1))] s1 (pI c Q)) ∧ (v2 = true → eR c (d + 1) m_R_fewestOf 4 [some (.ref 2), some (.int (bI l1)), some (.int l3), some (.int (l3 + 1))] s1 (pI c Q))))) ∧ (l1 = true → RB c d m_R_mayWalk [.ref 2, .int l3] s (fun v4 s3 => ((v4 = false → eR c (d + 1) m_R_fewestOf 4 [some (.ref 2), some (.int (bI l1)), some (.int l2), some (.int (l3 + 1))] s3 (pI c Q)) ∧ (v4 = true → eR c (d + 1) m_R_fewestOf 4 [some (.ref 2), some (.int (bI l1)), some (.int l3), some (.int (l3 + 1))] s3 (pI c Q))))))) ∧ (¬ l2 = ((-1)) → RI c d m_R_size [.int l3] s (fun v6 s5 => RI c d m_R_size [.int l2] s5 (fun v8 s7 => ((v8 ≤ v6 → eR c (d + 1) m_R_fewestOf 4 [some (.ref 2), some (.int (bI l1)), some (.int l2), some (.int (l3 + 1))] s7 (pI c Q)) ∧ (¬ v8 ≤ v6 → ((l1 = false → RB c d m_R_areOpen [.ref 2, .int l3] s7 (fun v10 s9 => ((v10 = false → eR c (d + 1) m_R_fewestOf 4 [some (.ref 2), some (.int (bI l1)), some (.int l2), some (.int (l3 + 1))] s9 (pI c Q)) ∧ (v10 = true → eR c (d + 1) m_R_fewestOf 4 [some (.ref 2), some (.int (bI l1)), some (.int l3), some (.int (l3 + 1))] s9 (pI c Q))))) ∧ (l1 = true → RB c d m_R_mayWalk [.ref 2, .int l3] s7 (fun v12 s11 => ((v12 = false → eR c (d + 1) m_R_fewestOf 4 [some (.ref 2), some (.int (bI l1)), some (.int l2), some (.int (l3 + 1))] s11 (pI c Q)) ∧ (v12 = true → eR c (d + 1) m_R_fewestOf 4 [some (.ref 2), some (.int (bI l1)), some (.int l3), some (.int (l3 + 1))] s11 (pI c Q))))))))))))))) : eR c (d + 1) m_R_fewestOf 4 [some (.ref 2), some (.int (bI l1)), some (.int l2), some (.int l3)] s (pI c Q) := by
  unfold eR
  refine ev_ex 0 (c' := (4, [some (.ref 2), some (.int (bI l1)), some (.int l2), some (.int l3)], [], cH c s)) rfl ?_
  refine ev_ex 3 (c' := (7, [some (.ref 2), some (.int (bI l1)), some (.int l2), some (.int l3)], [.ref 2, .int 1, .int l3], cH c s)) rfl ?_
  refine rq_I (idx := 267) (V := s.2.1 1 1) (S := s) rfl rfl rfl (Nat.le_of_ble_eq_true rfl) (Nat.le_of_ble_eq_true rfl) rfl (zq_R_guilds ⟨rfl, rfl⟩) ?_
  refine ev_ex 1 (c' := (11, [some (.ref 2), some (.int (bI l1)), some (.int l2), some (.int l3)], [.int ((1 : Int32) <<< ((s.2.1 1 1) &&& 31)), .int l3], cH c s)) rfl ?_
  refine ev_icmp_ge (tgt := 61) rfl rfl (fun h => ?_) (fun h => ?_)
  · replace H := H.1 (h)
    refine ev_ex 1 (c' := (62, [some (.ref 2), some (.int (bI l1)), some (.int l2), some (.int l3)], [.int l2], cH c s)) rfl ?_
    exact ev_ret rfl rfl rfl ⟨_, _, rfl, rfl, H⟩
  · replace H := H.2 (h)
    refine ev_ex 2 (c' := (16, [some (.ref 2), some (.int (bI l1)), some (.int l2), some (.int l3)], [.int ((-1)), .int l2], cH c s)) rfl ?_
    refine ev_icmp_eq (tgt := 30) rfl rfl (fun h => ?_) (fun h => ?_)
    · replace H := H.1 (h)
      refine ev_ex 1 (c' := (31, [some (.ref 2), some (.int (bI l1)), some (.int l2), some (.int l3)], [.int (bI l1)], cH c s)) rfl ?_
      refine ev_if_eqB (x := l1) (tgt := 45) rfl rfl (fun h => ?_) (fun h => ?_)
      · replace H := H.1 (h)
        refine ev_ex 2 (c' := (47, [some (.ref 2), some (.int (bI l1)), some (.int l2), some (.int l3)], [.int l3, .ref 2], cH c s)) rfl ?_
        refine rc_B (idx := 398) rfl rfl rfl (Nat.le_of_ble_eq_true rfl) (Nat.le_of_ble_eq_true rfl) rfl H (fun v2 s1 H => ?_)
        refine ev_if_eqB (x := v2) (tgt := 55) rfl rfl (fun h => ?_) (fun h => ?_)
        · replace H := H.1 (h)
          refine ev_ex 2 (c' := (4, [some (.ref 2), some (.int (bI l1)), some (.int l2), some (.int (l3 + 1))], [], cH c s1)) rfl ?_
          exact H
        · replace H := H.2 (h)
          refine ev_ex 4 (c' := (4, [some (.ref 2), some (.int (bI l1)), some (.int l3), some (.int (l3 + 1))], [], cH c s1)) rfl ?_
          exact H
      · replace H := H.2 (h)
        refine ev_ex 2 (c' := (36, [some (.ref 2), some (.int (bI l1)), some (.int l2), some (.int l3)], [.int l3, .ref 2], cH c s)) rfl ?_
        refine rc_B (idx := 401) rfl rfl rfl (Nat.le_of_ble_eq_true rfl) (Nat.le_of_ble_eq_true rfl) rfl H (fun v4 s3 H => ?_)
        refine ev_if_eqB (x := v4) (tgt := 55) rfl rfl (fun h => ?_) (fun h => ?_)
        · replace H := H.1 (h)
          refine ev_ex 2 (c' := (4, [some (.ref 2), some (.int (bI l1)), some (.int l2), some (.int (l3 + 1))], [], cH c s3)) rfl ?_
          exact H
        · replace H := H.2 (h)
          refine ev_ex 5 (c' := (4, [some (.ref 2), some (.int (bI l1)), some (.int l3), some (.int (l3 + 1))], [], cH c s3)) rfl ?_
          exact H
    · replace H := H.2 (h)
      refine ev_ex 1 (c' := (20, [some (.ref 2), some (.int (bI l1)), some (.int l2), some (.int l3)], [.int l3], cH c s)) rfl ?_
      refine rc_I (idx := 293) rfl rfl rfl (Nat.le_of_ble_eq_true rfl) (Nat.le_of_ble_eq_true rfl) rfl H (fun v6 s5 H => ?_)
      refine ev_ex 1 (c' := (24, [some (.ref 2), some (.int (bI l1)), some (.int l2), some (.int l3)], [.int l2, .int v6], cH c s5)) rfl ?_
      refine rc_I (idx := 293) rfl rfl rfl (Nat.le_of_ble_eq_true rfl) (Nat.le_of_ble_eq_true rfl) rfl H (fun v8 s7 H => ?_)
      refine ev_icmp_ge (tgt := 55) rfl rfl (fun h => ?_) (fun h => ?_)
      · replace H := H.1 (h)
        refine ev_ex 2 (c' := (4, [some (.ref 2), some (.int (bI l1)), some (.int l2), some (.int (l3 + 1))], [], cH c s7)) rfl ?_
        exact H
      · replace H := H.2 (h)
        refine ev_ex 1 (c' := (31, [some (.ref 2), some (.int (bI l1)), some (.int l2), some (.int l3)], [.int (bI l1)], cH c s7)) rfl ?_
        refine ev_if_eqB (x := l1) (tgt := 45) rfl rfl (fun h => ?_) (fun h => ?_)
        · replace H := H.1 (h)
          refine ev_ex 2 (c' := (47, [some (.ref 2), some (.int (bI l1)), some (.int l2), some (.int l3)], [.int l3, .ref 2], cH c s7)) rfl ?_
          refine rc_B (idx := 398) rfl rfl rfl (Nat.le_of_ble_eq_true rfl) (Nat.le_of_ble_eq_true rfl) rfl H (fun v10 s9 H => ?_)
          refine ev_if_eqB (x := v10) (tgt := 55) rfl rfl (fun h => ?_) (fun h => ?_)
          · replace H := H.1 (h)
            refine ev_ex 2 (c' := (4, [some (.ref 2), some (.int (bI l1)), some (.int l2), some (.int (l3 + 1))], [], cH c s9)) rfl ?_
            exact H
          · replace H := H.2 (h)
            refine ev_ex 4 (c' := (4, [some (.ref 2), some (.int (bI l1)), some (.int l3), some (.int (l3 + 1))], [], cH c s9)) rfl ?_
            exact H
        · replace H := H.2 (h)
          refine ev_ex 2 (c' := (36, [some (.ref 2), some (.int (bI l1)), some (.int l2), some (.int l3)], [.int l3, .ref 2], cH c s7)) rfl ?_
          refine rc_B (idx := 401) rfl rfl rfl (Nat.le_of_ble_eq_true rfl) (Nat.le_of_ble_eq_true rfl) rfl H (fun v12 s11 H => ?_)
          refine ev_if_eqB (x := v12) (tgt := 55) rfl rfl (fun h => ?_) (fun h => ?_)
          · replace H := H.1 (h)
            refine ev_ex 2 (c' := (4, [some (.ref 2), some (.int (bI l1)), some (.int l2), some (.int (l3 + 1))], [], cH c s11)) rfl ?_
            exact H
          · replace H := H.2 (h)
            refine ev_ex 5 (c' := (4, [some (.ref 2), some (.int (bI l1)), some (.int l3), some (.int (l3 + 1))], [], cH c s11)) rfl ?_
            exact H
set_option maxRecDepth 8000 in
theorem w_R_chainAt {c : CX} {d : Nat} {s : RS} {Q : Int32 → RS → Prop} (a0 : Int32) (H : eR c (d + 1) m_R_chainAt 2 [some (.ref 2), some (.int a0), some (.int a0), none] s (pI c Q)) : RI c (d + 1) m_R_chainAt [.ref 2, .int a0] s Q := by
  refine ⟨q_R_chainAt, rfl, Nat.le_of_ble_eq_true rfl, ?_⟩
  refine ev_ex 0 (c' := (0, [some (.ref 2), some (.int a0), none, none], [], cH c s)) rfl ?_
  refine ev_ex 2 (c' := (2, [some (.ref 2), some (.int a0), some (.int a0), none], [], cH c s)) rfl ?_
  exact H
set_option maxRecDepth 8000 in
theorem w_R_chainAt_2 {c : CX} {d : Nat} {s : RS} {Q : Int32 → RS → Prop} (l1 : Int32) (l2 : Int32) (H : RB c d m_R_goesOn [.ref 2, .int l2] s (fun v2 s1 => ((v2 = false → eR c (d + 1) m_R_chainAt 18 [some (.ref 2), some (.int l1), some (.int l2), some (.int 1)] s1 (pI c Q)) ∧ (v2 = true → eR c (d + 1) m_R_chainAt 2 [some (.ref 2), some (.int l1), some (.int (l2 + (-1))), none] s1 (pI c Q))))) : eR c (d + 1) m_R_chainAt 2 [some (.ref 2), some (.int l1), some (.int l2), none] s (pI c Q) := by
  unfold eR
  refine ev_ex 0 (c' := (2, [some (.ref 2), some (.int l1), some (.int l2), none], [], cH c s)) rfl ?_
  refine ev_ex 2 (c' := (4, [some (.ref 2), some (.int l1), some (.int l2), none], [.int l2, .ref 2], cH c s)) rfl ?_
  refine rc_B (idx := 408) rfl rfl rfl (Nat.le_of_ble_eq_true rfl) (Nat.le_of_ble_eq_true rfl) rfl H (fun v2 s1 H => ?_)
  refine ev_if_eqB (x := v2) (tgt := 16) rfl rfl (fun h => ?_) (fun h => ?_)
  · replace H := H.1 (h)
    refine ev_ex 2 (c' := (18, [some (.ref 2), some (.int l1), some (.int l2), some (.int 1)], [], cH c s1)) rfl ?_
    exact H
  · replace H := H.2 (h)
    refine ev_ex 2 (c' := (2, [some (.ref 2), some (.int l1), some (.int (l2 + (-1))), none], [], cH c s1)) rfl ?_
    exact H
set_option maxRecDepth 8000 in
theorem w_R_chainAt_18 {c : CX} {d : Nat} {s : RS} {Q : Int32 → RS → Prop} (l1 : Int32) (l2 : Int32) (l3 : Int32) (H : RB c d m_R_goesOn [.ref 2, .int (l2 + l3)] s (fun v2 s1 => ((v2 = false → Q l3 s1) ∧ (v2 = true → eR c (d + 1) m_R_chainAt 18 [some (.ref 2), some (.int l1), some (.int l2), some (.int (l3 + 1))] s1 (pI c Q))))) : eR c (d + 1) m_R_chainAt 18 [some (.ref 2), some (.int l1), some (.int l2), some (.int l3)] s (pI c Q) := by
  unfold eR
  refine ev_ex 0 (c' := (18, [some (.ref 2), some (.int l1), some (.int l2), some (.int l3)], [], cH c s)) rfl ?_
  refine ev_ex 4 (c' := (22, [some (.ref 2), some (.int l1), some (.int l2), some (.int l3)], [.int (l2 + l3), .ref 2], cH c s)) rfl ?_
  refine rc_B (idx := 408) rfl rfl rfl (Nat.le_of_ble_eq_true rfl) (Nat.le_of_ble_eq_true rfl) rfl H (fun v2 s1 H => ?_)
  refine ev_if_eqB (x := v2) (tgt := 34) rfl rfl (fun h => ?_) (fun h => ?_)
  · replace H := H.1 (h)
    refine ev_ex 1 (c' := (35, [some (.ref 2), some (.int l1), some (.int l2), some (.int l3)], [.int l3], cH c s1)) rfl ?_
    exact ev_ret rfl rfl rfl ⟨_, _, rfl, rfl, H⟩
  · replace H := H.2 (h)
    refine ev_ex 2 (c' := (18, [some (.ref 2), some (.int l1), some (.int l2), some (.int (l3 + 1))], [], cH c s1)) rfl ?_
    exact H
set_option maxRecDepth 8000 in
theorem w_R_stepAt {c : CX} {d : Nat} {s : RS} {Q : Int32 → RS → Prop} (a0 : Int32) (a1 : Int32) (H : (okx a0 10 ∧ (okx (s.2.1 11 (ix a0)) 21 ∧ RI c d m_R_steps [.ref 2] s (fun v2 s1 => (((wth ((a1 - (s.2.1 10 (ix (s.2.1 11 (ix a0))))).toInt64) 0 ((v2 - 1).toInt64)) = false → Q ((-1)) s1) ∧ ((wth ((a1 - (s.2.1 10 (ix (s.2.1 11 (ix a0))))).toInt64) 0 ((v2 - 1).toInt64)) = true → Q (a1 - (s.2.1 10 (ix (s.2.1 11 (ix a0))))) s1)))))) : RI c (d + 1) m_R_stepAt [.ref 2, .int a0, .int a1] s Q := by
  refine ⟨q_R_stepAt, rfl, Nat.le_of_ble_eq_true rfl, ?_⟩
  refine ev_ex 0 (c' := (0, [some (.ref 2), some (.int a0), some (.int a1), none], [], cH c s)) rfl ?_
  refine ev_ex 6 (c' := (10, [some (.ref 2), some (.int a0), some (.int a1), none], [.int a0, .ref 46, .ref 42, .int a1], cH c s)) rfl ?_
  obtain ⟨H0, H⟩ := H
  refine ev_ald (i := .iaload) rfl (Or.inl rfl) rfl H0 (v := .int (s.2.1 11 (ix a0))) rfl ?_
  obtain ⟨H0, H⟩ := H
  refine ev_ald (i := .iaload) rfl (Or.inl rfl) rfl H0 (v := .int (s.2.1 10 (ix (s.2.1 11 (ix a0))))) rfl ?_
  refine ev_ex 6 (c' := (18, [some (.ref 2), some (.int a0), some (.int a1), some (.int (a1 - (s.2.1 10 (ix (s.2.1 11 (ix a0))))))], [.ref 2, .long 0, .long ((a1 - (s.2.1 10 (ix (s.2.1 11 (ix a0))))).toInt64)], cH c s)) rfl ?_
  refine rc_I (idx := 418) rfl rfl rfl (Nat.le_of_ble_eq_true rfl) (Nat.le_of_ble_eq_true rfl) rfl H (fun v2 s1 H => ?_)
  refine ev_ex 3 (c' := (24, [some (.ref 2), some (.int a0), some (.int a1), some (.int (a1 - (s.2.1 10 (ix (s.2.1 11 (ix a0))))))], [.long ((v2 - 1).toInt64), .long 0, .long ((a1 - (s.2.1 10 (ix (s.2.1 11 (ix a0))))).toInt64)], cH c s1)) rfl ?_
  refine rq_B (idx := 136) (V := wth ((a1 - (s.2.1 10 (ix (s.2.1 11 (ix a0))))).toInt64) 0 ((v2 - 1).toInt64)) (S := s1) rfl rfl rfl (Nat.le_of_ble_eq_true rfl) (Nat.le_of_ble_eq_true rfl) rfl (zq_R_within ⟨rfl, rfl⟩) ?_
  refine ev_if_eqB (x := (wth ((a1 - (s.2.1 10 (ix (s.2.1 11 (ix a0))))).toInt64) 0 ((v2 - 1).toInt64))) (tgt := 34) rfl rfl (fun h => ?_) (fun h => ?_)
  · replace H := H.1 (h)
    refine ev_ex 1 (c' := (35, [some (.ref 2), some (.int a0), some (.int a1), some (.int (a1 - (s.2.1 10 (ix (s.2.1 11 (ix a0))))))], [.int ((-1))], cH c s1)) rfl ?_
    exact ev_ret rfl rfl rfl ⟨_, _, rfl, rfl, H⟩
  · replace H := H.2 (h)
    refine ev_ex 2 (c' := (35, [some (.ref 2), some (.int a0), some (.int a1), some (.int (a1 - (s.2.1 10 (ix (s.2.1 11 (ix a0))))))], [.int (a1 - (s.2.1 10 (ix (s.2.1 11 (ix a0)))))], cH c s1)) rfl ?_
    exact ev_ret rfl rfl rfl ⟨_, _, rfl, rfl, H⟩
set_option maxRecDepth 8000 in
theorem w_R_lastMinute {c : CX} {d : Nat} {s : RS} {Q : Int32 → RS → Prop}  (H : (okx (s.1 26) 21 ∧ RI c d m_R_steps [.ref 2] s (fun v2 s1 => Q ((s.2.1 10 (ix (s.1 26))) + v2) s1))) : RI c (d + 1) m_R_lastMinute [.ref 2] s Q := by
  refine ⟨q_R_lastMinute, rfl, Nat.le_of_ble_eq_true rfl, ?_⟩
  refine ev_ex 0 (c' := (0, [some (.ref 2)], [], cH c s)) rfl ?_
  refine ev_ex 4 (c' := (8, [some (.ref 2)], [.int (s.1 26), .ref 42], cH c s)) rfl ?_
  obtain ⟨H0, H⟩ := H
  refine ev_ald (i := .iaload) rfl (Or.inl rfl) rfl H0 (v := .int (s.2.1 10 (ix (s.1 26)))) rfl ?_
  refine ev_ex 1 (c' := (10, [some (.ref 2)], [.ref 2, .int (s.2.1 10 (ix (s.1 26)))], cH c s)) rfl ?_
  refine rc_I (idx := 418) rfl rfl rfl (Nat.le_of_ble_eq_true rfl) (Nat.le_of_ble_eq_true rfl) rfl H (fun v2 s1 H => ?_)
  refine ev_ex 1 (c' := (14, [some (.ref 2)], [.int ((s.2.1 10 (ix (s.1 26))) + v2)], cH c s1)) rfl ?_
  exact ev_ret rfl rfl rfl ⟨_, _, rfl, rfl, H⟩
set_option maxRecDepth 8000 in
theorem w_R_areMeeting {c : CX} {d : Nat} {s : RS} {Q : Bool → RS → Prop} (a0 : Int32) (a1 : Int32) (a2 : Int32) (H : RI c d m_R_stepAt [.ref 2, .int a0, .int a2] s (fun v2 s1 => RI c d m_R_stepAt [.ref 2, .int a1, .int a2] s1 (fun v4 s3 => ((v2 = ((-1)) → Q false s3) ∧ (¬ v2 = ((-1)) → ((v4 = ((-1)) → Q false s3) ∧ (¬ v4 = ((-1)) → ((3 ≤ (abI (v2 - v4)) → RI c d m_R_whereOf [.ref 2, .int v2, .int 0] s3 (fun v6 s5 => RI c d m_R_whereOf [.ref 2, .int v4, .int 0] s5 (fun v8 s7 => RI c d m_R_whereOf [.ref 2, .int v2, .int 1] s7 (fun v10 s9 => RI c d m_R_whereOf [.ref 2, .int v4, .int 1] s9 (fun v12 s11 => ((2 ≤ ((abI (v6 - v8)) + (abI (v10 - v12))) → Q false s11) ∧ (¬ 2 ≤ ((abI (v6 - v8)) + (abI (v10 - v12))) → Q true s11))))))) ∧ (¬ 3 ≤ (abI (v2 - v4)) → Q false s3))))))))) : RB c (d + 1) m_R_areMeeting [.ref 2, .int a0, .int a1, .int a2] s Q := by
  refine ⟨q_R_areMeeting, rfl, Nat.le_of_ble_eq_true rfl, ?_⟩
  refine ev_ex 0 (c' := (0, [some (.ref 2), some (.int a0), some (.int a1), some (.int a2), none, none], [], cH c s)) rfl ?_
  refine ev_ex 3 (c' := (3, [some (.ref 2), some (.int a0), some (.int a1), some (.int a2), none, none], [.int a2, .int a0, .ref 2], cH c s)) rfl ?_
  refine rc_I (idx := 424) rfl rfl rfl (Nat.le_of_ble_eq_true rfl) (Nat.le_of_ble_eq_true rfl) rfl H (fun v2 s1 H => ?_)
  refine ev_ex 4 (c' := (11, [some (.ref 2), some (.int a0), some (.int a1), some (.int a2), some (.int v2), none], [.int a2, .int a1, .ref 2], cH c s1)) rfl ?_
  refine rc_I (idx := 424) rfl rfl rfl (Nat.le_of_ble_eq_true rfl) (Nat.le_of_ble_eq_true rfl) rfl H (fun v4 s3 H => ?_)
  refine ev_ex 3 (c' := (19, [some (.ref 2), some (.int a0), some (.int a1), some (.int a2), some (.int v2), some (.int v4)], [.int ((-1)), .int v2], cH c s3)) rfl ?_
  refine ev_icmp_eq (tgt := 40) rfl rfl (fun h => ?_) (fun h => ?_)
  · replace H := H.1 (h)
    refine ev_ex 1 (c' := (41, [some (.ref 2), some (.int a0), some (.int a1), some (.int a2), some (.int v2), some (.int v4)], [.int 0], cH c s3)) rfl ?_
    exact ev_retB (x := false) rfl rfl ⟨_, _, rfl, rfl, H⟩
  · replace H := H.2 (h)
    refine ev_ex 2 (c' := (25, [some (.ref 2), some (.int a0), some (.int a1), some (.int a2), some (.int v2), some (.int v4)], [.int ((-1)), .int v4], cH c s3)) rfl ?_
    refine ev_icmp_eq (tgt := 40) rfl rfl (fun h => ?_) (fun h => ?_)
    · replace H := H.1 (h)
      refine ev_ex 1 (c' := (41, [some (.ref 2), some (.int a0), some (.int a1), some (.int a2), some (.int v2), some (.int v4)], [.int 0], cH c s3)) rfl ?_
      exact ev_retB (x := false) rfl rfl ⟨_, _, rfl, rfl, H⟩
    · replace H := H.2 (h)
      refine ev_ex 3 (c' := (33, [some (.ref 2), some (.int a0), some (.int a1), some (.int a2), some (.int v2), some (.int v4)], [.int (v2 - v4)], cH c s3)) rfl ?_
      refine rq_I (idx := 427) (V := abI (v2 - v4)) (S := s3) rfl rfl rfl (Nat.le_of_ble_eq_true rfl) (Nat.le_of_ble_eq_true rfl) rfl (zq_JM_abs ⟨rfl, rfl⟩) ?_
      refine ev_ex 1 (c' := (37, [some (.ref 2), some (.int a0), some (.int a1), some (.int a2), some (.int v2), some (.int v4)], [.int 3, .int (abI (v2 - v4))], cH c s3)) rfl ?_
      refine ev_icmp_ge (tgt := 42) rfl rfl (fun h => ?_) (fun h => ?_)
      · replace H := H.1 (h)
        refine ev_ex 3 (c' := (46, [some (.ref 2), some (.int a0), some (.int a1), some (.int a2), some (.int v2), some (.int v4)], [.int 0, .int v2, .ref 2], cH c s3)) rfl ?_
        refine rc_I (idx := 421) rfl rfl rfl (Nat.le_of_ble_eq_true rfl) (Nat.le_of_ble_eq_true rfl) rfl H (fun v6 s5 H => ?_)
        refine ev_ex 3 (c' := (53, [some (.ref 2), some (.int a0), some (.int a1), some (.int a2), some (.int v2), some (.int v4)], [.int 0, .int v4, .ref 2, .int v6], cH c s5)) rfl ?_
        refine rc_I (idx := 421) rfl rfl rfl (Nat.le_of_ble_eq_true rfl) (Nat.le_of_ble_eq_true rfl) rfl H (fun v8 s7 H => ?_)
        refine ev_ex 1 (c' := (57, [some (.ref 2), some (.int a0), some (.int a1), some (.int a2), some (.int v2), some (.int v4)], [.int (v6 - v8)], cH c s7)) rfl ?_
        refine rq_I (idx := 427) (V := abI (v6 - v8)) (S := s7) rfl rfl rfl (Nat.le_of_ble_eq_true rfl) (Nat.le_of_ble_eq_true rfl) rfl (zq_JM_abs ⟨rfl, rfl⟩) ?_
        refine ev_ex 3 (c' := (64, [some (.ref 2), some (.int a0), some (.int a1), some (.int a2), some (.int v2), some (.int v4)], [.int 1, .int v2, .ref 2, .int (abI (v6 - v8))], cH c s7)) rfl ?_
        refine rc_I (idx := 421) rfl rfl rfl (Nat.le_of_ble_eq_true rfl) (Nat.le_of_ble_eq_true rfl) rfl H (fun v10 s9 H => ?_)
        refine ev_ex 3 (c' := (71, [some (.ref 2), some (.int a0), some (.int a1), some (.int a2), some (.int v2), some (.int v4)], [.int 1, .int v4, .ref 2, .int v10, .int (abI (v6 - v8))], cH c s9)) rfl ?_
        refine rc_I (idx := 421) rfl rfl rfl (Nat.le_of_ble_eq_true rfl) (Nat.le_of_ble_eq_true rfl) rfl H (fun v12 s11 H => ?_)
        refine ev_ex 1 (c' := (75, [some (.ref 2), some (.int a0), some (.int a1), some (.int a2), some (.int v2), some (.int v4)], [.int (v10 - v12), .int (abI (v6 - v8))], cH c s11)) rfl ?_
        refine rq_I (idx := 427) (V := abI (v10 - v12)) (S := s11) rfl rfl rfl (Nat.le_of_ble_eq_true rfl) (Nat.le_of_ble_eq_true rfl) rfl (zq_JM_abs ⟨rfl, rfl⟩) ?_
        refine ev_ex 2 (c' := (80, [some (.ref 2), some (.int a0), some (.int a1), some (.int a2), some (.int v2), some (.int v4)], [.int 2, .int ((abI (v6 - v8)) + (abI (v10 - v12)))], cH c s11)) rfl ?_
        refine ev_icmp_ge (tgt := 87) rfl rfl (fun h => ?_) (fun h => ?_)
        · replace H := H.1 (h)
          refine ev_ex 1 (c' := (88, [some (.ref 2), some (.int a0), some (.int a1), some (.int a2), some (.int v2), some (.int v4)], [.int 0], cH c s11)) rfl ?_
          exact ev_retB (x := false) rfl rfl ⟨_, _, rfl, rfl, H⟩
        · replace H := H.2 (h)
          refine ev_ex 2 (c' := (88, [some (.ref 2), some (.int a0), some (.int a1), some (.int a2), some (.int v2), some (.int v4)], [.int 1], cH c s11)) rfl ?_
          exact ev_retB (x := true) rfl rfl ⟨_, _, rfl, rfl, H⟩
      · replace H := H.2 (h)
        refine ev_ex 1 (c' := (41, [some (.ref 2), some (.int a0), some (.int a1), some (.int a2), some (.int v2), some (.int v4)], [.int 0], cH c s3)) rfl ?_
        exact ev_retB (x := false) rfl rfl ⟨_, _, rfl, rfl, H⟩
set_option maxRecDepth 8000 in
theorem w_R_anyMeet {c : CX} {d : Nat} {s : RS} {Q : Bool → RS → Prop} (a0 : Int32) (H : eR c (d + 1) m_R_anyMeet 2 [some (.ref 2), some (.int a0), some (.int 0), none] s (pB c Q)) : RB c (d + 1) m_R_anyMeet [.ref 2, .int a0] s Q := by
  refine ⟨q_R_anyMeet, rfl, Nat.le_of_ble_eq_true rfl, ?_⟩
  refine ev_ex 0 (c' := (0, [some (.ref 2), some (.int a0), none, none], [], cH c s)) rfl ?_
  refine ev_ex 2 (c' := (2, [some (.ref 2), some (.int a0), some (.int 0), none], [], cH c s)) rfl ?_
  exact H
set_option maxRecDepth 8000 in
theorem w_R_anyMeet_2 {c : CX} {d : Nat} {s : RS} {Q : Bool → RS → Prop} (l1 : Int32) (l2 : Int32) (H : (((s.2.1 1 1) ≤ l2 → Q false s) ∧ (¬ (s.2.1 1 1) ≤ l2 → eR c (d + 1) m_R_anyMeet 12 [some (.ref 2), some (.int l1), some (.int l2), some (.int 0)] s (pB c Q)))) : eR c (d + 1) m_R_anyMeet 2 [some (.ref 2), some (.int l1), some (.int l2), none] s (pB c Q) := by
  unfold eR
  refine ev_ex 0 (c' := (2, [some (.ref 2), some (.int l1), some (.int l2), none], [], cH c s)) rfl ?_
  refine ev_ex 2 (c' := (4, [some (.ref 2), some (.int l1), some (.int l2), none], [.ref 2, .int l2], cH c s)) rfl ?_
  refine rq_I (idx := 267) (V := s.2.1 1 1) (S := s) rfl rfl rfl (Nat.le_of_ble_eq_true rfl) (Nat.le_of_ble_eq_true rfl) rfl (zq_R_guilds ⟨rfl, rfl⟩) ?_
  refine ev_icmp_ge (tgt := 41) rfl rfl (fun h => ?_) (fun h => ?_)
  · replace H := H.1 (h)
    refine ev_ex 1 (c' := (42, [some (.ref 2), some (.int l1), some (.int l2), none], [.int 0], cH c s)) rfl ?_
    exact ev_retB (x := false) rfl rfl ⟨_, _, rfl, rfl, H⟩
  · replace H := H.2 (h)
    refine ev_ex 2 (c' := (12, [some (.ref 2), some (.int l1), some (.int l2), some (.int 0)], [], cH c s)) rfl ?_
    exact H
set_option maxRecDepth 8000 in
theorem w_R_anyMeet_12 {c : CX} {d : Nat} {s : RS} {Q : Bool → RS → Prop} (l1 : Int32) (l2 : Int32) (l3 : Int32) (H : ((l2 ≤ l3 → eR c (d + 1) m_R_anyMeet 2 [some (.ref 2), some (.int l1), some (.int (l2 + 1)), none] s (pB c Q)) ∧ (¬ l2 ≤ l3 → RB c d m_R_areMeeting [.ref 2, .int l2, .int l3, .int l1] s (fun v2 s1 => ((v2 = false → eR c (d + 1) m_R_anyMeet 12 [some (.ref 2), some (.int l1), some (.int l2), some (.int (l3 + 1))] s1 (pB c Q)) ∧ (v2 = true → Q true s1)))))) : eR c (d + 1) m_R_anyMeet 12 [some (.ref 2), some (.int l1), some (.int l2), some (.int l3)] s (pB c Q) := by
  unfold eR
  refine ev_ex 0 (c' := (12, [some (.ref 2), some (.int l1), some (.int l2), some (.int l3)], [], cH c s)) rfl ?_
  refine ev_ex 2 (c' := (14, [some (.ref 2), some (.int l1), some (.int l2), some (.int l3)], [.int l2, .int l3], cH c s)) rfl ?_
  refine ev_icmp_ge (tgt := 35) rfl rfl (fun h => ?_) (fun h => ?_)
  · replace H := H.1 (h)
    refine ev_ex 2 (c' := (2, [some (.ref 2), some (.int l1), some (.int (l2 + 1)), some (.int l3)], [], cH c s)) rfl ?_
    exact ev_less (lle_of (L := [some (.ref 2), some (.int l1), some (.int (l2 + 1)), none]) ⟨rfl, ⟨rfl, ⟨rfl, trivial⟩⟩⟩) H
  · replace H := H.2 (h)
    refine ev_ex 4 (c' := (21, [some (.ref 2), some (.int l1), some (.int l2), some (.int l3)], [.int l1, .int l3, .int l2, .ref 2], cH c s)) rfl ?_
    refine rc_B (idx := 433) rfl rfl rfl (Nat.le_of_ble_eq_true rfl) (Nat.le_of_ble_eq_true rfl) rfl H (fun v2 s1 H => ?_)
    refine ev_if_eqB (x := v2) (tgt := 29) rfl rfl (fun h => ?_) (fun h => ?_)
    · replace H := H.1 (h)
      refine ev_ex 2 (c' := (12, [some (.ref 2), some (.int l1), some (.int l2), some (.int (l3 + 1))], [], cH c s1)) rfl ?_
      exact H
    · replace H := H.2 (h)
      refine ev_ex 1 (c' := (28, [some (.ref 2), some (.int l1), some (.int l2), some (.int l3)], [.int 1], cH c s1)) rfl ?_
      exact ev_retB (x := true) rfl rfl ⟨_, _, rfl, rfl, H⟩
set_option maxRecDepth 8000 in
theorem w_R_noiseOf {c : CX} {d : Nat} {s : RS} {Q : Int32 → RS → Prop} (a0 : Int32) (a1 : Int32) (H : (okx (37 + a0) 2101 ∧ (okx (47 + a1) 2101 ∧ Q ((s.2.1 1 (ix (37 + a0))) * (s.2.1 1 (ix (47 + a1)))) s))) : RI c (d) m_R_noiseOf [.ref 2, .int a0, .int a1] s Q := by
  refine ⟨q_R_noiseOf, rfl, Nat.le_of_ble_eq_true rfl, ?_⟩
  refine ev_ex 0 (c' := (0, [some (.ref 2), some (.int a0), some (.int a1)], [], cH c s)) rfl ?_
  refine ev_ex 5 (c' := (8, [some (.ref 2), some (.int a0), some (.int a1)], [.int (37 + a0), .ref 6], cH c s)) rfl ?_
  obtain ⟨H0, H⟩ := H
  refine ev_ald (i := .iaload) rfl (Or.inl rfl) rfl H0 (v := .int (s.2.1 1 (ix (37 + a0)))) rfl ?_
  refine ev_ex 5 (c' := (17, [some (.ref 2), some (.int a0), some (.int a1)], [.int (47 + a1), .ref 6, .int (s.2.1 1 (ix (37 + a0)))], cH c s)) rfl ?_
  obtain ⟨H0, H⟩ := H
  refine ev_ald (i := .iaload) rfl (Or.inl rfl) rfl H0 (v := .int (s.2.1 1 (ix (47 + a1)))) rfl ?_
  refine ev_ex 1 (c' := (19, [some (.ref 2), some (.int a0), some (.int a1)], [.int ((s.2.1 1 (ix (37 + a0))) * (s.2.1 1 (ix (47 + a1))))], cH c s)) rfl ?_
  exact ev_ret rfl rfl rfl ⟨_, _, rfl, rfl, H⟩
set_option maxRecDepth 8000 in
theorem w_R_goesOrders {c : CX} {d : Nat} {s : RS} {Q : RS → Prop} (a0 : Int32) (a1 : Int32) (a2 : Int32) (H : (((s.1 32) = 0 → ((¬ a1 = 0 → eR c (d + 1) m_R_goesOrders 63 [some (.ref 2), some (.int a0), some (.int a1), some (.int a2), some (.int 0)] s (pV c Q)) ∧ (a1 = 0 → eR c (d + 1) m_R_goesOrders 33 [some (.ref 2), some (.int a0), some (.int a1), some (.int a2), some (.int 0)] (rF (rF s 32 1) 31 a2) (pV c Q)))) ∧ (¬ (s.1 32) = 0 → ((a2 < (s.1 31) → ((¬ a1 = 0 → eR c (d + 1) m_R_goesOrders 63 [some (.ref 2), some (.int a0), some (.int a1), some (.int a2), some (.int 0)] s (pV c Q)) ∧ (a1 = 0 → eR c (d + 1) m_R_goesOrders 33 [some (.ref 2), some (.int a0), some (.int a1), some (.int a2), some (.int 0)] (rF (rF s 32 1) 31 a2) (pV c Q)))) ∧ (¬ a2 < (s.1 31) → Q s))))) : RV c (d + 1) m_R_goesOrders [.ref 2, .int a0, .int a1, .int a2] s Q := by
  refine ⟨q_R_goesOrders, rfl, Nat.le_of_ble_eq_true rfl, ?_⟩
  refine ev_ex 0 (c' := (0, [some (.ref 2), some (.int a0), some (.int a1), some (.int a2), none], [], cH c s)) rfl ?_
  refine ev_ex 2 (c' := (4, [some (.ref 2), some (.int a0), some (.int a1), some (.int a2), none], [.int (s.1 32)], cH c s)) rfl ?_
  refine ev_if_eq (tgt := 16) rfl rfl (fun h => ?_) (fun h => ?_)
  · replace H := H.1 (h)
    refine ev_ex 1 (c' := (17, [some (.ref 2), some (.int a0), some (.int a1), some (.int a2), none], [.int a1], cH c s)) rfl ?_
    refine ev_if_ne (tgt := 60) rfl rfl (fun h => ?_) (fun h => ?_)
    · replace H := H.1 (h)
      refine ev_ex 2 (c' := (63, [some (.ref 2), some (.int a0), some (.int a1), some (.int a2), some (.int 0)], [], cH c s)) rfl ?_
      exact H
    · replace H := H.2 (h)
      refine ev_ex 8 (c' := (33, [some (.ref 2), some (.int a0), some (.int a1), some (.int a2), some (.int 0)], [], cH c (rF (rF s 32 1) 31 a2))) rfl ?_
      exact H
  · replace H := H.2 (h)
    refine ev_ex 3 (c' := (12, [some (.ref 2), some (.int a0), some (.int a1), some (.int a2), none], [.int (s.1 31), .int a2], cH c s)) rfl ?_
    refine ev_icmp_lt (tgt := 16) rfl rfl (fun h => ?_) (fun h => ?_)
    · replace H := H.1 (h)
      refine ev_ex 1 (c' := (17, [some (.ref 2), some (.int a0), some (.int a1), some (.int a2), none], [.int a1], cH c s)) rfl ?_
      refine ev_if_ne (tgt := 60) rfl rfl (fun h => ?_) (fun h => ?_)
      · replace H := H.1 (h)
        refine ev_ex 2 (c' := (63, [some (.ref 2), some (.int a0), some (.int a1), some (.int a2), some (.int 0)], [], cH c s)) rfl ?_
        exact H
      · replace H := H.2 (h)
        refine ev_ex 8 (c' := (33, [some (.ref 2), some (.int a0), some (.int a1), some (.int a2), some (.int 0)], [], cH c (rF (rF s 32 1) 31 a2))) rfl ?_
        exact H
    · replace H := H.2 (h)
      exact ev_ret rfl rfl rfl ⟨_, rfl, rfl, H⟩
set_option maxRecDepth 8000 in
theorem w_R_goesOrders_63 {c : CX} {d : Nat} {s : RS} {Q : RS → Prop} (l1 : Int32) (l2 : Int32) (l3 : Int32) (l4 : Int32) (H : (((s.2.1 1 1) ≤ l4 → Q s) ∧ (¬ (s.2.1 1 1) ≤ l4 → (((hs l2 l4) = true → (okx l1 8 ∧ ((¬ l1 = 0 → (okx (l1 - 1) 8 ∧ RI c d m_R_noiseOf [.ref 2, .int ((rA s 12 (ix l1) l4).2.1 12 (ix (l1 - 1))), .int l4] (rA s 12 (ix l1) l4) (fun v2 s1 => RV c d m_R_goesOrders [.ref 2, .int (l1 + 1), .int (l2 &&& (((1 : Int32) <<< (l4 &&& 31)) ^^^ ((-1)))), .int (l3 + v2)] s1 (fun s3 => eR c (d + 1) m_R_goesOrders 63 [some (.ref 2), some (.int l1), some (.int l2), some (.int l3), some (.int (l4 + 1))] s3 (pV c Q))))) ∧ (l1 = 0 → RV c d m_R_goesOrders [.ref 2, .int (l1 + 1), .int (l2 &&& (((1 : Int32) <<< (l4 &&& 31)) ^^^ ((-1)))), .int (l3 + 0)] (rA s 12 (ix l1) l4) (fun s4 => eR c (d + 1) m_R_goesOrders 63 [some (.ref 2), some (.int l1), some (.int l2), some (.int l3), some (.int (l4 + 1))] s4 (pV c Q)))))) ∧ ((hs l2 l4) = false → eR c (d + 1) m_R_goesOrders 63 [some (.ref 2), some (.int l1), some (.int l2), some (.int l3), some (.int (l4 + 1))] s (pV c Q)))))) : eR c (d + 1) m_R_goesOrders 63 [some (.ref 2), some (.int l1), some (.int l2), some (.int l3), some (.int l4)] s (pV c Q) := by
  unfold eR
  refine ev_ex 0 (c' := (63, [some (.ref 2), some (.int l1), some (.int l2), some (.int l3), some (.int l4)], [], cH c s)) rfl ?_
  refine ev_ex 2 (c' := (66, [some (.ref 2), some (.int l1), some (.int l2), some (.int l3), some (.int l4)], [.ref 2, .int l4], cH c s)) rfl ?_
  refine rq_I (idx := 267) (V := s.2.1 1 1) (S := s) rfl rfl rfl (Nat.le_of_ble_eq_true rfl) (Nat.le_of_ble_eq_true rfl) rfl (zq_R_guilds ⟨rfl, rfl⟩) ?_
  refine ev_icmp_ge (tgt := 137) rfl rfl (fun h => ?_) (fun h => ?_)
  · replace H := H.1 (h)
    exact ev_ret rfl rfl rfl ⟨_, rfl, rfl, H⟩
  · replace H := H.2 (h)
    refine ev_ex 2 (c' := (75, [some (.ref 2), some (.int l1), some (.int l2), some (.int l3), some (.int l4)], [.int l4, .int l2], cH c s)) rfl ?_
    refine rq_B (idx := 74) (V := hs l2 l4) (S := s) rfl rfl rfl (Nat.le_of_ble_eq_true rfl) (Nat.le_of_ble_eq_true rfl) rfl (zq_R_has ⟨rfl, rfl⟩) ?_
    refine ev_if_neB (x := (hs l2 l4)) (tgt := 84) rfl rfl (fun h => ?_) (fun h => ?_)
    · replace H := H.1 (h)
      refine ev_ex 4 (c' := (91, [some (.ref 2), some (.int l1), some (.int l2), some (.int l3), some (.int l4)], [.int l4, .int l1, .ref 50], cH c s)) rfl ?_
      obtain ⟨H0, H⟩ := H
      refine ev_ast (i := .iastore) rfl (Or.inl rfl) rfl H0 (by decide) rfl rfl (σ' := cH c (rA s 12 (ix l1) l4)) rfl ?_
      refine ev_ex 13 (c' := (106, [some (.ref 2), some (.int l1), some (.int l2), some (.int l3), some (.int l4)], [.int l1, .int l3, .int (l2 &&& (((1 : Int32) <<< (l4 &&& 31)) ^^^ ((-1)))), .int (l1 + 1), .ref 2], cH c (rA s 12 (ix l1) l4))) rfl ?_
      refine ev_if_ne (tgt := 113) rfl rfl (fun h => ?_) (fun h => ?_)
      · replace H := H.1 (h)
        refine ev_ex 6 (c' := (121, [some (.ref 2), some (.int l1), some (.int l2), some (.int l3), some (.int l4)], [.int (l1 - 1), .ref 50, .ref 2, .int l3, .int (l2 &&& (((1 : Int32) <<< (l4 &&& 31)) ^^^ ((-1)))), .int (l1 + 1), .ref 2], cH c (rA s 12 (ix l1) l4))) rfl ?_
        obtain ⟨H0, H⟩ := H
        refine ev_ald (i := .iaload) rfl (Or.inl rfl) rfl H0 (v := .int ((rA s 12 (ix l1) l4).2.1 12 (ix (l1 - 1)))) rfl ?_
        refine ev_ex 1 (c' := (124, [some (.ref 2), some (.int l1), some (.int l2), some (.int l3), some (.int l4)], [.int l4, .int ((rA s 12 (ix l1) l4).2.1 12 (ix (l1 - 1))), .ref 2, .int l3, .int (l2 &&& (((1 : Int32) <<< (l4 &&& 31)) ^^^ ((-1)))), .int (l1 + 1), .ref 2], cH c (rA s 12 (ix l1) l4))) rfl ?_
        refine rc_I (idx := 442) rfl rfl rfl (Nat.le_of_ble_eq_true rfl) (Nat.le_of_ble_eq_true rfl) rfl H (fun v2 s1 H => ?_)
        refine ev_ex 1 (c' := (128, [some (.ref 2), some (.int l1), some (.int l2), some (.int l3), some (.int l4)], [.int (l3 + v2), .int (l2 &&& (((1 : Int32) <<< (l4 &&& 31)) ^^^ ((-1)))), .int (l1 + 1), .ref 2], cH c s1)) rfl ?_
        refine rc_V (idx := 452) rfl rfl rfl (Nat.le_of_ble_eq_true rfl) (Nat.le_of_ble_eq_true rfl) rfl H (fun s3 H => ?_)
        refine ev_ex 2 (c' := (63, [some (.ref 2), some (.int l1), some (.int l2), some (.int l3), some (.int (l4 + 1))], [], cH c s3)) rfl ?_
        exact H
      · replace H := H.2 (h)
        refine ev_ex 3 (c' := (128, [some (.ref 2), some (.int l1), some (.int l2), some (.int l3), some (.int l4)], [.int (l3 + 0), .int (l2 &&& (((1 : Int32) <<< (l4 &&& 31)) ^^^ ((-1)))), .int (l1 + 1), .ref 2], cH c (rA s 12 (ix l1) l4))) rfl ?_
        refine rc_V (idx := 452) rfl rfl rfl (Nat.le_of_ble_eq_true rfl) (Nat.le_of_ble_eq_true rfl) rfl H (fun s4 H => ?_)
        refine ev_ex 2 (c' := (63, [some (.ref 2), some (.int l1), some (.int l2), some (.int l3), some (.int (l4 + 1))], [], cH c s4)) rfl ?_
        exact H
    · replace H := H.2 (h)
      refine ev_ex 3 (c' := (63, [some (.ref 2), some (.int l1), some (.int l2), some (.int l3), some (.int (l4 + 1))], [], cH c s)) rfl ?_
      exact H
set_option maxRecDepth 8000 in
theorem w_R_goesOrders_33 {c : CX} {d : Nat} {s : RS} {Q : RS → Prop} (l1 : Int32) (l2 : Int32) (l3 : Int32) (l4 : Int32) (H : ((l1 ≤ l4 → Q s) ∧ (¬ l1 ≤ l4 → (okx l4 8 ∧ (okx l4 8 ∧ eR c (d + 1) m_R_goesOrders 33 [some (.ref 2), some (.int l1), some (.int l2), some (.int l3), some (.int (l4 + 1))] (rA s 13 (ix l4) (s.2.1 12 (ix l4))) (pV c Q)))))) : eR c (d + 1) m_R_goesOrders 33 [some (.ref 2), some (.int l1), some (.int l2), some (.int l3), some (.int l4)] s (pV c Q) := by
  unfold eR
  refine ev_ex 0 (c' := (33, [some (.ref 2), some (.int l1), some (.int l2), some (.int l3), some (.int l4)], [], cH c s)) rfl ?_
  refine ev_ex 2 (c' := (36, [some (.ref 2), some (.int l1), some (.int l2), some (.int l3), some (.int l4)], [.int l1, .int l4], cH c s)) rfl ?_
  refine ev_icmp_ge (tgt := 59) rfl rfl (fun h => ?_) (fun h => ?_)
  · replace H := H.1 (h)
    exact ev_ret rfl rfl rfl ⟨_, rfl, rfl, H⟩
  · replace H := H.2 (h)
    refine ev_ex 6 (c' := (51, [some (.ref 2), some (.int l1), some (.int l2), some (.int l3), some (.int l4)], [.int l4, .ref 50, .int l4, .ref 54], cH c s)) rfl ?_
    obtain ⟨H0, H⟩ := H
    refine ev_ald (i := .iaload) rfl (Or.inl rfl) rfl H0 (v := .int (s.2.1 12 (ix l4))) rfl ?_
    obtain ⟨H0, H⟩ := H
    refine ev_ast (i := .iastore) rfl (Or.inl rfl) rfl H0 (by decide) rfl rfl (σ' := cH c (rA s 13 (ix l4) (s.2.1 12 (ix l4)))) rfl ?_
    refine ev_ex 2 (c' := (33, [some (.ref 2), some (.int l1), some (.int l2), some (.int l3), some (.int (l4 + 1))], [], cH c (rA s 13 (ix l4) (s.2.1 12 (ix l4))))) rfl ?_
    exact H
set_option maxRecDepth 8000 in
theorem w_R_allMocked {c : CX} {d : Nat} {s : RS} {Q : Int64 → RS → Prop}  (H : eR c (d + 1) m_R_allMocked 4 [some (.ref 2), some (.long 0), none, some (.int 0)] s (pJ c Q)) : RJ c (d + 1) m_R_allMocked [.ref 2] s Q := by
  refine ⟨q_R_allMocked, rfl, Nat.le_of_ble_eq_true rfl, ?_⟩
  refine ev_ex 0 (c' := (0, [some (.ref 2), none, none, none], [], cH c s)) rfl ?_
  refine ev_ex 4 (c' := (4, [some (.ref 2), some (.long 0), none, some (.int 0)], [], cH c s)) rfl ?_
  exact H
set_option maxRecDepth 8000 in
theorem w_R_allMocked_4 {c : CX} {d : Nat} {s : RS} {Q : Int64 → RS → Prop} (l1 : Int64) (l3 : Int32) (H : (((s.2.1 1 1) ≤ l3 → Q l1 s) ∧ (¬ (s.2.1 1 1) ≤ l3 → (okx (6 + l3) 2101 ∧ eR c (d + 1) m_R_allMocked 4 [some (.ref 2), some (.long (((11 * l1) + ((s.2.1 1 (ix (6 + l3))).toInt64)) + 1)), none, some (.int (l3 + 1))] s (pJ c Q))))) : eR c (d + 1) m_R_allMocked 4 [some (.ref 2), some (.long l1), none, some (.int l3)] s (pJ c Q) := by
  unfold eR
  refine ev_ex 0 (c' := (4, [some (.ref 2), some (.long l1), none, some (.int l3)], [], cH c s)) rfl ?_
  refine ev_ex 2 (c' := (6, [some (.ref 2), some (.long l1), none, some (.int l3)], [.ref 2, .int l3], cH c s)) rfl ?_
  refine rq_I (idx := 267) (V := s.2.1 1 1) (S := s) rfl rfl rfl (Nat.le_of_ble_eq_true rfl) (Nat.le_of_ble_eq_true rfl) rfl (zq_R_guilds ⟨rfl, rfl⟩) ?_
  refine ev_icmp_ge (tgt := 33) rfl rfl (fun h => ?_) (fun h => ?_)
  · replace H := H.1 (h)
    refine ev_ex 1 (c' := (34, [some (.ref 2), some (.long l1), none, some (.int l3)], [.long l1], cH c s)) rfl ?_
    exact ev_ret rfl rfl rfl ⟨_, _, rfl, rfl, H⟩
  · replace H := H.2 (h)
    refine ev_ex 5 (c' := (19, [some (.ref 2), some (.long l1), none, some (.int l3)], [.int l3, .ref 2, .long (11 * l1)], cH c s)) rfl ?_
    obtain ⟨H1, H⟩ := H
    refine rq_I (idx := 270) (V := s.2.1 1 (ix (6 + l3))) (S := s) rfl rfl rfl (Nat.le_of_ble_eq_true rfl) (Nat.le_of_ble_eq_true rfl) rfl (zq_R_mocked H1 ⟨rfl, rfl⟩) ?_
    refine ev_ex 7 (c' := (4, [some (.ref 2), some (.long (((11 * l1) + ((s.2.1 1 (ix (6 + l3))).toInt64)) + 1)), none, some (.int (l3 + 1))], [], cH c s)) rfl ?_
    exact H
set_option maxRecDepth 8000 in
theorem w_R_isAsSeen {c : CX} {d : Nat} {s : RS} {Q : Bool → RS → Prop} (a0 : Int32) (H : eR c (d + 1) m_R_isAsSeen 2 [some (.ref 2), some (.int a0), some (.int 0), none, none] s (pB c Q)) : RB c (d + 1) m_R_isAsSeen [.ref 2, .int a0] s Q := by
  refine ⟨q_R_isAsSeen, rfl, Nat.le_of_ble_eq_true rfl, ?_⟩
  refine ev_ex 0 (c' := (0, [some (.ref 2), some (.int a0), none, none, none], [], cH c s)) rfl ?_
  refine ev_ex 2 (c' := (2, [some (.ref 2), some (.int a0), some (.int 0), none, none], [], cH c s)) rfl ?_
  exact H
set_option maxRecDepth 8000 in
theorem w_R_isAsSeen_2 {c : CX} {d : Nat} {s : RS} {Q : Bool → RS → Prop} (l1 : Int32) (l2 : Int32) (H : (((s.2.1 1 1) ≤ l2 → Q true s) ∧ (¬ (s.2.1 1 1) ≤ l2 → (okx ((30 * l1) + l2) 120 ∧ (((s.2.2 17 (ix ((30 * l1) + l2))) = ((-1)) → eR c (d + 1) m_R_isAsSeen 2 [some (.ref 2), some (.int l1), some (.int (l2 + 1)), none, none] s (pB c Q)) ∧ (¬ (s.2.2 17 (ix ((30 * l1) + l2))) = ((-1)) → ((¬ (s.2.2 17 (ix ((30 * l1) + l2))) = 99 → (okx (6 + l2) 2101 ∧ (((s.2.2 17 (ix ((30 * l1) + l2))) = ((s.2.1 1 (ix (6 + l2))).toInt64) → eR c (d + 1) m_R_isAsSeen 2 [some (.ref 2), some (.int l1), some (.int (l2 + 1)), none, none] s (pB c Q)) ∧ (¬ (s.2.2 17 (ix ((30 * l1) + l2))) = ((s.2.1 1 (ix (6 + l2))).toInt64) → Q false s)))) ∧ ((s.2.2 17 (ix ((30 * l1) + l2))) = 99 → (okx (6 + l2) 2101 ∧ ((((-1)) = ((s.2.1 1 (ix (6 + l2))).toInt64) → eR c (d + 1) m_R_isAsSeen 2 [some (.ref 2), some (.int l1), some (.int (l2 + 1)), none, none] s (pB c Q)) ∧ (¬ ((-1)) = ((s.2.1 1 (ix (6 + l2))).toInt64) → Q false s))))))))))) : eR c (d + 1) m_R_isAsSeen 2 [some (.ref 2), some (.int l1), some (.int l2), none, none] s (pB c Q) := by
  unfold eR
  refine ev_ex 0 (c' := (2, [some (.ref 2), some (.int l1), some (.int l2), none, none], [], cH c s)) rfl ?_
  refine ev_ex 2 (c' := (4, [some (.ref 2), some (.int l1), some (.int l2), none, none], [.ref 2, .int l2], cH c s)) rfl ?_
  refine rq_I (idx := 267) (V := s.2.1 1 1) (S := s) rfl rfl rfl (Nat.le_of_ble_eq_true rfl) (Nat.le_of_ble_eq_true rfl) rfl (zq_R_guilds ⟨rfl, rfl⟩) ?_
  refine ev_icmp_ge (tgt := 63) rfl rfl (fun h => ?_) (fun h => ?_)
  · replace H := H.1 (h)
    refine ev_ex 1 (c' := (64, [some (.ref 2), some (.int l1), some (.int l2), none, none], [.int 1], cH c s)) rfl ?_
    exact ev_retB (x := true) rfl rfl ⟨_, _, rfl, rfl, H⟩
  · replace H := H.2 (h)
    refine ev_ex 7 (c' := (20, [some (.ref 2), some (.int l1), some (.int l2), none, none], [.int ((30 * l1) + l2), .ref 70], cH c s)) rfl ?_
    obtain ⟨H0, H⟩ := H
    refine ev_ald (i := .laload) rfl (Or.inr (Or.inr (Or.inl rfl))) rfl H0 (v := .long (s.2.2 17 (ix ((30 * l1) + l2)))) rfl ?_
    refine ev_ex 4 (c' := (27, [some (.ref 2), some (.int l1), some (.int l2), some (.long (s.2.2 17 (ix ((30 * l1) + l2)))), none], [.int (lg_cmp (s.2.2 17 (ix ((30 * l1) + l2))) ((-1)))], cH c s)) rfl ?_
    refine ev_if_eq (tgt := 57) rfl rfl (fun h => ?_) (fun h => ?_)
    · replace H := H.1 ((lg_cmp_eq _ _).mp h)
      refine ev_ex 2 (c' := (2, [some (.ref 2), some (.int l1), some (.int (l2 + 1)), some (.long (s.2.2 17 (ix ((30 * l1) + l2)))), none], [], cH c s)) rfl ?_
      exact ev_less (lle_of (L := [some (.ref 2), some (.int l1), some (.int (l2 + 1)), none, none]) ⟨rfl, ⟨rfl, ⟨rfl, trivial⟩⟩⟩) H
    · replace H := H.2 ((fun q => h ((lg_cmp_eq _ _).mpr q)))
      refine ev_ex 3 (c' := (35, [some (.ref 2), some (.int l1), some (.int l2), some (.long (s.2.2 17 (ix ((30 * l1) + l2)))), none], [.int (lg_cmp (s.2.2 17 (ix ((30 * l1) + l2))) 99)], cH c s)) rfl ?_
      refine ev_if_ne (tgt := 44) rfl rfl (fun h => ?_) (fun h => ?_)
      · replace H := H.1 ((fun q => h ((lg_cmp_eq _ _).mpr q)))
        refine ev_ex 3 (c' := (47, [some (.ref 2), some (.int l1), some (.int l2), some (.long (s.2.2 17 (ix ((30 * l1) + l2)))), none], [.int l2, .ref 2, .long (s.2.2 17 (ix ((30 * l1) + l2)))], cH c s)) rfl ?_
        obtain ⟨H1, H⟩ := H
        refine rq_I (idx := 270) (V := s.2.1 1 (ix (6 + l2))) (S := s) rfl rfl rfl (Nat.le_of_ble_eq_true rfl) (Nat.le_of_ble_eq_true rfl) rfl (zq_R_mocked H1 ⟨rfl, rfl⟩) ?_
        refine ev_ex 2 (c' := (52, [some (.ref 2), some (.int l1), some (.int l2), some (.long (s.2.2 17 (ix ((30 * l1) + l2)))), none], [.int (lg_cmp (s.2.2 17 (ix ((30 * l1) + l2))) ((s.2.1 1 (ix (6 + l2))).toInt64))], cH c s)) rfl ?_
        refine ev_if_eq (tgt := 57) rfl rfl (fun h => ?_) (fun h => ?_)
        · replace H := H.1 ((lg_cmp_eq _ _).mp h)
          refine ev_ex 2 (c' := (2, [some (.ref 2), some (.int l1), some (.int (l2 + 1)), some (.long (s.2.2 17 (ix ((30 * l1) + l2)))), none], [], cH c s)) rfl ?_
          exact ev_less (lle_of (L := [some (.ref 2), some (.int l1), some (.int (l2 + 1)), none, none]) ⟨rfl, ⟨rfl, ⟨rfl, trivial⟩⟩⟩) H
        · replace H := H.2 ((fun q => h ((lg_cmp_eq _ _).mpr q)))
          refine ev_ex 1 (c' := (56, [some (.ref 2), some (.int l1), some (.int l2), some (.long (s.2.2 17 (ix ((30 * l1) + l2)))), none], [.int 0], cH c s)) rfl ?_
          exact ev_retB (x := false) rfl rfl ⟨_, _, rfl, rfl, H⟩
      · replace H := H.2 ((lg_cmp_eq _ _).mp h)
        refine ev_ex 4 (c' := (47, [some (.ref 2), some (.int l1), some (.int l2), some (.long (s.2.2 17 (ix ((30 * l1) + l2)))), none], [.int l2, .ref 2, .long ((-1))], cH c s)) rfl ?_
        obtain ⟨H1, H⟩ := H
        refine rq_I (idx := 270) (V := s.2.1 1 (ix (6 + l2))) (S := s) rfl rfl rfl (Nat.le_of_ble_eq_true rfl) (Nat.le_of_ble_eq_true rfl) rfl (zq_R_mocked H1 ⟨rfl, rfl⟩) ?_
        refine ev_ex 2 (c' := (52, [some (.ref 2), some (.int l1), some (.int l2), some (.long (s.2.2 17 (ix ((30 * l1) + l2)))), none], [.int (lg_cmp ((-1)) ((s.2.1 1 (ix (6 + l2))).toInt64))], cH c s)) rfl ?_
        refine ev_if_eq (tgt := 57) rfl rfl (fun h => ?_) (fun h => ?_)
        · replace H := H.1 ((lg_cmp_eq _ _).mp h)
          refine ev_ex 2 (c' := (2, [some (.ref 2), some (.int l1), some (.int (l2 + 1)), some (.long (s.2.2 17 (ix ((30 * l1) + l2)))), none], [], cH c s)) rfl ?_
          exact ev_less (lle_of (L := [some (.ref 2), some (.int l1), some (.int (l2 + 1)), none, none]) ⟨rfl, ⟨rfl, ⟨rfl, trivial⟩⟩⟩) H
        · replace H := H.2 ((fun q => h ((lg_cmp_eq _ _).mpr q)))
          refine ev_ex 1 (c' := (56, [some (.ref 2), some (.int l1), some (.int l2), some (.long (s.2.2 17 (ix ((30 * l1) + l2)))), none], [.int 0], cH c s)) rfl ?_
          exact ev_retB (x := false) rfl rfl ⟨_, _, rfl, rfl, H⟩
set_option maxRecDepth 8000 in
theorem w_R_cut {c : CX} {d : Nat} {s : RS} {Q : Int64 → RS → Prop} (a0 : Int32) (a1 : Int32) (a2 : Int64) (H : (okx a0 4 ∧ (okx ((30 * a0) + a1) 120 ∧ (okx ((30 * a0) + a1) 120 ∧ Q ((rL s 17 (ix ((30 * a0) + a1)) ((a2 <<< ((64 - ((8 : Int32) <<< ((s.2.1 15 (ix a0)) &&& 31))).toInt64 &&& 63)) >>> ((64 - ((8 : Int32) <<< ((s.2.1 15 (ix a0)) &&& 31))).toInt64 &&& 63))).2.2 17 (ix ((30 * a0) + a1))) (rL s 17 (ix ((30 * a0) + a1)) ((a2 <<< ((64 - ((8 : Int32) <<< ((s.2.1 15 (ix a0)) &&& 31))).toInt64 &&& 63)) >>> ((64 - ((8 : Int32) <<< ((s.2.1 15 (ix a0)) &&& 31))).toInt64 &&& 63))))))) : RJ c (d) m_R_cut [.ref 2, .int a0, .int a1, .long a2] s Q := by
  refine ⟨q_R_cut, rfl, Nat.le_of_ble_eq_true rfl, ?_⟩
  refine ev_ex 0 (c' := (0, [some (.ref 2), some (.int a0), some (.int a1), some (.long a2), none, none], [], cH c s)) rfl ?_
  refine ev_ex 5 (c' := (9, [some (.ref 2), some (.int a0), some (.int a1), some (.long a2), none, none], [.int a0, .ref 62, .int 8, .int 64], cH c s)) rfl ?_
  obtain ⟨H0, H⟩ := H
  refine ev_ald (i := .iaload) rfl (Or.inl rfl) rfl H0 (v := .int (s.2.1 15 (ix a0))) rfl ?_
  refine ev_ex 15 (c' := (31, [some (.ref 2), some (.int a0), some (.int a1), some (.long a2), none, some (.int (64 - ((8 : Int32) <<< ((s.2.1 15 (ix a0)) &&& 31))))], [.long ((a2 <<< ((64 - ((8 : Int32) <<< ((s.2.1 15 (ix a0)) &&& 31))).toInt64 &&& 63)) >>> ((64 - ((8 : Int32) <<< ((s.2.1 15 (ix a0)) &&& 31))).toInt64 &&& 63)), .int ((30 * a0) + a1), .ref 70], cH c s)) rfl ?_
  obtain ⟨H0, H⟩ := H
  refine ev_ast (i := .lastore) rfl (Or.inr (Or.inr (Or.inl rfl))) rfl H0 (by decide) rfl rfl (σ' := cH c (rL s 17 (ix ((30 * a0) + a1)) ((a2 <<< ((64 - ((8 : Int32) <<< ((s.2.1 15 (ix a0)) &&& 31))).toInt64 &&& 63)) >>> ((64 - ((8 : Int32) <<< ((s.2.1 15 (ix a0)) &&& 31))).toInt64 &&& 63)))) rfl ?_
  refine ev_ex 7 (c' := (42, [some (.ref 2), some (.int a0), some (.int a1), some (.long a2), none, some (.int (64 - ((8 : Int32) <<< ((s.2.1 15 (ix a0)) &&& 31))))], [.int ((30 * a0) + a1), .ref 70], cH c (rL s 17 (ix ((30 * a0) + a1)) ((a2 <<< ((64 - ((8 : Int32) <<< ((s.2.1 15 (ix a0)) &&& 31))).toInt64 &&& 63)) >>> ((64 - ((8 : Int32) <<< ((s.2.1 15 (ix a0)) &&& 31))).toInt64 &&& 63))))) rfl ?_
  obtain ⟨H0, H⟩ := H
  refine ev_ald (i := .laload) rfl (Or.inr (Or.inr (Or.inl rfl))) rfl H0 (v := .long ((rL s 17 (ix ((30 * a0) + a1)) ((a2 <<< ((64 - ((8 : Int32) <<< ((s.2.1 15 (ix a0)) &&& 31))).toInt64 &&& 63)) >>> ((64 - ((8 : Int32) <<< ((s.2.1 15 (ix a0)) &&& 31))).toInt64 &&& 63))).2.2 17 (ix ((30 * a0) + a1)))) rfl ?_
  exact ev_ret rfl rfl rfl ⟨_, _, rfl, rfl, H⟩
set_option maxRecDepth 8000 in
theorem w_R_holds {c : CX} {d : Nat} {s : RS} {Q : Bool → RS → Prop} (a0 : Int32) (a1 : Int32) (a2 : Int32) (a3 : Int32) (H : eR c (d + 1) m_R_holds 6 [some (.ref 2), some (.int a0), some (.int a1), some (.int a2), some (.int a3), some (.int 0), some (.int 0), none] s (pB c Q)) : RB c (d + 1) m_R_holds [.ref 2, .int a0, .int a1, .int a2, .int a3] s Q := by
  refine ⟨q_R_holds, rfl, Nat.le_of_ble_eq_true rfl, ?_⟩
  refine ev_ex 0 (c' := (0, [some (.ref 2), some (.int a0), some (.int a1), some (.int a2), some (.int a3), none, none, none], [], cH c s)) rfl ?_
  refine ev_ex 4 (c' := (6, [some (.ref 2), some (.int a0), some (.int a1), some (.int a2), some (.int a3), some (.int 0), some (.int 0), none], [], cH c s)) rfl ?_
  exact H
set_option maxRecDepth 8000 in
theorem w_R_holds_6 {c : CX} {d : Nat} {s : RS} {Q : Bool → RS → Prop} (l1 : Int32) (l2 : Int32) (l3 : Int32) (l4 : Int32) (l5 : Int32) (l6 : Int32) (H : (okx l1 2101 ∧ (((s.2.1 1 (ix l1)) ≤ l6 → ((l5 ≤ 0 → Q false s) ∧ (¬ l5 ≤ 0 → (okx 0 64 ∧ ((¬ (s.2.1 6 (ix 0)) = 1 → Q false s) ∧ ((s.2.1 6 (ix 0)) = 1 → Q true s)))))) ∧ (¬ (s.2.1 1 (ix l1)) ≤ l6 → (okx (l2 + l6) 2101 ∧ (((s.2.1 1 (ix (l2 + l6))) < 100 → ((¬ (s.2.1 1 (ix (l2 + l6))) = 18 → (okx ((l5 + (-1)) - 1) 64 ∧ (okx (l5 + (-1)) 64 ∧ RI c d m_R_done [.int (s.2.1 1 (ix (l2 + l6))), .long ((s.2.1 6 (ix ((l5 + (-1)) - 1))).toInt64), .long ((s.2.1 6 (ix (l5 + (-1)))).toInt64)] s (fun v2 s1 => (okx ((l5 + (-1)) - 1) 64 ∧ eR c (d + 1) m_R_holds 6 [some (.ref 2), some (.int l1), some (.int l2), some (.int l3), some (.int l4), some (.int (l5 + (-1))), some (.int (l6 + 1)), none] (rA s1 6 (ix ((l5 + (-1)) - 1)) v2) (pB c Q)))))) ∧ ((s.2.1 1 (ix (l2 + l6))) = 18 → (okx (l5 - 1) 64 ∧ (okx (l5 - 1) 64 ∧ eR c (d + 1) m_R_holds 6 [some (.ref 2), some (.int l1), some (.int l2), some (.int l3), some (.int l4), some (.int l5), some (.int (l6 + 1)), none] (rA s 6 (ix (l5 - 1)) (1 - (s.2.1 6 (ix (l5 - 1))))) (pB c Q)))))) ∧ (¬ (s.2.1 1 (ix (l2 + l6))) < 100 → (((s.2.1 1 (ix (l2 + l6))) < 1000 → RI c d m_R_wordOf [.ref 2, .int ((s.2.1 1 (ix (l2 + l6))) - 100), .int l3, .int l4] s (fun v4 s3 => (okx l5 64 ∧ eR c (d + 1) m_R_holds 6 [some (.ref 2), some (.int l1), some (.int l2), some (.int l3), some (.int l4), some (.int (l5 + 1)), some (.int (l6 + 1)), none] (rA s3 6 (ix l5) v4) (pB c Q)))) ∧ (¬ (s.2.1 1 (ix (l2 + l6))) < 1000 → (okx l5 64 ∧ eR c (d + 1) m_R_holds 6 [some (.ref 2), some (.int l1), some (.int l2), some (.int l3), some (.int l4), some (.int (l5 + 1)), some (.int (l6 + 1)), none] (rA s 6 (ix l5) ((s.2.1 1 (ix (l2 + l6))) - 1000)) (pB c Q))))))))))) : eR c (d + 1) m_R_holds 6 [some (.ref 2), some (.int l1), some (.int l2), some (.int l3), some (.int l4), some (.int l5), some (.int l6), none] s (pB c Q) := by
  unfold eR
  refine ev_ex 0 (c' := (6, [some (.ref 2), some (.int l1), some (.int l2), some (.int l3), some (.int l4), some (.int l5), some (.int l6), none], [], cH c s)) rfl ?_
  refine ev_ex 4 (c' := (13, [some (.ref 2), some (.int l1), some (.int l2), some (.int l3), some (.int l4), some (.int l5), some (.int l6), none], [.int l1, .ref 6, .int l6], cH c s)) rfl ?_
  obtain ⟨H0, H⟩ := H
  refine ev_ald (i := .iaload) rfl (Or.inl rfl) rfl H0 (v := .int (s.2.1 1 (ix l1))) rfl ?_
  refine ev_icmp_ge (tgt := 148) rfl rfl (fun h => ?_) (fun h => ?_)
  · replace H := H.1 (h)
    refine ev_ex 1 (c' := (150, [some (.ref 2), some (.int l1), some (.int l2), some (.int l3), some (.int l4), some (.int l5), some (.int l6), none], [.int l5], cH c s)) rfl ?_
    refine ev_if_le (tgt := 167) rfl rfl (fun h => ?_) (fun h => ?_)
    · replace H := H.1 (h)
      refine ev_ex 1 (c' := (168, [some (.ref 2), some (.int l1), some (.int l2), some (.int l3), some (.int l4), some (.int l5), some (.int l6), none], [.int 0], cH c s)) rfl ?_
      exact ev_retB (x := false) rfl rfl ⟨_, _, rfl, rfl, H⟩
    · replace H := H.2 (h)
      refine ev_ex 3 (c' := (158, [some (.ref 2), some (.int l1), some (.int l2), some (.int l3), some (.int l4), some (.int l5), some (.int l6), none], [.int 0, .ref 26], cH c s)) rfl ?_
      obtain ⟨H0, H⟩ := H
      refine ev_ald (i := .iaload) rfl (Or.inl rfl) rfl H0 (v := .int (s.2.1 6 (ix 0))) rfl ?_
      refine ev_ex 1 (c' := (160, [some (.ref 2), some (.int l1), some (.int l2), some (.int l3), some (.int l4), some (.int l5), some (.int l6), none], [.int 1, .int (s.2.1 6 (ix 0))], cH c s)) rfl ?_
      refine ev_icmp_ne (tgt := 167) rfl rfl (fun h => ?_) (fun h => ?_)
      · replace H := H.1 (h)
        refine ev_ex 1 (c' := (168, [some (.ref 2), some (.int l1), some (.int l2), some (.int l3), some (.int l4), some (.int l5), some (.int l6), none], [.int 0], cH c s)) rfl ?_
        exact ev_retB (x := false) rfl rfl ⟨_, _, rfl, rfl, H⟩
      · replace H := H.2 (h)
        refine ev_ex 2 (c' := (168, [some (.ref 2), some (.int l1), some (.int l2), some (.int l3), some (.int l4), some (.int l5), some (.int l6), none], [.int 1], cH c s)) rfl ?_
        exact ev_retB (x := true) rfl rfl ⟨_, _, rfl, rfl, H⟩
  · replace H := H.2 (h)
    refine ev_ex 5 (c' := (25, [some (.ref 2), some (.int l1), some (.int l2), some (.int l3), some (.int l4), some (.int l5), some (.int l6), none], [.int (l2 + l6), .ref 6], cH c s)) rfl ?_
    obtain ⟨H0, H⟩ := H
    refine ev_ald (i := .iaload) rfl (Or.inl rfl) rfl H0 (v := .int (s.2.1 1 (ix (l2 + l6)))) rfl ?_
    refine ev_ex 3 (c' := (32, [some (.ref 2), some (.int l1), some (.int l2), some (.int l3), some (.int l4), some (.int l5), some (.int l6), some (.int (s.2.1 1 (ix (l2 + l6))))], [.int 100, .int (s.2.1 1 (ix (l2 + l6)))], cH c s)) rfl ?_
    refine ev_icmp_lt (tgt := 77) rfl rfl (fun h => ?_) (fun h => ?_)
    · replace H := H.1 (h)
      refine ev_ex 2 (c' := (81, [some (.ref 2), some (.int l1), some (.int l2), some (.int l3), some (.int l4), some (.int l5), some (.int l6), some (.int (s.2.1 1 (ix (l2 + l6))))], [.int 18, .int (s.2.1 1 (ix (l2 + l6)))], cH c s)) rfl ?_
      refine ev_icmp_ne (tgt := 107) rfl rfl (fun h => ?_) (fun h => ?_)
      · replace H := H.1 (h)
        refine ev_ex 12 (c' := (128, [some (.ref 2), some (.int l1), some (.int l2), some (.int l3), some (.int l4), some (.int (l5 + (-1))), some (.int l6), some (.int (s.2.1 1 (ix (l2 + l6))))], [.int ((l5 + (-1)) - 1), .ref 26, .int (s.2.1 1 (ix (l2 + l6))), .int ((l5 + (-1)) - 1), .ref 26], cH c s)) rfl ?_
        obtain ⟨H0, H⟩ := H
        refine ev_ald (i := .iaload) rfl (Or.inl rfl) rfl H0 (v := .int (s.2.1 6 (ix ((l5 + (-1)) - 1)))) rfl ?_
        refine ev_ex 4 (c' := (136, [some (.ref 2), some (.int l1), some (.int l2), some (.int l3), some (.int l4), some (.int (l5 + (-1))), some (.int l6), some (.int (s.2.1 1 (ix (l2 + l6))))], [.int (l5 + (-1)), .ref 26, .long ((s.2.1 6 (ix ((l5 + (-1)) - 1))).toInt64), .int (s.2.1 1 (ix (l2 + l6))), .int ((l5 + (-1)) - 1), .ref 26], cH c s)) rfl ?_
        obtain ⟨H0, H⟩ := H
        refine ev_ald (i := .iaload) rfl (Or.inl rfl) rfl H0 (v := .int (s.2.1 6 (ix (l5 + (-1))))) rfl ?_
        refine ev_ex 1 (c' := (138, [some (.ref 2), some (.int l1), some (.int l2), some (.int l3), some (.int l4), some (.int (l5 + (-1))), some (.int l6), some (.int (s.2.1 1 (ix (l2 + l6))))], [.long ((s.2.1 6 (ix (l5 + (-1)))).toInt64), .long ((s.2.1 6 (ix ((l5 + (-1)) - 1))).toInt64), .int (s.2.1 1 (ix (l2 + l6))), .int ((l5 + (-1)) - 1), .ref 26], cH c s)) rfl ?_
        refine rc_I (idx := 300) rfl rfl rfl (Nat.le_of_ble_eq_true rfl) (Nat.le_of_ble_eq_true rfl) rfl H (fun v2 s1 H => ?_)
        obtain ⟨H0, H⟩ := H
        refine ev_ast (i := .iastore) rfl (Or.inl rfl) rfl H0 (by decide) rfl rfl (σ' := cH c (rA s1 6 (ix ((l5 + (-1)) - 1)) v2)) rfl ?_
        refine ev_ex 2 (c' := (6, [some (.ref 2), some (.int l1), some (.int l2), some (.int l3), some (.int l4), some (.int (l5 + (-1))), some (.int (l6 + 1)), some (.int (s.2.1 1 (ix (l2 + l6))))], [], cH c (rA s1 6 (ix ((l5 + (-1)) - 1)) v2))) rfl ?_
        exact ev_less (lle_of (L := [some (.ref 2), some (.int l1), some (.int l2), some (.int l3), some (.int l4), some (.int (l5 + (-1))), some (.int (l6 + 1)), none]) ⟨rfl, ⟨rfl, ⟨rfl, ⟨rfl, ⟨rfl, ⟨rfl, ⟨rfl, trivial⟩⟩⟩⟩⟩⟩⟩) H
      · replace H := H.2 (h)
        refine ev_ex 11 (c' := (101, [some (.ref 2), some (.int l1), some (.int l2), some (.int l3), some (.int l4), some (.int l5), some (.int l6), some (.int (s.2.1 1 (ix (l2 + l6))))], [.int (l5 - 1), .ref 26, .int 1, .int (l5 - 1), .ref 26], cH c s)) rfl ?_
        obtain ⟨H0, H⟩ := H
        refine ev_ald (i := .iaload) rfl (Or.inl rfl) rfl H0 (v := .int (s.2.1 6 (ix (l5 - 1)))) rfl ?_
        refine ev_ex 1 (c' := (103, [some (.ref 2), some (.int l1), some (.int l2), some (.int l3), some (.int l4), some (.int l5), some (.int l6), some (.int (s.2.1 1 (ix (l2 + l6))))], [.int (1 - (s.2.1 6 (ix (l5 - 1)))), .int (l5 - 1), .ref 26], cH c s)) rfl ?_
        obtain ⟨H0, H⟩ := H
        refine ev_ast (i := .iastore) rfl (Or.inl rfl) rfl H0 (by decide) rfl rfl (σ' := cH c (rA s 6 (ix (l5 - 1)) (1 - (s.2.1 6 (ix (l5 - 1)))))) rfl ?_
        refine ev_ex 3 (c' := (6, [some (.ref 2), some (.int l1), some (.int l2), some (.int l3), some (.int l4), some (.int l5), some (.int (l6 + 1)), some (.int (s.2.1 1 (ix (l2 + l6))))], [], cH c (rA s 6 (ix (l5 - 1)) (1 - (s.2.1 6 (ix (l5 - 1))))))) rfl ?_
        exact ev_less (lle_of (L := [some (.ref 2), some (.int l1), some (.int l2), some (.int l3), some (.int l4), some (.int l5), some (.int (l6 + 1)), none]) ⟨rfl, ⟨rfl, ⟨rfl, ⟨rfl, ⟨rfl, ⟨rfl, ⟨rfl, trivial⟩⟩⟩⟩⟩⟩⟩) H
    · replace H := H.2 (h)
      refine ev_ex 5 (c' := (46, [some (.ref 2), some (.int l1), some (.int l2), some (.int l3), some (.int l4), some (.int l5), some (.int l6), some (.int (s.2.1 1 (ix (l2 + l6))))], [.int 1000, .int (s.2.1 1 (ix (l2 + l6))), .int l5, .ref 26], cH c s)) rfl ?_
      refine ev_icmp_lt (tgt := 58) rfl rfl (fun h => ?_) (fun h => ?_)
      · replace H := H.1 (h)
        refine ev_ex 6 (c' := (67, [some (.ref 2), some (.int l1), some (.int l2), some (.int l3), some (.int l4), some (.int l5), some (.int l6), some (.int (s.2.1 1 (ix (l2 + l6))))], [.int l4, .int l3, .int ((s.2.1 1 (ix (l2 + l6))) - 100), .ref 2, .int l5, .ref 26], cH c s)) rfl ?_
        refine rc_I (idx := 296) rfl rfl rfl (Nat.le_of_ble_eq_true rfl) (Nat.le_of_ble_eq_true rfl) rfl H (fun v4 s3 H => ?_)
        obtain ⟨H0, H⟩ := H
        refine ev_ast (i := .iastore) rfl (Or.inl rfl) rfl H0 (by decide) rfl rfl (σ' := cH c (rA s3 6 (ix l5) v4)) rfl ?_
        refine ev_ex 4 (c' := (6, [some (.ref 2), some (.int l1), some (.int l2), some (.int l3), some (.int l4), some (.int (l5 + 1)), some (.int (l6 + 1)), some (.int (s.2.1 1 (ix (l2 + l6))))], [], cH c (rA s3 6 (ix l5) v4))) rfl ?_
        exact ev_less (lle_of (L := [some (.ref 2), some (.int l1), some (.int l2), some (.int l3), some (.int l4), some (.int (l5 + 1)), some (.int (l6 + 1)), none]) ⟨rfl, ⟨rfl, ⟨rfl, ⟨rfl, ⟨rfl, ⟨rfl, ⟨rfl, trivial⟩⟩⟩⟩⟩⟩⟩) H
      · replace H := H.2 (h)
        refine ev_ex 4 (c' := (70, [some (.ref 2), some (.int l1), some (.int l2), some (.int l3), some (.int l4), some (.int l5), some (.int l6), some (.int (s.2.1 1 (ix (l2 + l6))))], [.int ((s.2.1 1 (ix (l2 + l6))) - 1000), .int l5, .ref 26], cH c s)) rfl ?_
        obtain ⟨H0, H⟩ := H
        refine ev_ast (i := .iastore) rfl (Or.inl rfl) rfl H0 (by decide) rfl rfl (σ' := cH c (rA s 6 (ix l5) ((s.2.1 1 (ix (l2 + l6))) - 1000))) rfl ?_
        refine ev_ex 4 (c' := (6, [some (.ref 2), some (.int l1), some (.int l2), some (.int l3), some (.int l4), some (.int (l5 + 1)), some (.int (l6 + 1)), some (.int (s.2.1 1 (ix (l2 + l6))))], [], cH c (rA s 6 (ix l5) ((s.2.1 1 (ix (l2 + l6))) - 1000)))) rfl ?_
        exact ev_less (lle_of (L := [some (.ref 2), some (.int l1), some (.int l2), some (.int l3), some (.int l4), some (.int (l5 + 1)), some (.int (l6 + 1)), none]) ⟨rfl, ⟨rfl, ⟨rfl, ⟨rfl, ⟨rfl, ⟨rfl, ⟨rfl, trivial⟩⟩⟩⟩⟩⟩⟩) H
