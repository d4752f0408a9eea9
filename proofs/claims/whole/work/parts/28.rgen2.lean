/-! written by wip/gen/vcg.py: what runs of the reference ask -/
set_option maxRecDepth 8000 in
theorem w_R_longest {c : CX} {d : Nat} {s : RS} {Q : Int32 → RS → Prop}  (H : RV c d m_R_laysRow [.ref 2] (rF s 4 0) (fun s1 => eR c (d + 1) m_R_longest 13 [some (.ref 2), some (.int 0), some (.int 0)] s1 (pI c Q))) : RI c (d + 1) m_R_longest [.ref 2] s Q := by
  refine ⟨q_R_longest, rfl, Nat.le_of_ble_eq_true rfl, ?_⟩
  refine ev_ex 0 (c' := (0, [some (.ref 2), none, none], [], cH c s)) rfl ?_
  refine ev_ex 4 (c' := (6, [some (.ref 2), none, none], [.ref 2], cH c (rF s 4 0))) rfl ?_
  refine rc_V (idx := 362) rfl rfl rfl (Nat.le_of_ble_eq_true rfl) (Nat.le_of_ble_eq_true rfl) rfl H (fun s1 H => ?_)
  refine ev_ex 4 (c' := (13, [some (.ref 2), some (.int 0), some (.int 0)], [], cH c s1)) rfl ?_
  exact H
set_option maxRecDepth 8000 in
theorem w_R_longest_13 {c : CX} {d : Nat} {s : RS} {Q : Int32 → RS → Prop} (l1 : Int32) (l2 : Int32) (H : (((s.2.1 1 1) ≤ l2 → Q l1 s) ∧ (¬ (s.2.1 1 1) ≤ l2 → (okx l2 10 ∧ RI c d m_R_chainAt [.ref 2, .int (s.2.1 11 (ix l2))] s (fun v2 s1 => eR c (d + 1) m_R_longest 13 [some (.ref 2), some (.int (mxI l1 v2)), some (.int (l2 + 1))] s1 (pI c Q)))))) : eR c (d + 1) m_R_longest 13 [some (.ref 2), some (.int l1), some (.int l2)] s (pI c Q) := by
  unfold eR
  refine ev_ex 0 (c' := (13, [some (.ref 2), some (.int l1), some (.int l2)], [], cH c s)) rfl ?_
  refine ev_ex 2 (c' := (15, [some (.ref 2), some (.int l1), some (.int l2)], [.ref 2, .int l2], cH c s)) rfl ?_
  refine rq_I (idx := 267) (V := s.2.1 1 1) (S := s) rfl rfl rfl (Nat.le_of_ble_eq_true rfl) (Nat.le_of_ble_eq_true rfl) rfl (zq_R_guilds ⟨rfl, rfl⟩) ?_
  refine ev_icmp_ge (tgt := 42) rfl rfl (fun h => ?_) (fun h => ?_)
  · replace H := H.1 (h)
    refine ev_ex 1 (c' := (43, [some (.ref 2), some (.int l1), some (.int l2)], [.int l1], cH c s)) rfl ?_
    exact ev_ret rfl rfl rfl ⟨_, _, rfl, rfl, H⟩
  · replace H := H.2 (h)
    refine ev_ex 5 (c' := (28, [some (.ref 2), some (.int l1), some (.int l2)], [.int l2, .ref 46, .ref 2, .int l1], cH c s)) rfl ?_
    obtain ⟨H0, H⟩ := H
    refine ev_ald (i := .iaload) rfl (Or.inl rfl) rfl H0 (v := .int (s.2.1 11 (ix l2))) rfl ?_
    refine rc_I (idx := 411) rfl rfl rfl (Nat.le_of_ble_eq_true rfl) (Nat.le_of_ble_eq_true rfl) rfl H (fun v2 s1 H => ?_)
    refine rq_I (idx := 414) (V := mxI l1 v2) (S := s1) rfl rfl rfl (Nat.le_of_ble_eq_true rfl) (Nat.le_of_ble_eq_true rfl) rfl (zq_JM_max ⟨rfl, rfl⟩) ?_
    refine ev_ex 3 (c' := (13, [some (.ref 2), some (.int (mxI l1 v2)), some (.int (l2 + 1))], [], cH c s1)) rfl ?_
    exact H
set_option maxRecDepth 8000 in
theorem w_R_freeFor {c : CX} {d : Nat} {s : RS} {Q : Int32 → RS → Prop} (a0 : Int32) (H : (((wth a0.toInt64 0 (s.2.1 1 1 - 1).toInt64) = true → RV c (d + 1) m_R_laysRow [.ref 2] (rF s 4 0) (fun s1 => (okx (6 + a0) 2101 ∧ eR c (d + 2) m_R_freeFor 41 [some (.ref 2), some (.int a0), some (.int (s1.1 27)), some (.int (s1.2.1 1 (ix (6 + a0)))), some (.int 0), some (.int 0)] s1 (pI c Q)))) ∧ ((wth a0.toInt64 0 (s.2.1 1 1 - 1).toInt64) = false → Q 0 (rF (rF s 4 0) 4 1)))) : RI c (d + 2) m_R_freeFor [.ref 2, .int a0] s Q := by
  refine ⟨q_R_freeFor, rfl, Nat.le_of_ble_eq_true rfl, ?_⟩
  refine ev_ex 0 (c' := (0, [some (.ref 2), some (.int a0), none, none, none, none], [], cH c s)) rfl ?_
  refine ev_ex 6 (c' := (8, [some (.ref 2), some (.int a0), none, none, none, none], [.long a0.toInt64, .ref 2], cH c (rF s 4 0))) rfl ?_
  refine rq_B (idx := 314) (V := wth a0.toInt64 0 (s.2.1 1 1 - 1).toInt64) (S := rF s 4 0) rfl rfl rfl (Nat.le_of_ble_eq_true rfl) (Nat.le_of_ble_eq_true rfl) rfl (zq_R_isGuild ⟨rfl, rfl⟩) ?_
  refine ev_if_neB (x := (wth a0.toInt64 0 (s.2.1 1 1 - 1).toInt64)) (tgt := 20) rfl rfl (fun h => ?_) (fun h => ?_)
  · replace H := H.1 (h)
    refine ev_ex 1 (c' := (21, [some (.ref 2), some (.int a0), none, none, none, none], [.ref 2], cH c (rF s 4 0))) rfl ?_
    refine rc_V (idx := 362) rfl rfl rfl (Nat.le_of_ble_eq_true rfl) (Nat.le_of_ble_eq_true rfl) rfl H (fun s1 H => ?_)
    refine ev_ex 5 (c' := (31, [some (.ref 2), some (.int a0), some (.int (s1.1 27)), none, none, none], [.int a0, .ref 2], cH c s1)) rfl ?_
    obtain ⟨H1, H⟩ := H
    refine rq_I (idx := 270) (V := s1.2.1 1 (ix (6 + a0))) (S := s1) rfl rfl rfl (Nat.le_of_ble_eq_true rfl) (Nat.le_of_ble_eq_true rfl) rfl (zq_R_mocked H1 ⟨rfl, rfl⟩) ?_
    refine ev_ex 5 (c' := (41, [some (.ref 2), some (.int a0), some (.int (s1.1 27)), some (.int (s1.2.1 1 (ix (6 + a0)))), some (.int 0), some (.int 0)], [], cH c s1)) rfl ?_
    exact H
  · replace H := H.2 (h)
    refine ev_ex 2 (c' := (16, [some (.ref 2), some (.int a0), none, none, none, none], [.int 1, .ref 2], cH c (rF s 4 0))) rfl ?_
    refine rq_I (idx := 258) (V := 0) (S := rF (rF s 4 0) 4 1) rfl rfl rfl (Nat.le_of_ble_eq_true rfl) (Nat.le_of_ble_eq_true rfl) rfl (zq_R_fails ⟨rfl, rfl⟩) ?_
    exact ev_ret rfl rfl rfl ⟨_, _, rfl, rfl, H⟩
set_option maxRecDepth 8000 in
theorem w_R_freeFor_41 {c : CX} {d : Nat} {s : RS} {Q : Int32 → RS → Prop} (l1 : Int32) (l2 : Int32) (l3 : Int32) (l4 : Int32) (l5 : Int32) (H : (((s.2.1 1 1) ≤ l5 → Q l4 s) ∧ (¬ (s.2.1 1 1) ≤ l5 → ((l5 = l1 → eR c (d + 2) m_R_freeFor 41 [some (.ref 2), some (.int l1), some (.int l2), some (.int l3), some (.int l4), some (.int (l5 + 1))] s (pI c Q)) ∧ (¬ l5 = l1 → RB c (d + 1) m_R_mayMock [.ref 2, .int l1, .int l5] s (fun v2 s1 => ((v2 = true → (okx (6 + l1) 2101 ∧ RV c (d + 1) m_R_laysRow [.ref 2] (rA s1 1 (ix (6 + l1)) l5) (fun s3 => ((l2 < (s3.1 27) → (okx (6 + l1) 2101 ∧ eR c (d + 2) m_R_freeFor 41 [some (.ref 2), some (.int l1), some (.int l2), some (.int l3), some (.int (l4 ||| 0)), some (.int (l5 + 1))] (rA s3 1 (ix (6 + l1)) l3) (pI c Q))) ∧ (¬ l2 < (s3.1 27) → (okx (6 + l1) 2101 ∧ eR c (d + 2) m_R_freeFor 41 [some (.ref 2), some (.int l1), some (.int l2), some (.int l3), some (.int (l4 ||| ((1 : Int32) <<< (l5 &&& 31)))), some (.int (l5 + 1))] (rA s3 1 (ix (6 + l1)) l3) (pI c Q))))))) ∧ (v2 = false → eR c (d + 2) m_R_freeFor 41 [some (.ref 2), some (.int l1), some (.int l2), some (.int l3), some (.int l4), some (.int (l5 + 1))] s1 (pI c Q))))))))) : eR c (d + 2) m_R_freeFor 41 [some (.ref 2), some (.int l1), some (.int l2), some (.int l3), some (.int l4), some (.int l5)] s (pI c Q) := by
  unfold eR
  refine ev_ex 0 (c' := (41, [some (.ref 2), some (.int l1), some (.int l2), some (.int l3), some (.int l4), some (.int l5)], [], cH c s)) rfl ?_
  refine ev_ex 2 (c' := (44, [some (.ref 2), some (.int l1), some (.int l2), some (.int l3), some (.int l4), some (.int l5)], [.ref 2, .int l5], cH c s)) rfl ?_
  refine rq_I (idx := 267) (V := s.2.1 1 1) (S := s) rfl rfl rfl (Nat.le_of_ble_eq_true rfl) (Nat.le_of_ble_eq_true rfl) rfl (zq_R_guilds ⟨rfl, rfl⟩) ?_
  refine ev_icmp_ge (tgt := 121) rfl rfl (fun h => ?_) (fun h => ?_)
  · replace H := H.1 (h)
    refine ev_ex 1 (c' := (123, [some (.ref 2), some (.int l1), some (.int l2), some (.int l3), some (.int l4), some (.int l5)], [.int l4], cH c s)) rfl ?_
    exact ev_ret rfl rfl rfl ⟨_, _, rfl, rfl, H⟩
  · replace H := H.2 (h)
    refine ev_ex 2 (c' := (53, [some (.ref 2), some (.int l1), some (.int l2), some (.int l3), some (.int l4), some (.int l5)], [.int l1, .int l5], cH c s)) rfl ?_
    refine ev_icmp_eq (tgt := 115) rfl rfl (fun h => ?_) (fun h => ?_)
    · replace H := H.1 (h)
      refine ev_ex 2 (c' := (41, [some (.ref 2), some (.int l1), some (.int l2), some (.int l3), some (.int l4), some (.int (l5 + 1))], [], cH c s)) rfl ?_
      exact H
    · replace H := H.2 (h)
      refine ev_ex 3 (c' := (60, [some (.ref 2), some (.int l1), some (.int l2), some (.int l3), some (.int l4), some (.int l5)], [.int l5, .int l1, .ref 2], cH c s)) rfl ?_
      refine rc_B (idx := 320) rfl rfl rfl (Nat.le_of_ble_eq_true rfl) (Nat.le_of_ble_eq_true rfl) rfl H (fun v2 s1 H => ?_)
      refine ev_if_neB (x := v2) (tgt := 69) rfl rfl (fun h => ?_) (fun h => ?_)
      · replace H := H.1 (h)
        refine ev_ex 6 (c' := (79, [some (.ref 2), some (.int l1), some (.int l2), some (.int l3), some (.int l4), some (.int l5)], [.int l5, .int (6 + l1), .ref 6], cH c s1)) rfl ?_
        obtain ⟨H0, H⟩ := H
        refine ev_ast (i := .iastore) rfl (Or.inl rfl) rfl H0 (by decide) rfl rfl (σ' := cH c (rA s1 1 (ix (6 + l1)) l5)) rfl ?_
        refine ev_ex 1 (c' := (81, [some (.ref 2), some (.int l1), some (.int l2), some (.int l3), some (.int l4), some (.int l5)], [.ref 2], cH c (rA s1 1 (ix (6 + l1)) l5))) rfl ?_
        refine rc_V (idx := 362) rfl rfl rfl (Nat.le_of_ble_eq_true rfl) (Nat.le_of_ble_eq_true rfl) rfl H (fun s3 H => ?_)
        refine ev_ex 4 (c' := (91, [some (.ref 2), some (.int l1), some (.int l2), some (.int l3), some (.int l4), some (.int l5)], [.int l2, .int (s3.1 27), .int l4], cH c s3)) rfl ?_
        refine ev_icmp_gt (tgt := 101) rfl rfl (fun h => ?_) (fun h => ?_)
        · replace H := H.1 (h)
          refine ev_ex 9 (c' := (114, [some (.ref 2), some (.int l1), some (.int l2), some (.int l3), some (.int (l4 ||| 0)), some (.int l5)], [.int l3, .int (6 + l1), .ref 6], cH c s3)) rfl ?_
          obtain ⟨H0, H⟩ := H
          refine ev_ast (i := .iastore) rfl (Or.inl rfl) rfl H0 (by decide) rfl rfl (σ' := cH c (rA s3 1 (ix (6 + l1)) l3)) rfl ?_
          refine ev_ex 2 (c' := (41, [some (.ref 2), some (.int l1), some (.int l2), some (.int l3), some (.int (l4 ||| 0)), some (.int (l5 + 1))], [], cH c (rA s3 1 (ix (6 + l1)) l3))) rfl ?_
          exact H
        · replace H := H.2 (h)
          refine ev_ex 12 (c' := (114, [some (.ref 2), some (.int l1), some (.int l2), some (.int l3), some (.int (l4 ||| ((1 : Int32) <<< (l5 &&& 31)))), some (.int l5)], [.int l3, .int (6 + l1), .ref 6], cH c s3)) rfl ?_
          obtain ⟨H0, H⟩ := H
          refine ev_ast (i := .iastore) rfl (Or.inl rfl) rfl H0 (by decide) rfl rfl (σ' := cH c (rA s3 1 (ix (6 + l1)) l3)) rfl ?_
          refine ev_ex 2 (c' := (41, [some (.ref 2), some (.int l1), some (.int l2), some (.int l3), some (.int (l4 ||| ((1 : Int32) <<< (l5 &&& 31)))), some (.int (l5 + 1))], [], cH c (rA s3 1 (ix (6 + l1)) l3))) rfl ?_
          exact H
      · replace H := H.2 (h)
        refine ev_ex 3 (c' := (41, [some (.ref 2), some (.int l1), some (.int l2), some (.int l3), some (.int l4), some (.int (l5 + 1))], [], cH c s1)) rfl ?_
        exact H
set_option maxRecDepth 8000 in
theorem w_R_at {c : CX} {d : Nat} {s : RS} {Q : Int32 → RS → Prop} (a0 : Int32) (a1 : Int32) (H : (((wth a0.toInt64 0 (s.2.1 1 1 - 1).toInt64) = true → ((0 ≤ a1 → RV c (d + 1) m_R_laysRow [.ref 2] (rF s 4 0) (fun s1 => RI c (d + 1) m_R_stepAt [.ref 2, .int a0, .int a1] s1 (fun v3 s2 => Q v3 s2))) ∧ (¬ 0 ≤ a1 → Q 0 (rF s 4 2)))) ∧ ((wth a0.toInt64 0 (s.2.1 1 1 - 1).toInt64) = false → Q 0 (rF s 4 1)))) : RI c (d + 2) m_R_at [.ref 2, .int a0, .int a1] s Q := by
  refine ⟨q_R_at, rfl, Nat.le_of_ble_eq_true rfl, ?_⟩
  refine ev_ex 0 (c' := (0, [some (.ref 2), some (.int a0), some (.int a1)], [], cH c s)) rfl ?_
  refine ev_ex 4 (c' := (4, [some (.ref 2), some (.int a0), some (.int a1)], [.long a0.toInt64, .ref 2, .ref 2], cH c s)) rfl ?_
  refine rq_B (idx := 314) (V := wth a0.toInt64 0 (s.2.1 1 1 - 1).toInt64) (S := s) rfl rfl rfl (Nat.le_of_ble_eq_true rfl) (Nat.le_of_ble_eq_true rfl) rfl (zq_R_isGuild ⟨rfl, rfl⟩) ?_
  refine ev_if_neB (x := (wth a0.toInt64 0 (s.2.1 1 1 - 1).toInt64)) (tgt := 14) rfl rfl (fun h => ?_) (fun h => ?_)
  · replace H := H.1 (h)
    refine ev_ex 1 (c' := (15, [some (.ref 2), some (.int a0), some (.int a1)], [.int a1, .ref 2], cH c s)) rfl ?_
    refine ev_if_ge (tgt := 22) rfl rfl (fun h => ?_) (fun h => ?_)
    · replace H := H.1 (h)
      refine ev_ex 6 (c' := (36, [some (.ref 2), some (.int a0), some (.int a1)], [.ref 2], cH c (rF s 4 0))) rfl ?_
      refine rc_V (idx := 362) rfl rfl rfl (Nat.le_of_ble_eq_true rfl) (Nat.le_of_ble_eq_true rfl) rfl H (fun s1 H => ?_)
      refine ev_ex 3 (c' := (42, [some (.ref 2), some (.int a0), some (.int a1)], [.int a1, .int a0, .ref 2], cH c s1)) rfl ?_
      refine rc_I (idx := 424) rfl rfl rfl (Nat.le_of_ble_eq_true rfl) (Nat.le_of_ble_eq_true rfl) rfl H (fun v3 s2 H => ?_)
      exact ev_ret rfl rfl rfl ⟨_, _, rfl, rfl, H⟩
    · replace H := H.2 (h)
      refine ev_ex 7 (c' := (34, [some (.ref 2), some (.int a0), some (.int a1)], [.int 0], cH c (rF s 4 2))) rfl ?_
      exact ev_ret rfl rfl rfl ⟨_, _, rfl, rfl, H⟩
  · replace H := H.2 (h)
    refine ev_ex 7 (c' := (34, [some (.ref 2), some (.int a0), some (.int a1)], [.int 0], cH c (rF s 4 1))) rfl ?_
    exact ev_ret rfl rfl rfl ⟨_, _, rfl, rfl, H⟩
set_option maxRecDepth 8000 in
theorem w_R_arrives {c : CX} {d : Nat} {s : RS} {Q : Int32 → RS → Prop} (a0 : Int32) (H : (((wth a0.toInt64 0 (s.2.1 1 1 - 1).toInt64) = true → RV c (d + 1) m_R_laysRow [.ref 2] (rF s 4 0) (fun s1 => (okx a0 10 ∧ (okx (s1.2.1 11 (ix a0)) 21 ∧ RI c (d + 1) m_R_steps [.ref 2] s1 (fun v3 s2 => Q ((s1.2.1 10 (ix (s1.2.1 11 (ix a0)))) + v3) s2))))) ∧ ((wth a0.toInt64 0 (s.2.1 1 1 - 1).toInt64) = false → Q 0 (rF (rF s 4 0) 4 1)))) : RI c (d + 2) m_R_arrives [.ref 2, .int a0] s Q := by
  refine ⟨q_R_arrives, rfl, Nat.le_of_ble_eq_true rfl, ?_⟩
  refine ev_ex 0 (c' := (0, [some (.ref 2), some (.int a0)], [], cH c s)) rfl ?_
  refine ev_ex 6 (c' := (8, [some (.ref 2), some (.int a0)], [.long a0.toInt64, .ref 2], cH c (rF s 4 0))) rfl ?_
  refine rq_B (idx := 314) (V := wth a0.toInt64 0 (s.2.1 1 1 - 1).toInt64) (S := rF s 4 0) rfl rfl rfl (Nat.le_of_ble_eq_true rfl) (Nat.le_of_ble_eq_true rfl) rfl (zq_R_isGuild ⟨rfl, rfl⟩) ?_
  refine ev_if_neB (x := (wth a0.toInt64 0 (s.2.1 1 1 - 1).toInt64)) (tgt := 20) rfl rfl (fun h => ?_) (fun h => ?_)
  · replace H := H.1 (h)
    refine ev_ex 1 (c' := (21, [some (.ref 2), some (.int a0)], [.ref 2], cH c (rF s 4 0))) rfl ?_
    refine rc_V (idx := 362) rfl rfl rfl (Nat.le_of_ble_eq_true rfl) (Nat.le_of_ble_eq_true rfl) rfl H (fun s1 H => ?_)
    refine ev_ex 5 (c' := (33, [some (.ref 2), some (.int a0)], [.int a0, .ref 46, .ref 42], cH c s1)) rfl ?_
    obtain ⟨H0, H⟩ := H
    refine ev_ald (i := .iaload) rfl (Or.inl rfl) rfl H0 (v := .int (s1.2.1 11 (ix a0))) rfl ?_
    obtain ⟨H0, H⟩ := H
    refine ev_ald (i := .iaload) rfl (Or.inl rfl) rfl H0 (v := .int (s1.2.1 10 (ix (s1.2.1 11 (ix a0))))) rfl ?_
    refine ev_ex 1 (c' := (36, [some (.ref 2), some (.int a0)], [.ref 2, .int (s1.2.1 10 (ix (s1.2.1 11 (ix a0))))], cH c s1)) rfl ?_
    refine rc_I (idx := 418) rfl rfl rfl (Nat.le_of_ble_eq_true rfl) (Nat.le_of_ble_eq_true rfl) rfl H (fun v3 s2 H => ?_)
    refine ev_ex 1 (c' := (40, [some (.ref 2), some (.int a0)], [.int ((s1.2.1 10 (ix (s1.2.1 11 (ix a0)))) + v3)], cH c s2)) rfl ?_
    exact ev_ret rfl rfl rfl ⟨_, _, rfl, rfl, H⟩
  · replace H := H.2 (h)
    refine ev_ex 2 (c' := (16, [some (.ref 2), some (.int a0)], [.int 1, .ref 2], cH c (rF s 4 0))) rfl ?_
    refine rq_I (idx := 258) (V := 0) (S := rF (rF s 4 0) 4 1) rfl rfl rfl (Nat.le_of_ble_eq_true rfl) (Nat.le_of_ble_eq_true rfl) rfl (zq_R_fails ⟨rfl, rfl⟩) ?_
    exact ev_ret rfl rfl rfl ⟨_, _, rfl, rfl, H⟩
set_option maxRecDepth 8000 in
theorem w_R_meets {c : CX} {d : Nat} {s : RS} {Q : Int32 → RS → Prop} (a0 : Int32) (a1 : Int32) (H : (((wth a0.toInt64 0 (s.2.1 1 1 - 1).toInt64) = false → Q 0 (rF s 4 1)) ∧ ((wth a0.toInt64 0 (s.2.1 1 1 - 1).toInt64) = true → (((wth a1.toInt64 0 (s.2.1 1 1 - 1).toInt64) = true → ((¬ a0 = a1 → RV c (d + 1) m_R_laysRow [.ref 2] (rF s 4 0) (fun s1 => eR c (d + 2) m_R_meets 51 [some (.ref 2), some (.int a0), some (.int a1), some (.int 0)] s1 (pI c Q))) ∧ (a0 = a1 → Q 0 (rF s 4 2)))) ∧ ((wth a1.toInt64 0 (s.2.1 1 1 - 1).toInt64) = false → Q 0 (rF s 4 1)))))) : RI c (d + 2) m_R_meets [.ref 2, .int a0, .int a1] s Q := by
  refine ⟨q_R_meets, rfl, Nat.le_of_ble_eq_true rfl, ?_⟩
  refine ev_ex 0 (c' := (0, [some (.ref 2), some (.int a0), some (.int a1), none], [], cH c s)) rfl ?_
  refine ev_ex 4 (c' := (4, [some (.ref 2), some (.int a0), some (.int a1), none], [.long a0.toInt64, .ref 2, .ref 2], cH c s)) rfl ?_
  refine rq_B (idx := 314) (V := wth a0.toInt64 0 (s.2.1 1 1 - 1).toInt64) (S := s) rfl rfl rfl (Nat.le_of_ble_eq_true rfl) (Nat.le_of_ble_eq_true rfl) rfl (zq_R_isGuild ⟨rfl, rfl⟩) ?_
  refine ev_if_eqB (x := (wth a0.toInt64 0 (s.2.1 1 1 - 1).toInt64)) (tgt := 19) rfl rfl (fun h => ?_) (fun h => ?_)
  · replace H := H.1 (h)
    refine ev_ex 7 (c' := (44, [some (.ref 2), some (.int a0), some (.int a1), none], [.int 0], cH c (rF s 4 1))) rfl ?_
    exact ev_ret rfl rfl rfl ⟨_, _, rfl, rfl, H⟩
  · replace H := H.2 (h)
    refine ev_ex 3 (c' := (13, [some (.ref 2), some (.int a0), some (.int a1), none], [.long a1.toInt64, .ref 2, .ref 2], cH c s)) rfl ?_
    refine rq_B (idx := 314) (V := wth a1.toInt64 0 (s.2.1 1 1 - 1).toInt64) (S := s) rfl rfl rfl (Nat.le_of_ble_eq_true rfl) (Nat.le_of_ble_eq_true rfl) rfl (zq_R_isGuild ⟨rfl, rfl⟩) ?_
    refine ev_if_neB (x := (wth a1.toInt64 0 (s.2.1 1 1 - 1).toInt64)) (tgt := 23) rfl rfl (fun h => ?_) (fun h => ?_)
    · replace H := H.1 (h)
      refine ev_ex 2 (c' := (25, [some (.ref 2), some (.int a0), some (.int a1), none], [.int a1, .int a0, .ref 2], cH c s)) rfl ?_
      refine ev_icmp_ne (tgt := 32) rfl rfl (fun h => ?_) (fun h => ?_)
      · replace H := H.1 (h)
        refine ev_ex 6 (c' := (46, [some (.ref 2), some (.int a0), some (.int a1), none], [.ref 2], cH c (rF s 4 0))) rfl ?_
        refine rc_V (idx := 362) rfl rfl rfl (Nat.le_of_ble_eq_true rfl) (Nat.le_of_ble_eq_true rfl) rfl H (fun s1 H => ?_)
        refine ev_ex 2 (c' := (51, [some (.ref 2), some (.int a0), some (.int a1), some (.int 0)], [], cH c s1)) rfl ?_
        exact H
      · replace H := H.2 (h)
        refine ev_ex 7 (c' := (44, [some (.ref 2), some (.int a0), some (.int a1), none], [.int 0], cH c (rF s 4 2))) rfl ?_
        exact ev_ret rfl rfl rfl ⟨_, _, rfl, rfl, H⟩
    · replace H := H.2 (h)
      refine ev_ex 7 (c' := (44, [some (.ref 2), some (.int a0), some (.int a1), none], [.int 0], cH c (rF s 4 1))) rfl ?_
      exact ev_ret rfl rfl rfl ⟨_, _, rfl, rfl, H⟩
set_option maxRecDepth 8000 in
theorem w_R_meets_51 {c : CX} {d : Nat} {s : RS} {Q : Int32 → RS → Prop} (l1 : Int32) (l2 : Int32) (l3 : Int32) (H : RI c (d + 1) m_R_lastMinute [.ref 2] s (fun v2 s1 => ((v2 < l3 → Q ((-1)) s1) ∧ (¬ v2 < l3 → RB c (d + 1) m_R_areMeeting [.ref 2, .int l1, .int l2, .int l3] s1 (fun v4 s3 => ((v4 = false → eR c (d + 2) m_R_meets 51 [some (.ref 2), some (.int l1), some (.int l2), some (.int (l3 + 1))] s3 (pI c Q)) ∧ (v4 = true → Q l3 s3))))))) : eR c (d + 2) m_R_meets 51 [some (.ref 2), some (.int l1), some (.int l2), some (.int l3)] s (pI c Q) := by
  unfold eR
  refine ev_ex 0 (c' := (51, [some (.ref 2), some (.int l1), some (.int l2), some (.int l3)], [], cH c s)) rfl ?_
  refine ev_ex 2 (c' := (53, [some (.ref 2), some (.int l1), some (.int l2), some (.int l3)], [.ref 2, .int l3], cH c s)) rfl ?_
  refine rc_I (idx := 430) rfl rfl rfl (Nat.le_of_ble_eq_true rfl) (Nat.le_of_ble_eq_true rfl) rfl H (fun v2 s1 H => ?_)
  refine ev_icmp_gt (tgt := 77) rfl rfl (fun h => ?_) (fun h => ?_)
  · replace H := H.1 (h)
    refine ev_ex 1 (c' := (78, [some (.ref 2), some (.int l1), some (.int l2), some (.int l3)], [.int ((-1))], cH c s1)) rfl ?_
    exact ev_ret rfl rfl rfl ⟨_, _, rfl, rfl, H⟩
  · replace H := H.2 (h)
    refine ev_ex 4 (c' := (63, [some (.ref 2), some (.int l1), some (.int l2), some (.int l3)], [.int l3, .int l2, .int l1, .ref 2], cH c s1)) rfl ?_
    refine rc_B (idx := 433) rfl rfl rfl (Nat.le_of_ble_eq_true rfl) (Nat.le_of_ble_eq_true rfl) rfl H (fun v4 s3 H => ?_)
    refine ev_if_eqB (x := v4) (tgt := 71) rfl rfl (fun h => ?_) (fun h => ?_)
    · replace H := H.1 (h)
      refine ev_ex 2 (c' := (51, [some (.ref 2), some (.int l1), some (.int l2), some (.int (l3 + 1))], [], cH c s3)) rfl ?_
      exact H
    · replace H := H.2 (h)
      refine ev_ex 1 (c' := (70, [some (.ref 2), some (.int l1), some (.int l2), some (.int l3)], [.int l3], cH c s3)) rfl ?_
      exact ev_ret rfl rfl rfl ⟨_, _, rfl, rfl, H⟩
set_option maxRecDepth 8000 in
theorem w_R_bows {c : CX} {d : Nat} {s : RS} {Q : Int32 → RS → Prop}  (H : RV c d m_R_laysRow [.ref 2] (rF s 4 0) (fun s1 => eR c (d + 1) m_R_bows 13 [some (.ref 2), some (.int 0), some (.int 0)] s1 (pI c Q))) : RI c (d + 1) m_R_bows [.ref 2] s Q := by
  refine ⟨q_R_bows, rfl, Nat.le_of_ble_eq_true rfl, ?_⟩
  refine ev_ex 0 (c' := (0, [some (.ref 2), none, none], [], cH c s)) rfl ?_
  refine ev_ex 4 (c' := (6, [some (.ref 2), none, none], [.ref 2], cH c (rF s 4 0))) rfl ?_
  refine rc_V (idx := 362) rfl rfl rfl (Nat.le_of_ble_eq_true rfl) (Nat.le_of_ble_eq_true rfl) rfl H (fun s1 H => ?_)
  refine ev_ex 4 (c' := (13, [some (.ref 2), some (.int 0), some (.int 0)], [], cH c s1)) rfl ?_
  exact H
set_option maxRecDepth 8000 in
theorem w_R_bows_13 {c : CX} {d : Nat} {s : RS} {Q : Int32 → RS → Prop} (l1 : Int32) (l2 : Int32) (H : RI c d m_R_lastMinute [.ref 2] s (fun v2 s1 => ((v2 < l2 → Q l1 s1) ∧ (¬ v2 < l2 → RB c d m_R_anyMeet [.ref 2, .int l2] s1 (fun v4 s3 => ((v4 = false → eR c (d + 1) m_R_bows 13 [some (.ref 2), some (.int (l1 + 0)), some (.int (l2 + 1))] s3 (pI c Q)) ∧ (v4 = true → eR c (d + 1) m_R_bows 13 [some (.ref 2), some (.int (l1 + 1)), some (.int (l2 + 1))] s3 (pI c Q)))))))) : eR c (d + 1) m_R_bows 13 [some (.ref 2), some (.int l1), some (.int l2)] s (pI c Q) := by
  unfold eR
  refine ev_ex 0 (c' := (13, [some (.ref 2), some (.int l1), some (.int l2)], [], cH c s)) rfl ?_
  refine ev_ex 2 (c' := (15, [some (.ref 2), some (.int l1), some (.int l2)], [.ref 2, .int l2], cH c s)) rfl ?_
  refine rc_I (idx := 430) rfl rfl rfl (Nat.le_of_ble_eq_true rfl) (Nat.le_of_ble_eq_true rfl) rfl H (fun v2 s1 H => ?_)
  refine ev_icmp_gt (tgt := 43) rfl rfl (fun h => ?_) (fun h => ?_)
  · replace H := H.1 (h)
    refine ev_ex 1 (c' := (44, [some (.ref 2), some (.int l1), some (.int l2)], [.int l1], cH c s1)) rfl ?_
    exact ev_ret rfl rfl rfl ⟨_, _, rfl, rfl, H⟩
  · replace H := H.2 (h)
    refine ev_ex 3 (c' := (24, [some (.ref 2), some (.int l1), some (.int l2)], [.int l2, .ref 2, .int l1], cH c s1)) rfl ?_
    refine rc_B (idx := 437) rfl rfl rfl (Nat.le_of_ble_eq_true rfl) (Nat.le_of_ble_eq_true rfl) rfl H (fun v4 s3 H => ?_)
    refine ev_if_eqB (x := v4) (tgt := 34) rfl rfl (fun h => ?_) (fun h => ?_)
    · replace H := H.1 (h)
      refine ev_ex 5 (c' := (13, [some (.ref 2), some (.int (l1 + 0)), some (.int (l2 + 1))], [], cH c s3)) rfl ?_
      exact H
    · replace H := H.2 (h)
      refine ev_ex 6 (c' := (13, [some (.ref 2), some (.int (l1 + 1)), some (.int (l2 + 1))], [], cH c s3)) rfl ?_
      exact H
set_option maxRecDepth 8000 in
theorem w_R_melted {c : CX} {d : Nat} {s : RS} {Q : Int32 → RS → Prop} (a0 : Int32) (a1 : Int32) (H : (((wth a0.toInt64 0 999) = false → Q 0 (rF (rF s 4 0) 4 1)) ∧ ((wth a0.toInt64 0 999) = true → (((wth a1.toInt64 0 999) = true → RV c d m_R_laysRow [.ref 2] (rF s 4 0) (fun s1 => eR c (d + 1) m_R_melted 44 [some (.ref 2), some (.int a0), some (.int a1), some (.int 0), some (.int 0), none, none] s1 (pI c Q))) ∧ ((wth a1.toInt64 0 999) = false → Q 0 (rF (rF s 4 0) 4 1)))))) : RI c (d + 1) m_R_melted [.ref 2, .int a0, .int a1] s Q := by
  refine ⟨q_R_melted, rfl, Nat.le_of_ble_eq_true rfl, ?_⟩
  refine ev_ex 0 (c' := (0, [some (.ref 2), some (.int a0), some (.int a1), none, none, none, none], [], cH c s)) rfl ?_
  refine ev_ex 7 (c' := (11, [some (.ref 2), some (.int a0), some (.int a1), none, none, none, none], [.long 999, .long 0, .long a0.toInt64], cH c (rF s 4 0))) rfl ?_
  refine rq_B (idx := 136) (V := wth a0.toInt64 0 999) (S := rF s 4 0) rfl rfl rfl (Nat.le_of_ble_eq_true rfl) (Nat.le_of_ble_eq_true rfl) rfl (zq_R_within ⟨rfl, rfl⟩) ?_
  refine ev_if_eqB (x := (wth a0.toInt64 0 999)) (tgt := 29) rfl rfl (fun h => ?_) (fun h => ?_)
  · replace H := H.1 (h)
    refine ev_ex 2 (c' := (31, [some (.ref 2), some (.int a0), some (.int a1), none, none, none, none], [.int 1, .ref 2], cH c (rF s 4 0))) rfl ?_
    refine rq_I (idx := 258) (V := 0) (S := rF (rF s 4 0) 4 1) rfl rfl rfl (Nat.le_of_ble_eq_true rfl) (Nat.le_of_ble_eq_true rfl) rfl (zq_R_fails ⟨rfl, rfl⟩) ?_
    exact ev_ret rfl rfl rfl ⟨_, _, rfl, rfl, H⟩
  · replace H := H.2 (h)
    refine ev_ex 4 (c' := (23, [some (.ref 2), some (.int a0), some (.int a1), none, none, none, none], [.long 999, .long 0, .long a1.toInt64], cH c (rF s 4 0))) rfl ?_
    refine rq_B (idx := 136) (V := wth a1.toInt64 0 999) (S := rF s 4 0) rfl rfl rfl (Nat.le_of_ble_eq_true rfl) (Nat.le_of_ble_eq_true rfl) rfl (zq_R_within ⟨rfl, rfl⟩) ?_
    refine ev_if_neB (x := (wth a1.toInt64 0 999)) (tgt := 35) rfl rfl (fun h => ?_) (fun h => ?_)
    · replace H := H.1 (h)
      refine ev_ex 1 (c' := (36, [some (.ref 2), some (.int a0), some (.int a1), none, none, none, none], [.ref 2], cH c (rF s 4 0))) rfl ?_
      refine rc_V (idx := 362) rfl rfl rfl (Nat.le_of_ble_eq_true rfl) (Nat.le_of_ble_eq_true rfl) rfl H (fun s1 H => ?_)
      refine ev_ex 4 (c' := (44, [some (.ref 2), some (.int a0), some (.int a1), some (.int 0), some (.int 0), none, none], [], cH c s1)) rfl ?_
      exact H
    · replace H := H.2 (h)
      refine ev_ex 2 (c' := (31, [some (.ref 2), some (.int a0), some (.int a1), none, none, none, none], [.int 1, .ref 2], cH c (rF s 4 0))) rfl ?_
      refine rq_I (idx := 258) (V := 0) (S := rF (rF s 4 0) 4 1) rfl rfl rfl (Nat.le_of_ble_eq_true rfl) (Nat.le_of_ble_eq_true rfl) rfl (zq_R_fails ⟨rfl, rfl⟩) ?_
      exact ev_ret rfl rfl rfl ⟨_, _, rfl, rfl, H⟩
set_option maxRecDepth 8000 in
theorem w_R_melted_44 {c : CX} {d : Nat} {s : RS} {Q : Int32 → RS → Prop} (l1 : Int32) (l2 : Int32) (l3 : Int32) (l4 : Int32) (H : (((s.2.1 1 1) ≤ l4 → Q l3 s) ∧ (¬ (s.2.1 1 1) ≤ l4 → (okx l4 10 ∧ (okx (s.2.1 11 (ix l4)) 21 ∧ (okx l4 10 ∧ (okx (s.2.1 11 (ix l4)) 21 ∧ RI c d m_R_steps [.ref 2] s (fun v2 s1 => (okx (57 + l4) 2101 ∧ (((s1.2.1 1 (ix (57 + l4))) ≤ 0 → eR c (d + 1) m_R_melted 44 [some (.ref 2), some (.int l1), some (.int l2), some (.int (l3 ||| 0)), some (.int (l4 + 1)), none, none] s1 (pI c Q)) ∧ (¬ (s1.2.1 1 (ix (57 + l4))) ≤ 0 → (okx (57 + l4) 2101 ∧ ((((mnI (l1 + l2) ((s.2.1 10 (ix (s.2.1 11 (ix l4)))) + v2)) - (mxI l1 (s.2.1 10 (ix (s.2.1 11 (ix l4)))))) < (s1.2.1 1 (ix (57 + l4))) → eR c (d + 1) m_R_melted 44 [some (.ref 2), some (.int l1), some (.int l2), some (.int (l3 ||| 0)), some (.int (l4 + 1)), none, none] s1 (pI c Q)) ∧ (¬ ((mnI (l1 + l2) ((s.2.1 10 (ix (s.2.1 11 (ix l4)))) + v2)) - (mxI l1 (s.2.1 10 (ix (s.2.1 11 (ix l4)))))) < (s1.2.1 1 (ix (57 + l4))) → eR c (d + 1) m_R_melted 44 [some (.ref 2), some (.int l1), some (.int l2), some (.int (l3 ||| ((1 : Int32) <<< (l4 &&& 31)))), some (.int (l4 + 1)), none, none] s1 (pI c Q))))))))))))))) : eR c (d + 1) m_R_melted 44 [some (.ref 2), some (.int l1), some (.int l2), some (.int l3), some (.int l4), none, none] s (pI c Q) := by
  unfold eR
  refine ev_ex 0 (c' := (44, [some (.ref 2), some (.int l1), some (.int l2), some (.int l3), some (.int l4), none, none], [], cH c s)) rfl ?_
  refine ev_ex 2 (c' := (47, [some (.ref 2), some (.int l1), some (.int l2), some (.int l3), some (.int l4), none, none], [.ref 2, .int l4], cH c s)) rfl ?_
  refine rq_I (idx := 267) (V := s.2.1 1 1) (S := s) rfl rfl rfl (Nat.le_of_ble_eq_true rfl) (Nat.le_of_ble_eq_true rfl) rfl (zq_R_guilds ⟨rfl, rfl⟩) ?_
  refine ev_icmp_ge (tgt := 144) rfl rfl (fun h => ?_) (fun h => ?_)
  · replace H := H.1 (h)
    refine ev_ex 1 (c' := (145, [some (.ref 2), some (.int l1), some (.int l2), some (.int l3), some (.int l4), none, none], [.int l3], cH c s)) rfl ?_
    exact ev_ret rfl rfl rfl ⟨_, _, rfl, rfl, H⟩
  · replace H := H.2 (h)
    refine ev_ex 6 (c' := (64, [some (.ref 2), some (.int l1), some (.int l2), some (.int l3), some (.int l4), none, none], [.int l4, .ref 46, .ref 42, .int l1], cH c s)) rfl ?_
    obtain ⟨H0, H⟩ := H
    refine ev_ald (i := .iaload) rfl (Or.inl rfl) rfl H0 (v := .int (s.2.1 11 (ix l4))) rfl ?_
    obtain ⟨H0, H⟩ := H
    refine ev_ald (i := .iaload) rfl (Or.inl rfl) rfl H0 (v := .int (s.2.1 10 (ix (s.2.1 11 (ix l4))))) rfl ?_
    refine rq_I (idx := 414) (V := mxI l1 (s.2.1 10 (ix (s.2.1 11 (ix l4))))) (S := s) rfl rfl rfl (Nat.le_of_ble_eq_true rfl) (Nat.le_of_ble_eq_true rfl) rfl (zq_JM_max ⟨rfl, rfl⟩) ?_
    refine ev_ex 9 (c' := (84, [some (.ref 2), some (.int l1), some (.int l2), some (.int l3), some (.int l4), some (.int (mxI l1 (s.2.1 10 (ix (s.2.1 11 (ix l4)))))), none], [.int l4, .ref 46, .ref 42, .int (l1 + l2)], cH c s)) rfl ?_
    obtain ⟨H0, H⟩ := H
    refine ev_ald (i := .iaload) rfl (Or.inl rfl) rfl H0 (v := .int (s.2.1 11 (ix l4))) rfl ?_
    obtain ⟨H0, H⟩ := H
    refine ev_ald (i := .iaload) rfl (Or.inl rfl) rfl H0 (v := .int (s.2.1 10 (ix (s.2.1 11 (ix l4))))) rfl ?_
    refine ev_ex 1 (c' := (87, [some (.ref 2), some (.int l1), some (.int l2), some (.int l3), some (.int l4), some (.int (mxI l1 (s.2.1 10 (ix (s.2.1 11 (ix l4)))))), none], [.ref 2, .int (s.2.1 10 (ix (s.2.1 11 (ix l4)))), .int (l1 + l2)], cH c s)) rfl ?_
    refine rc_I (idx := 418) rfl rfl rfl (Nat.le_of_ble_eq_true rfl) (Nat.le_of_ble_eq_true rfl) rfl H (fun v2 s1 H => ?_)
    refine ev_ex 1 (c' := (91, [some (.ref 2), some (.int l1), some (.int l2), some (.int l3), some (.int l4), some (.int (mxI l1 (s.2.1 10 (ix (s.2.1 11 (ix l4)))))), none], [.int ((s.2.1 10 (ix (s.2.1 11 (ix l4)))) + v2), .int (l1 + l2)], cH c s1)) rfl ?_
    refine rq_I (idx := 416) (V := mnI (l1 + l2) ((s.2.1 10 (ix (s.2.1 11 (ix l4)))) + v2)) (S := s1) rfl rfl rfl (Nat.le_of_ble_eq_true rfl) (Nat.le_of_ble_eq_true rfl) rfl (zq_JM_min ⟨rfl, rfl⟩) ?_
    refine ev_ex 7 (c' := (106, [some (.ref 2), some (.int l1), some (.int l2), some (.int l3), some (.int l4), some (.int (mxI l1 (s.2.1 10 (ix (s.2.1 11 (ix l4)))))), some (.int (mnI (l1 + l2) ((s.2.1 10 (ix (s.2.1 11 (ix l4)))) + v2)))], [.int (57 + l4), .ref 6, .int l3], cH c s1)) rfl ?_
    obtain ⟨H0, H⟩ := H
    refine ev_ald (i := .iaload) rfl (Or.inl rfl) rfl H0 (v := .int (s1.2.1 1 (ix (57 + l4)))) rfl ?_
    refine ev_if_le (tgt := 135) rfl rfl (fun h => ?_) (fun h => ?_)
    · replace H := H.1 (h)
      refine ev_ex 5 (c' := (44, [some (.ref 2), some (.int l1), some (.int l2), some (.int (l3 ||| 0)), some (.int (l4 + 1)), some (.int (mxI l1 (s.2.1 10 (ix (s.2.1 11 (ix l4)))))), some (.int (mnI (l1 + l2) ((s.2.1 10 (ix (s.2.1 11 (ix l4)))) + v2)))], [], cH c s1)) rfl ?_
      exact ev_less (lle_of (L := [some (.ref 2), some (.int l1), some (.int l2), some (.int (l3 ||| 0)), some (.int (l4 + 1)), none, none]) ⟨rfl, ⟨rfl, ⟨rfl, ⟨rfl, ⟨rfl, trivial⟩⟩⟩⟩⟩) H
    · replace H := H.2 (h)
      refine ev_ex 8 (c' := (124, [some (.ref 2), some (.int l1), some (.int l2), some (.int l3), some (.int l4), some (.int (mxI l1 (s.2.1 10 (ix (s.2.1 11 (ix l4)))))), some (.int (mnI (l1 + l2) ((s.2.1 10 (ix (s.2.1 11 (ix l4)))) + v2)))], [.int (57 + l4), .ref 6, .int ((mnI (l1 + l2) ((s.2.1 10 (ix (s.2.1 11 (ix l4)))) + v2)) - (mxI l1 (s.2.1 10 (ix (s.2.1 11 (ix l4)))))), .int l3], cH c s1)) rfl ?_
      obtain ⟨H0, H⟩ := H
      refine ev_ald (i := .iaload) rfl (Or.inl rfl) rfl H0 (v := .int (s1.2.1 1 (ix (57 + l4)))) rfl ?_
      refine ev_icmp_lt (tgt := 135) rfl rfl (fun h => ?_) (fun h => ?_)
      · replace H := H.1 (h)
        refine ev_ex 5 (c' := (44, [some (.ref 2), some (.int l1), some (.int l2), some (.int (l3 ||| 0)), some (.int (l4 + 1)), some (.int (mxI l1 (s.2.1 10 (ix (s.2.1 11 (ix l4)))))), some (.int (mnI (l1 + l2) ((s.2.1 10 (ix (s.2.1 11 (ix l4)))) + v2)))], [], cH c s1)) rfl ?_
        exact ev_less (lle_of (L := [some (.ref 2), some (.int l1), some (.int l2), some (.int (l3 ||| 0)), some (.int (l4 + 1)), none, none]) ⟨rfl, ⟨rfl, ⟨rfl, ⟨rfl, ⟨rfl, trivial⟩⟩⟩⟩⟩) H
      · replace H := H.2 (h)
        refine ev_ex 8 (c' := (44, [some (.ref 2), some (.int l1), some (.int l2), some (.int (l3 ||| ((1 : Int32) <<< (l4 &&& 31)))), some (.int (l4 + 1)), some (.int (mxI l1 (s.2.1 10 (ix (s.2.1 11 (ix l4)))))), some (.int (mnI (l1 + l2) ((s.2.1 10 (ix (s.2.1 11 (ix l4)))) + v2)))], [], cH c s1)) rfl ?_
        exact ev_less (lle_of (L := [some (.ref 2), some (.int l1), some (.int l2), some (.int (l3 ||| ((1 : Int32) <<< (l4 &&& 31)))), some (.int (l4 + 1)), none, none]) ⟨rfl, ⟨rfl, ⟨rfl, ⟨rfl, ⟨rfl, trivial⟩⟩⟩⟩⟩) H
set_option maxRecDepth 8000 in
theorem w_R_noise {c : CX} {d : Nat} {s : RS} {Q : Int32 → RS → Prop}  (H : RV c d m_R_laysRow [.ref 2] (rF s 4 0) (fun s1 => eR c (d + 1) m_R_noise 13 [some (.ref 2), some (.int 0), some (.int 1)] s1 (pI c Q))) : RI c (d + 1) m_R_noise [.ref 2] s Q := by
  refine ⟨q_R_noise, rfl, Nat.le_of_ble_eq_true rfl, ?_⟩
  refine ev_ex 0 (c' := (0, [some (.ref 2), none, none], [], cH c s)) rfl ?_
  refine ev_ex 4 (c' := (6, [some (.ref 2), none, none], [.ref 2], cH c (rF s 4 0))) rfl ?_
  refine rc_V (idx := 362) rfl rfl rfl (Nat.le_of_ble_eq_true rfl) (Nat.le_of_ble_eq_true rfl) rfl H (fun s1 H => ?_)
  refine ev_ex 4 (c' := (13, [some (.ref 2), some (.int 0), some (.int 1)], [], cH c s1)) rfl ?_
  exact H
set_option maxRecDepth 8000 in
theorem w_R_noise_13 {c : CX} {d : Nat} {s : RS} {Q : Int32 → RS → Prop} (l1 : Int32) (l2 : Int32) (H : (((s.1 26) ≤ l2 → Q l1 s) ∧ (¬ (s.1 26) ≤ l2 → (okx l2 20 ∧ ((100 ≤ (s.2.1 9 (ix l2)) → eR c (d + 1) m_R_noise 13 [some (.ref 2), some (.int (l1 + 0)), some (.int (l2 + 1))] s (pI c Q)) ∧ (¬ 100 ≤ (s.2.1 9 (ix l2)) → (okx (l2 - 1) 20 ∧ ((100 ≤ (s.2.1 9 (ix (l2 - 1))) → eR c (d + 1) m_R_noise 13 [some (.ref 2), some (.int (l1 + 0)), some (.int (l2 + 1))] s (pI c Q)) ∧ (¬ 100 ≤ (s.2.1 9 (ix (l2 - 1))) → (okx l2 20 ∧ (okx (6 + (s.2.1 9 (ix l2))) 2101 ∧ (okx (l2 - 1) 20 ∧ ((¬ (s.2.1 1 (ix (6 + (s.2.1 9 (ix l2))))) = (s.2.1 9 (ix (l2 - 1))) → eR c (d + 1) m_R_noise 13 [some (.ref 2), some (.int (l1 + 0)), some (.int (l2 + 1))] s (pI c Q)) ∧ ((s.2.1 1 (ix (6 + (s.2.1 9 (ix l2))))) = (s.2.1 9 (ix (l2 - 1))) → (okx (l2 - 1) 20 ∧ (okx l2 20 ∧ RI c d m_R_noiseOf [.ref 2, .int (s.2.1 9 (ix (l2 - 1))), .int (s.2.1 9 (ix l2))] s (fun v2 s1 => eR c (d + 1) m_R_noise 13 [some (.ref 2), some (.int (l1 + v2)), some (.int (l2 + 1))] s1 (pI c Q)))))))))))))))))) : eR c (d + 1) m_R_noise 13 [some (.ref 2), some (.int l1), some (.int l2)] s (pI c Q) := by
  unfold eR
  refine ev_ex 0 (c' := (13, [some (.ref 2), some (.int l1), some (.int l2)], [], cH c s)) rfl ?_
  refine ev_ex 3 (c' := (18, [some (.ref 2), some (.int l1), some (.int l2)], [.int (s.1 26), .int l2], cH c s)) rfl ?_
  refine ev_icmp_ge (tgt := 97) rfl rfl (fun h => ?_) (fun h => ?_)
  · replace H := H.1 (h)
    refine ev_ex 1 (c' := (98, [some (.ref 2), some (.int l1), some (.int l2)], [.int l1], cH c s)) rfl ?_
    exact ev_ret rfl rfl rfl ⟨_, _, rfl, rfl, H⟩
  · replace H := H.2 (h)
    refine ev_ex 4 (c' := (27, [some (.ref 2), some (.int l1), some (.int l2)], [.int l2, .ref 38, .int l1], cH c s)) rfl ?_
    obtain ⟨H0, H⟩ := H
    refine ev_ald (i := .iaload) rfl (Or.inl rfl) rfl H0 (v := .int (s.2.1 9 (ix l2))) rfl ?_
    refine ev_ex 1 (c' := (30, [some (.ref 2), some (.int l1), some (.int l2)], [.int 100, .int (s.2.1 9 (ix l2)), .int l1], cH c s)) rfl ?_
    refine ev_icmp_ge (tgt := 88) rfl rfl (fun h => ?_) (fun h => ?_)
    · replace H := H.1 (h)
      refine ev_ex 5 (c' := (13, [some (.ref 2), some (.int (l1 + 0)), some (.int (l2 + 1))], [], cH c s)) rfl ?_
      exact H
    · replace H := H.2 (h)
      refine ev_ex 5 (c' := (40, [some (.ref 2), some (.int l1), some (.int l2)], [.int (l2 - 1), .ref 38, .int l1], cH c s)) rfl ?_
      obtain ⟨H0, H⟩ := H
      refine ev_ald (i := .iaload) rfl (Or.inl rfl) rfl H0 (v := .int (s.2.1 9 (ix (l2 - 1)))) rfl ?_
      refine ev_ex 1 (c' := (43, [some (.ref 2), some (.int l1), some (.int l2)], [.int 100, .int (s.2.1 9 (ix (l2 - 1))), .int l1], cH c s)) rfl ?_
      refine ev_icmp_ge (tgt := 88) rfl rfl (fun h => ?_) (fun h => ?_)
      · replace H := H.1 (h)
        refine ev_ex 5 (c' := (13, [some (.ref 2), some (.int (l1 + 0)), some (.int (l2 + 1))], [], cH c s)) rfl ?_
        exact H
      · replace H := H.2 (h)
        refine ev_ex 4 (c' := (52, [some (.ref 2), some (.int l1), some (.int l2)], [.int l2, .ref 38, .ref 2, .int l1], cH c s)) rfl ?_
        obtain ⟨H0, H⟩ := H
        refine ev_ald (i := .iaload) rfl (Or.inl rfl) rfl H0 (v := .int (s.2.1 9 (ix l2))) rfl ?_
        obtain ⟨H1, H⟩ := H
        refine rq_I (idx := 270) (V := s.2.1 1 (ix (6 + (s.2.1 9 (ix l2))))) (S := s) rfl rfl rfl (Nat.le_of_ble_eq_true rfl) (Nat.le_of_ble_eq_true rfl) rfl (zq_R_mocked H1 ⟨rfl, rfl⟩) ?_
        refine ev_ex 5 (c' := (63, [some (.ref 2), some (.int l1), some (.int l2)], [.int (l2 - 1), .ref 38, .int (s.2.1 1 (ix (6 + (s.2.1 9 (ix l2))))), .int l1], cH c s)) rfl ?_
        obtain ⟨H0, H⟩ := H
        refine ev_ald (i := .iaload) rfl (Or.inl rfl) rfl H0 (v := .int (s.2.1 9 (ix (l2 - 1)))) rfl ?_
        refine ev_icmp_ne (tgt := 88) rfl rfl (fun h => ?_) (fun h => ?_)
        · replace H := H.1 (h)
          refine ev_ex 5 (c' := (13, [some (.ref 2), some (.int (l1 + 0)), some (.int (l2 + 1))], [], cH c s)) rfl ?_
          exact H
        · replace H := H.2 (h)
          refine ev_ex 6 (c' := (75, [some (.ref 2), some (.int l1), some (.int l2)], [.int (l2 - 1), .ref 38, .ref 2, .int l1], cH c s)) rfl ?_
          obtain ⟨H0, H⟩ := H
          refine ev_ald (i := .iaload) rfl (Or.inl rfl) rfl H0 (v := .int (s.2.1 9 (ix (l2 - 1)))) rfl ?_
          refine ev_ex 3 (c' := (81, [some (.ref 2), some (.int l1), some (.int l2)], [.int l2, .ref 38, .int (s.2.1 9 (ix (l2 - 1))), .ref 2, .int l1], cH c s)) rfl ?_
          obtain ⟨H0, H⟩ := H
          refine ev_ald (i := .iaload) rfl (Or.inl rfl) rfl H0 (v := .int (s.2.1 9 (ix l2))) rfl ?_
          refine rc_I (idx := 442) rfl rfl rfl (Nat.le_of_ble_eq_true rfl) (Nat.le_of_ble_eq_true rfl) rfl H (fun v2 s1 H => ?_)
          refine ev_ex 5 (c' := (13, [some (.ref 2), some (.int (l1 + v2)), some (.int (l2 + 1))], [], cH c s1)) rfl ?_
          exact H
set_option maxRecDepth 8000 in
theorem w_R_quietest {c : CX} {d : Nat} {s : RS} {Q : Int32 → RS → Prop} (a0 : Int32) (a1 : Int32) (H : ((¬ (a0 &&& (-((1 : Int32) <<< ((s.2.1 1 1) &&& 31)))) = 0 → Q 0 (rF (rF s 4 0) 4 1)) ∧ ((a0 &&& (-((1 : Int32) <<< ((s.2.1 1 1) &&& 31)))) = 0 → RI c d m_R_size [.int a0] (rF s 4 0) (fun v2 s1 => ((8 < v2 → Q 0 (rF s1 4 1)) ∧ (¬ 8 < v2 → ((a1 = 0 → RV c d m_R_goesOrders [.ref 2, .int 0, .int a0, .int 0] (rF s1 32 0) (fun s3 => ((¬ a1 = 0 → RI c d m_R_size [.int a0] s3 (fun v5 s4 => ((v5 ≤ (a1 - 10) → Q ((-1)) s4) ∧ (¬ v5 ≤ (a1 - 10) → (okx (a1 - 10) 8 ∧ Q (s4.2.1 13 (ix (a1 - 10))) s4))))) ∧ (a1 = 0 → Q (s3.1 31) s3)))) ∧ (¬ a1 = 0 → (((wth a1.toInt64 10 17) = true → RV c d m_R_goesOrders [.ref 2, .int 0, .int a0, .int 0] (rF s1 32 0) (fun s6 => ((¬ a1 = 0 → RI c d m_R_size [.int a0] s6 (fun v8 s7 => ((v8 ≤ (a1 - 10) → Q ((-1)) s7) ∧ (¬ v8 ≤ (a1 - 10) → (okx (a1 - 10) 8 ∧ Q (s7.2.1 13 (ix (a1 - 10))) s7))))) ∧ (a1 = 0 → Q (s6.1 31) s6)))) ∧ ((wth a1.toInt64 10 17) = false → Q 0 (rF s1 4 1))))))))))) : RI c (d + 1) m_R_quietest [.ref 2, .int a0, .int a1] s Q := by
  refine ⟨q_R_quietest, rfl, Nat.le_of_ble_eq_true rfl, ?_⟩
  refine ev_ex 0 (c' := (0, [some (.ref 2), some (.int a0), some (.int a1)], [], cH c s)) rfl ?_
  refine ev_ex 6 (c' := (8, [some (.ref 2), some (.int a0), some (.int a1)], [.ref 2, .int 1, .int a0], cH c (rF s 4 0))) rfl ?_
  refine rq_I (idx := 267) (V := s.2.1 1 1) (S := rF s 4 0) rfl rfl rfl (Nat.le_of_ble_eq_true rfl) (Nat.le_of_ble_eq_true rfl) rfl (zq_R_guilds ⟨rfl, rfl⟩) ?_
  refine ev_ex 3 (c' := (14, [some (.ref 2), some (.int a0), some (.int a1)], [.int (a0 &&& (-((1 : Int32) <<< ((s.2.1 1 1) &&& 31))))], cH c (rF s 4 0))) rfl ?_
  refine ev_if_ne (tgt := 44) rfl rfl (fun h => ?_) (fun h => ?_)
  · replace H := H.1 (h)
    refine ev_ex 2 (c' := (46, [some (.ref 2), some (.int a0), some (.int a1)], [.int 1, .ref 2], cH c (rF s 4 0))) rfl ?_
    refine rq_I (idx := 258) (V := 0) (S := rF (rF s 4 0) 4 1) rfl rfl rfl (Nat.le_of_ble_eq_true rfl) (Nat.le_of_ble_eq_true rfl) rfl (zq_R_fails ⟨rfl, rfl⟩) ?_
    exact ev_ret rfl rfl rfl ⟨_, _, rfl, rfl, H⟩
  · replace H := H.2 (h)
    refine ev_ex 1 (c' := (18, [some (.ref 2), some (.int a0), some (.int a1)], [.int a0], cH c (rF s 4 0))) rfl ?_
    refine rc_I (idx := 293) rfl rfl rfl (Nat.le_of_ble_eq_true rfl) (Nat.le_of_ble_eq_true rfl) rfl H (fun v2 s1 H => ?_)
    refine ev_ex 1 (c' := (23, [some (.ref 2), some (.int a0), some (.int a1)], [.int 8, .int v2], cH c s1)) rfl ?_
    refine ev_icmp_gt (tgt := 44) rfl rfl (fun h => ?_) (fun h => ?_)
    · replace H := H.1 (h)
      refine ev_ex 2 (c' := (46, [some (.ref 2), some (.int a0), some (.int a1)], [.int 1, .ref 2], cH c s1)) rfl ?_
      refine rq_I (idx := 258) (V := 0) (S := rF s1 4 1) rfl rfl rfl (Nat.le_of_ble_eq_true rfl) (Nat.le_of_ble_eq_true rfl) rfl (zq_R_fails ⟨rfl, rfl⟩) ?_
      exact ev_ret rfl rfl rfl ⟨_, _, rfl, rfl, H⟩
    · replace H := H.2 (h)
      refine ev_ex 1 (c' := (27, [some (.ref 2), some (.int a0), some (.int a1)], [.int a1], cH c s1)) rfl ?_
      refine ev_if_eq (tgt := 50) rfl rfl (fun h => ?_) (fun h => ?_)
      · replace H := H.1 (h)
        refine ev_ex 7 (c' := (59, [some (.ref 2), some (.int a0), some (.int a1)], [.int 0, .int a0, .int 0, .ref 2], cH c (rF s1 32 0))) rfl ?_
        refine rc_V (idx := 452) rfl rfl rfl (Nat.le_of_ble_eq_true rfl) (Nat.le_of_ble_eq_true rfl) rfl H (fun s3 H => ?_)
        refine ev_ex 1 (c' := (63, [some (.ref 2), some (.int a0), some (.int a1)], [.int a1], cH c s3)) rfl ?_
        refine ev_if_ne (tgt := 73) rfl rfl (fun h => ?_) (fun h => ?_)
        · replace H := H.1 (h)
          refine ev_ex 4 (c' := (78, [some (.ref 2), some (.int a0), some (.int a1)], [.int a0, .int (a1 - 10)], cH c s3)) rfl ?_
          refine rc_I (idx := 293) rfl rfl rfl (Nat.le_of_ble_eq_true rfl) (Nat.le_of_ble_eq_true rfl) rfl H (fun v5 s4 H => ?_)
          refine ev_icmp_ge (tgt := 96) rfl rfl (fun h => ?_) (fun h => ?_)
          · replace H := H.1 (h)
            refine ev_ex 1 (c' := (97, [some (.ref 2), some (.int a0), some (.int a1)], [.int ((-1))], cH c s4)) rfl ?_
            exact ev_ret rfl rfl rfl ⟨_, _, rfl, rfl, H⟩
          · replace H := H.2 (h)
            refine ev_ex 5 (c' := (92, [some (.ref 2), some (.int a0), some (.int a1)], [.int (a1 - 10), .ref 54], cH c s4)) rfl ?_
            obtain ⟨H0, H⟩ := H
            refine ev_ald (i := .iaload) rfl (Or.inl rfl) rfl H0 (v := .int (s4.2.1 13 (ix (a1 - 10)))) rfl ?_
            refine ev_ex 1 (c' := (97, [some (.ref 2), some (.int a0), some (.int a1)], [.int (s4.2.1 13 (ix (a1 - 10)))], cH c s4)) rfl ?_
            exact ev_ret rfl rfl rfl ⟨_, _, rfl, rfl, H⟩
        · replace H := H.2 (h)
          refine ev_ex 3 (c' := (97, [some (.ref 2), some (.int a0), some (.int a1)], [.int (s3.1 31)], cH c s3)) rfl ?_
          exact ev_ret rfl rfl rfl ⟨_, _, rfl, rfl, H⟩
      · replace H := H.2 (h)
        refine ev_ex 4 (c' := (38, [some (.ref 2), some (.int a0), some (.int a1)], [.long 17, .long 10, .long a1.toInt64], cH c s1)) rfl ?_
        refine rq_B (idx := 136) (V := wth a1.toInt64 10 17) (S := s1) rfl rfl rfl (Nat.le_of_ble_eq_true rfl) (Nat.le_of_ble_eq_true rfl) rfl (zq_R_within ⟨rfl, rfl⟩) ?_
        refine ev_if_neB (x := (wth a1.toInt64 10 17)) (tgt := 50) rfl rfl (fun h => ?_) (fun h => ?_)
        · replace H := H.1 (h)
          refine ev_ex 7 (c' := (59, [some (.ref 2), some (.int a0), some (.int a1)], [.int 0, .int a0, .int 0, .ref 2], cH c (rF s1 32 0))) rfl ?_
          refine rc_V (idx := 452) rfl rfl rfl (Nat.le_of_ble_eq_true rfl) (Nat.le_of_ble_eq_true rfl) rfl H (fun s6 H => ?_)
          refine ev_ex 1 (c' := (63, [some (.ref 2), some (.int a0), some (.int a1)], [.int a1], cH c s6)) rfl ?_
          refine ev_if_ne (tgt := 73) rfl rfl (fun h => ?_) (fun h => ?_)
          · replace H := H.1 (h)
            refine ev_ex 4 (c' := (78, [some (.ref 2), some (.int a0), some (.int a1)], [.int a0, .int (a1 - 10)], cH c s6)) rfl ?_
            refine rc_I (idx := 293) rfl rfl rfl (Nat.le_of_ble_eq_true rfl) (Nat.le_of_ble_eq_true rfl) rfl H (fun v8 s7 H => ?_)
            refine ev_icmp_ge (tgt := 96) rfl rfl (fun h => ?_) (fun h => ?_)
            · replace H := H.1 (h)
              refine ev_ex 1 (c' := (97, [some (.ref 2), some (.int a0), some (.int a1)], [.int ((-1))], cH c s7)) rfl ?_
              exact ev_ret rfl rfl rfl ⟨_, _, rfl, rfl, H⟩
            · replace H := H.2 (h)
              refine ev_ex 5 (c' := (92, [some (.ref 2), some (.int a0), some (.int a1)], [.int (a1 - 10), .ref 54], cH c s7)) rfl ?_
              obtain ⟨H0, H⟩ := H
              refine ev_ald (i := .iaload) rfl (Or.inl rfl) rfl H0 (v := .int (s7.2.1 13 (ix (a1 - 10)))) rfl ?_
              refine ev_ex 1 (c' := (97, [some (.ref 2), some (.int a0), some (.int a1)], [.int (s7.2.1 13 (ix (a1 - 10)))], cH c s7)) rfl ?_
              exact ev_ret rfl rfl rfl ⟨_, _, rfl, rfl, H⟩
          · replace H := H.2 (h)
            refine ev_ex 3 (c' := (97, [some (.ref 2), some (.int a0), some (.int a1)], [.int (s6.1 31)], cH c s6)) rfl ?_
            exact ev_ret rfl rfl rfl ⟨_, _, rfl, rfl, H⟩
        · replace H := H.2 (h)
          refine ev_ex 2 (c' := (46, [some (.ref 2), some (.int a0), some (.int a1)], [.int 1, .ref 2], cH c s1)) rfl ?_
          refine rq_I (idx := 258) (V := 0) (S := rF s1 4 1) rfl rfl rfl (Nat.le_of_ble_eq_true rfl) (Nat.le_of_ble_eq_true rfl) rfl (zq_R_fails ⟨rfl, rfl⟩) ?_
          exact ev_ret rfl rfl rfl ⟨_, _, rfl, rfl, H⟩
set_option maxRecDepth 8000 in
theorem w_R_comesBack {c : CX} {d : Nat} {s : RS} {Q : Int32 → RS → Prop} (a0 : Int32) (H : (((wth a0.toInt64 0 1) = true → RV c d m_R_putsAside [.ref 2] (rF s 4 0) (fun s1 => RJ c d m_R_allMocked [.ref 2] s1 (fun v3 s2 => (okx 0 1001 ∧ eR c (d + 1) m_R_comesBack 39 [some (.ref 2), some (.int a0), some (.int ((-1))), some (.int 0), none] (rL s2 14 (ix 0) v3) (pI c Q))))) ∧ ((wth a0.toInt64 0 1) = false → Q 0 (rF (rF s 4 0) 4 1)))) : RI c (d + 1) m_R_comesBack [.ref 2, .int a0] s Q := by
  refine ⟨q_R_comesBack, rfl, Nat.le_of_ble_eq_true rfl, ?_⟩
  refine ev_ex 0 (c' := (0, [some (.ref 2), some (.int a0), none, none, none], [], cH c s)) rfl ?_
  refine ev_ex 7 (c' := (9, [some (.ref 2), some (.int a0), none, none, none], [.long 1, .long 0, .long a0.toInt64], cH c (rF s 4 0))) rfl ?_
  refine rq_B (idx := 136) (V := wth a0.toInt64 0 1) (S := rF s 4 0) rfl rfl rfl (Nat.le_of_ble_eq_true rfl) (Nat.le_of_ble_eq_true rfl) rfl (zq_R_within ⟨rfl, rfl⟩) ?_
  refine ev_if_neB (x := (wth a0.toInt64 0 1)) (tgt := 21) rfl rfl (fun h => ?_) (fun h => ?_)
  · replace H := H.1 (h)
    refine ev_ex 1 (c' := (22, [some (.ref 2), some (.int a0), none, none, none], [.ref 2], cH c (rF s 4 0))) rfl ?_
    refine rc_V (idx := 334) rfl rfl rfl (Nat.le_of_ble_eq_true rfl) (Nat.le_of_ble_eq_true rfl) rfl H (fun s1 H => ?_)
    refine ev_ex 8 (c' := (35, [some (.ref 2), some (.int a0), some (.int ((-1))), some (.int 0), none], [.ref 2, .int 0, .ref 58], cH c s1)) rfl ?_
    refine rc_J (idx := 460) rfl rfl rfl (Nat.le_of_ble_eq_true rfl) (Nat.le_of_ble_eq_true rfl) rfl H (fun v3 s2 H => ?_)
    obtain ⟨H0, H⟩ := H
    refine ev_ast (i := .lastore) rfl (Or.inr (Or.inr (Or.inl rfl))) rfl H0 (by decide) rfl rfl (σ' := cH c (rL s2 14 (ix 0) v3)) rfl ?_
    exact H
  · replace H := H.2 (h)
    refine ev_ex 2 (c' := (17, [some (.ref 2), some (.int a0), none, none, none], [.int 1, .ref 2], cH c (rF s 4 0))) rfl ?_
    refine rq_I (idx := 258) (V := 0) (S := rF (rF s 4 0) 4 1) rfl rfl rfl (Nat.le_of_ble_eq_true rfl) (Nat.le_of_ble_eq_true rfl) rfl (zq_R_fails ⟨rfl, rfl⟩) ?_
    exact ev_ret rfl rfl rfl ⟨_, _, rfl, rfl, H⟩
set_option maxRecDepth 8000 in
theorem w_R_comesBack_39 {c : CX} {d : Nat} {s : RS} {Q : Int32 → RS → Prop} (l1 : Int32) (l2 : Int32) (l3 : Int32) (H : ((¬ l2 = ((-1)) → RV c d m_R_putsBack [.ref 2] s (fun s1 => ((l2 = ((-1)) → Q l2 s1) ∧ (¬ l2 = ((-1)) → ((¬ l1 = 0 → Q (l3 - l2) s1) ∧ (l1 = 0 → Q l2 s1)))))) ∧ (l2 = ((-1)) → ((1000 ≤ l3 → RV c d m_R_putsBack [.ref 2] s (fun s2 => ((l2 = ((-1)) → Q l2 s2) ∧ (¬ l2 = ((-1)) → ((¬ l1 = 0 → Q (l3 - l2) s2) ∧ (l1 = 0 → Q l2 s2)))))) ∧ (¬ 1000 ≤ l3 → RV c d m_R_night [.ref 2] s (fun s3 => RJ c d m_R_allMocked [.ref 2] s3 (fun v5 s4 => (okx (l3 + 1) 1001 ∧ eR c (d + 1) m_R_comesBack 73 [some (.ref 2), some (.int l1), some (.int l2), some (.int (l3 + 1)), some (.int ((l3 + 1) - 1))] (rL s4 14 (ix (l3 + 1)) v5) (pI c Q))))))))) : eR c (d + 1) m_R_comesBack 39 [some (.ref 2), some (.int l1), some (.int l2), some (.int l3), none] s (pI c Q) := by
  unfold eR
  refine ev_ex 0 (c' := (39, [some (.ref 2), some (.int l1), some (.int l2), some (.int l3), none], [], cH c s)) rfl ?_
  refine ev_ex 2 (c' := (41, [some (.ref 2), some (.int l1), some (.int l2), some (.int l3), none], [.int ((-1)), .int l2], cH c s)) rfl ?_
  refine ev_icmp_ne (tgt := 107) rfl rfl (fun h => ?_) (fun h => ?_)
  · replace H := H.1 (h)
    refine ev_ex 1 (c' := (108, [some (.ref 2), some (.int l1), some (.int l2), some (.int l3), none], [.ref 2], cH c s)) rfl ?_
    refine rc_V (idx := 368) rfl rfl rfl (Nat.le_of_ble_eq_true rfl) (Nat.le_of_ble_eq_true rfl) rfl H (fun s1 H => ?_)
    refine ev_ex 2 (c' := (113, [some (.ref 2), some (.int l1), some (.int l2), some (.int l3), none], [.int ((-1)), .int l2], cH c s1)) rfl ?_
    refine ev_icmp_eq (tgt := 120) rfl rfl (fun h => ?_) (fun h => ?_)
    · replace H := H.1 (h)
      refine ev_ex 2 (c' := (127, [some (.ref 2), some (.int l1), some (.int l2), some (.int l3), none], [.int l2], cH c s1)) rfl ?_
      exact ev_ret rfl rfl rfl ⟨_, _, rfl, rfl, H⟩
    · replace H := H.2 (h)
      refine ev_ex 1 (c' := (117, [some (.ref 2), some (.int l1), some (.int l2), some (.int l3), none], [.int l1], cH c s1)) rfl ?_
      refine ev_if_ne (tgt := 124) rfl rfl (fun h => ?_) (fun h => ?_)
      · replace H := H.1 (h)
        refine ev_ex 3 (c' := (127, [some (.ref 2), some (.int l1), some (.int l2), some (.int l3), none], [.int (l3 - l2)], cH c s1)) rfl ?_
        exact ev_ret rfl rfl rfl ⟨_, _, rfl, rfl, H⟩
      · replace H := H.2 (h)
        refine ev_ex 2 (c' := (127, [some (.ref 2), some (.int l1), some (.int l2), some (.int l3), none], [.int l2], cH c s1)) rfl ?_
        exact ev_ret rfl rfl rfl ⟨_, _, rfl, rfl, H⟩
  · replace H := H.2 (h)
    refine ev_ex 2 (c' := (48, [some (.ref 2), some (.int l1), some (.int l2), some (.int l3), none], [.int 1000, .int l3], cH c s)) rfl ?_
    refine ev_icmp_ge (tgt := 107) rfl rfl (fun h => ?_) (fun h => ?_)
    · replace H := H.1 (h)
      refine ev_ex 1 (c' := (108, [some (.ref 2), some (.int l1), some (.int l2), some (.int l3), none], [.ref 2], cH c s)) rfl ?_
      refine rc_V (idx := 368) rfl rfl rfl (Nat.le_of_ble_eq_true rfl) (Nat.le_of_ble_eq_true rfl) rfl H (fun s2 H => ?_)
      refine ev_ex 2 (c' := (113, [some (.ref 2), some (.int l1), some (.int l2), some (.int l3), none], [.int ((-1)), .int l2], cH c s2)) rfl ?_
      refine ev_icmp_eq (tgt := 120) rfl rfl (fun h => ?_) (fun h => ?_)
      · replace H := H.1 (h)
        refine ev_ex 2 (c' := (127, [some (.ref 2), some (.int l1), some (.int l2), some (.int l3), none], [.int l2], cH c s2)) rfl ?_
        exact ev_ret rfl rfl rfl ⟨_, _, rfl, rfl, H⟩
      · replace H := H.2 (h)
        refine ev_ex 1 (c' := (117, [some (.ref 2), some (.int l1), some (.int l2), some (.int l3), none], [.int l1], cH c s2)) rfl ?_
        refine ev_if_ne (tgt := 124) rfl rfl (fun h => ?_) (fun h => ?_)
        · replace H := H.1 (h)
          refine ev_ex 3 (c' := (127, [some (.ref 2), some (.int l1), some (.int l2), some (.int l3), none], [.int (l3 - l2)], cH c s2)) rfl ?_
          exact ev_ret rfl rfl rfl ⟨_, _, rfl, rfl, H⟩
        · replace H := H.2 (h)
          refine ev_ex 2 (c' := (127, [some (.ref 2), some (.int l1), some (.int l2), some (.int l3), none], [.int l2], cH c s2)) rfl ?_
          exact ev_ret rfl rfl rfl ⟨_, _, rfl, rfl, H⟩
    · replace H := H.2 (h)
      refine ev_ex 1 (c' := (52, [some (.ref 2), some (.int l1), some (.int l2), some (.int l3), none], [.ref 2], cH c s)) rfl ?_
      refine rc_V (idx := 337) rfl rfl rfl (Nat.le_of_ble_eq_true rfl) (Nat.le_of_ble_eq_true rfl) rfl H (fun s3 H => ?_)
      refine ev_ex 5 (c' := (64, [some (.ref 2), some (.int l1), some (.int l2), some (.int (l3 + 1)), none], [.ref 2, .int (l3 + 1), .ref 58], cH c s3)) rfl ?_
      refine rc_J (idx := 460) rfl rfl rfl (Nat.le_of_ble_eq_true rfl) (Nat.le_of_ble_eq_true rfl) rfl H (fun v5 s4 H => ?_)
      obtain ⟨H0, H⟩ := H
      refine ev_ast (i := .lastore) rfl (Or.inr (Or.inr (Or.inl rfl))) rfl H0 (by decide) rfl rfl (σ' := cH c (rL s4 14 (ix (l3 + 1)) v5)) rfl ?_
      refine ev_ex 4 (c' := (73, [some (.ref 2), some (.int l1), some (.int l2), some (.int (l3 + 1)), some (.int ((l3 + 1) - 1))], [], cH c (rL s4 14 (ix (l3 + 1)) v5))) rfl ?_
      exact H
set_option maxRecDepth 8000 in
theorem w_R_comesBack_73 {c : CX} {d : Nat} {s : RS} {Q : Int32 → RS → Prop} (l1 : Int32) (l2 : Int32) (l3 : Int32) (l4 : Int32) (H : ((l4 < 0 → eR c (d + 1) m_R_comesBack 39 [some (.ref 2), some (.int l1), some (.int l2), some (.int l3), none] s (pI c Q)) ∧ (¬ l4 < 0 → (okx l4 1001 ∧ (okx l3 1001 ∧ ((¬ (s.2.2 14 (ix l4)) = (s.2.2 14 (ix l3)) → eR c (d + 1) m_R_comesBack 73 [some (.ref 2), some (.int l1), some (.int l2), some (.int l3), some (.int (l4 + (-1)))] s (pI c Q)) ∧ ((s.2.2 14 (ix l4)) = (s.2.2 14 (ix l3)) → eR c (d + 1) m_R_comesBack 73 [some (.ref 2), some (.int l1), some (.int l4), some (.int l3), some (.int (l4 + (-1)))] s (pI c Q)))))))) : eR c (d + 1) m_R_comesBack 73 [some (.ref 2), some (.int l1), some (.int l2), some (.int l3), some (.int l4)] s (pI c Q) := by
  unfold eR
  refine ev_ex 0 (c' := (73, [some (.ref 2), some (.int l1), some (.int l2), some (.int l3), some (.int l4)], [], cH c s)) rfl ?_
  refine ev_ex 1 (c' := (75, [some (.ref 2), some (.int l1), some (.int l2), some (.int l3), some (.int l4)], [.int l4], cH c s)) rfl ?_
  refine ev_if_lt (tgt := 104) rfl rfl (fun h => ?_) (fun h => ?_)
  · replace H := H.1 (h)
    refine ev_ex 1 (c' := (39, [some (.ref 2), some (.int l1), some (.int l2), some (.int l3), some (.int l4)], [], cH c s)) rfl ?_
    exact ev_less (lle_of (L := [some (.ref 2), some (.int l1), some (.int l2), some (.int l3), none]) ⟨rfl, ⟨rfl, ⟨rfl, ⟨rfl, trivial⟩⟩⟩⟩) H
  · replace H := H.2 (h)
    refine ev_ex 3 (c' := (84, [some (.ref 2), some (.int l1), some (.int l2), some (.int l3), some (.int l4)], [.int l4, .ref 58], cH c s)) rfl ?_
    obtain ⟨H0, H⟩ := H
    refine ev_ald (i := .laload) rfl (Or.inr (Or.inr (Or.inl rfl))) rfl H0 (v := .long (s.2.2 14 (ix l4))) rfl ?_
    refine ev_ex 3 (c' := (90, [some (.ref 2), some (.int l1), some (.int l2), some (.int l3), some (.int l4)], [.int l3, .ref 58, .long (s.2.2 14 (ix l4))], cH c s)) rfl ?_
    obtain ⟨H0, H⟩ := H
    refine ev_ald (i := .laload) rfl (Or.inr (Or.inr (Or.inl rfl))) rfl H0 (v := .long (s.2.2 14 (ix l3))) rfl ?_
    refine ev_ex 1 (c' := (92, [some (.ref 2), some (.int l1), some (.int l2), some (.int l3), some (.int l4)], [.int (lg_cmp (s.2.2 14 (ix l4)) (s.2.2 14 (ix l3)))], cH c s)) rfl ?_
    refine ev_if_ne (tgt := 98) rfl rfl (fun h => ?_) (fun h => ?_)
    · replace H := H.1 ((fun q => h ((lg_cmp_eq _ _).mpr q)))
      refine ev_ex 2 (c' := (73, [some (.ref 2), some (.int l1), some (.int l2), some (.int l3), some (.int (l4 + (-1)))], [], cH c s)) rfl ?_
      exact H
    · replace H := H.2 ((lg_cmp_eq _ _).mp h)
      refine ev_ex 4 (c' := (73, [some (.ref 2), some (.int l1), some (.int l4), some (.int l3), some (.int (l4 + (-1)))], [], cH c s)) rfl ?_
      exact H
set_option maxRecDepth 8000 in
theorem w_R_mocksIn {c : CX} {d : Nat} {s : RS} {Q : Int32 → RS → Prop} (a0 : Int32) (a1 : Int32) (H : (((wth a0.toInt64 0 (s.2.1 1 1 - 1).toInt64) = true → (((wth a1.toInt64 0 1000) = false → Q 0 (rF s 4 2)) ∧ ((wth a1.toInt64 0 1000) = true → RV c (d + 1) m_R_putsAside [.ref 2] (rF s 4 0) (fun s1 => eR c (d + 2) m_R_mocksIn 49 [some (.ref 2), some (.int a0), some (.int a1), some (.int 0)] s1 (pI c Q))))) ∧ ((wth a0.toInt64 0 (s.2.1 1 1 - 1).toInt64) = false → Q 0 (rF s 4 1)))) : RI c (d + 2) m_R_mocksIn [.ref 2, .int a0, .int a1] s Q := by
  refine ⟨q_R_mocksIn, rfl, Nat.le_of_ble_eq_true rfl, ?_⟩
  refine ev_ex 0 (c' := (0, [some (.ref 2), some (.int a0), some (.int a1), none], [], cH c s)) rfl ?_
  refine ev_ex 4 (c' := (4, [some (.ref 2), some (.int a0), some (.int a1), none], [.long a0.toInt64, .ref 2, .ref 2], cH c s)) rfl ?_
  refine rq_B (idx := 314) (V := wth a0.toInt64 0 (s.2.1 1 1 - 1).toInt64) (S := s) rfl rfl rfl (Nat.le_of_ble_eq_true rfl) (Nat.le_of_ble_eq_true rfl) rfl (zq_R_isGuild ⟨rfl, rfl⟩) ?_
  refine ev_if_neB (x := (wth a0.toInt64 0 (s.2.1 1 1 - 1).toInt64)) (tgt := 14) rfl rfl (fun h => ?_) (fun h => ?_)
  · replace H := H.1 (h)
    refine ev_ex 4 (c' := (20, [some (.ref 2), some (.int a0), some (.int a1), none], [.long 1000, .long 0, .long a1.toInt64, .ref 2], cH c s)) rfl ?_
    refine rq_B (idx := 136) (V := wth a1.toInt64 0 1000) (S := s) rfl rfl rfl (Nat.le_of_ble_eq_true rfl) (Nat.le_of_ble_eq_true rfl) rfl (zq_R_within ⟨rfl, rfl⟩) ?_
    refine ev_if_eqB (x := (wth a1.toInt64 0 1000)) (tgt := 30) rfl rfl (fun h => ?_) (fun h => ?_)
    · replace H := H.1 (h)
      refine ev_ex 6 (c' := (42, [some (.ref 2), some (.int a0), some (.int a1), none], [.int 0], cH c (rF s 4 2))) rfl ?_
      exact ev_ret rfl rfl rfl ⟨_, _, rfl, rfl, H⟩
    · replace H := H.2 (h)
      refine ev_ex 7 (c' := (44, [some (.ref 2), some (.int a0), some (.int a1), none], [.ref 2], cH c (rF s 4 0))) rfl ?_
      refine rc_V (idx := 334) rfl rfl rfl (Nat.le_of_ble_eq_true rfl) (Nat.le_of_ble_eq_true rfl) rfl H (fun s1 H => ?_)
      refine ev_ex 2 (c' := (49, [some (.ref 2), some (.int a0), some (.int a1), some (.int 0)], [], cH c s1)) rfl ?_
      exact H
  · replace H := H.2 (h)
    refine ev_ex 7 (c' := (42, [some (.ref 2), some (.int a0), some (.int a1), none], [.int 0], cH c (rF s 4 1))) rfl ?_
    exact ev_ret rfl rfl rfl ⟨_, _, rfl, rfl, H⟩
set_option maxRecDepth 8000 in
theorem w_R_mocksIn_49 {c : CX} {d : Nat} {s : RS} {Q : Int32 → RS → Prop} (l1 : Int32) (l2 : Int32) (l3 : Int32) (H : ((l2 ≤ l3 → (okx (6 + l1) 2101 ∧ RV c (d + 1) m_R_putsBack [.ref 2] s (fun s1 => Q (s.2.1 1 (ix (6 + l1))) s1))) ∧ (¬ l2 ≤ l3 → RV c (d + 1) m_R_night [.ref 2] s (fun s2 => eR c (d + 2) m_R_mocksIn 49 [some (.ref 2), some (.int l1), some (.int l2), some (.int (l3 + 1))] s2 (pI c Q))))) : eR c (d + 2) m_R_mocksIn 49 [some (.ref 2), some (.int l1), some (.int l2), some (.int l3)] s (pI c Q) := by
  unfold eR
  refine ev_ex 0 (c' := (49, [some (.ref 2), some (.int l1), some (.int l2), some (.int l3)], [], cH c s)) rfl ?_
  refine ev_ex 2 (c' := (51, [some (.ref 2), some (.int l1), some (.int l2), some (.int l3)], [.int l2, .int l3], cH c s)) rfl ?_
  refine ev_icmp_ge (tgt := 64) rfl rfl (fun h => ?_) (fun h => ?_)
  · replace H := H.1 (h)
    refine ev_ex 2 (c' := (66, [some (.ref 2), some (.int l1), some (.int l2), some (.int l3)], [.int l1, .ref 2], cH c s)) rfl ?_
    obtain ⟨H1, H⟩ := H
    refine rq_I (idx := 270) (V := s.2.1 1 (ix (6 + l1))) (S := s) rfl rfl rfl (Nat.le_of_ble_eq_true rfl) (Nat.le_of_ble_eq_true rfl) rfl (zq_R_mocked H1 ⟨rfl, rfl⟩) ?_
    refine ev_ex 2 (c' := (71, [some (.ref 2), some (.int l1), some (.int l2), some (.int (s.2.1 1 (ix (6 + l1))))], [.ref 2], cH c s)) rfl ?_
    refine rc_V (idx := 368) rfl rfl rfl (Nat.le_of_ble_eq_true rfl) (Nat.le_of_ble_eq_true rfl) rfl H (fun s1 H => ?_)
    refine ev_ex 1 (c' := (75, [some (.ref 2), some (.int l1), some (.int l2), some (.int (s.2.1 1 (ix (6 + l1))))], [.int (s.2.1 1 (ix (6 + l1)))], cH c s1)) rfl ?_
    exact ev_ret rfl rfl rfl ⟨_, _, rfl, rfl, H⟩
  · replace H := H.2 (h)
    refine ev_ex 1 (c' := (55, [some (.ref 2), some (.int l1), some (.int l2), some (.int l3)], [.ref 2], cH c s)) rfl ?_
    refine rc_V (idx := 337) rfl rfl rfl (Nat.le_of_ble_eq_true rfl) (Nat.le_of_ble_eq_true rfl) rfl H (fun s2 H => ?_)
    refine ev_ex 2 (c' := (49, [some (.ref 2), some (.int l1), some (.int l2), some (.int (l3 + 1))], [], cH c s2)) rfl ?_
    exact H
set_option maxRecDepth 8000 in
theorem w_R_seen {c : CX} {d : Nat} {s : RS} {Q : Int32 → RS → Prop} (a0 : Int32) (H : RI c (d + 1) m_R_trayFault [.ref 2, .int a0] s (fun v2 s1 => ((¬ v2 = 0 → eR c (d + 2) m_R_seen 36 [some (.ref 2), some (.int a0), some (.int 0), none, none] (rF s1 4 v2) (pI c Q)) ∧ (v2 = 0 → (okx a0 4 ∧ (((s1.2.1 16 (ix a0)) = (s1.2.1 1 1) → eR c (d + 2) m_R_seen 36 [some (.ref 2), some (.int a0), some (.int 0), none, none] (rF s1 4 v2) (pI c Q)) ∧ (¬ (s1.2.1 16 (ix a0)) = (s1.2.1 1 1) → eR c (d + 2) m_R_seen 36 [some (.ref 2), some (.int a0), some (.int 0), none, none] (rF (rF s1 4 v2) 4 3) (pI c Q)))))))) : RI c (d + 2) m_R_seen [.ref 2, .int a0] s Q := by
  refine ⟨q_R_seen, rfl, Nat.le_of_ble_eq_true rfl, ?_⟩
  refine ev_ex 0 (c' := (0, [some (.ref 2), some (.int a0), none, none, none], [], cH c s)) rfl ?_
  refine ev_ex 3 (c' := (3, [some (.ref 2), some (.int a0), none, none, none], [.int a0, .ref 2, .ref 2], cH c s)) rfl ?_
  refine rc_I (idx := 348) rfl rfl rfl (Nat.le_of_ble_eq_true rfl) (Nat.le_of_ble_eq_true rfl) rfl H (fun v2 s1 H => ?_)
  refine ev_ex 3 (c' := (13, [some (.ref 2), some (.int a0), none, none, none], [.int v2], cH c (rF s1 4 v2))) rfl ?_
  refine ev_if_ne (tgt := 34) rfl rfl (fun h => ?_) (fun h => ?_)
  · replace H := H.1 (h)
    refine ev_ex 2 (c' := (36, [some (.ref 2), some (.int a0), some (.int 0), none, none], [], cH c (rF s1 4 v2))) rfl ?_
    exact H
  · replace H := H.2 (h)
    refine ev_ex 3 (c' := (21, [some (.ref 2), some (.int a0), none, none, none], [.int a0, .ref 66], cH c (rF s1 4 v2))) rfl ?_
    obtain ⟨H0, H⟩ := H
    refine ev_ald (i := .iaload) rfl (Or.inl rfl) rfl H0 (v := .int (s1.2.1 16 (ix a0))) rfl ?_
    refine ev_ex 1 (c' := (23, [some (.ref 2), some (.int a0), none, none, none], [.ref 2, .int (s1.2.1 16 (ix a0))], cH c (rF s1 4 v2))) rfl ?_
    refine rq_I (idx := 267) (V := s1.2.1 1 1) (S := rF s1 4 v2) rfl rfl rfl (Nat.le_of_ble_eq_true rfl) (Nat.le_of_ble_eq_true rfl) rfl (zq_R_guilds ⟨rfl, rfl⟩) ?_
    refine ev_icmp_eq (tgt := 34) rfl rfl (fun h => ?_) (fun h => ?_)
    · replace H := H.1 (h)
      refine ev_ex 2 (c' := (36, [some (.ref 2), some (.int a0), some (.int 0), none, none], [], cH c (rF s1 4 v2))) rfl ?_
      exact H
    · replace H := H.2 (h)
      refine ev_ex 5 (c' := (36, [some (.ref 2), some (.int a0), some (.int 0), none, none], [], cH c (rF (rF s1 4 v2) 4 3))) rfl ?_
      exact H
set_option maxRecDepth 8000 in
theorem w_R_seen_36 {c : CX} {d : Nat} {s : RS} {Q : Int32 → RS → Prop} (l1 : Int32) (l2 : Int32) (H : ((¬ (s.1 4) = 0 → (((s.1 4) ≤ 0 → RV c (d + 1) m_R_putsAside [.ref 2] s (fun s1 => eR c (d + 2) m_R_seen 113 [some (.ref 2), some (.int l1), some (.int 0), none, none] s1 (pI c Q))) ∧ (¬ (s.1 4) ≤ 0 → Q 0 s))) ∧ ((s.1 4) = 0 → (((s.2.1 1 1) ≤ l2 → (((s.1 4) ≤ 0 → RV c (d + 1) m_R_putsAside [.ref 2] s (fun s2 => eR c (d + 2) m_R_seen 113 [some (.ref 2), some (.int l1), some (.int 0), none, none] s2 (pI c Q))) ∧ (¬ (s.1 4) ≤ 0 → Q 0 s))) ∧ (¬ (s.2.1 1 1) ≤ l2 → (okx ((30 * l1) + l2) 120 ∧ (((s.2.2 17 (ix ((30 * l1) + l2))) = ((-1)) → eR c (d + 2) m_R_seen 36 [some (.ref 2), some (.int l1), some (.int (l2 + 1)), none, none] s (pI c Q)) ∧ (¬ (s.2.2 17 (ix ((30 * l1) + l2))) = ((-1)) → (((s.2.2 17 (ix ((30 * l1) + l2))) = 99 → eR c (d + 2) m_R_seen 36 [some (.ref 2), some (.int l1), some (.int (l2 + 1)), none, none] s (pI c Q)) ∧ (¬ (s.2.2 17 (ix ((30 * l1) + l2))) = 99 → (((wth (s.2.2 17 (ix ((30 * l1) + l2))) 0 (s.2.1 1 1 - 1).toInt64) = true → eR c (d + 2) m_R_seen 36 [some (.ref 2), some (.int l1), some (.int (l2 + 1)), none, none] s (pI c Q)) ∧ ((wth (s.2.2 17 (ix ((30 * l1) + l2))) 0 (s.2.1 1 1 - 1).toInt64) = false → eR c (d + 2) m_R_seen 36 [some (.ref 2), some (.int l1), some (.int (l2 + 1)), none, none] (rF s 4 3) (pI c Q))))))))))))) : eR c (d + 2) m_R_seen 36 [some (.ref 2), some (.int l1), some (.int l2), none, none] s (pI c Q) := by
  unfold eR
  refine ev_ex 0 (c' := (36, [some (.ref 2), some (.int l1), some (.int l2), none, none], [], cH c s)) rfl ?_
  refine ev_ex 2 (c' := (40, [some (.ref 2), some (.int l1), some (.int l2), none, none], [.int (s.1 4)], cH c s)) rfl ?_
  refine ev_if_ne (tgt := 98) rfl rfl (fun h => ?_) (fun h => ?_)
  · replace H := H.1 (h)
    refine ev_ex 2 (c' := (102, [some (.ref 2), some (.int l1), some (.int l2), none, none], [.int (s.1 4)], cH c s)) rfl ?_
    refine ev_if_le (tgt := 107) rfl rfl (fun h => ?_) (fun h => ?_)
    · replace H := H.1 (h)
      refine ev_ex 1 (c' := (108, [some (.ref 2), some (.int l1), some (.int l2), none, none], [.ref 2], cH c s)) rfl ?_
      refine rc_V (idx := 334) rfl rfl rfl (Nat.le_of_ble_eq_true rfl) (Nat.le_of_ble_eq_true rfl) rfl H (fun s1 H => ?_)
      refine ev_ex 2 (c' := (113, [some (.ref 2), some (.int l1), some (.int 0), none, none], [], cH c s1)) rfl ?_
      exact H
    · replace H := H.2 (h)
      refine ev_ex 1 (c' := (106, [some (.ref 2), some (.int l1), some (.int l2), none, none], [.int 0], cH c s)) rfl ?_
      exact ev_ret rfl rfl rfl ⟨_, _, rfl, rfl, H⟩
  · replace H := H.2 (h)
    refine ev_ex 2 (c' := (45, [some (.ref 2), some (.int l1), some (.int l2), none, none], [.ref 2, .int l2], cH c s)) rfl ?_
    refine rq_I (idx := 267) (V := s.2.1 1 1) (S := s) rfl rfl rfl (Nat.le_of_ble_eq_true rfl) (Nat.le_of_ble_eq_true rfl) rfl (zq_R_guilds ⟨rfl, rfl⟩) ?_
    refine ev_icmp_ge (tgt := 98) rfl rfl (fun h => ?_) (fun h => ?_)
    · replace H := H.1 (h)
      refine ev_ex 2 (c' := (102, [some (.ref 2), some (.int l1), some (.int l2), none, none], [.int (s.1 4)], cH c s)) rfl ?_
      refine ev_if_le (tgt := 107) rfl rfl (fun h => ?_) (fun h => ?_)
      · replace H := H.1 (h)
        refine ev_ex 1 (c' := (108, [some (.ref 2), some (.int l1), some (.int l2), none, none], [.ref 2], cH c s)) rfl ?_
        refine rc_V (idx := 334) rfl rfl rfl (Nat.le_of_ble_eq_true rfl) (Nat.le_of_ble_eq_true rfl) rfl H (fun s2 H => ?_)
        refine ev_ex 2 (c' := (113, [some (.ref 2), some (.int l1), some (.int 0), none, none], [], cH c s2)) rfl ?_
        exact H
      · replace H := H.2 (h)
        refine ev_ex 1 (c' := (106, [some (.ref 2), some (.int l1), some (.int l2), none, none], [.int 0], cH c s)) rfl ?_
        exact ev_ret rfl rfl rfl ⟨_, _, rfl, rfl, H⟩
    · replace H := H.2 (h)
      refine ev_ex 7 (c' := (61, [some (.ref 2), some (.int l1), some (.int l2), none, none], [.int ((30 * l1) + l2), .ref 70], cH c s)) rfl ?_
      obtain ⟨H0, H⟩ := H
      refine ev_ald (i := .laload) rfl (Or.inr (Or.inr (Or.inl rfl))) rfl H0 (v := .long (s.2.2 17 (ix ((30 * l1) + l2)))) rfl ?_
      refine ev_ex 4 (c' := (68, [some (.ref 2), some (.int l1), some (.int l2), some (.long (s.2.2 17 (ix ((30 * l1) + l2)))), none], [.int (lg_cmp (s.2.2 17 (ix ((30 * l1) + l2))) ((-1)))], cH c s)) rfl ?_
      refine ev_if_eq (tgt := 92) rfl rfl (fun h => ?_) (fun h => ?_)
      · replace H := H.1 ((lg_cmp_eq _ _).mp h)
        refine ev_ex 2 (c' := (36, [some (.ref 2), some (.int l1), some (.int (l2 + 1)), some (.long (s.2.2 17 (ix ((30 * l1) + l2)))), none], [], cH c s)) rfl ?_
        exact ev_less (lle_of (L := [some (.ref 2), some (.int l1), some (.int (l2 + 1)), none, none]) ⟨rfl, ⟨rfl, ⟨rfl, trivial⟩⟩⟩) H
      · replace H := H.2 ((fun q => h ((lg_cmp_eq _ _).mpr q)))
        refine ev_ex 3 (c' := (76, [some (.ref 2), some (.int l1), some (.int l2), some (.long (s.2.2 17 (ix ((30 * l1) + l2)))), none], [.int (lg_cmp (s.2.2 17 (ix ((30 * l1) + l2))) 99)], cH c s)) rfl ?_
        refine ev_if_eq (tgt := 92) rfl rfl (fun h => ?_) (fun h => ?_)
        · replace H := H.1 ((lg_cmp_eq _ _).mp h)
          refine ev_ex 2 (c' := (36, [some (.ref 2), some (.int l1), some (.int (l2 + 1)), some (.long (s.2.2 17 (ix ((30 * l1) + l2)))), none], [], cH c s)) rfl ?_
          exact ev_less (lle_of (L := [some (.ref 2), some (.int l1), some (.int (l2 + 1)), none, none]) ⟨rfl, ⟨rfl, ⟨rfl, trivial⟩⟩⟩) H
        · replace H := H.2 ((fun q => h ((lg_cmp_eq _ _).mpr q)))
          refine ev_ex 2 (c' := (81, [some (.ref 2), some (.int l1), some (.int l2), some (.long (s.2.2 17 (ix ((30 * l1) + l2)))), none], [.long (s.2.2 17 (ix ((30 * l1) + l2))), .ref 2], cH c s)) rfl ?_
          refine rq_B (idx := 314) (V := wth (s.2.2 17 (ix ((30 * l1) + l2))) 0 (s.2.1 1 1 - 1).toInt64) (S := s) rfl rfl rfl (Nat.le_of_ble_eq_true rfl) (Nat.le_of_ble_eq_true rfl) rfl (zq_R_isGuild ⟨rfl, rfl⟩) ?_
          refine ev_if_neB (x := (wth (s.2.2 17 (ix ((30 * l1) + l2))) 0 (s.2.1 1 1 - 1).toInt64)) (tgt := 92) rfl rfl (fun h => ?_) (fun h => ?_)
          · replace H := H.1 (h)
            refine ev_ex 2 (c' := (36, [some (.ref 2), some (.int l1), some (.int (l2 + 1)), some (.long (s.2.2 17 (ix ((30 * l1) + l2)))), none], [], cH c s)) rfl ?_
            exact ev_less (lle_of (L := [some (.ref 2), some (.int l1), some (.int (l2 + 1)), none, none]) ⟨rfl, ⟨rfl, ⟨rfl, trivial⟩⟩⟩) H
          · replace H := H.2 (h)
            refine ev_ex 5 (c' := (36, [some (.ref 2), some (.int l1), some (.int (l2 + 1)), some (.long (s.2.2 17 (ix ((30 * l1) + l2)))), none], [], cH c (rF s 4 3))) rfl ?_
            exact ev_less (lle_of (L := [some (.ref 2), some (.int l1), some (.int (l2 + 1)), none, none]) ⟨rfl, ⟨rfl, ⟨rfl, trivial⟩⟩⟩) H
set_option maxRecDepth 8000 in
theorem w_R_seen_113 {c : CX} {d : Nat} {s : RS} {Q : Int32 → RS → Prop} (l1 : Int32) (l2 : Int32) (H : ((200 < l2 → RV c (d + 1) m_R_putsBack [.ref 2] s (fun s1 => ((l2 ≤ 200 → Q l2 s1) ∧ (¬ l2 ≤ 200 → Q ((-1)) s1)))) ∧ (¬ 200 < l2 → RB c (d + 1) m_R_isAsSeen [.ref 2, .int l1] s (fun v3 s2 => ((v3 = true → RV c (d + 1) m_R_putsBack [.ref 2] s2 (fun s4 => ((l2 ≤ 200 → Q l2 s4) ∧ (¬ l2 ≤ 200 → Q ((-1)) s4)))) ∧ (v3 = false → RV c (d + 1) m_R_night [.ref 2] s2 (fun s5 => eR c (d + 2) m_R_seen 113 [some (.ref 2), some (.int l1), some (.int (l2 + 1)), none, none] s5 (pI c Q)))))))) : eR c (d + 2) m_R_seen 113 [some (.ref 2), some (.int l1), some (.int l2), none, none] s (pI c Q) := by
  unfold eR
  refine ev_ex 0 (c' := (113, [some (.ref 2), some (.int l1), some (.int l2), none, none], [], cH c s)) rfl ?_
  refine ev_ex 2 (c' := (117, [some (.ref 2), some (.int l1), some (.int l2), none, none], [.int 200, .int l2], cH c s)) rfl ?_
  refine ev_icmp_gt (tgt := 138) rfl rfl (fun h => ?_) (fun h => ?_)
  · replace H := H.1 (h)
    refine ev_ex 1 (c' := (139, [some (.ref 2), some (.int l1), some (.int l2), none, none], [.ref 2], cH c s)) rfl ?_
    refine rc_V (idx := 368) rfl rfl rfl (Nat.le_of_ble_eq_true rfl) (Nat.le_of_ble_eq_true rfl) rfl H (fun s1 H => ?_)
    refine ev_ex 2 (c' := (146, [some (.ref 2), some (.int l1), some (.int l2), none, none], [.int 200, .int l2], cH c s1)) rfl ?_
    refine ev_icmp_le (tgt := 153) rfl rfl (fun h => ?_) (fun h => ?_)
    · replace H := H.1 (h)
      refine ev_ex 1 (c' := (154, [some (.ref 2), some (.int l1), some (.int l2), none, none], [.int l2], cH c s1)) rfl ?_
      exact ev_ret rfl rfl rfl ⟨_, _, rfl, rfl, H⟩
    · replace H := H.2 (h)
      refine ev_ex 2 (c' := (154, [some (.ref 2), some (.int l1), some (.int l2), none, none], [.int ((-1))], cH c s1)) rfl ?_
      exact ev_ret rfl rfl rfl ⟨_, _, rfl, rfl, H⟩
  · replace H := H.2 (h)
    refine ev_ex 2 (c' := (122, [some (.ref 2), some (.int l1), some (.int l2), none, none], [.int l1, .ref 2], cH c s)) rfl ?_
    refine rc_B (idx := 466) rfl rfl rfl (Nat.le_of_ble_eq_true rfl) (Nat.le_of_ble_eq_true rfl) rfl H (fun v3 s2 H => ?_)
    refine ev_if_neB (x := v3) (tgt := 138) rfl rfl (fun h => ?_) (fun h => ?_)
    · replace H := H.1 (h)
      refine ev_ex 1 (c' := (139, [some (.ref 2), some (.int l1), some (.int l2), none, none], [.ref 2], cH c s2)) rfl ?_
      refine rc_V (idx := 368) rfl rfl rfl (Nat.le_of_ble_eq_true rfl) (Nat.le_of_ble_eq_true rfl) rfl H (fun s4 H => ?_)
      refine ev_ex 2 (c' := (146, [some (.ref 2), some (.int l1), some (.int l2), none, none], [.int 200, .int l2], cH c s4)) rfl ?_
      refine ev_icmp_le (tgt := 153) rfl rfl (fun h => ?_) (fun h => ?_)
      · replace H := H.1 (h)
        refine ev_ex 1 (c' := (154, [some (.ref 2), some (.int l1), some (.int l2), none, none], [.int l2], cH c s4)) rfl ?_
        exact ev_ret rfl rfl rfl ⟨_, _, rfl, rfl, H⟩
      · replace H := H.2 (h)
        refine ev_ex 2 (c' := (154, [some (.ref 2), some (.int l1), some (.int l2), none, none], [.int ((-1))], cH c s4)) rfl ?_
        exact ev_ret rfl rfl rfl ⟨_, _, rfl, rfl, H⟩
    · replace H := H.2 (h)
      refine ev_ex 1 (c' := (129, [some (.ref 2), some (.int l1), some (.int l2), none, none], [.ref 2], cH c s2)) rfl ?_
      refine rc_V (idx := 337) rfl rfl rfl (Nat.le_of_ble_eq_true rfl) (Nat.le_of_ble_eq_true rfl) rfl H (fun s5 H => ?_)
      refine ev_ex 2 (c' := (113, [some (.ref 2), some (.int l1), some (.int (l2 + 1)), none, none], [], cH c s5)) rfl ?_
      exact H
set_option maxRecDepth 8000 in
theorem w_R_ever {c : CX} {d : Nat} {s : RS} {Q : Int32 → RS → Prop} (a0 : Int32) (a1 : Int32) (H : (((wth a0.toInt64 0 (s.2.1 1 1 - 1).toInt64) = true → (((wth a1.toInt64 0 1000) = false → Q 0 (rF s 4 2)) ∧ ((wth a1.toInt64 0 1000) = true → RV c (d + 1) m_R_putsAside [.ref 2] (rF s 4 0) (fun s1 => eR c (d + 2) m_R_ever 52 [some (.ref 2), some (.int a0), some (.int a1), some (.int 0), some (.int 0)] s1 (pI c Q))))) ∧ ((wth a0.toInt64 0 (s.2.1 1 1 - 1).toInt64) = false → Q 0 (rF s 4 1)))) : RI c (d + 2) m_R_ever [.ref 2, .int a0, .int a1] s Q := by
  refine ⟨q_R_ever, rfl, Nat.le_of_ble_eq_true rfl, ?_⟩
  refine ev_ex 0 (c' := (0, [some (.ref 2), some (.int a0), some (.int a1), none, none], [], cH c s)) rfl ?_
  refine ev_ex 4 (c' := (4, [some (.ref 2), some (.int a0), some (.int a1), none, none], [.long a0.toInt64, .ref 2, .ref 2], cH c s)) rfl ?_
  refine rq_B (idx := 314) (V := wth a0.toInt64 0 (s.2.1 1 1 - 1).toInt64) (S := s) rfl rfl rfl (Nat.le_of_ble_eq_true rfl) (Nat.le_of_ble_eq_true rfl) rfl (zq_R_isGuild ⟨rfl, rfl⟩) ?_
  refine ev_if_neB (x := (wth a0.toInt64 0 (s.2.1 1 1 - 1).toInt64)) (tgt := 14) rfl rfl (fun h => ?_) (fun h => ?_)
  · replace H := H.1 (h)
    refine ev_ex 4 (c' := (20, [some (.ref 2), some (.int a0), some (.int a1), none, none], [.long 1000, .long 0, .long a1.toInt64, .ref 2], cH c s)) rfl ?_
    refine rq_B (idx := 136) (V := wth a1.toInt64 0 1000) (S := s) rfl rfl rfl (Nat.le_of_ble_eq_true rfl) (Nat.le_of_ble_eq_true rfl) rfl (zq_R_within ⟨rfl, rfl⟩) ?_
    refine ev_if_eqB (x := (wth a1.toInt64 0 1000)) (tgt := 30) rfl rfl (fun h => ?_) (fun h => ?_)
    · replace H := H.1 (h)
      refine ev_ex 6 (c' := (42, [some (.ref 2), some (.int a0), some (.int a1), none, none], [.int 0], cH c (rF s 4 2))) rfl ?_
      exact ev_ret rfl rfl rfl ⟨_, _, rfl, rfl, H⟩
    · replace H := H.2 (h)
      refine ev_ex 7 (c' := (44, [some (.ref 2), some (.int a0), some (.int a1), none, none], [.ref 2], cH c (rF s 4 0))) rfl ?_
      refine rc_V (idx := 334) rfl rfl rfl (Nat.le_of_ble_eq_true rfl) (Nat.le_of_ble_eq_true rfl) rfl H (fun s1 H => ?_)
      refine ev_ex 4 (c' := (52, [some (.ref 2), some (.int a0), some (.int a1), some (.int 0), some (.int 0)], [], cH c s1)) rfl ?_
      exact H
  · replace H := H.2 (h)
    refine ev_ex 7 (c' := (42, [some (.ref 2), some (.int a0), some (.int a1), none, none], [.int 0], cH c (rF s 4 1))) rfl ?_
    exact ev_ret rfl rfl rfl ⟨_, _, rfl, rfl, H⟩
set_option maxRecDepth 8000 in
theorem w_R_ever_52 {c : CX} {d : Nat} {s : RS} {Q : Int32 → RS → Prop} (l1 : Int32) (l2 : Int32) (l3 : Int32) (l4 : Int32) (H : ((l2 < l4 → RV c (d + 1) m_R_putsBack [.ref 2] s (fun s1 => Q l3 s1)) ∧ (¬ l2 < l4 → RI c (d + 1) m_R_mockers [.ref 2, .int l1] s (fun v3 s2 => RV c (d + 1) m_R_night [.ref 2] s2 (fun s4 => eR c (d + 2) m_R_ever 52 [some (.ref 2), some (.int l1), some (.int l2), some (.int (l3 ||| v3)), some (.int (l4 + 1))] s4 (pI c Q)))))) : eR c (d + 2) m_R_ever 52 [some (.ref 2), some (.int l1), some (.int l2), some (.int l3), some (.int l4)] s (pI c Q) := by
  unfold eR
  refine ev_ex 0 (c' := (52, [some (.ref 2), some (.int l1), some (.int l2), some (.int l3), some (.int l4)], [], cH c s)) rfl ?_
  refine ev_ex 2 (c' := (55, [some (.ref 2), some (.int l1), some (.int l2), some (.int l3), some (.int l4)], [.int l2, .int l4], cH c s)) rfl ?_
  refine ev_icmp_gt (tgt := 76) rfl rfl (fun h => ?_) (fun h => ?_)
  · replace H := H.1 (h)
    refine ev_ex 1 (c' := (77, [some (.ref 2), some (.int l1), some (.int l2), some (.int l3), some (.int l4)], [.ref 2], cH c s)) rfl ?_
    refine rc_V (idx := 368) rfl rfl rfl (Nat.le_of_ble_eq_true rfl) (Nat.le_of_ble_eq_true rfl) rfl H (fun s1 H => ?_)
    refine ev_ex 1 (c' := (81, [some (.ref 2), some (.int l1), some (.int l2), some (.int l3), some (.int l4)], [.int l3], cH c s1)) rfl ?_
    exact ev_ret rfl rfl rfl ⟨_, _, rfl, rfl, H⟩
  · replace H := H.2 (h)
    refine ev_ex 3 (c' := (61, [some (.ref 2), some (.int l1), some (.int l2), some (.int l3), some (.int l4)], [.int l1, .ref 2, .int l3], cH c s)) rfl ?_
    refine rc_I (idx := 290) rfl rfl rfl (Nat.le_of_ble_eq_true rfl) (Nat.le_of_ble_eq_true rfl) rfl H (fun v3 s2 H => ?_)
    refine ev_ex 3 (c' := (67, [some (.ref 2), some (.int l1), some (.int l2), some (.int (l3 ||| v3)), some (.int l4)], [.ref 2], cH c s2)) rfl ?_
    refine rc_V (idx := 337) rfl rfl rfl (Nat.le_of_ble_eq_true rfl) (Nat.le_of_ble_eq_true rfl) rfl H (fun s4 H => ?_)
    refine ev_ex 2 (c' := (52, [some (.ref 2), some (.int l1), some (.int l2), some (.int (l3 ||| v3)), some (.int (l4 + 1))], [], cH c s4)) rfl ?_
    exact H
set_option maxRecDepth 8000 in
theorem w_R_fewest {c : CX} {d : Nat} {s : RS} {Q : Int32 → RS → Prop} (a0 : Int32) (a1 : Int32) (H : (((wth a0.toInt64 0 200) = false → Q 0 (rF (rF s 4 0) 4 1)) ∧ ((wth a0.toInt64 0 200) = true → (((wth a1.toInt64 0 1) = true → RV c d m_R_putsAside [.ref 2] (rF s 4 0) (fun s1 => eR c (d + 1) m_R_fewest 45 [some (.ref 2), some (.int a0), some (.int a1), some (.int 0), some (.int 0), some (.int 0)] s1 (pI c Q))) ∧ ((wth a1.toInt64 0 1) = false → Q 0 (rF (rF s 4 0) 4 1)))))) : RI c (d + 1) m_R_fewest [.ref 2, .int a0, .int a1] s Q := by
  refine ⟨q_R_fewest, rfl, Nat.le_of_ble_eq_true rfl, ?_⟩
  refine ev_ex 0 (c' := (0, [some (.ref 2), some (.int a0), some (.int a1), none, none, none], [], cH c s)) rfl ?_
  refine ev_ex 7 (c' := (11, [some (.ref 2), some (.int a0), some (.int a1), none, none, none], [.long 200, .long 0, .long a0.toInt64], cH c (rF s 4 0))) rfl ?_
  refine rq_B (idx := 136) (V := wth a0.toInt64 0 200) (S := rF s 4 0) rfl rfl rfl (Nat.le_of_ble_eq_true rfl) (Nat.le_of_ble_eq_true rfl) rfl (zq_R_within ⟨rfl, rfl⟩) ?_
  refine ev_if_eqB (x := (wth a0.toInt64 0 200)) (tgt := 27) rfl rfl (fun h => ?_) (fun h => ?_)
  · replace H := H.1 (h)
    refine ev_ex 2 (c' := (29, [some (.ref 2), some (.int a0), some (.int a1), none, none, none], [.int 1, .ref 2], cH c (rF s 4 0))) rfl ?_
    refine rq_I (idx := 258) (V := 0) (S := rF (rF s 4 0) 4 1) rfl rfl rfl (Nat.le_of_ble_eq_true rfl) (Nat.le_of_ble_eq_true rfl) rfl (zq_R_fails ⟨rfl, rfl⟩) ?_
    exact ev_ret rfl rfl rfl ⟨_, _, rfl, rfl, H⟩
  · replace H := H.2 (h)
    refine ev_ex 4 (c' := (21, [some (.ref 2), some (.int a0), some (.int a1), none, none, none], [.long 1, .long 0, .long a1.toInt64], cH c (rF s 4 0))) rfl ?_
    refine rq_B (idx := 136) (V := wth a1.toInt64 0 1) (S := rF s 4 0) rfl rfl rfl (Nat.le_of_ble_eq_true rfl) (Nat.le_of_ble_eq_true rfl) rfl (zq_R_within ⟨rfl, rfl⟩) ?_
    refine ev_if_neB (x := (wth a1.toInt64 0 1)) (tgt := 33) rfl rfl (fun h => ?_) (fun h => ?_)
    · replace H := H.1 (h)
      refine ev_ex 1 (c' := (34, [some (.ref 2), some (.int a0), some (.int a1), none, none, none], [.ref 2], cH c (rF s 4 0))) rfl ?_
      refine rc_V (idx := 334) rfl rfl rfl (Nat.le_of_ble_eq_true rfl) (Nat.le_of_ble_eq_true rfl) rfl H (fun s1 H => ?_)
      refine ev_ex 6 (c' := (45, [some (.ref 2), some (.int a0), some (.int a1), some (.int 0), some (.int 0), some (.int 0)], [], cH c s1)) rfl ?_
      exact H
    · replace H := H.2 (h)
      refine ev_ex 2 (c' := (29, [some (.ref 2), some (.int a0), some (.int a1), none, none, none], [.int 1, .ref 2], cH c (rF s 4 0))) rfl ?_
      refine rq_I (idx := 258) (V := 0) (S := rF (rF s 4 0) 4 1) rfl rfl rfl (Nat.le_of_ble_eq_true rfl) (Nat.le_of_ble_eq_true rfl) rfl (zq_R_fails ⟨rfl, rfl⟩) ?_
      exact ev_ret rfl rfl rfl ⟨_, _, rfl, rfl, H⟩
set_option maxRecDepth 8000 in
theorem w_R_fewest_45 {c : CX} {d : Nat} {s : RS} {Q : Int32 → RS → Prop} (l1 : Int32) (l2 : Int32) (l3 : Int32) (l4 : Int32) (l5 : Int32) (H : ((l1 < l5 → RV c d m_R_putsBack [.ref 2] s (fun s1 => ((¬ l2 = 0 → Q l3 s1) ∧ (l2 = 0 → Q l4 s1)))) ∧ (¬ l1 < l5 → RV c d m_R_laysRow [.ref 2] s (fun s2 => ((l5 = 0 → RV c d m_R_night [.ref 2] s2 (fun s3 => eR c (d + 1) m_R_fewest 45 [some (.ref 2), some (.int l1), some (.int l2), some (.int l5), some (.int (s2.1 27)), some (.int (l5 + 1))] s3 (pI c Q))) ∧ (¬ l5 = 0 → ((l4 ≤ (s2.1 27) → RV c d m_R_night [.ref 2] s2 (fun s4 => eR c (d + 1) m_R_fewest 45 [some (.ref 2), some (.int l1), some (.int l2), some (.int l3), some (.int l4), some (.int (l5 + 1))] s4 (pI c Q))) ∧ (¬ l4 ≤ (s2.1 27) → RV c d m_R_night [.ref 2] s2 (fun s5 => eR c (d + 1) m_R_fewest 45 [some (.ref 2), some (.int l1), some (.int l2), some (.int l5), some (.int (s2.1 27)), some (.int (l5 + 1))] s5 (pI c Q)))))))))) : eR c (d + 1) m_R_fewest 45 [some (.ref 2), some (.int l1), some (.int l2), some (.int l3), some (.int l4), some (.int l5)] s (pI c Q) := by
  unfold eR
  refine ev_ex 0 (c' := (45, [some (.ref 2), some (.int l1), some (.int l2), some (.int l3), some (.int l4), some (.int l5)], [], cH c s)) rfl ?_
  refine ev_ex 2 (c' := (48, [some (.ref 2), some (.int l1), some (.int l2), some (.int l3), some (.int l4), some (.int l5)], [.int l1, .int l5], cH c s)) rfl ?_
  refine ev_icmp_gt (tgt := 88) rfl rfl (fun h => ?_) (fun h => ?_)
  · replace H := H.1 (h)
    refine ev_ex 1 (c' := (89, [some (.ref 2), some (.int l1), some (.int l2), some (.int l3), some (.int l4), some (.int l5)], [.ref 2], cH c s)) rfl ?_
    refine rc_V (idx := 368) rfl rfl rfl (Nat.le_of_ble_eq_true rfl) (Nat.le_of_ble_eq_true rfl) rfl H (fun s1 H => ?_)
    refine ev_ex 1 (c' := (93, [some (.ref 2), some (.int l1), some (.int l2), some (.int l3), some (.int l4), some (.int l5)], [.int l2], cH c s1)) rfl ?_
    refine ev_if_ne (tgt := 101) rfl rfl (fun h => ?_) (fun h => ?_)
    · replace H := H.1 (h)
      refine ev_ex 1 (c' := (102, [some (.ref 2), some (.int l1), some (.int l2), some (.int l3), some (.int l4), some (.int l5)], [.int l3], cH c s1)) rfl ?_
      exact ev_ret rfl rfl rfl ⟨_, _, rfl, rfl, H⟩
    · replace H := H.2 (h)
      refine ev_ex 2 (c' := (102, [some (.ref 2), some (.int l1), some (.int l2), some (.int l3), some (.int l4), some (.int l5)], [.int l4], cH c s1)) rfl ?_
      exact ev_ret rfl rfl rfl ⟨_, _, rfl, rfl, H⟩
  · replace H := H.2 (h)
    refine ev_ex 1 (c' := (52, [some (.ref 2), some (.int l1), some (.int l2), some (.int l3), some (.int l4), some (.int l5)], [.ref 2], cH c s)) rfl ?_
    refine rc_V (idx := 362) rfl rfl rfl (Nat.le_of_ble_eq_true rfl) (Nat.le_of_ble_eq_true rfl) rfl H (fun s2 H => ?_)
    refine ev_ex 1 (c' := (57, [some (.ref 2), some (.int l1), some (.int l2), some (.int l3), some (.int l4), some (.int l5)], [.int l5], cH c s2)) rfl ?_
    refine ev_if_eq (tgt := 69) rfl rfl (fun h => ?_) (fun h => ?_)
    · replace H := H.1 (h)
      refine ev_ex 6 (c' := (79, [some (.ref 2), some (.int l1), some (.int l2), some (.int l5), some (.int (s2.1 27)), some (.int l5)], [.ref 2], cH c s2)) rfl ?_
      refine rc_V (idx := 337) rfl rfl rfl (Nat.le_of_ble_eq_true rfl) (Nat.le_of_ble_eq_true rfl) rfl H (fun s3 H => ?_)
      refine ev_ex 2 (c' := (45, [some (.ref 2), some (.int l1), some (.int l2), some (.int l5), some (.int (s2.1 27)), some (.int (l5 + 1))], [], cH c s3)) rfl ?_
      exact H
    · replace H := H.2 (h)
      refine ev_ex 3 (c' := (66, [some (.ref 2), some (.int l1), some (.int l2), some (.int l3), some (.int l4), some (.int l5)], [.int l4, .int (s2.1 27)], cH c s2)) rfl ?_
      refine ev_icmp_ge (tgt := 78) rfl rfl (fun h => ?_) (fun h => ?_)
      · replace H := H.1 (h)
        refine ev_ex 1 (c' := (79, [some (.ref 2), some (.int l1), some (.int l2), some (.int l3), some (.int l4), some (.int l5)], [.ref 2], cH c s2)) rfl ?_
        refine rc_V (idx := 337) rfl rfl rfl (Nat.le_of_ble_eq_true rfl) (Nat.le_of_ble_eq_true rfl) rfl H (fun s4 H => ?_)
        refine ev_ex 2 (c' := (45, [some (.ref 2), some (.int l1), some (.int l2), some (.int l3), some (.int l4), some (.int (l5 + 1))], [], cH c s4)) rfl ?_
        exact H
      · replace H := H.2 (h)
        refine ev_ex 6 (c' := (79, [some (.ref 2), some (.int l1), some (.int l2), some (.int l5), some (.int (s2.1 27)), some (.int l5)], [.ref 2], cH c s2)) rfl ?_
        refine rc_V (idx := 337) rfl rfl rfl (Nat.le_of_ble_eq_true rfl) (Nat.le_of_ble_eq_true rfl) rfl H (fun s5 H => ?_)
        refine ev_ex 2 (c' := (45, [some (.ref 2), some (.int l1), some (.int l2), some (.int l5), some (.int (s2.1 27)), some (.int (l5 + 1))], [], cH c s5)) rfl ?_
        exact H
set_option maxRecDepth 8000 in
theorem w_R_tray {c : CX} {d : Nat} {s : RS} {Q : RS → Prop} (a0 : Int32) (a1 : Int32) (a2 : Int32) (H : (((wth a0.toInt64 0 3) = true → (((wth a1.toInt64 0 3) = false → Q (rF s 4 2)) ∧ ((wth a1.toInt64 0 3) = true → (((wth a2.toInt64 0 30) = true → (okx a0 4 ∧ (okx a0 4 ∧ eR c (d + 2) m_R_tray 69 [some (.ref 2), some (.int a0), some (.int a1), some (.int a2), some (.int 0)] (rA (rA (rF s 4 0) 15 (ix a0) a1) 16 (ix a0) a2) (pV c Q)))) ∧ ((wth a2.toInt64 0 30) = false → Q (rF s 4 2)))))) ∧ ((wth a0.toInt64 0 3) = false → Q (rF s 4 1)))) : RV c (d + 2) m_R_tray [.ref 2, .int a0, .int a1, .int a2] s Q := by
  refine ⟨q_R_tray, rfl, Nat.le_of_ble_eq_true rfl, ?_⟩
  refine ev_ex 0 (c' := (0, [some (.ref 2), some (.int a0), some (.int a1), some (.int a2), none], [], cH c s)) rfl ?_
  refine ev_ex 2 (c' := (2, [some (.ref 2), some (.int a0), some (.int a1), some (.int a2), none], [.int a0, .ref 2], cH c s)) rfl ?_
  refine rq_B (idx := 341) (V := wth a0.toInt64 0 3) (S := s) rfl rfl rfl (Nat.le_of_ble_eq_true rfl) (Nat.le_of_ble_eq_true rfl) rfl (zq_R_isTray ⟨rfl, rfl⟩) ?_
  refine ev_if_neB (x := (wth a0.toInt64 0 3)) (tgt := 12) rfl rfl (fun h => ?_) (fun h => ?_)
  · replace H := H.1 (h)
    refine ev_ex 4 (c' := (18, [some (.ref 2), some (.int a0), some (.int a1), some (.int a2), none], [.long 3, .long 0, .long a1.toInt64, .ref 2], cH c s)) rfl ?_
    refine rq_B (idx := 136) (V := wth a1.toInt64 0 3) (S := s) rfl rfl rfl (Nat.le_of_ble_eq_true rfl) (Nat.le_of_ble_eq_true rfl) rfl (zq_R_within ⟨rfl, rfl⟩) ?_
    refine ev_if_eqB (x := (wth a1.toInt64 0 3)) (tgt := 36) rfl rfl (fun h => ?_) (fun h => ?_)
    · replace H := H.1 (h)
      refine ev_ex 6 (c' := (51, [some (.ref 2), some (.int a0), some (.int a1), some (.int a2), none], [], cH c (rF s 4 2))) rfl ?_
      exact ev_ret rfl rfl rfl ⟨_, rfl, rfl, H⟩
    · replace H := H.2 (h)
      refine ev_ex 4 (c' := (30, [some (.ref 2), some (.int a0), some (.int a1), some (.int a2), none], [.long 30, .long 0, .long a2.toInt64, .ref 2], cH c s)) rfl ?_
      refine rq_B (idx := 136) (V := wth a2.toInt64 0 30) (S := s) rfl rfl rfl (Nat.le_of_ble_eq_true rfl) (Nat.le_of_ble_eq_true rfl) rfl (zq_R_within ⟨rfl, rfl⟩) ?_
      refine ev_if_neB (x := (wth a2.toInt64 0 30)) (tgt := 40) rfl rfl (fun h => ?_) (fun h => ?_)
      · replace H := H.1 (h)
        refine ev_ex 9 (c' := (58, [some (.ref 2), some (.int a0), some (.int a1), some (.int a2), none], [.int a1, .int a0, .ref 62], cH c (rF s 4 0))) rfl ?_
        obtain ⟨H0, H⟩ := H
        refine ev_ast (i := .iastore) rfl (Or.inl rfl) rfl H0 (by decide) rfl rfl (σ' := cH c (rA (rF s 4 0) 15 (ix a0) a1)) rfl ?_
        refine ev_ex 4 (c' := (65, [some (.ref 2), some (.int a0), some (.int a1), some (.int a2), none], [.int a2, .int a0, .ref 66], cH c (rA (rF s 4 0) 15 (ix a0) a1))) rfl ?_
        obtain ⟨H0, H⟩ := H
        refine ev_ast (i := .iastore) rfl (Or.inl rfl) rfl H0 (by decide) rfl rfl (σ' := cH c (rA (rA (rF s 4 0) 15 (ix a0) a1) 16 (ix a0) a2)) rfl ?_
        refine ev_ex 2 (c' := (69, [some (.ref 2), some (.int a0), some (.int a1), some (.int a2), some (.int 0)], [], cH c (rA (rA (rF s 4 0) 15 (ix a0) a1) 16 (ix a0) a2))) rfl ?_
        exact H
      · replace H := H.2 (h)
        refine ev_ex 6 (c' := (51, [some (.ref 2), some (.int a0), some (.int a1), some (.int a2), none], [], cH c (rF s 4 2))) rfl ?_
        exact ev_ret rfl rfl rfl ⟨_, rfl, rfl, H⟩
  · replace H := H.2 (h)
    refine ev_ex 6 (c' := (51, [some (.ref 2), some (.int a0), some (.int a1), some (.int a2), none], [], cH c (rF s 4 1))) rfl ?_
    exact ev_ret rfl rfl rfl ⟨_, rfl, rfl, H⟩
set_option maxRecDepth 8000 in
theorem w_R_tray_69 {c : CX} {d : Nat} {s : RS} {Q : RS → Prop} (l1 : Int32) (l2 : Int32) (l3 : Int32) (l4 : Int32) (H : ((30 ≤ l4 → Q s) ∧ (¬ 30 ≤ l4 → (okx ((30 * l1) + l4) 120 ∧ eR c (d + 2) m_R_tray 69 [some (.ref 2), some (.int l1), some (.int l2), some (.int l3), some (.int (l4 + 1))] (rL s 17 (ix ((30 * l1) + l4)) 0) (pV c Q))))) : eR c (d + 2) m_R_tray 69 [some (.ref 2), some (.int l1), some (.int l2), some (.int l3), some (.int l4)] s (pV c Q) := by
  unfold eR
  refine ev_ex 0 (c' := (69, [some (.ref 2), some (.int l1), some (.int l2), some (.int l3), some (.int l4)], [], cH c s)) rfl ?_
  refine ev_ex 2 (c' := (73, [some (.ref 2), some (.int l1), some (.int l2), some (.int l3), some (.int l4)], [.int 30, .int l4], cH c s)) rfl ?_
  refine ev_icmp_ge (tgt := 95) rfl rfl (fun h => ?_) (fun h => ?_)
  · replace H := H.1 (h)
    exact ev_ret rfl rfl rfl ⟨_, rfl, rfl, H⟩
  · replace H := H.2 (h)
    refine ev_ex 8 (c' := (88, [some (.ref 2), some (.int l1), some (.int l2), some (.int l3), some (.int l4)], [.long 0, .int ((30 * l1) + l4), .ref 70], cH c s)) rfl ?_
    obtain ⟨H0, H⟩ := H
    refine ev_ast (i := .lastore) rfl (Or.inr (Or.inr (Or.inl rfl))) rfl H0 (by decide) rfl rfl (σ' := cH c (rL s 17 (ix ((30 * l1) + l4)) 0)) rfl ?_
    refine ev_ex 2 (c' := (69, [some (.ref 2), some (.int l1), some (.int l2), some (.int l3), some (.int (l4 + 1))], [], cH c (rL s 17 (ix ((30 * l1) + l4)) 0))) rfl ?_
    exact H
set_option maxRecDepth 8000 in
theorem w_R_write {c : CX} {d : Nat} {s : RS} {Q : Int64 → RS → Prop} (a0 : Int32) (a1 : Int32) (a2 : Int64) (H : RI c d m_R_trayFault [.ref 2, .int a0] s (fun v2 s1 => ((v2 ≤ 0 → (okx a0 4 ∧ (((wth a1.toInt64 0 (((s1.2.1 16 (ix a0)) - 1).toInt64)) = false → Q ((0 : Int32).toInt64) (rF (rF s1 4 v2) 4 3)) ∧ ((wth a1.toInt64 0 (((s1.2.1 16 (ix a0)) - 1).toInt64)) = true → RJ c d m_R_cut [.ref 2, .int a0, .int a1, .long a2] (rF s1 4 v2) (fun v4 s3 => Q v4 s3))))) ∧ (¬ v2 ≤ 0 → Q 0 (rF s1 4 v2))))) : RJ c (d + 1) m_R_write [.ref 2, .int a0, .int a1, .long a2] s Q := by
  refine ⟨q_R_write, rfl, Nat.le_of_ble_eq_true rfl, ?_⟩
  refine ev_ex 0 (c' := (0, [some (.ref 2), some (.int a0), some (.int a1), some (.long a2), none], [], cH c s)) rfl ?_
  refine ev_ex 3 (c' := (3, [some (.ref 2), some (.int a0), some (.int a1), some (.long a2), none], [.int a0, .ref 2, .ref 2], cH c s)) rfl ?_
  refine rc_I (idx := 348) rfl rfl rfl (Nat.le_of_ble_eq_true rfl) (Nat.le_of_ble_eq_true rfl) rfl H (fun v2 s1 H => ?_)
  refine ev_ex 3 (c' := (13, [some (.ref 2), some (.int a0), some (.int a1), some (.long a2), none], [.int v2], cH c (rF s1 4 v2))) rfl ?_
  refine ev_if_le (tgt := 18) rfl rfl (fun h => ?_) (fun h => ?_)
  · replace H := H.1 (h)
    refine ev_ex 6 (c' := (26, [some (.ref 2), some (.int a0), some (.int a1), some (.long a2), none], [.int a0, .ref 66, .long 0, .long a1.toInt64], cH c (rF s1 4 v2))) rfl ?_
    obtain ⟨H0, H⟩ := H
    refine ev_ald (i := .iaload) rfl (Or.inl rfl) rfl H0 (v := .int (s1.2.1 16 (ix a0))) rfl ?_
    refine ev_ex 3 (c' := (30, [some (.ref 2), some (.int a0), some (.int a1), some (.long a2), none], [.long (((s1.2.1 16 (ix a0)) - 1).toInt64), .long 0, .long a1.toInt64], cH c (rF s1 4 v2))) rfl ?_
    refine rq_B (idx := 136) (V := wth a1.toInt64 0 (((s1.2.1 16 (ix a0)) - 1).toInt64)) (S := rF s1 4 v2) rfl rfl rfl (Nat.le_of_ble_eq_true rfl) (Nat.le_of_ble_eq_true rfl) rfl (zq_R_within ⟨rfl, rfl⟩) ?_
    refine ev_if_eqB (x := (wth a1.toInt64 0 (((s1.2.1 16 (ix a0)) - 1).toInt64))) (tgt := 46) rfl rfl (fun h => ?_) (fun h => ?_)
    · replace H := H.1 (h)
      refine ev_ex 2 (c' := (48, [some (.ref 2), some (.int a0), some (.int a1), some (.long a2), none], [.int 3, .ref 2], cH c (rF s1 4 v2))) rfl ?_
      refine rq_I (idx := 258) (V := 0) (S := rF (rF s1 4 v2) 4 3) rfl rfl rfl (Nat.le_of_ble_eq_true rfl) (Nat.le_of_ble_eq_true rfl) rfl (zq_R_fails ⟨rfl, rfl⟩) ?_
      refine ev_ex 1 (c' := (52, [some (.ref 2), some (.int a0), some (.int a1), some (.long a2), none], [.long ((0 : Int32).toInt64)], cH c (rF (rF s1 4 v2) 4 3))) rfl ?_
      exact ev_ret rfl rfl rfl ⟨_, _, rfl, rfl, H⟩
    · replace H := H.2 (h)
      refine ev_ex 4 (c' := (40, [some (.ref 2), some (.int a0), some (.int a1), some (.long a2), none], [.long a2, .int a1, .int a0, .ref 2], cH c (rF s1 4 v2))) rfl ?_
      refine rc_J (idx := 471) rfl rfl rfl (Nat.le_of_ble_eq_true rfl) (Nat.le_of_ble_eq_true rfl) rfl H (fun v4 s3 H => ?_)
      refine ev_ex 1 (c' := (52, [some (.ref 2), some (.int a0), some (.int a1), some (.long a2), none], [.long v4], cH c s3)) rfl ?_
      exact ev_ret rfl rfl rfl ⟨_, _, rfl, rfl, H⟩
  · replace H := H.2 (h)
    refine ev_ex 1 (c' := (17, [some (.ref 2), some (.int a0), some (.int a1), some (.long a2), none], [.long 0], cH c (rF s1 4 v2))) rfl ?_
    exact ev_ret rfl rfl rfl ⟨_, _, rfl, rfl, H⟩
set_option maxRecDepth 8000 in
theorem w_R_copy {c : CX} {d : Nat} {s : RS} {Q : Int32 → RS → Prop} (a0 : Int32) (H : RI c d m_R_trayFault [.ref 2, .int a0] s (fun v2 s1 => ((v2 ≤ 0 → (okx a0 4 ∧ eR c (d + 1) m_R_copy 34 [some (.ref 2), some (.int a0), some (.int (mnI (s1.2.1 16 (ix a0)) (s1.2.1 1 1))), some (.int 0)] (rF s1 4 v2) (pI c Q))) ∧ (¬ v2 ≤ 0 → Q 0 (rF s1 4 v2))))) : RI c (d + 1) m_R_copy [.ref 2, .int a0] s Q := by
  refine ⟨q_R_copy, rfl, Nat.le_of_ble_eq_true rfl, ?_⟩
  refine ev_ex 0 (c' := (0, [some (.ref 2), some (.int a0), none, none], [], cH c s)) rfl ?_
  refine ev_ex 3 (c' := (3, [some (.ref 2), some (.int a0), none, none], [.int a0, .ref 2, .ref 2], cH c s)) rfl ?_
  refine rc_I (idx := 348) rfl rfl rfl (Nat.le_of_ble_eq_true rfl) (Nat.le_of_ble_eq_true rfl) rfl H (fun v2 s1 H => ?_)
  refine ev_ex 3 (c' := (13, [some (.ref 2), some (.int a0), none, none], [.int v2], cH c (rF s1 4 v2))) rfl ?_
  refine ev_if_le (tgt := 18) rfl rfl (fun h => ?_) (fun h => ?_)
  · replace H := H.1 (h)
    refine ev_ex 3 (c' := (23, [some (.ref 2), some (.int a0), none, none], [.int a0, .ref 66], cH c (rF s1 4 v2))) rfl ?_
    obtain ⟨H0, H⟩ := H
    refine ev_ald (i := .iaload) rfl (Or.inl rfl) rfl H0 (v := .int (s1.2.1 16 (ix a0))) rfl ?_
    refine ev_ex 1 (c' := (25, [some (.ref 2), some (.int a0), none, none], [.ref 2, .int (s1.2.1 16 (ix a0))], cH c (rF s1 4 v2))) rfl ?_
    refine rq_I (idx := 267) (V := s1.2.1 1 1) (S := rF s1 4 v2) rfl rfl rfl (Nat.le_of_ble_eq_true rfl) (Nat.le_of_ble_eq_true rfl) rfl (zq_R_guilds ⟨rfl, rfl⟩) ?_
    refine rq_I (idx := 416) (V := mnI (s1.2.1 16 (ix a0)) (s1.2.1 1 1)) (S := rF s1 4 v2) rfl rfl rfl (Nat.le_of_ble_eq_true rfl) (Nat.le_of_ble_eq_true rfl) rfl (zq_JM_min ⟨rfl, rfl⟩) ?_
    refine ev_ex 3 (c' := (34, [some (.ref 2), some (.int a0), some (.int (mnI (s1.2.1 16 (ix a0)) (s1.2.1 1 1))), some (.int 0)], [], cH c (rF s1 4 v2))) rfl ?_
    exact H
  · replace H := H.2 (h)
    refine ev_ex 1 (c' := (17, [some (.ref 2), some (.int a0), none, none], [.int 0], cH c (rF s1 4 v2))) rfl ?_
    exact ev_ret rfl rfl rfl ⟨_, _, rfl, rfl, H⟩
set_option maxRecDepth 8000 in
theorem w_R_copy_34 {c : CX} {d : Nat} {s : RS} {Q : Int32 → RS → Prop} (l1 : Int32) (l2 : Int32) (l3 : Int32) (H : ((l2 ≤ l3 → Q l2 s) ∧ (¬ l2 ≤ l3 → (okx (6 + l3) 2101 ∧ ((¬ (s.2.1 1 (ix (6 + l3))) = ((-1)) → (okx (6 + l3) 2101 ∧ RJ c d m_R_cut [.ref 2, .int l1, .int l3, .long ((s.2.1 1 (ix (6 + l3))).toInt64)] s (fun v2 s1 => eR c (d + 1) m_R_copy 34 [some (.ref 2), some (.int l1), some (.int l2), some (.int (l3 + 1))] s1 (pI c Q)))) ∧ ((s.2.1 1 (ix (6 + l3))) = ((-1)) → RJ c d m_R_cut [.ref 2, .int l1, .int l3, .long 99] s (fun v4 s3 => eR c (d + 1) m_R_copy 34 [some (.ref 2), some (.int l1), some (.int l2), some (.int (l3 + 1))] s3 (pI c Q)))))))) : eR c (d + 1) m_R_copy 34 [some (.ref 2), some (.int l1), some (.int l2), some (.int l3)] s (pI c Q) := by
  unfold eR
  refine ev_ex 0 (c' := (34, [some (.ref 2), some (.int l1), some (.int l2), some (.int l3)], [], cH c s)) rfl ?_
  refine ev_ex 2 (c' := (36, [some (.ref 2), some (.int l1), some (.int l2), some (.int l3)], [.int l2, .int l3], cH c s)) rfl ?_
  refine ev_icmp_ge (tgt := 73) rfl rfl (fun h => ?_) (fun h => ?_)
  · replace H := H.1 (h)
    refine ev_ex 1 (c' := (74, [some (.ref 2), some (.int l1), some (.int l2), some (.int l3)], [.int l2], cH c s)) rfl ?_
    exact ev_ret rfl rfl rfl ⟨_, _, rfl, rfl, H⟩
  · replace H := H.2 (h)
    refine ev_ex 5 (c' := (44, [some (.ref 2), some (.int l1), some (.int l2), some (.int l3)], [.int l3, .ref 2, .int l3, .int l1, .ref 2], cH c s)) rfl ?_
    obtain ⟨H1, H⟩ := H
    refine rq_I (idx := 270) (V := s.2.1 1 (ix (6 + l3))) (S := s) rfl rfl rfl (Nat.le_of_ble_eq_true rfl) (Nat.le_of_ble_eq_true rfl) rfl (zq_R_mocked H1 ⟨rfl, rfl⟩) ?_
    refine ev_ex 1 (c' := (48, [some (.ref 2), some (.int l1), some (.int l2), some (.int l3)], [.int ((-1)), .int (s.2.1 1 (ix (6 + l3))), .int l3, .int l1, .ref 2], cH c s)) rfl ?_
    refine ev_icmp_ne (tgt := 57) rfl rfl (fun h => ?_) (fun h => ?_)
    · replace H := H.1 (h)
      refine ev_ex 2 (c' := (59, [some (.ref 2), some (.int l1), some (.int l2), some (.int l3)], [.int l3, .ref 2, .int l3, .int l1, .ref 2], cH c s)) rfl ?_
      obtain ⟨H1, H⟩ := H
      refine rq_I (idx := 270) (V := s.2.1 1 (ix (6 + l3))) (S := s) rfl rfl rfl (Nat.le_of_ble_eq_true rfl) (Nat.le_of_ble_eq_true rfl) rfl (zq_R_mocked H1 ⟨rfl, rfl⟩) ?_
      refine ev_ex 1 (c' := (63, [some (.ref 2), some (.int l1), some (.int l2), some (.int l3)], [.long ((s.2.1 1 (ix (6 + l3))).toInt64), .int l3, .int l1, .ref 2], cH c s)) rfl ?_
      refine rc_J (idx := 471) rfl rfl rfl (Nat.le_of_ble_eq_true rfl) (Nat.le_of_ble_eq_true rfl) rfl H (fun v2 s1 H => ?_)
      refine ev_ex 3 (c' := (34, [some (.ref 2), some (.int l1), some (.int l2), some (.int (l3 + 1))], [], cH c s1)) rfl ?_
      exact H
    · replace H := H.2 (h)
      refine ev_ex 2 (c' := (63, [some (.ref 2), some (.int l1), some (.int l2), some (.int l3)], [.long 99, .int l3, .int l1, .ref 2], cH c s)) rfl ?_
      refine rc_J (idx := 471) rfl rfl rfl (Nat.le_of_ble_eq_true rfl) (Nat.le_of_ble_eq_true rfl) rfl H (fun v4 s3 H => ?_)
      refine ev_ex 3 (c' := (34, [some (.ref 2), some (.int l1), some (.int l2), some (.int (l3 + 1))], [], cH c s3)) rfl ?_
      exact H
set_option maxRecDepth 8000 in
theorem w_R_image {c : CX} {d : Nat} {s : RS} {Q : RS → Prop} (a0 : Int32) (H : (((wth a0.toInt64 0 2) = false → Q (rF s 4 1)) ∧ ((wth a0.toInt64 0 2) = true → (okx a0 3 ∧ eR c (d + 1) m_R_image 38 [some (.ref 2), some (.int a0), some (.int 0)] (rA (rF s 4 0) 4 (ix a0) 1) (pV c Q))))) : RV c (d + 1) m_R_image [.ref 2, .int a0] s Q := by
  refine ⟨q_R_image, rfl, Nat.le_of_ble_eq_true rfl, ?_⟩
  refine ev_ex 0 (c' := (0, [some (.ref 2), some (.int a0), none], [], cH c s)) rfl ?_
  refine ev_ex 5 (c' := (7, [some (.ref 2), some (.int a0), none], [.long 2, .long 0, .long a0.toInt64, .ref 2], cH c s)) rfl ?_
  refine rq_B (idx := 136) (V := wth a0.toInt64 0 2) (S := s) rfl rfl rfl (Nat.le_of_ble_eq_true rfl) (Nat.le_of_ble_eq_true rfl) rfl (zq_R_within ⟨rfl, rfl⟩) ?_
  refine ev_if_eqB (x := (wth a0.toInt64 0 2)) (tgt := 17) rfl rfl (fun h => ?_) (fun h => ?_)
  · replace H := H.1 (h)
    refine ev_ex 5 (c' := (28, [some (.ref 2), some (.int a0), none], [], cH c (rF s 4 1))) rfl ?_
    exact ev_ret rfl rfl rfl ⟨_, rfl, rfl, H⟩
  · replace H := H.2 (h)
    refine ev_ex 10 (c' := (35, [some (.ref 2), some (.int a0), none], [.int 1, .int a0, .ref 18], cH c (rF s 4 0))) rfl ?_
    obtain ⟨H0, H⟩ := H
    refine ev_ast (i := .bastore) rfl (Or.inr (Or.inl rfl)) rfl H0 (by decide) rfl rfl (σ' := cH c (rA (rF s 4 0) 4 (ix a0) 1)) rfl ?_
    refine ev_ex 2 (c' := (38, [some (.ref 2), some (.int a0), some (.int 0)], [], cH c (rA (rF s 4 0) 4 (ix a0) 1))) rfl ?_
    exact H
set_option maxRecDepth 8000 in
theorem w_R_image_38 {c : CX} {d : Nat} {s : RS} {Q : RS → Prop} (l1 : Int32) (l2 : Int32) (H : ((2101 ≤ l2 → Q s) ∧ (¬ 2101 ≤ l2 → (okx l2 2101 ∧ (okx ((2101 * l1) + l2) 6303 ∧ eR c (d + 1) m_R_image 38 [some (.ref 2), some (.int l1), some (.int (l2 + 1))] (rA s 3 (ix ((2101 * l1) + l2)) (s.2.1 1 (ix l2))) (pV c Q)))))) : eR c (d + 1) m_R_image 38 [some (.ref 2), some (.int l1), some (.int l2)] s (pV c Q) := by
  unfold eR
  refine ev_ex 0 (c' := (38, [some (.ref 2), some (.int l1), some (.int l2)], [], cH c s)) rfl ?_
  refine ev_ex 2 (c' := (42, [some (.ref 2), some (.int l1), some (.int l2)], [.int 2101, .int l2], cH c s)) rfl ?_
  refine ev_icmp_ge (tgt := 69) rfl rfl (fun h => ?_) (fun h => ?_)
  · replace H := H.1 (h)
    exact ev_ret rfl rfl rfl ⟨_, rfl, rfl, H⟩
  · replace H := H.2 (h)
    refine ev_ex 10 (c' := (61, [some (.ref 2), some (.int l1), some (.int l2)], [.int l2, .ref 6, .int ((2101 * l1) + l2), .ref 14], cH c s)) rfl ?_
    obtain ⟨H0, H⟩ := H
    refine ev_ald (i := .iaload) rfl (Or.inl rfl) rfl H0 (v := .int (s.2.1 1 (ix l2))) rfl ?_
    obtain ⟨H0, H⟩ := H
    refine ev_ast (i := .iastore) rfl (Or.inl rfl) rfl H0 (by decide) rfl rfl (σ' := cH c (rA s 3 (ix ((2101 * l1) + l2)) (s.2.1 1 (ix l2)))) rfl ?_
    refine ev_ex 2 (c' := (38, [some (.ref 2), some (.int l1), some (.int (l2 + 1))], [], cH c (rA s 3 (ix ((2101 * l1) + l2)) (s.2.1 1 (ix l2))))) rfl ?_
    exact H
set_option maxRecDepth 8000 in
theorem w_R_restore {c : CX} {d : Nat} {s : RS} {Q : RS → Prop} (a0 : Int32) (H : (((wth a0.toInt64 0 2) = true → (okx a0 3 ∧ ((¬ (s.2.1 4 (ix a0)) = 0 → eR c (d + 1) m_R_restore 44 [some (.ref 2), some (.int a0), some (.int 0)] (rF s 4 0) (pV c Q)) ∧ ((s.2.1 4 (ix a0)) = 0 → Q (rF s 4 2))))) ∧ ((wth a0.toInt64 0 2) = false → Q (rF s 4 1)))) : RV c (d + 1) m_R_restore [.ref 2, .int a0] s Q := by
  refine ⟨q_R_restore, rfl, Nat.le_of_ble_eq_true rfl, ?_⟩
  refine ev_ex 0 (c' := (0, [some (.ref 2), some (.int a0), none], [], cH c s)) rfl ?_
  refine ev_ex 5 (c' := (7, [some (.ref 2), some (.int a0), none], [.long 2, .long 0, .long a0.toInt64, .ref 2], cH c s)) rfl ?_
  refine rq_B (idx := 136) (V := wth a0.toInt64 0 2) (S := s) rfl rfl rfl (Nat.le_of_ble_eq_true rfl) (Nat.le_of_ble_eq_true rfl) rfl (zq_R_within ⟨rfl, rfl⟩) ?_
  refine ev_if_neB (x := (wth a0.toInt64 0 2)) (tgt := 17) rfl rfl (fun h => ?_) (fun h => ?_)
  · replace H := H.1 (h)
    refine ev_ex 3 (c' := (22, [some (.ref 2), some (.int a0), none], [.int a0, .ref 18, .ref 2], cH c s)) rfl ?_
    obtain ⟨H0, H⟩ := H
    refine ev_ald (i := .baload) rfl (Or.inr (Or.inl rfl)) rfl H0 (v := .int (s.2.1 4 (ix a0))) rfl ?_
    refine ev_if_ne (tgt := 30) rfl rfl (fun h => ?_) (fun h => ?_)
    · replace H := H.1 (h)
      refine ev_ex 7 (c' := (44, [some (.ref 2), some (.int a0), some (.int 0)], [], cH c (rF s 4 0))) rfl ?_
      exact H
    · replace H := H.2 (h)
      refine ev_ex 6 (c' := (41, [some (.ref 2), some (.int a0), none], [], cH c (rF s 4 2))) rfl ?_
      exact ev_ret rfl rfl rfl ⟨_, rfl, rfl, H⟩
  · replace H := H.2 (h)
    refine ev_ex 6 (c' := (41, [some (.ref 2), some (.int a0), none], [], cH c (rF s 4 1))) rfl ?_
    exact ev_ret rfl rfl rfl ⟨_, rfl, rfl, H⟩
set_option maxRecDepth 8000 in
theorem w_R_restore_44 {c : CX} {d : Nat} {s : RS} {Q : RS → Prop} (l1 : Int32) (l2 : Int32) (H : ((2101 ≤ l2 → Q s) ∧ (¬ 2101 ≤ l2 → (okx ((2101 * l1) + l2) 6303 ∧ (okx l2 2101 ∧ eR c (d + 1) m_R_restore 44 [some (.ref 2), some (.int l1), some (.int (l2 + 1))] (rA s 1 (ix l2) (s.2.1 3 (ix ((2101 * l1) + l2)))) (pV c Q)))))) : eR c (d + 1) m_R_restore 44 [some (.ref 2), some (.int l1), some (.int l2)] s (pV c Q) := by
  unfold eR
  refine ev_ex 0 (c' := (44, [some (.ref 2), some (.int l1), some (.int l2)], [], cH c s)) rfl ?_
  refine ev_ex 2 (c' := (48, [some (.ref 2), some (.int l1), some (.int l2)], [.int 2101, .int l2], cH c s)) rfl ?_
  refine ev_icmp_ge (tgt := 75) rfl rfl (fun h => ?_) (fun h => ?_)
  · replace H := H.1 (h)
    exact ev_ret rfl rfl rfl ⟨_, rfl, rfl, H⟩
  · replace H := H.2 (h)
    refine ev_ex 10 (c' := (67, [some (.ref 2), some (.int l1), some (.int l2)], [.int ((2101 * l1) + l2), .ref 14, .int l2, .ref 6], cH c s)) rfl ?_
    obtain ⟨H0, H⟩ := H
    refine ev_ald (i := .iaload) rfl (Or.inl rfl) rfl H0 (v := .int (s.2.1 3 (ix ((2101 * l1) + l2)))) rfl ?_
    obtain ⟨H0, H⟩ := H
    refine ev_ast (i := .iastore) rfl (Or.inl rfl) rfl H0 (by decide) rfl rfl (σ' := cH c (rA s 1 (ix l2) (s.2.1 3 (ix ((2101 * l1) + l2))))) rfl ?_
    refine ev_ex 2 (c' := (44, [some (.ref 2), some (.int l1), some (.int (l2 + 1))], [], cH c (rA s 1 (ix l2) (s.2.1 3 (ix ((2101 * l1) + l2)))))) rfl ?_
    exact H
set_option maxRecDepth 8000 in
theorem w_R_count {c : CX} {d : Nat} {s : RS} {Q : Int32 → RS → Prop} (a0 : Int32) (H : ((a0 = 0 → (okx 0 2101 ∧ Q (s.2.1 1 (ix 0)) (rF s 4 0))) ∧ (a0 = 1 → Q (s.2.1 1 1) (rF s 4 0)) ∧ (a0 = 2 → (okx 2 2101 ∧ Q (s.2.1 1 (ix 2)) (rF s 4 0))) ∧ (a0 = 3 → RI c d m_R_steps [.ref 2] (rF s 4 0) (fun v2 s1 => Q v2 s1)) ∧ (a0 = 4 → (okx 26 2101 ∧ Q (s.2.1 1 (ix 26)) (rF s 4 0))) ∧ (a0 = 5 → RI c d m_R_mocking [.ref 2] (rF s 4 0) (fun v4 s3 => Q v4 s3)) ∧ (a0 = 6 → (okx 5 2101 ∧ Q (s.2.1 1 (ix 5)) (rF s 4 0))) ∧ (a0 = 7 → Q (s.1 6) (rF s 4 0)) ∧ (a0 = 8 → (okx 3 2101 ∧ (((s.2.1 1 (ix 3)) ≤ 0 → Q 0 (rF s 4 0)) ∧ (¬ (s.2.1 1 (ix 3)) ≤ 0 → Q 1 (rF s 4 0))))) ∧ (a0 = 9 → (okx 4 2101 ∧ (((s.2.1 1 (ix 4)) ≤ 0 → Q 0 (rF s 4 0)) ∧ (¬ (s.2.1 1 (ix 4)) ≤ 0 → Q 1 (rF s 4 0))))) ∧ (¬ a0 = 0 ∧ ¬ a0 = 1 ∧ ¬ a0 = 2 ∧ ¬ a0 = 3 ∧ ¬ a0 = 4 ∧ ¬ a0 = 5 ∧ ¬ a0 = 6 ∧ ¬ a0 = 7 ∧ ¬ a0 = 8 ∧ ¬ a0 = 9 → Q ((-1)) (rF s 4 0)))) : RI c (d + 1) m_R_count [.ref 2, .int a0] s Q := by
  refine ⟨q_R_count, rfl, Nat.le_of_ble_eq_true rfl, ?_⟩
  refine ev_ex 0 (c' := (0, [some (.ref 2), some (.int a0)], [], cH c s)) rfl ?_
  refine ev_ex 4 (c' := (6, [some (.ref 2), some (.int a0)], [.int a0], cH c (rF s 4 0))) rfl ?_
  by_cases h0 : a0 = 0
  · refine ev_sw h0 (tgt := 60) rfl rfl ?_
    replace H := H.1 h0
    refine ev_ex 3 (c' := (65, [some (.ref 2), some (.int a0)], [.int 0, .ref 6], cH c (rF s 4 0))) rfl ?_
    obtain ⟨H0, H⟩ := H
    refine ev_ald (i := .iaload) rfl (Or.inl rfl) rfl H0 (v := .int (s.2.1 1 (ix 0))) rfl ?_
    exact ev_ret rfl rfl rfl ⟨_, _, rfl, rfl, H⟩
  by_cases h1 : a0 = 1
  · refine ev_sw h1 (tgt := 67) rfl rfl ?_
    replace H := H.2.1 h1
    refine ev_ex 1 (c' := (68, [some (.ref 2), some (.int a0)], [.ref 2], cH c (rF s 4 0))) rfl ?_
    refine rq_I (idx := 267) (V := s.2.1 1 1) (S := rF s 4 0) rfl rfl rfl (Nat.le_of_ble_eq_true rfl) (Nat.le_of_ble_eq_true rfl) rfl (zq_R_guilds ⟨rfl, rfl⟩) ?_
    exact ev_ret rfl rfl rfl ⟨_, _, rfl, rfl, H⟩
  by_cases h2 : a0 = 2
  · refine ev_sw h2 (tgt := 72) rfl rfl ?_
    replace H := H.2.2.1 h2
    refine ev_ex 3 (c' := (77, [some (.ref 2), some (.int a0)], [.int 2, .ref 6], cH c (rF s 4 0))) rfl ?_
    obtain ⟨H0, H⟩ := H
    refine ev_ald (i := .iaload) rfl (Or.inl rfl) rfl H0 (v := .int (s.2.1 1 (ix 2))) rfl ?_
    exact ev_ret rfl rfl rfl ⟨_, _, rfl, rfl, H⟩
  by_cases h3 : a0 = 3
  · refine ev_sw h3 (tgt := 79) rfl rfl ?_
    replace H := H.2.2.2.1 h3
    refine ev_ex 1 (c' := (80, [some (.ref 2), some (.int a0)], [.ref 2], cH c (rF s 4 0))) rfl ?_
    refine rc_I (idx := 418) rfl rfl rfl (Nat.le_of_ble_eq_true rfl) (Nat.le_of_ble_eq_true rfl) rfl H (fun v2 s1 H => ?_)
    exact ev_ret rfl rfl rfl ⟨_, _, rfl, rfl, H⟩
  by_cases h4 : a0 = 4
  · refine ev_sw h4 (tgt := 84) rfl rfl ?_
    replace H := H.2.2.2.2.1 h4
    refine ev_ex 3 (c' := (90, [some (.ref 2), some (.int a0)], [.int 26, .ref 6], cH c (rF s 4 0))) rfl ?_
    obtain ⟨H0, H⟩ := H
    refine ev_ald (i := .iaload) rfl (Or.inl rfl) rfl H0 (v := .int (s.2.1 1 (ix 26))) rfl ?_
    exact ev_ret rfl rfl rfl ⟨_, _, rfl, rfl, H⟩
  by_cases h5 : a0 = 5
  · refine ev_sw h5 (tgt := 92) rfl rfl ?_
    replace H := H.2.2.2.2.2.1 h5
    refine ev_ex 1 (c' := (93, [some (.ref 2), some (.int a0)], [.ref 2], cH c (rF s 4 0))) rfl ?_
    refine rc_I (idx := 359) rfl rfl rfl (Nat.le_of_ble_eq_true rfl) (Nat.le_of_ble_eq_true rfl) rfl H (fun v4 s3 H => ?_)
    exact ev_ret rfl rfl rfl ⟨_, _, rfl, rfl, H⟩
  by_cases h6 : a0 = 6
  · refine ev_sw h6 (tgt := 97) rfl rfl ?_
    replace H := H.2.2.2.2.2.2.1 h6
    refine ev_ex 3 (c' := (102, [some (.ref 2), some (.int a0)], [.int 5, .ref 6], cH c (rF s 4 0))) rfl ?_
    obtain ⟨H0, H⟩ := H
    refine ev_ald (i := .iaload) rfl (Or.inl rfl) rfl H0 (v := .int (s.2.1 1 (ix 5))) rfl ?_
    exact ev_ret rfl rfl rfl ⟨_, _, rfl, rfl, H⟩
  by_cases h7 : a0 = 7
  · refine ev_sw h7 (tgt := 104) rfl rfl ?_
    replace H := H.2.2.2.2.2.2.2.1 h7
    refine ev_ex 2 (c' := (108, [some (.ref 2), some (.int a0)], [.int (s.1 6)], cH c (rF s 4 0))) rfl ?_
    exact ev_ret rfl rfl rfl ⟨_, _, rfl, rfl, H⟩
  by_cases h8 : a0 = 8
  · refine ev_sw h8 (tgt := 109) rfl rfl ?_
    replace H := H.2.2.2.2.2.2.2.2.1 h8
    refine ev_ex 3 (c' := (114, [some (.ref 2), some (.int a0)], [.int 3, .ref 6], cH c (rF s 4 0))) rfl ?_
    obtain ⟨H0, H⟩ := H
    refine ev_ald (i := .iaload) rfl (Or.inl rfl) rfl H0 (v := .int (s.2.1 1 (ix 3))) rfl ?_
    refine ev_if_le (tgt := 122) rfl rfl (fun h => ?_) (fun h => ?_)
    · replace H := H.1 (h)
      refine ev_ex 1 (c' := (123, [some (.ref 2), some (.int a0)], [.int 0], cH c (rF s 4 0))) rfl ?_
      exact ev_ret rfl rfl rfl ⟨_, _, rfl, rfl, H⟩
    · replace H := H.2 (h)
      refine ev_ex 2 (c' := (123, [some (.ref 2), some (.int a0)], [.int 1], cH c (rF s 4 0))) rfl ?_
      exact ev_ret rfl rfl rfl ⟨_, _, rfl, rfl, H⟩
  by_cases h9 : a0 = 9
  · refine ev_sw h9 (tgt := 124) rfl rfl ?_
    replace H := H.2.2.2.2.2.2.2.2.2.1 h9
    refine ev_ex 3 (c' := (129, [some (.ref 2), some (.int a0)], [.int 4, .ref 6], cH c (rF s 4 0))) rfl ?_
    obtain ⟨H0, H⟩ := H
    refine ev_ald (i := .iaload) rfl (Or.inl rfl) rfl H0 (v := .int (s.2.1 1 (ix 4))) rfl ?_
    refine ev_if_le (tgt := 137) rfl rfl (fun h => ?_) (fun h => ?_)
    · replace H := H.1 (h)
      refine ev_ex 1 (c' := (138, [some (.ref 2), some (.int a0)], [.int 0], cH c (rF s 4 0))) rfl ?_
      exact ev_ret rfl rfl rfl ⟨_, _, rfl, rfl, H⟩
    · replace H := H.2 (h)
      refine ev_ex 2 (c' := (138, [some (.ref 2), some (.int a0)], [.int 1], cH c (rF s 4 0))) rfl ?_
      exact ev_ret rfl rfl rfl ⟨_, _, rfl, rfl, H⟩
  replace H := H.2.2.2.2.2.2.2.2.2.2 ⟨h0, h1, h2, h3, h4, h5, h6, h7, h8, h9⟩
  refine ev_tswd (tgt := 139) rfl (by have e0 := i32_ne h0 (z := 0) rfl; have e1 := i32_ne h1 (z := 1) rfl; have e2 := i32_ne h2 (z := 2) rfl; have e3 := i32_ne h3 (z := 3) rfl; have e4 := i32_ne h4 (z := 4) rfl; have e5 := i32_ne h5 (z := 5) rfl; have e6 := i32_ne h6 (z := 6) rfl; have e7 := i32_ne h7 (z := 7) rfl; have e8 := i32_ne h8 (z := 8) rfl; have e9 := i32_ne h9 (z := 9) rfl; omega) rfl ?_
  refine ev_ex 1 (c' := (140, [some (.ref 2), some (.int a0)], [.int ((-1))], cH c (rF s 4 0))) rfl ?_
  exact ev_ret rfl rfl rfl ⟨_, _, rfl, rfl, H⟩
