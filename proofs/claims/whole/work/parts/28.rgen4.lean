/-! written by wip/gen/vcg.py: what runs of the reference ask -/
set_option maxRecDepth 8000 in
theorem w_R_behind {c : CX} {d : Nat} {s : RS} {Q : Int32 → RS → Prop} (a0 : Int32) (H : RI c d m_R_mockers [.ref 2, .int a0] s (fun v2 s1 => ((¬ v2 = 0 → RI c d m_R_ringOf [.ref 2, .int a0] s1 (fun v4 s3 => ((¬ v4 = 0 → RB c d m_R_isShut [.ref 2, .int v4] s3 (fun v6 s5 => ((v6 = false → RI c d m_R_firstOf [.int v4] s5 (fun v8 s7 => eR c (d + 1) m_R_behind 58 [some (.ref 2), some (.int a0), some (.int v2), some (.int v4), some (.int v8)] s7 (pI c Q))) ∧ (v6 = true → RI c d m_R_firstOf [.int v4] s5 (fun v10 s9 => ((¬ v10 = a0 → RI c d m_R_firstOf [.int v2] s9 (fun v12 s11 => Q v12 s11)) ∧ (v10 = a0 → Q ((-1)) s9))))))) ∧ (v4 = 0 → RI c d m_R_firstOf [.int v2] s3 (fun v14 s13 => Q v14 s13))))) ∧ (v2 = 0 → Q ((-1)) s1)))) : RI c (d + 1) m_R_behind [.ref 2, .int a0] s Q := by
  refine ⟨q_R_behind, rfl, Nat.le_of_ble_eq_true rfl, ?_⟩
  refine ev_ex 0 (c' := (0, [some (.ref 2), some (.int a0), none, none, none], [], cH c s)) rfl ?_
  refine ev_ex 2 (c' := (2, [some (.ref 2), some (.int a0), none, none, none], [.int a0, .ref 2], cH c s)) rfl ?_
  refine rc_I (idx := 290) rfl rfl rfl (Nat.le_of_ble_eq_true rfl) (Nat.le_of_ble_eq_true rfl) rfl H (fun v2 s1 H => ?_)
  refine ev_ex 2 (c' := (7, [some (.ref 2), some (.int a0), some (.int v2), none, none], [.int v2], cH c s1)) rfl ?_
  refine ev_if_ne (tgt := 12) rfl rfl (fun h => ?_) (fun h => ?_)
  · replace H := H.1 (h)
    refine ev_ex 2 (c' := (14, [some (.ref 2), some (.int a0), some (.int v2), none, none], [.int a0, .ref 2], cH c s1)) rfl ?_
    refine rc_I (idx := 380) rfl rfl rfl (Nat.le_of_ble_eq_true rfl) (Nat.le_of_ble_eq_true rfl) rfl H (fun v4 s3 H => ?_)
    refine ev_ex 2 (c' := (19, [some (.ref 2), some (.int a0), some (.int v2), some (.int v4), none], [.int v4], cH c s3)) rfl ?_
    refine ev_if_ne (tgt := 27) rfl rfl (fun h => ?_) (fun h => ?_)
    · replace H := H.1 (h)
      refine ev_ex 2 (c' := (29, [some (.ref 2), some (.int a0), some (.int v2), some (.int v4), none], [.int v4, .ref 2], cH c s3)) rfl ?_
      refine rc_B (idx := 383) rfl rfl rfl (Nat.le_of_ble_eq_true rfl) (Nat.le_of_ble_eq_true rfl) rfl H (fun v6 s5 H => ?_)
      refine ev_if_eqB (x := v6) (tgt := 52) rfl rfl (fun h => ?_) (fun h => ?_)
      · replace H := H.1 (h)
        refine ev_ex 1 (c' := (53, [some (.ref 2), some (.int a0), some (.int v2), some (.int v4), none], [.int v4], cH c s5)) rfl ?_
        refine rc_I (idx := 308) rfl rfl rfl (Nat.le_of_ble_eq_true rfl) (Nat.le_of_ble_eq_true rfl) rfl H (fun v8 s7 H => ?_)
        refine ev_ex 1 (c' := (58, [some (.ref 2), some (.int a0), some (.int v2), some (.int v4), some (.int v8)], [], cH c s7)) rfl ?_
        exact H
      · replace H := H.2 (h)
        refine ev_ex 1 (c' := (36, [some (.ref 2), some (.int a0), some (.int v2), some (.int v4), none], [.int v4], cH c s5)) rfl ?_
        refine rc_I (idx := 308) rfl rfl rfl (Nat.le_of_ble_eq_true rfl) (Nat.le_of_ble_eq_true rfl) rfl H (fun v10 s9 H => ?_)
        refine ev_ex 1 (c' := (40, [some (.ref 2), some (.int a0), some (.int v2), some (.int v4), none], [.int a0, .int v10], cH c s9)) rfl ?_
        refine ev_icmp_ne (tgt := 47) rfl rfl (fun h => ?_) (fun h => ?_)
        · replace H := H.1 (h)
          refine ev_ex 1 (c' := (48, [some (.ref 2), some (.int a0), some (.int v2), some (.int v4), none], [.int v2], cH c s9)) rfl ?_
          refine rc_I (idx := 308) rfl rfl rfl (Nat.le_of_ble_eq_true rfl) (Nat.le_of_ble_eq_true rfl) rfl H (fun v12 s11 H => ?_)
          exact ev_ret rfl rfl rfl ⟨_, _, rfl, rfl, H⟩
        · replace H := H.2 (h)
          refine ev_ex 2 (c' := (51, [some (.ref 2), some (.int a0), some (.int v2), some (.int v4), none], [.int ((-1))], cH c s9)) rfl ?_
          exact ev_ret rfl rfl rfl ⟨_, _, rfl, rfl, H⟩
    · replace H := H.2 (h)
      refine ev_ex 1 (c' := (23, [some (.ref 2), some (.int a0), some (.int v2), some (.int v4), none], [.int v2], cH c s3)) rfl ?_
      refine rc_I (idx := 308) rfl rfl rfl (Nat.le_of_ble_eq_true rfl) (Nat.le_of_ble_eq_true rfl) rfl H (fun v14 s13 H => ?_)
      exact ev_ret rfl rfl rfl ⟨_, _, rfl, rfl, H⟩
  · replace H := H.2 (h)
    refine ev_ex 1 (c' := (11, [some (.ref 2), some (.int a0), some (.int v2), none, none], [.int ((-1))], cH c s1)) rfl ?_
    exact ev_ret rfl rfl rfl ⟨_, _, rfl, rfl, H⟩
set_option maxRecDepth 8000 in
theorem w_R_behind_58 {c : CX} {d : Nat} {s : RS} {Q : Int32 → RS → Prop} (l1 : Int32) (l2 : Int32) (l3 : Int32) (l4 : Int32) (H : (((hs l3 l4) = false → eR c (d + 1) m_R_behind 58 [some (.ref 2), some (.int l1), some (.int l2), some (.int l3), some (.int (l4 + 1))] s (pI c Q)) ∧ ((hs l3 l4) = true → RI c d m_R_mockers [.ref 2, .int l4] s (fun v2 s1 => ((¬ (v2 &&& (l3 ^^^ ((-1)))) = 0 → ((¬ l4 = l1 → RI c d m_R_firstOf [.int (l2 &&& l3)] s1 (fun v4 s3 => Q v4 s3)) ∧ (l4 = l1 → RI c d m_R_firstOf [.int (l2 &&& (l3 ^^^ ((-1))))] s1 (fun v6 s5 => Q v6 s5)))) ∧ ((v2 &&& (l3 ^^^ ((-1)))) = 0 → eR c (d + 1) m_R_behind 58 [some (.ref 2), some (.int l1), some (.int l2), some (.int l3), some (.int (l4 + 1))] s1 (pI c Q))))))) : eR c (d + 1) m_R_behind 58 [some (.ref 2), some (.int l1), some (.int l2), some (.int l3), some (.int l4)] s (pI c Q) := by
  unfold eR
  refine ev_ex 0 (c' := (58, [some (.ref 2), some (.int l1), some (.int l2), some (.int l3), some (.int l4)], [], cH c s)) rfl ?_
  refine ev_ex 2 (c' := (61, [some (.ref 2), some (.int l1), some (.int l2), some (.int l3), some (.int l4)], [.int l4, .int l3], cH c s)) rfl ?_
  refine rq_B (idx := 74) (V := hs l3 l4) (S := s) rfl rfl rfl (Nat.le_of_ble_eq_true rfl) (Nat.le_of_ble_eq_true rfl) rfl (zq_R_has ⟨rfl, rfl⟩) ?_
  refine ev_if_eqB (x := (hs l3 l4)) (tgt := 80) rfl rfl (fun h => ?_) (fun h => ?_)
  · replace H := H.1 (h)
    refine ev_ex 2 (c' := (58, [some (.ref 2), some (.int l1), some (.int l2), some (.int l3), some (.int (l4 + 1))], [], cH c s)) rfl ?_
    exact H
  · replace H := H.2 (h)
    refine ev_ex 2 (c' := (70, [some (.ref 2), some (.int l1), some (.int l2), some (.int l3), some (.int l4)], [.int l4, .ref 2], cH c s)) rfl ?_
    refine rc_I (idx := 290) rfl rfl rfl (Nat.le_of_ble_eq_true rfl) (Nat.le_of_ble_eq_true rfl) rfl H (fun v2 s1 H => ?_)
    refine ev_ex 4 (c' := (77, [some (.ref 2), some (.int l1), some (.int l2), some (.int l3), some (.int l4)], [.int (v2 &&& (l3 ^^^ ((-1))))], cH c s1)) rfl ?_
    refine ev_if_ne (tgt := 86) rfl rfl (fun h => ?_) (fun h => ?_)
    · replace H := H.1 (h)
      refine ev_ex 2 (c' := (89, [some (.ref 2), some (.int l1), some (.int l2), some (.int l3), some (.int l4)], [.int l1, .int l4], cH c s1)) rfl ?_
      refine ev_icmp_ne (tgt := 100) rfl rfl (fun h => ?_) (fun h => ?_)
      · replace H := H.1 (h)
        refine ev_ex 3 (c' := (103, [some (.ref 2), some (.int l1), some (.int l2), some (.int l3), some (.int l4)], [.int (l2 &&& l3)], cH c s1)) rfl ?_
        refine rc_I (idx := 308) rfl rfl rfl (Nat.le_of_ble_eq_true rfl) (Nat.le_of_ble_eq_true rfl) rfl H (fun v4 s3 H => ?_)
        exact ev_ret rfl rfl rfl ⟨_, _, rfl, rfl, H⟩
      · replace H := H.2 (h)
        refine ev_ex 6 (c' := (103, [some (.ref 2), some (.int l1), some (.int l2), some (.int l3), some (.int l4)], [.int (l2 &&& (l3 ^^^ ((-1))))], cH c s1)) rfl ?_
        refine rc_I (idx := 308) rfl rfl rfl (Nat.le_of_ble_eq_true rfl) (Nat.le_of_ble_eq_true rfl) rfl H (fun v6 s5 H => ?_)
        exact ev_ret rfl rfl rfl ⟨_, _, rfl, rfl, H⟩
    · replace H := H.2 (h)
      refine ev_ex 2 (c' := (58, [some (.ref 2), some (.int l1), some (.int l2), some (.int l3), some (.int (l4 + 1))], [], cH c s1)) rfl ?_
      exact H
set_option maxRecDepth 8000 in
theorem w_R_walksOn {c : CX} {d : Nat} {s : RS} {Q : RS → Prop} (a0 : Int32) (H : (okx (s.1 26) 20 ∧ eR c (d) m_R_walksOn 10 [some (.ref 2), some (.int a0)] (rA s 9 (ix (s.1 26)) a0) (pV c Q))) : RV c (d) m_R_walksOn [.ref 2, .int a0] s Q := by
  refine ⟨q_R_walksOn, rfl, Nat.le_of_ble_eq_true rfl, ?_⟩
  refine ev_ex 0 (c' := (0, [some (.ref 2), some (.int a0)], [], cH c s)) rfl ?_
  refine ev_ex 5 (c' := (9, [some (.ref 2), some (.int a0)], [.int a0, .int (s.1 26), .ref 38], cH c s)) rfl ?_
  obtain ⟨H0, H⟩ := H
  refine ev_ast (i := .iastore) rfl (Or.inl rfl) rfl H0 (by decide) rfl rfl (σ' := cH c (rA s 9 (ix (s.1 26)) a0)) rfl ?_
  exact H
set_option maxRecDepth 8000 in
theorem w_R_walksOn_10 {c : CX} {d : Nat} {s : RS} {Q : RS → Prop} (l1 : Int32) (H : (okx (s.1 26) 21 ∧ ((l1 < 100 → (okx (27 + l1) 2101 ∧ (okx ((s.1 26) + 1) 21 ∧ Q (rF (rA s 10 (ix ((s.1 26) + 1)) ((s.2.1 10 (ix (s.1 26))) + (s.2.1 1 (ix (27 + l1))))) 26 ((s.1 26) + 1))))) ∧ (¬ l1 < 100 → (okx ((s.1 26) + 1) 21 ∧ Q (rF (rA s 10 (ix ((s.1 26) + 1)) ((s.2.1 10 (ix (s.1 26))) + 1)) 26 ((s.1 26) + 1))))))) : eR c (d) m_R_walksOn 10 [some (.ref 2), some (.int l1)] s (pV c Q) := by
  unfold eR
  refine ev_ex 0 (c' := (10, [some (.ref 2), some (.int l1)], [], cH c s)) rfl ?_
  refine ev_ex 10 (c' := (28, [some (.ref 2), some (.int l1)], [.int (s.1 26), .ref 42, .int ((s.1 26) + 1), .ref 42], cH c s)) rfl ?_
  obtain ⟨H0, H⟩ := H
  refine ev_ald (i := .iaload) rfl (Or.inl rfl) rfl H0 (v := .int (s.2.1 10 (ix (s.1 26)))) rfl ?_
  refine ev_ex 2 (c' := (32, [some (.ref 2), some (.int l1)], [.int 100, .int l1, .int (s.2.1 10 (ix (s.1 26))), .int ((s.1 26) + 1), .ref 42], cH c s)) rfl ?_
  refine ev_icmp_lt (tgt := 39) rfl rfl (fun h => ?_) (fun h => ?_)
  · replace H := H.1 (h)
    refine ev_ex 5 (c' := (47, [some (.ref 2), some (.int l1)], [.int (27 + l1), .ref 6, .int (s.2.1 10 (ix (s.1 26))), .int ((s.1 26) + 1), .ref 42], cH c s)) rfl ?_
    obtain ⟨H0, H⟩ := H
    refine ev_ald (i := .iaload) rfl (Or.inl rfl) rfl H0 (v := .int (s.2.1 1 (ix (27 + l1)))) rfl ?_
    refine ev_ex 1 (c' := (49, [some (.ref 2), some (.int l1)], [.int ((s.2.1 10 (ix (s.1 26))) + (s.2.1 1 (ix (27 + l1)))), .int ((s.1 26) + 1), .ref 42], cH c s)) rfl ?_
    obtain ⟨H0, H⟩ := H
    refine ev_ast (i := .iastore) rfl (Or.inl rfl) rfl H0 (by decide) rfl rfl (σ' := cH c (rA s 10 (ix ((s.1 26) + 1)) ((s.2.1 10 (ix (s.1 26))) + (s.2.1 1 (ix (27 + l1)))))) rfl ?_
    refine ev_ex 6 (c' := (60, [some (.ref 2), some (.int l1)], [], cH c (rF (rA s 10 (ix ((s.1 26) + 1)) ((s.2.1 10 (ix (s.1 26))) + (s.2.1 1 (ix (27 + l1))))) 26 ((s.1 26) + 1)))) rfl ?_
    exact ev_ret rfl rfl rfl ⟨_, rfl, rfl, H⟩
  · replace H := H.2 (h)
    refine ev_ex 3 (c' := (49, [some (.ref 2), some (.int l1)], [.int ((s.2.1 10 (ix (s.1 26))) + 1), .int ((s.1 26) + 1), .ref 42], cH c s)) rfl ?_
    obtain ⟨H0, H⟩ := H
    refine ev_ast (i := .iastore) rfl (Or.inl rfl) rfl H0 (by decide) rfl rfl (σ' := cH c (rA s 10 (ix ((s.1 26) + 1)) ((s.2.1 10 (ix (s.1 26))) + 1))) rfl ?_
    refine ev_ex 6 (c' := (60, [some (.ref 2), some (.int l1)], [], cH c (rF (rA s 10 (ix ((s.1 26) + 1)) ((s.2.1 10 (ix (s.1 26))) + 1)) 26 ((s.1 26) + 1)))) rfl ?_
    exact ev_ret rfl rfl rfl ⟨_, rfl, rfl, H⟩
set_option maxRecDepth 8000 in
theorem w_R_mayWalk {c : CX} {d : Nat} {s : RS} {Q : Bool → RS → Prop} (a0 : Int32) (H : eR c (d + 1) m_R_mayWalk 7 [some (.ref 2), some (.int a0), some (.int 0), some (.int 0), some (.int 0)] s (pB c Q)) : RB c (d + 1) m_R_mayWalk [.ref 2, .int a0] s Q := by
  refine ⟨q_R_mayWalk, rfl, Nat.le_of_ble_eq_true rfl, ?_⟩
  refine ev_ex 0 (c' := (0, [some (.ref 2), some (.int a0), none, none, none], [], cH c s)) rfl ?_
  refine ev_ex 6 (c' := (7, [some (.ref 2), some (.int a0), some (.int 0), some (.int 0), some (.int 0)], [], cH c s)) rfl ?_
  exact H
set_option maxRecDepth 8000 in
theorem w_R_mayWalk_7 {c : CX} {d : Nat} {s : RS} {Q : Bool → RS → Prop} (l1 : Int32) (l2 : Int32) (l3 : Int32) (l4 : Int32) (H : (((s.2.1 1 1) ≤ l4 → ((2 ≤ l3 → Q false s) ∧ (¬ 2 ≤ l3 → RB c d m_R_areOpen [.ref 2, .int l1] s (fun v2 s1 => ((v2 = false → Q false s1) ∧ (v2 = true → Q true s1)))))) ∧ (¬ (s.2.1 1 1) ≤ l4 → (((hs l1 l4) = false → (okx (6 + l4) 2101 ∧ ((¬ (s.2.1 1 (ix (6 + l4))) = ((-1)) → (okx (6 + l4) 2101 ∧ (((hs l2 (s.2.1 1 (ix (6 + l4)))) = false → (okx (6 + l4) 2101 ∧ eR c (d + 1) m_R_mayWalk 7 [some (.ref 2), some (.int l1), some (.int (l2 ||| ((1 : Int32) <<< ((s.2.1 1 (ix (6 + l4))) &&& 31)))), some (.int l3), some (.int (l4 + 1))] s (pB c Q))) ∧ ((hs l2 (s.2.1 1 (ix (6 + l4)))) = true → Q false s)))) ∧ ((s.2.1 1 (ix (6 + l4))) = ((-1)) → eR c (d + 1) m_R_mayWalk 7 [some (.ref 2), some (.int l1), some (.int l2), some (.int (l3 + 1)), some (.int (l4 + 1))] s (pB c Q))))) ∧ ((hs l1 l4) = true → eR c (d + 1) m_R_mayWalk 7 [some (.ref 2), some (.int l1), some (.int l2), some (.int l3), some (.int (l4 + 1))] s (pB c Q)))))) : eR c (d + 1) m_R_mayWalk 7 [some (.ref 2), some (.int l1), some (.int l2), some (.int l3), some (.int l4)] s (pB c Q) := by
  unfold eR
  refine ev_ex 0 (c' := (7, [some (.ref 2), some (.int l1), some (.int l2), some (.int l3), some (.int l4)], [], cH c s)) rfl ?_
  refine ev_ex 2 (c' := (10, [some (.ref 2), some (.int l1), some (.int l2), some (.int l3), some (.int l4)], [.ref 2, .int l4], cH c s)) rfl ?_
  refine rq_I (idx := 267) (V := s.2.1 1 1) (S := s) rfl rfl rfl (Nat.le_of_ble_eq_true rfl) (Nat.le_of_ble_eq_true rfl) rfl (zq_R_guilds ⟨rfl, rfl⟩) ?_
  refine ev_icmp_ge (tgt := 76) rfl rfl (fun h => ?_) (fun h => ?_)
  · replace H := H.1 (h)
    refine ev_ex 2 (c' := (78, [some (.ref 2), some (.int l1), some (.int l2), some (.int l3), some (.int l4)], [.int 2, .int l3], cH c s)) rfl ?_
    refine ev_icmp_ge (tgt := 93) rfl rfl (fun h => ?_) (fun h => ?_)
    · replace H := H.1 (h)
      refine ev_ex 1 (c' := (94, [some (.ref 2), some (.int l1), some (.int l2), some (.int l3), some (.int l4)], [.int 0], cH c s)) rfl ?_
      exact ev_retB (x := false) rfl rfl ⟨_, _, rfl, rfl, H⟩
    · replace H := H.2 (h)
      refine ev_ex 2 (c' := (83, [some (.ref 2), some (.int l1), some (.int l2), some (.int l3), some (.int l4)], [.int l1, .ref 2], cH c s)) rfl ?_
      refine rc_B (idx := 398) rfl rfl rfl (Nat.le_of_ble_eq_true rfl) (Nat.le_of_ble_eq_true rfl) rfl H (fun v2 s1 H => ?_)
      refine ev_if_eqB (x := v2) (tgt := 93) rfl rfl (fun h => ?_) (fun h => ?_)
      · replace H := H.1 (h)
        refine ev_ex 1 (c' := (94, [some (.ref 2), some (.int l1), some (.int l2), some (.int l3), some (.int l4)], [.int 0], cH c s1)) rfl ?_
        exact ev_retB (x := false) rfl rfl ⟨_, _, rfl, rfl, H⟩
      · replace H := H.2 (h)
        refine ev_ex 2 (c' := (94, [some (.ref 2), some (.int l1), some (.int l2), some (.int l3), some (.int l4)], [.int 1], cH c s1)) rfl ?_
        exact ev_retB (x := true) rfl rfl ⟨_, _, rfl, rfl, H⟩
  · replace H := H.2 (h)
    refine ev_ex 2 (c' := (19, [some (.ref 2), some (.int l1), some (.int l2), some (.int l3), some (.int l4)], [.int l4, .int l1], cH c s)) rfl ?_
    refine rq_B (idx := 74) (V := hs l1 l4) (S := s) rfl rfl rfl (Nat.le_of_ble_eq_true rfl) (Nat.le_of_ble_eq_true rfl) rfl (zq_R_has ⟨rfl, rfl⟩) ?_
    refine ev_if_eqB (x := (hs l1 l4)) (tgt := 28) rfl rfl (fun h => ?_) (fun h => ?_)
    · replace H := H.1 (h)
      refine ev_ex 2 (c' := (31, [some (.ref 2), some (.int l1), some (.int l2), some (.int l3), some (.int l4)], [.int l4, .ref 2], cH c s)) rfl ?_
      obtain ⟨H1, H⟩ := H
      refine rq_I (idx := 270) (V := s.2.1 1 (ix (6 + l4))) (S := s) rfl rfl rfl (Nat.le_of_ble_eq_true rfl) (Nat.le_of_ble_eq_true rfl) rfl (zq_R_mocked H1 ⟨rfl, rfl⟩) ?_
      refine ev_ex 1 (c' := (35, [some (.ref 2), some (.int l1), some (.int l2), some (.int l3), some (.int l4)], [.int ((-1)), .int (s.2.1 1 (ix (6 + l4)))], cH c s)) rfl ?_
      refine ev_icmp_ne (tgt := 44) rfl rfl (fun h => ?_) (fun h => ?_)
      · replace H := H.1 (h)
        refine ev_ex 3 (c' := (48, [some (.ref 2), some (.int l1), some (.int l2), some (.int l3), some (.int l4)], [.int l4, .ref 2, .int l2], cH c s)) rfl ?_
        obtain ⟨H1, H⟩ := H
        refine rq_I (idx := 270) (V := s.2.1 1 (ix (6 + l4))) (S := s) rfl rfl rfl (Nat.le_of_ble_eq_true rfl) (Nat.le_of_ble_eq_true rfl) rfl (zq_R_mocked H1 ⟨rfl, rfl⟩) ?_
        refine rq_B (idx := 74) (V := hs l2 (s.2.1 1 (ix (6 + l4)))) (S := s) rfl rfl rfl (Nat.le_of_ble_eq_true rfl) (Nat.le_of_ble_eq_true rfl) rfl (zq_R_has ⟨rfl, rfl⟩) ?_
        refine ev_if_eqB (x := (hs l2 (s.2.1 1 (ix (6 + l4))))) (tgt := 59) rfl rfl (fun h => ?_) (fun h => ?_)
        · replace H := H.1 (h)
          refine ev_ex 4 (c' := (64, [some (.ref 2), some (.int l1), some (.int l2), some (.int l3), some (.int l4)], [.int l4, .ref 2, .int 1, .int l2], cH c s)) rfl ?_
          obtain ⟨H1, H⟩ := H
          refine rq_I (idx := 270) (V := s.2.1 1 (ix (6 + l4))) (S := s) rfl rfl rfl (Nat.le_of_ble_eq_true rfl) (Nat.le_of_ble_eq_true rfl) rfl (zq_R_mocked H1 ⟨rfl, rfl⟩) ?_
          refine ev_ex 5 (c' := (7, [some (.ref 2), some (.int l1), some (.int (l2 ||| ((1 : Int32) <<< ((s.2.1 1 (ix (6 + l4))) &&& 31)))), some (.int l3), some (.int (l4 + 1))], [], cH c s)) rfl ?_
          exact H
        · replace H := H.2 (h)
          refine ev_ex 1 (c' := (58, [some (.ref 2), some (.int l1), some (.int l2), some (.int l3), some (.int l4)], [.int 0], cH c s)) rfl ?_
          exact ev_retB (x := false) rfl rfl ⟨_, _, rfl, rfl, H⟩
      · replace H := H.2 (h)
        refine ev_ex 4 (c' := (7, [some (.ref 2), some (.int l1), some (.int l2), some (.int (l3 + 1)), some (.int (l4 + 1))], [], cH c s)) rfl ?_
        exact H
    · replace H := H.2 (h)
      refine ev_ex 3 (c' := (7, [some (.ref 2), some (.int l1), some (.int l2), some (.int l3), some (.int (l4 + 1))], [], cH c s)) rfl ?_
      exact H
set_option maxRecDepth 8000 in
theorem w_R_areOpen {c : CX} {d : Nat} {s : RS} {Q : Bool → RS → Prop} (a0 : Int32) (H : eR c (d + 1) m_R_areOpen 2 [some (.ref 2), some (.int a0), some (.int 0)] s (pB c Q)) : RB c (d + 1) m_R_areOpen [.ref 2, .int a0] s Q := by
  refine ⟨q_R_areOpen, rfl, Nat.le_of_ble_eq_true rfl, ?_⟩
  refine ev_ex 0 (c' := (0, [some (.ref 2), some (.int a0), none], [], cH c s)) rfl ?_
  refine ev_ex 2 (c' := (2, [some (.ref 2), some (.int a0), some (.int 0)], [], cH c s)) rfl ?_
  exact H
set_option maxRecDepth 8000 in
theorem w_R_areOpen_2 {c : CX} {d : Nat} {s : RS} {Q : Bool → RS → Prop} (l1 : Int32) (l2 : Int32) (H : (((s.2.1 1 1) ≤ l2 → Q true s) ∧ (¬ (s.2.1 1 1) ≤ l2 → RI c d m_R_ringOf [.ref 2, .int l2] s (fun v2 s1 => ((v2 = 0 → eR c (d + 1) m_R_areOpen 2 [some (.ref 2), some (.int l1), some (.int (l2 + 1))] s1 (pB c Q)) ∧ (¬ v2 = 0 → RI c d m_R_ringOf [.ref 2, .int l2] s1 (fun v4 s3 => ((¬ (v4 &&& l1) = 0 → eR c (d + 1) m_R_areOpen 2 [some (.ref 2), some (.int l1), some (.int (l2 + 1))] s3 (pB c Q)) ∧ ((v4 &&& l1) = 0 → Q false s3))))))))) : eR c (d + 1) m_R_areOpen 2 [some (.ref 2), some (.int l1), some (.int l2)] s (pB c Q) := by
  unfold eR
  refine ev_ex 0 (c' := (2, [some (.ref 2), some (.int l1), some (.int l2)], [], cH c s)) rfl ?_
  refine ev_ex 2 (c' := (4, [some (.ref 2), some (.int l1), some (.int l2)], [.ref 2, .int l2], cH c s)) rfl ?_
  refine rq_I (idx := 267) (V := s.2.1 1 1) (S := s) rfl rfl rfl (Nat.le_of_ble_eq_true rfl) (Nat.le_of_ble_eq_true rfl) rfl (zq_R_guilds ⟨rfl, rfl⟩) ?_
  refine ev_icmp_ge (tgt := 36) rfl rfl (fun h => ?_) (fun h => ?_)
  · replace H := H.1 (h)
    refine ev_ex 1 (c' := (37, [some (.ref 2), some (.int l1), some (.int l2)], [.int 1], cH c s)) rfl ?_
    exact ev_retB (x := true) rfl rfl ⟨_, _, rfl, rfl, H⟩
  · replace H := H.2 (h)
    refine ev_ex 2 (c' := (12, [some (.ref 2), some (.int l1), some (.int l2)], [.int l2, .ref 2], cH c s)) rfl ?_
    refine rc_I (idx := 380) rfl rfl rfl (Nat.le_of_ble_eq_true rfl) (Nat.le_of_ble_eq_true rfl) rfl H (fun v2 s1 H => ?_)
    refine ev_if_eq (tgt := 30) rfl rfl (fun h => ?_) (fun h => ?_)
    · replace H := H.1 (h)
      refine ev_ex 2 (c' := (2, [some (.ref 2), some (.int l1), some (.int (l2 + 1))], [], cH c s1)) rfl ?_
      exact H
    · replace H := H.2 (h)
      refine ev_ex 2 (c' := (20, [some (.ref 2), some (.int l1), some (.int l2)], [.int l2, .ref 2], cH c s1)) rfl ?_
      refine rc_I (idx := 380) rfl rfl rfl (Nat.le_of_ble_eq_true rfl) (Nat.le_of_ble_eq_true rfl) rfl H (fun v4 s3 H => ?_)
      refine ev_ex 2 (c' := (25, [some (.ref 2), some (.int l1), some (.int l2)], [.int (v4 &&& l1)], cH c s3)) rfl ?_
      refine ev_if_ne (tgt := 30) rfl rfl (fun h => ?_) (fun h => ?_)
      · replace H := H.1 (h)
        refine ev_ex 2 (c' := (2, [some (.ref 2), some (.int l1), some (.int (l2 + 1))], [], cH c s3)) rfl ?_
        exact H
      · replace H := H.2 (h)
        refine ev_ex 1 (c' := (29, [some (.ref 2), some (.int l1), some (.int l2)], [.int 0], cH c s3)) rfl ?_
        exact ev_retB (x := false) rfl rfl ⟨_, _, rfl, rfl, H⟩
set_option maxRecDepth 8000 in
theorem w_R_goesOn {c : CX} {d : Nat} {s : RS} {Q : Bool → RS → Prop} (a0 : Int32) (H : ((a0 ≤ 0 → Q false s) ∧ (¬ a0 ≤ 0 → (((s.1 26) ≤ a0 → Q false s) ∧ (¬ (s.1 26) ≤ a0 → (okx a0 20 ∧ ((100 ≤ (s.2.1 9 (ix a0)) → Q false s) ∧ (¬ 100 ≤ (s.2.1 9 (ix a0)) → (okx (a0 - 1) 20 ∧ ((100 ≤ (s.2.1 9 (ix (a0 - 1))) → Q false s) ∧ (¬ 100 ≤ (s.2.1 9 (ix (a0 - 1))) → (okx a0 20 ∧ (okx (6 + (s.2.1 9 (ix a0))) 2101 ∧ (okx (a0 - 1) 20 ∧ ((¬ (s.2.1 1 (ix (6 + (s.2.1 9 (ix a0))))) = (s.2.1 9 (ix (a0 - 1))) → Q false s) ∧ ((s.2.1 1 (ix (6 + (s.2.1 9 (ix a0))))) = (s.2.1 9 (ix (a0 - 1))) → Q true s)))))))))))))))) : RB c (d + 1) m_R_goesOn [.ref 2, .int a0] s Q := by
  refine ⟨q_R_goesOn, rfl, Nat.le_of_ble_eq_true rfl, ?_⟩
  refine ev_ex 0 (c' := (0, [some (.ref 2), some (.int a0)], [], cH c s)) rfl ?_
  refine ev_ex 1 (c' := (1, [some (.ref 2), some (.int a0)], [.int a0], cH c s)) rfl ?_
  refine ev_if_le (tgt := 61) rfl rfl (fun h => ?_) (fun h => ?_)
  · replace H := H.1 (h)
    refine ev_ex 1 (c' := (62, [some (.ref 2), some (.int a0)], [.int 0], cH c s)) rfl ?_
    exact ev_retB (x := false) rfl rfl ⟨_, _, rfl, rfl, H⟩
  · replace H := H.2 (h)
    refine ev_ex 3 (c' := (9, [some (.ref 2), some (.int a0)], [.int (s.1 26), .int a0], cH c s)) rfl ?_
    refine ev_icmp_ge (tgt := 61) rfl rfl (fun h => ?_) (fun h => ?_)
    · replace H := H.1 (h)
      refine ev_ex 1 (c' := (62, [some (.ref 2), some (.int a0)], [.int 0], cH c s)) rfl ?_
      exact ev_retB (x := false) rfl rfl ⟨_, _, rfl, rfl, H⟩
    · replace H := H.2 (h)
      refine ev_ex 3 (c' := (17, [some (.ref 2), some (.int a0)], [.int a0, .ref 38], cH c s)) rfl ?_
      obtain ⟨H0, H⟩ := H
      refine ev_ald (i := .iaload) rfl (Or.inl rfl) rfl H0 (v := .int (s.2.1 9 (ix a0))) rfl ?_
      refine ev_ex 1 (c' := (20, [some (.ref 2), some (.int a0)], [.int 100, .int (s.2.1 9 (ix a0))], cH c s)) rfl ?_
      refine ev_icmp_ge (tgt := 61) rfl rfl (fun h => ?_) (fun h => ?_)
      · replace H := H.1 (h)
        refine ev_ex 1 (c' := (62, [some (.ref 2), some (.int a0)], [.int 0], cH c s)) rfl ?_
        exact ev_retB (x := false) rfl rfl ⟨_, _, rfl, rfl, H⟩
      · replace H := H.2 (h)
        refine ev_ex 5 (c' := (30, [some (.ref 2), some (.int a0)], [.int (a0 - 1), .ref 38], cH c s)) rfl ?_
        obtain ⟨H0, H⟩ := H
        refine ev_ald (i := .iaload) rfl (Or.inl rfl) rfl H0 (v := .int (s.2.1 9 (ix (a0 - 1)))) rfl ?_
        refine ev_ex 1 (c' := (33, [some (.ref 2), some (.int a0)], [.int 100, .int (s.2.1 9 (ix (a0 - 1)))], cH c s)) rfl ?_
        refine ev_icmp_ge (tgt := 61) rfl rfl (fun h => ?_) (fun h => ?_)
        · replace H := H.1 (h)
          refine ev_ex 1 (c' := (62, [some (.ref 2), some (.int a0)], [.int 0], cH c s)) rfl ?_
          exact ev_retB (x := false) rfl rfl ⟨_, _, rfl, rfl, H⟩
        · replace H := H.2 (h)
          refine ev_ex 4 (c' := (42, [some (.ref 2), some (.int a0)], [.int a0, .ref 38, .ref 2], cH c s)) rfl ?_
          obtain ⟨H0, H⟩ := H
          refine ev_ald (i := .iaload) rfl (Or.inl rfl) rfl H0 (v := .int (s.2.1 9 (ix a0))) rfl ?_
          obtain ⟨H1, H⟩ := H
          refine rq_I (idx := 270) (V := s.2.1 1 (ix (6 + (s.2.1 9 (ix a0))))) (S := s) rfl rfl rfl (Nat.le_of_ble_eq_true rfl) (Nat.le_of_ble_eq_true rfl) rfl (zq_R_mocked H1 ⟨rfl, rfl⟩) ?_
          refine ev_ex 5 (c' := (53, [some (.ref 2), some (.int a0)], [.int (a0 - 1), .ref 38, .int (s.2.1 1 (ix (6 + (s.2.1 9 (ix a0)))))], cH c s)) rfl ?_
          obtain ⟨H0, H⟩ := H
          refine ev_ald (i := .iaload) rfl (Or.inl rfl) rfl H0 (v := .int (s.2.1 9 (ix (a0 - 1)))) rfl ?_
          refine ev_icmp_ne (tgt := 61) rfl rfl (fun h => ?_) (fun h => ?_)
          · replace H := H.1 (h)
            refine ev_ex 1 (c' := (62, [some (.ref 2), some (.int a0)], [.int 0], cH c s)) rfl ?_
            exact ev_retB (x := false) rfl rfl ⟨_, _, rfl, rfl, H⟩
          · replace H := H.2 (h)
            refine ev_ex 2 (c' := (62, [some (.ref 2), some (.int a0)], [.int 1], cH c s)) rfl ?_
            exact ev_retB (x := true) rfl rfl ⟨_, _, rfl, rfl, H⟩
set_option maxRecDepth 8000 in
theorem w_R_wordOf {c : CX} {d : Nat} {s : RS} {Q : Int32 → RS → Prop} (a0 : Int32) (a1 : Int32) (a2 : Int32) (H : ((a0 = 0 → (okx (16 + a1) 2101 ∧ Q (s.2.1 1 (ix (16 + a1))) s)) ∧ (a0 = 1 → (okx (16 + a2) 2101 ∧ Q (s.2.1 1 (ix (16 + a2))) s)) ∧ (a0 = 2 → (okx (27 + a1) 2101 ∧ Q (s.2.1 1 (ix (27 + a1))) s)) ∧ (a0 = 3 → (okx (27 + a2) 2101 ∧ Q (s.2.1 1 (ix (27 + a2))) s)) ∧ (a0 = 4 → RI c d m_R_mockers [.ref 2, .int a1] s (fun v2 s1 => RI c d m_R_size [.int v2] s1 (fun v4 s3 => Q v4 s3))) ∧ (a0 = 5 → RI c d m_R_mockers [.ref 2, .int a2] s (fun v6 s5 => RI c d m_R_size [.int v6] s5 (fun v8 s7 => Q v8 s7))) ∧ (a0 = 6 → (okx (6 + a2) 2101 ∧ ((¬ (s.2.1 1 (ix (6 + a2))) = a1 → Q 0 s) ∧ ((s.2.1 1 (ix (6 + a2))) = a1 → Q 1 s)))) ∧ (¬ a0 = 0 ∧ ¬ a0 = 1 ∧ ¬ a0 = 2 ∧ ¬ a0 = 3 ∧ ¬ a0 = 4 ∧ ¬ a0 = 5 ∧ ¬ a0 = 6 → (okx 26 2101 ∧ Q ((s.2.1 1 (ix 26)) - (s.2.1 1 (ix 26)) / 1000 * 1000) s)))) : RI c (d + 1) m_R_wordOf [.ref 2, .int a0, .int a1, .int a2] s Q := by
  refine ⟨q_R_wordOf, rfl, Nat.le_of_ble_eq_true rfl, ?_⟩
  refine ev_ex 0 (c' := (0, [some (.ref 2), some (.int a0), some (.int a1), some (.int a2)], [], cH c s)) rfl ?_
  refine ev_ex 1 (c' := (1, [some (.ref 2), some (.int a0), some (.int a1), some (.int a2)], [.int a0], cH c s)) rfl ?_
  by_cases h0 : a0 = 0
  · refine ev_sw h0 (tgt := 44) rfl rfl ?_
    replace H := H.1 h0
    refine ev_ex 5 (c' := (52, [some (.ref 2), some (.int a0), some (.int a1), some (.int a2)], [.int (16 + a1), .ref 6], cH c s)) rfl ?_
    obtain ⟨H0, H⟩ := H
    refine ev_ald (i := .iaload) rfl (Or.inl rfl) rfl H0 (v := .int (s.2.1 1 (ix (16 + a1)))) rfl ?_
    exact ev_ret rfl rfl rfl ⟨_, _, rfl, rfl, H⟩
  by_cases h1 : a0 = 1
  · refine ev_sw h1 (tgt := 54) rfl rfl ?_
    replace H := H.2.1 h1
    refine ev_ex 5 (c' := (62, [some (.ref 2), some (.int a0), some (.int a1), some (.int a2)], [.int (16 + a2), .ref 6], cH c s)) rfl ?_
    obtain ⟨H0, H⟩ := H
    refine ev_ald (i := .iaload) rfl (Or.inl rfl) rfl H0 (v := .int (s.2.1 1 (ix (16 + a2)))) rfl ?_
    exact ev_ret rfl rfl rfl ⟨_, _, rfl, rfl, H⟩
  by_cases h2 : a0 = 2
  · refine ev_sw h2 (tgt := 64) rfl rfl ?_
    replace H := H.2.2.1 h2
    refine ev_ex 5 (c' := (72, [some (.ref 2), some (.int a0), some (.int a1), some (.int a2)], [.int (27 + a1), .ref 6], cH c s)) rfl ?_
    obtain ⟨H0, H⟩ := H
    refine ev_ald (i := .iaload) rfl (Or.inl rfl) rfl H0 (v := .int (s.2.1 1 (ix (27 + a1)))) rfl ?_
    exact ev_ret rfl rfl rfl ⟨_, _, rfl, rfl, H⟩
  by_cases h3 : a0 = 3
  · refine ev_sw h3 (tgt := 74) rfl rfl ?_
    replace H := H.2.2.2.1 h3
    refine ev_ex 5 (c' := (82, [some (.ref 2), some (.int a0), some (.int a1), some (.int a2)], [.int (27 + a2), .ref 6], cH c s)) rfl ?_
    obtain ⟨H0, H⟩ := H
    refine ev_ald (i := .iaload) rfl (Or.inl rfl) rfl H0 (v := .int (s.2.1 1 (ix (27 + a2)))) rfl ?_
    exact ev_ret rfl rfl rfl ⟨_, _, rfl, rfl, H⟩
  by_cases h4 : a0 = 4
  · refine ev_sw h4 (tgt := 84) rfl rfl ?_
    replace H := H.2.2.2.2.1 h4
    refine ev_ex 2 (c' := (86, [some (.ref 2), some (.int a0), some (.int a1), some (.int a2)], [.int a1, .ref 2], cH c s)) rfl ?_
    refine rc_I (idx := 290) rfl rfl rfl (Nat.le_of_ble_eq_true rfl) (Nat.le_of_ble_eq_true rfl) rfl H (fun v2 s1 H => ?_)
    refine rc_I (idx := 293) rfl rfl rfl (Nat.le_of_ble_eq_true rfl) (Nat.le_of_ble_eq_true rfl) rfl H (fun v4 s3 H => ?_)
    exact ev_ret rfl rfl rfl ⟨_, _, rfl, rfl, H⟩
  by_cases h5 : a0 = 5
  · refine ev_sw h5 (tgt := 93) rfl rfl ?_
    replace H := H.2.2.2.2.2.1 h5
    refine ev_ex 2 (c' := (95, [some (.ref 2), some (.int a0), some (.int a1), some (.int a2)], [.int a2, .ref 2], cH c s)) rfl ?_
    refine rc_I (idx := 290) rfl rfl rfl (Nat.le_of_ble_eq_true rfl) (Nat.le_of_ble_eq_true rfl) rfl H (fun v6 s5 H => ?_)
    refine rc_I (idx := 293) rfl rfl rfl (Nat.le_of_ble_eq_true rfl) (Nat.le_of_ble_eq_true rfl) rfl H (fun v8 s7 H => ?_)
    exact ev_ret rfl rfl rfl ⟨_, _, rfl, rfl, H⟩
  by_cases h6 : a0 = 6
  · refine ev_sw h6 (tgt := 102) rfl rfl ?_
    replace H := H.2.2.2.2.2.2.1 h6
    refine ev_ex 2 (c' := (104, [some (.ref 2), some (.int a0), some (.int a1), some (.int a2)], [.int a2, .ref 2], cH c s)) rfl ?_
    obtain ⟨H1, H⟩ := H
    refine rq_I (idx := 270) (V := s.2.1 1 (ix (6 + a2))) (S := s) rfl rfl rfl (Nat.le_of_ble_eq_true rfl) (Nat.le_of_ble_eq_true rfl) rfl (zq_R_mocked H1 ⟨rfl, rfl⟩) ?_
    refine ev_ex 1 (c' := (108, [some (.ref 2), some (.int a0), some (.int a1), some (.int a2)], [.int a1, .int (s.2.1 1 (ix (6 + a2)))], cH c s)) rfl ?_
    refine ev_icmp_ne (tgt := 115) rfl rfl (fun h => ?_) (fun h => ?_)
    · replace H := H.1 (h)
      refine ev_ex 1 (c' := (116, [some (.ref 2), some (.int a0), some (.int a1), some (.int a2)], [.int 0], cH c s)) rfl ?_
      exact ev_ret rfl rfl rfl ⟨_, _, rfl, rfl, H⟩
    · replace H := H.2 (h)
      refine ev_ex 2 (c' := (116, [some (.ref 2), some (.int a0), some (.int a1), some (.int a2)], [.int 1], cH c s)) rfl ?_
      exact ev_ret rfl rfl rfl ⟨_, _, rfl, rfl, H⟩
  replace H := H.2.2.2.2.2.2.2 ⟨h0, h1, h2, h3, h4, h5, h6⟩
  refine ev_tswd (tgt := 117) rfl (by have e0 := i32_ne h0 (z := 0) rfl; have e1 := i32_ne h1 (z := 1) rfl; have e2 := i32_ne h2 (z := 2) rfl; have e3 := i32_ne h3 (z := 3) rfl; have e4 := i32_ne h4 (z := 4) rfl; have e5 := i32_ne h5 (z := 5) rfl; have e6 := i32_ne h6 (z := 6) rfl; omega) rfl ?_
  refine ev_ex 3 (c' := (123, [some (.ref 2), some (.int a0), some (.int a1), some (.int a2)], [.int 26, .ref 6], cH c s)) rfl ?_
  obtain ⟨H0, H⟩ := H
  refine ev_ald (i := .iaload) rfl (Or.inl rfl) rfl H0 (v := .int (s.2.1 1 (ix 26))) rfl ?_
  refine ev_ex 1 (c' := (127, [some (.ref 2), some (.int a0), some (.int a1), some (.int a2)], [.int 1000, .int (s.2.1 1 (ix 26))], cH c s)) rfl ?_
  refine ev_ex 1 (c' := (128, [some (.ref 2), some (.int a0), some (.int a1), some (.int a2)], [.int ((s.2.1 1 (ix 26)) - (s.2.1 1 (ix 26)) / 1000 * 1000)], cH c s)) rfl ?_
  exact ev_ret rfl rfl rfl ⟨_, _, rfl, rfl, H⟩
set_option maxRecDepth 8000 in
theorem w_R_done {c : CX} {d : Nat} {s : RS} {Q : Int32 → RS → Prop} (a0 : Int32) (a1 : Int64) (a2 : Int64) (H : ((a0 = 10 → RI c d m_R_bound [.long (a1 + a2)] s (fun v2 s1 => Q v2 s1)) ∧ (a0 = 11 → RI c d m_R_bound [.long (a1 - a2)] s (fun v4 s3 => Q v4 s3)) ∧ (a0 = 12 → RI c d m_R_bound [.long (a1 * a2)] s (fun v6 s5 => Q v6 s5)) ∧ (a0 = 13 → ((¬ a1 = a2 → Q 0 s) ∧ (a1 = a2 → Q 1 s))) ∧ (a0 = 14 → ((a2 ≤ a1 → Q 0 s) ∧ (¬ a2 ≤ a1 → Q 1 s))) ∧ (a0 = 15 → ((a1 ≤ a2 → Q 0 s) ∧ (¬ a1 ≤ a2 → Q 1 s))) ∧ (a0 = 16 → (((a1 + a2) ≤ 1 → Q 0 s) ∧ (¬ (a1 + a2) ≤ 1 → Q 1 s))) ∧ (¬ a0 = 10 ∧ ¬ a0 = 11 ∧ ¬ a0 = 12 ∧ ¬ a0 = 13 ∧ ¬ a0 = 14 ∧ ¬ a0 = 15 ∧ ¬ a0 = 16 → (((a1 + a2) ≤ 0 → Q 0 s) ∧ (¬ (a1 + a2) ≤ 0 → Q 1 s))))) : RI c (d + 1) m_R_done [.int a0, .long a1, .long a2] s Q := by
  refine ⟨q_R_done, rfl, Nat.le_of_ble_eq_true rfl, ?_⟩
  refine ev_ex 0 (c' := (0, [some (.int a0), some (.long a1), none, some (.long a2), none], [], cH c s)) rfl ?_
  refine ev_ex 1 (c' := (1, [some (.int a0), some (.long a1), none, some (.long a2), none], [.int a0], cH c s)) rfl ?_
  by_cases h0 : a0 = 10
  · refine ev_sw h0 (tgt := 44) rfl rfl ?_
    replace H := H.1 h0
    refine ev_ex 3 (c' := (47, [some (.int a0), some (.long a1), none, some (.long a2), none], [.long (a1 + a2)], cH c s)) rfl ?_
    refine rc_I (idx := 286) rfl rfl rfl (Nat.le_of_ble_eq_true rfl) (Nat.le_of_ble_eq_true rfl) rfl H (fun v2 s1 H => ?_)
    exact ev_ret rfl rfl rfl ⟨_, _, rfl, rfl, H⟩
  by_cases h1 : a0 = 11
  · refine ev_sw h1 (tgt := 51) rfl rfl ?_
    replace H := H.2.1 h1
    refine ev_ex 3 (c' := (54, [some (.int a0), some (.long a1), none, some (.long a2), none], [.long (a1 - a2)], cH c s)) rfl ?_
    refine rc_I (idx := 286) rfl rfl rfl (Nat.le_of_ble_eq_true rfl) (Nat.le_of_ble_eq_true rfl) rfl H (fun v4 s3 H => ?_)
    exact ev_ret rfl rfl rfl ⟨_, _, rfl, rfl, H⟩
  by_cases h2 : a0 = 12
  · refine ev_sw h2 (tgt := 58) rfl rfl ?_
    replace H := H.2.2.1 h2
    refine ev_ex 3 (c' := (61, [some (.int a0), some (.long a1), none, some (.long a2), none], [.long (a1 * a2)], cH c s)) rfl ?_
    refine rc_I (idx := 286) rfl rfl rfl (Nat.le_of_ble_eq_true rfl) (Nat.le_of_ble_eq_true rfl) rfl H (fun v6 s5 H => ?_)
    exact ev_ret rfl rfl rfl ⟨_, _, rfl, rfl, H⟩
  by_cases h3 : a0 = 13
  · refine ev_sw h3 (tgt := 65) rfl rfl ?_
    replace H := H.2.2.2.1 h3
    refine ev_ex 3 (c' := (68, [some (.int a0), some (.long a1), none, some (.long a2), none], [.int (lg_cmp a1 a2)], cH c s)) rfl ?_
    refine ev_if_ne (tgt := 75) rfl rfl (fun h => ?_) (fun h => ?_)
    · replace H := H.1 ((fun q => h ((lg_cmp_eq _ _).mpr q)))
      refine ev_ex 1 (c' := (76, [some (.int a0), some (.long a1), none, some (.long a2), none], [.int 0], cH c s)) rfl ?_
      exact ev_ret rfl rfl rfl ⟨_, _, rfl, rfl, H⟩
    · replace H := H.2 ((lg_cmp_eq _ _).mp h)
      refine ev_ex 2 (c' := (76, [some (.int a0), some (.long a1), none, some (.long a2), none], [.int 1], cH c s)) rfl ?_
      exact ev_ret rfl rfl rfl ⟨_, _, rfl, rfl, H⟩
  by_cases h4 : a0 = 14
  · refine ev_sw h4 (tgt := 77) rfl rfl ?_
    replace H := H.2.2.2.2.1 h4
    refine ev_ex 3 (c' := (80, [some (.int a0), some (.long a1), none, some (.long a2), none], [.int (lg_cmp a1 a2)], cH c s)) rfl ?_
    refine ev_if_ge (tgt := 87) rfl rfl (fun h => ?_) (fun h => ?_)
    · replace H := H.1 ((lg_cmp_ge _ _).mp h)
      refine ev_ex 1 (c' := (88, [some (.int a0), some (.long a1), none, some (.long a2), none], [.int 0], cH c s)) rfl ?_
      exact ev_ret rfl rfl rfl ⟨_, _, rfl, rfl, H⟩
    · replace H := H.2 ((fun q => h ((lg_cmp_ge _ _).mpr q)))
      refine ev_ex 2 (c' := (88, [some (.int a0), some (.long a1), none, some (.long a2), none], [.int 1], cH c s)) rfl ?_
      exact ev_ret rfl rfl rfl ⟨_, _, rfl, rfl, H⟩
  by_cases h5 : a0 = 15
  · refine ev_sw h5 (tgt := 89) rfl rfl ?_
    replace H := H.2.2.2.2.2.1 h5
    refine ev_ex 3 (c' := (92, [some (.int a0), some (.long a1), none, some (.long a2), none], [.int (lg_cmp a1 a2)], cH c s)) rfl ?_
    refine ev_if_le (tgt := 99) rfl rfl (fun h => ?_) (fun h => ?_)
    · replace H := H.1 ((lg_cmp_le _ _).mp h)
      refine ev_ex 1 (c' := (100, [some (.int a0), some (.long a1), none, some (.long a2), none], [.int 0], cH c s)) rfl ?_
      exact ev_ret rfl rfl rfl ⟨_, _, rfl, rfl, H⟩
    · replace H := H.2 ((fun q => h ((lg_cmp_le _ _).mpr q)))
      refine ev_ex 2 (c' := (100, [some (.int a0), some (.long a1), none, some (.long a2), none], [.int 1], cH c s)) rfl ?_
      exact ev_ret rfl rfl rfl ⟨_, _, rfl, rfl, H⟩
  by_cases h6 : a0 = 16
  · refine ev_sw h6 (tgt := 101) rfl rfl ?_
    replace H := H.2.2.2.2.2.2.1 h6
    refine ev_ex 5 (c' := (106, [some (.int a0), some (.long a1), none, some (.long a2), none], [.int (lg_cmp (a1 + a2) 1)], cH c s)) rfl ?_
    refine ev_if_le (tgt := 113) rfl rfl (fun h => ?_) (fun h => ?_)
    · replace H := H.1 ((lg_cmp_le _ _).mp h)
      refine ev_ex 1 (c' := (114, [some (.int a0), some (.long a1), none, some (.long a2), none], [.int 0], cH c s)) rfl ?_
      exact ev_ret rfl rfl rfl ⟨_, _, rfl, rfl, H⟩
    · replace H := H.2 ((fun q => h ((lg_cmp_le _ _).mpr q)))
      refine ev_ex 2 (c' := (114, [some (.int a0), some (.long a1), none, some (.long a2), none], [.int 1], cH c s)) rfl ?_
      exact ev_ret rfl rfl rfl ⟨_, _, rfl, rfl, H⟩
  replace H := H.2.2.2.2.2.2.2 ⟨h0, h1, h2, h3, h4, h5, h6⟩
  refine ev_tswd (tgt := 115) rfl (by have e0 := i32_ne h0 (z := 10) rfl; have e1 := i32_ne h1 (z := 11) rfl; have e2 := i32_ne h2 (z := 12) rfl; have e3 := i32_ne h3 (z := 13) rfl; have e4 := i32_ne h4 (z := 14) rfl; have e5 := i32_ne h5 (z := 15) rfl; have e6 := i32_ne h6 (z := 16) rfl; omega) rfl ?_
  refine ev_ex 5 (c' := (120, [some (.int a0), some (.long a1), none, some (.long a2), none], [.int (lg_cmp (a1 + a2) 0)], cH c s)) rfl ?_
  refine ev_if_le (tgt := 127) rfl rfl (fun h => ?_) (fun h => ?_)
  · replace H := H.1 ((lg_cmp_le _ _).mp h)
    refine ev_ex 1 (c' := (128, [some (.int a0), some (.long a1), none, some (.long a2), none], [.int 0], cH c s)) rfl ?_
    exact ev_ret rfl rfl rfl ⟨_, _, rfl, rfl, H⟩
  · replace H := H.2 ((fun q => h ((lg_cmp_le _ _).mpr q)))
    refine ev_ex 2 (c' := (128, [some (.int a0), some (.long a1), none, some (.long a2), none], [.int 1], cH c s)) rfl ?_
    exact ev_ret rfl rfl rfl ⟨_, _, rfl, rfl, H⟩
set_option maxRecDepth 8000 in
theorem w_R_bound {c : CX} {d : Nat} {s : RS} {Q : Int32 → RS → Prop} (a0 : Int64) (H : Q ((mxL ((-1000000)) (mnL 1000000 a0)).toInt32) s) : RI c (d + 1) m_R_bound [.long a0] s Q := by
  refine ⟨q_R_bound, rfl, Nat.le_of_ble_eq_true rfl, ?_⟩
  refine ev_ex 0 (c' := (0, [some (.long a0), none], [], cH c s)) rfl ?_
  refine ev_ex 3 (c' := (7, [some (.long a0), none], [.long a0, .long 1000000, .long ((-1000000))], cH c s)) rfl ?_
  refine rq_J (idx := 277) (V := mnL 1000000 a0) (S := s) rfl rfl rfl (Nat.le_of_ble_eq_true rfl) (Nat.le_of_ble_eq_true rfl) rfl (zq_JM_min_2 ⟨rfl, rfl⟩) ?_
  refine rq_J (idx := 283) (V := mxL ((-1000000)) (mnL 1000000 a0)) (S := s) rfl rfl rfl (Nat.le_of_ble_eq_true rfl) (Nat.le_of_ble_eq_true rfl) rfl (zq_JM_max_2 ⟨rfl, rfl⟩) ?_
  refine ev_ex 1 (c' := (14, [some (.long a0), none], [.int ((mxL ((-1000000)) (mnL 1000000 a0)).toInt32)], cH c s)) rfl ?_
  exact ev_ret rfl rfl rfl ⟨_, _, rfl, rfl, H⟩
