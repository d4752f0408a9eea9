/-! written by wip/gen/vcg.py: what runs of the reference ask -/
set_option maxRecDepth 8000 in
theorem w_R_fault {c : CX} {d : Nat} {s : RS} {Q : Int32 → RS → Prop} (a0 : Int32) (H : ((¬ a0 = 0 → ((¬ a0 = 1 → Q ((-1)) (rF s 4 0)) ∧ (a0 = 1 → Q (s.1 15) (rF s 4 0)))) ∧ (a0 = 0 → Q (s.1 14) (rF s 4 0)))) : RI c (d) m_R_fault [.ref 2, .int a0] s Q := by
  refine ⟨q_R_fault, rfl, Nat.le_of_ble_eq_true rfl, ?_⟩
  refine ev_ex 0 (c' := (0, [some (.ref 2), some (.int a0)], [], cH c s)) rfl ?_
  refine ev_ex 4 (c' := (6, [some (.ref 2), some (.int a0)], [.int a0], cH c (rF s 4 0))) rfl ?_
  refine ev_if_ne (tgt := 16) rfl rfl (fun h => ?_) (fun h => ?_)
  · replace H := H.1 (h)
    refine ev_ex 2 (c' := (18, [some (.ref 2), some (.int a0)], [.int 1, .int a0], cH c (rF s 4 0))) rfl ?_
    refine ev_icmp_ne (tgt := 28) rfl rfl (fun h => ?_) (fun h => ?_)
    · replace H := H.1 (h)
      refine ev_ex 1 (c' := (29, [some (.ref 2), some (.int a0)], [.int ((-1))], cH c (rF s 4 0))) rfl ?_
      exact ev_ret rfl rfl rfl ⟨_, _, rfl, rfl, H⟩
    · replace H := H.2 (h)
      refine ev_ex 3 (c' := (29, [some (.ref 2), some (.int a0)], [.int (s.1 15)], cH c (rF s 4 0))) rfl ?_
      exact ev_ret rfl rfl rfl ⟨_, _, rfl, rfl, H⟩
  · replace H := H.2 (h)
    refine ev_ex 3 (c' := (29, [some (.ref 2), some (.int a0)], [.int (s.1 14)], cH c (rF s 4 0))) rfl ?_
    exact ev_ret rfl rfl rfl ⟨_, _, rfl, rfl, H⟩
set_option maxRecDepth 8000 in
theorem w_R_guild {c : CX} {d : Nat} {s : RS} {Q : Int32 → RS → Prop} (a0 : Int32) (a1 : Int32) (H : (((wth a0.toInt64 0 (s.2.1 1 1 - 1).toInt64) = true → (((wth a1.toInt64 0 6) = false → Q 0 (rF s 4 2)) ∧ ((wth a1.toInt64 0 6) = true → ((a1 = 0 → (okx (6 + a0) 2101 ∧ Q (s.2.1 1 (ix (6 + a0))) (rF s 4 0))) ∧ (a1 = 1 → (okx (16 + a0) 2101 ∧ Q (s.2.1 1 (ix (16 + a0))) (rF s 4 0))) ∧ (a1 = 2 → (okx (27 + a0) 2101 ∧ Q (s.2.1 1 (ix (27 + a0))) (rF s 4 0))) ∧ (a1 = 3 → (okx (37 + a0) 2101 ∧ Q (s.2.1 1 (ix (37 + a0))) (rF s 4 0))) ∧ (a1 = 4 → (okx (47 + a0) 2101 ∧ Q (s.2.1 1 (ix (47 + a0))) (rF s 4 0))) ∧ (a1 = 5 → (okx (57 + a0) 2101 ∧ Q (s.2.1 1 (ix (57 + a0))) (rF s 4 0))) ∧ (¬ a1 = 0 ∧ ¬ a1 = 1 ∧ ¬ a1 = 2 ∧ ¬ a1 = 3 ∧ ¬ a1 = 4 ∧ ¬ a1 = 5 → RI c (d + 1) m_R_mockers [.ref 2, .int a0] (rF s 4 0) (fun v2 s1 => Q v2 s1)))))) ∧ ((wth a0.toInt64 0 (s.2.1 1 1 - 1).toInt64) = false → Q 0 (rF s 4 1)))) : RI c (d + 2) m_R_guild [.ref 2, .int a0, .int a1] s Q := by
  refine ⟨q_R_guild, rfl, Nat.le_of_ble_eq_true rfl, ?_⟩
  refine ev_ex 0 (c' := (0, [some (.ref 2), some (.int a0), some (.int a1)], [], cH c s)) rfl ?_
  refine ev_ex 4 (c' := (4, [some (.ref 2), some (.int a0), some (.int a1)], [.long a0.toInt64, .ref 2, .ref 2], cH c s)) rfl ?_
  refine rq_B (idx := 314) (V := wth a0.toInt64 0 (s.2.1 1 1 - 1).toInt64) (S := s) rfl rfl rfl (Nat.le_of_ble_eq_true rfl) (Nat.le_of_ble_eq_true rfl) rfl (zq_R_isGuild ⟨rfl, rfl⟩) ?_
  refine ev_if_neB (x := (wth a0.toInt64 0 (s.2.1 1 1 - 1).toInt64)) (tgt := 14) rfl rfl (fun h => ?_) (fun h => ?_)
  · replace H := H.1 (h)
    refine ev_ex 4 (c' := (20, [some (.ref 2), some (.int a0), some (.int a1)], [.long 6, .long 0, .long a1.toInt64, .ref 2], cH c s)) rfl ?_
    refine rq_B (idx := 136) (V := wth a1.toInt64 0 6) (S := s) rfl rfl rfl (Nat.le_of_ble_eq_true rfl) (Nat.le_of_ble_eq_true rfl) rfl (zq_R_within ⟨rfl, rfl⟩) ?_
    refine ev_if_eqB (x := (wth a1.toInt64 0 6)) (tgt := 30) rfl rfl (fun h => ?_) (fun h => ?_)
    · replace H := H.1 (h)
      refine ev_ex 6 (c' := (42, [some (.ref 2), some (.int a0), some (.int a1)], [.int 0], cH c (rF s 4 2))) rfl ?_
      exact ev_ret rfl rfl rfl ⟨_, _, rfl, rfl, H⟩
    · replace H := H.2 (h)
      refine ev_ex 7 (c' := (44, [some (.ref 2), some (.int a0), some (.int a1)], [.int a1], cH c (rF s 4 0))) rfl ?_
      by_cases h0 : a1 = 0
      · refine ev_sw h0 (tgt := 84) rfl rfl ?_
        replace H := H.1 h0
        refine ev_ex 2 (c' := (86, [some (.ref 2), some (.int a0), some (.int a1)], [.int a0, .ref 2], cH c (rF s 4 0))) rfl ?_
        obtain ⟨H1, H⟩ := H
        refine rq_I (idx := 270) (V := s.2.1 1 (ix (6 + a0))) (S := rF s 4 0) rfl rfl rfl (Nat.le_of_ble_eq_true rfl) (Nat.le_of_ble_eq_true rfl) rfl (zq_R_mocked H1 ⟨rfl, rfl⟩) ?_
        exact ev_ret rfl rfl rfl ⟨_, _, rfl, rfl, H⟩
      by_cases h1 : a1 = 1
      · refine ev_sw h1 (tgt := 90) rfl rfl ?_
        replace H := H.2.1 h1
        refine ev_ex 5 (c' := (98, [some (.ref 2), some (.int a0), some (.int a1)], [.int (16 + a0), .ref 6], cH c (rF s 4 0))) rfl ?_
        obtain ⟨H0, H⟩ := H
        refine ev_ald (i := .iaload) rfl (Or.inl rfl) rfl H0 (v := .int (s.2.1 1 (ix (16 + a0)))) rfl ?_
        exact ev_ret rfl rfl rfl ⟨_, _, rfl, rfl, H⟩
      by_cases h2 : a1 = 2
      · refine ev_sw h2 (tgt := 100) rfl rfl ?_
        replace H := H.2.2.1 h2
        refine ev_ex 5 (c' := (108, [some (.ref 2), some (.int a0), some (.int a1)], [.int (27 + a0), .ref 6], cH c (rF s 4 0))) rfl ?_
        obtain ⟨H0, H⟩ := H
        refine ev_ald (i := .iaload) rfl (Or.inl rfl) rfl H0 (v := .int (s.2.1 1 (ix (27 + a0)))) rfl ?_
        exact ev_ret rfl rfl rfl ⟨_, _, rfl, rfl, H⟩
      by_cases h3 : a1 = 3
      · refine ev_sw h3 (tgt := 110) rfl rfl ?_
        replace H := H.2.2.2.1 h3
        refine ev_ex 5 (c' := (118, [some (.ref 2), some (.int a0), some (.int a1)], [.int (37 + a0), .ref 6], cH c (rF s 4 0))) rfl ?_
        obtain ⟨H0, H⟩ := H
        refine ev_ald (i := .iaload) rfl (Or.inl rfl) rfl H0 (v := .int (s.2.1 1 (ix (37 + a0)))) rfl ?_
        exact ev_ret rfl rfl rfl ⟨_, _, rfl, rfl, H⟩
      by_cases h4 : a1 = 4
      · refine ev_sw h4 (tgt := 120) rfl rfl ?_
        replace H := H.2.2.2.2.1 h4
        refine ev_ex 5 (c' := (128, [some (.ref 2), some (.int a0), some (.int a1)], [.int (47 + a0), .ref 6], cH c (rF s 4 0))) rfl ?_
        obtain ⟨H0, H⟩ := H
        refine ev_ald (i := .iaload) rfl (Or.inl rfl) rfl H0 (v := .int (s.2.1 1 (ix (47 + a0)))) rfl ?_
        exact ev_ret rfl rfl rfl ⟨_, _, rfl, rfl, H⟩
      by_cases h5 : a1 = 5
      · refine ev_sw h5 (tgt := 130) rfl rfl ?_
        replace H := H.2.2.2.2.2.1 h5
        refine ev_ex 5 (c' := (138, [some (.ref 2), some (.int a0), some (.int a1)], [.int (57 + a0), .ref 6], cH c (rF s 4 0))) rfl ?_
        obtain ⟨H0, H⟩ := H
        refine ev_ald (i := .iaload) rfl (Or.inl rfl) rfl H0 (v := .int (s.2.1 1 (ix (57 + a0)))) rfl ?_
        exact ev_ret rfl rfl rfl ⟨_, _, rfl, rfl, H⟩
      replace H := H.2.2.2.2.2.2 ⟨h0, h1, h2, h3, h4, h5⟩
      refine ev_tswd (tgt := 140) rfl (by have e0 := i32_ne h0 (z := 0) rfl; have e1 := i32_ne h1 (z := 1) rfl; have e2 := i32_ne h2 (z := 2) rfl; have e3 := i32_ne h3 (z := 3) rfl; have e4 := i32_ne h4 (z := 4) rfl; have e5 := i32_ne h5 (z := 5) rfl; omega) rfl ?_
      refine ev_ex 2 (c' := (142, [some (.ref 2), some (.int a0), some (.int a1)], [.int a0, .ref 2], cH c (rF s 4 0))) rfl ?_
      refine rc_I (idx := 290) rfl rfl rfl (Nat.le_of_ble_eq_true rfl) (Nat.le_of_ble_eq_true rfl) rfl H (fun v2 s1 H => ?_)
      exact ev_ret rfl rfl rfl ⟨_, _, rfl, rfl, H⟩
  · replace H := H.2 (h)
    refine ev_ex 7 (c' := (42, [some (.ref 2), some (.int a0), some (.int a1)], [.int 0], cH c (rF s 4 1))) rfl ?_
    exact ev_ret rfl rfl rfl ⟨_, _, rfl, rfl, H⟩
set_option maxRecDepth 8000 in
theorem w_R_may {c : CX} {d : Nat} {s : RS} {Q : Bool → RS → Prop} (a0 : Int32) (a1 : Int32) (H : (((wth a0.toInt64 0 (s.2.1 1 1 - 1).toInt64) = false → Q false (rF s 4 1)) ∧ ((wth a0.toInt64 0 (s.2.1 1 1 - 1).toInt64) = true → (((wth a1.toInt64 0 (s.2.1 1 1 - 1).toInt64) = true → ((¬ a0 = a1 → RB c (d + 1) m_R_mayMock [.ref 2, .int a0, .int a1] (rF s 4 0) (fun v2 s1 => ((v2 = false → Q false s1) ∧ (v2 = true → Q true s1)))) ∧ (a0 = a1 → Q false (rF s 4 2)))) ∧ ((wth a1.toInt64 0 (s.2.1 1 1 - 1).toInt64) = false → Q false (rF s 4 1)))))) : RB c (d + 2) m_R_may [.ref 2, .int a0, .int a1] s Q := by
  refine ⟨q_R_may, rfl, Nat.le_of_ble_eq_true rfl, ?_⟩
  refine ev_ex 0 (c' := (0, [some (.ref 2), some (.int a0), some (.int a1)], [], cH c s)) rfl ?_
  refine ev_ex 4 (c' := (4, [some (.ref 2), some (.int a0), some (.int a1)], [.long a0.toInt64, .ref 2, .ref 2], cH c s)) rfl ?_
  refine rq_B (idx := 314) (V := wth a0.toInt64 0 (s.2.1 1 1 - 1).toInt64) (S := s) rfl rfl rfl (Nat.le_of_ble_eq_true rfl) (Nat.le_of_ble_eq_true rfl) rfl (zq_R_isGuild ⟨rfl, rfl⟩) ?_
  refine ev_if_eqB (x := (wth a0.toInt64 0 (s.2.1 1 1 - 1).toInt64)) (tgt := 19) rfl rfl (fun h => ?_) (fun h => ?_)
  · replace H := H.1 (h)
    refine ev_ex 7 (c' := (57, [some (.ref 2), some (.int a0), some (.int a1)], [.int 0], cH c (rF s 4 1))) rfl ?_
    exact ev_retB (x := false) rfl rfl ⟨_, _, rfl, rfl, H⟩
  · replace H := H.2 (h)
    refine ev_ex 3 (c' := (13, [some (.ref 2), some (.int a0), some (.int a1)], [.long a1.toInt64, .ref 2, .ref 2], cH c s)) rfl ?_
    refine rq_B (idx := 314) (V := wth a1.toInt64 0 (s.2.1 1 1 - 1).toInt64) (S := s) rfl rfl rfl (Nat.le_of_ble_eq_true rfl) (Nat.le_of_ble_eq_true rfl) rfl (zq_R_isGuild ⟨rfl, rfl⟩) ?_
    refine ev_if_neB (x := (wth a1.toInt64 0 (s.2.1 1 1 - 1).toInt64)) (tgt := 23) rfl rfl (fun h => ?_) (fun h => ?_)
    · replace H := H.1 (h)
      refine ev_ex 2 (c' := (25, [some (.ref 2), some (.int a0), some (.int a1)], [.int a1, .int a0, .ref 2], cH c s)) rfl ?_
      refine ev_icmp_ne (tgt := 32) rfl rfl (fun h => ?_) (fun h => ?_)
      · replace H := H.1 (h)
        refine ev_ex 8 (c' := (46, [some (.ref 2), some (.int a0), some (.int a1)], [.int a1, .int a0, .ref 2], cH c (rF s 4 0))) rfl ?_
        refine rc_B (idx := 320) rfl rfl rfl (Nat.le_of_ble_eq_true rfl) (Nat.le_of_ble_eq_true rfl) rfl H (fun v2 s1 H => ?_)
        refine ev_if_eqB (x := v2) (tgt := 56) rfl rfl (fun h => ?_) (fun h => ?_)
        · replace H := H.1 (h)
          refine ev_ex 1 (c' := (57, [some (.ref 2), some (.int a0), some (.int a1)], [.int 0], cH c s1)) rfl ?_
          exact ev_retB (x := false) rfl rfl ⟨_, _, rfl, rfl, H⟩
        · replace H := H.2 (h)
          refine ev_ex 2 (c' := (57, [some (.ref 2), some (.int a0), some (.int a1)], [.int 1], cH c s1)) rfl ?_
          exact ev_retB (x := true) rfl rfl ⟨_, _, rfl, rfl, H⟩
      · replace H := H.2 (h)
        refine ev_ex 7 (c' := (57, [some (.ref 2), some (.int a0), some (.int a1)], [.int 0], cH c (rF s 4 2))) rfl ?_
        exact ev_retB (x := false) rfl rfl ⟨_, _, rfl, rfl, H⟩
    · replace H := H.2 (h)
      refine ev_ex 7 (c' := (57, [some (.ref 2), some (.int a0), some (.int a1)], [.int 0], cH c (rF s 4 1))) rfl ?_
      exact ev_retB (x := false) rfl rfl ⟨_, _, rfl, rfl, H⟩
set_option maxRecDepth 8000 in
theorem w_R_tomorrow {c : CX} {d : Nat} {s : RS} {Q : Int32 → RS → Prop} (a0 : Int32) (H : (((wth a0.toInt64 0 (s.2.1 1 1 - 1).toInt64) = false → Q 0 (rF (rF s 4 0) 4 1)) ∧ ((wth a0.toInt64 0 (s.2.1 1 1 - 1).toInt64) = true → RI c (d + 1) m_R_then [.ref 2, .int a0] (rF s 4 0) (fun v2 s1 => Q v2 s1)))) : RI c (d + 2) m_R_tomorrow [.ref 2, .int a0] s Q := by
  refine ⟨q_R_tomorrow, rfl, Nat.le_of_ble_eq_true rfl, ?_⟩
  refine ev_ex 0 (c' := (0, [some (.ref 2), some (.int a0)], [], cH c s)) rfl ?_
  refine ev_ex 6 (c' := (8, [some (.ref 2), some (.int a0)], [.long a0.toInt64, .ref 2], cH c (rF s 4 0))) rfl ?_
  refine rq_B (idx := 314) (V := wth a0.toInt64 0 (s.2.1 1 1 - 1).toInt64) (S := rF s 4 0) rfl rfl rfl (Nat.le_of_ble_eq_true rfl) (Nat.le_of_ble_eq_true rfl) rfl (zq_R_isGuild ⟨rfl, rfl⟩) ?_
  refine ev_if_eqB (x := (wth a0.toInt64 0 (s.2.1 1 1 - 1).toInt64)) (tgt := 22) rfl rfl (fun h => ?_) (fun h => ?_)
  · replace H := H.1 (h)
    refine ev_ex 2 (c' := (24, [some (.ref 2), some (.int a0)], [.int 1, .ref 2], cH c (rF s 4 0))) rfl ?_
    refine rq_I (idx := 258) (V := 0) (S := rF (rF s 4 0) 4 1) rfl rfl rfl (Nat.le_of_ble_eq_true rfl) (Nat.le_of_ble_eq_true rfl) rfl (zq_R_fails ⟨rfl, rfl⟩) ?_
    exact ev_ret rfl rfl rfl ⟨_, _, rfl, rfl, H⟩
  · replace H := H.2 (h)
    refine ev_ex 2 (c' := (16, [some (.ref 2), some (.int a0)], [.int a0, .ref 2], cH c (rF s 4 0))) rfl ?_
    refine rc_I (idx := 311) rfl rfl rfl (Nat.le_of_ble_eq_true rfl) (Nat.le_of_ble_eq_true rfl) rfl H (fun v2 s1 H => ?_)
    refine ev_ex 1 (c' := (27, [some (.ref 2), some (.int a0)], [.int v2], cH c s1)) rfl ?_
    exact ev_ret rfl rfl rfl ⟨_, _, rfl, rfl, H⟩
set_option maxRecDepth 8000 in
theorem w_R_step {c : CX} {d : Nat} {s : RS} {Q : Int32 → RS → Prop} (a0 : Int32) (a1 : Int32) (H : RI c d m_R_steps [.ref 2] s (fun v2 s1 => (((wth a0.toInt64 0 ((v2 - 1).toInt64)) = true → (((wth a1.toInt64 0 1) = false → Q 0 (rF s1 4 2)) ∧ ((wth a1.toInt64 0 1) = true → RI c d m_R_whereOf [.ref 2, .int a0, .int a1] (rF s1 4 0) (fun v4 s3 => Q v4 s3)))) ∧ ((wth a0.toInt64 0 ((v2 - 1).toInt64)) = false → Q 0 (rF s1 4 1))))) : RI c (d + 1) m_R_step [.ref 2, .int a0, .int a1] s Q := by
  refine ⟨q_R_step, rfl, Nat.le_of_ble_eq_true rfl, ?_⟩
  refine ev_ex 0 (c' := (0, [some (.ref 2), some (.int a0), some (.int a1)], [], cH c s)) rfl ?_
  refine ev_ex 5 (c' := (5, [some (.ref 2), some (.int a0), some (.int a1)], [.ref 2, .long 0, .long a0.toInt64, .ref 2], cH c s)) rfl ?_
  refine rc_I (idx := 418) rfl rfl rfl (Nat.le_of_ble_eq_true rfl) (Nat.le_of_ble_eq_true rfl) rfl H (fun v2 s1 H => ?_)
  refine ev_ex 3 (c' := (11, [some (.ref 2), some (.int a0), some (.int a1)], [.long ((v2 - 1).toInt64), .long 0, .long a0.toInt64, .ref 2], cH c s1)) rfl ?_
  refine rq_B (idx := 136) (V := wth a0.toInt64 0 ((v2 - 1).toInt64)) (S := s1) rfl rfl rfl (Nat.le_of_ble_eq_true rfl) (Nat.le_of_ble_eq_true rfl) rfl (zq_R_within ⟨rfl, rfl⟩) ?_
  refine ev_if_neB (x := (wth a0.toInt64 0 ((v2 - 1).toInt64))) (tgt := 21) rfl rfl (fun h => ?_) (fun h => ?_)
  · replace H := H.1 (h)
    refine ev_ex 4 (c' := (25, [some (.ref 2), some (.int a0), some (.int a1)], [.long 1, .long 0, .long a1.toInt64, .ref 2], cH c s1)) rfl ?_
    refine rq_B (idx := 136) (V := wth a1.toInt64 0 1) (S := s1) rfl rfl rfl (Nat.le_of_ble_eq_true rfl) (Nat.le_of_ble_eq_true rfl) rfl (zq_R_within ⟨rfl, rfl⟩) ?_
    refine ev_if_eqB (x := (wth a1.toInt64 0 1)) (tgt := 35) rfl rfl (fun h => ?_) (fun h => ?_)
    · replace H := H.1 (h)
      refine ev_ex 7 (c' := (56, [some (.ref 2), some (.int a0), some (.int a1)], [.int 0], cH c (rF s1 4 2))) rfl ?_
      exact ev_ret rfl rfl rfl ⟨_, _, rfl, rfl, H⟩
    · replace H := H.2 (h)
      refine ev_ex 9 (c' := (53, [some (.ref 2), some (.int a0), some (.int a1)], [.int a1, .int a0, .ref 2], cH c (rF s1 4 0))) rfl ?_
      refine rc_I (idx := 421) rfl rfl rfl (Nat.le_of_ble_eq_true rfl) (Nat.le_of_ble_eq_true rfl) rfl H (fun v4 s3 H => ?_)
      exact ev_ret rfl rfl rfl ⟨_, _, rfl, rfl, H⟩
  · replace H := H.2 (h)
    refine ev_ex 8 (c' := (56, [some (.ref 2), some (.int a0), some (.int a1)], [.int 0], cH c (rF s1 4 1))) rfl ?_
    exact ev_ret rfl rfl rfl ⟨_, _, rfl, rfl, H⟩
set_option maxRecDepth 8000 in
theorem w_R_mock {c : CX} {d : Nat} {s : RS} {Q : Int32 → RS → Prop} (a0 : Int32) (a1 : Int32) (H : RI c d m_R_whyNot [.ref 2, .long a0.toInt64, .long a1.toInt64] (rF s 4 0) (fun v2 s1 => ((v2 = 0 → RV c d m_R_keeps [.ref 2] s1 (fun s3 => (okx (6 + a0) 2101 ∧ RI c d m_R_mockers [.ref 2, .int a1] (rA s3 1 (ix (6 + a0)) a1) (fun v5 s4 => RI c d m_R_size [.int v5] s4 (fun v7 s6 => Q v7 s6))))) ∧ (¬ v2 = 0 → Q (-v2) s1)))) : RI c (d + 1) m_R_mock [.ref 2, .int a0, .int a1] s Q := by
  refine ⟨q_R_mock, rfl, Nat.le_of_ble_eq_true rfl, ?_⟩
  refine ev_ex 0 (c' := (0, [some (.ref 2), some (.int a0), some (.int a1), none], [], cH c s)) rfl ?_
  refine ev_ex 8 (c' := (10, [some (.ref 2), some (.int a0), some (.int a1), none], [.long a1.toInt64, .long a0.toInt64, .ref 2], cH c (rF s 4 0))) rfl ?_
  refine rc_I (idx := 323) rfl rfl rfl (Nat.le_of_ble_eq_true rfl) (Nat.le_of_ble_eq_true rfl) rfl H (fun v2 s1 H => ?_)
  refine ev_ex 2 (c' := (15, [some (.ref 2), some (.int a0), some (.int a1), some (.int v2)], [.int v2], cH c s1)) rfl ?_
  refine ev_if_eq (tgt := 21) rfl rfl (fun h => ?_) (fun h => ?_)
  · replace H := H.1 (h)
    refine ev_ex 1 (c' := (22, [some (.ref 2), some (.int a0), some (.int a1), some (.int v2)], [.ref 2], cH c s1)) rfl ?_
    refine rc_V (idx := 327) rfl rfl rfl (Nat.le_of_ble_eq_true rfl) (Nat.le_of_ble_eq_true rfl) rfl H (fun s3 H => ?_)
    refine ev_ex 6 (c' := (34, [some (.ref 2), some (.int a0), some (.int a1), some (.int v2)], [.int a1, .int (6 + a0), .ref 6], cH c s3)) rfl ?_
    obtain ⟨H0, H⟩ := H
    refine ev_ast (i := .iastore) rfl (Or.inl rfl) rfl H0 (by decide) rfl rfl (σ' := cH c (rA s3 1 (ix (6 + a0)) a1)) rfl ?_
    refine ev_ex 2 (c' := (37, [some (.ref 2), some (.int a0), some (.int a1), some (.int v2)], [.int a1, .ref 2], cH c (rA s3 1 (ix (6 + a0)) a1))) rfl ?_
    refine rc_I (idx := 290) rfl rfl rfl (Nat.le_of_ble_eq_true rfl) (Nat.le_of_ble_eq_true rfl) rfl H (fun v5 s4 H => ?_)
    refine rc_I (idx := 293) rfl rfl rfl (Nat.le_of_ble_eq_true rfl) (Nat.le_of_ble_eq_true rfl) rfl H (fun v7 s6 H => ?_)
    exact ev_ret rfl rfl rfl ⟨_, _, rfl, rfl, H⟩
  · replace H := H.2 (h)
    refine ev_ex 2 (c' := (20, [some (.ref 2), some (.int a0), some (.int a1), some (.int v2)], [.int (-v2)], cH c s1)) rfl ?_
    exact ev_ret rfl rfl rfl ⟨_, _, rfl, rfl, H⟩
set_option maxRecDepth 8000 in
theorem w_R_spare {c : CX} {d : Nat} {s : RS} {Q : Int32 → RS → Prop} (a0 : Int32) (H : (((wth a0.toInt64 0 (s.2.1 1 1 - 1).toInt64) = true → RV c (d + 1) m_R_keeps [.ref 2] (rF s 4 0) (fun s1 => (okx (6 + a0) 2101 ∧ (okx (6 + a0) 2101 ∧ Q (s1.2.1 1 (ix (6 + a0))) (rA s1 1 (ix (6 + a0)) ((-1))))))) ∧ ((wth a0.toInt64 0 (s.2.1 1 1 - 1).toInt64) = false → Q 0 (rF (rF s 4 0) 4 1)))) : RI c (d + 2) m_R_spare [.ref 2, .int a0] s Q := by
  refine ⟨q_R_spare, rfl, Nat.le_of_ble_eq_true rfl, ?_⟩
  refine ev_ex 0 (c' := (0, [some (.ref 2), some (.int a0), none], [], cH c s)) rfl ?_
  refine ev_ex 6 (c' := (8, [some (.ref 2), some (.int a0), none], [.long a0.toInt64, .ref 2], cH c (rF s 4 0))) rfl ?_
  refine rq_B (idx := 314) (V := wth a0.toInt64 0 (s.2.1 1 1 - 1).toInt64) (S := rF s 4 0) rfl rfl rfl (Nat.le_of_ble_eq_true rfl) (Nat.le_of_ble_eq_true rfl) rfl (zq_R_isGuild ⟨rfl, rfl⟩) ?_
  refine ev_if_neB (x := (wth a0.toInt64 0 (s.2.1 1 1 - 1).toInt64)) (tgt := 20) rfl rfl (fun h => ?_) (fun h => ?_)
  · replace H := H.1 (h)
    refine ev_ex 1 (c' := (21, [some (.ref 2), some (.int a0), none], [.ref 2], cH c (rF s 4 0))) rfl ?_
    refine rc_V (idx := 327) rfl rfl rfl (Nat.le_of_ble_eq_true rfl) (Nat.le_of_ble_eq_true rfl) rfl H (fun s1 H => ?_)
    refine ev_ex 2 (c' := (26, [some (.ref 2), some (.int a0), none], [.int a0, .ref 2], cH c s1)) rfl ?_
    obtain ⟨H1, H⟩ := H
    refine rq_I (idx := 270) (V := s1.2.1 1 (ix (6 + a0))) (S := s1) rfl rfl rfl (Nat.le_of_ble_eq_true rfl) (Nat.le_of_ble_eq_true rfl) rfl (zq_R_mocked H1 ⟨rfl, rfl⟩) ?_
    refine ev_ex 7 (c' := (39, [some (.ref 2), some (.int a0), some (.int (s1.2.1 1 (ix (6 + a0))))], [.int ((-1)), .int (6 + a0), .ref 6], cH c s1)) rfl ?_
    obtain ⟨H0, H⟩ := H
    refine ev_ast (i := .iastore) rfl (Or.inl rfl) rfl H0 (by decide) rfl rfl (σ' := cH c (rA s1 1 (ix (6 + a0)) ((-1)))) rfl ?_
    refine ev_ex 1 (c' := (41, [some (.ref 2), some (.int a0), some (.int (s1.2.1 1 (ix (6 + a0))))], [.int (s1.2.1 1 (ix (6 + a0)))], cH c (rA s1 1 (ix (6 + a0)) ((-1))))) rfl ?_
    exact ev_ret rfl rfl rfl ⟨_, _, rfl, rfl, H⟩
  · replace H := H.2 (h)
    refine ev_ex 2 (c' := (16, [some (.ref 2), some (.int a0), none], [.int 1, .ref 2], cH c (rF s 4 0))) rfl ?_
    refine rq_I (idx := 258) (V := 0) (S := rF (rF s 4 0) 4 1) rfl rfl rfl (Nat.le_of_ble_eq_true rfl) (Nat.le_of_ble_eq_true rfl) rfl (zq_R_fails ⟨rfl, rfl⟩) ?_
    exact ev_ret rfl rfl rfl ⟨_, _, rfl, rfl, H⟩
set_option maxRecDepth 8000 in
theorem w_R_rank {c : CX} {d : Nat} {s : RS} {Q : Int32 → RS → Prop} (a0 : Int32) (a1 : Int32) (H : (((wth a0.toInt64 0 (s.2.1 1 1 - 1).toInt64) = true → (((wth a1.toInt64 0 99) = false → Q 0 (rF s 4 2)) ∧ ((wth a1.toInt64 0 99) = true → RV c (d + 1) m_R_keeps [.ref 2] (rF s 4 0) (fun s1 => (okx (16 + a0) 2101 ∧ (okx (16 + a0) 2101 ∧ Q (s1.2.1 1 (ix (16 + a0))) (rA s1 1 (ix (16 + a0)) a1))))))) ∧ ((wth a0.toInt64 0 (s.2.1 1 1 - 1).toInt64) = false → Q 0 (rF s 4 1)))) : RI c (d + 2) m_R_rank [.ref 2, .int a0, .int a1] s Q := by
  refine ⟨q_R_rank, rfl, Nat.le_of_ble_eq_true rfl, ?_⟩
  refine ev_ex 0 (c' := (0, [some (.ref 2), some (.int a0), some (.int a1), none], [], cH c s)) rfl ?_
  refine ev_ex 4 (c' := (4, [some (.ref 2), some (.int a0), some (.int a1), none], [.long a0.toInt64, .ref 2, .ref 2], cH c s)) rfl ?_
  refine rq_B (idx := 314) (V := wth a0.toInt64 0 (s.2.1 1 1 - 1).toInt64) (S := s) rfl rfl rfl (Nat.le_of_ble_eq_true rfl) (Nat.le_of_ble_eq_true rfl) rfl (zq_R_isGuild ⟨rfl, rfl⟩) ?_
  refine ev_if_neB (x := (wth a0.toInt64 0 (s.2.1 1 1 - 1).toInt64)) (tgt := 14) rfl rfl (fun h => ?_) (fun h => ?_)
  · replace H := H.1 (h)
    refine ev_ex 4 (c' := (20, [some (.ref 2), some (.int a0), some (.int a1), none], [.long 99, .long 0, .long a1.toInt64, .ref 2], cH c s)) rfl ?_
    refine rq_B (idx := 136) (V := wth a1.toInt64 0 99) (S := s) rfl rfl rfl (Nat.le_of_ble_eq_true rfl) (Nat.le_of_ble_eq_true rfl) rfl (zq_R_within ⟨rfl, rfl⟩) ?_
    refine ev_if_eqB (x := (wth a1.toInt64 0 99)) (tgt := 30) rfl rfl (fun h => ?_) (fun h => ?_)
    · replace H := H.1 (h)
      refine ev_ex 6 (c' := (42, [some (.ref 2), some (.int a0), some (.int a1), none], [.int 0], cH c (rF s 4 2))) rfl ?_
      exact ev_ret rfl rfl rfl ⟨_, _, rfl, rfl, H⟩
    · replace H := H.2 (h)
      refine ev_ex 7 (c' := (44, [some (.ref 2), some (.int a0), some (.int a1), none], [.ref 2], cH c (rF s 4 0))) rfl ?_
      refine rc_V (idx := 327) rfl rfl rfl (Nat.le_of_ble_eq_true rfl) (Nat.le_of_ble_eq_true rfl) rfl H (fun s1 H => ?_)
      refine ev_ex 5 (c' := (55, [some (.ref 2), some (.int a0), some (.int a1), none], [.int (16 + a0), .ref 6], cH c s1)) rfl ?_
      obtain ⟨H0, H⟩ := H
      refine ev_ald (i := .iaload) rfl (Or.inl rfl) rfl H0 (v := .int (s1.2.1 1 (ix (16 + a0)))) rfl ?_
      refine ev_ex 7 (c' := (66, [some (.ref 2), some (.int a0), some (.int a1), some (.int (s1.2.1 1 (ix (16 + a0))))], [.int a1, .int (16 + a0), .ref 6], cH c s1)) rfl ?_
      obtain ⟨H0, H⟩ := H
      refine ev_ast (i := .iastore) rfl (Or.inl rfl) rfl H0 (by decide) rfl rfl (σ' := cH c (rA s1 1 (ix (16 + a0)) a1)) rfl ?_
      refine ev_ex 1 (c' := (68, [some (.ref 2), some (.int a0), some (.int a1), some (.int (s1.2.1 1 (ix (16 + a0))))], [.int (s1.2.1 1 (ix (16 + a0)))], cH c (rA s1 1 (ix (16 + a0)) a1))) rfl ?_
      exact ev_ret rfl rfl rfl ⟨_, _, rfl, rfl, H⟩
  · replace H := H.2 (h)
    refine ev_ex 7 (c' := (42, [some (.ref 2), some (.int a0), some (.int a1), none], [.int 0], cH c (rF s 4 1))) rfl ?_
    exact ev_ret rfl rfl rfl ⟨_, _, rfl, rfl, H⟩
set_option maxRecDepth 8000 in
theorem w_R_nights {c : CX} {d : Nat} {s : RS} {Q : Int32 → RS → Prop} (a0 : Int32) (H : (((wth a0.toInt64 1 60) = true → RV c d m_R_keeps [.ref 2] (rF s 4 0) (fun s1 => RV c d m_R_putsAside [.ref 2] s1 (fun s2 => eR c (d + 1) m_R_nights 33 [some (.ref 2), some (.int a0), some (.int 0), none] s2 (pI c Q)))) ∧ ((wth a0.toInt64 1 60) = false → Q 0 (rF (rF s 4 0) 4 1)))) : RI c (d + 1) m_R_nights [.ref 2, .int a0] s Q := by
  refine ⟨q_R_nights, rfl, Nat.le_of_ble_eq_true rfl, ?_⟩
  refine ev_ex 0 (c' := (0, [some (.ref 2), some (.int a0), none, none], [], cH c s)) rfl ?_
  refine ev_ex 7 (c' := (11, [some (.ref 2), some (.int a0), none, none], [.long 60, .long 1, .long a0.toInt64], cH c (rF s 4 0))) rfl ?_
  refine rq_B (idx := 136) (V := wth a0.toInt64 1 60) (S := rF s 4 0) rfl rfl rfl (Nat.le_of_ble_eq_true rfl) (Nat.le_of_ble_eq_true rfl) rfl (zq_R_within ⟨rfl, rfl⟩) ?_
  refine ev_if_neB (x := (wth a0.toInt64 1 60)) (tgt := 23) rfl rfl (fun h => ?_) (fun h => ?_)
  · replace H := H.1 (h)
    refine ev_ex 1 (c' := (24, [some (.ref 2), some (.int a0), none, none], [.ref 2], cH c (rF s 4 0))) rfl ?_
    refine rc_V (idx := 327) rfl rfl rfl (Nat.le_of_ble_eq_true rfl) (Nat.le_of_ble_eq_true rfl) rfl H (fun s1 H => ?_)
    refine ev_ex 1 (c' := (28, [some (.ref 2), some (.int a0), none, none], [.ref 2], cH c s1)) rfl ?_
    refine rc_V (idx := 334) rfl rfl rfl (Nat.le_of_ble_eq_true rfl) (Nat.le_of_ble_eq_true rfl) rfl H (fun s2 H => ?_)
    refine ev_ex 2 (c' := (33, [some (.ref 2), some (.int a0), some (.int 0), none], [], cH c s2)) rfl ?_
    exact H
  · replace H := H.2 (h)
    refine ev_ex 2 (c' := (19, [some (.ref 2), some (.int a0), none, none], [.int 1, .ref 2], cH c (rF s 4 0))) rfl ?_
    refine rq_I (idx := 258) (V := 0) (S := rF (rF s 4 0) 4 1) rfl rfl rfl (Nat.le_of_ble_eq_true rfl) (Nat.le_of_ble_eq_true rfl) rfl (zq_R_fails ⟨rfl, rfl⟩) ?_
    exact ev_ret rfl rfl rfl ⟨_, _, rfl, rfl, H⟩
set_option maxRecDepth 8000 in
theorem w_R_nights_33 {c : CX} {d : Nat} {s : RS} {Q : Int32 → RS → Prop} (l1 : Int32) (l2 : Int32) (H : ((l1 ≤ l2 → eR c (d + 1) m_R_nights 52 [some (.ref 2), some (.int l1), some (.int 0), some (.int 0)] s (pI c Q)) ∧ (¬ l1 ≤ l2 → RV c d m_R_night [.ref 2] s (fun s1 => eR c (d + 1) m_R_nights 33 [some (.ref 2), some (.int l1), some (.int (l2 + 1)), none] s1 (pI c Q))))) : eR c (d + 1) m_R_nights 33 [some (.ref 2), some (.int l1), some (.int l2), none] s (pI c Q) := by
  unfold eR
  refine ev_ex 0 (c' := (33, [some (.ref 2), some (.int l1), some (.int l2), none], [], cH c s)) rfl ?_
  refine ev_ex 2 (c' := (35, [some (.ref 2), some (.int l1), some (.int l2), none], [.int l1, .int l2], cH c s)) rfl ?_
  refine ev_icmp_ge (tgt := 48) rfl rfl (fun h => ?_) (fun h => ?_)
  · replace H := H.1 (h)
    refine ev_ex 4 (c' := (52, [some (.ref 2), some (.int l1), some (.int 0), some (.int 0)], [], cH c s)) rfl ?_
    exact H
  · replace H := H.2 (h)
    refine ev_ex 1 (c' := (39, [some (.ref 2), some (.int l1), some (.int l2), none], [.ref 2], cH c s)) rfl ?_
    refine rc_V (idx := 337) rfl rfl rfl (Nat.le_of_ble_eq_true rfl) (Nat.le_of_ble_eq_true rfl) rfl H (fun s1 H => ?_)
    refine ev_ex 2 (c' := (33, [some (.ref 2), some (.int l1), some (.int (l2 + 1)), none], [], cH c s1)) rfl ?_
    exact H
set_option maxRecDepth 8000 in
theorem w_R_nights_52 {c : CX} {d : Nat} {s : RS} {Q : Int32 → RS → Prop} (l1 : Int32) (l2 : Int32) (l3 : Int32) (H : (((s.2.1 1 1) ≤ l3 → Q l2 s) ∧ (¬ (s.2.1 1 1) ≤ l3 → (okx (6 + l3) 2101 ∧ (okx (0 + l3) 21 ∧ ((¬ (s.2.1 1 (ix (6 + l3))) = (s.2.1 8 (ix (0 + l3))) → eR c (d + 1) m_R_nights 52 [some (.ref 2), some (.int l1), some (.int (l2 + 1)), some (.int (l3 + 1))] s (pI c Q)) ∧ ((s.2.1 1 (ix (6 + l3))) = (s.2.1 8 (ix (0 + l3))) → eR c (d + 1) m_R_nights 52 [some (.ref 2), some (.int l1), some (.int (l2 + 0)), some (.int (l3 + 1))] s (pI c Q)))))))) : eR c (d + 1) m_R_nights 52 [some (.ref 2), some (.int l1), some (.int l2), some (.int l3)] s (pI c Q) := by
  unfold eR
  refine ev_ex 0 (c' := (52, [some (.ref 2), some (.int l1), some (.int l2), some (.int l3)], [], cH c s)) rfl ?_
  refine ev_ex 2 (c' := (54, [some (.ref 2), some (.int l1), some (.int l2), some (.int l3)], [.ref 2, .int l3], cH c s)) rfl ?_
  refine rq_I (idx := 267) (V := s.2.1 1 1) (S := s) rfl rfl rfl (Nat.le_of_ble_eq_true rfl) (Nat.le_of_ble_eq_true rfl) rfl (zq_R_guilds ⟨rfl, rfl⟩) ?_
  refine ev_icmp_ge (tgt := 90) rfl rfl (fun h => ?_) (fun h => ?_)
  · replace H := H.1 (h)
    refine ev_ex 1 (c' := (91, [some (.ref 2), some (.int l1), some (.int l2), some (.int l3)], [.int l2], cH c s)) rfl ?_
    exact ev_ret rfl rfl rfl ⟨_, _, rfl, rfl, H⟩
  · replace H := H.2 (h)
    refine ev_ex 3 (c' := (63, [some (.ref 2), some (.int l1), some (.int l2), some (.int l3)], [.int l3, .ref 2, .int l2], cH c s)) rfl ?_
    obtain ⟨H1, H⟩ := H
    refine rq_I (idx := 270) (V := s.2.1 1 (ix (6 + l3))) (S := s) rfl rfl rfl (Nat.le_of_ble_eq_true rfl) (Nat.le_of_ble_eq_true rfl) rfl (zq_R_mocked H1 ⟨rfl, rfl⟩) ?_
    refine ev_ex 5 (c' := (73, [some (.ref 2), some (.int l1), some (.int l2), some (.int l3)], [.int (0 + l3), .ref 34, .int (s.2.1 1 (ix (6 + l3))), .int l2], cH c s)) rfl ?_
    obtain ⟨H0, H⟩ := H
    refine ev_ald (i := .iaload) rfl (Or.inl rfl) rfl H0 (v := .int (s.2.1 8 (ix (0 + l3)))) rfl ?_
    refine ev_icmp_ne (tgt := 81) rfl rfl (fun h => ?_) (fun h => ?_)
    · replace H := H.1 (h)
      refine ev_ex 5 (c' := (52, [some (.ref 2), some (.int l1), some (.int (l2 + 1)), some (.int (l3 + 1))], [], cH c s)) rfl ?_
      exact H
    · replace H := H.2 (h)
      refine ev_ex 6 (c' := (52, [some (.ref 2), some (.int l1), some (.int (l2 + 0)), some (.int (l3 + 1))], [], cH c s)) rfl ?_
      exact H
set_option maxRecDepth 8000 in
theorem w_R_undo {c : CX} {d : Nat} {s : RS} {Q : Int32 → RS → Prop} (a0 : Int32) (H : (((wth a0.toInt64 1 10) = false → Q 0 (rF (rF s 4 0) 4 1)) ∧ ((wth a0.toInt64 1 10) = true → (okx 5 2101 ∧ ((a0 ≤ (s.2.1 1 (ix 5)) → (okx 5 2101 ∧ (okx 5 2101 ∧ eR c (d + 1) m_R_undo 45 [some (.ref 2), some (.int a0), some (.int 0)] (rA (rF s 4 0) 1 (ix 5) ((s.2.1 1 (ix 5)) - a0)) (pI c Q)))) ∧ (¬ a0 ≤ (s.2.1 1 (ix 5)) → Q 0 (rF (rF s 4 0) 4 1))))))) : RI c (d + 1) m_R_undo [.ref 2, .int a0] s Q := by
  refine ⟨q_R_undo, rfl, Nat.le_of_ble_eq_true rfl, ?_⟩
  refine ev_ex 0 (c' := (0, [some (.ref 2), some (.int a0), none], [], cH c s)) rfl ?_
  refine ev_ex 7 (c' := (11, [some (.ref 2), some (.int a0), none], [.long 10, .long 1, .long a0.toInt64], cH c (rF s 4 0))) rfl ?_
  refine rq_B (idx := 136) (V := wth a0.toInt64 1 10) (S := rF s 4 0) rfl rfl rfl (Nat.le_of_ble_eq_true rfl) (Nat.le_of_ble_eq_true rfl) rfl (zq_R_within ⟨rfl, rfl⟩) ?_
  refine ev_if_eqB (x := (wth a0.toInt64 1 10)) (tgt := 27) rfl rfl (fun h => ?_) (fun h => ?_)
  · replace H := H.1 (h)
    refine ev_ex 2 (c' := (29, [some (.ref 2), some (.int a0), none], [.int 1, .ref 2], cH c (rF s 4 0))) rfl ?_
    refine rq_I (idx := 258) (V := 0) (S := rF (rF s 4 0) 4 1) rfl rfl rfl (Nat.le_of_ble_eq_true rfl) (Nat.le_of_ble_eq_true rfl) rfl (zq_R_fails ⟨rfl, rfl⟩) ?_
    exact ev_ret rfl rfl rfl ⟨_, _, rfl, rfl, H⟩
  · replace H := H.2 (h)
    refine ev_ex 4 (c' := (23, [some (.ref 2), some (.int a0), none], [.int 5, .ref 6, .int a0], cH c (rF s 4 0))) rfl ?_
    obtain ⟨H0, H⟩ := H
    refine ev_ald (i := .iaload) rfl (Or.inl rfl) rfl H0 (v := .int (s.2.1 1 (ix 5))) rfl ?_
    refine ev_icmp_le (tgt := 33) rfl rfl (fun h => ?_) (fun h => ?_)
    · replace H := H.1 (h)
      refine ev_ex 4 (c' := (39, [some (.ref 2), some (.int a0), none], [.int 5, .ref 6, .int 5, .ref 6], cH c (rF s 4 0))) rfl ?_
      obtain ⟨H0, H⟩ := H
      refine ev_ald (i := .iaload) rfl (Or.inl rfl) rfl H0 (v := .int (s.2.1 1 (ix 5))) rfl ?_
      refine ev_ex 2 (c' := (42, [some (.ref 2), some (.int a0), none], [.int ((s.2.1 1 (ix 5)) - a0), .int 5, .ref 6], cH c (rF s 4 0))) rfl ?_
      obtain ⟨H0, H⟩ := H
      refine ev_ast (i := .iastore) rfl (Or.inl rfl) rfl H0 (by decide) rfl rfl (σ' := cH c (rA (rF s 4 0) 1 (ix 5) ((s.2.1 1 (ix 5)) - a0))) rfl ?_
      refine ev_ex 2 (c' := (45, [some (.ref 2), some (.int a0), some (.int 0)], [], cH c (rA (rF s 4 0) 1 (ix 5) ((s.2.1 1 (ix 5)) - a0)))) rfl ?_
      exact H
    · replace H := H.2 (h)
      refine ev_ex 2 (c' := (29, [some (.ref 2), some (.int a0), none], [.int 1, .ref 2], cH c (rF s 4 0))) rfl ?_
      refine rq_I (idx := 258) (V := 0) (S := rF (rF s 4 0) 4 1) rfl rfl rfl (Nat.le_of_ble_eq_true rfl) (Nat.le_of_ble_eq_true rfl) rfl (zq_R_fails ⟨rfl, rfl⟩) ?_
      exact ev_ret rfl rfl rfl ⟨_, _, rfl, rfl, H⟩
set_option maxRecDepth 8000 in
theorem w_R_undo_45 {c : CX} {d : Nat} {s : RS} {Q : Int32 → RS → Prop} (l1 : Int32) (l2 : Int32) (H : ((21 ≤ l2 → (okx 5 2101 ∧ Q (s.2.1 1 (ix 5)) s)) ∧ (¬ 21 ≤ l2 → (okx 5 2101 ∧ (okx ((91 + (21 * (s.2.1 1 (ix 5)))) + l2) 2101 ∧ (okx (6 + l2) 2101 ∧ eR c (d + 1) m_R_undo 45 [some (.ref 2), some (.int l1), some (.int (l2 + 1))] (rA s 1 (ix (6 + l2)) (s.2.1 1 (ix ((91 + (21 * (s.2.1 1 (ix 5)))) + l2)))) (pI c Q))))))) : eR c (d + 1) m_R_undo 45 [some (.ref 2), some (.int l1), some (.int l2)] s (pI c Q) := by
  unfold eR
  refine ev_ex 0 (c' := (45, [some (.ref 2), some (.int l1), some (.int l2)], [], cH c s)) rfl ?_
  refine ev_ex 2 (c' := (48, [some (.ref 2), some (.int l1), some (.int l2)], [.int 21, .int l2], cH c s)) rfl ?_
  refine ev_icmp_ge (tgt := 85) rfl rfl (fun h => ?_) (fun h => ?_)
  · replace H := H.1 (h)
    refine ev_ex 3 (c' := (90, [some (.ref 2), some (.int l1), some (.int l2)], [.int 5, .ref 6], cH c s)) rfl ?_
    obtain ⟨H0, H⟩ := H
    refine ev_ald (i := .iaload) rfl (Or.inl rfl) rfl H0 (v := .int (s.2.1 1 (ix 5))) rfl ?_
    exact ev_ret rfl rfl rfl ⟨_, _, rfl, rfl, H⟩
  · replace H := H.2 (h)
    refine ev_ex 12 (c' := (72, [some (.ref 2), some (.int l1), some (.int l2)], [.int 5, .ref 6, .int 21, .int 91, .ref 6, .int (6 + l2), .ref 6], cH c s)) rfl ?_
    obtain ⟨H0, H⟩ := H
    refine ev_ald (i := .iaload) rfl (Or.inl rfl) rfl H0 (v := .int (s.2.1 1 (ix 5))) rfl ?_
    refine ev_ex 4 (c' := (77, [some (.ref 2), some (.int l1), some (.int l2)], [.int ((91 + (21 * (s.2.1 1 (ix 5)))) + l2), .ref 6, .int (6 + l2), .ref 6], cH c s)) rfl ?_
    obtain ⟨H0, H⟩ := H
    refine ev_ald (i := .iaload) rfl (Or.inl rfl) rfl H0 (v := .int (s.2.1 1 (ix ((91 + (21 * (s.2.1 1 (ix 5)))) + l2)))) rfl ?_
    obtain ⟨H0, H⟩ := H
    refine ev_ast (i := .iastore) rfl (Or.inl rfl) rfl H0 (by decide) rfl rfl (σ' := cH c (rA s 1 (ix (6 + l2)) (s.2.1 1 (ix ((91 + (21 * (s.2.1 1 (ix 5)))) + l2))))) rfl ?_
    refine ev_ex 2 (c' := (45, [some (.ref 2), some (.int l1), some (.int (l2 + 1))], [], cH c (rA s 1 (ix (6 + l2)) (s.2.1 1 (ix ((91 + (21 * (s.2.1 1 (ix 5)))) + l2)))))) rfl ?_
    exact H
set_option maxRecDepth 8000 in
theorem w_R_judge {c : CX} {d : Nat} {s : RS} {Q : Int32 → RS → Prop} (a0 : Int32) (a1 : Int32) (H : RI c d m_R_trayFault [.ref 2, .int a0] s (fun v2 s1 => ((¬ v2 = 0 → ((v2 ≤ 0 → RV c d m_R_putsAside [.ref 2] (rF s1 4 v2) (fun s3 => eR c (d + 1) m_R_judge 54 [some (.ref 2), some (.int a0), some (.int a1), some (.int ((-1))), some (.int 0), some (.int 0), none] s3 (pI c Q))) ∧ (¬ v2 ≤ 0 → Q 0 (rF s1 4 v2)))) ∧ (v2 = 0 → (((wth a1.toInt64 0 3) = true → ((v2 ≤ 0 → RV c d m_R_putsAside [.ref 2] (rF s1 4 v2) (fun s4 => eR c (d + 1) m_R_judge 54 [some (.ref 2), some (.int a0), some (.int a1), some (.int ((-1))), some (.int 0), some (.int 0), none] s4 (pI c Q))) ∧ (¬ v2 ≤ 0 → Q 0 (rF s1 4 v2)))) ∧ ((wth a1.toInt64 0 3) = false → Q 0 (rF (rF s1 4 v2) 4 3))))))) : RI c (d + 1) m_R_judge [.ref 2, .int a0, .int a1] s Q := by
  refine ⟨q_R_judge, rfl, Nat.le_of_ble_eq_true rfl, ?_⟩
  refine ev_ex 0 (c' := (0, [some (.ref 2), some (.int a0), some (.int a1), none, none, none, none], [], cH c s)) rfl ?_
  refine ev_ex 3 (c' := (3, [some (.ref 2), some (.int a0), some (.int a1), none, none, none, none], [.int a0, .ref 2, .ref 2], cH c s)) rfl ?_
  refine rc_I (idx := 348) rfl rfl rfl (Nat.le_of_ble_eq_true rfl) (Nat.le_of_ble_eq_true rfl) rfl H (fun v2 s1 H => ?_)
  refine ev_ex 3 (c' := (13, [some (.ref 2), some (.int a0), some (.int a1), none, none, none, none], [.int v2], cH c (rF s1 4 v2))) rfl ?_
  refine ev_if_ne (tgt := 33) rfl rfl (fun h => ?_) (fun h => ?_)
  · replace H := H.1 (h)
    refine ev_ex 2 (c' := (37, [some (.ref 2), some (.int a0), some (.int a1), none, none, none, none], [.int v2], cH c (rF s1 4 v2))) rfl ?_
    refine ev_if_le (tgt := 42) rfl rfl (fun h => ?_) (fun h => ?_)
    · replace H := H.1 (h)
      refine ev_ex 1 (c' := (43, [some (.ref 2), some (.int a0), some (.int a1), none, none, none, none], [.ref 2], cH c (rF s1 4 v2))) rfl ?_
      refine rc_V (idx := 334) rfl rfl rfl (Nat.le_of_ble_eq_true rfl) (Nat.le_of_ble_eq_true rfl) rfl H (fun s3 H => ?_)
      refine ev_ex 6 (c' := (54, [some (.ref 2), some (.int a0), some (.int a1), some (.int ((-1))), some (.int 0), some (.int 0), none], [], cH c s3)) rfl ?_
      exact H
    · replace H := H.2 (h)
      refine ev_ex 1 (c' := (41, [some (.ref 2), some (.int a0), some (.int a1), none, none, none, none], [.int 0], cH c (rF s1 4 v2))) rfl ?_
      exact ev_ret rfl rfl rfl ⟨_, _, rfl, rfl, H⟩
  · replace H := H.2 (h)
    refine ev_ex 4 (c' := (22, [some (.ref 2), some (.int a0), some (.int a1), none, none, none, none], [.long 3, .long 0, .long a1.toInt64], cH c (rF s1 4 v2))) rfl ?_
    refine rq_B (idx := 136) (V := wth a1.toInt64 0 3) (S := rF s1 4 v2) rfl rfl rfl (Nat.le_of_ble_eq_true rfl) (Nat.le_of_ble_eq_true rfl) rfl (zq_R_within ⟨rfl, rfl⟩) ?_
    refine ev_if_neB (x := (wth a1.toInt64 0 3)) (tgt := 33) rfl rfl (fun h => ?_) (fun h => ?_)
    · replace H := H.1 (h)
      refine ev_ex 2 (c' := (37, [some (.ref 2), some (.int a0), some (.int a1), none, none, none, none], [.int v2], cH c (rF s1 4 v2))) rfl ?_
      refine ev_if_le (tgt := 42) rfl rfl (fun h => ?_) (fun h => ?_)
      · replace H := H.1 (h)
        refine ev_ex 1 (c' := (43, [some (.ref 2), some (.int a0), some (.int a1), none, none, none, none], [.ref 2], cH c (rF s1 4 v2))) rfl ?_
        refine rc_V (idx := 334) rfl rfl rfl (Nat.le_of_ble_eq_true rfl) (Nat.le_of_ble_eq_true rfl) rfl H (fun s4 H => ?_)
        refine ev_ex 6 (c' := (54, [some (.ref 2), some (.int a0), some (.int a1), some (.int ((-1))), some (.int 0), some (.int 0), none], [], cH c s4)) rfl ?_
        exact H
      · replace H := H.2 (h)
        refine ev_ex 1 (c' := (41, [some (.ref 2), some (.int a0), some (.int a1), none, none, none, none], [.int 0], cH c (rF s1 4 v2))) rfl ?_
        exact ev_ret rfl rfl rfl ⟨_, _, rfl, rfl, H⟩
    · replace H := H.2 (h)
      refine ev_ex 7 (c' := (41, [some (.ref 2), some (.int a0), some (.int a1), none, none, none, none], [.int 0], cH c (rF (rF s1 4 v2) 4 3))) rfl ?_
      exact ev_ret rfl rfl rfl ⟨_, _, rfl, rfl, H⟩
set_option maxRecDepth 8000 in
theorem w_R_judge_54 {c : CX} {d : Nat} {s : RS} {Q : Int32 → RS → Prop} (l1 : Int32) (l2 : Int32) (l3 : Int32) (l4 : Int32) (l5 : Int32) (H : (okx l1 4 ∧ (((s.2.1 16 (ix l1)) ≤ l5 → RI c d m_R_mocking [.ref 2] s (fun v2 s1 => RV c d m_R_laysRow [.ref 2] s1 (fun s3 => RV c d m_R_putsBack [.ref 2] s3 (fun s4 => ((¬ l2 = 0 → ((¬ l2 = 1 → ((¬ l2 = 2 → Q (s3.1 27) s4) ∧ (l2 = 2 → Q v2 s4))) ∧ (l2 = 1 → Q l4 s4))) ∧ (l2 = 0 → Q l3 s4)))))) ∧ (¬ (s.2.1 16 (ix l1)) ≤ l5 → ((¬ l3 = ((-1)) → RI c d m_R_mocking [.ref 2] s (fun v6 s5 => RV c d m_R_laysRow [.ref 2] s5 (fun s7 => RV c d m_R_putsBack [.ref 2] s7 (fun s8 => ((¬ l2 = 0 → ((¬ l2 = 1 → ((¬ l2 = 2 → Q (s7.1 27) s8) ∧ (l2 = 2 → Q v6 s8))) ∧ (l2 = 1 → Q l4 s8))) ∧ (l2 = 0 → Q l3 s8)))))) ∧ (l3 = ((-1)) → (okx ((30 * l1) + l5) 120 ∧ RI c d m_R_whyTold [.ref 2, .long (s.2.2 17 (ix ((30 * l1) + l5)))] s (fun v10 s9 => ((¬ v10 = 0 → eR c (d + 1) m_R_judge 54 [some (.ref 2), some (.int l1), some (.int l2), some (.int l5), some (.int v10), some (.int (l5 + 1)), none] s9 (pI c Q)) ∧ (v10 = 0 → (okx ((30 * l1) + l5) 120 ∧ RV c d m_R_does [.ref 2, .int ((s9.2.2 17 (ix ((30 * l1) + l5))).toInt32)] s9 (fun s11 => eR c (d + 1) m_R_judge 54 [some (.ref 2), some (.int l1), some (.int l2), some (.int l3), some (.int v10), some (.int (l5 + 1)), none] s11 (pI c Q))))))))))))) : eR c (d + 1) m_R_judge 54 [some (.ref 2), some (.int l1), some (.int l2), some (.int l3), some (.int l4), some (.int l5), none] s (pI c Q) := by
  unfold eR
  refine ev_ex 0 (c' := (54, [some (.ref 2), some (.int l1), some (.int l2), some (.int l3), some (.int l4), some (.int l5), none], [], cH c s)) rfl ?_
  refine ev_ex 4 (c' := (61, [some (.ref 2), some (.int l1), some (.int l2), some (.int l3), some (.int l4), some (.int l5), none], [.int l1, .ref 66, .int l5], cH c s)) rfl ?_
  obtain ⟨H0, H⟩ := H
  refine ev_ald (i := .iaload) rfl (Or.inl rfl) rfl H0 (v := .int (s.2.1 16 (ix l1))) rfl ?_
  refine ev_icmp_ge (tgt := 122) rfl rfl (fun h => ?_) (fun h => ?_)
  · replace H := H.1 (h)
    refine ev_ex 1 (c' := (123, [some (.ref 2), some (.int l1), some (.int l2), some (.int l3), some (.int l4), some (.int l5), none], [.ref 2], cH c s)) rfl ?_
    refine rc_I (idx := 359) rfl rfl rfl (Nat.le_of_ble_eq_true rfl) (Nat.le_of_ble_eq_true rfl) rfl H (fun v2 s1 H => ?_)
    refine ev_ex 2 (c' := (129, [some (.ref 2), some (.int l1), some (.int l2), some (.int l3), some (.int l4), some (.int v2), none], [.ref 2], cH c s1)) rfl ?_
    refine rc_V (idx := 362) rfl rfl rfl (Nat.le_of_ble_eq_true rfl) (Nat.le_of_ble_eq_true rfl) rfl H (fun s3 H => ?_)
    refine ev_ex 4 (c' := (139, [some (.ref 2), some (.int l1), some (.int l2), some (.int l3), some (.int l4), some (.int v2), some (.int (s3.1 27))], [.ref 2], cH c s3)) rfl ?_
    refine rc_V (idx := 368) rfl rfl rfl (Nat.le_of_ble_eq_true rfl) (Nat.le_of_ble_eq_true rfl) rfl H (fun s4 H => ?_)
    refine ev_ex 1 (c' := (143, [some (.ref 2), some (.int l1), some (.int l2), some (.int l3), some (.int l4), some (.int v2), some (.int (s3.1 27))], [.int l2], cH c s4)) rfl ?_
    refine ev_if_ne (tgt := 150) rfl rfl (fun h => ?_) (fun h => ?_)
    · replace H := H.1 (h)
      refine ev_ex 2 (c' := (152, [some (.ref 2), some (.int l1), some (.int l2), some (.int l3), some (.int l4), some (.int v2), some (.int (s3.1 27))], [.int 1, .int l2], cH c s4)) rfl ?_
      refine ev_icmp_ne (tgt := 160) rfl rfl (fun h => ?_) (fun h => ?_)
      · replace H := H.1 (h)
        refine ev_ex 2 (c' := (162, [some (.ref 2), some (.int l1), some (.int l2), some (.int l3), some (.int l4), some (.int v2), some (.int (s3.1 27))], [.int 2, .int l2], cH c s4)) rfl ?_
        refine ev_icmp_ne (tgt := 170) rfl rfl (fun h => ?_) (fun h => ?_)
        · replace H := H.1 (h)
          refine ev_ex 1 (c' := (172, [some (.ref 2), some (.int l1), some (.int l2), some (.int l3), some (.int l4), some (.int v2), some (.int (s3.1 27))], [.int (s3.1 27)], cH c s4)) rfl ?_
          exact ev_ret rfl rfl rfl ⟨_, _, rfl, rfl, H⟩
        · replace H := H.2 (h)
          refine ev_ex 2 (c' := (172, [some (.ref 2), some (.int l1), some (.int l2), some (.int l3), some (.int l4), some (.int v2), some (.int (s3.1 27))], [.int v2], cH c s4)) rfl ?_
          exact ev_ret rfl rfl rfl ⟨_, _, rfl, rfl, H⟩
      · replace H := H.2 (h)
        refine ev_ex 2 (c' := (172, [some (.ref 2), some (.int l1), some (.int l2), some (.int l3), some (.int l4), some (.int v2), some (.int (s3.1 27))], [.int l4], cH c s4)) rfl ?_
        exact ev_ret rfl rfl rfl ⟨_, _, rfl, rfl, H⟩
    · replace H := H.2 (h)
      refine ev_ex 2 (c' := (172, [some (.ref 2), some (.int l1), some (.int l2), some (.int l3), some (.int l4), some (.int v2), some (.int (s3.1 27))], [.int l3], cH c s4)) rfl ?_
      exact ev_ret rfl rfl rfl ⟨_, _, rfl, rfl, H⟩
  · replace H := H.2 (h)
    refine ev_ex 2 (c' := (67, [some (.ref 2), some (.int l1), some (.int l2), some (.int l3), some (.int l4), some (.int l5), none], [.int ((-1)), .int l3], cH c s)) rfl ?_
    refine ev_icmp_ne (tgt := 122) rfl rfl (fun h => ?_) (fun h => ?_)
    · replace H := H.1 (h)
      refine ev_ex 1 (c' := (123, [some (.ref 2), some (.int l1), some (.int l2), some (.int l3), some (.int l4), some (.int l5), none], [.ref 2], cH c s)) rfl ?_
      refine rc_I (idx := 359) rfl rfl rfl (Nat.le_of_ble_eq_true rfl) (Nat.le_of_ble_eq_true rfl) rfl H (fun v6 s5 H => ?_)
      refine ev_ex 2 (c' := (129, [some (.ref 2), some (.int l1), some (.int l2), some (.int l3), some (.int l4), some (.int v6), none], [.ref 2], cH c s5)) rfl ?_
      refine rc_V (idx := 362) rfl rfl rfl (Nat.le_of_ble_eq_true rfl) (Nat.le_of_ble_eq_true rfl) rfl H (fun s7 H => ?_)
      refine ev_ex 4 (c' := (139, [some (.ref 2), some (.int l1), some (.int l2), some (.int l3), some (.int l4), some (.int v6), some (.int (s7.1 27))], [.ref 2], cH c s7)) rfl ?_
      refine rc_V (idx := 368) rfl rfl rfl (Nat.le_of_ble_eq_true rfl) (Nat.le_of_ble_eq_true rfl) rfl H (fun s8 H => ?_)
      refine ev_ex 1 (c' := (143, [some (.ref 2), some (.int l1), some (.int l2), some (.int l3), some (.int l4), some (.int v6), some (.int (s7.1 27))], [.int l2], cH c s8)) rfl ?_
      refine ev_if_ne (tgt := 150) rfl rfl (fun h => ?_) (fun h => ?_)
      · replace H := H.1 (h)
        refine ev_ex 2 (c' := (152, [some (.ref 2), some (.int l1), some (.int l2), some (.int l3), some (.int l4), some (.int v6), some (.int (s7.1 27))], [.int 1, .int l2], cH c s8)) rfl ?_
        refine ev_icmp_ne (tgt := 160) rfl rfl (fun h => ?_) (fun h => ?_)
        · replace H := H.1 (h)
          refine ev_ex 2 (c' := (162, [some (.ref 2), some (.int l1), some (.int l2), some (.int l3), some (.int l4), some (.int v6), some (.int (s7.1 27))], [.int 2, .int l2], cH c s8)) rfl ?_
          refine ev_icmp_ne (tgt := 170) rfl rfl (fun h => ?_) (fun h => ?_)
          · replace H := H.1 (h)
            refine ev_ex 1 (c' := (172, [some (.ref 2), some (.int l1), some (.int l2), some (.int l3), some (.int l4), some (.int v6), some (.int (s7.1 27))], [.int (s7.1 27)], cH c s8)) rfl ?_
            exact ev_ret rfl rfl rfl ⟨_, _, rfl, rfl, H⟩
          · replace H := H.2 (h)
            refine ev_ex 2 (c' := (172, [some (.ref 2), some (.int l1), some (.int l2), some (.int l3), some (.int l4), some (.int v6), some (.int (s7.1 27))], [.int v6], cH c s8)) rfl ?_
            exact ev_ret rfl rfl rfl ⟨_, _, rfl, rfl, H⟩
        · replace H := H.2 (h)
          refine ev_ex 2 (c' := (172, [some (.ref 2), some (.int l1), some (.int l2), some (.int l3), some (.int l4), some (.int v6), some (.int (s7.1 27))], [.int l4], cH c s8)) rfl ?_
          exact ev_ret rfl rfl rfl ⟨_, _, rfl, rfl, H⟩
      · replace H := H.2 (h)
        refine ev_ex 2 (c' := (172, [some (.ref 2), some (.int l1), some (.int l2), some (.int l3), some (.int l4), some (.int v6), some (.int (s7.1 27))], [.int l3], cH c s8)) rfl ?_
        exact ev_ret rfl rfl rfl ⟨_, _, rfl, rfl, H⟩
    · replace H := H.2 (h)
      refine ev_ex 8 (c' := (82, [some (.ref 2), some (.int l1), some (.int l2), some (.int l3), some (.int l4), some (.int l5), none], [.int ((30 * l1) + l5), .ref 70, .ref 2], cH c s)) rfl ?_
      obtain ⟨H0, H⟩ := H
      refine ev_ald (i := .laload) rfl (Or.inr (Or.inr (Or.inl rfl))) rfl H0 (v := .long (s.2.2 17 (ix ((30 * l1) + l5)))) rfl ?_
      refine rc_I (idx := 353) rfl rfl rfl (Nat.le_of_ble_eq_true rfl) (Nat.le_of_ble_eq_true rfl) rfl H (fun v10 s9 H => ?_)
      refine ev_ex 2 (c' := (90, [some (.ref 2), some (.int l1), some (.int l2), some (.int l3), some (.int v10), some (.int l5), none], [.int v10], cH c s9)) rfl ?_
      refine ev_if_ne (tgt := 113) rfl rfl (fun h => ?_) (fun h => ?_)
      · replace H := H.1 (h)
        refine ev_ex 4 (c' := (54, [some (.ref 2), some (.int l1), some (.int l2), some (.int l5), some (.int v10), some (.int (l5 + 1)), none], [], cH c s9)) rfl ?_
        exact H
      · replace H := H.2 (h)
        refine ev_ex 8 (c' := (105, [some (.ref 2), some (.int l1), some (.int l2), some (.int l3), some (.int v10), some (.int l5), none], [.int ((30 * l1) + l5), .ref 70, .ref 2], cH c s9)) rfl ?_
        obtain ⟨H0, H⟩ := H
        refine ev_ald (i := .laload) rfl (Or.inr (Or.inr (Or.inl rfl))) rfl H0 (v := .long (s9.2.2 17 (ix ((30 * l1) + l5)))) rfl ?_
        refine ev_ex 1 (c' := (107, [some (.ref 2), some (.int l1), some (.int l2), some (.int l3), some (.int v10), some (.int l5), none], [.int ((s9.2.2 17 (ix ((30 * l1) + l5))).toInt32), .ref 2], cH c s9)) rfl ?_
        refine rc_V (idx := 356) rfl rfl rfl (Nat.le_of_ble_eq_true rfl) (Nat.le_of_ble_eq_true rfl) rfl H (fun s11 H => ?_)
        refine ev_ex 3 (c' := (54, [some (.ref 2), some (.int l1), some (.int l2), some (.int l3), some (.int v10), some (.int (l5 + 1)), none], [], cH c s11)) rfl ?_
        exact H
set_option maxRecDepth 8000 in
theorem w_R_perform {c : CX} {d : Nat} {s : RS} {Q : Int32 → RS → Prop} (a0 : Int32) (H : RI c d m_R_trayFault [.ref 2, .int a0] s (fun v2 s1 => ((v2 ≤ 0 → eR c (d + 1) m_R_perform 20 [some (.ref 2), some (.int a0), some (.int 0)] (rF s1 4 v2) (pI c Q)) ∧ (¬ v2 ≤ 0 → Q 0 (rF s1 4 v2))))) : RI c (d + 1) m_R_perform [.ref 2, .int a0] s Q := by
  refine ⟨q_R_perform, rfl, Nat.le_of_ble_eq_true rfl, ?_⟩
  refine ev_ex 0 (c' := (0, [some (.ref 2), some (.int a0), none], [], cH c s)) rfl ?_
  refine ev_ex 3 (c' := (3, [some (.ref 2), some (.int a0), none], [.int a0, .ref 2, .ref 2], cH c s)) rfl ?_
  refine rc_I (idx := 348) rfl rfl rfl (Nat.le_of_ble_eq_true rfl) (Nat.le_of_ble_eq_true rfl) rfl H (fun v2 s1 H => ?_)
  refine ev_ex 3 (c' := (13, [some (.ref 2), some (.int a0), none], [.int v2], cH c (rF s1 4 v2))) rfl ?_
  refine ev_if_le (tgt := 18) rfl rfl (fun h => ?_) (fun h => ?_)
  · replace H := H.1 (h)
    refine ev_ex 2 (c' := (20, [some (.ref 2), some (.int a0), some (.int 0)], [], cH c (rF s1 4 v2))) rfl ?_
    exact H
  · replace H := H.2 (h)
    refine ev_ex 1 (c' := (17, [some (.ref 2), some (.int a0), none], [.int 0], cH c (rF s1 4 v2))) rfl ?_
    exact ev_ret rfl rfl rfl ⟨_, _, rfl, rfl, H⟩
set_option maxRecDepth 8000 in
theorem w_R_perform_20 {c : CX} {d : Nat} {s : RS} {Q : Int32 → RS → Prop} (l1 : Int32) (l2 : Int32) (H : (okx l1 4 ∧ (((s.2.1 16 (ix l1)) ≤ l2 → Q l2 s) ∧ (¬ (s.2.1 16 (ix l1)) ≤ l2 → (okx ((30 * l1) + l2) 120 ∧ RI c d m_R_whyTold [.ref 2, .long (s.2.2 17 (ix ((30 * l1) + l2)))] s (fun v2 s1 => ((¬ v2 = 0 → Q l2 s1) ∧ (v2 = 0 → RV c d m_R_keeps [.ref 2] s1 (fun s3 => (okx ((30 * l1) + l2) 120 ∧ RV c d m_R_does [.ref 2, .int ((s3.2.2 17 (ix ((30 * l1) + l2))).toInt32)] s3 (fun s4 => eR c (d + 1) m_R_perform 20 [some (.ref 2), some (.int l1), some (.int (l2 + 1))] s4 (pI c Q)))))))))))) : eR c (d + 1) m_R_perform 20 [some (.ref 2), some (.int l1), some (.int l2)] s (pI c Q) := by
  unfold eR
  refine ev_ex 0 (c' := (20, [some (.ref 2), some (.int l1), some (.int l2)], [], cH c s)) rfl ?_
  refine ev_ex 4 (c' := (26, [some (.ref 2), some (.int l1), some (.int l2)], [.int l1, .ref 66, .int l2], cH c s)) rfl ?_
  obtain ⟨H0, H⟩ := H
  refine ev_ald (i := .iaload) rfl (Or.inl rfl) rfl H0 (v := .int (s.2.1 16 (ix l1))) rfl ?_
  refine ev_icmp_ge (tgt := 74) rfl rfl (fun h => ?_) (fun h => ?_)
  · replace H := H.1 (h)
    refine ev_ex 1 (c' := (75, [some (.ref 2), some (.int l1), some (.int l2)], [.int l2], cH c s)) rfl ?_
    exact ev_ret rfl rfl rfl ⟨_, _, rfl, rfl, H⟩
  · replace H := H.2 (h)
    refine ev_ex 8 (c' := (41, [some (.ref 2), some (.int l1), some (.int l2)], [.int ((30 * l1) + l2), .ref 70, .ref 2], cH c s)) rfl ?_
    obtain ⟨H0, H⟩ := H
    refine ev_ald (i := .laload) rfl (Or.inr (Or.inr (Or.inl rfl))) rfl H0 (v := .long (s.2.2 17 (ix ((30 * l1) + l2)))) rfl ?_
    refine rc_I (idx := 353) rfl rfl rfl (Nat.le_of_ble_eq_true rfl) (Nat.le_of_ble_eq_true rfl) rfl H (fun v2 s1 H => ?_)
    refine ev_if_ne (tgt := 74) rfl rfl (fun h => ?_) (fun h => ?_)
    · replace H := H.1 (h)
      refine ev_ex 1 (c' := (75, [some (.ref 2), some (.int l1), some (.int l2)], [.int l2], cH c s1)) rfl ?_
      exact ev_ret rfl rfl rfl ⟨_, _, rfl, rfl, H⟩
    · replace H := H.2 (h)
      refine ev_ex 1 (c' := (49, [some (.ref 2), some (.int l1), some (.int l2)], [.ref 2], cH c s1)) rfl ?_
      refine rc_V (idx := 327) rfl rfl rfl (Nat.le_of_ble_eq_true rfl) (Nat.le_of_ble_eq_true rfl) rfl H (fun s3 H => ?_)
      refine ev_ex 8 (c' := (63, [some (.ref 2), some (.int l1), some (.int l2)], [.int ((30 * l1) + l2), .ref 70, .ref 2], cH c s3)) rfl ?_
      obtain ⟨H0, H⟩ := H
      refine ev_ald (i := .laload) rfl (Or.inr (Or.inr (Or.inl rfl))) rfl H0 (v := .long (s3.2.2 17 (ix ((30 * l1) + l2)))) rfl ?_
      refine ev_ex 1 (c' := (65, [some (.ref 2), some (.int l1), some (.int l2)], [.int ((s3.2.2 17 (ix ((30 * l1) + l2))).toInt32), .ref 2], cH c s3)) rfl ?_
      refine rc_V (idx := 356) rfl rfl rfl (Nat.le_of_ble_eq_true rfl) (Nat.le_of_ble_eq_true rfl) rfl H (fun s4 H => ?_)
      refine ev_ex 2 (c' := (20, [some (.ref 2), some (.int l1), some (.int (l2 + 1))], [], cH c s4)) rfl ?_
      exact H
set_option maxRecDepth 8000 in
theorem w_R_week {c : CX} {d : Nat} {s : RS} {Q : Int32 → RS → Prop} (a0 : Int32) (a1 : Int32) (H : (((wth a1.toInt64 1 30) = true → ((¬ (s.2.1 1 1) = 0 → eR c (d + 1) m_R_week 51 [some (.ref 2), some (.int a0), some (.int a1), some (.int 0), some (.int 0), none, none] (rF (rF s 4 0) 22 a0) (pI c Q)) ∧ ((s.2.1 1 1) = 0 → Q 0 (rF s 4 2)))) ∧ ((wth a1.toInt64 1 30) = false → Q 0 (rF s 4 1)))) : RI c (d + 1) m_R_week [.ref 2, .int a0, .int a1] s Q := by
  refine ⟨q_R_week, rfl, Nat.le_of_ble_eq_true rfl, ?_⟩
  refine ev_ex 0 (c' := (0, [some (.ref 2), some (.int a0), some (.int a1), none, none, none, none], [], cH c s)) rfl ?_
  refine ev_ex 5 (c' := (7, [some (.ref 2), some (.int a0), some (.int a1), none, none, none, none], [.long 30, .long 1, .long a1.toInt64, .ref 2], cH c s)) rfl ?_
  refine rq_B (idx := 136) (V := wth a1.toInt64 1 30) (S := s) rfl rfl rfl (Nat.le_of_ble_eq_true rfl) (Nat.le_of_ble_eq_true rfl) rfl (zq_R_within ⟨rfl, rfl⟩) ?_
  refine ev_if_neB (x := (wth a1.toInt64 1 30)) (tgt := 17) rfl rfl (fun h => ?_) (fun h => ?_)
  · replace H := H.1 (h)
    refine ev_ex 1 (c' := (18, [some (.ref 2), some (.int a0), some (.int a1), none, none, none, none], [.ref 2, .ref 2], cH c s)) rfl ?_
    refine rq_I (idx := 267) (V := s.2.1 1 1) (S := s) rfl rfl rfl (Nat.le_of_ble_eq_true rfl) (Nat.le_of_ble_eq_true rfl) rfl (zq_R_guilds ⟨rfl, rfl⟩) ?_
    refine ev_if_ne (tgt := 28) rfl rfl (fun h => ?_) (fun h => ?_)
    · replace H := H.1 (h)
      refine ev_ex 12 (c' := (51, [some (.ref 2), some (.int a0), some (.int a1), some (.int 0), some (.int 0), none, none], [], cH c (rF (rF s 4 0) 22 a0))) rfl ?_
      exact H
    · replace H := H.2 (h)
      refine ev_ex 7 (c' := (40, [some (.ref 2), some (.int a0), some (.int a1), none, none, none, none], [.int 0], cH c (rF s 4 2))) rfl ?_
      exact ev_ret rfl rfl rfl ⟨_, _, rfl, rfl, H⟩
  · replace H := H.2 (h)
    refine ev_ex 7 (c' := (40, [some (.ref 2), some (.int a0), some (.int a1), none, none, none, none], [.int 0], cH c (rF s 4 1))) rfl ?_
    exact ev_ret rfl rfl rfl ⟨_, _, rfl, rfl, H⟩
set_option maxRecDepth 8000 in
theorem w_R_week_51 {c : CX} {d : Nat} {s : RS} {Q : Int32 → RS → Prop} (l1 : Int32) (l2 : Int32) (l3 : Int32) (l4 : Int32) (H : ((l2 ≤ l4 → Q l3 s) ∧ (¬ l2 ≤ l4 → RI c d m_R_draw [.ref 2, .int 3] s (fun v2 s1 => ((v2 ≤ 0 → ((¬ v2 = 1 → ((¬ v2 = 2 → RI c d m_R_whyTold [.ref 2, .long (((-1) : Int32).toInt64)] s1 (fun v4 s3 => ((v4 = 0 → RV c d m_R_keeps [.ref 2] s3 (fun s5 => RV c d m_R_does [.ref 2, .int ((-1))] s5 (fun s6 => eR c (d + 1) m_R_week 51 [some (.ref 2), some (.int l1), some (.int l2), some (.int (l3 + 1)), some (.int (l4 + 1)), none, none] s6 (pI c Q)))) ∧ (¬ v4 = 0 → eR c (d + 1) m_R_week 51 [some (.ref 2), some (.int l1), some (.int l2), some (.int l3), some (.int (l4 + 1)), none, none] s3 (pI c Q))))) ∧ (v2 = 2 → RI c d m_R_whyTold [.ref 2, .long ((((-1)) + 99).toInt64)] s1 (fun v8 s7 => ((v8 = 0 → RV c d m_R_keeps [.ref 2] s7 (fun s9 => RV c d m_R_does [.ref 2, .int (((-1)) + 99)] s9 (fun s10 => eR c (d + 1) m_R_week 51 [some (.ref 2), some (.int l1), some (.int l2), some (.int (l3 + 1)), some (.int (l4 + 1)), none, none] s10 (pI c Q)))) ∧ (¬ v8 = 0 → eR c (d + 1) m_R_week 51 [some (.ref 2), some (.int l1), some (.int l2), some (.int l3), some (.int (l4 + 1)), none, none] s7 (pI c Q))))))) ∧ (v2 = 1 → RI c d m_R_draw [.ref 2, .int (s1.2.1 1 1)] s1 (fun v12 s11 => ((¬ v2 = 2 → RI c d m_R_whyTold [.ref 2, .long ((((-1)) + v12).toInt64)] s11 (fun v14 s13 => ((v14 = 0 → RV c d m_R_keeps [.ref 2] s13 (fun s15 => RV c d m_R_does [.ref 2, .int (((-1)) + v12)] s15 (fun s16 => eR c (d + 1) m_R_week 51 [some (.ref 2), some (.int l1), some (.int l2), some (.int (l3 + 1)), some (.int (l4 + 1)), none, none] s16 (pI c Q)))) ∧ (¬ v14 = 0 → eR c (d + 1) m_R_week 51 [some (.ref 2), some (.int l1), some (.int l2), some (.int l3), some (.int (l4 + 1)), none, none] s13 (pI c Q))))) ∧ (v2 = 2 → RI c d m_R_whyTold [.ref 2, .long (((((-1)) + v12) + 99).toInt64)] s11 (fun v18 s17 => ((v18 = 0 → RV c d m_R_keeps [.ref 2] s17 (fun s19 => RV c d m_R_does [.ref 2, .int ((((-1)) + v12) + 99)] s19 (fun s20 => eR c (d + 1) m_R_week 51 [some (.ref 2), some (.int l1), some (.int l2), some (.int (l3 + 1)), some (.int (l4 + 1)), none, none] s20 (pI c Q)))) ∧ (¬ v18 = 0 → eR c (d + 1) m_R_week 51 [some (.ref 2), some (.int l1), some (.int l2), some (.int l3), some (.int (l4 + 1)), none, none] s17 (pI c Q)))))))))) ∧ (¬ v2 ≤ 0 → RI c d m_R_draw [.ref 2, .int (s1.2.1 1 1)] s1 (fun v22 s21 => ((¬ v2 = 1 → ((¬ v2 = 2 → RI c d m_R_whyTold [.ref 2, .long ((100 * v22).toInt64)] s21 (fun v24 s23 => ((v24 = 0 → RV c d m_R_keeps [.ref 2] s23 (fun s25 => RV c d m_R_does [.ref 2, .int (100 * v22)] s25 (fun s26 => eR c (d + 1) m_R_week 51 [some (.ref 2), some (.int l1), some (.int l2), some (.int (l3 + 1)), some (.int (l4 + 1)), none, none] s26 (pI c Q)))) ∧ (¬ v24 = 0 → eR c (d + 1) m_R_week 51 [some (.ref 2), some (.int l1), some (.int l2), some (.int l3), some (.int (l4 + 1)), none, none] s23 (pI c Q))))) ∧ (v2 = 2 → RI c d m_R_whyTold [.ref 2, .long (((100 * v22) + 99).toInt64)] s21 (fun v28 s27 => ((v28 = 0 → RV c d m_R_keeps [.ref 2] s27 (fun s29 => RV c d m_R_does [.ref 2, .int ((100 * v22) + 99)] s29 (fun s30 => eR c (d + 1) m_R_week 51 [some (.ref 2), some (.int l1), some (.int l2), some (.int (l3 + 1)), some (.int (l4 + 1)), none, none] s30 (pI c Q)))) ∧ (¬ v28 = 0 → eR c (d + 1) m_R_week 51 [some (.ref 2), some (.int l1), some (.int l2), some (.int l3), some (.int (l4 + 1)), none, none] s27 (pI c Q))))))) ∧ (v2 = 1 → RI c d m_R_draw [.ref 2, .int (s21.2.1 1 1)] s21 (fun v32 s31 => ((¬ v2 = 2 → RI c d m_R_whyTold [.ref 2, .long (((100 * v22) + v32).toInt64)] s31 (fun v34 s33 => ((v34 = 0 → RV c d m_R_keeps [.ref 2] s33 (fun s35 => RV c d m_R_does [.ref 2, .int ((100 * v22) + v32)] s35 (fun s36 => eR c (d + 1) m_R_week 51 [some (.ref 2), some (.int l1), some (.int l2), some (.int (l3 + 1)), some (.int (l4 + 1)), none, none] s36 (pI c Q)))) ∧ (¬ v34 = 0 → eR c (d + 1) m_R_week 51 [some (.ref 2), some (.int l1), some (.int l2), some (.int l3), some (.int (l4 + 1)), none, none] s33 (pI c Q))))) ∧ (v2 = 2 → RI c d m_R_whyTold [.ref 2, .long ((((100 * v22) + v32) + 99).toInt64)] s31 (fun v38 s37 => ((v38 = 0 → RV c d m_R_keeps [.ref 2] s37 (fun s39 => RV c d m_R_does [.ref 2, .int (((100 * v22) + v32) + 99)] s39 (fun s40 => eR c (d + 1) m_R_week 51 [some (.ref 2), some (.int l1), some (.int l2), some (.int (l3 + 1)), some (.int (l4 + 1)), none, none] s40 (pI c Q)))) ∧ (¬ v38 = 0 → eR c (d + 1) m_R_week 51 [some (.ref 2), some (.int l1), some (.int l2), some (.int l3), some (.int (l4 + 1)), none, none] s37 (pI c Q)))))))))))))))) : eR c (d + 1) m_R_week 51 [some (.ref 2), some (.int l1), some (.int l2), some (.int l3), some (.int l4), none, none] s (pI c Q) := by
  unfold eR
  refine ev_ex 0 (c' := (51, [some (.ref 2), some (.int l1), some (.int l2), some (.int l3), some (.int l4), none, none], [], cH c s)) rfl ?_
  refine ev_ex 2 (c' := (54, [some (.ref 2), some (.int l1), some (.int l2), some (.int l3), some (.int l4), none, none], [.int l2, .int l4], cH c s)) rfl ?_
  refine ev_icmp_ge (tgt := 145) rfl rfl (fun h => ?_) (fun h => ?_)
  · replace H := H.1 (h)
    refine ev_ex 1 (c' := (146, [some (.ref 2), some (.int l1), some (.int l2), some (.int l3), some (.int l4), none, none], [.int l3], cH c s)) rfl ?_
    exact ev_ret rfl rfl rfl ⟨_, _, rfl, rfl, H⟩
  · replace H := H.2 (h)
    refine ev_ex 2 (c' := (59, [some (.ref 2), some (.int l1), some (.int l2), some (.int l3), some (.int l4), none, none], [.int 3, .ref 2], cH c s)) rfl ?_
    refine rc_I (idx := 377) rfl rfl rfl (Nat.le_of_ble_eq_true rfl) (Nat.le_of_ble_eq_true rfl) rfl H (fun v2 s1 H => ?_)
    refine ev_ex 4 (c' := (69, [some (.ref 2), some (.int l1), some (.int l2), some (.int l3), some (.int l4), some (.int v2), some (.int ((-1)))], [.int v2], cH c s1)) rfl ?_
    refine ev_if_le (tgt := 85) rfl rfl (fun h => ?_) (fun h => ?_)
    · replace H := H.1 (h)
      refine ev_ex 2 (c' := (88, [some (.ref 2), some (.int l1), some (.int l2), some (.int l3), some (.int l4), some (.int v2), some (.int ((-1)))], [.int 1, .int v2], cH c s1)) rfl ?_
      refine ev_icmp_ne (tgt := 104) rfl rfl (fun h => ?_) (fun h => ?_)
      · replace H := H.1 (h)
        refine ev_ex 2 (c' := (107, [some (.ref 2), some (.int l1), some (.int l2), some (.int l3), some (.int l4), some (.int v2), some (.int ((-1)))], [.int 2, .int v2], cH c s1)) rfl ?_
        refine ev_icmp_ne (tgt := 113) rfl rfl (fun h => ?_) (fun h => ?_)
        · replace H := H.1 (h)
          refine ev_ex 3 (c' := (117, [some (.ref 2), some (.int l1), some (.int l2), some (.int l3), some (.int l4), some (.int v2), some (.int ((-1)))], [.long (((-1) : Int32).toInt64), .ref 2], cH c s1)) rfl ?_
          refine rc_I (idx := 353) rfl rfl rfl (Nat.le_of_ble_eq_true rfl) (Nat.le_of_ble_eq_true rfl) rfl H (fun v4 s3 H => ?_)
          refine ev_if_eq (tgt := 126) rfl rfl (fun h => ?_) (fun h => ?_)
          · replace H := H.1 (h)
            refine ev_ex 1 (c' := (127, [some (.ref 2), some (.int l1), some (.int l2), some (.int l3), some (.int l4), some (.int v2), some (.int ((-1)))], [.ref 2], cH c s3)) rfl ?_
            refine rc_V (idx := 327) rfl rfl rfl (Nat.le_of_ble_eq_true rfl) (Nat.le_of_ble_eq_true rfl) rfl H (fun s5 H => ?_)
            refine ev_ex 2 (c' := (133, [some (.ref 2), some (.int l1), some (.int l2), some (.int l3), some (.int l4), some (.int v2), some (.int ((-1)))], [.int ((-1)), .ref 2], cH c s5)) rfl ?_
            refine rc_V (idx := 356) rfl rfl rfl (Nat.le_of_ble_eq_true rfl) (Nat.le_of_ble_eq_true rfl) rfl H (fun s6 H => ?_)
            refine ev_ex 3 (c' := (51, [some (.ref 2), some (.int l1), some (.int l2), some (.int (l3 + 1)), some (.int (l4 + 1)), some (.int v2), some (.int ((-1)))], [], cH c s6)) rfl ?_
            exact ev_less (lle_of (L := [some (.ref 2), some (.int l1), some (.int l2), some (.int (l3 + 1)), some (.int (l4 + 1)), none, none]) ⟨rfl, ⟨rfl, ⟨rfl, ⟨rfl, ⟨rfl, trivial⟩⟩⟩⟩⟩) H
          · replace H := H.2 (h)
            refine ev_ex 3 (c' := (51, [some (.ref 2), some (.int l1), some (.int l2), some (.int l3), some (.int (l4 + 1)), some (.int v2), some (.int ((-1)))], [], cH c s3)) rfl ?_
            exact ev_less (lle_of (L := [some (.ref 2), some (.int l1), some (.int l2), some (.int l3), some (.int (l4 + 1)), none, none]) ⟨rfl, ⟨rfl, ⟨rfl, ⟨rfl, ⟨rfl, trivial⟩⟩⟩⟩⟩) H
        · replace H := H.2 (h)
          refine ev_ex 4 (c' := (117, [some (.ref 2), some (.int l1), some (.int l2), some (.int l3), some (.int l4), some (.int v2), some (.int (((-1)) + 99))], [.long ((((-1)) + 99).toInt64), .ref 2], cH c s1)) rfl ?_
          refine rc_I (idx := 353) rfl rfl rfl (Nat.le_of_ble_eq_true rfl) (Nat.le_of_ble_eq_true rfl) rfl H (fun v8 s7 H => ?_)
          refine ev_if_eq (tgt := 126) rfl rfl (fun h => ?_) (fun h => ?_)
          · replace H := H.1 (h)
            refine ev_ex 1 (c' := (127, [some (.ref 2), some (.int l1), some (.int l2), some (.int l3), some (.int l4), some (.int v2), some (.int (((-1)) + 99))], [.ref 2], cH c s7)) rfl ?_
            refine rc_V (idx := 327) rfl rfl rfl (Nat.le_of_ble_eq_true rfl) (Nat.le_of_ble_eq_true rfl) rfl H (fun s9 H => ?_)
            refine ev_ex 2 (c' := (133, [some (.ref 2), some (.int l1), some (.int l2), some (.int l3), some (.int l4), some (.int v2), some (.int (((-1)) + 99))], [.int (((-1)) + 99), .ref 2], cH c s9)) rfl ?_
            refine rc_V (idx := 356) rfl rfl rfl (Nat.le_of_ble_eq_true rfl) (Nat.le_of_ble_eq_true rfl) rfl H (fun s10 H => ?_)
            refine ev_ex 3 (c' := (51, [some (.ref 2), some (.int l1), some (.int l2), some (.int (l3 + 1)), some (.int (l4 + 1)), some (.int v2), some (.int (((-1)) + 99))], [], cH c s10)) rfl ?_
            exact ev_less (lle_of (L := [some (.ref 2), some (.int l1), some (.int l2), some (.int (l3 + 1)), some (.int (l4 + 1)), none, none]) ⟨rfl, ⟨rfl, ⟨rfl, ⟨rfl, ⟨rfl, trivial⟩⟩⟩⟩⟩) H
          · replace H := H.2 (h)
            refine ev_ex 3 (c' := (51, [some (.ref 2), some (.int l1), some (.int l2), some (.int l3), some (.int (l4 + 1)), some (.int v2), some (.int (((-1)) + 99))], [], cH c s7)) rfl ?_
            exact ev_less (lle_of (L := [some (.ref 2), some (.int l1), some (.int l2), some (.int l3), some (.int (l4 + 1)), none, none]) ⟨rfl, ⟨rfl, ⟨rfl, ⟨rfl, ⟨rfl, trivial⟩⟩⟩⟩⟩) H
      · replace H := H.2 (h)
        refine ev_ex 3 (c' := (95, [some (.ref 2), some (.int l1), some (.int l2), some (.int l3), some (.int l4), some (.int v2), some (.int ((-1)))], [.ref 2, .ref 2, .int ((-1))], cH c s1)) rfl ?_
        refine rq_I (idx := 267) (V := s1.2.1 1 1) (S := s1) rfl rfl rfl (Nat.le_of_ble_eq_true rfl) (Nat.le_of_ble_eq_true rfl) rfl (zq_R_guilds ⟨rfl, rfl⟩) ?_
        refine rc_I (idx := 377) rfl rfl rfl (Nat.le_of_ble_eq_true rfl) (Nat.le_of_ble_eq_true rfl) rfl H (fun v12 s11 H => ?_)
        refine ev_ex 4 (c' := (107, [some (.ref 2), some (.int l1), some (.int l2), some (.int l3), some (.int l4), some (.int v2), some (.int (((-1)) + v12))], [.int 2, .int v2], cH c s11)) rfl ?_
        refine ev_icmp_ne (tgt := 113) rfl rfl (fun h => ?_) (fun h => ?_)
        · replace H := H.1 (h)
          refine ev_ex 3 (c' := (117, [some (.ref 2), some (.int l1), some (.int l2), some (.int l3), some (.int l4), some (.int v2), some (.int (((-1)) + v12))], [.long ((((-1)) + v12).toInt64), .ref 2], cH c s11)) rfl ?_
          refine rc_I (idx := 353) rfl rfl rfl (Nat.le_of_ble_eq_true rfl) (Nat.le_of_ble_eq_true rfl) rfl H (fun v14 s13 H => ?_)
          refine ev_if_eq (tgt := 126) rfl rfl (fun h => ?_) (fun h => ?_)
          · replace H := H.1 (h)
            refine ev_ex 1 (c' := (127, [some (.ref 2), some (.int l1), some (.int l2), some (.int l3), some (.int l4), some (.int v2), some (.int (((-1)) + v12))], [.ref 2], cH c s13)) rfl ?_
            refine rc_V (idx := 327) rfl rfl rfl (Nat.le_of_ble_eq_true rfl) (Nat.le_of_ble_eq_true rfl) rfl H (fun s15 H => ?_)
            refine ev_ex 2 (c' := (133, [some (.ref 2), some (.int l1), some (.int l2), some (.int l3), some (.int l4), some (.int v2), some (.int (((-1)) + v12))], [.int (((-1)) + v12), .ref 2], cH c s15)) rfl ?_
            refine rc_V (idx := 356) rfl rfl rfl (Nat.le_of_ble_eq_true rfl) (Nat.le_of_ble_eq_true rfl) rfl H (fun s16 H => ?_)
            refine ev_ex 3 (c' := (51, [some (.ref 2), some (.int l1), some (.int l2), some (.int (l3 + 1)), some (.int (l4 + 1)), some (.int v2), some (.int (((-1)) + v12))], [], cH c s16)) rfl ?_
            exact ev_less (lle_of (L := [some (.ref 2), some (.int l1), some (.int l2), some (.int (l3 + 1)), some (.int (l4 + 1)), none, none]) ⟨rfl, ⟨rfl, ⟨rfl, ⟨rfl, ⟨rfl, trivial⟩⟩⟩⟩⟩) H
          · replace H := H.2 (h)
            refine ev_ex 3 (c' := (51, [some (.ref 2), some (.int l1), some (.int l2), some (.int l3), some (.int (l4 + 1)), some (.int v2), some (.int (((-1)) + v12))], [], cH c s13)) rfl ?_
            exact ev_less (lle_of (L := [some (.ref 2), some (.int l1), some (.int l2), some (.int l3), some (.int (l4 + 1)), none, none]) ⟨rfl, ⟨rfl, ⟨rfl, ⟨rfl, ⟨rfl, trivial⟩⟩⟩⟩⟩) H
        · replace H := H.2 (h)
          refine ev_ex 4 (c' := (117, [some (.ref 2), some (.int l1), some (.int l2), some (.int l3), some (.int l4), some (.int v2), some (.int ((((-1)) + v12) + 99))], [.long (((((-1)) + v12) + 99).toInt64), .ref 2], cH c s11)) rfl ?_
          refine rc_I (idx := 353) rfl rfl rfl (Nat.le_of_ble_eq_true rfl) (Nat.le_of_ble_eq_true rfl) rfl H (fun v18 s17 H => ?_)
          refine ev_if_eq (tgt := 126) rfl rfl (fun h => ?_) (fun h => ?_)
          · replace H := H.1 (h)
            refine ev_ex 1 (c' := (127, [some (.ref 2), some (.int l1), some (.int l2), some (.int l3), some (.int l4), some (.int v2), some (.int ((((-1)) + v12) + 99))], [.ref 2], cH c s17)) rfl ?_
            refine rc_V (idx := 327) rfl rfl rfl (Nat.le_of_ble_eq_true rfl) (Nat.le_of_ble_eq_true rfl) rfl H (fun s19 H => ?_)
            refine ev_ex 2 (c' := (133, [some (.ref 2), some (.int l1), some (.int l2), some (.int l3), some (.int l4), some (.int v2), some (.int ((((-1)) + v12) + 99))], [.int ((((-1)) + v12) + 99), .ref 2], cH c s19)) rfl ?_
            refine rc_V (idx := 356) rfl rfl rfl (Nat.le_of_ble_eq_true rfl) (Nat.le_of_ble_eq_true rfl) rfl H (fun s20 H => ?_)
            refine ev_ex 3 (c' := (51, [some (.ref 2), some (.int l1), some (.int l2), some (.int (l3 + 1)), some (.int (l4 + 1)), some (.int v2), some (.int ((((-1)) + v12) + 99))], [], cH c s20)) rfl ?_
            exact ev_less (lle_of (L := [some (.ref 2), some (.int l1), some (.int l2), some (.int (l3 + 1)), some (.int (l4 + 1)), none, none]) ⟨rfl, ⟨rfl, ⟨rfl, ⟨rfl, ⟨rfl, trivial⟩⟩⟩⟩⟩) H
          · replace H := H.2 (h)
            refine ev_ex 3 (c' := (51, [some (.ref 2), some (.int l1), some (.int l2), some (.int l3), some (.int (l4 + 1)), some (.int v2), some (.int ((((-1)) + v12) + 99))], [], cH c s17)) rfl ?_
            exact ev_less (lle_of (L := [some (.ref 2), some (.int l1), some (.int l2), some (.int l3), some (.int (l4 + 1)), none, none]) ⟨rfl, ⟨rfl, ⟨rfl, ⟨rfl, ⟨rfl, trivial⟩⟩⟩⟩⟩) H
    · replace H := H.2 (h)
      refine ev_ex 3 (c' := (76, [some (.ref 2), some (.int l1), some (.int l2), some (.int l3), some (.int l4), some (.int v2), some (.int ((-1)))], [.ref 2, .ref 2, .int 100], cH c s1)) rfl ?_
      refine rq_I (idx := 267) (V := s1.2.1 1 1) (S := s1) rfl rfl rfl (Nat.le_of_ble_eq_true rfl) (Nat.le_of_ble_eq_true rfl) rfl (zq_R_guilds ⟨rfl, rfl⟩) ?_
      refine rc_I (idx := 377) rfl rfl rfl (Nat.le_of_ble_eq_true rfl) (Nat.le_of_ble_eq_true rfl) rfl H (fun v22 s21 H => ?_)
      refine ev_ex 4 (c' := (88, [some (.ref 2), some (.int l1), some (.int l2), some (.int l3), some (.int l4), some (.int v2), some (.int (100 * v22))], [.int 1, .int v2], cH c s21)) rfl ?_
      refine ev_icmp_ne (tgt := 104) rfl rfl (fun h => ?_) (fun h => ?_)
      · replace H := H.1 (h)
        refine ev_ex 2 (c' := (107, [some (.ref 2), some (.int l1), some (.int l2), some (.int l3), some (.int l4), some (.int v2), some (.int (100 * v22))], [.int 2, .int v2], cH c s21)) rfl ?_
        refine ev_icmp_ne (tgt := 113) rfl rfl (fun h => ?_) (fun h => ?_)
        · replace H := H.1 (h)
          refine ev_ex 3 (c' := (117, [some (.ref 2), some (.int l1), some (.int l2), some (.int l3), some (.int l4), some (.int v2), some (.int (100 * v22))], [.long ((100 * v22).toInt64), .ref 2], cH c s21)) rfl ?_
          refine rc_I (idx := 353) rfl rfl rfl (Nat.le_of_ble_eq_true rfl) (Nat.le_of_ble_eq_true rfl) rfl H (fun v24 s23 H => ?_)
          refine ev_if_eq (tgt := 126) rfl rfl (fun h => ?_) (fun h => ?_)
          · replace H := H.1 (h)
            refine ev_ex 1 (c' := (127, [some (.ref 2), some (.int l1), some (.int l2), some (.int l3), some (.int l4), some (.int v2), some (.int (100 * v22))], [.ref 2], cH c s23)) rfl ?_
            refine rc_V (idx := 327) rfl rfl rfl (Nat.le_of_ble_eq_true rfl) (Nat.le_of_ble_eq_true rfl) rfl H (fun s25 H => ?_)
            refine ev_ex 2 (c' := (133, [some (.ref 2), some (.int l1), some (.int l2), some (.int l3), some (.int l4), some (.int v2), some (.int (100 * v22))], [.int (100 * v22), .ref 2], cH c s25)) rfl ?_
            refine rc_V (idx := 356) rfl rfl rfl (Nat.le_of_ble_eq_true rfl) (Nat.le_of_ble_eq_true rfl) rfl H (fun s26 H => ?_)
            refine ev_ex 3 (c' := (51, [some (.ref 2), some (.int l1), some (.int l2), some (.int (l3 + 1)), some (.int (l4 + 1)), some (.int v2), some (.int (100 * v22))], [], cH c s26)) rfl ?_
            exact ev_less (lle_of (L := [some (.ref 2), some (.int l1), some (.int l2), some (.int (l3 + 1)), some (.int (l4 + 1)), none, none]) ⟨rfl, ⟨rfl, ⟨rfl, ⟨rfl, ⟨rfl, trivial⟩⟩⟩⟩⟩) H
          · replace H := H.2 (h)
            refine ev_ex 3 (c' := (51, [some (.ref 2), some (.int l1), some (.int l2), some (.int l3), some (.int (l4 + 1)), some (.int v2), some (.int (100 * v22))], [], cH c s23)) rfl ?_
            exact ev_less (lle_of (L := [some (.ref 2), some (.int l1), some (.int l2), some (.int l3), some (.int (l4 + 1)), none, none]) ⟨rfl, ⟨rfl, ⟨rfl, ⟨rfl, ⟨rfl, trivial⟩⟩⟩⟩⟩) H
        · replace H := H.2 (h)
          refine ev_ex 4 (c' := (117, [some (.ref 2), some (.int l1), some (.int l2), some (.int l3), some (.int l4), some (.int v2), some (.int ((100 * v22) + 99))], [.long (((100 * v22) + 99).toInt64), .ref 2], cH c s21)) rfl ?_
          refine rc_I (idx := 353) rfl rfl rfl (Nat.le_of_ble_eq_true rfl) (Nat.le_of_ble_eq_true rfl) rfl H (fun v28 s27 H => ?_)
          refine ev_if_eq (tgt := 126) rfl rfl (fun h => ?_) (fun h => ?_)
          · replace H := H.1 (h)
            refine ev_ex 1 (c' := (127, [some (.ref 2), some (.int l1), some (.int l2), some (.int l3), some (.int l4), some (.int v2), some (.int ((100 * v22) + 99))], [.ref 2], cH c s27)) rfl ?_
            refine rc_V (idx := 327) rfl rfl rfl (Nat.le_of_ble_eq_true rfl) (Nat.le_of_ble_eq_true rfl) rfl H (fun s29 H => ?_)
            refine ev_ex 2 (c' := (133, [some (.ref 2), some (.int l1), some (.int l2), some (.int l3), some (.int l4), some (.int v2), some (.int ((100 * v22) + 99))], [.int ((100 * v22) + 99), .ref 2], cH c s29)) rfl ?_
            refine rc_V (idx := 356) rfl rfl rfl (Nat.le_of_ble_eq_true rfl) (Nat.le_of_ble_eq_true rfl) rfl H (fun s30 H => ?_)
            refine ev_ex 3 (c' := (51, [some (.ref 2), some (.int l1), some (.int l2), some (.int (l3 + 1)), some (.int (l4 + 1)), some (.int v2), some (.int ((100 * v22) + 99))], [], cH c s30)) rfl ?_
            exact ev_less (lle_of (L := [some (.ref 2), some (.int l1), some (.int l2), some (.int (l3 + 1)), some (.int (l4 + 1)), none, none]) ⟨rfl, ⟨rfl, ⟨rfl, ⟨rfl, ⟨rfl, trivial⟩⟩⟩⟩⟩) H
          · replace H := H.2 (h)
            refine ev_ex 3 (c' := (51, [some (.ref 2), some (.int l1), some (.int l2), some (.int l3), some (.int (l4 + 1)), some (.int v2), some (.int ((100 * v22) + 99))], [], cH c s27)) rfl ?_
            exact ev_less (lle_of (L := [some (.ref 2), some (.int l1), some (.int l2), some (.int l3), some (.int (l4 + 1)), none, none]) ⟨rfl, ⟨rfl, ⟨rfl, ⟨rfl, ⟨rfl, trivial⟩⟩⟩⟩⟩) H
      · replace H := H.2 (h)
        refine ev_ex 3 (c' := (95, [some (.ref 2), some (.int l1), some (.int l2), some (.int l3), some (.int l4), some (.int v2), some (.int (100 * v22))], [.ref 2, .ref 2, .int (100 * v22)], cH c s21)) rfl ?_
        refine rq_I (idx := 267) (V := s21.2.1 1 1) (S := s21) rfl rfl rfl (Nat.le_of_ble_eq_true rfl) (Nat.le_of_ble_eq_true rfl) rfl (zq_R_guilds ⟨rfl, rfl⟩) ?_
        refine rc_I (idx := 377) rfl rfl rfl (Nat.le_of_ble_eq_true rfl) (Nat.le_of_ble_eq_true rfl) rfl H (fun v32 s31 H => ?_)
        refine ev_ex 4 (c' := (107, [some (.ref 2), some (.int l1), some (.int l2), some (.int l3), some (.int l4), some (.int v2), some (.int ((100 * v22) + v32))], [.int 2, .int v2], cH c s31)) rfl ?_
        refine ev_icmp_ne (tgt := 113) rfl rfl (fun h => ?_) (fun h => ?_)
        · replace H := H.1 (h)
          refine ev_ex 3 (c' := (117, [some (.ref 2), some (.int l1), some (.int l2), some (.int l3), some (.int l4), some (.int v2), some (.int ((100 * v22) + v32))], [.long (((100 * v22) + v32).toInt64), .ref 2], cH c s31)) rfl ?_
          refine rc_I (idx := 353) rfl rfl rfl (Nat.le_of_ble_eq_true rfl) (Nat.le_of_ble_eq_true rfl) rfl H (fun v34 s33 H => ?_)
          refine ev_if_eq (tgt := 126) rfl rfl (fun h => ?_) (fun h => ?_)
          · replace H := H.1 (h)
            refine ev_ex 1 (c' := (127, [some (.ref 2), some (.int l1), some (.int l2), some (.int l3), some (.int l4), some (.int v2), some (.int ((100 * v22) + v32))], [.ref 2], cH c s33)) rfl ?_
            refine rc_V (idx := 327) rfl rfl rfl (Nat.le_of_ble_eq_true rfl) (Nat.le_of_ble_eq_true rfl) rfl H (fun s35 H => ?_)
            refine ev_ex 2 (c' := (133, [some (.ref 2), some (.int l1), some (.int l2), some (.int l3), some (.int l4), some (.int v2), some (.int ((100 * v22) + v32))], [.int ((100 * v22) + v32), .ref 2], cH c s35)) rfl ?_
            refine rc_V (idx := 356) rfl rfl rfl (Nat.le_of_ble_eq_true rfl) (Nat.le_of_ble_eq_true rfl) rfl H (fun s36 H => ?_)
            refine ev_ex 3 (c' := (51, [some (.ref 2), some (.int l1), some (.int l2), some (.int (l3 + 1)), some (.int (l4 + 1)), some (.int v2), some (.int ((100 * v22) + v32))], [], cH c s36)) rfl ?_
            exact ev_less (lle_of (L := [some (.ref 2), some (.int l1), some (.int l2), some (.int (l3 + 1)), some (.int (l4 + 1)), none, none]) ⟨rfl, ⟨rfl, ⟨rfl, ⟨rfl, ⟨rfl, trivial⟩⟩⟩⟩⟩) H
          · replace H := H.2 (h)
            refine ev_ex 3 (c' := (51, [some (.ref 2), some (.int l1), some (.int l2), some (.int l3), some (.int (l4 + 1)), some (.int v2), some (.int ((100 * v22) + v32))], [], cH c s33)) rfl ?_
            exact ev_less (lle_of (L := [some (.ref 2), some (.int l1), some (.int l2), some (.int l3), some (.int (l4 + 1)), none, none]) ⟨rfl, ⟨rfl, ⟨rfl, ⟨rfl, ⟨rfl, trivial⟩⟩⟩⟩⟩) H
        · replace H := H.2 (h)
          refine ev_ex 4 (c' := (117, [some (.ref 2), some (.int l1), some (.int l2), some (.int l3), some (.int l4), some (.int v2), some (.int (((100 * v22) + v32) + 99))], [.long ((((100 * v22) + v32) + 99).toInt64), .ref 2], cH c s31)) rfl ?_
          refine rc_I (idx := 353) rfl rfl rfl (Nat.le_of_ble_eq_true rfl) (Nat.le_of_ble_eq_true rfl) rfl H (fun v38 s37 H => ?_)
          refine ev_if_eq (tgt := 126) rfl rfl (fun h => ?_) (fun h => ?_)
          · replace H := H.1 (h)
            refine ev_ex 1 (c' := (127, [some (.ref 2), some (.int l1), some (.int l2), some (.int l3), some (.int l4), some (.int v2), some (.int (((100 * v22) + v32) + 99))], [.ref 2], cH c s37)) rfl ?_
            refine rc_V (idx := 327) rfl rfl rfl (Nat.le_of_ble_eq_true rfl) (Nat.le_of_ble_eq_true rfl) rfl H (fun s39 H => ?_)
            refine ev_ex 2 (c' := (133, [some (.ref 2), some (.int l1), some (.int l2), some (.int l3), some (.int l4), some (.int v2), some (.int (((100 * v22) + v32) + 99))], [.int (((100 * v22) + v32) + 99), .ref 2], cH c s39)) rfl ?_
            refine rc_V (idx := 356) rfl rfl rfl (Nat.le_of_ble_eq_true rfl) (Nat.le_of_ble_eq_true rfl) rfl H (fun s40 H => ?_)
            refine ev_ex 3 (c' := (51, [some (.ref 2), some (.int l1), some (.int l2), some (.int (l3 + 1)), some (.int (l4 + 1)), some (.int v2), some (.int (((100 * v22) + v32) + 99))], [], cH c s40)) rfl ?_
            exact ev_less (lle_of (L := [some (.ref 2), some (.int l1), some (.int l2), some (.int (l3 + 1)), some (.int (l4 + 1)), none, none]) ⟨rfl, ⟨rfl, ⟨rfl, ⟨rfl, ⟨rfl, trivial⟩⟩⟩⟩⟩) H
          · replace H := H.2 (h)
            refine ev_ex 3 (c' := (51, [some (.ref 2), some (.int l1), some (.int l2), some (.int l3), some (.int (l4 + 1)), some (.int v2), some (.int (((100 * v22) + v32) + 99))], [], cH c s37)) rfl ?_
            exact ev_less (lle_of (L := [some (.ref 2), some (.int l1), some (.int l2), some (.int l3), some (.int (l4 + 1)), none, none]) ⟨rfl, ⟨rfl, ⟨rfl, ⟨rfl, ⟨rfl, trivial⟩⟩⟩⟩⟩) H
set_option maxRecDepth 8000 in
theorem w_R_ringed {c : CX} {d : Nat} {s : RS} {Q : Int32 → RS → Prop}  (H : eR c (d + 1) m_R_ringed 9 [some (.ref 2), some (.int 0), some (.int 0)] (rF s 4 0) (pI c Q)) : RI c (d + 1) m_R_ringed [.ref 2] s Q := by
  refine ⟨q_R_ringed, rfl, Nat.le_of_ble_eq_true rfl, ?_⟩
  refine ev_ex 0 (c' := (0, [some (.ref 2), none, none], [], cH c s)) rfl ?_
  refine ev_ex 7 (c' := (9, [some (.ref 2), some (.int 0), some (.int 0)], [], cH c (rF s 4 0))) rfl ?_
  exact H
set_option maxRecDepth 8000 in
theorem w_R_ringed_9 {c : CX} {d : Nat} {s : RS} {Q : Int32 → RS → Prop} (l1 : Int32) (l2 : Int32) (H : (((s.2.1 1 1) ≤ l2 → Q l1 s) ∧ (¬ (s.2.1 1 1) ≤ l2 → RI c d m_R_ringOf [.ref 2, .int l2] s (fun v2 s1 => eR c (d + 1) m_R_ringed 9 [some (.ref 2), some (.int (l1 ||| v2)), some (.int (l2 + 1))] s1 (pI c Q))))) : eR c (d + 1) m_R_ringed 9 [some (.ref 2), some (.int l1), some (.int l2)] s (pI c Q) := by
  unfold eR
  refine ev_ex 0 (c' := (9, [some (.ref 2), some (.int l1), some (.int l2)], [], cH c s)) rfl ?_
  refine ev_ex 2 (c' := (11, [some (.ref 2), some (.int l1), some (.int l2)], [.ref 2, .int l2], cH c s)) rfl ?_
  refine rq_I (idx := 267) (V := s.2.1 1 1) (S := s) rfl rfl rfl (Nat.le_of_ble_eq_true rfl) (Nat.le_of_ble_eq_true rfl) rfl (zq_R_guilds ⟨rfl, rfl⟩) ?_
  refine ev_icmp_ge (tgt := 31) rfl rfl (fun h => ?_) (fun h => ?_)
  · replace H := H.1 (h)
    refine ev_ex 1 (c' := (32, [some (.ref 2), some (.int l1), some (.int l2)], [.int l1], cH c s)) rfl ?_
    exact ev_ret rfl rfl rfl ⟨_, _, rfl, rfl, H⟩
  · replace H := H.2 (h)
    refine ev_ex 3 (c' := (20, [some (.ref 2), some (.int l1), some (.int l2)], [.int l2, .ref 2, .int l1], cH c s)) rfl ?_
    refine rc_I (idx := 380) rfl rfl rfl (Nat.le_of_ble_eq_true rfl) (Nat.le_of_ble_eq_true rfl) rfl H (fun v2 s1 H => ?_)
    refine ev_ex 4 (c' := (9, [some (.ref 2), some (.int (l1 ||| v2)), some (.int (l2 + 1))], [], cH c s1)) rfl ?_
    exact H
set_option maxRecDepth 8000 in
theorem w_R_rings {c : CX} {d : Nat} {s : RS} {Q : Int32 → RS → Prop} (a0 : Bool) (H : eR c (d + 1) m_R_rings 9 [some (.ref 2), some (.int (bI a0)), some (.int 0), some (.int 0), none] (rF s 4 0) (pI c Q)) : RI c (d + 1) m_R_rings [.ref 2, .int (bI a0)] s Q := by
  refine ⟨q_R_rings, rfl, Nat.le_of_ble_eq_true rfl, ?_⟩
  refine ev_ex 0 (c' := (0, [some (.ref 2), some (.int (bI a0)), none, none, none], [], cH c s)) rfl ?_
  refine ev_ex 7 (c' := (9, [some (.ref 2), some (.int (bI a0)), some (.int 0), some (.int 0), none], [], cH c (rF s 4 0))) rfl ?_
  exact H
set_option maxRecDepth 8000 in
theorem w_R_rings_9 {c : CX} {d : Nat} {s : RS} {Q : Int32 → RS → Prop} (l1 : Bool) (l2 : Int32) (l3 : Int32) (H : (((s.2.1 1 1) ≤ l3 → Q l2 s) ∧ (¬ (s.2.1 1 1) ≤ l3 → RI c d m_R_ringOf [.ref 2, .int l3] s (fun v2 s1 => ((v2 = 0 → eR c (d + 1) m_R_rings 9 [some (.ref 2), some (.int (bI l1)), some (.int (l2 + 0)), some (.int (l3 + 1)), none] s1 (pI c Q)) ∧ (¬ v2 = 0 → RI c d m_R_firstOf [.int v2] s1 (fun v4 s3 => ((¬ v4 = l3 → eR c (d + 1) m_R_rings 9 [some (.ref 2), some (.int (bI l1)), some (.int (l2 + 0)), some (.int (l3 + 1)), none] s3 (pI c Q)) ∧ (v4 = l3 → ((l1 = false → eR c (d + 1) m_R_rings 9 [some (.ref 2), some (.int (bI l1)), some (.int (l2 + 1)), some (.int (l3 + 1)), none] s3 (pI c Q)) ∧ (l1 = true → RB c d m_R_isShut [.ref 2, .int v2] s3 (fun v6 s5 => ((v6 = false → eR c (d + 1) m_R_rings 9 [some (.ref 2), some (.int (bI l1)), some (.int (l2 + 0)), some (.int (l3 + 1)), none] s5 (pI c Q)) ∧ (v6 = true → eR c (d + 1) m_R_rings 9 [some (.ref 2), some (.int (bI l1)), some (.int (l2 + 1)), some (.int (l3 + 1)), none] s5 (pI c Q))))))))))))))) : eR c (d + 1) m_R_rings 9 [some (.ref 2), some (.int (bI l1)), some (.int l2), some (.int l3), none] s (pI c Q) := by
  unfold eR
  refine ev_ex 0 (c' := (9, [some (.ref 2), some (.int (bI l1)), some (.int l2), some (.int l3), none], [], cH c s)) rfl ?_
  refine ev_ex 2 (c' := (11, [some (.ref 2), some (.int (bI l1)), some (.int l2), some (.int l3), none], [.ref 2, .int l3], cH c s)) rfl ?_
  refine rq_I (idx := 267) (V := s.2.1 1 1) (S := s) rfl rfl rfl (Nat.le_of_ble_eq_true rfl) (Nat.le_of_ble_eq_true rfl) rfl (zq_R_guilds ⟨rfl, rfl⟩) ?_
  refine ev_icmp_ge (tgt := 65) rfl rfl (fun h => ?_) (fun h => ?_)
  · replace H := H.1 (h)
    refine ev_ex 1 (c' := (66, [some (.ref 2), some (.int (bI l1)), some (.int l2), some (.int l3), none], [.int l2], cH c s)) rfl ?_
    exact ev_ret rfl rfl rfl ⟨_, _, rfl, rfl, H⟩
  · replace H := H.2 (h)
    refine ev_ex 2 (c' := (19, [some (.ref 2), some (.int (bI l1)), some (.int l2), some (.int l3), none], [.int l3, .ref 2], cH c s)) rfl ?_
    refine rc_I (idx := 380) rfl rfl rfl (Nat.le_of_ble_eq_true rfl) (Nat.le_of_ble_eq_true rfl) rfl H (fun v2 s1 H => ?_)
    refine ev_ex 3 (c' := (27, [some (.ref 2), some (.int (bI l1)), some (.int l2), some (.int l3), some (.int v2)], [.int v2, .int l2], cH c s1)) rfl ?_
    refine ev_if_eq (tgt := 56) rfl rfl (fun h => ?_) (fun h => ?_)
    · replace H := H.1 (h)
      refine ev_ex 5 (c' := (9, [some (.ref 2), some (.int (bI l1)), some (.int (l2 + 0)), some (.int (l3 + 1)), some (.int v2)], [], cH c s1)) rfl ?_
      exact ev_less (lle_of (L := [some (.ref 2), some (.int (bI l1)), some (.int (l2 + 0)), some (.int (l3 + 1)), none]) ⟨rfl, ⟨rfl, ⟨rfl, ⟨rfl, trivial⟩⟩⟩⟩) H
    · replace H := H.2 (h)
      refine ev_ex 1 (c' := (32, [some (.ref 2), some (.int (bI l1)), some (.int l2), some (.int l3), some (.int v2)], [.int v2, .int l2], cH c s1)) rfl ?_
      refine rc_I (idx := 308) rfl rfl rfl (Nat.le_of_ble_eq_true rfl) (Nat.le_of_ble_eq_true rfl) rfl H (fun v4 s3 H => ?_)
      refine ev_ex 1 (c' := (36, [some (.ref 2), some (.int (bI l1)), some (.int l2), some (.int l3), some (.int v2)], [.int l3, .int v4, .int l2], cH c s3)) rfl ?_
      refine ev_icmp_ne (tgt := 56) rfl rfl (fun h => ?_) (fun h => ?_)
      · replace H := H.1 (h)
        refine ev_ex 5 (c' := (9, [some (.ref 2), some (.int (bI l1)), some (.int (l2 + 0)), some (.int (l3 + 1)), some (.int v2)], [], cH c s3)) rfl ?_
        exact ev_less (lle_of (L := [some (.ref 2), some (.int (bI l1)), some (.int (l2 + 0)), some (.int (l3 + 1)), none]) ⟨rfl, ⟨rfl, ⟨rfl, ⟨rfl, trivial⟩⟩⟩⟩) H
      · replace H := H.2 (h)
        refine ev_ex 1 (c' := (40, [some (.ref 2), some (.int (bI l1)), some (.int l2), some (.int l3), some (.int v2)], [.int (bI l1), .int l2], cH c s3)) rfl ?_
        refine ev_if_eqB (x := l1) (tgt := 52) rfl rfl (fun h => ?_) (fun h => ?_)
        · replace H := H.1 (h)
          refine ev_ex 6 (c' := (9, [some (.ref 2), some (.int (bI l1)), some (.int (l2 + 1)), some (.int (l3 + 1)), some (.int v2)], [], cH c s3)) rfl ?_
          exact ev_less (lle_of (L := [some (.ref 2), some (.int (bI l1)), some (.int (l2 + 1)), some (.int (l3 + 1)), none]) ⟨rfl, ⟨rfl, ⟨rfl, ⟨rfl, trivial⟩⟩⟩⟩) H
        · replace H := H.2 (h)
          refine ev_ex 2 (c' := (46, [some (.ref 2), some (.int (bI l1)), some (.int l2), some (.int l3), some (.int v2)], [.int v2, .ref 2, .int l2], cH c s3)) rfl ?_
          refine rc_B (idx := 383) rfl rfl rfl (Nat.le_of_ble_eq_true rfl) (Nat.le_of_ble_eq_true rfl) rfl H (fun v6 s5 H => ?_)
          refine ev_if_eqB (x := v6) (tgt := 56) rfl rfl (fun h => ?_) (fun h => ?_)
          · replace H := H.1 (h)
            refine ev_ex 5 (c' := (9, [some (.ref 2), some (.int (bI l1)), some (.int (l2 + 0)), some (.int (l3 + 1)), some (.int v2)], [], cH c s5)) rfl ?_
            exact ev_less (lle_of (L := [some (.ref 2), some (.int (bI l1)), some (.int (l2 + 0)), some (.int (l3 + 1)), none]) ⟨rfl, ⟨rfl, ⟨rfl, ⟨rfl, trivial⟩⟩⟩⟩) H
          · replace H := H.2 (h)
            refine ev_ex 6 (c' := (9, [some (.ref 2), some (.int (bI l1)), some (.int (l2 + 1)), some (.int (l3 + 1)), some (.int v2)], [], cH c s5)) rfl ?_
            exact ev_less (lle_of (L := [some (.ref 2), some (.int (bI l1)), some (.int (l2 + 1)), some (.int (l3 + 1)), none]) ⟨rfl, ⟨rfl, ⟨rfl, ⟨rfl, trivial⟩⟩⟩⟩) H
set_option maxRecDepth 8000 in
theorem w_R_cakes {c : CX} {d : Nat} {s : RS} {Q : Int32 → RS → Prop}  (H : RV c d m_R_laysRow [.ref 2] (rF s 4 0) (fun s1 => Q (s1.1 27) s1)) : RI c (d + 1) m_R_cakes [.ref 2] s Q := by
  refine ⟨q_R_cakes, rfl, Nat.le_of_ble_eq_true rfl, ?_⟩
  refine ev_ex 0 (c' := (0, [some (.ref 2)], [], cH c s)) rfl ?_
  refine ev_ex 4 (c' := (6, [some (.ref 2)], [.ref 2], cH c (rF s 4 0))) rfl ?_
  refine rc_V (idx := 362) rfl rfl rfl (Nat.le_of_ble_eq_true rfl) (Nat.le_of_ble_eq_true rfl) rfl H (fun s1 H => ?_)
  refine ev_ex 2 (c' := (13, [some (.ref 2)], [.int (s1.1 27)], cH c s1)) rfl ?_
  exact ev_ret rfl rfl rfl ⟨_, _, rfl, rfl, H⟩
set_option maxRecDepth 8000 in
theorem w_R_chains {c : CX} {d : Nat} {s : RS} {Q : Int32 → RS → Prop}  (H : RV c d m_R_laysRow [.ref 2] (rF s 4 0) (fun s1 => Q (s1.1 28) s1)) : RI c (d + 1) m_R_chains [.ref 2] s Q := by
  refine ⟨q_R_chains, rfl, Nat.le_of_ble_eq_true rfl, ?_⟩
  refine ev_ex 0 (c' := (0, [some (.ref 2)], [], cH c s)) rfl ?_
  refine ev_ex 4 (c' := (6, [some (.ref 2)], [.ref 2], cH c (rF s 4 0))) rfl ?_
  refine rc_V (idx := 362) rfl rfl rfl (Nat.le_of_ble_eq_true rfl) (Nat.le_of_ble_eq_true rfl) rfl H (fun s1 H => ?_)
  refine ev_ex 2 (c' := (13, [some (.ref 2)], [.int (s1.1 28)], cH c s1)) rfl ?_
  exact ev_ret rfl rfl rfl ⟨_, _, rfl, rfl, H⟩
set_option maxRecDepth 8000 in
theorem w_R_walks {c : CX} {d : Nat} {s : RS} {Q : Int32 → RS → Prop} (a0 : Int32) (H : ((0 ≤ a0 → RV c d m_R_laysRow [.ref 2] (rF s 4 0) (fun s1 => (((s1.1 26) ≤ a0 → Q ((-1)) s1) ∧ (¬ (s1.1 26) ≤ a0 → (okx a0 20 ∧ Q (s1.2.1 9 (ix a0)) s1))))) ∧ (¬ 0 ≤ a0 → Q 0 (rF (rF s 4 0) 4 1)))) : RI c (d + 1) m_R_walks [.ref 2, .int a0] s Q := by
  refine ⟨q_R_walks, rfl, Nat.le_of_ble_eq_true rfl, ?_⟩
  refine ev_ex 0 (c' := (0, [some (.ref 2), some (.int a0)], [], cH c s)) rfl ?_
  refine ev_ex 4 (c' := (6, [some (.ref 2), some (.int a0)], [.int a0], cH c (rF s 4 0))) rfl ?_
  refine ev_if_ge (tgt := 15) rfl rfl (fun h => ?_) (fun h => ?_)
  · replace H := H.1 (h)
    refine ev_ex 1 (c' := (16, [some (.ref 2), some (.int a0)], [.ref 2], cH c (rF s 4 0))) rfl ?_
    refine rc_V (idx := 362) rfl rfl rfl (Nat.le_of_ble_eq_true rfl) (Nat.le_of_ble_eq_true rfl) rfl H (fun s1 H => ?_)
    refine ev_ex 3 (c' := (24, [some (.ref 2), some (.int a0)], [.int (s1.1 26), .int a0], cH c s1)) rfl ?_
    refine ev_icmp_ge (tgt := 36) rfl rfl (fun h => ?_) (fun h => ?_)
    · replace H := H.1 (h)
      refine ev_ex 1 (c' := (37, [some (.ref 2), some (.int a0)], [.int ((-1))], cH c s1)) rfl ?_
      exact ev_ret rfl rfl rfl ⟨_, _, rfl, rfl, H⟩
    · replace H := H.2 (h)
      refine ev_ex 3 (c' := (32, [some (.ref 2), some (.int a0)], [.int a0, .ref 38], cH c s1)) rfl ?_
      obtain ⟨H0, H⟩ := H
      refine ev_ald (i := .iaload) rfl (Or.inl rfl) rfl H0 (v := .int (s1.2.1 9 (ix a0))) rfl ?_
      refine ev_ex 1 (c' := (37, [some (.ref 2), some (.int a0)], [.int (s1.2.1 9 (ix a0))], cH c s1)) rfl ?_
      exact ev_ret rfl rfl rfl ⟨_, _, rfl, rfl, H⟩
  · replace H := H.2 (h)
    refine ev_ex 2 (c' := (11, [some (.ref 2), some (.int a0)], [.int 1, .ref 2], cH c (rF s 4 0))) rfl ?_
    refine rq_I (idx := 258) (V := 0) (S := rF (rF s 4 0) 4 1) rfl rfl rfl (Nat.le_of_ble_eq_true rfl) (Nat.le_of_ble_eq_true rfl) rfl (zq_R_fails ⟨rfl, rfl⟩) ?_
    exact ev_ret rfl rfl rfl ⟨_, _, rfl, rfl, H⟩
set_option maxRecDepth 8000 in
theorem w_R_place {c : CX} {d : Nat} {s : RS} {Q : Int32 → RS → Prop} (a0 : Int32) (H : (((wth a0.toInt64 0 (s.2.1 1 1 - 1).toInt64) = true → RV c (d + 1) m_R_laysRow [.ref 2] (rF s 4 0) (fun s1 => (okx a0 10 ∧ Q (s1.2.1 11 (ix a0)) s1))) ∧ ((wth a0.toInt64 0 (s.2.1 1 1 - 1).toInt64) = false → Q 0 (rF (rF s 4 0) 4 1)))) : RI c (d + 2) m_R_place [.ref 2, .int a0] s Q := by
  refine ⟨q_R_place, rfl, Nat.le_of_ble_eq_true rfl, ?_⟩
  refine ev_ex 0 (c' := (0, [some (.ref 2), some (.int a0)], [], cH c s)) rfl ?_
  refine ev_ex 6 (c' := (8, [some (.ref 2), some (.int a0)], [.long a0.toInt64, .ref 2], cH c (rF s 4 0))) rfl ?_
  refine rq_B (idx := 314) (V := wth a0.toInt64 0 (s.2.1 1 1 - 1).toInt64) (S := rF s 4 0) rfl rfl rfl (Nat.le_of_ble_eq_true rfl) (Nat.le_of_ble_eq_true rfl) rfl (zq_R_isGuild ⟨rfl, rfl⟩) ?_
  refine ev_if_neB (x := (wth a0.toInt64 0 (s.2.1 1 1 - 1).toInt64)) (tgt := 20) rfl rfl (fun h => ?_) (fun h => ?_)
  · replace H := H.1 (h)
    refine ev_ex 1 (c' := (21, [some (.ref 2), some (.int a0)], [.ref 2], cH c (rF s 4 0))) rfl ?_
    refine rc_V (idx := 362) rfl rfl rfl (Nat.le_of_ble_eq_true rfl) (Nat.le_of_ble_eq_true rfl) rfl H (fun s1 H => ?_)
    refine ev_ex 3 (c' := (29, [some (.ref 2), some (.int a0)], [.int a0, .ref 46], cH c s1)) rfl ?_
    obtain ⟨H0, H⟩ := H
    refine ev_ald (i := .iaload) rfl (Or.inl rfl) rfl H0 (v := .int (s1.2.1 11 (ix a0))) rfl ?_
    exact ev_ret rfl rfl rfl ⟨_, _, rfl, rfl, H⟩
  · replace H := H.2 (h)
    refine ev_ex 2 (c' := (16, [some (.ref 2), some (.int a0)], [.int 1, .ref 2], cH c (rF s 4 0))) rfl ?_
    refine rq_I (idx := 258) (V := 0) (S := rF (rF s 4 0) 4 1) rfl rfl rfl (Nat.le_of_ble_eq_true rfl) (Nat.le_of_ble_eq_true rfl) rfl (zq_R_fails ⟨rfl, rfl⟩) ?_
    exact ev_ret rfl rfl rfl ⟨_, _, rfl, rfl, H⟩
set_option maxRecDepth 8000 in
theorem w_R_length {c : CX} {d : Nat} {s : RS} {Q : Int32 → RS → Prop}  (H : RV c d m_R_laysRow [.ref 2] (rF s 4 0) (fun s1 => (okx (s1.1 26) 21 ∧ Q (s1.2.1 10 (ix (s1.1 26))) s1))) : RI c (d + 1) m_R_length [.ref 2] s Q := by
  refine ⟨q_R_length, rfl, Nat.le_of_ble_eq_true rfl, ?_⟩
  refine ev_ex 0 (c' := (0, [some (.ref 2)], [], cH c s)) rfl ?_
  refine ev_ex 4 (c' := (6, [some (.ref 2)], [.ref 2], cH c (rF s 4 0))) rfl ?_
  refine rc_V (idx := 362) rfl rfl rfl (Nat.le_of_ble_eq_true rfl) (Nat.le_of_ble_eq_true rfl) rfl H (fun s1 H => ?_)
  refine ev_ex 4 (c' := (17, [some (.ref 2)], [.int (s1.1 26), .ref 42], cH c s1)) rfl ?_
  obtain ⟨H0, H⟩ := H
  refine ev_ald (i := .iaload) rfl (Or.inl rfl) rfl H0 (v := .int (s1.2.1 10 (ix (s1.1 26)))) rfl ?_
  exact ev_ret rfl rfl rfl ⟨_, _, rfl, rfl, H⟩
set_option maxRecDepth 8000 in
theorem w_R_persuaded {c : CX} {d : Nat} {s : RS} {Q : Int32 → RS → Prop} (a0 : Int32) (H : (((wth a0.toInt64 0 1) = true → RI c d m_R_fewestOf [.ref 2, .int 1] (rF s 4 0) (fun v2 s1 => ((¬ a0 = 1 → RI c d m_R_size [.int v2] s1 (fun v4 s3 => Q v4 s3)) ∧ (a0 = 1 → Q v2 s1)))) ∧ ((wth a0.toInt64 0 1) = false → Q 0 (rF (rF s 4 0) 4 1)))) : RI c (d + 1) m_R_persuaded [.ref 2, .int a0] s Q := by
  refine ⟨q_R_persuaded, rfl, Nat.le_of_ble_eq_true rfl, ?_⟩
  refine ev_ex 0 (c' := (0, [some (.ref 2), some (.int a0), none], [], cH c s)) rfl ?_
  refine ev_ex 7 (c' := (9, [some (.ref 2), some (.int a0), none], [.long 1, .long 0, .long a0.toInt64], cH c (rF s 4 0))) rfl ?_
  refine rq_B (idx := 136) (V := wth a0.toInt64 0 1) (S := rF s 4 0) rfl rfl rfl (Nat.le_of_ble_eq_true rfl) (Nat.le_of_ble_eq_true rfl) rfl (zq_R_within ⟨rfl, rfl⟩) ?_
  refine ev_if_neB (x := (wth a0.toInt64 0 1)) (tgt := 21) rfl rfl (fun h => ?_) (fun h => ?_)
  · replace H := H.1 (h)
    refine ev_ex 2 (c' := (23, [some (.ref 2), some (.int a0), none], [.int 1, .ref 2], cH c (rF s 4 0))) rfl ?_
    refine rc_I (idx := 404) rfl rfl rfl (Nat.le_of_ble_eq_true rfl) (Nat.le_of_ble_eq_true rfl) rfl H (fun v2 s1 H => ?_)
    refine ev_ex 3 (c' := (29, [some (.ref 2), some (.int a0), some (.int v2)], [.int 1, .int a0], cH c s1)) rfl ?_
    refine ev_icmp_ne (tgt := 36) rfl rfl (fun h => ?_) (fun h => ?_)
    · replace H := H.1 (h)
      refine ev_ex 1 (c' := (37, [some (.ref 2), some (.int a0), some (.int v2)], [.int v2], cH c s1)) rfl ?_
      refine rc_I (idx := 293) rfl rfl rfl (Nat.le_of_ble_eq_true rfl) (Nat.le_of_ble_eq_true rfl) rfl H (fun v4 s3 H => ?_)
      exact ev_ret rfl rfl rfl ⟨_, _, rfl, rfl, H⟩
    · replace H := H.2 (h)
      refine ev_ex 2 (c' := (40, [some (.ref 2), some (.int a0), some (.int v2)], [.int v2], cH c s1)) rfl ?_
      exact ev_ret rfl rfl rfl ⟨_, _, rfl, rfl, H⟩
  · replace H := H.2 (h)
    refine ev_ex 2 (c' := (17, [some (.ref 2), some (.int a0), none], [.int 1, .ref 2], cH c (rF s 4 0))) rfl ?_
    refine rq_I (idx := 258) (V := 0) (S := rF (rF s 4 0) 4 1) rfl rfl rfl (Nat.le_of_ble_eq_true rfl) (Nat.le_of_ble_eq_true rfl) rfl (zq_R_fails ⟨rfl, rfl⟩) ?_
    exact ev_ret rfl rfl rfl ⟨_, _, rfl, rfl, H⟩
set_option maxRecDepth 8000 in
theorem w_R_peace {c : CX} {d : Nat} {s : RS} {Q : Int32 → RS → Prop} (a0 : Int32) (H : (((wth a0.toInt64 0 1) = true → RI c d m_R_fewestOf [.ref 2, .int 0] (rF s 4 0) (fun v2 s1 => ((¬ a0 = 1 → RI c d m_R_size [.int v2] s1 (fun v4 s3 => Q v4 s3)) ∧ (a0 = 1 → Q v2 s1)))) ∧ ((wth a0.toInt64 0 1) = false → Q 0 (rF (rF s 4 0) 4 1)))) : RI c (d + 1) m_R_peace [.ref 2, .int a0] s Q := by
  refine ⟨q_R_peace, rfl, Nat.le_of_ble_eq_true rfl, ?_⟩
  refine ev_ex 0 (c' := (0, [some (.ref 2), some (.int a0), none], [], cH c s)) rfl ?_
  refine ev_ex 7 (c' := (9, [some (.ref 2), some (.int a0), none], [.long 1, .long 0, .long a0.toInt64], cH c (rF s 4 0))) rfl ?_
  refine rq_B (idx := 136) (V := wth a0.toInt64 0 1) (S := rF s 4 0) rfl rfl rfl (Nat.le_of_ble_eq_true rfl) (Nat.le_of_ble_eq_true rfl) rfl (zq_R_within ⟨rfl, rfl⟩) ?_
  refine ev_if_neB (x := (wth a0.toInt64 0 1)) (tgt := 21) rfl rfl (fun h => ?_) (fun h => ?_)
  · replace H := H.1 (h)
    refine ev_ex 2 (c' := (23, [some (.ref 2), some (.int a0), none], [.int 0, .ref 2], cH c (rF s 4 0))) rfl ?_
    refine rc_I (idx := 404) rfl rfl rfl (Nat.le_of_ble_eq_true rfl) (Nat.le_of_ble_eq_true rfl) rfl H (fun v2 s1 H => ?_)
    refine ev_ex 3 (c' := (29, [some (.ref 2), some (.int a0), some (.int v2)], [.int 1, .int a0], cH c s1)) rfl ?_
    refine ev_icmp_ne (tgt := 36) rfl rfl (fun h => ?_) (fun h => ?_)
    · replace H := H.1 (h)
      refine ev_ex 1 (c' := (37, [some (.ref 2), some (.int a0), some (.int v2)], [.int v2], cH c s1)) rfl ?_
      refine rc_I (idx := 293) rfl rfl rfl (Nat.le_of_ble_eq_true rfl) (Nat.le_of_ble_eq_true rfl) rfl H (fun v4 s3 H => ?_)
      exact ev_ret rfl rfl rfl ⟨_, _, rfl, rfl, H⟩
    · replace H := H.2 (h)
      refine ev_ex 2 (c' := (40, [some (.ref 2), some (.int a0), some (.int v2)], [.int v2], cH c s1)) rfl ?_
      exact ev_ret rfl rfl rfl ⟨_, _, rfl, rfl, H⟩
  · replace H := H.2 (h)
    refine ev_ex 2 (c' := (17, [some (.ref 2), some (.int a0), none], [.int 1, .ref 2], cH c (rF s 4 0))) rfl ?_
    refine rq_I (idx := 258) (V := 0) (S := rF (rF s 4 0) 4 1) rfl rfl rfl (Nat.le_of_ble_eq_true rfl) (Nat.le_of_ble_eq_true rfl) rfl (zq_R_fails ⟨rfl, rfl⟩) ?_
    exact ev_ret rfl rfl rfl ⟨_, _, rfl, rfl, H⟩
set_option maxRecDepth 8000 in
theorem w_R_goat {c : CX} {d : Nat} {s : RS} {Q : Int32 → RS → Prop}  (H : eR c (d + 1) m_R_goat 11 [some (.ref 2), some (.int ((-1))), some (.int 0), some (.int 0), none] (rF s 4 0) (pI c Q)) : RI c (d + 1) m_R_goat [.ref 2] s Q := by
  refine ⟨q_R_goat, rfl, Nat.le_of_ble_eq_true rfl, ?_⟩
  refine ev_ex 0 (c' := (0, [some (.ref 2), none, none, none, none], [], cH c s)) rfl ?_
  refine ev_ex 9 (c' := (11, [some (.ref 2), some (.int ((-1))), some (.int 0), some (.int 0), none], [], cH c (rF s 4 0))) rfl ?_
  exact H
set_option maxRecDepth 8000 in
theorem w_R_goat_11 {c : CX} {d : Nat} {s : RS} {Q : Int32 → RS → Prop} (l1 : Int32) (l2 : Int32) (l3 : Int32) (H : (((s.2.1 1 1) ≤ l3 → Q l1 s) ∧ (¬ (s.2.1 1 1) ≤ l3 → RI c d m_R_mockers [.ref 2, .int l3] s (fun v2 s1 => RI c d m_R_size [.int v2] s1 (fun v4 s3 => ((l2 < v4 → eR c (d + 1) m_R_goat 11 [some (.ref 2), some (.int l3), some (.int v4), some (.int (l3 + 1)), none] s3 (pI c Q)) ∧ (¬ l2 < v4 → eR c (d + 1) m_R_goat 11 [some (.ref 2), some (.int l1), some (.int l2), some (.int (l3 + 1)), none] s3 (pI c Q)))))))) : eR c (d + 1) m_R_goat 11 [some (.ref 2), some (.int l1), some (.int l2), some (.int l3), none] s (pI c Q) := by
  unfold eR
  refine ev_ex 0 (c' := (11, [some (.ref 2), some (.int l1), some (.int l2), some (.int l3), none], [], cH c s)) rfl ?_
  refine ev_ex 2 (c' := (13, [some (.ref 2), some (.int l1), some (.int l2), some (.int l3), none], [.ref 2, .int l3], cH c s)) rfl ?_
  refine rq_I (idx := 267) (V := s.2.1 1 1) (S := s) rfl rfl rfl (Nat.le_of_ble_eq_true rfl) (Nat.le_of_ble_eq_true rfl) rfl (zq_R_guilds ⟨rfl, rfl⟩) ?_
  refine ev_icmp_ge (tgt := 49) rfl rfl (fun h => ?_) (fun h => ?_)
  · replace H := H.1 (h)
    refine ev_ex 1 (c' := (50, [some (.ref 2), some (.int l1), some (.int l2), some (.int l3), none], [.int l1], cH c s)) rfl ?_
    exact ev_ret rfl rfl rfl ⟨_, _, rfl, rfl, H⟩
  · replace H := H.2 (h)
    refine ev_ex 2 (c' := (21, [some (.ref 2), some (.int l1), some (.int l2), some (.int l3), none], [.int l3, .ref 2], cH c s)) rfl ?_
    refine rc_I (idx := 290) rfl rfl rfl (Nat.le_of_ble_eq_true rfl) (Nat.le_of_ble_eq_true rfl) rfl H (fun v2 s1 H => ?_)
    refine rc_I (idx := 293) rfl rfl rfl (Nat.le_of_ble_eq_true rfl) (Nat.le_of_ble_eq_true rfl) rfl H (fun v4 s3 H => ?_)
    refine ev_ex 3 (c' := (32, [some (.ref 2), some (.int l1), some (.int l2), some (.int l3), some (.int v4)], [.int l2, .int v4], cH c s3)) rfl ?_
    refine ev_icmp_gt (tgt := 38) rfl rfl (fun h => ?_) (fun h => ?_)
    · replace H := H.1 (h)
      refine ev_ex 6 (c' := (11, [some (.ref 2), some (.int l3), some (.int v4), some (.int (l3 + 1)), some (.int v4)], [], cH c s3)) rfl ?_
      exact ev_less (lle_of (L := [some (.ref 2), some (.int l3), some (.int v4), some (.int (l3 + 1)), none]) ⟨rfl, ⟨rfl, ⟨rfl, ⟨rfl, trivial⟩⟩⟩⟩) H
    · replace H := H.2 (h)
      refine ev_ex 3 (c' := (11, [some (.ref 2), some (.int l1), some (.int l2), some (.int (l3 + 1)), some (.int v4)], [], cH c s3)) rfl ?_
      exact ev_less (lle_of (L := [some (.ref 2), some (.int l1), some (.int l2), some (.int (l3 + 1)), none]) ⟨rfl, ⟨rfl, ⟨rfl, ⟨rfl, trivial⟩⟩⟩⟩) H
set_option maxRecDepth 8000 in
theorem w_R_below {c : CX} {d : Nat} {s : RS} {Q : Int32 → RS → Prop} (a0 : Int32) (H : (((wth a0.toInt64 0 (s.2.1 1 1 - 1).toInt64) = true → (okx (6 + a0) 2101 ∧ eR c (d + 2) m_R_below 30 [some (.ref 2), some (.int a0), some (.int ((1 : Int32) <<< (a0 &&& 31))), some (.int (s.2.1 1 (ix (6 + a0))))] (rF s 4 0) (pI c Q))) ∧ ((wth a0.toInt64 0 (s.2.1 1 1 - 1).toInt64) = false → Q 0 (rF (rF s 4 0) 4 1)))) : RI c (d + 2) m_R_below [.ref 2, .int a0] s Q := by
  refine ⟨q_R_below, rfl, Nat.le_of_ble_eq_true rfl, ?_⟩
  refine ev_ex 0 (c' := (0, [some (.ref 2), some (.int a0), none, none], [], cH c s)) rfl ?_
  refine ev_ex 6 (c' := (8, [some (.ref 2), some (.int a0), none, none], [.long a0.toInt64, .ref 2], cH c (rF s 4 0))) rfl ?_
  refine rq_B (idx := 314) (V := wth a0.toInt64 0 (s.2.1 1 1 - 1).toInt64) (S := rF s 4 0) rfl rfl rfl (Nat.le_of_ble_eq_true rfl) (Nat.le_of_ble_eq_true rfl) rfl (zq_R_isGuild ⟨rfl, rfl⟩) ?_
  refine ev_if_neB (x := (wth a0.toInt64 0 (s.2.1 1 1 - 1).toInt64)) (tgt := 20) rfl rfl (fun h => ?_) (fun h => ?_)
  · replace H := H.1 (h)
    refine ev_ex 6 (c' := (26, [some (.ref 2), some (.int a0), some (.int ((1 : Int32) <<< (a0 &&& 31))), none], [.int a0, .ref 2], cH c (rF s 4 0))) rfl ?_
    obtain ⟨H1, H⟩ := H
    refine rq_I (idx := 270) (V := s.2.1 1 (ix (6 + a0))) (S := rF s 4 0) rfl rfl rfl (Nat.le_of_ble_eq_true rfl) (Nat.le_of_ble_eq_true rfl) rfl (zq_R_mocked H1 ⟨rfl, rfl⟩) ?_
    refine ev_ex 1 (c' := (30, [some (.ref 2), some (.int a0), some (.int ((1 : Int32) <<< (a0 &&& 31))), some (.int (s.2.1 1 (ix (6 + a0))))], [], cH c (rF s 4 0))) rfl ?_
    exact H
  · replace H := H.2 (h)
    refine ev_ex 2 (c' := (16, [some (.ref 2), some (.int a0), none, none], [.int 1, .ref 2], cH c (rF s 4 0))) rfl ?_
    refine rq_I (idx := 258) (V := 0) (S := rF (rF s 4 0) 4 1) rfl rfl rfl (Nat.le_of_ble_eq_true rfl) (Nat.le_of_ble_eq_true rfl) rfl (zq_R_fails ⟨rfl, rfl⟩) ?_
    exact ev_ret rfl rfl rfl ⟨_, _, rfl, rfl, H⟩
set_option maxRecDepth 8000 in
theorem w_R_below_30 {c : CX} {d : Nat} {s : RS} {Q : Int32 → RS → Prop} (l1 : Int32) (l2 : Int32) (l3 : Int32) (H : ((l3 = ((-1)) → RI c (d + 1) m_R_size [.int l2] s (fun v2 s1 => Q (v2 - 1) s1)) ∧ (¬ l3 = ((-1)) → (((hs l2 l3) = true → RI c (d + 1) m_R_size [.int l2] s (fun v4 s3 => Q (v4 - 1) s3)) ∧ ((hs l2 l3) = false → (okx (6 + l3) 2101 ∧ eR c (d + 2) m_R_below 30 [some (.ref 2), some (.int l1), some (.int (l2 ||| ((1 : Int32) <<< (l3 &&& 31)))), some (.int (s.2.1 1 (ix (6 + l3))))] s (pI c Q))))))) : eR c (d + 2) m_R_below 30 [some (.ref 2), some (.int l1), some (.int l2), some (.int l3)] s (pI c Q) := by
  unfold eR
  refine ev_ex 0 (c' := (30, [some (.ref 2), some (.int l1), some (.int l2), some (.int l3)], [], cH c s)) rfl ?_
  refine ev_ex 2 (c' := (32, [some (.ref 2), some (.int l1), some (.int l2), some (.int l3)], [.int ((-1)), .int l3], cH c s)) rfl ?_
  refine ev_icmp_eq (tgt := 58) rfl rfl (fun h => ?_) (fun h => ?_)
  · replace H := H.1 (h)
    refine ev_ex 1 (c' := (59, [some (.ref 2), some (.int l1), some (.int l2), some (.int l3)], [.int l2], cH c s)) rfl ?_
    refine rc_I (idx := 293) rfl rfl rfl (Nat.le_of_ble_eq_true rfl) (Nat.le_of_ble_eq_true rfl) rfl H (fun v2 s1 H => ?_)
    refine ev_ex 2 (c' := (64, [some (.ref 2), some (.int l1), some (.int l2), some (.int l3)], [.int (v2 - 1)], cH c s1)) rfl ?_
    exact ev_ret rfl rfl rfl ⟨_, _, rfl, rfl, H⟩
  · replace H := H.2 (h)
    refine ev_ex 2 (c' := (37, [some (.ref 2), some (.int l1), some (.int l2), some (.int l3)], [.int l3, .int l2], cH c s)) rfl ?_
    refine rq_B (idx := 74) (V := hs l2 l3) (S := s) rfl rfl rfl (Nat.le_of_ble_eq_true rfl) (Nat.le_of_ble_eq_true rfl) rfl (zq_R_has ⟨rfl, rfl⟩) ?_
    refine ev_if_neB (x := (hs l2 l3)) (tgt := 58) rfl rfl (fun h => ?_) (fun h => ?_)
    · replace H := H.1 (h)
      refine ev_ex 1 (c' := (59, [some (.ref 2), some (.int l1), some (.int l2), some (.int l3)], [.int l2], cH c s)) rfl ?_
      refine rc_I (idx := 293) rfl rfl rfl (Nat.le_of_ble_eq_true rfl) (Nat.le_of_ble_eq_true rfl) rfl H (fun v4 s3 H => ?_)
      refine ev_ex 2 (c' := (64, [some (.ref 2), some (.int l1), some (.int l2), some (.int l3)], [.int (v4 - 1)], cH c s3)) rfl ?_
      exact ev_ret rfl rfl rfl ⟨_, _, rfl, rfl, H⟩
    · replace H := H.2 (h)
      refine ev_ex 8 (c' := (51, [some (.ref 2), some (.int l1), some (.int (l2 ||| ((1 : Int32) <<< (l3 &&& 31)))), some (.int l3)], [.int l3, .ref 2], cH c s)) rfl ?_
      obtain ⟨H1, H⟩ := H
      refine rq_I (idx := 270) (V := s.2.1 1 (ix (6 + l3))) (S := s) rfl rfl rfl (Nat.le_of_ble_eq_true rfl) (Nat.le_of_ble_eq_true rfl) rfl (zq_R_mocked H1 ⟨rfl, rfl⟩) ?_
      refine ev_ex 2 (c' := (30, [some (.ref 2), some (.int l1), some (.int (l2 ||| ((1 : Int32) <<< (l3 &&& 31)))), some (.int (s.2.1 1 (ix (6 + l3))))], [], cH c s)) rfl ?_
      exact H
set_option maxRecDepth 8000 in
theorem w_R_cakesOf {c : CX} {d : Nat} {s : RS} {Q : Int32 → RS → Prop} (a0 : Int32) (H : (((wth a0.toInt64 0 (s.2.1 1 1 - 1).toInt64) = true → RV c (d + 1) m_R_laysRow [.ref 2] (rF s 4 0) (fun s1 => eR c (d + 2) m_R_cakesOf 28 [some (.ref 2), some (.int a0), some (.int 0), some (.int 0)] s1 (pI c Q))) ∧ ((wth a0.toInt64 0 (s.2.1 1 1 - 1).toInt64) = false → Q 0 (rF (rF s 4 0) 4 1)))) : RI c (d + 2) m_R_cakesOf [.ref 2, .int a0] s Q := by
  refine ⟨q_R_cakesOf, rfl, Nat.le_of_ble_eq_true rfl, ?_⟩
  refine ev_ex 0 (c' := (0, [some (.ref 2), some (.int a0), none, none], [], cH c s)) rfl ?_
  refine ev_ex 6 (c' := (8, [some (.ref 2), some (.int a0), none, none], [.long a0.toInt64, .ref 2], cH c (rF s 4 0))) rfl ?_
  refine rq_B (idx := 314) (V := wth a0.toInt64 0 (s.2.1 1 1 - 1).toInt64) (S := rF s 4 0) rfl rfl rfl (Nat.le_of_ble_eq_true rfl) (Nat.le_of_ble_eq_true rfl) rfl (zq_R_isGuild ⟨rfl, rfl⟩) ?_
  refine ev_if_neB (x := (wth a0.toInt64 0 (s.2.1 1 1 - 1).toInt64)) (tgt := 20) rfl rfl (fun h => ?_) (fun h => ?_)
  · replace H := H.1 (h)
    refine ev_ex 1 (c' := (21, [some (.ref 2), some (.int a0), none, none], [.ref 2], cH c (rF s 4 0))) rfl ?_
    refine rc_V (idx := 362) rfl rfl rfl (Nat.le_of_ble_eq_true rfl) (Nat.le_of_ble_eq_true rfl) rfl H (fun s1 H => ?_)
    refine ev_ex 4 (c' := (28, [some (.ref 2), some (.int a0), some (.int 0), some (.int 0)], [], cH c s1)) rfl ?_
    exact H
  · replace H := H.2 (h)
    refine ev_ex 2 (c' := (16, [some (.ref 2), some (.int a0), none, none], [.int 1, .ref 2], cH c (rF s 4 0))) rfl ?_
    refine rq_I (idx := 258) (V := 0) (S := rF (rF s 4 0) 4 1) rfl rfl rfl (Nat.le_of_ble_eq_true rfl) (Nat.le_of_ble_eq_true rfl) rfl (zq_R_fails ⟨rfl, rfl⟩) ?_
    exact ev_ret rfl rfl rfl ⟨_, _, rfl, rfl, H⟩
set_option maxRecDepth 8000 in
theorem w_R_cakesOf_28 {c : CX} {d : Nat} {s : RS} {Q : Int32 → RS → Prop} (l1 : Int32) (l2 : Int32) (l3 : Int32) (H : (((s.1 26) ≤ l3 → Q l2 s) ∧ (¬ (s.1 26) ≤ l3 → (okx l3 20 ∧ ((¬ (s.2.1 9 (ix l3)) = (100 + l1) → eR c (d + 2) m_R_cakesOf 28 [some (.ref 2), some (.int l1), some (.int (l2 + 0)), some (.int (l3 + 1))] s (pI c Q)) ∧ ((s.2.1 9 (ix l3)) = (100 + l1) → eR c (d + 2) m_R_cakesOf 28 [some (.ref 2), some (.int l1), some (.int (l2 + 1)), some (.int (l3 + 1))] s (pI c Q))))))) : eR c (d + 2) m_R_cakesOf 28 [some (.ref 2), some (.int l1), some (.int l2), some (.int l3)] s (pI c Q) := by
  unfold eR
  refine ev_ex 0 (c' := (28, [some (.ref 2), some (.int l1), some (.int l2), some (.int l3)], [], cH c s)) rfl ?_
  refine ev_ex 3 (c' := (33, [some (.ref 2), some (.int l1), some (.int l2), some (.int l3)], [.int (s.1 26), .int l3], cH c s)) rfl ?_
  refine ev_icmp_ge (tgt := 63) rfl rfl (fun h => ?_) (fun h => ?_)
  · replace H := H.1 (h)
    refine ev_ex 1 (c' := (64, [some (.ref 2), some (.int l1), some (.int l2), some (.int l3)], [.int l2], cH c s)) rfl ?_
    exact ev_ret rfl rfl rfl ⟨_, _, rfl, rfl, H⟩
  · replace H := H.2 (h)
    refine ev_ex 4 (c' := (42, [some (.ref 2), some (.int l1), some (.int l2), some (.int l3)], [.int l3, .ref 38, .int l2], cH c s)) rfl ?_
    obtain ⟨H0, H⟩ := H
    refine ev_ald (i := .iaload) rfl (Or.inl rfl) rfl H0 (v := .int (s.2.1 9 (ix l3))) rfl ?_
    refine ev_ex 3 (c' := (47, [some (.ref 2), some (.int l1), some (.int l2), some (.int l3)], [.int (100 + l1), .int (s.2.1 9 (ix l3)), .int l2], cH c s)) rfl ?_
    refine ev_icmp_ne (tgt := 54) rfl rfl (fun h => ?_) (fun h => ?_)
    · replace H := H.1 (h)
      refine ev_ex 5 (c' := (28, [some (.ref 2), some (.int l1), some (.int (l2 + 0)), some (.int (l3 + 1))], [], cH c s)) rfl ?_
      exact H
    · replace H := H.2 (h)
      refine ev_ex 6 (c' := (28, [some (.ref 2), some (.int l1), some (.int (l2 + 1)), some (.int (l3 + 1))], [], cH c s)) rfl ?_
      exact H
set_option maxRecDepth 8000 in
theorem w_R_chainOf {c : CX} {d : Nat} {s : RS} {Q : Int32 → RS → Prop} (a0 : Int32) (H : (((wth a0.toInt64 0 (s.2.1 1 1 - 1).toInt64) = true → RV c (d + 1) m_R_laysRow [.ref 2] (rF s 4 0) (fun s1 => (okx a0 10 ∧ RI c (d + 1) m_R_chainAt [.ref 2, .int (s1.2.1 11 (ix a0))] s1 (fun v3 s2 => Q v3 s2)))) ∧ ((wth a0.toInt64 0 (s.2.1 1 1 - 1).toInt64) = false → Q 0 (rF (rF s 4 0) 4 1)))) : RI c (d + 2) m_R_chainOf [.ref 2, .int a0] s Q := by
  refine ⟨q_R_chainOf, rfl, Nat.le_of_ble_eq_true rfl, ?_⟩
  refine ev_ex 0 (c' := (0, [some (.ref 2), some (.int a0)], [], cH c s)) rfl ?_
  refine ev_ex 6 (c' := (8, [some (.ref 2), some (.int a0)], [.long a0.toInt64, .ref 2], cH c (rF s 4 0))) rfl ?_
  refine rq_B (idx := 314) (V := wth a0.toInt64 0 (s.2.1 1 1 - 1).toInt64) (S := rF s 4 0) rfl rfl rfl (Nat.le_of_ble_eq_true rfl) (Nat.le_of_ble_eq_true rfl) rfl (zq_R_isGuild ⟨rfl, rfl⟩) ?_
  refine ev_if_neB (x := (wth a0.toInt64 0 (s.2.1 1 1 - 1).toInt64)) (tgt := 20) rfl rfl (fun h => ?_) (fun h => ?_)
  · replace H := H.1 (h)
    refine ev_ex 1 (c' := (21, [some (.ref 2), some (.int a0)], [.ref 2], cH c (rF s 4 0))) rfl ?_
    refine rc_V (idx := 362) rfl rfl rfl (Nat.le_of_ble_eq_true rfl) (Nat.le_of_ble_eq_true rfl) rfl H (fun s1 H => ?_)
    refine ev_ex 4 (c' := (30, [some (.ref 2), some (.int a0)], [.int a0, .ref 46, .ref 2], cH c s1)) rfl ?_
    obtain ⟨H0, H⟩ := H
    refine ev_ald (i := .iaload) rfl (Or.inl rfl) rfl H0 (v := .int (s1.2.1 11 (ix a0))) rfl ?_
    refine rc_I (idx := 411) rfl rfl rfl (Nat.le_of_ble_eq_true rfl) (Nat.le_of_ble_eq_true rfl) rfl H (fun v3 s2 H => ?_)
    exact ev_ret rfl rfl rfl ⟨_, _, rfl, rfl, H⟩
  · replace H := H.2 (h)
    refine ev_ex 2 (c' := (16, [some (.ref 2), some (.int a0)], [.int 1, .ref 2], cH c (rF s 4 0))) rfl ?_
    refine rq_I (idx := 258) (V := 0) (S := rF (rF s 4 0) 4 1) rfl rfl rfl (Nat.le_of_ble_eq_true rfl) (Nat.le_of_ble_eq_true rfl) rfl (zq_R_fails ⟨rfl, rfl⟩) ?_
    exact ev_ret rfl rfl rfl ⟨_, _, rfl, rfl, H⟩
