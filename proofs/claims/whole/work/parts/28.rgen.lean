/-! written by wip/gen/vcg.py: what runs of the reference ask -/
theorem w_R_fault {c : CX} {d : Nat} {s : RS} {Q : Int32 → RS → Prop} (a0 : Int32) (H : ((¬ a0 = 0 → ((¬ a0 = 1 → Q ((-1)) (rF s 4 0)) ∧ (a0 = 1 → Q ((rF s 4 0).1 15) (rF s 4 0)))) ∧ (a0 = 0 → Q ((rF s 4 0).1 14) (rF s 4 0)))) : RI c (d) m_R_fault [.ref 2, .int a0] s Q := by
  refine ⟨q_R_fault, rfl, Nat.le_of_ble_eq_true rfl, ?_⟩
  refine ev_ex 0 (c' := (0, [some (.ref 2), some (.int a0)], [], cH c s)) rfl ?_
  refine ev_ex 4 (c' := (6, [some (.ref 2), some (.int a0)], [.int a0], cH c (rF s 4 0))) rfl ?_
  refine ev_if_ne (tgt := 16) rfl rfl (fun h => ?_) (fun h => ?_)
  · replace H := H.1 (h)
    refine ev_ex 2 (c' := (18, [some (.ref 2), some (.int a0)], [.int 1, .int a0], cH c (rF s 4 0))) rfl ?_
    refine ev_icmp_ne (tgt := 28) rfl rfl (fun h => ?_) (fun h => ?_)
    · replace H := H.1 (h)
      refine ev_ex 1 (c' := (29, [some (.ref 2), some (.int a0)], [.int ((-1))], cH c (rF s 4 0))) rfl ?_
      exact ev_ret rfl rfl rfl ⟨_, _, rfl, rfl, H⟩
    · replace H := H.2 (h)
      refine ev_ex 3 (c' := (29, [some (.ref 2), some (.int a0)], [.int ((rF s 4 0).1 15)], cH c (rF s 4 0))) rfl ?_
      exact ev_ret rfl rfl rfl ⟨_, _, rfl, rfl, H⟩
  · replace H := H.2 (h)
    refine ev_ex 3 (c' := (29, [some (.ref 2), some (.int a0)], [.int ((rF s 4 0).1 14)], cH c (rF s 4 0))) rfl ?_
    exact ev_ret rfl rfl rfl ⟨_, _, rfl, rfl, H⟩
theorem w_R_guild {c : CX} {d : Nat} {s : RS} {Q : Int32 → RS → Prop} (a0 : Int32) (a1 : Int32) (H : (((wth a0.toInt64 0 (s.2.1 1 1 - 1).toInt64) = true → (((wth a1.toInt64 0 6) = false → ((((rF s 4 2).1 4) ≤ 0 → ((a1 = 0 → (okx (6 + a0) 2101 ∧ Q ((rF s 4 2).2.1 1 (ix (6 + a0))) (rF s 4 2))) ∧ (a1 = 1 → (okx (16 + a0) 2101 ∧ Q ((rF s 4 2).2.1 1 (ix (16 + a0))) (rF s 4 2))) ∧ (a1 = 2 → (okx (27 + a0) 2101 ∧ Q ((rF s 4 2).2.1 1 (ix (27 + a0))) (rF s 4 2))) ∧ (a1 = 3 → (okx (37 + a0) 2101 ∧ Q ((rF s 4 2).2.1 1 (ix (37 + a0))) (rF s 4 2))) ∧ (a1 = 4 → (okx (47 + a0) 2101 ∧ Q ((rF s 4 2).2.1 1 (ix (47 + a0))) (rF s 4 2))) ∧ (a1 = 5 → (okx (57 + a0) 2101 ∧ Q ((rF s 4 2).2.1 1 (ix (57 + a0))) (rF s 4 2))) ∧ (¬ a1 = 0 ∧ ¬ a1 = 1 ∧ ¬ a1 = 2 ∧ ¬ a1 = 3 ∧ ¬ a1 = 4 ∧ ¬ a1 = 5 → RI c (d + 1) m_R_mockers [.ref 2, .int a0] (rF s 4 2) (fun v2 s1 => Q v2 s1)))) ∧ (¬ ((rF s 4 2).1 4) ≤ 0 → Q 0 (rF s 4 2)))) ∧ ((wth a1.toInt64 0 6) = true → ((((rF s 4 0).1 4) ≤ 0 → ((a1 = 0 → (okx (6 + a0) 2101 ∧ Q ((rF s 4 0).2.1 1 (ix (6 + a0))) (rF s 4 0))) ∧ (a1 = 1 → (okx (16 + a0) 2101 ∧ Q ((rF s 4 0).2.1 1 (ix (16 + a0))) (rF s 4 0))) ∧ (a1 = 2 → (okx (27 + a0) 2101 ∧ Q ((rF s 4 0).2.1 1 (ix (27 + a0))) (rF s 4 0))) ∧ (a1 = 3 → (okx (37 + a0) 2101 ∧ Q ((rF s 4 0).2.1 1 (ix (37 + a0))) (rF s 4 0))) ∧ (a1 = 4 → (okx (47 + a0) 2101 ∧ Q ((rF s 4 0).2.1 1 (ix (47 + a0))) (rF s 4 0))) ∧ (a1 = 5 → (okx (57 + a0) 2101 ∧ Q ((rF s 4 0).2.1 1 (ix (57 + a0))) (rF s 4 0))) ∧ (¬ a1 = 0 ∧ ¬ a1 = 1 ∧ ¬ a1 = 2 ∧ ¬ a1 = 3 ∧ ¬ a1 = 4 ∧ ¬ a1 = 5 → RI c (d + 1) m_R_mockers [.ref 2, .int a0] (rF s 4 0) (fun v4 s3 => Q v4 s3)))) ∧ (¬ ((rF s 4 0).1 4) ≤ 0 → Q 0 (rF s 4 0)))))) ∧ ((wth a0.toInt64 0 (s.2.1 1 1 - 1).toInt64) = false → ((((rF s 4 1).1 4) ≤ 0 → ((a1 = 0 → (okx (6 + a0) 2101 ∧ Q ((rF s 4 1).2.1 1 (ix (6 + a0))) (rF s 4 1))) ∧ (a1 = 1 → (okx (16 + a0) 2101 ∧ Q ((rF s 4 1).2.1 1 (ix (16 + a0))) (rF s 4 1))) ∧ (a1 = 2 → (okx (27 + a0) 2101 ∧ Q ((rF s 4 1).2.1 1 (ix (27 + a0))) (rF s 4 1))) ∧ (a1 = 3 → (okx (37 + a0) 2101 ∧ Q ((rF s 4 1).2.1 1 (ix (37 + a0))) (rF s 4 1))) ∧ (a1 = 4 → (okx (47 + a0) 2101 ∧ Q ((rF s 4 1).2.1 1 (ix (47 + a0))) (rF s 4 1))) ∧ (a1 = 5 → (okx (57 + a0) 2101 ∧ Q ((rF s 4 1).2.1 1 (ix (57 + a0))) (rF s 4 1))) ∧ (¬ a1 = 0 ∧ ¬ a1 = 1 ∧ ¬ a1 = 2 ∧ ¬ a1 = 3 ∧ ¬ a1 = 4 ∧ ¬ a1 = 5 → RI c (d + 1) m_R_mockers [.ref 2, .int a0] (rF s 4 1) (fun v6 s5 => Q v6 s5)))) ∧ (¬ ((rF s 4 1).1 4) ≤ 0 → Q 0 (rF s 4 1)))))) : RI c (d + 2) m_R_guild [.ref 2, .int a0, .int a1] s Q := by
  refine ⟨q_R_guild, rfl, Nat.le_of_ble_eq_true rfl, ?_⟩
  refine ev_ex 0 (c' := (0, [some (.ref 2), some (.int a0), some (.int a1)], [], cH c s)) rfl ?_
  refine ev_ex 4 (c' := (4, [some (.ref 2), some (.int a0), some (.int a1)], [.long a0.toInt64, .ref 2, .ref 2], cH c s)) rfl ?_
  refine rc_B (idx := 314) rfl rfl rfl (Nat.le_of_ble_eq_true rfl) (Nat.le_of_ble_eq_true rfl) rfl (K := fun x s' => x = wth a0.toInt64 0 (s.2.1 1 1 - 1).toInt64 ∧ s' = s) (z_R_isGuild ⟨rfl, rfl⟩) ?_
  rintro _ _ ⟨rfl, rfl⟩
  refine ev_if_neB (x := (wth a0.toInt64 0 (s.2.1 1 1 - 1).toInt64)) (tgt := 14) rfl rfl (fun h => ?_) (fun h => ?_)
  · replace H := H.1 (h)
    refine ev_ex 4 (c' := (20, [some (.ref 2), some (.int a0), some (.int a1)], [.long 6, .long 0, .long a1.toInt64, .ref 2], cH c s)) rfl ?_
    refine rc_B (idx := 136) rfl rfl rfl (Nat.le_of_ble_eq_true rfl) (Nat.le_of_ble_eq_true rfl) rfl (K := fun x s' => x = wth a1.toInt64 0 6 ∧ s' = s) (z_R_within ⟨rfl, rfl⟩) ?_
    rintro _ _ ⟨rfl, rfl⟩
    refine ev_if_eqB (x := (wth a1.toInt64 0 6)) (tgt := 30) rfl rfl (fun h => ?_) (fun h => ?_)
    · replace H := H.1 (h)
      refine ev_ex 4 (c' := (38, [some (.ref 2), some (.int a0), some (.int a1)], [.int ((rF s 4 2).1 4)], cH c (rF s 4 2))) rfl ?_
      refine ev_if_le (tgt := 43) rfl rfl (fun h => ?_) (fun h => ?_)
      · replace H := H.1 (h)
        refine ev_ex 1 (c' := (44, [some (.ref 2), some (.int a0), some (.int a1)], [.int a1], cH c (rF s 4 2))) rfl ?_
        by_cases h0 : a1 = 0
        · refine ev_sw h0 (tgt := 84) rfl rfl ?_
          replace H := H.1 h0
          refine ev_ex 2 (c' := (86, [some (.ref 2), some (.int a0), some (.int a1)], [.int a0, .ref 2], cH c (rF s 4 2))) rfl ?_
          obtain ⟨H1, H⟩ := H
          refine rc_I (idx := 270) rfl rfl rfl (Nat.le_of_ble_eq_true rfl) (Nat.le_of_ble_eq_true rfl) rfl (K := fun x s' => x = (rF s 4 2).2.1 1 (ix (6 + a0)) ∧ s' = rF s 4 2) (z_R_mocked H1 ⟨rfl, rfl⟩) ?_
          rintro _ _ ⟨rfl, rfl⟩
          exact ev_ret rfl rfl rfl ⟨_, _, rfl, rfl, H⟩
        by_cases h1 : a1 = 1
        · refine ev_sw h1 (tgt := 90) rfl rfl ?_
          replace H := H.2.1 h1
          refine ev_ex 5 (c' := (98, [some (.ref 2), some (.int a0), some (.int a1)], [.int (16 + a0), .ref 6], cH c (rF s 4 2))) rfl ?_
          obtain ⟨H0, H⟩ := H
          refine ev_ald (i := .iaload) rfl (Or.inl rfl) rfl H0 (v := .int ((rF s 4 2).2.1 1 (ix (16 + a0)))) rfl ?_
          exact ev_ret rfl rfl rfl ⟨_, _, rfl, rfl, H⟩
        by_cases h2 : a1 = 2
        · refine ev_sw h2 (tgt := 100) rfl rfl ?_
          replace H := H.2.2.1 h2
          refine ev_ex 5 (c' := (108, [some (.ref 2), some (.int a0), some (.int a1)], [.int (27 + a0), .ref 6], cH c (rF s 4 2))) rfl ?_
          obtain ⟨H0, H⟩ := H
          refine ev_ald (i := .iaload) rfl (Or.inl rfl) rfl H0 (v := .int ((rF s 4 2).2.1 1 (ix (27 + a0)))) rfl ?_
          exact ev_ret rfl rfl rfl ⟨_, _, rfl, rfl, H⟩
        by_cases h3 : a1 = 3
        · refine ev_sw h3 (tgt := 110) rfl rfl ?_
          replace H := H.2.2.2.1 h3
          refine ev_ex 5 (c' := (118, [some (.ref 2), some (.int a0), some (.int a1)], [.int (37 + a0), .ref 6], cH c (rF s 4 2))) rfl ?_
          obtain ⟨H0, H⟩ := H
          refine ev_ald (i := .iaload) rfl (Or.inl rfl) rfl H0 (v := .int ((rF s 4 2).2.1 1 (ix (37 + a0)))) rfl ?_
          exact ev_ret rfl rfl rfl ⟨_, _, rfl, rfl, H⟩
        by_cases h4 : a1 = 4
        · refine ev_sw h4 (tgt := 120) rfl rfl ?_
          replace H := H.2.2.2.2.1 h4
          refine ev_ex 5 (c' := (128, [some (.ref 2), some (.int a0), some (.int a1)], [.int (47 + a0), .ref 6], cH c (rF s 4 2))) rfl ?_
          obtain ⟨H0, H⟩ := H
          refine ev_ald (i := .iaload) rfl (Or.inl rfl) rfl H0 (v := .int ((rF s 4 2).2.1 1 (ix (47 + a0)))) rfl ?_
          exact ev_ret rfl rfl rfl ⟨_, _, rfl, rfl, H⟩
        by_cases h5 : a1 = 5
        · refine ev_sw h5 (tgt := 130) rfl rfl ?_
          replace H := H.2.2.2.2.2.1 h5
          refine ev_ex 5 (c' := (138, [some (.ref 2), some (.int a0), some (.int a1)], [.int (57 + a0), .ref 6], cH c (rF s 4 2))) rfl ?_
          obtain ⟨H0, H⟩ := H
          refine ev_ald (i := .iaload) rfl (Or.inl rfl) rfl H0 (v := .int ((rF s 4 2).2.1 1 (ix (57 + a0)))) rfl ?_
          exact ev_ret rfl rfl rfl ⟨_, _, rfl, rfl, H⟩
        replace H := H.2.2.2.2.2.2 ⟨h0, h1, h2, h3, h4, h5⟩
        refine ev_tswd (tgt := 140) rfl (by have e0 := i32_ne h0 (y := 0) rfl; have e1 := i32_ne h1 (y := 1) rfl; have e2 := i32_ne h2 (y := 2) rfl; have e3 := i32_ne h3 (y := 3) rfl; have e4 := i32_ne h4 (y := 4) rfl; have e5 := i32_ne h5 (y := 5) rfl; omega) rfl ?_
        refine ev_ex 2 (c' := (142, [some (.ref 2), some (.int a0), some (.int a1)], [.int a0, .ref 2], cH c (rF s 4 2))) rfl ?_
        refine rc_I (idx := 290) rfl rfl rfl (Nat.le_of_ble_eq_true rfl) (Nat.le_of_ble_eq_true rfl) rfl H (fun v2 s1 H => ?_)
        exact ev_ret rfl rfl rfl ⟨_, _, rfl, rfl, H⟩
      · replace H := H.2 (h)
        refine ev_ex 1 (c' := (42, [some (.ref 2), some (.int a0), some (.int a1)], [.int 0], cH c (rF s 4 2))) rfl ?_
        exact ev_ret rfl rfl rfl ⟨_, _, rfl, rfl, H⟩
    · replace H := H.2 (h)
      refine ev_ex 5 (c' := (38, [some (.ref 2), some (.int a0), some (.int a1)], [.int ((rF s 4 0).1 4)], cH c (rF s 4 0))) rfl ?_
      refine ev_if_le (tgt := 43) rfl rfl (fun h => ?_) (fun h => ?_)
      · replace H := H.1 (h)
        refine ev_ex 1 (c' := (44, [some (.ref 2), some (.int a0), some (.int a1)], [.int a1], cH c (rF s 4 0))) rfl ?_
        by_cases h0 : a1 = 0
        · refine ev_sw h0 (tgt := 84) rfl rfl ?_
          replace H := H.1 h0
          refine ev_ex 2 (c' := (86, [some (.ref 2), some (.int a0), some (.int a1)], [.int a0, .ref 2], cH c (rF s 4 0))) rfl ?_
          obtain ⟨H1, H⟩ := H
          refine rc_I (idx := 270) rfl rfl rfl (Nat.le_of_ble_eq_true rfl) (Nat.le_of_ble_eq_true rfl) rfl (K := fun x s' => x = (rF s 4 0).2.1 1 (ix (6 + a0)) ∧ s' = rF s 4 0) (z_R_mocked H1 ⟨rfl, rfl⟩) ?_
          rintro _ _ ⟨rfl, rfl⟩
          exact ev_ret rfl rfl rfl ⟨_, _, rfl, rfl, H⟩
        by_cases h1 : a1 = 1
        · refine ev_sw h1 (tgt := 90) rfl rfl ?_
          replace H := H.2.1 h1
          refine ev_ex 5 (c' := (98, [some (.ref 2), some (.int a0), some (.int a1)], [.int (16 + a0), .ref 6], cH c (rF s 4 0))) rfl ?_
          obtain ⟨H0, H⟩ := H
          refine ev_ald (i := .iaload) rfl (Or.inl rfl) rfl H0 (v := .int ((rF s 4 0).2.1 1 (ix (16 + a0)))) rfl ?_
          exact ev_ret rfl rfl rfl ⟨_, _, rfl, rfl, H⟩
        by_cases h2 : a1 = 2
        · refine ev_sw h2 (tgt := 100) rfl rfl ?_
          replace H := H.2.2.1 h2
          refine ev_ex 5 (c' := (108, [some (.ref 2), some (.int a0), some (.int a1)], [.int (27 + a0), .ref 6], cH c (rF s 4 0))) rfl ?_
          obtain ⟨H0, H⟩ := H
          refine ev_ald (i := .iaload) rfl (Or.inl rfl) rfl H0 (v := .int ((rF s 4 0).2.1 1 (ix (27 + a0)))) rfl ?_
          exact ev_ret rfl rfl rfl ⟨_, _, rfl, rfl, H⟩
        by_cases h3 : a1 = 3
        · refine ev_sw h3 (tgt := 110) rfl rfl ?_
          replace H := H.2.2.2.1 h3
          refine ev_ex 5 (c' := (118, [some (.ref 2), some (.int a0), some (.int a1)], [.int (37 + a0), .ref 6], cH c (rF s 4 0))) rfl ?_
          obtain ⟨H0, H⟩ := H
          refine ev_ald (i := .iaload) rfl (Or.inl rfl) rfl H0 (v := .int ((rF s 4 0).2.1 1 (ix (37 + a0)))) rfl ?_
          exact ev_ret rfl rfl rfl ⟨_, _, rfl, rfl, H⟩
        by_cases h4 : a1 = 4
        · refine ev_sw h4 (tgt := 120) rfl rfl ?_
          replace H := H.2.2.2.2.1 h4
          refine ev_ex 5 (c' := (128, [some (.ref 2), some (.int a0), some (.int a1)], [.int (47 + a0), .ref 6], cH c (rF s 4 0))) rfl ?_
          obtain ⟨H0, H⟩ := H
          refine ev_ald (i := .iaload) rfl (Or.inl rfl) rfl H0 (v := .int ((rF s 4 0).2.1 1 (ix (47 + a0)))) rfl ?_
          exact ev_ret rfl rfl rfl ⟨_, _, rfl, rfl, H⟩
        by_cases h5 : a1 = 5
        · refine ev_sw h5 (tgt := 130) rfl rfl ?_
          replace H := H.2.2.2.2.2.1 h5
          refine ev_ex 5 (c' := (138, [some (.ref 2), some (.int a0), some (.int a1)], [.int (57 + a0), .ref 6], cH c (rF s 4 0))) rfl ?_
          obtain ⟨H0, H⟩ := H
          refine ev_ald (i := .iaload) rfl (Or.inl rfl) rfl H0 (v := .int ((rF s 4 0).2.1 1 (ix (57 + a0)))) rfl ?_
          exact ev_ret rfl rfl rfl ⟨_, _, rfl, rfl, H⟩
        replace H := H.2.2.2.2.2.2 ⟨h0, h1, h2, h3, h4, h5⟩
        refine ev_tswd (tgt := 140) rfl (by have e0 := i32_ne h0 (y := 0) rfl; have e1 := i32_ne h1 (y := 1) rfl; have e2 := i32_ne h2 (y := 2) rfl; have e3 := i32_ne h3 (y := 3) rfl; have e4 := i32_ne h4 (y := 4) rfl; have e5 := i32_ne h5 (y := 5) rfl; omega) rfl ?_
        refine ev_ex 2 (c' := (142, [some (.ref 2), some (.int a0), some (.int a1)], [.int a0, .ref 2], cH c (rF s 4 0))) rfl ?_
        refine rc_I (idx := 290) rfl rfl rfl (Nat.le_of_ble_eq_true rfl) (Nat.le_of_ble_eq_true rfl) rfl H (fun v4 s3 H => ?_)
        exact ev_ret rfl rfl rfl ⟨_, _, rfl, rfl, H⟩
      · replace H := H.2 (h)
        refine ev_ex 1 (c' := (42, [some (.ref 2), some (.int a0), some (.int a1)], [.int 0], cH c (rF s 4 0))) rfl ?_
        exact ev_ret rfl rfl rfl ⟨_, _, rfl, rfl, H⟩
  · replace H := H.2 (h)
    refine ev_ex 5 (c' := (38, [some (.ref 2), some (.int a0), some (.int a1)], [.int ((rF s 4 1).1 4)], cH c (rF s 4 1))) rfl ?_
    refine ev_if_le (tgt := 43) rfl rfl (fun h => ?_) (fun h => ?_)
    · replace H := H.1 (h)
      refine ev_ex 1 (c' := (44, [some (.ref 2), some (.int a0), some (.int a1)], [.int a1], cH c (rF s 4 1))) rfl ?_
      by_cases h0 : a1 = 0
      · refine ev_sw h0 (tgt := 84) rfl rfl ?_
        replace H := H.1 h0
        refine ev_ex 2 (c' := (86, [some (.ref 2), some (.int a0), some (.int a1)], [.int a0, .ref 2], cH c (rF s 4 1))) rfl ?_
        obtain ⟨H1, H⟩ := H
        refine rc_I (idx := 270) rfl rfl rfl (Nat.le_of_ble_eq_true rfl) (Nat.le_of_ble_eq_true rfl) rfl (K := fun x s' => x = (rF s 4 1).2.1 1 (ix (6 + a0)) ∧ s' = rF s 4 1) (z_R_mocked H1 ⟨rfl, rfl⟩) ?_
        rintro _ _ ⟨rfl, rfl⟩
        exact ev_ret rfl rfl rfl ⟨_, _, rfl, rfl, H⟩
      by_cases h1 : a1 = 1
      · refine ev_sw h1 (tgt := 90) rfl rfl ?_
        replace H := H.2.1 h1
        refine ev_ex 5 (c' := (98, [some (.ref 2), some (.int a0), some (.int a1)], [.int (16 + a0), .ref 6], cH c (rF s 4 1))) rfl ?_
        obtain ⟨H0, H⟩ := H
        refine ev_ald (i := .iaload) rfl (Or.inl rfl) rfl H0 (v := .int ((rF s 4 1).2.1 1 (ix (16 + a0)))) rfl ?_
        exact ev_ret rfl rfl rfl ⟨_, _, rfl, rfl, H⟩
      by_cases h2 : a1 = 2
      · refine ev_sw h2 (tgt := 100) rfl rfl ?_
        replace H := H.2.2.1 h2
        refine ev_ex 5 (c' := (108, [some (.ref 2), some (.int a0), some (.int a1)], [.int (27 + a0), .ref 6], cH c (rF s 4 1))) rfl ?_
        obtain ⟨H0, H⟩ := H
        refine ev_ald (i := .iaload) rfl (Or.inl rfl) rfl H0 (v := .int ((rF s 4 1).2.1 1 (ix (27 + a0)))) rfl ?_
        exact ev_ret rfl rfl rfl ⟨_, _, rfl, rfl, H⟩
      by_cases h3 : a1 = 3
      · refine ev_sw h3 (tgt := 110) rfl rfl ?_
        replace H := H.2.2.2.1 h3
        refine ev_ex 5 (c' := (118, [some (.ref 2), some (.int a0), some (.int a1)], [.int (37 + a0), .ref 6], cH c (rF s 4 1))) rfl ?_
        obtain ⟨H0, H⟩ := H
        refine ev_ald (i := .iaload) rfl (Or.inl rfl) rfl H0 (v := .int ((rF s 4 1).2.1 1 (ix (37 + a0)))) rfl ?_
        exact ev_ret rfl rfl rfl ⟨_, _, rfl, rfl, H⟩
      by_cases h4 : a1 = 4
      · refine ev_sw h4 (tgt := 120) rfl rfl ?_
        replace H := H.2.2.2.2.1 h4
        refine ev_ex 5 (c' := (128, [some (.ref 2), some (.int a0), some (.int a1)], [.int (47 + a0), .ref 6], cH c (rF s 4 1))) rfl ?_
        obtain ⟨H0, H⟩ := H
        refine ev_ald (i := .iaload) rfl (Or.inl rfl) rfl H0 (v := .int ((rF s 4 1).2.1 1 (ix (47 + a0)))) rfl ?_
        exact ev_ret rfl rfl rfl ⟨_, _, rfl, rfl, H⟩
      by_cases h5 : a1 = 5
      · refine ev_sw h5 (tgt := 130) rfl rfl ?_
        replace H := H.2.2.2.2.2.1 h5
        refine ev_ex 5 (c' := (138, [some (.ref 2), some (.int a0), some (.int a1)], [.int (57 + a0), .ref 6], cH c (rF s 4 1))) rfl ?_
        obtain ⟨H0, H⟩ := H
        refine ev_ald (i := .iaload) rfl (Or.inl rfl) rfl H0 (v := .int ((rF s 4 1).2.1 1 (ix (57 + a0)))) rfl ?_
        exact ev_ret rfl rfl rfl ⟨_, _, rfl, rfl, H⟩
      replace H := H.2.2.2.2.2.2 ⟨h0, h1, h2, h3, h4, h5⟩
      refine ev_tswd (tgt := 140) rfl (by have e0 := i32_ne h0 (y := 0) rfl; have e1 := i32_ne h1 (y := 1) rfl; have e2 := i32_ne h2 (y := 2) rfl; have e3 := i32_ne h3 (y := 3) rfl; have e4 := i32_ne h4 (y := 4) rfl; have e5 := i32_ne h5 (y := 5) rfl; omega) rfl ?_
      refine ev_ex 2 (c' := (142, [some (.ref 2), some (.int a0), some (.int a1)], [.int a0, .ref 2], cH c (rF s 4 1))) rfl ?_
      refine rc_I (idx := 290) rfl rfl rfl (Nat.le_of_ble_eq_true rfl) (Nat.le_of_ble_eq_true rfl) rfl H (fun v6 s5 H => ?_)
      exact ev_ret rfl rfl rfl ⟨_, _, rfl, rfl, H⟩
    · replace H := H.2 (h)
      refine ev_ex 1 (c' := (42, [some (.ref 2), some (.int a0), some (.int a1)], [.int 0], cH c (rF s 4 1))) rfl ?_
      exact ev_ret rfl rfl rfl ⟨_, _, rfl, rfl, H⟩
theorem w_R_may {c : CX} {d : Nat} {s : RS} {Q : Bool → RS → Prop} (a0 : Int32) (a1 : Int32) (H : (((wth a0.toInt64 0 (s.2.1 1 1 - 1).toInt64) = false → ((¬ ((rF s 4 1).1 4) = 0 → Q false (rF s 4 1)) ∧ (((rF s 4 1).1 4) = 0 → RB c (d + 1) m_R_mayMock [.ref 2, .int a0, .int a1] (rF s 4 1) (fun v2 s1 => ((v2 = false → Q false s1) ∧ (v2 = true → Q true s1)))))) ∧ ((wth a0.toInt64 0 (s.2.1 1 1 - 1).toInt64) = true → (((wth a1.toInt64 0 (s.2.1 1 1 - 1).toInt64) = true → ((¬ a0 = a1 → ((¬ ((rF s 4 0).1 4) = 0 → Q false (rF s 4 0)) ∧ (((rF s 4 0).1 4) = 0 → RB c (d + 1) m_R_mayMock [.ref 2, .int a0, .int a1] (rF s 4 0) (fun v4 s3 => ((v4 = false → Q false s3) ∧ (v4 = true → Q true s3)))))) ∧ (a0 = a1 → ((¬ ((rF s 4 2).1 4) = 0 → Q false (rF s 4 2)) ∧ (((rF s 4 2).1 4) = 0 → RB c (d + 1) m_R_mayMock [.ref 2, .int a0, .int a1] (rF s 4 2) (fun v6 s5 => ((v6 = false → Q false s5) ∧ (v6 = true → Q true s5)))))))) ∧ ((wth a1.toInt64 0 (s.2.1 1 1 - 1).toInt64) = false → ((¬ ((rF s 4 1).1 4) = 0 → Q false (rF s 4 1)) ∧ (((rF s 4 1).1 4) = 0 → RB c (d + 1) m_R_mayMock [.ref 2, .int a0, .int a1] (rF s 4 1) (fun v8 s7 => ((v8 = false → Q false s7) ∧ (v8 = true → Q true s7)))))))))) : RB c (d + 2) m_R_may [.ref 2, .int a0, .int a1] s Q := by
  refine ⟨q_R_may, rfl, Nat.le_of_ble_eq_true rfl, ?_⟩
  refine ev_ex 0 (c' := (0, [some (.ref 2), some (.int a0), some (.int a1)], [], cH c s)) rfl ?_
  refine ev_ex 4 (c' := (4, [some (.ref 2), some (.int a0), some (.int a1)], [.long a0.toInt64, .ref 2, .ref 2], cH c s)) rfl ?_
  refine rc_B (idx := 314) rfl rfl rfl (Nat.le_of_ble_eq_true rfl) (Nat.le_of_ble_eq_true rfl) rfl (K := fun x s' => x = wth a0.toInt64 0 (s.2.1 1 1 - 1).toInt64 ∧ s' = s) (z_R_isGuild ⟨rfl, rfl⟩) ?_
  rintro _ _ ⟨rfl, rfl⟩
  refine ev_if_eqB (x := (wth a0.toInt64 0 (s.2.1 1 1 - 1).toInt64)) (tgt := 19) rfl rfl (fun h => ?_) (fun h => ?_)
  · replace H := H.1 (h)
    refine ev_ex 5 (c' := (40, [some (.ref 2), some (.int a0), some (.int a1)], [.int ((rF s 4 1).1 4)], cH c (rF s 4 1))) rfl ?_
    refine ev_if_ne (tgt := 56) rfl rfl (fun h => ?_) (fun h => ?_)
    · replace H := H.1 (h)
      refine ev_ex 1 (c' := (57, [some (.ref 2), some (.int a0), some (.int a1)], [.int 0], cH c (rF s 4 1))) rfl ?_
      exact ev_retB (x := false) rfl rfl ⟨_, _, rfl, rfl, H⟩
    · replace H := H.2 (h)
      refine ev_ex 3 (c' := (46, [some (.ref 2), some (.int a0), some (.int a1)], [.int a1, .int a0, .ref 2], cH c (rF s 4 1))) rfl ?_
      refine rc_B (idx := 320) rfl rfl rfl (Nat.le_of_ble_eq_true rfl) (Nat.le_of_ble_eq_true rfl) rfl H (fun v2 s1 H => ?_)
      refine ev_if_eqB (x := v2) (tgt := 56) rfl rfl (fun h => ?_) (fun h => ?_)
      · replace H := H.1 (h)
        refine ev_ex 1 (c' := (57, [some (.ref 2), some (.int a0), some (.int a1)], [.int 0], cH c s1)) rfl ?_
        exact ev_retB (x := false) rfl rfl ⟨_, _, rfl, rfl, H⟩
      · replace H := H.2 (h)
        refine ev_ex 2 (c' := (57, [some (.ref 2), some (.int a0), some (.int a1)], [.int 1], cH c s1)) rfl ?_
        exact ev_retB (x := true) rfl rfl ⟨_, _, rfl, rfl, H⟩
  · replace H := H.2 (h)
    refine ev_ex 3 (c' := (13, [some (.ref 2), some (.int a0), some (.int a1)], [.long a1.toInt64, .ref 2, .ref 2], cH c s)) rfl ?_
    refine rc_B (idx := 314) rfl rfl rfl (Nat.le_of_ble_eq_true rfl) (Nat.le_of_ble_eq_true rfl) rfl (K := fun x s' => x = wth a1.toInt64 0 (s.2.1 1 1 - 1).toInt64 ∧ s' = s) (z_R_isGuild ⟨rfl, rfl⟩) ?_
    rintro _ _ ⟨rfl, rfl⟩
    refine ev_if_neB (x := (wth a1.toInt64 0 (s.2.1 1 1 - 1).toInt64)) (tgt := 23) rfl rfl (fun h => ?_) (fun h => ?_)
    · replace H := H.1 (h)
      refine ev_ex 2 (c' := (25, [some (.ref 2), some (.int a0), some (.int a1)], [.int a1, .int a0, .ref 2], cH c s)) rfl ?_
      refine ev_icmp_ne (tgt := 32) rfl rfl (fun h => ?_) (fun h => ?_)
      · replace H := H.1 (h)
        refine ev_ex 4 (c' := (40, [some (.ref 2), some (.int a0), some (.int a1)], [.int ((rF s 4 0).1 4)], cH c (rF s 4 0))) rfl ?_
        refine ev_if_ne (tgt := 56) rfl rfl (fun h => ?_) (fun h => ?_)
        · replace H := H.1 (h)
          refine ev_ex 1 (c' := (57, [some (.ref 2), some (.int a0), some (.int a1)], [.int 0], cH c (rF s 4 0))) rfl ?_
          exact ev_retB (x := false) rfl rfl ⟨_, _, rfl, rfl, H⟩
        · replace H := H.2 (h)
          refine ev_ex 3 (c' := (46, [some (.ref 2), some (.int a0), some (.int a1)], [.int a1, .int a0, .ref 2], cH c (rF s 4 0))) rfl ?_
          refine rc_B (idx := 320) rfl rfl rfl (Nat.le_of_ble_eq_true rfl) (Nat.le_of_ble_eq_true rfl) rfl H (fun v4 s3 H => ?_)
          refine ev_if_eqB (x := v4) (tgt := 56) rfl rfl (fun h => ?_) (fun h => ?_)
          · replace H := H.1 (h)
            refine ev_ex 1 (c' := (57, [some (.ref 2), some (.int a0), some (.int a1)], [.int 0], cH c s3)) rfl ?_
            exact ev_retB (x := false) rfl rfl ⟨_, _, rfl, rfl, H⟩
          · replace H := H.2 (h)
            refine ev_ex 2 (c' := (57, [some (.ref 2), some (.int a0), some (.int a1)], [.int 1], cH c s3)) rfl ?_
            exact ev_retB (x := true) rfl rfl ⟨_, _, rfl, rfl, H⟩
      · replace H := H.2 (h)
        refine ev_ex 5 (c' := (40, [some (.ref 2), some (.int a0), some (.int a1)], [.int ((rF s 4 2).1 4)], cH c (rF s 4 2))) rfl ?_
        refine ev_if_ne (tgt := 56) rfl rfl (fun h => ?_) (fun h => ?_)
        · replace H := H.1 (h)
          refine ev_ex 1 (c' := (57, [some (.ref 2), some (.int a0), some (.int a1)], [.int 0], cH c (rF s 4 2))) rfl ?_
          exact ev_retB (x := false) rfl rfl ⟨_, _, rfl, rfl, H⟩
        · replace H := H.2 (h)
          refine ev_ex 3 (c' := (46, [some (.ref 2), some (.int a0), some (.int a1)], [.int a1, .int a0, .ref 2], cH c (rF s 4 2))) rfl ?_
          refine rc_B (idx := 320) rfl rfl rfl (Nat.le_of_ble_eq_true rfl) (Nat.le_of_ble_eq_true rfl) rfl H (fun v6 s5 H => ?_)
          refine ev_if_eqB (x := v6) (tgt := 56) rfl rfl (fun h => ?_) (fun h => ?_)
          · replace H := H.1 (h)
            refine ev_ex 1 (c' := (57, [some (.ref 2), some (.int a0), some (.int a1)], [.int 0], cH c s5)) rfl ?_
            exact ev_retB (x := false) rfl rfl ⟨_, _, rfl, rfl, H⟩
          · replace H := H.2 (h)
            refine ev_ex 2 (c' := (57, [some (.ref 2), some (.int a0), some (.int a1)], [.int 1], cH c s5)) rfl ?_
            exact ev_retB (x := true) rfl rfl ⟨_, _, rfl, rfl, H⟩
    · replace H := H.2 (h)
      refine ev_ex 5 (c' := (40, [some (.ref 2), some (.int a0), some (.int a1)], [.int ((rF s 4 1).1 4)], cH c (rF s 4 1))) rfl ?_
      refine ev_if_ne (tgt := 56) rfl rfl (fun h => ?_) (fun h => ?_)
      · replace H := H.1 (h)
        refine ev_ex 1 (c' := (57, [some (.ref 2), some (.int a0), some (.int a1)], [.int 0], cH c (rF s 4 1))) rfl ?_
        exact ev_retB (x := false) rfl rfl ⟨_, _, rfl, rfl, H⟩
      · replace H := H.2 (h)
        refine ev_ex 3 (c' := (46, [some (.ref 2), some (.int a0), some (.int a1)], [.int a1, .int a0, .ref 2], cH c (rF s 4 1))) rfl ?_
        refine rc_B (idx := 320) rfl rfl rfl (Nat.le_of_ble_eq_true rfl) (Nat.le_of_ble_eq_true rfl) rfl H (fun v8 s7 H => ?_)
        refine ev_if_eqB (x := v8) (tgt := 56) rfl rfl (fun h => ?_) (fun h => ?_)
        · replace H := H.1 (h)
          refine ev_ex 1 (c' := (57, [some (.ref 2), some (.int a0), some (.int a1)], [.int 0], cH c s7)) rfl ?_
          exact ev_retB (x := false) rfl rfl ⟨_, _, rfl, rfl, H⟩
        · replace H := H.2 (h)
          refine ev_ex 2 (c' := (57, [some (.ref 2), some (.int a0), some (.int a1)], [.int 1], cH c s7)) rfl ?_
          exact ev_retB (x := true) rfl rfl ⟨_, _, rfl, rfl, H⟩
theorem w_R_tomorrow {c : CX} {d : Nat} {s : RS} {Q : Int32 → RS → Prop} (a0 : Int32) (H : (((wth a0.toInt64 0 ((rF s 4 0).2.1 1 1 - 1).toInt64) = false → Q 0 (rF (rF s 4 0) 4 1)) ∧ ((wth a0.toInt64 0 ((rF s 4 0).2.1 1 1 - 1).toInt64) = true → RI c (d + 1) m_R_then [.ref 2, .int a0] (rF s 4 0) (fun v2 s1 => Q v2 s1)))) : RI c (d + 2) m_R_tomorrow [.ref 2, .int a0] s Q := by
  refine ⟨q_R_tomorrow, rfl, Nat.le_of_ble_eq_true rfl, ?_⟩
  refine ev_ex 0 (c' := (0, [some (.ref 2), some (.int a0)], [], cH c s)) rfl ?_
  refine ev_ex 6 (c' := (8, [some (.ref 2), some (.int a0)], [.long a0.toInt64, .ref 2], cH c (rF s 4 0))) rfl ?_
  refine rc_B (idx := 314) rfl rfl rfl (Nat.le_of_ble_eq_true rfl) (Nat.le_of_ble_eq_true rfl) rfl (K := fun x s' => x = wth a0.toInt64 0 ((rF s 4 0).2.1 1 1 - 1).toInt64 ∧ s' = rF s 4 0) (z_R_isGuild ⟨rfl, rfl⟩) ?_
  rintro _ _ ⟨rfl, rfl⟩
  refine ev_if_eqB (x := (wth a0.toInt64 0 ((rF s 4 0).2.1 1 1 - 1).toInt64)) (tgt := 22) rfl rfl (fun h => ?_) (fun h => ?_)
  · replace H := H.1 (h)
    refine ev_ex 2 (c' := (24, [some (.ref 2), some (.int a0)], [.int 1, .ref 2], cH c (rF s 4 0))) rfl ?_
    refine rc_I (idx := 258) rfl rfl rfl (Nat.le_of_ble_eq_true rfl) (Nat.le_of_ble_eq_true rfl) rfl (K := fun x s' => x = 0 ∧ s' = rF (rF s 4 0) 4 1) (z_R_fails ⟨rfl, rfl⟩) ?_
    rintro _ _ ⟨rfl, rfl⟩
    exact ev_ret rfl rfl rfl ⟨_, _, rfl, rfl, H⟩
  · replace H := H.2 (h)
    refine ev_ex 2 (c' := (16, [some (.ref 2), some (.int a0)], [.int a0, .ref 2], cH c (rF s 4 0))) rfl ?_
    refine rc_I (idx := 311) rfl rfl rfl (Nat.le_of_ble_eq_true rfl) (Nat.le_of_ble_eq_true rfl) rfl H (fun v2 s1 H => ?_)
    refine ev_ex 1 (c' := (27, [some (.ref 2), some (.int a0)], [.int v2], cH c s1)) rfl ?_
    exact ev_ret rfl rfl rfl ⟨_, _, rfl, rfl, H⟩
theorem w_R_step {c : CX} {d : Nat} {s : RS} {Q : Int32 → RS → Prop} (a0 : Int32) (a1 : Int32) (H : RI c d m_R_steps [.ref 2] s (fun v2 s1 => (((wth a0.toInt64 0 ((v2 - 1).toInt64)) = true → (((wth a1.toInt64 0 1) = false → ((((rF s1 4 2).1 4) ≤ 0 → RI c d m_R_whereOf [.ref 2, .int a0, .int a1] (rF s1 4 2) (fun v4 s3 => Q v4 s3)) ∧ (¬ ((rF s1 4 2).1 4) ≤ 0 → Q 0 (rF s1 4 2)))) ∧ ((wth a1.toInt64 0 1) = true → ((((rF s1 4 0).1 4) ≤ 0 → RI c d m_R_whereOf [.ref 2, .int a0, .int a1] (rF s1 4 0) (fun v6 s5 => Q v6 s5)) ∧ (¬ ((rF s1 4 0).1 4) ≤ 0 → Q 0 (rF s1 4 0)))))) ∧ ((wth a0.toInt64 0 ((v2 - 1).toInt64)) = false → ((((rF s1 4 1).1 4) ≤ 0 → RI c d m_R_whereOf [.ref 2, .int a0, .int a1] (rF s1 4 1) (fun v8 s7 => Q v8 s7)) ∧ (¬ ((rF s1 4 1).1 4) ≤ 0 → Q 0 (rF s1 4 1))))))) : RI c (d + 1) m_R_step [.ref 2, .int a0, .int a1] s Q := by
  refine ⟨q_R_step, rfl, Nat.le_of_ble_eq_true rfl, ?_⟩
  refine ev_ex 0 (c' := (0, [some (.ref 2), some (.int a0), some (.int a1)], [], cH c s)) rfl ?_
  refine ev_ex 5 (c' := (5, [some (.ref 2), some (.int a0), some (.int a1)], [.ref 2, .long 0, .long a0.toInt64, .ref 2], cH c s)) rfl ?_
  refine rc_I (idx := 418) rfl rfl rfl (Nat.le_of_ble_eq_true rfl) (Nat.le_of_ble_eq_true rfl) rfl H (fun v2 s1 H => ?_)
  refine ev_ex 3 (c' := (11, [some (.ref 2), some (.int a0), some (.int a1)], [.long ((v2 - 1).toInt64), .long 0, .long a0.toInt64, .ref 2], cH c s1)) rfl ?_
  refine rc_B (idx := 136) rfl rfl rfl (Nat.le_of_ble_eq_true rfl) (Nat.le_of_ble_eq_true rfl) rfl (K := fun x s' => x = wth a0.toInt64 0 ((v2 - 1).toInt64) ∧ s' = s1) (z_R_within ⟨rfl, rfl⟩) ?_
  rintro _ _ ⟨rfl, rfl⟩
  refine ev_if_neB (x := (wth a0.toInt64 0 ((v2 - 1).toInt64))) (tgt := 21) rfl rfl (fun h => ?_) (fun h => ?_)
  · replace H := H.1 (h)
    refine ev_ex 4 (c' := (25, [some (.ref 2), some (.int a0), some (.int a1)], [.long 1, .long 0, .long a1.toInt64, .ref 2], cH c s1)) rfl ?_
    refine rc_B (idx := 136) rfl rfl rfl (Nat.le_of_ble_eq_true rfl) (Nat.le_of_ble_eq_true rfl) rfl (K := fun x s' => x = wth a1.toInt64 0 1 ∧ s' = s1) (z_R_within ⟨rfl, rfl⟩) ?_
    rintro _ _ ⟨rfl, rfl⟩
    refine ev_if_eqB (x := (wth a1.toInt64 0 1)) (tgt := 35) rfl rfl (fun h => ?_) (fun h => ?_)
    · replace H := H.1 (h)
      refine ev_ex 4 (c' := (43, [some (.ref 2), some (.int a0), some (.int a1)], [.int ((rF s1 4 2).1 4)], cH c (rF s1 4 2))) rfl ?_
      refine ev_if_le (tgt := 50) rfl rfl (fun h => ?_) (fun h => ?_)
      · replace H := H.1 (h)
        refine ev_ex 3 (c' := (53, [some (.ref 2), some (.int a0), some (.int a1)], [.int a1, .int a0, .ref 2], cH c (rF s1 4 2))) rfl ?_
        refine rc_I (idx := 421) rfl rfl rfl (Nat.le_of_ble_eq_true rfl) (Nat.le_of_ble_eq_true rfl) rfl H (fun v4 s3 H => ?_)
        exact ev_ret rfl rfl rfl ⟨_, _, rfl, rfl, H⟩
      · replace H := H.2 (h)
        refine ev_ex 2 (c' := (56, [some (.ref 2), some (.int a0), some (.int a1)], [.int 0], cH c (rF s1 4 2))) rfl ?_
        exact ev_ret rfl rfl rfl ⟨_, _, rfl, rfl, H⟩
    · replace H := H.2 (h)
      refine ev_ex 5 (c' := (43, [some (.ref 2), some (.int a0), some (.int a1)], [.int ((rF s1 4 0).1 4)], cH c (rF s1 4 0))) rfl ?_
      refine ev_if_le (tgt := 50) rfl rfl (fun h => ?_) (fun h => ?_)
      · replace H := H.1 (h)
        refine ev_ex 3 (c' := (53, [some (.ref 2), some (.int a0), some (.int a1)], [.int a1, .int a0, .ref 2], cH c (rF s1 4 0))) rfl ?_
        refine rc_I (idx := 421) rfl rfl rfl (Nat.le_of_ble_eq_true rfl) (Nat.le_of_ble_eq_true rfl) rfl H (fun v6 s5 H => ?_)
        exact ev_ret rfl rfl rfl ⟨_, _, rfl, rfl, H⟩
      · replace H := H.2 (h)
        refine ev_ex 2 (c' := (56, [some (.ref 2), some (.int a0), some (.int a1)], [.int 0], cH c (rF s1 4 0))) rfl ?_
        exact ev_ret rfl rfl rfl ⟨_, _, rfl, rfl, H⟩
  · replace H := H.2 (h)
    refine ev_ex 5 (c' := (43, [some (.ref 2), some (.int a0), some (.int a1)], [.int ((rF s1 4 1).1 4)], cH c (rF s1 4 1))) rfl ?_
    refine ev_if_le (tgt := 50) rfl rfl (fun h => ?_) (fun h => ?_)
    · replace H := H.1 (h)
      refine ev_ex 3 (c' := (53, [some (.ref 2), some (.int a0), some (.int a1)], [.int a1, .int a0, .ref 2], cH c (rF s1 4 1))) rfl ?_
      refine rc_I (idx := 421) rfl rfl rfl (Nat.le_of_ble_eq_true rfl) (Nat.le_of_ble_eq_true rfl) rfl H (fun v8 s7 H => ?_)
      exact ev_ret rfl rfl rfl ⟨_, _, rfl, rfl, H⟩
    · replace H := H.2 (h)
      refine ev_ex 2 (c' := (56, [some (.ref 2), some (.int a0), some (.int a1)], [.int 0], cH c (rF s1 4 1))) rfl ?_
      exact ev_ret rfl rfl rfl ⟨_, _, rfl, rfl, H⟩
theorem w_R_mock {c : CX} {d : Nat} {s : RS} {Q : Int32 → RS → Prop} (a0 : Int32) (a1 : Int32) (H : RI c d m_R_whyNot [.ref 2, .long a0.toInt64, .long a1.toInt64] (rF s 4 0) (fun v2 s1 => ((v2 = 0 → RV c d m_R_keeps [.ref 2] s1 (fun s3 => (okx (6 + a0) 2101 ∧ RI c d m_R_mockers [.ref 2, .int a1] (rA s3 1 (ix (6 + a0)) a1) (fun v5 s4 => RI c d m_R_size [.int v5] s4 (fun v7 s6 => Q v7 s6))))) ∧ (¬ v2 = 0 → Q (-v2) s1)))) : RI c (d + 1) m_R_mock [.ref 2, .int a0, .int a1] s Q := by
  refine ⟨q_R_mock, rfl, Nat.le_of_ble_eq_true rfl, ?_⟩
  refine ev_ex 0 (c' := (0, [some (.ref 2), some (.int a0), some (.int a1), none], [], cH c s)) rfl ?_
  refine ev_ex 8 (c' := (10, [some (.ref 2), some (.int a0), some (.int a1), none], [.long a1.toInt64, .long a0.toInt64, .ref 2], cH c (rF s 4 0))) rfl ?_
  refine rc_I (idx := 323) rfl rfl rfl (Nat.le_of_ble_eq_true rfl) (Nat.le_of_ble_eq_true rfl) rfl H (fun v2 s1 H => ?_)
  refine ev_ex 2 (c' := (15, [some (.ref 2), some (.int a0), some (.int a1), some (.int v2)], [.int v2], cH c s1)) rfl ?_
  refine ev_if_eq (tgt := 21) rfl rfl (fun h => ?_) (fun h => ?_)
  · replace H := H.1 (h)
    refine ev_ex 1 (c' := (22, [some (.ref 2), some (.int a0), some (.int a1), some (.int v2)], [.ref 2], cH c s1)) rfl ?_
    refine rc_V (idx := 327) rfl rfl rfl (Nat.le_of_ble_eq_true rfl) (Nat.le_of_ble_eq_true rfl) rfl H (fun s3 H => ?_)
    refine ev_ex 6 (c' := (34, [some (.ref 2), some (.int a0), some (.int a1), some (.int v2)], [.int a1, .int (6 + a0), .ref 6], cH c s3)) rfl ?_
    obtain ⟨H0, H⟩ := H
    refine ev_ast (i := .iastore) rfl (Or.inl rfl) rfl H0 (by decide) rfl rfl (σ' := cH c (rA s3 1 (ix (6 + a0)) a1)) rfl ?_
    refine ev_ex 2 (c' := (37, [some (.ref 2), some (.int a0), some (.int a1), some (.int v2)], [.int a1, .ref 2], cH c (rA s3 1 (ix (6 + a0)) a1))) rfl ?_
    refine rc_I (idx := 290) rfl rfl rfl (Nat.le_of_ble_eq_true rfl) (Nat.le_of_ble_eq_true rfl) rfl H (fun v5 s4 H => ?_)
    refine rc_I (idx := 293) rfl rfl rfl (Nat.le_of_ble_eq_true rfl) (Nat.le_of_ble_eq_true rfl) rfl H (fun v7 s6 H => ?_)
    exact ev_ret rfl rfl rfl ⟨_, _, rfl, rfl, H⟩
  · replace H := H.2 (h)
    refine ev_ex 2 (c' := (20, [some (.ref 2), some (.int a0), some (.int a1), some (.int v2)], [.int (-v2)], cH c s1)) rfl ?_
    exact ev_ret rfl rfl rfl ⟨_, _, rfl, rfl, H⟩
theorem w_R_spare {c : CX} {d : Nat} {s : RS} {Q : Int32 → RS → Prop} (a0 : Int32) (H : (((wth a0.toInt64 0 ((rF s 4 0).2.1 1 1 - 1).toInt64) = true → RV c (d + 1) m_R_keeps [.ref 2] (rF s 4 0) (fun s1 => (okx (6 + a0) 2101 ∧ (okx (6 + a0) 2101 ∧ Q (s1.2.1 1 (ix (6 + a0))) (rA s1 1 (ix (6 + a0)) ((-1))))))) ∧ ((wth a0.toInt64 0 ((rF s 4 0).2.1 1 1 - 1).toInt64) = false → Q 0 (rF (rF s 4 0) 4 1)))) : RI c (d + 2) m_R_spare [.ref 2, .int a0] s Q := by
  refine ⟨q_R_spare, rfl, Nat.le_of_ble_eq_true rfl, ?_⟩
  refine ev_ex 0 (c' := (0, [some (.ref 2), some (.int a0), none], [], cH c s)) rfl ?_
  refine ev_ex 6 (c' := (8, [some (.ref 2), some (.int a0), none], [.long a0.toInt64, .ref 2], cH c (rF s 4 0))) rfl ?_
  refine rc_B (idx := 314) rfl rfl rfl (Nat.le_of_ble_eq_true rfl) (Nat.le_of_ble_eq_true rfl) rfl (K := fun x s' => x = wth a0.toInt64 0 ((rF s 4 0).2.1 1 1 - 1).toInt64 ∧ s' = rF s 4 0) (z_R_isGuild ⟨rfl, rfl⟩) ?_
  rintro _ _ ⟨rfl, rfl⟩
  refine ev_if_neB (x := (wth a0.toInt64 0 ((rF s 4 0).2.1 1 1 - 1).toInt64)) (tgt := 20) rfl rfl (fun h => ?_) (fun h => ?_)
  · replace H := H.1 (h)
    refine ev_ex 1 (c' := (21, [some (.ref 2), some (.int a0), none], [.ref 2], cH c (rF s 4 0))) rfl ?_
    refine rc_V (idx := 327) rfl rfl rfl (Nat.le_of_ble_eq_true rfl) (Nat.le_of_ble_eq_true rfl) rfl H (fun s1 H => ?_)
    refine ev_ex 2 (c' := (26, [some (.ref 2), some (.int a0), none], [.int a0, .ref 2], cH c s1)) rfl ?_
    obtain ⟨H1, H⟩ := H
    refine rc_I (idx := 270) rfl rfl rfl (Nat.le_of_ble_eq_true rfl) (Nat.le_of_ble_eq_true rfl) rfl (K := fun x s' => x = s1.2.1 1 (ix (6 + a0)) ∧ s' = s1) (z_R_mocked H1 ⟨rfl, rfl⟩) ?_
    rintro _ _ ⟨rfl, rfl⟩
    refine ev_ex 7 (c' := (39, [some (.ref 2), some (.int a0), some (.int (s1.2.1 1 (ix (6 + a0))))], [.int ((-1)), .int (6 + a0), .ref 6], cH c s1)) rfl ?_
    obtain ⟨H0, H⟩ := H
    refine ev_ast (i := .iastore) rfl (Or.inl rfl) rfl H0 (by decide) rfl rfl (σ' := cH c (rA s1 1 (ix (6 + a0)) ((-1)))) rfl ?_
    refine ev_ex 1 (c' := (41, [some (.ref 2), some (.int a0), some (.int (s1.2.1 1 (ix (6 + a0))))], [.int (s1.2.1 1 (ix (6 + a0)))], cH c (rA s1 1 (ix (6 + a0)) ((-1))))) rfl ?_
    exact ev_ret rfl rfl rfl ⟨_, _, rfl, rfl, H⟩
  · replace H := H.2 (h)
    refine ev_ex 2 (c' := (16, [some (.ref 2), some (.int a0), none], [.int 1, .ref 2], cH c (rF s 4 0))) rfl ?_
    refine rc_I (idx := 258) rfl rfl rfl (Nat.le_of_ble_eq_true rfl) (Nat.le_of_ble_eq_true rfl) rfl (K := fun x s' => x = 0 ∧ s' = rF (rF s 4 0) 4 1) (z_R_fails ⟨rfl, rfl⟩) ?_
    rintro _ _ ⟨rfl, rfl⟩
    exact ev_ret rfl rfl rfl ⟨_, _, rfl, rfl, H⟩
theorem w_R_rank {c : CX} {d : Nat} {s : RS} {Q : Int32 → RS → Prop} (a0 : Int32) (a1 : Int32) (H : (((wth a0.toInt64 0 (s.2.1 1 1 - 1).toInt64) = true → (((wth a1.toInt64 0 99) = false → ((((rF s 4 2).1 4) ≤ 0 → RV c (d + 1) m_R_keeps [.ref 2] (rF s 4 2) (fun s1 => (okx (16 + a0) 2101 ∧ (okx (16 + a0) 2101 ∧ Q (s1.2.1 1 (ix (16 + a0))) (rA s1 1 (ix (16 + a0)) a1))))) ∧ (¬ ((rF s 4 2).1 4) ≤ 0 → Q 0 (rF s 4 2)))) ∧ ((wth a1.toInt64 0 99) = true → ((((rF s 4 0).1 4) ≤ 0 → RV c (d + 1) m_R_keeps [.ref 2] (rF s 4 0) (fun s2 => (okx (16 + a0) 2101 ∧ (okx (16 + a0) 2101 ∧ Q (s2.2.1 1 (ix (16 + a0))) (rA s2 1 (ix (16 + a0)) a1))))) ∧ (¬ ((rF s 4 0).1 4) ≤ 0 → Q 0 (rF s 4 0)))))) ∧ ((wth a0.toInt64 0 (s.2.1 1 1 - 1).toInt64) = false → ((((rF s 4 1).1 4) ≤ 0 → RV c (d + 1) m_R_keeps [.ref 2] (rF s 4 1) (fun s3 => (okx (16 + a0) 2101 ∧ (okx (16 + a0) 2101 ∧ Q (s3.2.1 1 (ix (16 + a0))) (rA s3 1 (ix (16 + a0)) a1))))) ∧ (¬ ((rF s 4 1).1 4) ≤ 0 → Q 0 (rF s 4 1)))))) : RI c (d + 2) m_R_rank [.ref 2, .int a0, .int a1] s Q := by
  refine ⟨q_R_rank, rfl, Nat.le_of_ble_eq_true rfl, ?_⟩
  refine ev_ex 0 (c' := (0, [some (.ref 2), some (.int a0), some (.int a1), none], [], cH c s)) rfl ?_
  refine ev_ex 4 (c' := (4, [some (.ref 2), some (.int a0), some (.int a1), none], [.long a0.toInt64, .ref 2, .ref 2], cH c s)) rfl ?_
  refine rc_B (idx := 314) rfl rfl rfl (Nat.le_of_ble_eq_true rfl) (Nat.le_of_ble_eq_true rfl) rfl (K := fun x s' => x = wth a0.toInt64 0 (s.2.1 1 1 - 1).toInt64 ∧ s' = s) (z_R_isGuild ⟨rfl, rfl⟩) ?_
  rintro _ _ ⟨rfl, rfl⟩
  refine ev_if_neB (x := (wth a0.toInt64 0 (s.2.1 1 1 - 1).toInt64)) (tgt := 14) rfl rfl (fun h => ?_) (fun h => ?_)
  · replace H := H.1 (h)
    refine ev_ex 4 (c' := (20, [some (.ref 2), some (.int a0), some (.int a1), none], [.long 99, .long 0, .long a1.toInt64, .ref 2], cH c s)) rfl ?_
    refine rc_B (idx := 136) rfl rfl rfl (Nat.le_of_ble_eq_true rfl) (Nat.le_of_ble_eq_true rfl) rfl (K := fun x s' => x = wth a1.toInt64 0 99 ∧ s' = s) (z_R_within ⟨rfl, rfl⟩) ?_
    rintro _ _ ⟨rfl, rfl⟩
    refine ev_if_eqB (x := (wth a1.toInt64 0 99)) (tgt := 30) rfl rfl (fun h => ?_) (fun h => ?_)
    · replace H := H.1 (h)
      refine ev_ex 4 (c' := (38, [some (.ref 2), some (.int a0), some (.int a1), none], [.int ((rF s 4 2).1 4)], cH c (rF s 4 2))) rfl ?_
      refine ev_if_le (tgt := 43) rfl rfl (fun h => ?_) (fun h => ?_)
      · replace H := H.1 (h)
        refine ev_ex 1 (c' := (44, [some (.ref 2), some (.int a0), some (.int a1), none], [.ref 2], cH c (rF s 4 2))) rfl ?_
        refine rc_V (idx := 327) rfl rfl rfl (Nat.le_of_ble_eq_true rfl) (Nat.le_of_ble_eq_true rfl) rfl H (fun s1 H => ?_)
        refine ev_ex 5 (c' := (55, [some (.ref 2), some (.int a0), some (.int a1), none], [.int (16 + a0), .ref 6], cH c s1)) rfl ?_
        obtain ⟨H0, H⟩ := H
        refine ev_ald (i := .iaload) rfl (Or.inl rfl) rfl H0 (v := .int (s1.2.1 1 (ix (16 + a0)))) rfl ?_
        refine ev_ex 7 (c' := (66, [some (.ref 2), some (.int a0), some (.int a1), some (.int (s1.2.1 1 (ix (16 + a0))))], [.int a1, .int (16 + a0), .ref 6], cH c s1)) rfl ?_
        obtain ⟨H0, H⟩ := H
        refine ev_ast (i := .iastore) rfl (Or.inl rfl) rfl H0 (by decide) rfl rfl (σ' := cH c (rA s1 1 (ix (16 + a0)) a1)) rfl ?_
        refine ev_ex 1 (c' := (68, [some (.ref 2), some (.int a0), some (.int a1), some (.int (s1.2.1 1 (ix (16 + a0))))], [.int (s1.2.1 1 (ix (16 + a0)))], cH c (rA s1 1 (ix (16 + a0)) a1))) rfl ?_
        exact ev_ret rfl rfl rfl ⟨_, _, rfl, rfl, H⟩
      · replace H := H.2 (h)
        refine ev_ex 1 (c' := (42, [some (.ref 2), some (.int a0), some (.int a1), none], [.int 0], cH c (rF s 4 2))) rfl ?_
        exact ev_ret rfl rfl rfl ⟨_, _, rfl, rfl, H⟩
    · replace H := H.2 (h)
      refine ev_ex 5 (c' := (38, [some (.ref 2), some (.int a0), some (.int a1), none], [.int ((rF s 4 0).1 4)], cH c (rF s 4 0))) rfl ?_
      refine ev_if_le (tgt := 43) rfl rfl (fun h => ?_) (fun h => ?_)
      · replace H := H.1 (h)
        refine ev_ex 1 (c' := (44, [some (.ref 2), some (.int a0), some (.int a1), none], [.ref 2], cH c (rF s 4 0))) rfl ?_
        refine rc_V (idx := 327) rfl rfl rfl (Nat.le_of_ble_eq_true rfl) (Nat.le_of_ble_eq_true rfl) rfl H (fun s2 H => ?_)
        refine ev_ex 5 (c' := (55, [some (.ref 2), some (.int a0), some (.int a1), none], [.int (16 + a0), .ref 6], cH c s2)) rfl ?_
        obtain ⟨H0, H⟩ := H
        refine ev_ald (i := .iaload) rfl (Or.inl rfl) rfl H0 (v := .int (s2.2.1 1 (ix (16 + a0)))) rfl ?_
        refine ev_ex 7 (c' := (66, [some (.ref 2), some (.int a0), some (.int a1), some (.int (s2.2.1 1 (ix (16 + a0))))], [.int a1, .int (16 + a0), .ref 6], cH c s2)) rfl ?_
        obtain ⟨H0, H⟩ := H
        refine ev_ast (i := .iastore) rfl (Or.inl rfl) rfl H0 (by decide) rfl rfl (σ' := cH c (rA s2 1 (ix (16 + a0)) a1)) rfl ?_
        refine ev_ex 1 (c' := (68, [some (.ref 2), some (.int a0), some (.int a1), some (.int (s2.2.1 1 (ix (16 + a0))))], [.int (s2.2.1 1 (ix (16 + a0)))], cH c (rA s2 1 (ix (16 + a0)) a1))) rfl ?_
        exact ev_ret rfl rfl rfl ⟨_, _, rfl, rfl, H⟩
      · replace H := H.2 (h)
        refine ev_ex 1 (c' := (42, [some (.ref 2), some (.int a0), some (.int a1), none], [.int 0], cH c (rF s 4 0))) rfl ?_
        exact ev_ret rfl rfl rfl ⟨_, _, rfl, rfl, H⟩
  · replace H := H.2 (h)
    refine ev_ex 5 (c' := (38, [some (.ref 2), some (.int a0), some (.int a1), none], [.int ((rF s 4 1).1 4)], cH c (rF s 4 1))) rfl ?_
    refine ev_if_le (tgt := 43) rfl rfl (fun h => ?_) (fun h => ?_)
    · replace H := H.1 (h)
      refine ev_ex 1 (c' := (44, [some (.ref 2), some (.int a0), some (.int a1), none], [.ref 2], cH c (rF s 4 1))) rfl ?_
      refine rc_V (idx := 327) rfl rfl rfl (Nat.le_of_ble_eq_true rfl) (Nat.le_of_ble_eq_true rfl) rfl H (fun s3 H => ?_)
      refine ev_ex 5 (c' := (55, [some (.ref 2), some (.int a0), some (.int a1), none], [.int (16 + a0), .ref 6], cH c s3)) rfl ?_
      obtain ⟨H0, H⟩ := H
      refine ev_ald (i := .iaload) rfl (Or.inl rfl) rfl H0 (v := .int (s3.2.1 1 (ix (16 + a0)))) rfl ?_
      refine ev_ex 7 (c' := (66, [some (.ref 2), some (.int a0), some (.int a1), some (.int (s3.2.1 1 (ix (16 + a0))))], [.int a1, .int (16 + a0), .ref 6], cH c s3)) rfl ?_
      obtain ⟨H0, H⟩ := H
      refine ev_ast (i := .iastore) rfl (Or.inl rfl) rfl H0 (by decide) rfl rfl (σ' := cH c (rA s3 1 (ix (16 + a0)) a1)) rfl ?_
      refine ev_ex 1 (c' := (68, [some (.ref 2), some (.int a0), some (.int a1), some (.int (s3.2.1 1 (ix (16 + a0))))], [.int (s3.2.1 1 (ix (16 + a0)))], cH c (rA s3 1 (ix (16 + a0)) a1))) rfl ?_
      exact ev_ret rfl rfl rfl ⟨_, _, rfl, rfl, H⟩
    · replace H := H.2 (h)
      refine ev_ex 1 (c' := (42, [some (.ref 2), some (.int a0), some (.int a1), none], [.int 0], cH c (rF s 4 1))) rfl ?_
      exact ev_ret rfl rfl rfl ⟨_, _, rfl, rfl, H⟩
theorem w_R_nights {c : CX} {d : Nat} {s : RS} {Q : Int32 → RS → Prop} (a0 : Int32) (H : (((wth a0.toInt64 1 60) = true → RV c d m_R_keeps [.ref 2] (rF s 4 0) (fun s1 => RV c d m_R_putsAside [.ref 2] s1 (fun s2 => eR c (d + 1) m_R_nights 33 [some (.ref 2), some (.int a0), some (.int 0), none] s2 (pI c Q)))) ∧ ((wth a0.toInt64 1 60) = false → Q 0 (rF (rF s 4 0) 4 1)))) : RI c (d + 1) m_R_nights [.ref 2, .int a0] s Q := by
  refine ⟨q_R_nights, rfl, Nat.le_of_ble_eq_true rfl, ?_⟩
  refine ev_ex 0 (c' := (0, [some (.ref 2), some (.int a0), none, none], [], cH c s)) rfl ?_
  refine ev_ex 7 (c' := (11, [some (.ref 2), some (.int a0), none, none], [.long 60, .long 1, .long a0.toInt64], cH c (rF s 4 0))) rfl ?_
  refine rc_B (idx := 136) rfl rfl rfl (Nat.le_of_ble_eq_true rfl) (Nat.le_of_ble_eq_true rfl) rfl (K := fun x s' => x = wth a0.toInt64 1 60 ∧ s' = rF s 4 0) (z_R_within ⟨rfl, rfl⟩) ?_
  rintro _ _ ⟨rfl, rfl⟩
  refine ev_if_neB (x := (wth a0.toInt64 1 60)) (tgt := 23) rfl rfl (fun h => ?_) (fun h => ?_)
  · replace H := H.1 (h)
    refine ev_ex 1 (c' := (24, [some (.ref 2), some (.int a0), none, none], [.ref 2], cH c (rF s 4 0))) rfl ?_
    refine rc_V (idx := 327) rfl rfl rfl (Nat.le_of_ble_eq_true rfl) (Nat.le_of_ble_eq_true rfl) rfl H (fun s1 H => ?_)
    refine ev_ex 1 (c' := (28, [some (.ref 2), some (.int a0), none, none], [.ref 2], cH c s1)) rfl ?_
    refine rc_V (idx := 334) rfl rfl rfl (Nat.le_of_ble_eq_true rfl) (Nat.le_of_ble_eq_true rfl) rfl H (fun s2 H => ?_)
    refine ev_ex 2 (c' := (33, [some (.ref 2), some (.int a0), some (.int 0), none], [], cH c s2)) rfl ?_
    exact H
  · replace H := H.2 (h)
    refine ev_ex 2 (c' := (19, [some (.ref 2), some (.int a0), none, none], [.int 1, .ref 2], cH c (rF s 4 0))) rfl ?_
    refine rc_I (idx := 258) rfl rfl rfl (Nat.le_of_ble_eq_true rfl) (Nat.le_of_ble_eq_true rfl) rfl (K := fun x s' => x = 0 ∧ s' = rF (rF s 4 0) 4 1) (z_R_fails ⟨rfl, rfl⟩) ?_
    rintro _ _ ⟨rfl, rfl⟩
    exact ev_ret rfl rfl rfl ⟨_, _, rfl, rfl, H⟩
theorem w_R_nights_33 {c : CX} {d : Nat} {s : RS} {Q : Int32 → RS → Prop} (l1 : Int32) (l2 : Int32) (H : ((l1 ≤ l2 → eR c (d + 1) m_R_nights 52 [some (.ref 2), some (.int l1), some (.int 0), some (.int 0)] s (pI c Q)) ∧ (¬ l1 ≤ l2 → RV c d m_R_night [.ref 2] s (fun s1 => eR c (d + 1) m_R_nights 33 [some (.ref 2), some (.int l1), some (.int (l2 + 1)), none] s1 (pI c Q))))) : eR c (d + 1) m_R_nights 33 [some (.ref 2), some (.int l1), some (.int l2), none] s (pI c Q) := by
  unfold eR
  refine ev_ex 0 (c' := (33, [some (.ref 2), some (.int l1), some (.int l2), none], [], cH c s)) rfl ?_
  refine ev_ex 2 (c' := (35, [some (.ref 2), some (.int l1), some (.int l2), none], [.int l1, .int l2], cH c s)) rfl ?_
  refine ev_icmp_ge (tgt := 48) rfl rfl (fun h => ?_) (fun h => ?_)
  · replace H := H.1 (h)
    refine ev_ex 4 (c' := (52, [some (.ref 2), some (.int l1), some (.int 0), some (.int 0)], [], cH c s)) rfl ?_
    exact H
  · replace H := H.2 (h)
    refine ev_ex 1 (c' := (39, [some (.ref 2), some (.int l1), some (.int l2), none], [.ref 2], cH c s)) rfl ?_
    refine rc_V (idx := 337) rfl rfl rfl (Nat.le_of_ble_eq_true rfl) (Nat.le_of_ble_eq_true rfl) rfl H (fun s1 H => ?_)
    refine ev_ex 2 (c' := (33, [some (.ref 2), some (.int l1), some (.int (l2 + 1)), none], [], cH c s1)) rfl ?_
    exact H
theorem w_R_nights_52 {c : CX} {d : Nat} {s : RS} {Q : Int32 → RS → Prop} (l1 : Int32) (l2 : Int32) (l3 : Int32) (H : (((s.2.1 1 1) ≤ l3 → Q l2 s) ∧ (¬ (s.2.1 1 1) ≤ l3 → (okx (6 + l3) 2101 ∧ (okx (0 + l3) 21 ∧ ((¬ (s.2.1 1 (ix (6 + l3))) = (s.2.1 8 (ix (0 + l3))) → eR c (d + 1) m_R_nights 52 [some (.ref 2), some (.int l1), some (.int (l2 + 1)), some (.int (l3 + 1))] s (pI c Q)) ∧ ((s.2.1 1 (ix (6 + l3))) = (s.2.1 8 (ix (0 + l3))) → eR c (d + 1) m_R_nights 52 [some (.ref 2), some (.int l1), some (.int (l2 + 0)), some (.int (l3 + 1))] s (pI c Q)))))))) : eR c (d + 1) m_R_nights 52 [some (.ref 2), some (.int l1), some (.int l2), some (.int l3)] s (pI c Q) := by
  unfold eR
  refine ev_ex 0 (c' := (52, [some (.ref 2), some (.int l1), some (.int l2), some (.int l3)], [], cH c s)) rfl ?_
  refine ev_ex 2 (c' := (54, [some (.ref 2), some (.int l1), some (.int l2), some (.int l3)], [.ref 2, .int l3], cH c s)) rfl ?_
  refine rc_I (idx := 267) rfl rfl rfl (Nat.le_of_ble_eq_true rfl) (Nat.le_of_ble_eq_true rfl) rfl (K := fun x s' => x = s.2.1 1 1 ∧ s' = s) (z_R_guilds ⟨rfl, rfl⟩) ?_
  rintro _ _ ⟨rfl, rfl⟩
  refine ev_icmp_ge (tgt := 90) rfl rfl (fun h => ?_) (fun h => ?_)
  · replace H := H.1 (h)
    refine ev_ex 1 (c' := (91, [some (.ref 2), some (.int l1), some (.int l2), some (.int l3)], [.int l2], cH c s)) rfl ?_
    exact ev_ret rfl rfl rfl ⟨_, _, rfl, rfl, H⟩
  · replace H := H.2 (h)
    refine ev_ex 3 (c' := (63, [some (.ref 2), some (.int l1), some (.int l2), some (.int l3)], [.int l3, .ref 2, .int l2], cH c s)) rfl ?_
    obtain ⟨H1, H⟩ := H
    refine rc_I (idx := 270) rfl rfl rfl (Nat.le_of_ble_eq_true rfl) (Nat.le_of_ble_eq_true rfl) rfl (K := fun x s' => x = s.2.1 1 (ix (6 + l3)) ∧ s' = s) (z_R_mocked H1 ⟨rfl, rfl⟩) ?_
    rintro _ _ ⟨rfl, rfl⟩
    refine ev_ex 5 (c' := (73, [some (.ref 2), some (.int l1), some (.int l2), some (.int l3)], [.int (0 + l3), .ref 34, .int (s.2.1 1 (ix (6 + l3))), .int l2], cH c s)) rfl ?_
    obtain ⟨H0, H⟩ := H
    refine ev_ald (i := .iaload) rfl (Or.inl rfl) rfl H0 (v := .int (s.2.1 8 (ix (0 + l3)))) rfl ?_
    refine ev_icmp_ne (tgt := 81) rfl rfl (fun h => ?_) (fun h => ?_)
    · replace H := H.1 (h)
      refine ev_ex 5 (c' := (52, [some (.ref 2), some (.int l1), some (.int (l2 + 1)), some (.int (l3 + 1))], [], cH c s)) rfl ?_
      exact H
    · replace H := H.2 (h)
      refine ev_ex 6 (c' := (52, [some (.ref 2), some (.int l1), some (.int (l2 + 0)), some (.int (l3 + 1))], [], cH c s)) rfl ?_
      exact H
theorem w_R_undo {c : CX} {d : Nat} {s : RS} {Q : Int32 → RS → Prop} (a0 : Int32) (H : (((wth a0.toInt64 1 10) = false → Q 0 (rF (rF s 4 0) 4 1)) ∧ ((wth a0.toInt64 1 10) = true → (okx 5 2101 ∧ ((a0 ≤ ((rF s 4 0).2.1 1 (ix 5)) → (okx 5 2101 ∧ (okx 5 2101 ∧ eR c (d + 1) m_R_undo 45 [some (.ref 2), some (.int a0), some (.int 0)] (rA (rF s 4 0) 1 (ix 5) (((rF s 4 0).2.1 1 (ix 5)) - a0)) (pI c Q)))) ∧ (¬ a0 ≤ ((rF s 4 0).2.1 1 (ix 5)) → Q 0 (rF (rF s 4 0) 4 1))))))) : RI c (d + 1) m_R_undo [.ref 2, .int a0] s Q := by
  refine ⟨q_R_undo, rfl, Nat.le_of_ble_eq_true rfl, ?_⟩
  refine ev_ex 0 (c' := (0, [some (.ref 2), some (.int a0), none], [], cH c s)) rfl ?_
  refine ev_ex 7 (c' := (11, [some (.ref 2), some (.int a0), none], [.long 10, .long 1, .long a0.toInt64], cH c (rF s 4 0))) rfl ?_
  refine rc_B (idx := 136) rfl rfl rfl (Nat.le_of_ble_eq_true rfl) (Nat.le_of_ble_eq_true rfl) rfl (K := fun x s' => x = wth a0.toInt64 1 10 ∧ s' = rF s 4 0) (z_R_within ⟨rfl, rfl⟩) ?_
  rintro _ _ ⟨rfl, rfl⟩
  refine ev_if_eqB (x := (wth a0.toInt64 1 10)) (tgt := 27) rfl rfl (fun h => ?_) (fun h => ?_)
  · replace H := H.1 (h)
    refine ev_ex 2 (c' := (29, [some (.ref 2), some (.int a0), none], [.int 1, .ref 2], cH c (rF s 4 0))) rfl ?_
    refine rc_I (idx := 258) rfl rfl rfl (Nat.le_of_ble_eq_true rfl) (Nat.le_of_ble_eq_true rfl) rfl (K := fun x s' => x = 0 ∧ s' = rF (rF s 4 0) 4 1) (z_R_fails ⟨rfl, rfl⟩) ?_
    rintro _ _ ⟨rfl, rfl⟩
    exact ev_ret rfl rfl rfl ⟨_, _, rfl, rfl, H⟩
  · replace H := H.2 (h)
    refine ev_ex 4 (c' := (23, [some (.ref 2), some (.int a0), none], [.int 5, .ref 6, .int a0], cH c (rF s 4 0))) rfl ?_
    obtain ⟨H0, H⟩ := H
    refine ev_ald (i := .iaload) rfl (Or.inl rfl) rfl H0 (v := .int ((rF s 4 0).2.1 1 (ix 5))) rfl ?_
    refine ev_icmp_le (tgt := 33) rfl rfl (fun h => ?_) (fun h => ?_)
    · replace H := H.1 (h)
      refine ev_ex 4 (c' := (39, [some (.ref 2), some (.int a0), none], [.int 5, .ref 6, .int 5, .ref 6], cH c (rF s 4 0))) rfl ?_
      obtain ⟨H0, H⟩ := H
      refine ev_ald (i := .iaload) rfl (Or.inl rfl) rfl H0 (v := .int ((rF s 4 0).2.1 1 (ix 5))) rfl ?_
      refine ev_ex 2 (c' := (42, [some (.ref 2), some (.int a0), none], [.int (((rF s 4 0).2.1 1 (ix 5)) - a0), .int 5, .ref 6], cH c (rF s 4 0))) rfl ?_
      obtain ⟨H0, H⟩ := H
      refine ev_ast (i := .iastore) rfl (Or.inl rfl) rfl H0 (by decide) rfl rfl (σ' := cH c (rA (rF s 4 0) 1 (ix 5) (((rF s 4 0).2.1 1 (ix 5)) - a0))) rfl ?_
      refine ev_ex 2 (c' := (45, [some (.ref 2), some (.int a0), some (.int 0)], [], cH c (rA (rF s 4 0) 1 (ix 5) (((rF s 4 0).2.1 1 (ix 5)) - a0)))) rfl ?_
      exact H
    · replace H := H.2 (h)
      refine ev_ex 2 (c' := (29, [some (.ref 2), some (.int a0), none], [.int 1, .ref 2], cH c (rF s 4 0))) rfl ?_
      refine rc_I (idx := 258) rfl rfl rfl (Nat.le_of_ble_eq_true rfl) (Nat.le_of_ble_eq_true rfl) rfl (K := fun x s' => x = 0 ∧ s' = rF (rF s 4 0) 4 1) (z_R_fails ⟨rfl, rfl⟩) ?_
      rintro _ _ ⟨rfl, rfl⟩
      exact ev_ret rfl rfl rfl ⟨_, _, rfl, rfl, H⟩
theorem w_R_undo_45 {c : CX} {d : Nat} {s : RS} {Q : Int32 → RS → Prop} (l1 : Int32) (l2 : Int32) (H : ((21 ≤ l2 → (okx 5 2101 ∧ Q (s.2.1 1 (ix 5)) s)) ∧ (¬ 21 ≤ l2 → (okx 5 2101 ∧ (okx ((91 + (21 * (s.2.1 1 (ix 5)))) + l2) 2101 ∧ (okx (6 + l2) 2101 ∧ eR c (d + 1) m_R_undo 45 [some (.ref 2), some (.int l1), some (.int (l2 + 1))] (rA s 1 (ix (6 + l2)) (s.2.1 1 (ix ((91 + (21 * (s.2.1 1 (ix 5)))) + l2)))) (pI c Q))))))) : eR c (d + 1) m_R_undo 45 [some (.ref 2), some (.int l1), some (.int l2)] s (pI c Q) := by
  unfold eR
  refine ev_ex 0 (c' := (45, [some (.ref 2), some (.int l1), some (.int l2)], [], cH c s)) rfl ?_
  refine ev_ex 2 (c' := (48, [some (.ref 2), some (.int l1), some (.int l2)], [.int 21, .int l2], cH c s)) rfl ?_
  refine ev_icmp_ge (tgt := 85) rfl rfl (fun h => ?_) (fun h => ?_)
  · replace H := H.1 (h)
    refine ev_ex 3 (c' := (90, [some (.ref 2), some (.int l1), some (.int l2)], [.int 5, .ref 6], cH c s)) rfl ?_
    obtain ⟨H0, H⟩ := H
    refine ev_ald (i := .iaload) rfl (Or.inl rfl) rfl H0 (v := .int (s.2.1 1 (ix 5))) rfl ?_
    exact ev_ret rfl rfl rfl ⟨_, _, rfl, rfl, H⟩
  · replace H := H.2 (h)
    refine ev_ex 12 (c' := (72, [some (.ref 2), some (.int l1), some (.int l2)], [.int 5, .ref 6, .int 21, .int 91, .ref 6, .int (6 + l2), .ref 6], cH c s)) rfl ?_
    obtain ⟨H0, H⟩ := H
    refine ev_ald (i := .iaload) rfl (Or.inl rfl) rfl H0 (v := .int (s.2.1 1 (ix 5))) rfl ?_
    refine ev_ex 4 (c' := (77, [some (.ref 2), some (.int l1), some (.int l2)], [.int ((91 + (21 * (s.2.1 1 (ix 5)))) + l2), .ref 6, .int (6 + l2), .ref 6], cH c s)) rfl ?_
    obtain ⟨H0, H⟩ := H
    refine ev_ald (i := .iaload) rfl (Or.inl rfl) rfl H0 (v := .int (s.2.1 1 (ix ((91 + (21 * (s.2.1 1 (ix 5)))) + l2)))) rfl ?_
    obtain ⟨H0, H⟩ := H
    refine ev_ast (i := .iastore) rfl (Or.inl rfl) rfl H0 (by decide) rfl rfl (σ' := cH c (rA s 1 (ix (6 + l2)) (s.2.1 1 (ix ((91 + (21 * (s.2.1 1 (ix 5)))) + l2))))) rfl ?_
    refine ev_ex 2 (c' := (45, [some (.ref 2), some (.int l1), some (.int (l2 + 1))], [], cH c (rA s 1 (ix (6 + l2)) (s.2.1 1 (ix ((91 + (21 * (s.2.1 1 (ix 5)))) + l2)))))) rfl ?_
    exact H
theorem w_R_judge {c : CX} {d : Nat} {s : RS} {Q : Int32 → RS → Prop} (a0 : Int32) (a1 : Int32) (H : RI c d m_R_trayFault [.ref 2, .int a0] s (fun v2 s1 => ((¬ ((rF s1 4 v2).1 4) = 0 → ((((rF s1 4 v2).1 4) ≤ 0 → RV c d m_R_putsAside [.ref 2] (rF s1 4 v2) (fun s3 => eR c (d + 1) m_R_judge 54 [some (.ref 2), some (.int a0), some (.int a1), some (.int ((-1))), some (.int 0), some (.int 0), none] s3 (pI c Q))) ∧ (¬ ((rF s1 4 v2).1 4) ≤ 0 → Q 0 (rF s1 4 v2)))) ∧ (((rF s1 4 v2).1 4) = 0 → (((wth a1.toInt64 0 3) = true → ((((rF s1 4 v2).1 4) ≤ 0 → RV c d m_R_putsAside [.ref 2] (rF s1 4 v2) (fun s4 => eR c (d + 1) m_R_judge 54 [some (.ref 2), some (.int a0), some (.int a1), some (.int ((-1))), some (.int 0), some (.int 0), none] s4 (pI c Q))) ∧ (¬ ((rF s1 4 v2).1 4) ≤ 0 → Q 0 (rF s1 4 v2)))) ∧ ((wth a1.toInt64 0 3) = false → ((((rF (rF s1 4 v2) 4 3).1 4) ≤ 0 → RV c d m_R_putsAside [.ref 2] (rF (rF s1 4 v2) 4 3) (fun s5 => eR c (d + 1) m_R_judge 54 [some (.ref 2), some (.int a0), some (.int a1), some (.int ((-1))), some (.int 0), some (.int 0), none] s5 (pI c Q))) ∧ (¬ ((rF (rF s1 4 v2) 4 3).1 4) ≤ 0 → Q 0 (rF (rF s1 4 v2) 4 3))))))))) : RI c (d + 1) m_R_judge [.ref 2, .int a0, .int a1] s Q := by
  refine ⟨q_R_judge, rfl, Nat.le_of_ble_eq_true rfl, ?_⟩
  refine ev_ex 0 (c' := (0, [some (.ref 2), some (.int a0), some (.int a1), none, none, none, none], [], cH c s)) rfl ?_
  refine ev_ex 3 (c' := (3, [some (.ref 2), some (.int a0), some (.int a1), none, none, none, none], [.int a0, .ref 2, .ref 2], cH c s)) rfl ?_
  refine rc_I (idx := 348) rfl rfl rfl (Nat.le_of_ble_eq_true rfl) (Nat.le_of_ble_eq_true rfl) rfl H (fun v2 s1 H => ?_)
  refine ev_ex 3 (c' := (13, [some (.ref 2), some (.int a0), some (.int a1), none, none, none, none], [.int ((rF s1 4 v2).1 4)], cH c (rF s1 4 v2))) rfl ?_
  refine ev_if_ne (tgt := 33) rfl rfl (fun h => ?_) (fun h => ?_)
  · replace H := H.1 (h)
    refine ev_ex 2 (c' := (37, [some (.ref 2), some (.int a0), some (.int a1), none, none, none, none], [.int ((rF s1 4 v2).1 4)], cH c (rF s1 4 v2))) rfl ?_
    refine ev_if_le (tgt := 42) rfl rfl (fun h => ?_) (fun h => ?_)
    · replace H := H.1 (h)
      refine ev_ex 1 (c' := (43, [some (.ref 2), some (.int a0), some (.int a1), none, none, none, none], [.ref 2], cH c (rF s1 4 v2))) rfl ?_
      refine rc_V (idx := 334) rfl rfl rfl (Nat.le_of_ble_eq_true rfl) (Nat.le_of_ble_eq_true rfl) rfl H (fun s3 H => ?_)
      refine ev_ex 6 (c' := (54, [some (.ref 2), some (.int a0), some (.int a1), some (.int ((-1))), some (.int 0), some (.int 0), none], [], cH c s3)) rfl ?_
      exact H
    · replace H := H.2 (h)
      refine ev_ex 1 (c' := (41, [some (.ref 2), some (.int a0), some (.int a1), none, none, none, none], [.int 0], cH c (rF s1 4 v2))) rfl ?_
      exact ev_ret rfl rfl rfl ⟨_, _, rfl, rfl, H⟩
  · replace H := H.2 (h)
    refine ev_ex 4 (c' := (22, [some (.ref 2), some (.int a0), some (.int a1), none, none, none, none], [.long 3, .long 0, .long a1.toInt64], cH c (rF s1 4 v2))) rfl ?_
    refine rc_B (idx := 136) rfl rfl rfl (Nat.le_of_ble_eq_true rfl) (Nat.le_of_ble_eq_true rfl) rfl (K := fun x s' => x = wth a1.toInt64 0 3 ∧ s' = rF s1 4 v2) (z_R_within ⟨rfl, rfl⟩) ?_
    rintro _ _ ⟨rfl, rfl⟩
    refine ev_if_neB (x := (wth a1.toInt64 0 3)) (tgt := 33) rfl rfl (fun h => ?_) (fun h => ?_)
    · replace H := H.1 (h)
      refine ev_ex 2 (c' := (37, [some (.ref 2), some (.int a0), some (.int a1), none, none, none, none], [.int ((rF s1 4 v2).1 4)], cH c (rF s1 4 v2))) rfl ?_
      refine ev_if_le (tgt := 42) rfl rfl (fun h => ?_) (fun h => ?_)
      · replace H := H.1 (h)
        refine ev_ex 1 (c' := (43, [some (.ref 2), some (.int a0), some (.int a1), none, none, none, none], [.ref 2], cH c (rF s1 4 v2))) rfl ?_
        refine rc_V (idx := 334) rfl rfl rfl (Nat.le_of_ble_eq_true rfl) (Nat.le_of_ble_eq_true rfl) rfl H (fun s4 H => ?_)
        refine ev_ex 6 (c' := (54, [some (.ref 2), some (.int a0), some (.int a1), some (.int ((-1))), some (.int 0), some (.int 0), none], [], cH c s4)) rfl ?_
        exact H
      · replace H := H.2 (h)
        refine ev_ex 1 (c' := (41, [some (.ref 2), some (.int a0), some (.int a1), none, none, none, none], [.int 0], cH c (rF s1 4 v2))) rfl ?_
        exact ev_ret rfl rfl rfl ⟨_, _, rfl, rfl, H⟩
    · replace H := H.2 (h)
      refine ev_ex 5 (c' := (37, [some (.ref 2), some (.int a0), some (.int a1), none, none, none, none], [.int ((rF (rF s1 4 v2) 4 3).1 4)], cH c (rF (rF s1 4 v2) 4 3))) rfl ?_
      refine ev_if_le (tgt := 42) rfl rfl (fun h => ?_) (fun h => ?_)
      · replace H := H.1 (h)
        refine ev_ex 1 (c' := (43, [some (.ref 2), some (.int a0), some (.int a1), none, none, none, none], [.ref 2], cH c (rF (rF s1 4 v2) 4 3))) rfl ?_
        refine rc_V (idx := 334) rfl rfl rfl (Nat.le_of_ble_eq_true rfl) (Nat.le_of_ble_eq_true rfl) rfl H (fun s5 H => ?_)
        refine ev_ex 6 (c' := (54, [some (.ref 2), some (.int a0), some (.int a1), some (.int ((-1))), some (.int 0), some (.int 0), none], [], cH c s5)) rfl ?_
        exact H
      · replace H := H.2 (h)
        refine ev_ex 1 (c' := (41, [some (.ref 2), some (.int a0), some (.int a1), none, none, none, none], [.int 0], cH c (rF (rF s1 4 v2) 4 3))) rfl ?_
        exact ev_ret rfl rfl rfl ⟨_, _, rfl, rfl, H⟩
theorem w_R_judge_54 {c : CX} {d : Nat} {s : RS} {Q : Int32 → RS → Prop} (l1 : Int32) (l2 : Int32) (l3 : Int32) (l4 : Int32) (l5 : Int32) (H : (okx l1 4 ∧ (((s.2.1 16 (ix l1)) ≤ l5 → RI c d m_R_mocking [.ref 2] s (fun v2 s1 => RV c d m_R_laysRow [.ref 2] s1 (fun s3 => RV c d m_R_putsBack [.ref 2] s3 (fun s4 => ((¬ l2 = 0 → ((¬ l2 = 1 → ((¬ l2 = 2 → Q (s3.1 27) s4) ∧ (l2 = 2 → Q v2 s4))) ∧ (l2 = 1 → Q l4 s4))) ∧ (l2 = 0 → Q l3 s4)))))) ∧ (¬ (s.2.1 16 (ix l1)) ≤ l5 → ((¬ l3 = ((-1)) → RI c d m_R_mocking [.ref 2] s (fun v6 s5 => RV c d m_R_laysRow [.ref 2] s5 (fun s7 => RV c d m_R_putsBack [.ref 2] s7 (fun s8 => ((¬ l2 = 0 → ((¬ l2 = 1 → ((¬ l2 = 2 → Q (s7.1 27) s8) ∧ (l2 = 2 → Q v6 s8))) ∧ (l2 = 1 → Q l4 s8))) ∧ (l2 = 0 → Q l3 s8)))))) ∧ (l3 = ((-1)) → (okx ((30 * l1) + l5) 120 ∧ RI c d m_R_whyTold [.ref 2, .long (s.2.2 17 (ix ((30 * l1) + l5)))] s (fun v10 s9 => ((¬ v10 = 0 → eR c (d + 1) m_R_judge 54 [some (.ref 2), some (.int l1), some (.int l2), some (.int l5), some (.int v10), some (.int (l5 + 1)), none] s9 (pI c Q)) ∧ (v10 = 0 → (okx ((30 * l1) + l5) 120 ∧ RV c d m_R_does [.ref 2, .int ((s9.2.2 17 (ix ((30 * l1) + l5))).toInt32)] s9 (fun s11 => eR c (d + 1) m_R_judge 54 [some (.ref 2), some (.int l1), some (.int l2), some (.int l3), some (.int v10), some (.int (l5 + 1)), none] s11 (pI c Q))))))))))))) : eR c (d + 1) m_R_judge 54 [some (.ref 2), some (.int l1), some (.int l2), some (.int l3), some (.int l4), some (.int l5), none] s (pI c Q) := by
  unfold eR
  refine ev_ex 0 (c' := (54, [some (.ref 2), some (.int l1), some (.int l2), some (.int l3), some (.int l4), some (.int l5), none], [], cH c s)) rfl ?_
  refine ev_ex 4 (c' := (61, [some (.ref 2), some (.int l1), some (.int l2), some (.int l3), some (.int l4), some (.int l5), none], [.int l1, .ref 66, .int l5], cH c s)) rfl ?_
  obtain ⟨H0, H⟩ := H
  refine ev_ald (i := .iaload) rfl (Or.inl rfl) rfl H0 (v := .int (s.2.1 16 (ix l1))) rfl ?_
  refine ev_icmp_ge (tgt := 122) rfl rfl (fun h => ?_) (fun h => ?_)
  · replace H := H.1 (h)
    refine ev_ex 1 (c' := (123, [some (.ref 2), some (.int l1), some (.int l2), some (.int l3), some (.int l4), some (.int l5), none], [.ref 2], cH c s)) rfl ?_
    refine rc_I (idx := 359) rfl rfl rfl (Nat.le_of_ble_eq_true rfl) (Nat.le_of_ble_eq_true rfl) rfl H (fun v2 s1 H => ?_)
    refine ev_ex 2 (c' := (129, [some (.ref 2), some (.int l1), some (.int l2), some (.int l3), some (.int l4), some (.int v2), none], [.ref 2], cH c s1)) rfl ?_
    refine rc_V (idx := 362) rfl rfl rfl (Nat.le_of_ble_eq_true rfl) (Nat.le_of_ble_eq_true rfl) rfl H (fun s3 H => ?_)
    refine ev_ex 4 (c' := (139, [some (.ref 2), some (.int l1), some (.int l2), some (.int l3), some (.int l4), some (.int v2), some (.int (s3.1 27))], [.ref 2], cH c s3)) rfl ?_
    refine rc_V (idx := 368) rfl rfl rfl (Nat.le_of_ble_eq_true rfl) (Nat.le_of_ble_eq_true rfl) rfl H (fun s4 H => ?_)
    refine ev_ex 1 (c' := (143, [some (.ref 2), some (.int l1), some (.int l2), some (.int l3), some (.int l4), some (.int v2), some (.int (s3.1 27))], [.int l2], cH c s4)) rfl ?_
    refine ev_if_ne (tgt := 150) rfl rfl (fun h => ?_) (fun h => ?_)
    · replace H := H.1 (h)
      refine ev_ex 2 (c' := (152, [some (.ref 2), some (.int l1), some (.int l2), some (.int l3), some (.int l4), some (.int v2), some (.int (s3.1 27))], [.int 1, .int l2], cH c s4)) rfl ?_
      refine ev_icmp_ne (tgt := 160) rfl rfl (fun h => ?_) (fun h => ?_)
      · replace H := H.1 (h)
        refine ev_ex 2 (c' := (162, [some (.ref 2), some (.int l1), some (.int l2), some (.int l3), some (.int l4), some (.int v2), some (.int (s3.1 27))], [.int 2, .int l2], cH c s4)) rfl ?_
        refine ev_icmp_ne (tgt := 170) rfl rfl (fun h => ?_) (fun h => ?_)
        · replace H := H.1 (h)
          refine ev_ex 1 (c' := (172, [some (.ref 2), some (.int l1), some (.int l2), some (.int l3), some (.int l4), some (.int v2), some (.int (s3.1 27))], [.int (s3.1 27)], cH c s4)) rfl ?_
          exact ev_ret rfl rfl rfl ⟨_, _, rfl, rfl, H⟩
        · replace H := H.2 (h)
          refine ev_ex 2 (c' := (172, [some (.ref 2), some (.int l1), some (.int l2), some (.int l3), some (.int l4), some (.int v2), some (.int (s3.1 27))], [.int v2], cH c s4)) rfl ?_
          exact ev_ret rfl rfl rfl ⟨_, _, rfl, rfl, H⟩
      · replace H := H.2 (h)
        refine ev_ex 2 (c' := (172, [some (.ref 2), some (.int l1), some (.int l2), some (.int l3), some (.int l4), some (.int v2), some (.int (s3.1 27))], [.int l4], cH c s4)) rfl ?_
        exact ev_ret rfl rfl rfl ⟨_, _, rfl, rfl, H⟩
    · replace H := H.2 (h)
      refine ev_ex 2 (c' := (172, [some (.ref 2), some (.int l1), some (.int l2), some (.int l3), some (.int l4), some (.int v2), some (.int (s3.1 27))], [.int l3], cH c s4)) rfl ?_
      exact ev_ret rfl rfl rfl ⟨_, _, rfl, rfl, H⟩
  · replace H := H.2 (h)
    refine ev_ex 2 (c' := (67, [some (.ref 2), some (.int l1), some (.int l2), some (.int l3), some (.int l4), some (.int l5), none], [.int ((-1)), .int l3], cH c s)) rfl ?_
    refine ev_icmp_ne (tgt := 122) rfl rfl (fun h => ?_) (fun h => ?_)
    · replace H := H.1 (h)
      refine ev_ex 1 (c' := (123, [some (.ref 2), some (.int l1), some (.int l2), some (.int l3), some (.int l4), some (.int l5), none], [.ref 2], cH c s)) rfl ?_
      refine rc_I (idx := 359) rfl rfl rfl (Nat.le_of_ble_eq_true rfl) (Nat.le_of_ble_eq_true rfl) rfl H (fun v6 s5 H => ?_)
      refine ev_ex 2 (c' := (129, [some (.ref 2), some (.int l1), some (.int l2), some (.int l3), some (.int l4), some (.int v6), none], [.ref 2], cH c s5)) rfl ?_
      refine rc_V (idx := 362) rfl rfl rfl (Nat.le_of_ble_eq_true rfl) (Nat.le_of_ble_eq_true rfl) rfl H (fun s7 H => ?_)
      refine ev_ex 4 (c' := (139, [some (.ref 2), some (.int l1), some (.int l2), some (.int l3), some (.int l4), some (.int v6), some (.int (s7.1 27))], [.ref 2], cH c s7)) rfl ?_
      refine rc_V (idx := 368) rfl rfl rfl (Nat.le_of_ble_eq_true rfl) (Nat.le_of_ble_eq_true rfl) rfl H (fun s8 H => ?_)
      refine ev_ex 1 (c' := (143, [some (.ref 2), some (.int l1), some (.int l2), some (.int l3), some (.int l4), some (.int v6), some (.int (s7.1 27))], [.int l2], cH c s8)) rfl ?_
      refine ev_if_ne (tgt := 150) rfl rfl (fun h => ?_) (fun h => ?_)
      · replace H := H.1 (h)
        refine ev_ex 2 (c' := (152, [some (.ref 2), some (.int l1), some (.int l2), some (.int l3), some (.int l4), some (.int v6), some (.int (s7.1 27))], [.int 1, .int l2], cH c s8)) rfl ?_
        refine ev_icmp_ne (tgt := 160) rfl rfl (fun h => ?_) (fun h => ?_)
        · replace H := H.1 (h)
          refine ev_ex 2 (c' := (162, [some (.ref 2), some (.int l1), some (.int l2), some (.int l3), some (.int l4), some (.int v6), some (.int (s7.1 27))], [.int 2, .int l2], cH c s8)) rfl ?_
          refine ev_icmp_ne (tgt := 170) rfl rfl (fun h => ?_) (fun h => ?_)
          · replace H := H.1 (h)
            refine ev_ex 1 (c' := (172, [some (.ref 2), some (.int l1), some (.int l2), some (.int l3), some (.int l4), some (.int v6), some (.int (s7.1 27))], [.int (s7.1 27)], cH c s8)) rfl ?_
            exact ev_ret rfl rfl rfl ⟨_, _, rfl, rfl, H⟩
          · replace H := H.2 (h)
            refine ev_ex 2 (c' := (172, [some (.ref 2), some (.int l1), some (.int l2), some (.int l3), some (.int l4), some (.int v6), some (.int (s7.1 27))], [.int v6], cH c s8)) rfl ?_
            exact ev_ret rfl rfl rfl ⟨_, _, rfl, rfl, H⟩
        · replace H := H.2 (h)
          refine ev_ex 2 (c' := (172, [some (.ref 2), some (.int l1), some (.int l2), some (.int l3), some (.int l4), some (.int v6), some (.int (s7.1 27))], [.int l4], cH c s8)) rfl ?_
          exact ev_ret rfl rfl rfl ⟨_, _, rfl, rfl, H⟩
      · replace H := H.2 (h)
        refine ev_ex 2 (c' := (172, [some (.ref 2), some (.int l1), some (.int l2), some (.int l3), some (.int l4), some (.int v6), some (.int (s7.1 27))], [.int l3], cH c s8)) rfl ?_
        exact ev_ret rfl rfl rfl ⟨_, _, rfl, rfl, H⟩
    · replace H := H.2 (h)
      refine ev_ex 8 (c' := (82, [some (.ref 2), some (.int l1), some (.int l2), some (.int l3), some (.int l4), some (.int l5), none], [.int ((30 * l1) + l5), .ref 70, .ref 2], cH c s)) rfl ?_
      obtain ⟨H0, H⟩ := H
      refine ev_ald (i := .laload) rfl (Or.inr (Or.inr (Or.inl rfl))) rfl H0 (v := .long (s.2.2 17 (ix ((30 * l1) + l5)))) rfl ?_
      refine rc_I (idx := 353) rfl rfl rfl (Nat.le_of_ble_eq_true rfl) (Nat.le_of_ble_eq_true rfl) rfl H (fun v10 s9 H => ?_)
      refine ev_ex 2 (c' := (90, [some (.ref 2), some (.int l1), some (.int l2), some (.int l3), some (.int v10), some (.int l5), none], [.int v10], cH c s9)) rfl ?_
      refine ev_if_ne (tgt := 113) rfl rfl (fun h => ?_) (fun h => ?_)
      · replace H := H.1 (h)
        refine ev_ex 4 (c' := (54, [some (.ref 2), some (.int l1), some (.int l2), some (.int l5), some (.int v10), some (.int (l5 + 1)), none], [], cH c s9)) rfl ?_
        exact H
      · replace H := H.2 (h)
        refine ev_ex 8 (c' := (105, [some (.ref 2), some (.int l1), some (.int l2), some (.int l3), some (.int v10), some (.int l5), none], [.int ((30 * l1) + l5), .ref 70, .ref 2], cH c s9)) rfl ?_
        obtain ⟨H0, H⟩ := H
        refine ev_ald (i := .laload) rfl (Or.inr (Or.inr (Or.inl rfl))) rfl H0 (v := .long (s9.2.2 17 (ix ((30 * l1) + l5)))) rfl ?_
        refine ev_ex 1 (c' := (107, [some (.ref 2), some (.int l1), some (.int l2), some (.int l3), some (.int v10), some (.int l5), none], [.int ((s9.2.2 17 (ix ((30 * l1) + l5))).toInt32), .ref 2], cH c s9)) rfl ?_
        refine rc_V (idx := 356) rfl rfl rfl (Nat.le_of_ble_eq_true rfl) (Nat.le_of_ble_eq_true rfl) rfl H (fun s11 H => ?_)
        refine ev_ex 3 (c' := (54, [some (.ref 2), some (.int l1), some (.int l2), some (.int l3), some (.int v10), some (.int (l5 + 1)), none], [], cH c s11)) rfl ?_
        exact H
theorem w_R_perform {c : CX} {d : Nat} {s : RS} {Q : Int32 → RS → Prop} (a0 : Int32) (H : RI c d m_R_trayFault [.ref 2, .int a0] s (fun v2 s1 => ((((rF s1 4 v2).1 4) ≤ 0 → eR c (d + 1) m_R_perform 20 [some (.ref 2), some (.int a0), some (.int 0)] (rF s1 4 v2) (pI c Q)) ∧ (¬ ((rF s1 4 v2).1 4) ≤ 0 → Q 0 (rF s1 4 v2))))) : RI c (d + 1) m_R_perform [.ref 2, .int a0] s Q := by
  refine ⟨q_R_perform, rfl, Nat.le_of_ble_eq_true rfl, ?_⟩
  refine ev_ex 0 (c' := (0, [some (.ref 2), some (.int a0), none], [], cH c s)) rfl ?_
  refine ev_ex 3 (c' := (3, [some (.ref 2), some (.int a0), none], [.int a0, .ref 2, .ref 2], cH c s)) rfl ?_
  refine rc_I (idx := 348) rfl rfl rfl (Nat.le_of_ble_eq_true rfl) (Nat.le_of_ble_eq_true rfl) rfl H (fun v2 s1 H => ?_)
  refine ev_ex 3 (c' := (13, [some (.ref 2), some (.int a0), none], [.int ((rF s1 4 v2).1 4)], cH c (rF s1 4 v2))) rfl ?_
  refine ev_if_le (tgt := 18) rfl rfl (fun h => ?_) (fun h => ?_)
  · replace H := H.1 (h)
    refine ev_ex 2 (c' := (20, [some (.ref 2), some (.int a0), some (.int 0)], [], cH c (rF s1 4 v2))) rfl ?_
    exact H
  · replace H := H.2 (h)
    refine ev_ex 1 (c' := (17, [some (.ref 2), some (.int a0), none], [.int 0], cH c (rF s1 4 v2))) rfl ?_
    exact ev_ret rfl rfl rfl ⟨_, _, rfl, rfl, H⟩
theorem w_R_perform_20 {c : CX} {d : Nat} {s : RS} {Q : Int32 → RS → Prop} (l1 : Int32) (l2 : Int32) (H : (okx l1 4 ∧ (((s.2.1 16 (ix l1)) ≤ l2 → Q l2 s) ∧ (¬ (s.2.1 16 (ix l1)) ≤ l2 → (okx ((30 * l1) + l2) 120 ∧ RI c d m_R_whyTold [.ref 2, .long (s.2.2 17 (ix ((30 * l1) + l2)))] s (fun v2 s1 => ((¬ v2 = 0 → Q l2 s1) ∧ (v2 = 0 → RV c d m_R_keeps [.ref 2] s1 (fun s3 => (okx ((30 * l1) + l2) 120 ∧ RV c d m_R_does [.ref 2, .int ((s3.2.2 17 (ix ((30 * l1) + l2))).toInt32)] s3 (fun s4 => eR c (d + 1) m_R_perform 20 [some (.ref 2), some (.int l1), some (.int (l2 + 1))] s4 (pI c Q)))))))))))) : eR c (d + 1) m_R_perform 20 [some (.ref 2), some (.int l1), some (.int l2)] s (pI c Q) := by
  unfold eR
  refine ev_ex 0 (c' := (20, [some (.ref 2), some (.int l1), some (.int l2)], [], cH c s)) rfl ?_
  refine ev_ex 4 (c' := (26, [some (.ref 2), some (.int l1), some (.int l2)], [.int l1, .ref 66, .int l2], cH c s)) rfl ?_
  obtain ⟨H0, H⟩ := H
  refine ev_ald (i := .iaload) rfl (Or.inl rfl) rfl H0 (v := .int (s.2.1 16 (ix l1))) rfl ?_
  refine ev_icmp_ge (tgt := 74) rfl rfl (fun h => ?_) (fun h => ?_)
  · replace H := H.1 (h)
    refine ev_ex 1 (c' := (75, [some (.ref 2), some (.int l1), some (.int l2)], [.int l2], cH c s)) rfl ?_
    exact ev_ret rfl rfl rfl ⟨_, _, rfl, rfl, H⟩
  · replace H := H.2 (h)
    refine ev_ex 8 (c' := (41, [some (.ref 2), some (.int l1), some (.int l2)], [.int ((30 * l1) + l2), .ref 70, .ref 2], cH c s)) rfl ?_
    obtain ⟨H0, H⟩ := H
    refine ev_ald (i := .laload) rfl (Or.inr (Or.inr (Or.inl rfl))) rfl H0 (v := .long (s.2.2 17 (ix ((30 * l1) + l2)))) rfl ?_
    refine rc_I (idx := 353) rfl rfl rfl (Nat.le_of_ble_eq_true rfl) (Nat.le_of_ble_eq_true rfl) rfl H (fun v2 s1 H => ?_)
    refine ev_if_ne (tgt := 74) rfl rfl (fun h => ?_) (fun h => ?_)
    · replace H := H.1 (h)
      refine ev_ex 1 (c' := (75, [some (.ref 2), some (.int l1), some (.int l2)], [.int l2], cH c s1)) rfl ?_
      exact ev_ret rfl rfl rfl ⟨_, _, rfl, rfl, H⟩
    · replace H := H.2 (h)
      refine ev_ex 1 (c' := (49, [some (.ref 2), some (.int l1), some (.int l2)], [.ref 2], cH c s1)) rfl ?_
      refine rc_V (idx := 327) rfl rfl rfl (Nat.le_of_ble_eq_true rfl) (Nat.le_of_ble_eq_true rfl) rfl H (fun s3 H => ?_)
      refine ev_ex 8 (c' := (63, [some (.ref 2), some (.int l1), some (.int l2)], [.int ((30 * l1) + l2), .ref 70, .ref 2], cH c s3)) rfl ?_
      obtain ⟨H0, H⟩ := H
      refine ev_ald (i := .laload) rfl (Or.inr (Or.inr (Or.inl rfl))) rfl H0 (v := .long (s3.2.2 17 (ix ((30 * l1) + l2)))) rfl ?_
      refine ev_ex 1 (c' := (65, [some (.ref 2), some (.int l1), some (.int l2)], [.int ((s3.2.2 17 (ix ((30 * l1) + l2))).toInt32), .ref 2], cH c s3)) rfl ?_
      refine rc_V (idx := 356) rfl rfl rfl (Nat.le_of_ble_eq_true rfl) (Nat.le_of_ble_eq_true rfl) rfl H (fun s4 H => ?_)
      refine ev_ex 2 (c' := (20, [some (.ref 2), some (.int l1), some (.int (l2 + 1))], [], cH c s4)) rfl ?_
      exact H
theorem w_R_week {c : CX} {d : Nat} {s : RS} {Q : Int32 → RS → Prop} (a0 : Int32) (a1 : Int32) (H : (((wth a1.toInt64 1 30) = true → ((¬ (s.2.1 1 1) = 0 → ((((rF s 4 0).1 4) ≤ 0 → eR c (d + 1) m_R_week 51 [some (.ref 2), some (.int a0), some (.int a1), some (.int 0), some (.int 0), none, none] (rF (rF s 4 0) 22 a0) (pI c Q)) ∧ (¬ ((rF s 4 0).1 4) ≤ 0 → Q 0 (rF s 4 0)))) ∧ ((s.2.1 1 1) = 0 → ((((rF s 4 2).1 4) ≤ 0 → eR c (d + 1) m_R_week 51 [some (.ref 2), some (.int a0), some (.int a1), some (.int 0), some (.int 0), none, none] (rF (rF s 4 2) 22 a0) (pI c Q)) ∧ (¬ ((rF s 4 2).1 4) ≤ 0 → Q 0 (rF s 4 2)))))) ∧ ((wth a1.toInt64 1 30) = false → ((((rF s 4 1).1 4) ≤ 0 → eR c (d + 1) m_R_week 51 [some (.ref 2), some (.int a0), some (.int a1), some (.int 0), some (.int 0), none, none] (rF (rF s 4 1) 22 a0) (pI c Q)) ∧ (¬ ((rF s 4 1).1 4) ≤ 0 → Q 0 (rF s 4 1)))))) : RI c (d + 1) m_R_week [.ref 2, .int a0, .int a1] s Q := by
  refine ⟨q_R_week, rfl, Nat.le_of_ble_eq_true rfl, ?_⟩
  refine ev_ex 0 (c' := (0, [some (.ref 2), some (.int a0), some (.int a1), none, none, none, none], [], cH c s)) rfl ?_
  refine ev_ex 5 (c' := (7, [some (.ref 2), some (.int a0), some (.int a1), none, none, none, none], [.long 30, .long 1, .long a1.toInt64, .ref 2], cH c s)) rfl ?_
  refine rc_B (idx := 136) rfl rfl rfl (Nat.le_of_ble_eq_true rfl) (Nat.le_of_ble_eq_true rfl) rfl (K := fun x s' => x = wth a1.toInt64 1 30 ∧ s' = s) (z_R_within ⟨rfl, rfl⟩) ?_
  rintro _ _ ⟨rfl, rfl⟩
  refine ev_if_neB (x := (wth a1.toInt64 1 30)) (tgt := 17) rfl rfl (fun h => ?_) (fun h => ?_)
  · replace H := H.1 (h)
    refine ev_ex 1 (c' := (18, [some (.ref 2), some (.int a0), some (.int a1), none, none, none, none], [.ref 2, .ref 2], cH c s)) rfl ?_
    refine rc_I (idx := 267) rfl rfl rfl (Nat.le_of_ble_eq_true rfl) (Nat.le_of_ble_eq_true rfl) rfl (K := fun x s' => x = s.2.1 1 1 ∧ s' = s) (z_R_guilds ⟨rfl, rfl⟩) ?_
    rintro _ _ ⟨rfl, rfl⟩
    refine ev_if_ne (tgt := 28) rfl rfl (fun h => ?_) (fun h => ?_)
    · replace H := H.1 (h)
      refine ev_ex 4 (c' := (36, [some (.ref 2), some (.int a0), some (.int a1), none, none, none, none], [.int ((rF s 4 0).1 4)], cH c (rF s 4 0))) rfl ?_
      refine ev_if_le (tgt := 41) rfl rfl (fun h => ?_) (fun h => ?_)
      · replace H := H.1 (h)
        refine ev_ex 7 (c' := (51, [some (.ref 2), some (.int a0), some (.int a1), some (.int 0), some (.int 0), none, none], [], cH c (rF (rF s 4 0) 22 a0))) rfl ?_
        exact H
      · replace H := H.2 (h)
        refine ev_ex 1 (c' := (40, [some (.ref 2), some (.int a0), some (.int a1), none, none, none, none], [.int 0], cH c (rF s 4 0))) rfl ?_
        exact ev_ret rfl rfl rfl ⟨_, _, rfl, rfl, H⟩
    · replace H := H.2 (h)
      refine ev_ex 5 (c' := (36, [some (.ref 2), some (.int a0), some (.int a1), none, none, none, none], [.int ((rF s 4 2).1 4)], cH c (rF s 4 2))) rfl ?_
      refine ev_if_le (tgt := 41) rfl rfl (fun h => ?_) (fun h => ?_)
      · replace H := H.1 (h)
        refine ev_ex 7 (c' := (51, [some (.ref 2), some (.int a0), some (.int a1), some (.int 0), some (.int 0), none, none], [], cH c (rF (rF s 4 2) 22 a0))) rfl ?_
        exact H
      · replace H := H.2 (h)
        refine ev_ex 1 (c' := (40, [some (.ref 2), some (.int a0), some (.int a1), none, none, none, none], [.int 0], cH c (rF s 4 2))) rfl ?_
        exact ev_ret rfl rfl rfl ⟨_, _, rfl, rfl, H⟩
  · replace H := H.2 (h)
    refine ev_ex 5 (c' := (36, [some (.ref 2), some (.int a0), some (.int a1), none, none, none, none], [.int ((rF s 4 1).1 4)], cH c (rF s 4 1))) rfl ?_
    refine ev_if_le (tgt := 41) rfl rfl (fun h => ?_) (fun h => ?_)
    · replace H := H.1 (h)
      refine ev_ex 7 (c' := (51, [some (.ref 2), some (.int a0), some (.int a1), some (.int 0), some (.int 0), none, none], [], cH c (rF (rF s 4 1) 22 a0))) rfl ?_
      exact H
    · replace H := H.2 (h)
      refine ev_ex 1 (c' := (40, [some (.ref 2), some (.int a0), some (.int a1), none, none, none, none], [.int 0], cH c (rF s 4 1))) rfl ?_
      exact ev_ret rfl rfl rfl ⟨_, _, rfl, rfl, H⟩
theorem w_R_week_51 {c : CX} {d : Nat} {s : RS} {Q : Int32 → RS → Prop} (l1 : Int32) (l2 : Int32) (l3 : Int32) (l4 : Int32) (H : ((l2 ≤ l4 → Q l3 s) ∧ (¬ l2 ≤ l4 → RI c d m_R_draw [.ref 2, .int 3] s (fun v2 s1 => ((v2 ≤ 0 → ((¬ v2 = 1 → ((¬ v2 = 2 → RI c d m_R_whyTold [.ref 2, .long (((-1)).toInt64)] s1 (fun v4 s3 => ((v4 = 0 → RV c d m_R_keeps [.ref 2] s3 (fun s5 => RV c d m_R_does [.ref 2, .int ((-1))] s5 (fun s6 => eR c (d + 1) m_R_week 51 [some (.ref 2), some (.int l1), some (.int l2), some (.int (l3 + 1)), some (.int (l4 + 1)), none, none] s6 (pI c Q)))) ∧ (¬ v4 = 0 → eR c (d + 1) m_R_week 51 [some (.ref 2), some (.int l1), some (.int l2), some (.int l3), some (.int (l4 + 1)), none, none] s3 (pI c Q))))) ∧ (v2 = 2 → RI c d m_R_whyTold [.ref 2, .long ((((-1)) + 99).toInt64)] s1 (fun v8 s7 => ((v8 = 0 → RV c d m_R_keeps [.ref 2] s7 (fun s9 => RV c d m_R_does [.ref 2, .int (((-1)) + 99)] s9 (fun s10 => eR c (d + 1) m_R_week 51 [some (.ref 2), some (.int l1), some (.int l2), some (.int (l3 + 1)), some (.int (l4 + 1)), none, none] s10 (pI c Q)))) ∧ (¬ v8 = 0 → eR c (d + 1) m_R_week 51 [some (.ref 2), some (.int l1), some (.int l2), some (.int l3), some (.int (l4 + 1)), none, none] s7 (pI c Q))))))) ∧ (v2 = 1 → RI c d m_R_draw [.ref 2, .int (s1.2.1 1 1)] s1 (fun v12 s11 => ((¬ v2 = 2 → RI c d m_R_whyTold [.ref 2, .long ((((-1)) + v12).toInt64)] s11 (fun v14 s13 => ((v14 = 0 → RV c d m_R_keeps [.ref 2] s13 (fun s15 => RV c d m_R_does [.ref 2, .int (((-1)) + v12)] s15 (fun s16 => eR c (d + 1) m_R_week 51 [some (.ref 2), some (.int l1), some (.int l2), some (.int (l3 + 1)), some (.int (l4 + 1)), none, none] s16 (pI c Q)))) ∧ (¬ v14 = 0 → eR c (d + 1) m_R_week 51 [some (.ref 2), some (.int l1), some (.int l2), some (.int l3), some (.int (l4 + 1)), none, none] s13 (pI c Q))))) ∧ (v2 = 2 → RI c d m_R_whyTold [.ref 2, .long (((((-1)) + v12) + 99).toInt64)] s11 (fun v18 s17 => ((v18 = 0 → RV c d m_R_keeps [.ref 2] s17 (fun s19 => RV c d m_R_does [.ref 2, .int ((((-1)) + v12) + 99)] s19 (fun s20 => eR c (d + 1) m_R_week 51 [some (.ref 2), some (.int l1), some (.int l2), some (.int (l3 + 1)), some (.int (l4 + 1)), none, none] s20 (pI c Q)))) ∧ (¬ v18 = 0 → eR c (d + 1) m_R_week 51 [some (.ref 2), some (.int l1), some (.int l2), some (.int l3), some (.int (l4 + 1)), none, none] s17 (pI c Q)))))))))) ∧ (¬ v2 ≤ 0 → RI c d m_R_draw [.ref 2, .int (s1.2.1 1 1)] s1 (fun v22 s21 => ((¬ v2 = 1 → ((¬ v2 = 2 → RI c d m_R_whyTold [.ref 2, .long ((100 * v22).toInt64)] s21 (fun v24 s23 => ((v24 = 0 → RV c d m_R_keeps [.ref 2] s23 (fun s25 => RV c d m_R_does [.ref 2, .int (100 * v22)] s25 (fun s26 => eR c (d + 1) m_R_week 51 [some (.ref 2), some (.int l1), some (.int l2), some (.int (l3 + 1)), some (.int (l4 + 1)), none, none] s26 (pI c Q)))) ∧ (¬ v24 = 0 → eR c (d + 1) m_R_week 51 [some (.ref 2), some (.int l1), some (.int l2), some (.int l3), some (.int (l4 + 1)), none, none] s23 (pI c Q))))) ∧ (v2 = 2 → RI c d m_R_whyTold [.ref 2, .long (((100 * v22) + 99).toInt64)] s21 (fun v28 s27 => ((v28 = 0 → RV c d m_R_keeps [.ref 2] s27 (fun s29 => RV c d m_R_does [.ref 2, .int ((100 * v22) + 99)] s29 (fun s30 => eR c (d + 1) m_R_week 51 [some (.ref 2), some (.int l1), some (.int l2), some (.int (l3 + 1)), some (.int (l4 + 1)), none, none] s30 (pI c Q)))) ∧ (¬ v28 = 0 → eR c (d + 1) m_R_week 51 [some (.ref 2), some (.int l1), some (.int l2), some (.int l3), some (.int (l4 + 1)), none, none] s27 (pI c Q))))))) ∧ (v2 = 1 → RI c d m_R_draw [.ref 2, .int (s21.2.1 1 1)] s21 (fun v32 s31 => ((¬ v2 = 2 → RI c d m_R_whyTold [.ref 2, .long (((100 * v22) + v32).toInt64)] s31 (fun v34 s33 => ((v34 = 0 → RV c d m_R_keeps [.ref 2] s33 (fun s35 => RV c d m_R_does [.ref 2, .int ((100 * v22) + v32)] s35 (fun s36 => eR c (d + 1) m_R_week 51 [some (.ref 2), some (.int l1), some (.int l2), some (.int (l3 + 1)), some (.int (l4 + 1)), none, none] s36 (pI c Q)))) ∧ (¬ v34 = 0 → eR c (d + 1) m_R_week 51 [some (.ref 2), some (.int l1), some (.int l2), some (.int l3), some (.int (l4 + 1)), none, none] s33 (pI c Q))))) ∧ (v2 = 2 → RI c d m_R_whyTold [.ref 2, .long ((((100 * v22) + v32) + 99).toInt64)] s31 (fun v38 s37 => ((v38 = 0 → RV c d m_R_keeps [.ref 2] s37 (fun s39 => RV c d m_R_does [.ref 2, .int (((100 * v22) + v32) + 99)] s39 (fun s40 => eR c (d + 1) m_R_week 51 [some (.ref 2), some (.int l1), some (.int l2), some (.int (l3 + 1)), some (.int (l4 + 1)), none, none] s40 (pI c Q)))) ∧ (¬ v38 = 0 → eR c (d + 1) m_R_week 51 [some (.ref 2), some (.int l1), some (.int l2), some (.int l3), some (.int (l4 + 1)), none, none] s37 (pI c Q)))))))))))))))) : eR c (d + 1) m_R_week 51 [some (.ref 2), some (.int l1), some (.int l2), some (.int l3), some (.int l4), none, none] s (pI c Q) := by
  unfold eR
  refine ev_ex 0 (c' := (51, [some (.ref 2), some (.int l1), some (.int l2), some (.int l3), some (.int l4), none, none], [], cH c s)) rfl ?_
  refine ev_ex 2 (c' := (54, [some (.ref 2), some (.int l1), some (.int l2), some (.int l3), some (.int l4), none, none], [.int l2, .int l4], cH c s)) rfl ?_
  refine ev_icmp_ge (tgt := 145) rfl rfl (fun h => ?_) (fun h => ?_)
  · replace H := H.1 (h)
    refine ev_ex 1 (c' := (146, [some (.ref 2), some (.int l1), some (.int l2), some (.int l3), some (.int l4), none, none], [.int l3], cH c s)) rfl ?_
    exact ev_ret rfl rfl rfl ⟨_, _, rfl, rfl, H⟩
  · replace H := H.2 (h)
    refine ev_ex 2 (c' := (59, [some (.ref 2), some (.int l1), some (.int l2), some (.int l3), some (.int l4), none, none], [.int 3, .ref 2], cH c s)) rfl ?_
    refine rc_I (idx := 377) rfl rfl rfl (Nat.le_of_ble_eq_true rfl) (Nat.le_of_ble_eq_true rfl) rfl H (fun v2 s1 H => ?_)
    refine ev_ex 4 (c' := (69, [some (.ref 2), some (.int l1), some (.int l2), some (.int l3), some (.int l4), some (.int v2), some (.int ((-1)))], [.int v2], cH c s1)) rfl ?_
    refine ev_if_le (tgt := 85) rfl rfl (fun h => ?_) (fun h => ?_)
    · replace H := H.1 (h)
      refine ev_ex 2 (c' := (88, [some (.ref 2), some (.int l1), some (.int l2), some (.int l3), some (.int l4), some (.int v2), some (.int ((-1)))], [.int 1, .int v2], cH c s1)) rfl ?_
      refine ev_icmp_ne (tgt := 104) rfl rfl (fun h => ?_) (fun h => ?_)
      · replace H := H.1 (h)
        refine ev_ex 2 (c' := (107, [some (.ref 2), some (.int l1), some (.int l2), some (.int l3), some (.int l4), some (.int v2), some (.int ((-1)))], [.int 2, .int v2], cH c s1)) rfl ?_
        refine ev_icmp_ne (tgt := 113) rfl rfl (fun h => ?_) (fun h => ?_)
        · replace H := H.1 (h)
          refine ev_ex 3 (c' := (117, [some (.ref 2), some (.int l1), some (.int l2), some (.int l3), some (.int l4), some (.int v2), some (.int ((-1)))], [.long (((-1)).toInt64), .ref 2], cH c s1)) rfl ?_
          refine rc_I (idx := 353) rfl rfl rfl (Nat.le_of_ble_eq_true rfl) (Nat.le_of_ble_eq_true rfl) rfl H (fun v4 s3 H => ?_)
          refine ev_if_eq (tgt := 126) rfl rfl (fun h => ?_) (fun h => ?_)
          · replace H := H.1 (h)
            refine ev_ex 1 (c' := (127, [some (.ref 2), some (.int l1), some (.int l2), some (.int l3), some (.int l4), some (.int v2), some (.int ((-1)))], [.ref 2], cH c s3)) rfl ?_
            refine rc_V (idx := 327) rfl rfl rfl (Nat.le_of_ble_eq_true rfl) (Nat.le_of_ble_eq_true rfl) rfl H (fun s5 H => ?_)
            refine ev_ex 2 (c' := (133, [some (.ref 2), some (.int l1), some (.int l2), some (.int l3), some (.int l4), some (.int v2), some (.int ((-1)))], [.int ((-1)), .ref 2], cH c s5)) rfl ?_
            refine rc_V (idx := 356) rfl rfl rfl (Nat.le_of_ble_eq_true rfl) (Nat.le_of_ble_eq_true rfl) rfl H (fun s6 H => ?_)
            refine ev_ex 3 (c' := (51, [some (.ref 2), some (.int l1), some (.int l2), some (.int (l3 + 1)), some (.int (l4 + 1)), some (.int v2), some (.int ((-1)))], [], cH c s6)) rfl ?_
            exact ev_less (lle_of (L := [some (.ref 2), some (.int l1), some (.int l2), some (.int (l3 + 1)), some (.int (l4 + 1)), none, none]) ⟨rfl, ⟨rfl, ⟨rfl, ⟨rfl, ⟨rfl, trivial⟩⟩⟩⟩⟩) H
          · replace H := H.2 (h)
            refine ev_ex 3 (c' := (51, [some (.ref 2), some (.int l1), some (.int l2), some (.int l3), some (.int (l4 + 1)), some (.int v2), some (.int ((-1)))], [], cH c s3)) rfl ?_
            exact ev_less (lle_of (L := [some (.ref 2), some (.int l1), some (.int l2), some (.int l3), some (.int (l4 + 1)), none, none]) ⟨rfl, ⟨rfl, ⟨rfl, ⟨rfl, ⟨rfl, trivial⟩⟩⟩⟩⟩) H
        · replace H := H.2 (h)
          refine ev_ex 4 (c' := (117, [some (.ref 2), some (.int l1), some (.int l2), some (.int l3), some (.int l4), some (.int v2), some (.int (((-1)) + 99))], [.long ((((-1)) + 99).toInt64), .ref 2], cH c s1)) rfl ?_
          refine rc_I (idx := 353) rfl rfl rfl (Nat.le_of_ble_eq_true rfl) (Nat.le_of_ble_eq_true rfl) rfl H (fun v8 s7 H => ?_)
          refine ev_if_eq (tgt := 126) rfl rfl (fun h => ?_) (fun h => ?_)
          · replace H := H.1 (h)
            refine ev_ex 1 (c' := (127, [some (.ref 2), some (.int l1), some (.int l2), some (.int l3), some (.int l4), some (.int v2), some (.int (((-1)) + 99))], [.ref 2], cH c s7)) rfl ?_
            refine rc_V (idx := 327) rfl rfl rfl (Nat.le_of_ble_eq_true rfl) (Nat.le_of_ble_eq_true rfl) rfl H (fun s9 H => ?_)
            refine ev_ex 2 (c' := (133, [some (.ref 2), some (.int l1), some (.int l2), some (.int l3), some (.int l4), some (.int v2), some (.int (((-1)) + 99))], [.int (((-1)) + 99), .ref 2], cH c s9)) rfl ?_
            refine rc_V (idx := 356) rfl rfl rfl (Nat.le_of_ble_eq_true rfl) (Nat.le_of_ble_eq_true rfl) rfl H (fun s10 H => ?_)
            refine ev_ex 3 (c' := (51, [some (.ref 2), some (.int l1), some (.int l2), some (.int (l3 + 1)), some (.int (l4 + 1)), some (.int v2), some (.int (((-1)) + 99))], [], cH c s10)) rfl ?_
            exact ev_less (lle_of (L := [some (.ref 2), some (.int l1), some (.int l2), some (.int (l3 + 1)), some (.int (l4 + 1)), none, none]) ⟨rfl, ⟨rfl, ⟨rfl, ⟨rfl, ⟨rfl, trivial⟩⟩⟩⟩⟩) H
          · replace H := H.2 (h)
            refine ev_ex 3 (c' := (51, [some (.ref 2), some (.int l1), some (.int l2), some (.int l3), some (.int (l4 + 1)), some (.int v2), some (.int (((-1)) + 99))], [], cH c s7)) rfl ?_
            exact ev_less (lle_of (L := [some (.ref 2), some (.int l1), some (.int l2), some (.int l3), some (.int (l4 + 1)), none, none]) ⟨rfl, ⟨rfl, ⟨rfl, ⟨rfl, ⟨rfl, trivial⟩⟩⟩⟩⟩) H
      · replace H := H.2 (h)
        refine ev_ex 3 (c' := (95, [some (.ref 2), some (.int l1), some (.int l2), some (.int l3), some (.int l4), some (.int v2), some (.int ((-1)))], [.ref 2, .ref 2, .int ((-1))], cH c s1)) rfl ?_
        refine rc_I (idx := 267) rfl rfl rfl (Nat.le_of_ble_eq_true rfl) (Nat.le_of_ble_eq_true rfl) rfl (K := fun x s' => x = s1.2.1 1 1 ∧ s' = s1) (z_R_guilds ⟨rfl, rfl⟩) ?_
        rintro _ _ ⟨rfl, rfl⟩
        refine rc_I (idx := 377) rfl rfl rfl (Nat.le_of_ble_eq_true rfl) (Nat.le_of_ble_eq_true rfl) rfl H (fun v12 s11 H => ?_)
        refine ev_ex 4 (c' := (107, [some (.ref 2), some (.int l1), some (.int l2), some (.int l3), some (.int l4), some (.int v2), some (.int (((-1)) + v12))], [.int 2, .int v2], cH c s11)) rfl ?_
        refine ev_icmp_ne (tgt := 113) rfl rfl (fun h => ?_) (fun h => ?_)
        · replace H := H.1 (h)
          refine ev_ex 3 (c' := (117, [some (.ref 2), some (.int l1), some (.int l2), some (.int l3), some (.int l4), some (.int v2), some (.int (((-1)) + v12))], [.long ((((-1)) + v12).toInt64), .ref 2], cH c s11)) rfl ?_
          refine rc_I (idx := 353) rfl rfl rfl (Nat.le_of_ble_eq_true rfl) (Nat.le_of_ble_eq_true rfl) rfl H (fun v14 s13 H => ?_)
          refine ev_if_eq (tgt := 126) rfl rfl (fun h => ?_) (fun h => ?_)
          · replace H := H.1 (h)
            refine ev_ex 1 (c' := (127, [some (.ref 2), some (.int l1), some (.int l2), some (.int l3), some (.int l4), some (.int v2), some (.int (((-1)) + v12))], [.ref 2], cH c s13)) rfl ?_
            refine rc_V (idx := 327) rfl rfl rfl (Nat.le_of_ble_eq_true rfl) (Nat.le_of_ble_eq_true rfl) rfl H (fun s15 H => ?_)
            refine ev_ex 2 (c' := (133, [some (.ref 2), some (.int l1), some (.int l2), some (.int l3), some (.int l4), some (.int v2), some (.int (((-1)) + v12))], [.int (((-1)) + v12), .ref 2], cH c s15)) rfl ?_
            refine rc_V (idx := 356) rfl rfl rfl (Nat.le_of_ble_eq_true rfl) (Nat.le_of_ble_eq_true rfl) rfl H (fun s16 H => ?_)
            refine ev_ex 3 (c' := (51, [some (.ref 2), some (.int l1), some (.int l2), some (.int (l3 + 1)), some (.int (l4 + 1)), some (.int v2), some (.int (((-1)) + v12))], [], cH c s16)) rfl ?_
            exact ev_less (lle_of (L := [some (.ref 2), some (.int l1), some (.int l2), some (.int (l3 + 1)), some (.int (l4 + 1)), none, none]) ⟨rfl, ⟨rfl, ⟨rfl, ⟨rfl, ⟨rfl, trivial⟩⟩⟩⟩⟩) H
          · replace H := H.2 (h)
            refine ev_ex 3 (c' := (51, [some (.ref 2), some (.int l1), some (.int l2), some (.int l3), some (.int (l4 + 1)), some (.int v2), some (.int (((-1)) + v12))], [], cH c s13)) rfl ?_
            exact ev_less (lle_of (L := [some (.ref 2), some (.int l1), some (.int l2), some (.int l3), some (.int (l4 + 1)), none, none]) ⟨rfl, ⟨rfl, ⟨rfl, ⟨rfl, ⟨rfl, trivial⟩⟩⟩⟩⟩) H
        · replace H := H.2 (h)
          refine ev_ex 4 (c' := (117, [some (.ref 2), some (.int l1), some (.int l2), some (.int l3), some (.int l4), some (.int v2), some (.int ((((-1)) + v12) + 99))], [.long (((((-1)) + v12) + 99).toInt64), .ref 2], cH c s11)) rfl ?_
          refine rc_I (idx := 353) rfl rfl rfl (Nat.le_of_ble_eq_true rfl) (Nat.le_of_ble_eq_true rfl) rfl H (fun v18 s17 H => ?_)
          refine ev_if_eq (tgt := 126) rfl rfl (fun h => ?_) (fun h => ?_)
          · replace H := H.1 (h)
            refine ev_ex 1 (c' := (127, [some (.ref 2), some (.int l1), some (.int l2), some (.int l3), some (.int l4), some (.int v2), some (.int ((((-1)) + v12) + 99))], [.ref 2], cH c s17)) rfl ?_
            refine rc_V (idx := 327) rfl rfl rfl (Nat.le_of_ble_eq_true rfl) (Nat.le_of_ble_eq_true rfl) rfl H (fun s19 H => ?_)
            refine ev_ex 2 (c' := (133, [some (.ref 2), some (.int l1), some (.int l2), some (.int l3), some (.int l4), some (.int v2), some (.int ((((-1)) + v12) + 99))], [.int ((((-1)) + v12) + 99), .ref 2], cH c s19)) rfl ?_
            refine rc_V (idx := 356) rfl rfl rfl (Nat.le_of_ble_eq_true rfl) (Nat.le_of_ble_eq_true rfl) rfl H (fun s20 H => ?_)
            refine ev_ex 3 (c' := (51, [some (.ref 2), some (.int l1), some (.int l2), some (.int (l3 + 1)), some (.int (l4 + 1)), some (.int v2), some (.int ((((-1)) + v12) + 99))], [], cH c s20)) rfl ?_
            exact ev_less (lle_of (L := [some (.ref 2), some (.int l1), some (.int l2), some (.int (l3 + 1)), some (.int (l4 + 1)), none, none]) ⟨rfl, ⟨rfl, ⟨rfl, ⟨rfl, ⟨rfl, trivial⟩⟩⟩⟩⟩) H
          · replace H := H.2 (h)
            refine ev_ex 3 (c' := (51, [some (.ref 2), some (.int l1), some (.int l2), some (.int l3), some (.int (l4 + 1)), some (.int v2), some (.int ((((-1)) + v12) + 99))], [], cH c s17)) rfl ?_
            exact ev_less (lle_of (L := [some (.ref 2), some (.int l1), some (.int l2), some (.int l3), some (.int (l4 + 1)), none, none]) ⟨rfl, ⟨rfl, ⟨rfl, ⟨rfl, ⟨rfl, trivial⟩⟩⟩⟩⟩) H
    · replace H := H.2 (h)
      refine ev_ex 3 (c' := (76, [some (.ref 2), some (.int l1), some (.int l2), some (.int l3), some (.int l4), some (.int v2), some (.int ((-1)))], [.ref 2, .ref 2, .int 100], cH c s1)) rfl ?_
      refine rc_I (idx := 267) rfl rfl rfl (Nat.le_of_ble_eq_true rfl) (Nat.le_of_ble_eq_true rfl) rfl (K := fun x s' => x = s1.2.1 1 1 ∧ s' = s1) (z_R_guilds ⟨rfl, rfl⟩) ?_
      rintro _ _ ⟨rfl, rfl⟩
      refine rc_I (idx := 377) rfl rfl rfl (Nat.le_of_ble_eq_true rfl) (Nat.le_of_ble_eq_true rfl) rfl H (fun v22 s21 H => ?_)
      refine ev_ex 4 (c' := (88, [some (.ref 2), some (.int l1), some (.int l2), some (.int l3), some (.int l4), some (.int v2), some (.int (100 * v22))], [.int 1, .int v2], cH c s21)) rfl ?_
      refine ev_icmp_ne (tgt := 104) rfl rfl (fun h => ?_) (fun h => ?_)
      · replace H := H.1 (h)
        refine ev_ex 2 (c' := (107, [some (.ref 2), some (.int l1), some (.int l2), some (.int l3), some (.int l4), some (.int v2), some (.int (100 * v22))], [.int 2, .int v2], cH c s21)) rfl ?_
        refine ev_icmp_ne (tgt := 113) rfl rfl (fun h => ?_) (fun h => ?_)
        · replace H := H.1 (h)
          refine ev_ex 3 (c' := (117, [some (.ref 2), some (.int l1), some (.int l2), some (.int l3), some (.int l4), some (.int v2), some (.int (100 * v22))], [.long ((100 * v22).toInt64), .ref 2], cH c s21)) rfl ?_
          refine rc_I (idx := 353) rfl rfl rfl (Nat.le_of_ble_eq_true rfl) (Nat.le_of_ble_eq_true rfl) rfl H (fun v24 s23 H => ?_)
          refine ev_if_eq (tgt := 126) rfl rfl (fun h => ?_) (fun h => ?_)
          · replace H := H.1 (h)
            refine ev_ex 1 (c' := (127, [some (.ref 2), some (.int l1), some (.int l2), some (.int l3), some (.int l4), some (.int v2), some (.int (100 * v22))], [.ref 2], cH c s23)) rfl ?_
            refine rc_V (idx := 327) rfl rfl rfl (Nat.le_of_ble_eq_true rfl) (Nat.le_of_ble_eq_true rfl) rfl H (fun s25 H => ?_)
            refine ev_ex 2 (c' := (133, [some (.ref 2), some (.int l1), some (.int l2), some (.int l3), some (.int l4), some (.int v2), some (.int (100 * v22))], [.int (100 * v22), .ref 2], cH c s25)) rfl ?_
            refine rc_V (idx := 356) rfl rfl rfl (Nat.le_of_ble_eq_true rfl) (Nat.le_of_ble_eq_true rfl) rfl H (fun s26 H => ?_)
            refine ev_ex 3 (c' := (51, [some (.ref 2), some (.int l1), some (.int l2), some (.int (l3 + 1)), some (.int (l4 + 1)), some (.int v2), some (.int (100 * v22))], [], cH c s26)) rfl ?_
            exact ev_less (lle_of (L := [some (.ref 2), some (.int l1), some (.int l2), some (.int (l3 + 1)), some (.int (l4 + 1)), none, none]) ⟨rfl, ⟨rfl, ⟨rfl, ⟨rfl, ⟨rfl, trivial⟩⟩⟩⟩⟩) H
          · replace H := H.2 (h)
            refine ev_ex 3 (c' := (51, [some (.ref 2), some (.int l1), some (.int l2), some (.int l3), some (.int (l4 + 1)), some (.int v2), some (.int (100 * v22))], [], cH c s23)) rfl ?_
            exact ev_less (lle_of (L := [some (.ref 2), some (.int l1), some (.int l2), some (.int l3), some (.int (l4 + 1)), none, none]) ⟨rfl, ⟨rfl, ⟨rfl, ⟨rfl, ⟨rfl, trivial⟩⟩⟩⟩⟩) H
        · replace H := H.2 (h)
          refine ev_ex 4 (c' := (117, [some (.ref 2), some (.int l1), some (.int l2), some (.int l3), some (.int l4), some (.int v2), some (.int ((100 * v22) + 99))], [.long (((100 * v22) + 99).toInt64), .ref 2], cH c s21)) rfl ?_
          refine rc_I (idx := 353) rfl rfl rfl (Nat.le_of_ble_eq_true rfl) (Nat.le_of_ble_eq_true rfl) rfl H (fun v28 s27 H => ?_)
          refine ev_if_eq (tgt := 126) rfl rfl (fun h => ?_) (fun h => ?_)
          · replace H := H.1 (h)
            refine ev_ex 1 (c' := (127, [some (.ref 2), some (.int l1), some (.int l2), some (.int l3), some (.int l4), some (.int v2), some (.int ((100 * v22) + 99))], [.ref 2], cH c s27)) rfl ?_
            refine rc_V (idx := 327) rfl rfl rfl (Nat.le_of_ble_eq_true rfl) (Nat.le_of_ble_eq_true rfl) rfl H (fun s29 H => ?_)
            refine ev_ex 2 (c' := (133, [some (.ref 2), some (.int l1), some (.int l2), some (.int l3), some (.int l4), some (.int v2), some (.int ((100 * v22) + 99))], [.int ((100 * v22) + 99), .ref 2], cH c s29)) rfl ?_
            refine rc_V (idx := 356) rfl rfl rfl (Nat.le_of_ble_eq_true rfl) (Nat.le_of_ble_eq_true rfl) rfl H (fun s30 H => ?_)
            refine ev_ex 3 (c' := (51, [some (.ref 2), some (.int l1), some (.int l2), some (.int (l3 + 1)), some (.int (l4 + 1)), some (.int v2), some (.int ((100 * v22) + 99))], [], cH c s30)) rfl ?_
            exact ev_less (lle_of (L := [some (.ref 2), some (.int l1), some (.int l2), some (.int (l3 + 1)), some (.int (l4 + 1)), none, none]) ⟨rfl, ⟨rfl, ⟨rfl, ⟨rfl, ⟨rfl, trivial⟩⟩⟩⟩⟩) H
          · replace H := H.2 (h)
            refine ev_ex 3 (c' := (51, [some (.ref 2), some (.int l1), some (.int l2), some (.int l3), some (.int (l4 + 1)), some (.int v2), some (.int ((100 * v22) + 99))], [], cH c s27)) rfl ?_
            exact ev_less (lle_of (L := [some (.ref 2), some (.int l1), some (.int l2), some (.int l3), some (.int (l4 + 1)), none, none]) ⟨rfl, ⟨rfl, ⟨rfl, ⟨rfl, ⟨rfl, trivial⟩⟩⟩⟩⟩) H
      · replace H := H.2 (h)
        refine ev_ex 3 (c' := (95, [some (.ref 2), some (.int l1), some (.int l2), some (.int l3), some (.int l4), some (.int v2), some (.int (100 * v22))], [.ref 2, .ref 2, .int (100 * v22)], cH c s21)) rfl ?_
        refine rc_I (idx := 267) rfl rfl rfl (Nat.le_of_ble_eq_true rfl) (Nat.le_of_ble_eq_true rfl) rfl (K := fun x s' => x = s21.2.1 1 1 ∧ s' = s21) (z_R_guilds ⟨rfl, rfl⟩) ?_
        rintro _ _ ⟨rfl, rfl⟩
        refine rc_I (idx := 377) rfl rfl rfl (Nat.le_of_ble_eq_true rfl) (Nat.le_of_ble_eq_true rfl) rfl H (fun v32 s31 H => ?_)
        refine ev_ex 4 (c' := (107, [some (.ref 2), some (.int l1), some (.int l2), some (.int l3), some (.int l4), some (.int v2), some (.int ((100 * v22) + v32))], [.int 2, .int v2], cH c s31)) rfl ?_
        refine ev_icmp_ne (tgt := 113) rfl rfl (fun h => ?_) (fun h => ?_)
        · replace H := H.1 (h)
          refine ev_ex 3 (c' := (117, [some (.ref 2), some (.int l1), some (.int l2), some (.int l3), some (.int l4), some (.int v2), some (.int ((100 * v22) + v32))], [.long (((100 * v22) + v32).toInt64), .ref 2], cH c s31)) rfl ?_
          refine rc_I (idx := 353) rfl rfl rfl (Nat.le_of_ble_eq_true rfl) (Nat.le_of_ble_eq_true rfl) rfl H (fun v34 s33 H => ?_)
          refine ev_if_eq (tgt := 126) rfl rfl (fun h => ?_) (fun h => ?_)
          · replace H := H.1 (h)
            refine ev_ex 1 (c' := (127, [some (.ref 2), some (.int l1), some (.int l2), some (.int l3), some (.int l4), some (.int v2), some (.int ((100 * v22) + v32))], [.ref 2], cH c s33)) rfl ?_
            refine rc_V (idx := 327) rfl rfl rfl (Nat.le_of_ble_eq_true rfl) (Nat.le_of_ble_eq_true rfl) rfl H (fun s35 H => ?_)
            refine ev_ex 2 (c' := (133, [some (.ref 2), some (.int l1), some (.int l2), some (.int l3), some (.int l4), some (.int v2), some (.int ((100 * v22) + v32))], [.int ((100 * v22) + v32), .ref 2], cH c s35)) rfl ?_
            refine rc_V (idx := 356) rfl rfl rfl (Nat.le_of_ble_eq_true rfl) (Nat.le_of_ble_eq_true rfl) rfl H (fun s36 H => ?_)
            refine ev_ex 3 (c' := (51, [some (.ref 2), some (.int l1), some (.int l2), some (.int (l3 + 1)), some (.int (l4 + 1)), some (.int v2), some (.int ((100 * v22) + v32))], [], cH c s36)) rfl ?_
            exact ev_less (lle_of (L := [some (.ref 2), some (.int l1), some (.int l2), some (.int (l3 + 1)), some (.int (l4 + 1)), none, none]) ⟨rfl, ⟨rfl, ⟨rfl, ⟨rfl, ⟨rfl, trivial⟩⟩⟩⟩⟩) H
          · replace H := H.2 (h)
            refine ev_ex 3 (c' := (51, [some (.ref 2), some (.int l1), some (.int l2), some (.int l3), some (.int (l4 + 1)), some (.int v2), some (.int ((100 * v22) + v32))], [], cH c s33)) rfl ?_
            exact ev_less (lle_of (L := [some (.ref 2), some (.int l1), some (.int l2), some (.int l3), some (.int (l4 + 1)), none, none]) ⟨rfl, ⟨rfl, ⟨rfl, ⟨rfl, ⟨rfl, trivial⟩⟩⟩⟩⟩) H
        · replace H := H.2 (h)
          refine ev_ex 4 (c' := (117, [some (.ref 2), some (.int l1), some (.int l2), some (.int l3), some (.int l4), some (.int v2), some (.int (((100 * v22) + v32) + 99))], [.long ((((100 * v22) + v32) + 99).toInt64), .ref 2], cH c s31)) rfl ?_
          refine rc_I (idx := 353) rfl rfl rfl (Nat.le_of_ble_eq_true rfl) (Nat.le_of_ble_eq_true rfl) rfl H (fun v38 s37 H => ?_)
          refine ev_if_eq (tgt := 126) rfl rfl (fun h => ?_) (fun h => ?_)
          · replace H := H.1 (h)
            refine ev_ex 1 (c' := (127, [some (.ref 2), some (.int l1), some (.int l2), some (.int l3), some (.int l4), some (.int v2), some (.int (((100 * v22) + v32) + 99))], [.ref 2], cH c s37)) rfl ?_
            refine rc_V (idx := 327) rfl rfl rfl (Nat.le_of_ble_eq_true rfl) (Nat.le_of_ble_eq_true rfl) rfl H (fun s39 H => ?_)
            refine ev_ex 2 (c' := (133, [some (.ref 2), some (.int l1), some (.int l2), some (.int l3), some (.int l4), some (.int v2), some (.int (((100 * v22) + v32) + 99))], [.int (((100 * v22) + v32) + 99), .ref 2], cH c s39)) rfl ?_
            refine rc_V (idx := 356) rfl rfl rfl (Nat.le_of_ble_eq_true rfl) (Nat.le_of_ble_eq_true rfl) rfl H (fun s40 H => ?_)
            refine ev_ex 3 (c' := (51, [some (.ref 2), some (.int l1), some (.int l2), some (.int (l3 + 1)), some (.int (l4 + 1)), some (.int v2), some (.int (((100 * v22) + v32) + 99))], [], cH c s40)) rfl ?_
            exact ev_less (lle_of (L := [some (.ref 2), some (.int l1), some (.int l2), some (.int (l3 + 1)), some (.int (l4 + 1)), none, none]) ⟨rfl, ⟨rfl, ⟨rfl, ⟨rfl, ⟨rfl, trivial⟩⟩⟩⟩⟩) H
          · replace H := H.2 (h)
            refine ev_ex 3 (c' := (51, [some (.ref 2), some (.int l1), some (.int l2), some (.int l3), some (.int (l4 + 1)), some (.int v2), some (.int (((100 * v22) + v32) + 99))], [], cH c s37)) rfl ?_
            exact ev_less (lle_of (L := [some (.ref 2), some (.int l1), some (.int l2), some (.int l3), some (.int (l4 + 1)), none, none]) ⟨rfl, ⟨rfl, ⟨rfl, ⟨rfl, ⟨rfl, trivial⟩⟩⟩⟩⟩) H
theorem w_R_ringed {c : CX} {d : Nat} {s : RS} {Q : Int32 → RS → Prop}  (H : eR c (d + 1) m_R_ringed 9 [some (.ref 2), some (.int 0), some (.int 0)] (rF s 4 0) (pI c Q)) : RI c (d + 1) m_R_ringed [.ref 2] s Q := by
  refine ⟨q_R_ringed, rfl, Nat.le_of_ble_eq_true rfl, ?_⟩
  refine ev_ex 0 (c' := (0, [some (.ref 2), none, none], [], cH c s)) rfl ?_
  refine ev_ex 7 (c' := (9, [some (.ref 2), some (.int 0), some (.int 0)], [], cH c (rF s 4 0))) rfl ?_
  exact H
theorem w_R_ringed_9 {c : CX} {d : Nat} {s : RS} {Q : Int32 → RS → Prop} (l1 : Int32) (l2 : Int32) (H : (((s.2.1 1 1) ≤ l2 → Q l1 s) ∧ (¬ (s.2.1 1 1) ≤ l2 → RI c d m_R_ringOf [.ref 2, .int l2] s (fun v2 s1 => eR c (d + 1) m_R_ringed 9 [some (.ref 2), some (.int (l1 ||| v2)), some (.int (l2 + 1))] s1 (pI c Q))))) : eR c (d + 1) m_R_ringed 9 [some (.ref 2), some (.int l1), some (.int l2)] s (pI c Q) := by
  unfold eR
  refine ev_ex 0 (c' := (9, [some (.ref 2), some (.int l1), some (.int l2)], [], cH c s)) rfl ?_
  refine ev_ex 2 (c' := (11, [some (.ref 2), some (.int l1), some (.int l2)], [.ref 2, .int l2], cH c s)) rfl ?_
  refine rc_I (idx := 267) rfl rfl rfl (Nat.le_of_ble_eq_true rfl) (Nat.le_of_ble_eq_true rfl) rfl (K := fun x s' => x = s.2.1 1 1 ∧ s' = s) (z_R_guilds ⟨rfl, rfl⟩) ?_
  rintro _ _ ⟨rfl, rfl⟩
  refine ev_icmp_ge (tgt := 31) rfl rfl (fun h => ?_) (fun h => ?_)
  · replace H := H.1 (h)
    refine ev_ex 1 (c' := (32, [some (.ref 2), some (.int l1), some (.int l2)], [.int l1], cH c s)) rfl ?_
    exact ev_ret rfl rfl rfl ⟨_, _, rfl, rfl, H⟩
  · replace H := H.2 (h)
    refine ev_ex 3 (c' := (20, [some (.ref 2), some (.int l1), some (.int l2)], [.int l2, .ref 2, .int l1], cH c s)) rfl ?_
    refine rc_I (idx := 380) rfl rfl rfl (Nat.le_of_ble_eq_true rfl) (Nat.le_of_ble_eq_true rfl) rfl H (fun v2 s1 H => ?_)
    refine ev_ex 4 (c' := (9, [some (.ref 2), some (.int (l1 ||| v2)), some (.int (l2 + 1))], [], cH c s1)) rfl ?_
    exact H
theorem w_R_rings {c : CX} {d : Nat} {s : RS} {Q : Int32 → RS → Prop} (a0 : Bool) (H : eR c (d + 1) m_R_rings 9 [some (.ref 2), some (.int (bI a0)), some (.int 0), some (.int 0), none] (rF s 4 0) (pI c Q)) : RI c (d + 1) m_R_rings [.ref 2, .int (bI a0)] s Q := by
  refine ⟨q_R_rings, rfl, Nat.le_of_ble_eq_true rfl, ?_⟩
  refine ev_ex 0 (c' := (0, [some (.ref 2), some (.int (bI a0)), none, none, none], [], cH c s)) rfl ?_
  refine ev_ex 7 (c' := (9, [some (.ref 2), some (.int (bI a0)), some (.int 0), some (.int 0), none], [], cH c (rF s 4 0))) rfl ?_
  exact H
theorem w_R_rings_9 {c : CX} {d : Nat} {s : RS} {Q : Int32 → RS → Prop} (l1 : Bool) (l2 : Int32) (l3 : Int32) (H : (((s.2.1 1 1) ≤ l3 → Q l2 s) ∧ (¬ (s.2.1 1 1) ≤ l3 → RI c d m_R_ringOf [.ref 2, .int l3] s (fun v2 s1 => ((v2 = 0 → eR c (d + 1) m_R_rings 9 [some (.ref 2), some (.int (bI l1)), some (.int (l2 + 0)), some (.int (l3 + 1)), none] s1 (pI c Q)) ∧ (¬ v2 = 0 → RI c d m_R_firstOf [.int v2] s1 (fun v4 s3 => ((¬ v4 = l3 → eR c (d + 1) m_R_rings 9 [some (.ref 2), some (.int (bI l1)), some (.int (l2 + 0)), some (.int (l3 + 1)), none] s3 (pI c Q)) ∧ (v4 = l3 → ((l1 = false → eR c (d + 1) m_R_rings 9 [some (.ref 2), some (.int (bI l1)), some (.int (l2 + 1)), some (.int (l3 + 1)), none] s3 (pI c Q)) ∧ (l1 = true → RB c d m_R_isShut [.ref 2, .int v2] s3 (fun v6 s5 => ((v6 = false → eR c (d + 1) m_R_rings 9 [some (.ref 2), some (.int (bI l1)), some (.int (l2 + 0)), some (.int (l3 + 1)), none] s5 (pI c Q)) ∧ (v6 = true → eR c (d + 1) m_R_rings 9 [some (.ref 2), some (.int (bI l1)), some (.int (l2 + 1)), some (.int (l3 + 1)), none] s5 (pI c Q))))))))))))))) : eR c (d + 1) m_R_rings 9 [some (.ref 2), some (.int (bI l1)), some (.int l2), some (.int l3), none] s (pI c Q) := by
  unfold eR
  refine ev_ex 0 (c' := (9, [some (.ref 2), some (.int (bI l1)), some (.int l2), some (.int l3), none], [], cH c s)) rfl ?_
  refine ev_ex 2 (c' := (11, [some (.ref 2), some (.int (bI l1)), some (.int l2), some (.int l3), none], [.ref 2, .int l3], cH c s)) rfl ?_
  refine rc_I (idx := 267) rfl rfl rfl (Nat.le_of_ble_eq_true rfl) (Nat.le_of_ble_eq_true rfl) rfl (K := fun x s' => x = s.2.1 1 1 ∧ s' = s) (z_R_guilds ⟨rfl, rfl⟩) ?_
  rintro _ _ ⟨rfl, rfl⟩
  refine ev_icmp_ge (tgt := 65) rfl rfl (fun h => ?_) (fun h => ?_)
  · replace H := H.1 (h)
    refine ev_ex 1 (c' := (66, [some (.ref 2), some (.int (bI l1)), some (.int l2), some (.int l3), none], [.int l2], cH c s)) rfl ?_
    exact ev_ret rfl rfl rfl ⟨_, _, rfl, rfl, H⟩
  · replace H := H.2 (h)
    refine ev_ex 2 (c' := (19, [some (.ref 2), some (.int (bI l1)), some (.int l2), some (.int l3), none], [.int l3, .ref 2], cH c s)) rfl ?_
    refine rc_I (idx := 380) rfl rfl rfl (Nat.le_of_ble_eq_true rfl) (Nat.le_of_ble_eq_true rfl) rfl H (fun v2 s1 H => ?_)
    refine ev_ex 3 (c' := (27, [some (.ref 2), some (.int (bI l1)), some (.int l2), some (.int l3), some (.int v2)], [.int v2, .int l2], cH c s1)) rfl ?_
    refine ev_if_eq (tgt := 56) rfl rfl (fun h => ?_) (fun h => ?_)
    · replace H := H.1 (h)
      refine ev_ex 5 (c' := (9, [some (.ref 2), some (.int (bI l1)), some (.int (l2 + 0)), some (.int (l3 + 1)), some (.int v2)], [], cH c s1)) rfl ?_
      exact ev_less (lle_of (L := [some (.ref 2), some (.int (bI l1)), some (.int (l2 + 0)), some (.int (l3 + 1)), none]) ⟨rfl, ⟨rfl, ⟨rfl, ⟨rfl, trivial⟩⟩⟩⟩) H
    · replace H := H.2 (h)
      refine ev_ex 1 (c' := (32, [some (.ref 2), some (.int (bI l1)), some (.int l2), some (.int l3), some (.int v2)], [.int v2, .int l2], cH c s1)) rfl ?_
      refine rc_I (idx := 308) rfl rfl rfl (Nat.le_of_ble_eq_true rfl) (Nat.le_of_ble_eq_true rfl) rfl H (fun v4 s3 H => ?_)
      refine ev_ex 1 (c' := (36, [some (.ref 2), some (.int (bI l1)), some (.int l2), some (.int l3), some (.int v2)], [.int l3, .int v4, .int l2], cH c s3)) rfl ?_
      refine ev_icmp_ne (tgt := 56) rfl rfl (fun h => ?_) (fun h => ?_)
      · replace H := H.1 (h)
        refine ev_ex 5 (c' := (9, [some (.ref 2), some (.int (bI l1)), some (.int (l2 + 0)), some (.int (l3 + 1)), some (.int v2)], [], cH c s3)) rfl ?_
        exact ev_less (lle_of (L := [some (.ref 2), some (.int (bI l1)), some (.int (l2 + 0)), some (.int (l3 + 1)), none]) ⟨rfl, ⟨rfl, ⟨rfl, ⟨rfl, trivial⟩⟩⟩⟩) H
      · replace H := H.2 (h)
        refine ev_ex 1 (c' := (40, [some (.ref 2), some (.int (bI l1)), some (.int l2), some (.int l3), some (.int v2)], [.int (bI l1), .int l2], cH c s3)) rfl ?_
        refine ev_if_eqB (x := l1) (tgt := 52) rfl rfl (fun h => ?_) (fun h => ?_)
        · replace H := H.1 (h)
          refine ev_ex 6 (c' := (9, [some (.ref 2), some (.int (bI l1)), some (.int (l2 + 1)), some (.int (l3 + 1)), some (.int v2)], [], cH c s3)) rfl ?_
          exact ev_less (lle_of (L := [some (.ref 2), some (.int (bI l1)), some (.int (l2 + 1)), some (.int (l3 + 1)), none]) ⟨rfl, ⟨rfl, ⟨rfl, ⟨rfl, trivial⟩⟩⟩⟩) H
        · replace H := H.2 (h)
          refine ev_ex 2 (c' := (46, [some (.ref 2), some (.int (bI l1)), some (.int l2), some (.int l3), some (.int v2)], [.int v2, .ref 2, .int l2], cH c s3)) rfl ?_
          refine rc_B (idx := 383) rfl rfl rfl (Nat.le_of_ble_eq_true rfl) (Nat.le_of_ble_eq_true rfl) rfl H (fun v6 s5 H => ?_)
          refine ev_if_eqB (x := v6) (tgt := 56) rfl rfl (fun h => ?_) (fun h => ?_)
          · replace H := H.1 (h)
            refine ev_ex 5 (c' := (9, [some (.ref 2), some (.int (bI l1)), some (.int (l2 + 0)), some (.int (l3 + 1)), some (.int v2)], [], cH c s5)) rfl ?_
            exact ev_less (lle_of (L := [some (.ref 2), some (.int (bI l1)), some (.int (l2 + 0)), some (.int (l3 + 1)), none]) ⟨rfl, ⟨rfl, ⟨rfl, ⟨rfl, trivial⟩⟩⟩⟩) H
          · replace H := H.2 (h)
            refine ev_ex 6 (c' := (9, [some (.ref 2), some (.int (bI l1)), some (.int (l2 + 1)), some (.int (l3 + 1)), some (.int v2)], [], cH c s5)) rfl ?_
            exact ev_less (lle_of (L := [some (.ref 2), some (.int (bI l1)), some (.int (l2 + 1)), some (.int (l3 + 1)), none]) ⟨rfl, ⟨rfl, ⟨rfl, ⟨rfl, trivial⟩⟩⟩⟩) H
theorem w_R_cakes {c : CX} {d : Nat} {s : RS} {Q : Int32 → RS → Prop}  (H : RV c d m_R_laysRow [.ref 2] (rF s 4 0) (fun s1 => Q (s1.1 27) s1)) : RI c (d + 1) m_R_cakes [.ref 2] s Q := by
  refine ⟨q_R_cakes, rfl, Nat.le_of_ble_eq_true rfl, ?_⟩
  refine ev_ex 0 (c' := (0, [some (.ref 2)], [], cH c s)) rfl ?_
  refine ev_ex 4 (c' := (6, [some (.ref 2)], [.ref 2], cH c (rF s 4 0))) rfl ?_
  refine rc_V (idx := 362) rfl rfl rfl (Nat.le_of_ble_eq_true rfl) (Nat.le_of_ble_eq_true rfl) rfl H (fun s1 H => ?_)
  refine ev_ex 2 (c' := (13, [some (.ref 2)], [.int (s1.1 27)], cH c s1)) rfl ?_
  exact ev_ret rfl rfl rfl ⟨_, _, rfl, rfl, H⟩
theorem w_R_chains {c : CX} {d : Nat} {s : RS} {Q : Int32 → RS → Prop}  (H : RV c d m_R_laysRow [.ref 2] (rF s 4 0) (fun s1 => Q (s1.1 28) s1)) : RI c (d + 1) m_R_chains [.ref 2] s Q := by
  refine ⟨q_R_chains, rfl, Nat.le_of_ble_eq_true rfl, ?_⟩
  refine ev_ex 0 (c' := (0, [some (.ref 2)], [], cH c s)) rfl ?_
  refine ev_ex 4 (c' := (6, [some (.ref 2)], [.ref 2], cH c (rF s 4 0))) rfl ?_
  refine rc_V (idx := 362) rfl rfl rfl (Nat.le_of_ble_eq_true rfl) (Nat.le_of_ble_eq_true rfl) rfl H (fun s1 H => ?_)
  refine ev_ex 2 (c' := (13, [some (.ref 2)], [.int (s1.1 28)], cH c s1)) rfl ?_
  exact ev_ret rfl rfl rfl ⟨_, _, rfl, rfl, H⟩
theorem w_R_walks {c : CX} {d : Nat} {s : RS} {Q : Int32 → RS → Prop} (a0 : Int32) (H : ((0 ≤ a0 → RV c d m_R_laysRow [.ref 2] (rF s 4 0) (fun s1 => (((s1.1 26) ≤ a0 → Q ((-1)) s1) ∧ (¬ (s1.1 26) ≤ a0 → (okx a0 20 ∧ Q (s1.2.1 9 (ix a0)) s1))))) ∧ (¬ 0 ≤ a0 → Q 0 (rF (rF s 4 0) 4 1)))) : RI c (d + 1) m_R_walks [.ref 2, .int a0] s Q := by
  refine ⟨q_R_walks, rfl, Nat.le_of_ble_eq_true rfl, ?_⟩
  refine ev_ex 0 (c' := (0, [some (.ref 2), some (.int a0)], [], cH c s)) rfl ?_
  refine ev_ex 4 (c' := (6, [some (.ref 2), some (.int a0)], [.int a0], cH c (rF s 4 0))) rfl ?_
  refine ev_if_ge (tgt := 15) rfl rfl (fun h => ?_) (fun h => ?_)
  · replace H := H.1 (h)
    refine ev_ex 1 (c' := (16, [some (.ref 2), some (.int a0)], [.ref 2], cH c (rF s 4 0))) rfl ?_
    refine rc_V (idx := 362) rfl rfl rfl (Nat.le_of_ble_eq_true rfl) (Nat.le_of_ble_eq_true rfl) rfl H (fun s1 H => ?_)
    refine ev_ex 3 (c' := (24, [some (.ref 2), some (.int a0)], [.int (s1.1 26), .int a0], cH c s1)) rfl ?_
    refine ev_icmp_ge (tgt := 36) rfl rfl (fun h => ?_) (fun h => ?_)
    · replace H := H.1 (h)
      refine ev_ex 1 (c' := (37, [some (.ref 2), some (.int a0)], [.int ((-1))], cH c s1)) rfl ?_
      exact ev_ret rfl rfl rfl ⟨_, _, rfl, rfl, H⟩
    · replace H := H.2 (h)
      refine ev_ex 3 (c' := (32, [some (.ref 2), some (.int a0)], [.int a0, .ref 38], cH c s1)) rfl ?_
      obtain ⟨H0, H⟩ := H
      refine ev_ald (i := .iaload) rfl (Or.inl rfl) rfl H0 (v := .int (s1.2.1 9 (ix a0))) rfl ?_
      refine ev_ex 1 (c' := (37, [some (.ref 2), some (.int a0)], [.int (s1.2.1 9 (ix a0))], cH c s1)) rfl ?_
      exact ev_ret rfl rfl rfl ⟨_, _, rfl, rfl, H⟩
  · replace H := H.2 (h)
    refine ev_ex 2 (c' := (11, [some (.ref 2), some (.int a0)], [.int 1, .ref 2], cH c (rF s 4 0))) rfl ?_
    refine rc_I (idx := 258) rfl rfl rfl (Nat.le_of_ble_eq_true rfl) (Nat.le_of_ble_eq_true rfl) rfl (K := fun x s' => x = 0 ∧ s' = rF (rF s 4 0) 4 1) (z_R_fails ⟨rfl, rfl⟩) ?_
    rintro _ _ ⟨rfl, rfl⟩
    exact ev_ret rfl rfl rfl ⟨_, _, rfl, rfl, H⟩
theorem w_R_place {c : CX} {d : Nat} {s : RS} {Q : Int32 → RS → Prop} (a0 : Int32) (H : (((wth a0.toInt64 0 ((rF s 4 0).2.1 1 1 - 1).toInt64) = true → RV c (d + 1) m_R_laysRow [.ref 2] (rF s 4 0) (fun s1 => (okx a0 10 ∧ Q (s1.2.1 11 (ix a0)) s1))) ∧ ((wth a0.toInt64 0 ((rF s 4 0).2.1 1 1 - 1).toInt64) = false → Q 0 (rF (rF s 4 0) 4 1)))) : RI c (d + 2) m_R_place [.ref 2, .int a0] s Q := by
  refine ⟨q_R_place, rfl, Nat.le_of_ble_eq_true rfl, ?_⟩
  refine ev_ex 0 (c' := (0, [some (.ref 2), some (.int a0)], [], cH c s)) rfl ?_
  refine ev_ex 6 (c' := (8, [some (.ref 2), some (.int a0)], [.long a0.toInt64, .ref 2], cH c (rF s 4 0))) rfl ?_
  refine rc_B (idx := 314) rfl rfl rfl (Nat.le_of_ble_eq_true rfl) (Nat.le_of_ble_eq_true rfl) rfl (K := fun x s' => x = wth a0.toInt64 0 ((rF s 4 0).2.1 1 1 - 1).toInt64 ∧ s' = rF s 4 0) (z_R_isGuild ⟨rfl, rfl⟩) ?_
  rintro _ _ ⟨rfl, rfl⟩
  refine ev_if_neB (x := (wth a0.toInt64 0 ((rF s 4 0).2.1 1 1 - 1).toInt64)) (tgt := 20) rfl rfl (fun h => ?_) (fun h => ?_)
  · replace H := H.1 (h)
    refine ev_ex 1 (c' := (21, [some (.ref 2), some (.int a0)], [.ref 2], cH c (rF s 4 0))) rfl ?_
    refine rc_V (idx := 362) rfl rfl rfl (Nat.le_of_ble_eq_true rfl) (Nat.le_of_ble_eq_true rfl) rfl H (fun s1 H => ?_)
    refine ev_ex 3 (c' := (29, [some (.ref 2), some (.int a0)], [.int a0, .ref 46], cH c s1)) rfl ?_
    obtain ⟨H0, H⟩ := H
    refine ev_ald (i := .iaload) rfl (Or.inl rfl) rfl H0 (v := .int (s1.2.1 11 (ix a0))) rfl ?_
    exact ev_ret rfl rfl rfl ⟨_, _, rfl, rfl, H⟩
  · replace H := H.2 (h)
    refine ev_ex 2 (c' := (16, [some (.ref 2), some (.int a0)], [.int 1, .ref 2], cH c (rF s 4 0))) rfl ?_
    refine rc_I (idx := 258) rfl rfl rfl (Nat.le_of_ble_eq_true rfl) (Nat.le_of_ble_eq_true rfl) rfl (K := fun x s' => x = 0 ∧ s' = rF (rF s 4 0) 4 1) (z_R_fails ⟨rfl, rfl⟩) ?_
    rintro _ _ ⟨rfl, rfl⟩
    exact ev_ret rfl rfl rfl ⟨_, _, rfl, rfl, H⟩
theorem w_R_length {c : CX} {d : Nat} {s : RS} {Q : Int32 → RS → Prop}  (H : RV c d m_R_laysRow [.ref 2] (rF s 4 0) (fun s1 => (okx (s1.1 26) 21 ∧ Q (s1.2.1 10 (ix (s1.1 26))) s1))) : RI c (d + 1) m_R_length [.ref 2] s Q := by
  refine ⟨q_R_length, rfl, Nat.le_of_ble_eq_true rfl, ?_⟩
  refine ev_ex 0 (c' := (0, [some (.ref 2)], [], cH c s)) rfl ?_
  refine ev_ex 4 (c' := (6, [some (.ref 2)], [.ref 2], cH c (rF s 4 0))) rfl ?_
  refine rc_V (idx := 362) rfl rfl rfl (Nat.le_of_ble_eq_true rfl) (Nat.le_of_ble_eq_true rfl) rfl H (fun s1 H => ?_)
  refine ev_ex 4 (c' := (17, [some (.ref 2)], [.int (s1.1 26), .ref 42], cH c s1)) rfl ?_
  obtain ⟨H0, H⟩ := H
  refine ev_ald (i := .iaload) rfl (Or.inl rfl) rfl H0 (v := .int (s1.2.1 10 (ix (s1.1 26)))) rfl ?_
  exact ev_ret rfl rfl rfl ⟨_, _, rfl, rfl, H⟩
theorem w_R_persuaded {c : CX} {d : Nat} {s : RS} {Q : Int32 → RS → Prop} (a0 : Int32) (H : (((wth a0.toInt64 0 1) = true → RI c d m_R_fewestOf [.ref 2, .int 1] (rF s 4 0) (fun v2 s1 => ((¬ a0 = 1 → RI c d m_R_size [.int v2] s1 (fun v4 s3 => Q v4 s3)) ∧ (a0 = 1 → Q v2 s1)))) ∧ ((wth a0.toInt64 0 1) = false → Q 0 (rF (rF s 4 0) 4 1)))) : RI c (d + 1) m_R_persuaded [.ref 2, .int a0] s Q := by
  refine ⟨q_R_persuaded, rfl, Nat.le_of_ble_eq_true rfl, ?_⟩
  refine ev_ex 0 (c' := (0, [some (.ref 2), some (.int a0), none], [], cH c s)) rfl ?_
  refine ev_ex 7 (c' := (9, [some (.ref 2), some (.int a0), none], [.long 1, .long 0, .long a0.toInt64], cH c (rF s 4 0))) rfl ?_
  refine rc_B (idx := 136) rfl rfl rfl (Nat.le_of_ble_eq_true rfl) (Nat.le_of_ble_eq_true rfl) rfl (K := fun x s' => x = wth a0.toInt64 0 1 ∧ s' = rF s 4 0) (z_R_within ⟨rfl, rfl⟩) ?_
  rintro _ _ ⟨rfl, rfl⟩
  refine ev_if_neB (x := (wth a0.toInt64 0 1)) (tgt := 21) rfl rfl (fun h => ?_) (fun h => ?_)
  · replace H := H.1 (h)
    refine ev_ex 2 (c' := (23, [some (.ref 2), some (.int a0), none], [.int 1, .ref 2], cH c (rF s 4 0))) rfl ?_
    refine rc_I (idx := 404) rfl rfl rfl (Nat.le_of_ble_eq_true rfl) (Nat.le_of_ble_eq_true rfl) rfl H (fun v2 s1 H => ?_)
    refine ev_ex 3 (c' := (29, [some (.ref 2), some (.int a0), some (.int v2)], [.int 1, .int a0], cH c s1)) rfl ?_
    refine ev_icmp_ne (tgt := 36) rfl rfl (fun h => ?_) (fun h => ?_)
    · replace H := H.1 (h)
      refine ev_ex 1 (c' := (37, [some (.ref 2), some (.int a0), some (.int v2)], [.int v2], cH c s1)) rfl ?_
      refine rc_I (idx := 293) rfl rfl rfl (Nat.le_of_ble_eq_true rfl) (Nat.le_of_ble_eq_true rfl) rfl H (fun v4 s3 H => ?_)
      exact ev_ret rfl rfl rfl ⟨_, _, rfl, rfl, H⟩
    · replace H := H.2 (h)
      refine ev_ex 2 (c' := (40, [some (.ref 2), some (.int a0), some (.int v2)], [.int v2], cH c s1)) rfl ?_
      exact ev_ret rfl rfl rfl ⟨_, _, rfl, rfl, H⟩
  · replace H := H.2 (h)
    refine ev_ex 2 (c' := (17, [some (.ref 2), some (.int a0), none], [.int 1, .ref 2], cH c (rF s 4 0))) rfl ?_
    refine rc_I (idx := 258) rfl rfl rfl (Nat.le_of_ble_eq_true rfl) (Nat.le_of_ble_eq_true rfl) rfl (K := fun x s' => x = 0 ∧ s' = rF (rF s 4 0) 4 1) (z_R_fails ⟨rfl, rfl⟩) ?_
    rintro _ _ ⟨rfl, rfl⟩
    exact ev_ret rfl rfl rfl ⟨_, _, rfl, rfl, H⟩
theorem w_R_peace {c : CX} {d : Nat} {s : RS} {Q : Int32 → RS → Prop} (a0 : Int32) (H : (((wth a0.toInt64 0 1) = true → RI c d m_R_fewestOf [.ref 2, .int 0] (rF s 4 0) (fun v2 s1 => ((¬ a0 = 1 → RI c d m_R_size [.int v2] s1 (fun v4 s3 => Q v4 s3)) ∧ (a0 = 1 → Q v2 s1)))) ∧ ((wth a0.toInt64 0 1) = false → Q 0 (rF (rF s 4 0) 4 1)))) : RI c (d + 1) m_R_peace [.ref 2, .int a0] s Q := by
  refine ⟨q_R_peace, rfl, Nat.le_of_ble_eq_true rfl, ?_⟩
  refine ev_ex 0 (c' := (0, [some (.ref 2), some (.int a0), none], [], cH c s)) rfl ?_
  refine ev_ex 7 (c' := (9, [some (.ref 2), some (.int a0), none], [.long 1, .long 0, .long a0.toInt64], cH c (rF s 4 0))) rfl ?_
  refine rc_B (idx := 136) rfl rfl rfl (Nat.le_of_ble_eq_true rfl) (Nat.le_of_ble_eq_true rfl) rfl (K := fun x s' => x = wth a0.toInt64 0 1 ∧ s' = rF s 4 0) (z_R_within ⟨rfl, rfl⟩) ?_
  rintro _ _ ⟨rfl, rfl⟩
  refine ev_if_neB (x := (wth a0.toInt64 0 1)) (tgt := 21) rfl rfl (fun h => ?_) (fun h => ?_)
  · replace H := H.1 (h)
    refine ev_ex 2 (c' := (23, [some (.ref 2), some (.int a0), none], [.int 0, .ref 2], cH c (rF s 4 0))) rfl ?_
    refine rc_I (idx := 404) rfl rfl rfl (Nat.le_of_ble_eq_true rfl) (Nat.le_of_ble_eq_true rfl) rfl H (fun v2 s1 H => ?_)
    refine ev_ex 3 (c' := (29, [some (.ref 2), some (.int a0), some (.int v2)], [.int 1, .int a0], cH c s1)) rfl ?_
    refine ev_icmp_ne (tgt := 36) rfl rfl (fun h => ?_) (fun h => ?_)
    · replace H := H.1 (h)
      refine ev_ex 1 (c' := (37, [some (.ref 2), some (.int a0), some (.int v2)], [.int v2], cH c s1)) rfl ?_
      refine rc_I (idx := 293) rfl rfl rfl (Nat.le_of_ble_eq_true rfl) (Nat.le_of_ble_eq_true rfl) rfl H (fun v4 s3 H => ?_)
      exact ev_ret rfl rfl rfl ⟨_, _, rfl, rfl, H⟩
    · replace H := H.2 (h)
      refine ev_ex 2 (c' := (40, [some (.ref 2), some (.int a0), some (.int v2)], [.int v2], cH c s1)) rfl ?_
      exact ev_ret rfl rfl rfl ⟨_, _, rfl, rfl, H⟩
  · replace H := H.2 (h)
    refine ev_ex 2 (c' := (17, [some (.ref 2), some (.int a0), none], [.int 1, .ref 2], cH c (rF s 4 0))) rfl ?_
    refine rc_I (idx := 258) rfl rfl rfl (Nat.le_of_ble_eq_true rfl) (Nat.le_of_ble_eq_true rfl) rfl (K := fun x s' => x = 0 ∧ s' = rF (rF s 4 0) 4 1) (z_R_fails ⟨rfl, rfl⟩) ?_
    rintro _ _ ⟨rfl, rfl⟩
    exact ev_ret rfl rfl rfl ⟨_, _, rfl, rfl, H⟩
theorem w_R_goat {c : CX} {d : Nat} {s : RS} {Q : Int32 → RS → Prop}  (H : eR c (d + 1) m_R_goat 11 [some (.ref 2), some (.int ((-1))), some (.int 0), some (.int 0), none] (rF s 4 0) (pI c Q)) : RI c (d + 1) m_R_goat [.ref 2] s Q := by
  refine ⟨q_R_goat, rfl, Nat.le_of_ble_eq_true rfl, ?_⟩
  refine ev_ex 0 (c' := (0, [some (.ref 2), none, none, none, none], [], cH c s)) rfl ?_
  refine ev_ex 9 (c' := (11, [some (.ref 2), some (.int ((-1))), some (.int 0), some (.int 0), none], [], cH c (rF s 4 0))) rfl ?_
  exact H
theorem w_R_goat_11 {c : CX} {d : Nat} {s : RS} {Q : Int32 → RS → Prop} (l1 : Int32) (l2 : Int32) (l3 : Int32) (H : (((s.2.1 1 1) ≤ l3 → Q l1 s) ∧ (¬ (s.2.1 1 1) ≤ l3 → RI c d m_R_mockers [.ref 2, .int l3] s (fun v2 s1 => RI c d m_R_size [.int v2] s1 (fun v4 s3 => ((l2 < v4 → eR c (d + 1) m_R_goat 11 [some (.ref 2), some (.int l3), some (.int v4), some (.int (l3 + 1)), none] s3 (pI c Q)) ∧ (¬ l2 < v4 → eR c (d + 1) m_R_goat 11 [some (.ref 2), some (.int l1), some (.int l2), some (.int (l3 + 1)), none] s3 (pI c Q)))))))) : eR c (d + 1) m_R_goat 11 [some (.ref 2), some (.int l1), some (.int l2), some (.int l3), none] s (pI c Q) := by
  unfold eR
  refine ev_ex 0 (c' := (11, [some (.ref 2), some (.int l1), some (.int l2), some (.int l3), none], [], cH c s)) rfl ?_
  refine ev_ex 2 (c' := (13, [some (.ref 2), some (.int l1), some (.int l2), some (.int l3), none], [.ref 2, .int l3], cH c s)) rfl ?_
  refine rc_I (idx := 267) rfl rfl rfl (Nat.le_of_ble_eq_true rfl) (Nat.le_of_ble_eq_true rfl) rfl (K := fun x s' => x = s.2.1 1 1 ∧ s' = s) (z_R_guilds ⟨rfl, rfl⟩) ?_
  rintro _ _ ⟨rfl, rfl⟩
  refine ev_icmp_ge (tgt := 49) rfl rfl (fun h => ?_) (fun h => ?_)
  · replace H := H.1 (h)
    refine ev_ex 1 (c' := (50, [some (.ref 2), some (.int l1), some (.int l2), some (.int l3), none], [.int l1], cH c s)) rfl ?_
    exact ev_ret rfl rfl rfl ⟨_, _, rfl, rfl, H⟩
  · replace H := H.2 (h)
    refine ev_ex 2 (c' := (21, [some (.ref 2), some (.int l1), some (.int l2), some (.int l3), none], [.int l3, .ref 2], cH c s)) rfl ?_
    refine rc_I (idx := 290) rfl rfl rfl (Nat.le_of_ble_eq_true rfl) (Nat.le_of_ble_eq_true rfl) rfl H (fun v2 s1 H => ?_)
    refine rc_I (idx := 293) rfl rfl rfl (Nat.le_of_ble_eq_true rfl) (Nat.le_of_ble_eq_true rfl) rfl H (fun v4 s3 H => ?_)
    refine ev_ex 3 (c' := (32, [some (.ref 2), some (.int l1), some (.int l2), some (.int l3), some (.int v4)], [.int l2, .int v4], cH c s3)) rfl ?_
    refine ev_icmp_gt (tgt := 38) rfl rfl (fun h => ?_) (fun h => ?_)
    · replace H := H.1 (h)
      refine ev_ex 6 (c' := (11, [some (.ref 2), some (.int l3), some (.int v4), some (.int (l3 + 1)), some (.int v4)], [], cH c s3)) rfl ?_
      exact ev_less (lle_of (L := [some (.ref 2), some (.int l3), some (.int v4), some (.int (l3 + 1)), none]) ⟨rfl, ⟨rfl, ⟨rfl, ⟨rfl, trivial⟩⟩⟩⟩) H
    · replace H := H.2 (h)
      refine ev_ex 3 (c' := (11, [some (.ref 2), some (.int l1), some (.int l2), some (.int (l3 + 1)), some (.int v4)], [], cH c s3)) rfl ?_
      exact ev_less (lle_of (L := [some (.ref 2), some (.int l1), some (.int l2), some (.int (l3 + 1)), none]) ⟨rfl, ⟨rfl, ⟨rfl, ⟨rfl, trivial⟩⟩⟩⟩) H
theorem w_R_below {c : CX} {d : Nat} {s : RS} {Q : Int32 → RS → Prop} (a0 : Int32) (H : (((wth a0.toInt64 0 ((rF s 4 0).2.1 1 1 - 1).toInt64) = true → (okx (6 + a0) 2101 ∧ eR c (d + 2) m_R_below 30 [some (.ref 2), some (.int a0), some (.int (1 <<< (a0 &&& 31))), some (.int ((rF s 4 0).2.1 1 (ix (6 + a0))))] (rF s 4 0) (pI c Q))) ∧ ((wth a0.toInt64 0 ((rF s 4 0).2.1 1 1 - 1).toInt64) = false → Q 0 (rF (rF s 4 0) 4 1)))) : RI c (d + 2) m_R_below [.ref 2, .int a0] s Q := by
  refine ⟨q_R_below, rfl, Nat.le_of_ble_eq_true rfl, ?_⟩
  refine ev_ex 0 (c' := (0, [some (.ref 2), some (.int a0), none, none], [], cH c s)) rfl ?_
  refine ev_ex 6 (c' := (8, [some (.ref 2), some (.int a0), none, none], [.long a0.toInt64, .ref 2], cH c (rF s 4 0))) rfl ?_
  refine rc_B (idx := 314) rfl rfl rfl (Nat.le_of_ble_eq_true rfl) (Nat.le_of_ble_eq_true rfl) rfl (K := fun x s' => x = wth a0.toInt64 0 ((rF s 4 0).2.1 1 1 - 1).toInt64 ∧ s' = rF s 4 0) (z_R_isGuild ⟨rfl, rfl⟩) ?_
  rintro _ _ ⟨rfl, rfl⟩
  refine ev_if_neB (x := (wth a0.toInt64 0 ((rF s 4 0).2.1 1 1 - 1).toInt64)) (tgt := 20) rfl rfl (fun h => ?_) (fun h => ?_)
  · replace H := H.1 (h)
    refine ev_ex 6 (c' := (26, [some (.ref 2), some (.int a0), some (.int (1 <<< (a0 &&& 31))), none], [.int a0, .ref 2], cH c (rF s 4 0))) rfl ?_
    obtain ⟨H1, H⟩ := H
    refine rc_I (idx := 270) rfl rfl rfl (Nat.le_of_ble_eq_true rfl) (Nat.le_of_ble_eq_true rfl) rfl (K := fun x s' => x = (rF s 4 0).2.1 1 (ix (6 + a0)) ∧ s' = rF s 4 0) (z_R_mocked H1 ⟨rfl, rfl⟩) ?_
    rintro _ _ ⟨rfl, rfl⟩
    refine ev_ex 1 (c' := (30, [some (.ref 2), some (.int a0), some (.int (1 <<< (a0 &&& 31))), some (.int ((rF s 4 0).2.1 1 (ix (6 + a0))))], [], cH c (rF s 4 0))) rfl ?_
    exact H
  · replace H := H.2 (h)
    refine ev_ex 2 (c' := (16, [some (.ref 2), some (.int a0), none, none], [.int 1, .ref 2], cH c (rF s 4 0))) rfl ?_
    refine rc_I (idx := 258) rfl rfl rfl (Nat.le_of_ble_eq_true rfl) (Nat.le_of_ble_eq_true rfl) rfl (K := fun x s' => x = 0 ∧ s' = rF (rF s 4 0) 4 1) (z_R_fails ⟨rfl, rfl⟩) ?_
    rintro _ _ ⟨rfl, rfl⟩
    exact ev_ret rfl rfl rfl ⟨_, _, rfl, rfl, H⟩
theorem w_R_below_30 {c : CX} {d : Nat} {s : RS} {Q : Int32 → RS → Prop} (l1 : Int32) (l2 : Int32) (l3 : Int32) (H : ((l3 = ((-1)) → RI c (d + 1) m_R_size [.int l2] s (fun v2 s1 => Q (v2 - 1) s1)) ∧ (¬ l3 = ((-1)) → (((hs l2 l3) = true → RI c (d + 1) m_R_size [.int l2] s (fun v4 s3 => Q (v4 - 1) s3)) ∧ ((hs l2 l3) = false → (okx (6 + l3) 2101 ∧ eR c (d + 2) m_R_below 30 [some (.ref 2), some (.int l1), some (.int (l2 ||| (1 <<< (l3 &&& 31)))), some (.int (s.2.1 1 (ix (6 + l3))))] s (pI c Q))))))) : eR c (d + 2) m_R_below 30 [some (.ref 2), some (.int l1), some (.int l2), some (.int l3)] s (pI c Q) := by
  unfold eR
  refine ev_ex 0 (c' := (30, [some (.ref 2), some (.int l1), some (.int l2), some (.int l3)], [], cH c s)) rfl ?_
  refine ev_ex 2 (c' := (32, [some (.ref 2), some (.int l1), some (.int l2), some (.int l3)], [.int ((-1)), .int l3], cH c s)) rfl ?_
  refine ev_icmp_eq (tgt := 58) rfl rfl (fun h => ?_) (fun h => ?_)
  · replace H := H.1 (h)
    refine ev_ex 1 (c' := (59, [some (.ref 2), some (.int l1), some (.int l2), some (.int l3)], [.int l2], cH c s)) rfl ?_
    refine rc_I (idx := 293) rfl rfl rfl (Nat.le_of_ble_eq_true rfl) (Nat.le_of_ble_eq_true rfl) rfl H (fun v2 s1 H => ?_)
    refine ev_ex 2 (c' := (64, [some (.ref 2), some (.int l1), some (.int l2), some (.int l3)], [.int (v2 - 1)], cH c s1)) rfl ?_
    exact ev_ret rfl rfl rfl ⟨_, _, rfl, rfl, H⟩
  · replace H := H.2 (h)
    refine ev_ex 2 (c' := (37, [some (.ref 2), some (.int l1), some (.int l2), some (.int l3)], [.int l3, .int l2], cH c s)) rfl ?_
    refine rc_B (idx := 74) rfl rfl rfl (Nat.le_of_ble_eq_true rfl) (Nat.le_of_ble_eq_true rfl) rfl (K := fun x s' => x = hs l2 l3 ∧ s' = s) (z_R_has ⟨rfl, rfl⟩) ?_
    rintro _ _ ⟨rfl, rfl⟩
    refine ev_if_neB (x := (hs l2 l3)) (tgt := 58) rfl rfl (fun h => ?_) (fun h => ?_)
    · replace H := H.1 (h)
      refine ev_ex 1 (c' := (59, [some (.ref 2), some (.int l1), some (.int l2), some (.int l3)], [.int l2], cH c s)) rfl ?_
      refine rc_I (idx := 293) rfl rfl rfl (Nat.le_of_ble_eq_true rfl) (Nat.le_of_ble_eq_true rfl) rfl H (fun v4 s3 H => ?_)
      refine ev_ex 2 (c' := (64, [some (.ref 2), some (.int l1), some (.int l2), some (.int l3)], [.int (v4 - 1)], cH c s3)) rfl ?_
      exact ev_ret rfl rfl rfl ⟨_, _, rfl, rfl, H⟩
    · replace H := H.2 (h)
      refine ev_ex 8 (c' := (51, [some (.ref 2), some (.int l1), some (.int (l2 ||| (1 <<< (l3 &&& 31)))), some (.int l3)], [.int l3, .ref 2], cH c s)) rfl ?_
      obtain ⟨H1, H⟩ := H
      refine rc_I (idx := 270) rfl rfl rfl (Nat.le_of_ble_eq_true rfl) (Nat.le_of_ble_eq_true rfl) rfl (K := fun x s' => x = s.2.1 1 (ix (6 + l3)) ∧ s' = s) (z_R_mocked H1 ⟨rfl, rfl⟩) ?_
      rintro _ _ ⟨rfl, rfl⟩
      refine ev_ex 2 (c' := (30, [some (.ref 2), some (.int l1), some (.int (l2 ||| (1 <<< (l3 &&& 31)))), some (.int (s.2.1 1 (ix (6 + l3))))], [], cH c s)) rfl ?_
      exact H
theorem w_R_cakesOf {c : CX} {d : Nat} {s : RS} {Q : Int32 → RS → Prop} (a0 : Int32) (H : (((wth a0.toInt64 0 ((rF s 4 0).2.1 1 1 - 1).toInt64) = true → RV c (d + 1) m_R_laysRow [.ref 2] (rF s 4 0) (fun s1 => eR c (d + 2) m_R_cakesOf 28 [some (.ref 2), some (.int a0), some (.int 0), some (.int 0)] s1 (pI c Q))) ∧ ((wth a0.toInt64 0 ((rF s 4 0).2.1 1 1 - 1).toInt64) = false → Q 0 (rF (rF s 4 0) 4 1)))) : RI c (d + 2) m_R_cakesOf [.ref 2, .int a0] s Q := by
  refine ⟨q_R_cakesOf, rfl, Nat.le_of_ble_eq_true rfl, ?_⟩
  refine ev_ex 0 (c' := (0, [some (.ref 2), some (.int a0), none, none], [], cH c s)) rfl ?_
  refine ev_ex 6 (c' := (8, [some (.ref 2), some (.int a0), none, none], [.long a0.toInt64, .ref 2], cH c (rF s 4 0))) rfl ?_
  refine rc_B (idx := 314) rfl rfl rfl (Nat.le_of_ble_eq_true rfl) (Nat.le_of_ble_eq_true rfl) rfl (K := fun x s' => x = wth a0.toInt64 0 ((rF s 4 0).2.1 1 1 - 1).toInt64 ∧ s' = rF s 4 0) (z_R_isGuild ⟨rfl, rfl⟩) ?_
  rintro _ _ ⟨rfl, rfl⟩
  refine ev_if_neB (x := (wth a0.toInt64 0 ((rF s 4 0).2.1 1 1 - 1).toInt64)) (tgt := 20) rfl rfl (fun h => ?_) (fun h => ?_)
  · replace H := H.1 (h)
    refine ev_ex 1 (c' := (21, [some (.ref 2), some (.int a0), none, none], [.ref 2], cH c (rF s 4 0))) rfl ?_
    refine rc_V (idx := 362) rfl rfl rfl (Nat.le_of_ble_eq_true rfl) (Nat.le_of_ble_eq_true rfl) rfl H (fun s1 H => ?_)
    refine ev_ex 4 (c' := (28, [some (.ref 2), some (.int a0), some (.int 0), some (.int 0)], [], cH c s1)) rfl ?_
    exact H
  · replace H := H.2 (h)
    refine ev_ex 2 (c' := (16, [some (.ref 2), some (.int a0), none, none], [.int 1, .ref 2], cH c (rF s 4 0))) rfl ?_
    refine rc_I (idx := 258) rfl rfl rfl (Nat.le_of_ble_eq_true rfl) (Nat.le_of_ble_eq_true rfl) rfl (K := fun x s' => x = 0 ∧ s' = rF (rF s 4 0) 4 1) (z_R_fails ⟨rfl, rfl⟩) ?_
    rintro _ _ ⟨rfl, rfl⟩
    exact ev_ret rfl rfl rfl ⟨_, _, rfl, rfl, H⟩
theorem w_R_cakesOf_28 {c : CX} {d : Nat} {s : RS} {Q : Int32 → RS → Prop} (l1 : Int32) (l2 : Int32) (l3 : Int32) (H : (((s.1 26) ≤ l3 → Q l2 s) ∧ (¬ (s.1 26) ≤ l3 → (okx l3 20 ∧ ((¬ (s.2.1 9 (ix l3)) = (100 + l1) → eR c (d + 2) m_R_cakesOf 28 [some (.ref 2), some (.int l1), some (.int (l2 + 0)), some (.int (l3 + 1))] s (pI c Q)) ∧ ((s.2.1 9 (ix l3)) = (100 + l1) → eR c (d + 2) m_R_cakesOf 28 [some (.ref 2), some (.int l1), some (.int (l2 + 1)), some (.int (l3 + 1))] s (pI c Q))))))) : eR c (d + 2) m_R_cakesOf 28 [some (.ref 2), some (.int l1), some (.int l2), some (.int l3)] s (pI c Q) := by
  unfold eR
  refine ev_ex 0 (c' := (28, [some (.ref 2), some (.int l1), some (.int l2), some (.int l3)], [], cH c s)) rfl ?_
  refine ev_ex 3 (c' := (33, [some (.ref 2), some (.int l1), some (.int l2), some (.int l3)], [.int (s.1 26), .int l3], cH c s)) rfl ?_
  refine ev_icmp_ge (tgt := 63) rfl rfl (fun h => ?_) (fun h => ?_)
  · replace H := H.1 (h)
    refine ev_ex 1 (c' := (64, [some (.ref 2), some (.int l1), some (.int l2), some (.int l3)], [.int l2], cH c s)) rfl ?_
    exact ev_ret rfl rfl rfl ⟨_, _, rfl, rfl, H⟩
  · replace H := H.2 (h)
    refine ev_ex 4 (c' := (42, [some (.ref 2), some (.int l1), some (.int l2), some (.int l3)], [.int l3, .ref 38, .int l2], cH c s)) rfl ?_
    obtain ⟨H0, H⟩ := H
    refine ev_ald (i := .iaload) rfl (Or.inl rfl) rfl H0 (v := .int (s.2.1 9 (ix l3))) rfl ?_
    refine ev_ex 3 (c' := (47, [some (.ref 2), some (.int l1), some (.int l2), some (.int l3)], [.int (100 + l1), .int (s.2.1 9 (ix l3)), .int l2], cH c s)) rfl ?_
    refine ev_icmp_ne (tgt := 54) rfl rfl (fun h => ?_) (fun h => ?_)
    · replace H := H.1 (h)
      refine ev_ex 5 (c' := (28, [some (.ref 2), some (.int l1), some (.int (l2 + 0)), some (.int (l3 + 1))], [], cH c s)) rfl ?_
      exact H
    · replace H := H.2 (h)
      refine ev_ex 6 (c' := (28, [some (.ref 2), some (.int l1), some (.int (l2 + 1)), some (.int (l3 + 1))], [], cH c s)) rfl ?_
      exact H
theorem w_R_chainOf {c : CX} {d : Nat} {s : RS} {Q : Int32 → RS → Prop} (a0 : Int32) (H : (((wth a0.toInt64 0 ((rF s 4 0).2.1 1 1 - 1).toInt64) = true → RV c (d + 1) m_R_laysRow [.ref 2] (rF s 4 0) (fun s1 => (okx a0 10 ∧ RI c (d + 1) m_R_chainAt [.ref 2, .int (s1.2.1 11 (ix a0))] s1 (fun v3 s2 => Q v3 s2)))) ∧ ((wth a0.toInt64 0 ((rF s 4 0).2.1 1 1 - 1).toInt64) = false → Q 0 (rF (rF s 4 0) 4 1)))) : RI c (d + 2) m_R_chainOf [.ref 2, .int a0] s Q := by
  refine ⟨q_R_chainOf, rfl, Nat.le_of_ble_eq_true rfl, ?_⟩
  refine ev_ex 0 (c' := (0, [some (.ref 2), some (.int a0)], [], cH c s)) rfl ?_
  refine ev_ex 6 (c' := (8, [some (.ref 2), some (.int a0)], [.long a0.toInt64, .ref 2], cH c (rF s 4 0))) rfl ?_
  refine rc_B (idx := 314) rfl rfl rfl (Nat.le_of_ble_eq_true rfl) (Nat.le_of_ble_eq_true rfl) rfl (K := fun x s' => x = wth a0.toInt64 0 ((rF s 4 0).2.1 1 1 - 1).toInt64 ∧ s' = rF s 4 0) (z_R_isGuild ⟨rfl, rfl⟩) ?_
  rintro _ _ ⟨rfl, rfl⟩
  refine ev_if_neB (x := (wth a0.toInt64 0 ((rF s 4 0).2.1 1 1 - 1).toInt64)) (tgt := 20) rfl rfl (fun h => ?_) (fun h => ?_)
  · replace H := H.1 (h)
    refine ev_ex 1 (c' := (21, [some (.ref 2), some (.int a0)], [.ref 2], cH c (rF s 4 0))) rfl ?_
    refine rc_V (idx := 362) rfl rfl rfl (Nat.le_of_ble_eq_true rfl) (Nat.le_of_ble_eq_true rfl) rfl H (fun s1 H => ?_)
    refine ev_ex 4 (c' := (30, [some (.ref 2), some (.int a0)], [.int a0, .ref 46, .ref 2], cH c s1)) rfl ?_
    obtain ⟨H0, H⟩ := H
    refine ev_ald (i := .iaload) rfl (Or.inl rfl) rfl H0 (v := .int (s1.2.1 11 (ix a0))) rfl ?_
    refine rc_I (idx := 411) rfl rfl rfl (Nat.le_of_ble_eq_true rfl) (Nat.le_of_ble_eq_true rfl) rfl H (fun v3 s2 H => ?_)
    exact ev_ret rfl rfl rfl ⟨_, _, rfl, rfl, H⟩
  · replace H := H.2 (h)
    refine ev_ex 2 (c' := (16, [some (.ref 2), some (.int a0)], [.int 1, .ref 2], cH c (rF s 4 0))) rfl ?_
    refine rc_I (idx := 258) rfl rfl rfl (Nat.le_of_ble_eq_true rfl) (Nat.le_of_ble_eq_true rfl) rfl (K := fun x s' => x = 0 ∧ s' = rF (rF s 4 0) 4 1) (z_R_fails ⟨rfl, rfl⟩) ?_
    rintro _ _ ⟨rfl, rfl⟩
    exact ev_ret rfl rfl rfl ⟨_, _, rfl, rfl, H⟩
theorem w_R_longest {c : CX} {d : Nat} {s : RS} {Q : Int32 → RS → Prop}  (H : RV c d m_R_laysRow [.ref 2] (rF s 4 0) (fun s1 => eR c (d + 1) m_R_longest 13 [some (.ref 2), some (.int 0), some (.int 0)] s1 (pI c Q))) : RI c (d + 1) m_R_longest [.ref 2] s Q := by
  refine ⟨q_R_longest, rfl, Nat.le_of_ble_eq_true rfl, ?_⟩
  refine ev_ex 0 (c' := (0, [some (.ref 2), none, none], [], cH c s)) rfl ?_
  refine ev_ex 4 (c' := (6, [some (.ref 2), none, none], [.ref 2], cH c (rF s 4 0))) rfl ?_
  refine rc_V (idx := 362) rfl rfl rfl (Nat.le_of_ble_eq_true rfl) (Nat.le_of_ble_eq_true rfl) rfl H (fun s1 H => ?_)
  refine ev_ex 4 (c' := (13, [some (.ref 2), some (.int 0), some (.int 0)], [], cH c s1)) rfl ?_
  exact H
theorem w_R_longest_13 {c : CX} {d : Nat} {s : RS} {Q : Int32 → RS → Prop} (l1 : Int32) (l2 : Int32) (H : (((s.2.1 1 1) ≤ l2 → Q l1 s) ∧ (¬ (s.2.1 1 1) ≤ l2 → (okx l2 10 ∧ RI c d m_R_chainAt [.ref 2, .int (s.2.1 11 (ix l2))] s (fun v2 s1 => eR c (d + 1) m_R_longest 13 [some (.ref 2), some (.int (mxI l1 v2)), some (.int (l2 + 1))] s1 (pI c Q)))))) : eR c (d + 1) m_R_longest 13 [some (.ref 2), some (.int l1), some (.int l2)] s (pI c Q) := by
  unfold eR
  refine ev_ex 0 (c' := (13, [some (.ref 2), some (.int l1), some (.int l2)], [], cH c s)) rfl ?_
  refine ev_ex 2 (c' := (15, [some (.ref 2), some (.int l1), some (.int l2)], [.ref 2, .int l2], cH c s)) rfl ?_
  refine rc_I (idx := 267) rfl rfl rfl (Nat.le_of_ble_eq_true rfl) (Nat.le_of_ble_eq_true rfl) rfl (K := fun x s' => x = s.2.1 1 1 ∧ s' = s) (z_R_guilds ⟨rfl, rfl⟩) ?_
  rintro _ _ ⟨rfl, rfl⟩
  refine ev_icmp_ge (tgt := 42) rfl rfl (fun h => ?_) (fun h => ?_)
  · replace H := H.1 (h)
    refine ev_ex 1 (c' := (43, [some (.ref 2), some (.int l1), some (.int l2)], [.int l1], cH c s)) rfl ?_
    exact ev_ret rfl rfl rfl ⟨_, _, rfl, rfl, H⟩
  · replace H := H.2 (h)
    refine ev_ex 5 (c' := (28, [some (.ref 2), some (.int l1), some (.int l2)], [.int l2, .ref 46, .ref 2, .int l1], cH c s)) rfl ?_
    obtain ⟨H0, H⟩ := H
    refine ev_ald (i := .iaload) rfl (Or.inl rfl) rfl H0 (v := .int (s.2.1 11 (ix l2))) rfl ?_
    refine rc_I (idx := 411) rfl rfl rfl (Nat.le_of_ble_eq_true rfl) (Nat.le_of_ble_eq_true rfl) rfl H (fun v2 s1 H => ?_)
    refine rc_I (idx := 414) rfl rfl rfl (Nat.le_of_ble_eq_true rfl) (Nat.le_of_ble_eq_true rfl) rfl (K := fun x s' => x = mxI l1 v2 ∧ s' = s1) (z_JM_max ⟨rfl, rfl⟩) ?_
    rintro _ _ ⟨rfl, rfl⟩
    refine ev_ex 3 (c' := (13, [some (.ref 2), some (.int (mxI l1 v2)), some (.int (l2 + 1))], [], cH c s1)) rfl ?_
    exact H
theorem w_R_freeFor {c : CX} {d : Nat} {s : RS} {Q : Int32 → RS → Prop} (a0 : Int32) (H : (((wth a0.toInt64 0 ((rF s 4 0).2.1 1 1 - 1).toInt64) = true → RV c (d + 1) m_R_laysRow [.ref 2] (rF s 4 0) (fun s1 => (okx (6 + a0) 2101 ∧ eR c (d + 2) m_R_freeFor 41 [some (.ref 2), some (.int a0), some (.int (s1.1 27)), some (.int (s1.2.1 1 (ix (6 + a0)))), some (.int 0), some (.int 0)] s1 (pI c Q)))) ∧ ((wth a0.toInt64 0 ((rF s 4 0).2.1 1 1 - 1).toInt64) = false → Q 0 (rF (rF s 4 0) 4 1)))) : RI c (d + 2) m_R_freeFor [.ref 2, .int a0] s Q := by
  refine ⟨q_R_freeFor, rfl, Nat.le_of_ble_eq_true rfl, ?_⟩
  refine ev_ex 0 (c' := (0, [some (.ref 2), some (.int a0), none, none, none, none], [], cH c s)) rfl ?_
  refine ev_ex 6 (c' := (8, [some (.ref 2), some (.int a0), none, none, none, none], [.long a0.toInt64, .ref 2], cH c (rF s 4 0))) rfl ?_
  refine rc_B (idx := 314) rfl rfl rfl (Nat.le_of_ble_eq_true rfl) (Nat.le_of_ble_eq_true rfl) rfl (K := fun x s' => x = wth a0.toInt64 0 ((rF s 4 0).2.1 1 1 - 1).toInt64 ∧ s' = rF s 4 0) (z_R_isGuild ⟨rfl, rfl⟩) ?_
  rintro _ _ ⟨rfl, rfl⟩
  refine ev_if_neB (x := (wth a0.toInt64 0 ((rF s 4 0).2.1 1 1 - 1).toInt64)) (tgt := 20) rfl rfl (fun h => ?_) (fun h => ?_)
  · replace H := H.1 (h)
    refine ev_ex 1 (c' := (21, [some (.ref 2), some (.int a0), none, none, none, none], [.ref 2], cH c (rF s 4 0))) rfl ?_
    refine rc_V (idx := 362) rfl rfl rfl (Nat.le_of_ble_eq_true rfl) (Nat.le_of_ble_eq_true rfl) rfl H (fun s1 H => ?_)
    refine ev_ex 5 (c' := (31, [some (.ref 2), some (.int a0), some (.int (s1.1 27)), none, none, none], [.int a0, .ref 2], cH c s1)) rfl ?_
    obtain ⟨H1, H⟩ := H
    refine rc_I (idx := 270) rfl rfl rfl (Nat.le_of_ble_eq_true rfl) (Nat.le_of_ble_eq_true rfl) rfl (K := fun x s' => x = s1.2.1 1 (ix (6 + a0)) ∧ s' = s1) (z_R_mocked H1 ⟨rfl, rfl⟩) ?_
    rintro _ _ ⟨rfl, rfl⟩
    refine ev_ex 5 (c' := (41, [some (.ref 2), some (.int a0), some (.int (s1.1 27)), some (.int (s1.2.1 1 (ix (6 + a0)))), some (.int 0), some (.int 0)], [], cH c s1)) rfl ?_
    exact H
  · replace H := H.2 (h)
    refine ev_ex 2 (c' := (16, [some (.ref 2), some (.int a0), none, none, none, none], [.int 1, .ref 2], cH c (rF s 4 0))) rfl ?_
    refine rc_I (idx := 258) rfl rfl rfl (Nat.le_of_ble_eq_true rfl) (Nat.le_of_ble_eq_true rfl) rfl (K := fun x s' => x = 0 ∧ s' = rF (rF s 4 0) 4 1) (z_R_fails ⟨rfl, rfl⟩) ?_
    rintro _ _ ⟨rfl, rfl⟩
    exact ev_ret rfl rfl rfl ⟨_, _, rfl, rfl, H⟩
theorem w_R_freeFor_41 {c : CX} {d : Nat} {s : RS} {Q : Int32 → RS → Prop} (l1 : Int32) (l2 : Int32) (l3 : Int32) (l4 : Int32) (l5 : Int32) (H : (((s.2.1 1 1) ≤ l5 → Q l4 s) ∧ (¬ (s.2.1 1 1) ≤ l5 → ((l5 = l1 → eR c (d + 2) m_R_freeFor 41 [some (.ref 2), some (.int l1), some (.int l2), some (.int l3), some (.int l4), some (.int (l5 + 1))] s (pI c Q)) ∧ (¬ l5 = l1 → RB c (d + 1) m_R_mayMock [.ref 2, .int l1, .int l5] s (fun v2 s1 => ((v2 = true → (okx (6 + l1) 2101 ∧ RV c (d + 1) m_R_laysRow [.ref 2] (rA s1 1 (ix (6 + l1)) l5) (fun s3 => ((l2 < (s3.1 27) → (okx (6 + l1) 2101 ∧ eR c (d + 2) m_R_freeFor 41 [some (.ref 2), some (.int l1), some (.int l2), some (.int l3), some (.int (l4 ||| 0)), some (.int (l5 + 1))] (rA s3 1 (ix (6 + l1)) l3) (pI c Q))) ∧ (¬ l2 < (s3.1 27) → (okx (6 + l1) 2101 ∧ eR c (d + 2) m_R_freeFor 41 [some (.ref 2), some (.int l1), some (.int l2), some (.int l3), some (.int (l4 ||| (1 <<< (l5 &&& 31)))), some (.int (l5 + 1))] (rA s3 1 (ix (6 + l1)) l3) (pI c Q))))))) ∧ (v2 = false → eR c (d + 2) m_R_freeFor 41 [some (.ref 2), some (.int l1), some (.int l2), some (.int l3), some (.int l4), some (.int (l5 + 1))] s1 (pI c Q))))))))) : eR c (d + 2) m_R_freeFor 41 [some (.ref 2), some (.int l1), some (.int l2), some (.int l3), some (.int l4), some (.int l5)] s (pI c Q) := by
  unfold eR
  refine ev_ex 0 (c' := (41, [some (.ref 2), some (.int l1), some (.int l2), some (.int l3), some (.int l4), some (.int l5)], [], cH c s)) rfl ?_
  refine ev_ex 2 (c' := (44, [some (.ref 2), some (.int l1), some (.int l2), some (.int l3), some (.int l4), some (.int l5)], [.ref 2, .int l5], cH c s)) rfl ?_
  refine rc_I (idx := 267) rfl rfl rfl (Nat.le_of_ble_eq_true rfl) (Nat.le_of_ble_eq_true rfl) rfl (K := fun x s' => x = s.2.1 1 1 ∧ s' = s) (z_R_guilds ⟨rfl, rfl⟩) ?_
  rintro _ _ ⟨rfl, rfl⟩
  refine ev_icmp_ge (tgt := 121) rfl rfl (fun h => ?_) (fun h => ?_)
  · replace H := H.1 (h)
    refine ev_ex 1 (c' := (123, [some (.ref 2), some (.int l1), some (.int l2), some (.int l3), some (.int l4), some (.int l5)], [.int l4], cH c s)) rfl ?_
    exact ev_ret rfl rfl rfl ⟨_, _, rfl, rfl, H⟩
  · replace H := H.2 (h)
    refine ev_ex 2 (c' := (53, [some (.ref 2), some (.int l1), some (.int l2), some (.int l3), some (.int l4), some (.int l5)], [.int l1, .int l5], cH c s)) rfl ?_
    refine ev_icmp_eq (tgt := 115) rfl rfl (fun h => ?_) (fun h => ?_)
    · replace H := H.1 (h)
      refine ev_ex 2 (c' := (41, [some (.ref 2), some (.int l1), some (.int l2), some (.int l3), some (.int l4), some (.int (l5 + 1))], [], cH c s)) rfl ?_
      exact H
    · replace H := H.2 (h)
      refine ev_ex 3 (c' := (60, [some (.ref 2), some (.int l1), some (.int l2), some (.int l3), some (.int l4), some (.int l5)], [.int l5, .int l1, .ref 2], cH c s)) rfl ?_
      refine rc_B (idx := 320) rfl rfl rfl (Nat.le_of_ble_eq_true rfl) (Nat.le_of_ble_eq_true rfl) rfl H (fun v2 s1 H => ?_)
      refine ev_if_neB (x := v2) (tgt := 69) rfl rfl (fun h => ?_) (fun h => ?_)
      · replace H := H.1 (h)
        refine ev_ex 6 (c' := (79, [some (.ref 2), some (.int l1), some (.int l2), some (.int l3), some (.int l4), some (.int l5)], [.int l5, .int (6 + l1), .ref 6], cH c s1)) rfl ?_
        obtain ⟨H0, H⟩ := H
        refine ev_ast (i := .iastore) rfl (Or.inl rfl) rfl H0 (by decide) rfl rfl (σ' := cH c (rA s1 1 (ix (6 + l1)) l5)) rfl ?_
        refine ev_ex 1 (c' := (81, [some (.ref 2), some (.int l1), some (.int l2), some (.int l3), some (.int l4), some (.int l5)], [.ref 2], cH c (rA s1 1 (ix (6 + l1)) l5))) rfl ?_
        refine rc_V (idx := 362) rfl rfl rfl (Nat.le_of_ble_eq_true rfl) (Nat.le_of_ble_eq_true rfl) rfl H (fun s3 H => ?_)
        refine ev_ex 4 (c' := (91, [some (.ref 2), some (.int l1), some (.int l2), some (.int l3), some (.int l4), some (.int l5)], [.int l2, .int (s3.1 27), .int l4], cH c s3)) rfl ?_
        refine ev_icmp_gt (tgt := 101) rfl rfl (fun h => ?_) (fun h => ?_)
        · replace H := H.1 (h)
          refine ev_ex 9 (c' := (114, [some (.ref 2), some (.int l1), some (.int l2), some (.int l3), some (.int (l4 ||| 0)), some (.int l5)], [.int l3, .int (6 + l1), .ref 6], cH c s3)) rfl ?_
          obtain ⟨H0, H⟩ := H
          refine ev_ast (i := .iastore) rfl (Or.inl rfl) rfl H0 (by decide) rfl rfl (σ' := cH c (rA s3 1 (ix (6 + l1)) l3)) rfl ?_
          refine ev_ex 2 (c' := (41, [some (.ref 2), some (.int l1), some (.int l2), some (.int l3), some (.int (l4 ||| 0)), some (.int (l5 + 1))], [], cH c (rA s3 1 (ix (6 + l1)) l3))) rfl ?_
          exact H
        · replace H := H.2 (h)
          refine ev_ex 12 (c' := (114, [some (.ref 2), some (.int l1), some (.int l2), some (.int l3), some (.int (l4 ||| (1 <<< (l5 &&& 31)))), some (.int l5)], [.int l3, .int (6 + l1), .ref 6], cH c s3)) rfl ?_
          obtain ⟨H0, H⟩ := H
          refine ev_ast (i := .iastore) rfl (Or.inl rfl) rfl H0 (by decide) rfl rfl (σ' := cH c (rA s3 1 (ix (6 + l1)) l3)) rfl ?_
          refine ev_ex 2 (c' := (41, [some (.ref 2), some (.int l1), some (.int l2), some (.int l3), some (.int (l4 ||| (1 <<< (l5 &&& 31)))), some (.int (l5 + 1))], [], cH c (rA s3 1 (ix (6 + l1)) l3))) rfl ?_
          exact H
      · replace H := H.2 (h)
        refine ev_ex 3 (c' := (41, [some (.ref 2), some (.int l1), some (.int l2), some (.int l3), some (.int l4), some (.int (l5 + 1))], [], cH c s1)) rfl ?_
        exact H
theorem w_R_at {c : CX} {d : Nat} {s : RS} {Q : Int32 → RS → Prop} (a0 : Int32) (a1 : Int32) (H : (((wth a0.toInt64 0 (s.2.1 1 1 - 1).toInt64) = true → ((0 ≤ a1 → ((((rF s 4 0).1 4) ≤ 0 → RV c (d + 1) m_R_laysRow [.ref 2] (rF s 4 0) (fun s1 => RI c (d + 1) m_R_stepAt [.ref 2, .int a0, .int a1] s1 (fun v3 s2 => Q v3 s2))) ∧ (¬ ((rF s 4 0).1 4) ≤ 0 → Q 0 (rF s 4 0)))) ∧ (¬ 0 ≤ a1 → ((((rF s 4 2).1 4) ≤ 0 → RV c (d + 1) m_R_laysRow [.ref 2] (rF s 4 2) (fun s4 => RI c (d + 1) m_R_stepAt [.ref 2, .int a0, .int a1] s4 (fun v6 s5 => Q v6 s5))) ∧ (¬ ((rF s 4 2).1 4) ≤ 0 → Q 0 (rF s 4 2)))))) ∧ ((wth a0.toInt64 0 (s.2.1 1 1 - 1).toInt64) = false → ((((rF s 4 1).1 4) ≤ 0 → RV c (d + 1) m_R_laysRow [.ref 2] (rF s 4 1) (fun s7 => RI c (d + 1) m_R_stepAt [.ref 2, .int a0, .int a1] s7 (fun v9 s8 => Q v9 s8))) ∧ (¬ ((rF s 4 1).1 4) ≤ 0 → Q 0 (rF s 4 1)))))) : RI c (d + 2) m_R_at [.ref 2, .int a0, .int a1] s Q := by
  refine ⟨q_R_at, rfl, Nat.le_of_ble_eq_true rfl, ?_⟩
  refine ev_ex 0 (c' := (0, [some (.ref 2), some (.int a0), some (.int a1)], [], cH c s)) rfl ?_
  refine ev_ex 4 (c' := (4, [some (.ref 2), some (.int a0), some (.int a1)], [.long a0.toInt64, .ref 2, .ref 2], cH c s)) rfl ?_
  refine rc_B (idx := 314) rfl rfl rfl (Nat.le_of_ble_eq_true rfl) (Nat.le_of_ble_eq_true rfl) rfl (K := fun x s' => x = wth a0.toInt64 0 (s.2.1 1 1 - 1).toInt64 ∧ s' = s) (z_R_isGuild ⟨rfl, rfl⟩) ?_
  rintro _ _ ⟨rfl, rfl⟩
  refine ev_if_neB (x := (wth a0.toInt64 0 (s.2.1 1 1 - 1).toInt64)) (tgt := 14) rfl rfl (fun h => ?_) (fun h => ?_)
  · replace H := H.1 (h)
    refine ev_ex 1 (c' := (15, [some (.ref 2), some (.int a0), some (.int a1)], [.int a1, .ref 2], cH c s)) rfl ?_
    refine ev_if_ge (tgt := 22) rfl rfl (fun h => ?_) (fun h => ?_)
    · replace H := H.1 (h)
      refine ev_ex 4 (c' := (30, [some (.ref 2), some (.int a0), some (.int a1)], [.int ((rF s 4 0).1 4)], cH c (rF s 4 0))) rfl ?_
      refine ev_if_le (tgt := 35) rfl rfl (fun h => ?_) (fun h => ?_)
      · replace H := H.1 (h)
        refine ev_ex 1 (c' := (36, [some (.ref 2), some (.int a0), some (.int a1)], [.ref 2], cH c (rF s 4 0))) rfl ?_
        refine rc_V (idx := 362) rfl rfl rfl (Nat.le_of_ble_eq_true rfl) (Nat.le_of_ble_eq_true rfl) rfl H (fun s1 H => ?_)
        refine ev_ex 3 (c' := (42, [some (.ref 2), some (.int a0), some (.int a1)], [.int a1, .int a0, .ref 2], cH c s1)) rfl ?_
        refine rc_I (idx := 424) rfl rfl rfl (Nat.le_of_ble_eq_true rfl) (Nat.le_of_ble_eq_true rfl) rfl H (fun v3 s2 H => ?_)
        exact ev_ret rfl rfl rfl ⟨_, _, rfl, rfl, H⟩
      · replace H := H.2 (h)
        refine ev_ex 1 (c' := (34, [some (.ref 2), some (.int a0), some (.int a1)], [.int 0], cH c (rF s 4 0))) rfl ?_
        exact ev_ret rfl rfl rfl ⟨_, _, rfl, rfl, H⟩
    · replace H := H.2 (h)
      refine ev_ex 5 (c' := (30, [some (.ref 2), some (.int a0), some (.int a1)], [.int ((rF s 4 2).1 4)], cH c (rF s 4 2))) rfl ?_
      refine ev_if_le (tgt := 35) rfl rfl (fun h => ?_) (fun h => ?_)
      · replace H := H.1 (h)
        refine ev_ex 1 (c' := (36, [some (.ref 2), some (.int a0), some (.int a1)], [.ref 2], cH c (rF s 4 2))) rfl ?_
        refine rc_V (idx := 362) rfl rfl rfl (Nat.le_of_ble_eq_true rfl) (Nat.le_of_ble_eq_true rfl) rfl H (fun s4 H => ?_)
        refine ev_ex 3 (c' := (42, [some (.ref 2), some (.int a0), some (.int a1)], [.int a1, .int a0, .ref 2], cH c s4)) rfl ?_
        refine rc_I (idx := 424) rfl rfl rfl (Nat.le_of_ble_eq_true rfl) (Nat.le_of_ble_eq_true rfl) rfl H (fun v6 s5 H => ?_)
        exact ev_ret rfl rfl rfl ⟨_, _, rfl, rfl, H⟩
      · replace H := H.2 (h)
        refine ev_ex 1 (c' := (34, [some (.ref 2), some (.int a0), some (.int a1)], [.int 0], cH c (rF s 4 2))) rfl ?_
        exact ev_ret rfl rfl rfl ⟨_, _, rfl, rfl, H⟩
  · replace H := H.2 (h)
    refine ev_ex 5 (c' := (30, [some (.ref 2), some (.int a0), some (.int a1)], [.int ((rF s 4 1).1 4)], cH c (rF s 4 1))) rfl ?_
    refine ev_if_le (tgt := 35) rfl rfl (fun h => ?_) (fun h => ?_)
    · replace H := H.1 (h)
      refine ev_ex 1 (c' := (36, [some (.ref 2), some (.int a0), some (.int a1)], [.ref 2], cH c (rF s 4 1))) rfl ?_
      refine rc_V (idx := 362) rfl rfl rfl (Nat.le_of_ble_eq_true rfl) (Nat.le_of_ble_eq_true rfl) rfl H (fun s7 H => ?_)
      refine ev_ex 3 (c' := (42, [some (.ref 2), some (.int a0), some (.int a1)], [.int a1, .int a0, .ref 2], cH c s7)) rfl ?_
      refine rc_I (idx := 424) rfl rfl rfl (Nat.le_of_ble_eq_true rfl) (Nat.le_of_ble_eq_true rfl) rfl H (fun v9 s8 H => ?_)
      exact ev_ret rfl rfl rfl ⟨_, _, rfl, rfl, H⟩
    · replace H := H.2 (h)
      refine ev_ex 1 (c' := (34, [some (.ref 2), some (.int a0), some (.int a1)], [.int 0], cH c (rF s 4 1))) rfl ?_
      exact ev_ret rfl rfl rfl ⟨_, _, rfl, rfl, H⟩
theorem w_R_arrives {c : CX} {d : Nat} {s : RS} {Q : Int32 → RS → Prop} (a0 : Int32) (H : (((wth a0.toInt64 0 ((rF s 4 0).2.1 1 1 - 1).toInt64) = true → RV c (d + 1) m_R_laysRow [.ref 2] (rF s 4 0) (fun s1 => (okx a0 10 ∧ (okx (s1.2.1 11 (ix a0)) 21 ∧ RI c (d + 1) m_R_steps [.ref 2] s1 (fun v3 s2 => Q ((s1.2.1 10 (ix (s1.2.1 11 (ix a0)))) + v3) s2))))) ∧ ((wth a0.toInt64 0 ((rF s 4 0).2.1 1 1 - 1).toInt64) = false → Q 0 (rF (rF s 4 0) 4 1)))) : RI c (d + 2) m_R_arrives [.ref 2, .int a0] s Q := by
  refine ⟨q_R_arrives, rfl, Nat.le_of_ble_eq_true rfl, ?_⟩
  refine ev_ex 0 (c' := (0, [some (.ref 2), some (.int a0)], [], cH c s)) rfl ?_
  refine ev_ex 6 (c' := (8, [some (.ref 2), some (.int a0)], [.long a0.toInt64, .ref 2], cH c (rF s 4 0))) rfl ?_
  refine rc_B (idx := 314) rfl rfl rfl (Nat.le_of_ble_eq_true rfl) (Nat.le_of_ble_eq_true rfl) rfl (K := fun x s' => x = wth a0.toInt64 0 ((rF s 4 0).2.1 1 1 - 1).toInt64 ∧ s' = rF s 4 0) (z_R_isGuild ⟨rfl, rfl⟩) ?_
  rintro _ _ ⟨rfl, rfl⟩
  refine ev_if_neB (x := (wth a0.toInt64 0 ((rF s 4 0).2.1 1 1 - 1).toInt64)) (tgt := 20) rfl rfl (fun h => ?_) (fun h => ?_)
  · replace H := H.1 (h)
    refine ev_ex 1 (c' := (21, [some (.ref 2), some (.int a0)], [.ref 2], cH c (rF s 4 0))) rfl ?_
    refine rc_V (idx := 362) rfl rfl rfl (Nat.le_of_ble_eq_true rfl) (Nat.le_of_ble_eq_true rfl) rfl H (fun s1 H => ?_)
    refine ev_ex 5 (c' := (33, [some (.ref 2), some (.int a0)], [.int a0, .ref 46, .ref 42], cH c s1)) rfl ?_
    obtain ⟨H0, H⟩ := H
    refine ev_ald (i := .iaload) rfl (Or.inl rfl) rfl H0 (v := .int (s1.2.1 11 (ix a0))) rfl ?_
    obtain ⟨H0, H⟩ := H
    refine ev_ald (i := .iaload) rfl (Or.inl rfl) rfl H0 (v := .int (s1.2.1 10 (ix (s1.2.1 11 (ix a0))))) rfl ?_
    refine ev_ex 1 (c' := (36, [some (.ref 2), some (.int a0)], [.ref 2, .int (s1.2.1 10 (ix (s1.2.1 11 (ix a0))))], cH c s1)) rfl ?_
    refine rc_I (idx := 418) rfl rfl rfl (Nat.le_of_ble_eq_true rfl) (Nat.le_of_ble_eq_true rfl) rfl H (fun v3 s2 H => ?_)
    refine ev_ex 1 (c' := (40, [some (.ref 2), some (.int a0)], [.int ((s1.2.1 10 (ix (s1.2.1 11 (ix a0)))) + v3)], cH c s2)) rfl ?_
    exact ev_ret rfl rfl rfl ⟨_, _, rfl, rfl, H⟩
  · replace H := H.2 (h)
    refine ev_ex 2 (c' := (16, [some (.ref 2), some (.int a0)], [.int 1, .ref 2], cH c (rF s 4 0))) rfl ?_
    refine rc_I (idx := 258) rfl rfl rfl (Nat.le_of_ble_eq_true rfl) (Nat.le_of_ble_eq_true rfl) rfl (K := fun x s' => x = 0 ∧ s' = rF (rF s 4 0) 4 1) (z_R_fails ⟨rfl, rfl⟩) ?_
    rintro _ _ ⟨rfl, rfl⟩
    exact ev_ret rfl rfl rfl ⟨_, _, rfl, rfl, H⟩
theorem w_R_meets {c : CX} {d : Nat} {s : RS} {Q : Int32 → RS → Prop} (a0 : Int32) (a1 : Int32) (H : (((wth a0.toInt64 0 (s.2.1 1 1 - 1).toInt64) = false → ((((rF s 4 1).1 4) ≤ 0 → RV c (d + 1) m_R_laysRow [.ref 2] (rF s 4 1) (fun s1 => eR c (d + 2) m_R_meets 51 [some (.ref 2), some (.int a0), some (.int a1), some (.int 0)] s1 (pI c Q))) ∧ (¬ ((rF s 4 1).1 4) ≤ 0 → Q 0 (rF s 4 1)))) ∧ ((wth a0.toInt64 0 (s.2.1 1 1 - 1).toInt64) = true → (((wth a1.toInt64 0 (s.2.1 1 1 - 1).toInt64) = true → ((¬ a0 = a1 → ((((rF s 4 0).1 4) ≤ 0 → RV c (d + 1) m_R_laysRow [.ref 2] (rF s 4 0) (fun s2 => eR c (d + 2) m_R_meets 51 [some (.ref 2), some (.int a0), some (.int a1), some (.int 0)] s2 (pI c Q))) ∧ (¬ ((rF s 4 0).1 4) ≤ 0 → Q 0 (rF s 4 0)))) ∧ (a0 = a1 → ((((rF s 4 2).1 4) ≤ 0 → RV c (d + 1) m_R_laysRow [.ref 2] (rF s 4 2) (fun s3 => eR c (d + 2) m_R_meets 51 [some (.ref 2), some (.int a0), some (.int a1), some (.int 0)] s3 (pI c Q))) ∧ (¬ ((rF s 4 2).1 4) ≤ 0 → Q 0 (rF s 4 2)))))) ∧ ((wth a1.toInt64 0 (s.2.1 1 1 - 1).toInt64) = false → ((((rF s 4 1).1 4) ≤ 0 → RV c (d + 1) m_R_laysRow [.ref 2] (rF s 4 1) (fun s4 => eR c (d + 2) m_R_meets 51 [some (.ref 2), some (.int a0), some (.int a1), some (.int 0)] s4 (pI c Q))) ∧ (¬ ((rF s 4 1).1 4) ≤ 0 → Q 0 (rF s 4 1)))))))) : RI c (d + 2) m_R_meets [.ref 2, .int a0, .int a1] s Q := by
  refine ⟨q_R_meets, rfl, Nat.le_of_ble_eq_true rfl, ?_⟩
  refine ev_ex 0 (c' := (0, [some (.ref 2), some (.int a0), some (.int a1), none], [], cH c s)) rfl ?_
  refine ev_ex 4 (c' := (4, [some (.ref 2), some (.int a0), some (.int a1), none], [.long a0.toInt64, .ref 2, .ref 2], cH c s)) rfl ?_
  refine rc_B (idx := 314) rfl rfl rfl (Nat.le_of_ble_eq_true rfl) (Nat.le_of_ble_eq_true rfl) rfl (K := fun x s' => x = wth a0.toInt64 0 (s.2.1 1 1 - 1).toInt64 ∧ s' = s) (z_R_isGuild ⟨rfl, rfl⟩) ?_
  rintro _ _ ⟨rfl, rfl⟩
  refine ev_if_eqB (x := (wth a0.toInt64 0 (s.2.1 1 1 - 1).toInt64)) (tgt := 19) rfl rfl (fun h => ?_) (fun h => ?_)
  · replace H := H.1 (h)
    refine ev_ex 5 (c' := (40, [some (.ref 2), some (.int a0), some (.int a1), none], [.int ((rF s 4 1).1 4)], cH c (rF s 4 1))) rfl ?_
    refine ev_if_le (tgt := 45) rfl rfl (fun h => ?_) (fun h => ?_)
    · replace H := H.1 (h)
      refine ev_ex 1 (c' := (46, [some (.ref 2), some (.int a0), some (.int a1), none], [.ref 2], cH c (rF s 4 1))) rfl ?_
      refine rc_V (idx := 362) rfl rfl rfl (Nat.le_of_ble_eq_true rfl) (Nat.le_of_ble_eq_true rfl) rfl H (fun s1 H => ?_)
      refine ev_ex 2 (c' := (51, [some (.ref 2), some (.int a0), some (.int a1), some (.int 0)], [], cH c s1)) rfl ?_
      exact H
    · replace H := H.2 (h)
      refine ev_ex 1 (c' := (44, [some (.ref 2), some (.int a0), some (.int a1), none], [.int 0], cH c (rF s 4 1))) rfl ?_
      exact ev_ret rfl rfl rfl ⟨_, _, rfl, rfl, H⟩
  · replace H := H.2 (h)
    refine ev_ex 3 (c' := (13, [some (.ref 2), some (.int a0), some (.int a1), none], [.long a1.toInt64, .ref 2, .ref 2], cH c s)) rfl ?_
    refine rc_B (idx := 314) rfl rfl rfl (Nat.le_of_ble_eq_true rfl) (Nat.le_of_ble_eq_true rfl) rfl (K := fun x s' => x = wth a1.toInt64 0 (s.2.1 1 1 - 1).toInt64 ∧ s' = s) (z_R_isGuild ⟨rfl, rfl⟩) ?_
    rintro _ _ ⟨rfl, rfl⟩
    refine ev_if_neB (x := (wth a1.toInt64 0 (s.2.1 1 1 - 1).toInt64)) (tgt := 23) rfl rfl (fun h => ?_) (fun h => ?_)
    · replace H := H.1 (h)
      refine ev_ex 2 (c' := (25, [some (.ref 2), some (.int a0), some (.int a1), none], [.int a1, .int a0, .ref 2], cH c s)) rfl ?_
      refine ev_icmp_ne (tgt := 32) rfl rfl (fun h => ?_) (fun h => ?_)
      · replace H := H.1 (h)
        refine ev_ex 4 (c' := (40, [some (.ref 2), some (.int a0), some (.int a1), none], [.int ((rF s 4 0).1 4)], cH c (rF s 4 0))) rfl ?_
        refine ev_if_le (tgt := 45) rfl rfl (fun h => ?_) (fun h => ?_)
        · replace H := H.1 (h)
          refine ev_ex 1 (c' := (46, [some (.ref 2), some (.int a0), some (.int a1), none], [.ref 2], cH c (rF s 4 0))) rfl ?_
          refine rc_V (idx := 362) rfl rfl rfl (Nat.le_of_ble_eq_true rfl) (Nat.le_of_ble_eq_true rfl) rfl H (fun s2 H => ?_)
          refine ev_ex 2 (c' := (51, [some (.ref 2), some (.int a0), some (.int a1), some (.int 0)], [], cH c s2)) rfl ?_
          exact H
        · replace H := H.2 (h)
          refine ev_ex 1 (c' := (44, [some (.ref 2), some (.int a0), some (.int a1), none], [.int 0], cH c (rF s 4 0))) rfl ?_
          exact ev_ret rfl rfl rfl ⟨_, _, rfl, rfl, H⟩
      · replace H := H.2 (h)
        refine ev_ex 5 (c' := (40, [some (.ref 2), some (.int a0), some (.int a1), none], [.int ((rF s 4 2).1 4)], cH c (rF s 4 2))) rfl ?_
        refine ev_if_le (tgt := 45) rfl rfl (fun h => ?_) (fun h => ?_)
        · replace H := H.1 (h)
          refine ev_ex 1 (c' := (46, [some (.ref 2), some (.int a0), some (.int a1), none], [.ref 2], cH c (rF s 4 2))) rfl ?_
          refine rc_V (idx := 362) rfl rfl rfl (Nat.le_of_ble_eq_true rfl) (Nat.le_of_ble_eq_true rfl) rfl H (fun s3 H => ?_)
          refine ev_ex 2 (c' := (51, [some (.ref 2), some (.int a0), some (.int a1), some (.int 0)], [], cH c s3)) rfl ?_
          exact H
        · replace H := H.2 (h)
          refine ev_ex 1 (c' := (44, [some (.ref 2), some (.int a0), some (.int a1), none], [.int 0], cH c (rF s 4 2))) rfl ?_
          exact ev_ret rfl rfl rfl ⟨_, _, rfl, rfl, H⟩
    · replace H := H.2 (h)
      refine ev_ex 5 (c' := (40, [some (.ref 2), some (.int a0), some (.int a1), none], [.int ((rF s 4 1).1 4)], cH c (rF s 4 1))) rfl ?_
      refine ev_if_le (tgt := 45) rfl rfl (fun h => ?_) (fun h => ?_)
      · replace H := H.1 (h)
        refine ev_ex 1 (c' := (46, [some (.ref 2), some (.int a0), some (.int a1), none], [.ref 2], cH c (rF s 4 1))) rfl ?_
        refine rc_V (idx := 362) rfl rfl rfl (Nat.le_of_ble_eq_true rfl) (Nat.le_of_ble_eq_true rfl) rfl H (fun s4 H => ?_)
        refine ev_ex 2 (c' := (51, [some (.ref 2), some (.int a0), some (.int a1), some (.int 0)], [], cH c s4)) rfl ?_
        exact H
      · replace H := H.2 (h)
        refine ev_ex 1 (c' := (44, [some (.ref 2), some (.int a0), some (.int a1), none], [.int 0], cH c (rF s 4 1))) rfl ?_
        exact ev_ret rfl rfl rfl ⟨_, _, rfl, rfl, H⟩
theorem w_R_meets_51 {c : CX} {d : Nat} {s : RS} {Q : Int32 → RS → Prop} (l1 : Int32) (l2 : Int32) (l3 : Int32) (H : RI c (d + 1) m_R_lastMinute [.ref 2] s (fun v2 s1 => ((v2 < l3 → Q ((-1)) s1) ∧ (¬ v2 < l3 → RB c (d + 1) m_R_areMeeting [.ref 2, .int l1, .int l2, .int l3] s1 (fun v4 s3 => ((v4 = false → eR c (d + 2) m_R_meets 51 [some (.ref 2), some (.int l1), some (.int l2), some (.int (l3 + 1))] s3 (pI c Q)) ∧ (v4 = true → Q l3 s3))))))) : eR c (d + 2) m_R_meets 51 [some (.ref 2), some (.int l1), some (.int l2), some (.int l3)] s (pI c Q) := by
  unfold eR
  refine ev_ex 0 (c' := (51, [some (.ref 2), some (.int l1), some (.int l2), some (.int l3)], [], cH c s)) rfl ?_
  refine ev_ex 2 (c' := (53, [some (.ref 2), some (.int l1), some (.int l2), some (.int l3)], [.ref 2, .int l3], cH c s)) rfl ?_
  refine rc_I (idx := 430) rfl rfl rfl (Nat.le_of_ble_eq_true rfl) (Nat.le_of_ble_eq_true rfl) rfl H (fun v2 s1 H => ?_)
  refine ev_icmp_gt (tgt := 77) rfl rfl (fun h => ?_) (fun h => ?_)
  · replace H := H.1 (h)
    refine ev_ex 1 (c' := (78, [some (.ref 2), some (.int l1), some (.int l2), some (.int l3)], [.int ((-1))], cH c s1)) rfl ?_
    exact ev_ret rfl rfl rfl ⟨_, _, rfl, rfl, H⟩
  · replace H := H.2 (h)
    refine ev_ex 4 (c' := (63, [some (.ref 2), some (.int l1), some (.int l2), some (.int l3)], [.int l3, .int l2, .int l1, .ref 2], cH c s1)) rfl ?_
    refine rc_B (idx := 433) rfl rfl rfl (Nat.le_of_ble_eq_true rfl) (Nat.le_of_ble_eq_true rfl) rfl H (fun v4 s3 H => ?_)
    refine ev_if_eqB (x := v4) (tgt := 71) rfl rfl (fun h => ?_) (fun h => ?_)
    · replace H := H.1 (h)
      refine ev_ex 2 (c' := (51, [some (.ref 2), some (.int l1), some (.int l2), some (.int (l3 + 1))], [], cH c s3)) rfl ?_
      exact H
    · replace H := H.2 (h)
      refine ev_ex 1 (c' := (70, [some (.ref 2), some (.int l1), some (.int l2), some (.int l3)], [.int l3], cH c s3)) rfl ?_
      exact ev_ret rfl rfl rfl ⟨_, _, rfl, rfl, H⟩
theorem w_R_bows {c : CX} {d : Nat} {s : RS} {Q : Int32 → RS → Prop}  (H : RV c d m_R_laysRow [.ref 2] (rF s 4 0) (fun s1 => eR c (d + 1) m_R_bows 13 [some (.ref 2), some (.int 0), some (.int 0)] s1 (pI c Q))) : RI c (d + 1) m_R_bows [.ref 2] s Q := by
  refine ⟨q_R_bows, rfl, Nat.le_of_ble_eq_true rfl, ?_⟩
  refine ev_ex 0 (c' := (0, [some (.ref 2), none, none], [], cH c s)) rfl ?_
  refine ev_ex 4 (c' := (6, [some (.ref 2), none, none], [.ref 2], cH c (rF s 4 0))) rfl ?_
  refine rc_V (idx := 362) rfl rfl rfl (Nat.le_of_ble_eq_true rfl) (Nat.le_of_ble_eq_true rfl) rfl H (fun s1 H => ?_)
  refine ev_ex 4 (c' := (13, [some (.ref 2), some (.int 0), some (.int 0)], [], cH c s1)) rfl ?_
  exact H
theorem w_R_bows_13 {c : CX} {d : Nat} {s : RS} {Q : Int32 → RS → Prop} (l1 : Int32) (l2 : Int32) (H : RI c d m_R_lastMinute [.ref 2] s (fun v2 s1 => ((v2 < l2 → Q l1 s1) ∧ (¬ v2 < l2 → RB c d m_R_anyMeet [.ref 2, .int l2] s1 (fun v4 s3 => ((v4 = false → eR c (d + 1) m_R_bows 13 [some (.ref 2), some (.int (l1 + 0)), some (.int (l2 + 1))] s3 (pI c Q)) ∧ (v4 = true → eR c (d + 1) m_R_bows 13 [some (.ref 2), some (.int (l1 + 1)), some (.int (l2 + 1))] s3 (pI c Q)))))))) : eR c (d + 1) m_R_bows 13 [some (.ref 2), some (.int l1), some (.int l2)] s (pI c Q) := by
  unfold eR
  refine ev_ex 0 (c' := (13, [some (.ref 2), some (.int l1), some (.int l2)], [], cH c s)) rfl ?_
  refine ev_ex 2 (c' := (15, [some (.ref 2), some (.int l1), some (.int l2)], [.ref 2, .int l2], cH c s)) rfl ?_
  refine rc_I (idx := 430) rfl rfl rfl (Nat.le_of_ble_eq_true rfl) (Nat.le_of_ble_eq_true rfl) rfl H (fun v2 s1 H => ?_)
  refine ev_icmp_gt (tgt := 43) rfl rfl (fun h => ?_) (fun h => ?_)
  · replace H := H.1 (h)
    refine ev_ex 1 (c' := (44, [some (.ref 2), some (.int l1), some (.int l2)], [.int l1], cH c s1)) rfl ?_
    exact ev_ret rfl rfl rfl ⟨_, _, rfl, rfl, H⟩
  · replace H := H.2 (h)
    refine ev_ex 3 (c' := (24, [some (.ref 2), some (.int l1), some (.int l2)], [.int l2, .ref 2, .int l1], cH c s1)) rfl ?_
    refine rc_B (idx := 437) rfl rfl rfl (Nat.le_of_ble_eq_true rfl) (Nat.le_of_ble_eq_true rfl) rfl H (fun v4 s3 H => ?_)
    refine ev_if_eqB (x := v4) (tgt := 34) rfl rfl (fun h => ?_) (fun h => ?_)
    · replace H := H.1 (h)
      refine ev_ex 5 (c' := (13, [some (.ref 2), some (.int (l1 + 0)), some (.int (l2 + 1))], [], cH c s3)) rfl ?_
      exact H
    · replace H := H.2 (h)
      refine ev_ex 6 (c' := (13, [some (.ref 2), some (.int (l1 + 1)), some (.int (l2 + 1))], [], cH c s3)) rfl ?_
      exact H
theorem w_R_melted {c : CX} {d : Nat} {s : RS} {Q : Int32 → RS → Prop} (a0 : Int32) (a1 : Int32) (H : (((wth a0.toInt64 0 999) = false → Q 0 (rF (rF s 4 0) 4 1)) ∧ ((wth a0.toInt64 0 999) = true → (((wth a1.toInt64 0 999) = true → RV c d m_R_laysRow [.ref 2] (rF s 4 0) (fun s1 => eR c (d + 1) m_R_melted 44 [some (.ref 2), some (.int a0), some (.int a1), some (.int 0), some (.int 0), none, none] s1 (pI c Q))) ∧ ((wth a1.toInt64 0 999) = false → Q 0 (rF (rF s 4 0) 4 1)))))) : RI c (d + 1) m_R_melted [.ref 2, .int a0, .int a1] s Q := by
  refine ⟨q_R_melted, rfl, Nat.le_of_ble_eq_true rfl, ?_⟩
  refine ev_ex 0 (c' := (0, [some (.ref 2), some (.int a0), some (.int a1), none, none, none, none], [], cH c s)) rfl ?_
  refine ev_ex 7 (c' := (11, [some (.ref 2), some (.int a0), some (.int a1), none, none, none, none], [.long 999, .long 0, .long a0.toInt64], cH c (rF s 4 0))) rfl ?_
  refine rc_B (idx := 136) rfl rfl rfl (Nat.le_of_ble_eq_true rfl) (Nat.le_of_ble_eq_true rfl) rfl (K := fun x s' => x = wth a0.toInt64 0 999 ∧ s' = rF s 4 0) (z_R_within ⟨rfl, rfl⟩) ?_
  rintro _ _ ⟨rfl, rfl⟩
  refine ev_if_eqB (x := (wth a0.toInt64 0 999)) (tgt := 29) rfl rfl (fun h => ?_) (fun h => ?_)
  · replace H := H.1 (h)
    refine ev_ex 2 (c' := (31, [some (.ref 2), some (.int a0), some (.int a1), none, none, none, none], [.int 1, .ref 2], cH c (rF s 4 0))) rfl ?_
    refine rc_I (idx := 258) rfl rfl rfl (Nat.le_of_ble_eq_true rfl) (Nat.le_of_ble_eq_true rfl) rfl (K := fun x s' => x = 0 ∧ s' = rF (rF s 4 0) 4 1) (z_R_fails ⟨rfl, rfl⟩) ?_
    rintro _ _ ⟨rfl, rfl⟩
    exact ev_ret rfl rfl rfl ⟨_, _, rfl, rfl, H⟩
  · replace H := H.2 (h)
    refine ev_ex 4 (c' := (23, [some (.ref 2), some (.int a0), some (.int a1), none, none, none, none], [.long 999, .long 0, .long a1.toInt64], cH c (rF s 4 0))) rfl ?_
    refine rc_B (idx := 136) rfl rfl rfl (Nat.le_of_ble_eq_true rfl) (Nat.le_of_ble_eq_true rfl) rfl (K := fun x s' => x = wth a1.toInt64 0 999 ∧ s' = rF s 4 0) (z_R_within ⟨rfl, rfl⟩) ?_
    rintro _ _ ⟨rfl, rfl⟩
    refine ev_if_neB (x := (wth a1.toInt64 0 999)) (tgt := 35) rfl rfl (fun h => ?_) (fun h => ?_)
    · replace H := H.1 (h)
      refine ev_ex 1 (c' := (36, [some (.ref 2), some (.int a0), some (.int a1), none, none, none, none], [.ref 2], cH c (rF s 4 0))) rfl ?_
      refine rc_V (idx := 362) rfl rfl rfl (Nat.le_of_ble_eq_true rfl) (Nat.le_of_ble_eq_true rfl) rfl H (fun s1 H => ?_)
      refine ev_ex 4 (c' := (44, [some (.ref 2), some (.int a0), some (.int a1), some (.int 0), some (.int 0), none, none], [], cH c s1)) rfl ?_
      exact H
    · replace H := H.2 (h)
      refine ev_ex 2 (c' := (31, [some (.ref 2), some (.int a0), some (.int a1), none, none, none, none], [.int 1, .ref 2], cH c (rF s 4 0))) rfl ?_
      refine rc_I (idx := 258) rfl rfl rfl (Nat.le_of_ble_eq_true rfl) (Nat.le_of_ble_eq_true rfl) rfl (K := fun x s' => x = 0 ∧ s' = rF (rF s 4 0) 4 1) (z_R_fails ⟨rfl, rfl⟩) ?_
      rintro _ _ ⟨rfl, rfl⟩
      exact ev_ret rfl rfl rfl ⟨_, _, rfl, rfl, H⟩
theorem w_R_melted_44 {c : CX} {d : Nat} {s : RS} {Q : Int32 → RS → Prop} (l1 : Int32) (l2 : Int32) (l3 : Int32) (l4 : Int32) (H : (((s.2.1 1 1) ≤ l4 → Q l3 s) ∧ (¬ (s.2.1 1 1) ≤ l4 → (okx l4 10 ∧ (okx (s.2.1 11 (ix l4)) 21 ∧ (okx l4 10 ∧ (okx (s.2.1 11 (ix l4)) 21 ∧ RI c d m_R_steps [.ref 2] s (fun v2 s1 => (okx (57 + l4) 2101 ∧ (((s1.2.1 1 (ix (57 + l4))) ≤ 0 → eR c (d + 1) m_R_melted 44 [some (.ref 2), some (.int l1), some (.int l2), some (.int (l3 ||| 0)), some (.int (l4 + 1)), none, none] s1 (pI c Q)) ∧ (¬ (s1.2.1 1 (ix (57 + l4))) ≤ 0 → (okx (57 + l4) 2101 ∧ ((((mnI (l1 + l2) ((s.2.1 10 (ix (s.2.1 11 (ix l4)))) + v2)) - (mxI l1 (s.2.1 10 (ix (s.2.1 11 (ix l4)))))) < (s1.2.1 1 (ix (57 + l4))) → eR c (d + 1) m_R_melted 44 [some (.ref 2), some (.int l1), some (.int l2), some (.int (l3 ||| 0)), some (.int (l4 + 1)), none, none] s1 (pI c Q)) ∧ (¬ ((mnI (l1 + l2) ((s.2.1 10 (ix (s.2.1 11 (ix l4)))) + v2)) - (mxI l1 (s.2.1 10 (ix (s.2.1 11 (ix l4)))))) < (s1.2.1 1 (ix (57 + l4))) → eR c (d + 1) m_R_melted 44 [some (.ref 2), some (.int l1), some (.int l2), some (.int (l3 ||| (1 <<< (l4 &&& 31)))), some (.int (l4 + 1)), none, none] s1 (pI c Q))))))))))))))) : eR c (d + 1) m_R_melted 44 [some (.ref 2), some (.int l1), some (.int l2), some (.int l3), some (.int l4), none, none] s (pI c Q) := by
  unfold eR
  refine ev_ex 0 (c' := (44, [some (.ref 2), some (.int l1), some (.int l2), some (.int l3), some (.int l4), none, none], [], cH c s)) rfl ?_
  refine ev_ex 2 (c' := (47, [some (.ref 2), some (.int l1), some (.int l2), some (.int l3), some (.int l4), none, none], [.ref 2, .int l4], cH c s)) rfl ?_
  refine rc_I (idx := 267) rfl rfl rfl (Nat.le_of_ble_eq_true rfl) (Nat.le_of_ble_eq_true rfl) rfl (K := fun x s' => x = s.2.1 1 1 ∧ s' = s) (z_R_guilds ⟨rfl, rfl⟩) ?_
  rintro _ _ ⟨rfl, rfl⟩
  refine ev_icmp_ge (tgt := 144) rfl rfl (fun h => ?_) (fun h => ?_)
  · replace H := H.1 (h)
    refine ev_ex 1 (c' := (145, [some (.ref 2), some (.int l1), some (.int l2), some (.int l3), some (.int l4), none, none], [.int l3], cH c s)) rfl ?_
    exact ev_ret rfl rfl rfl ⟨_, _, rfl, rfl, H⟩
  · replace H := H.2 (h)
    refine ev_ex 6 (c' := (64, [some (.ref 2), some (.int l1), some (.int l2), some (.int l3), some (.int l4), none, none], [.int l4, .ref 46, .ref 42, .int l1], cH c s)) rfl ?_
    obtain ⟨H0, H⟩ := H
    refine ev_ald (i := .iaload) rfl (Or.inl rfl) rfl H0 (v := .int (s.2.1 11 (ix l4))) rfl ?_
    obtain ⟨H0, H⟩ := H
    refine ev_ald (i := .iaload) rfl (Or.inl rfl) rfl H0 (v := .int (s.2.1 10 (ix (s.2.1 11 (ix l4))))) rfl ?_
    refine rc_I (idx := 414) rfl rfl rfl (Nat.le_of_ble_eq_true rfl) (Nat.le_of_ble_eq_true rfl) rfl (K := fun x s' => x = mxI l1 (s.2.1 10 (ix (s.2.1 11 (ix l4)))) ∧ s' = s) (z_JM_max ⟨rfl, rfl⟩) ?_
    rintro _ _ ⟨rfl, rfl⟩
    refine ev_ex 9 (c' := (84, [some (.ref 2), some (.int l1), some (.int l2), some (.int l3), some (.int l4), some (.int (mxI l1 (s.2.1 10 (ix (s.2.1 11 (ix l4)))))), none], [.int l4, .ref 46, .ref 42, .int (l1 + l2)], cH c s)) rfl ?_
    obtain ⟨H0, H⟩ := H
    refine ev_ald (i := .iaload) rfl (Or.inl rfl) rfl H0 (v := .int (s.2.1 11 (ix l4))) rfl ?_
    obtain ⟨H0, H⟩ := H
    refine ev_ald (i := .iaload) rfl (Or.inl rfl) rfl H0 (v := .int (s.2.1 10 (ix (s.2.1 11 (ix l4))))) rfl ?_
    refine ev_ex 1 (c' := (87, [some (.ref 2), some (.int l1), some (.int l2), some (.int l3), some (.int l4), some (.int (mxI l1 (s.2.1 10 (ix (s.2.1 11 (ix l4)))))), none], [.ref 2, .int (s.2.1 10 (ix (s.2.1 11 (ix l4)))), .int (l1 + l2)], cH c s)) rfl ?_
    refine rc_I (idx := 418) rfl rfl rfl (Nat.le_of_ble_eq_true rfl) (Nat.le_of_ble_eq_true rfl) rfl H (fun v2 s1 H => ?_)
    refine ev_ex 1 (c' := (91, [some (.ref 2), some (.int l1), some (.int l2), some (.int l3), some (.int l4), some (.int (mxI l1 (s.2.1 10 (ix (s.2.1 11 (ix l4)))))), none], [.int ((s.2.1 10 (ix (s.2.1 11 (ix l4)))) + v2), .int (l1 + l2)], cH c s1)) rfl ?_
    refine rc_I (idx := 416) rfl rfl rfl (Nat.le_of_ble_eq_true rfl) (Nat.le_of_ble_eq_true rfl) rfl (K := fun x s' => x = mnI (l1 + l2) ((s.2.1 10 (ix (s.2.1 11 (ix l4)))) + v2) ∧ s' = s1) (z_JM_min ⟨rfl, rfl⟩) ?_
    rintro _ _ ⟨rfl, rfl⟩
    refine ev_ex 7 (c' := (106, [some (.ref 2), some (.int l1), some (.int l2), some (.int l3), some (.int l4), some (.int (mxI l1 (s.2.1 10 (ix (s.2.1 11 (ix l4)))))), some (.int (mnI (l1 + l2) ((s.2.1 10 (ix (s.2.1 11 (ix l4)))) + v2)))], [.int (57 + l4), .ref 6, .int l3], cH c s1)) rfl ?_
    obtain ⟨H0, H⟩ := H
    refine ev_ald (i := .iaload) rfl (Or.inl rfl) rfl H0 (v := .int (s1.2.1 1 (ix (57 + l4)))) rfl ?_
    refine ev_if_le (tgt := 135) rfl rfl (fun h => ?_) (fun h => ?_)
    · replace H := H.1 (h)
      refine ev_ex 5 (c' := (44, [some (.ref 2), some (.int l1), some (.int l2), some (.int (l3 ||| 0)), some (.int (l4 + 1)), some (.int (mxI l1 (s.2.1 10 (ix (s.2.1 11 (ix l4)))))), some (.int (mnI (l1 + l2) ((s.2.1 10 (ix (s.2.1 11 (ix l4)))) + v2)))], [], cH c s1)) rfl ?_
      exact ev_less (lle_of (L := [some (.ref 2), some (.int l1), some (.int l2), some (.int (l3 ||| 0)), some (.int (l4 + 1)), none, none]) ⟨rfl, ⟨rfl, ⟨rfl, ⟨rfl, ⟨rfl, trivial⟩⟩⟩⟩⟩) H
    · replace H := H.2 (h)
      refine ev_ex 8 (c' := (124, [some (.ref 2), some (.int l1), some (.int l2), some (.int l3), some (.int l4), some (.int (mxI l1 (s.2.1 10 (ix (s.2.1 11 (ix l4)))))), some (.int (mnI (l1 + l2) ((s.2.1 10 (ix (s.2.1 11 (ix l4)))) + v2)))], [.int (57 + l4), .ref 6, .int ((mnI (l1 + l2) ((s.2.1 10 (ix (s.2.1 11 (ix l4)))) + v2)) - (mxI l1 (s.2.1 10 (ix (s.2.1 11 (ix l4)))))), .int l3], cH c s1)) rfl ?_
      obtain ⟨H0, H⟩ := H
      refine ev_ald (i := .iaload) rfl (Or.inl rfl) rfl H0 (v := .int (s1.2.1 1 (ix (57 + l4)))) rfl ?_
      refine ev_icmp_lt (tgt := 135) rfl rfl (fun h => ?_) (fun h => ?_)
      · replace H := H.1 (h)
        refine ev_ex 5 (c' := (44, [some (.ref 2), some (.int l1), some (.int l2), some (.int (l3 ||| 0)), some (.int (l4 + 1)), some (.int (mxI l1 (s.2.1 10 (ix (s.2.1 11 (ix l4)))))), some (.int (mnI (l1 + l2) ((s.2.1 10 (ix (s.2.1 11 (ix l4)))) + v2)))], [], cH c s1)) rfl ?_
        exact ev_less (lle_of (L := [some (.ref 2), some (.int l1), some (.int l2), some (.int (l3 ||| 0)), some (.int (l4 + 1)), none, none]) ⟨rfl, ⟨rfl, ⟨rfl, ⟨rfl, ⟨rfl, trivial⟩⟩⟩⟩⟩) H
      · replace H := H.2 (h)
        refine ev_ex 8 (c' := (44, [some (.ref 2), some (.int l1), some (.int l2), some (.int (l3 ||| (1 <<< (l4 &&& 31)))), some (.int (l4 + 1)), some (.int (mxI l1 (s.2.1 10 (ix (s.2.1 11 (ix l4)))))), some (.int (mnI (l1 + l2) ((s.2.1 10 (ix (s.2.1 11 (ix l4)))) + v2)))], [], cH c s1)) rfl ?_
        exact ev_less (lle_of (L := [some (.ref 2), some (.int l1), some (.int l2), some (.int (l3 ||| (1 <<< (l4 &&& 31)))), some (.int (l4 + 1)), none, none]) ⟨rfl, ⟨rfl, ⟨rfl, ⟨rfl, ⟨rfl, trivial⟩⟩⟩⟩⟩) H
theorem w_R_noise {c : CX} {d : Nat} {s : RS} {Q : Int32 → RS → Prop}  (H : RV c d m_R_laysRow [.ref 2] (rF s 4 0) (fun s1 => eR c (d + 1) m_R_noise 13 [some (.ref 2), some (.int 0), some (.int 1)] s1 (pI c Q))) : RI c (d + 1) m_R_noise [.ref 2] s Q := by
  refine ⟨q_R_noise, rfl, Nat.le_of_ble_eq_true rfl, ?_⟩
  refine ev_ex 0 (c' := (0, [some (.ref 2), none, none], [], cH c s)) rfl ?_
  refine ev_ex 4 (c' := (6, [some (.ref 2), none, none], [.ref 2], cH c (rF s 4 0))) rfl ?_
  refine rc_V (idx := 362) rfl rfl rfl (Nat.le_of_ble_eq_true rfl) (Nat.le_of_ble_eq_true rfl) rfl H (fun s1 H => ?_)
  refine ev_ex 4 (c' := (13, [some (.ref 2), some (.int 0), some (.int 1)], [], cH c s1)) rfl ?_
  exact H
theorem w_R_noise_13 {c : CX} {d : Nat} {s : RS} {Q : Int32 → RS → Prop} (l1 : Int32) (l2 : Int32) (H : (((s.1 26) ≤ l2 → Q l1 s) ∧ (¬ (s.1 26) ≤ l2 → (okx l2 20 ∧ ((100 ≤ (s.2.1 9 (ix l2)) → eR c (d + 1) m_R_noise 13 [some (.ref 2), some (.int (l1 + 0)), some (.int (l2 + 1))] s (pI c Q)) ∧ (¬ 100 ≤ (s.2.1 9 (ix l2)) → (okx (l2 - 1) 20 ∧ ((100 ≤ (s.2.1 9 (ix (l2 - 1))) → eR c (d + 1) m_R_noise 13 [some (.ref 2), some (.int (l1 + 0)), some (.int (l2 + 1))] s (pI c Q)) ∧ (¬ 100 ≤ (s.2.1 9 (ix (l2 - 1))) → (okx l2 20 ∧ (okx (6 + (s.2.1 9 (ix l2))) 2101 ∧ (okx (l2 - 1) 20 ∧ ((¬ (s.2.1 1 (ix (6 + (s.2.1 9 (ix l2))))) = (s.2.1 9 (ix (l2 - 1))) → eR c (d + 1) m_R_noise 13 [some (.ref 2), some (.int (l1 + 0)), some (.int (l2 + 1))] s (pI c Q)) ∧ ((s.2.1 1 (ix (6 + (s.2.1 9 (ix l2))))) = (s.2.1 9 (ix (l2 - 1))) → (okx (l2 - 1) 20 ∧ (okx l2 20 ∧ RI c d m_R_noiseOf [.ref 2, .int (s.2.1 9 (ix (l2 - 1))), .int (s.2.1 9 (ix l2))] s (fun v2 s1 => eR c (d + 1) m_R_noise 13 [some (.ref 2), some (.int (l1 + v2)), some (.int (l2 + 1))] s1 (pI c Q)))))))))))))))))) : eR c (d + 1) m_R_noise 13 [some (.ref 2), some (.int l1), some (.int l2)] s (pI c Q) := by
  unfold eR
  refine ev_ex 0 (c' := (13, [some (.ref 2), some (.int l1), some (.int l2)], [], cH c s)) rfl ?_
  refine ev_ex 3 (c' := (18, [some (.ref 2), some (.int l1), some (.int l2)], [.int (s.1 26), .int l2], cH c s)) rfl ?_
  refine ev_icmp_ge (tgt := 97) rfl rfl (fun h => ?_) (fun h => ?_)
  · replace H := H.1 (h)
    refine ev_ex 1 (c' := (98, [some (.ref 2), some (.int l1), some (.int l2)], [.int l1], cH c s)) rfl ?_
    exact ev_ret rfl rfl rfl ⟨_, _, rfl, rfl, H⟩
  · replace H := H.2 (h)
    refine ev_ex 4 (c' := (27, [some (.ref 2), some (.int l1), some (.int l2)], [.int l2, .ref 38, .int l1], cH c s)) rfl ?_
    obtain ⟨H0, H⟩ := H
    refine ev_ald (i := .iaload) rfl (Or.inl rfl) rfl H0 (v := .int (s.2.1 9 (ix l2))) rfl ?_
    refine ev_ex 1 (c' := (30, [some (.ref 2), some (.int l1), some (.int l2)], [.int 100, .int (s.2.1 9 (ix l2)), .int l1], cH c s)) rfl ?_
    refine ev_icmp_ge (tgt := 88) rfl rfl (fun h => ?_) (fun h => ?_)
    · replace H := H.1 (h)
      refine ev_ex 5 (c' := (13, [some (.ref 2), some (.int (l1 + 0)), some (.int (l2 + 1))], [], cH c s)) rfl ?_
      exact H
    · replace H := H.2 (h)
      refine ev_ex 5 (c' := (40, [some (.ref 2), some (.int l1), some (.int l2)], [.int (l2 - 1), .ref 38, .int l1], cH c s)) rfl ?_
      obtain ⟨H0, H⟩ := H
      refine ev_ald (i := .iaload) rfl (Or.inl rfl) rfl H0 (v := .int (s.2.1 9 (ix (l2 - 1)))) rfl ?_
      refine ev_ex 1 (c' := (43, [some (.ref 2), some (.int l1), some (.int l2)], [.int 100, .int (s.2.1 9 (ix (l2 - 1))), .int l1], cH c s)) rfl ?_
      refine ev_icmp_ge (tgt := 88) rfl rfl (fun h => ?_) (fun h => ?_)
      · replace H := H.1 (h)
        refine ev_ex 5 (c' := (13, [some (.ref 2), some (.int (l1 + 0)), some (.int (l2 + 1))], [], cH c s)) rfl ?_
        exact H
      · replace H := H.2 (h)
        refine ev_ex 4 (c' := (52, [some (.ref 2), some (.int l1), some (.int l2)], [.int l2, .ref 38, .ref 2, .int l1], cH c s)) rfl ?_
        obtain ⟨H0, H⟩ := H
        refine ev_ald (i := .iaload) rfl (Or.inl rfl) rfl H0 (v := .int (s.2.1 9 (ix l2))) rfl ?_
        obtain ⟨H1, H⟩ := H
        refine rc_I (idx := 270) rfl rfl rfl (Nat.le_of_ble_eq_true rfl) (Nat.le_of_ble_eq_true rfl) rfl (K := fun x s' => x = s.2.1 1 (ix (6 + (s.2.1 9 (ix l2)))) ∧ s' = s) (z_R_mocked H1 ⟨rfl, rfl⟩) ?_
        rintro _ _ ⟨rfl, rfl⟩
        refine ev_ex 5 (c' := (63, [some (.ref 2), some (.int l1), some (.int l2)], [.int (l2 - 1), .ref 38, .int (s.2.1 1 (ix (6 + (s.2.1 9 (ix l2))))), .int l1], cH c s)) rfl ?_
        obtain ⟨H0, H⟩ := H
        refine ev_ald (i := .iaload) rfl (Or.inl rfl) rfl H0 (v := .int (s.2.1 9 (ix (l2 - 1)))) rfl ?_
        refine ev_icmp_ne (tgt := 88) rfl rfl (fun h => ?_) (fun h => ?_)
        · replace H := H.1 (h)
          refine ev_ex 5 (c' := (13, [some (.ref 2), some (.int (l1 + 0)), some (.int (l2 + 1))], [], cH c s)) rfl ?_
          exact H
        · replace H := H.2 (h)
          refine ev_ex 6 (c' := (75, [some (.ref 2), some (.int l1), some (.int l2)], [.int (l2 - 1), .ref 38, .ref 2, .int l1], cH c s)) rfl ?_
          obtain ⟨H0, H⟩ := H
          refine ev_ald (i := .iaload) rfl (Or.inl rfl) rfl H0 (v := .int (s.2.1 9 (ix (l2 - 1)))) rfl ?_
          refine ev_ex 3 (c' := (81, [some (.ref 2), some (.int l1), some (.int l2)], [.int l2, .ref 38, .int (s.2.1 9 (ix (l2 - 1))), .ref 2, .int l1], cH c s)) rfl ?_
          obtain ⟨H0, H⟩ := H
          refine ev_ald (i := .iaload) rfl (Or.inl rfl) rfl H0 (v := .int (s.2.1 9 (ix l2))) rfl ?_
          refine rc_I (idx := 442) rfl rfl rfl (Nat.le_of_ble_eq_true rfl) (Nat.le_of_ble_eq_true rfl) rfl H (fun v2 s1 H => ?_)
          refine ev_ex 5 (c' := (13, [some (.ref 2), some (.int (l1 + v2)), some (.int (l2 + 1))], [], cH c s1)) rfl ?_
          exact H
theorem w_R_quietest {c : CX} {d : Nat} {s : RS} {Q : Int32 → RS → Prop} (a0 : Int32) (a1 : Int32) (H : ((¬ (a0 &&& (-(1 <<< (((rF s 4 0).2.1 1 1) &&& 31)))) = 0 → Q 0 (rF (rF s 4 0) 4 1)) ∧ ((a0 &&& (-(1 <<< (((rF s 4 0).2.1 1 1) &&& 31)))) = 0 → RI c d m_R_size [.int a0] (rF s 4 0) (fun v2 s1 => ((8 < v2 → Q 0 (rF s1 4 1)) ∧ (¬ 8 < v2 → ((a1 = 0 → RV c d m_R_goesOrders [.ref 2, .int 0, .int a0, .int 0] (rF s1 32 0) (fun s3 => ((¬ a1 = 0 → RI c d m_R_size [.int a0] s3 (fun v5 s4 => ((v5 ≤ (a1 - 10) → Q ((-1)) s4) ∧ (¬ v5 ≤ (a1 - 10) → (okx (a1 - 10) 8 ∧ Q (s4.2.1 13 (ix (a1 - 10))) s4))))) ∧ (a1 = 0 → Q (s3.1 31) s3)))) ∧ (¬ a1 = 0 → (((wth a1.toInt64 10 17) = true → RV c d m_R_goesOrders [.ref 2, .int 0, .int a0, .int 0] (rF s1 32 0) (fun s6 => ((¬ a1 = 0 → RI c d m_R_size [.int a0] s6 (fun v8 s7 => ((v8 ≤ (a1 - 10) → Q ((-1)) s7) ∧ (¬ v8 ≤ (a1 - 10) → (okx (a1 - 10) 8 ∧ Q (s7.2.1 13 (ix (a1 - 10))) s7))))) ∧ (a1 = 0 → Q (s6.1 31) s6)))) ∧ ((wth a1.toInt64 10 17) = false → Q 0 (rF s1 4 1))))))))))) : RI c (d + 1) m_R_quietest [.ref 2, .int a0, .int a1] s Q := by
  refine ⟨q_R_quietest, rfl, Nat.le_of_ble_eq_true rfl, ?_⟩
  refine ev_ex 0 (c' := (0, [some (.ref 2), some (.int a0), some (.int a1)], [], cH c s)) rfl ?_
  refine ev_ex 6 (c' := (8, [some (.ref 2), some (.int a0), some (.int a1)], [.ref 2, .int 1, .int a0], cH c (rF s 4 0))) rfl ?_
  refine rc_I (idx := 267) rfl rfl rfl (Nat.le_of_ble_eq_true rfl) (Nat.le_of_ble_eq_true rfl) rfl (K := fun x s' => x = (rF s 4 0).2.1 1 1 ∧ s' = rF s 4 0) (z_R_guilds ⟨rfl, rfl⟩) ?_
  rintro _ _ ⟨rfl, rfl⟩
  refine ev_ex 3 (c' := (14, [some (.ref 2), some (.int a0), some (.int a1)], [.int (a0 &&& (-(1 <<< (((rF s 4 0).2.1 1 1) &&& 31))))], cH c (rF s 4 0))) rfl ?_
  refine ev_if_ne (tgt := 44) rfl rfl (fun h => ?_) (fun h => ?_)
  · replace H := H.1 (h)
    refine ev_ex 2 (c' := (46, [some (.ref 2), some (.int a0), some (.int a1)], [.int 1, .ref 2], cH c (rF s 4 0))) rfl ?_
    refine rc_I (idx := 258) rfl rfl rfl (Nat.le_of_ble_eq_true rfl) (Nat.le_of_ble_eq_true rfl) rfl (K := fun x s' => x = 0 ∧ s' = rF (rF s 4 0) 4 1) (z_R_fails ⟨rfl, rfl⟩) ?_
    rintro _ _ ⟨rfl, rfl⟩
    exact ev_ret rfl rfl rfl ⟨_, _, rfl, rfl, H⟩
  · replace H := H.2 (h)
    refine ev_ex 1 (c' := (18, [some (.ref 2), some (.int a0), some (.int a1)], [.int a0], cH c (rF s 4 0))) rfl ?_
    refine rc_I (idx := 293) rfl rfl rfl (Nat.le_of_ble_eq_true rfl) (Nat.le_of_ble_eq_true rfl) rfl H (fun v2 s1 H => ?_)
    refine ev_ex 1 (c' := (23, [some (.ref 2), some (.int a0), some (.int a1)], [.int 8, .int v2], cH c s1)) rfl ?_
    refine ev_icmp_gt (tgt := 44) rfl rfl (fun h => ?_) (fun h => ?_)
    · replace H := H.1 (h)
      refine ev_ex 2 (c' := (46, [some (.ref 2), some (.int a0), some (.int a1)], [.int 1, .ref 2], cH c s1)) rfl ?_
      refine rc_I (idx := 258) rfl rfl rfl (Nat.le_of_ble_eq_true rfl) (Nat.le_of_ble_eq_true rfl) rfl (K := fun x s' => x = 0 ∧ s' = rF s1 4 1) (z_R_fails ⟨rfl, rfl⟩) ?_
      rintro _ _ ⟨rfl, rfl⟩
      exact ev_ret rfl rfl rfl ⟨_, _, rfl, rfl, H⟩
    · replace H := H.2 (h)
      refine ev_ex 1 (c' := (27, [some (.ref 2), some (.int a0), some (.int a1)], [.int a1], cH c s1)) rfl ?_
      refine ev_if_eq (tgt := 50) rfl rfl (fun h => ?_) (fun h => ?_)
      · replace H := H.1 (h)
        refine ev_ex 7 (c' := (59, [some (.ref 2), some (.int a0), some (.int a1)], [.int 0, .int a0, .int 0, .ref 2], cH c (rF s1 32 0))) rfl ?_
        refine rc_V (idx := 452) rfl rfl rfl (Nat.le_of_ble_eq_true rfl) (Nat.le_of_ble_eq_true rfl) rfl H (fun s3 H => ?_)
        refine ev_ex 1 (c' := (63, [some (.ref 2), some (.int a0), some (.int a1)], [.int a1], cH c s3)) rfl ?_
        refine ev_if_ne (tgt := 73) rfl rfl (fun h => ?_) (fun h => ?_)
        · replace H := H.1 (h)
          refine ev_ex 4 (c' := (78, [some (.ref 2), some (.int a0), some (.int a1)], [.int a0, .int (a1 - 10)], cH c s3)) rfl ?_
          refine rc_I (idx := 293) rfl rfl rfl (Nat.le_of_ble_eq_true rfl) (Nat.le_of_ble_eq_true rfl) rfl H (fun v5 s4 H => ?_)
          refine ev_icmp_ge (tgt := 96) rfl rfl (fun h => ?_) (fun h => ?_)
          · replace H := H.1 (h)
            refine ev_ex 1 (c' := (97, [some (.ref 2), some (.int a0), some (.int a1)], [.int ((-1))], cH c s4)) rfl ?_
            exact ev_ret rfl rfl rfl ⟨_, _, rfl, rfl, H⟩
          · replace H := H.2 (h)
            refine ev_ex 5 (c' := (92, [some (.ref 2), some (.int a0), some (.int a1)], [.int (a1 - 10), .ref 54], cH c s4)) rfl ?_
            obtain ⟨H0, H⟩ := H
            refine ev_ald (i := .iaload) rfl (Or.inl rfl) rfl H0 (v := .int (s4.2.1 13 (ix (a1 - 10)))) rfl ?_
            refine ev_ex 1 (c' := (97, [some (.ref 2), some (.int a0), some (.int a1)], [.int (s4.2.1 13 (ix (a1 - 10)))], cH c s4)) rfl ?_
            exact ev_ret rfl rfl rfl ⟨_, _, rfl, rfl, H⟩
        · replace H := H.2 (h)
          refine ev_ex 3 (c' := (97, [some (.ref 2), some (.int a0), some (.int a1)], [.int (s3.1 31)], cH c s3)) rfl ?_
          exact ev_ret rfl rfl rfl ⟨_, _, rfl, rfl, H⟩
      · replace H := H.2 (h)
        refine ev_ex 4 (c' := (38, [some (.ref 2), some (.int a0), some (.int a1)], [.long 17, .long 10, .long a1.toInt64], cH c s1)) rfl ?_
        refine rc_B (idx := 136) rfl rfl rfl (Nat.le_of_ble_eq_true rfl) (Nat.le_of_ble_eq_true rfl) rfl (K := fun x s' => x = wth a1.toInt64 10 17 ∧ s' = s1) (z_R_within ⟨rfl, rfl⟩) ?_
        rintro _ _ ⟨rfl, rfl⟩
        refine ev_if_neB (x := (wth a1.toInt64 10 17)) (tgt := 50) rfl rfl (fun h => ?_) (fun h => ?_)
        · replace H := H.1 (h)
          refine ev_ex 7 (c' := (59, [some (.ref 2), some (.int a0), some (.int a1)], [.int 0, .int a0, .int 0, .ref 2], cH c (rF s1 32 0))) rfl ?_
          refine rc_V (idx := 452) rfl rfl rfl (Nat.le_of_ble_eq_true rfl) (Nat.le_of_ble_eq_true rfl) rfl H (fun s6 H => ?_)
          refine ev_ex 1 (c' := (63, [some (.ref 2), some (.int a0), some (.int a1)], [.int a1], cH c s6)) rfl ?_
          refine ev_if_ne (tgt := 73) rfl rfl (fun h => ?_) (fun h => ?_)
          · replace H := H.1 (h)
            refine ev_ex 4 (c' := (78, [some (.ref 2), some (.int a0), some (.int a1)], [.int a0, .int (a1 - 10)], cH c s6)) rfl ?_
            refine rc_I (idx := 293) rfl rfl rfl (Nat.le_of_ble_eq_true rfl) (Nat.le_of_ble_eq_true rfl) rfl H (fun v8 s7 H => ?_)
            refine ev_icmp_ge (tgt := 96) rfl rfl (fun h => ?_) (fun h => ?_)
            · replace H := H.1 (h)
              refine ev_ex 1 (c' := (97, [some (.ref 2), some (.int a0), some (.int a1)], [.int ((-1))], cH c s7)) rfl ?_
              exact ev_ret rfl rfl rfl ⟨_, _, rfl, rfl, H⟩
            · replace H := H.2 (h)
              refine ev_ex 5 (c' := (92, [some (.ref 2), some (.int a0), some (.int a1)], [.int (a1 - 10), .ref 54], cH c s7)) rfl ?_
              obtain ⟨H0, H⟩ := H
              refine ev_ald (i := .iaload) rfl (Or.inl rfl) rfl H0 (v := .int (s7.2.1 13 (ix (a1 - 10)))) rfl ?_
              refine ev_ex 1 (c' := (97, [some (.ref 2), some (.int a0), some (.int a1)], [.int (s7.2.1 13 (ix (a1 - 10)))], cH c s7)) rfl ?_
              exact ev_ret rfl rfl rfl ⟨_, _, rfl, rfl, H⟩
          · replace H := H.2 (h)
            refine ev_ex 3 (c' := (97, [some (.ref 2), some (.int a0), some (.int a1)], [.int (s6.1 31)], cH c s6)) rfl ?_
            exact ev_ret rfl rfl rfl ⟨_, _, rfl, rfl, H⟩
        · replace H := H.2 (h)
          refine ev_ex 2 (c' := (46, [some (.ref 2), some (.int a0), some (.int a1)], [.int 1, .ref 2], cH c s1)) rfl ?_
          refine rc_I (idx := 258) rfl rfl rfl (Nat.le_of_ble_eq_true rfl) (Nat.le_of_ble_eq_true rfl) rfl (K := fun x s' => x = 0 ∧ s' = rF s1 4 1) (z_R_fails ⟨rfl, rfl⟩) ?_
          rintro _ _ ⟨rfl, rfl⟩
          exact ev_ret rfl rfl rfl ⟨_, _, rfl, rfl, H⟩
theorem w_R_comesBack {c : CX} {d : Nat} {s : RS} {Q : Int32 → RS → Prop} (a0 : Int32) (H : (((wth a0.toInt64 0 1) = true → RV c d m_R_putsAside [.ref 2] (rF s 4 0) (fun s1 => RJ c d m_R_allMocked [.ref 2] s1 (fun v3 s2 => (okx 0 1001 ∧ eR c (d + 1) m_R_comesBack 39 [some (.ref 2), some (.int a0), some (.int ((-1))), some (.int 0), none] (rL s2 14 (ix 0) v3) (pI c Q))))) ∧ ((wth a0.toInt64 0 1) = false → Q 0 (rF (rF s 4 0) 4 1)))) : RI c (d + 1) m_R_comesBack [.ref 2, .int a0] s Q := by
  refine ⟨q_R_comesBack, rfl, Nat.le_of_ble_eq_true rfl, ?_⟩
  refine ev_ex 0 (c' := (0, [some (.ref 2), some (.int a0), none, none, none], [], cH c s)) rfl ?_
  refine ev_ex 7 (c' := (9, [some (.ref 2), some (.int a0), none, none, none], [.long 1, .long 0, .long a0.toInt64], cH c (rF s 4 0))) rfl ?_
  refine rc_B (idx := 136) rfl rfl rfl (Nat.le_of_ble_eq_true rfl) (Nat.le_of_ble_eq_true rfl) rfl (K := fun x s' => x = wth a0.toInt64 0 1 ∧ s' = rF s 4 0) (z_R_within ⟨rfl, rfl⟩) ?_
  rintro _ _ ⟨rfl, rfl⟩
  refine ev_if_neB (x := (wth a0.toInt64 0 1)) (tgt := 21) rfl rfl (fun h => ?_) (fun h => ?_)
  · replace H := H.1 (h)
    refine ev_ex 1 (c' := (22, [some (.ref 2), some (.int a0), none, none, none], [.ref 2], cH c (rF s 4 0))) rfl ?_
    refine rc_V (idx := 334) rfl rfl rfl (Nat.le_of_ble_eq_true rfl) (Nat.le_of_ble_eq_true rfl) rfl H (fun s1 H => ?_)
    refine ev_ex 8 (c' := (35, [some (.ref 2), some (.int a0), some (.int ((-1))), some (.int 0), none], [.ref 2, .int 0, .ref 58], cH c s1)) rfl ?_
    refine rc_J (idx := 460) rfl rfl rfl (Nat.le_of_ble_eq_true rfl) (Nat.le_of_ble_eq_true rfl) rfl H (fun v3 s2 H => ?_)
    obtain ⟨H0, H⟩ := H
    refine ev_ast (i := .lastore) rfl (Or.inr (Or.inr (Or.inl rfl))) rfl H0 (by decide) rfl rfl (σ' := cH c (rL s2 14 (ix 0) v3)) rfl ?_
    exact H
  · replace H := H.2 (h)
    refine ev_ex 2 (c' := (17, [some (.ref 2), some (.int a0), none, none, none], [.int 1, .ref 2], cH c (rF s 4 0))) rfl ?_
    refine rc_I (idx := 258) rfl rfl rfl (Nat.le_of_ble_eq_true rfl) (Nat.le_of_ble_eq_true rfl) rfl (K := fun x s' => x = 0 ∧ s' = rF (rF s 4 0) 4 1) (z_R_fails ⟨rfl, rfl⟩) ?_
    rintro _ _ ⟨rfl, rfl⟩
    exact ev_ret rfl rfl rfl ⟨_, _, rfl, rfl, H⟩
theorem w_R_comesBack_39 {c : CX} {d : Nat} {s : RS} {Q : Int32 → RS → Prop} (l1 : Int32) (l2 : Int32) (l3 : Int32) (H : ((¬ l2 = ((-1)) → RV c d m_R_putsBack [.ref 2] s (fun s1 => ((l2 = ((-1)) → Q l2 s1) ∧ (¬ l2 = ((-1)) → ((¬ l1 = 0 → Q (l3 - l2) s1) ∧ (l1 = 0 → Q l2 s1)))))) ∧ (l2 = ((-1)) → ((1000 ≤ l3 → RV c d m_R_putsBack [.ref 2] s (fun s2 => ((l2 = ((-1)) → Q l2 s2) ∧ (¬ l2 = ((-1)) → ((¬ l1 = 0 → Q (l3 - l2) s2) ∧ (l1 = 0 → Q l2 s2)))))) ∧ (¬ 1000 ≤ l3 → RV c d m_R_night [.ref 2] s (fun s3 => RJ c d m_R_allMocked [.ref 2] s3 (fun v5 s4 => (okx (l3 + 1) 1001 ∧ eR c (d + 1) m_R_comesBack 73 [some (.ref 2), some (.int l1), some (.int l2), some (.int (l3 + 1)), some (.int ((l3 + 1) - 1))] (rL s4 14 (ix (l3 + 1)) v5) (pI c Q))))))))) : eR c (d + 1) m_R_comesBack 39 [some (.ref 2), some (.int l1), some (.int l2), some (.int l3), none] s (pI c Q) := by
  unfold eR
  refine ev_ex 0 (c' := (39, [some (.ref 2), some (.int l1), some (.int l2), some (.int l3), none], [], cH c s)) rfl ?_
  refine ev_ex 2 (c' := (41, [some (.ref 2), some (.int l1), some (.int l2), some (.int l3), none], [.int ((-1)), .int l2], cH c s)) rfl ?_
  refine ev_icmp_ne (tgt := 107) rfl rfl (fun h => ?_) (fun h => ?_)
  · replace H := H.1 (h)
    refine ev_ex 1 (c' := (108, [some (.ref 2), some (.int l1), some (.int l2), some (.int l3), none], [.ref 2], cH c s)) rfl ?_
    refine rc_V (idx := 368) rfl rfl rfl (Nat.le_of_ble_eq_true rfl) (Nat.le_of_ble_eq_true rfl) rfl H (fun s1 H => ?_)
    refine ev_ex 2 (c' := (113, [some (.ref 2), some (.int l1), some (.int l2), some (.int l3), none], [.int ((-1)), .int l2], cH c s1)) rfl ?_
    refine ev_icmp_eq (tgt := 120) rfl rfl (fun h => ?_) (fun h => ?_)
    · replace H := H.1 (h)
      refine ev_ex 2 (c' := (127, [some (.ref 2), some (.int l1), some (.int l2), some (.int l3), none], [.int l2], cH c s1)) rfl ?_
      exact ev_ret rfl rfl rfl ⟨_, _, rfl, rfl, H⟩
    · replace H := H.2 (h)
      refine ev_ex 1 (c' := (117, [some (.ref 2), some (.int l1), some (.int l2), some (.int l3), none], [.int l1], cH c s1)) rfl ?_
      refine ev_if_ne (tgt := 124) rfl rfl (fun h => ?_) (fun h => ?_)
      · replace H := H.1 (h)
        refine ev_ex 3 (c' := (127, [some (.ref 2), some (.int l1), some (.int l2), some (.int l3), none], [.int (l3 - l2)], cH c s1)) rfl ?_
        exact ev_ret rfl rfl rfl ⟨_, _, rfl, rfl, H⟩
      · replace H := H.2 (h)
        refine ev_ex 2 (c' := (127, [some (.ref 2), some (.int l1), some (.int l2), some (.int l3), none], [.int l2], cH c s1)) rfl ?_
        exact ev_ret rfl rfl rfl ⟨_, _, rfl, rfl, H⟩
  · replace H := H.2 (h)
    refine ev_ex 2 (c' := (48, [some (.ref 2), some (.int l1), some (.int l2), some (.int l3), none], [.int 1000, .int l3], cH c s)) rfl ?_
    refine ev_icmp_ge (tgt := 107) rfl rfl (fun h => ?_) (fun h => ?_)
    · replace H := H.1 (h)
      refine ev_ex 1 (c' := (108, [some (.ref 2), some (.int l1), some (.int l2), some (.int l3), none], [.ref 2], cH c s)) rfl ?_
      refine rc_V (idx := 368) rfl rfl rfl (Nat.le_of_ble_eq_true rfl) (Nat.le_of_ble_eq_true rfl) rfl H (fun s2 H => ?_)
      refine ev_ex 2 (c' := (113, [some (.ref 2), some (.int l1), some (.int l2), some (.int l3), none], [.int ((-1)), .int l2], cH c s2)) rfl ?_
      refine ev_icmp_eq (tgt := 120) rfl rfl (fun h => ?_) (fun h => ?_)
      · replace H := H.1 (h)
        refine ev_ex 2 (c' := (127, [some (.ref 2), some (.int l1), some (.int l2), some (.int l3), none], [.int l2], cH c s2)) rfl ?_
        exact ev_ret rfl rfl rfl ⟨_, _, rfl, rfl, H⟩
      · replace H := H.2 (h)
        refine ev_ex 1 (c' := (117, [some (.ref 2), some (.int l1), some (.int l2), some (.int l3), none], [.int l1], cH c s2)) rfl ?_
        refine ev_if_ne (tgt := 124) rfl rfl (fun h => ?_) (fun h => ?_)
        · replace H := H.1 (h)
          refine ev_ex 3 (c' := (127, [some (.ref 2), some (.int l1), some (.int l2), some (.int l3), none], [.int (l3 - l2)], cH c s2)) rfl ?_
          exact ev_ret rfl rfl rfl ⟨_, _, rfl, rfl, H⟩
        · replace H := H.2 (h)
          refine ev_ex 2 (c' := (127, [some (.ref 2), some (.int l1), some (.int l2), some (.int l3), none], [.int l2], cH c s2)) rfl ?_
          exact ev_ret rfl rfl rfl ⟨_, _, rfl, rfl, H⟩
    · replace H := H.2 (h)
      refine ev_ex 1 (c' := (52, [some (.ref 2), some (.int l1), some (.int l2), some (.int l3), none], [.ref 2], cH c s)) rfl ?_
      refine rc_V (idx := 337) rfl rfl rfl (Nat.le_of_ble_eq_true rfl) (Nat.le_of_ble_eq_true rfl) rfl H (fun s3 H => ?_)
      refine ev_ex 5 (c' := (64, [some (.ref 2), some (.int l1), some (.int l2), some (.int (l3 + 1)), none], [.ref 2, .int (l3 + 1), .ref 58], cH c s3)) rfl ?_
      refine rc_J (idx := 460) rfl rfl rfl (Nat.le_of_ble_eq_true rfl) (Nat.le_of_ble_eq_true rfl) rfl H (fun v5 s4 H => ?_)
      obtain ⟨H0, H⟩ := H
      refine ev_ast (i := .lastore) rfl (Or.inr (Or.inr (Or.inl rfl))) rfl H0 (by decide) rfl rfl (σ' := cH c (rL s4 14 (ix (l3 + 1)) v5)) rfl ?_
      refine ev_ex 4 (c' := (73, [some (.ref 2), some (.int l1), some (.int l2), some (.int (l3 + 1)), some (.int ((l3 + 1) - 1))], [], cH c (rL s4 14 (ix (l3 + 1)) v5))) rfl ?_
      exact H
theorem w_R_comesBack_73 {c : CX} {d : Nat} {s : RS} {Q : Int32 → RS → Prop} (l1 : Int32) (l2 : Int32) (l3 : Int32) (l4 : Int32) (H : ((l4 < 0 → eR c (d + 1) m_R_comesBack 39 [some (.ref 2), some (.int l1), some (.int l2), some (.int l3), none] s (pI c Q)) ∧ (¬ l4 < 0 → (okx l4 1001 ∧ (okx l3 1001 ∧ ((¬ (s.2.2 14 (ix l4)) = (s.2.2 14 (ix l3)) → eR c (d + 1) m_R_comesBack 73 [some (.ref 2), some (.int l1), some (.int l2), some (.int l3), some (.int (l4 + (-1)))] s (pI c Q)) ∧ ((s.2.2 14 (ix l4)) = (s.2.2 14 (ix l3)) → eR c (d + 1) m_R_comesBack 73 [some (.ref 2), some (.int l1), some (.int l4), some (.int l3), some (.int (l4 + (-1)))] s (pI c Q)))))))) : eR c (d + 1) m_R_comesBack 73 [some (.ref 2), some (.int l1), some (.int l2), some (.int l3), some (.int l4)] s (pI c Q) := by
  unfold eR
  refine ev_ex 0 (c' := (73, [some (.ref 2), some (.int l1), some (.int l2), some (.int l3), some (.int l4)], [], cH c s)) rfl ?_
  refine ev_ex 1 (c' := (75, [some (.ref 2), some (.int l1), some (.int l2), some (.int l3), some (.int l4)], [.int l4], cH c s)) rfl ?_
  refine ev_if_lt (tgt := 104) rfl rfl (fun h => ?_) (fun h => ?_)
  · replace H := H.1 (h)
    refine ev_ex 1 (c' := (39, [some (.ref 2), some (.int l1), some (.int l2), some (.int l3), some (.int l4)], [], cH c s)) rfl ?_
    exact ev_less (lle_of (L := [some (.ref 2), some (.int l1), some (.int l2), some (.int l3), none]) ⟨rfl, ⟨rfl, ⟨rfl, ⟨rfl, trivial⟩⟩⟩⟩) H
  · replace H := H.2 (h)
    refine ev_ex 3 (c' := (84, [some (.ref 2), some (.int l1), some (.int l2), some (.int l3), some (.int l4)], [.int l4, .ref 58], cH c s)) rfl ?_
    obtain ⟨H0, H⟩ := H
    refine ev_ald (i := .laload) rfl (Or.inr (Or.inr (Or.inl rfl))) rfl H0 (v := .long (s.2.2 14 (ix l4))) rfl ?_
    refine ev_ex 3 (c' := (90, [some (.ref 2), some (.int l1), some (.int l2), some (.int l3), some (.int l4)], [.int l3, .ref 58, .long (s.2.2 14 (ix l4))], cH c s)) rfl ?_
    obtain ⟨H0, H⟩ := H
    refine ev_ald (i := .laload) rfl (Or.inr (Or.inr (Or.inl rfl))) rfl H0 (v := .long (s.2.2 14 (ix l3))) rfl ?_
    refine ev_ex 1 (c' := (92, [some (.ref 2), some (.int l1), some (.int l2), some (.int l3), some (.int l4)], [.int (lg_cmp (s.2.2 14 (ix l4)) (s.2.2 14 (ix l3)))], cH c s)) rfl ?_
    refine ev_if_ne (tgt := 98) rfl rfl (fun h => ?_) (fun h => ?_)
    · replace H := H.1 ((fun q => h ((lg_cmp_eq _ _).mpr q)))
      refine ev_ex 2 (c' := (73, [some (.ref 2), some (.int l1), some (.int l2), some (.int l3), some (.int (l4 + (-1)))], [], cH c s)) rfl ?_
      exact H
    · replace H := H.2 ((lg_cmp_eq _ _).mp h)
      refine ev_ex 4 (c' := (73, [some (.ref 2), some (.int l1), some (.int l4), some (.int l3), some (.int (l4 + (-1)))], [], cH c s)) rfl ?_
      exact H
theorem w_R_mocksIn {c : CX} {d : Nat} {s : RS} {Q : Int32 → RS → Prop} (a0 : Int32) (a1 : Int32) (H : (((wth a0.toInt64 0 (s.2.1 1 1 - 1).toInt64) = true → (((wth a1.toInt64 0 1000) = false → ((((rF s 4 2).1 4) ≤ 0 → RV c (d + 1) m_R_putsAside [.ref 2] (rF s 4 2) (fun s1 => eR c (d + 2) m_R_mocksIn 49 [some (.ref 2), some (.int a0), some (.int a1), some (.int 0)] s1 (pI c Q))) ∧ (¬ ((rF s 4 2).1 4) ≤ 0 → Q 0 (rF s 4 2)))) ∧ ((wth a1.toInt64 0 1000) = true → ((((rF s 4 0).1 4) ≤ 0 → RV c (d + 1) m_R_putsAside [.ref 2] (rF s 4 0) (fun s2 => eR c (d + 2) m_R_mocksIn 49 [some (.ref 2), some (.int a0), some (.int a1), some (.int 0)] s2 (pI c Q))) ∧ (¬ ((rF s 4 0).1 4) ≤ 0 → Q 0 (rF s 4 0)))))) ∧ ((wth a0.toInt64 0 (s.2.1 1 1 - 1).toInt64) = false → ((((rF s 4 1).1 4) ≤ 0 → RV c (d + 1) m_R_putsAside [.ref 2] (rF s 4 1) (fun s3 => eR c (d + 2) m_R_mocksIn 49 [some (.ref 2), some (.int a0), some (.int a1), some (.int 0)] s3 (pI c Q))) ∧ (¬ ((rF s 4 1).1 4) ≤ 0 → Q 0 (rF s 4 1)))))) : RI c (d + 2) m_R_mocksIn [.ref 2, .int a0, .int a1] s Q := by
  refine ⟨q_R_mocksIn, rfl, Nat.le_of_ble_eq_true rfl, ?_⟩
  refine ev_ex 0 (c' := (0, [some (.ref 2), some (.int a0), some (.int a1), none], [], cH c s)) rfl ?_
  refine ev_ex 4 (c' := (4, [some (.ref 2), some (.int a0), some (.int a1), none], [.long a0.toInt64, .ref 2, .ref 2], cH c s)) rfl ?_
  refine rc_B (idx := 314) rfl rfl rfl (Nat.le_of_ble_eq_true rfl) (Nat.le_of_ble_eq_true rfl) rfl (K := fun x s' => x = wth a0.toInt64 0 (s.2.1 1 1 - 1).toInt64 ∧ s' = s) (z_R_isGuild ⟨rfl, rfl⟩) ?_
  rintro _ _ ⟨rfl, rfl⟩
  refine ev_if_neB (x := (wth a0.toInt64 0 (s.2.1 1 1 - 1).toInt64)) (tgt := 14) rfl rfl (fun h => ?_) (fun h => ?_)
  · replace H := H.1 (h)
    refine ev_ex 4 (c' := (20, [some (.ref 2), some (.int a0), some (.int a1), none], [.long 1000, .long 0, .long a1.toInt64, .ref 2], cH c s)) rfl ?_
    refine rc_B (idx := 136) rfl rfl rfl (Nat.le_of_ble_eq_true rfl) (Nat.le_of_ble_eq_true rfl) rfl (K := fun x s' => x = wth a1.toInt64 0 1000 ∧ s' = s) (z_R_within ⟨rfl, rfl⟩) ?_
    rintro _ _ ⟨rfl, rfl⟩
    refine ev_if_eqB (x := (wth a1.toInt64 0 1000)) (tgt := 30) rfl rfl (fun h => ?_) (fun h => ?_)
    · replace H := H.1 (h)
      refine ev_ex 4 (c' := (38, [some (.ref 2), some (.int a0), some (.int a1), none], [.int ((rF s 4 2).1 4)], cH c (rF s 4 2))) rfl ?_
      refine ev_if_le (tgt := 43) rfl rfl (fun h => ?_) (fun h => ?_)
      · replace H := H.1 (h)
        refine ev_ex 1 (c' := (44, [some (.ref 2), some (.int a0), some (.int a1), none], [.ref 2], cH c (rF s 4 2))) rfl ?_
        refine rc_V (idx := 334) rfl rfl rfl (Nat.le_of_ble_eq_true rfl) (Nat.le_of_ble_eq_true rfl) rfl H (fun s1 H => ?_)
        refine ev_ex 2 (c' := (49, [some (.ref 2), some (.int a0), some (.int a1), some (.int 0)], [], cH c s1)) rfl ?_
        exact H
      · replace H := H.2 (h)
        refine ev_ex 1 (c' := (42, [some (.ref 2), some (.int a0), some (.int a1), none], [.int 0], cH c (rF s 4 2))) rfl ?_
        exact ev_ret rfl rfl rfl ⟨_, _, rfl, rfl, H⟩
    · replace H := H.2 (h)
      refine ev_ex 5 (c' := (38, [some (.ref 2), some (.int a0), some (.int a1), none], [.int ((rF s 4 0).1 4)], cH c (rF s 4 0))) rfl ?_
      refine ev_if_le (tgt := 43) rfl rfl (fun h => ?_) (fun h => ?_)
      · replace H := H.1 (h)
        refine ev_ex 1 (c' := (44, [some (.ref 2), some (.int a0), some (.int a1), none], [.ref 2], cH c (rF s 4 0))) rfl ?_
        refine rc_V (idx := 334) rfl rfl rfl (Nat.le_of_ble_eq_true rfl) (Nat.le_of_ble_eq_true rfl) rfl H (fun s2 H => ?_)
        refine ev_ex 2 (c' := (49, [some (.ref 2), some (.int a0), some (.int a1), some (.int 0)], [], cH c s2)) rfl ?_
        exact H
      · replace H := H.2 (h)
        refine ev_ex 1 (c' := (42, [some (.ref 2), some (.int a0), some (.int a1), none], [.int 0], cH c (rF s 4 0))) rfl ?_
        exact ev_ret rfl rfl rfl ⟨_, _, rfl, rfl, H⟩
  · replace H := H.2 (h)
    refine ev_ex 5 (c' := (38, [some (.ref 2), some (.int a0), some (.int a1), none], [.int ((rF s 4 1).1 4)], cH c (rF s 4 1))) rfl ?_
    refine ev_if_le (tgt := 43) rfl rfl (fun h => ?_) (fun h => ?_)
    · replace H := H.1 (h)
      refine ev_ex 1 (c' := (44, [some (.ref 2), some (.int a0), some (.int a1), none], [.ref 2], cH c (rF s 4 1))) rfl ?_
      refine rc_V (idx := 334) rfl rfl rfl (Nat.le_of_ble_eq_true rfl) (Nat.le_of_ble_eq_true rfl) rfl H (fun s3 H => ?_)
      refine ev_ex 2 (c' := (49, [some (.ref 2), some (.int a0), some (.int a1), some (.int 0)], [], cH c s3)) rfl ?_
      exact H
    · replace H := H.2 (h)
      refine ev_ex 1 (c' := (42, [some (.ref 2), some (.int a0), some (.int a1), none], [.int 0], cH c (rF s 4 1))) rfl ?_
      exact ev_ret rfl rfl rfl ⟨_, _, rfl, rfl, H⟩
theorem w_R_mocksIn_49 {c : CX} {d : Nat} {s : RS} {Q : Int32 → RS → Prop} (l1 : Int32) (l2 : Int32) (l3 : Int32) (H : ((l2 ≤ l3 → (okx (6 + l1) 2101 ∧ RV c (d + 1) m_R_putsBack [.ref 2] s (fun s1 => Q (s.2.1 1 (ix (6 + l1))) s1))) ∧ (¬ l2 ≤ l3 → RV c (d + 1) m_R_night [.ref 2] s (fun s2 => eR c (d + 2) m_R_mocksIn 49 [some (.ref 2), some (.int l1), some (.int l2), some (.int (l3 + 1))] s2 (pI c Q))))) : eR c (d + 2) m_R_mocksIn 49 [some (.ref 2), some (.int l1), some (.int l2), some (.int l3)] s (pI c Q) := by
  unfold eR
  refine ev_ex 0 (c' := (49, [some (.ref 2), some (.int l1), some (.int l2), some (.int l3)], [], cH c s)) rfl ?_
  refine ev_ex 2 (c' := (51, [some (.ref 2), some (.int l1), some (.int l2), some (.int l3)], [.int l2, .int l3], cH c s)) rfl ?_
  refine ev_icmp_ge (tgt := 64) rfl rfl (fun h => ?_) (fun h => ?_)
  · replace H := H.1 (h)
    refine ev_ex 2 (c' := (66, [some (.ref 2), some (.int l1), some (.int l2), some (.int l3)], [.int l1, .ref 2], cH c s)) rfl ?_
    obtain ⟨H1, H⟩ := H
    refine rc_I (idx := 270) rfl rfl rfl (Nat.le_of_ble_eq_true rfl) (Nat.le_of_ble_eq_true rfl) rfl (K := fun x s' => x = s.2.1 1 (ix (6 + l1)) ∧ s' = s) (z_R_mocked H1 ⟨rfl, rfl⟩) ?_
    rintro _ _ ⟨rfl, rfl⟩
    refine ev_ex 2 (c' := (71, [some (.ref 2), some (.int l1), some (.int l2), some (.int (s.2.1 1 (ix (6 + l1))))], [.ref 2], cH c s)) rfl ?_
    refine rc_V (idx := 368) rfl rfl rfl (Nat.le_of_ble_eq_true rfl) (Nat.le_of_ble_eq_true rfl) rfl H (fun s1 H => ?_)
    refine ev_ex 1 (c' := (75, [some (.ref 2), some (.int l1), some (.int l2), some (.int (s.2.1 1 (ix (6 + l1))))], [.int (s.2.1 1 (ix (6 + l1)))], cH c s1)) rfl ?_
    exact ev_ret rfl rfl rfl ⟨_, _, rfl, rfl, H⟩
  · replace H := H.2 (h)
    refine ev_ex 1 (c' := (55, [some (.ref 2), some (.int l1), some (.int l2), some (.int l3)], [.ref 2], cH c s)) rfl ?_
    refine rc_V (idx := 337) rfl rfl rfl (Nat.le_of_ble_eq_true rfl) (Nat.le_of_ble_eq_true rfl) rfl H (fun s2 H => ?_)
    refine ev_ex 2 (c' := (49, [some (.ref 2), some (.int l1), some (.int l2), some (.int (l3 + 1))], [], cH c s2)) rfl ?_
    exact H
theorem w_R_seen {c : CX} {d : Nat} {s : RS} {Q : Int32 → RS → Prop} (a0 : Int32) (H : RI c (d + 1) m_R_trayFault [.ref 2, .int a0] s (fun v2 s1 => ((¬ ((rF s1 4 v2).1 4) = 0 → eR c (d + 2) m_R_seen 36 [some (.ref 2), some (.int a0), some (.int 0), none, none] (rF s1 4 v2) (pI c Q)) ∧ (((rF s1 4 v2).1 4) = 0 → (okx a0 4 ∧ ((((rF s1 4 v2).2.1 16 (ix a0)) = ((rF s1 4 v2).2.1 1 1) → eR c (d + 2) m_R_seen 36 [some (.ref 2), some (.int a0), some (.int 0), none, none] (rF s1 4 v2) (pI c Q)) ∧ (¬ ((rF s1 4 v2).2.1 16 (ix a0)) = ((rF s1 4 v2).2.1 1 1) → eR c (d + 2) m_R_seen 36 [some (.ref 2), some (.int a0), some (.int 0), none, none] (rF (rF s1 4 v2) 4 3) (pI c Q)))))))) : RI c (d + 2) m_R_seen [.ref 2, .int a0] s Q := by
  refine ⟨q_R_seen, rfl, Nat.le_of_ble_eq_true rfl, ?_⟩
  refine ev_ex 0 (c' := (0, [some (.ref 2), some (.int a0), none, none, none], [], cH c s)) rfl ?_
  refine ev_ex 3 (c' := (3, [some (.ref 2), some (.int a0), none, none, none], [.int a0, .ref 2, .ref 2], cH c s)) rfl ?_
  refine rc_I (idx := 348) rfl rfl rfl (Nat.le_of_ble_eq_true rfl) (Nat.le_of_ble_eq_true rfl) rfl H (fun v2 s1 H => ?_)
  refine ev_ex 3 (c' := (13, [some (.ref 2), some (.int a0), none, none, none], [.int ((rF s1 4 v2).1 4)], cH c (rF s1 4 v2))) rfl ?_
  refine ev_if_ne (tgt := 34) rfl rfl (fun h => ?_) (fun h => ?_)
  · replace H := H.1 (h)
    refine ev_ex 2 (c' := (36, [some (.ref 2), some (.int a0), some (.int 0), none, none], [], cH c (rF s1 4 v2))) rfl ?_
    exact H
  · replace H := H.2 (h)
    refine ev_ex 3 (c' := (21, [some (.ref 2), some (.int a0), none, none, none], [.int a0, .ref 66], cH c (rF s1 4 v2))) rfl ?_
    obtain ⟨H0, H⟩ := H
    refine ev_ald (i := .iaload) rfl (Or.inl rfl) rfl H0 (v := .int ((rF s1 4 v2).2.1 16 (ix a0))) rfl ?_
    refine ev_ex 1 (c' := (23, [some (.ref 2), some (.int a0), none, none, none], [.ref 2, .int ((rF s1 4 v2).2.1 16 (ix a0))], cH c (rF s1 4 v2))) rfl ?_
    refine rc_I (idx := 267) rfl rfl rfl (Nat.le_of_ble_eq_true rfl) (Nat.le_of_ble_eq_true rfl) rfl (K := fun x s' => x = (rF s1 4 v2).2.1 1 1 ∧ s' = rF s1 4 v2) (z_R_guilds ⟨rfl, rfl⟩) ?_
    rintro _ _ ⟨rfl, rfl⟩
    refine ev_icmp_eq (tgt := 34) rfl rfl (fun h => ?_) (fun h => ?_)
    · replace H := H.1 (h)
      refine ev_ex 2 (c' := (36, [some (.ref 2), some (.int a0), some (.int 0), none, none], [], cH c (rF s1 4 v2))) rfl ?_
      exact H
    · replace H := H.2 (h)
      refine ev_ex 5 (c' := (36, [some (.ref 2), some (.int a0), some (.int 0), none, none], [], cH c (rF (rF s1 4 v2) 4 3))) rfl ?_
      exact H
theorem w_R_seen_36 {c : CX} {d : Nat} {s : RS} {Q : Int32 → RS → Prop} (l1 : Int32) (l2 : Int32) (H : ((¬ (s.1 4) = 0 → (((s.1 4) ≤ 0 → RV c (d + 1) m_R_putsAside [.ref 2] s (fun s1 => eR c (d + 2) m_R_seen 113 [some (.ref 2), some (.int l1), some (.int 0), none, none] s1 (pI c Q))) ∧ (¬ (s.1 4) ≤ 0 → Q 0 s))) ∧ ((s.1 4) = 0 → (((s.2.1 1 1) ≤ l2 → (((s.1 4) ≤ 0 → RV c (d + 1) m_R_putsAside [.ref 2] s (fun s2 => eR c (d + 2) m_R_seen 113 [some (.ref 2), some (.int l1), some (.int 0), none, none] s2 (pI c Q))) ∧ (¬ (s.1 4) ≤ 0 → Q 0 s))) ∧ (¬ (s.2.1 1 1) ≤ l2 → (okx ((30 * l1) + l2) 120 ∧ (((s.2.2 17 (ix ((30 * l1) + l2))) = ((-1)) → eR c (d + 2) m_R_seen 36 [some (.ref 2), some (.int l1), some (.int (l2 + 1)), none, none] s (pI c Q)) ∧ (¬ (s.2.2 17 (ix ((30 * l1) + l2))) = ((-1)) → (((s.2.2 17 (ix ((30 * l1) + l2))) = 99 → eR c (d + 2) m_R_seen 36 [some (.ref 2), some (.int l1), some (.int (l2 + 1)), none, none] s (pI c Q)) ∧ (¬ (s.2.2 17 (ix ((30 * l1) + l2))) = 99 → (((wth (s.2.2 17 (ix ((30 * l1) + l2))) 0 (s.2.1 1 1 - 1).toInt64) = true → eR c (d + 2) m_R_seen 36 [some (.ref 2), some (.int l1), some (.int (l2 + 1)), none, none] s (pI c Q)) ∧ ((wth (s.2.2 17 (ix ((30 * l1) + l2))) 0 (s.2.1 1 1 - 1).toInt64) = false → eR c (d + 2) m_R_seen 36 [some (.ref 2), some (.int l1), some (.int (l2 + 1)), none, none] (rF s 4 3) (pI c Q))))))))))))) : eR c (d + 2) m_R_seen 36 [some (.ref 2), some (.int l1), some (.int l2), none, none] s (pI c Q) := by
  unfold eR
  refine ev_ex 0 (c' := (36, [some (.ref 2), some (.int l1), some (.int l2), none, none], [], cH c s)) rfl ?_
  refine ev_ex 2 (c' := (40, [some (.ref 2), some (.int l1), some (.int l2), none, none], [.int (s.1 4)], cH c s)) rfl ?_
  refine ev_if_ne (tgt := 98) rfl rfl (fun h => ?_) (fun h => ?_)
  · replace H := H.1 (h)
    refine ev_ex 2 (c' := (102, [some (.ref 2), some (.int l1), some (.int l2), none, none], [.int (s.1 4)], cH c s)) rfl ?_
    refine ev_if_le (tgt := 107) rfl rfl (fun h => ?_) (fun h => ?_)
    · replace H := H.1 (h)
      refine ev_ex 1 (c' := (108, [some (.ref 2), some (.int l1), some (.int l2), none, none], [.ref 2], cH c s)) rfl ?_
      refine rc_V (idx := 334) rfl rfl rfl (Nat.le_of_ble_eq_true rfl) (Nat.le_of_ble_eq_true rfl) rfl H (fun s1 H => ?_)
      refine ev_ex 2 (c' := (113, [some (.ref 2), some (.int l1), some (.int 0), none, none], [], cH c s1)) rfl ?_
      exact H
    · replace H := H.2 (h)
      refine ev_ex 1 (c' := (106, [some (.ref 2), some (.int l1), some (.int l2), none, none], [.int 0], cH c s)) rfl ?_
      exact ev_ret rfl rfl rfl ⟨_, _, rfl, rfl, H⟩
  · replace H := H.2 (h)
    refine ev_ex 2 (c' := (45, [some (.ref 2), some (.int l1), some (.int l2), none, none], [.ref 2, .int l2], cH c s)) rfl ?_
    refine rc_I (idx := 267) rfl rfl rfl (Nat.le_of_ble_eq_true rfl) (Nat.le_of_ble_eq_true rfl) rfl (K := fun x s' => x = s.2.1 1 1 ∧ s' = s) (z_R_guilds ⟨rfl, rfl⟩) ?_
    rintro _ _ ⟨rfl, rfl⟩
    refine ev_icmp_ge (tgt := 98) rfl rfl (fun h => ?_) (fun h => ?_)
    · replace H := H.1 (h)
      refine ev_ex 2 (c' := (102, [some (.ref 2), some (.int l1), some (.int l2), none, none], [.int (s.1 4)], cH c s)) rfl ?_
      refine ev_if_le (tgt := 107) rfl rfl (fun h => ?_) (fun h => ?_)
      · replace H := H.1 (h)
        refine ev_ex 1 (c' := (108, [some (.ref 2), some (.int l1), some (.int l2), none, none], [.ref 2], cH c s)) rfl ?_
        refine rc_V (idx := 334) rfl rfl rfl (Nat.le_of_ble_eq_true rfl) (Nat.le_of_ble_eq_true rfl) rfl H (fun s2 H => ?_)
        refine ev_ex 2 (c' := (113, [some (.ref 2), some (.int l1), some (.int 0), none, none], [], cH c s2)) rfl ?_
        exact H
      · replace H := H.2 (h)
        refine ev_ex 1 (c' := (106, [some (.ref 2), some (.int l1), some (.int l2), none, none], [.int 0], cH c s)) rfl ?_
        exact ev_ret rfl rfl rfl ⟨_, _, rfl, rfl, H⟩
    · replace H := H.2 (h)
      refine ev_ex 7 (c' := (61, [some (.ref 2), some (.int l1), some (.int l2), none, none], [.int ((30 * l1) + l2), .ref 70], cH c s)) rfl ?_
      obtain ⟨H0, H⟩ := H
      refine ev_ald (i := .laload) rfl (Or.inr (Or.inr (Or.inl rfl))) rfl H0 (v := .long (s.2.2 17 (ix ((30 * l1) + l2)))) rfl ?_
      refine ev_ex 4 (c' := (68, [some (.ref 2), some (.int l1), some (.int l2), some (.long (s.2.2 17 (ix ((30 * l1) + l2)))), none], [.int (lg_cmp (s.2.2 17 (ix ((30 * l1) + l2))) ((-1)))], cH c s)) rfl ?_
      refine ev_if_eq (tgt := 92) rfl rfl (fun h => ?_) (fun h => ?_)
      · replace H := H.1 ((lg_cmp_eq _ _).mp h)
        refine ev_ex 2 (c' := (36, [some (.ref 2), some (.int l1), some (.int (l2 + 1)), some (.long (s.2.2 17 (ix ((30 * l1) + l2)))), none], [], cH c s)) rfl ?_
        exact ev_less (lle_of (L := [some (.ref 2), some (.int l1), some (.int (l2 + 1)), none, none]) ⟨rfl, ⟨rfl, ⟨rfl, trivial⟩⟩⟩) H
      · replace H := H.2 ((fun q => h ((lg_cmp_eq _ _).mpr q)))
        refine ev_ex 3 (c' := (76, [some (.ref 2), some (.int l1), some (.int l2), some (.long (s.2.2 17 (ix ((30 * l1) + l2)))), none], [.int (lg_cmp (s.2.2 17 (ix ((30 * l1) + l2))) 99)], cH c s)) rfl ?_
        refine ev_if_eq (tgt := 92) rfl rfl (fun h => ?_) (fun h => ?_)
        · replace H := H.1 ((lg_cmp_eq _ _).mp h)
          refine ev_ex 2 (c' := (36, [some (.ref 2), some (.int l1), some (.int (l2 + 1)), some (.long (s.2.2 17 (ix ((30 * l1) + l2)))), none], [], cH c s)) rfl ?_
          exact ev_less (lle_of (L := [some (.ref 2), some (.int l1), some (.int (l2 + 1)), none, none]) ⟨rfl, ⟨rfl, ⟨rfl, trivial⟩⟩⟩) H
        · replace H := H.2 ((fun q => h ((lg_cmp_eq _ _).mpr q)))
          refine ev_ex 2 (c' := (81, [some (.ref 2), some (.int l1), some (.int l2), some (.long (s.2.2 17 (ix ((30 * l1) + l2)))), none], [.long (s.2.2 17 (ix ((30 * l1) + l2))), .ref 2], cH c s)) rfl ?_
          refine rc_B (idx := 314) rfl rfl rfl (Nat.le_of_ble_eq_true rfl) (Nat.le_of_ble_eq_true rfl) rfl (K := fun x s' => x = wth (s.2.2 17 (ix ((30 * l1) + l2))) 0 (s.2.1 1 1 - 1).toInt64 ∧ s' = s) (z_R_isGuild ⟨rfl, rfl⟩) ?_
          rintro _ _ ⟨rfl, rfl⟩
          refine ev_if_neB (x := (wth (s.2.2 17 (ix ((30 * l1) + l2))) 0 (s.2.1 1 1 - 1).toInt64)) (tgt := 92) rfl rfl (fun h => ?_) (fun h => ?_)
          · replace H := H.1 (h)
            refine ev_ex 2 (c' := (36, [some (.ref 2), some (.int l1), some (.int (l2 + 1)), some (.long (s.2.2 17 (ix ((30 * l1) + l2)))), none], [], cH c s)) rfl ?_
            exact ev_less (lle_of (L := [some (.ref 2), some (.int l1), some (.int (l2 + 1)), none, none]) ⟨rfl, ⟨rfl, ⟨rfl, trivial⟩⟩⟩) H
          · replace H := H.2 (h)
            refine ev_ex 5 (c' := (36, [some (.ref 2), some (.int l1), some (.int (l2 + 1)), some (.long (s.2.2 17 (ix ((30 * l1) + l2)))), none], [], cH c (rF s 4 3))) rfl ?_
            exact ev_less (lle_of (L := [some (.ref 2), some (.int l1), some (.int (l2 + 1)), none, none]) ⟨rfl, ⟨rfl, ⟨rfl, trivial⟩⟩⟩) H
theorem w_R_seen_113 {c : CX} {d : Nat} {s : RS} {Q : Int32 → RS → Prop} (l1 : Int32) (l2 : Int32) (H : ((200 < l2 → RV c (d + 1) m_R_putsBack [.ref 2] s (fun s1 => ((l2 ≤ 200 → Q l2 s1) ∧ (¬ l2 ≤ 200 → Q ((-1)) s1)))) ∧ (¬ 200 < l2 → RB c (d + 1) m_R_isAsSeen [.ref 2, .int l1] s (fun v3 s2 => ((v3 = true → RV c (d + 1) m_R_putsBack [.ref 2] s2 (fun s4 => ((l2 ≤ 200 → Q l2 s4) ∧ (¬ l2 ≤ 200 → Q ((-1)) s4)))) ∧ (v3 = false → RV c (d + 1) m_R_night [.ref 2] s2 (fun s5 => eR c (d + 2) m_R_seen 113 [some (.ref 2), some (.int l1), some (.int (l2 + 1)), none, none] s5 (pI c Q)))))))) : eR c (d + 2) m_R_seen 113 [some (.ref 2), some (.int l1), some (.int l2), none, none] s (pI c Q) := by
  unfold eR
  refine ev_ex 0 (c' := (113, [some (.ref 2), some (.int l1), some (.int l2), none, none], [], cH c s)) rfl ?_
  refine ev_ex 2 (c' := (117, [some (.ref 2), some (.int l1), some (.int l2), none, none], [.int 200, .int l2], cH c s)) rfl ?_
  refine ev_icmp_gt (tgt := 138) rfl rfl (fun h => ?_) (fun h => ?_)
  · replace H := H.1 (h)
    refine ev_ex 1 (c' := (139, [some (.ref 2), some (.int l1), some (.int l2), none, none], [.ref 2], cH c s)) rfl ?_
    refine rc_V (idx := 368) rfl rfl rfl (Nat.le_of_ble_eq_true rfl) (Nat.le_of_ble_eq_true rfl) rfl H (fun s1 H => ?_)
    refine ev_ex 2 (c' := (146, [some (.ref 2), some (.int l1), some (.int l2), none, none], [.int 200, .int l2], cH c s1)) rfl ?_
    refine ev_icmp_le (tgt := 153) rfl rfl (fun h => ?_) (fun h => ?_)
    · replace H := H.1 (h)
      refine ev_ex 1 (c' := (154, [some (.ref 2), some (.int l1), some (.int l2), none, none], [.int l2], cH c s1)) rfl ?_
      exact ev_ret rfl rfl rfl ⟨_, _, rfl, rfl, H⟩
    · replace H := H.2 (h)
      refine ev_ex 2 (c' := (154, [some (.ref 2), some (.int l1), some (.int l2), none, none], [.int ((-1))], cH c s1)) rfl ?_
      exact ev_ret rfl rfl rfl ⟨_, _, rfl, rfl, H⟩
  · replace H := H.2 (h)
    refine ev_ex 2 (c' := (122, [some (.ref 2), some (.int l1), some (.int l2), none, none], [.int l1, .ref 2], cH c s)) rfl ?_
    refine rc_B (idx := 466) rfl rfl rfl (Nat.le_of_ble_eq_true rfl) (Nat.le_of_ble_eq_true rfl) rfl H (fun v3 s2 H => ?_)
    refine ev_if_neB (x := v3) (tgt := 138) rfl rfl (fun h => ?_) (fun h => ?_)
    · replace H := H.1 (h)
      refine ev_ex 1 (c' := (139, [some (.ref 2), some (.int l1), some (.int l2), none, none], [.ref 2], cH c s2)) rfl ?_
      refine rc_V (idx := 368) rfl rfl rfl (Nat.le_of_ble_eq_true rfl) (Nat.le_of_ble_eq_true rfl) rfl H (fun s4 H => ?_)
      refine ev_ex 2 (c' := (146, [some (.ref 2), some (.int l1), some (.int l2), none, none], [.int 200, .int l2], cH c s4)) rfl ?_
      refine ev_icmp_le (tgt := 153) rfl rfl (fun h => ?_) (fun h => ?_)
      · replace H := H.1 (h)
        refine ev_ex 1 (c' := (154, [some (.ref 2), some (.int l1), some (.int l2), none, none], [.int l2], cH c s4)) rfl ?_
        exact ev_ret rfl rfl rfl ⟨_, _, rfl, rfl, H⟩
      · replace H := H.2 (h)
        refine ev_ex 2 (c' := (154, [some (.ref 2), some (.int l1), some (.int l2), none, none], [.int ((-1))], cH c s4)) rfl ?_
        exact ev_ret rfl rfl rfl ⟨_, _, rfl, rfl, H⟩
    · replace H := H.2 (h)
      refine ev_ex 1 (c' := (129, [some (.ref 2), some (.int l1), some (.int l2), none, none], [.ref 2], cH c s2)) rfl ?_
      refine rc_V (idx := 337) rfl rfl rfl (Nat.le_of_ble_eq_true rfl) (Nat.le_of_ble_eq_true rfl) rfl H (fun s5 H => ?_)
      refine ev_ex 2 (c' := (113, [some (.ref 2), some (.int l1), some (.int (l2 + 1)), none, none], [], cH c s5)) rfl ?_
      exact H
theorem w_R_ever {c : CX} {d : Nat} {s : RS} {Q : Int32 → RS → Prop} (a0 : Int32) (a1 : Int32) (H : (((wth a0.toInt64 0 (s.2.1 1 1 - 1).toInt64) = true → (((wth a1.toInt64 0 1000) = false → ((((rF s 4 2).1 4) ≤ 0 → RV c (d + 1) m_R_putsAside [.ref 2] (rF s 4 2) (fun s1 => eR c (d + 2) m_R_ever 52 [some (.ref 2), some (.int a0), some (.int a1), some (.int 0), some (.int 0)] s1 (pI c Q))) ∧ (¬ ((rF s 4 2).1 4) ≤ 0 → Q 0 (rF s 4 2)))) ∧ ((wth a1.toInt64 0 1000) = true → ((((rF s 4 0).1 4) ≤ 0 → RV c (d + 1) m_R_putsAside [.ref 2] (rF s 4 0) (fun s2 => eR c (d + 2) m_R_ever 52 [some (.ref 2), some (.int a0), some (.int a1), some (.int 0), some (.int 0)] s2 (pI c Q))) ∧ (¬ ((rF s 4 0).1 4) ≤ 0 → Q 0 (rF s 4 0)))))) ∧ ((wth a0.toInt64 0 (s.2.1 1 1 - 1).toInt64) = false → ((((rF s 4 1).1 4) ≤ 0 → RV c (d + 1) m_R_putsAside [.ref 2] (rF s 4 1) (fun s3 => eR c (d + 2) m_R_ever 52 [some (.ref 2), some (.int a0), some (.int a1), some (.int 0), some (.int 0)] s3 (pI c Q))) ∧ (¬ ((rF s 4 1).1 4) ≤ 0 → Q 0 (rF s 4 1)))))) : RI c (d + 2) m_R_ever [.ref 2, .int a0, .int a1] s Q := by
  refine ⟨q_R_ever, rfl, Nat.le_of_ble_eq_true rfl, ?_⟩
  refine ev_ex 0 (c' := (0, [some (.ref 2), some (.int a0), some (.int a1), none, none], [], cH c s)) rfl ?_
  refine ev_ex 4 (c' := (4, [some (.ref 2), some (.int a0), some (.int a1), none, none], [.long a0.toInt64, .ref 2, .ref 2], cH c s)) rfl ?_
  refine rc_B (idx := 314) rfl rfl rfl (Nat.le_of_ble_eq_true rfl) (Nat.le_of_ble_eq_true rfl) rfl (K := fun x s' => x = wth a0.toInt64 0 (s.2.1 1 1 - 1).toInt64 ∧ s' = s) (z_R_isGuild ⟨rfl, rfl⟩) ?_
  rintro _ _ ⟨rfl, rfl⟩
  refine ev_if_neB (x := (wth a0.toInt64 0 (s.2.1 1 1 - 1).toInt64)) (tgt := 14) rfl rfl (fun h => ?_) (fun h => ?_)
  · replace H := H.1 (h)
    refine ev_ex 4 (c' := (20, [some (.ref 2), some (.int a0), some (.int a1), none, none], [.long 1000, .long 0, .long a1.toInt64, .ref 2], cH c s)) rfl ?_
    refine rc_B (idx := 136) rfl rfl rfl (Nat.le_of_ble_eq_true rfl) (Nat.le_of_ble_eq_true rfl) rfl (K := fun x s' => x = wth a1.toInt64 0 1000 ∧ s' = s) (z_R_within ⟨rfl, rfl⟩) ?_
    rintro _ _ ⟨rfl, rfl⟩
    refine ev_if_eqB (x := (wth a1.toInt64 0 1000)) (tgt := 30) rfl rfl (fun h => ?_) (fun h => ?_)
    · replace H := H.1 (h)
      refine ev_ex 4 (c' := (38, [some (.ref 2), some (.int a0), some (.int a1), none, none], [.int ((rF s 4 2).1 4)], cH c (rF s 4 2))) rfl ?_
      refine ev_if_le (tgt := 43) rfl rfl (fun h => ?_) (fun h => ?_)
      · replace H := H.1 (h)
        refine ev_ex 1 (c' := (44, [some (.ref 2), some (.int a0), some (.int a1), none, none], [.ref 2], cH c (rF s 4 2))) rfl ?_
        refine rc_V (idx := 334) rfl rfl rfl (Nat.le_of_ble_eq_true rfl) (Nat.le_of_ble_eq_true rfl) rfl H (fun s1 H => ?_)
        refine ev_ex 4 (c' := (52, [some (.ref 2), some (.int a0), some (.int a1), some (.int 0), some (.int 0)], [], cH c s1)) rfl ?_
        exact H
      · replace H := H.2 (h)
        refine ev_ex 1 (c' := (42, [some (.ref 2), some (.int a0), some (.int a1), none, none], [.int 0], cH c (rF s 4 2))) rfl ?_
        exact ev_ret rfl rfl rfl ⟨_, _, rfl, rfl, H⟩
    · replace H := H.2 (h)
      refine ev_ex 5 (c' := (38, [some (.ref 2), some (.int a0), some (.int a1), none, none], [.int ((rF s 4 0).1 4)], cH c (rF s 4 0))) rfl ?_
      refine ev_if_le (tgt := 43) rfl rfl (fun h => ?_) (fun h => ?_)
      · replace H := H.1 (h)
        refine ev_ex 1 (c' := (44, [some (.ref 2), some (.int a0), some (.int a1), none, none], [.ref 2], cH c (rF s 4 0))) rfl ?_
        refine rc_V (idx := 334) rfl rfl rfl (Nat.le_of_ble_eq_true rfl) (Nat.le_of_ble_eq_true rfl) rfl H (fun s2 H => ?_)
        refine ev_ex 4 (c' := (52, [some (.ref 2), some (.int a0), some (.int a1), some (.int 0), some (.int 0)], [], cH c s2)) rfl ?_
        exact H
      · replace H := H.2 (h)
        refine ev_ex 1 (c' := (42, [some (.ref 2), some (.int a0), some (.int a1), none, none], [.int 0], cH c (rF s 4 0))) rfl ?_
        exact ev_ret rfl rfl rfl ⟨_, _, rfl, rfl, H⟩
  · replace H := H.2 (h)
    refine ev_ex 5 (c' := (38, [some (.ref 2), some (.int a0), some (.int a1), none, none], [.int ((rF s 4 1).1 4)], cH c (rF s 4 1))) rfl ?_
    refine ev_if_le (tgt := 43) rfl rfl (fun h => ?_) (fun h => ?_)
    · replace H := H.1 (h)
      refine ev_ex 1 (c' := (44, [some (.ref 2), some (.int a0), some (.int a1), none, none], [.ref 2], cH c (rF s 4 1))) rfl ?_
      refine rc_V (idx := 334) rfl rfl rfl (Nat.le_of_ble_eq_true rfl) (Nat.le_of_ble_eq_true rfl) rfl H (fun s3 H => ?_)
      refine ev_ex 4 (c' := (52, [some (.ref 2), some (.int a0), some (.int a1), some (.int 0), some (.int 0)], [], cH c s3)) rfl ?_
      exact H
    · replace H := H.2 (h)
      refine ev_ex 1 (c' := (42, [some (.ref 2), some (.int a0), some (.int a1), none, none], [.int 0], cH c (rF s 4 1))) rfl ?_
      exact ev_ret rfl rfl rfl ⟨_, _, rfl, rfl, H⟩
theorem w_R_ever_52 {c : CX} {d : Nat} {s : RS} {Q : Int32 → RS → Prop} (l1 : Int32) (l2 : Int32) (l3 : Int32) (l4 : Int32) (H : ((l2 < l4 → RV c (d + 1) m_R_putsBack [.ref 2] s (fun s1 => Q l3 s1)) ∧ (¬ l2 < l4 → RI c (d + 1) m_R_mockers [.ref 2, .int l1] s (fun v3 s2 => RV c (d + 1) m_R_night [.ref 2] s2 (fun s4 => eR c (d + 2) m_R_ever 52 [some (.ref 2), some (.int l1), some (.int l2), some (.int (l3 ||| v3)), some (.int (l4 + 1))] s4 (pI c Q)))))) : eR c (d + 2) m_R_ever 52 [some (.ref 2), some (.int l1), some (.int l2), some (.int l3), some (.int l4)] s (pI c Q) := by
  unfold eR
  refine ev_ex 0 (c' := (52, [some (.ref 2), some (.int l1), some (.int l2), some (.int l3), some (.int l4)], [], cH c s)) rfl ?_
  refine ev_ex 2 (c' := (55, [some (.ref 2), some (.int l1), some (.int l2), some (.int l3), some (.int l4)], [.int l2, .int l4], cH c s)) rfl ?_
  refine ev_icmp_gt (tgt := 76) rfl rfl (fun h => ?_) (fun h => ?_)
  · replace H := H.1 (h)
    refine ev_ex 1 (c' := (77, [some (.ref 2), some (.int l1), some (.int l2), some (.int l3), some (.int l4)], [.ref 2], cH c s)) rfl ?_
    refine rc_V (idx := 368) rfl rfl rfl (Nat.le_of_ble_eq_true rfl) (Nat.le_of_ble_eq_true rfl) rfl H (fun s1 H => ?_)
    refine ev_ex 1 (c' := (81, [some (.ref 2), some (.int l1), some (.int l2), some (.int l3), some (.int l4)], [.int l3], cH c s1)) rfl ?_
    exact ev_ret rfl rfl rfl ⟨_, _, rfl, rfl, H⟩
  · replace H := H.2 (h)
    refine ev_ex 3 (c' := (61, [some (.ref 2), some (.int l1), some (.int l2), some (.int l3), some (.int l4)], [.int l1, .ref 2, .int l3], cH c s)) rfl ?_
    refine rc_I (idx := 290) rfl rfl rfl (Nat.le_of_ble_eq_true rfl) (Nat.le_of_ble_eq_true rfl) rfl H (fun v3 s2 H => ?_)
    refine ev_ex 3 (c' := (67, [some (.ref 2), some (.int l1), some (.int l2), some (.int (l3 ||| v3)), some (.int l4)], [.ref 2], cH c s2)) rfl ?_
    refine rc_V (idx := 337) rfl rfl rfl (Nat.le_of_ble_eq_true rfl) (Nat.le_of_ble_eq_true rfl) rfl H (fun s4 H => ?_)
    refine ev_ex 2 (c' := (52, [some (.ref 2), some (.int l1), some (.int l2), some (.int (l3 ||| v3)), some (.int (l4 + 1))], [], cH c s4)) rfl ?_
    exact H
theorem w_R_fewest {c : CX} {d : Nat} {s : RS} {Q : Int32 → RS → Prop} (a0 : Int32) (a1 : Int32) (H : (((wth a0.toInt64 0 200) = false → Q 0 (rF (rF s 4 0) 4 1)) ∧ ((wth a0.toInt64 0 200) = true → (((wth a1.toInt64 0 1) = true → RV c d m_R_putsAside [.ref 2] (rF s 4 0) (fun s1 => eR c (d + 1) m_R_fewest 45 [some (.ref 2), some (.int a0), some (.int a1), some (.int 0), some (.int 0), some (.int 0)] s1 (pI c Q))) ∧ ((wth a1.toInt64 0 1) = false → Q 0 (rF (rF s 4 0) 4 1)))))) : RI c (d + 1) m_R_fewest [.ref 2, .int a0, .int a1] s Q := by
  refine ⟨q_R_fewest, rfl, Nat.le_of_ble_eq_true rfl, ?_⟩
  refine ev_ex 0 (c' := (0, [some (.ref 2), some (.int a0), some (.int a1), none, none, none], [], cH c s)) rfl ?_
  refine ev_ex 7 (c' := (11, [some (.ref 2), some (.int a0), some (.int a1), none, none, none], [.long 200, .long 0, .long a0.toInt64], cH c (rF s 4 0))) rfl ?_
  refine rc_B (idx := 136) rfl rfl rfl (Nat.le_of_ble_eq_true rfl) (Nat.le_of_ble_eq_true rfl) rfl (K := fun x s' => x = wth a0.toInt64 0 200 ∧ s' = rF s 4 0) (z_R_within ⟨rfl, rfl⟩) ?_
  rintro _ _ ⟨rfl, rfl⟩
  refine ev_if_eqB (x := (wth a0.toInt64 0 200)) (tgt := 27) rfl rfl (fun h => ?_) (fun h => ?_)
  · replace H := H.1 (h)
    refine ev_ex 2 (c' := (29, [some (.ref 2), some (.int a0), some (.int a1), none, none, none], [.int 1, .ref 2], cH c (rF s 4 0))) rfl ?_
    refine rc_I (idx := 258) rfl rfl rfl (Nat.le_of_ble_eq_true rfl) (Nat.le_of_ble_eq_true rfl) rfl (K := fun x s' => x = 0 ∧ s' = rF (rF s 4 0) 4 1) (z_R_fails ⟨rfl, rfl⟩) ?_
    rintro _ _ ⟨rfl, rfl⟩
    exact ev_ret rfl rfl rfl ⟨_, _, rfl, rfl, H⟩
  · replace H := H.2 (h)
    refine ev_ex 4 (c' := (21, [some (.ref 2), some (.int a0), some (.int a1), none, none, none], [.long 1, .long 0, .long a1.toInt64], cH c (rF s 4 0))) rfl ?_
    refine rc_B (idx := 136) rfl rfl rfl (Nat.le_of_ble_eq_true rfl) (Nat.le_of_ble_eq_true rfl) rfl (K := fun x s' => x = wth a1.toInt64 0 1 ∧ s' = rF s 4 0) (z_R_within ⟨rfl, rfl⟩) ?_
    rintro _ _ ⟨rfl, rfl⟩
    refine ev_if_neB (x := (wth a1.toInt64 0 1)) (tgt := 33) rfl rfl (fun h => ?_) (fun h => ?_)
    · replace H := H.1 (h)
      refine ev_ex 1 (c' := (34, [some (.ref 2), some (.int a0), some (.int a1), none, none, none], [.ref 2], cH c (rF s 4 0))) rfl ?_
      refine rc_V (idx := 334) rfl rfl rfl (Nat.le_of_ble_eq_true rfl) (Nat.le_of_ble_eq_true rfl) rfl H (fun s1 H => ?_)
      refine ev_ex 6 (c' := (45, [some (.ref 2), some (.int a0), some (.int a1), some (.int 0), some (.int 0), some (.int 0)], [], cH c s1)) rfl ?_
      exact H
    · replace H := H.2 (h)
      refine ev_ex 2 (c' := (29, [some (.ref 2), some (.int a0), some (.int a1), none, none, none], [.int 1, .ref 2], cH c (rF s 4 0))) rfl ?_
      refine rc_I (idx := 258) rfl rfl rfl (Nat.le_of_ble_eq_true rfl) (Nat.le_of_ble_eq_true rfl) rfl (K := fun x s' => x = 0 ∧ s' = rF (rF s 4 0) 4 1) (z_R_fails ⟨rfl, rfl⟩) ?_
      rintro _ _ ⟨rfl, rfl⟩
      exact ev_ret rfl rfl rfl ⟨_, _, rfl, rfl, H⟩
theorem w_R_fewest_45 {c : CX} {d : Nat} {s : RS} {Q : Int32 → RS → Prop} (l1 : Int32) (l2 : Int32) (l3 : Int32) (l4 : Int32) (l5 : Int32) (H : ((l1 < l5 → RV c d m_R_putsBack [.ref 2] s (fun s1 => ((¬ l2 = 0 → Q l3 s1) ∧ (l2 = 0 → Q l4 s1)))) ∧ (¬ l1 < l5 → RV c d m_R_laysRow [.ref 2] s (fun s2 => ((l5 = 0 → RV c d m_R_night [.ref 2] s2 (fun s3 => eR c (d + 1) m_R_fewest 45 [some (.ref 2), some (.int l1), some (.int l2), some (.int l5), some (.int (s2.1 27)), some (.int (l5 + 1))] s3 (pI c Q))) ∧ (¬ l5 = 0 → ((l4 ≤ (s2.1 27) → RV c d m_R_night [.ref 2] s2 (fun s4 => eR c (d + 1) m_R_fewest 45 [some (.ref 2), some (.int l1), some (.int l2), some (.int l3), some (.int l4), some (.int (l5 + 1))] s4 (pI c Q))) ∧ (¬ l4 ≤ (s2.1 27) → RV c d m_R_night [.ref 2] s2 (fun s5 => eR c (d + 1) m_R_fewest 45 [some (.ref 2), some (.int l1), some (.int l2), some (.int l5), some (.int (s2.1 27)), some (.int (l5 + 1))] s5 (pI c Q)))))))))) : eR c (d + 1) m_R_fewest 45 [some (.ref 2), some (.int l1), some (.int l2), some (.int l3), some (.int l4), some (.int l5)] s (pI c Q) := by
  unfold eR
  refine ev_ex 0 (c' := (45, [some (.ref 2), some (.int l1), some (.int l2), some (.int l3), some (.int l4), some (.int l5)], [], cH c s)) rfl ?_
  refine ev_ex 2 (c' := (48, [some (.ref 2), some (.int l1), some (.int l2), some (.int l3), some (.int l4), some (.int l5)], [.int l1, .int l5], cH c s)) rfl ?_
  refine ev_icmp_gt (tgt := 88) rfl rfl (fun h => ?_) (fun h => ?_)
  · replace H := H.1 (h)
    refine ev_ex 1 (c' := (89, [some (.ref 2), some (.int l1), some (.int l2), some (.int l3), some (.int l4), some (.int l5)], [.ref 2], cH c s)) rfl ?_
    refine rc_V (idx := 368) rfl rfl rfl (Nat.le_of_ble_eq_true rfl) (Nat.le_of_ble_eq_true rfl) rfl H (fun s1 H => ?_)
    refine ev_ex 1 (c' := (93, [some (.ref 2), some (.int l1), some (.int l2), some (.int l3), some (.int l4), some (.int l5)], [.int l2], cH c s1)) rfl ?_
    refine ev_if_ne (tgt := 101) rfl rfl (fun h => ?_) (fun h => ?_)
    · replace H := H.1 (h)
      refine ev_ex 1 (c' := (102, [some (.ref 2), some (.int l1), some (.int l2), some (.int l3), some (.int l4), some (.int l5)], [.int l3], cH c s1)) rfl ?_
      exact ev_ret rfl rfl rfl ⟨_, _, rfl, rfl, H⟩
    · replace H := H.2 (h)
      refine ev_ex 2 (c' := (102, [some (.ref 2), some (.int l1), some (.int l2), some (.int l3), some (.int l4), some (.int l5)], [.int l4], cH c s1)) rfl ?_
      exact ev_ret rfl rfl rfl ⟨_, _, rfl, rfl, H⟩
  · replace H := H.2 (h)
    refine ev_ex 1 (c' := (52, [some (.ref 2), some (.int l1), some (.int l2), some (.int l3), some (.int l4), some (.int l5)], [.ref 2], cH c s)) rfl ?_
    refine rc_V (idx := 362) rfl rfl rfl (Nat.le_of_ble_eq_true rfl) (Nat.le_of_ble_eq_true rfl) rfl H (fun s2 H => ?_)
    refine ev_ex 1 (c' := (57, [some (.ref 2), some (.int l1), some (.int l2), some (.int l3), some (.int l4), some (.int l5)], [.int l5], cH c s2)) rfl ?_
    refine ev_if_eq (tgt := 69) rfl rfl (fun h => ?_) (fun h => ?_)
    · replace H := H.1 (h)
      refine ev_ex 6 (c' := (79, [some (.ref 2), some (.int l1), some (.int l2), some (.int l5), some (.int (s2.1 27)), some (.int l5)], [.ref 2], cH c s2)) rfl ?_
      refine rc_V (idx := 337) rfl rfl rfl (Nat.le_of_ble_eq_true rfl) (Nat.le_of_ble_eq_true rfl) rfl H (fun s3 H => ?_)
      refine ev_ex 2 (c' := (45, [some (.ref 2), some (.int l1), some (.int l2), some (.int l5), some (.int (s2.1 27)), some (.int (l5 + 1))], [], cH c s3)) rfl ?_
      exact H
    · replace H := H.2 (h)
      refine ev_ex 3 (c' := (66, [some (.ref 2), some (.int l1), some (.int l2), some (.int l3), some (.int l4), some (.int l5)], [.int l4, .int (s2.1 27)], cH c s2)) rfl ?_
      refine ev_icmp_ge (tgt := 78) rfl rfl (fun h => ?_) (fun h => ?_)
      · replace H := H.1 (h)
        refine ev_ex 1 (c' := (79, [some (.ref 2), some (.int l1), some (.int l2), some (.int l3), some (.int l4), some (.int l5)], [.ref 2], cH c s2)) rfl ?_
        refine rc_V (idx := 337) rfl rfl rfl (Nat.le_of_ble_eq_true rfl) (Nat.le_of_ble_eq_true rfl) rfl H (fun s4 H => ?_)
        refine ev_ex 2 (c' := (45, [some (.ref 2), some (.int l1), some (.int l2), some (.int l3), some (.int l4), some (.int (l5 + 1))], [], cH c s4)) rfl ?_
        exact H
      · replace H := H.2 (h)
        refine ev_ex 6 (c' := (79, [some (.ref 2), some (.int l1), some (.int l2), some (.int l5), some (.int (s2.1 27)), some (.int l5)], [.ref 2], cH c s2)) rfl ?_
        refine rc_V (idx := 337) rfl rfl rfl (Nat.le_of_ble_eq_true rfl) (Nat.le_of_ble_eq_true rfl) rfl H (fun s5 H => ?_)
        refine ev_ex 2 (c' := (45, [some (.ref 2), some (.int l1), some (.int l2), some (.int l5), some (.int (s2.1 27)), some (.int (l5 + 1))], [], cH c s5)) rfl ?_
        exact H
theorem w_R_tray {c : CX} {d : Nat} {s : RS} {Q : RS → Prop} (a0 : Int32) (a1 : Int32) (a2 : Int32) (H : (((wth a0.toInt64 0 3) = true → (((wth a1.toInt64 0 3) = false → ((((rF s 4 2).1 4) ≤ 0 → (okx a0 4 ∧ (okx a0 4 ∧ eR c (d + 2) m_R_tray 69 [some (.ref 2), some (.int a0), some (.int a1), some (.int a2), some (.int 0)] (rA (rA (rF s 4 2) 15 (ix a0) a1) 16 (ix a0) a2) (pV c Q)))) ∧ (¬ ((rF s 4 2).1 4) ≤ 0 → Q (rF s 4 2)))) ∧ ((wth a1.toInt64 0 3) = true → (((wth a2.toInt64 0 30) = true → ((((rF s 4 0).1 4) ≤ 0 → (okx a0 4 ∧ (okx a0 4 ∧ eR c (d + 2) m_R_tray 69 [some (.ref 2), some (.int a0), some (.int a1), some (.int a2), some (.int 0)] (rA (rA (rF s 4 0) 15 (ix a0) a1) 16 (ix a0) a2) (pV c Q)))) ∧ (¬ ((rF s 4 0).1 4) ≤ 0 → Q (rF s 4 0)))) ∧ ((wth a2.toInt64 0 30) = false → ((((rF s 4 2).1 4) ≤ 0 → (okx a0 4 ∧ (okx a0 4 ∧ eR c (d + 2) m_R_tray 69 [some (.ref 2), some (.int a0), some (.int a1), some (.int a2), some (.int 0)] (rA (rA (rF s 4 2) 15 (ix a0) a1) 16 (ix a0) a2) (pV c Q)))) ∧ (¬ ((rF s 4 2).1 4) ≤ 0 → Q (rF s 4 2)))))))) ∧ ((wth a0.toInt64 0 3) = false → ((((rF s 4 1).1 4) ≤ 0 → (okx a0 4 ∧ (okx a0 4 ∧ eR c (d + 2) m_R_tray 69 [some (.ref 2), some (.int a0), some (.int a1), some (.int a2), some (.int 0)] (rA (rA (rF s 4 1) 15 (ix a0) a1) 16 (ix a0) a2) (pV c Q)))) ∧ (¬ ((rF s 4 1).1 4) ≤ 0 → Q (rF s 4 1)))))) : RV c (d + 2) m_R_tray [.ref 2, .int a0, .int a1, .int a2] s Q := by
  refine ⟨q_R_tray, rfl, Nat.le_of_ble_eq_true rfl, ?_⟩
  refine ev_ex 0 (c' := (0, [some (.ref 2), some (.int a0), some (.int a1), some (.int a2), none], [], cH c s)) rfl ?_
  refine ev_ex 2 (c' := (2, [some (.ref 2), some (.int a0), some (.int a1), some (.int a2), none], [.int a0, .ref 2], cH c s)) rfl ?_
  refine rc_B (idx := 341) rfl rfl rfl (Nat.le_of_ble_eq_true rfl) (Nat.le_of_ble_eq_true rfl) rfl (K := fun x s' => x = wth a0.toInt64 0 3 ∧ s' = s) (z_R_isTray ⟨rfl, rfl⟩) ?_
  rintro _ _ ⟨rfl, rfl⟩
  refine ev_if_neB (x := (wth a0.toInt64 0 3)) (tgt := 12) rfl rfl (fun h => ?_) (fun h => ?_)
  · replace H := H.1 (h)
    refine ev_ex 4 (c' := (18, [some (.ref 2), some (.int a0), some (.int a1), some (.int a2), none], [.long 3, .long 0, .long a1.toInt64, .ref 2], cH c s)) rfl ?_
    refine rc_B (idx := 136) rfl rfl rfl (Nat.le_of_ble_eq_true rfl) (Nat.le_of_ble_eq_true rfl) rfl (K := fun x s' => x = wth a1.toInt64 0 3 ∧ s' = s) (z_R_within ⟨rfl, rfl⟩) ?_
    rintro _ _ ⟨rfl, rfl⟩
    refine ev_if_eqB (x := (wth a1.toInt64 0 3)) (tgt := 36) rfl rfl (fun h => ?_) (fun h => ?_)
    · replace H := H.1 (h)
      refine ev_ex 5 (c' := (48, [some (.ref 2), some (.int a0), some (.int a1), some (.int a2), none], [.int ((rF s 4 2).1 4)], cH c (rF s 4 2))) rfl ?_
      refine ev_if_le (tgt := 52) rfl rfl (fun h => ?_) (fun h => ?_)
      · replace H := H.1 (h)
        refine ev_ex 4 (c' := (58, [some (.ref 2), some (.int a0), some (.int a1), some (.int a2), none], [.int a1, .int a0, .ref 62], cH c (rF s 4 2))) rfl ?_
        obtain ⟨H0, H⟩ := H
        refine ev_ast (i := .iastore) rfl (Or.inl rfl) rfl H0 (by decide) rfl rfl (σ' := cH c (rA (rF s 4 2) 15 (ix a0) a1)) rfl ?_
        refine ev_ex 4 (c' := (65, [some (.ref 2), some (.int a0), some (.int a1), some (.int a2), none], [.int a2, .int a0, .ref 66], cH c (rA (rF s 4 2) 15 (ix a0) a1))) rfl ?_
        obtain ⟨H0, H⟩ := H
        refine ev_ast (i := .iastore) rfl (Or.inl rfl) rfl H0 (by decide) rfl rfl (σ' := cH c (rA (rA (rF s 4 2) 15 (ix a0) a1) 16 (ix a0) a2)) rfl ?_
        refine ev_ex 2 (c' := (69, [some (.ref 2), some (.int a0), some (.int a1), some (.int a2), some (.int 0)], [], cH c (rA (rA (rF s 4 2) 15 (ix a0) a1) 16 (ix a0) a2))) rfl ?_
        exact H
      · replace H := H.2 (h)
        exact ev_ret rfl rfl rfl ⟨_, rfl, rfl, H⟩
    · replace H := H.2 (h)
      refine ev_ex 4 (c' := (30, [some (.ref 2), some (.int a0), some (.int a1), some (.int a2), none], [.long 30, .long 0, .long a2.toInt64, .ref 2], cH c s)) rfl ?_
      refine rc_B (idx := 136) rfl rfl rfl (Nat.le_of_ble_eq_true rfl) (Nat.le_of_ble_eq_true rfl) rfl (K := fun x s' => x = wth a2.toInt64 0 30 ∧ s' = s) (z_R_within ⟨rfl, rfl⟩) ?_
      rintro _ _ ⟨rfl, rfl⟩
      refine ev_if_neB (x := (wth a2.toInt64 0 30)) (tgt := 40) rfl rfl (fun h => ?_) (fun h => ?_)
      · replace H := H.1 (h)
        refine ev_ex 4 (c' := (48, [some (.ref 2), some (.int a0), some (.int a1), some (.int a2), none], [.int ((rF s 4 0).1 4)], cH c (rF s 4 0))) rfl ?_
        refine ev_if_le (tgt := 52) rfl rfl (fun h => ?_) (fun h => ?_)
        · replace H := H.1 (h)
          refine ev_ex 4 (c' := (58, [some (.ref 2), some (.int a0), some (.int a1), some (.int a2), none], [.int a1, .int a0, .ref 62], cH c (rF s 4 0))) rfl ?_
          obtain ⟨H0, H⟩ := H
          refine ev_ast (i := .iastore) rfl (Or.inl rfl) rfl H0 (by decide) rfl rfl (σ' := cH c (rA (rF s 4 0) 15 (ix a0) a1)) rfl ?_
          refine ev_ex 4 (c' := (65, [some (.ref 2), some (.int a0), some (.int a1), some (.int a2), none], [.int a2, .int a0, .ref 66], cH c (rA (rF s 4 0) 15 (ix a0) a1))) rfl ?_
          obtain ⟨H0, H⟩ := H
          refine ev_ast (i := .iastore) rfl (Or.inl rfl) rfl H0 (by decide) rfl rfl (σ' := cH c (rA (rA (rF s 4 0) 15 (ix a0) a1) 16 (ix a0) a2)) rfl ?_
          refine ev_ex 2 (c' := (69, [some (.ref 2), some (.int a0), some (.int a1), some (.int a2), some (.int 0)], [], cH c (rA (rA (rF s 4 0) 15 (ix a0) a1) 16 (ix a0) a2))) rfl ?_
          exact H
        · replace H := H.2 (h)
          exact ev_ret rfl rfl rfl ⟨_, rfl, rfl, H⟩
      · replace H := H.2 (h)
        refine ev_ex 5 (c' := (48, [some (.ref 2), some (.int a0), some (.int a1), some (.int a2), none], [.int ((rF s 4 2).1 4)], cH c (rF s 4 2))) rfl ?_
        refine ev_if_le (tgt := 52) rfl rfl (fun h => ?_) (fun h => ?_)
        · replace H := H.1 (h)
          refine ev_ex 4 (c' := (58, [some (.ref 2), some (.int a0), some (.int a1), some (.int a2), none], [.int a1, .int a0, .ref 62], cH c (rF s 4 2))) rfl ?_
          obtain ⟨H0, H⟩ := H
          refine ev_ast (i := .iastore) rfl (Or.inl rfl) rfl H0 (by decide) rfl rfl (σ' := cH c (rA (rF s 4 2) 15 (ix a0) a1)) rfl ?_
          refine ev_ex 4 (c' := (65, [some (.ref 2), some (.int a0), some (.int a1), some (.int a2), none], [.int a2, .int a0, .ref 66], cH c (rA (rF s 4 2) 15 (ix a0) a1))) rfl ?_
          obtain ⟨H0, H⟩ := H
          refine ev_ast (i := .iastore) rfl (Or.inl rfl) rfl H0 (by decide) rfl rfl (σ' := cH c (rA (rA (rF s 4 2) 15 (ix a0) a1) 16 (ix a0) a2)) rfl ?_
          refine ev_ex 2 (c' := (69, [some (.ref 2), some (.int a0), some (.int a1), some (.int a2), some (.int 0)], [], cH c (rA (rA (rF s 4 2) 15 (ix a0) a1) 16 (ix a0) a2))) rfl ?_
          exact H
        · replace H := H.2 (h)
          exact ev_ret rfl rfl rfl ⟨_, rfl, rfl, H⟩
  · replace H := H.2 (h)
    refine ev_ex 5 (c' := (48, [some (.ref 2), some (.int a0), some (.int a1), some (.int a2), none], [.int ((rF s 4 1).1 4)], cH c (rF s 4 1))) rfl ?_
    refine ev_if_le (tgt := 52) rfl rfl (fun h => ?_) (fun h => ?_)
    · replace H := H.1 (h)
      refine ev_ex 4 (c' := (58, [some (.ref 2), some (.int a0), some (.int a1), some (.int a2), none], [.int a1, .int a0, .ref 62], cH c (rF s 4 1))) rfl ?_
      obtain ⟨H0, H⟩ := H
      refine ev_ast (i := .iastore) rfl (Or.inl rfl) rfl H0 (by decide) rfl rfl (σ' := cH c (rA (rF s 4 1) 15 (ix a0) a1)) rfl ?_
      refine ev_ex 4 (c' := (65, [some (.ref 2), some (.int a0), some (.int a1), some (.int a2), none], [.int a2, .int a0, .ref 66], cH c (rA (rF s 4 1) 15 (ix a0) a1))) rfl ?_
      obtain ⟨H0, H⟩ := H
      refine ev_ast (i := .iastore) rfl (Or.inl rfl) rfl H0 (by decide) rfl rfl (σ' := cH c (rA (rA (rF s 4 1) 15 (ix a0) a1) 16 (ix a0) a2)) rfl ?_
      refine ev_ex 2 (c' := (69, [some (.ref 2), some (.int a0), some (.int a1), some (.int a2), some (.int 0)], [], cH c (rA (rA (rF s 4 1) 15 (ix a0) a1) 16 (ix a0) a2))) rfl ?_
      exact H
    · replace H := H.2 (h)
      exact ev_ret rfl rfl rfl ⟨_, rfl, rfl, H⟩
theorem w_R_tray_69 {c : CX} {d : Nat} {s : RS} {Q : RS → Prop} (l1 : Int32) (l2 : Int32) (l3 : Int32) (l4 : Int32) (H : ((30 ≤ l4 → Q s) ∧ (¬ 30 ≤ l4 → (okx ((30 * l1) + l4) 120 ∧ eR c (d + 2) m_R_tray 69 [some (.ref 2), some (.int l1), some (.int l2), some (.int l3), some (.int (l4 + 1))] (rL s 17 (ix ((30 * l1) + l4)) 0) (pV c Q))))) : eR c (d + 2) m_R_tray 69 [some (.ref 2), some (.int l1), some (.int l2), some (.int l3), some (.int l4)] s (pV c Q) := by
  unfold eR
  refine ev_ex 0 (c' := (69, [some (.ref 2), some (.int l1), some (.int l2), some (.int l3), some (.int l4)], [], cH c s)) rfl ?_
  refine ev_ex 2 (c' := (73, [some (.ref 2), some (.int l1), some (.int l2), some (.int l3), some (.int l4)], [.int 30, .int l4], cH c s)) rfl ?_
  refine ev_icmp_ge (tgt := 95) rfl rfl (fun h => ?_) (fun h => ?_)
  · replace H := H.1 (h)
    exact ev_ret rfl rfl rfl ⟨_, rfl, rfl, H⟩
  · replace H := H.2 (h)
    refine ev_ex 8 (c' := (88, [some (.ref 2), some (.int l1), some (.int l2), some (.int l3), some (.int l4)], [.long 0, .int ((30 * l1) + l4), .ref 70], cH c s)) rfl ?_
    obtain ⟨H0, H⟩ := H
    refine ev_ast (i := .lastore) rfl (Or.inr (Or.inr (Or.inl rfl))) rfl H0 (by decide) rfl rfl (σ' := cH c (rL s 17 (ix ((30 * l1) + l4)) 0)) rfl ?_
    refine ev_ex 2 (c' := (69, [some (.ref 2), some (.int l1), some (.int l2), some (.int l3), some (.int (l4 + 1))], [], cH c (rL s 17 (ix ((30 * l1) + l4)) 0))) rfl ?_
    exact H
theorem w_R_write {c : CX} {d : Nat} {s : RS} {Q : Int64 → RS → Prop} (a0 : Int32) (a1 : Int32) (a2 : Int64) (H : RI c d m_R_trayFault [.ref 2, .int a0] s (fun v2 s1 => ((((rF s1 4 v2).1 4) ≤ 0 → (okx a0 4 ∧ (((wth a1.toInt64 0 ((((rF s1 4 v2).2.1 16 (ix a0)) - 1).toInt64)) = false → Q 0.toInt64 (rF (rF s1 4 v2) 4 3)) ∧ ((wth a1.toInt64 0 ((((rF s1 4 v2).2.1 16 (ix a0)) - 1).toInt64)) = true → RJ c d m_R_cut [.ref 2, .int a0, .int a1, .long a2] (rF s1 4 v2) (fun v4 s3 => Q v4 s3))))) ∧ (¬ ((rF s1 4 v2).1 4) ≤ 0 → Q 0 (rF s1 4 v2))))) : RJ c (d + 1) m_R_write [.ref 2, .int a0, .int a1, .long a2] s Q := by
  refine ⟨q_R_write, rfl, Nat.le_of_ble_eq_true rfl, ?_⟩
  refine ev_ex 0 (c' := (0, [some (.ref 2), some (.int a0), some (.int a1), some (.long a2), none], [], cH c s)) rfl ?_
  refine ev_ex 3 (c' := (3, [some (.ref 2), some (.int a0), some (.int a1), some (.long a2), none], [.int a0, .ref 2, .ref 2], cH c s)) rfl ?_
  refine rc_I (idx := 348) rfl rfl rfl (Nat.le_of_ble_eq_true rfl) (Nat.le_of_ble_eq_true rfl) rfl H (fun v2 s1 H => ?_)
  refine ev_ex 3 (c' := (13, [some (.ref 2), some (.int a0), some (.int a1), some (.long a2), none], [.int ((rF s1 4 v2).1 4)], cH c (rF s1 4 v2))) rfl ?_
  refine ev_if_le (tgt := 18) rfl rfl (fun h => ?_) (fun h => ?_)
  · replace H := H.1 (h)
    refine ev_ex 6 (c' := (26, [some (.ref 2), some (.int a0), some (.int a1), some (.long a2), none], [.int a0, .ref 66, .long 0, .long a1.toInt64], cH c (rF s1 4 v2))) rfl ?_
    obtain ⟨H0, H⟩ := H
    refine ev_ald (i := .iaload) rfl (Or.inl rfl) rfl H0 (v := .int ((rF s1 4 v2).2.1 16 (ix a0))) rfl ?_
    refine ev_ex 3 (c' := (30, [some (.ref 2), some (.int a0), some (.int a1), some (.long a2), none], [.long ((((rF s1 4 v2).2.1 16 (ix a0)) - 1).toInt64), .long 0, .long a1.toInt64], cH c (rF s1 4 v2))) rfl ?_
    refine rc_B (idx := 136) rfl rfl rfl (Nat.le_of_ble_eq_true rfl) (Nat.le_of_ble_eq_true rfl) rfl (K := fun x s' => x = wth a1.toInt64 0 ((((rF s1 4 v2).2.1 16 (ix a0)) - 1).toInt64) ∧ s' = rF s1 4 v2) (z_R_within ⟨rfl, rfl⟩) ?_
    rintro _ _ ⟨rfl, rfl⟩
    refine ev_if_eqB (x := (wth a1.toInt64 0 ((((rF s1 4 v2).2.1 16 (ix a0)) - 1).toInt64))) (tgt := 46) rfl rfl (fun h => ?_) (fun h => ?_)
    · replace H := H.1 (h)
      refine ev_ex 2 (c' := (48, [some (.ref 2), some (.int a0), some (.int a1), some (.long a2), none], [.int 3, .ref 2], cH c (rF s1 4 v2))) rfl ?_
      refine rc_I (idx := 258) rfl rfl rfl (Nat.le_of_ble_eq_true rfl) (Nat.le_of_ble_eq_true rfl) rfl (K := fun x s' => x = 0 ∧ s' = rF (rF s1 4 v2) 4 3) (z_R_fails ⟨rfl, rfl⟩) ?_
      rintro _ _ ⟨rfl, rfl⟩
      refine ev_ex 1 (c' := (52, [some (.ref 2), some (.int a0), some (.int a1), some (.long a2), none], [.long 0.toInt64], cH c (rF (rF s1 4 v2) 4 3))) rfl ?_
      exact ev_ret rfl rfl rfl ⟨_, _, rfl, rfl, H⟩
    · replace H := H.2 (h)
      refine ev_ex 4 (c' := (40, [some (.ref 2), some (.int a0), some (.int a1), some (.long a2), none], [.long a2, .int a1, .int a0, .ref 2], cH c (rF s1 4 v2))) rfl ?_
      refine rc_J (idx := 471) rfl rfl rfl (Nat.le_of_ble_eq_true rfl) (Nat.le_of_ble_eq_true rfl) rfl H (fun v4 s3 H => ?_)
      refine ev_ex 1 (c' := (52, [some (.ref 2), some (.int a0), some (.int a1), some (.long a2), none], [.long v4], cH c s3)) rfl ?_
      exact ev_ret rfl rfl rfl ⟨_, _, rfl, rfl, H⟩
  · replace H := H.2 (h)
    refine ev_ex 1 (c' := (17, [some (.ref 2), some (.int a0), some (.int a1), some (.long a2), none], [.long 0], cH c (rF s1 4 v2))) rfl ?_
    exact ev_ret rfl rfl rfl ⟨_, _, rfl, rfl, H⟩
theorem w_R_copy {c : CX} {d : Nat} {s : RS} {Q : Int32 → RS → Prop} (a0 : Int32) (H : RI c d m_R_trayFault [.ref 2, .int a0] s (fun v2 s1 => ((((rF s1 4 v2).1 4) ≤ 0 → (okx a0 4 ∧ eR c (d + 1) m_R_copy 34 [some (.ref 2), some (.int a0), some (.int (mnI ((rF s1 4 v2).2.1 16 (ix a0)) ((rF s1 4 v2).2.1 1 1))), some (.int 0)] (rF s1 4 v2) (pI c Q))) ∧ (¬ ((rF s1 4 v2).1 4) ≤ 0 → Q 0 (rF s1 4 v2))))) : RI c (d + 1) m_R_copy [.ref 2, .int a0] s Q := by
  refine ⟨q_R_copy, rfl, Nat.le_of_ble_eq_true rfl, ?_⟩
  refine ev_ex 0 (c' := (0, [some (.ref 2), some (.int a0), none, none], [], cH c s)) rfl ?_
  refine ev_ex 3 (c' := (3, [some (.ref 2), some (.int a0), none, none], [.int a0, .ref 2, .ref 2], cH c s)) rfl ?_
  refine rc_I (idx := 348) rfl rfl rfl (Nat.le_of_ble_eq_true rfl) (Nat.le_of_ble_eq_true rfl) rfl H (fun v2 s1 H => ?_)
  refine ev_ex 3 (c' := (13, [some (.ref 2), some (.int a0), none, none], [.int ((rF s1 4 v2).1 4)], cH c (rF s1 4 v2))) rfl ?_
  refine ev_if_le (tgt := 18) rfl rfl (fun h => ?_) (fun h => ?_)
  · replace H := H.1 (h)
    refine ev_ex 3 (c' := (23, [some (.ref 2), some (.int a0), none, none], [.int a0, .ref 66], cH c (rF s1 4 v2))) rfl ?_
    obtain ⟨H0, H⟩ := H
    refine ev_ald (i := .iaload) rfl (Or.inl rfl) rfl H0 (v := .int ((rF s1 4 v2).2.1 16 (ix a0))) rfl ?_
    refine ev_ex 1 (c' := (25, [some (.ref 2), some (.int a0), none, none], [.ref 2, .int ((rF s1 4 v2).2.1 16 (ix a0))], cH c (rF s1 4 v2))) rfl ?_
    refine rc_I (idx := 267) rfl rfl rfl (Nat.le_of_ble_eq_true rfl) (Nat.le_of_ble_eq_true rfl) rfl (K := fun x s' => x = (rF s1 4 v2).2.1 1 1 ∧ s' = rF s1 4 v2) (z_R_guilds ⟨rfl, rfl⟩) ?_
    rintro _ _ ⟨rfl, rfl⟩
    refine rc_I (idx := 416) rfl rfl rfl (Nat.le_of_ble_eq_true rfl) (Nat.le_of_ble_eq_true rfl) rfl (K := fun x s' => x = mnI ((rF s1 4 v2).2.1 16 (ix a0)) ((rF s1 4 v2).2.1 1 1) ∧ s' = rF s1 4 v2) (z_JM_min ⟨rfl, rfl⟩) ?_
    rintro _ _ ⟨rfl, rfl⟩
    refine ev_ex 3 (c' := (34, [some (.ref 2), some (.int a0), some (.int (mnI ((rF s1 4 v2).2.1 16 (ix a0)) ((rF s1 4 v2).2.1 1 1))), some (.int 0)], [], cH c (rF s1 4 v2))) rfl ?_
    exact H
  · replace H := H.2 (h)
    refine ev_ex 1 (c' := (17, [some (.ref 2), some (.int a0), none, none], [.int 0], cH c (rF s1 4 v2))) rfl ?_
    exact ev_ret rfl rfl rfl ⟨_, _, rfl, rfl, H⟩
theorem w_R_copy_34 {c : CX} {d : Nat} {s : RS} {Q : Int32 → RS → Prop} (l1 : Int32) (l2 : Int32) (l3 : Int32) (H : ((l2 ≤ l3 → Q l2 s) ∧ (¬ l2 ≤ l3 → (okx (6 + l3) 2101 ∧ ((¬ (s.2.1 1 (ix (6 + l3))) = ((-1)) → (okx (6 + l3) 2101 ∧ RJ c d m_R_cut [.ref 2, .int l1, .int l3, .long ((s.2.1 1 (ix (6 + l3))).toInt64)] s (fun v2 s1 => eR c (d + 1) m_R_copy 34 [some (.ref 2), some (.int l1), some (.int l2), some (.int (l3 + 1))] s1 (pI c Q)))) ∧ ((s.2.1 1 (ix (6 + l3))) = ((-1)) → RJ c d m_R_cut [.ref 2, .int l1, .int l3, .long 99] s (fun v4 s3 => eR c (d + 1) m_R_copy 34 [some (.ref 2), some (.int l1), some (.int l2), some (.int (l3 + 1))] s3 (pI c Q)))))))) : eR c (d + 1) m_R_copy 34 [some (.ref 2), some (.int l1), some (.int l2), some (.int l3)] s (pI c Q) := by
  unfold eR
  refine ev_ex 0 (c' := (34, [some (.ref 2), some (.int l1), some (.int l2), some (.int l3)], [], cH c s)) rfl ?_
  refine ev_ex 2 (c' := (36, [some (.ref 2), some (.int l1), some (.int l2), some (.int l3)], [.int l2, .int l3], cH c s)) rfl ?_
  refine ev_icmp_ge (tgt := 73) rfl rfl (fun h => ?_) (fun h => ?_)
  · replace H := H.1 (h)
    refine ev_ex 1 (c' := (74, [some (.ref 2), some (.int l1), some (.int l2), some (.int l3)], [.int l2], cH c s)) rfl ?_
    exact ev_ret rfl rfl rfl ⟨_, _, rfl, rfl, H⟩
  · replace H := H.2 (h)
    refine ev_ex 5 (c' := (44, [some (.ref 2), some (.int l1), some (.int l2), some (.int l3)], [.int l3, .ref 2, .int l3, .int l1, .ref 2], cH c s)) rfl ?_
    obtain ⟨H1, H⟩ := H
    refine rc_I (idx := 270) rfl rfl rfl (Nat.le_of_ble_eq_true rfl) (Nat.le_of_ble_eq_true rfl) rfl (K := fun x s' => x = s.2.1 1 (ix (6 + l3)) ∧ s' = s) (z_R_mocked H1 ⟨rfl, rfl⟩) ?_
    rintro _ _ ⟨rfl, rfl⟩
    refine ev_ex 1 (c' := (48, [some (.ref 2), some (.int l1), some (.int l2), some (.int l3)], [.int ((-1)), .int (s.2.1 1 (ix (6 + l3))), .int l3, .int l1, .ref 2], cH c s)) rfl ?_
    refine ev_icmp_ne (tgt := 57) rfl rfl (fun h => ?_) (fun h => ?_)
    · replace H := H.1 (h)
      refine ev_ex 2 (c' := (59, [some (.ref 2), some (.int l1), some (.int l2), some (.int l3)], [.int l3, .ref 2, .int l3, .int l1, .ref 2], cH c s)) rfl ?_
      obtain ⟨H1, H⟩ := H
      refine rc_I (idx := 270) rfl rfl rfl (Nat.le_of_ble_eq_true rfl) (Nat.le_of_ble_eq_true rfl) rfl (K := fun x s' => x = s.2.1 1 (ix (6 + l3)) ∧ s' = s) (z_R_mocked H1 ⟨rfl, rfl⟩) ?_
      rintro _ _ ⟨rfl, rfl⟩
      refine ev_ex 1 (c' := (63, [some (.ref 2), some (.int l1), some (.int l2), some (.int l3)], [.long ((s.2.1 1 (ix (6 + l3))).toInt64), .int l3, .int l1, .ref 2], cH c s)) rfl ?_
      refine rc_J (idx := 471) rfl rfl rfl (Nat.le_of_ble_eq_true rfl) (Nat.le_of_ble_eq_true rfl) rfl H (fun v2 s1 H => ?_)
      refine ev_ex 3 (c' := (34, [some (.ref 2), some (.int l1), some (.int l2), some (.int (l3 + 1))], [], cH c s1)) rfl ?_
      exact H
    · replace H := H.2 (h)
      refine ev_ex 2 (c' := (63, [some (.ref 2), some (.int l1), some (.int l2), some (.int l3)], [.long 99, .int l3, .int l1, .ref 2], cH c s)) rfl ?_
      refine rc_J (idx := 471) rfl rfl rfl (Nat.le_of_ble_eq_true rfl) (Nat.le_of_ble_eq_true rfl) rfl H (fun v4 s3 H => ?_)
      refine ev_ex 3 (c' := (34, [some (.ref 2), some (.int l1), some (.int l2), some (.int (l3 + 1))], [], cH c s3)) rfl ?_
      exact H
theorem w_R_image {c : CX} {d : Nat} {s : RS} {Q : RS → Prop} (a0 : Int32) (H : (((wth a0.toInt64 0 2) = false → ((((rF s 4 1).1 4) ≤ 0 → (okx a0 3 ∧ eR c (d + 1) m_R_image 38 [some (.ref 2), some (.int a0), some (.int 0)] (rA (rF s 4 1) 4 (ix a0) 1) (pV c Q))) ∧ (¬ ((rF s 4 1).1 4) ≤ 0 → Q (rF s 4 1)))) ∧ ((wth a0.toInt64 0 2) = true → ((((rF s 4 0).1 4) ≤ 0 → (okx a0 3 ∧ eR c (d + 1) m_R_image 38 [some (.ref 2), some (.int a0), some (.int 0)] (rA (rF s 4 0) 4 (ix a0) 1) (pV c Q))) ∧ (¬ ((rF s 4 0).1 4) ≤ 0 → Q (rF s 4 0)))))) : RV c (d + 1) m_R_image [.ref 2, .int a0] s Q := by
  refine ⟨q_R_image, rfl, Nat.le_of_ble_eq_true rfl, ?_⟩
  refine ev_ex 0 (c' := (0, [some (.ref 2), some (.int a0), none], [], cH c s)) rfl ?_
  refine ev_ex 5 (c' := (7, [some (.ref 2), some (.int a0), none], [.long 2, .long 0, .long a0.toInt64, .ref 2], cH c s)) rfl ?_
  refine rc_B (idx := 136) rfl rfl rfl (Nat.le_of_ble_eq_true rfl) (Nat.le_of_ble_eq_true rfl) rfl (K := fun x s' => x = wth a0.toInt64 0 2 ∧ s' = s) (z_R_within ⟨rfl, rfl⟩) ?_
  rintro _ _ ⟨rfl, rfl⟩
  refine ev_if_eqB (x := (wth a0.toInt64 0 2)) (tgt := 17) rfl rfl (fun h => ?_) (fun h => ?_)
  · replace H := H.1 (h)
    refine ev_ex 4 (c' := (25, [some (.ref 2), some (.int a0), none], [.int ((rF s 4 1).1 4)], cH c (rF s 4 1))) rfl ?_
    refine ev_if_le (tgt := 29) rfl rfl (fun h => ?_) (fun h => ?_)
    · replace H := H.1 (h)
      refine ev_ex 4 (c' := (35, [some (.ref 2), some (.int a0), none], [.int 1, .int a0, .ref 18], cH c (rF s 4 1))) rfl ?_
      obtain ⟨H0, H⟩ := H
      refine ev_ast (i := .bastore) rfl (Or.inr (Or.inl rfl)) rfl H0 (by decide) rfl rfl (σ' := cH c (rA (rF s 4 1) 4 (ix a0) 1)) rfl ?_
      refine ev_ex 2 (c' := (38, [some (.ref 2), some (.int a0), some (.int 0)], [], cH c (rA (rF s 4 1) 4 (ix a0) 1))) rfl ?_
      exact H
    · replace H := H.2 (h)
      exact ev_ret rfl rfl rfl ⟨_, rfl, rfl, H⟩
  · replace H := H.2 (h)
    refine ev_ex 5 (c' := (25, [some (.ref 2), some (.int a0), none], [.int ((rF s 4 0).1 4)], cH c (rF s 4 0))) rfl ?_
    refine ev_if_le (tgt := 29) rfl rfl (fun h => ?_) (fun h => ?_)
    · replace H := H.1 (h)
      refine ev_ex 4 (c' := (35, [some (.ref 2), some (.int a0), none], [.int 1, .int a0, .ref 18], cH c (rF s 4 0))) rfl ?_
      obtain ⟨H0, H⟩ := H
      refine ev_ast (i := .bastore) rfl (Or.inr (Or.inl rfl)) rfl H0 (by decide) rfl rfl (σ' := cH c (rA (rF s 4 0) 4 (ix a0) 1)) rfl ?_
      refine ev_ex 2 (c' := (38, [some (.ref 2), some (.int a0), some (.int 0)], [], cH c (rA (rF s 4 0) 4 (ix a0) 1))) rfl ?_
      exact H
    · replace H := H.2 (h)
      exact ev_ret rfl rfl rfl ⟨_, rfl, rfl, H⟩
theorem w_R_image_38 {c : CX} {d : Nat} {s : RS} {Q : RS → Prop} (l1 : Int32) (l2 : Int32) (H : ((2101 ≤ l2 → Q s) ∧ (¬ 2101 ≤ l2 → (okx l2 2101 ∧ (okx ((2101 * l1) + l2) 6303 ∧ eR c (d + 1) m_R_image 38 [some (.ref 2), some (.int l1), some (.int (l2 + 1))] (rA s 3 (ix ((2101 * l1) + l2)) (s.2.1 1 (ix l2))) (pV c Q)))))) : eR c (d + 1) m_R_image 38 [some (.ref 2), some (.int l1), some (.int l2)] s (pV c Q) := by
  unfold eR
  refine ev_ex 0 (c' := (38, [some (.ref 2), some (.int l1), some (.int l2)], [], cH c s)) rfl ?_
  refine ev_ex 2 (c' := (42, [some (.ref 2), some (.int l1), some (.int l2)], [.int 2101, .int l2], cH c s)) rfl ?_
  refine ev_icmp_ge (tgt := 69) rfl rfl (fun h => ?_) (fun h => ?_)
  · replace H := H.1 (h)
    exact ev_ret rfl rfl rfl ⟨_, rfl, rfl, H⟩
  · replace H := H.2 (h)
    refine ev_ex 10 (c' := (61, [some (.ref 2), some (.int l1), some (.int l2)], [.int l2, .ref 6, .int ((2101 * l1) + l2), .ref 14], cH c s)) rfl ?_
    obtain ⟨H0, H⟩ := H
    refine ev_ald (i := .iaload) rfl (Or.inl rfl) rfl H0 (v := .int (s.2.1 1 (ix l2))) rfl ?_
    obtain ⟨H0, H⟩ := H
    refine ev_ast (i := .iastore) rfl (Or.inl rfl) rfl H0 (by decide) rfl rfl (σ' := cH c (rA s 3 (ix ((2101 * l1) + l2)) (s.2.1 1 (ix l2)))) rfl ?_
    refine ev_ex 2 (c' := (38, [some (.ref 2), some (.int l1), some (.int (l2 + 1))], [], cH c (rA s 3 (ix ((2101 * l1) + l2)) (s.2.1 1 (ix l2))))) rfl ?_
    exact H
theorem w_R_restore {c : CX} {d : Nat} {s : RS} {Q : RS → Prop} (a0 : Int32) (H : (((wth a0.toInt64 0 2) = true → (okx a0 3 ∧ ((¬ (s.2.1 4 (ix a0)) = 0 → ((((rF s 4 0).1 4) ≤ 0 → eR c (d + 1) m_R_restore 44 [some (.ref 2), some (.int a0), some (.int 0)] (rF s 4 0) (pV c Q)) ∧ (¬ ((rF s 4 0).1 4) ≤ 0 → Q (rF s 4 0)))) ∧ ((s.2.1 4 (ix a0)) = 0 → ((((rF s 4 2).1 4) ≤ 0 → eR c (d + 1) m_R_restore 44 [some (.ref 2), some (.int a0), some (.int 0)] (rF s 4 2) (pV c Q)) ∧ (¬ ((rF s 4 2).1 4) ≤ 0 → Q (rF s 4 2))))))) ∧ ((wth a0.toInt64 0 2) = false → ((((rF s 4 1).1 4) ≤ 0 → eR c (d + 1) m_R_restore 44 [some (.ref 2), some (.int a0), some (.int 0)] (rF s 4 1) (pV c Q)) ∧ (¬ ((rF s 4 1).1 4) ≤ 0 → Q (rF s 4 1)))))) : RV c (d + 1) m_R_restore [.ref 2, .int a0] s Q := by
  refine ⟨q_R_restore, rfl, Nat.le_of_ble_eq_true rfl, ?_⟩
  refine ev_ex 0 (c' := (0, [some (.ref 2), some (.int a0), none], [], cH c s)) rfl ?_
  refine ev_ex 5 (c' := (7, [some (.ref 2), some (.int a0), none], [.long 2, .long 0, .long a0.toInt64, .ref 2], cH c s)) rfl ?_
  refine rc_B (idx := 136) rfl rfl rfl (Nat.le_of_ble_eq_true rfl) (Nat.le_of_ble_eq_true rfl) rfl (K := fun x s' => x = wth a0.toInt64 0 2 ∧ s' = s) (z_R_within ⟨rfl, rfl⟩) ?_
  rintro _ _ ⟨rfl, rfl⟩
  refine ev_if_neB (x := (wth a0.toInt64 0 2)) (tgt := 17) rfl rfl (fun h => ?_) (fun h => ?_)
  · replace H := H.1 (h)
    refine ev_ex 3 (c' := (22, [some (.ref 2), some (.int a0), none], [.int a0, .ref 18, .ref 2], cH c s)) rfl ?_
    obtain ⟨H0, H⟩ := H
    refine ev_ald (i := .baload) rfl (Or.inr (Or.inl rfl)) rfl H0 (v := .int (s.2.1 4 (ix a0))) rfl ?_
    refine ev_if_ne (tgt := 30) rfl rfl (fun h => ?_) (fun h => ?_)
    · replace H := H.1 (h)
      refine ev_ex 4 (c' := (38, [some (.ref 2), some (.int a0), none], [.int ((rF s 4 0).1 4)], cH c (rF s 4 0))) rfl ?_
      refine ev_if_le (tgt := 42) rfl rfl (fun h => ?_) (fun h => ?_)
      · replace H := H.1 (h)
        refine ev_ex 2 (c' := (44, [some (.ref 2), some (.int a0), some (.int 0)], [], cH c (rF s 4 0))) rfl ?_
        exact H
      · replace H := H.2 (h)
        exact ev_ret rfl rfl rfl ⟨_, rfl, rfl, H⟩
    · replace H := H.2 (h)
      refine ev_ex 5 (c' := (38, [some (.ref 2), some (.int a0), none], [.int ((rF s 4 2).1 4)], cH c (rF s 4 2))) rfl ?_
      refine ev_if_le (tgt := 42) rfl rfl (fun h => ?_) (fun h => ?_)
      · replace H := H.1 (h)
        refine ev_ex 2 (c' := (44, [some (.ref 2), some (.int a0), some (.int 0)], [], cH c (rF s 4 2))) rfl ?_
        exact H
      · replace H := H.2 (h)
        exact ev_ret rfl rfl rfl ⟨_, rfl, rfl, H⟩
  · replace H := H.2 (h)
    refine ev_ex 5 (c' := (38, [some (.ref 2), some (.int a0), none], [.int ((rF s 4 1).1 4)], cH c (rF s 4 1))) rfl ?_
    refine ev_if_le (tgt := 42) rfl rfl (fun h => ?_) (fun h => ?_)
    · replace H := H.1 (h)
      refine ev_ex 2 (c' := (44, [some (.ref 2), some (.int a0), some (.int 0)], [], cH c (rF s 4 1))) rfl ?_
      exact H
    · replace H := H.2 (h)
      exact ev_ret rfl rfl rfl ⟨_, rfl, rfl, H⟩
theorem w_R_restore_44 {c : CX} {d : Nat} {s : RS} {Q : RS → Prop} (l1 : Int32) (l2 : Int32) (H : ((2101 ≤ l2 → Q s) ∧ (¬ 2101 ≤ l2 → (okx ((2101 * l1) + l2) 6303 ∧ (okx l2 2101 ∧ eR c (d + 1) m_R_restore 44 [some (.ref 2), some (.int l1), some (.int (l2 + 1))] (rA s 1 (ix l2) (s.2.1 3 (ix ((2101 * l1) + l2)))) (pV c Q)))))) : eR c (d + 1) m_R_restore 44 [some (.ref 2), some (.int l1), some (.int l2)] s (pV c Q) := by
  unfold eR
  refine ev_ex 0 (c' := (44, [some (.ref 2), some (.int l1), some (.int l2)], [], cH c s)) rfl ?_
  refine ev_ex 2 (c' := (48, [some (.ref 2), some (.int l1), some (.int l2)], [.int 2101, .int l2], cH c s)) rfl ?_
  refine ev_icmp_ge (tgt := 75) rfl rfl (fun h => ?_) (fun h => ?_)
  · replace H := H.1 (h)
    exact ev_ret rfl rfl rfl ⟨_, rfl, rfl, H⟩
  · replace H := H.2 (h)
    refine ev_ex 10 (c' := (67, [some (.ref 2), some (.int l1), some (.int l2)], [.int ((2101 * l1) + l2), .ref 14, .int l2, .ref 6], cH c s)) rfl ?_
    obtain ⟨H0, H⟩ := H
    refine ev_ald (i := .iaload) rfl (Or.inl rfl) rfl H0 (v := .int (s.2.1 3 (ix ((2101 * l1) + l2)))) rfl ?_
    obtain ⟨H0, H⟩ := H
    refine ev_ast (i := .iastore) rfl (Or.inl rfl) rfl H0 (by decide) rfl rfl (σ' := cH c (rA s 1 (ix l2) (s.2.1 3 (ix ((2101 * l1) + l2))))) rfl ?_
    refine ev_ex 2 (c' := (44, [some (.ref 2), some (.int l1), some (.int (l2 + 1))], [], cH c (rA s 1 (ix l2) (s.2.1 3 (ix ((2101 * l1) + l2)))))) rfl ?_
    exact H
theorem w_R_count {c : CX} {d : Nat} {s : RS} {Q : Int32 → RS → Prop} (a0 : Int32) (H : ((a0 = 0 → (okx 0 2101 ∧ Q ((rF s 4 0).2.1 1 (ix 0)) (rF s 4 0))) ∧ (a0 = 1 → Q ((rF s 4 0).2.1 1 1) (rF s 4 0)) ∧ (a0 = 2 → (okx 2 2101 ∧ Q ((rF s 4 0).2.1 1 (ix 2)) (rF s 4 0))) ∧ (a0 = 3 → RI c d m_R_steps [.ref 2] (rF s 4 0) (fun v2 s1 => Q v2 s1)) ∧ (a0 = 4 → (okx 26 2101 ∧ Q ((rF s 4 0).2.1 1 (ix 26)) (rF s 4 0))) ∧ (a0 = 5 → RI c d m_R_mocking [.ref 2] (rF s 4 0) (fun v4 s3 => Q v4 s3)) ∧ (a0 = 6 → (okx 5 2101 ∧ Q ((rF s 4 0).2.1 1 (ix 5)) (rF s 4 0))) ∧ (a0 = 7 → Q ((rF s 4 0).1 6) (rF s 4 0)) ∧ (a0 = 8 → (okx 3 2101 ∧ ((((rF s 4 0).2.1 1 (ix 3)) ≤ 0 → Q 0 (rF s 4 0)) ∧ (¬ ((rF s 4 0).2.1 1 (ix 3)) ≤ 0 → Q 1 (rF s 4 0))))) ∧ (a0 = 9 → (okx 4 2101 ∧ ((((rF s 4 0).2.1 1 (ix 4)) ≤ 0 → Q 0 (rF s 4 0)) ∧ (¬ ((rF s 4 0).2.1 1 (ix 4)) ≤ 0 → Q 1 (rF s 4 0))))) ∧ (¬ a0 = 0 ∧ ¬ a0 = 1 ∧ ¬ a0 = 2 ∧ ¬ a0 = 3 ∧ ¬ a0 = 4 ∧ ¬ a0 = 5 ∧ ¬ a0 = 6 ∧ ¬ a0 = 7 ∧ ¬ a0 = 8 ∧ ¬ a0 = 9 → Q ((-1)) (rF s 4 0)))) : RI c (d + 1) m_R_count [.ref 2, .int a0] s Q := by
  refine ⟨q_R_count, rfl, Nat.le_of_ble_eq_true rfl, ?_⟩
  refine ev_ex 0 (c' := (0, [some (.ref 2), some (.int a0)], [], cH c s)) rfl ?_
  refine ev_ex 4 (c' := (6, [some (.ref 2), some (.int a0)], [.int a0], cH c (rF s 4 0))) rfl ?_
  by_cases h0 : a0 = 0
  · refine ev_sw h0 (tgt := 60) rfl rfl ?_
    replace H := H.1 h0
    refine ev_ex 3 (c' := (65, [some (.ref 2), some (.int a0)], [.int 0, .ref 6], cH c (rF s 4 0))) rfl ?_
    obtain ⟨H0, H⟩ := H
    refine ev_ald (i := .iaload) rfl (Or.inl rfl) rfl H0 (v := .int ((rF s 4 0).2.1 1 (ix 0))) rfl ?_
    exact ev_ret rfl rfl rfl ⟨_, _, rfl, rfl, H⟩
  by_cases h1 : a0 = 1
  · refine ev_sw h1 (tgt := 67) rfl rfl ?_
    replace H := H.2.1 h1
    refine ev_ex 1 (c' := (68, [some (.ref 2), some (.int a0)], [.ref 2], cH c (rF s 4 0))) rfl ?_
    refine rc_I (idx := 267) rfl rfl rfl (Nat.le_of_ble_eq_true rfl) (Nat.le_of_ble_eq_true rfl) rfl (K := fun x s' => x = (rF s 4 0).2.1 1 1 ∧ s' = rF s 4 0) (z_R_guilds ⟨rfl, rfl⟩) ?_
    rintro _ _ ⟨rfl, rfl⟩
    exact ev_ret rfl rfl rfl ⟨_, _, rfl, rfl, H⟩
  by_cases h2 : a0 = 2
  · refine ev_sw h2 (tgt := 72) rfl rfl ?_
    replace H := H.2.2.1 h2
    refine ev_ex 3 (c' := (77, [some (.ref 2), some (.int a0)], [.int 2, .ref 6], cH c (rF s 4 0))) rfl ?_
    obtain ⟨H0, H⟩ := H
    refine ev_ald (i := .iaload) rfl (Or.inl rfl) rfl H0 (v := .int ((rF s 4 0).2.1 1 (ix 2))) rfl ?_
    exact ev_ret rfl rfl rfl ⟨_, _, rfl, rfl, H⟩
  by_cases h3 : a0 = 3
  · refine ev_sw h3 (tgt := 79) rfl rfl ?_
    replace H := H.2.2.2.1 h3
    refine ev_ex 1 (c' := (80, [some (.ref 2), some (.int a0)], [.ref 2], cH c (rF s 4 0))) rfl ?_
    refine rc_I (idx := 418) rfl rfl rfl (Nat.le_of_ble_eq_true rfl) (Nat.le_of_ble_eq_true rfl) rfl H (fun v2 s1 H => ?_)
    exact ev_ret rfl rfl rfl ⟨_, _, rfl, rfl, H⟩
  by_cases h4 : a0 = 4
  · refine ev_sw h4 (tgt := 84) rfl rfl ?_
    replace H := H.2.2.2.2.1 h4
    refine ev_ex 3 (c' := (90, [some (.ref 2), some (.int a0)], [.int 26, .ref 6], cH c (rF s 4 0))) rfl ?_
    obtain ⟨H0, H⟩ := H
    refine ev_ald (i := .iaload) rfl (Or.inl rfl) rfl H0 (v := .int ((rF s 4 0).2.1 1 (ix 26))) rfl ?_
    exact ev_ret rfl rfl rfl ⟨_, _, rfl, rfl, H⟩
  by_cases h5 : a0 = 5
  · refine ev_sw h5 (tgt := 92) rfl rfl ?_
    replace H := H.2.2.2.2.2.1 h5
    refine ev_ex 1 (c' := (93, [some (.ref 2), some (.int a0)], [.ref 2], cH c (rF s 4 0))) rfl ?_
    refine rc_I (idx := 359) rfl rfl rfl (Nat.le_of_ble_eq_true rfl) (Nat.le_of_ble_eq_true rfl) rfl H (fun v4 s3 H => ?_)
    exact ev_ret rfl rfl rfl ⟨_, _, rfl, rfl, H⟩
  by_cases h6 : a0 = 6
  · refine ev_sw h6 (tgt := 97) rfl rfl ?_
    replace H := H.2.2.2.2.2.2.1 h6
    refine ev_ex 3 (c' := (102, [some (.ref 2), some (.int a0)], [.int 5, .ref 6], cH c (rF s 4 0))) rfl ?_
    obtain ⟨H0, H⟩ := H
    refine ev_ald (i := .iaload) rfl (Or.inl rfl) rfl H0 (v := .int ((rF s 4 0).2.1 1 (ix 5))) rfl ?_
    exact ev_ret rfl rfl rfl ⟨_, _, rfl, rfl, H⟩
  by_cases h7 : a0 = 7
  · refine ev_sw h7 (tgt := 104) rfl rfl ?_
    replace H := H.2.2.2.2.2.2.2.1 h7
    refine ev_ex 2 (c' := (108, [some (.ref 2), some (.int a0)], [.int ((rF s 4 0).1 6)], cH c (rF s 4 0))) rfl ?_
    exact ev_ret rfl rfl rfl ⟨_, _, rfl, rfl, H⟩
  by_cases h8 : a0 = 8
  · refine ev_sw h8 (tgt := 109) rfl rfl ?_
    replace H := H.2.2.2.2.2.2.2.2.1 h8
    refine ev_ex 3 (c' := (114, [some (.ref 2), some (.int a0)], [.int 3, .ref 6], cH c (rF s 4 0))) rfl ?_
    obtain ⟨H0, H⟩ := H
    refine ev_ald (i := .iaload) rfl (Or.inl rfl) rfl H0 (v := .int ((rF s 4 0).2.1 1 (ix 3))) rfl ?_
    refine ev_if_le (tgt := 122) rfl rfl (fun h => ?_) (fun h => ?_)
    · replace H := H.1 (h)
      refine ev_ex 1 (c' := (123, [some (.ref 2), some (.int a0)], [.int 0], cH c (rF s 4 0))) rfl ?_
      exact ev_ret rfl rfl rfl ⟨_, _, rfl, rfl, H⟩
    · replace H := H.2 (h)
      refine ev_ex 2 (c' := (123, [some (.ref 2), some (.int a0)], [.int 1], cH c (rF s 4 0))) rfl ?_
      exact ev_ret rfl rfl rfl ⟨_, _, rfl, rfl, H⟩
  by_cases h9 : a0 = 9
  · refine ev_sw h9 (tgt := 124) rfl rfl ?_
    replace H := H.2.2.2.2.2.2.2.2.2.1 h9
    refine ev_ex 3 (c' := (129, [some (.ref 2), some (.int a0)], [.int 4, .ref 6], cH c (rF s 4 0))) rfl ?_
    obtain ⟨H0, H⟩ := H
    refine ev_ald (i := .iaload) rfl (Or.inl rfl) rfl H0 (v := .int ((rF s 4 0).2.1 1 (ix 4))) rfl ?_
    refine ev_if_le (tgt := 137) rfl rfl (fun h => ?_) (fun h => ?_)
    · replace H := H.1 (h)
      refine ev_ex 1 (c' := (138, [some (.ref 2), some (.int a0)], [.int 0], cH c (rF s 4 0))) rfl ?_
      exact ev_ret rfl rfl rfl ⟨_, _, rfl, rfl, H⟩
    · replace H := H.2 (h)
      refine ev_ex 2 (c' := (138, [some (.ref 2), some (.int a0)], [.int 1], cH c (rF s 4 0))) rfl ?_
      exact ev_ret rfl rfl rfl ⟨_, _, rfl, rfl, H⟩
  replace H := H.2.2.2.2.2.2.2.2.2.2 ⟨h0, h1, h2, h3, h4, h5, h6, h7, h8, h9⟩
  refine ev_tswd (tgt := 139) rfl (by have e0 := i32_ne h0 (y := 0) rfl; have e1 := i32_ne h1 (y := 1) rfl; have e2 := i32_ne h2 (y := 2) rfl; have e3 := i32_ne h3 (y := 3) rfl; have e4 := i32_ne h4 (y := 4) rfl; have e5 := i32_ne h5 (y := 5) rfl; have e6 := i32_ne h6 (y := 6) rfl; have e7 := i32_ne h7 (y := 7) rfl; have e8 := i32_ne h8 (y := 8) rfl; have e9 := i32_ne h9 (y := 9) rfl; omega) rfl ?_
  refine ev_ex 1 (c' := (140, [some (.ref 2), some (.int a0)], [.int ((-1))], cH c (rF s 4 0))) rfl ?_
  exact ev_ret rfl rfl rfl ⟨_, _, rfl, rfl, H⟩
theorem w_R_mockers {c : CX} {d : Nat} {s : RS} {Q : Int32 → RS → Prop} (a0 : Int32) (H : eR c (d + 1) m_R_mockers 4 [some (.ref 2), some (.int a0), some (.int 0), some (.int 0)] s (pI c Q)) : RI c (d + 1) m_R_mockers [.ref 2, .int a0] s Q := by
  refine ⟨q_R_mockers, rfl, Nat.le_of_ble_eq_true rfl, ?_⟩
  refine ev_ex 0 (c' := (0, [some (.ref 2), some (.int a0), none, none], [], cH c s)) rfl ?_
  refine ev_ex 4 (c' := (4, [some (.ref 2), some (.int a0), some (.int 0), some (.int 0)], [], cH c s)) rfl ?_
  exact H
theorem w_R_mockers_4 {c : CX} {d : Nat} {s : RS} {Q : Int32 → RS → Prop} (l1 : Int32) (l2 : Int32) (l3 : Int32) (H : (((s.2.1 1 1) ≤ l3 → Q l2 s) ∧ (¬ (s.2.1 1 1) ≤ l3 → (okx (6 + l3) 2101 ∧ ((¬ (s.2.1 1 (ix (6 + l3))) = l1 → eR c (d + 1) m_R_mockers 4 [some (.ref 2), some (.int l1), some (.int (l2 ||| 0)), some (.int (l3 + 1))] s (pI c Q)) ∧ ((s.2.1 1 (ix (6 + l3))) = l1 → eR c (d + 1) m_R_mockers 4 [some (.ref 2), some (.int l1), some (.int (l2 ||| (1 <<< (l3 &&& 31)))), some (.int (l3 + 1))] s (pI c Q))))))) : eR c (d + 1) m_R_mockers 4 [some (.ref 2), some (.int l1), some (.int l2), some (.int l3)] s (pI c Q) := by
  unfold eR
  refine ev_ex 0 (c' := (4, [some (.ref 2), some (.int l1), some (.int l2), some (.int l3)], [], cH c s)) rfl ?_
  refine ev_ex 2 (c' := (6, [some (.ref 2), some (.int l1), some (.int l2), some (.int l3)], [.ref 2, .int l3], cH c s)) rfl ?_
  refine rc_I (idx := 267) rfl rfl rfl (Nat.le_of_ble_eq_true rfl) (Nat.le_of_ble_eq_true rfl) rfl (K := fun x s' => x = s.2.1 1 1 ∧ s' = s) (z_R_guilds ⟨rfl, rfl⟩) ?_
  rintro _ _ ⟨rfl, rfl⟩
  refine ev_icmp_ge (tgt := 37) rfl rfl (fun h => ?_) (fun h => ?_)
  · replace H := H.1 (h)
    refine ev_ex 1 (c' := (38, [some (.ref 2), some (.int l1), some (.int l2), some (.int l3)], [.int l2], cH c s)) rfl ?_
    exact ev_ret rfl rfl rfl ⟨_, _, rfl, rfl, H⟩
  · replace H := H.2 (h)
    refine ev_ex 3 (c' := (15, [some (.ref 2), some (.int l1), some (.int l2), some (.int l3)], [.int l3, .ref 2, .int l2], cH c s)) rfl ?_
    obtain ⟨H1, H⟩ := H
    refine rc_I (idx := 270) rfl rfl rfl (Nat.le_of_ble_eq_true rfl) (Nat.le_of_ble_eq_true rfl) rfl (K := fun x s' => x = s.2.1 1 (ix (6 + l3)) ∧ s' = s) (z_R_mocked H1 ⟨rfl, rfl⟩) ?_
    rintro _ _ ⟨rfl, rfl⟩
    refine ev_ex 1 (c' := (19, [some (.ref 2), some (.int l1), some (.int l2), some (.int l3)], [.int l1, .int (s.2.1 1 (ix (6 + l3))), .int l2], cH c s)) rfl ?_
    refine ev_icmp_ne (tgt := 28) rfl rfl (fun h => ?_) (fun h => ?_)
    · replace H := H.1 (h)
      refine ev_ex 5 (c' := (4, [some (.ref 2), some (.int l1), some (.int (l2 ||| 0)), some (.int (l3 + 1))], [], cH c s)) rfl ?_
      exact H
    · replace H := H.2 (h)
      refine ev_ex 8 (c' := (4, [some (.ref 2), some (.int l1), some (.int (l2 ||| (1 <<< (l3 &&& 31)))), some (.int (l3 + 1))], [], cH c s)) rfl ?_
      exact H
theorem w_R_mayMock {c : CX} {d : Nat} {s : RS} {Q : Bool → RS → Prop} (a0 : Int32) (a1 : Int32) (H : (okx 3 2101 ∧ (((s.2.1 1 (ix 3)) = 0 → Q true s) ∧ (¬ (s.2.1 1 (ix 3)) = 0 → RB c d m_R_holds [.ref 2, .int 3, .int 301, .int a0, .int a1] s (fun v2 s1 => ((v2 = false → Q false s1) ∧ (v2 = true → Q true s1))))))) : RB c (d + 1) m_R_mayMock [.ref 2, .int a0, .int a1] s Q := by
  refine ⟨q_R_mayMock, rfl, Nat.le_of_ble_eq_true rfl, ?_⟩
  refine ev_ex 0 (c' := (0, [some (.ref 2), some (.int a0), some (.int a1)], [], cH c s)) rfl ?_
  refine ev_ex 3 (c' := (5, [some (.ref 2), some (.int a0), some (.int a1)], [.int 3, .ref 6], cH c s)) rfl ?_
  obtain ⟨H0, H⟩ := H
  refine ev_ald (i := .iaload) rfl (Or.inl rfl) rfl H0 (v := .int (s.2.1 1 (ix 3))) rfl ?_
  refine ev_if_eq (tgt := 22) rfl rfl (fun h => ?_) (fun h => ?_)
  · replace H := H.1 (h)
    refine ev_ex 2 (c' := (27, [some (.ref 2), some (.int a0), some (.int a1)], [.int 1], cH c s)) rfl ?_
    exact ev_retB (x := true) rfl rfl ⟨_, _, rfl, rfl, H⟩
  · replace H := H.2 (h)
    refine ev_ex 5 (c' := (16, [some (.ref 2), some (.int a0), some (.int a1)], [.int a1, .int a0, .int 301, .int 3, .ref 2], cH c s)) rfl ?_
    refine rc_B (idx := 304) rfl rfl rfl (Nat.le_of_ble_eq_true rfl) (Nat.le_of_ble_eq_true rfl) rfl H (fun v2 s1 H => ?_)
    refine ev_if_eqB (x := v2) (tgt := 26) rfl rfl (fun h => ?_) (fun h => ?_)
    · replace H := H.1 (h)
      refine ev_ex 1 (c' := (27, [some (.ref 2), some (.int a0), some (.int a1)], [.int 0], cH c s1)) rfl ?_
      exact ev_retB (x := false) rfl rfl ⟨_, _, rfl, rfl, H⟩
    · replace H := H.2 (h)
      refine ev_ex 2 (c' := (27, [some (.ref 2), some (.int a0), some (.int a1)], [.int 1], cH c s1)) rfl ?_
      exact ev_retB (x := true) rfl rfl ⟨_, _, rfl, rfl, H⟩
theorem w_R_then {c : CX} {d : Nat} {s : RS} {Q : Int32 → RS → Prop} (a0 : Int32) (H : RI c d m_R_mockers [.ref 2, .int a0] s (fun v2 s1 => ((¬ v2 = 0 → RI c d m_R_firstOf [.int v2] s1 (fun v4 s3 => RB c d m_R_holds [.ref 2, .int 4, .int 1201, .int a0, .int v4] s3 (fun v6 s5 => ((v6 = false → (okx (6 + a0) 2101 ∧ Q (s5.2.1 1 (ix (6 + a0))) s5)) ∧ (v6 = true → Q v4 s5))))) ∧ (v2 = 0 → (okx (6 + a0) 2101 ∧ Q (s1.2.1 1 (ix (6 + a0))) s1))))) : RI c (d + 1) m_R_then [.ref 2, .int a0] s Q := by
  refine ⟨q_R_then, rfl, Nat.le_of_ble_eq_true rfl, ?_⟩
  refine ev_ex 0 (c' := (0, [some (.ref 2), some (.int a0), none, none], [], cH c s)) rfl ?_
  refine ev_ex 2 (c' := (2, [some (.ref 2), some (.int a0), none, none], [.int a0, .ref 2], cH c s)) rfl ?_
  refine rc_I (idx := 290) rfl rfl rfl (Nat.le_of_ble_eq_true rfl) (Nat.le_of_ble_eq_true rfl) rfl H (fun v2 s1 H => ?_)
  refine ev_ex 2 (c' := (7, [some (.ref 2), some (.int a0), some (.int v2), none], [.int v2], cH c s1)) rfl ?_
  refine ev_if_ne (tgt := 16) rfl rfl (fun h => ?_) (fun h => ?_)
  · replace H := H.1 (h)
    refine ev_ex 1 (c' := (17, [some (.ref 2), some (.int a0), some (.int v2), none], [.int v2], cH c s1)) rfl ?_
    refine rc_I (idx := 308) rfl rfl rfl (Nat.le_of_ble_eq_true rfl) (Nat.le_of_ble_eq_true rfl) rfl H (fun v4 s3 H => ?_)
    refine ev_ex 6 (c' := (28, [some (.ref 2), some (.int a0), some (.int v2), some (.int v4)], [.int v4, .int a0, .int 1201, .int 4, .ref 2], cH c s3)) rfl ?_
    refine rc_B (idx := 304) rfl rfl rfl (Nat.le_of_ble_eq_true rfl) (Nat.le_of_ble_eq_true rfl) rfl H (fun v6 s5 H => ?_)
    refine ev_if_eqB (x := v6) (tgt := 38) rfl rfl (fun h => ?_) (fun h => ?_)
    · replace H := H.1 (h)
      refine ev_ex 2 (c' := (40, [some (.ref 2), some (.int a0), some (.int v2), some (.int v4)], [.int a0, .ref 2], cH c s5)) rfl ?_
      obtain ⟨H1, H⟩ := H
      refine rc_I (idx := 270) rfl rfl rfl (Nat.le_of_ble_eq_true rfl) (Nat.le_of_ble_eq_true rfl) rfl (K := fun x s' => x = s5.2.1 1 (ix (6 + a0)) ∧ s' = s5) (z_R_mocked H1 ⟨rfl, rfl⟩) ?_
      rintro _ _ ⟨rfl, rfl⟩
      exact ev_ret rfl rfl rfl ⟨_, _, rfl, rfl, H⟩
    · replace H := H.2 (h)
      refine ev_ex 2 (c' := (43, [some (.ref 2), some (.int a0), some (.int v2), some (.int v4)], [.int v4], cH c s5)) rfl ?_
      exact ev_ret rfl rfl rfl ⟨_, _, rfl, rfl, H⟩
  · replace H := H.2 (h)
    refine ev_ex 2 (c' := (12, [some (.ref 2), some (.int a0), some (.int v2), none], [.int a0, .ref 2], cH c s1)) rfl ?_
    obtain ⟨H1, H⟩ := H
    refine rc_I (idx := 270) rfl rfl rfl (Nat.le_of_ble_eq_true rfl) (Nat.le_of_ble_eq_true rfl) rfl (K := fun x s' => x = s1.2.1 1 (ix (6 + a0)) ∧ s' = s1) (z_R_mocked H1 ⟨rfl, rfl⟩) ?_
    rintro _ _ ⟨rfl, rfl⟩
    exact ev_ret rfl rfl rfl ⟨_, _, rfl, rfl, H⟩
theorem w_R_steps {c : CX} {d : Nat} {s : RS} {Q : Int32 → RS → Prop}  (H : eR c (d) m_R_steps 4 [some (.ref 2), some (.int 1), some (.int 0)] s (pI c Q)) : RI c (d) m_R_steps [.ref 2] s Q := by
  refine ⟨q_R_steps, rfl, Nat.le_of_ble_eq_true rfl, ?_⟩
  refine ev_ex 0 (c' := (0, [some (.ref 2), none, none], [], cH c s)) rfl ?_
  refine ev_ex 4 (c' := (4, [some (.ref 2), some (.int 1), some (.int 0)], [], cH c s)) rfl ?_
  exact H
theorem w_R_steps_4 {c : CX} {d : Nat} {s : RS} {Q : Int32 → RS → Prop} (l1 : Int32) (l2 : Int32) (H : (okx 2 2101 ∧ (((s.2.1 1 (ix 2)) ≤ l2 → Q l1 s) ∧ (¬ (s.2.1 1 (ix 2)) ≤ l2 → (okx ((67 + (2 * l2)) + 1) 2101 ∧ eR c (d) m_R_steps 4 [some (.ref 2), some (.int (l1 + (s.2.1 1 (ix ((67 + (2 * l2)) + 1))))), some (.int (l2 + 1))] s (pI c Q)))))) : eR c (d) m_R_steps 4 [some (.ref 2), some (.int l1), some (.int l2)] s (pI c Q) := by
  unfold eR
  refine ev_ex 0 (c' := (4, [some (.ref 2), some (.int l1), some (.int l2)], [], cH c s)) rfl ?_
  refine ev_ex 4 (c' := (10, [some (.ref 2), some (.int l1), some (.int l2)], [.int 2, .ref 6, .int l2], cH c s)) rfl ?_
  obtain ⟨H0, H⟩ := H
  refine ev_ald (i := .iaload) rfl (Or.inl rfl) rfl H0 (v := .int (s.2.1 1 (ix 2))) rfl ?_
  refine ev_icmp_ge (tgt := 36) rfl rfl (fun h => ?_) (fun h => ?_)
  · replace H := H.1 (h)
    refine ev_ex 1 (c' := (37, [some (.ref 2), some (.int l1), some (.int l2)], [.int l1], cH c s)) rfl ?_
    exact ev_ret rfl rfl rfl ⟨_, _, rfl, rfl, H⟩
  · replace H := H.2 (h)
    refine ev_ex 10 (c' := (27, [some (.ref 2), some (.int l1), some (.int l2)], [.int ((67 + (2 * l2)) + 1), .ref 6, .int l1], cH c s)) rfl ?_
    obtain ⟨H0, H⟩ := H
    refine ev_ald (i := .iaload) rfl (Or.inl rfl) rfl H0 (v := .int (s.2.1 1 (ix ((67 + (2 * l2)) + 1)))) rfl ?_
    refine ev_ex 4 (c' := (4, [some (.ref 2), some (.int (l1 + (s.2.1 1 (ix ((67 + (2 * l2)) + 1))))), some (.int (l2 + 1))], [], cH c s)) rfl ?_
    exact H
theorem w_R_whereOf {c : CX} {d : Nat} {s : RS} {Q : Int32 → RS → Prop} (a0 : Int32) (a1 : Int32) (H : eR c (d + 1) m_R_whereOf 8 [some (.ref 2), some (.int a0), some (.int a1), some (.int a0), some (.int 0), some (.int 0), none, none] s (pI c Q)) : RI c (d + 1) m_R_whereOf [.ref 2, .int a0, .int a1] s Q := by
  refine ⟨q_R_whereOf, rfl, Nat.le_of_ble_eq_true rfl, ?_⟩
  refine ev_ex 0 (c' := (0, [some (.ref 2), some (.int a0), some (.int a1), none, none, none, none, none], [], cH c s)) rfl ?_
  refine ev_ex 6 (c' := (8, [some (.ref 2), some (.int a0), some (.int a1), some (.int a0), some (.int 0), some (.int 0), none, none], [], cH c s)) rfl ?_
  exact H
theorem w_R_whereOf_8 {c : CX} {d : Nat} {s : RS} {Q : Int32 → RS → Prop} (l1 : Int32) (l2 : Int32) (l3 : Int32) (l4 : Int32) (l5 : Int32) (H : (okx 2 2101 ∧ (((s.2.1 1 (ix 2)) ≤ l5 → Q l4 s) ∧ (¬ (s.2.1 1 (ix 2)) ≤ l5 → ((l3 ≤ 0 → Q l4 s) ∧ (¬ l3 ≤ 0 → (okx (67 + (2 * l5)) 2101 ∧ (okx ((67 + (2 * l5)) + 1) 2101 ∧ ((¬ l2 = 0 → ((¬ (s.2.1 1 (ix (67 + (2 * l5)))) = 0 → ((¬ (s.2.1 1 (ix (67 + (2 * l5)))) = 2 → eR c (d + 1) m_R_whereOf 8 [some (.ref 2), some (.int l1), some (.int l2), some (.int (l3 - (mnI l3 (s.2.1 1 (ix ((67 + (2 * l5)) + 1)))))), some (.int (l4 + 0)), some (.int (l5 + 1)), none, none] s (pI c Q)) ∧ ((s.2.1 1 (ix (67 + (2 * l5)))) = 2 → eR c (d + 1) m_R_whereOf 8 [some (.ref 2), some (.int l1), some (.int l2), some (.int (l3 - (mnI l3 (s.2.1 1 (ix ((67 + (2 * l5)) + 1)))))), some (.int (l4 + (-(mnI l3 (s.2.1 1 (ix ((67 + (2 * l5)) + 1))))))), some (.int (l5 + 1)), none, none] s (pI c Q)))) ∧ ((s.2.1 1 (ix (67 + (2 * l5)))) = 0 → eR c (d + 1) m_R_whereOf 8 [some (.ref 2), some (.int l1), some (.int l2), some (.int (l3 - (mnI l3 (s.2.1 1 (ix ((67 + (2 * l5)) + 1)))))), some (.int (l4 + (mnI l3 (s.2.1 1 (ix ((67 + (2 * l5)) + 1)))))), some (.int (l5 + 1)), none, none] s (pI c Q)))) ∧ (l2 = 0 → ((¬ (s.2.1 1 (ix (67 + (2 * l5)))) = 1 → ((¬ (s.2.1 1 (ix (67 + (2 * l5)))) = 3 → eR c (d + 1) m_R_whereOf 8 [some (.ref 2), some (.int l1), some (.int l2), some (.int (l3 - (mnI l3 (s.2.1 1 (ix ((67 + (2 * l5)) + 1)))))), some (.int (l4 + 0)), some (.int (l5 + 1)), none, none] s (pI c Q)) ∧ ((s.2.1 1 (ix (67 + (2 * l5)))) = 3 → eR c (d + 1) m_R_whereOf 8 [some (.ref 2), some (.int l1), some (.int l2), some (.int (l3 - (mnI l3 (s.2.1 1 (ix ((67 + (2 * l5)) + 1)))))), some (.int (l4 + (-(mnI l3 (s.2.1 1 (ix ((67 + (2 * l5)) + 1))))))), some (.int (l5 + 1)), none, none] s (pI c Q)))) ∧ ((s.2.1 1 (ix (67 + (2 * l5)))) = 1 → eR c (d + 1) m_R_whereOf 8 [some (.ref 2), some (.int l1), some (.int l2), some (.int (l3 - (mnI l3 (s.2.1 1 (ix ((67 + (2 * l5)) + 1)))))), some (.int (l4 + (mnI l3 (s.2.1 1 (ix ((67 + (2 * l5)) + 1)))))), some (.int (l5 + 1)), none, none] s (pI c Q))))))))))))) : eR c (d + 1) m_R_whereOf 8 [some (.ref 2), some (.int l1), some (.int l2), some (.int l3), some (.int l4), some (.int l5), none, none] s (pI c Q) := by
  unfold eR
  refine ev_ex 0 (c' := (8, [some (.ref 2), some (.int l1), some (.int l2), some (.int l3), some (.int l4), some (.int l5), none, none], [], cH c s)) rfl ?_
  refine ev_ex 4 (c' := (15, [some (.ref 2), some (.int l1), some (.int l2), some (.int l3), some (.int l4), some (.int l5), none, none], [.int 2, .ref 6, .int l5], cH c s)) rfl ?_
  obtain ⟨H0, H⟩ := H
  refine ev_ald (i := .iaload) rfl (Or.inl rfl) rfl H0 (v := .int (s.2.1 1 (ix 2))) rfl ?_
  refine ev_icmp_ge (tgt := 132) rfl rfl (fun h => ?_) (fun h => ?_)
  · replace H := H.1 (h)
    refine ev_ex 1 (c' := (134, [some (.ref 2), some (.int l1), some (.int l2), some (.int l3), some (.int l4), some (.int l5), none, none], [.int l4], cH c s)) rfl ?_
    exact ev_ret rfl rfl rfl ⟨_, _, rfl, rfl, H⟩
  · replace H := H.2 (h)
    refine ev_ex 1 (c' := (20, [some (.ref 2), some (.int l1), some (.int l2), some (.int l3), some (.int l4), some (.int l5), none, none], [.int l3], cH c s)) rfl ?_
    refine ev_if_le (tgt := 132) rfl rfl (fun h => ?_) (fun h => ?_)
    · replace H := H.1 (h)
      refine ev_ex 1 (c' := (134, [some (.ref 2), some (.int l1), some (.int l2), some (.int l3), some (.int l4), some (.int l5), none, none], [.int l4], cH c s)) rfl ?_
      exact ev_ret rfl rfl rfl ⟨_, _, rfl, rfl, H⟩
    · replace H := H.2 (h)
      refine ev_ex 7 (c' := (34, [some (.ref 2), some (.int l1), some (.int l2), some (.int l3), some (.int l4), some (.int l5), none, none], [.int (67 + (2 * l5)), .ref 6], cH c s)) rfl ?_
      obtain ⟨H0, H⟩ := H
      refine ev_ald (i := .iaload) rfl (Or.inl rfl) rfl H0 (v := .int (s.2.1 1 (ix (67 + (2 * l5))))) rfl ?_
      refine ev_ex 11 (c' := (51, [some (.ref 2), some (.int l1), some (.int l2), some (.int l3), some (.int l4), some (.int l5), some (.int (s.2.1 1 (ix (67 + (2 * l5))))), none], [.int ((67 + (2 * l5)) + 1), .ref 6, .int l3], cH c s)) rfl ?_
      obtain ⟨H0, H⟩ := H
      refine ev_ald (i := .iaload) rfl (Or.inl rfl) rfl H0 (v := .int (s.2.1 1 (ix ((67 + (2 * l5)) + 1)))) rfl ?_
      refine rc_I (idx := 416) rfl rfl rfl (Nat.le_of_ble_eq_true rfl) (Nat.le_of_ble_eq_true rfl) rfl (K := fun x s' => x = mnI l3 (s.2.1 1 (ix ((67 + (2 * l5)) + 1))) ∧ s' = s) (z_JM_min ⟨rfl, rfl⟩) ?_
      rintro _ _ ⟨rfl, rfl⟩
      refine ev_ex 6 (c' := (63, [some (.ref 2), some (.int l1), some (.int l2), some (.int (l3 - (mnI l3 (s.2.1 1 (ix ((67 + (2 * l5)) + 1)))))), some (.int l4), some (.int l5), some (.int (s.2.1 1 (ix (67 + (2 * l5))))), some (.int (mnI l3 (s.2.1 1 (ix ((67 + (2 * l5)) + 1)))))], [.int l2], cH c s)) rfl ?_
      refine ev_if_ne (tgt := 98) rfl rfl (fun h => ?_) (fun h => ?_)
      · replace H := H.1 (h)
        refine ev_ex 2 (c' := (102, [some (.ref 2), some (.int l1), some (.int l2), some (.int (l3 - (mnI l3 (s.2.1 1 (ix ((67 + (2 * l5)) + 1)))))), some (.int l4), some (.int l5), some (.int (s.2.1 1 (ix (67 + (2 * l5))))), some (.int (mnI l3 (s.2.1 1 (ix ((67 + (2 * l5)) + 1)))))], [.int (s.2.1 1 (ix (67 + (2 * l5)))), .int l4], cH c s)) rfl ?_
        refine ev_if_ne (tgt := 110) rfl rfl (fun h => ?_) (fun h => ?_)
        · replace H := H.1 (h)
          refine ev_ex 2 (c' := (113, [some (.ref 2), some (.int l1), some (.int l2), some (.int (l3 - (mnI l3 (s.2.1 1 (ix ((67 + (2 * l5)) + 1)))))), some (.int l4), some (.int l5), some (.int (s.2.1 1 (ix (67 + (2 * l5))))), some (.int (mnI l3 (s.2.1 1 (ix ((67 + (2 * l5)) + 1)))))], [.int 2, .int (s.2.1 1 (ix (67 + (2 * l5)))), .int l4], cH c s)) rfl ?_
          refine ev_icmp_ne (tgt := 122) rfl rfl (fun h => ?_) (fun h => ?_)
          · replace H := H.1 (h)
            refine ev_ex 5 (c' := (8, [some (.ref 2), some (.int l1), some (.int l2), some (.int (l3 - (mnI l3 (s.2.1 1 (ix ((67 + (2 * l5)) + 1)))))), some (.int (l4 + 0)), some (.int (l5 + 1)), some (.int (s.2.1 1 (ix (67 + (2 * l5))))), some (.int (mnI l3 (s.2.1 1 (ix ((67 + (2 * l5)) + 1)))))], [], cH c s)) rfl ?_
            exact ev_less (lle_of (L := [some (.ref 2), some (.int l1), some (.int l2), some (.int (l3 - (mnI l3 (s.2.1 1 (ix ((67 + (2 * l5)) + 1)))))), some (.int (l4 + 0)), some (.int (l5 + 1)), none, none]) ⟨rfl, ⟨rfl, ⟨rfl, ⟨rfl, ⟨rfl, ⟨rfl, trivial⟩⟩⟩⟩⟩⟩) H
          · replace H := H.2 (h)
            refine ev_ex 7 (c' := (8, [some (.ref 2), some (.int l1), some (.int l2), some (.int (l3 - (mnI l3 (s.2.1 1 (ix ((67 + (2 * l5)) + 1)))))), some (.int (l4 + (-(mnI l3 (s.2.1 1 (ix ((67 + (2 * l5)) + 1))))))), some (.int (l5 + 1)), some (.int (s.2.1 1 (ix (67 + (2 * l5))))), some (.int (mnI l3 (s.2.1 1 (ix ((67 + (2 * l5)) + 1)))))], [], cH c s)) rfl ?_
            exact ev_less (lle_of (L := [some (.ref 2), some (.int l1), some (.int l2), some (.int (l3 - (mnI l3 (s.2.1 1 (ix ((67 + (2 * l5)) + 1)))))), some (.int (l4 + (-(mnI l3 (s.2.1 1 (ix ((67 + (2 * l5)) + 1))))))), some (.int (l5 + 1)), none, none]) ⟨rfl, ⟨rfl, ⟨rfl, ⟨rfl, ⟨rfl, ⟨rfl, trivial⟩⟩⟩⟩⟩⟩) H
        · replace H := H.2 (h)
          refine ev_ex 6 (c' := (8, [some (.ref 2), some (.int l1), some (.int l2), some (.int (l3 - (mnI l3 (s.2.1 1 (ix ((67 + (2 * l5)) + 1)))))), some (.int (l4 + (mnI l3 (s.2.1 1 (ix ((67 + (2 * l5)) + 1)))))), some (.int (l5 + 1)), some (.int (s.2.1 1 (ix (67 + (2 * l5))))), some (.int (mnI l3 (s.2.1 1 (ix ((67 + (2 * l5)) + 1)))))], [], cH c s)) rfl ?_
          exact ev_less (lle_of (L := [some (.ref 2), some (.int l1), some (.int l2), some (.int (l3 - (mnI l3 (s.2.1 1 (ix ((67 + (2 * l5)) + 1)))))), some (.int (l4 + (mnI l3 (s.2.1 1 (ix ((67 + (2 * l5)) + 1)))))), some (.int (l5 + 1)), none, none]) ⟨rfl, ⟨rfl, ⟨rfl, ⟨rfl, ⟨rfl, ⟨rfl, trivial⟩⟩⟩⟩⟩⟩) H
      · replace H := H.2 (h)
        refine ev_ex 3 (c' := (71, [some (.ref 2), some (.int l1), some (.int l2), some (.int (l3 - (mnI l3 (s.2.1 1 (ix ((67 + (2 * l5)) + 1)))))), some (.int l4), some (.int l5), some (.int (s.2.1 1 (ix (67 + (2 * l5))))), some (.int (mnI l3 (s.2.1 1 (ix ((67 + (2 * l5)) + 1)))))], [.int 1, .int (s.2.1 1 (ix (67 + (2 * l5)))), .int l4], cH c s)) rfl ?_
        refine ev_icmp_ne (tgt := 79) rfl rfl (fun h => ?_) (fun h => ?_)
        · replace H := H.1 (h)
          refine ev_ex 2 (c' := (82, [some (.ref 2), some (.int l1), some (.int l2), some (.int (l3 - (mnI l3 (s.2.1 1 (ix ((67 + (2 * l5)) + 1)))))), some (.int l4), some (.int l5), some (.int (s.2.1 1 (ix (67 + (2 * l5))))), some (.int (mnI l3 (s.2.1 1 (ix ((67 + (2 * l5)) + 1)))))], [.int 3, .int (s.2.1 1 (ix (67 + (2 * l5)))), .int l4], cH c s)) rfl ?_
          refine ev_icmp_ne (tgt := 91) rfl rfl (fun h => ?_) (fun h => ?_)
          · replace H := H.1 (h)
            refine ev_ex 6 (c' := (8, [some (.ref 2), some (.int l1), some (.int l2), some (.int (l3 - (mnI l3 (s.2.1 1 (ix ((67 + (2 * l5)) + 1)))))), some (.int (l4 + 0)), some (.int (l5 + 1)), some (.int (s.2.1 1 (ix (67 + (2 * l5))))), some (.int (mnI l3 (s.2.1 1 (ix ((67 + (2 * l5)) + 1)))))], [], cH c s)) rfl ?_
            exact ev_less (lle_of (L := [some (.ref 2), some (.int l1), some (.int l2), some (.int (l3 - (mnI l3 (s.2.1 1 (ix ((67 + (2 * l5)) + 1)))))), some (.int (l4 + 0)), some (.int (l5 + 1)), none, none]) ⟨rfl, ⟨rfl, ⟨rfl, ⟨rfl, ⟨rfl, ⟨rfl, trivial⟩⟩⟩⟩⟩⟩) H
          · replace H := H.2 (h)
            refine ev_ex 8 (c' := (8, [some (.ref 2), some (.int l1), some (.int l2), some (.int (l3 - (mnI l3 (s.2.1 1 (ix ((67 + (2 * l5)) + 1)))))), some (.int (l4 + (-(mnI l3 (s.2.1 1 (ix ((67 + (2 * l5)) + 1))))))), some (.int (l5 + 1)), some (.int (s.2.1 1 (ix (67 + (2 * l5))))), some (.int (mnI l3 (s.2.1 1 (ix ((67 + (2 * l5)) + 1)))))], [], cH c s)) rfl ?_
            exact ev_less (lle_of (L := [some (.ref 2), some (.int l1), some (.int l2), some (.int (l3 - (mnI l3 (s.2.1 1 (ix ((67 + (2 * l5)) + 1)))))), some (.int (l4 + (-(mnI l3 (s.2.1 1 (ix ((67 + (2 * l5)) + 1))))))), some (.int (l5 + 1)), none, none]) ⟨rfl, ⟨rfl, ⟨rfl, ⟨rfl, ⟨rfl, ⟨rfl, trivial⟩⟩⟩⟩⟩⟩) H
        · replace H := H.2 (h)
          refine ev_ex 7 (c' := (8, [some (.ref 2), some (.int l1), some (.int l2), some (.int (l3 - (mnI l3 (s.2.1 1 (ix ((67 + (2 * l5)) + 1)))))), some (.int (l4 + (mnI l3 (s.2.1 1 (ix ((67 + (2 * l5)) + 1)))))), some (.int (l5 + 1)), some (.int (s.2.1 1 (ix (67 + (2 * l5))))), some (.int (mnI l3 (s.2.1 1 (ix ((67 + (2 * l5)) + 1)))))], [], cH c s)) rfl ?_
          exact ev_less (lle_of (L := [some (.ref 2), some (.int l1), some (.int l2), some (.int (l3 - (mnI l3 (s.2.1 1 (ix ((67 + (2 * l5)) + 1)))))), some (.int (l4 + (mnI l3 (s.2.1 1 (ix ((67 + (2 * l5)) + 1)))))), some (.int (l5 + 1)), none, none]) ⟨rfl, ⟨rfl, ⟨rfl, ⟨rfl, ⟨rfl, ⟨rfl, trivial⟩⟩⟩⟩⟩⟩) H
theorem w_R_whyNot {c : CX} {d : Nat} {s : RS} {Q : Int32 → RS → Prop} (a0 : Int64) (a1 : Int64) (H : (((wth a0 0 (s.2.1 1 1 - 1).toInt64) = false → Q 1 s) ∧ ((wth a0 0 (s.2.1 1 1 - 1).toInt64) = true → (((wth a1 0 (s.2.1 1 1 - 1).toInt64) = false → Q 1 s) ∧ ((wth a1 0 (s.2.1 1 1 - 1).toInt64) = true → ((¬ a0 = a1 → RB c (d + 1) m_R_mayMock [.ref 2, .int a0.toInt32, .int a1.toInt32] s (fun v2 s1 => ((v2 = false → Q 2 s1) ∧ (v2 = true → Q 0 s1)))) ∧ (a0 = a1 → Q 1 s))))))) : RI c (d + 2) m_R_whyNot [.ref 2, .long a0, .long a1] s Q := by
  refine ⟨q_R_whyNot, rfl, Nat.le_of_ble_eq_true rfl, ?_⟩
  refine ev_ex 0 (c' := (0, [some (.ref 2), some (.long a0), none, some (.long a1), none], [], cH c s)) rfl ?_
  refine ev_ex 2 (c' := (2, [some (.ref 2), some (.long a0), none, some (.long a1), none], [.long a0, .ref 2], cH c s)) rfl ?_
  refine rc_B (idx := 314) rfl rfl rfl (Nat.le_of_ble_eq_true rfl) (Nat.le_of_ble_eq_true rfl) rfl (K := fun x s' => x = wth a0 0 (s.2.1 1 1 - 1).toInt64 ∧ s' = s) (z_R_isGuild ⟨rfl, rfl⟩) ?_
  rintro _ _ ⟨rfl, rfl⟩
  refine ev_if_eqB (x := (wth a0 0 (s.2.1 1 1 - 1).toInt64)) (tgt := 22) rfl rfl (fun h => ?_) (fun h => ?_)
  · replace H := H.1 (h)
    refine ev_ex 1 (c' := (23, [some (.ref 2), some (.long a0), none, some (.long a1), none], [.int 1], cH c s)) rfl ?_
    exact ev_ret rfl rfl rfl ⟨_, _, rfl, rfl, H⟩
  · replace H := H.2 (h)
    refine ev_ex 2 (c' := (10, [some (.ref 2), some (.long a0), none, some (.long a1), none], [.long a1, .ref 2], cH c s)) rfl ?_
    refine rc_B (idx := 314) rfl rfl rfl (Nat.le_of_ble_eq_true rfl) (Nat.le_of_ble_eq_true rfl) rfl (K := fun x s' => x = wth a1 0 (s.2.1 1 1 - 1).toInt64 ∧ s' = s) (z_R_isGuild ⟨rfl, rfl⟩) ?_
    rintro _ _ ⟨rfl, rfl⟩
    refine ev_if_eqB (x := (wth a1 0 (s.2.1 1 1 - 1).toInt64)) (tgt := 22) rfl rfl (fun h => ?_) (fun h => ?_)
    · replace H := H.1 (h)
      refine ev_ex 1 (c' := (23, [some (.ref 2), some (.long a0), none, some (.long a1), none], [.int 1], cH c s)) rfl ?_
      exact ev_ret rfl rfl rfl ⟨_, _, rfl, rfl, H⟩
    · replace H := H.2 (h)
      refine ev_ex 3 (c' := (19, [some (.ref 2), some (.long a0), none, some (.long a1), none], [.int (lg_cmp a0 a1)], cH c s)) rfl ?_
      refine ev_if_ne (tgt := 24) rfl rfl (fun h => ?_) (fun h => ?_)
      · replace H := H.1 ((fun q => h ((lg_cmp_eq _ _).mpr q)))
        refine ev_ex 5 (c' := (29, [some (.ref 2), some (.long a0), none, some (.long a1), none], [.int a1.toInt32, .int a0.toInt32, .ref 2], cH c s)) rfl ?_
        refine rc_B (idx := 320) rfl rfl rfl (Nat.le_of_ble_eq_true rfl) (Nat.le_of_ble_eq_true rfl) rfl H (fun v2 s1 H => ?_)
        refine ev_if_eqB (x := v2) (tgt := 39) rfl rfl (fun h => ?_) (fun h => ?_)
        · replace H := H.1 (h)
          refine ev_ex 1 (c' := (40, [some (.ref 2), some (.long a0), none, some (.long a1), none], [.int 2], cH c s1)) rfl ?_
          exact ev_ret rfl rfl rfl ⟨_, _, rfl, rfl, H⟩
        · replace H := H.2 (h)
          refine ev_ex 2 (c' := (40, [some (.ref 2), some (.long a0), none, some (.long a1), none], [.int 0], cH c s1)) rfl ?_
          exact ev_ret rfl rfl rfl ⟨_, _, rfl, rfl, H⟩
      · replace H := H.2 ((lg_cmp_eq _ _).mp h)
        refine ev_ex 1 (c' := (23, [some (.ref 2), some (.long a0), none, some (.long a1), none], [.int 1], cH c s)) rfl ?_
        exact ev_ret rfl rfl rfl ⟨_, _, rfl, rfl, H⟩
theorem w_R_keeps {c : CX} {d : Nat} {s : RS} {Q : RS → Prop}  (H : (okx 5 2101 ∧ ((¬ (s.2.1 1 (ix 5)) = 10 → eR c (d) m_R_keeps 54 [some (.ref 2), some (.int 0)] s (pV c Q)) ∧ ((s.2.1 1 (ix 5)) = 10 → eR c (d) m_R_keeps 14 [some (.ref 2), some (.int 91)] s (pV c Q))))) : RV c (d) m_R_keeps [.ref 2] s Q := by
  refine ⟨q_R_keeps, rfl, Nat.le_of_ble_eq_true rfl, ?_⟩
  refine ev_ex 0 (c' := (0, [some (.ref 2), none], [], cH c s)) rfl ?_
  refine ev_ex 3 (c' := (5, [some (.ref 2), none], [.int 5, .ref 6], cH c s)) rfl ?_
  obtain ⟨H0, H⟩ := H
  refine ev_ald (i := .iaload) rfl (Or.inl rfl) rfl H0 (v := .int (s.2.1 1 (ix 5))) rfl ?_
  refine ev_ex 1 (c' := (8, [some (.ref 2), none], [.int 10, .int (s.2.1 1 (ix 5))], cH c s)) rfl ?_
  refine ev_icmp_ne (tgt := 52) rfl rfl (fun h => ?_) (fun h => ?_)
  · replace H := H.1 (h)
    refine ev_ex 2 (c' := (54, [some (.ref 2), some (.int 0)], [], cH c s)) rfl ?_
    exact H
  · replace H := H.2 (h)
    refine ev_ex 2 (c' := (14, [some (.ref 2), some (.int 91)], [], cH c s)) rfl ?_
    exact H
theorem w_R_keeps_54 {c : CX} {d : Nat} {s : RS} {Q : RS → Prop} (l1 : Int32) (H : ((21 ≤ l1 → (okx 5 2101 ∧ (okx 5 2101 ∧ Q (rA s 1 (ix 5) ((s.2.1 1 (ix 5)) + 1))))) ∧ (¬ 21 ≤ l1 → (okx 5 2101 ∧ (okx (6 + l1) 2101 ∧ (okx ((91 + (21 * (s.2.1 1 (ix 5)))) + l1) 2101 ∧ eR c (d) m_R_keeps 54 [some (.ref 2), some (.int (l1 + 1))] (rA s 1 (ix ((91 + (21 * (s.2.1 1 (ix 5)))) + l1)) (s.2.1 1 (ix (6 + l1)))) (pV c Q))))))) : eR c (d) m_R_keeps 54 [some (.ref 2), some (.int l1)] s (pV c Q) := by
  unfold eR
  refine ev_ex 0 (c' := (54, [some (.ref 2), some (.int l1)], [], cH c s)) rfl ?_
  refine ev_ex 2 (c' := (57, [some (.ref 2), some (.int l1)], [.int 21, .int l1], cH c s)) rfl ?_
  refine ev_icmp_ge (tgt := 94) rfl rfl (fun h => ?_) (fun h => ?_)
  · replace H := H.1 (h)
    refine ev_ex 4 (c' := (100, [some (.ref 2), some (.int l1)], [.int 5, .ref 6, .int 5, .ref 6], cH c s)) rfl ?_
    obtain ⟨H0, H⟩ := H
    refine ev_ald (i := .iaload) rfl (Or.inl rfl) rfl H0 (v := .int (s.2.1 1 (ix 5))) rfl ?_
    refine ev_ex 2 (c' := (103, [some (.ref 2), some (.int l1)], [.int ((s.2.1 1 (ix 5)) + 1), .int 5, .ref 6], cH c s)) rfl ?_
    obtain ⟨H0, H⟩ := H
    refine ev_ast (i := .iastore) rfl (Or.inl rfl) rfl H0 (by decide) rfl rfl (σ' := cH c (rA s 1 (ix 5) ((s.2.1 1 (ix 5)) + 1))) rfl ?_
    exact ev_ret rfl rfl rfl ⟨_, rfl, rfl, H⟩
  · replace H := H.2 (h)
    refine ev_ex 7 (c' := (73, [some (.ref 2), some (.int l1)], [.int 5, .ref 6, .int 21, .int 91, .ref 6], cH c s)) rfl ?_
    obtain ⟨H0, H⟩ := H
    refine ev_ald (i := .iaload) rfl (Or.inl rfl) rfl H0 (v := .int (s.2.1 1 (ix 5))) rfl ?_
    refine ev_ex 9 (c' := (86, [some (.ref 2), some (.int l1)], [.int (6 + l1), .ref 6, .int ((91 + (21 * (s.2.1 1 (ix 5)))) + l1), .ref 6], cH c s)) rfl ?_
    obtain ⟨H0, H⟩ := H
    refine ev_ald (i := .iaload) rfl (Or.inl rfl) rfl H0 (v := .int (s.2.1 1 (ix (6 + l1)))) rfl ?_
    obtain ⟨H0, H⟩ := H
    refine ev_ast (i := .iastore) rfl (Or.inl rfl) rfl H0 (by decide) rfl rfl (σ' := cH c (rA s 1 (ix ((91 + (21 * (s.2.1 1 (ix 5)))) + l1)) (s.2.1 1 (ix (6 + l1))))) rfl ?_
    refine ev_ex 2 (c' := (54, [some (.ref 2), some (.int (l1 + 1))], [], cH c (rA s 1 (ix ((91 + (21 * (s.2.1 1 (ix 5)))) + l1)) (s.2.1 1 (ix (6 + l1)))))) rfl ?_
    exact H
theorem w_R_keeps_14 {c : CX} {d : Nat} {s : RS} {Q : RS → Prop} (l1 : Int32) (H : ((280 ≤ l1 → (okx 5 2101 ∧ (okx 5 2101 ∧ eR c (d) m_R_keeps 54 [some (.ref 2), some (.int 0)] (rA s 1 (ix 5) ((s.2.1 1 (ix 5)) - 1)) (pV c Q)))) ∧ (¬ 280 ≤ l1 → (okx (l1 + 21) 2101 ∧ (okx l1 2101 ∧ eR c (d) m_R_keeps 14 [some (.ref 2), some (.int (l1 + 1))] (rA s 1 (ix l1) (s.2.1 1 (ix (l1 + 21)))) (pV c Q)))))) : eR c (d) m_R_keeps 14 [some (.ref 2), some (.int l1)] s (pV c Q) := by
  unfold eR
  refine ev_ex 0 (c' := (14, [some (.ref 2), some (.int l1)], [], cH c s)) rfl ?_
  refine ev_ex 2 (c' := (18, [some (.ref 2), some (.int l1)], [.int 280, .int l1], cH c s)) rfl ?_
  refine ev_icmp_ge (tgt := 42) rfl rfl (fun h => ?_) (fun h => ?_)
  · replace H := H.1 (h)
    refine ev_ex 4 (c' := (48, [some (.ref 2), some (.int l1)], [.int 5, .ref 6, .int 5, .ref 6], cH c s)) rfl ?_
    obtain ⟨H0, H⟩ := H
    refine ev_ald (i := .iaload) rfl (Or.inl rfl) rfl H0 (v := .int (s.2.1 1 (ix 5))) rfl ?_
    refine ev_ex 2 (c' := (51, [some (.ref 2), some (.int l1)], [.int ((s.2.1 1 (ix 5)) - 1), .int 5, .ref 6], cH c s)) rfl ?_
    obtain ⟨H0, H⟩ := H
    refine ev_ast (i := .iastore) rfl (Or.inl rfl) rfl H0 (by decide) rfl rfl (σ' := cH c (rA s 1 (ix 5) ((s.2.1 1 (ix 5)) - 1))) rfl ?_
    refine ev_ex 2 (c' := (54, [some (.ref 2), some (.int 0)], [], cH c (rA s 1 (ix 5) ((s.2.1 1 (ix 5)) - 1)))) rfl ?_
    exact H
  · replace H := H.2 (h)
    refine ev_ex 8 (c' := (34, [some (.ref 2), some (.int l1)], [.int (l1 + 21), .ref 6, .int l1, .ref 6], cH c s)) rfl ?_
    obtain ⟨H0, H⟩ := H
    refine ev_ald (i := .iaload) rfl (Or.inl rfl) rfl H0 (v := .int (s.2.1 1 (ix (l1 + 21)))) rfl ?_
    obtain ⟨H0, H⟩ := H
    refine ev_ast (i := .iastore) rfl (Or.inl rfl) rfl H0 (by decide) rfl rfl (σ' := cH c (rA s 1 (ix l1) (s.2.1 1 (ix (l1 + 21))))) rfl ?_
    refine ev_ex 2 (c' := (14, [some (.ref 2), some (.int (l1 + 1))], [], cH c (rA s 1 (ix l1) (s.2.1 1 (ix (l1 + 21)))))) rfl ?_
    exact H
theorem w_R_putsAside {c : CX} {d : Nat} {s : RS} {Q : RS → Prop}  (H : eR c (d) m_R_putsAside 2 [some (.ref 2), some (.int 0)] s (pV c Q)) : RV c (d) m_R_putsAside [.ref 2] s Q := by
  refine ⟨q_R_putsAside, rfl, Nat.le_of_ble_eq_true rfl, ?_⟩
  refine ev_ex 0 (c' := (0, [some (.ref 2), none], [], cH c s)) rfl ?_
  refine ev_ex 2 (c' := (2, [some (.ref 2), some (.int 0)], [], cH c s)) rfl ?_
  exact H
theorem w_R_putsAside_2 {c : CX} {d : Nat} {s : RS} {Q : RS → Prop} (l1 : Int32) (H : ((21 ≤ l1 → Q s) ∧ (¬ 21 ≤ l1 → (okx (6 + l1) 2101 ∧ (okx l1 21 ∧ eR c (d) m_R_putsAside 2 [some (.ref 2), some (.int (l1 + 1))] (rA s 8 (ix l1) (s.2.1 1 (ix (6 + l1)))) (pV c Q)))))) : eR c (d) m_R_putsAside 2 [some (.ref 2), some (.int l1)] s (pV c Q) := by
  unfold eR
  refine ev_ex 0 (c' := (2, [some (.ref 2), some (.int l1)], [], cH c s)) rfl ?_
  refine ev_ex 2 (c' := (5, [some (.ref 2), some (.int l1)], [.int 21, .int l1], cH c s)) rfl ?_
  refine ev_icmp_ge (tgt := 29) rfl rfl (fun h => ?_) (fun h => ?_)
  · replace H := H.1 (h)
    exact ev_ret rfl rfl rfl ⟨_, rfl, rfl, H⟩
  · replace H := H.2 (h)
    refine ev_ex 8 (c' := (21, [some (.ref 2), some (.int l1)], [.int (6 + l1), .ref 6, .int l1, .ref 34], cH c s)) rfl ?_
    obtain ⟨H0, H⟩ := H
    refine ev_ald (i := .iaload) rfl (Or.inl rfl) rfl H0 (v := .int (s.2.1 1 (ix (6 + l1)))) rfl ?_
    obtain ⟨H0, H⟩ := H
    refine ev_ast (i := .iastore) rfl (Or.inl rfl) rfl H0 (by decide) rfl rfl (σ' := cH c (rA s 8 (ix l1) (s.2.1 1 (ix (6 + l1))))) rfl ?_
    refine ev_ex 2 (c' := (2, [some (.ref 2), some (.int (l1 + 1))], [], cH c (rA s 8 (ix l1) (s.2.1 1 (ix (6 + l1)))))) rfl ?_
    exact H
theorem w_R_night {c : CX} {d : Nat} {s : RS} {Q : RS → Prop}  (H : eR c (d + 1) m_R_night 2 [some (.ref 2), some (.int 0)] s (pV c Q)) : RV c (d + 1) m_R_night [.ref 2] s Q := by
  refine ⟨q_R_night, rfl, Nat.le_of_ble_eq_true rfl, ?_⟩
  refine ev_ex 0 (c' := (0, [some (.ref 2), none], [], cH c s)) rfl ?_
  refine ev_ex 2 (c' := (2, [some (.ref 2), some (.int 0)], [], cH c s)) rfl ?_
  exact H
theorem w_R_night_2 {c : CX} {d : Nat} {s : RS} {Q : RS → Prop} (l1 : Int32) (H : (((s.2.1 1 1) ≤ l1 → eR c (d + 1) m_R_night 29 [some (.ref 2), some (.int 0)] s (pV c Q)) ∧ (¬ (s.2.1 1 1) ≤ l1 → RI c d m_R_then [.ref 2, .int l1] s (fun v2 s1 => (okx l1 10 ∧ eR c (d + 1) m_R_night 2 [some (.ref 2), some (.int (l1 + 1))] (rA s1 7 (ix l1) v2) (pV c Q)))))) : eR c (d + 1) m_R_night 2 [some (.ref 2), some (.int l1)] s (pV c Q) := by
  unfold eR
  refine ev_ex 0 (c' := (2, [some (.ref 2), some (.int l1)], [], cH c s)) rfl ?_
  refine ev_ex 2 (c' := (4, [some (.ref 2), some (.int l1)], [.ref 2, .int l1], cH c s)) rfl ?_
  refine rc_I (idx := 267) rfl rfl rfl (Nat.le_of_ble_eq_true rfl) (Nat.le_of_ble_eq_true rfl) rfl (K := fun x s' => x = s.2.1 1 1 ∧ s' = s) (z_R_guilds ⟨rfl, rfl⟩) ?_
  rintro _ _ ⟨rfl, rfl⟩
  refine ev_icmp_ge (tgt := 27) rfl rfl (fun h => ?_) (fun h => ?_)
  · replace H := H.1 (h)
    refine ev_ex 2 (c' := (29, [some (.ref 2), some (.int 0)], [], cH c s)) rfl ?_
    exact H
  · replace H := H.2 (h)
    refine ev_ex 5 (c' := (17, [some (.ref 2), some (.int l1)], [.int l1, .ref 2, .int l1, .ref 30], cH c s)) rfl ?_
    refine rc_I (idx := 311) rfl rfl rfl (Nat.le_of_ble_eq_true rfl) (Nat.le_of_ble_eq_true rfl) rfl H (fun v2 s1 H => ?_)
    obtain ⟨H0, H⟩ := H
    refine ev_ast (i := .iastore) rfl (Or.inl rfl) rfl H0 (by decide) rfl rfl (σ' := cH c (rA s1 7 (ix l1) v2)) rfl ?_
    refine ev_ex 2 (c' := (2, [some (.ref 2), some (.int (l1 + 1))], [], cH c (rA s1 7 (ix l1) v2))) rfl ?_
    exact H
theorem w_R_night_29 {c : CX} {d : Nat} {s : RS} {Q : RS → Prop} (l1 : Int32) (H : (((s.2.1 1 1) ≤ l1 → (okx 26 2101 ∧ (okx 26 2101 ∧ Q (rA s 1 (ix 26) ((s.2.1 1 (ix 26)) + 1))))) ∧ (¬ (s.2.1 1 1) ≤ l1 → (okx l1 10 ∧ (okx (6 + l1) 2101 ∧ eR c (d + 1) m_R_night 29 [some (.ref 2), some (.int (l1 + 1))] (rA s 1 (ix (6 + l1)) (s.2.1 7 (ix l1))) (pV c Q)))))) : eR c (d + 1) m_R_night 29 [some (.ref 2), some (.int l1)] s (pV c Q) := by
  unfold eR
  refine ev_ex 0 (c' := (29, [some (.ref 2), some (.int l1)], [], cH c s)) rfl ?_
  refine ev_ex 2 (c' := (31, [some (.ref 2), some (.int l1)], [.ref 2, .int l1], cH c s)) rfl ?_
  refine rc_I (idx := 267) rfl rfl rfl (Nat.le_of_ble_eq_true rfl) (Nat.le_of_ble_eq_true rfl) rfl (K := fun x s' => x = s.2.1 1 1 ∧ s' = s) (z_R_guilds ⟨rfl, rfl⟩) ?_
  rintro _ _ ⟨rfl, rfl⟩
  refine ev_icmp_ge (tgt := 58) rfl rfl (fun h => ?_) (fun h => ?_)
  · replace H := H.1 (h)
    refine ev_ex 4 (c' := (65, [some (.ref 2), some (.int l1)], [.int 26, .ref 6, .int 26, .ref 6], cH c s)) rfl ?_
    obtain ⟨H0, H⟩ := H
    refine ev_ald (i := .iaload) rfl (Or.inl rfl) rfl H0 (v := .int (s.2.1 1 (ix 26))) rfl ?_
    refine ev_ex 2 (c' := (68, [some (.ref 2), some (.int l1)], [.int ((s.2.1 1 (ix 26)) + 1), .int 26, .ref 6], cH c s)) rfl ?_
    obtain ⟨H0, H⟩ := H
    refine ev_ast (i := .iastore) rfl (Or.inl rfl) rfl H0 (by decide) rfl rfl (σ' := cH c (rA s 1 (ix 26) ((s.2.1 1 (ix 26)) + 1))) rfl ?_
    exact ev_ret rfl rfl rfl ⟨_, rfl, rfl, H⟩
  · replace H := H.2 (h)
    refine ev_ex 8 (c' := (50, [some (.ref 2), some (.int l1)], [.int l1, .ref 30, .int (6 + l1), .ref 6], cH c s)) rfl ?_
    obtain ⟨H0, H⟩ := H
    refine ev_ald (i := .iaload) rfl (Or.inl rfl) rfl H0 (v := .int (s.2.1 7 (ix l1))) rfl ?_
    obtain ⟨H0, H⟩ := H
    refine ev_ast (i := .iastore) rfl (Or.inl rfl) rfl H0 (by decide) rfl rfl (σ' := cH c (rA s 1 (ix (6 + l1)) (s.2.1 7 (ix l1)))) rfl ?_
    refine ev_ex 2 (c' := (29, [some (.ref 2), some (.int (l1 + 1))], [], cH c (rA s 1 (ix (6 + l1)) (s.2.1 7 (ix l1))))) rfl ?_
    exact H
theorem w_R_whyTold {c : CX} {d : Nat} {s : RS} {Q : Int32 → RS → Prop} (a0 : Int64) (H : ((¬ a0 = ((-1)) → ((a0 < 0 → Q 1 s) ∧ (¬ a0 < 0 → (((wth (a0 / 100) 0 (s.2.1 1 1 - 1).toInt64) = true → ((¬ (a0 - a0 / 100 * 100) = 99 → RI c (d + 1) m_R_whyNot [.ref 2, .long (a0 / 100), .long (a0 - a0 / 100 * 100)] s (fun v2 s1 => Q v2 s1)) ∧ ((a0 - a0 / 100 * 100) = 99 → Q 0 s))) ∧ ((wth (a0 / 100) 0 (s.2.1 1 1 - 1).toInt64) = false → Q 1 s))))) ∧ (a0 = ((-1)) → Q 0 s))) : RI c (d + 2) m_R_whyTold [.ref 2, .long a0] s Q := by
  refine ⟨q_R_whyTold, rfl, Nat.le_of_ble_eq_true rfl, ?_⟩
  refine ev_ex 0 (c' := (0, [some (.ref 2), some (.long a0), none], [], cH c s)) rfl ?_
  refine ev_ex 3 (c' := (5, [some (.ref 2), some (.long a0), none], [.int (lg_cmp a0 ((-1)))], cH c s)) rfl ?_
  refine ev_if_ne (tgt := 10) rfl rfl (fun h => ?_) (fun h => ?_)
  · replace H := H.1 ((fun q => h ((lg_cmp_eq _ _).mpr q)))
    refine ev_ex 3 (c' := (13, [some (.ref 2), some (.long a0), none], [.int (lg_cmp a0 0)], cH c s)) rfl ?_
    refine ev_if_lt (tgt := 28) rfl rfl (fun h => ?_) (fun h => ?_)
    · replace H := H.1 ((lg_cmp_lt _ _).mp h)
      refine ev_ex 1 (c' := (29, [some (.ref 2), some (.long a0), none], [.int 1], cH c s)) rfl ?_
      exact ev_ret rfl rfl rfl ⟨_, _, rfl, rfl, H⟩
    · replace H := H.2 ((fun q => h ((lg_cmp_lt _ _).mpr q)))
      refine ev_ex 4 (c' := (22, [some (.ref 2), some (.long a0), none], [.long (a0 / 100), .ref 2], cH c s)) rfl ?_
      refine rc_B (idx := 314) rfl rfl rfl (Nat.le_of_ble_eq_true rfl) (Nat.le_of_ble_eq_true rfl) rfl (K := fun x s' => x = wth (a0 / 100) 0 (s.2.1 1 1 - 1).toInt64 ∧ s' = s) (z_R_isGuild ⟨rfl, rfl⟩) ?_
      rintro _ _ ⟨rfl, rfl⟩
      refine ev_if_neB (x := (wth (a0 / 100) 0 (s.2.1 1 1 - 1).toInt64)) (tgt := 30) rfl rfl (fun h => ?_) (fun h => ?_)
      · replace H := H.1 (h)
        refine ev_ex 5 (c' := (39, [some (.ref 2), some (.long a0), none], [.int (lg_cmp (a0 - a0 / 100 * 100) 99)], cH c s)) rfl ?_
        refine ev_if_ne (tgt := 46) rfl rfl (fun h => ?_) (fun h => ?_)
        · replace H := H.1 ((fun q => h ((lg_cmp_eq _ _).mpr q)))
          refine ev_ex 7 (c' := (57, [some (.ref 2), some (.long a0), none], [.long (a0 - a0 / 100 * 100), .long (a0 / 100), .ref 2], cH c s)) rfl ?_
          refine rc_I (idx := 323) rfl rfl rfl (Nat.le_of_ble_eq_true rfl) (Nat.le_of_ble_eq_true rfl) rfl H (fun v2 s1 H => ?_)
          exact ev_ret rfl rfl rfl ⟨_, _, rfl, rfl, H⟩
        · replace H := H.2 ((lg_cmp_eq _ _).mp h)
          refine ev_ex 2 (c' := (60, [some (.ref 2), some (.long a0), none], [.int 0], cH c s)) rfl ?_
          exact ev_ret rfl rfl rfl ⟨_, _, rfl, rfl, H⟩
      · replace H := H.2 (h)
        refine ev_ex 1 (c' := (29, [some (.ref 2), some (.long a0), none], [.int 1], cH c s)) rfl ?_
        exact ev_ret rfl rfl rfl ⟨_, _, rfl, rfl, H⟩
  · replace H := H.2 ((lg_cmp_eq _ _).mp h)
    refine ev_ex 1 (c' := (9, [some (.ref 2), some (.long a0), none], [.int 0], cH c s)) rfl ?_
    exact ev_ret rfl rfl rfl ⟨_, _, rfl, rfl, H⟩
theorem w_R_does {c : CX} {d : Nat} {s : RS} {Q : RS → Prop} (a0 : Int32) (H : ((¬ a0 = ((-1)) → ((¬ (a0 - a0 / 100 * 100) = 99 → (okx (6 + (a0 / 100)) 2101 ∧ Q (rA s 1 (ix (6 + (a0 / 100))) (a0 - a0 / 100 * 100)))) ∧ ((a0 - a0 / 100 * 100) = 99 → (okx (6 + (a0 / 100)) 2101 ∧ Q (rA s 1 (ix (6 + (a0 / 100))) ((-1))))))) ∧ (a0 = ((-1)) → RV c d m_R_night [.ref 2] s (fun s1 => Q s1)))) : RV c (d + 1) m_R_does [.ref 2, .int a0] s Q := by
  refine ⟨q_R_does, rfl, Nat.le_of_ble_eq_true rfl, ?_⟩
  refine ev_ex 0 (c' := (0, [some (.ref 2), some (.int a0)], [], cH c s)) rfl ?_
  refine ev_ex 2 (c' := (2, [some (.ref 2), some (.int a0)], [.int ((-1)), .int a0], cH c s)) rfl ?_
  refine ev_icmp_ne (tgt := 12) rfl rfl (fun h => ?_) (fun h => ?_)
  · replace H := H.1 (h)
    refine ev_ex 5 (c' := (21, [some (.ref 2), some (.int a0)], [.int 100, .int a0, .int 6, .ref 6], cH c s)) rfl ?_
    refine ev_ex 4 (c' := (26, [some (.ref 2), some (.int a0)], [.int 100, .int a0, .int (6 + (a0 / 100)), .ref 6], cH c s)) rfl ?_
    refine ev_ex 2 (c' := (29, [some (.ref 2), some (.int a0)], [.int 99, .int (a0 - a0 / 100 * 100), .int (6 + (a0 / 100)), .ref 6], cH c s)) rfl ?_
    refine ev_icmp_ne (tgt := 36) rfl rfl (fun h => ?_) (fun h => ?_)
    · replace H := H.1 (h)
      refine ev_ex 2 (c' := (39, [some (.ref 2), some (.int a0)], [.int 100, .int a0, .int (6 + (a0 / 100)), .ref 6], cH c s)) rfl ?_
      refine ev_ex 1 (c' := (40, [some (.ref 2), some (.int a0)], [.int (a0 - a0 / 100 * 100), .int (6 + (a0 / 100)), .ref 6], cH c s)) rfl ?_
      obtain ⟨H0, H⟩ := H
      refine ev_ast (i := .iastore) rfl (Or.inl rfl) rfl H0 (by decide) rfl rfl (σ' := cH c (rA s 1 (ix (6 + (a0 / 100))) (a0 - a0 / 100 * 100))) rfl ?_
      exact ev_ret rfl rfl rfl ⟨_, rfl, rfl, H⟩
    · replace H := H.2 (h)
      refine ev_ex 2 (c' := (40, [some (.ref 2), some (.int a0)], [.int ((-1)), .int (6 + (a0 / 100)), .ref 6], cH c s)) rfl ?_
      obtain ⟨H0, H⟩ := H
      refine ev_ast (i := .iastore) rfl (Or.inl rfl) rfl H0 (by decide) rfl rfl (σ' := cH c (rA s 1 (ix (6 + (a0 / 100))) ((-1)))) rfl ?_
      exact ev_ret rfl rfl rfl ⟨_, rfl, rfl, H⟩
  · replace H := H.2 (h)
    refine ev_ex 1 (c' := (6, [some (.ref 2), some (.int a0)], [.ref 2], cH c s)) rfl ?_
    refine rc_V (idx := 337) rfl rfl rfl (Nat.le_of_ble_eq_true rfl) (Nat.le_of_ble_eq_true rfl) rfl H (fun s1 H => ?_)
    refine ev_ex 1 (c' := (41, [some (.ref 2), some (.int a0)], [], cH c s1)) rfl ?_
    exact ev_ret rfl rfl rfl ⟨_, rfl, rfl, H⟩
theorem w_R_mocking {c : CX} {d : Nat} {s : RS} {Q : Int32 → RS → Prop}  (H : eR c (d + 1) m_R_mocking 4 [some (.ref 2), some (.int 0), some (.int 0)] s (pI c Q)) : RI c (d + 1) m_R_mocking [.ref 2] s Q := by
  refine ⟨q_R_mocking, rfl, Nat.le_of_ble_eq_true rfl, ?_⟩
  refine ev_ex 0 (c' := (0, [some (.ref 2), none, none], [], cH c s)) rfl ?_
  refine ev_ex 4 (c' := (4, [some (.ref 2), some (.int 0), some (.int 0)], [], cH c s)) rfl ?_
  exact H
theorem w_R_mocking_4 {c : CX} {d : Nat} {s : RS} {Q : Int32 → RS → Prop} (l1 : Int32) (l2 : Int32) (H : (((s.2.1 1 1) ≤ l2 → Q l1 s) ∧ (¬ (s.2.1 1 1) ≤ l2 → (okx (6 + l2) 2101 ∧ ((¬ (s.2.1 1 (ix (6 + l2))) = ((-1)) → eR c (d + 1) m_R_mocking 4 [some (.ref 2), some (.int (l1 + 1)), some (.int (l2 + 1))] s (pI c Q)) ∧ ((s.2.1 1 (ix (6 + l2))) = ((-1)) → eR c (d + 1) m_R_mocking 4 [some (.ref 2), some (.int (l1 + 0)), some (.int (l2 + 1))] s (pI c Q))))))) : eR c (d + 1) m_R_mocking 4 [some (.ref 2), some (.int l1), some (.int l2)] s (pI c Q) := by
  unfold eR
  refine ev_ex 0 (c' := (4, [some (.ref 2), some (.int l1), some (.int l2)], [], cH c s)) rfl ?_
  refine ev_ex 2 (c' := (6, [some (.ref 2), some (.int l1), some (.int l2)], [.ref 2, .int l2], cH c s)) rfl ?_
  refine rc_I (idx := 267) rfl rfl rfl (Nat.le_of_ble_eq_true rfl) (Nat.le_of_ble_eq_true rfl) rfl (K := fun x s' => x = s.2.1 1 1 ∧ s' = s) (z_R_guilds ⟨rfl, rfl⟩) ?_
  rintro _ _ ⟨rfl, rfl⟩
  refine ev_icmp_ge (tgt := 35) rfl rfl (fun h => ?_) (fun h => ?_)
  · replace H := H.1 (h)
    refine ev_ex 1 (c' := (36, [some (.ref 2), some (.int l1), some (.int l2)], [.int l1], cH c s)) rfl ?_
    exact ev_ret rfl rfl rfl ⟨_, _, rfl, rfl, H⟩
  · replace H := H.2 (h)
    refine ev_ex 3 (c' := (15, [some (.ref 2), some (.int l1), some (.int l2)], [.int l2, .ref 2, .int l1], cH c s)) rfl ?_
    obtain ⟨H1, H⟩ := H
    refine rc_I (idx := 270) rfl rfl rfl (Nat.le_of_ble_eq_true rfl) (Nat.le_of_ble_eq_true rfl) rfl (K := fun x s' => x = s.2.1 1 (ix (6 + l2)) ∧ s' = s) (z_R_mocked H1 ⟨rfl, rfl⟩) ?_
    rintro _ _ ⟨rfl, rfl⟩
    refine ev_ex 1 (c' := (19, [some (.ref 2), some (.int l1), some (.int l2)], [.int ((-1)), .int (s.2.1 1 (ix (6 + l2))), .int l1], cH c s)) rfl ?_
    refine ev_icmp_ne (tgt := 26) rfl rfl (fun h => ?_) (fun h => ?_)
    · replace H := H.1 (h)
      refine ev_ex 5 (c' := (4, [some (.ref 2), some (.int (l1 + 1)), some (.int (l2 + 1))], [], cH c s)) rfl ?_
      exact H
    · replace H := H.2 (h)
      refine ev_ex 6 (c' := (4, [some (.ref 2), some (.int (l1 + 0)), some (.int (l2 + 1))], [], cH c s)) rfl ?_
      exact H
theorem w_R_laysRow {c : CX} {d : Nat} {s : RS} {Q : RS → Prop}  (H : (okx 0 21 ∧ eR c (d + 1) m_R_laysRow 24 [some (.ref 2), some (.int 0), none] (rA (rF (rF (rF s 26 0) 27 0) 28 0) 10 (ix 0) 0) (pV c Q))) : RV c (d + 1) m_R_laysRow [.ref 2] s Q := by
  refine ⟨q_R_laysRow, rfl, Nat.le_of_ble_eq_true rfl, ?_⟩
  refine ev_ex 0 (c' := (0, [some (.ref 2), none, none], [], cH c s)) rfl ?_
  refine ev_ex 13 (c' := (21, [some (.ref 2), none, none], [.int 0, .int 0, .ref 42], cH c (rF (rF (rF s 26 0) 27 0) 28 0))) rfl ?_
  obtain ⟨H0, H⟩ := H
  refine ev_ast (i := .iastore) rfl (Or.inl rfl) rfl H0 (by decide) rfl rfl (σ' := cH c (rA (rF (rF (rF s 26 0) 27 0) 28 0) 10 (ix 0) 0)) rfl ?_
  refine ev_ex 2 (c' := (24, [some (.ref 2), some (.int 0), none], [], cH c (rA (rF (rF (rF s 26 0) 27 0) 28 0) 10 (ix 0) 0))) rfl ?_
  exact H
theorem w_R_laysRow_24 {c : CX} {d : Nat} {s : RS} {Q : RS → Prop} (l1 : Int32) (H : (((s.2.1 1 1) ≤ l1 → Q s) ∧ (¬ (s.2.1 1 1) ≤ l1 → (okx (6 + l1) 2101 ∧ (((s.2.1 1 (ix (6 + l1))) = ((-1)) → (okx (6 + l1) 2101 ∧ ((((rF s 28 ((s.1 28) + 1)).2.1 1 (ix (6 + l1))) = ((-1)) → eR c (d + 1) m_R_laysRow 100 [some (.ref 2), some (.int l1), some (.int l1)] (rF s 28 ((s.1 28) + 1)) (pV c Q)) ∧ (¬ ((rF s 28 ((s.1 28) + 1)).2.1 1 (ix (6 + l1))) = ((-1)) → (okx (6 + l1) 2101 ∧ RV c d m_R_walksOn [.ref 2, .int (100 + ((rF s 28 ((s.1 28) + 1)).2.1 1 (ix (6 + l1))))] (rF s 28 ((s.1 28) + 1)) (fun s1 => eR c (d + 1) m_R_laysRow 100 [some (.ref 2), some (.int l1), some (.int l1)] (rF s1 27 ((s1.1 27) + 1)) (pV c Q))))))) ∧ (¬ (s.2.1 1 (ix (6 + l1))) = ((-1)) → (okx (6 + l1) 2101 ∧ RI c d m_R_behind [.ref 2, .int (s.2.1 1 (ix (6 + l1)))] s (fun v3 s2 => ((¬ v3 = l1 → (okx (6 + l1) 2101 ∧ ((((rF s2 28 ((s2.1 28) + 1)).2.1 1 (ix (6 + l1))) = ((-1)) → eR c (d + 1) m_R_laysRow 100 [some (.ref 2), some (.int l1), some (.int l1)] (rF s2 28 ((s2.1 28) + 1)) (pV c Q)) ∧ (¬ ((rF s2 28 ((s2.1 28) + 1)).2.1 1 (ix (6 + l1))) = ((-1)) → (okx (6 + l1) 2101 ∧ RV c d m_R_walksOn [.ref 2, .int (100 + ((rF s2 28 ((s2.1 28) + 1)).2.1 1 (ix (6 + l1))))] (rF s2 28 ((s2.1 28) + 1)) (fun s4 => eR c (d + 1) m_R_laysRow 100 [some (.ref 2), some (.int l1), some (.int l1)] (rF s4 27 ((s4.1 27) + 1)) (pV c Q))))))) ∧ (v3 = l1 → eR c (d + 1) m_R_laysRow 24 [some (.ref 2), some (.int (l1 + 1)), none] s2 (pV c Q))))))))))) : eR c (d + 1) m_R_laysRow 24 [some (.ref 2), some (.int l1), none] s (pV c Q) := by
  unfold eR
  refine ev_ex 0 (c' := (24, [some (.ref 2), some (.int l1), none], [], cH c s)) rfl ?_
  refine ev_ex 2 (c' := (26, [some (.ref 2), some (.int l1), none], [.ref 2, .int l1], cH c s)) rfl ?_
  refine rc_I (idx := 267) rfl rfl rfl (Nat.le_of_ble_eq_true rfl) (Nat.le_of_ble_eq_true rfl) rfl (K := fun x s' => x = s.2.1 1 1 ∧ s' = s) (z_R_guilds ⟨rfl, rfl⟩) ?_
  rintro _ _ ⟨rfl, rfl⟩
  refine ev_icmp_ge (tgt := 135) rfl rfl (fun h => ?_) (fun h => ?_)
  · replace H := H.1 (h)
    exact ev_ret rfl rfl rfl ⟨_, rfl, rfl, H⟩
  · replace H := H.2 (h)
    refine ev_ex 2 (c' := (34, [some (.ref 2), some (.int l1), none], [.int l1, .ref 2], cH c s)) rfl ?_
    obtain ⟨H1, H⟩ := H
    refine rc_I (idx := 270) rfl rfl rfl (Nat.le_of_ble_eq_true rfl) (Nat.le_of_ble_eq_true rfl) rfl (K := fun x s' => x = s.2.1 1 (ix (6 + l1)) ∧ s' = s) (z_R_mocked H1 ⟨rfl, rfl⟩) ?_
    rintro _ _ ⟨rfl, rfl⟩
    refine ev_ex 1 (c' := (38, [some (.ref 2), some (.int l1), none], [.int ((-1)), .int (s.2.1 1 (ix (6 + l1)))], cH c s)) rfl ?_
    refine ev_icmp_eq (tgt := 57) rfl rfl (fun h => ?_) (fun h => ?_)
    · replace H := H.1 (h)
      refine ev_ex 8 (c' := (69, [some (.ref 2), some (.int l1), none], [.int l1, .ref 2], cH c (rF s 28 ((s.1 28) + 1)))) rfl ?_
      obtain ⟨H1, H⟩ := H
      refine rc_I (idx := 270) rfl rfl rfl (Nat.le_of_ble_eq_true rfl) (Nat.le_of_ble_eq_true rfl) rfl (K := fun x s' => x = (rF s 28 ((s.1 28) + 1)).2.1 1 (ix (6 + l1)) ∧ s' = rF s 28 ((s.1 28) + 1)) (z_R_mocked H1 ⟨rfl, rfl⟩) ?_
      rintro _ _ ⟨rfl, rfl⟩
      refine ev_ex 1 (c' := (73, [some (.ref 2), some (.int l1), none], [.int ((-1)), .int ((rF s 28 ((s.1 28) + 1)).2.1 1 (ix (6 + l1)))], cH c (rF s 28 ((s.1 28) + 1)))) rfl ?_
      refine ev_icmp_eq (tgt := 98) rfl rfl (fun h => ?_) (fun h => ?_)
      · replace H := H.1 (h)
        refine ev_ex 2 (c' := (100, [some (.ref 2), some (.int l1), some (.int l1)], [], cH c (rF s 28 ((s.1 28) + 1)))) rfl ?_
        exact H
      · replace H := H.2 (h)
        refine ev_ex 4 (c' := (81, [some (.ref 2), some (.int l1), none], [.int l1, .ref 2, .int 100, .ref 2], cH c (rF s 28 ((s.1 28) + 1)))) rfl ?_
        obtain ⟨H1, H⟩ := H
        refine rc_I (idx := 270) rfl rfl rfl (Nat.le_of_ble_eq_true rfl) (Nat.le_of_ble_eq_true rfl) rfl (K := fun x s' => x = (rF s 28 ((s.1 28) + 1)).2.1 1 (ix (6 + l1)) ∧ s' = rF s 28 ((s.1 28) + 1)) (z_R_mocked H1 ⟨rfl, rfl⟩) ?_
        rintro _ _ ⟨rfl, rfl⟩
        refine ev_ex 1 (c' := (85, [some (.ref 2), some (.int l1), none], [.int (100 + ((rF s 28 ((s.1 28) + 1)).2.1 1 (ix (6 + l1)))), .ref 2], cH c (rF s 28 ((s.1 28) + 1)))) rfl ?_
        refine rc_V (idx := 395) rfl rfl rfl (Nat.le_of_ble_eq_true rfl) (Nat.le_of_ble_eq_true rfl) rfl H (fun s1 H => ?_)
        refine ev_ex 8 (c' := (100, [some (.ref 2), some (.int l1), some (.int l1)], [], cH c (rF s1 27 ((s1.1 27) + 1)))) rfl ?_
        exact H
    · replace H := H.2 (h)
      refine ev_ex 3 (c' := (44, [some (.ref 2), some (.int l1), none], [.int l1, .ref 2, .ref 2], cH c s)) rfl ?_
      obtain ⟨H1, H⟩ := H
      refine rc_I (idx := 270) rfl rfl rfl (Nat.le_of_ble_eq_true rfl) (Nat.le_of_ble_eq_true rfl) rfl (K := fun x s' => x = s.2.1 1 (ix (6 + l1)) ∧ s' = s) (z_R_mocked H1 ⟨rfl, rfl⟩) ?_
      rintro _ _ ⟨rfl, rfl⟩
      refine rc_I (idx := 392) rfl rfl rfl (Nat.le_of_ble_eq_true rfl) (Nat.le_of_ble_eq_true rfl) rfl H (fun v3 s2 H => ?_)
      refine ev_ex 1 (c' := (51, [some (.ref 2), some (.int l1), none], [.int l1, .int v3], cH c s2)) rfl ?_
      refine ev_icmp_ne (tgt := 57) rfl rfl (fun h => ?_) (fun h => ?_)
      · replace H := H.1 (h)
        refine ev_ex 8 (c' := (69, [some (.ref 2), some (.int l1), none], [.int l1, .ref 2], cH c (rF s2 28 ((s2.1 28) + 1)))) rfl ?_
        obtain ⟨H1, H⟩ := H
        refine rc_I (idx := 270) rfl rfl rfl (Nat.le_of_ble_eq_true rfl) (Nat.le_of_ble_eq_true rfl) rfl (K := fun x s' => x = (rF s2 28 ((s2.1 28) + 1)).2.1 1 (ix (6 + l1)) ∧ s' = rF s2 28 ((s2.1 28) + 1)) (z_R_mocked H1 ⟨rfl, rfl⟩) ?_
        rintro _ _ ⟨rfl, rfl⟩
        refine ev_ex 1 (c' := (73, [some (.ref 2), some (.int l1), none], [.int ((-1)), .int ((rF s2 28 ((s2.1 28) + 1)).2.1 1 (ix (6 + l1)))], cH c (rF s2 28 ((s2.1 28) + 1)))) rfl ?_
        refine ev_icmp_eq (tgt := 98) rfl rfl (fun h => ?_) (fun h => ?_)
        · replace H := H.1 (h)
          refine ev_ex 2 (c' := (100, [some (.ref 2), some (.int l1), some (.int l1)], [], cH c (rF s2 28 ((s2.1 28) + 1)))) rfl ?_
          exact H
        · replace H := H.2 (h)
          refine ev_ex 4 (c' := (81, [some (.ref 2), some (.int l1), none], [.int l1, .ref 2, .int 100, .ref 2], cH c (rF s2 28 ((s2.1 28) + 1)))) rfl ?_
          obtain ⟨H1, H⟩ := H
          refine rc_I (idx := 270) rfl rfl rfl (Nat.le_of_ble_eq_true rfl) (Nat.le_of_ble_eq_true rfl) rfl (K := fun x s' => x = (rF s2 28 ((s2.1 28) + 1)).2.1 1 (ix (6 + l1)) ∧ s' = rF s2 28 ((s2.1 28) + 1)) (z_R_mocked H1 ⟨rfl, rfl⟩) ?_
          rintro _ _ ⟨rfl, rfl⟩
          refine ev_ex 1 (c' := (85, [some (.ref 2), some (.int l1), none], [.int (100 + ((rF s2 28 ((s2.1 28) + 1)).2.1 1 (ix (6 + l1)))), .ref 2], cH c (rF s2 28 ((s2.1 28) + 1)))) rfl ?_
          refine rc_V (idx := 395) rfl rfl rfl (Nat.le_of_ble_eq_true rfl) (Nat.le_of_ble_eq_true rfl) rfl H (fun s4 H => ?_)
          refine ev_ex 8 (c' := (100, [some (.ref 2), some (.int l1), some (.int l1)], [], cH c (rF s4 27 ((s4.1 27) + 1)))) rfl ?_
          exact H
      · replace H := H.2 (h)
        refine ev_ex 3 (c' := (24, [some (.ref 2), some (.int (l1 + 1)), none], [], cH c s2)) rfl ?_
        exact H
theorem w_R_laysRow_100 {c : CX} {d : Nat} {s : RS} {Q : RS → Prop} (l1 : Int32) (l2 : Int32) (H : ((l2 = ((-1)) → eR c (d + 1) m_R_laysRow 24 [some (.ref 2), some (.int (l1 + 1)), none] s (pV c Q)) ∧ (¬ l2 = ((-1)) → (okx l2 10 ∧ RV c d m_R_walksOn [.ref 2, .int l2] (rA s 11 (ix l2) (s.1 26)) (fun s1 => RI c d m_R_behind [.ref 2, .int l2] s1 (fun v3 s2 => eR c (d + 1) m_R_laysRow 100 [some (.ref 2), some (.int l1), some (.int v3)] s2 (pV c Q))))))) : eR c (d + 1) m_R_laysRow 100 [some (.ref 2), some (.int l1), some (.int l2)] s (pV c Q) := by
  unfold eR
  refine ev_ex 0 (c' := (100, [some (.ref 2), some (.int l1), some (.int l2)], [], cH c s)) rfl ?_
  refine ev_ex 2 (c' := (102, [some (.ref 2), some (.int l1), some (.int l2)], [.int ((-1)), .int l2], cH c s)) rfl ?_
  refine ev_icmp_eq (tgt := 129) rfl rfl (fun h => ?_) (fun h => ?_)
  · replace H := H.1 (h)
    refine ev_ex 2 (c' := (24, [some (.ref 2), some (.int (l1 + 1)), some (.int l2)], [], cH c s)) rfl ?_
    exact ev_less (lle_of (L := [some (.ref 2), some (.int (l1 + 1)), none]) ⟨rfl, ⟨rfl, trivial⟩⟩) H
  · replace H := H.2 (h)
    refine ev_ex 5 (c' := (114, [some (.ref 2), some (.int l1), some (.int l2)], [.int (s.1 26), .int l2, .ref 46], cH c s)) rfl ?_
    obtain ⟨H0, H⟩ := H
    refine ev_ast (i := .iastore) rfl (Or.inl rfl) rfl H0 (by decide) rfl rfl (σ' := cH c (rA s 11 (ix l2) (s.1 26))) rfl ?_
    refine ev_ex 2 (c' := (117, [some (.ref 2), some (.int l1), some (.int l2)], [.int l2, .ref 2], cH c (rA s 11 (ix l2) (s.1 26)))) rfl ?_
    refine rc_V (idx := 395) rfl rfl rfl (Nat.le_of_ble_eq_true rfl) (Nat.le_of_ble_eq_true rfl) rfl H (fun s1 H => ?_)
    refine ev_ex 2 (c' := (122, [some (.ref 2), some (.int l1), some (.int l2)], [.int l2, .ref 2], cH c s1)) rfl ?_
    refine rc_I (idx := 392) rfl rfl rfl (Nat.le_of_ble_eq_true rfl) (Nat.le_of_ble_eq_true rfl) rfl H (fun v3 s2 H => ?_)
    refine ev_ex 2 (c' := (100, [some (.ref 2), some (.int l1), some (.int v3)], [], cH c s2)) rfl ?_
    exact H
theorem w_R_putsBack {c : CX} {d : Nat} {s : RS} {Q : RS → Prop}  (H : eR c (d) m_R_putsBack 2 [some (.ref 2), some (.int 0)] s (pV c Q)) : RV c (d) m_R_putsBack [.ref 2] s Q := by
  refine ⟨q_R_putsBack, rfl, Nat.le_of_ble_eq_true rfl, ?_⟩
  refine ev_ex 0 (c' := (0, [some (.ref 2), none], [], cH c s)) rfl ?_
  refine ev_ex 2 (c' := (2, [some (.ref 2), some (.int 0)], [], cH c s)) rfl ?_
  exact H
theorem w_R_putsBack_2 {c : CX} {d : Nat} {s : RS} {Q : RS → Prop} (l1 : Int32) (H : ((21 ≤ l1 → Q s) ∧ (¬ 21 ≤ l1 → (okx l1 21 ∧ (okx (6 + l1) 2101 ∧ eR c (d) m_R_putsBack 2 [some (.ref 2), some (.int (l1 + 1))] (rA s 1 (ix (6 + l1)) (s.2.1 8 (ix l1))) (pV c Q)))))) : eR c (d) m_R_putsBack 2 [some (.ref 2), some (.int l1)] s (pV c Q) := by
  unfold eR
  refine ev_ex 0 (c' := (2, [some (.ref 2), some (.int l1)], [], cH c s)) rfl ?_
  refine ev_ex 2 (c' := (5, [some (.ref 2), some (.int l1)], [.int 21, .int l1], cH c s)) rfl ?_
  refine ev_icmp_ge (tgt := 29) rfl rfl (fun h => ?_) (fun h => ?_)
  · replace H := H.1 (h)
    exact ev_ret rfl rfl rfl ⟨_, rfl, rfl, H⟩
  · replace H := H.2 (h)
    refine ev_ex 8 (c' := (21, [some (.ref 2), some (.int l1)], [.int l1, .ref 34, .int (6 + l1), .ref 6], cH c s)) rfl ?_
    obtain ⟨H0, H⟩ := H
    refine ev_ald (i := .iaload) rfl (Or.inl rfl) rfl H0 (v := .int (s.2.1 8 (ix l1))) rfl ?_
    obtain ⟨H0, H⟩ := H
    refine ev_ast (i := .iastore) rfl (Or.inl rfl) rfl H0 (by decide) rfl rfl (σ' := cH c (rA s 1 (ix (6 + l1)) (s.2.1 8 (ix l1)))) rfl ?_
    refine ev_ex 2 (c' := (2, [some (.ref 2), some (.int (l1 + 1))], [], cH c (rA s 1 (ix (6 + l1)) (s.2.1 8 (ix l1))))) rfl ?_
    exact H
theorem w_R_draw {c : CX} {d : Nat} {s : RS} {Q : Int32 → RS → Prop} (a0 : Int32) (H : (¬ a0 = 0 ∧ Q (((((rF s 22 ((1103515245 * (s.1 22)) + 12345)).1 22).toUInt32 >>> (16.toUInt32 &&& Int32.toUInt32 31)).toInt32) - ((((rF s 22 ((1103515245 * (s.1 22)) + 12345)).1 22).toUInt32 >>> (16.toUInt32 &&& Int32.toUInt32 31)).toInt32) / a0 * a0) (rF s 22 ((1103515245 * (s.1 22)) + 12345)))) : RI c (d) m_R_draw [.ref 2, .int a0] s Q := by
  refine ⟨q_R_draw, rfl, Nat.le_of_ble_eq_true rfl, ?_⟩
  refine ev_ex 0 (c' := (0, [some (.ref 2), some (.int a0)], [], cH c s)) rfl ?_
  refine ev_ex 13 (c' := (24, [some (.ref 2), some (.int a0)], [.int a0, .int ((((rF s 22 ((1103515245 * (s.1 22)) + 12345)).1 22).toUInt32 >>> (16.toUInt32 &&& Int32.toUInt32 31)).toInt32)], cH c (rF s 22 ((1103515245 * (s.1 22)) + 12345)))) rfl ?_
  obtain ⟨H0, H⟩ := H
  refine ev_irem rfl H0 ?_
  exact ev_ret rfl rfl rfl ⟨_, _, rfl, rfl, H⟩
theorem w_R_ringOf {c : CX} {d : Nat} {s : RS} {Q : Int32 → RS → Prop} (a0 : Int32) (H : eR c (d + 1) m_R_ringOf 4 [some (.ref 2), some (.int a0), some (.int 0), some (.int a0)] s (pI c Q)) : RI c (d + 1) m_R_ringOf [.ref 2, .int a0] s Q := by
  refine ⟨q_R_ringOf, rfl, Nat.le_of_ble_eq_true rfl, ?_⟩
  refine ev_ex 0 (c' := (0, [some (.ref 2), some (.int a0), none, none], [], cH c s)) rfl ?_
  refine ev_ex 4 (c' := (4, [some (.ref 2), some (.int a0), some (.int 0), some (.int a0)], [], cH c s)) rfl ?_
  exact H
theorem w_R_ringOf_4 {c : CX} {d : Nat} {s : RS} {Q : Int32 → RS → Prop} (l1 : Int32) (l2 : Int32) (l3 : Int32) (H : ((l3 = ((-1)) → ((¬ l3 = l1 → Q 0 s) ∧ (l3 = l1 → Q l2 s))) ∧ (¬ l3 = ((-1)) → (((hs l2 l3) = true → ((¬ l3 = l1 → Q 0 s) ∧ (l3 = l1 → Q l2 s))) ∧ ((hs l2 l3) = false → (okx (6 + l3) 2101 ∧ eR c (d + 1) m_R_ringOf 4 [some (.ref 2), some (.int l1), some (.int (l2 ||| (1 <<< (l3 &&& 31)))), some (.int (s.2.1 1 (ix (6 + l3))))] s (pI c Q))))))) : eR c (d + 1) m_R_ringOf 4 [some (.ref 2), some (.int l1), some (.int l2), some (.int l3)] s (pI c Q) := by
  unfold eR
  refine ev_ex 0 (c' := (4, [some (.ref 2), some (.int l1), some (.int l2), some (.int l3)], [], cH c s)) rfl ?_
  refine ev_ex 2 (c' := (6, [some (.ref 2), some (.int l1), some (.int l2), some (.int l3)], [.int ((-1)), .int l3], cH c s)) rfl ?_
  refine ev_icmp_eq (tgt := 32) rfl rfl (fun h => ?_) (fun h => ?_)
  · replace H := H.1 (h)
    refine ev_ex 2 (c' := (34, [some (.ref 2), some (.int l1), some (.int l2), some (.int l3)], [.int l1, .int l3], cH c s)) rfl ?_
    refine ev_icmp_ne (tgt := 41) rfl rfl (fun h => ?_) (fun h => ?_)
    · replace H := H.1 (h)
      refine ev_ex 1 (c' := (42, [some (.ref 2), some (.int l1), some (.int l2), some (.int l3)], [.int 0], cH c s)) rfl ?_
      exact ev_ret rfl rfl rfl ⟨_, _, rfl, rfl, H⟩
    · replace H := H.2 (h)
      refine ev_ex 2 (c' := (42, [some (.ref 2), some (.int l1), some (.int l2), some (.int l3)], [.int l2], cH c s)) rfl ?_
      exact ev_ret rfl rfl rfl ⟨_, _, rfl, rfl, H⟩
  · replace H := H.2 (h)
    refine ev_ex 2 (c' := (11, [some (.ref 2), some (.int l1), some (.int l2), some (.int l3)], [.int l3, .int l2], cH c s)) rfl ?_
    refine rc_B (idx := 74) rfl rfl rfl (Nat.le_of_ble_eq_true rfl) (Nat.le_of_ble_eq_true rfl) rfl (K := fun x s' => x = hs l2 l3 ∧ s' = s) (z_R_has ⟨rfl, rfl⟩) ?_
    rintro _ _ ⟨rfl, rfl⟩
    refine ev_if_neB (x := (hs l2 l3)) (tgt := 32) rfl rfl (fun h => ?_) (fun h => ?_)
    · replace H := H.1 (h)
      refine ev_ex 2 (c' := (34, [some (.ref 2), some (.int l1), some (.int l2), some (.int l3)], [.int l1, .int l3], cH c s)) rfl ?_
      refine ev_icmp_ne (tgt := 41) rfl rfl (fun h => ?_) (fun h => ?_)
      · replace H := H.1 (h)
        refine ev_ex 1 (c' := (42, [some (.ref 2), some (.int l1), some (.int l2), some (.int l3)], [.int 0], cH c s)) rfl ?_
        exact ev_ret rfl rfl rfl ⟨_, _, rfl, rfl, H⟩
      · replace H := H.2 (h)
        refine ev_ex 2 (c' := (42, [some (.ref 2), some (.int l1), some (.int l2), some (.int l3)], [.int l2], cH c s)) rfl ?_
        exact ev_ret rfl rfl rfl ⟨_, _, rfl, rfl, H⟩
    · replace H := H.2 (h)
      refine ev_ex 8 (c' := (25, [some (.ref 2), some (.int l1), some (.int (l2 ||| (1 <<< (l3 &&& 31)))), some (.int l3)], [.int l3, .ref 2], cH c s)) rfl ?_
      obtain ⟨H1, H⟩ := H
      refine rc_I (idx := 270) rfl rfl rfl (Nat.le_of_ble_eq_true rfl) (Nat.le_of_ble_eq_true rfl) rfl (K := fun x s' => x = s.2.1 1 (ix (6 + l3)) ∧ s' = s) (z_R_mocked H1 ⟨rfl, rfl⟩) ?_
      rintro _ _ ⟨rfl, rfl⟩
      refine ev_ex 2 (c' := (4, [some (.ref 2), some (.int l1), some (.int (l2 ||| (1 <<< (l3 &&& 31)))), some (.int (s.2.1 1 (ix (6 + l3))))], [], cH c s)) rfl ?_
      exact H
theorem w_R_isShut {c : CX} {d : Nat} {s : RS} {Q : Bool → RS → Prop} (a0 : Int32) (H : eR c (d + 1) m_R_isShut 2 [some (.ref 2), some (.int a0), some (.int 0)] s (pB c Q)) : RB c (d + 1) m_R_isShut [.ref 2, .int a0] s Q := by
  refine ⟨q_R_isShut, rfl, Nat.le_of_ble_eq_true rfl, ?_⟩
  refine ev_ex 0 (c' := (0, [some (.ref 2), some (.int a0), none], [], cH c s)) rfl ?_
  refine ev_ex 2 (c' := (2, [some (.ref 2), some (.int a0), some (.int 0)], [], cH c s)) rfl ?_
  exact H
theorem w_R_isShut_2 {c : CX} {d : Nat} {s : RS} {Q : Bool → RS → Prop} (l1 : Int32) (l2 : Int32) (H : (((s.2.1 1 1) ≤ l2 → Q true s) ∧ (¬ (s.2.1 1 1) ≤ l2 → (((hs l1 l2) = false → eR c (d + 1) m_R_isShut 2 [some (.ref 2), some (.int l1), some (.int (l2 + 1))] s (pB c Q)) ∧ ((hs l1 l2) = true → RI c d m_R_mockers [.ref 2, .int l2] s (fun v2 s1 => RI c d m_R_size [.int v2] s1 (fun v4 s3 => ((v4 = 1 → eR c (d + 1) m_R_isShut 2 [some (.ref 2), some (.int l1), some (.int (l2 + 1))] s3 (pB c Q)) ∧ (¬ v4 = 1 → Q false s3))))))))) : eR c (d + 1) m_R_isShut 2 [some (.ref 2), some (.int l1), some (.int l2)] s (pB c Q) := by
  unfold eR
  refine ev_ex 0 (c' := (2, [some (.ref 2), some (.int l1), some (.int l2)], [], cH c s)) rfl ?_
  refine ev_ex 2 (c' := (4, [some (.ref 2), some (.int l1), some (.int l2)], [.ref 2, .int l2], cH c s)) rfl ?_
  refine rc_I (idx := 267) rfl rfl rfl (Nat.le_of_ble_eq_true rfl) (Nat.le_of_ble_eq_true rfl) rfl (K := fun x s' => x = s.2.1 1 1 ∧ s' = s) (z_R_guilds ⟨rfl, rfl⟩) ?_
  rintro _ _ ⟨rfl, rfl⟩
  refine ev_icmp_ge (tgt := 38) rfl rfl (fun h => ?_) (fun h => ?_)
  · replace H := H.1 (h)
    refine ev_ex 1 (c' := (39, [some (.ref 2), some (.int l1), some (.int l2)], [.int 1], cH c s)) rfl ?_
    exact ev_retB (x := true) rfl rfl ⟨_, _, rfl, rfl, H⟩
  · replace H := H.2 (h)
    refine ev_ex 2 (c' := (12, [some (.ref 2), some (.int l1), some (.int l2)], [.int l2, .int l1], cH c s)) rfl ?_
    refine rc_B (idx := 74) rfl rfl rfl (Nat.le_of_ble_eq_true rfl) (Nat.le_of_ble_eq_true rfl) rfl (K := fun x s' => x = hs l1 l2 ∧ s' = s) (z_R_has ⟨rfl, rfl⟩) ?_
    rintro _ _ ⟨rfl, rfl⟩
    refine ev_if_eqB (x := (hs l1 l2)) (tgt := 32) rfl rfl (fun h => ?_) (fun h => ?_)
    · replace H := H.1 (h)
      refine ev_ex 2 (c' := (2, [some (.ref 2), some (.int l1), some (.int (l2 + 1))], [], cH c s)) rfl ?_
      exact H
    · replace H := H.2 (h)
      refine ev_ex 2 (c' := (20, [some (.ref 2), some (.int l1), some (.int l2)], [.int l2, .ref 2], cH c s)) rfl ?_
      refine rc_I (idx := 290) rfl rfl rfl (Nat.le_of_ble_eq_true rfl) (Nat.le_of_ble_eq_true rfl) rfl H (fun v2 s1 H => ?_)
      refine rc_I (idx := 293) rfl rfl rfl (Nat.le_of_ble_eq_true rfl) (Nat.le_of_ble_eq_true rfl) rfl H (fun v4 s3 H => ?_)
      refine ev_ex 1 (c' := (27, [some (.ref 2), some (.int l1), some (.int l2)], [.int 1, .int v4], cH c s3)) rfl ?_
      refine ev_icmp_eq (tgt := 32) rfl rfl (fun h => ?_) (fun h => ?_)
      · replace H := H.1 (h)
        refine ev_ex 2 (c' := (2, [some (.ref 2), some (.int l1), some (.int (l2 + 1))], [], cH c s3)) rfl ?_
        exact H
      · replace H := H.2 (h)
        refine ev_ex 1 (c' := (31, [some (.ref 2), some (.int l1), some (.int l2)], [.int 0], cH c s3)) rfl ?_
        exact ev_retB (x := false) rfl rfl ⟨_, _, rfl, rfl, H⟩
theorem w_R_fewestOf {c : CX} {d : Nat} {s : RS} {Q : Int32 → RS → Prop} (a0 : Bool) (H : eR c (d + 1) m_R_fewestOf 4 [some (.ref 2), some (.int (bI a0)), some (.int ((-1))), some (.int 0)] s (pI c Q)) : RI c (d + 1) m_R_fewestOf [.ref 2, .int (bI a0)] s Q := by
  refine ⟨q_R_fewestOf, rfl, Nat.le_of_ble_eq_true rfl, ?_⟩
  refine ev_ex 0 (c' := (0, [some (.ref 2), some (.int (bI a0)), none, none], [], cH c s)) rfl ?_
  refine ev_ex 4 (c' := (4, [some (.ref 2), some (.int (bI a0)), some (.int ((-1))), some (.int 0)], [], cH c s)) rfl ?_
  exact H
theorem w_R_fewestOf_4 {c : CX} {d : Nat} {s : RS} {Q : Int32 → RS → Prop} (l1 : Bool) (l2 : Int32) (l3 : Int32) (H : (((1 <<< ((s.2.1 1 1) &&& 31)) ≤ l3 → Q l2 s) ∧ (¬ (1 <<< ((s.2.1 1 1) &&& 31)) ≤ l3 → ((l2 = ((-1)) → ((l1 = false → RB c d m_R_areOpen [.ref 2, .int l3] s (fun v2 s1 => ((v2 = false → eR c (d + 1) m_R_fewestOf 4 [some (.ref 2), some (.int (bI l1)), some (.int l2), some (.int (l3 + 1))] s1 (pI c Q)) ∧ (v2 = true → eR c (d + 1) m_R_fewestOf 4 [some (.ref 2), some (.int (bI l1)), some (.int l3), some (.int (l3 + 1))] s1 (pI c Q))))) ∧ (l1 = true → RB c d m_R_mayWalk [.ref 2, .int l3] s (fun v4 s3 => ((v4 = false → eR c (d + 1) m_R_fewestOf 4 [some (.ref 2), some (.int (bI l1)), some (.int l2), some (.int (l3 + 1))] s3 (pI c Q)) ∧ (v4 = true → eR c (d + 1) m_R_fewestOf 4 [some (.ref 2), some (.int (bI l1)), some (.int l3), some (.int (l3 + 1))] s3 (pI c Q))))))) ∧ (¬ l2 = ((-1)) → RI c d m_R_size [.int l3] s (fun v6 s5 => RI c d m_R_size [.int l2] s5 (fun v8 s7 => ((v8 ≤ v6 → eR c (d + 1) m_R_fewestOf 4 [some (.ref 2), some (.int (bI l1)), some (.int l2), some (.int (l3 + 1))] s7 (pI c Q)) ∧ (¬ v8 ≤ v6 → ((l1 = false → RB c d m_R_areOpen [.ref 2, .int l3] s7 (fun v10 s9 => ((v10 = false → eR c (d + 1) m_R_fewestOf 4 [some (.ref 2), some (.int (bI l1)), some (.int l2), some (.int (l3 + 1))] s9 (pI c Q)) ∧ (v10 = true → eR c (d + 1) m_R_fewestOf 4 [some (.ref 2), some (.int (bI l1)), some (.int l3), some (.int (l3 + 1))] s9 (pI c Q))))) ∧ (l1 = true → RB c d m_R_mayWalk [.ref 2, .int l3] s7 (fun v12 s11 => ((v12 = false → eR c (d + 1) m_R_fewestOf 4 [some (.ref 2), some (.int (bI l1)), some (.int l2), some (.int (l3 + 1))] s11 (pI c Q)) ∧ (v12 = true → eR c (d + 1) m_R_fewestOf 4 [some (.ref 2), some (.int (bI l1)), some (.int l3), some (.int (l3 + 1))] s11 (pI c Q))))))))))))))) : eR c (d + 1) m_R_fewestOf 4 [some (.ref 2), some (.int (bI l1)), some (.int l2), some (.int l3)] s (pI c Q) := by
  unfold eR
  refine ev_ex 0 (c' := (4, [some (.ref 2), some (.int (bI l1)), some (.int l2), some (.int l3)], [], cH c s)) rfl ?_
  refine ev_ex 3 (c' := (7, [some (.ref 2), some (.int (bI l1)), some (.int l2), some (.int l3)], [.ref 2, .int 1, .int l3], cH c s)) rfl ?_
  refine rc_I (idx := 267) rfl rfl rfl (Nat.le_of_ble_eq_true rfl) (Nat.le_of_ble_eq_true rfl) rfl (K := fun x s' => x = s.2.1 1 1 ∧ s' = s) (z_R_guilds ⟨rfl, rfl⟩) ?_
  rintro _ _ ⟨rfl, rfl⟩
  refine ev_ex 1 (c' := (11, [some (.ref 2), some (.int (bI l1)), some (.int l2), some (.int l3)], [.int (1 <<< ((s.2.1 1 1) &&& 31)), .int l3], cH c s)) rfl ?_
  refine ev_icmp_ge (tgt := 61) rfl rfl (fun h => ?_) (fun h => ?_)
  · replace H := H.1 (h)
    refine ev_ex 1 (c' := (62, [some (.ref 2), some (.int (bI l1)), some (.int l2), some (.int l3)], [.int l2], cH c s)) rfl ?_
    exact ev_ret rfl rfl rfl ⟨_, _, rfl, rfl, H⟩
  · replace H := H.2 (h)
    refine ev_ex 2 (c' := (16, [some (.ref 2), some (.int (bI l1)), some (.int l2), some (.int l3)], [.int ((-1)), .int l2], cH c s)) rfl ?_
    refine ev_icmp_eq (tgt := 30) rfl rfl (fun h => ?_) (fun h => ?_)
    · replace H := H.1 (h)
      refine ev_ex 1 (c' := (31, [some (.ref 2), some (.int (bI l1)), some (.int l2), some (.int l3)], [.int (bI l1)], cH c s)) rfl ?_
      refine ev_if_eqB (x := l1) (tgt := 45) rfl rfl (fun h => ?_) (fun h => ?_)
      · replace H := H.1 (h)
        refine ev_ex 2 (c' := (47, [some (.ref 2), some (.int (bI l1)), some (.int l2), some (.int l3)], [.int l3, .ref 2], cH c s)) rfl ?_
        refine rc_B (idx := 398) rfl rfl rfl (Nat.le_of_ble_eq_true rfl) (Nat.le_of_ble_eq_true rfl) rfl H (fun v2 s1 H => ?_)
        refine ev_if_eqB (x := v2) (tgt := 55) rfl rfl (fun h => ?_) (fun h => ?_)
        · replace H := H.1 (h)
          refine ev_ex 2 (c' := (4, [some (.ref 2), some (.int (bI l1)), some (.int l2), some (.int (l3 + 1))], [], cH c s1)) rfl ?_
          exact H
        · replace H := H.2 (h)
          refine ev_ex 4 (c' := (4, [some (.ref 2), some (.int (bI l1)), some (.int l3), some (.int (l3 + 1))], [], cH c s1)) rfl ?_
          exact H
      · replace H := H.2 (h)
        refine ev_ex 2 (c' := (36, [some (.ref 2), some (.int (bI l1)), some (.int l2), some (.int l3)], [.int l3, .ref 2], cH c s)) rfl ?_
        refine rc_B (idx := 401) rfl rfl rfl (Nat.le_of_ble_eq_true rfl) (Nat.le_of_ble_eq_true rfl) rfl H (fun v4 s3 H => ?_)
        refine ev_if_eqB (x := v4) (tgt := 55) rfl rfl (fun h => ?_) (fun h => ?_)
        · replace H := H.1 (h)
          refine ev_ex 2 (c' := (4, [some (.ref 2), some (.int (bI l1)), some (.int l2), some (.int (l3 + 1))], [], cH c s3)) rfl ?_
          exact H
        · replace H := H.2 (h)
          refine ev_ex 5 (c' := (4, [some (.ref 2), some (.int (bI l1)), some (.int l3), some (.int (l3 + 1))], [], cH c s3)) rfl ?_
          exact H
    · replace H := H.2 (h)
      refine ev_ex 1 (c' := (20, [some (.ref 2), some (.int (bI l1)), some (.int l2), some (.int l3)], [.int l3], cH c s)) rfl ?_
      refine rc_I (idx := 293) rfl rfl rfl (Nat.le_of_ble_eq_true rfl) (Nat.le_of_ble_eq_true rfl) rfl H (fun v6 s5 H => ?_)
      refine ev_ex 1 (c' := (24, [some (.ref 2), some (.int (bI l1)), some (.int l2), some (.int l3)], [.int l2, .int v6], cH c s5)) rfl ?_
      refine rc_I (idx := 293) rfl rfl rfl (Nat.le_of_ble_eq_true rfl) (Nat.le_of_ble_eq_true rfl) rfl H (fun v8 s7 H => ?_)
      refine ev_icmp_ge (tgt := 55) rfl rfl (fun h => ?_) (fun h => ?_)
      · replace H := H.1 (h)
        refine ev_ex 2 (c' := (4, [some (.ref 2), some (.int (bI l1)), some (.int l2), some (.int (l3 + 1))], [], cH c s7)) rfl ?_
        exact H
      · replace H := H.2 (h)
        refine ev_ex 1 (c' := (31, [some (.ref 2), some (.int (bI l1)), some (.int l2), some (.int l3)], [.int (bI l1)], cH c s7)) rfl ?_
        refine ev_if_eqB (x := l1) (tgt := 45) rfl rfl (fun h => ?_) (fun h => ?_)
        · replace H := H.1 (h)
          refine ev_ex 2 (c' := (47, [some (.ref 2), some (.int (bI l1)), some (.int l2), some (.int l3)], [.int l3, .ref 2], cH c s7)) rfl ?_
          refine rc_B (idx := 398) rfl rfl rfl (Nat.le_of_ble_eq_true rfl) (Nat.le_of_ble_eq_true rfl) rfl H (fun v10 s9 H => ?_)
          refine ev_if_eqB (x := v10) (tgt := 55) rfl rfl (fun h => ?_) (fun h => ?_)
          · replace H := H.1 (h)
            refine ev_ex 2 (c' := (4, [some (.ref 2), some (.int (bI l1)), some (.int l2), some (.int (l3 + 1))], [], cH c s9)) rfl ?_
            exact H
          · replace H := H.2 (h)
            refine ev_ex 4 (c' := (4, [some (.ref 2), some (.int (bI l1)), some (.int l3), some (.int (l3 + 1))], [], cH c s9)) rfl ?_
            exact H
        · replace H := H.2 (h)
          refine ev_ex 2 (c' := (36, [some (.ref 2), some (.int (bI l1)), some (.int l2), some (.int l3)], [.int l3, .ref 2], cH c s7)) rfl ?_
          refine rc_B (idx := 401) rfl rfl rfl (Nat.le_of_ble_eq_true rfl) (Nat.le_of_ble_eq_true rfl) rfl H (fun v12 s11 H => ?_)
          refine ev_if_eqB (x := v12) (tgt := 55) rfl rfl (fun h => ?_) (fun h => ?_)
          · replace H := H.1 (h)
            refine ev_ex 2 (c' := (4, [some (.ref 2), some (.int (bI l1)), some (.int l2), some (.int (l3 + 1))], [], cH c s11)) rfl ?_
            exact H
          · replace H := H.2 (h)
            refine ev_ex 5 (c' := (4, [some (.ref 2), some (.int (bI l1)), some (.int l3), some (.int (l3 + 1))], [], cH c s11)) rfl ?_
            exact H
theorem w_R_chainAt {c : CX} {d : Nat} {s : RS} {Q : Int32 → RS → Prop} (a0 : Int32) (H : eR c (d + 1) m_R_chainAt 2 [some (.ref 2), some (.int a0), some (.int a0), none] s (pI c Q)) : RI c (d + 1) m_R_chainAt [.ref 2, .int a0] s Q := by
  refine ⟨q_R_chainAt, rfl, Nat.le_of_ble_eq_true rfl, ?_⟩
  refine ev_ex 0 (c' := (0, [some (.ref 2), some (.int a0), none, none], [], cH c s)) rfl ?_
  refine ev_ex 2 (c' := (2, [some (.ref 2), some (.int a0), some (.int a0), none], [], cH c s)) rfl ?_
  exact H
theorem w_R_chainAt_2 {c : CX} {d : Nat} {s : RS} {Q : Int32 → RS → Prop} (l1 : Int32) (l2 : Int32) (H : RB c d m_R_goesOn [.ref 2, .int l2] s (fun v2 s1 => ((v2 = false → eR c (d + 1) m_R_chainAt 18 [some (.ref 2), some (.int l1), some (.int l2), some (.int 1)] s1 (pI c Q)) ∧ (v2 = true → eR c (d + 1) m_R_chainAt 2 [some (.ref 2), some (.int l1), some (.int (l2 + (-1))), none] s1 (pI c Q))))) : eR c (d + 1) m_R_chainAt 2 [some (.ref 2), some (.int l1), some (.int l2), none] s (pI c Q) := by
  unfold eR
  refine ev_ex 0 (c' := (2, [some (.ref 2), some (.int l1), some (.int l2), none], [], cH c s)) rfl ?_
  refine ev_ex 2 (c' := (4, [some (.ref 2), some (.int l1), some (.int l2), none], [.int l2, .ref 2], cH c s)) rfl ?_
  refine rc_B (idx := 408) rfl rfl rfl (Nat.le_of_ble_eq_true rfl) (Nat.le_of_ble_eq_true rfl) rfl H (fun v2 s1 H => ?_)
  refine ev_if_eqB (x := v2) (tgt := 16) rfl rfl (fun h => ?_) (fun h => ?_)
  · replace H := H.1 (h)
    refine ev_ex 2 (c' := (18, [some (.ref 2), some (.int l1), some (.int l2), some (.int 1)], [], cH c s1)) rfl ?_
    exact H
  · replace H := H.2 (h)
    refine ev_ex 2 (c' := (2, [some (.ref 2), some (.int l1), some (.int (l2 + (-1))), none], [], cH c s1)) rfl ?_
    exact H
theorem w_R_chainAt_18 {c : CX} {d : Nat} {s : RS} {Q : Int32 → RS → Prop} (l1 : Int32) (l2 : Int32) (l3 : Int32) (H : RB c d m_R_goesOn [.ref 2, .int (l2 + l3)] s (fun v2 s1 => ((v2 = false → Q l3 s1) ∧ (v2 = true → eR c (d + 1) m_R_chainAt 18 [some (.ref 2), some (.int l1), some (.int l2), some (.int (l3 + 1))] s1 (pI c Q))))) : eR c (d + 1) m_R_chainAt 18 [some (.ref 2), some (.int l1), some (.int l2), some (.int l3)] s (pI c Q) := by
  unfold eR
  refine ev_ex 0 (c' := (18, [some (.ref 2), some (.int l1), some (.int l2), some (.int l3)], [], cH c s)) rfl ?_
  refine ev_ex 4 (c' := (22, [some (.ref 2), some (.int l1), some (.int l2), some (.int l3)], [.int (l2 + l3), .ref 2], cH c s)) rfl ?_
  refine rc_B (idx := 408) rfl rfl rfl (Nat.le_of_ble_eq_true rfl) (Nat.le_of_ble_eq_true rfl) rfl H (fun v2 s1 H => ?_)
  refine ev_if_eqB (x := v2) (tgt := 34) rfl rfl (fun h => ?_) (fun h => ?_)
  · replace H := H.1 (h)
    refine ev_ex 1 (c' := (35, [some (.ref 2), some (.int l1), some (.int l2), some (.int l3)], [.int l3], cH c s1)) rfl ?_
    exact ev_ret rfl rfl rfl ⟨_, _, rfl, rfl, H⟩
  · replace H := H.2 (h)
    refine ev_ex 2 (c' := (18, [some (.ref 2), some (.int l1), some (.int l2), some (.int (l3 + 1))], [], cH c s1)) rfl ?_
    exact H
theorem w_R_stepAt {c : CX} {d : Nat} {s : RS} {Q : Int32 → RS → Prop} (a0 : Int32) (a1 : Int32) (H : (okx a0 10 ∧ (okx (s.2.1 11 (ix a0)) 21 ∧ RI c d m_R_steps [.ref 2] s (fun v2 s1 => (((wth ((a1 - (s.2.1 10 (ix (s.2.1 11 (ix a0))))).toInt64) 0 ((v2 - 1).toInt64)) = false → Q ((-1)) s1) ∧ ((wth ((a1 - (s.2.1 10 (ix (s.2.1 11 (ix a0))))).toInt64) 0 ((v2 - 1).toInt64)) = true → Q (a1 - (s.2.1 10 (ix (s.2.1 11 (ix a0))))) s1)))))) : RI c (d + 1) m_R_stepAt [.ref 2, .int a0, .int a1] s Q := by
  refine ⟨q_R_stepAt, rfl, Nat.le_of_ble_eq_true rfl, ?_⟩
  refine ev_ex 0 (c' := (0, [some (.ref 2), some (.int a0), some (.int a1), none], [], cH c s)) rfl ?_
  refine ev_ex 6 (c' := (10, [some (.ref 2), some (.int a0), some (.int a1), none], [.int a0, .ref 46, .ref 42, .int a1], cH c s)) rfl ?_
  obtain ⟨H0, H⟩ := H
  refine ev_ald (i := .iaload) rfl (Or.inl rfl) rfl H0 (v := .int (s.2.1 11 (ix a0))) rfl ?_
  obtain ⟨H0, H⟩ := H
  refine ev_ald (i := .iaload) rfl (Or.inl rfl) rfl H0 (v := .int (s.2.1 10 (ix (s.2.1 11 (ix a0))))) rfl ?_
  refine ev_ex 6 (c' := (18, [some (.ref 2), some (.int a0), some (.int a1), some (.int (a1 - (s.2.1 10 (ix (s.2.1 11 (ix a0))))))], [.ref 2, .long 0, .long ((a1 - (s.2.1 10 (ix (s.2.1 11 (ix a0))))).toInt64)], cH c s)) rfl ?_
  refine rc_I (idx := 418) rfl rfl rfl (Nat.le_of_ble_eq_true rfl) (Nat.le_of_ble_eq_true rfl) rfl H (fun v2 s1 H => ?_)
  refine ev_ex 3 (c' := (24, [some (.ref 2), some (.int a0), some (.int a1), some (.int (a1 - (s.2.1 10 (ix (s.2.1 11 (ix a0))))))], [.long ((v2 - 1).toInt64), .long 0, .long ((a1 - (s.2.1 10 (ix (s.2.1 11 (ix a0))))).toInt64)], cH c s1)) rfl ?_
  refine rc_B (idx := 136) rfl rfl rfl (Nat.le_of_ble_eq_true rfl) (Nat.le_of_ble_eq_true rfl) rfl (K := fun x s' => x = wth ((a1 - (s.2.1 10 (ix (s.2.1 11 (ix a0))))).toInt64) 0 ((v2 - 1).toInt64) ∧ s' = s1) (z_R_within ⟨rfl, rfl⟩) ?_
  rintro _ _ ⟨rfl, rfl⟩
  refine ev_if_eqB (x := (wth ((a1 - (s.2.1 10 (ix (s.2.1 11 (ix a0))))).toInt64) 0 ((v2 - 1).toInt64))) (tgt := 34) rfl rfl (fun h => ?_) (fun h => ?_)
  · replace H := H.1 (h)
    refine ev_ex 1 (c' := (35, [some (.ref 2), some (.int a0), some (.int a1), some (.int (a1 - (s.2.1 10 (ix (s.2.1 11 (ix a0))))))], [.int ((-1))], cH c s1)) rfl ?_
    exact ev_ret rfl rfl rfl ⟨_, _, rfl, rfl, H⟩
  · replace H := H.2 (h)
    refine ev_ex 2 (c' := (35, [some (.ref 2), some (.int a0), some (.int a1), some (.int (a1 - (s.2.1 10 (ix (s.2.1 11 (ix a0))))))], [.int (a1 - (s.2.1 10 (ix (s.2.1 11 (ix a0)))))], cH c s1)) rfl ?_
    exact ev_ret rfl rfl rfl ⟨_, _, rfl, rfl, H⟩
theorem w_R_lastMinute {c : CX} {d : Nat} {s : RS} {Q : Int32 → RS → Prop}  (H : (okx (s.1 26) 21 ∧ RI c d m_R_steps [.ref 2] s (fun v2 s1 => Q ((s.2.1 10 (ix (s.1 26))) + v2) s1))) : RI c (d + 1) m_R_lastMinute [.ref 2] s Q := by
  refine ⟨q_R_lastMinute, rfl, Nat.le_of_ble_eq_true rfl, ?_⟩
  refine ev_ex 0 (c' := (0, [some (.ref 2)], [], cH c s)) rfl ?_
  refine ev_ex 4 (c' := (8, [some (.ref 2)], [.int (s.1 26), .ref 42], cH c s)) rfl ?_
  obtain ⟨H0, H⟩ := H
  refine ev_ald (i := .iaload) rfl (Or.inl rfl) rfl H0 (v := .int (s.2.1 10 (ix (s.1 26)))) rfl ?_
  refine ev_ex 1 (c' := (10, [some (.ref 2)], [.ref 2, .int (s.2.1 10 (ix (s.1 26)))], cH c s)) rfl ?_
  refine rc_I (idx := 418) rfl rfl rfl (Nat.le_of_ble_eq_true rfl) (Nat.le_of_ble_eq_true rfl) rfl H (fun v2 s1 H => ?_)
  refine ev_ex 1 (c' := (14, [some (.ref 2)], [.int ((s.2.1 10 (ix (s.1 26))) + v2)], cH c s1)) rfl ?_
  exact ev_ret rfl rfl rfl ⟨_, _, rfl, rfl, H⟩
theorem w_R_areMeeting {c : CX} {d : Nat} {s : RS} {Q : Bool → RS → Prop} (a0 : Int32) (a1 : Int32) (a2 : Int32) (H : RI c d m_R_stepAt [.ref 2, .int a0, .int a2] s (fun v2 s1 => RI c d m_R_stepAt [.ref 2, .int a1, .int a2] s1 (fun v4 s3 => ((v2 = ((-1)) → Q false s3) ∧ (¬ v2 = ((-1)) → ((v4 = ((-1)) → Q false s3) ∧ (¬ v4 = ((-1)) → ((3 ≤ (abI (v2 - v4)) → RI c d m_R_whereOf [.ref 2, .int v2, .int 0] s3 (fun v6 s5 => RI c d m_R_whereOf [.ref 2, .int v4, .int 0] s5 (fun v8 s7 => RI c d m_R_whereOf [.ref 2, .int v2, .int 1] s7 (fun v10 s9 => RI c d m_R_whereOf [.ref 2, .int v4, .int 1] s9 (fun v12 s11 => ((2 ≤ ((abI (v6 - v8)) + (abI (v10 - v12))) → Q false s11) ∧ (¬ 2 ≤ ((abI (v6 - v8)) + (abI (v10 - v12))) → Q true s11))))))) ∧ (¬ 3 ≤ (abI (v2 - v4)) → Q false s3))))))))) : RB c (d + 1) m_R_areMeeting [.ref 2, .int a0, .int a1, .int a2] s Q := by
  refine ⟨q_R_areMeeting, rfl, Nat.le_of_ble_eq_true rfl, ?_⟩
  refine ev_ex 0 (c' := (0, [some (.ref 2), some (.int a0), some (.int a1), some (.int a2), none, none], [], cH c s)) rfl ?_
  refine ev_ex 3 (c' := (3, [some (.ref 2), some (.int a0), some (.int a1), some (.int a2), none, none], [.int a2, .int a0, .ref 2], cH c s)) rfl ?_
  refine rc_I (idx := 424) rfl rfl rfl (Nat.le_of_ble_eq_true rfl) (Nat.le_of_ble_eq_true rfl) rfl H (fun v2 s1 H => ?_)
  refine ev_ex 4 (c' := (11, [some (.ref 2), some (.int a0), some (.int a1), some (.int a2), some (.int v2), none], [.int a2, .int a1, .ref 2], cH c s1)) rfl ?_
  refine rc_I (idx := 424) rfl rfl rfl (Nat.le_of_ble_eq_true rfl) (Nat.le_of_ble_eq_true rfl) rfl H (fun v4 s3 H => ?_)
  refine ev_ex 3 (c' := (19, [some (.ref 2), some (.int a0), some (.int a1), some (.int a2), some (.int v2), some (.int v4)], [.int ((-1)), .int v2], cH c s3)) rfl ?_
  refine ev_icmp_eq (tgt := 40) rfl rfl (fun h => ?_) (fun h => ?_)
  · replace H := H.1 (h)
    refine ev_ex 1 (c' := (41, [some (.ref 2), some (.int a0), some (.int a1), some (.int a2), some (.int v2), some (.int v4)], [.int 0], cH c s3)) rfl ?_
    exact ev_retB (x := false) rfl rfl ⟨_, _, rfl, rfl, H⟩
  · replace H := H.2 (h)
    refine ev_ex 2 (c' := (25, [some (.ref 2), some (.int a0), some (.int a1), some (.int a2), some (.int v2), some (.int v4)], [.int ((-1)), .int v4], cH c s3)) rfl ?_
    refine ev_icmp_eq (tgt := 40) rfl rfl (fun h => ?_) (fun h => ?_)
    · replace H := H.1 (h)
      refine ev_ex 1 (c' := (41, [some (.ref 2), some (.int a0), some (.int a1), some (.int a2), some (.int v2), some (.int v4)], [.int 0], cH c s3)) rfl ?_
      exact ev_retB (x := false) rfl rfl ⟨_, _, rfl, rfl, H⟩
    · replace H := H.2 (h)
      refine ev_ex 3 (c' := (33, [some (.ref 2), some (.int a0), some (.int a1), some (.int a2), some (.int v2), some (.int v4)], [.int (v2 - v4)], cH c s3)) rfl ?_
      refine rc_I (idx := 427) rfl rfl rfl (Nat.le_of_ble_eq_true rfl) (Nat.le_of_ble_eq_true rfl) rfl (K := fun x s' => x = abI (v2 - v4) ∧ s' = s3) (z_JM_abs ⟨rfl, rfl⟩) ?_
      rintro _ _ ⟨rfl, rfl⟩
      refine ev_ex 1 (c' := (37, [some (.ref 2), some (.int a0), some (.int a1), some (.int a2), some (.int v2), some (.int v4)], [.int 3, .int (abI (v2 - v4))], cH c s3)) rfl ?_
      refine ev_icmp_ge (tgt := 42) rfl rfl (fun h => ?_) (fun h => ?_)
      · replace H := H.1 (h)
        refine ev_ex 3 (c' := (46, [some (.ref 2), some (.int a0), some (.int a1), some (.int a2), some (.int v2), some (.int v4)], [.int 0, .int v2, .ref 2], cH c s3)) rfl ?_
        refine rc_I (idx := 421) rfl rfl rfl (Nat.le_of_ble_eq_true rfl) (Nat.le_of_ble_eq_true rfl) rfl H (fun v6 s5 H => ?_)
        refine ev_ex 3 (c' := (53, [some (.ref 2), some (.int a0), some (.int a1), some (.int a2), some (.int v2), some (.int v4)], [.int 0, .int v4, .ref 2, .int v6], cH c s5)) rfl ?_
        refine rc_I (idx := 421) rfl rfl rfl (Nat.le_of_ble_eq_true rfl) (Nat.le_of_ble_eq_true rfl) rfl H (fun v8 s7 H => ?_)
        refine ev_ex 1 (c' := (57, [some (.ref 2), some (.int a0), some (.int a1), some (.int a2), some (.int v2), some (.int v4)], [.int (v6 - v8)], cH c s7)) rfl ?_
        refine rc_I (idx := 427) rfl rfl rfl (Nat.le_of_ble_eq_true rfl) (Nat.le_of_ble_eq_true rfl) rfl (K := fun x s' => x = abI (v6 - v8) ∧ s' = s7) (z_JM_abs ⟨rfl, rfl⟩) ?_
        rintro _ _ ⟨rfl, rfl⟩
        refine ev_ex 3 (c' := (64, [some (.ref 2), some (.int a0), some (.int a1), some (.int a2), some (.int v2), some (.int v4)], [.int 1, .int v2, .ref 2, .int (abI (v6 - v8))], cH c s7)) rfl ?_
        refine rc_I (idx := 421) rfl rfl rfl (Nat.le_of_ble_eq_true rfl) (Nat.le_of_ble_eq_true rfl) rfl H (fun v10 s9 H => ?_)
        refine ev_ex 3 (c' := (71, [some (.ref 2), some (.int a0), some (.int a1), some (.int a2), some (.int v2), some (.int v4)], [.int 1, .int v4, .ref 2, .int v10, .int (abI (v6 - v8))], cH c s9)) rfl ?_
        refine rc_I (idx := 421) rfl rfl rfl (Nat.le_of_ble_eq_true rfl) (Nat.le_of_ble_eq_true rfl) rfl H (fun v12 s11 H => ?_)
        refine ev_ex 1 (c' := (75, [some (.ref 2), some (.int a0), some (.int a1), some (.int a2), some (.int v2), some (.int v4)], [.int (v10 - v12), .int (abI (v6 - v8))], cH c s11)) rfl ?_
        refine rc_I (idx := 427) rfl rfl rfl (Nat.le_of_ble_eq_true rfl) (Nat.le_of_ble_eq_true rfl) rfl (K := fun x s' => x = abI (v10 - v12) ∧ s' = s11) (z_JM_abs ⟨rfl, rfl⟩) ?_
        rintro _ _ ⟨rfl, rfl⟩
        refine ev_ex 2 (c' := (80, [some (.ref 2), some (.int a0), some (.int a1), some (.int a2), some (.int v2), some (.int v4)], [.int 2, .int ((abI (v6 - v8)) + (abI (v10 - v12)))], cH c s11)) rfl ?_
        refine ev_icmp_ge (tgt := 87) rfl rfl (fun h => ?_) (fun h => ?_)
        · replace H := H.1 (h)
          refine ev_ex 1 (c' := (88, [some (.ref 2), some (.int a0), some (.int a1), some (.int a2), some (.int v2), some (.int v4)], [.int 0], cH c s11)) rfl ?_
          exact ev_retB (x := false) rfl rfl ⟨_, _, rfl, rfl, H⟩
        · replace H := H.2 (h)
          refine ev_ex 2 (c' := (88, [some (.ref 2), some (.int a0), some (.int a1), some (.int a2), some (.int v2), some (.int v4)], [.int 1], cH c s11)) rfl ?_
          exact ev_retB (x := true) rfl rfl ⟨_, _, rfl, rfl, H⟩
      · replace H := H.2 (h)
        refine ev_ex 1 (c' := (41, [some (.ref 2), some (.int a0), some (.int a1), some (.int a2), some (.int v2), some (.int v4)], [.int 0], cH c s3)) rfl ?_
        exact ev_retB (x := false) rfl rfl ⟨_, _, rfl, rfl, H⟩
theorem w_R_anyMeet {c : CX} {d : Nat} {s : RS} {Q : Bool → RS → Prop} (a0 : Int32) (H : eR c (d + 1) m_R_anyMeet 2 [some (.ref 2), some (.int a0), some (.int 0), none] s (pB c Q)) : RB c (d + 1) m_R_anyMeet [.ref 2, .int a0] s Q := by
  refine ⟨q_R_anyMeet, rfl, Nat.le_of_ble_eq_true rfl, ?_⟩
  refine ev_ex 0 (c' := (0, [some (.ref 2), some (.int a0), none, none], [], cH c s)) rfl ?_
  refine ev_ex 2 (c' := (2, [some (.ref 2), some (.int a0), some (.int 0), none], [], cH c s)) rfl ?_
  exact H
theorem w_R_anyMeet_2 {c : CX} {d : Nat} {s : RS} {Q : Bool → RS → Prop} (l1 : Int32) (l2 : Int32) (H : (((s.2.1 1 1) ≤ l2 → Q false s) ∧ (¬ (s.2.1 1 1) ≤ l2 → eR c (d + 1) m_R_anyMeet 12 [some (.ref 2), some (.int l1), some (.int l2), some (.int 0)] s (pB c Q)))) : eR c (d + 1) m_R_anyMeet 2 [some (.ref 2), some (.int l1), some (.int l2), none] s (pB c Q) := by
  unfold eR
  refine ev_ex 0 (c' := (2, [some (.ref 2), some (.int l1), some (.int l2), none], [], cH c s)) rfl ?_
  refine ev_ex 2 (c' := (4, [some (.ref 2), some (.int l1), some (.int l2), none], [.ref 2, .int l2], cH c s)) rfl ?_
  refine rc_I (idx := 267) rfl rfl rfl (Nat.le_of_ble_eq_true rfl) (Nat.le_of_ble_eq_true rfl) rfl (K := fun x s' => x = s.2.1 1 1 ∧ s' = s) (z_R_guilds ⟨rfl, rfl⟩) ?_
  rintro _ _ ⟨rfl, rfl⟩
  refine ev_icmp_ge (tgt := 41) rfl rfl (fun h => ?_) (fun h => ?_)
  · replace H := H.1 (h)
    refine ev_ex 1 (c' := (42, [some (.ref 2), some (.int l1), some (.int l2), none], [.int 0], cH c s)) rfl ?_
    exact ev_retB (x := false) rfl rfl ⟨_, _, rfl, rfl, H⟩
  · replace H := H.2 (h)
    refine ev_ex 2 (c' := (12, [some (.ref 2), some (.int l1), some (.int l2), some (.int 0)], [], cH c s)) rfl ?_
    exact H
theorem w_R_anyMeet_12 {c : CX} {d : Nat} {s : RS} {Q : Bool → RS → Prop} (l1 : Int32) (l2 : Int32) (l3 : Int32) (H : ((l2 ≤ l3 → eR c (d + 1) m_R_anyMeet 2 [some (.ref 2), some (.int l1), some (.int (l2 + 1)), none] s (pB c Q)) ∧ (¬ l2 ≤ l3 → RB c d m_R_areMeeting [.ref 2, .int l2, .int l3, .int l1] s (fun v2 s1 => ((v2 = false → eR c (d + 1) m_R_anyMeet 12 [some (.ref 2), some (.int l1), some (.int l2), some (.int (l3 + 1))] s1 (pB c Q)) ∧ (v2 = true → Q true s1)))))) : eR c (d + 1) m_R_anyMeet 12 [some (.ref 2), some (.int l1), some (.int l2), some (.int l3)] s (pB c Q) := by
  unfold eR
  refine ev_ex 0 (c' := (12, [some (.ref 2), some (.int l1), some (.int l2), some (.int l3)], [], cH c s)) rfl ?_
  refine ev_ex 2 (c' := (14, [some (.ref 2), some (.int l1), some (.int l2), some (.int l3)], [.int l2, .int l3], cH c s)) rfl ?_
  refine ev_icmp_ge (tgt := 35) rfl rfl (fun h => ?_) (fun h => ?_)
  · replace H := H.1 (h)
    refine ev_ex 2 (c' := (2, [some (.ref 2), some (.int l1), some (.int (l2 + 1)), some (.int l3)], [], cH c s)) rfl ?_
    exact ev_less (lle_of (L := [some (.ref 2), some (.int l1), some (.int (l2 + 1)), none]) ⟨rfl, ⟨rfl, ⟨rfl, trivial⟩⟩⟩) H
  · replace H := H.2 (h)
    refine ev_ex 4 (c' := (21, [some (.ref 2), some (.int l1), some (.int l2), some (.int l3)], [.int l1, .int l3, .int l2, .ref 2], cH c s)) rfl ?_
    refine rc_B (idx := 433) rfl rfl rfl (Nat.le_of_ble_eq_true rfl) (Nat.le_of_ble_eq_true rfl) rfl H (fun v2 s1 H => ?_)
    refine ev_if_eqB (x := v2) (tgt := 29) rfl rfl (fun h => ?_) (fun h => ?_)
    · replace H := H.1 (h)
      refine ev_ex 2 (c' := (12, [some (.ref 2), some (.int l1), some (.int l2), some (.int (l3 + 1))], [], cH c s1)) rfl ?_
      exact H
    · replace H := H.2 (h)
      refine ev_ex 1 (c' := (28, [some (.ref 2), some (.int l1), some (.int l2), some (.int l3)], [.int 1], cH c s1)) rfl ?_
      exact ev_retB (x := true) rfl rfl ⟨_, _, rfl, rfl, H⟩
theorem w_R_noiseOf {c : CX} {d : Nat} {s : RS} {Q : Int32 → RS → Prop} (a0 : Int32) (a1 : Int32) (H : (okx (37 + a0) 2101 ∧ (okx (47 + a1) 2101 ∧ Q ((s.2.1 1 (ix (37 + a0))) * (s.2.1 1 (ix (47 + a1)))) s))) : RI c (d) m_R_noiseOf [.ref 2, .int a0, .int a1] s Q := by
  refine ⟨q_R_noiseOf, rfl, Nat.le_of_ble_eq_true rfl, ?_⟩
  refine ev_ex 0 (c' := (0, [some (.ref 2), some (.int a0), some (.int a1)], [], cH c s)) rfl ?_
  refine ev_ex 5 (c' := (8, [some (.ref 2), some (.int a0), some (.int a1)], [.int (37 + a0), .ref 6], cH c s)) rfl ?_
  obtain ⟨H0, H⟩ := H
  refine ev_ald (i := .iaload) rfl (Or.inl rfl) rfl H0 (v := .int (s.2.1 1 (ix (37 + a0)))) rfl ?_
  refine ev_ex 5 (c' := (17, [some (.ref 2), some (.int a0), some (.int a1)], [.int (47 + a1), .ref 6, .int (s.2.1 1 (ix (37 + a0)))], cH c s)) rfl ?_
  obtain ⟨H0, H⟩ := H
  refine ev_ald (i := .iaload) rfl (Or.inl rfl) rfl H0 (v := .int (s.2.1 1 (ix (47 + a1)))) rfl ?_
  refine ev_ex 1 (c' := (19, [some (.ref 2), some (.int a0), some (.int a1)], [.int ((s.2.1 1 (ix (37 + a0))) * (s.2.1 1 (ix (47 + a1))))], cH c s)) rfl ?_
  exact ev_ret rfl rfl rfl ⟨_, _, rfl, rfl, H⟩
theorem w_R_goesOrders {c : CX} {d : Nat} {s : RS} {Q : RS → Prop} (a0 : Int32) (a1 : Int32) (a2 : Int32) (H : (((s.1 32) = 0 → ((¬ a1 = 0 → eR c (d + 1) m_R_goesOrders 63 [some (.ref 2), some (.int a0), some (.int a1), some (.int a2), some (.int 0)] s (pV c Q)) ∧ (a1 = 0 → eR c (d + 1) m_R_goesOrders 33 [some (.ref 2), some (.int a0), some (.int a1), some (.int a2), some (.int 0)] (rF (rF s 32 1) 31 a2) (pV c Q)))) ∧ (¬ (s.1 32) = 0 → ((a2 < (s.1 31) → ((¬ a1 = 0 → eR c (d + 1) m_R_goesOrders 63 [some (.ref 2), some (.int a0), some (.int a1), some (.int a2), some (.int 0)] s (pV c Q)) ∧ (a1 = 0 → eR c (d + 1) m_R_goesOrders 33 [some (.ref 2), some (.int a0), some (.int a1), some (.int a2), some (.int 0)] (rF (rF s 32 1) 31 a2) (pV c Q)))) ∧ (¬ a2 < (s.1 31) → Q s))))) : RV c (d + 1) m_R_goesOrders [.ref 2, .int a0, .int a1, .int a2] s Q := by
  refine ⟨q_R_goesOrders, rfl, Nat.le_of_ble_eq_true rfl, ?_⟩
  refine ev_ex 0 (c' := (0, [some (.ref 2), some (.int a0), some (.int a1), some (.int a2), none], [], cH c s)) rfl ?_
  refine ev_ex 2 (c' := (4, [some (.ref 2), some (.int a0), some (.int a1), some (.int a2), none], [.int (s.1 32)], cH c s)) rfl ?_
  refine ev_if_eq (tgt := 16) rfl rfl (fun h => ?_) (fun h => ?_)
  · replace H := H.1 (h)
    refine ev_ex 1 (c' := (17, [some (.ref 2), some (.int a0), some (.int a1), some (.int a2), none], [.int a1], cH c s)) rfl ?_
    refine ev_if_ne (tgt := 60) rfl rfl (fun h => ?_) (fun h => ?_)
    · replace H := H.1 (h)
      refine ev_ex 2 (c' := (63, [some (.ref 2), some (.int a0), some (.int a1), some (.int a2), some (.int 0)], [], cH c s)) rfl ?_
      exact H
    · replace H := H.2 (h)
      refine ev_ex 8 (c' := (33, [some (.ref 2), some (.int a0), some (.int a1), some (.int a2), some (.int 0)], [], cH c (rF (rF s 32 1) 31 a2))) rfl ?_
      exact H
  · replace H := H.2 (h)
    refine ev_ex 3 (c' := (12, [some (.ref 2), some (.int a0), some (.int a1), some (.int a2), none], [.int (s.1 31), .int a2], cH c s)) rfl ?_
    refine ev_icmp_lt (tgt := 16) rfl rfl (fun h => ?_) (fun h => ?_)
    · replace H := H.1 (h)
      refine ev_ex 1 (c' := (17, [some (.ref 2), some (.int a0), some (.int a1), some (.int a2), none], [.int a1], cH c s)) rfl ?_
      refine ev_if_ne (tgt := 60) rfl rfl (fun h => ?_) (fun h => ?_)
      · replace H := H.1 (h)
        refine ev_ex 2 (c' := (63, [some (.ref 2), some (.int a0), some (.int a1), some (.int a2), some (.int 0)], [], cH c s)) rfl ?_
        exact H
      · replace H := H.2 (h)
        refine ev_ex 8 (c' := (33, [some (.ref 2), some (.int a0), some (.int a1), some (.int a2), some (.int 0)], [], cH c (rF (rF s 32 1) 31 a2))) rfl ?_
        exact H
    · replace H := H.2 (h)
      exact ev_ret rfl rfl rfl ⟨_, rfl, rfl, H⟩
theorem w_R_goesOrders_63 {c : CX} {d : Nat} {s : RS} {Q : RS → Prop} (l1 : Int32) (l2 : Int32) (l3 : Int32) (l4 : Int32) (H : (((s.2.1 1 1) ≤ l4 → Q s) ∧ (¬ (s.2.1 1 1) ≤ l4 → (((hs l2 l4) = true → (okx l1 8 ∧ ((¬ l1 = 0 → (okx (l1 - 1) 8 ∧ RI c d m_R_noiseOf [.ref 2, .int ((rA s 12 (ix l1) l4).2.1 12 (ix (l1 - 1))), .int l4] (rA s 12 (ix l1) l4) (fun v2 s1 => RV c d m_R_goesOrders [.ref 2, .int (l1 + 1), .int (l2 &&& ((1 <<< (l4 &&& 31)) ^^^ ((-1)))), .int (l3 + v2)] s1 (fun s3 => eR c (d + 1) m_R_goesOrders 63 [some (.ref 2), some (.int l1), some (.int l2), some (.int l3), some (.int (l4 + 1))] s3 (pV c Q))))) ∧ (l1 = 0 → RV c d m_R_goesOrders [.ref 2, .int (l1 + 1), .int (l2 &&& ((1 <<< (l4 &&& 31)) ^^^ ((-1)))), .int (l3 + 0)] (rA s 12 (ix l1) l4) (fun s4 => eR c (d + 1) m_R_goesOrders 63 [some (.ref 2), some (.int l1), some (.int l2), some (.int l3), some (.int (l4 + 1))] s4 (pV c Q)))))) ∧ ((hs l2 l4) = false → eR c (d + 1) m_R_goesOrders 63 [some (.ref 2), some (.int l1), some (.int l2), some (.int l3), some (.int (l4 + 1))] s (pV c Q)))))) : eR c (d + 1) m_R_goesOrders 63 [some (.ref 2), some (.int l1), some (.int l2), some (.int l3), some (.int l4)] s (pV c Q) := by
  unfold eR
  refine ev_ex 0 (c' := (63, [some (.ref 2), some (.int l1), some (.int l2), some (.int l3), some (.int l4)], [], cH c s)) rfl ?_
  refine ev_ex 2 (c' := (66, [some (.ref 2), some (.int l1), some (.int l2), some (.int l3), some (.int l4)], [.ref 2, .int l4], cH c s)) rfl ?_
  refine rc_I (idx := 267) rfl rfl rfl (Nat.le_of_ble_eq_true rfl) (Nat.le_of_ble_eq_true rfl) rfl (K := fun x s' => x = s.2.1 1 1 ∧ s' = s) (z_R_guilds ⟨rfl, rfl⟩) ?_
  rintro _ _ ⟨rfl, rfl⟩
  refine ev_icmp_ge (tgt := 137) rfl rfl (fun h => ?_) (fun h => ?_)
  · replace H := H.1 (h)
    exact ev_ret rfl rfl rfl ⟨_, rfl, rfl, H⟩
  · replace H := H.2 (h)
    refine ev_ex 2 (c' := (75, [some (.ref 2), some (.int l1), some (.int l2), some (.int l3), some (.int l4)], [.int l4, .int l2], cH c s)) rfl ?_
    refine rc_B (idx := 74) rfl rfl rfl (Nat.le_of_ble_eq_true rfl) (Nat.le_of_ble_eq_true rfl) rfl (K := fun x s' => x = hs l2 l4 ∧ s' = s) (z_R_has ⟨rfl, rfl⟩) ?_
    rintro _ _ ⟨rfl, rfl⟩
    refine ev_if_neB (x := (hs l2 l4)) (tgt := 84) rfl rfl (fun h => ?_) (fun h => ?_)
    · replace H := H.1 (h)
      refine ev_ex 4 (c' := (91, [some (.ref 2), some (.int l1), some (.int l2), some (.int l3), some (.int l4)], [.int l4, .int l1, .ref 50], cH c s)) rfl ?_
      obtain ⟨H0, H⟩ := H
      refine ev_ast (i := .iastore) rfl (Or.inl rfl) rfl H0 (by decide) rfl rfl (σ' := cH c (rA s 12 (ix l1) l4)) rfl ?_
      refine ev_ex 13 (c' := (106, [some (.ref 2), some (.int l1), some (.int l2), some (.int l3), some (.int l4)], [.int l1, .int l3, .int (l2 &&& ((1 <<< (l4 &&& 31)) ^^^ ((-1)))), .int (l1 + 1), .ref 2], cH c (rA s 12 (ix l1) l4))) rfl ?_
      refine ev_if_ne (tgt := 113) rfl rfl (fun h => ?_) (fun h => ?_)
      · replace H := H.1 (h)
        refine ev_ex 6 (c' := (121, [some (.ref 2), some (.int l1), some (.int l2), some (.int l3), some (.int l4)], [.int (l1 - 1), .ref 50, .ref 2, .int l3, .int (l2 &&& ((1 <<< (l4 &&& 31)) ^^^ ((-1)))), .int (l1 + 1), .ref 2], cH c (rA s 12 (ix l1) l4))) rfl ?_
        obtain ⟨H0, H⟩ := H
        refine ev_ald (i := .iaload) rfl (Or.inl rfl) rfl H0 (v := .int ((rA s 12 (ix l1) l4).2.1 12 (ix (l1 - 1)))) rfl ?_
        refine ev_ex 1 (c' := (124, [some (.ref 2), some (.int l1), some (.int l2), some (.int l3), some (.int l4)], [.int l4, .int ((rA s 12 (ix l1) l4).2.1 12 (ix (l1 - 1))), .ref 2, .int l3, .int (l2 &&& ((1 <<< (l4 &&& 31)) ^^^ ((-1)))), .int (l1 + 1), .ref 2], cH c (rA s 12 (ix l1) l4))) rfl ?_
        refine rc_I (idx := 442) rfl rfl rfl (Nat.le_of_ble_eq_true rfl) (Nat.le_of_ble_eq_true rfl) rfl H (fun v2 s1 H => ?_)
        refine ev_ex 1 (c' := (128, [some (.ref 2), some (.int l1), some (.int l2), some (.int l3), some (.int l4)], [.int (l3 + v2), .int (l2 &&& ((1 <<< (l4 &&& 31)) ^^^ ((-1)))), .int (l1 + 1), .ref 2], cH c s1)) rfl ?_
        refine rc_V (idx := 452) rfl rfl rfl (Nat.le_of_ble_eq_true rfl) (Nat.le_of_ble_eq_true rfl) rfl H (fun s3 H => ?_)
        refine ev_ex 2 (c' := (63, [some (.ref 2), some (.int l1), some (.int l2), some (.int l3), some (.int (l4 + 1))], [], cH c s3)) rfl ?_
        exact H
      · replace H := H.2 (h)
        refine ev_ex 3 (c' := (128, [some (.ref 2), some (.int l1), some (.int l2), some (.int l3), some (.int l4)], [.int (l3 + 0), .int (l2 &&& ((1 <<< (l4 &&& 31)) ^^^ ((-1)))), .int (l1 + 1), .ref 2], cH c (rA s 12 (ix l1) l4))) rfl ?_
        refine rc_V (idx := 452) rfl rfl rfl (Nat.le_of_ble_eq_true rfl) (Nat.le_of_ble_eq_true rfl) rfl H (fun s4 H => ?_)
        refine ev_ex 2 (c' := (63, [some (.ref 2), some (.int l1), some (.int l2), some (.int l3), some (.int (l4 + 1))], [], cH c s4)) rfl ?_
        exact H
    · replace H := H.2 (h)
      refine ev_ex 3 (c' := (63, [some (.ref 2), some (.int l1), some (.int l2), some (.int l3), some (.int (l4 + 1))], [], cH c s)) rfl ?_
      exact H
theorem w_R_goesOrders_33 {c : CX} {d : Nat} {s : RS} {Q : RS → Prop} (l1 : Int32) (l2 : Int32) (l3 : Int32) (l4 : Int32) (H : ((l1 ≤ l4 → Q s) ∧ (¬ l1 ≤ l4 → (okx l4 8 ∧ (okx l4 8 ∧ eR c (d + 1) m_R_goesOrders 33 [some (.ref 2), some (.int l1), some (.int l2), some (.int l3), some (.int (l4 + 1))] (rA s 13 (ix l4) (s.2.1 12 (ix l4))) (pV c Q)))))) : eR c (d + 1) m_R_goesOrders 33 [some (.ref 2), some (.int l1), some (.int l2), some (.int l3), some (.int l4)] s (pV c Q) := by
  unfold eR
  refine ev_ex 0 (c' := (33, [some (.ref 2), some (.int l1), some (.int l2), some (.int l3), some (.int l4)], [], cH c s)) rfl ?_
  refine ev_ex 2 (c' := (36, [some (.ref 2), some (.int l1), some (.int l2), some (.int l3), some (.int l4)], [.int l1, .int l4], cH c s)) rfl ?_
  refine ev_icmp_ge (tgt := 59) rfl rfl (fun h => ?_) (fun h => ?_)
  · replace H := H.1 (h)
    exact ev_ret rfl rfl rfl ⟨_, rfl, rfl, H⟩
  · replace H := H.2 (h)
    refine ev_ex 6 (c' := (51, [some (.ref 2), some (.int l1), some (.int l2), some (.int l3), some (.int l4)], [.int l4, .ref 50, .int l4, .ref 54], cH c s)) rfl ?_
    obtain ⟨H0, H⟩ := H
    refine ev_ald (i := .iaload) rfl (Or.inl rfl) rfl H0 (v := .int (s.2.1 12 (ix l4))) rfl ?_
    obtain ⟨H0, H⟩ := H
    refine ev_ast (i := .iastore) rfl (Or.inl rfl) rfl H0 (by decide) rfl rfl (σ' := cH c (rA s 13 (ix l4) (s.2.1 12 (ix l4)))) rfl ?_
    refine ev_ex 2 (c' := (33, [some (.ref 2), some (.int l1), some (.int l2), some (.int l3), some (.int (l4 + 1))], [], cH c (rA s 13 (ix l4) (s.2.1 12 (ix l4))))) rfl ?_
    exact H
theorem w_R_allMocked {c : CX} {d : Nat} {s : RS} {Q : Int64 → RS → Prop}  (H : eR c (d + 1) m_R_allMocked 4 [some (.ref 2), some (.long 0), none, some (.int 0)] s (pJ c Q)) : RJ c (d + 1) m_R_allMocked [.ref 2] s Q := by
  refine ⟨q_R_allMocked, rfl, Nat.le_of_ble_eq_true rfl, ?_⟩
  refine ev_ex 0 (c' := (0, [some (.ref 2), none, none, none], [], cH c s)) rfl ?_
  refine ev_ex 4 (c' := (4, [some (.ref 2), some (.long 0), none, some (.int 0)], [], cH c s)) rfl ?_
  exact H
theorem w_R_allMocked_4 {c : CX} {d : Nat} {s : RS} {Q : Int64 → RS → Prop} (l1 : Int64) (l3 : Int32) (H : (((s.2.1 1 1) ≤ l3 → Q l1 s) ∧ (¬ (s.2.1 1 1) ≤ l3 → (okx (6 + l3) 2101 ∧ eR c (d + 1) m_R_allMocked 4 [some (.ref 2), some (.long (((11 * l1) + ((s.2.1 1 (ix (6 + l3))).toInt64)) + 1)), none, some (.int (l3 + 1))] s (pJ c Q))))) : eR c (d + 1) m_R_allMocked 4 [some (.ref 2), some (.long l1), none, some (.int l3)] s (pJ c Q) := by
  unfold eR
  refine ev_ex 0 (c' := (4, [some (.ref 2), some (.long l1), none, some (.int l3)], [], cH c s)) rfl ?_
  refine ev_ex 2 (c' := (6, [some (.ref 2), some (.long l1), none, some (.int l3)], [.ref 2, .int l3], cH c s)) rfl ?_
  refine rc_I (idx := 267) rfl rfl rfl (Nat.le_of_ble_eq_true rfl) (Nat.le_of_ble_eq_true rfl) rfl (K := fun x s' => x = s.2.1 1 1 ∧ s' = s) (z_R_guilds ⟨rfl, rfl⟩) ?_
  rintro _ _ ⟨rfl, rfl⟩
  refine ev_icmp_ge (tgt := 33) rfl rfl (fun h => ?_) (fun h => ?_)
  · replace H := H.1 (h)
    refine ev_ex 1 (c' := (34, [some (.ref 2), some (.long l1), none, some (.int l3)], [.long l1], cH c s)) rfl ?_
    exact ev_ret rfl rfl rfl ⟨_, _, rfl, rfl, H⟩
  · replace H := H.2 (h)
    refine ev_ex 5 (c' := (19, [some (.ref 2), some (.long l1), none, some (.int l3)], [.int l3, .ref 2, .long (11 * l1)], cH c s)) rfl ?_
    obtain ⟨H1, H⟩ := H
    refine rc_I (idx := 270) rfl rfl rfl (Nat.le_of_ble_eq_true rfl) (Nat.le_of_ble_eq_true rfl) rfl (K := fun x s' => x = s.2.1 1 (ix (6 + l3)) ∧ s' = s) (z_R_mocked H1 ⟨rfl, rfl⟩) ?_
    rintro _ _ ⟨rfl, rfl⟩
    refine ev_ex 7 (c' := (4, [some (.ref 2), some (.long (((11 * l1) + ((s.2.1 1 (ix (6 + l3))).toInt64)) + 1)), none, some (.int (l3 + 1))], [], cH c s)) rfl ?_
    exact H
theorem w_R_isAsSeen {c : CX} {d : Nat} {s : RS} {Q : Bool → RS → Prop} (a0 : Int32) (H : eR c (d + 1) m_R_isAsSeen 2 [some (.ref 2), some (.int a0), some (.int 0), none, none] s (pB c Q)) : RB c (d + 1) m_R_isAsSeen [.ref 2, .int a0] s Q := by
  refine ⟨q_R_isAsSeen, rfl, Nat.le_of_ble_eq_true rfl, ?_⟩
  refine ev_ex 0 (c' := (0, [some (.ref 2), some (.int a0), none, none, none], [], cH c s)) rfl ?_
  refine ev_ex 2 (c' := (2, [some (.ref 2), some (.int a0), some (.int 0), none, none], [], cH c s)) rfl ?_
  exact H
theorem w_R_isAsSeen_2 {c : CX} {d : Nat} {s : RS} {Q : Bool → RS → Prop} (l1 : Int32) (l2 : Int32) (H : (((s.2.1 1 1) ≤ l2 → Q true s) ∧ (¬ (s.2.1 1 1) ≤ l2 → (okx ((30 * l1) + l2) 120 ∧ (((s.2.2 17 (ix ((30 * l1) + l2))) = ((-1)) → eR c (d + 1) m_R_isAsSeen 2 [some (.ref 2), some (.int l1), some (.int (l2 + 1)), none, none] s (pB c Q)) ∧ (¬ (s.2.2 17 (ix ((30 * l1) + l2))) = ((-1)) → ((¬ (s.2.2 17 (ix ((30 * l1) + l2))) = 99 → (okx (6 + l2) 2101 ∧ (((s.2.2 17 (ix ((30 * l1) + l2))) = ((s.2.1 1 (ix (6 + l2))).toInt64) → eR c (d + 1) m_R_isAsSeen 2 [some (.ref 2), some (.int l1), some (.int (l2 + 1)), none, none] s (pB c Q)) ∧ (¬ (s.2.2 17 (ix ((30 * l1) + l2))) = ((s.2.1 1 (ix (6 + l2))).toInt64) → Q false s)))) ∧ ((s.2.2 17 (ix ((30 * l1) + l2))) = 99 → (okx (6 + l2) 2101 ∧ ((((-1)) = ((s.2.1 1 (ix (6 + l2))).toInt64) → eR c (d + 1) m_R_isAsSeen 2 [some (.ref 2), some (.int l1), some (.int (l2 + 1)), none, none] s (pB c Q)) ∧ (¬ ((-1)) = ((s.2.1 1 (ix (6 + l2))).toInt64) → Q false s))))))))))) : eR c (d + 1) m_R_isAsSeen 2 [some (.ref 2), some (.int l1), some (.int l2), none, none] s (pB c Q) := by
  unfold eR
  refine ev_ex 0 (c' := (2, [some (.ref 2), some (.int l1), some (.int l2), none, none], [], cH c s)) rfl ?_
  refine ev_ex 2 (c' := (4, [some (.ref 2), some (.int l1), some (.int l2), none, none], [.ref 2, .int l2], cH c s)) rfl ?_
  refine rc_I (idx := 267) rfl rfl rfl (Nat.le_of_ble_eq_true rfl) (Nat.le_of_ble_eq_true rfl) rfl (K := fun x s' => x = s.2.1 1 1 ∧ s' = s) (z_R_guilds ⟨rfl, rfl⟩) ?_
  rintro _ _ ⟨rfl, rfl⟩
  refine ev_icmp_ge (tgt := 63) rfl rfl (fun h => ?_) (fun h => ?_)
  · replace H := H.1 (h)
    refine ev_ex 1 (c' := (64, [some (.ref 2), some (.int l1), some (.int l2), none, none], [.int 1], cH c s)) rfl ?_
    exact ev_retB (x := true) rfl rfl ⟨_, _, rfl, rfl, H⟩
  · replace H := H.2 (h)
    refine ev_ex 7 (c' := (20, [some (.ref 2), some (.int l1), some (.int l2), none, none], [.int ((30 * l1) + l2), .ref 70], cH c s)) rfl ?_
    obtain ⟨H0, H⟩ := H
    refine ev_ald (i := .laload) rfl (Or.inr (Or.inr (Or.inl rfl))) rfl H0 (v := .long (s.2.2 17 (ix ((30 * l1) + l2)))) rfl ?_
    refine ev_ex 4 (c' := (27, [some (.ref 2), some (.int l1), some (.int l2), some (.long (s.2.2 17 (ix ((30 * l1) + l2)))), none], [.int (lg_cmp (s.2.2 17 (ix ((30 * l1) + l2))) ((-1)))], cH c s)) rfl ?_
    refine ev_if_eq (tgt := 57) rfl rfl (fun h => ?_) (fun h => ?_)
    · replace H := H.1 ((lg_cmp_eq _ _).mp h)
      refine ev_ex 2 (c' := (2, [some (.ref 2), some (.int l1), some (.int (l2 + 1)), some (.long (s.2.2 17 (ix ((30 * l1) + l2)))), none], [], cH c s)) rfl ?_
      exact ev_less (lle_of (L := [some (.ref 2), some (.int l1), some (.int (l2 + 1)), none, none]) ⟨rfl, ⟨rfl, ⟨rfl, trivial⟩⟩⟩) H
    · replace H := H.2 ((fun q => h ((lg_cmp_eq _ _).mpr q)))
      refine ev_ex 3 (c' := (35, [some (.ref 2), some (.int l1), some (.int l2), some (.long (s.2.2 17 (ix ((30 * l1) + l2)))), none], [.int (lg_cmp (s.2.2 17 (ix ((30 * l1) + l2))) 99)], cH c s)) rfl ?_
      refine ev_if_ne (tgt := 44) rfl rfl (fun h => ?_) (fun h => ?_)
      · replace H := H.1 ((fun q => h ((lg_cmp_eq _ _).mpr q)))
        refine ev_ex 3 (c' := (47, [some (.ref 2), some (.int l1), some (.int l2), some (.long (s.2.2 17 (ix ((30 * l1) + l2)))), none], [.int l2, .ref 2, .long (s.2.2 17 (ix ((30 * l1) + l2)))], cH c s)) rfl ?_
        obtain ⟨H1, H⟩ := H
        refine rc_I (idx := 270) rfl rfl rfl (Nat.le_of_ble_eq_true rfl) (Nat.le_of_ble_eq_true rfl) rfl (K := fun x s' => x = s.2.1 1 (ix (6 + l2)) ∧ s' = s) (z_R_mocked H1 ⟨rfl, rfl⟩) ?_
        rintro _ _ ⟨rfl, rfl⟩
        refine ev_ex 2 (c' := (52, [some (.ref 2), some (.int l1), some (.int l2), some (.long (s.2.2 17 (ix ((30 * l1) + l2)))), none], [.int (lg_cmp (s.2.2 17 (ix ((30 * l1) + l2))) ((s.2.1 1 (ix (6 + l2))).toInt64))], cH c s)) rfl ?_
        refine ev_if_eq (tgt := 57) rfl rfl (fun h => ?_) (fun h => ?_)
        · replace H := H.1 ((lg_cmp_eq _ _).mp h)
          refine ev_ex 2 (c' := (2, [some (.ref 2), some (.int l1), some (.int (l2 + 1)), some (.long (s.2.2 17 (ix ((30 * l1) + l2)))), none], [], cH c s)) rfl ?_
          exact ev_less (lle_of (L := [some (.ref 2), some (.int l1), some (.int (l2 + 1)), none, none]) ⟨rfl, ⟨rfl, ⟨rfl, trivial⟩⟩⟩) H
        · replace H := H.2 ((fun q => h ((lg_cmp_eq _ _).mpr q)))
          refine ev_ex 1 (c' := (56, [some (.ref 2), some (.int l1), some (.int l2), some (.long (s.2.2 17 (ix ((30 * l1) + l2)))), none], [.int 0], cH c s)) rfl ?_
          exact ev_retB (x := false) rfl rfl ⟨_, _, rfl, rfl, H⟩
      · replace H := H.2 ((lg_cmp_eq _ _).mp h)
        refine ev_ex 4 (c' := (47, [some (.ref 2), some (.int l1), some (.int l2), some (.long (s.2.2 17 (ix ((30 * l1) + l2)))), none], [.int l2, .ref 2, .long ((-1))], cH c s)) rfl ?_
        obtain ⟨H1, H⟩ := H
        refine rc_I (idx := 270) rfl rfl rfl (Nat.le_of_ble_eq_true rfl) (Nat.le_of_ble_eq_true rfl) rfl (K := fun x s' => x = s.2.1 1 (ix (6 + l2)) ∧ s' = s) (z_R_mocked H1 ⟨rfl, rfl⟩) ?_
        rintro _ _ ⟨rfl, rfl⟩
        refine ev_ex 2 (c' := (52, [some (.ref 2), some (.int l1), some (.int l2), some (.long (s.2.2 17 (ix ((30 * l1) + l2)))), none], [.int (lg_cmp ((-1)) ((s.2.1 1 (ix (6 + l2))).toInt64))], cH c s)) rfl ?_
        refine ev_if_eq (tgt := 57) rfl rfl (fun h => ?_) (fun h => ?_)
        · replace H := H.1 ((lg_cmp_eq _ _).mp h)
          refine ev_ex 2 (c' := (2, [some (.ref 2), some (.int l1), some (.int (l2 + 1)), some (.long (s.2.2 17 (ix ((30 * l1) + l2)))), none], [], cH c s)) rfl ?_
          exact ev_less (lle_of (L := [some (.ref 2), some (.int l1), some (.int (l2 + 1)), none, none]) ⟨rfl, ⟨rfl, ⟨rfl, trivial⟩⟩⟩) H
        · replace H := H.2 ((fun q => h ((lg_cmp_eq _ _).mpr q)))
          refine ev_ex 1 (c' := (56, [some (.ref 2), some (.int l1), some (.int l2), some (.long (s.2.2 17 (ix ((30 * l1) + l2)))), none], [.int 0], cH c s)) rfl ?_
          exact ev_retB (x := false) rfl rfl ⟨_, _, rfl, rfl, H⟩
theorem w_R_cut {c : CX} {d : Nat} {s : RS} {Q : Int64 → RS → Prop} (a0 : Int32) (a1 : Int32) (a2 : Int64) (H : (okx a0 4 ∧ (okx ((30 * a0) + a1) 120 ∧ (okx ((30 * a0) + a1) 120 ∧ Q ((rL s 17 (ix ((30 * a0) + a1)) ((a2 <<< ((64 - (8 <<< ((s.2.1 15 (ix a0)) &&& 31))).toInt64 &&& 63)) >>> ((64 - (8 <<< ((s.2.1 15 (ix a0)) &&& 31))).toInt64 &&& 63))).2.2 17 (ix ((30 * a0) + a1))) (rL s 17 (ix ((30 * a0) + a1)) ((a2 <<< ((64 - (8 <<< ((s.2.1 15 (ix a0)) &&& 31))).toInt64 &&& 63)) >>> ((64 - (8 <<< ((s.2.1 15 (ix a0)) &&& 31))).toInt64 &&& 63))))))) : RJ c (d) m_R_cut [.ref 2, .int a0, .int a1, .long a2] s Q := by
  refine ⟨q_R_cut, rfl, Nat.le_of_ble_eq_true rfl, ?_⟩
  refine ev_ex 0 (c' := (0, [some (.ref 2), some (.int a0), some (.int a1), some (.long a2), none, none], [], cH c s)) rfl ?_
  refine ev_ex 5 (c' := (9, [some (.ref 2), some (.int a0), some (.int a1), some (.long a2), none, none], [.int a0, .ref 62, .int 8, .int 64], cH c s)) rfl ?_
  obtain ⟨H0, H⟩ := H
  refine ev_ald (i := .iaload) rfl (Or.inl rfl) rfl H0 (v := .int (s.2.1 15 (ix a0))) rfl ?_
  refine ev_ex 15 (c' := (31, [some (.ref 2), some (.int a0), some (.int a1), some (.long a2), none, some (.int (64 - (8 <<< ((s.2.1 15 (ix a0)) &&& 31))))], [.long ((a2 <<< ((64 - (8 <<< ((s.2.1 15 (ix a0)) &&& 31))).toInt64 &&& 63)) >>> ((64 - (8 <<< ((s.2.1 15 (ix a0)) &&& 31))).toInt64 &&& 63)), .int ((30 * a0) + a1), .ref 70], cH c s)) rfl ?_
  obtain ⟨H0, H⟩ := H
  refine ev_ast (i := .lastore) rfl (Or.inr (Or.inr (Or.inl rfl))) rfl H0 (by decide) rfl rfl (σ' := cH c (rL s 17 (ix ((30 * a0) + a1)) ((a2 <<< ((64 - (8 <<< ((s.2.1 15 (ix a0)) &&& 31))).toInt64 &&& 63)) >>> ((64 - (8 <<< ((s.2.1 15 (ix a0)) &&& 31))).toInt64 &&& 63)))) rfl ?_
  refine ev_ex 7 (c' := (42, [some (.ref 2), some (.int a0), some (.int a1), some (.long a2), none, some (.int (64 - (8 <<< ((s.2.1 15 (ix a0)) &&& 31))))], [.int ((30 * a0) + a1), .ref 70], cH c (rL s 17 (ix ((30 * a0) + a1)) ((a2 <<< ((64 - (8 <<< ((s.2.1 15 (ix a0)) &&& 31))).toInt64 &&& 63)) >>> ((64 - (8 <<< ((s.2.1 15 (ix a0)) &&& 31))).toInt64 &&& 63))))) rfl ?_
  obtain ⟨H0, H⟩ := H
  refine ev_ald (i := .laload) rfl (Or.inr (Or.inr (Or.inl rfl))) rfl H0 (v := .long ((rL s 17 (ix ((30 * a0) + a1)) ((a2 <<< ((64 - (8 <<< ((s.2.1 15 (ix a0)) &&& 31))).toInt64 &&& 63)) >>> ((64 - (8 <<< ((s.2.1 15 (ix a0)) &&& 31))).toInt64 &&& 63))).2.2 17 (ix ((30 * a0) + a1)))) rfl ?_
  exact ev_ret rfl rfl rfl ⟨_, _, rfl, rfl, H⟩
theorem w_R_holds {c : CX} {d : Nat} {s : RS} {Q : Bool → RS → Prop} (a0 : Int32) (a1 : Int32) (a2 : Int32) (a3 : Int32) (H : eR c (d + 1) m_R_holds 6 [some (.ref 2), some (.int a0), some (.int a1), some (.int a2), some (.int a3), some (.int 0), some (.int 0), none] s (pB c Q)) : RB c (d + 1) m_R_holds [.ref 2, .int a0, .int a1, .int a2, .int a3] s Q := by
  refine ⟨q_R_holds, rfl, Nat.le_of_ble_eq_true rfl, ?_⟩
  refine ev_ex 0 (c' := (0, [some (.ref 2), some (.int a0), some (.int a1), some (.int a2), some (.int a3), none, none, none], [], cH c s)) rfl ?_
  refine ev_ex 4 (c' := (6, [some (.ref 2), some (.int a0), some (.int a1), some (.int a2), some (.int a3), some (.int 0), some (.int 0), none], [], cH c s)) rfl ?_
  exact H
theorem w_R_holds_6 {c : CX} {d : Nat} {s : RS} {Q : Bool → RS → Prop} (l1 : Int32) (l2 : Int32) (l3 : Int32) (l4 : Int32) (l5 : Int32) (l6 : Int32) (H : (okx l1 2101 ∧ (((s.2.1 1 (ix l1)) ≤ l6 → ((l5 ≤ 0 → Q false s) ∧ (¬ l5 ≤ 0 → (okx 0 64 ∧ ((¬ (s.2.1 6 (ix 0)) = 1 → Q false s) ∧ ((s.2.1 6 (ix 0)) = 1 → Q true s)))))) ∧ (¬ (s.2.1 1 (ix l1)) ≤ l6 → (okx (l2 + l6) 2101 ∧ (((s.2.1 1 (ix (l2 + l6))) < 100 → ((¬ (s.2.1 1 (ix (l2 + l6))) = 18 → (okx ((l5 + (-1)) - 1) 64 ∧ (okx (l5 + (-1)) 64 ∧ RI c d m_R_done [.int (s.2.1 1 (ix (l2 + l6))), .long ((s.2.1 6 (ix ((l5 + (-1)) - 1))).toInt64), .long ((s.2.1 6 (ix (l5 + (-1)))).toInt64)] s (fun v2 s1 => (okx ((l5 + (-1)) - 1) 64 ∧ eR c (d + 1) m_R_holds 6 [some (.ref 2), some (.int l1), some (.int l2), some (.int l3), some (.int l4), some (.int (l5 + (-1))), some (.int (l6 + 1)), none] (rA s1 6 (ix ((l5 + (-1)) - 1)) v2) (pB c Q)))))) ∧ ((s.2.1 1 (ix (l2 + l6))) = 18 → (okx (l5 - 1) 64 ∧ (okx (l5 - 1) 64 ∧ eR c (d + 1) m_R_holds 6 [some (.ref 2), some (.int l1), some (.int l2), some (.int l3), some (.int l4), some (.int l5), some (.int (l6 + 1)), none] (rA s 6 (ix (l5 - 1)) (1 - (s.2.1 6 (ix (l5 - 1))))) (pB c Q)))))) ∧ (¬ (s.2.1 1 (ix (l2 + l6))) < 100 → (((s.2.1 1 (ix (l2 + l6))) < 1000 → RI c d m_R_wordOf [.ref 2, .int ((s.2.1 1 (ix (l2 + l6))) - 100), .int l3, .int l4] s (fun v4 s3 => (okx l5 64 ∧ eR c (d + 1) m_R_holds 6 [some (.ref 2), some (.int l1), some (.int l2), some (.int l3), some (.int l4), some (.int (l5 + 1)), some (.int (l6 + 1)), none] (rA s3 6 (ix l5) v4) (pB c Q)))) ∧ (¬ (s.2.1 1 (ix (l2 + l6))) < 1000 → (okx l5 64 ∧ eR c (d + 1) m_R_holds 6 [some (.ref 2), some (.int l1), some (.int l2), some (.int l3), some (.int l4), some (.int (l5 + 1)), some (.int (l6 + 1)), none] (rA s 6 (ix l5) ((s.2.1 1 (ix (l2 + l6))) - 1000)) (pB c Q))))))))))) : eR c (d + 1) m_R_holds 6 [some (.ref 2), some (.int l1), some (.int l2), some (.int l3), some (.int l4), some (.int l5), some (.int l6), none] s (pB c Q) := by
  unfold eR
  refine ev_ex 0 (c' := (6, [some (.ref 2), some (.int l1), some (.int l2), some (.int l3), some (.int l4), some (.int l5), some (.int l6), none], [], cH c s)) rfl ?_
  refine ev_ex 4 (c' := (13, [some (.ref 2), some (.int l1), some (.int l2), some (.int l3), some (.int l4), some (.int l5), some (.int l6), none], [.int l1, .ref 6, .int l6], cH c s)) rfl ?_
  obtain ⟨H0, H⟩ := H
  refine ev_ald (i := .iaload) rfl (Or.inl rfl) rfl H0 (v := .int (s.2.1 1 (ix l1))) rfl ?_
  refine ev_icmp_ge (tgt := 148) rfl rfl (fun h => ?_) (fun h => ?_)
  · replace H := H.1 (h)
    refine ev_ex 1 (c' := (150, [some (.ref 2), some (.int l1), some (.int l2), some (.int l3), some (.int l4), some (.int l5), some (.int l6), none], [.int l5], cH c s)) rfl ?_
    refine ev_if_le (tgt := 167) rfl rfl (fun h => ?_) (fun h => ?_)
    · replace H := H.1 (h)
      refine ev_ex 1 (c' := (168, [some (.ref 2), some (.int l1), some (.int l2), some (.int l3), some (.int l4), some (.int l5), some (.int l6), none], [.int 0], cH c s)) rfl ?_
      exact ev_retB (x := false) rfl rfl ⟨_, _, rfl, rfl, H⟩
    · replace H := H.2 (h)
      refine ev_ex 3 (c' := (158, [some (.ref 2), some (.int l1), some (.int l2), some (.int l3), some (.int l4), some (.int l5), some (.int l6), none], [.int 0, .ref 26], cH c s)) rfl ?_
      obtain ⟨H0, H⟩ := H
      refine ev_ald (i := .iaload) rfl (Or.inl rfl) rfl H0 (v := .int (s.2.1 6 (ix 0))) rfl ?_
      refine ev_ex 1 (c' := (160, [some (.ref 2), some (.int l1), some (.int l2), some (.int l3), some (.int l4), some (.int l5), some (.int l6), none], [.int 1, .int (s.2.1 6 (ix 0))], cH c s)) rfl ?_
      refine ev_icmp_ne (tgt := 167) rfl rfl (fun h => ?_) (fun h => ?_)
      · replace H := H.1 (h)
        refine ev_ex 1 (c' := (168, [some (.ref 2), some (.int l1), some (.int l2), some (.int l3), some (.int l4), some (.int l5), some (.int l6), none], [.int 0], cH c s)) rfl ?_
        exact ev_retB (x := false) rfl rfl ⟨_, _, rfl, rfl, H⟩
      · replace H := H.2 (h)
        refine ev_ex 2 (c' := (168, [some (.ref 2), some (.int l1), some (.int l2), some (.int l3), some (.int l4), some (.int l5), some (.int l6), none], [.int 1], cH c s)) rfl ?_
        exact ev_retB (x := true) rfl rfl ⟨_, _, rfl, rfl, H⟩
  · replace H := H.2 (h)
    refine ev_ex 5 (c' := (25, [some (.ref 2), some (.int l1), some (.int l2), some (.int l3), some (.int l4), some (.int l5), some (.int l6), none], [.int (l2 + l6), .ref 6], cH c s)) rfl ?_
    obtain ⟨H0, H⟩ := H
    refine ev_ald (i := .iaload) rfl (Or.inl rfl) rfl H0 (v := .int (s.2.1 1 (ix (l2 + l6)))) rfl ?_
    refine ev_ex 3 (c' := (32, [some (.ref 2), some (.int l1), some (.int l2), some (.int l3), some (.int l4), some (.int l5), some (.int l6), some (.int (s.2.1 1 (ix (l2 + l6))))], [.int 100, .int (s.2.1 1 (ix (l2 + l6)))], cH c s)) rfl ?_
    refine ev_icmp_lt (tgt := 77) rfl rfl (fun h => ?_) (fun h => ?_)
    · replace H := H.1 (h)
      refine ev_ex 2 (c' := (81, [some (.ref 2), some (.int l1), some (.int l2), some (.int l3), some (.int l4), some (.int l5), some (.int l6), some (.int (s.2.1 1 (ix (l2 + l6))))], [.int 18, .int (s.2.1 1 (ix (l2 + l6)))], cH c s)) rfl ?_
      refine ev_icmp_ne (tgt := 107) rfl rfl (fun h => ?_) (fun h => ?_)
      · replace H := H.1 (h)
        refine ev_ex 12 (c' := (128, [some (.ref 2), some (.int l1), some (.int l2), some (.int l3), some (.int l4), some (.int (l5 + (-1))), some (.int l6), some (.int (s.2.1 1 (ix (l2 + l6))))], [.int ((l5 + (-1)) - 1), .ref 26, .int (s.2.1 1 (ix (l2 + l6))), .int ((l5 + (-1)) - 1), .ref 26], cH c s)) rfl ?_
        obtain ⟨H0, H⟩ := H
        refine ev_ald (i := .iaload) rfl (Or.inl rfl) rfl H0 (v := .int (s.2.1 6 (ix ((l5 + (-1)) - 1)))) rfl ?_
        refine ev_ex 4 (c' := (136, [some (.ref 2), some (.int l1), some (.int l2), some (.int l3), some (.int l4), some (.int (l5 + (-1))), some (.int l6), some (.int (s.2.1 1 (ix (l2 + l6))))], [.int (l5 + (-1)), .ref 26, .long ((s.2.1 6 (ix ((l5 + (-1)) - 1))).toInt64), .int (s.2.1 1 (ix (l2 + l6))), .int ((l5 + (-1)) - 1), .ref 26], cH c s)) rfl ?_
        obtain ⟨H0, H⟩ := H
        refine ev_ald (i := .iaload) rfl (Or.inl rfl) rfl H0 (v := .int (s.2.1 6 (ix (l5 + (-1))))) rfl ?_
        refine ev_ex 1 (c' := (138, [some (.ref 2), some (.int l1), some (.int l2), some (.int l3), some (.int l4), some (.int (l5 + (-1))), some (.int l6), some (.int (s.2.1 1 (ix (l2 + l6))))], [.long ((s.2.1 6 (ix (l5 + (-1)))).toInt64), .long ((s.2.1 6 (ix ((l5 + (-1)) - 1))).toInt64), .int (s.2.1 1 (ix (l2 + l6))), .int ((l5 + (-1)) - 1), .ref 26], cH c s)) rfl ?_
        refine rc_I (idx := 300) rfl rfl rfl (Nat.le_of_ble_eq_true rfl) (Nat.le_of_ble_eq_true rfl) rfl H (fun v2 s1 H => ?_)
        obtain ⟨H0, H⟩ := H
        refine ev_ast (i := .iastore) rfl (Or.inl rfl) rfl H0 (by decide) rfl rfl (σ' := cH c (rA s1 6 (ix ((l5 + (-1)) - 1)) v2)) rfl ?_
        refine ev_ex 2 (c' := (6, [some (.ref 2), some (.int l1), some (.int l2), some (.int l3), some (.int l4), some (.int (l5 + (-1))), some (.int (l6 + 1)), some (.int (s.2.1 1 (ix (l2 + l6))))], [], cH c (rA s1 6 (ix ((l5 + (-1)) - 1)) v2))) rfl ?_
        exact ev_less (lle_of (L := [some (.ref 2), some (.int l1), some (.int l2), some (.int l3), some (.int l4), some (.int (l5 + (-1))), some (.int (l6 + 1)), none]) ⟨rfl, ⟨rfl, ⟨rfl, ⟨rfl, ⟨rfl, ⟨rfl, ⟨rfl, trivial⟩⟩⟩⟩⟩⟩⟩) H
      · replace H := H.2 (h)
        refine ev_ex 11 (c' := (101, [some (.ref 2), some (.int l1), some (.int l2), some (.int l3), some (.int l4), some (.int l5), some (.int l6), some (.int (s.2.1 1 (ix (l2 + l6))))], [.int (l5 - 1), .ref 26, .int 1, .int (l5 - 1), .ref 26], cH c s)) rfl ?_
        obtain ⟨H0, H⟩ := H
        refine ev_ald (i := .iaload) rfl (Or.inl rfl) rfl H0 (v := .int (s.2.1 6 (ix (l5 - 1)))) rfl ?_
        refine ev_ex 1 (c' := (103, [some (.ref 2), some (.int l1), some (.int l2), some (.int l3), some (.int l4), some (.int l5), some (.int l6), some (.int (s.2.1 1 (ix (l2 + l6))))], [.int (1 - (s.2.1 6 (ix (l5 - 1)))), .int (l5 - 1), .ref 26], cH c s)) rfl ?_
        obtain ⟨H0, H⟩ := H
        refine ev_ast (i := .iastore) rfl (Or.inl rfl) rfl H0 (by decide) rfl rfl (σ' := cH c (rA s 6 (ix (l5 - 1)) (1 - (s.2.1 6 (ix (l5 - 1)))))) rfl ?_
        refine ev_ex 3 (c' := (6, [some (.ref 2), some (.int l1), some (.int l2), some (.int l3), some (.int l4), some (.int l5), some (.int (l6 + 1)), some (.int (s.2.1 1 (ix (l2 + l6))))], [], cH c (rA s 6 (ix (l5 - 1)) (1 - (s.2.1 6 (ix (l5 - 1))))))) rfl ?_
        exact ev_less (lle_of (L := [some (.ref 2), some (.int l1), some (.int l2), some (.int l3), some (.int l4), some (.int l5), some (.int (l6 + 1)), none]) ⟨rfl, ⟨rfl, ⟨rfl, ⟨rfl, ⟨rfl, ⟨rfl, ⟨rfl, trivial⟩⟩⟩⟩⟩⟩⟩) H
    · replace H := H.2 (h)
      refine ev_ex 5 (c' := (46, [some (.ref 2), some (.int l1), some (.int l2), some (.int l3), some (.int l4), some (.int l5), some (.int l6), some (.int (s.2.1 1 (ix (l2 + l6))))], [.int 1000, .int (s.2.1 1 (ix (l2 + l6))), .int l5, .ref 26], cH c s)) rfl ?_
      refine ev_icmp_lt (tgt := 58) rfl rfl (fun h => ?_) (fun h => ?_)
      · replace H := H.1 (h)
        refine ev_ex 6 (c' := (67, [some (.ref 2), some (.int l1), some (.int l2), some (.int l3), some (.int l4), some (.int l5), some (.int l6), some (.int (s.2.1 1 (ix (l2 + l6))))], [.int l4, .int l3, .int ((s.2.1 1 (ix (l2 + l6))) - 100), .ref 2, .int l5, .ref 26], cH c s)) rfl ?_
        refine rc_I (idx := 296) rfl rfl rfl (Nat.le_of_ble_eq_true rfl) (Nat.le_of_ble_eq_true rfl) rfl H (fun v4 s3 H => ?_)
        obtain ⟨H0, H⟩ := H
        refine ev_ast (i := .iastore) rfl (Or.inl rfl) rfl H0 (by decide) rfl rfl (σ' := cH c (rA s3 6 (ix l5) v4)) rfl ?_
        refine ev_ex 4 (c' := (6, [some (.ref 2), some (.int l1), some (.int l2), some (.int l3), some (.int l4), some (.int (l5 + 1)), some (.int (l6 + 1)), some (.int (s.2.1 1 (ix (l2 + l6))))], [], cH c (rA s3 6 (ix l5) v4))) rfl ?_
        exact ev_less (lle_of (L := [some (.ref 2), some (.int l1), some (.int l2), some (.int l3), some (.int l4), some (.int (l5 + 1)), some (.int (l6 + 1)), none]) ⟨rfl, ⟨rfl, ⟨rfl, ⟨rfl, ⟨rfl, ⟨rfl, ⟨rfl, trivial⟩⟩⟩⟩⟩⟩⟩) H
      · replace H := H.2 (h)
        refine ev_ex 4 (c' := (70, [some (.ref 2), some (.int l1), some (.int l2), some (.int l3), some (.int l4), some (.int l5), some (.int l6), some (.int (s.2.1 1 (ix (l2 + l6))))], [.int ((s.2.1 1 (ix (l2 + l6))) - 1000), .int l5, .ref 26], cH c s)) rfl ?_
        obtain ⟨H0, H⟩ := H
        refine ev_ast (i := .iastore) rfl (Or.inl rfl) rfl H0 (by decide) rfl rfl (σ' := cH c (rA s 6 (ix l5) ((s.2.1 1 (ix (l2 + l6))) - 1000))) rfl ?_
        refine ev_ex 4 (c' := (6, [some (.ref 2), some (.int l1), some (.int l2), some (.int l3), some (.int l4), some (.int (l5 + 1)), some (.int (l6 + 1)), some (.int (s.2.1 1 (ix (l2 + l6))))], [], cH c (rA s 6 (ix l5) ((s.2.1 1 (ix (l2 + l6))) - 1000)))) rfl ?_
        exact ev_less (lle_of (L := [some (.ref 2), some (.int l1), some (.int l2), some (.int l3), some (.int l4), some (.int (l5 + 1)), some (.int (l6 + 1)), none]) ⟨rfl, ⟨rfl, ⟨rfl, ⟨rfl, ⟨rfl, ⟨rfl, ⟨rfl, trivial⟩⟩⟩⟩⟩⟩⟩) H
theorem w_R_behind {c : CX} {d : Nat} {s : RS} {Q : Int32 → RS → Prop} (a0 : Int32) (H : RI c d m_R_mockers [.ref 2, .int a0] s (fun v2 s1 => ((¬ v2 = 0 → RI c d m_R_ringOf [.ref 2, .int a0] s1 (fun v4 s3 => ((¬ v4 = 0 → RB c d m_R_isShut [.ref 2, .int v4] s3 (fun v6 s5 => ((v6 = false → RI c d m_R_firstOf [.int v4] s5 (fun v8 s7 => eR c (d + 1) m_R_behind 58 [some (.ref 2), some (.int a0), some (.int v2), some (.int v4), some (.int v8)] s7 (pI c Q))) ∧ (v6 = true → RI c d m_R_firstOf [.int v4] s5 (fun v10 s9 => ((¬ v10 = a0 → RI c d m_R_firstOf [.int v2] s9 (fun v12 s11 => Q v12 s11)) ∧ (v10 = a0 → Q ((-1)) s9))))))) ∧ (v4 = 0 → RI c d m_R_firstOf [.int v2] s3 (fun v14 s13 => Q v14 s13))))) ∧ (v2 = 0 → Q ((-1)) s1)))) : RI c (d + 1) m_R_behind [.ref 2, .int a0] s Q := by
  refine ⟨q_R_behind, rfl, Nat.le_of_ble_eq_true rfl, ?_⟩
  refine ev_ex 0 (c' := (0, [some (.ref 2), some (.int a0), none, none, none], [], cH c s)) rfl ?_
  refine ev_ex 2 (c' := (2, [some (.ref 2), some (.int a0), none, none, none], [.int a0, .ref 2], cH c s)) rfl ?_
  refine rc_I (idx := 290) rfl rfl rfl (Nat.le_of_ble_eq_true rfl) (Nat.le_of_ble_eq_true rfl) rfl H (fun v2 s1 H => ?_)
  refine ev_ex 2 (c' := (7, [some (.ref 2), some (.int a0), some (.int v2), none, none], [.int v2], cH c s1)) rfl ?_
  refine ev_if_ne (tgt := 12) rfl rfl (fun h => ?_) (fun h => ?_)
  · replace H := H.1 (h)
    refine ev_ex 2 (c' := (14, [some (.ref 2), some (.int a0), some (.int v2), none, none], [.int a0, .ref 2], cH c s1)) rfl ?_
    refine rc_I (idx := 380) rfl rfl rfl (Nat.le_of_ble_eq_true rfl) (Nat.le_of_ble_eq_true rfl) rfl H (fun v4 s3 H => ?_)
    refine ev_ex 2 (c' := (19, [some (.ref 2), some (.int a0), some (.int v2), some (.int v4), none], [.int v4], cH c s3)) rfl ?_
    refine ev_if_ne (tgt := 27) rfl rfl (fun h => ?_) (fun h => ?_)
    · replace H := H.1 (h)
      refine ev_ex 2 (c' := (29, [some (.ref 2), some (.int a0), some (.int v2), some (.int v4), none], [.int v4, .ref 2], cH c s3)) rfl ?_
      refine rc_B (idx := 383) rfl rfl rfl (Nat.le_of_ble_eq_true rfl) (Nat.le_of_ble_eq_true rfl) rfl H (fun v6 s5 H => ?_)
      refine ev_if_eqB (x := v6) (tgt := 52) rfl rfl (fun h => ?_) (fun h => ?_)
      · replace H := H.1 (h)
        refine ev_ex 1 (c' := (53, [some (.ref 2), some (.int a0), some (.int v2), some (.int v4), none], [.int v4], cH c s5)) rfl ?_
        refine rc_I (idx := 308) rfl rfl rfl (Nat.le_of_ble_eq_true rfl) (Nat.le_of_ble_eq_true rfl) rfl H (fun v8 s7 H => ?_)
        refine ev_ex 1 (c' := (58, [some (.ref 2), some (.int a0), some (.int v2), some (.int v4), some (.int v8)], [], cH c s7)) rfl ?_
        exact H
      · replace H := H.2 (h)
        refine ev_ex 1 (c' := (36, [some (.ref 2), some (.int a0), some (.int v2), some (.int v4), none], [.int v4], cH c s5)) rfl ?_
        refine rc_I (idx := 308) rfl rfl rfl (Nat.le_of_ble_eq_true rfl) (Nat.le_of_ble_eq_true rfl) rfl H (fun v10 s9 H => ?_)
        refine ev_ex 1 (c' := (40, [some (.ref 2), some (.int a0), some (.int v2), some (.int v4), none], [.int a0, .int v10], cH c s9)) rfl ?_
        refine ev_icmp_ne (tgt := 47) rfl rfl (fun h => ?_) (fun h => ?_)
        · replace H := H.1 (h)
          refine ev_ex 1 (c' := (48, [some (.ref 2), some (.int a0), some (.int v2), some (.int v4), none], [.int v2], cH c s9)) rfl ?_
          refine rc_I (idx := 308) rfl rfl rfl (Nat.le_of_ble_eq_true rfl) (Nat.le_of_ble_eq_true rfl) rfl H (fun v12 s11 H => ?_)
          exact ev_ret rfl rfl rfl ⟨_, _, rfl, rfl, H⟩
        · replace H := H.2 (h)
          refine ev_ex 2 (c' := (51, [some (.ref 2), some (.int a0), some (.int v2), some (.int v4), none], [.int ((-1))], cH c s9)) rfl ?_
          exact ev_ret rfl rfl rfl ⟨_, _, rfl, rfl, H⟩
    · replace H := H.2 (h)
      refine ev_ex 1 (c' := (23, [some (.ref 2), some (.int a0), some (.int v2), some (.int v4), none], [.int v2], cH c s3)) rfl ?_
      refine rc_I (idx := 308) rfl rfl rfl (Nat.le_of_ble_eq_true rfl) (Nat.le_of_ble_eq_true rfl) rfl H (fun v14 s13 H => ?_)
      exact ev_ret rfl rfl rfl ⟨_, _, rfl, rfl, H⟩
  · replace H := H.2 (h)
    refine ev_ex 1 (c' := (11, [some (.ref 2), some (.int a0), some (.int v2), none, none], [.int ((-1))], cH c s1)) rfl ?_
    exact ev_ret rfl rfl rfl ⟨_, _, rfl, rfl, H⟩
theorem w_R_behind_58 {c : CX} {d : Nat} {s : RS} {Q : Int32 → RS → Prop} (l1 : Int32) (l2 : Int32) (l3 : Int32) (l4 : Int32) (H : (((hs l3 l4) = false → eR c (d + 1) m_R_behind 58 [some (.ref 2), some (.int l1), some (.int l2), some (.int l3), some (.int (l4 + 1))] s (pI c Q)) ∧ ((hs l3 l4) = true → RI c d m_R_mockers [.ref 2, .int l4] s (fun v2 s1 => ((¬ (v2 &&& (l3 ^^^ ((-1)))) = 0 → ((¬ l4 = l1 → RI c d m_R_firstOf [.int (l2 &&& l3)] s1 (fun v4 s3 => Q v4 s3)) ∧ (l4 = l1 → RI c d m_R_firstOf [.int (l2 &&& (l3 ^^^ ((-1))))] s1 (fun v6 s5 => Q v6 s5)))) ∧ ((v2 &&& (l3 ^^^ ((-1)))) = 0 → eR c (d + 1) m_R_behind 58 [some (.ref 2), some (.int l1), some (.int l2), some (.int l3), some (.int (l4 + 1))] s1 (pI c Q))))))) : eR c (d + 1) m_R_behind 58 [some (.ref 2), some (.int l1), some (.int l2), some (.int l3), some (.int l4)] s (pI c Q) := by
  unfold eR
  refine ev_ex 0 (c' := (58, [some (.ref 2), some (.int l1), some (.int l2), some (.int l3), some (.int l4)], [], cH c s)) rfl ?_
  refine ev_ex 2 (c' := (61, [some (.ref 2), some (.int l1), some (.int l2), some (.int l3), some (.int l4)], [.int l4, .int l3], cH c s)) rfl ?_
  refine rc_B (idx := 74) rfl rfl rfl (Nat.le_of_ble_eq_true rfl) (Nat.le_of_ble_eq_true rfl) rfl (K := fun x s' => x = hs l3 l4 ∧ s' = s) (z_R_has ⟨rfl, rfl⟩) ?_
  rintro _ _ ⟨rfl, rfl⟩
  refine ev_if_eqB (x := (hs l3 l4)) (tgt := 80) rfl rfl (fun h => ?_) (fun h => ?_)
  · replace H := H.1 (h)
    refine ev_ex 2 (c' := (58, [some (.ref 2), some (.int l1), some (.int l2), some (.int l3), some (.int (l4 + 1))], [], cH c s)) rfl ?_
    exact H
  · replace H := H.2 (h)
    refine ev_ex 2 (c' := (70, [some (.ref 2), some (.int l1), some (.int l2), some (.int l3), some (.int l4)], [.int l4, .ref 2], cH c s)) rfl ?_
    refine rc_I (idx := 290) rfl rfl rfl (Nat.le_of_ble_eq_true rfl) (Nat.le_of_ble_eq_true rfl) rfl H (fun v2 s1 H => ?_)
    refine ev_ex 4 (c' := (77, [some (.ref 2), some (.int l1), some (.int l2), some (.int l3), some (.int l4)], [.int (v2 &&& (l3 ^^^ ((-1))))], cH c s1)) rfl ?_
    refine ev_if_ne (tgt := 86) rfl rfl (fun h => ?_) (fun h => ?_)
    · replace H := H.1 (h)
      refine ev_ex 2 (c' := (89, [some (.ref 2), some (.int l1), some (.int l2), some (.int l3), some (.int l4)], [.int l1, .int l4], cH c s1)) rfl ?_
      refine ev_icmp_ne (tgt := 100) rfl rfl (fun h => ?_) (fun h => ?_)
      · replace H := H.1 (h)
        refine ev_ex 3 (c' := (103, [some (.ref 2), some (.int l1), some (.int l2), some (.int l3), some (.int l4)], [.int (l2 &&& l3)], cH c s1)) rfl ?_
        refine rc_I (idx := 308) rfl rfl rfl (Nat.le_of_ble_eq_true rfl) (Nat.le_of_ble_eq_true rfl) rfl H (fun v4 s3 H => ?_)
        exact ev_ret rfl rfl rfl ⟨_, _, rfl, rfl, H⟩
      · replace H := H.2 (h)
        refine ev_ex 6 (c' := (103, [some (.ref 2), some (.int l1), some (.int l2), some (.int l3), some (.int l4)], [.int (l2 &&& (l3 ^^^ ((-1))))], cH c s1)) rfl ?_
        refine rc_I (idx := 308) rfl rfl rfl (Nat.le_of_ble_eq_true rfl) (Nat.le_of_ble_eq_true rfl) rfl H (fun v6 s5 H => ?_)
        exact ev_ret rfl rfl rfl ⟨_, _, rfl, rfl, H⟩
    · replace H := H.2 (h)
      refine ev_ex 2 (c' := (58, [some (.ref 2), some (.int l1), some (.int l2), some (.int l3), some (.int (l4 + 1))], [], cH c s1)) rfl ?_
      exact H
theorem w_R_walksOn {c : CX} {d : Nat} {s : RS} {Q : RS → Prop} (a0 : Int32) (H : (okx (s.1 26) 20 ∧ (okx ((rA s 9 (ix (s.1 26)) a0).1 26) 21 ∧ ((a0 < 100 → (okx (27 + a0) 2101 ∧ (okx (((rA s 9 (ix (s.1 26)) a0).1 26) + 1) 21 ∧ Q (rF (rA (rA s 9 (ix (s.1 26)) a0) 10 (ix (((rA s 9 (ix (s.1 26)) a0).1 26) + 1)) (((rA s 9 (ix (s.1 26)) a0).2.1 10 (ix ((rA s 9 (ix (s.1 26)) a0).1 26))) + ((rA s 9 (ix (s.1 26)) a0).2.1 1 (ix (27 + a0))))) 26 (((rA (rA s 9 (ix (s.1 26)) a0) 10 (ix (((rA s 9 (ix (s.1 26)) a0).1 26) + 1)) (((rA s 9 (ix (s.1 26)) a0).2.1 10 (ix ((rA s 9 (ix (s.1 26)) a0).1 26))) + ((rA s 9 (ix (s.1 26)) a0).2.1 1 (ix (27 + a0))))).1 26) + 1))))) ∧ (¬ a0 < 100 → (okx (((rA s 9 (ix (s.1 26)) a0).1 26) + 1) 21 ∧ Q (rF (rA (rA s 9 (ix (s.1 26)) a0) 10 (ix (((rA s 9 (ix (s.1 26)) a0).1 26) + 1)) (((rA s 9 (ix (s.1 26)) a0).2.1 10 (ix ((rA s 9 (ix (s.1 26)) a0).1 26))) + 1)) 26 (((rA (rA s 9 (ix (s.1 26)) a0) 10 (ix (((rA s 9 (ix (s.1 26)) a0).1 26) + 1)) (((rA s 9 (ix (s.1 26)) a0).2.1 10 (ix ((rA s 9 (ix (s.1 26)) a0).1 26))) + 1)).1 26) + 1)))))))) : RV c (d) m_R_walksOn [.ref 2, .int a0] s Q := by
  refine ⟨q_R_walksOn, rfl, Nat.le_of_ble_eq_true rfl, ?_⟩
  refine ev_ex 0 (c' := (0, [some (.ref 2), some (.int a0)], [], cH c s)) rfl ?_
  refine ev_ex 5 (c' := (9, [some (.ref 2), some (.int a0)], [.int a0, .int (s.1 26), .ref 38], cH c s)) rfl ?_
  obtain ⟨H0, H⟩ := H
  refine ev_ast (i := .iastore) rfl (Or.inl rfl) rfl H0 (by decide) rfl rfl (σ' := cH c (rA s 9 (ix (s.1 26)) a0)) rfl ?_
  refine ev_ex 10 (c' := (28, [some (.ref 2), some (.int a0)], [.int ((rA s 9 (ix (s.1 26)) a0).1 26), .ref 42, .int (((rA s 9 (ix (s.1 26)) a0).1 26) + 1), .ref 42], cH c (rA s 9 (ix (s.1 26)) a0))) rfl ?_
  obtain ⟨H0, H⟩ := H
  refine ev_ald (i := .iaload) rfl (Or.inl rfl) rfl H0 (v := .int ((rA s 9 (ix (s.1 26)) a0).2.1 10 (ix ((rA s 9 (ix (s.1 26)) a0).1 26)))) rfl ?_
  refine ev_ex 2 (c' := (32, [some (.ref 2), some (.int a0)], [.int 100, .int a0, .int ((rA s 9 (ix (s.1 26)) a0).2.1 10 (ix ((rA s 9 (ix (s.1 26)) a0).1 26))), .int (((rA s 9 (ix (s.1 26)) a0).1 26) + 1), .ref 42], cH c (rA s 9 (ix (s.1 26)) a0))) rfl ?_
  refine ev_icmp_lt (tgt := 39) rfl rfl (fun h => ?_) (fun h => ?_)
  · replace H := H.1 (h)
    refine ev_ex 5 (c' := (47, [some (.ref 2), some (.int a0)], [.int (27 + a0), .ref 6, .int ((rA s 9 (ix (s.1 26)) a0).2.1 10 (ix ((rA s 9 (ix (s.1 26)) a0).1 26))), .int (((rA s 9 (ix (s.1 26)) a0).1 26) + 1), .ref 42], cH c (rA s 9 (ix (s.1 26)) a0))) rfl ?_
    obtain ⟨H0, H⟩ := H
    refine ev_ald (i := .iaload) rfl (Or.inl rfl) rfl H0 (v := .int ((rA s 9 (ix (s.1 26)) a0).2.1 1 (ix (27 + a0)))) rfl ?_
    refine ev_ex 1 (c' := (49, [some (.ref 2), some (.int a0)], [.int (((rA s 9 (ix (s.1 26)) a0).2.1 10 (ix ((rA s 9 (ix (s.1 26)) a0).1 26))) + ((rA s 9 (ix (s.1 26)) a0).2.1 1 (ix (27 + a0)))), .int (((rA s 9 (ix (s.1 26)) a0).1 26) + 1), .ref 42], cH c (rA s 9 (ix (s.1 26)) a0))) rfl ?_
    obtain ⟨H0, H⟩ := H
    refine ev_ast (i := .iastore) rfl (Or.inl rfl) rfl H0 (by decide) rfl rfl (σ' := cH c (rA (rA s 9 (ix (s.1 26)) a0) 10 (ix (((rA s 9 (ix (s.1 26)) a0).1 26) + 1)) (((rA s 9 (ix (s.1 26)) a0).2.1 10 (ix ((rA s 9 (ix (s.1 26)) a0).1 26))) + ((rA s 9 (ix (s.1 26)) a0).2.1 1 (ix (27 + a0)))))) rfl ?_
    refine ev_ex 6 (c' := (60, [some (.ref 2), some (.int a0)], [], cH c (rF (rA (rA s 9 (ix (s.1 26)) a0) 10 (ix (((rA s 9 (ix (s.1 26)) a0).1 26) + 1)) (((rA s 9 (ix (s.1 26)) a0).2.1 10 (ix ((rA s 9 (ix (s.1 26)) a0).1 26))) + ((rA s 9 (ix (s.1 26)) a0).2.1 1 (ix (27 + a0))))) 26 (((rA (rA s 9 (ix (s.1 26)) a0) 10 (ix (((rA s 9 (ix (s.1 26)) a0).1 26) + 1)) (((rA s 9 (ix (s.1 26)) a0).2.1 10 (ix ((rA s 9 (ix (s.1 26)) a0).1 26))) + ((rA s 9 (ix (s.1 26)) a0).2.1 1 (ix (27 + a0))))).1 26) + 1)))) rfl ?_
    exact ev_ret rfl rfl rfl ⟨_, rfl, rfl, H⟩
  · replace H := H.2 (h)
    refine ev_ex 3 (c' := (49, [some (.ref 2), some (.int a0)], [.int (((rA s 9 (ix (s.1 26)) a0).2.1 10 (ix ((rA s 9 (ix (s.1 26)) a0).1 26))) + 1), .int (((rA s 9 (ix (s.1 26)) a0).1 26) + 1), .ref 42], cH c (rA s 9 (ix (s.1 26)) a0))) rfl ?_
    obtain ⟨H0, H⟩ := H
    refine ev_ast (i := .iastore) rfl (Or.inl rfl) rfl H0 (by decide) rfl rfl (σ' := cH c (rA (rA s 9 (ix (s.1 26)) a0) 10 (ix (((rA s 9 (ix (s.1 26)) a0).1 26) + 1)) (((rA s 9 (ix (s.1 26)) a0).2.1 10 (ix ((rA s 9 (ix (s.1 26)) a0).1 26))) + 1))) rfl ?_
    refine ev_ex 6 (c' := (60, [some (.ref 2), some (.int a0)], [], cH c (rF (rA (rA s 9 (ix (s.1 26)) a0) 10 (ix (((rA s 9 (ix (s.1 26)) a0).1 26) + 1)) (((rA s 9 (ix (s.1 26)) a0).2.1 10 (ix ((rA s 9 (ix (s.1 26)) a0).1 26))) + 1)) 26 (((rA (rA s 9 (ix (s.1 26)) a0) 10 (ix (((rA s 9 (ix (s.1 26)) a0).1 26) + 1)) (((rA s 9 (ix (s.1 26)) a0).2.1 10 (ix ((rA s 9 (ix (s.1 26)) a0).1 26))) + 1)).1 26) + 1)))) rfl ?_
    exact ev_ret rfl rfl rfl ⟨_, rfl, rfl, H⟩
theorem w_R_mayWalk {c : CX} {d : Nat} {s : RS} {Q : Bool → RS → Prop} (a0 : Int32) (H : eR c (d + 1) m_R_mayWalk 7 [some (.ref 2), some (.int a0), some (.int 0), some (.int 0), some (.int 0)] s (pB c Q)) : RB c (d + 1) m_R_mayWalk [.ref 2, .int a0] s Q := by
  refine ⟨q_R_mayWalk, rfl, Nat.le_of_ble_eq_true rfl, ?_⟩
  refine ev_ex 0 (c' := (0, [some (.ref 2), some (.int a0), none, none, none], [], cH c s)) rfl ?_
  refine ev_ex 6 (c' := (7, [some (.ref 2), some (.int a0), some (.int 0), some (.int 0), some (.int 0)], [], cH c s)) rfl ?_
  exact H
theorem w_R_mayWalk_7 {c : CX} {d : Nat} {s : RS} {Q : Bool → RS → Prop} (l1 : Int32) (l2 : Int32) (l3 : Int32) (l4 : Int32) (H : (((s.2.1 1 1) ≤ l4 → ((2 ≤ l3 → Q false s) ∧ (¬ 2 ≤ l3 → RB c d m_R_areOpen [.ref 2, .int l1] s (fun v2 s1 => ((v2 = false → Q false s1) ∧ (v2 = true → Q true s1)))))) ∧ (¬ (s.2.1 1 1) ≤ l4 → (((hs l1 l4) = false → (okx (6 + l4) 2101 ∧ ((¬ (s.2.1 1 (ix (6 + l4))) = ((-1)) → (okx (6 + l4) 2101 ∧ (((hs l2 (s.2.1 1 (ix (6 + l4)))) = false → (okx (6 + l4) 2101 ∧ eR c (d + 1) m_R_mayWalk 7 [some (.ref 2), some (.int l1), some (.int (l2 ||| (1 <<< ((s.2.1 1 (ix (6 + l4))) &&& 31)))), some (.int l3), some (.int (l4 + 1))] s (pB c Q))) ∧ ((hs l2 (s.2.1 1 (ix (6 + l4)))) = true → Q false s)))) ∧ ((s.2.1 1 (ix (6 + l4))) = ((-1)) → eR c (d + 1) m_R_mayWalk 7 [some (.ref 2), some (.int l1), some (.int l2), some (.int (l3 + 1)), some (.int (l4 + 1))] s (pB c Q))))) ∧ ((hs l1 l4) = true → eR c (d + 1) m_R_mayWalk 7 [some (.ref 2), some (.int l1), some (.int l2), some (.int l3), some (.int (l4 + 1))] s (pB c Q)))))) : eR c (d + 1) m_R_mayWalk 7 [some (.ref 2), some (.int l1), some (.int l2), some (.int l3), some (.int l4)] s (pB c Q) := by
  unfold eR
  refine ev_ex 0 (c' := (7, [some (.ref 2), some (.int l1), some (.int l2), some (.int l3), some (.int l4)], [], cH c s)) rfl ?_
  refine ev_ex 2 (c' := (10, [some (.ref 2), some (.int l1), some (.int l2), some (.int l3), some (.int l4)], [.ref 2, .int l4], cH c s)) rfl ?_
  refine rc_I (idx := 267) rfl rfl rfl (Nat.le_of_ble_eq_true rfl) (Nat.le_of_ble_eq_true rfl) rfl (K := fun x s' => x = s.2.1 1 1 ∧ s' = s) (z_R_guilds ⟨rfl, rfl⟩) ?_
  rintro _ _ ⟨rfl, rfl⟩
  refine ev_icmp_ge (tgt := 76) rfl rfl (fun h => ?_) (fun h => ?_)
  · replace H := H.1 (h)
    refine ev_ex 2 (c' := (78, [some (.ref 2), some (.int l1), some (.int l2), some (.int l3), some (.int l4)], [.int 2, .int l3], cH c s)) rfl ?_
    refine ev_icmp_ge (tgt := 93) rfl rfl (fun h => ?_) (fun h => ?_)
    · replace H := H.1 (h)
      refine ev_ex 1 (c' := (94, [some (.ref 2), some (.int l1), some (.int l2), some (.int l3), some (.int l4)], [.int 0], cH c s)) rfl ?_
      exact ev_retB (x := false) rfl rfl ⟨_, _, rfl, rfl, H⟩
    · replace H := H.2 (h)
      refine ev_ex 2 (c' := (83, [some (.ref 2), some (.int l1), some (.int l2), some (.int l3), some (.int l4)], [.int l1, .ref 2], cH c s)) rfl ?_
      refine rc_B (idx := 398) rfl rfl rfl (Nat.le_of_ble_eq_true rfl) (Nat.le_of_ble_eq_true rfl) rfl H (fun v2 s1 H => ?_)
      refine ev_if_eqB (x := v2) (tgt := 93) rfl rfl (fun h => ?_) (fun h => ?_)
      · replace H := H.1 (h)
        refine ev_ex 1 (c' := (94, [some (.ref 2), some (.int l1), some (.int l2), some (.int l3), some (.int l4)], [.int 0], cH c s1)) rfl ?_
        exact ev_retB (x := false) rfl rfl ⟨_, _, rfl, rfl, H⟩
      · replace H := H.2 (h)
        refine ev_ex 2 (c' := (94, [some (.ref 2), some (.int l1), some (.int l2), some (.int l3), some (.int l4)], [.int 1], cH c s1)) rfl ?_
        exact ev_retB (x := true) rfl rfl ⟨_, _, rfl, rfl, H⟩
  · replace H := H.2 (h)
    refine ev_ex 2 (c' := (19, [some (.ref 2), some (.int l1), some (.int l2), some (.int l3), some (.int l4)], [.int l4, .int l1], cH c s)) rfl ?_
    refine rc_B (idx := 74) rfl rfl rfl (Nat.le_of_ble_eq_true rfl) (Nat.le_of_ble_eq_true rfl) rfl (K := fun x s' => x = hs l1 l4 ∧ s' = s) (z_R_has ⟨rfl, rfl⟩) ?_
    rintro _ _ ⟨rfl, rfl⟩
    refine ev_if_eqB (x := (hs l1 l4)) (tgt := 28) rfl rfl (fun h => ?_) (fun h => ?_)
    · replace H := H.1 (h)
      refine ev_ex 2 (c' := (31, [some (.ref 2), some (.int l1), some (.int l2), some (.int l3), some (.int l4)], [.int l4, .ref 2], cH c s)) rfl ?_
      obtain ⟨H1, H⟩ := H
      refine rc_I (idx := 270) rfl rfl rfl (Nat.le_of_ble_eq_true rfl) (Nat.le_of_ble_eq_true rfl) rfl (K := fun x s' => x = s.2.1 1 (ix (6 + l4)) ∧ s' = s) (z_R_mocked H1 ⟨rfl, rfl⟩) ?_
      rintro _ _ ⟨rfl, rfl⟩
      refine ev_ex 1 (c' := (35, [some (.ref 2), some (.int l1), some (.int l2), some (.int l3), some (.int l4)], [.int ((-1)), .int (s.2.1 1 (ix (6 + l4)))], cH c s)) rfl ?_
      refine ev_icmp_ne (tgt := 44) rfl rfl (fun h => ?_) (fun h => ?_)
      · replace H := H.1 (h)
        refine ev_ex 3 (c' := (48, [some (.ref 2), some (.int l1), some (.int l2), some (.int l3), some (.int l4)], [.int l4, .ref 2, .int l2], cH c s)) rfl ?_
        obtain ⟨H1, H⟩ := H
        refine rc_I (idx := 270) rfl rfl rfl (Nat.le_of_ble_eq_true rfl) (Nat.le_of_ble_eq_true rfl) rfl (K := fun x s' => x = s.2.1 1 (ix (6 + l4)) ∧ s' = s) (z_R_mocked H1 ⟨rfl, rfl⟩) ?_
        rintro _ _ ⟨rfl, rfl⟩
        refine rc_B (idx := 74) rfl rfl rfl (Nat.le_of_ble_eq_true rfl) (Nat.le_of_ble_eq_true rfl) rfl (K := fun x s' => x = hs l2 (s.2.1 1 (ix (6 + l4))) ∧ s' = s) (z_R_has ⟨rfl, rfl⟩) ?_
        rintro _ _ ⟨rfl, rfl⟩
        refine ev_if_eqB (x := (hs l2 (s.2.1 1 (ix (6 + l4))))) (tgt := 59) rfl rfl (fun h => ?_) (fun h => ?_)
        · replace H := H.1 (h)
          refine ev_ex 4 (c' := (64, [some (.ref 2), some (.int l1), some (.int l2), some (.int l3), some (.int l4)], [.int l4, .ref 2, .int 1, .int l2], cH c s)) rfl ?_
          obtain ⟨H1, H⟩ := H
          refine rc_I (idx := 270) rfl rfl rfl (Nat.le_of_ble_eq_true rfl) (Nat.le_of_ble_eq_true rfl) rfl (K := fun x s' => x = s.2.1 1 (ix (6 + l4)) ∧ s' = s) (z_R_mocked H1 ⟨rfl, rfl⟩) ?_
          rintro _ _ ⟨rfl, rfl⟩
          refine ev_ex 5 (c' := (7, [some (.ref 2), some (.int l1), some (.int (l2 ||| (1 <<< ((s.2.1 1 (ix (6 + l4))) &&& 31)))), some (.int l3), some (.int (l4 + 1))], [], cH c s)) rfl ?_
          exact H
        · replace H := H.2 (h)
          refine ev_ex 1 (c' := (58, [some (.ref 2), some (.int l1), some (.int l2), some (.int l3), some (.int l4)], [.int 0], cH c s)) rfl ?_
          exact ev_retB (x := false) rfl rfl ⟨_, _, rfl, rfl, H⟩
      · replace H := H.2 (h)
        refine ev_ex 4 (c' := (7, [some (.ref 2), some (.int l1), some (.int l2), some (.int (l3 + 1)), some (.int (l4 + 1))], [], cH c s)) rfl ?_
        exact H
    · replace H := H.2 (h)
      refine ev_ex 3 (c' := (7, [some (.ref 2), some (.int l1), some (.int l2), some (.int l3), some (.int (l4 + 1))], [], cH c s)) rfl ?_
      exact H
theorem w_R_areOpen {c : CX} {d : Nat} {s : RS} {Q : Bool → RS → Prop} (a0 : Int32) (H : eR c (d + 1) m_R_areOpen 2 [some (.ref 2), some (.int a0), some (.int 0)] s (pB c Q)) : RB c (d + 1) m_R_areOpen [.ref 2, .int a0] s Q := by
  refine ⟨q_R_areOpen, rfl, Nat.le_of_ble_eq_true rfl, ?_⟩
  refine ev_ex 0 (c' := (0, [some (.ref 2), some (.int a0), none], [], cH c s)) rfl ?_
  refine ev_ex 2 (c' := (2, [some (.ref 2), some (.int a0), some (.int 0)], [], cH c s)) rfl ?_
  exact H
theorem w_R_areOpen_2 {c : CX} {d : Nat} {s : RS} {Q : Bool → RS → Prop} (l1 : Int32) (l2 : Int32) (H : (((s.2.1 1 1) ≤ l2 → Q true s) ∧ (¬ (s.2.1 1 1) ≤ l2 → RI c d m_R_ringOf [.ref 2, .int l2] s (fun v2 s1 => ((v2 = 0 → eR c (d + 1) m_R_areOpen 2 [some (.ref 2), some (.int l1), some (.int (l2 + 1))] s1 (pB c Q)) ∧ (¬ v2 = 0 → RI c d m_R_ringOf [.ref 2, .int l2] s1 (fun v4 s3 => ((¬ (v4 &&& l1) = 0 → eR c (d + 1) m_R_areOpen 2 [some (.ref 2), some (.int l1), some (.int (l2 + 1))] s3 (pB c Q)) ∧ ((v4 &&& l1) = 0 → Q false s3))))))))) : eR c (d + 1) m_R_areOpen 2 [some (.ref 2), some (.int l1), some (.int l2)] s (pB c Q) := by
  unfold eR
  refine ev_ex 0 (c' := (2, [some (.ref 2), some (.int l1), some (.int l2)], [], cH c s)) rfl ?_
  refine ev_ex 2 (c' := (4, [some (.ref 2), some (.int l1), some (.int l2)], [.ref 2, .int l2], cH c s)) rfl ?_
  refine rc_I (idx := 267) rfl rfl rfl (Nat.le_of_ble_eq_true rfl) (Nat.le_of_ble_eq_true rfl) rfl (K := fun x s' => x = s.2.1 1 1 ∧ s' = s) (z_R_guilds ⟨rfl, rfl⟩) ?_
  rintro _ _ ⟨rfl, rfl⟩
  refine ev_icmp_ge (tgt := 36) rfl rfl (fun h => ?_) (fun h => ?_)
  · replace H := H.1 (h)
    refine ev_ex 1 (c' := (37, [some (.ref 2), some (.int l1), some (.int l2)], [.int 1], cH c s)) rfl ?_
    exact ev_retB (x := true) rfl rfl ⟨_, _, rfl, rfl, H⟩
  · replace H := H.2 (h)
    refine ev_ex 2 (c' := (12, [some (.ref 2), some (.int l1), some (.int l2)], [.int l2, .ref 2], cH c s)) rfl ?_
    refine rc_I (idx := 380) rfl rfl rfl (Nat.le_of_ble_eq_true rfl) (Nat.le_of_ble_eq_true rfl) rfl H (fun v2 s1 H => ?_)
    refine ev_if_eq (tgt := 30) rfl rfl (fun h => ?_) (fun h => ?_)
    · replace H := H.1 (h)
      refine ev_ex 2 (c' := (2, [some (.ref 2), some (.int l1), some (.int (l2 + 1))], [], cH c s1)) rfl ?_
      exact H
    · replace H := H.2 (h)
      refine ev_ex 2 (c' := (20, [some (.ref 2), some (.int l1), some (.int l2)], [.int l2, .ref 2], cH c s1)) rfl ?_
      refine rc_I (idx := 380) rfl rfl rfl (Nat.le_of_ble_eq_true rfl) (Nat.le_of_ble_eq_true rfl) rfl H (fun v4 s3 H => ?_)
      refine ev_ex 2 (c' := (25, [some (.ref 2), some (.int l1), some (.int l2)], [.int (v4 &&& l1)], cH c s3)) rfl ?_
      refine ev_if_ne (tgt := 30) rfl rfl (fun h => ?_) (fun h => ?_)
      · replace H := H.1 (h)
        refine ev_ex 2 (c' := (2, [some (.ref 2), some (.int l1), some (.int (l2 + 1))], [], cH c s3)) rfl ?_
        exact H
      · replace H := H.2 (h)
        refine ev_ex 1 (c' := (29, [some (.ref 2), some (.int l1), some (.int l2)], [.int 0], cH c s3)) rfl ?_
        exact ev_retB (x := false) rfl rfl ⟨_, _, rfl, rfl, H⟩
theorem w_R_goesOn {c : CX} {d : Nat} {s : RS} {Q : Bool → RS → Prop} (a0 : Int32) (H : ((a0 ≤ 0 → Q false s) ∧ (¬ a0 ≤ 0 → (((s.1 26) ≤ a0 → Q false s) ∧ (¬ (s.1 26) ≤ a0 → (okx a0 20 ∧ ((100 ≤ (s.2.1 9 (ix a0)) → Q false s) ∧ (¬ 100 ≤ (s.2.1 9 (ix a0)) → (okx (a0 - 1) 20 ∧ ((100 ≤ (s.2.1 9 (ix (a0 - 1))) → Q false s) ∧ (¬ 100 ≤ (s.2.1 9 (ix (a0 - 1))) → (okx a0 20 ∧ (okx (6 + (s.2.1 9 (ix a0))) 2101 ∧ (okx (a0 - 1) 20 ∧ ((¬ (s.2.1 1 (ix (6 + (s.2.1 9 (ix a0))))) = (s.2.1 9 (ix (a0 - 1))) → Q false s) ∧ ((s.2.1 1 (ix (6 + (s.2.1 9 (ix a0))))) = (s.2.1 9 (ix (a0 - 1))) → Q true s)))))))))))))))) : RB c (d + 1) m_R_goesOn [.ref 2, .int a0] s Q := by
  refine ⟨q_R_goesOn, rfl, Nat.le_of_ble_eq_true rfl, ?_⟩
  refine ev_ex 0 (c' := (0, [some (.ref 2), some (.int a0)], [], cH c s)) rfl ?_
  refine ev_ex 1 (c' := (1, [some (.ref 2), some (.int a0)], [.int a0], cH c s)) rfl ?_
  refine ev_if_le (tgt := 61) rfl rfl (fun h => ?_) (fun h => ?_)
  · replace H := H.1 (h)
    refine ev_ex 1 (c' := (62, [some (.ref 2), some (.int a0)], [.int 0], cH c s)) rfl ?_
    exact ev_retB (x := false) rfl rfl ⟨_, _, rfl, rfl, H⟩
  · replace H := H.2 (h)
    refine ev_ex 3 (c' := (9, [some (.ref 2), some (.int a0)], [.int (s.1 26), .int a0], cH c s)) rfl ?_
    refine ev_icmp_ge (tgt := 61) rfl rfl (fun h => ?_) (fun h => ?_)
    · replace H := H.1 (h)
      refine ev_ex 1 (c' := (62, [some (.ref 2), some (.int a0)], [.int 0], cH c s)) rfl ?_
      exact ev_retB (x := false) rfl rfl ⟨_, _, rfl, rfl, H⟩
    · replace H := H.2 (h)
      refine ev_ex 3 (c' := (17, [some (.ref 2), some (.int a0)], [.int a0, .ref 38], cH c s)) rfl ?_
      obtain ⟨H0, H⟩ := H
      refine ev_ald (i := .iaload) rfl (Or.inl rfl) rfl H0 (v := .int (s.2.1 9 (ix a0))) rfl ?_
      refine ev_ex 1 (c' := (20, [some (.ref 2), some (.int a0)], [.int 100, .int (s.2.1 9 (ix a0))], cH c s)) rfl ?_
      refine ev_icmp_ge (tgt := 61) rfl rfl (fun h => ?_) (fun h => ?_)
      · replace H := H.1 (h)
        refine ev_ex 1 (c' := (62, [some (.ref 2), some (.int a0)], [.int 0], cH c s)) rfl ?_
        exact ev_retB (x := false) rfl rfl ⟨_, _, rfl, rfl, H⟩
      · replace H := H.2 (h)
        refine ev_ex 5 (c' := (30, [some (.ref 2), some (.int a0)], [.int (a0 - 1), .ref 38], cH c s)) rfl ?_
        obtain ⟨H0, H⟩ := H
        refine ev_ald (i := .iaload) rfl (Or.inl rfl) rfl H0 (v := .int (s.2.1 9 (ix (a0 - 1)))) rfl ?_
        refine ev_ex 1 (c' := (33, [some (.ref 2), some (.int a0)], [.int 100, .int (s.2.1 9 (ix (a0 - 1)))], cH c s)) rfl ?_
        refine ev_icmp_ge (tgt := 61) rfl rfl (fun h => ?_) (fun h => ?_)
        · replace H := H.1 (h)
          refine ev_ex 1 (c' := (62, [some (.ref 2), some (.int a0)], [.int 0], cH c s)) rfl ?_
          exact ev_retB (x := false) rfl rfl ⟨_, _, rfl, rfl, H⟩
        · replace H := H.2 (h)
          refine ev_ex 4 (c' := (42, [some (.ref 2), some (.int a0)], [.int a0, .ref 38, .ref 2], cH c s)) rfl ?_
          obtain ⟨H0, H⟩ := H
          refine ev_ald (i := .iaload) rfl (Or.inl rfl) rfl H0 (v := .int (s.2.1 9 (ix a0))) rfl ?_
          obtain ⟨H1, H⟩ := H
          refine rc_I (idx := 270) rfl rfl rfl (Nat.le_of_ble_eq_true rfl) (Nat.le_of_ble_eq_true rfl) rfl (K := fun x s' => x = s.2.1 1 (ix (6 + (s.2.1 9 (ix a0)))) ∧ s' = s) (z_R_mocked H1 ⟨rfl, rfl⟩) ?_
          rintro _ _ ⟨rfl, rfl⟩
          refine ev_ex 5 (c' := (53, [some (.ref 2), some (.int a0)], [.int (a0 - 1), .ref 38, .int (s.2.1 1 (ix (6 + (s.2.1 9 (ix a0)))))], cH c s)) rfl ?_
          obtain ⟨H0, H⟩ := H
          refine ev_ald (i := .iaload) rfl (Or.inl rfl) rfl H0 (v := .int (s.2.1 9 (ix (a0 - 1)))) rfl ?_
          refine ev_icmp_ne (tgt := 61) rfl rfl (fun h => ?_) (fun h => ?_)
          · replace H := H.1 (h)
            refine ev_ex 1 (c' := (62, [some (.ref 2), some (.int a0)], [.int 0], cH c s)) rfl ?_
            exact ev_retB (x := false) rfl rfl ⟨_, _, rfl, rfl, H⟩
          · replace H := H.2 (h)
            refine ev_ex 2 (c' := (62, [some (.ref 2), some (.int a0)], [.int 1], cH c s)) rfl ?_
            exact ev_retB (x := true) rfl rfl ⟨_, _, rfl, rfl, H⟩
theorem w_R_wordOf {c : CX} {d : Nat} {s : RS} {Q : Int32 → RS → Prop} (a0 : Int32) (a1 : Int32) (a2 : Int32) (H : ((a0 = 0 → (okx (16 + a1) 2101 ∧ Q (s.2.1 1 (ix (16 + a1))) s)) ∧ (a0 = 1 → (okx (16 + a2) 2101 ∧ Q (s.2.1 1 (ix (16 + a2))) s)) ∧ (a0 = 2 → (okx (27 + a1) 2101 ∧ Q (s.2.1 1 (ix (27 + a1))) s)) ∧ (a0 = 3 → (okx (27 + a2) 2101 ∧ Q (s.2.1 1 (ix (27 + a2))) s)) ∧ (a0 = 4 → RI c d m_R_mockers [.ref 2, .int a1] s (fun v2 s1 => RI c d m_R_size [.int v2] s1 (fun v4 s3 => Q v4 s3))) ∧ (a0 = 5 → RI c d m_R_mockers [.ref 2, .int a2] s (fun v6 s5 => RI c d m_R_size [.int v6] s5 (fun v8 s7 => Q v8 s7))) ∧ (a0 = 6 → (okx (6 + a2) 2101 ∧ ((¬ (s.2.1 1 (ix (6 + a2))) = a1 → Q 0 s) ∧ ((s.2.1 1 (ix (6 + a2))) = a1 → Q 1 s)))) ∧ (¬ a0 = 0 ∧ ¬ a0 = 1 ∧ ¬ a0 = 2 ∧ ¬ a0 = 3 ∧ ¬ a0 = 4 ∧ ¬ a0 = 5 ∧ ¬ a0 = 6 → (okx 26 2101 ∧ Q ((s.2.1 1 (ix 26)) - (s.2.1 1 (ix 26)) / 1000 * 1000) s)))) : RI c (d + 1) m_R_wordOf [.ref 2, .int a0, .int a1, .int a2] s Q := by
  refine ⟨q_R_wordOf, rfl, Nat.le_of_ble_eq_true rfl, ?_⟩
  refine ev_ex 0 (c' := (0, [some (.ref 2), some (.int a0), some (.int a1), some (.int a2)], [], cH c s)) rfl ?_
  refine ev_ex 1 (c' := (1, [some (.ref 2), some (.int a0), some (.int a1), some (.int a2)], [.int a0], cH c s)) rfl ?_
  by_cases h0 : a0 = 0
  · refine ev_sw h0 (tgt := 44) rfl rfl ?_
    replace H := H.1 h0
    refine ev_ex 5 (c' := (52, [some (.ref 2), some (.int a0), some (.int a1), some (.int a2)], [.int (16 + a1), .ref 6], cH c s)) rfl ?_
    obtain ⟨H0, H⟩ := H
    refine ev_ald (i := .iaload) rfl (Or.inl rfl) rfl H0 (v := .int (s.2.1 1 (ix (16 + a1)))) rfl ?_
    exact ev_ret rfl rfl rfl ⟨_, _, rfl, rfl, H⟩
  by_cases h1 : a0 = 1
  · refine ev_sw h1 (tgt := 54) rfl rfl ?_
    replace H := H.2.1 h1
    refine ev_ex 5 (c' := (62, [some (.ref 2), some (.int a0), some (.int a1), some (.int a2)], [.int (16 + a2), .ref 6], cH c s)) rfl ?_
    obtain ⟨H0, H⟩ := H
    refine ev_ald (i := .iaload) rfl (Or.inl rfl) rfl H0 (v := .int (s.2.1 1 (ix (16 + a2)))) rfl ?_
    exact ev_ret rfl rfl rfl ⟨_, _, rfl, rfl, H⟩
  by_cases h2 : a0 = 2
  · refine ev_sw h2 (tgt := 64) rfl rfl ?_
    replace H := H.2.2.1 h2
    refine ev_ex 5 (c' := (72, [some (.ref 2), some (.int a0), some (.int a1), some (.int a2)], [.int (27 + a1), .ref 6], cH c s)) rfl ?_
    obtain ⟨H0, H⟩ := H
    refine ev_ald (i := .iaload) rfl (Or.inl rfl) rfl H0 (v := .int (s.2.1 1 (ix (27 + a1)))) rfl ?_
    exact ev_ret rfl rfl rfl ⟨_, _, rfl, rfl, H⟩
  by_cases h3 : a0 = 3
  · refine ev_sw h3 (tgt := 74) rfl rfl ?_
    replace H := H.2.2.2.1 h3
    refine ev_ex 5 (c' := (82, [some (.ref 2), some (.int a0), some (.int a1), some (.int a2)], [.int (27 + a2), .ref 6], cH c s)) rfl ?_
    obtain ⟨H0, H⟩ := H
    refine ev_ald (i := .iaload) rfl (Or.inl rfl) rfl H0 (v := .int (s.2.1 1 (ix (27 + a2)))) rfl ?_
    exact ev_ret rfl rfl rfl ⟨_, _, rfl, rfl, H⟩
  by_cases h4 : a0 = 4
  · refine ev_sw h4 (tgt := 84) rfl rfl ?_
    replace H := H.2.2.2.2.1 h4
    refine ev_ex 2 (c' := (86, [some (.ref 2), some (.int a0), some (.int a1), some (.int a2)], [.int a1, .ref 2], cH c s)) rfl ?_
    refine rc_I (idx := 290) rfl rfl rfl (Nat.le_of_ble_eq_true rfl) (Nat.le_of_ble_eq_true rfl) rfl H (fun v2 s1 H => ?_)
    refine rc_I (idx := 293) rfl rfl rfl (Nat.le_of_ble_eq_true rfl) (Nat.le_of_ble_eq_true rfl) rfl H (fun v4 s3 H => ?_)
    exact ev_ret rfl rfl rfl ⟨_, _, rfl, rfl, H⟩
  by_cases h5 : a0 = 5
  · refine ev_sw h5 (tgt := 93) rfl rfl ?_
    replace H := H.2.2.2.2.2.1 h5
    refine ev_ex 2 (c' := (95, [some (.ref 2), some (.int a0), some (.int a1), some (.int a2)], [.int a2, .ref 2], cH c s)) rfl ?_
    refine rc_I (idx := 290) rfl rfl rfl (Nat.le_of_ble_eq_true rfl) (Nat.le_of_ble_eq_true rfl) rfl H (fun v6 s5 H => ?_)
    refine rc_I (idx := 293) rfl rfl rfl (Nat.le_of_ble_eq_true rfl) (Nat.le_of_ble_eq_true rfl) rfl H (fun v8 s7 H => ?_)
    exact ev_ret rfl rfl rfl ⟨_, _, rfl, rfl, H⟩
  by_cases h6 : a0 = 6
  · refine ev_sw h6 (tgt := 102) rfl rfl ?_
    replace H := H.2.2.2.2.2.2.1 h6
    refine ev_ex 2 (c' := (104, [some (.ref 2), some (.int a0), some (.int a1), some (.int a2)], [.int a2, .ref 2], cH c s)) rfl ?_
    obtain ⟨H1, H⟩ := H
    refine rc_I (idx := 270) rfl rfl rfl (Nat.le_of_ble_eq_true rfl) (Nat.le_of_ble_eq_true rfl) rfl (K := fun x s' => x = s.2.1 1 (ix (6 + a2)) ∧ s' = s) (z_R_mocked H1 ⟨rfl, rfl⟩) ?_
    rintro _ _ ⟨rfl, rfl⟩
    refine ev_ex 1 (c' := (108, [some (.ref 2), some (.int a0), some (.int a1), some (.int a2)], [.int a1, .int (s.2.1 1 (ix (6 + a2)))], cH c s)) rfl ?_
    refine ev_icmp_ne (tgt := 115) rfl rfl (fun h => ?_) (fun h => ?_)
    · replace H := H.1 (h)
      refine ev_ex 1 (c' := (116, [some (.ref 2), some (.int a0), some (.int a1), some (.int a2)], [.int 0], cH c s)) rfl ?_
      exact ev_ret rfl rfl rfl ⟨_, _, rfl, rfl, H⟩
    · replace H := H.2 (h)
      refine ev_ex 2 (c' := (116, [some (.ref 2), some (.int a0), some (.int a1), some (.int a2)], [.int 1], cH c s)) rfl ?_
      exact ev_ret rfl rfl rfl ⟨_, _, rfl, rfl, H⟩
  replace H := H.2.2.2.2.2.2.2 ⟨h0, h1, h2, h3, h4, h5, h6⟩
  refine ev_tswd (tgt := 117) rfl (by have e0 := i32_ne h0 (y := 0) rfl; have e1 := i32_ne h1 (y := 1) rfl; have e2 := i32_ne h2 (y := 2) rfl; have e3 := i32_ne h3 (y := 3) rfl; have e4 := i32_ne h4 (y := 4) rfl; have e5 := i32_ne h5 (y := 5) rfl; have e6 := i32_ne h6 (y := 6) rfl; omega) rfl ?_
  refine ev_ex 3 (c' := (123, [some (.ref 2), some (.int a0), some (.int a1), some (.int a2)], [.int 26, .ref 6], cH c s)) rfl ?_
  obtain ⟨H0, H⟩ := H
  refine ev_ald (i := .iaload) rfl (Or.inl rfl) rfl H0 (v := .int (s.2.1 1 (ix 26))) rfl ?_
  refine ev_ex 1 (c' := (127, [some (.ref 2), some (.int a0), some (.int a1), some (.int a2)], [.int 1000, .int (s.2.1 1 (ix 26))], cH c s)) rfl ?_
  refine ev_ex 1 (c' := (128, [some (.ref 2), some (.int a0), some (.int a1), some (.int a2)], [.int ((s.2.1 1 (ix 26)) - (s.2.1 1 (ix 26)) / 1000 * 1000)], cH c s)) rfl ?_
  exact ev_ret rfl rfl rfl ⟨_, _, rfl, rfl, H⟩
theorem w_R_done {c : CX} {d : Nat} {s : RS} {Q : Int32 → RS → Prop} (a0 : Int32) (a1 : Int64) (a2 : Int64) (H : ((a0 = 10 → RI c d m_R_bound [.long (a1 + a2)] s (fun v2 s1 => Q v2 s1)) ∧ (a0 = 11 → RI c d m_R_bound [.long (a1 - a2)] s (fun v4 s3 => Q v4 s3)) ∧ (a0 = 12 → RI c d m_R_bound [.long (a1 * a2)] s (fun v6 s5 => Q v6 s5)) ∧ (a0 = 13 → ((¬ a1 = a2 → Q 0 s) ∧ (a1 = a2 → Q 1 s))) ∧ (a0 = 14 → ((a2 ≤ a1 → Q 0 s) ∧ (¬ a2 ≤ a1 → Q 1 s))) ∧ (a0 = 15 → ((a1 ≤ a2 → Q 0 s) ∧ (¬ a1 ≤ a2 → Q 1 s))) ∧ (a0 = 16 → (((a1 + a2) ≤ 1 → Q 0 s) ∧ (¬ (a1 + a2) ≤ 1 → Q 1 s))) ∧ (¬ a0 = 10 ∧ ¬ a0 = 11 ∧ ¬ a0 = 12 ∧ ¬ a0 = 13 ∧ ¬ a0 = 14 ∧ ¬ a0 = 15 ∧ ¬ a0 = 16 → (((a1 + a2) ≤ 0 → Q 0 s) ∧ (¬ (a1 + a2) ≤ 0 → Q 1 s))))) : RI c (d + 1) m_R_done [.int a0, .long a1, .long a2] s Q := by
  refine ⟨q_R_done, rfl, Nat.le_of_ble_eq_true rfl, ?_⟩
  refine ev_ex 0 (c' := (0, [some (.int a0), some (.long a1), none, some (.long a2), none], [], cH c s)) rfl ?_
  refine ev_ex 1 (c' := (1, [some (.int a0), some (.long a1), none, some (.long a2), none], [.int a0], cH c s)) rfl ?_
  by_cases h0 : a0 = 10
  · refine ev_sw h0 (tgt := 44) rfl rfl ?_
    replace H := H.1 h0
    refine ev_ex 3 (c' := (47, [some (.int a0), some (.long a1), none, some (.long a2), none], [.long (a1 + a2)], cH c s)) rfl ?_
    refine rc_I (idx := 286) rfl rfl rfl (Nat.le_of_ble_eq_true rfl) (Nat.le_of_ble_eq_true rfl) rfl H (fun v2 s1 H => ?_)
    exact ev_ret rfl rfl rfl ⟨_, _, rfl, rfl, H⟩
  by_cases h1 : a0 = 11
  · refine ev_sw h1 (tgt := 51) rfl rfl ?_
    replace H := H.2.1 h1
    refine ev_ex 3 (c' := (54, [some (.int a0), some (.long a1), none, some (.long a2), none], [.long (a1 - a2)], cH c s)) rfl ?_
    refine rc_I (idx := 286) rfl rfl rfl (Nat.le_of_ble_eq_true rfl) (Nat.le_of_ble_eq_true rfl) rfl H (fun v4 s3 H => ?_)
    exact ev_ret rfl rfl rfl ⟨_, _, rfl, rfl, H⟩
  by_cases h2 : a0 = 12
  · refine ev_sw h2 (tgt := 58) rfl rfl ?_
    replace H := H.2.2.1 h2
    refine ev_ex 3 (c' := (61, [some (.int a0), some (.long a1), none, some (.long a2), none], [.long (a1 * a2)], cH c s)) rfl ?_
    refine rc_I (idx := 286) rfl rfl rfl (Nat.le_of_ble_eq_true rfl) (Nat.le_of_ble_eq_true rfl) rfl H (fun v6 s5 H => ?_)
    exact ev_ret rfl rfl rfl ⟨_, _, rfl, rfl, H⟩
  by_cases h3 : a0 = 13
  · refine ev_sw h3 (tgt := 65) rfl rfl ?_
    replace H := H.2.2.2.1 h3
    refine ev_ex 3 (c' := (68, [some (.int a0), some (.long a1), none, some (.long a2), none], [.int (lg_cmp a1 a2)], cH c s)) rfl ?_
    refine ev_if_ne (tgt := 75) rfl rfl (fun h => ?_) (fun h => ?_)
    · replace H := H.1 ((fun q => h ((lg_cmp_eq _ _).mpr q)))
      refine ev_ex 1 (c' := (76, [some (.int a0), some (.long a1), none, some (.long a2), none], [.int 0], cH c s)) rfl ?_
      exact ev_ret rfl rfl rfl ⟨_, _, rfl, rfl, H⟩
    · replace H := H.2 ((lg_cmp_eq _ _).mp h)
      refine ev_ex 2 (c' := (76, [some (.int a0), some (.long a1), none, some (.long a2), none], [.int 1], cH c s)) rfl ?_
      exact ev_ret rfl rfl rfl ⟨_, _, rfl, rfl, H⟩
  by_cases h4 : a0 = 14
  · refine ev_sw h4 (tgt := 77) rfl rfl ?_
    replace H := H.2.2.2.2.1 h4
    refine ev_ex 3 (c' := (80, [some (.int a0), some (.long a1), none, some (.long a2), none], [.int (lg_cmp a1 a2)], cH c s)) rfl ?_
    refine ev_if_ge (tgt := 87) rfl rfl (fun h => ?_) (fun h => ?_)
    · replace H := H.1 ((lg_cmp_ge _ _).mp h)
      refine ev_ex 1 (c' := (88, [some (.int a0), some (.long a1), none, some (.long a2), none], [.int 0], cH c s)) rfl ?_
      exact ev_ret rfl rfl rfl ⟨_, _, rfl, rfl, H⟩
    · replace H := H.2 ((fun q => h ((lg_cmp_ge _ _).mpr q)))
      refine ev_ex 2 (c' := (88, [some (.int a0), some (.long a1), none, some (.long a2), none], [.int 1], cH c s)) rfl ?_
      exact ev_ret rfl rfl rfl ⟨_, _, rfl, rfl, H⟩
  by_cases h5 : a0 = 15
  · refine ev_sw h5 (tgt := 89) rfl rfl ?_
    replace H := H.2.2.2.2.2.1 h5
    refine ev_ex 3 (c' := (92, [some (.int a0), some (.long a1), none, some (.long a2), none], [.int (lg_cmp a1 a2)], cH c s)) rfl ?_
    refine ev_if_le (tgt := 99) rfl rfl (fun h => ?_) (fun h => ?_)
    · replace H := H.1 ((lg_cmp_le _ _).mp h)
      refine ev_ex 1 (c' := (100, [some (.int a0), some (.long a1), none, some (.long a2), none], [.int 0], cH c s)) rfl ?_
      exact ev_ret rfl rfl rfl ⟨_, _, rfl, rfl, H⟩
    · replace H := H.2 ((fun q => h ((lg_cmp_le _ _).mpr q)))
      refine ev_ex 2 (c' := (100, [some (.int a0), some (.long a1), none, some (.long a2), none], [.int 1], cH c s)) rfl ?_
      exact ev_ret rfl rfl rfl ⟨_, _, rfl, rfl, H⟩
  by_cases h6 : a0 = 16
  · refine ev_sw h6 (tgt := 101) rfl rfl ?_
    replace H := H.2.2.2.2.2.2.1 h6
    refine ev_ex 5 (c' := (106, [some (.int a0), some (.long a1), none, some (.long a2), none], [.int (lg_cmp (a1 + a2) 1)], cH c s)) rfl ?_
    refine ev_if_le (tgt := 113) rfl rfl (fun h => ?_) (fun h => ?_)
    · replace H := H.1 ((lg_cmp_le _ _).mp h)
      refine ev_ex 1 (c' := (114, [some (.int a0), some (.long a1), none, some (.long a2), none], [.int 0], cH c s)) rfl ?_
      exact ev_ret rfl rfl rfl ⟨_, _, rfl, rfl, H⟩
    · replace H := H.2 ((fun q => h ((lg_cmp_le _ _).mpr q)))
      refine ev_ex 2 (c' := (114, [some (.int a0), some (.long a1), none, some (.long a2), none], [.int 1], cH c s)) rfl ?_
      exact ev_ret rfl rfl rfl ⟨_, _, rfl, rfl, H⟩
  replace H := H.2.2.2.2.2.2.2 ⟨h0, h1, h2, h3, h4, h5, h6⟩
  refine ev_tswd (tgt := 115) rfl (by have e0 := i32_ne h0 (y := 10) rfl; have e1 := i32_ne h1 (y := 11) rfl; have e2 := i32_ne h2 (y := 12) rfl; have e3 := i32_ne h3 (y := 13) rfl; have e4 := i32_ne h4 (y := 14) rfl; have e5 := i32_ne h5 (y := 15) rfl; have e6 := i32_ne h6 (y := 16) rfl; omega) rfl ?_
  refine ev_ex 5 (c' := (120, [some (.int a0), some (.long a1), none, some (.long a2), none], [.int (lg_cmp (a1 + a2) 0)], cH c s)) rfl ?_
  refine ev_if_le (tgt := 127) rfl rfl (fun h => ?_) (fun h => ?_)
  · replace H := H.1 ((lg_cmp_le _ _).mp h)
    refine ev_ex 1 (c' := (128, [some (.int a0), some (.long a1), none, some (.long a2), none], [.int 0], cH c s)) rfl ?_
    exact ev_ret rfl rfl rfl ⟨_, _, rfl, rfl, H⟩
  · replace H := H.2 ((fun q => h ((lg_cmp_le _ _).mpr q)))
    refine ev_ex 2 (c' := (128, [some (.int a0), some (.long a1), none, some (.long a2), none], [.int 1], cH c s)) rfl ?_
    exact ev_ret rfl rfl rfl ⟨_, _, rfl, rfl, H⟩
theorem w_R_bound {c : CX} {d : Nat} {s : RS} {Q : Int32 → RS → Prop} (a0 : Int64) (H : Q ((mxL ((-1000000)) (mnL 1000000 a0)).toInt32) s) : RI c (d + 1) m_R_bound [.long a0] s Q := by
  refine ⟨q_R_bound, rfl, Nat.le_of_ble_eq_true rfl, ?_⟩
  refine ev_ex 0 (c' := (0, [some (.long a0), none], [], cH c s)) rfl ?_
  refine ev_ex 3 (c' := (7, [some (.long a0), none], [.long a0, .long 1000000, .long ((-1000000))], cH c s)) rfl ?_
  refine rc_J (idx := 277) rfl rfl rfl (Nat.le_of_ble_eq_true rfl) (Nat.le_of_ble_eq_true rfl) rfl (K := fun x s' => x = mnL 1000000 a0 ∧ s' = s) (z_JM_min_2 ⟨rfl, rfl⟩) ?_
  rintro _ _ ⟨rfl, rfl⟩
  refine rc_J (idx := 283) rfl rfl rfl (Nat.le_of_ble_eq_true rfl) (Nat.le_of_ble_eq_true rfl) rfl (K := fun x s' => x = mxL ((-1000000)) (mnL 1000000 a0) ∧ s' = s) (z_JM_max_2 ⟨rfl, rfl⟩) ?_
  rintro _ _ ⟨rfl, rfl⟩
  refine ev_ex 1 (c' := (14, [some (.long a0), none], [.int ((mxL ((-1000000)) (mnL 1000000 a0)).toInt32)], cH c s)) rfl ?_
  exact ev_ret rfl rfl rfl ⟨_, _, rfl, rfl, H⟩
