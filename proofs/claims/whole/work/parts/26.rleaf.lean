/-! written by wip/gen/vcg.py: what runs of the reference's small methods ask -/
theorem w_R_within {c : CX} {d : Nat} {s : RS} {Q : Bool → RS → Prop} (a0 : Int64) (a1 : Int64) (a2 : Int64) (H : ((a0 < a1 → Q false s) ∧ (¬ a0 < a1 → ((a2 < a0 → Q false s) ∧ (¬ a2 < a0 → Q true s))))) : RB c (d) m_R_within [.long a0, .long a1, .long a2] s Q := by
  refine ⟨q_R_within, rfl, Nat.le_of_ble_eq_true rfl, ?_⟩
  refine ev_ex 0 (c' := (0, [some (.long a0), none, some (.long a1), none, some (.long a2), none], [], cH c s)) rfl ?_
  refine ev_ex 3 (c' := (3, [some (.long a0), none, some (.long a1), none, some (.long a2), none], [.int (lg_cmp a0 a1)], cH c s)) rfl ?_
  refine ev_if_lt (tgt := 17) rfl rfl (fun h => ?_) (fun h => ?_)
  · replace H := H.1 ((lg_cmp_lt _ _).mp h)
    refine ev_ex 1 (c' := (18, [some (.long a0), none, some (.long a1), none, some (.long a2), none], [.int 0], cH c s)) rfl ?_
    exact ev_retB (x := false) rfl rfl ⟨_, _, rfl, rfl, H⟩
  · replace H := H.2 ((fun q => h ((lg_cmp_lt _ _).mpr q)))
    refine ev_ex 3 (c' := (10, [some (.long a0), none, some (.long a1), none, some (.long a2), none], [.int (lg_cmp a0 a2)], cH c s)) rfl ?_
    refine ev_if_gt (tgt := 17) rfl rfl (fun h => ?_) (fun h => ?_)
    · replace H := H.1 ((lg_cmp_gt _ _).mp h)
      refine ev_ex 1 (c' := (18, [some (.long a0), none, some (.long a1), none, some (.long a2), none], [.int 0], cH c s)) rfl ?_
      exact ev_retB (x := false) rfl rfl ⟨_, _, rfl, rfl, H⟩
    · replace H := H.2 ((fun q => h ((lg_cmp_gt _ _).mpr q)))
      refine ev_ex 2 (c' := (18, [some (.long a0), none, some (.long a1), none, some (.long a2), none], [.int 1], cH c s)) rfl ?_
      exact ev_retB (x := true) rfl rfl ⟨_, _, rfl, rfl, H⟩
theorem w_R_has {c : CX} {d : Nat} {s : RS} {Q : Bool → RS → Prop} (a0 : Int32) (a1 : Int32) (H : ((¬ ((a0 >>> (a1 &&& 31)) &&& 1) = 1 → Q false s) ∧ (((a0 >>> (a1 &&& 31)) &&& 1) = 1 → Q true s))) : RB c (d) m_R_has [.int a0, .int a1] s Q := by
  refine ⟨q_R_has, rfl, Nat.le_of_ble_eq_true rfl, ?_⟩
  refine ev_ex 0 (c' := (0, [some (.int a0), some (.int a1)], [], cH c s)) rfl ?_
  refine ev_ex 6 (c' := (6, [some (.int a0), some (.int a1)], [.int 1, .int ((a0 >>> (a1 &&& 31)) &&& 1)], cH c s)) rfl ?_
  refine ev_icmp_ne (tgt := 13) rfl rfl (fun h => ?_) (fun h => ?_)
  · replace H := H.1 (h)
    refine ev_ex 1 (c' := (14, [some (.int a0), some (.int a1)], [.int 0], cH c s)) rfl ?_
    exact ev_retB (x := false) rfl rfl ⟨_, _, rfl, rfl, H⟩
  · replace H := H.2 (h)
    refine ev_ex 2 (c' := (14, [some (.int a0), some (.int a1)], [.int 1], cH c s)) rfl ?_
    exact ev_retB (x := true) rfl rfl ⟨_, _, rfl, rfl, H⟩
theorem w_R_size {c : CX} {d : Nat} {s : RS} {Q : Int32 → RS → Prop} (a0 : Int32) (H : eR c (d) m_R_size 4 [some (.int a0), some (.int 0), some (.int a0)] s (pI c Q)) : RI c (d) m_R_size [.int a0] s Q := by
  refine ⟨q_R_size, rfl, Nat.le_of_ble_eq_true rfl, ?_⟩
  refine ev_ex 0 (c' := (0, [some (.int a0), none, none], [], cH c s)) rfl ?_
  refine ev_ex 4 (c' := (4, [some (.int a0), some (.int 0), some (.int a0)], [], cH c s)) rfl ?_
  exact H
theorem w_R_size_4 {c : CX} {d : Nat} {s : RS} {Q : Int32 → RS → Prop} (l0 : Int32) (l1 : Int32) (l2 : Int32) (H : ((l2 = 0 → Q l1 s) ∧ (¬ l2 = 0 → eR c (d) m_R_size 4 [some (.int l0), some (.int (l1 + 1)), some (.int (l2 &&& (l2 - 1)))] s (pI c Q)))) : eR c (d) m_R_size 4 [some (.int l0), some (.int l1), some (.int l2)] s (pI c Q) := by
  unfold eR
  refine ev_ex 0 (c' := (4, [some (.int l0), some (.int l1), some (.int l2)], [], cH c s)) rfl ?_
  refine ev_ex 1 (c' := (5, [some (.int l0), some (.int l1), some (.int l2)], [.int l2], cH c s)) rfl ?_
  refine ev_if_eq (tgt := 20) rfl rfl (fun h => ?_) (fun h => ?_)
  · replace H := H.1 (h)
    refine ev_ex 1 (c' := (21, [some (.int l0), some (.int l1), some (.int l2)], [.int l1], cH c s)) rfl ?_
    exact ev_ret rfl rfl rfl ⟨_, _, rfl, rfl, H⟩
  · replace H := H.2 (h)
    refine ev_ex 8 (c' := (4, [some (.int l0), some (.int (l1 + 1)), some (.int (l2 &&& (l2 - 1)))], [], cH c s)) rfl ?_
    exact H
theorem w_R_firstOf {c : CX} {d : Nat} {s : RS} {Q : Int32 → RS → Prop} (a0 : Int32) (H : eR c (d + 1) m_R_firstOf 2 [some (.int a0), some (.int 0)] s (pI c Q)) : RI c (d + 1) m_R_firstOf [.int a0] s Q := by
  refine ⟨q_R_firstOf, rfl, Nat.le_of_ble_eq_true rfl, ?_⟩
  refine ev_ex 0 (c' := (0, [some (.int a0), none], [], cH c s)) rfl ?_
  refine ev_ex 2 (c' := (2, [some (.int a0), some (.int 0)], [], cH c s)) rfl ?_
  exact H
theorem w_R_firstOf_2 {c : CX} {d : Nat} {s : RS} {Q : Int32 → RS → Prop} (l0 : Int32) (l1 : Int32) (H : RB c d m_R_has [.int l0, .int l1] s (fun v2 s1 => ((v2 = true → Q l1 s1) ∧ (v2 = false → eR c (d + 1) m_R_firstOf 2 [some (.int l0), some (.int (l1 + 1))] s1 (pI c Q))))) : eR c (d + 1) m_R_firstOf 2 [some (.int l0), some (.int l1)] s (pI c Q) := by
  unfold eR
  refine ev_ex 0 (c' := (2, [some (.int l0), some (.int l1)], [], cH c s)) rfl ?_
  refine ev_ex 2 (c' := (4, [some (.int l0), some (.int l1)], [.int l1, .int l0], cH c s)) rfl ?_
  refine rc_B (idx := 74) rfl rfl rfl (Nat.le_of_ble_eq_true rfl) (Nat.le_of_ble_eq_true rfl) rfl H (fun v2 s1 H => ?_)
  refine ev_if_neB (x := v2) (tgt := 16) rfl rfl (fun h => ?_) (fun h => ?_)
  · replace H := H.1 (h)
    refine ev_ex 1 (c' := (17, [some (.int l0), some (.int l1)], [.int l1], cH c s1)) rfl ?_
    exact ev_ret rfl rfl rfl ⟨_, _, rfl, rfl, H⟩
  · replace H := H.2 (h)
    refine ev_ex 2 (c' := (2, [some (.int l0), some (.int (l1 + 1))], [], cH c s1)) rfl ?_
    exact H
theorem w_R_guilds {c : CX} {d : Nat} {s : RS} {Q : Int32 → RS → Prop}  (H : (okx 1 2101 ∧ Q (s.2.1 1 (ix 1)) s)) : RI c (d) m_R_guilds [.ref 2] s Q := by
  refine ⟨q_R_guilds, rfl, Nat.le_of_ble_eq_true rfl, ?_⟩
  refine ev_ex 0 (c' := (0, [some (.ref 2)], [], cH c s)) rfl ?_
  refine ev_ex 3 (c' := (5, [some (.ref 2)], [.int 1, .ref 6], cH c s)) rfl ?_
  obtain ⟨H0, H⟩ := H
  refine ev_ald (i := .iaload) rfl (Or.inl rfl) rfl H0 (v := .int (s.2.1 1 (ix 1))) rfl ?_
  exact ev_ret rfl rfl rfl ⟨_, _, rfl, rfl, H⟩
theorem w_R_mocked {c : CX} {d : Nat} {s : RS} {Q : Int32 → RS → Prop} (a0 : Int32) (H : (okx (6 + a0) 2101 ∧ Q (s.2.1 1 (ix (6 + a0))) s)) : RI c (d) m_R_mocked [.ref 2, .int a0] s Q := by
  refine ⟨q_R_mocked, rfl, Nat.le_of_ble_eq_true rfl, ?_⟩
  refine ev_ex 0 (c' := (0, [some (.ref 2), some (.int a0)], [], cH c s)) rfl ?_
  refine ev_ex 5 (c' := (8, [some (.ref 2), some (.int a0)], [.int (6 + a0), .ref 6], cH c s)) rfl ?_
  obtain ⟨H0, H⟩ := H
  refine ev_ald (i := .iaload) rfl (Or.inl rfl) rfl H0 (v := .int (s.2.1 1 (ix (6 + a0)))) rfl ?_
  exact ev_ret rfl rfl rfl ⟨_, _, rfl, rfl, H⟩
theorem w_R_isGuild {c : CX} {d : Nat} {s : RS} {Q : Bool → RS → Prop} (a0 : Int64) (H : RI c d m_R_guilds [.ref 2] s (fun v2 s1 => RB c d m_R_within [.long a0, .long 0, .long ((v2 - 1).toInt64)] s1 (fun v4 s3 => Q v4 s3))) : RB c (d + 1) m_R_isGuild [.ref 2, .long a0] s Q := by
  refine ⟨q_R_isGuild, rfl, Nat.le_of_ble_eq_true rfl, ?_⟩
  refine ev_ex 0 (c' := (0, [some (.ref 2), some (.long a0), none], [], cH c s)) rfl ?_
  refine ev_ex 3 (c' := (3, [some (.ref 2), some (.long a0), none], [.ref 2, .long 0, .long a0], cH c s)) rfl ?_
  refine rc_I (idx := 267) rfl rfl rfl (Nat.le_of_ble_eq_true rfl) (Nat.le_of_ble_eq_true rfl) rfl H (fun v2 s1 H => ?_)
  refine ev_ex 3 (c' := (9, [some (.ref 2), some (.long a0), none], [.long ((v2 - 1).toInt64), .long 0, .long a0], cH c s1)) rfl ?_
  refine rc_B (idx := 136) rfl rfl rfl (Nat.le_of_ble_eq_true rfl) (Nat.le_of_ble_eq_true rfl) rfl H (fun v4 s3 H => ?_)
  exact ev_retB (x := v4) rfl rfl ⟨_, _, rfl, rfl, H⟩
theorem w_R_isTray {c : CX} {d : Nat} {s : RS} {Q : Bool → RS → Prop} (a0 : Int32) (H : RB c d m_R_within [.long a0.toInt64, .long 0, .long 3] s (fun v2 s1 => Q v2 s1)) : RB c (d + 1) m_R_isTray [.int a0] s Q := by
  refine ⟨q_R_isTray, rfl, Nat.le_of_ble_eq_true rfl, ?_⟩
  refine ev_ex 0 (c' := (0, [some (.int a0)], [], cH c s)) rfl ?_
  refine ev_ex 4 (c' := (6, [some (.int a0)], [.long 3, .long 0, .long a0.toInt64], cH c s)) rfl ?_
  refine rc_B (idx := 136) rfl rfl rfl (Nat.le_of_ble_eq_true rfl) (Nat.le_of_ble_eq_true rfl) rfl H (fun v2 s1 H => ?_)
  exact ev_retB (x := v2) rfl rfl ⟨_, _, rfl, rfl, H⟩
theorem w_R_fails {c : CX} {d : Nat} {s : RS} {Q : Int32 → RS → Prop} (a0 : Int32) (H : Q 0 (rF s 4 a0)) : RI c (d) m_R_fails [.ref 2, .int a0] s Q := by
  refine ⟨q_R_fails, rfl, Nat.le_of_ble_eq_true rfl, ?_⟩
  refine ev_ex 0 (c' := (0, [some (.ref 2), some (.int a0)], [], cH c s)) rfl ?_
  refine ev_ex 4 (c' := (6, [some (.ref 2), some (.int a0)], [.int 0], cH c (rF s 4 a0))) rfl ?_
  exact ev_ret rfl rfl rfl ⟨_, _, rfl, rfl, H⟩
theorem w_R_thrown {c : CX} {d : Nat} {s : RS} {Q : Int32 → RS → Prop}  (H : Q (s.1 4) s) : RI c (d) m_R_thrown [.ref 2] s Q := by
  refine ⟨q_R_thrown, rfl, Nat.le_of_ble_eq_true rfl, ?_⟩
  refine ev_ex 0 (c' := (0, [some (.ref 2)], [], cH c s)) rfl ?_
  refine ev_ex 2 (c' := (4, [some (.ref 2)], [.int (s.1 4)], cH c s)) rfl ?_
  exact ev_ret rfl rfl rfl ⟨_, _, rfl, rfl, H⟩
theorem w_R_isLetter {c : CX} {d : Nat} {s : RS} {Q : Bool → RS → Prop} (a0 : Int32) (H : ((a0 < 97 → Q false s) ∧ (¬ a0 < 97 → ((122 < a0 → Q false s) ∧ (¬ 122 < a0 → Q true s))))) : RB c (d) m_R_isLetter [.int a0] s Q := by
  refine ⟨q_R_isLetter, rfl, Nat.le_of_ble_eq_true rfl, ?_⟩
  refine ev_ex 0 (c' := (0, [some (.int a0)], [], cH c s)) rfl ?_
  refine ev_ex 2 (c' := (3, [some (.int a0)], [.int 97, .int a0], cH c s)) rfl ?_
  refine ev_icmp_lt (tgt := 16) rfl rfl (fun h => ?_) (fun h => ?_)
  · replace H := H.1 (h)
    refine ev_ex 1 (c' := (17, [some (.int a0)], [.int 0], cH c s)) rfl ?_
    exact ev_retB (x := false) rfl rfl ⟨_, _, rfl, rfl, H⟩
  · replace H := H.2 (h)
    refine ev_ex 2 (c' := (9, [some (.int a0)], [.int 122, .int a0], cH c s)) rfl ?_
    refine ev_icmp_gt (tgt := 16) rfl rfl (fun h => ?_) (fun h => ?_)
    · replace H := H.1 (h)
      refine ev_ex 1 (c' := (17, [some (.int a0)], [.int 0], cH c s)) rfl ?_
      exact ev_retB (x := false) rfl rfl ⟨_, _, rfl, rfl, H⟩
    · replace H := H.2 (h)
      refine ev_ex 2 (c' := (17, [some (.int a0)], [.int 1], cH c s)) rfl ?_
      exact ev_retB (x := true) rfl rfl ⟨_, _, rfl, rfl, H⟩
theorem w_R_isDigit {c : CX} {d : Nat} {s : RS} {Q : Bool → RS → Prop} (a0 : Int32) (H : ((a0 < 48 → Q false s) ∧ (¬ a0 < 48 → ((57 < a0 → Q false s) ∧ (¬ 57 < a0 → Q true s))))) : RB c (d) m_R_isDigit [.int a0] s Q := by
  refine ⟨q_R_isDigit, rfl, Nat.le_of_ble_eq_true rfl, ?_⟩
  refine ev_ex 0 (c' := (0, [some (.int a0)], [], cH c s)) rfl ?_
  refine ev_ex 2 (c' := (3, [some (.int a0)], [.int 48, .int a0], cH c s)) rfl ?_
  refine ev_icmp_lt (tgt := 16) rfl rfl (fun h => ?_) (fun h => ?_)
  · replace H := H.1 (h)
    refine ev_ex 1 (c' := (17, [some (.int a0)], [.int 0], cH c s)) rfl ?_
    exact ev_retB (x := false) rfl rfl ⟨_, _, rfl, rfl, H⟩
  · replace H := H.2 (h)
    refine ev_ex 2 (c' := (9, [some (.int a0)], [.int 57, .int a0], cH c s)) rfl ?_
    refine ev_icmp_gt (tgt := 16) rfl rfl (fun h => ?_) (fun h => ?_)
    · replace H := H.1 (h)
      refine ev_ex 1 (c' := (17, [some (.int a0)], [.int 0], cH c s)) rfl ?_
      exact ev_retB (x := false) rfl rfl ⟨_, _, rfl, rfl, H⟩
    · replace H := H.2 (h)
      refine ev_ex 2 (c' := (17, [some (.int a0)], [.int 1], cH c s)) rfl ?_
      exact ev_retB (x := true) rfl rfl ⟨_, _, rfl, rfl, H⟩
theorem w_R_isSign {c : CX} {d : Nat} {s : RS} {Q : Bool → RS → Prop} (a0 : Int32) (H : ((¬ (s.1 12) = 0 → Q false s) ∧ ((s.1 12) = 0 → ((¬ (s.1 10) = a0 → Q false s) ∧ ((s.1 10) = a0 → Q true s))))) : RB c (d) m_R_isSign [.ref 2, .int a0] s Q := by
  refine ⟨q_R_isSign, rfl, Nat.le_of_ble_eq_true rfl, ?_⟩
  refine ev_ex 0 (c' := (0, [some (.ref 2), some (.int a0)], [], cH c s)) rfl ?_
  refine ev_ex 2 (c' := (4, [some (.ref 2), some (.int a0)], [.int (s.1 12)], cH c s)) rfl ?_
  refine ev_if_ne (tgt := 19) rfl rfl (fun h => ?_) (fun h => ?_)
  · replace H := H.1 (h)
    refine ev_ex 1 (c' := (20, [some (.ref 2), some (.int a0)], [.int 0], cH c s)) rfl ?_
    exact ev_retB (x := false) rfl rfl ⟨_, _, rfl, rfl, H⟩
  · replace H := H.2 (h)
    refine ev_ex 3 (c' := (12, [some (.ref 2), some (.int a0)], [.int a0, .int (s.1 10)], cH c s)) rfl ?_
    refine ev_icmp_ne (tgt := 19) rfl rfl (fun h => ?_) (fun h => ?_)
    · replace H := H.1 (h)
      refine ev_ex 1 (c' := (20, [some (.ref 2), some (.int a0)], [.int 0], cH c s)) rfl ?_
      exact ev_retB (x := false) rfl rfl ⟨_, _, rfl, rfl, H⟩
    · replace H := H.2 (h)
      refine ev_ex 2 (c' := (20, [some (.ref 2), some (.int a0)], [.int 1], cH c s)) rfl ?_
      exact ev_retB (x := true) rfl rfl ⟨_, _, rfl, rfl, H⟩
theorem w_R_see {c : CX} {d : Nat} {s : RS} {Q : Int32 → RS → Prop} (a0 : Int32) (H : (((s.1 7) ≤ a0 → Q 0 s) ∧ (¬ (s.1 7) ≤ a0 → (okx a0 900 ∧ Q (s.2.1 5 (ix a0)) s)))) : RI c (d) m_R_see [.ref 2, .int a0] s Q := by
  refine ⟨q_R_see, rfl, Nat.le_of_ble_eq_true rfl, ?_⟩
  refine ev_ex 0 (c' := (0, [some (.ref 2), some (.int a0)], [], cH c s)) rfl ?_
  refine ev_ex 3 (c' := (5, [some (.ref 2), some (.int a0)], [.int (s.1 7), .int a0], cH c s)) rfl ?_
  refine ev_icmp_ge (tgt := 17) rfl rfl (fun h => ?_) (fun h => ?_)
  · replace H := H.1 (h)
    refine ev_ex 1 (c' := (18, [some (.ref 2), some (.int a0)], [.int 0], cH c s)) rfl ?_
    exact ev_ret rfl rfl rfl ⟨_, _, rfl, rfl, H⟩
  · replace H := H.2 (h)
    refine ev_ex 3 (c' := (13, [some (.ref 2), some (.int a0)], [.int a0, .ref 22], cH c s)) rfl ?_
    obtain ⟨H0, H⟩ := H
    refine ev_ald (i := .iaload) rfl (Or.inl rfl) rfl H0 (v := .int (s.2.1 5 (ix a0))) rfl ?_
    refine ev_ex 1 (c' := (18, [some (.ref 2), some (.int a0)], [.int (s.2.1 5 (ix a0))], cH c s)) rfl ?_
    exact ev_ret rfl rfl rfl ⟨_, _, rfl, rfl, H⟩
theorem w_R_trayFault {c : CX} {d : Nat} {s : RS} {Q : Int32 → RS → Prop} (a0 : Int32) (H : RB c d m_R_isTray [.int a0] s (fun v2 s1 => ((v2 = true → (okx a0 4 ∧ ((¬ (s1.2.1 15 (ix a0)) = ((-1)) → Q 0 s1) ∧ ((s1.2.1 15 (ix a0)) = ((-1)) → Q 2 s1)))) ∧ (v2 = false → Q 1 s1)))) : RI c (d + 1) m_R_trayFault [.ref 2, .int a0] s Q := by
  refine ⟨q_R_trayFault, rfl, Nat.le_of_ble_eq_true rfl, ?_⟩
  refine ev_ex 0 (c' := (0, [some (.ref 2), some (.int a0)], [], cH c s)) rfl ?_
  refine ev_ex 1 (c' := (1, [some (.ref 2), some (.int a0)], [.int a0], cH c s)) rfl ?_
  refine rc_B (idx := 341) rfl rfl rfl (Nat.le_of_ble_eq_true rfl) (Nat.le_of_ble_eq_true rfl) rfl H (fun v2 s1 H => ?_)
  refine ev_if_neB (x := v2) (tgt := 11) rfl rfl (fun h => ?_) (fun h => ?_)
  · replace H := H.1 (h)
    refine ev_ex 3 (c' := (16, [some (.ref 2), some (.int a0)], [.int a0, .ref 62], cH c s1)) rfl ?_
    obtain ⟨H0, H⟩ := H
    refine ev_ald (i := .iaload) rfl (Or.inl rfl) rfl H0 (v := .int (s1.2.1 15 (ix a0))) rfl ?_
    refine ev_ex 1 (c' := (18, [some (.ref 2), some (.int a0)], [.int ((-1)), .int (s1.2.1 15 (ix a0))], cH c s1)) rfl ?_
    refine ev_icmp_ne (tgt := 25) rfl rfl (fun h => ?_) (fun h => ?_)
    · replace H := H.1 (h)
      refine ev_ex 1 (c' := (26, [some (.ref 2), some (.int a0)], [.int 0], cH c s1)) rfl ?_
      exact ev_ret rfl rfl rfl ⟨_, _, rfl, rfl, H⟩
    · replace H := H.2 (h)
      refine ev_ex 2 (c' := (26, [some (.ref 2), some (.int a0)], [.int 2], cH c s1)) rfl ?_
      exact ev_ret rfl rfl rfl ⟨_, _, rfl, rfl, H⟩
  · replace H := H.2 (h)
    refine ev_ex 2 (c' := (26, [some (.ref 2), some (.int a0)], [.int 1], cH c s1)) rfl ?_
    exact ev_ret rfl rfl rfl ⟨_, _, rfl, rfl, H⟩
theorem w_JM_max {c : CX} {d : Nat} {s : RS} {Q : Int32 → RS → Prop} (a0 : Int32) (a1 : Int32) (H : ((a0 < a1 → Q a1 s) ∧ (¬ a0 < a1 → Q a0 s))) : RI c (d) m_JM_max [.int a0, .int a1] s Q := by
  refine ⟨q_JM_max, rfl, Nat.le_of_ble_eq_true rfl, ?_⟩
  refine ev_ex 0 (c' := (0, [some (.int a0), some (.int a1)], [], cH c s)) rfl ?_
  refine ev_ex 2 (c' := (2, [some (.int a0), some (.int a1)], [.int a1, .int a0], cH c s)) rfl ?_
  refine ev_icmp_lt (tgt := 9) rfl rfl (fun h => ?_) (fun h => ?_)
  · replace H := H.1 (h)
    refine ev_ex 1 (c' := (10, [some (.int a0), some (.int a1)], [.int a1], cH c s)) rfl ?_
    exact ev_ret rfl rfl rfl ⟨_, _, rfl, rfl, H⟩
  · replace H := H.2 (h)
    refine ev_ex 2 (c' := (10, [some (.int a0), some (.int a1)], [.int a0], cH c s)) rfl ?_
    exact ev_ret rfl rfl rfl ⟨_, _, rfl, rfl, H⟩
theorem w_JM_min {c : CX} {d : Nat} {s : RS} {Q : Int32 → RS → Prop} (a0 : Int32) (a1 : Int32) (H : ((a1 < a0 → Q a1 s) ∧ (¬ a1 < a0 → Q a0 s))) : RI c (d) m_JM_min [.int a0, .int a1] s Q := by
  refine ⟨q_JM_min, rfl, Nat.le_of_ble_eq_true rfl, ?_⟩
  refine ev_ex 0 (c' := (0, [some (.int a0), some (.int a1)], [], cH c s)) rfl ?_
  refine ev_ex 2 (c' := (2, [some (.int a0), some (.int a1)], [.int a1, .int a0], cH c s)) rfl ?_
  refine ev_icmp_gt (tgt := 9) rfl rfl (fun h => ?_) (fun h => ?_)
  · replace H := H.1 (h)
    refine ev_ex 1 (c' := (10, [some (.int a0), some (.int a1)], [.int a1], cH c s)) rfl ?_
    exact ev_ret rfl rfl rfl ⟨_, _, rfl, rfl, H⟩
  · replace H := H.2 (h)
    refine ev_ex 2 (c' := (10, [some (.int a0), some (.int a1)], [.int a0], cH c s)) rfl ?_
    exact ev_ret rfl rfl rfl ⟨_, _, rfl, rfl, H⟩
theorem w_JM_abs {c : CX} {d : Nat} {s : RS} {Q : Int32 → RS → Prop} (a0 : Int32) (H : ((0 ≤ a0 → Q a0 s) ∧ (¬ 0 ≤ a0 → Q (-a0) s))) : RI c (d) m_JM_abs [.int a0] s Q := by
  refine ⟨q_JM_abs, rfl, Nat.le_of_ble_eq_true rfl, ?_⟩
  refine ev_ex 0 (c' := (0, [some (.int a0)], [], cH c s)) rfl ?_
  refine ev_ex 1 (c' := (1, [some (.int a0)], [.int a0], cH c s)) rfl ?_
  refine ev_if_ge (tgt := 9) rfl rfl (fun h => ?_) (fun h => ?_)
  · replace H := H.1 (h)
    refine ev_ex 1 (c' := (10, [some (.int a0)], [.int a0], cH c s)) rfl ?_
    exact ev_ret rfl rfl rfl ⟨_, _, rfl, rfl, H⟩
  · replace H := H.2 (h)
    refine ev_ex 3 (c' := (10, [some (.int a0)], [.int (-a0)], cH c s)) rfl ?_
    exact ev_ret rfl rfl rfl ⟨_, _, rfl, rfl, H⟩
theorem w_JM_max_2 {c : CX} {d : Nat} {s : RS} {Q : Int64 → RS → Prop} (a0 : Int64) (a1 : Int64) (H : ((a0 < a1 → Q a1 s) ∧ (¬ a0 < a1 → Q a0 s))) : RJ c (d) m_JM_max_2 [.long a0, .long a1] s Q := by
  refine ⟨q_JM_max_2, rfl, Nat.le_of_ble_eq_true rfl, ?_⟩
  refine ev_ex 0 (c' := (0, [some (.long a0), none, some (.long a1), none], [], cH c s)) rfl ?_
  refine ev_ex 3 (c' := (3, [some (.long a0), none, some (.long a1), none], [.int (lg_cmp a0 a1)], cH c s)) rfl ?_
  refine ev_if_lt (tgt := 10) rfl rfl (fun h => ?_) (fun h => ?_)
  · replace H := H.1 ((lg_cmp_lt _ _).mp h)
    refine ev_ex 1 (c' := (11, [some (.long a0), none, some (.long a1), none], [.long a1], cH c s)) rfl ?_
    exact ev_ret rfl rfl rfl ⟨_, _, rfl, rfl, H⟩
  · replace H := H.2 ((fun q => h ((lg_cmp_lt _ _).mpr q)))
    refine ev_ex 2 (c' := (11, [some (.long a0), none, some (.long a1), none], [.long a0], cH c s)) rfl ?_
    exact ev_ret rfl rfl rfl ⟨_, _, rfl, rfl, H⟩
theorem w_JM_min_2 {c : CX} {d : Nat} {s : RS} {Q : Int64 → RS → Prop} (a0 : Int64) (a1 : Int64) (H : ((a1 < a0 → Q a1 s) ∧ (¬ a1 < a0 → Q a0 s))) : RJ c (d) m_JM_min_2 [.long a0, .long a1] s Q := by
  refine ⟨q_JM_min_2, rfl, Nat.le_of_ble_eq_true rfl, ?_⟩
  refine ev_ex 0 (c' := (0, [some (.long a0), none, some (.long a1), none], [], cH c s)) rfl ?_
  refine ev_ex 3 (c' := (3, [some (.long a0), none, some (.long a1), none], [.int (lg_cmp a0 a1)], cH c s)) rfl ?_
  refine ev_if_gt (tgt := 10) rfl rfl (fun h => ?_) (fun h => ?_)
  · replace H := H.1 ((lg_cmp_gt _ _).mp h)
    refine ev_ex 1 (c' := (11, [some (.long a0), none, some (.long a1), none], [.long a1], cH c s)) rfl ?_
    exact ev_ret rfl rfl rfl ⟨_, _, rfl, rfl, H⟩
  · replace H := H.2 ((fun q => h ((lg_cmp_gt _ _).mpr q)))
    refine ev_ex 2 (c' := (11, [some (.long a0), none, some (.long a1), none], [.long a0], cH c s)) rfl ?_
    exact ev_ret rfl rfl rfl ⟨_, _, rfl, rfl, H⟩
