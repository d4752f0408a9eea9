/-! written by wip/gen/vcg.py: what runs of the reference's reading ask -/
set_option maxRecDepth 8000 in
theorem w_R_readsOn {c : CX} {d : Nat} {s : RS} {Q : RS → Prop}  (H : eR c (d + 1) m_R_readsOn 0 [some (.ref 2), none] s (pV c Q)) : RV c (d + 1) m_R_readsOn [.ref 2] s Q := by
  refine ⟨q_R_readsOn, rfl, Nat.le_of_ble_eq_true rfl, ?_⟩
  refine ev_ex 0 (c' := (0, [some (.ref 2), none], [], cH c s)) rfl ?_
  exact H
set_option maxRecDepth 8000 in
theorem w_R_readsOn_0 {c : CX} {d : Nat} {s : RS} {Q : RS → Prop}  (H : (((s.1 7) ≤ (s.1 8) → (((s.1 8) < (s.1 7) → (okx (s.1 8) 900 ∧ (((isLt (s.2.1 5 (ix (s.1 8)))) = false → (((isDg (s.2.1 5 (ix (s.1 8)))) = false → RB c d m_R_isSignByte [.int (s.2.1 5 (ix (s.1 8)))] (rF s 9 (s.1 8)) (fun v2 s1 => ((v2 = false → Q (rF (rF s1 10 3) 8 ((s1.1 8) + 1))) ∧ (v2 = true → Q (rF (rF s1 10 (s.2.1 5 (ix (s.1 8)))) 8 ((s1.1 8) + 1)))))) ∧ ((isDg (s.2.1 5 (ix (s.1 8)))) = true → eR c (d + 1) m_R_readsOn 141 [some (.ref 2), some (.int (s.2.1 5 (ix (s.1 8))))] (rF (rF s 9 (s.1 8)) 11 0) (pV c Q)))) ∧ ((isLt (s.2.1 5 (ix (s.1 8)))) = true → eR c (d + 1) m_R_readsOn 94 [some (.ref 2), some (.int (s.2.1 5 (ix (s.1 8))))] (rF s 9 (s.1 8)) (pV c Q))))) ∧ (¬ (s.1 8) < (s.1 7) → Q (rF (rF s 9 (s.1 8)) 10 0)))) ∧ (¬ (s.1 7) ≤ (s.1 8) → (okx (s.1 8) 900 ∧ (((s.2.1 5 (ix (s.1 8))) = 32 → eR c (d + 1) m_R_readsOn 0 [some (.ref 2), none] (rF s 8 ((s.1 8) + 1)) (pV c Q)) ∧ (¬ (s.2.1 5 (ix (s.1 8))) = 32 → (okx (s.1 8) 900 ∧ ((¬ (s.2.1 5 (ix (s.1 8))) = 10 → (((s.1 8) < (s.1 7) → (okx (s.1 8) 900 ∧ (((isLt (s.2.1 5 (ix (s.1 8)))) = false → (((isDg (s.2.1 5 (ix (s.1 8)))) = false → RB c d m_R_isSignByte [.int (s.2.1 5 (ix (s.1 8)))] (rF s 9 (s.1 8)) (fun v4 s3 => ((v4 = false → Q (rF (rF s3 10 3) 8 ((s3.1 8) + 1))) ∧ (v4 = true → Q (rF (rF s3 10 (s.2.1 5 (ix (s.1 8)))) 8 ((s3.1 8) + 1)))))) ∧ ((isDg (s.2.1 5 (ix (s.1 8)))) = true → eR c (d + 1) m_R_readsOn 141 [some (.ref 2), some (.int (s.2.1 5 (ix (s.1 8))))] (rF (rF s 9 (s.1 8)) 11 0) (pV c Q)))) ∧ ((isLt (s.2.1 5 (ix (s.1 8)))) = true → eR c (d + 1) m_R_readsOn 94 [some (.ref 2), some (.int (s.2.1 5 (ix (s.1 8))))] (rF s 9 (s.1 8)) (pV c Q))))) ∧ (¬ (s.1 8) < (s.1 7) → Q (rF (rF s 9 (s.1 8)) 10 0)))) ∧ ((s.2.1 5 (ix (s.1 8))) = 10 → eR c (d + 1) m_R_readsOn 0 [some (.ref 2), none] (rF s 8 ((s.1 8) + 1)) (pV c Q)))))))))) : eR c (d + 1) m_R_readsOn 0 [some (.ref 2), none] s (pV c Q) := by
  unfold eR
  refine ev_ex 0 (c' := (0, [some (.ref 2), none], [], cH c s)) rfl ?_
  refine ev_ex 4 (c' := (8, [some (.ref 2), none], [.int (s.1 7), .int (s.1 8)], cH c s)) rfl ?_
  refine ev_icmp_ge (tgt := 52) rfl rfl (fun h => ?_) (fun h => ?_)
  · replace H := H.1 (h)
    refine ev_ex 8 (c' := (68, [some (.ref 2), none], [.int (s.1 7), .int (s.1 8)], cH c (rF s 9 (s.1 8)))) rfl ?_
    refine ev_icmp_lt (tgt := 77) rfl rfl (fun h => ?_) (fun h => ?_)
    · replace H := H.1 (h)
      refine ev_ex 4 (c' := (85, [some (.ref 2), none], [.int (s.1 8), .ref 22], cH c (rF s 9 (s.1 8)))) rfl ?_
      obtain ⟨H0, H⟩ := H
      refine ev_ald (i := .iaload) rfl (Or.inl rfl) rfl H0 (v := .int (s.2.1 5 (ix (s.1 8)))) rfl ?_
      refine ev_ex 2 (c' := (88, [some (.ref 2), some (.int (s.2.1 5 (ix (s.1 8))))], [.int (s.2.1 5 (ix (s.1 8)))], cH c (rF s 9 (s.1 8)))) rfl ?_
      refine rq_B (idx := 93) (V := isLt (s.2.1 5 (ix (s.1 8)))) (S := rF s 9 (s.1 8)) rfl rfl rfl (Nat.le_of_ble_eq_true rfl) (Nat.le_of_ble_eq_true rfl) rfl (zq_R_isLetter ⟨rfl, rfl⟩) ?_
      refine ev_if_eqB (x := (isLt (s.2.1 5 (ix (s.1 8))))) (tgt := 129) rfl rfl (fun h => ?_) (fun h => ?_)
      · replace H := H.1 (h)
        refine ev_ex 1 (c' := (130, [some (.ref 2), some (.int (s.2.1 5 (ix (s.1 8))))], [.int (s.2.1 5 (ix (s.1 8)))], cH c (rF s 9 (s.1 8)))) rfl ?_
        refine rq_B (idx := 101) (V := isDg (s.2.1 5 (ix (s.1 8)))) (S := rF s 9 (s.1 8)) rfl rfl rfl (Nat.le_of_ble_eq_true rfl) (Nat.le_of_ble_eq_true rfl) rfl (zq_R_isDigit ⟨rfl, rfl⟩) ?_
        refine ev_if_eqB (x := (isDg (s.2.1 5 (ix (s.1 8))))) (tgt := 237) rfl rfl (fun h => ?_) (fun h => ?_)
        · replace H := H.1 (h)
          refine ev_ex 2 (c' := (239, [some (.ref 2), some (.int (s.2.1 5 (ix (s.1 8))))], [.int (s.2.1 5 (ix (s.1 8))), .ref 2], cH c (rF s 9 (s.1 8)))) rfl ?_
          refine rc_B (idx := 107) rfl rfl rfl (Nat.le_of_ble_eq_true rfl) (Nat.le_of_ble_eq_true rfl) rfl H (fun v2 s1 H => ?_)
          refine ev_if_eqB (x := v2) (tgt := 249) rfl rfl (fun h => ?_) (fun h => ?_)
          · replace H := H.1 (h)
            refine ev_ex 8 (c' := (263, [some (.ref 2), some (.int (s.2.1 5 (ix (s.1 8))))], [], cH c (rF (rF s1 10 3) 8 ((s1.1 8) + 1)))) rfl ?_
            exact ev_ret rfl rfl rfl ⟨_, rfl, rfl, H⟩
          · replace H := H.2 (h)
            refine ev_ex 9 (c' := (263, [some (.ref 2), some (.int (s.2.1 5 (ix (s.1 8))))], [], cH c (rF (rF s1 10 (s.2.1 5 (ix (s.1 8)))) 8 ((s1.1 8) + 1)))) rfl ?_
            exact ev_ret rfl rfl rfl ⟨_, rfl, rfl, H⟩
        · replace H := H.2 (h)
          refine ev_ex 3 (c' := (141, [some (.ref 2), some (.int (s.2.1 5 (ix (s.1 8))))], [], cH c (rF (rF s 9 (s.1 8)) 11 0))) rfl ?_
          exact H
      · replace H := H.2 (h)
        exact H
    · replace H := H.2 (h)
      refine ev_ex 3 (c' := (76, [some (.ref 2), none], [], cH c (rF (rF s 9 (s.1 8)) 10 0))) rfl ?_
      exact ev_ret rfl rfl rfl ⟨_, rfl, rfl, H⟩
  · replace H := H.2 (h)
    refine ev_ex 4 (c' := (19, [some (.ref 2), none], [.int (s.1 8), .ref 22], cH c s)) rfl ?_
    obtain ⟨H0, H⟩ := H
    refine ev_ald (i := .iaload) rfl (Or.inl rfl) rfl H0 (v := .int (s.2.1 5 (ix (s.1 8)))) rfl ?_
    refine ev_ex 1 (c' := (22, [some (.ref 2), none], [.int 32, .int (s.2.1 5 (ix (s.1 8)))], cH c s)) rfl ?_
    refine ev_icmp_eq (tgt := 39) rfl rfl (fun h => ?_) (fun h => ?_)
    · replace H := H.1 (h)
      refine ev_ex 7 (c' := (0, [some (.ref 2), none], [], cH c (rF s 8 ((s.1 8) + 1)))) rfl ?_
      exact H
    · replace H := H.2 (h)
      refine ev_ex 4 (c' := (33, [some (.ref 2), none], [.int (s.1 8), .ref 22], cH c s)) rfl ?_
      obtain ⟨H0, H⟩ := H
      refine ev_ald (i := .iaload) rfl (Or.inl rfl) rfl H0 (v := .int (s.2.1 5 (ix (s.1 8)))) rfl ?_
      refine ev_ex 1 (c' := (36, [some (.ref 2), none], [.int 10, .int (s.2.1 5 (ix (s.1 8)))], cH c s)) rfl ?_
      refine ev_icmp_ne (tgt := 52) rfl rfl (fun h => ?_) (fun h => ?_)
      · replace H := H.1 (h)
        refine ev_ex 8 (c' := (68, [some (.ref 2), none], [.int (s.1 7), .int (s.1 8)], cH c (rF s 9 (s.1 8)))) rfl ?_
        refine ev_icmp_lt (tgt := 77) rfl rfl (fun h => ?_) (fun h => ?_)
        · replace H := H.1 (h)
          refine ev_ex 4 (c' := (85, [some (.ref 2), none], [.int (s.1 8), .ref 22], cH c (rF s 9 (s.1 8)))) rfl ?_
          obtain ⟨H0, H⟩ := H
          refine ev_ald (i := .iaload) rfl (Or.inl rfl) rfl H0 (v := .int (s.2.1 5 (ix (s.1 8)))) rfl ?_
          refine ev_ex 2 (c' := (88, [some (.ref 2), some (.int (s.2.1 5 (ix (s.1 8))))], [.int (s.2.1 5 (ix (s.1 8)))], cH c (rF s 9 (s.1 8)))) rfl ?_
          refine rq_B (idx := 93) (V := isLt (s.2.1 5 (ix (s.1 8)))) (S := rF s 9 (s.1 8)) rfl rfl rfl (Nat.le_of_ble_eq_true rfl) (Nat.le_of_ble_eq_true rfl) rfl (zq_R_isLetter ⟨rfl, rfl⟩) ?_
          refine ev_if_eqB (x := (isLt (s.2.1 5 (ix (s.1 8))))) (tgt := 129) rfl rfl (fun h => ?_) (fun h => ?_)
          · replace H := H.1 (h)
            refine ev_ex 1 (c' := (130, [some (.ref 2), some (.int (s.2.1 5 (ix (s.1 8))))], [.int (s.2.1 5 (ix (s.1 8)))], cH c (rF s 9 (s.1 8)))) rfl ?_
            refine rq_B (idx := 101) (V := isDg (s.2.1 5 (ix (s.1 8)))) (S := rF s 9 (s.1 8)) rfl rfl rfl (Nat.le_of_ble_eq_true rfl) (Nat.le_of_ble_eq_true rfl) rfl (zq_R_isDigit ⟨rfl, rfl⟩) ?_
            refine ev_if_eqB (x := (isDg (s.2.1 5 (ix (s.1 8))))) (tgt := 237) rfl rfl (fun h => ?_) (fun h => ?_)
            · replace H := H.1 (h)
              refine ev_ex 2 (c' := (239, [some (.ref 2), some (.int (s.2.1 5 (ix (s.1 8))))], [.int (s.2.1 5 (ix (s.1 8))), .ref 2], cH c (rF s 9 (s.1 8)))) rfl ?_
              refine rc_B (idx := 107) rfl rfl rfl (Nat.le_of_ble_eq_true rfl) (Nat.le_of_ble_eq_true rfl) rfl H (fun v4 s3 H => ?_)
              refine ev_if_eqB (x := v4) (tgt := 249) rfl rfl (fun h => ?_) (fun h => ?_)
              · replace H := H.1 (h)
                refine ev_ex 8 (c' := (263, [some (.ref 2), some (.int (s.2.1 5 (ix (s.1 8))))], [], cH c (rF (rF s3 10 3) 8 ((s3.1 8) + 1)))) rfl ?_
                exact ev_ret rfl rfl rfl ⟨_, rfl, rfl, H⟩
              · replace H := H.2 (h)
                refine ev_ex 9 (c' := (263, [some (.ref 2), some (.int (s.2.1 5 (ix (s.1 8))))], [], cH c (rF (rF s3 10 (s.2.1 5 (ix (s.1 8)))) 8 ((s3.1 8) + 1)))) rfl ?_
                exact ev_ret rfl rfl rfl ⟨_, rfl, rfl, H⟩
            · replace H := H.2 (h)
              refine ev_ex 3 (c' := (141, [some (.ref 2), some (.int (s.2.1 5 (ix (s.1 8))))], [], cH c (rF (rF s 9 (s.1 8)) 11 0))) rfl ?_
              exact H
          · replace H := H.2 (h)
            exact H
        · replace H := H.2 (h)
          refine ev_ex 3 (c' := (76, [some (.ref 2), none], [], cH c (rF (rF s 9 (s.1 8)) 10 0))) rfl ?_
          exact ev_ret rfl rfl rfl ⟨_, rfl, rfl, H⟩
      · replace H := H.2 (h)
        refine ev_ex 7 (c' := (0, [some (.ref 2), none], [], cH c (rF s 8 ((s.1 8) + 1)))) rfl ?_
        exact H
set_option maxRecDepth 8000 in
theorem w_R_readsOn_141 {c : CX} {d : Nat} {s : RS} {Q : RS → Prop} (l1 : Int32) (H : RI c d m_R_see [.ref 2, .int (s.1 8)] s (fun v2 s1 => (((isDg v2) = false → ((((s1.1 8) - (s1.1 9)) ≤ 3 → Q (rF s1 10 2)) ∧ (¬ ((s1.1 8) - (s1.1 9)) ≤ 3 → Q (rF s1 10 3)))) ∧ ((isDg v2) = true → ((3 ≤ ((s1.1 8) - (s1.1 9)) → eR c (d + 1) m_R_readsOn 141 [some (.ref 2), some (.int l1)] (rF (rF s1 11 (s1.1 11)) 8 ((s1.1 8) + 1)) (pV c Q)) ∧ (¬ 3 ≤ ((s1.1 8) - (s1.1 9)) → (okx (s1.1 8) 900 ∧ eR c (d + 1) m_R_readsOn 141 [some (.ref 2), some (.int l1)] (rF (rF s1 11 (((10 * (s1.1 11)) + (s1.2.1 5 (ix (s1.1 8)))) - 48)) 8 ((s1.1 8) + 1)) (pV c Q)))))))) : eR c (d + 1) m_R_readsOn 141 [some (.ref 2), some (.int l1)] s (pV c Q) := by
  unfold eR
  refine ev_ex 0 (c' := (141, [some (.ref 2), some (.int l1)], [], cH c s)) rfl ?_
  refine ev_ex 3 (c' := (146, [some (.ref 2), some (.int l1)], [.int (s.1 8), .ref 2], cH c s)) rfl ?_
  refine rc_I (idx := 97) rfl rfl rfl (Nat.le_of_ble_eq_true rfl) (Nat.le_of_ble_eq_true rfl) rfl H (fun v2 s1 H => ?_)
  refine rq_B (idx := 101) (V := isDg v2) (S := s1) rfl rfl rfl (Nat.le_of_ble_eq_true rfl) (Nat.le_of_ble_eq_true rfl) rfl (zq_R_isDigit ⟨rfl, rfl⟩) ?_
  refine ev_if_eqB (x := (isDg v2)) (tgt := 212) rfl rfl (fun h => ?_) (fun h => ?_)
  · replace H := H.1 (h)
    refine ev_ex 7 (c' := (223, [some (.ref 2), some (.int l1)], [.int 3, .int ((s1.1 8) - (s1.1 9)), .ref 2], cH c s1)) rfl ?_
    refine ev_icmp_le (tgt := 230) rfl rfl (fun h => ?_) (fun h => ?_)
    · replace H := H.1 (h)
      refine ev_ex 3 (c' := (263, [some (.ref 2), some (.int l1)], [], cH c (rF s1 10 2))) rfl ?_
      exact ev_ret rfl rfl rfl ⟨_, rfl, rfl, H⟩
    · replace H := H.2 (h)
      refine ev_ex 4 (c' := (263, [some (.ref 2), some (.int l1)], [], cH c (rF s1 10 3))) rfl ?_
      exact ev_ret rfl rfl rfl ⟨_, rfl, rfl, H⟩
  · replace H := H.2 (h)
    refine ev_ex 7 (c' := (166, [some (.ref 2), some (.int l1)], [.int 3, .int ((s1.1 8) - (s1.1 9)), .ref 2], cH c s1)) rfl ?_
    refine ev_icmp_ge (tgt := 192) rfl rfl (fun h => ?_) (fun h => ?_)
    · replace H := H.1 (h)
      refine ev_ex 10 (c' := (141, [some (.ref 2), some (.int l1)], [], cH c (rF (rF s1 11 (s1.1 11)) 8 ((s1.1 8) + 1)))) rfl ?_
      exact H
    · replace H := H.2 (h)
      refine ev_ex 8 (c' := (184, [some (.ref 2), some (.int l1)], [.int (s1.1 8), .ref 22, .int (10 * (s1.1 11)), .ref 2], cH c s1)) rfl ?_
      obtain ⟨H0, H⟩ := H
      refine ev_ald (i := .iaload) rfl (Or.inl rfl) rfl H0 (v := .int (s1.2.1 5 (ix (s1.1 8)))) rfl ?_
      refine ev_ex 12 (c' := (141, [some (.ref 2), some (.int l1)], [], cH c (rF (rF s1 11 (((10 * (s1.1 11)) + (s1.2.1 5 (ix (s1.1 8)))) - 48)) 8 ((s1.1 8) + 1)))) rfl ?_
      exact H
set_option maxRecDepth 8000 in
theorem w_R_readsOn_94 {c : CX} {d : Nat} {s : RS} {Q : RS → Prop} (l1 : Int32) (H : RI c d m_R_see [.ref 2, .int (s.1 8)] s (fun v2 s1 => (((isLt v2) = false → Q (rF s1 10 1)) ∧ ((isLt v2) = true → eR c (d + 1) m_R_readsOn 94 [some (.ref 2), some (.int l1)] (rF s1 8 ((s1.1 8) + 1)) (pV c Q))))) : eR c (d + 1) m_R_readsOn 94 [some (.ref 2), some (.int l1)] s (pV c Q) := by
  unfold eR
  refine ev_ex 0 (c' := (94, [some (.ref 2), some (.int l1)], [], cH c s)) rfl ?_
  refine ev_ex 3 (c' := (99, [some (.ref 2), some (.int l1)], [.int (s.1 8), .ref 2], cH c s)) rfl ?_
  refine rc_I (idx := 97) rfl rfl rfl (Nat.le_of_ble_eq_true rfl) (Nat.le_of_ble_eq_true rfl) rfl H (fun v2 s1 H => ?_)
  refine rq_B (idx := 93) (V := isLt v2) (S := s1) rfl rfl rfl (Nat.le_of_ble_eq_true rfl) (Nat.le_of_ble_eq_true rfl) rfl (zq_R_isLetter ⟨rfl, rfl⟩) ?_
  refine ev_if_eqB (x := (isLt v2)) (tgt := 121) rfl rfl (fun h => ?_) (fun h => ?_)
  · replace H := H.1 (h)
    refine ev_ex 4 (c' := (263, [some (.ref 2), some (.int l1)], [], cH c (rF s1 10 1))) rfl ?_
    exact ev_ret rfl rfl rfl ⟨_, rfl, rfl, H⟩
  · replace H := H.2 (h)
    refine ev_ex 7 (c' := (94, [some (.ref 2), some (.int l1)], [], cH c (rF s1 8 ((s1.1 8) + 1)))) rfl ?_
    exact H
set_option maxRecDepth 8000 in
theorem w_R_readLine {c : CX} {d : Nat} {s : RS} {Q : RS → Prop}  (H : RB c d m_R_isWord [.ref 2, .ref 176] s (fun v2 s1 => ((v2 = false → RB c d m_R_isWord [.ref 2, .ref 224] s1 (fun v4 s3 => ((v4 = false → RB c d m_R_took [.ref 2, .ref 264] s3 (fun v6 s5 => ((v6 = false → RB c d m_R_took [.ref 2, .ref 272] s5 (fun v8 s7 => ((v8 = false → RB c d m_R_took [.ref 2, .ref 368] s7 (fun v10 s9 => ((v10 = false → RV c d m_R_blames [.ref 2, .int 2] s9 (fun s11 => RV c d m_R_readStop [.ref 2] s11 (fun s12 => Q s12))) ∧ (v10 = true → RV c d m_R_readLaw [.ref 2, .int 4, .int 1201] s9 (fun s13 => RV c d m_R_readStop [.ref 2] s13 (fun s14 => Q s14)))))) ∧ (v8 = true → RV c d m_R_readLaw [.ref 2, .int 3, .int 301] s7 (fun s15 => RV c d m_R_readStop [.ref 2] s15 (fun s16 => Q s16)))))) ∧ (v6 = true → RV c d m_R_readMocks [.ref 2] s5 (fun s17 => RV c d m_R_readStop [.ref 2] s17 (fun s18 => Q s18)))))) ∧ (v4 = true → RV c d m_R_readStreet [.ref 2] s3 (fun s19 => RV c d m_R_readStop [.ref 2] s19 (fun s20 => Q s20)))))) ∧ (v2 = true → RV c d m_R_readGuild [.ref 2] s1 (fun s21 => RV c d m_R_readStop [.ref 2] s21 (fun s22 => Q s22)))))) : RV c (d + 1) m_R_readLine [.ref 2] s Q := by
  refine ⟨q_R_readLine, rfl, Nat.le_of_ble_eq_true rfl, ?_⟩
  refine ev_ex 0 (c' := (0, [some (.ref 2)], [], cH c s)) rfl ?_
  refine ev_ex 2 (c' := (3, [some (.ref 2)], [.ref 176, .ref 2], cH c s)) rfl ?_
  refine rc_B (idx := 125) rfl rfl rfl (Nat.le_of_ble_eq_true rfl) (Nat.le_of_ble_eq_true rfl) rfl H (fun v2 s1 H => ?_)
  refine ev_if_eqB (x := v2) (tgt := 16) rfl rfl (fun h => ?_) (fun h => ?_)
  · replace H := H.1 (h)
    refine ev_ex 2 (c' := (19, [some (.ref 2)], [.ref 224, .ref 2], cH c s1)) rfl ?_
    refine rc_B (idx := 125) rfl rfl rfl (Nat.le_of_ble_eq_true rfl) (Nat.le_of_ble_eq_true rfl) rfl H (fun v4 s3 H => ?_)
    refine ev_if_eqB (x := v4) (tgt := 32) rfl rfl (fun h => ?_) (fun h => ?_)
    · replace H := H.1 (h)
      refine ev_ex 2 (c' := (35, [some (.ref 2)], [.ref 264, .ref 2], cH c s3)) rfl ?_
      refine rc_B (idx := 157) rfl rfl rfl (Nat.le_of_ble_eq_true rfl) (Nat.le_of_ble_eq_true rfl) rfl H (fun v6 s5 H => ?_)
      refine ev_if_eqB (x := v6) (tgt := 48) rfl rfl (fun h => ?_) (fun h => ?_)
      · replace H := H.1 (h)
        refine ev_ex 2 (c' := (51, [some (.ref 2)], [.ref 272, .ref 2], cH c s5)) rfl ?_
        refine rc_B (idx := 157) rfl rfl rfl (Nat.le_of_ble_eq_true rfl) (Nat.le_of_ble_eq_true rfl) rfl H (fun v8 s7 H => ?_)
        refine ev_if_eqB (x := v8) (tgt := 68) rfl rfl (fun h => ?_) (fun h => ?_)
        · replace H := H.1 (h)
          refine ev_ex 2 (c' := (71, [some (.ref 2)], [.ref 368, .ref 2], cH c s7)) rfl ?_
          refine rc_B (idx := 157) rfl rfl rfl (Nat.le_of_ble_eq_true rfl) (Nat.le_of_ble_eq_true rfl) rfl H (fun v10 s9 H => ?_)
          refine ev_if_eqB (x := v10) (tgt := 88) rfl rfl (fun h => ?_) (fun h => ?_)
          · replace H := H.1 (h)
            refine ev_ex 2 (c' := (90, [some (.ref 2)], [.int 2, .ref 2], cH c s9)) rfl ?_
            refine rc_V (idx := 132) rfl rfl rfl (Nat.le_of_ble_eq_true rfl) (Nat.le_of_ble_eq_true rfl) rfl H (fun s11 H => ?_)
            refine ev_ex 1 (c' := (94, [some (.ref 2)], [.ref 2], cH c s11)) rfl ?_
            refine rc_V (idx := 255) rfl rfl rfl (Nat.le_of_ble_eq_true rfl) (Nat.le_of_ble_eq_true rfl) rfl H (fun s12 H => ?_)
            exact ev_ret rfl rfl rfl ⟨_, rfl, rfl, H⟩
          · replace H := H.2 (h)
            refine ev_ex 3 (c' := (82, [some (.ref 2)], [.int 1201, .int 4, .ref 2], cH c s9)) rfl ?_
            refine rc_V (idx := 249) rfl rfl rfl (Nat.le_of_ble_eq_true rfl) (Nat.le_of_ble_eq_true rfl) rfl H (fun s13 H => ?_)
            refine ev_ex 2 (c' := (94, [some (.ref 2)], [.ref 2], cH c s13)) rfl ?_
            refine rc_V (idx := 255) rfl rfl rfl (Nat.le_of_ble_eq_true rfl) (Nat.le_of_ble_eq_true rfl) rfl H (fun s14 H => ?_)
            exact ev_ret rfl rfl rfl ⟨_, rfl, rfl, H⟩
        · replace H := H.2 (h)
          refine ev_ex 3 (c' := (62, [some (.ref 2)], [.int 301, .int 3, .ref 2], cH c s7)) rfl ?_
          refine rc_V (idx := 249) rfl rfl rfl (Nat.le_of_ble_eq_true rfl) (Nat.le_of_ble_eq_true rfl) rfl H (fun s15 H => ?_)
          refine ev_ex 2 (c' := (94, [some (.ref 2)], [.ref 2], cH c s15)) rfl ?_
          refine rc_V (idx := 255) rfl rfl rfl (Nat.le_of_ble_eq_true rfl) (Nat.le_of_ble_eq_true rfl) rfl H (fun s16 H => ?_)
          exact ev_ret rfl rfl rfl ⟨_, rfl, rfl, H⟩
      · replace H := H.2 (h)
        refine ev_ex 1 (c' := (42, [some (.ref 2)], [.ref 2], cH c s5)) rfl ?_
        refine rc_V (idx := 244) rfl rfl rfl (Nat.le_of_ble_eq_true rfl) (Nat.le_of_ble_eq_true rfl) rfl H (fun s17 H => ?_)
        refine ev_ex 2 (c' := (94, [some (.ref 2)], [.ref 2], cH c s17)) rfl ?_
        refine rc_V (idx := 255) rfl rfl rfl (Nat.le_of_ble_eq_true rfl) (Nat.le_of_ble_eq_true rfl) rfl H (fun s18 H => ?_)
        exact ev_ret rfl rfl rfl ⟨_, rfl, rfl, H⟩
    · replace H := H.2 (h)
      refine ev_ex 1 (c' := (26, [some (.ref 2)], [.ref 2], cH c s3)) rfl ?_
      refine rc_V (idx := 239) rfl rfl rfl (Nat.le_of_ble_eq_true rfl) (Nat.le_of_ble_eq_true rfl) rfl H (fun s19 H => ?_)
      refine ev_ex 2 (c' := (94, [some (.ref 2)], [.ref 2], cH c s19)) rfl ?_
      refine rc_V (idx := 255) rfl rfl rfl (Nat.le_of_ble_eq_true rfl) (Nat.le_of_ble_eq_true rfl) rfl H (fun s20 H => ?_)
      exact ev_ret rfl rfl rfl ⟨_, rfl, rfl, H⟩
  · replace H := H.2 (h)
    refine ev_ex 1 (c' := (10, [some (.ref 2)], [.ref 2], cH c s1)) rfl ?_
    refine rc_V (idx := 234) rfl rfl rfl (Nat.le_of_ble_eq_true rfl) (Nat.le_of_ble_eq_true rfl) rfl H (fun s21 H => ?_)
    refine ev_ex 2 (c' := (94, [some (.ref 2)], [.ref 2], cH c s21)) rfl ?_
    refine rc_V (idx := 255) rfl rfl rfl (Nat.le_of_ble_eq_true rfl) (Nat.le_of_ble_eq_true rfl) rfl H (fun s22 H => ?_)
    exact ev_ret rfl rfl rfl ⟨_, rfl, rfl, H⟩
set_option maxRecDepth 8000 in
theorem w_R_isSignByte {c : CX} {d : Nat} {s : RS} {Q : Bool → RS → Prop} (a0 : Int32) (H : ((a0 = 91 → Q true s) ∧ (¬ a0 = 91 → ((a0 = 93 → Q true s) ∧ (¬ a0 = 93 → ((a0 = 61 → Q true s) ∧ (¬ a0 = 61 → ((a0 = 60 → Q true s) ∧ (¬ a0 = 60 → ((¬ a0 = 62 → ((a0 = 59 → Q true s) ∧ (¬ a0 = 59 → ((a0 = 43 → Q true s) ∧ (¬ a0 = 43 → ((a0 = 45 → Q true s) ∧ (¬ a0 = 45 → ((a0 = 42 → Q true s) ∧ (¬ a0 = 42 → ((a0 = 40 → Q true s) ∧ (¬ a0 = 40 → ((¬ a0 = 41 → Q false s) ∧ (a0 = 41 → Q true s))))))))))))) ∧ (a0 = 62 → Q true s))))))))))) : RB c (d) m_R_isSignByte [.int a0] s Q := by
  refine ⟨q_R_isSignByte, rfl, Nat.le_of_ble_eq_true rfl, ?_⟩
  refine ev_ex 0 (c' := (0, [some (.int a0), none], [], cH c s)) rfl ?_
  refine ev_ex 2 (c' := (3, [some (.int a0), none], [.int 91, .int a0], cH c s)) rfl ?_
  refine ev_icmp_eq (tgt := 30) rfl rfl (fun h => ?_) (fun h => ?_)
  · replace H := H.1 (h)
    refine ev_ex 7 (c' := (81, [some (.int a0), some (.int 1)], [.int 1], cH c s)) rfl ?_
    exact ev_retB (x := true) rfl rfl ⟨_, _, rfl, rfl, H⟩
  · replace H := H.2 (h)
    refine ev_ex 2 (c' := (9, [some (.int a0), none], [.int 93, .int a0], cH c s)) rfl ?_
    refine ev_icmp_eq (tgt := 30) rfl rfl (fun h => ?_) (fun h => ?_)
    · replace H := H.1 (h)
      refine ev_ex 7 (c' := (81, [some (.int a0), some (.int 1)], [.int 1], cH c s)) rfl ?_
      exact ev_retB (x := true) rfl rfl ⟨_, _, rfl, rfl, H⟩
    · replace H := H.2 (h)
      refine ev_ex 2 (c' := (15, [some (.int a0), none], [.int 61, .int a0], cH c s)) rfl ?_
      refine ev_icmp_eq (tgt := 30) rfl rfl (fun h => ?_) (fun h => ?_)
      · replace H := H.1 (h)
        refine ev_ex 7 (c' := (81, [some (.int a0), some (.int 1)], [.int 1], cH c s)) rfl ?_
        exact ev_retB (x := true) rfl rfl ⟨_, _, rfl, rfl, H⟩
      · replace H := H.2 (h)
        refine ev_ex 2 (c' := (21, [some (.int a0), none], [.int 60, .int a0], cH c s)) rfl ?_
        refine ev_icmp_eq (tgt := 30) rfl rfl (fun h => ?_) (fun h => ?_)
        · replace H := H.1 (h)
          refine ev_ex 7 (c' := (81, [some (.int a0), some (.int 1)], [.int 1], cH c s)) rfl ?_
          exact ev_retB (x := true) rfl rfl ⟨_, _, rfl, rfl, H⟩
        · replace H := H.2 (h)
          refine ev_ex 2 (c' := (27, [some (.int a0), none], [.int 62, .int a0], cH c s)) rfl ?_
          refine ev_icmp_ne (tgt := 34) rfl rfl (fun h => ?_) (fun h => ?_)
          · replace H := H.1 (h)
            refine ev_ex 6 (c' := (43, [some (.int a0), some (.int 0)], [.int 59, .int a0], cH c s)) rfl ?_
            refine ev_icmp_eq (tgt := 76) rfl rfl (fun h => ?_) (fun h => ?_)
            · replace H := H.1 (h)
              refine ev_ex 2 (c' := (81, [some (.int a0), some (.int 0)], [.int 1], cH c s)) rfl ?_
              exact ev_retB (x := true) rfl rfl ⟨_, _, rfl, rfl, H⟩
            · replace H := H.2 (h)
              refine ev_ex 2 (c' := (49, [some (.int a0), some (.int 0)], [.int 43, .int a0], cH c s)) rfl ?_
              refine ev_icmp_eq (tgt := 76) rfl rfl (fun h => ?_) (fun h => ?_)
              · replace H := H.1 (h)
                refine ev_ex 2 (c' := (81, [some (.int a0), some (.int 0)], [.int 1], cH c s)) rfl ?_
                exact ev_retB (x := true) rfl rfl ⟨_, _, rfl, rfl, H⟩
              · replace H := H.2 (h)
                refine ev_ex 2 (c' := (55, [some (.int a0), some (.int 0)], [.int 45, .int a0], cH c s)) rfl ?_
                refine ev_icmp_eq (tgt := 76) rfl rfl (fun h => ?_) (fun h => ?_)
                · replace H := H.1 (h)
                  refine ev_ex 2 (c' := (81, [some (.int a0), some (.int 0)], [.int 1], cH c s)) rfl ?_
                  exact ev_retB (x := true) rfl rfl ⟨_, _, rfl, rfl, H⟩
                · replace H := H.2 (h)
                  refine ev_ex 2 (c' := (61, [some (.int a0), some (.int 0)], [.int 42, .int a0], cH c s)) rfl ?_
                  refine ev_icmp_eq (tgt := 76) rfl rfl (fun h => ?_) (fun h => ?_)
                  · replace H := H.1 (h)
                    refine ev_ex 2 (c' := (81, [some (.int a0), some (.int 0)], [.int 1], cH c s)) rfl ?_
                    exact ev_retB (x := true) rfl rfl ⟨_, _, rfl, rfl, H⟩
                  · replace H := H.2 (h)
                    refine ev_ex 2 (c' := (67, [some (.int a0), some (.int 0)], [.int 40, .int a0], cH c s)) rfl ?_
                    refine ev_icmp_eq (tgt := 76) rfl rfl (fun h => ?_) (fun h => ?_)
                    · replace H := H.1 (h)
                      refine ev_ex 2 (c' := (81, [some (.int a0), some (.int 0)], [.int 1], cH c s)) rfl ?_
                      exact ev_retB (x := true) rfl rfl ⟨_, _, rfl, rfl, H⟩
                    · replace H := H.2 (h)
                      refine ev_ex 2 (c' := (73, [some (.int a0), some (.int 0)], [.int 41, .int a0], cH c s)) rfl ?_
                      refine ev_icmp_ne (tgt := 80) rfl rfl (fun h => ?_) (fun h => ?_)
                      · replace H := H.1 (h)
                        refine ev_ex 1 (c' := (81, [some (.int a0), some (.int 0)], [.int 0], cH c s)) rfl ?_
                        exact ev_retB (x := false) rfl rfl ⟨_, _, rfl, rfl, H⟩
                      · replace H := H.2 (h)
                        refine ev_ex 2 (c' := (81, [some (.int a0), some (.int 0)], [.int 1], cH c s)) rfl ?_
                        exact ev_retB (x := true) rfl rfl ⟨_, _, rfl, rfl, H⟩
          · replace H := H.2 (h)
            refine ev_ex 7 (c' := (81, [some (.int a0), some (.int 1)], [.int 1], cH c s)) rfl ?_
            exact ev_retB (x := true) rfl rfl ⟨_, _, rfl, rfl, H⟩
set_option maxRecDepth 8000 in
theorem w_R_readGuild {c : CX} {d : Nat} {s : RS} {Q : RS → Prop}  (H : RB c d m_R_begins [.ref 2, .int 1, .int 10] s (fun v2 s1 => ((v2 = true → (okx 1 2101 ∧ eR c (d + 1) m_R_readGuild 20 [some (.ref 2), some (.int (s1.2.1 2 (ix 1))), some (.int 1)] s1 (pV c Q))) ∧ (v2 = false → Q s1)))) : RV c (d + 1) m_R_readGuild [.ref 2] s Q := by
  refine ⟨q_R_readGuild, rfl, Nat.le_of_ble_eq_true rfl, ?_⟩
  refine ev_ex 0 (c' := (0, [some (.ref 2), none, none], [], cH c s)) rfl ?_
  refine ev_ex 3 (c' := (4, [some (.ref 2), none, none], [.int 10, .int 1, .ref 2], cH c s)) rfl ?_
  refine rc_B (idx := 211) rfl rfl rfl (Nat.le_of_ble_eq_true rfl) (Nat.le_of_ble_eq_true rfl) rfl H (fun v2 s1 H => ?_)
  refine ev_if_neB (x := v2) (tgt := 11) rfl rfl (fun h => ?_) (fun h => ?_)
  · replace H := H.1 (h)
    refine ev_ex 3 (c' := (16, [some (.ref 2), none, none], [.int 1, .ref 10], cH c s1)) rfl ?_
    obtain ⟨H0, H⟩ := H
    refine ev_ald (i := .iaload) rfl (Or.inl rfl) rfl H0 (v := .int (s1.2.1 2 (ix 1))) rfl ?_
    refine ev_ex 3 (c' := (20, [some (.ref 2), some (.int (s1.2.1 2 (ix 1))), some (.int 1)], [], cH c s1)) rfl ?_
    exact H
  · replace H := H.2 (h)
    exact ev_ret rfl rfl rfl ⟨_, rfl, rfl, H⟩
set_option maxRecDepth 8000 in
theorem w_R_readGuild_20 {c : CX} {d : Nat} {s : RS} {Q : RS → Prop} (l1 : Int32) (l2 : Int32) (H : ((l2 = 0 → ((¬ (s.1 12) = 0 → Q s) ∧ ((s.1 12) = 0 → (okx 1 2101 ∧ (okx 1 2101 ∧ Q (rA s 2 (ix 1) ((s.2.1 2 (ix 1)) + 1))))))) ∧ (¬ l2 = 0 → ((¬ (s.1 12) = 0 → ((¬ (s.1 12) = 0 → Q s) ∧ ((s.1 12) = 0 → (okx 1 2101 ∧ (okx 1 2101 ∧ Q (rA s 2 (ix 1) ((s.2.1 2 (ix 1)) + 1))))))) ∧ ((s.1 12) = 0 → RB c d m_R_took [.ref 2, .ref 184] s (fun v2 s1 => ((v2 = false → RB c d m_R_took [.ref 2, .ref 192] s1 (fun v4 s3 => ((v4 = false → RB c d m_R_took [.ref 2, .ref 200] s3 (fun v6 s5 => ((v6 = false → RB c d m_R_took [.ref 2, .ref 208] s5 (fun v8 s7 => ((v8 = false → RB c d m_R_took [.ref 2, .ref 216] s7 (fun v10 s9 => ((v10 = false → eR c (d + 1) m_R_readGuild 20 [some (.ref 2), some (.int l1), some (.int 0)] s9 (pV c Q)) ∧ (v10 = true → RI c d m_R_number [.ref 2, .int 1, .int 99] s9 (fun v12 s11 => (okx (57 + l1) 2101 ∧ eR c (d + 1) m_R_readGuild 20 [some (.ref 2), some (.int l1), some (.int l2)] (rA s11 2 (ix (57 + l1)) v12) (pV c Q))))))) ∧ (v8 = true → RI c d m_R_number [.ref 2, .int 0, .int 9] s7 (fun v14 s13 => (okx (47 + l1) 2101 ∧ eR c (d + 1) m_R_readGuild 20 [some (.ref 2), some (.int l1), some (.int l2)] (rA s13 2 (ix (47 + l1)) v14) (pV c Q))))))) ∧ (v6 = true → RI c d m_R_number [.ref 2, .int 0, .int 9] s5 (fun v16 s15 => (okx (37 + l1) 2101 ∧ eR c (d + 1) m_R_readGuild 20 [some (.ref 2), some (.int l1), some (.int l2)] (rA s15 2 (ix (37 + l1)) v16) (pV c Q))))))) ∧ (v4 = true → RI c d m_R_number [.ref 2, .int 1, .int 9] s3 (fun v18 s17 => (okx (27 + l1) 2101 ∧ eR c (d + 1) m_R_readGuild 20 [some (.ref 2), some (.int l1), some (.int l2)] (rA s17 2 (ix (27 + l1)) v18) (pV c Q))))))) ∧ (v2 = true → RI c d m_R_number [.ref 2, .int 0, .int 99] s1 (fun v20 s19 => (okx (16 + l1) 2101 ∧ eR c (d + 1) m_R_readGuild 20 [some (.ref 2), some (.int l1), some (.int l2)] (rA s19 2 (ix (16 + l1)) v20) (pV c Q))))))))))) : eR c (d + 1) m_R_readGuild 20 [some (.ref 2), some (.int l1), some (.int l2)] s (pV c Q) := by
  unfold eR
  refine ev_ex 0 (c' := (20, [some (.ref 2), some (.int l1), some (.int l2)], [], cH c s)) rfl ?_
  refine ev_ex 1 (c' := (21, [some (.ref 2), some (.int l1), some (.int l2)], [.int l2], cH c s)) rfl ?_
  refine ev_if_eq (tgt := 176) rfl rfl (fun h => ?_) (fun h => ?_)
  · replace H := H.1 (h)
    refine ev_ex 2 (c' := (180, [some (.ref 2), some (.int l1), some (.int l2)], [.int (s.1 12)], cH c s)) rfl ?_
    refine ev_if_ne (tgt := 193) rfl rfl (fun h => ?_) (fun h => ?_)
    · replace H := H.1 (h)
      exact ev_ret rfl rfl rfl ⟨_, rfl, rfl, H⟩
    · replace H := H.2 (h)
      refine ev_ex 4 (c' := (189, [some (.ref 2), some (.int l1), some (.int l2)], [.int 1, .ref 10, .int 1, .ref 10], cH c s)) rfl ?_
      obtain ⟨H0, H⟩ := H
      refine ev_ald (i := .iaload) rfl (Or.inl rfl) rfl H0 (v := .int (s.2.1 2 (ix 1))) rfl ?_
      refine ev_ex 2 (c' := (192, [some (.ref 2), some (.int l1), some (.int l2)], [.int ((s.2.1 2 (ix 1)) + 1), .int 1, .ref 10], cH c s)) rfl ?_
      obtain ⟨H0, H⟩ := H
      refine ev_ast (i := .iastore) rfl (Or.inl rfl) rfl H0 (by decide) rfl rfl (σ' := cH c (rA s 2 (ix 1) ((s.2.1 2 (ix 1)) + 1))) rfl ?_
      exact ev_ret rfl rfl rfl ⟨_, rfl, rfl, H⟩
  · replace H := H.2 (h)
    refine ev_ex 2 (c' := (28, [some (.ref 2), some (.int l1), some (.int l2)], [.int (s.1 12)], cH c s)) rfl ?_
    refine ev_if_ne (tgt := 176) rfl rfl (fun h => ?_) (fun h => ?_)
    · replace H := H.1 (h)
      refine ev_ex 2 (c' := (180, [some (.ref 2), some (.int l1), some (.int l2)], [.int (s.1 12)], cH c s)) rfl ?_
      refine ev_if_ne (tgt := 193) rfl rfl (fun h => ?_) (fun h => ?_)
      · replace H := H.1 (h)
        exact ev_ret rfl rfl rfl ⟨_, rfl, rfl, H⟩
      · replace H := H.2 (h)
        refine ev_ex 4 (c' := (189, [some (.ref 2), some (.int l1), some (.int l2)], [.int 1, .ref 10, .int 1, .ref 10], cH c s)) rfl ?_
        obtain ⟨H0, H⟩ := H
        refine ev_ald (i := .iaload) rfl (Or.inl rfl) rfl H0 (v := .int (s.2.1 2 (ix 1))) rfl ?_
        refine ev_ex 2 (c' := (192, [some (.ref 2), some (.int l1), some (.int l2)], [.int ((s.2.1 2 (ix 1)) + 1), .int 1, .ref 10], cH c s)) rfl ?_
        obtain ⟨H0, H⟩ := H
        refine ev_ast (i := .iastore) rfl (Or.inl rfl) rfl H0 (by decide) rfl rfl (σ' := cH c (rA s 2 (ix 1) ((s.2.1 2 (ix 1)) + 1))) rfl ?_
        exact ev_ret rfl rfl rfl ⟨_, rfl, rfl, H⟩
    · replace H := H.2 (h)
      refine ev_ex 2 (c' := (34, [some (.ref 2), some (.int l1), some (.int l2)], [.ref 184, .ref 2], cH c s)) rfl ?_
      refine rc_B (idx := 157) rfl rfl rfl (Nat.le_of_ble_eq_true rfl) (Nat.le_of_ble_eq_true rfl) rfl H (fun v2 s1 H => ?_)
      refine ev_if_eqB (x := v2) (tgt := 59) rfl rfl (fun h => ?_) (fun h => ?_)
      · replace H := H.1 (h)
        refine ev_ex 2 (c' := (62, [some (.ref 2), some (.int l1), some (.int l2)], [.ref 192, .ref 2], cH c s1)) rfl ?_
        refine rc_B (idx := 157) rfl rfl rfl (Nat.le_of_ble_eq_true rfl) (Nat.le_of_ble_eq_true rfl) rfl H (fun v4 s3 H => ?_)
        refine ev_if_eqB (x := v4) (tgt := 87) rfl rfl (fun h => ?_) (fun h => ?_)
        · replace H := H.1 (h)
          refine ev_ex 2 (c' := (90, [some (.ref 2), some (.int l1), some (.int l2)], [.ref 200, .ref 2], cH c s3)) rfl ?_
          refine rc_B (idx := 157) rfl rfl rfl (Nat.le_of_ble_eq_true rfl) (Nat.le_of_ble_eq_true rfl) rfl H (fun v6 s5 H => ?_)
          refine ev_if_eqB (x := v6) (tgt := 115) rfl rfl (fun h => ?_) (fun h => ?_)
          · replace H := H.1 (h)
            refine ev_ex 2 (c' := (118, [some (.ref 2), some (.int l1), some (.int l2)], [.ref 208, .ref 2], cH c s5)) rfl ?_
            refine rc_B (idx := 157) rfl rfl rfl (Nat.le_of_ble_eq_true rfl) (Nat.le_of_ble_eq_true rfl) rfl H (fun v8 s7 H => ?_)
            refine ev_if_eqB (x := v8) (tgt := 143) rfl rfl (fun h => ?_) (fun h => ?_)
            · replace H := H.1 (h)
              refine ev_ex 2 (c' := (146, [some (.ref 2), some (.int l1), some (.int l2)], [.ref 216, .ref 2], cH c s7)) rfl ?_
              refine rc_B (idx := 157) rfl rfl rfl (Nat.le_of_ble_eq_true rfl) (Nat.le_of_ble_eq_true rfl) rfl H (fun v10 s9 H => ?_)
              refine ev_if_eqB (x := v10) (tgt := 171) rfl rfl (fun h => ?_) (fun h => ?_)
              · replace H := H.1 (h)
                refine ev_ex 3 (c' := (20, [some (.ref 2), some (.int l1), some (.int 0)], [], cH c s9)) rfl ?_
                exact H
              · replace H := H.2 (h)
                refine ev_ex 8 (c' := (164, [some (.ref 2), some (.int l1), some (.int l2)], [.int 99, .int 1, .ref 2, .int (57 + l1), .ref 10], cH c s9)) rfl ?_
                refine rc_I (idx := 207) rfl rfl rfl (Nat.le_of_ble_eq_true rfl) (Nat.le_of_ble_eq_true rfl) rfl H (fun v12 s11 H => ?_)
                obtain ⟨H0, H⟩ := H
                refine ev_ast (i := .iastore) rfl (Or.inl rfl) rfl H0 (by decide) rfl rfl (σ' := cH c (rA s11 2 (ix (57 + l1)) v12)) rfl ?_
                refine ev_ex 1 (c' := (20, [some (.ref 2), some (.int l1), some (.int l2)], [], cH c (rA s11 2 (ix (57 + l1)) v12))) rfl ?_
                exact H
            · replace H := H.2 (h)
              refine ev_ex 8 (c' := (136, [some (.ref 2), some (.int l1), some (.int l2)], [.int 9, .int 0, .ref 2, .int (47 + l1), .ref 10], cH c s7)) rfl ?_
              refine rc_I (idx := 207) rfl rfl rfl (Nat.le_of_ble_eq_true rfl) (Nat.le_of_ble_eq_true rfl) rfl H (fun v14 s13 H => ?_)
              obtain ⟨H0, H⟩ := H
              refine ev_ast (i := .iastore) rfl (Or.inl rfl) rfl H0 (by decide) rfl rfl (σ' := cH c (rA s13 2 (ix (47 + l1)) v14)) rfl ?_
              refine ev_ex 1 (c' := (20, [some (.ref 2), some (.int l1), some (.int l2)], [], cH c (rA s13 2 (ix (47 + l1)) v14))) rfl ?_
              exact H
          · replace H := H.2 (h)
            refine ev_ex 8 (c' := (108, [some (.ref 2), some (.int l1), some (.int l2)], [.int 9, .int 0, .ref 2, .int (37 + l1), .ref 10], cH c s5)) rfl ?_
            refine rc_I (idx := 207) rfl rfl rfl (Nat.le_of_ble_eq_true rfl) (Nat.le_of_ble_eq_true rfl) rfl H (fun v16 s15 H => ?_)
            obtain ⟨H0, H⟩ := H
            refine ev_ast (i := .iastore) rfl (Or.inl rfl) rfl H0 (by decide) rfl rfl (σ' := cH c (rA s15 2 (ix (37 + l1)) v16)) rfl ?_
            refine ev_ex 1 (c' := (20, [some (.ref 2), some (.int l1), some (.int l2)], [], cH c (rA s15 2 (ix (37 + l1)) v16))) rfl ?_
            exact H
        · replace H := H.2 (h)
          refine ev_ex 8 (c' := (80, [some (.ref 2), some (.int l1), some (.int l2)], [.int 9, .int 1, .ref 2, .int (27 + l1), .ref 10], cH c s3)) rfl ?_
          refine rc_I (idx := 207) rfl rfl rfl (Nat.le_of_ble_eq_true rfl) (Nat.le_of_ble_eq_true rfl) rfl H (fun v18 s17 H => ?_)
          obtain ⟨H0, H⟩ := H
          refine ev_ast (i := .iastore) rfl (Or.inl rfl) rfl H0 (by decide) rfl rfl (σ' := cH c (rA s17 2 (ix (27 + l1)) v18)) rfl ?_
          refine ev_ex 1 (c' := (20, [some (.ref 2), some (.int l1), some (.int l2)], [], cH c (rA s17 2 (ix (27 + l1)) v18))) rfl ?_
          exact H
      · replace H := H.2 (h)
        refine ev_ex 8 (c' := (52, [some (.ref 2), some (.int l1), some (.int l2)], [.int 99, .int 0, .ref 2, .int (16 + l1), .ref 10], cH c s1)) rfl ?_
        refine rc_I (idx := 207) rfl rfl rfl (Nat.le_of_ble_eq_true rfl) (Nat.le_of_ble_eq_true rfl) rfl H (fun v20 s19 H => ?_)
        obtain ⟨H0, H⟩ := H
        refine ev_ast (i := .iastore) rfl (Or.inl rfl) rfl H0 (by decide) rfl rfl (σ' := cH c (rA s19 2 (ix (16 + l1)) v20)) rfl ?_
        refine ev_ex 1 (c' := (20, [some (.ref 2), some (.int l1), some (.int l2)], [], cH c (rA s19 2 (ix (16 + l1)) v20))) rfl ?_
        exact H
set_option maxRecDepth 8000 in
theorem w_R_readStreet {c : CX} {d : Nat} {s : RS} {Q : RS → Prop}  (H : RB c d m_R_begins [.ref 2, .int 2, .int 12] s (fun v2 s1 => ((v2 = true → RB c d m_R_took [.ref 2, .ref 232] s1 (fun v4 s3 => ((v4 = false → RB c d m_R_took [.ref 2, .ref 240] s3 (fun v6 s5 => ((v6 = false → RB c d m_R_took [.ref 2, .ref 248] s5 (fun v8 s7 => ((v8 = false → RB c d m_R_took [.ref 2, .ref 256] s7 (fun v10 s9 => ((v10 = false → RV c d m_R_blames [.ref 2, .int 2] s9 (fun s11 => eR c (d + 1) m_R_readStreet 74 [some (.ref 2), some (.int ((-1))), none] s11 (pV c Q))) ∧ (v10 = true → eR c (d + 1) m_R_readStreet 74 [some (.ref 2), some (.int 3), none] s9 (pV c Q))))) ∧ (v8 = true → eR c (d + 1) m_R_readStreet 74 [some (.ref 2), some (.int 2), none] s7 (pV c Q))))) ∧ (v6 = true → eR c (d + 1) m_R_readStreet 74 [some (.ref 2), some (.int 1), none] s5 (pV c Q))))) ∧ (v4 = true → eR c (d + 1) m_R_readStreet 74 [some (.ref 2), some (.int 0), none] s3 (pV c Q))))) ∧ (v2 = false → Q s1)))) : RV c (d + 1) m_R_readStreet [.ref 2] s Q := by
  refine ⟨q_R_readStreet, rfl, Nat.le_of_ble_eq_true rfl, ?_⟩
  refine ev_ex 0 (c' := (0, [some (.ref 2), none, none], [], cH c s)) rfl ?_
  refine ev_ex 3 (c' := (4, [some (.ref 2), none, none], [.int 12, .int 2, .ref 2], cH c s)) rfl ?_
  refine rc_B (idx := 211) rfl rfl rfl (Nat.le_of_ble_eq_true rfl) (Nat.le_of_ble_eq_true rfl) rfl H (fun v2 s1 H => ?_)
  refine ev_if_neB (x := v2) (tgt := 11) rfl rfl (fun h => ?_) (fun h => ?_)
  · replace H := H.1 (h)
    refine ev_ex 4 (c' := (16, [some (.ref 2), some (.int ((-1))), none], [.ref 232, .ref 2], cH c s1)) rfl ?_
    refine rc_B (idx := 157) rfl rfl rfl (Nat.le_of_ble_eq_true rfl) (Nat.le_of_ble_eq_true rfl) rfl H (fun v4 s3 H => ?_)
    refine ev_if_eqB (x := v4) (tgt := 27) rfl rfl (fun h => ?_) (fun h => ?_)
    · replace H := H.1 (h)
      refine ev_ex 2 (c' := (30, [some (.ref 2), some (.int ((-1))), none], [.ref 240, .ref 2], cH c s3)) rfl ?_
      refine rc_B (idx := 157) rfl rfl rfl (Nat.le_of_ble_eq_true rfl) (Nat.le_of_ble_eq_true rfl) rfl H (fun v6 s5 H => ?_)
      refine ev_if_eqB (x := v6) (tgt := 41) rfl rfl (fun h => ?_) (fun h => ?_)
      · replace H := H.1 (h)
        refine ev_ex 2 (c' := (44, [some (.ref 2), some (.int ((-1))), none], [.ref 248, .ref 2], cH c s5)) rfl ?_
        refine rc_B (idx := 157) rfl rfl rfl (Nat.le_of_ble_eq_true rfl) (Nat.le_of_ble_eq_true rfl) rfl H (fun v8 s7 H => ?_)
        refine ev_if_eqB (x := v8) (tgt := 55) rfl rfl (fun h => ?_) (fun h => ?_)
        · replace H := H.1 (h)
          refine ev_ex 2 (c' := (58, [some (.ref 2), some (.int ((-1))), none], [.ref 256, .ref 2], cH c s7)) rfl ?_
          refine rc_B (idx := 157) rfl rfl rfl (Nat.le_of_ble_eq_true rfl) (Nat.le_of_ble_eq_true rfl) rfl H (fun v10 s9 H => ?_)
          refine ev_if_eqB (x := v10) (tgt := 69) rfl rfl (fun h => ?_) (fun h => ?_)
          · replace H := H.1 (h)
            refine ev_ex 2 (c' := (71, [some (.ref 2), some (.int ((-1))), none], [.int 2, .ref 2], cH c s9)) rfl ?_
            refine rc_V (idx := 132) rfl rfl rfl (Nat.le_of_ble_eq_true rfl) (Nat.le_of_ble_eq_true rfl) rfl H (fun s11 H => ?_)
            exact H
          · replace H := H.2 (h)
            refine ev_ex 3 (c' := (74, [some (.ref 2), some (.int 3), none], [], cH c s9)) rfl ?_
            exact H
        · replace H := H.2 (h)
          refine ev_ex 3 (c' := (74, [some (.ref 2), some (.int 2), none], [], cH c s7)) rfl ?_
          exact H
      · replace H := H.2 (h)
        refine ev_ex 3 (c' := (74, [some (.ref 2), some (.int 1), none], [], cH c s5)) rfl ?_
        exact H
    · replace H := H.2 (h)
      refine ev_ex 3 (c' := (74, [some (.ref 2), some (.int 0), none], [], cH c s3)) rfl ?_
      exact H
  · replace H := H.2 (h)
    exact ev_ret rfl rfl rfl ⟨_, rfl, rfl, H⟩
set_option maxRecDepth 8000 in
theorem w_R_readStreet_74 {c : CX} {d : Nat} {s : RS} {Q : RS → Prop} (l1 : Int32) (H : RI c d m_R_number [.ref 2, .int 1, .int 20] s (fun v2 s1 => (((s1.1 12) = 0 → (okx 2 2101 ∧ (okx (67 + (2 * (s1.2.1 2 (ix 2)))) 2101 ∧ eR c (d + 1) m_R_readStreet 107 [some (.ref 2), some (.int l1), some (.int v2)] (rA s1 2 (ix (67 + (2 * (s1.2.1 2 (ix 2))))) l1) (pV c Q)))) ∧ (¬ (s1.1 12) = 0 → Q s1)))) : eR c (d + 1) m_R_readStreet 74 [some (.ref 2), some (.int l1), none] s (pV c Q) := by
  unfold eR
  refine ev_ex 0 (c' := (74, [some (.ref 2), some (.int l1), none], [], cH c s)) rfl ?_
  refine ev_ex 3 (c' := (78, [some (.ref 2), some (.int l1), none], [.int 20, .int 1, .ref 2], cH c s)) rfl ?_
  refine rc_I (idx := 207) rfl rfl rfl (Nat.le_of_ble_eq_true rfl) (Nat.le_of_ble_eq_true rfl) rfl H (fun v2 s1 H => ?_)
  refine ev_ex 3 (c' := (86, [some (.ref 2), some (.int l1), some (.int v2)], [.int (s1.1 12)], cH c s1)) rfl ?_
  refine ev_if_eq (tgt := 90) rfl rfl (fun h => ?_) (fun h => ?_)
  · replace H := H.1 (h)
    refine ev_ex 7 (c' := (102, [some (.ref 2), some (.int l1), some (.int v2)], [.int 2, .ref 10, .int 2, .int 67, .ref 10], cH c s1)) rfl ?_
    obtain ⟨H0, H⟩ := H
    refine ev_ald (i := .iaload) rfl (Or.inl rfl) rfl H0 (v := .int (s1.2.1 2 (ix 2))) rfl ?_
    refine ev_ex 3 (c' := (106, [some (.ref 2), some (.int l1), some (.int v2)], [.int l1, .int (67 + (2 * (s1.2.1 2 (ix 2)))), .ref 10], cH c s1)) rfl ?_
    obtain ⟨H0, H⟩ := H
    refine ev_ast (i := .iastore) rfl (Or.inl rfl) rfl H0 (by decide) rfl rfl (σ' := cH c (rA s1 2 (ix (67 + (2 * (s1.2.1 2 (ix 2))))) l1)) rfl ?_
    exact H
  · replace H := H.2 (h)
    exact ev_ret rfl rfl rfl ⟨_, rfl, rfl, H⟩
set_option maxRecDepth 8000 in
theorem w_R_readStreet_107 {c : CX} {d : Nat} {s : RS} {Q : RS → Prop} (l1 : Int32) (l2 : Int32) (H : (okx 2 2101 ∧ (okx ((67 + (2 * (s.2.1 2 (ix 2)))) + 1) 2101 ∧ eR c (d + 1) m_R_readStreet 126 [some (.ref 2), some (.int l1), some (.int l2)] (rA s 2 (ix ((67 + (2 * (s.2.1 2 (ix 2)))) + 1)) l2) (pV c Q)))) : eR c (d + 1) m_R_readStreet 107 [some (.ref 2), some (.int l1), some (.int l2)] s (pV c Q) := by
  unfold eR
  refine ev_ex 0 (c' := (107, [some (.ref 2), some (.int l1), some (.int l2)], [], cH c s)) rfl ?_
  refine ev_ex 7 (c' := (119, [some (.ref 2), some (.int l1), some (.int l2)], [.int 2, .ref 10, .int 2, .int 67, .ref 10], cH c s)) rfl ?_
  obtain ⟨H0, H⟩ := H
  refine ev_ald (i := .iaload) rfl (Or.inl rfl) rfl H0 (v := .int (s.2.1 2 (ix 2))) rfl ?_
  refine ev_ex 5 (c' := (125, [some (.ref 2), some (.int l1), some (.int l2)], [.int l2, .int ((67 + (2 * (s.2.1 2 (ix 2)))) + 1), .ref 10], cH c s)) rfl ?_
  obtain ⟨H0, H⟩ := H
  refine ev_ast (i := .iastore) rfl (Or.inl rfl) rfl H0 (by decide) rfl rfl (σ' := cH c (rA s 2 (ix ((67 + (2 * (s.2.1 2 (ix 2)))) + 1)) l2)) rfl ?_
  exact H
set_option maxRecDepth 8000 in
theorem w_R_readStreet_126 {c : CX} {d : Nat} {s : RS} {Q : RS → Prop} (l1 : Int32) (l2 : Int32) (H : (okx 2 2101 ∧ (okx 2 2101 ∧ Q (rA s 2 (ix 2) ((s.2.1 2 (ix 2)) + 1))))) : eR c (d + 1) m_R_readStreet 126 [some (.ref 2), some (.int l1), some (.int l2)] s (pV c Q) := by
  unfold eR
  refine ev_ex 0 (c' := (126, [some (.ref 2), some (.int l1), some (.int l2)], [], cH c s)) rfl ?_
  refine ev_ex 4 (c' := (132, [some (.ref 2), some (.int l1), some (.int l2)], [.int 2, .ref 10, .int 2, .ref 10], cH c s)) rfl ?_
  obtain ⟨H0, H⟩ := H
  refine ev_ald (i := .iaload) rfl (Or.inl rfl) rfl H0 (v := .int (s.2.1 2 (ix 2))) rfl ?_
  refine ev_ex 2 (c' := (135, [some (.ref 2), some (.int l1), some (.int l2)], [.int ((s.2.1 2 (ix 2)) + 1), .int 2, .ref 10], cH c s)) rfl ?_
  obtain ⟨H0, H⟩ := H
  refine ev_ast (i := .iastore) rfl (Or.inl rfl) rfl H0 (by decide) rfl rfl (σ' := cH c (rA s 2 (ix 2) ((s.2.1 2 (ix 2)) + 1))) rfl ?_
  exact ev_ret rfl rfl rfl ⟨_, rfl, rfl, H⟩
set_option maxRecDepth 8000 in
theorem w_R_took {c : CX} {d : Nat} {s : RS} {Q : Bool → RS → Prop} (a0 : Nat) (H : RB c d m_R_isWord [.ref 2, .ref a0] s (fun v2 s1 => ((v2 = false → Q v2 s1) ∧ (v2 = true → RV c d m_R_readsOn [.ref 2] s1 (fun s3 => Q v2 s3))))) : RB c (d + 1) m_R_took [.ref 2, .ref a0] s Q := by
  refine ⟨q_R_took, rfl, Nat.le_of_ble_eq_true rfl, ?_⟩
  refine ev_ex 0 (c' := (0, [some (.ref 2), some (.ref a0), none], [], cH c s)) rfl ?_
  refine ev_ex 2 (c' := (2, [some (.ref 2), some (.ref a0), none], [.ref a0, .ref 2], cH c s)) rfl ?_
  refine rc_B (idx := 125) rfl rfl rfl (Nat.le_of_ble_eq_true rfl) (Nat.le_of_ble_eq_true rfl) rfl H (fun v2 s1 H => ?_)
  refine ev_ex 2 (c' := (7, [some (.ref 2), some (.ref a0), some (.int (bI v2))], [.int (bI v2)], cH c s1)) rfl ?_
  refine ev_if_eqB (x := v2) (tgt := 14) rfl rfl (fun h => ?_) (fun h => ?_)
  · replace H := H.1 (h)
    refine ev_ex 1 (c' := (15, [some (.ref 2), some (.ref a0), some (.int (bI v2))], [.int (bI v2)], cH c s1)) rfl ?_
    exact ev_retB (x := v2) rfl rfl ⟨_, _, rfl, rfl, H⟩
  · replace H := H.2 (h)
    refine ev_ex 1 (c' := (11, [some (.ref 2), some (.ref a0), some (.int (bI v2))], [.ref 2], cH c s1)) rfl ?_
    refine rc_V (idx := 129) rfl rfl rfl (Nat.le_of_ble_eq_true rfl) (Nat.le_of_ble_eq_true rfl) rfl H (fun s3 H => ?_)
    refine ev_ex 1 (c' := (15, [some (.ref 2), some (.ref a0), some (.int (bI v2))], [.int (bI v2)], cH c s3)) rfl ?_
    exact ev_retB (x := v2) rfl rfl ⟨_, _, rfl, rfl, H⟩
set_option maxRecDepth 8000 in
theorem w_R_readMocks {c : CX} {d : Nat} {s : RS} {Q : RS → Prop}  (H : (okx 1 2101 ∧ RI c d m_R_number [.ref 2, .int 0, .int ((s.2.1 2 (ix 1)) - 1)] s (fun v2 s1 => ((¬ (s1.1 12) = 0 → (okx 1 2101 ∧ RI c d m_R_number [.ref 2, .int 0, .int ((s1.2.1 2 (ix 1)) - 1)] s1 (fun v4 s3 => ((¬ (s3.1 12) = 0 → Q s3) ∧ ((s3.1 12) = 0 → (okx (6 + v2) 2101 ∧ Q (rA s3 2 (ix (6 + v2)) v4))))))) ∧ ((s1.1 12) = 0 → ((¬ (s1.1 10) = 2 → (okx 1 2101 ∧ RI c d m_R_number [.ref 2, .int 0, .int ((s1.2.1 2 (ix 1)) - 1)] s1 (fun v6 s5 => ((¬ (s5.1 12) = 0 → Q s5) ∧ ((s5.1 12) = 0 → (okx (6 + v2) 2101 ∧ Q (rA s5 2 (ix (6 + v2)) v6))))))) ∧ ((s1.1 10) = 2 → ((¬ (s1.1 11) = v2 → (okx 1 2101 ∧ RI c d m_R_number [.ref 2, .int 0, .int ((s1.2.1 2 (ix 1)) - 1)] s1 (fun v8 s7 => ((¬ (s7.1 12) = 0 → Q s7) ∧ ((s7.1 12) = 0 → (okx (6 + v2) 2101 ∧ Q (rA s7 2 (ix (6 + v2)) v8))))))) ∧ ((s1.1 11) = v2 → RV c d m_R_blames [.ref 2, .int 3] s1 (fun s9 => (okx 1 2101 ∧ RI c d m_R_number [.ref 2, .int 0, .int ((s9.2.1 2 (ix 1)) - 1)] s9 (fun v11 s10 => ((¬ (s10.1 12) = 0 → Q s10) ∧ ((s10.1 12) = 0 → (okx (6 + v2) 2101 ∧ Q (rA s10 2 (ix (6 + v2)) v11)))))))))))))))) : RV c (d + 1) m_R_readMocks [.ref 2] s Q := by
  refine ⟨q_R_readMocks, rfl, Nat.le_of_ble_eq_true rfl, ?_⟩
  refine ev_ex 0 (c' := (0, [some (.ref 2), none, none], [], cH c s)) rfl ?_
  refine ev_ex 5 (c' := (7, [some (.ref 2), none, none], [.int 1, .ref 10, .int 0, .ref 2], cH c s)) rfl ?_
  obtain ⟨H0, H⟩ := H
  refine ev_ald (i := .iaload) rfl (Or.inl rfl) rfl H0 (v := .int (s.2.1 2 (ix 1))) rfl ?_
  refine ev_ex 2 (c' := (10, [some (.ref 2), none, none], [.int ((s.2.1 2 (ix 1)) - 1), .int 0, .ref 2], cH c s)) rfl ?_
  refine rc_I (idx := 207) rfl rfl rfl (Nat.le_of_ble_eq_true rfl) (Nat.le_of_ble_eq_true rfl) rfl H (fun v2 s1 H => ?_)
  refine ev_ex 3 (c' := (18, [some (.ref 2), some (.int v2), none], [.int (s1.1 12)], cH c s1)) rfl ?_
  refine ev_if_ne (tgt := 42) rfl rfl (fun h => ?_) (fun h => ?_)
  · replace H := H.1 (h)
    refine ev_ex 5 (c' := (49, [some (.ref 2), some (.int v2), none], [.int 1, .ref 10, .int 0, .ref 2], cH c s1)) rfl ?_
    obtain ⟨H0, H⟩ := H
    refine ev_ald (i := .iaload) rfl (Or.inl rfl) rfl H0 (v := .int (s1.2.1 2 (ix 1))) rfl ?_
    refine ev_ex 2 (c' := (52, [some (.ref 2), some (.int v2), none], [.int ((s1.2.1 2 (ix 1)) - 1), .int 0, .ref 2], cH c s1)) rfl ?_
    refine rc_I (idx := 207) rfl rfl rfl (Nat.le_of_ble_eq_true rfl) (Nat.le_of_ble_eq_true rfl) rfl H (fun v4 s3 H => ?_)
    refine ev_ex 3 (c' := (60, [some (.ref 2), some (.int v2), some (.int v4)], [.int (s3.1 12)], cH c s3)) rfl ?_
    refine ev_if_ne (tgt := 73) rfl rfl (fun h => ?_) (fun h => ?_)
    · replace H := H.1 (h)
      exact ev_ret rfl rfl rfl ⟨_, rfl, rfl, H⟩
    · replace H := H.2 (h)
      refine ev_ex 6 (c' := (72, [some (.ref 2), some (.int v2), some (.int v4)], [.int v4, .int (6 + v2), .ref 10], cH c s3)) rfl ?_
      obtain ⟨H0, H⟩ := H
      refine ev_ast (i := .iastore) rfl (Or.inl rfl) rfl H0 (by decide) rfl rfl (σ' := cH c (rA s3 2 (ix (6 + v2)) v4)) rfl ?_
      exact ev_ret rfl rfl rfl ⟨_, rfl, rfl, H⟩
  · replace H := H.2 (h)
    refine ev_ex 3 (c' := (26, [some (.ref 2), some (.int v2), none], [.int 2, .int (s1.1 10)], cH c s1)) rfl ?_
    refine ev_icmp_ne (tgt := 42) rfl rfl (fun h => ?_) (fun h => ?_)
    · replace H := H.1 (h)
      refine ev_ex 5 (c' := (49, [some (.ref 2), some (.int v2), none], [.int 1, .ref 10, .int 0, .ref 2], cH c s1)) rfl ?_
      obtain ⟨H0, H⟩ := H
      refine ev_ald (i := .iaload) rfl (Or.inl rfl) rfl H0 (v := .int (s1.2.1 2 (ix 1))) rfl ?_
      refine ev_ex 2 (c' := (52, [some (.ref 2), some (.int v2), none], [.int ((s1.2.1 2 (ix 1)) - 1), .int 0, .ref 2], cH c s1)) rfl ?_
      refine rc_I (idx := 207) rfl rfl rfl (Nat.le_of_ble_eq_true rfl) (Nat.le_of_ble_eq_true rfl) rfl H (fun v6 s5 H => ?_)
      refine ev_ex 3 (c' := (60, [some (.ref 2), some (.int v2), some (.int v6)], [.int (s5.1 12)], cH c s5)) rfl ?_
      refine ev_if_ne (tgt := 73) rfl rfl (fun h => ?_) (fun h => ?_)
      · replace H := H.1 (h)
        exact ev_ret rfl rfl rfl ⟨_, rfl, rfl, H⟩
      · replace H := H.2 (h)
        refine ev_ex 6 (c' := (72, [some (.ref 2), some (.int v2), some (.int v6)], [.int v6, .int (6 + v2), .ref 10], cH c s5)) rfl ?_
        obtain ⟨H0, H⟩ := H
        refine ev_ast (i := .iastore) rfl (Or.inl rfl) rfl H0 (by decide) rfl rfl (σ' := cH c (rA s5 2 (ix (6 + v2)) v6)) rfl ?_
        exact ev_ret rfl rfl rfl ⟨_, rfl, rfl, H⟩
    · replace H := H.2 (h)
      refine ev_ex 3 (c' := (34, [some (.ref 2), some (.int v2), none], [.int v2, .int (s1.1 11)], cH c s1)) rfl ?_
      refine ev_icmp_ne (tgt := 42) rfl rfl (fun h => ?_) (fun h => ?_)
      · replace H := H.1 (h)
        refine ev_ex 5 (c' := (49, [some (.ref 2), some (.int v2), none], [.int 1, .ref 10, .int 0, .ref 2], cH c s1)) rfl ?_
        obtain ⟨H0, H⟩ := H
        refine ev_ald (i := .iaload) rfl (Or.inl rfl) rfl H0 (v := .int (s1.2.1 2 (ix 1))) rfl ?_
        refine ev_ex 2 (c' := (52, [some (.ref 2), some (.int v2), none], [.int ((s1.2.1 2 (ix 1)) - 1), .int 0, .ref 2], cH c s1)) rfl ?_
        refine rc_I (idx := 207) rfl rfl rfl (Nat.le_of_ble_eq_true rfl) (Nat.le_of_ble_eq_true rfl) rfl H (fun v8 s7 H => ?_)
        refine ev_ex 3 (c' := (60, [some (.ref 2), some (.int v2), some (.int v8)], [.int (s7.1 12)], cH c s7)) rfl ?_
        refine ev_if_ne (tgt := 73) rfl rfl (fun h => ?_) (fun h => ?_)
        · replace H := H.1 (h)
          exact ev_ret rfl rfl rfl ⟨_, rfl, rfl, H⟩
        · replace H := H.2 (h)
          refine ev_ex 6 (c' := (72, [some (.ref 2), some (.int v2), some (.int v8)], [.int v8, .int (6 + v2), .ref 10], cH c s7)) rfl ?_
          obtain ⟨H0, H⟩ := H
          refine ev_ast (i := .iastore) rfl (Or.inl rfl) rfl H0 (by decide) rfl rfl (σ' := cH c (rA s7 2 (ix (6 + v2)) v8)) rfl ?_
          exact ev_ret rfl rfl rfl ⟨_, rfl, rfl, H⟩
      · replace H := H.2 (h)
        refine ev_ex 2 (c' := (39, [some (.ref 2), some (.int v2), none], [.int 3, .ref 2], cH c s1)) rfl ?_
        refine rc_V (idx := 132) rfl rfl rfl (Nat.le_of_ble_eq_true rfl) (Nat.le_of_ble_eq_true rfl) rfl H (fun s9 H => ?_)
        refine ev_ex 5 (c' := (49, [some (.ref 2), some (.int v2), none], [.int 1, .ref 10, .int 0, .ref 2], cH c s9)) rfl ?_
        obtain ⟨H0, H⟩ := H
        refine ev_ald (i := .iaload) rfl (Or.inl rfl) rfl H0 (v := .int (s9.2.1 2 (ix 1))) rfl ?_
        refine ev_ex 2 (c' := (52, [some (.ref 2), some (.int v2), none], [.int ((s9.2.1 2 (ix 1)) - 1), .int 0, .ref 2], cH c s9)) rfl ?_
        refine rc_I (idx := 207) rfl rfl rfl (Nat.le_of_ble_eq_true rfl) (Nat.le_of_ble_eq_true rfl) rfl H (fun v11 s10 H => ?_)
        refine ev_ex 3 (c' := (60, [some (.ref 2), some (.int v2), some (.int v11)], [.int (s10.1 12)], cH c s10)) rfl ?_
        refine ev_if_ne (tgt := 73) rfl rfl (fun h => ?_) (fun h => ?_)
        · replace H := H.1 (h)
          exact ev_ret rfl rfl rfl ⟨_, rfl, rfl, H⟩
        · replace H := H.2 (h)
          refine ev_ex 6 (c' := (72, [some (.ref 2), some (.int v2), some (.int v11)], [.int v11, .int (6 + v2), .ref 10], cH c s10)) rfl ?_
          obtain ⟨H0, H⟩ := H
          refine ev_ast (i := .iastore) rfl (Or.inl rfl) rfl H0 (by decide) rfl rfl (σ' := cH c (rA s10 2 (ix (6 + v2)) v11)) rfl ?_
          exact ev_ret rfl rfl rfl ⟨_, rfl, rfl, H⟩
set_option maxRecDepth 8000 in
theorem w_R_readLaw {c : CX} {d : Nat} {s : RS} {Q : RS → Prop} (a0 : Int32) (a1 : Int32) (H : (okx a0 2101 ∧ RV c d m_R_readTruth [.ref 2] (rA (rF (rF s 17 a0) 18 a1) 2 (ix a0) 0) (fun s1 => Q s1))) : RV c (d + 1) m_R_readLaw [.ref 2, .int a0, .int a1] s Q := by
  refine ⟨q_R_readLaw, rfl, Nat.le_of_ble_eq_true rfl, ?_⟩
  refine ev_ex 0 (c' := (0, [some (.ref 2), some (.int a0), some (.int a1)], [], cH c s)) rfl ?_
  refine ev_ex 10 (c' := (16, [some (.ref 2), some (.int a0), some (.int a1)], [.int 0, .int a0, .ref 10], cH c (rF (rF s 17 a0) 18 a1))) rfl ?_
  obtain ⟨H0, H⟩ := H
  refine ev_ast (i := .iastore) rfl (Or.inl rfl) rfl H0 (by decide) rfl rfl (σ' := cH c (rA (rF (rF s 17 a0) 18 a1) 2 (ix a0) 0)) rfl ?_
  refine ev_ex 1 (c' := (18, [some (.ref 2), some (.int a0), some (.int a1)], [.ref 2], cH c (rA (rF (rF s 17 a0) 18 a1) 2 (ix a0) 0))) rfl ?_
  refine rc_V (idx := 149) rfl rfl rfl (Nat.le_of_ble_eq_true rfl) (Nat.le_of_ble_eq_true rfl) rfl H (fun s1 H => ?_)
  exact ev_ret rfl rfl rfl ⟨_, rfl, rfl, H⟩
set_option maxRecDepth 8000 in
theorem w_R_blames {c : CX} {d : Nat} {s : RS} {Q : RS → Prop} (a0 : Int32) (H : (((s.1 12) = 0 → ((¬ (s.1 10) = 3 → Q (rF (rF s 12 a0) 13 (s.1 9))) ∧ ((s.1 10) = 3 → Q (rF (rF s 12 1) 13 (s.1 9))))) ∧ (¬ (s.1 12) = 0 → Q s))) : RV c (d) m_R_blames [.ref 2, .int a0] s Q := by
  refine ⟨q_R_blames, rfl, Nat.le_of_ble_eq_true rfl, ?_⟩
  refine ev_ex 0 (c' := (0, [some (.ref 2), some (.int a0)], [], cH c s)) rfl ?_
  refine ev_ex 2 (c' := (4, [some (.ref 2), some (.int a0)], [.int (s.1 12)], cH c s)) rfl ?_
  refine ev_if_eq (tgt := 8) rfl rfl (fun h => ?_) (fun h => ?_)
  · replace H := H.1 (h)
    refine ev_ex 4 (c' := (14, [some (.ref 2), some (.int a0)], [.int 3, .int (s.1 10), .ref 2], cH c s)) rfl ?_
    refine ev_icmp_ne (tgt := 21) rfl rfl (fun h => ?_) (fun h => ?_)
    · replace H := H.1 (h)
      refine ev_ex 6 (c' := (33, [some (.ref 2), some (.int a0)], [], cH c (rF (rF s 12 a0) 13 (s.1 9)))) rfl ?_
      exact ev_ret rfl rfl rfl ⟨_, rfl, rfl, H⟩
    · replace H := H.2 (h)
      refine ev_ex 7 (c' := (33, [some (.ref 2), some (.int a0)], [], cH c (rF (rF s 12 1) 13 (s.1 9)))) rfl ?_
      exact ev_ret rfl rfl rfl ⟨_, rfl, rfl, H⟩
  · replace H := H.2 (h)
    exact ev_ret rfl rfl rfl ⟨_, rfl, rfl, H⟩
set_option maxRecDepth 8000 in
theorem w_R_readStop {c : CX} {d : Nat} {s : RS} {Q : RS → Prop}  (H : RV c d m_R_mustSign [.ref 2, .int 59] s (fun s1 => ((¬ (s1.1 12) = 0 → Q s1) ∧ ((s1.1 12) = 0 → (okx 0 2101 ∧ (okx 0 2101 ∧ Q (rA s1 2 (ix 0) ((s1.2.1 2 (ix 0)) + 1)))))))) : RV c (d + 1) m_R_readStop [.ref 2] s Q := by
  refine ⟨q_R_readStop, rfl, Nat.le_of_ble_eq_true rfl, ?_⟩
  refine ev_ex 0 (c' := (0, [some (.ref 2)], [], cH c s)) rfl ?_
  refine ev_ex 2 (c' := (3, [some (.ref 2)], [.int 59, .ref 2], cH c s)) rfl ?_
  refine rc_V (idx := 176) rfl rfl rfl (Nat.le_of_ble_eq_true rfl) (Nat.le_of_ble_eq_true rfl) rfl H (fun s1 H => ?_)
  refine ev_ex 2 (c' := (10, [some (.ref 2)], [.int (s1.1 12)], cH c s1)) rfl ?_
  refine ev_if_ne (tgt := 23) rfl rfl (fun h => ?_) (fun h => ?_)
  · replace H := H.1 (h)
    exact ev_ret rfl rfl rfl ⟨_, rfl, rfl, H⟩
  · replace H := H.2 (h)
    refine ev_ex 4 (c' := (19, [some (.ref 2)], [.int 0, .ref 10, .int 0, .ref 10], cH c s1)) rfl ?_
    obtain ⟨H0, H⟩ := H
    refine ev_ald (i := .iaload) rfl (Or.inl rfl) rfl H0 (v := .int (s1.2.1 2 (ix 0))) rfl ?_
    refine ev_ex 2 (c' := (22, [some (.ref 2)], [.int ((s1.2.1 2 (ix 0)) + 1), .int 0, .ref 10], cH c s1)) rfl ?_
    obtain ⟨H0, H⟩ := H
    refine ev_ast (i := .iastore) rfl (Or.inl rfl) rfl H0 (by decide) rfl rfl (σ' := cH c (rA s1 2 (ix 0) ((s1.2.1 2 (ix 0)) + 1))) rfl ?_
    exact ev_ret rfl rfl rfl ⟨_, rfl, rfl, H⟩
set_option maxRecDepth 8000 in
theorem w_R_begins {c : CX} {d : Nat} {s : RS} {Q : Bool → RS → Prop} (a0 : Int32) (a1 : Int32) (H : (okx a0 2101 ∧ ((¬ (s.2.1 2 (ix a0)) = a1 → ((¬ (s.1 12) = 0 → ((¬ (s.1 12) = 0 → Q false s) ∧ ((s.1 12) = 0 → Q true s))) ∧ ((s.1 12) = 0 → RV c d m_R_readsOn [.ref 2] s (fun s1 => ((¬ (s1.1 12) = 0 → Q false s1) ∧ ((s1.1 12) = 0 → Q true s1)))))) ∧ ((s.2.1 2 (ix a0)) = a1 → RV c d m_R_blames [.ref 2, .int 4] s (fun s2 => ((¬ (s2.1 12) = 0 → ((¬ (s2.1 12) = 0 → Q false s2) ∧ ((s2.1 12) = 0 → Q true s2))) ∧ ((s2.1 12) = 0 → RV c d m_R_readsOn [.ref 2] s2 (fun s3 => ((¬ (s3.1 12) = 0 → Q false s3) ∧ ((s3.1 12) = 0 → Q true s3)))))))))) : RB c (d + 1) m_R_begins [.ref 2, .int a0, .int a1] s Q := by
  refine ⟨q_R_begins, rfl, Nat.le_of_ble_eq_true rfl, ?_⟩
  refine ev_ex 0 (c' := (0, [some (.ref 2), some (.int a0), some (.int a1)], [], cH c s)) rfl ?_
  refine ev_ex 3 (c' := (5, [some (.ref 2), some (.int a0), some (.int a1)], [.int a0, .ref 10], cH c s)) rfl ?_
  obtain ⟨H0, H⟩ := H
  refine ev_ald (i := .iaload) rfl (Or.inl rfl) rfl H0 (v := .int (s.2.1 2 (ix a0))) rfl ?_
  refine ev_ex 1 (c' := (7, [some (.ref 2), some (.int a0), some (.int a1)], [.int a1, .int (s.2.1 2 (ix a0))], cH c s)) rfl ?_
  refine ev_icmp_ne (tgt := 15) rfl rfl (fun h => ?_) (fun h => ?_)
  · replace H := H.1 (h)
    refine ev_ex 2 (c' := (19, [some (.ref 2), some (.int a0), some (.int a1)], [.int (s.1 12)], cH c s)) rfl ?_
    refine ev_if_ne (tgt := 26) rfl rfl (fun h => ?_) (fun h => ?_)
    · replace H := H.1 (h)
      refine ev_ex 2 (c' := (30, [some (.ref 2), some (.int a0), some (.int a1)], [.int (s.1 12)], cH c s)) rfl ?_
      refine ev_if_ne (tgt := 37) rfl rfl (fun h => ?_) (fun h => ?_)
      · replace H := H.1 (h)
        refine ev_ex 1 (c' := (38, [some (.ref 2), some (.int a0), some (.int a1)], [.int 0], cH c s)) rfl ?_
        exact ev_retB (x := false) rfl rfl ⟨_, _, rfl, rfl, H⟩
      · replace H := H.2 (h)
        refine ev_ex 2 (c' := (38, [some (.ref 2), some (.int a0), some (.int a1)], [.int 1], cH c s)) rfl ?_
        exact ev_retB (x := true) rfl rfl ⟨_, _, rfl, rfl, H⟩
    · replace H := H.2 (h)
      refine ev_ex 1 (c' := (23, [some (.ref 2), some (.int a0), some (.int a1)], [.ref 2], cH c s)) rfl ?_
      refine rc_V (idx := 129) rfl rfl rfl (Nat.le_of_ble_eq_true rfl) (Nat.le_of_ble_eq_true rfl) rfl H (fun s1 H => ?_)
      refine ev_ex 2 (c' := (30, [some (.ref 2), some (.int a0), some (.int a1)], [.int (s1.1 12)], cH c s1)) rfl ?_
      refine ev_if_ne (tgt := 37) rfl rfl (fun h => ?_) (fun h => ?_)
      · replace H := H.1 (h)
        refine ev_ex 1 (c' := (38, [some (.ref 2), some (.int a0), some (.int a1)], [.int 0], cH c s1)) rfl ?_
        exact ev_retB (x := false) rfl rfl ⟨_, _, rfl, rfl, H⟩
      · replace H := H.2 (h)
        refine ev_ex 2 (c' := (38, [some (.ref 2), some (.int a0), some (.int a1)], [.int 1], cH c s1)) rfl ?_
        exact ev_retB (x := true) rfl rfl ⟨_, _, rfl, rfl, H⟩
  · replace H := H.2 (h)
    refine ev_ex 2 (c' := (12, [some (.ref 2), some (.int a0), some (.int a1)], [.int 4, .ref 2], cH c s)) rfl ?_
    refine rc_V (idx := 132) rfl rfl rfl (Nat.le_of_ble_eq_true rfl) (Nat.le_of_ble_eq_true rfl) rfl H (fun s2 H => ?_)
    refine ev_ex 2 (c' := (19, [some (.ref 2), some (.int a0), some (.int a1)], [.int (s2.1 12)], cH c s2)) rfl ?_
    refine ev_if_ne (tgt := 26) rfl rfl (fun h => ?_) (fun h => ?_)
    · replace H := H.1 (h)
      refine ev_ex 2 (c' := (30, [some (.ref 2), some (.int a0), some (.int a1)], [.int (s2.1 12)], cH c s2)) rfl ?_
      refine ev_if_ne (tgt := 37) rfl rfl (fun h => ?_) (fun h => ?_)
      · replace H := H.1 (h)
        refine ev_ex 1 (c' := (38, [some (.ref 2), some (.int a0), some (.int a1)], [.int 0], cH c s2)) rfl ?_
        exact ev_retB (x := false) rfl rfl ⟨_, _, rfl, rfl, H⟩
      · replace H := H.2 (h)
        refine ev_ex 2 (c' := (38, [some (.ref 2), some (.int a0), some (.int a1)], [.int 1], cH c s2)) rfl ?_
        exact ev_retB (x := true) rfl rfl ⟨_, _, rfl, rfl, H⟩
    · replace H := H.2 (h)
      refine ev_ex 1 (c' := (23, [some (.ref 2), some (.int a0), some (.int a1)], [.ref 2], cH c s2)) rfl ?_
      refine rc_V (idx := 129) rfl rfl rfl (Nat.le_of_ble_eq_true rfl) (Nat.le_of_ble_eq_true rfl) rfl H (fun s3 H => ?_)
      refine ev_ex 2 (c' := (30, [some (.ref 2), some (.int a0), some (.int a1)], [.int (s3.1 12)], cH c s3)) rfl ?_
      refine ev_if_ne (tgt := 37) rfl rfl (fun h => ?_) (fun h => ?_)
      · replace H := H.1 (h)
        refine ev_ex 1 (c' := (38, [some (.ref 2), some (.int a0), some (.int a1)], [.int 0], cH c s3)) rfl ?_
        exact ev_retB (x := false) rfl rfl ⟨_, _, rfl, rfl, H⟩
      · replace H := H.2 (h)
        refine ev_ex 2 (c' := (38, [some (.ref 2), some (.int a0), some (.int a1)], [.int 1], cH c s3)) rfl ?_
        exact ev_retB (x := true) rfl rfl ⟨_, _, rfl, rfl, H⟩
set_option maxRecDepth 8000 in
theorem w_R_number {c : CX} {d : Nat} {s : RS} {Q : Int32 → RS → Prop} (a0 : Int32) (a1 : Int32) (H : (((s.1 10) = 2 → (((wth ((s.1 11).toInt64) a0.toInt64 a1.toInt64) = true → ((¬ (s.1 12) = 0 → ((¬ (s.1 12) = 0 → Q a0 s) ∧ ((s.1 12) = 0 → Q (s.1 11) s))) ∧ ((s.1 12) = 0 → RV c d m_R_readsOn [.ref 2] s (fun s1 => ((¬ (s1.1 12) = 0 → Q a0 s1) ∧ ((s1.1 12) = 0 → Q (s.1 11) s1)))))) ∧ ((wth ((s.1 11).toInt64) a0.toInt64 a1.toInt64) = false → RV c d m_R_blames [.ref 2, .int 3] s (fun s2 => ((¬ (s2.1 12) = 0 → ((¬ (s2.1 12) = 0 → Q a0 s2) ∧ ((s2.1 12) = 0 → Q (s2.1 11) s2))) ∧ ((s2.1 12) = 0 → RV c d m_R_readsOn [.ref 2] s2 (fun s3 => ((¬ (s3.1 12) = 0 → Q a0 s3) ∧ ((s3.1 12) = 0 → Q (s2.1 11) s3))))))))) ∧ (¬ (s.1 10) = 2 → RV c d m_R_blames [.ref 2, .int 2] s (fun s4 => ((¬ (s4.1 12) = 0 → ((¬ (s4.1 12) = 0 → Q a0 s4) ∧ ((s4.1 12) = 0 → Q (s4.1 11) s4))) ∧ ((s4.1 12) = 0 → RV c d m_R_readsOn [.ref 2] s4 (fun s5 => ((¬ (s5.1 12) = 0 → Q a0 s5) ∧ ((s5.1 12) = 0 → Q (s4.1 11) s5))))))))) : RI c (d + 1) m_R_number [.ref 2, .int a0, .int a1] s Q := by
  refine ⟨q_R_number, rfl, Nat.le_of_ble_eq_true rfl, ?_⟩
  refine ev_ex 0 (c' := (0, [some (.ref 2), some (.int a0), some (.int a1), none], [], cH c s)) rfl ?_
  refine ev_ex 3 (c' := (5, [some (.ref 2), some (.int a0), some (.int a1), none], [.int 2, .int (s.1 10)], cH c s)) rfl ?_
  refine ev_icmp_eq (tgt := 16) rfl rfl (fun h => ?_) (fun h => ?_)
  · replace H := H.1 (h)
    refine ev_ex 7 (c' := (25, [some (.ref 2), some (.int a0), some (.int a1), none], [.long a1.toInt64, .long a0.toInt64, .long ((s.1 11).toInt64)], cH c s)) rfl ?_
    refine rq_B (idx := 136) (V := wth ((s.1 11).toInt64) a0.toInt64 a1.toInt64) (S := s) rfl rfl rfl (Nat.le_of_ble_eq_true rfl) (Nat.le_of_ble_eq_true rfl) rfl (zq_R_within ⟨rfl, rfl⟩) ?_
    refine ev_if_neB (x := (wth ((s.1 11).toInt64) a0.toInt64 a1.toInt64)) (tgt := 36) rfl rfl (fun h => ?_) (fun h => ?_)
    · replace H := H.1 (h)
      refine ev_ex 5 (c' := (45, [some (.ref 2), some (.int a0), some (.int a1), some (.int (s.1 11))], [.int (s.1 12)], cH c s)) rfl ?_
      refine ev_if_ne (tgt := 52) rfl rfl (fun h => ?_) (fun h => ?_)
      · replace H := H.1 (h)
        refine ev_ex 2 (c' := (56, [some (.ref 2), some (.int a0), some (.int a1), some (.int (s.1 11))], [.int (s.1 12)], cH c s)) rfl ?_
        refine ev_if_ne (tgt := 63) rfl rfl (fun h => ?_) (fun h => ?_)
        · replace H := H.1 (h)
          refine ev_ex 1 (c' := (64, [some (.ref 2), some (.int a0), some (.int a1), some (.int (s.1 11))], [.int a0], cH c s)) rfl ?_
          exact ev_ret rfl rfl rfl ⟨_, _, rfl, rfl, H⟩
        · replace H := H.2 (h)
          refine ev_ex 2 (c' := (64, [some (.ref 2), some (.int a0), some (.int a1), some (.int (s.1 11))], [.int (s.1 11)], cH c s)) rfl ?_
          exact ev_ret rfl rfl rfl ⟨_, _, rfl, rfl, H⟩
      · replace H := H.2 (h)
        refine ev_ex 1 (c' := (49, [some (.ref 2), some (.int a0), some (.int a1), some (.int (s.1 11))], [.ref 2], cH c s)) rfl ?_
        refine rc_V (idx := 129) rfl rfl rfl (Nat.le_of_ble_eq_true rfl) (Nat.le_of_ble_eq_true rfl) rfl H (fun s1 H => ?_)
        refine ev_ex 2 (c' := (56, [some (.ref 2), some (.int a0), some (.int a1), some (.int (s.1 11))], [.int (s1.1 12)], cH c s1)) rfl ?_
        refine ev_if_ne (tgt := 63) rfl rfl (fun h => ?_) (fun h => ?_)
        · replace H := H.1 (h)
          refine ev_ex 1 (c' := (64, [some (.ref 2), some (.int a0), some (.int a1), some (.int (s.1 11))], [.int a0], cH c s1)) rfl ?_
          exact ev_ret rfl rfl rfl ⟨_, _, rfl, rfl, H⟩
        · replace H := H.2 (h)
          refine ev_ex 2 (c' := (64, [some (.ref 2), some (.int a0), some (.int a1), some (.int (s.1 11))], [.int (s.1 11)], cH c s1)) rfl ?_
          exact ev_ret rfl rfl rfl ⟨_, _, rfl, rfl, H⟩
    · replace H := H.2 (h)
      refine ev_ex 2 (c' := (33, [some (.ref 2), some (.int a0), some (.int a1), none], [.int 3, .ref 2], cH c s)) rfl ?_
      refine rc_V (idx := 132) rfl rfl rfl (Nat.le_of_ble_eq_true rfl) (Nat.le_of_ble_eq_true rfl) rfl H (fun s2 H => ?_)
      refine ev_ex 5 (c' := (45, [some (.ref 2), some (.int a0), some (.int a1), some (.int (s2.1 11))], [.int (s2.1 12)], cH c s2)) rfl ?_
      refine ev_if_ne (tgt := 52) rfl rfl (fun h => ?_) (fun h => ?_)
      · replace H := H.1 (h)
        refine ev_ex 2 (c' := (56, [some (.ref 2), some (.int a0), some (.int a1), some (.int (s2.1 11))], [.int (s2.1 12)], cH c s2)) rfl ?_
        refine ev_if_ne (tgt := 63) rfl rfl (fun h => ?_) (fun h => ?_)
        · replace H := H.1 (h)
          refine ev_ex 1 (c' := (64, [some (.ref 2), some (.int a0), some (.int a1), some (.int (s2.1 11))], [.int a0], cH c s2)) rfl ?_
          exact ev_ret rfl rfl rfl ⟨_, _, rfl, rfl, H⟩
        · replace H := H.2 (h)
          refine ev_ex 2 (c' := (64, [some (.ref 2), some (.int a0), some (.int a1), some (.int (s2.1 11))], [.int (s2.1 11)], cH c s2)) rfl ?_
          exact ev_ret rfl rfl rfl ⟨_, _, rfl, rfl, H⟩
      · replace H := H.2 (h)
        refine ev_ex 1 (c' := (49, [some (.ref 2), some (.int a0), some (.int a1), some (.int (s2.1 11))], [.ref 2], cH c s2)) rfl ?_
        refine rc_V (idx := 129) rfl rfl rfl (Nat.le_of_ble_eq_true rfl) (Nat.le_of_ble_eq_true rfl) rfl H (fun s3 H => ?_)
        refine ev_ex 2 (c' := (56, [some (.ref 2), some (.int a0), some (.int a1), some (.int (s2.1 11))], [.int (s3.1 12)], cH c s3)) rfl ?_
        refine ev_if_ne (tgt := 63) rfl rfl (fun h => ?_) (fun h => ?_)
        · replace H := H.1 (h)
          refine ev_ex 1 (c' := (64, [some (.ref 2), some (.int a0), some (.int a1), some (.int (s2.1 11))], [.int a0], cH c s3)) rfl ?_
          exact ev_ret rfl rfl rfl ⟨_, _, rfl, rfl, H⟩
        · replace H := H.2 (h)
          refine ev_ex 2 (c' := (64, [some (.ref 2), some (.int a0), some (.int a1), some (.int (s2.1 11))], [.int (s2.1 11)], cH c s3)) rfl ?_
          exact ev_ret rfl rfl rfl ⟨_, _, rfl, rfl, H⟩
  · replace H := H.2 (h)
    refine ev_ex 2 (c' := (10, [some (.ref 2), some (.int a0), some (.int a1), none], [.int 2, .ref 2], cH c s)) rfl ?_
    refine rc_V (idx := 132) rfl rfl rfl (Nat.le_of_ble_eq_true rfl) (Nat.le_of_ble_eq_true rfl) rfl H (fun s4 H => ?_)
    refine ev_ex 6 (c' := (45, [some (.ref 2), some (.int a0), some (.int a1), some (.int (s4.1 11))], [.int (s4.1 12)], cH c s4)) rfl ?_
    refine ev_if_ne (tgt := 52) rfl rfl (fun h => ?_) (fun h => ?_)
    · replace H := H.1 (h)
      refine ev_ex 2 (c' := (56, [some (.ref 2), some (.int a0), some (.int a1), some (.int (s4.1 11))], [.int (s4.1 12)], cH c s4)) rfl ?_
      refine ev_if_ne (tgt := 63) rfl rfl (fun h => ?_) (fun h => ?_)
      · replace H := H.1 (h)
        refine ev_ex 1 (c' := (64, [some (.ref 2), some (.int a0), some (.int a1), some (.int (s4.1 11))], [.int a0], cH c s4)) rfl ?_
        exact ev_ret rfl rfl rfl ⟨_, _, rfl, rfl, H⟩
      · replace H := H.2 (h)
        refine ev_ex 2 (c' := (64, [some (.ref 2), some (.int a0), some (.int a1), some (.int (s4.1 11))], [.int (s4.1 11)], cH c s4)) rfl ?_
        exact ev_ret rfl rfl rfl ⟨_, _, rfl, rfl, H⟩
    · replace H := H.2 (h)
      refine ev_ex 1 (c' := (49, [some (.ref 2), some (.int a0), some (.int a1), some (.int (s4.1 11))], [.ref 2], cH c s4)) rfl ?_
      refine rc_V (idx := 129) rfl rfl rfl (Nat.le_of_ble_eq_true rfl) (Nat.le_of_ble_eq_true rfl) rfl H (fun s5 H => ?_)
      refine ev_ex 2 (c' := (56, [some (.ref 2), some (.int a0), some (.int a1), some (.int (s4.1 11))], [.int (s5.1 12)], cH c s5)) rfl ?_
      refine ev_if_ne (tgt := 63) rfl rfl (fun h => ?_) (fun h => ?_)
      · replace H := H.1 (h)
        refine ev_ex 1 (c' := (64, [some (.ref 2), some (.int a0), some (.int a1), some (.int (s4.1 11))], [.int a0], cH c s5)) rfl ?_
        exact ev_ret rfl rfl rfl ⟨_, _, rfl, rfl, H⟩
      · replace H := H.2 (h)
        refine ev_ex 2 (c' := (64, [some (.ref 2), some (.int a0), some (.int a1), some (.int (s4.1 11))], [.int (s4.1 11)], cH c s5)) rfl ?_
        exact ev_ret rfl rfl rfl ⟨_, _, rfl, rfl, H⟩
set_option maxRecDepth 8000 in
theorem w_R_readTruth {c : CX} {d : Nat} {s : RS} {Q : RS → Prop}  (H : RV c d m_R_readBoth [.ref 2] s (fun s1 => eR c (d + 1) m_R_readTruth 4 [some (.ref 2)] s1 (pV c Q))) : RV c (d + 1) m_R_readTruth [.ref 2] s Q := by
  refine ⟨q_R_readTruth, rfl, Nat.le_of_ble_eq_true rfl, ?_⟩
  refine ev_ex 0 (c' := (0, [some (.ref 2)], [], cH c s)) rfl ?_
  refine ev_ex 1 (c' := (1, [some (.ref 2)], [.ref 2], cH c s)) rfl ?_
  refine rc_V (idx := 152) rfl rfl rfl (Nat.le_of_ble_eq_true rfl) (Nat.le_of_ble_eq_true rfl) rfl H (fun s1 H => ?_)
  exact H
set_option maxRecDepth 8000 in
theorem w_R_readTruth_4 {c : CX} {d : Nat} {s : RS} {Q : RS → Prop}  (H : RB c d m_R_took [.ref 2, .ref 360] s (fun v2 s1 => ((v2 = false → Q s1) ∧ (v2 = true → RV c d m_R_readBoth [.ref 2] s1 (fun s3 => RV c d m_R_laysStep [.ref 2, .int 17] s3 (fun s4 => eR c (d + 1) m_R_readTruth 4 [some (.ref 2)] s4 (pV c Q))))))) : eR c (d + 1) m_R_readTruth 4 [some (.ref 2)] s (pV c Q) := by
  unfold eR
  refine ev_ex 0 (c' := (4, [some (.ref 2)], [], cH c s)) rfl ?_
  refine ev_ex 2 (c' := (7, [some (.ref 2)], [.ref 360, .ref 2], cH c s)) rfl ?_
  refine rc_B (idx := 157) rfl rfl rfl (Nat.le_of_ble_eq_true rfl) (Nat.le_of_ble_eq_true rfl) rfl H (fun v2 s1 H => ?_)
  refine ev_if_eqB (x := v2) (tgt := 26) rfl rfl (fun h => ?_) (fun h => ?_)
  · replace H := H.1 (h)
    exact ev_ret rfl rfl rfl ⟨_, rfl, rfl, H⟩
  · replace H := H.2 (h)
    refine ev_ex 1 (c' := (14, [some (.ref 2)], [.ref 2], cH c s1)) rfl ?_
    refine rc_V (idx := 152) rfl rfl rfl (Nat.le_of_ble_eq_true rfl) (Nat.le_of_ble_eq_true rfl) rfl H (fun s3 H => ?_)
    refine ev_ex 2 (c' := (20, [some (.ref 2)], [.int 17, .ref 2], cH c s3)) rfl ?_
    refine rc_V (idx := 160) rfl rfl rfl (Nat.le_of_ble_eq_true rfl) (Nat.le_of_ble_eq_true rfl) rfl H (fun s4 H => ?_)
    refine ev_ex 1 (c' := (4, [some (.ref 2)], [], cH c s4)) rfl ?_
    exact H
set_option maxRecDepth 8000 in
theorem w_R_mustSign {c : CX} {d : Nat} {s : RS} {Q : RS → Prop} (a0 : Int32) (H : (((s.1 10) = a0 → ((¬ (s.1 12) = 0 → Q s) ∧ ((s.1 12) = 0 → RV c d m_R_readsOn [.ref 2] s (fun s1 => Q s1)))) ∧ (¬ (s.1 10) = a0 → RV c d m_R_blames [.ref 2, .int 2] s (fun s2 => ((¬ (s2.1 12) = 0 → Q s2) ∧ ((s2.1 12) = 0 → RV c d m_R_readsOn [.ref 2] s2 (fun s3 => Q s3))))))) : RV c (d + 1) m_R_mustSign [.ref 2, .int a0] s Q := by
  refine ⟨q_R_mustSign, rfl, Nat.le_of_ble_eq_true rfl, ?_⟩
  refine ev_ex 0 (c' := (0, [some (.ref 2), some (.int a0)], [], cH c s)) rfl ?_
  refine ev_ex 3 (c' := (5, [some (.ref 2), some (.int a0)], [.int a0, .int (s.1 10)], cH c s)) rfl ?_
  refine ev_icmp_eq (tgt := 13) rfl rfl (fun h => ?_) (fun h => ?_)
  · replace H := H.1 (h)
    refine ev_ex 2 (c' := (17, [some (.ref 2), some (.int a0)], [.int (s.1 12)], cH c s)) rfl ?_
    refine ev_if_ne (tgt := 24) rfl rfl (fun h => ?_) (fun h => ?_)
    · replace H := H.1 (h)
      exact ev_ret rfl rfl rfl ⟨_, rfl, rfl, H⟩
    · replace H := H.2 (h)
      refine ev_ex 1 (c' := (21, [some (.ref 2), some (.int a0)], [.ref 2], cH c s)) rfl ?_
      refine rc_V (idx := 129) rfl rfl rfl (Nat.le_of_ble_eq_true rfl) (Nat.le_of_ble_eq_true rfl) rfl H (fun s1 H => ?_)
      exact ev_ret rfl rfl rfl ⟨_, rfl, rfl, H⟩
  · replace H := H.2 (h)
    refine ev_ex 2 (c' := (10, [some (.ref 2), some (.int a0)], [.int 2, .ref 2], cH c s)) rfl ?_
    refine rc_V (idx := 132) rfl rfl rfl (Nat.le_of_ble_eq_true rfl) (Nat.le_of_ble_eq_true rfl) rfl H (fun s2 H => ?_)
    refine ev_ex 2 (c' := (17, [some (.ref 2), some (.int a0)], [.int (s2.1 12)], cH c s2)) rfl ?_
    refine ev_if_ne (tgt := 24) rfl rfl (fun h => ?_) (fun h => ?_)
    · replace H := H.1 (h)
      exact ev_ret rfl rfl rfl ⟨_, rfl, rfl, H⟩
    · replace H := H.2 (h)
      refine ev_ex 1 (c' := (21, [some (.ref 2), some (.int a0)], [.ref 2], cH c s2)) rfl ?_
      refine rc_V (idx := 129) rfl rfl rfl (Nat.le_of_ble_eq_true rfl) (Nat.le_of_ble_eq_true rfl) rfl H (fun s3 H => ?_)
      exact ev_ret rfl rfl rfl ⟨_, rfl, rfl, H⟩
set_option maxRecDepth 8000 in
theorem w_R_readBoth {c : CX} {d : Nat} {s : RS} {Q : RS → Prop}  (H : RV c d m_R_readUnit [.ref 2] s (fun s1 => eR c (d + 1) m_R_readBoth 4 [some (.ref 2)] s1 (pV c Q))) : RV c (d + 1) m_R_readBoth [.ref 2] s Q := by
  refine ⟨q_R_readBoth, rfl, Nat.le_of_ble_eq_true rfl, ?_⟩
  refine ev_ex 0 (c' := (0, [some (.ref 2)], [], cH c s)) rfl ?_
  refine ev_ex 1 (c' := (1, [some (.ref 2)], [.ref 2], cH c s)) rfl ?_
  refine rc_V (idx := 163) rfl rfl rfl (Nat.le_of_ble_eq_true rfl) (Nat.le_of_ble_eq_true rfl) rfl H (fun s1 H => ?_)
  exact H
set_option maxRecDepth 8000 in
theorem w_R_readBoth_4 {c : CX} {d : Nat} {s : RS} {Q : RS → Prop}  (H : RB c d m_R_took [.ref 2, .ref 352] s (fun v2 s1 => ((v2 = false → Q s1) ∧ (v2 = true → RV c d m_R_readUnit [.ref 2] s1 (fun s3 => RV c d m_R_laysStep [.ref 2, .int 16] s3 (fun s4 => eR c (d + 1) m_R_readBoth 4 [some (.ref 2)] s4 (pV c Q))))))) : eR c (d + 1) m_R_readBoth 4 [some (.ref 2)] s (pV c Q) := by
  unfold eR
  refine ev_ex 0 (c' := (4, [some (.ref 2)], [], cH c s)) rfl ?_
  refine ev_ex 2 (c' := (7, [some (.ref 2)], [.ref 352, .ref 2], cH c s)) rfl ?_
  refine rc_B (idx := 157) rfl rfl rfl (Nat.le_of_ble_eq_true rfl) (Nat.le_of_ble_eq_true rfl) rfl H (fun v2 s1 H => ?_)
  refine ev_if_eqB (x := v2) (tgt := 26) rfl rfl (fun h => ?_) (fun h => ?_)
  · replace H := H.1 (h)
    exact ev_ret rfl rfl rfl ⟨_, rfl, rfl, H⟩
  · replace H := H.2 (h)
    refine ev_ex 1 (c' := (14, [some (.ref 2)], [.ref 2], cH c s1)) rfl ?_
    refine rc_V (idx := 163) rfl rfl rfl (Nat.le_of_ble_eq_true rfl) (Nat.le_of_ble_eq_true rfl) rfl H (fun s3 H => ?_)
    refine ev_ex 2 (c' := (20, [some (.ref 2)], [.int 16, .ref 2], cH c s3)) rfl ?_
    refine rc_V (idx := 160) rfl rfl rfl (Nat.le_of_ble_eq_true rfl) (Nat.le_of_ble_eq_true rfl) rfl H (fun s4 H => ?_)
    refine ev_ex 1 (c' := (4, [some (.ref 2)], [], cH c s4)) rfl ?_
    exact H
set_option maxRecDepth 8000 in
theorem w_R_laysStep {c : CX} {d : Nat} {s : RS} {Q : RS → Prop} (a0 : Int32) (H : (((s.1 12) = 0 → (okx (s.1 17) 2101 ∧ (okx ((s.1 18) + (s.2.1 2 (ix (s.1 17)))) 2101 ∧ eR c (d) m_R_laysStep 28 [some (.ref 2), some (.int a0)] (rA s 2 (ix ((s.1 18) + (s.2.1 2 (ix (s.1 17))))) a0) (pV c Q)))) ∧ (¬ (s.1 12) = 0 → Q s))) : RV c (d) m_R_laysStep [.ref 2, .int a0] s Q := by
  refine ⟨q_R_laysStep, rfl, Nat.le_of_ble_eq_true rfl, ?_⟩
  refine ev_ex 0 (c' := (0, [some (.ref 2), some (.int a0)], [], cH c s)) rfl ?_
  refine ev_ex 2 (c' := (4, [some (.ref 2), some (.int a0)], [.int (s.1 12)], cH c s)) rfl ?_
  refine ev_if_eq (tgt := 8) rfl rfl (fun h => ?_) (fun h => ?_)
  · replace H := H.1 (h)
    refine ev_ex 8 (c' := (24, [some (.ref 2), some (.int a0)], [.int (s.1 17), .ref 10, .int (s.1 18), .ref 10], cH c s)) rfl ?_
    obtain ⟨H0, H⟩ := H
    refine ev_ald (i := .iaload) rfl (Or.inl rfl) rfl H0 (v := .int (s.2.1 2 (ix (s.1 17)))) rfl ?_
    refine ev_ex 2 (c' := (27, [some (.ref 2), some (.int a0)], [.int a0, .int ((s.1 18) + (s.2.1 2 (ix (s.1 17)))), .ref 10], cH c s)) rfl ?_
    obtain ⟨H0, H⟩ := H
    refine ev_ast (i := .iastore) rfl (Or.inl rfl) rfl H0 (by decide) rfl rfl (σ' := cH c (rA s 2 (ix ((s.1 18) + (s.2.1 2 (ix (s.1 17))))) a0)) rfl ?_
    exact H
  · replace H := H.2 (h)
    exact ev_ret rfl rfl rfl ⟨_, rfl, rfl, H⟩
set_option maxRecDepth 8000 in
theorem w_R_laysStep_28 {c : CX} {d : Nat} {s : RS} {Q : RS → Prop} (l1 : Int32) (H : (okx (s.1 17) 2101 ∧ (okx (s.1 17) 2101 ∧ Q (rA s 2 (ix (s.1 17)) ((s.2.1 2 (ix (s.1 17))) + 1))))) : eR c (d) m_R_laysStep 28 [some (.ref 2), some (.int l1)] s (pV c Q) := by
  unfold eR
  refine ev_ex 0 (c' := (28, [some (.ref 2), some (.int l1)], [], cH c s)) rfl ?_
  refine ev_ex 5 (c' := (37, [some (.ref 2), some (.int l1)], [.int (s.1 17), .ref 10, .int (s.1 17), .ref 10], cH c s)) rfl ?_
  obtain ⟨H0, H⟩ := H
  refine ev_ald (i := .iaload) rfl (Or.inl rfl) rfl H0 (v := .int (s.2.1 2 (ix (s.1 17)))) rfl ?_
  refine ev_ex 2 (c' := (40, [some (.ref 2), some (.int l1)], [.int ((s.2.1 2 (ix (s.1 17))) + 1), .int (s.1 17), .ref 10], cH c s)) rfl ?_
  obtain ⟨H0, H⟩ := H
  refine ev_ast (i := .iastore) rfl (Or.inl rfl) rfl H0 (by decide) rfl rfl (σ' := cH c (rA s 2 (ix (s.1 17)) ((s.2.1 2 (ix (s.1 17))) + 1))) rfl ?_
  exact ev_ret rfl rfl rfl ⟨_, rfl, rfl, H⟩
set_option maxRecDepth 8000 in
theorem w_R_readUnit {c : CX} {d : Nat} {s : RS} {Q : RS → Prop}  (H : (((s.1 12) = 0 → RB c d m_R_isWord [.ref 2, .ref 280] s (fun v2 s1 => ((v2 = false → (((decide ((s1.1 12) = 0 ∧ (s1.1 10) = 91)) = false → RV c d m_R_readSum [.ref 2] s1 (fun s3 => (((s3.1 10) = 61 → ((¬ (s3.1 12) = 0 → RV c d m_R_readSum [.ref 2] s3 (fun s4 => ((¬ (s3.1 10) = 61 → ((¬ (s3.1 10) = 60 → RV c d m_R_laysStep [.ref 2, .int 15] s4 (fun s5 => Q s5)) ∧ ((s3.1 10) = 60 → RV c d m_R_laysStep [.ref 2, .int 14] s4 (fun s6 => Q s6)))) ∧ ((s3.1 10) = 61 → RV c d m_R_laysStep [.ref 2, .int 13] s4 (fun s7 => Q s7))))) ∧ ((s3.1 12) = 0 → RV c d m_R_readsOn [.ref 2] s3 (fun s8 => RV c d m_R_readSum [.ref 2] s8 (fun s9 => ((¬ (s3.1 10) = 61 → ((¬ (s3.1 10) = 60 → RV c d m_R_laysStep [.ref 2, .int 15] s9 (fun s10 => Q s10)) ∧ ((s3.1 10) = 60 → RV c d m_R_laysStep [.ref 2, .int 14] s9 (fun s11 => Q s11)))) ∧ ((s3.1 10) = 61 → RV c d m_R_laysStep [.ref 2, .int 13] s9 (fun s12 => Q s12)))))))) ∧ (¬ (s3.1 10) = 61 → (((s3.1 10) = 60 → ((¬ (s3.1 12) = 0 → RV c d m_R_readSum [.ref 2] s3 (fun s13 => ((¬ (s3.1 10) = 61 → ((¬ (s3.1 10) = 60 → RV c d m_R_laysStep [.ref 2, .int 15] s13 (fun s14 => Q s14)) ∧ ((s3.1 10) = 60 → RV c d m_R_laysStep [.ref 2, .int 14] s13 (fun s15 => Q s15)))) ∧ ((s3.1 10) = 61 → RV c d m_R_laysStep [.ref 2, .int 13] s13 (fun s16 => Q s16))))) ∧ ((s3.1 12) = 0 → RV c d m_R_readsOn [.ref 2] s3 (fun s17 => RV c d m_R_readSum [.ref 2] s17 (fun s18 => ((¬ (s3.1 10) = 61 → ((¬ (s3.1 10) = 60 → RV c d m_R_laysStep [.ref 2, .int 15] s18 (fun s19 => Q s19)) ∧ ((s3.1 10) = 60 → RV c d m_R_laysStep [.ref 2, .int 14] s18 (fun s20 => Q s20)))) ∧ ((s3.1 10) = 61 → RV c d m_R_laysStep [.ref 2, .int 13] s18 (fun s21 => Q s21)))))))) ∧ (¬ (s3.1 10) = 60 → (((s3.1 10) = 62 → ((¬ (s3.1 12) = 0 → RV c d m_R_readSum [.ref 2] s3 (fun s22 => ((¬ (s3.1 10) = 61 → ((¬ (s3.1 10) = 60 → RV c d m_R_laysStep [.ref 2, .int 15] s22 (fun s23 => Q s23)) ∧ ((s3.1 10) = 60 → RV c d m_R_laysStep [.ref 2, .int 14] s22 (fun s24 => Q s24)))) ∧ ((s3.1 10) = 61 → RV c d m_R_laysStep [.ref 2, .int 13] s22 (fun s25 => Q s25))))) ∧ ((s3.1 12) = 0 → RV c d m_R_readsOn [.ref 2] s3 (fun s26 => RV c d m_R_readSum [.ref 2] s26 (fun s27 => ((¬ (s3.1 10) = 61 → ((¬ (s3.1 10) = 60 → RV c d m_R_laysStep [.ref 2, .int 15] s27 (fun s28 => Q s28)) ∧ ((s3.1 10) = 60 → RV c d m_R_laysStep [.ref 2, .int 14] s27 (fun s29 => Q s29)))) ∧ ((s3.1 10) = 61 → RV c d m_R_laysStep [.ref 2, .int 13] s27 (fun s30 => Q s30)))))))) ∧ (¬ (s3.1 10) = 62 → RV c d m_R_blames [.ref 2, .int 2] s3 (fun s31 => ((¬ (s31.1 12) = 0 → RV c d m_R_readSum [.ref 2] s31 (fun s32 => ((¬ (s3.1 10) = 61 → ((¬ (s3.1 10) = 60 → RV c d m_R_laysStep [.ref 2, .int 15] s32 (fun s33 => Q s33)) ∧ ((s3.1 10) = 60 → RV c d m_R_laysStep [.ref 2, .int 14] s32 (fun s34 => Q s34)))) ∧ ((s3.1 10) = 61 → RV c d m_R_laysStep [.ref 2, .int 13] s32 (fun s35 => Q s35))))) ∧ ((s31.1 12) = 0 → RV c d m_R_readsOn [.ref 2] s31 (fun s36 => RV c d m_R_readSum [.ref 2] s36 (fun s37 => ((¬ (s3.1 10) = 61 → ((¬ (s3.1 10) = 60 → RV c d m_R_laysStep [.ref 2, .int 15] s37 (fun s38 => Q s38)) ∧ ((s3.1 10) = 60 → RV c d m_R_laysStep [.ref 2, .int 14] s37 (fun s39 => Q s39)))) ∧ ((s3.1 10) = 61 → RV c d m_R_laysStep [.ref 2, .int 13] s37 (fun s40 => Q s40)))))))))))))))) ∧ ((decide ((s1.1 12) = 0 ∧ (s1.1 10) = 91)) = true → RV c d m_R_goesIn [.ref 2] s1 (fun s41 => RV c d m_R_readTruth [.ref 2] s41 (fun s42 => RV c d m_R_mustSign [.ref 2, .int 93] s42 (fun s43 => Q (rF s43 16 ((s43.1 16) - 1)))))))) ∧ (v2 = true → RV c d m_R_goesIn [.ref 2] s1 (fun s44 => RV c d m_R_readUnit [.ref 2] s44 (fun s45 => RV c d m_R_laysStep [.ref 2, .int 18] s45 (fun s46 => Q (rF s46 16 ((s46.1 16) - 1))))))))) ∧ (¬ (s.1 12) = 0 → Q s))) : RV c (d + 1) m_R_readUnit [.ref 2] s Q := by
  refine ⟨q_R_readUnit, rfl, Nat.le_of_ble_eq_true rfl, ?_⟩
  refine ev_ex 0 (c' := (0, [some (.ref 2), none], [], cH c s)) rfl ?_
  refine ev_ex 2 (c' := (4, [some (.ref 2), none], [.int (s.1 12)], cH c s)) rfl ?_
  refine ev_if_eq (tgt := 8) rfl rfl (fun h => ?_) (fun h => ?_)
  · replace H := H.1 (h)
    refine ev_ex 2 (c' := (11, [some (.ref 2), none], [.ref 280, .ref 2], cH c s)) rfl ?_
    refine rc_B (idx := 125) rfl rfl rfl (Nat.le_of_ble_eq_true rfl) (Nat.le_of_ble_eq_true rfl) rfl H (fun v2 s1 H => ?_)
    refine ev_if_eqB (x := v2) (tgt := 44) rfl rfl (fun h => ?_) (fun h => ?_)
    · replace H := H.1 (h)
      refine ev_ex 2 (c' := (47, [some (.ref 2), none], [.int 91, .ref 2], cH c s1)) rfl ?_
      refine rq_B (idx := 173) (V := decide ((s1.1 12) = 0 ∧ (s1.1 10) = 91)) (S := s1) rfl rfl rfl (Nat.le_of_ble_eq_true rfl) (Nat.le_of_ble_eq_true rfl) rfl (zq_R_isSign ⟨rfl, rfl⟩) ?_
      refine ev_if_eqB (x := (decide ((s1.1 12) = 0 ∧ (s1.1 10) = 91))) (tgt := 80) rfl rfl (fun h => ?_) (fun h => ?_)
      · replace H := H.1 (h)
        refine ev_ex 1 (c' := (81, [some (.ref 2), none], [.ref 2], cH c s1)) rfl ?_
        refine rc_V (idx := 179) rfl rfl rfl (Nat.le_of_ble_eq_true rfl) (Nat.le_of_ble_eq_true rfl) rfl H (fun s3 H => ?_)
        refine ev_ex 5 (c' := (92, [some (.ref 2), some (.int (s3.1 10))], [.int 61, .int (s3.1 10)], cH c s3)) rfl ?_
        refine ev_icmp_eq (tgt := 112) rfl rfl (fun h => ?_) (fun h => ?_)
        · replace H := H.1 (h)
          refine ev_ex 2 (c' := (116, [some (.ref 2), some (.int (s3.1 10))], [.int (s3.1 12)], cH c s3)) rfl ?_
          refine ev_if_ne (tgt := 123) rfl rfl (fun h => ?_) (fun h => ?_)
          · replace H := H.1 (h)
            refine ev_ex 1 (c' := (124, [some (.ref 2), some (.int (s3.1 10))], [.ref 2], cH c s3)) rfl ?_
            refine rc_V (idx := 179) rfl rfl rfl (Nat.le_of_ble_eq_true rfl) (Nat.le_of_ble_eq_true rfl) rfl H (fun s4 H => ?_)
            refine ev_ex 3 (c' := (131, [some (.ref 2), some (.int (s3.1 10))], [.int 61, .int (s3.1 10), .ref 2], cH c s4)) rfl ?_
            refine ev_icmp_ne (tgt := 139) rfl rfl (fun h => ?_) (fun h => ?_)
            · replace H := H.1 (h)
              refine ev_ex 2 (c' := (142, [some (.ref 2), some (.int (s3.1 10))], [.int 60, .int (s3.1 10), .ref 2], cH c s4)) rfl ?_
              refine ev_icmp_ne (tgt := 150) rfl rfl (fun h => ?_) (fun h => ?_)
              · replace H := H.1 (h)
                refine ev_ex 1 (c' := (152, [some (.ref 2), some (.int (s3.1 10))], [.int 15, .ref 2], cH c s4)) rfl ?_
                refine rc_V (idx := 160) rfl rfl rfl (Nat.le_of_ble_eq_true rfl) (Nat.le_of_ble_eq_true rfl) rfl H (fun s5 H => ?_)
                exact ev_ret rfl rfl rfl ⟨_, rfl, rfl, H⟩
              · replace H := H.2 (h)
                refine ev_ex 2 (c' := (152, [some (.ref 2), some (.int (s3.1 10))], [.int 14, .ref 2], cH c s4)) rfl ?_
                refine rc_V (idx := 160) rfl rfl rfl (Nat.le_of_ble_eq_true rfl) (Nat.le_of_ble_eq_true rfl) rfl H (fun s6 H => ?_)
                exact ev_ret rfl rfl rfl ⟨_, rfl, rfl, H⟩
            · replace H := H.2 (h)
              refine ev_ex 2 (c' := (152, [some (.ref 2), some (.int (s3.1 10))], [.int 13, .ref 2], cH c s4)) rfl ?_
              refine rc_V (idx := 160) rfl rfl rfl (Nat.le_of_ble_eq_true rfl) (Nat.le_of_ble_eq_true rfl) rfl H (fun s7 H => ?_)
              exact ev_ret rfl rfl rfl ⟨_, rfl, rfl, H⟩
          · replace H := H.2 (h)
            refine ev_ex 1 (c' := (120, [some (.ref 2), some (.int (s3.1 10))], [.ref 2], cH c s3)) rfl ?_
            refine rc_V (idx := 129) rfl rfl rfl (Nat.le_of_ble_eq_true rfl) (Nat.le_of_ble_eq_true rfl) rfl H (fun s8 H => ?_)
            refine ev_ex 1 (c' := (124, [some (.ref 2), some (.int (s3.1 10))], [.ref 2], cH c s8)) rfl ?_
            refine rc_V (idx := 179) rfl rfl rfl (Nat.le_of_ble_eq_true rfl) (Nat.le_of_ble_eq_true rfl) rfl H (fun s9 H => ?_)
            refine ev_ex 3 (c' := (131, [some (.ref 2), some (.int (s3.1 10))], [.int 61, .int (s3.1 10), .ref 2], cH c s9)) rfl ?_
            refine ev_icmp_ne (tgt := 139) rfl rfl (fun h => ?_) (fun h => ?_)
            · replace H := H.1 (h)
              refine ev_ex 2 (c' := (142, [some (.ref 2), some (.int (s3.1 10))], [.int 60, .int (s3.1 10), .ref 2], cH c s9)) rfl ?_
              refine ev_icmp_ne (tgt := 150) rfl rfl (fun h => ?_) (fun h => ?_)
              · replace H := H.1 (h)
                refine ev_ex 1 (c' := (152, [some (.ref 2), some (.int (s3.1 10))], [.int 15, .ref 2], cH c s9)) rfl ?_
                refine rc_V (idx := 160) rfl rfl rfl (Nat.le_of_ble_eq_true rfl) (Nat.le_of_ble_eq_true rfl) rfl H (fun s10 H => ?_)
                exact ev_ret rfl rfl rfl ⟨_, rfl, rfl, H⟩
              · replace H := H.2 (h)
                refine ev_ex 2 (c' := (152, [some (.ref 2), some (.int (s3.1 10))], [.int 14, .ref 2], cH c s9)) rfl ?_
                refine rc_V (idx := 160) rfl rfl rfl (Nat.le_of_ble_eq_true rfl) (Nat.le_of_ble_eq_true rfl) rfl H (fun s11 H => ?_)
                exact ev_ret rfl rfl rfl ⟨_, rfl, rfl, H⟩
            · replace H := H.2 (h)
              refine ev_ex 2 (c' := (152, [some (.ref 2), some (.int (s3.1 10))], [.int 13, .ref 2], cH c s9)) rfl ?_
              refine rc_V (idx := 160) rfl rfl rfl (Nat.le_of_ble_eq_true rfl) (Nat.le_of_ble_eq_true rfl) rfl H (fun s12 H => ?_)
              exact ev_ret rfl rfl rfl ⟨_, rfl, rfl, H⟩
        · replace H := H.2 (h)
          refine ev_ex 2 (c' := (98, [some (.ref 2), some (.int (s3.1 10))], [.int 60, .int (s3.1 10)], cH c s3)) rfl ?_
          refine ev_icmp_eq (tgt := 112) rfl rfl (fun h => ?_) (fun h => ?_)
          · replace H := H.1 (h)
            refine ev_ex 2 (c' := (116, [some (.ref 2), some (.int (s3.1 10))], [.int (s3.1 12)], cH c s3)) rfl ?_
            refine ev_if_ne (tgt := 123) rfl rfl (fun h => ?_) (fun h => ?_)
            · replace H := H.1 (h)
              refine ev_ex 1 (c' := (124, [some (.ref 2), some (.int (s3.1 10))], [.ref 2], cH c s3)) rfl ?_
              refine rc_V (idx := 179) rfl rfl rfl (Nat.le_of_ble_eq_true rfl) (Nat.le_of_ble_eq_true rfl) rfl H (fun s13 H => ?_)
              refine ev_ex 3 (c' := (131, [some (.ref 2), some (.int (s3.1 10))], [.int 61, .int (s3.1 10), .ref 2], cH c s13)) rfl ?_
              refine ev_icmp_ne (tgt := 139) rfl rfl (fun h => ?_) (fun h => ?_)
              · replace H := H.1 (h)
                refine ev_ex 2 (c' := (142, [some (.ref 2), some (.int (s3.1 10))], [.int 60, .int (s3.1 10), .ref 2], cH c s13)) rfl ?_
                refine ev_icmp_ne (tgt := 150) rfl rfl (fun h => ?_) (fun h => ?_)
                · replace H := H.1 (h)
                  refine ev_ex 1 (c' := (152, [some (.ref 2), some (.int (s3.1 10))], [.int 15, .ref 2], cH c s13)) rfl ?_
                  refine rc_V (idx := 160) rfl rfl rfl (Nat.le_of_ble_eq_true rfl) (Nat.le_of_ble_eq_true rfl) rfl H (fun s14 H => ?_)
                  exact ev_ret rfl rfl rfl ⟨_, rfl, rfl, H⟩
                · replace H := H.2 (h)
                  refine ev_ex 2 (c' := (152, [some (.ref 2), some (.int (s3.1 10))], [.int 14, .ref 2], cH c s13)) rfl ?_
                  refine rc_V (idx := 160) rfl rfl rfl (Nat.le_of_ble_eq_true rfl) (Nat.le_of_ble_eq_true rfl) rfl H (fun s15 H => ?_)
                  exact ev_ret rfl rfl rfl ⟨_, rfl, rfl, H⟩
              · replace H := H.2 (h)
                refine ev_ex 2 (c' := (152, [some (.ref 2), some (.int (s3.1 10))], [.int 13, .ref 2], cH c s13)) rfl ?_
                refine rc_V (idx := 160) rfl rfl rfl (Nat.le_of_ble_eq_true rfl) (Nat.le_of_ble_eq_true rfl) rfl H (fun s16 H => ?_)
                exact ev_ret rfl rfl rfl ⟨_, rfl, rfl, H⟩
            · replace H := H.2 (h)
              refine ev_ex 1 (c' := (120, [some (.ref 2), some (.int (s3.1 10))], [.ref 2], cH c s3)) rfl ?_
              refine rc_V (idx := 129) rfl rfl rfl (Nat.le_of_ble_eq_true rfl) (Nat.le_of_ble_eq_true rfl) rfl H (fun s17 H => ?_)
              refine ev_ex 1 (c' := (124, [some (.ref 2), some (.int (s3.1 10))], [.ref 2], cH c s17)) rfl ?_
              refine rc_V (idx := 179) rfl rfl rfl (Nat.le_of_ble_eq_true rfl) (Nat.le_of_ble_eq_true rfl) rfl H (fun s18 H => ?_)
              refine ev_ex 3 (c' := (131, [some (.ref 2), some (.int (s3.1 10))], [.int 61, .int (s3.1 10), .ref 2], cH c s18)) rfl ?_
              refine ev_icmp_ne (tgt := 139) rfl rfl (fun h => ?_) (fun h => ?_)
              · replace H := H.1 (h)
                refine ev_ex 2 (c' := (142, [some (.ref 2), some (.int (s3.1 10))], [.int 60, .int (s3.1 10), .ref 2], cH c s18)) rfl ?_
                refine ev_icmp_ne (tgt := 150) rfl rfl (fun h => ?_) (fun h => ?_)
                · replace H := H.1 (h)
                  refine ev_ex 1 (c' := (152, [some (.ref 2), some (.int (s3.1 10))], [.int 15, .ref 2], cH c s18)) rfl ?_
                  refine rc_V (idx := 160) rfl rfl rfl (Nat.le_of_ble_eq_true rfl) (Nat.le_of_ble_eq_true rfl) rfl H (fun s19 H => ?_)
                  exact ev_ret rfl rfl rfl ⟨_, rfl, rfl, H⟩
                · replace H := H.2 (h)
                  refine ev_ex 2 (c' := (152, [some (.ref 2), some (.int (s3.1 10))], [.int 14, .ref 2], cH c s18)) rfl ?_
                  refine rc_V (idx := 160) rfl rfl rfl (Nat.le_of_ble_eq_true rfl) (Nat.le_of_ble_eq_true rfl) rfl H (fun s20 H => ?_)
                  exact ev_ret rfl rfl rfl ⟨_, rfl, rfl, H⟩
              · replace H := H.2 (h)
                refine ev_ex 2 (c' := (152, [some (.ref 2), some (.int (s3.1 10))], [.int 13, .ref 2], cH c s18)) rfl ?_
                refine rc_V (idx := 160) rfl rfl rfl (Nat.le_of_ble_eq_true rfl) (Nat.le_of_ble_eq_true rfl) rfl H (fun s21 H => ?_)
                exact ev_ret rfl rfl rfl ⟨_, rfl, rfl, H⟩
          · replace H := H.2 (h)
            refine ev_ex 2 (c' := (104, [some (.ref 2), some (.int (s3.1 10))], [.int 62, .int (s3.1 10)], cH c s3)) rfl ?_
            refine ev_icmp_eq (tgt := 112) rfl rfl (fun h => ?_) (fun h => ?_)
            · replace H := H.1 (h)
              refine ev_ex 2 (c' := (116, [some (.ref 2), some (.int (s3.1 10))], [.int (s3.1 12)], cH c s3)) rfl ?_
              refine ev_if_ne (tgt := 123) rfl rfl (fun h => ?_) (fun h => ?_)
              · replace H := H.1 (h)
                refine ev_ex 1 (c' := (124, [some (.ref 2), some (.int (s3.1 10))], [.ref 2], cH c s3)) rfl ?_
                refine rc_V (idx := 179) rfl rfl rfl (Nat.le_of_ble_eq_true rfl) (Nat.le_of_ble_eq_true rfl) rfl H (fun s22 H => ?_)
                refine ev_ex 3 (c' := (131, [some (.ref 2), some (.int (s3.1 10))], [.int 61, .int (s3.1 10), .ref 2], cH c s22)) rfl ?_
                refine ev_icmp_ne (tgt := 139) rfl rfl (fun h => ?_) (fun h => ?_)
                · replace H := H.1 (h)
                  refine ev_ex 2 (c' := (142, [some (.ref 2), some (.int (s3.1 10))], [.int 60, .int (s3.1 10), .ref 2], cH c s22)) rfl ?_
                  refine ev_icmp_ne (tgt := 150) rfl rfl (fun h => ?_) (fun h => ?_)
                  · replace H := H.1 (h)
                    refine ev_ex 1 (c' := (152, [some (.ref 2), some (.int (s3.1 10))], [.int 15, .ref 2], cH c s22)) rfl ?_
                    refine rc_V (idx := 160) rfl rfl rfl (Nat.le_of_ble_eq_true rfl) (Nat.le_of_ble_eq_true rfl) rfl H (fun s23 H => ?_)
                    exact ev_ret rfl rfl rfl ⟨_, rfl, rfl, H⟩
                  · replace H := H.2 (h)
                    refine ev_ex 2 (c' := (152, [some (.ref 2), some (.int (s3.1 10))], [.int 14, .ref 2], cH c s22)) rfl ?_
                    refine rc_V (idx := 160) rfl rfl rfl (Nat.le_of_ble_eq_true rfl) (Nat.le_of_ble_eq_true rfl) rfl H (fun s24 H => ?_)
                    exact ev_ret rfl rfl rfl ⟨_, rfl, rfl, H⟩
                · replace H := H.2 (h)
                  refine ev_ex 2 (c' := (152, [some (.ref 2), some (.int (s3.1 10))], [.int 13, .ref 2], cH c s22)) rfl ?_
                  refine rc_V (idx := 160) rfl rfl rfl (Nat.le_of_ble_eq_true rfl) (Nat.le_of_ble_eq_true rfl) rfl H (fun s25 H => ?_)
                  exact ev_ret rfl rfl rfl ⟨_, rfl, rfl, H⟩
              · replace H := H.2 (h)
                refine ev_ex 1 (c' := (120, [some (.ref 2), some (.int (s3.1 10))], [.ref 2], cH c s3)) rfl ?_
                refine rc_V (idx := 129) rfl rfl rfl (Nat.le_of_ble_eq_true rfl) (Nat.le_of_ble_eq_true rfl) rfl H (fun s26 H => ?_)
                refine ev_ex 1 (c' := (124, [some (.ref 2), some (.int (s3.1 10))], [.ref 2], cH c s26)) rfl ?_
                refine rc_V (idx := 179) rfl rfl rfl (Nat.le_of_ble_eq_true rfl) (Nat.le_of_ble_eq_true rfl) rfl H (fun s27 H => ?_)
                refine ev_ex 3 (c' := (131, [some (.ref 2), some (.int (s3.1 10))], [.int 61, .int (s3.1 10), .ref 2], cH c s27)) rfl ?_
                refine ev_icmp_ne (tgt := 139) rfl rfl (fun h => ?_) (fun h => ?_)
                · replace H := H.1 (h)
                  refine ev_ex 2 (c' := (142, [some (.ref 2), some (.int (s3.1 10))], [.int 60, .int (s3.1 10), .ref 2], cH c s27)) rfl ?_
                  refine ev_icmp_ne (tgt := 150) rfl rfl (fun h => ?_) (fun h => ?_)
                  · replace H := H.1 (h)
                    refine ev_ex 1 (c' := (152, [some (.ref 2), some (.int (s3.1 10))], [.int 15, .ref 2], cH c s27)) rfl ?_
                    refine rc_V (idx := 160) rfl rfl rfl (Nat.le_of_ble_eq_true rfl) (Nat.le_of_ble_eq_true rfl) rfl H (fun s28 H => ?_)
                    exact ev_ret rfl rfl rfl ⟨_, rfl, rfl, H⟩
                  · replace H := H.2 (h)
                    refine ev_ex 2 (c' := (152, [some (.ref 2), some (.int (s3.1 10))], [.int 14, .ref 2], cH c s27)) rfl ?_
                    refine rc_V (idx := 160) rfl rfl rfl (Nat.le_of_ble_eq_true rfl) (Nat.le_of_ble_eq_true rfl) rfl H (fun s29 H => ?_)
                    exact ev_ret rfl rfl rfl ⟨_, rfl, rfl, H⟩
                · replace H := H.2 (h)
                  refine ev_ex 2 (c' := (152, [some (.ref 2), some (.int (s3.1 10))], [.int 13, .ref 2], cH c s27)) rfl ?_
                  refine rc_V (idx := 160) rfl rfl rfl (Nat.le_of_ble_eq_true rfl) (Nat.le_of_ble_eq_true rfl) rfl H (fun s30 H => ?_)
                  exact ev_ret rfl rfl rfl ⟨_, rfl, rfl, H⟩
            · replace H := H.2 (h)
              refine ev_ex 2 (c' := (109, [some (.ref 2), some (.int (s3.1 10))], [.int 2, .ref 2], cH c s3)) rfl ?_
              refine rc_V (idx := 132) rfl rfl rfl (Nat.le_of_ble_eq_true rfl) (Nat.le_of_ble_eq_true rfl) rfl H (fun s31 H => ?_)
              refine ev_ex 2 (c' := (116, [some (.ref 2), some (.int (s3.1 10))], [.int (s31.1 12)], cH c s31)) rfl ?_
              refine ev_if_ne (tgt := 123) rfl rfl (fun h => ?_) (fun h => ?_)
              · replace H := H.1 (h)
                refine ev_ex 1 (c' := (124, [some (.ref 2), some (.int (s3.1 10))], [.ref 2], cH c s31)) rfl ?_
                refine rc_V (idx := 179) rfl rfl rfl (Nat.le_of_ble_eq_true rfl) (Nat.le_of_ble_eq_true rfl) rfl H (fun s32 H => ?_)
                refine ev_ex 3 (c' := (131, [some (.ref 2), some (.int (s3.1 10))], [.int 61, .int (s3.1 10), .ref 2], cH c s32)) rfl ?_
                refine ev_icmp_ne (tgt := 139) rfl rfl (fun h => ?_) (fun h => ?_)
                · replace H := H.1 (h)
                  refine ev_ex 2 (c' := (142, [some (.ref 2), some (.int (s3.1 10))], [.int 60, .int (s3.1 10), .ref 2], cH c s32)) rfl ?_
                  refine ev_icmp_ne (tgt := 150) rfl rfl (fun h => ?_) (fun h => ?_)
                  · replace H := H.1 (h)
                    refine ev_ex 1 (c' := (152, [some (.ref 2), some (.int (s3.1 10))], [.int 15, .ref 2], cH c s32)) rfl ?_
                    refine rc_V (idx := 160) rfl rfl rfl (Nat.le_of_ble_eq_true rfl) (Nat.le_of_ble_eq_true rfl) rfl H (fun s33 H => ?_)
                    exact ev_ret rfl rfl rfl ⟨_, rfl, rfl, H⟩
                  · replace H := H.2 (h)
                    refine ev_ex 2 (c' := (152, [some (.ref 2), some (.int (s3.1 10))], [.int 14, .ref 2], cH c s32)) rfl ?_
                    refine rc_V (idx := 160) rfl rfl rfl (Nat.le_of_ble_eq_true rfl) (Nat.le_of_ble_eq_true rfl) rfl H (fun s34 H => ?_)
                    exact ev_ret rfl rfl rfl ⟨_, rfl, rfl, H⟩
                · replace H := H.2 (h)
                  refine ev_ex 2 (c' := (152, [some (.ref 2), some (.int (s3.1 10))], [.int 13, .ref 2], cH c s32)) rfl ?_
                  refine rc_V (idx := 160) rfl rfl rfl (Nat.le_of_ble_eq_true rfl) (Nat.le_of_ble_eq_true rfl) rfl H (fun s35 H => ?_)
                  exact ev_ret rfl rfl rfl ⟨_, rfl, rfl, H⟩
              · replace H := H.2 (h)
                refine ev_ex 1 (c' := (120, [some (.ref 2), some (.int (s3.1 10))], [.ref 2], cH c s31)) rfl ?_
                refine rc_V (idx := 129) rfl rfl rfl (Nat.le_of_ble_eq_true rfl) (Nat.le_of_ble_eq_true rfl) rfl H (fun s36 H => ?_)
                refine ev_ex 1 (c' := (124, [some (.ref 2), some (.int (s3.1 10))], [.ref 2], cH c s36)) rfl ?_
                refine rc_V (idx := 179) rfl rfl rfl (Nat.le_of_ble_eq_true rfl) (Nat.le_of_ble_eq_true rfl) rfl H (fun s37 H => ?_)
                refine ev_ex 3 (c' := (131, [some (.ref 2), some (.int (s3.1 10))], [.int 61, .int (s3.1 10), .ref 2], cH c s37)) rfl ?_
                refine ev_icmp_ne (tgt := 139) rfl rfl (fun h => ?_) (fun h => ?_)
                · replace H := H.1 (h)
                  refine ev_ex 2 (c' := (142, [some (.ref 2), some (.int (s3.1 10))], [.int 60, .int (s3.1 10), .ref 2], cH c s37)) rfl ?_
                  refine ev_icmp_ne (tgt := 150) rfl rfl (fun h => ?_) (fun h => ?_)
                  · replace H := H.1 (h)
                    refine ev_ex 1 (c' := (152, [some (.ref 2), some (.int (s3.1 10))], [.int 15, .ref 2], cH c s37)) rfl ?_
                    refine rc_V (idx := 160) rfl rfl rfl (Nat.le_of_ble_eq_true rfl) (Nat.le_of_ble_eq_true rfl) rfl H (fun s38 H => ?_)
                    exact ev_ret rfl rfl rfl ⟨_, rfl, rfl, H⟩
                  · replace H := H.2 (h)
                    refine ev_ex 2 (c' := (152, [some (.ref 2), some (.int (s3.1 10))], [.int 14, .ref 2], cH c s37)) rfl ?_
                    refine rc_V (idx := 160) rfl rfl rfl (Nat.le_of_ble_eq_true rfl) (Nat.le_of_ble_eq_true rfl) rfl H (fun s39 H => ?_)
                    exact ev_ret rfl rfl rfl ⟨_, rfl, rfl, H⟩
                · replace H := H.2 (h)
                  refine ev_ex 2 (c' := (152, [some (.ref 2), some (.int (s3.1 10))], [.int 13, .ref 2], cH c s37)) rfl ?_
                  refine rc_V (idx := 160) rfl rfl rfl (Nat.le_of_ble_eq_true rfl) (Nat.le_of_ble_eq_true rfl) rfl H (fun s40 H => ?_)
                  exact ev_ret rfl rfl rfl ⟨_, rfl, rfl, H⟩
      · replace H := H.2 (h)
        refine ev_ex 1 (c' := (54, [some (.ref 2), none], [.ref 2], cH c s1)) rfl ?_
        refine rc_V (idx := 170) rfl rfl rfl (Nat.le_of_ble_eq_true rfl) (Nat.le_of_ble_eq_true rfl) rfl H (fun s41 H => ?_)
        refine ev_ex 1 (c' := (58, [some (.ref 2), none], [.ref 2], cH c s41)) rfl ?_
        refine rc_V (idx := 149) rfl rfl rfl (Nat.le_of_ble_eq_true rfl) (Nat.le_of_ble_eq_true rfl) rfl H (fun s42 H => ?_)
        refine ev_ex 2 (c' := (64, [some (.ref 2), none], [.int 93, .ref 2], cH c s42)) rfl ?_
        refine rc_V (idx := 176) rfl rfl rfl (Nat.le_of_ble_eq_true rfl) (Nat.le_of_ble_eq_true rfl) rfl H (fun s43 H => ?_)
        refine ev_ex 7 (c' := (155, [some (.ref 2), none], [], cH c (rF s43 16 ((s43.1 16) - 1)))) rfl ?_
        exact ev_ret rfl rfl rfl ⟨_, rfl, rfl, H⟩
    · replace H := H.2 (h)
      refine ev_ex 1 (c' := (18, [some (.ref 2), none], [.ref 2], cH c s1)) rfl ?_
      refine rc_V (idx := 170) rfl rfl rfl (Nat.le_of_ble_eq_true rfl) (Nat.le_of_ble_eq_true rfl) rfl H (fun s44 H => ?_)
      refine ev_ex 1 (c' := (22, [some (.ref 2), none], [.ref 2], cH c s44)) rfl ?_
      refine rc_V (idx := 163) rfl rfl rfl (Nat.le_of_ble_eq_true rfl) (Nat.le_of_ble_eq_true rfl) rfl H (fun s45 H => ?_)
      refine ev_ex 2 (c' := (28, [some (.ref 2), none], [.int 18, .ref 2], cH c s45)) rfl ?_
      refine rc_V (idx := 160) rfl rfl rfl (Nat.le_of_ble_eq_true rfl) (Nat.le_of_ble_eq_true rfl) rfl H (fun s46 H => ?_)
      refine ev_ex 7 (c' := (155, [some (.ref 2), none], [], cH c (rF s46 16 ((s46.1 16) - 1)))) rfl ?_
      exact ev_ret rfl rfl rfl ⟨_, rfl, rfl, H⟩
  · replace H := H.2 (h)
    exact ev_ret rfl rfl rfl ⟨_, rfl, rfl, H⟩
set_option maxRecDepth 8000 in
theorem w_R_goesIn {c : CX} {d : Nat} {s : RS} {Q : RS → Prop}  (H : ((¬ (s.1 16) = 6 → ((¬ (s.1 12) = 0 → Q (rF s 16 ((s.1 16) + 1))) ∧ ((s.1 12) = 0 → RV c d m_R_readsOn [.ref 2] (rF s 16 ((s.1 16) + 1)) (fun s1 => Q s1)))) ∧ ((s.1 16) = 6 → RV c d m_R_blames [.ref 2, .int 4] s (fun s2 => ((¬ (s2.1 12) = 0 → Q (rF s2 16 ((s2.1 16) + 1))) ∧ ((s2.1 12) = 0 → RV c d m_R_readsOn [.ref 2] (rF s2 16 ((s2.1 16) + 1)) (fun s3 => Q s3))))))) : RV c (d + 1) m_R_goesIn [.ref 2] s Q := by
  refine ⟨q_R_goesIn, rfl, Nat.le_of_ble_eq_true rfl, ?_⟩
  refine ev_ex 0 (c' := (0, [some (.ref 2)], [], cH c s)) rfl ?_
  refine ev_ex 3 (c' := (6, [some (.ref 2)], [.int 6, .int (s.1 16)], cH c s)) rfl ?_
  refine ev_icmp_ne (tgt := 14) rfl rfl (fun h => ?_) (fun h => ?_)
  · replace H := H.1 (h)
    refine ev_ex 8 (c' := (28, [some (.ref 2)], [.int (s.1 12)], cH c (rF s 16 ((s.1 16) + 1)))) rfl ?_
    refine ev_if_ne (tgt := 35) rfl rfl (fun h => ?_) (fun h => ?_)
    · replace H := H.1 (h)
      exact ev_ret rfl rfl rfl ⟨_, rfl, rfl, H⟩
    · replace H := H.2 (h)
      refine ev_ex 1 (c' := (32, [some (.ref 2)], [.ref 2], cH c (rF s 16 ((s.1 16) + 1)))) rfl ?_
      refine rc_V (idx := 129) rfl rfl rfl (Nat.le_of_ble_eq_true rfl) (Nat.le_of_ble_eq_true rfl) rfl H (fun s1 H => ?_)
      exact ev_ret rfl rfl rfl ⟨_, rfl, rfl, H⟩
  · replace H := H.2 (h)
    refine ev_ex 2 (c' := (11, [some (.ref 2)], [.int 4, .ref 2], cH c s)) rfl ?_
    refine rc_V (idx := 132) rfl rfl rfl (Nat.le_of_ble_eq_true rfl) (Nat.le_of_ble_eq_true rfl) rfl H (fun s2 H => ?_)
    refine ev_ex 8 (c' := (28, [some (.ref 2)], [.int (s2.1 12)], cH c (rF s2 16 ((s2.1 16) + 1)))) rfl ?_
    refine ev_if_ne (tgt := 35) rfl rfl (fun h => ?_) (fun h => ?_)
    · replace H := H.1 (h)
      exact ev_ret rfl rfl rfl ⟨_, rfl, rfl, H⟩
    · replace H := H.2 (h)
      refine ev_ex 1 (c' := (32, [some (.ref 2)], [.ref 2], cH c (rF s2 16 ((s2.1 16) + 1)))) rfl ?_
      refine rc_V (idx := 129) rfl rfl rfl (Nat.le_of_ble_eq_true rfl) (Nat.le_of_ble_eq_true rfl) rfl H (fun s3 H => ?_)
      exact ev_ret rfl rfl rfl ⟨_, rfl, rfl, H⟩
set_option maxRecDepth 8000 in
theorem w_R_readSum {c : CX} {d : Nat} {s : RS} {Q : RS → Prop}  (H : RV c d m_R_readTerm [.ref 2] s (fun s1 => eR c (d + 1) m_R_readSum 4 [some (.ref 2), none] s1 (pV c Q))) : RV c (d + 1) m_R_readSum [.ref 2] s Q := by
  refine ⟨q_R_readSum, rfl, Nat.le_of_ble_eq_true rfl, ?_⟩
  refine ev_ex 0 (c' := (0, [some (.ref 2), none], [], cH c s)) rfl ?_
  refine ev_ex 1 (c' := (1, [some (.ref 2), none], [.ref 2], cH c s)) rfl ?_
  refine rc_V (idx := 182) rfl rfl rfl (Nat.le_of_ble_eq_true rfl) (Nat.le_of_ble_eq_true rfl) rfl H (fun s1 H => ?_)
  exact H
set_option maxRecDepth 8000 in
theorem w_R_readSum_4 {c : CX} {d : Nat} {s : RS} {Q : RS → Prop}  (H : (((decide ((s.1 12) = 0 ∧ (s.1 10) = 43)) = true → RV c d m_R_readsOn [.ref 2] s (fun s1 => RV c d m_R_readTerm [.ref 2] s1 (fun s2 => ((¬ (s.1 10) = 43 → RV c d m_R_laysStep [.ref 2, .int 11] s2 (fun s3 => eR c (d + 1) m_R_readSum 4 [some (.ref 2), none] s3 (pV c Q))) ∧ ((s.1 10) = 43 → RV c d m_R_laysStep [.ref 2, .int 10] s2 (fun s4 => eR c (d + 1) m_R_readSum 4 [some (.ref 2), none] s4 (pV c Q))))))) ∧ ((decide ((s.1 12) = 0 ∧ (s.1 10) = 43)) = false → (((decide ((s.1 12) = 0 ∧ (s.1 10) = 45)) = false → Q s) ∧ ((decide ((s.1 12) = 0 ∧ (s.1 10) = 45)) = true → RV c d m_R_readsOn [.ref 2] s (fun s5 => RV c d m_R_readTerm [.ref 2] s5 (fun s6 => ((¬ (s.1 10) = 43 → RV c d m_R_laysStep [.ref 2, .int 11] s6 (fun s7 => eR c (d + 1) m_R_readSum 4 [some (.ref 2), none] s7 (pV c Q))) ∧ ((s.1 10) = 43 → RV c d m_R_laysStep [.ref 2, .int 10] s6 (fun s8 => eR c (d + 1) m_R_readSum 4 [some (.ref 2), none] s8 (pV c Q))))))))))) : eR c (d + 1) m_R_readSum 4 [some (.ref 2), none] s (pV c Q) := by
  unfold eR
  refine ev_ex 0 (c' := (4, [some (.ref 2), none], [], cH c s)) rfl ?_
  refine ev_ex 2 (c' := (7, [some (.ref 2), none], [.int 43, .ref 2], cH c s)) rfl ?_
  refine rq_B (idx := 173) (V := decide ((s.1 12) = 0 ∧ (s.1 10) = 43)) (S := s) rfl rfl rfl (Nat.le_of_ble_eq_true rfl) (Nat.le_of_ble_eq_true rfl) rfl (zq_R_isSign ⟨rfl, rfl⟩) ?_
  refine ev_if_neB (x := (decide ((s.1 12) = 0 ∧ (s.1 10) = 43))) (tgt := 22) rfl rfl (fun h => ?_) (fun h => ?_)
  · replace H := H.1 (h)
    refine ev_ex 4 (c' := (28, [some (.ref 2), some (.int (s.1 10))], [.ref 2], cH c s)) rfl ?_
    refine rc_V (idx := 129) rfl rfl rfl (Nat.le_of_ble_eq_true rfl) (Nat.le_of_ble_eq_true rfl) rfl H (fun s1 H => ?_)
    refine ev_ex 1 (c' := (32, [some (.ref 2), some (.int (s.1 10))], [.ref 2], cH c s1)) rfl ?_
    refine rc_V (idx := 182) rfl rfl rfl (Nat.le_of_ble_eq_true rfl) (Nat.le_of_ble_eq_true rfl) rfl H (fun s2 H => ?_)
    refine ev_ex 3 (c' := (39, [some (.ref 2), some (.int (s.1 10))], [.int 43, .int (s.1 10), .ref 2], cH c s2)) rfl ?_
    refine ev_icmp_ne (tgt := 47) rfl rfl (fun h => ?_) (fun h => ?_)
    · replace H := H.1 (h)
      refine ev_ex 1 (c' := (49, [some (.ref 2), some (.int (s.1 10))], [.int 11, .ref 2], cH c s2)) rfl ?_
      refine rc_V (idx := 160) rfl rfl rfl (Nat.le_of_ble_eq_true rfl) (Nat.le_of_ble_eq_true rfl) rfl H (fun s3 H => ?_)
      refine ev_ex 1 (c' := (4, [some (.ref 2), some (.int (s.1 10))], [], cH c s3)) rfl ?_
      exact ev_less (lle_of (L := [some (.ref 2), none]) ⟨rfl, trivial⟩) H
    · replace H := H.2 (h)
      refine ev_ex 2 (c' := (49, [some (.ref 2), some (.int (s.1 10))], [.int 10, .ref 2], cH c s2)) rfl ?_
      refine rc_V (idx := 160) rfl rfl rfl (Nat.le_of_ble_eq_true rfl) (Nat.le_of_ble_eq_true rfl) rfl H (fun s4 H => ?_)
      refine ev_ex 1 (c' := (4, [some (.ref 2), some (.int (s.1 10))], [], cH c s4)) rfl ?_
      exact ev_less (lle_of (L := [some (.ref 2), none]) ⟨rfl, trivial⟩) H
  · replace H := H.2 (h)
    refine ev_ex 2 (c' := (16, [some (.ref 2), none], [.int 45, .ref 2], cH c s)) rfl ?_
    refine rq_B (idx := 173) (V := decide ((s.1 12) = 0 ∧ (s.1 10) = 45)) (S := s) rfl rfl rfl (Nat.le_of_ble_eq_true rfl) (Nat.le_of_ble_eq_true rfl) rfl (zq_R_isSign ⟨rfl, rfl⟩) ?_
    refine ev_if_eqB (x := (decide ((s.1 12) = 0 ∧ (s.1 10) = 45))) (tgt := 55) rfl rfl (fun h => ?_) (fun h => ?_)
    · replace H := H.1 (h)
      exact ev_ret rfl rfl rfl ⟨_, rfl, rfl, H⟩
    · replace H := H.2 (h)
      refine ev_ex 4 (c' := (28, [some (.ref 2), some (.int (s.1 10))], [.ref 2], cH c s)) rfl ?_
      refine rc_V (idx := 129) rfl rfl rfl (Nat.le_of_ble_eq_true rfl) (Nat.le_of_ble_eq_true rfl) rfl H (fun s5 H => ?_)
      refine ev_ex 1 (c' := (32, [some (.ref 2), some (.int (s.1 10))], [.ref 2], cH c s5)) rfl ?_
      refine rc_V (idx := 182) rfl rfl rfl (Nat.le_of_ble_eq_true rfl) (Nat.le_of_ble_eq_true rfl) rfl H (fun s6 H => ?_)
      refine ev_ex 3 (c' := (39, [some (.ref 2), some (.int (s.1 10))], [.int 43, .int (s.1 10), .ref 2], cH c s6)) rfl ?_
      refine ev_icmp_ne (tgt := 47) rfl rfl (fun h => ?_) (fun h => ?_)
      · replace H := H.1 (h)
        refine ev_ex 1 (c' := (49, [some (.ref 2), some (.int (s.1 10))], [.int 11, .ref 2], cH c s6)) rfl ?_
        refine rc_V (idx := 160) rfl rfl rfl (Nat.le_of_ble_eq_true rfl) (Nat.le_of_ble_eq_true rfl) rfl H (fun s7 H => ?_)
        refine ev_ex 1 (c' := (4, [some (.ref 2), some (.int (s.1 10))], [], cH c s7)) rfl ?_
        exact ev_less (lle_of (L := [some (.ref 2), none]) ⟨rfl, trivial⟩) H
      · replace H := H.2 (h)
        refine ev_ex 2 (c' := (49, [some (.ref 2), some (.int (s.1 10))], [.int 10, .ref 2], cH c s6)) rfl ?_
        refine rc_V (idx := 160) rfl rfl rfl (Nat.le_of_ble_eq_true rfl) (Nat.le_of_ble_eq_true rfl) rfl H (fun s8 H => ?_)
        refine ev_ex 1 (c' := (4, [some (.ref 2), some (.int (s.1 10))], [], cH c s8)) rfl ?_
        exact ev_less (lle_of (L := [some (.ref 2), none]) ⟨rfl, trivial⟩) H
set_option maxRecDepth 8000 in
theorem w_R_readTerm {c : CX} {d : Nat} {s : RS} {Q : RS → Prop}  (H : RV c d m_R_readAtom [.ref 2] s (fun s1 => eR c (d + 1) m_R_readTerm 4 [some (.ref 2)] s1 (pV c Q))) : RV c (d + 1) m_R_readTerm [.ref 2] s Q := by
  refine ⟨q_R_readTerm, rfl, Nat.le_of_ble_eq_true rfl, ?_⟩
  refine ev_ex 0 (c' := (0, [some (.ref 2)], [], cH c s)) rfl ?_
  refine ev_ex 1 (c' := (1, [some (.ref 2)], [.ref 2], cH c s)) rfl ?_
  refine rc_V (idx := 185) rfl rfl rfl (Nat.le_of_ble_eq_true rfl) (Nat.le_of_ble_eq_true rfl) rfl H (fun s1 H => ?_)
  exact H
set_option maxRecDepth 8000 in
theorem w_R_readTerm_4 {c : CX} {d : Nat} {s : RS} {Q : RS → Prop}  (H : (((decide ((s.1 12) = 0 ∧ (s.1 10) = 42)) = false → Q s) ∧ ((decide ((s.1 12) = 0 ∧ (s.1 10) = 42)) = true → RV c d m_R_readsOn [.ref 2] s (fun s1 => RV c d m_R_readAtom [.ref 2] s1 (fun s2 => RV c d m_R_laysStep [.ref 2, .int 12] s2 (fun s3 => eR c (d + 1) m_R_readTerm 4 [some (.ref 2)] s3 (pV c Q))))))) : eR c (d + 1) m_R_readTerm 4 [some (.ref 2)] s (pV c Q) := by
  unfold eR
  refine ev_ex 0 (c' := (4, [some (.ref 2)], [], cH c s)) rfl ?_
  refine ev_ex 2 (c' := (7, [some (.ref 2)], [.int 42, .ref 2], cH c s)) rfl ?_
  refine rq_B (idx := 173) (V := decide ((s.1 12) = 0 ∧ (s.1 10) = 42)) (S := s) rfl rfl rfl (Nat.le_of_ble_eq_true rfl) (Nat.le_of_ble_eq_true rfl) rfl (zq_R_isSign ⟨rfl, rfl⟩) ?_
  refine ev_if_eqB (x := (decide ((s.1 12) = 0 ∧ (s.1 10) = 42))) (tgt := 30) rfl rfl (fun h => ?_) (fun h => ?_)
  · replace H := H.1 (h)
    exact ev_ret rfl rfl rfl ⟨_, rfl, rfl, H⟩
  · replace H := H.2 (h)
    refine ev_ex 1 (c' := (14, [some (.ref 2)], [.ref 2], cH c s)) rfl ?_
    refine rc_V (idx := 129) rfl rfl rfl (Nat.le_of_ble_eq_true rfl) (Nat.le_of_ble_eq_true rfl) rfl H (fun s1 H => ?_)
    refine ev_ex 1 (c' := (18, [some (.ref 2)], [.ref 2], cH c s1)) rfl ?_
    refine rc_V (idx := 185) rfl rfl rfl (Nat.le_of_ble_eq_true rfl) (Nat.le_of_ble_eq_true rfl) rfl H (fun s2 H => ?_)
    refine ev_ex 2 (c' := (24, [some (.ref 2)], [.int 12, .ref 2], cH c s2)) rfl ?_
    refine rc_V (idx := 160) rfl rfl rfl (Nat.le_of_ble_eq_true rfl) (Nat.le_of_ble_eq_true rfl) rfl H (fun s3 H => ?_)
    refine ev_ex 1 (c' := (4, [some (.ref 2)], [], cH c s3)) rfl ?_
    exact H
set_option maxRecDepth 8000 in
theorem w_R_readAtom {c : CX} {d : Nat} {s : RS} {Q : RS → Prop}  (H : (((s.1 12) = 0 → RI c d m_R_lawWord [.ref 2] s (fun v2 s1 => ((v2 = ((-1)) → (((decide ((s1.1 12) = 0 ∧ (s1.1 10) = 40)) = false → RI c d m_R_number [.ref 2, .int 0, .int 999] s1 (fun v4 s3 => RV c d m_R_laysStep [.ref 2, .int (1000 + v4)] s3 (fun s5 => Q s5))) ∧ ((decide ((s1.1 12) = 0 ∧ (s1.1 10) = 40)) = true → RV c d m_R_goesIn [.ref 2] s1 (fun s6 => RV c d m_R_readSum [.ref 2] s6 (fun s7 => RV c d m_R_mustSign [.ref 2, .int 41] s7 (fun s8 => Q (rF s8 16 ((s8.1 16) - 1)))))))) ∧ (¬ v2 = ((-1)) → RV c d m_R_laysStep [.ref 2, .int (100 + v2)] s1 (fun s9 => Q s9))))) ∧ (¬ (s.1 12) = 0 → Q s))) : RV c (d + 1) m_R_readAtom [.ref 2] s Q := by
  refine ⟨q_R_readAtom, rfl, Nat.le_of_ble_eq_true rfl, ?_⟩
  refine ev_ex 0 (c' := (0, [some (.ref 2), none, none], [], cH c s)) rfl ?_
  refine ev_ex 2 (c' := (4, [some (.ref 2), none, none], [.int (s.1 12)], cH c s)) rfl ?_
  refine ev_if_eq (tgt := 8) rfl rfl (fun h => ?_) (fun h => ?_)
  · replace H := H.1 (h)
    refine ev_ex 1 (c' := (9, [some (.ref 2), none, none], [.ref 2], cH c s)) rfl ?_
    refine rc_I (idx := 204) rfl rfl rfl (Nat.le_of_ble_eq_true rfl) (Nat.le_of_ble_eq_true rfl) rfl H (fun v2 s1 H => ?_)
    refine ev_ex 3 (c' := (15, [some (.ref 2), some (.int v2), none], [.int ((-1)), .int v2], cH c s1)) rfl ?_
    refine ev_icmp_eq (tgt := 29) rfl rfl (fun h => ?_) (fun h => ?_)
    · replace H := H.1 (h)
      refine ev_ex 2 (c' := (32, [some (.ref 2), some (.int v2), none], [.int 40, .ref 2], cH c s1)) rfl ?_
      refine rq_B (idx := 173) (V := decide ((s1.1 12) = 0 ∧ (s1.1 10) = 40)) (S := s1) rfl rfl rfl (Nat.le_of_ble_eq_true rfl) (Nat.le_of_ble_eq_true rfl) rfl (zq_R_isSign ⟨rfl, rfl⟩) ?_
      refine ev_if_eqB (x := (decide ((s1.1 12) = 0 ∧ (s1.1 10) = 40))) (tgt := 65) rfl rfl (fun h => ?_) (fun h => ?_)
      · replace H := H.1 (h)
        refine ev_ex 3 (c' := (70, [some (.ref 2), some (.int v2), none], [.int 999, .int 0, .ref 2], cH c s1)) rfl ?_
        refine rc_I (idx := 207) rfl rfl rfl (Nat.le_of_ble_eq_true rfl) (Nat.le_of_ble_eq_true rfl) rfl H (fun v4 s3 H => ?_)
        refine ev_ex 5 (c' := (80, [some (.ref 2), some (.int v2), some (.int v4)], [.int (1000 + v4), .ref 2], cH c s3)) rfl ?_
        refine rc_V (idx := 160) rfl rfl rfl (Nat.le_of_ble_eq_true rfl) (Nat.le_of_ble_eq_true rfl) rfl H (fun s5 H => ?_)
        exact ev_ret rfl rfl rfl ⟨_, rfl, rfl, H⟩
      · replace H := H.2 (h)
        refine ev_ex 1 (c' := (39, [some (.ref 2), some (.int v2), none], [.ref 2], cH c s1)) rfl ?_
        refine rc_V (idx := 170) rfl rfl rfl (Nat.le_of_ble_eq_true rfl) (Nat.le_of_ble_eq_true rfl) rfl H (fun s6 H => ?_)
        refine ev_ex 1 (c' := (43, [some (.ref 2), some (.int v2), none], [.ref 2], cH c s6)) rfl ?_
        refine rc_V (idx := 179) rfl rfl rfl (Nat.le_of_ble_eq_true rfl) (Nat.le_of_ble_eq_true rfl) rfl H (fun s7 H => ?_)
        refine ev_ex 2 (c' := (49, [some (.ref 2), some (.int v2), none], [.int 41, .ref 2], cH c s7)) rfl ?_
        refine rc_V (idx := 176) rfl rfl rfl (Nat.le_of_ble_eq_true rfl) (Nat.le_of_ble_eq_true rfl) rfl H (fun s8 H => ?_)
        refine ev_ex 7 (c' := (83, [some (.ref 2), some (.int v2), none], [], cH c (rF s8 16 ((s8.1 16) - 1)))) rfl ?_
        exact ev_ret rfl rfl rfl ⟨_, rfl, rfl, H⟩
    · replace H := H.2 (h)
      refine ev_ex 4 (c' := (23, [some (.ref 2), some (.int v2), none], [.int (100 + v2), .ref 2], cH c s1)) rfl ?_
      refine rc_V (idx := 160) rfl rfl rfl (Nat.le_of_ble_eq_true rfl) (Nat.le_of_ble_eq_true rfl) rfl H (fun s9 H => ?_)
      refine ev_ex 1 (c' := (83, [some (.ref 2), some (.int v2), none], [], cH c s9)) rfl ?_
      exact ev_ret rfl rfl rfl ⟨_, rfl, rfl, H⟩
  · replace H := H.2 (h)
    exact ev_ret rfl rfl rfl ⟨_, rfl, rfl, H⟩
set_option maxRecDepth 8000 in
theorem w_R_lawWord {c : CX} {d : Nat} {s : RS} {Q : Int32 → RS → Prop}  (H : RB c d m_R_took [.ref 2, .ref 288] s (fun v2 s1 => ((v2 = false → RB c d m_R_took [.ref 2, .ref 296] s1 (fun v4 s3 => ((v4 = false → RB c d m_R_took [.ref 2, .ref 304] s3 (fun v6 s5 => ((v6 = false → RB c d m_R_took [.ref 2, .ref 312] s5 (fun v8 s7 => ((v8 = false → RB c d m_R_took [.ref 2, .ref 320] s7 (fun v10 s9 => ((v10 = false → RB c d m_R_took [.ref 2, .ref 328] s9 (fun v12 s11 => ((v12 = false → RB c d m_R_took [.ref 2, .ref 336] s11 (fun v14 s13 => ((v14 = false → RB c d m_R_took [.ref 2, .ref 344] s13 (fun v16 s15 => ((v16 = false → Q ((-1)) s15) ∧ (v16 = true → Q 7 s15)))) ∧ (v14 = true → Q 6 s13)))) ∧ (v12 = true → Q 5 s11)))) ∧ (v10 = true → Q 4 s9)))) ∧ (v8 = true → Q 3 s7)))) ∧ (v6 = true → Q 2 s5)))) ∧ (v4 = true → Q 1 s3)))) ∧ (v2 = true → Q 0 s1)))) : RI c (d + 1) m_R_lawWord [.ref 2] s Q := by
  refine ⟨q_R_lawWord, rfl, Nat.le_of_ble_eq_true rfl, ?_⟩
  refine ev_ex 0 (c' := (0, [some (.ref 2)], [], cH c s)) rfl ?_
  refine ev_ex 2 (c' := (3, [some (.ref 2)], [.ref 288, .ref 2], cH c s)) rfl ?_
  refine rc_B (idx := 157) rfl rfl rfl (Nat.le_of_ble_eq_true rfl) (Nat.le_of_ble_eq_true rfl) rfl H (fun v2 s1 H => ?_)
  refine ev_if_eqB (x := v2) (tgt := 11) rfl rfl (fun h => ?_) (fun h => ?_)
  · replace H := H.1 (h)
    refine ev_ex 2 (c' := (14, [some (.ref 2)], [.ref 296, .ref 2], cH c s1)) rfl ?_
    refine rc_B (idx := 157) rfl rfl rfl (Nat.le_of_ble_eq_true rfl) (Nat.le_of_ble_eq_true rfl) rfl H (fun v4 s3 H => ?_)
    refine ev_if_eqB (x := v4) (tgt := 22) rfl rfl (fun h => ?_) (fun h => ?_)
    · replace H := H.1 (h)
      refine ev_ex 2 (c' := (25, [some (.ref 2)], [.ref 304, .ref 2], cH c s3)) rfl ?_
      refine rc_B (idx := 157) rfl rfl rfl (Nat.le_of_ble_eq_true rfl) (Nat.le_of_ble_eq_true rfl) rfl H (fun v6 s5 H => ?_)
      refine ev_if_eqB (x := v6) (tgt := 33) rfl rfl (fun h => ?_) (fun h => ?_)
      · replace H := H.1 (h)
        refine ev_ex 2 (c' := (36, [some (.ref 2)], [.ref 312, .ref 2], cH c s5)) rfl ?_
        refine rc_B (idx := 157) rfl rfl rfl (Nat.le_of_ble_eq_true rfl) (Nat.le_of_ble_eq_true rfl) rfl H (fun v8 s7 H => ?_)
        refine ev_if_eqB (x := v8) (tgt := 44) rfl rfl (fun h => ?_) (fun h => ?_)
        · replace H := H.1 (h)
          refine ev_ex 2 (c' := (47, [some (.ref 2)], [.ref 320, .ref 2], cH c s7)) rfl ?_
          refine rc_B (idx := 157) rfl rfl rfl (Nat.le_of_ble_eq_true rfl) (Nat.le_of_ble_eq_true rfl) rfl H (fun v10 s9 H => ?_)
          refine ev_if_eqB (x := v10) (tgt := 55) rfl rfl (fun h => ?_) (fun h => ?_)
          · replace H := H.1 (h)
            refine ev_ex 2 (c' := (58, [some (.ref 2)], [.ref 328, .ref 2], cH c s9)) rfl ?_
            refine rc_B (idx := 157) rfl rfl rfl (Nat.le_of_ble_eq_true rfl) (Nat.le_of_ble_eq_true rfl) rfl H (fun v12 s11 H => ?_)
            refine ev_if_eqB (x := v12) (tgt := 66) rfl rfl (fun h => ?_) (fun h => ?_)
            · replace H := H.1 (h)
              refine ev_ex 2 (c' := (69, [some (.ref 2)], [.ref 336, .ref 2], cH c s11)) rfl ?_
              refine rc_B (idx := 157) rfl rfl rfl (Nat.le_of_ble_eq_true rfl) (Nat.le_of_ble_eq_true rfl) rfl H (fun v14 s13 H => ?_)
              refine ev_if_eqB (x := v14) (tgt := 78) rfl rfl (fun h => ?_) (fun h => ?_)
              · replace H := H.1 (h)
                refine ev_ex 2 (c' := (81, [some (.ref 2)], [.ref 344, .ref 2], cH c s13)) rfl ?_
                refine rc_B (idx := 157) rfl rfl rfl (Nat.le_of_ble_eq_true rfl) (Nat.le_of_ble_eq_true rfl) rfl H (fun v16 s15 H => ?_)
                refine ev_if_eqB (x := v16) (tgt := 92) rfl rfl (fun h => ?_) (fun h => ?_)
                · replace H := H.1 (h)
                  refine ev_ex 1 (c' := (93, [some (.ref 2)], [.int ((-1))], cH c s15)) rfl ?_
                  exact ev_ret rfl rfl rfl ⟨_, _, rfl, rfl, H⟩
                · replace H := H.2 (h)
                  refine ev_ex 2 (c' := (93, [some (.ref 2)], [.int 7], cH c s15)) rfl ?_
                  exact ev_ret rfl rfl rfl ⟨_, _, rfl, rfl, H⟩
              · replace H := H.2 (h)
                refine ev_ex 1 (c' := (77, [some (.ref 2)], [.int 6], cH c s13)) rfl ?_
                exact ev_ret rfl rfl rfl ⟨_, _, rfl, rfl, H⟩
            · replace H := H.2 (h)
              refine ev_ex 1 (c' := (65, [some (.ref 2)], [.int 5], cH c s11)) rfl ?_
              exact ev_ret rfl rfl rfl ⟨_, _, rfl, rfl, H⟩
          · replace H := H.2 (h)
            refine ev_ex 1 (c' := (54, [some (.ref 2)], [.int 4], cH c s9)) rfl ?_
            exact ev_ret rfl rfl rfl ⟨_, _, rfl, rfl, H⟩
        · replace H := H.2 (h)
          refine ev_ex 1 (c' := (43, [some (.ref 2)], [.int 3], cH c s7)) rfl ?_
          exact ev_ret rfl rfl rfl ⟨_, _, rfl, rfl, H⟩
      · replace H := H.2 (h)
        refine ev_ex 1 (c' := (32, [some (.ref 2)], [.int 2], cH c s5)) rfl ?_
        exact ev_ret rfl rfl rfl ⟨_, _, rfl, rfl, H⟩
    · replace H := H.2 (h)
      refine ev_ex 1 (c' := (21, [some (.ref 2)], [.int 1], cH c s3)) rfl ?_
      exact ev_ret rfl rfl rfl ⟨_, _, rfl, rfl, H⟩
  · replace H := H.2 (h)
    refine ev_ex 1 (c' := (10, [some (.ref 2)], [.int 0], cH c s1)) rfl ?_
    exact ev_ret rfl rfl rfl ⟨_, _, rfl, rfl, H⟩
set_option maxRecDepth 8000 in
theorem w_R_carnival {c : CX} {d : Nat} {s : RS} {Q : Int32 → RS → Prop} (a0 : Int32) (H : (((wth a0.toInt64 0 ((s.1 6).toInt64)) = true → RV c d m_R_tellsNothing [.ref 10] (rF (rF (rF (rF (rF (rF s 4 0) 7 a0) 6 0) 8 0) 12 0) 16 0) (fun s1 => RV c d m_R_readsOn [.ref 2] s1 (fun s2 => eR c (d + 1) m_R_carnival 61 [some (.ref 2), some (.int a0), none] s2 (pI c Q)))) ∧ ((wth a0.toInt64 0 ((s.1 6).toInt64)) = false → Q 0 (rF (rF s 4 0) 4 1)))) : RI c (d + 1) m_R_carnival [.ref 2, .int a0] s Q := by
  refine ⟨q_R_carnival, rfl, Nat.le_of_ble_eq_true rfl, ?_⟩
  refine ev_ex 0 (c' := (0, [some (.ref 2), some (.int a0), none], [], cH c s)) rfl ?_
  refine ev_ex 9 (c' := (13, [some (.ref 2), some (.int a0), none], [.long ((s.1 6).toInt64), .long 0, .long a0.toInt64], cH c (rF s 4 0))) rfl ?_
  refine rq_B (idx := 136) (V := wth a0.toInt64 0 ((s.1 6).toInt64)) (S := rF s 4 0) rfl rfl rfl (Nat.le_of_ble_eq_true rfl) (Nat.le_of_ble_eq_true rfl) rfl (zq_R_within ⟨rfl, rfl⟩) ?_
  refine ev_if_neB (x := (wth a0.toInt64 0 ((s.1 6).toInt64))) (tgt := 25) rfl rfl (fun h => ?_) (fun h => ?_)
  · replace H := H.1 (h)
    refine ev_ex 17 (c' := (54, [some (.ref 2), some (.int a0), none], [.ref 10], cH c (rF (rF (rF (rF (rF (rF s 4 0) 7 a0) 6 0) 8 0) 12 0) 16 0))) rfl ?_
    refine rc_V (idx := 67) rfl rfl rfl (Nat.le_of_ble_eq_true rfl) (Nat.le_of_ble_eq_true rfl) rfl H (fun s1 H => ?_)
    refine ev_ex 1 (c' := (58, [some (.ref 2), some (.int a0), none], [.ref 2], cH c s1)) rfl ?_
    refine rc_V (idx := 129) rfl rfl rfl (Nat.le_of_ble_eq_true rfl) (Nat.le_of_ble_eq_true rfl) rfl H (fun s2 H => ?_)
    exact H
  · replace H := H.2 (h)
    refine ev_ex 2 (c' := (21, [some (.ref 2), some (.int a0), none], [.int 1, .ref 2], cH c (rF s 4 0))) rfl ?_
    refine rq_I (idx := 258) (V := 0) (S := rF (rF s 4 0) 4 1) rfl rfl rfl (Nat.le_of_ble_eq_true rfl) (Nat.le_of_ble_eq_true rfl) rfl (zq_R_fails ⟨rfl, rfl⟩) ?_
    exact ev_ret rfl rfl rfl ⟨_, _, rfl, rfl, H⟩
set_option maxRecDepth 8000 in
theorem w_R_carnival_61 {c : CX} {d : Nat} {s : RS} {Q : Int32 → RS → Prop} (l1 : Int32) (H : ((¬ (s.1 12) = 0 → ((¬ (s.1 12) = 0 → (((s.1 12) = 0 → eR c (d + 1) m_R_carnival 126 [some (.ref 2), some (.int l1), some (.int 0)] (rF (rF s 14 (s.1 12)) 15 (s.1 13)) (pI c Q)) ∧ (¬ (s.1 12) = 0 → Q (((-10)) - (s.1 12)) (rF (rF s 14 (s.1 12)) 15 (s.1 13))))) ∧ ((s.1 12) = 0 → (((s.1 12) = 0 → eR c (d + 1) m_R_carnival 126 [some (.ref 2), some (.int l1), some (.int 0)] (rF (rF s 14 (s.1 12)) 15 ((-1))) (pI c Q)) ∧ (¬ (s.1 12) = 0 → Q (((-10)) - (s.1 12)) (rF (rF s 14 (s.1 12)) 15 ((-1)))))))) ∧ ((s.1 12) = 0 → (((s.1 10) = 0 → ((¬ (s.1 12) = 0 → (((s.1 12) = 0 → eR c (d + 1) m_R_carnival 126 [some (.ref 2), some (.int l1), some (.int 0)] (rF (rF s 14 (s.1 12)) 15 (s.1 13)) (pI c Q)) ∧ (¬ (s.1 12) = 0 → Q (((-10)) - (s.1 12)) (rF (rF s 14 (s.1 12)) 15 (s.1 13))))) ∧ ((s.1 12) = 0 → (((s.1 12) = 0 → eR c (d + 1) m_R_carnival 126 [some (.ref 2), some (.int l1), some (.int 0)] (rF (rF s 14 (s.1 12)) 15 ((-1))) (pI c Q)) ∧ (¬ (s.1 12) = 0 → Q (((-10)) - (s.1 12)) (rF (rF s 14 (s.1 12)) 15 ((-1)))))))) ∧ (¬ (s.1 10) = 0 → RV c d m_R_readLine [.ref 2] s (fun s1 => eR c (d + 1) m_R_carnival 61 [some (.ref 2), some (.int l1), none] s1 (pI c Q))))))) : eR c (d + 1) m_R_carnival 61 [some (.ref 2), some (.int l1), none] s (pI c Q) := by
  unfold eR
  refine ev_ex 0 (c' := (61, [some (.ref 2), some (.int l1), none], [], cH c s)) rfl ?_
  refine ev_ex 2 (c' := (65, [some (.ref 2), some (.int l1), none], [.int (s.1 12)], cH c s)) rfl ?_
  refine ev_if_ne (tgt := 82) rfl rfl (fun h => ?_) (fun h => ?_)
  · replace H := H.1 (h)
    refine ev_ex 7 (c' := (95, [some (.ref 2), some (.int l1), none], [.int (s.1 12), .ref 2], cH c (rF s 14 (s.1 12)))) rfl ?_
    refine ev_if_ne (tgt := 102) rfl rfl (fun h => ?_) (fun h => ?_)
    · replace H := H.1 (h)
      refine ev_ex 5 (c' := (113, [some (.ref 2), some (.int l1), none], [.int (s.1 12)], cH c (rF (rF s 14 (s.1 12)) 15 (s.1 13)))) rfl ?_
      refine ev_if_eq (tgt := 124) rfl rfl (fun h => ?_) (fun h => ?_)
      · replace H := H.1 (h)
        refine ev_ex 2 (c' := (126, [some (.ref 2), some (.int l1), some (.int 0)], [], cH c (rF (rF s 14 (s.1 12)) 15 (s.1 13)))) rfl ?_
        exact H
      · replace H := H.2 (h)
        refine ev_ex 4 (c' := (123, [some (.ref 2), some (.int l1), none], [.int (((-10)) - (s.1 12))], cH c (rF (rF s 14 (s.1 12)) 15 (s.1 13)))) rfl ?_
        exact ev_ret rfl rfl rfl ⟨_, _, rfl, rfl, H⟩
    · replace H := H.2 (h)
      refine ev_ex 5 (c' := (113, [some (.ref 2), some (.int l1), none], [.int (s.1 12)], cH c (rF (rF s 14 (s.1 12)) 15 ((-1))))) rfl ?_
      refine ev_if_eq (tgt := 124) rfl rfl (fun h => ?_) (fun h => ?_)
      · replace H := H.1 (h)
        refine ev_ex 2 (c' := (126, [some (.ref 2), some (.int l1), some (.int 0)], [], cH c (rF (rF s 14 (s.1 12)) 15 ((-1))))) rfl ?_
        exact H
      · replace H := H.2 (h)
        refine ev_ex 4 (c' := (123, [some (.ref 2), some (.int l1), none], [.int (((-10)) - (s.1 12))], cH c (rF (rF s 14 (s.1 12)) 15 ((-1))))) rfl ?_
        exact ev_ret rfl rfl rfl ⟨_, _, rfl, rfl, H⟩
  · replace H := H.2 (h)
    refine ev_ex 2 (c' := (72, [some (.ref 2), some (.int l1), none], [.int (s.1 10)], cH c s)) rfl ?_
    refine ev_if_eq (tgt := 82) rfl rfl (fun h => ?_) (fun h => ?_)
    · replace H := H.1 (h)
      refine ev_ex 7 (c' := (95, [some (.ref 2), some (.int l1), none], [.int (s.1 12), .ref 2], cH c (rF s 14 (s.1 12)))) rfl ?_
      refine ev_if_ne (tgt := 102) rfl rfl (fun h => ?_) (fun h => ?_)
      · replace H := H.1 (h)
        refine ev_ex 5 (c' := (113, [some (.ref 2), some (.int l1), none], [.int (s.1 12)], cH c (rF (rF s 14 (s.1 12)) 15 (s.1 13)))) rfl ?_
        refine ev_if_eq (tgt := 124) rfl rfl (fun h => ?_) (fun h => ?_)
        · replace H := H.1 (h)
          refine ev_ex 2 (c' := (126, [some (.ref 2), some (.int l1), some (.int 0)], [], cH c (rF (rF s 14 (s.1 12)) 15 (s.1 13)))) rfl ?_
          exact H
        · replace H := H.2 (h)
          refine ev_ex 4 (c' := (123, [some (.ref 2), some (.int l1), none], [.int (((-10)) - (s.1 12))], cH c (rF (rF s 14 (s.1 12)) 15 (s.1 13)))) rfl ?_
          exact ev_ret rfl rfl rfl ⟨_, _, rfl, rfl, H⟩
      · replace H := H.2 (h)
        refine ev_ex 5 (c' := (113, [some (.ref 2), some (.int l1), none], [.int (s.1 12)], cH c (rF (rF s 14 (s.1 12)) 15 ((-1))))) rfl ?_
        refine ev_if_eq (tgt := 124) rfl rfl (fun h => ?_) (fun h => ?_)
        · replace H := H.1 (h)
          refine ev_ex 2 (c' := (126, [some (.ref 2), some (.int l1), some (.int 0)], [], cH c (rF (rF s 14 (s.1 12)) 15 ((-1))))) rfl ?_
          exact H
        · replace H := H.2 (h)
          refine ev_ex 4 (c' := (123, [some (.ref 2), some (.int l1), none], [.int (((-10)) - (s.1 12))], cH c (rF (rF s 14 (s.1 12)) 15 ((-1))))) rfl ?_
          exact ev_ret rfl rfl rfl ⟨_, _, rfl, rfl, H⟩
    · replace H := H.2 (h)
      refine ev_ex 1 (c' := (76, [some (.ref 2), some (.int l1), none], [.ref 2], cH c s)) rfl ?_
      refine rc_V (idx := 261) rfl rfl rfl (Nat.le_of_ble_eq_true rfl) (Nat.le_of_ble_eq_true rfl) rfl H (fun s1 H => ?_)
      refine ev_ex 1 (c' := (61, [some (.ref 2), some (.int l1), none], [], cH c s1)) rfl ?_
      exact H
set_option maxRecDepth 8000 in
theorem w_R_carnival_126 {c : CX} {d : Nat} {s : RS} {Q : Int32 → RS → Prop} (l1 : Int32) (l2 : Int32) (H : ((2101 ≤ l2 → (okx 0 2101 ∧ Q (s.2.1 1 (ix 0)) s)) ∧ (¬ 2101 ≤ l2 → (okx l2 2101 ∧ (okx l2 2101 ∧ eR c (d + 1) m_R_carnival 126 [some (.ref 2), some (.int l1), some (.int (l2 + 1))] (rA s 1 (ix l2) (s.2.1 2 (ix l2))) (pI c Q)))))) : eR c (d + 1) m_R_carnival 126 [some (.ref 2), some (.int l1), some (.int l2)] s (pI c Q) := by
  unfold eR
  refine ev_ex 0 (c' := (126, [some (.ref 2), some (.int l1), some (.int l2)], [], cH c s)) rfl ?_
  refine ev_ex 2 (c' := (130, [some (.ref 2), some (.int l1), some (.int l2)], [.int 2101, .int l2], cH c s)) rfl ?_
  refine ev_icmp_ge (tgt := 151) rfl rfl (fun h => ?_) (fun h => ?_)
  · replace H := H.1 (h)
    refine ev_ex 3 (c' := (156, [some (.ref 2), some (.int l1), some (.int l2)], [.int 0, .ref 6], cH c s)) rfl ?_
    obtain ⟨H0, H⟩ := H
    refine ev_ald (i := .iaload) rfl (Or.inl rfl) rfl H0 (v := .int (s.2.1 1 (ix 0))) rfl ?_
    exact ev_ret rfl rfl rfl ⟨_, _, rfl, rfl, H⟩
  · replace H := H.2 (h)
    refine ev_ex 6 (c' := (143, [some (.ref 2), some (.int l1), some (.int l2)], [.int l2, .ref 10, .int l2, .ref 6], cH c s)) rfl ?_
    obtain ⟨H0, H⟩ := H
    refine ev_ald (i := .iaload) rfl (Or.inl rfl) rfl H0 (v := .int (s.2.1 2 (ix l2))) rfl ?_
    obtain ⟨H0, H⟩ := H
    refine ev_ast (i := .iastore) rfl (Or.inl rfl) rfl H0 (by decide) rfl rfl (σ' := cH c (rA s 1 (ix l2) (s.2.1 2 (ix l2)))) rfl ?_
    refine ev_ex 2 (c' := (126, [some (.ref 2), some (.int l1), some (.int (l2 + 1))], [], cH c (rA s 1 (ix l2) (s.2.1 2 (ix l2))))) rfl ?_
    exact H
set_option maxRecDepth 8000 in
theorem w_R_feed {c : CX} {d : Nat} {s : RS} {Q : Int32 → RS → Prop} (a0 : Int32) (a1 : Int32) (a2 : Int32) (a3 : Int32) (a4 : Int32) (H : ((((s.1 6) + 20) ≤ 900 → eR c (d) m_R_feed 23 [some (.ref 2), some (.int a0), some (.int a1), some (.int a2), some (.int a3), some (.int a4), some (.int 0), none] (rF s 4 0) (pI c Q)) ∧ (¬ ((s.1 6) + 20) ≤ 900 → Q ((-1)) (rF s 4 0)))) : RI c (d) m_R_feed [.ref 2, .int a0, .int a1, .int a2, .int a3, .int a4] s Q := by
  refine ⟨q_R_feed, rfl, Nat.le_of_ble_eq_true rfl, ?_⟩
  refine ev_ex 0 (c' := (0, [some (.ref 2), some (.int a0), some (.int a1), some (.int a2), some (.int a3), some (.int a4), none, none], [], cH c s)) rfl ?_
  refine ev_ex 8 (c' := (15, [some (.ref 2), some (.int a0), some (.int a1), some (.int a2), some (.int a3), some (.int a4), none, none], [.int 900, .int ((s.1 6) + 20)], cH c (rF s 4 0))) rfl ?_
  refine ev_icmp_le (tgt := 20) rfl rfl (fun h => ?_) (fun h => ?_)
  · replace H := H.1 (h)
    refine ev_ex 2 (c' := (23, [some (.ref 2), some (.int a0), some (.int a1), some (.int a2), some (.int a3), some (.int a4), some (.int 0), none], [], cH c (rF s 4 0))) rfl ?_
    exact H
  · replace H := H.2 (h)
    refine ev_ex 1 (c' := (19, [some (.ref 2), some (.int a0), some (.int a1), some (.int a2), some (.int a3), some (.int a4), none, none], [.int ((-1))], cH c (rF s 4 0))) rfl ?_
    exact ev_ret rfl rfl rfl ⟨_, _, rfl, rfl, H⟩
set_option maxRecDepth 8000 in
theorem w_R_feed_23 {c : CX} {d : Nat} {s : RS} {Q : Int32 → RS → Prop} (l1 : Int32) (l2 : Int32) (l3 : Int32) (l4 : Int32) (l5 : Int32) (l6 : Int32) (H : ((20 ≤ l6 → Q (s.1 6) s) ∧ (¬ 20 ≤ l6 → ((4 ≤ l6 → ((8 ≤ l6 → ((12 ≤ l6 → ((16 ≤ l6 → (okx (s.1 6) 900 ∧ eR c (d) m_R_feed 23 [some (.ref 2), some (.int l1), some (.int l2), some (.int l3), some (.int l4), some (.int l5), some (.int (l6 + 1)), none] (rF (rA s 5 (ix (s.1 6)) (((l5.toUInt32 >>> ((24 - (8 * (l6 &&& 3))).toUInt32 &&& Int32.toUInt32 31)).toInt32) &&& 255)) 6 ((s.1 6) + 1)) (pI c Q))) ∧ (¬ 16 ≤ l6 → (okx (s.1 6) 900 ∧ eR c (d) m_R_feed 23 [some (.ref 2), some (.int l1), some (.int l2), some (.int l3), some (.int l4), some (.int l5), some (.int (l6 + 1)), none] (rF (rA s 5 (ix (s.1 6)) (((l4.toUInt32 >>> ((24 - (8 * (l6 &&& 3))).toUInt32 &&& Int32.toUInt32 31)).toInt32) &&& 255)) 6 ((s.1 6) + 1)) (pI c Q))))) ∧ (¬ 12 ≤ l6 → (okx (s.1 6) 900 ∧ eR c (d) m_R_feed 23 [some (.ref 2), some (.int l1), some (.int l2), some (.int l3), some (.int l4), some (.int l5), some (.int (l6 + 1)), none] (rF (rA s 5 (ix (s.1 6)) (((l3.toUInt32 >>> ((24 - (8 * (l6 &&& 3))).toUInt32 &&& Int32.toUInt32 31)).toInt32) &&& 255)) 6 ((s.1 6) + 1)) (pI c Q))))) ∧ (¬ 8 ≤ l6 → (okx (s.1 6) 900 ∧ eR c (d) m_R_feed 23 [some (.ref 2), some (.int l1), some (.int l2), some (.int l3), some (.int l4), some (.int l5), some (.int (l6 + 1)), none] (rF (rA s 5 (ix (s.1 6)) (((l2.toUInt32 >>> ((24 - (8 * (l6 &&& 3))).toUInt32 &&& Int32.toUInt32 31)).toInt32) &&& 255)) 6 ((s.1 6) + 1)) (pI c Q))))) ∧ (¬ 4 ≤ l6 → (okx (s.1 6) 900 ∧ eR c (d) m_R_feed 23 [some (.ref 2), some (.int l1), some (.int l2), some (.int l3), some (.int l4), some (.int l5), some (.int (l6 + 1)), none] (rF (rA s 5 (ix (s.1 6)) (((l1.toUInt32 >>> ((24 - (8 * (l6 &&& 3))).toUInt32 &&& Int32.toUInt32 31)).toInt32) &&& 255)) 6 ((s.1 6) + 1)) (pI c Q))))))) : eR c (d) m_R_feed 23 [some (.ref 2), some (.int l1), some (.int l2), some (.int l3), some (.int l4), some (.int l5), some (.int l6), none] s (pI c Q) := by
  unfold eR
  refine ev_ex 0 (c' := (23, [some (.ref 2), some (.int l1), some (.int l2), some (.int l3), some (.int l4), some (.int l5), some (.int l6), none], [], cH c s)) rfl ?_
  refine ev_ex 2 (c' := (27, [some (.ref 2), some (.int l1), some (.int l2), some (.int l3), some (.int l4), some (.int l5), some (.int l6), none], [.int 20, .int l6], cH c s)) rfl ?_
  refine ev_icmp_ge (tgt := 120) rfl rfl (fun h => ?_) (fun h => ?_)
  · replace H := H.1 (h)
    refine ev_ex 2 (c' := (124, [some (.ref 2), some (.int l1), some (.int l2), some (.int l3), some (.int l4), some (.int l5), some (.int l6), none], [.int (s.1 6)], cH c s)) rfl ?_
    exact ev_ret rfl rfl rfl ⟨_, _, rfl, rfl, H⟩
  · replace H := H.2 (h)
    refine ev_ex 2 (c' := (33, [some (.ref 2), some (.int l1), some (.int l2), some (.int l3), some (.int l4), some (.int l5), some (.int l6), none], [.int 4, .int l6], cH c s)) rfl ?_
    refine ev_icmp_ge (tgt := 40) rfl rfl (fun h => ?_) (fun h => ?_)
    · replace H := H.1 (h)
      refine ev_ex 2 (c' := (44, [some (.ref 2), some (.int l1), some (.int l2), some (.int l3), some (.int l4), some (.int l5), some (.int l6), none], [.int 8, .int l6], cH c s)) rfl ?_
      refine ev_icmp_ge (tgt := 51) rfl rfl (fun h => ?_) (fun h => ?_)
      · replace H := H.1 (h)
        refine ev_ex 2 (c' := (55, [some (.ref 2), some (.int l1), some (.int l2), some (.int l3), some (.int l4), some (.int l5), some (.int l6), none], [.int 12, .int l6], cH c s)) rfl ?_
        refine ev_icmp_ge (tgt := 62) rfl rfl (fun h => ?_) (fun h => ?_)
        · replace H := H.1 (h)
          refine ev_ex 2 (c' := (66, [some (.ref 2), some (.int l1), some (.int l2), some (.int l3), some (.int l4), some (.int l5), some (.int l6), none], [.int 16, .int l6], cH c s)) rfl ?_
          refine ev_icmp_ge (tgt := 74) rfl rfl (fun h => ?_) (fun h => ?_)
          · replace H := H.1 (h)
            refine ev_ex 17 (c' := (103, [some (.ref 2), some (.int l1), some (.int l2), some (.int l3), some (.int l4), some (.int l5), some (.int l6), some (.int l5)], [.int (((l5.toUInt32 >>> ((24 - (8 * (l6 &&& 3))).toUInt32 &&& Int32.toUInt32 31)).toInt32) &&& 255), .int (s.1 6), .ref 22], cH c s)) rfl ?_
            obtain ⟨H0, H⟩ := H
            refine ev_ast (i := .iastore) rfl (Or.inl rfl) rfl H0 (by decide) rfl rfl (σ' := cH c (rA s 5 (ix (s.1 6)) (((l5.toUInt32 >>> ((24 - (8 * (l6 &&& 3))).toUInt32 &&& Int32.toUInt32 31)).toInt32) &&& 255))) rfl ?_
            refine ev_ex 8 (c' := (23, [some (.ref 2), some (.int l1), some (.int l2), some (.int l3), some (.int l4), some (.int l5), some (.int (l6 + 1)), some (.int l5)], [], cH c (rF (rA s 5 (ix (s.1 6)) (((l5.toUInt32 >>> ((24 - (8 * (l6 &&& 3))).toUInt32 &&& Int32.toUInt32 31)).toInt32) &&& 255)) 6 ((s.1 6) + 1)))) rfl ?_
            exact ev_less (lle_of (L := [some (.ref 2), some (.int l1), some (.int l2), some (.int l3), some (.int l4), some (.int l5), some (.int (l6 + 1)), none]) ⟨rfl, ⟨rfl, ⟨rfl, ⟨rfl, ⟨rfl, ⟨rfl, ⟨rfl, trivial⟩⟩⟩⟩⟩⟩⟩) H
          · replace H := H.2 (h)
            refine ev_ex 18 (c' := (103, [some (.ref 2), some (.int l1), some (.int l2), some (.int l3), some (.int l4), some (.int l5), some (.int l6), some (.int l4)], [.int (((l4.toUInt32 >>> ((24 - (8 * (l6 &&& 3))).toUInt32 &&& Int32.toUInt32 31)).toInt32) &&& 255), .int (s.1 6), .ref 22], cH c s)) rfl ?_
            obtain ⟨H0, H⟩ := H
            refine ev_ast (i := .iastore) rfl (Or.inl rfl) rfl H0 (by decide) rfl rfl (σ' := cH c (rA s 5 (ix (s.1 6)) (((l4.toUInt32 >>> ((24 - (8 * (l6 &&& 3))).toUInt32 &&& Int32.toUInt32 31)).toInt32) &&& 255))) rfl ?_
            refine ev_ex 8 (c' := (23, [some (.ref 2), some (.int l1), some (.int l2), some (.int l3), some (.int l4), some (.int l5), some (.int (l6 + 1)), some (.int l4)], [], cH c (rF (rA s 5 (ix (s.1 6)) (((l4.toUInt32 >>> ((24 - (8 * (l6 &&& 3))).toUInt32 &&& Int32.toUInt32 31)).toInt32) &&& 255)) 6 ((s.1 6) + 1)))) rfl ?_
            exact ev_less (lle_of (L := [some (.ref 2), some (.int l1), some (.int l2), some (.int l3), some (.int l4), some (.int l5), some (.int (l6 + 1)), none]) ⟨rfl, ⟨rfl, ⟨rfl, ⟨rfl, ⟨rfl, ⟨rfl, ⟨rfl, trivial⟩⟩⟩⟩⟩⟩⟩) H
        · replace H := H.2 (h)
          refine ev_ex 18 (c' := (103, [some (.ref 2), some (.int l1), some (.int l2), some (.int l3), some (.int l4), some (.int l5), some (.int l6), some (.int l3)], [.int (((l3.toUInt32 >>> ((24 - (8 * (l6 &&& 3))).toUInt32 &&& Int32.toUInt32 31)).toInt32) &&& 255), .int (s.1 6), .ref 22], cH c s)) rfl ?_
          obtain ⟨H0, H⟩ := H
          refine ev_ast (i := .iastore) rfl (Or.inl rfl) rfl H0 (by decide) rfl rfl (σ' := cH c (rA s 5 (ix (s.1 6)) (((l3.toUInt32 >>> ((24 - (8 * (l6 &&& 3))).toUInt32 &&& Int32.toUInt32 31)).toInt32) &&& 255))) rfl ?_
          refine ev_ex 8 (c' := (23, [some (.ref 2), some (.int l1), some (.int l2), some (.int l3), some (.int l4), some (.int l5), some (.int (l6 + 1)), some (.int l3)], [], cH c (rF (rA s 5 (ix (s.1 6)) (((l3.toUInt32 >>> ((24 - (8 * (l6 &&& 3))).toUInt32 &&& Int32.toUInt32 31)).toInt32) &&& 255)) 6 ((s.1 6) + 1)))) rfl ?_
          exact ev_less (lle_of (L := [some (.ref 2), some (.int l1), some (.int l2), some (.int l3), some (.int l4), some (.int l5), some (.int (l6 + 1)), none]) ⟨rfl, ⟨rfl, ⟨rfl, ⟨rfl, ⟨rfl, ⟨rfl, ⟨rfl, trivial⟩⟩⟩⟩⟩⟩⟩) H
      · replace H := H.2 (h)
        refine ev_ex 18 (c' := (103, [some (.ref 2), some (.int l1), some (.int l2), some (.int l3), some (.int l4), some (.int l5), some (.int l6), some (.int l2)], [.int (((l2.toUInt32 >>> ((24 - (8 * (l6 &&& 3))).toUInt32 &&& Int32.toUInt32 31)).toInt32) &&& 255), .int (s.1 6), .ref 22], cH c s)) rfl ?_
        obtain ⟨H0, H⟩ := H
        refine ev_ast (i := .iastore) rfl (Or.inl rfl) rfl H0 (by decide) rfl rfl (σ' := cH c (rA s 5 (ix (s.1 6)) (((l2.toUInt32 >>> ((24 - (8 * (l6 &&& 3))).toUInt32 &&& Int32.toUInt32 31)).toInt32) &&& 255))) rfl ?_
        refine ev_ex 8 (c' := (23, [some (.ref 2), some (.int l1), some (.int l2), some (.int l3), some (.int l4), some (.int l5), some (.int (l6 + 1)), some (.int l2)], [], cH c (rF (rA s 5 (ix (s.1 6)) (((l2.toUInt32 >>> ((24 - (8 * (l6 &&& 3))).toUInt32 &&& Int32.toUInt32 31)).toInt32) &&& 255)) 6 ((s.1 6) + 1)))) rfl ?_
        exact ev_less (lle_of (L := [some (.ref 2), some (.int l1), some (.int l2), some (.int l3), some (.int l4), some (.int l5), some (.int (l6 + 1)), none]) ⟨rfl, ⟨rfl, ⟨rfl, ⟨rfl, ⟨rfl, ⟨rfl, ⟨rfl, trivial⟩⟩⟩⟩⟩⟩⟩) H
    · replace H := H.2 (h)
      refine ev_ex 18 (c' := (103, [some (.ref 2), some (.int l1), some (.int l2), some (.int l3), some (.int l4), some (.int l5), some (.int l6), some (.int l1)], [.int (((l1.toUInt32 >>> ((24 - (8 * (l6 &&& 3))).toUInt32 &&& Int32.toUInt32 31)).toInt32) &&& 255), .int (s.1 6), .ref 22], cH c s)) rfl ?_
      obtain ⟨H0, H⟩ := H
      refine ev_ast (i := .iastore) rfl (Or.inl rfl) rfl H0 (by decide) rfl rfl (σ' := cH c (rA s 5 (ix (s.1 6)) (((l1.toUInt32 >>> ((24 - (8 * (l6 &&& 3))).toUInt32 &&& Int32.toUInt32 31)).toInt32) &&& 255))) rfl ?_
      refine ev_ex 8 (c' := (23, [some (.ref 2), some (.int l1), some (.int l2), some (.int l3), some (.int l4), some (.int l5), some (.int (l6 + 1)), some (.int l1)], [], cH c (rF (rA s 5 (ix (s.1 6)) (((l1.toUInt32 >>> ((24 - (8 * (l6 &&& 3))).toUInt32 &&& Int32.toUInt32 31)).toInt32) &&& 255)) 6 ((s.1 6) + 1)))) rfl ?_
      exact ev_less (lle_of (L := [some (.ref 2), some (.int l1), some (.int l2), some (.int l3), some (.int l4), some (.int l5), some (.int (l6 + 1)), none]) ⟨rfl, ⟨rfl, ⟨rfl, ⟨rfl, ⟨rfl, ⟨rfl, ⟨rfl, trivial⟩⟩⟩⟩⟩⟩⟩) H
set_option maxRecDepth 8000 in
theorem w_R_isWord {c : CX} {d : Nat} {s : RS} {Q : Bool → RS → Prop} (a0 : Nat) (H : ((¬ (s.1 12) = 0 → eR c (d + 1) m_R_isWord 39 [some (.ref 2), some (.ref a0), some (.int (bI false)), some (.int 0)] s (pB c Q)) ∧ ((s.1 12) = 0 → ((¬ (s.1 10) = 1 → eR c (d + 1) m_R_isWord 39 [some (.ref 2), some (.ref a0), some (.int (bI false)), some (.int 0)] s (pB c Q)) ∧ ((s.1 10) = 1 → (mj_rcv (cP c) (cH c s) (.invokevirtual 116) 1 [.ref a0] = true ∧ RI c d m_JS_length [.ref a0] s (fun v2 s1 => ((¬ ((s.1 8) - (s.1 9)) = v2 → eR c (d + 1) m_R_isWord 39 [some (.ref 2), some (.ref a0), some (.int (bI false)), some (.int 0)] s1 (pB c Q)) ∧ (((s.1 8) - (s.1 9)) = v2 → eR c (d + 1) m_R_isWord 39 [some (.ref 2), some (.ref a0), some (.int (bI true)), some (.int 0)] s1 (pB c Q)))))))))) : RB c (d + 1) m_R_isWord [.ref 2, .ref a0] s Q := by
  refine ⟨q_R_isWord, rfl, Nat.le_of_ble_eq_true rfl, ?_⟩
  refine ev_ex 0 (c' := (0, [some (.ref 2), some (.ref a0), none, none], [], cH c s)) rfl ?_
  refine ev_ex 2 (c' := (4, [some (.ref 2), some (.ref a0), none, none], [.int (s.1 12)], cH c s)) rfl ?_
  refine ev_if_ne (tgt := 35) rfl rfl (fun h => ?_) (fun h => ?_)
  · replace H := H.1 (h)
    refine ev_ex 4 (c' := (39, [some (.ref 2), some (.ref a0), some (.int 0), some (.int 0)], [], cH c s)) rfl ?_
    exact H
  · replace H := H.2 (h)
    refine ev_ex 3 (c' := (12, [some (.ref 2), some (.ref a0), none, none], [.int 1, .int (s.1 10)], cH c s)) rfl ?_
    refine ev_icmp_ne (tgt := 35) rfl rfl (fun h => ?_) (fun h => ?_)
    · replace H := H.1 (h)
      refine ev_ex 4 (c' := (39, [some (.ref 2), some (.ref a0), some (.int 0), some (.int 0)], [], cH c s)) rfl ?_
      exact H
    · replace H := H.2 (h)
      refine ev_ex 6 (c' := (25, [some (.ref 2), some (.ref a0), none, none], [.ref a0, .int ((s.1 8) - (s.1 9))], cH c s)) rfl ?_
      obtain ⟨H0, H⟩ := H
      refine rc_I (idx := 116) rfl rfl rfl (Nat.le_of_ble_eq_true rfl) (Nat.le_of_ble_eq_true rfl) H0 H (fun v2 s1 H => ?_)
      refine ev_icmp_ne (tgt := 35) rfl rfl (fun h => ?_) (fun h => ?_)
      · replace H := H.1 (h)
        refine ev_ex 4 (c' := (39, [some (.ref 2), some (.ref a0), some (.int 0), some (.int 0)], [], cH c s1)) rfl ?_
        exact H
      · replace H := H.2 (h)
        refine ev_ex 5 (c' := (39, [some (.ref 2), some (.ref a0), some (.int 1), some (.int 0)], [], cH c s1)) rfl ?_
        exact H
set_option maxRecDepth 8000 in
theorem w_R_isWord_39 {c : CX} {d : Nat} {s : RS} {Q : Bool → RS → Prop} (a0 : Nat) (l2 : Bool) (l3 : Int32) (H : ((l2 = false → Q l2 s) ∧ (l2 = true → (mj_rcv (cP c) (cH c s) (.invokevirtual 116) 1 [.ref a0] = true ∧ RI c d m_JS_length [.ref a0] s (fun v2 s1 => ((v2 ≤ l3 → Q l2 s1) ∧ (¬ v2 ≤ l3 → (okx ((s1.1 9) + l3) 900 ∧ (mj_rcv (cP c) (cH c s1) (.invokevirtual 121) 1 [.ref a0, .int l3] = true ∧ RI c d m_JS_charAt [.ref a0, .int l3] s1 (fun v4 s3 => ((¬ (s1.2.1 5 (ix ((s1.1 9) + l3))) = v4 → eR c (d + 1) m_R_isWord 39 [some (.ref 2), some (.ref a0), some (.int (bI false)), some (.int (l3 + 1))] s3 (pB c Q)) ∧ ((s1.2.1 5 (ix ((s1.1 9) + l3))) = v4 → eR c (d + 1) m_R_isWord 39 [some (.ref 2), some (.ref a0), some (.int (bI true)), some (.int (l3 + 1))] s3 (pB c Q))))))))))))) : eR c (d + 1) m_R_isWord 39 [some (.ref 2), some (.ref a0), some (.int (bI l2)), some (.int l3)] s (pB c Q) := by
  unfold eR
  refine ev_ex 0 (c' := (39, [some (.ref 2), some (.ref a0), some (.int (bI l2)), some (.int l3)], [], cH c s)) rfl ?_
  refine ev_ex 1 (c' := (40, [some (.ref 2), some (.ref a0), some (.int (bI l2)), some (.int l3)], [.int (bI l2)], cH c s)) rfl ?_
  refine ev_if_eqB (x := l2) (tgt := 82) rfl rfl (fun h => ?_) (fun h => ?_)
  · replace H := H.1 (h)
    refine ev_ex 1 (c' := (83, [some (.ref 2), some (.ref a0), some (.int (bI l2)), some (.int l3)], [.int (bI l2)], cH c s)) rfl ?_
    exact ev_retB (x := l2) rfl rfl ⟨_, _, rfl, rfl, H⟩
  · replace H := H.2 (h)
    refine ev_ex 2 (c' := (45, [some (.ref 2), some (.ref a0), some (.int (bI l2)), some (.int l3)], [.ref a0, .int l3], cH c s)) rfl ?_
    obtain ⟨H0, H⟩ := H
    refine rc_I (idx := 116) rfl rfl rfl (Nat.le_of_ble_eq_true rfl) (Nat.le_of_ble_eq_true rfl) H0 H (fun v2 s1 H => ?_)
    refine ev_icmp_ge (tgt := 82) rfl rfl (fun h => ?_) (fun h => ?_)
    · replace H := H.1 (h)
      refine ev_ex 1 (c' := (83, [some (.ref 2), some (.ref a0), some (.int (bI l2)), some (.int l3)], [.int (bI l2)], cH c s1)) rfl ?_
      exact ev_retB (x := l2) rfl rfl ⟨_, _, rfl, rfl, H⟩
    · replace H := H.2 (h)
      refine ev_ex 6 (c' := (61, [some (.ref 2), some (.ref a0), some (.int (bI l2)), some (.int l3)], [.int ((s1.1 9) + l3), .ref 22], cH c s1)) rfl ?_
      obtain ⟨H0, H⟩ := H
      refine ev_ald (i := .iaload) rfl (Or.inl rfl) rfl H0 (v := .int (s1.2.1 5 (ix ((s1.1 9) + l3)))) rfl ?_
      refine ev_ex 2 (c' := (64, [some (.ref 2), some (.ref a0), some (.int (bI l2)), some (.int l3)], [.int l3, .ref a0, .int (s1.2.1 5 (ix ((s1.1 9) + l3)))], cH c s1)) rfl ?_
      obtain ⟨H0, H⟩ := H
      refine rc_I (idx := 121) rfl rfl rfl (Nat.le_of_ble_eq_true rfl) (Nat.le_of_ble_eq_true rfl) H0 H (fun v4 s3 H => ?_)
      refine ev_icmp_ne (tgt := 74) rfl rfl (fun h => ?_) (fun h => ?_)
      · replace H := H.1 (h)
        refine ev_ex 4 (c' := (39, [some (.ref 2), some (.ref a0), some (.int 0), some (.int (l3 + 1))], [], cH c s3)) rfl ?_
        exact H
      · replace H := H.2 (h)
        refine ev_ex 5 (c' := (39, [some (.ref 2), some (.ref a0), some (.int 1), some (.int (l3 + 1))], [], cH c s3)) rfl ?_
        exact H
set_option maxRecDepth 8000 in
theorem w_R_tellsNothing_6 {c : CX} {d : Nat} {s : RS} {Q : RS → Prop}  (H : eR c (d) m_R_tellsNothing 2 [some (.ref 6), some (.int 0)] s (pV c Q)) : RV c (d) m_R_tellsNothing [.ref 6] s Q := by
  refine ⟨q_R_tellsNothing, rfl, Nat.le_of_ble_eq_true rfl, ?_⟩
  refine ev_ex 0 (c' := (0, [some (.ref 6), none], [], cH c s)) rfl ?_
  refine ev_ex 2 (c' := (2, [some (.ref 6), some (.int 0)], [], cH c s)) rfl ?_
  exact H
set_option maxRecDepth 8000 in
theorem w_R_tellsNothing_6_2 {c : CX} {d : Nat} {s : RS} {Q : RS → Prop} (l1 : Int32) (H : ((2101 ≤ l1 → eR c (d) m_R_tellsNothing 21 [some (.ref 6), some (.int 0)] s (pV c Q)) ∧ (¬ 2101 ≤ l1 → (okx l1 2101 ∧ eR c (d) m_R_tellsNothing 2 [some (.ref 6), some (.int (l1 + 1))] (rA s 1 (ix l1) 0) (pV c Q))))) : eR c (d) m_R_tellsNothing 2 [some (.ref 6), some (.int l1)] s (pV c Q) := by
  unfold eR
  refine ev_ex 0 (c' := (2, [some (.ref 6), some (.int l1)], [], cH c s)) rfl ?_
  refine ev_ex 2 (c' := (6, [some (.ref 6), some (.int l1)], [.int 2101, .int l1], cH c s)) rfl ?_
  refine ev_icmp_ge (tgt := 19) rfl rfl (fun h => ?_) (fun h => ?_)
  · replace H := H.1 (h)
    refine ev_ex 2 (c' := (21, [some (.ref 6), some (.int 0)], [], cH c s)) rfl ?_
    exact H
  · replace H := H.2 (h)
    refine ev_ex 3 (c' := (12, [some (.ref 6), some (.int l1)], [.int 0, .int l1, .ref 6], cH c s)) rfl ?_
    obtain ⟨H0, H⟩ := H
    refine ev_ast (i := .iastore) rfl (Or.inl rfl) rfl H0 (by decide) rfl rfl (σ' := cH c (rA s 1 (ix l1) 0)) rfl ?_
    refine ev_ex 2 (c' := (2, [some (.ref 6), some (.int (l1 + 1))], [], cH c (rA s 1 (ix l1) 0))) rfl ?_
    exact H
set_option maxRecDepth 8000 in
theorem w_R_tellsNothing_6_21 {c : CX} {d : Nat} {s : RS} {Q : RS → Prop} (l1 : Int32) (H : ((10 ≤ l1 → Q s) ∧ (¬ 10 ≤ l1 → (okx (6 + l1) 2101 ∧ eR c (d) m_R_tellsNothing 34 [some (.ref 6), some (.int l1)] (rA s 1 (ix (6 + l1)) ((-1))) (pV c Q))))) : eR c (d) m_R_tellsNothing 21 [some (.ref 6), some (.int l1)] s (pV c Q) := by
  unfold eR
  refine ev_ex 0 (c' := (21, [some (.ref 6), some (.int l1)], [], cH c s)) rfl ?_
  refine ev_ex 2 (c' := (24, [some (.ref 6), some (.int l1)], [.int 10, .int l1], cH c s)) rfl ?_
  refine ev_icmp_ge (tgt := 47) rfl rfl (fun h => ?_) (fun h => ?_)
  · replace H := H.1 (h)
    exact ev_ret rfl rfl rfl ⟨_, rfl, rfl, H⟩
  · replace H := H.2 (h)
    refine ev_ex 5 (c' := (33, [some (.ref 6), some (.int l1)], [.int ((-1)), .int (6 + l1), .ref 6], cH c s)) rfl ?_
    obtain ⟨H0, H⟩ := H
    refine ev_ast (i := .iastore) rfl (Or.inl rfl) rfl H0 (by decide) rfl rfl (σ' := cH c (rA s 1 (ix (6 + l1)) ((-1)))) rfl ?_
    exact H
set_option maxRecDepth 8000 in
theorem w_R_tellsNothing_6_34 {c : CX} {d : Nat} {s : RS} {Q : RS → Prop} (l1 : Int32) (H : (okx (27 + l1) 2101 ∧ eR c (d) m_R_tellsNothing 21 [some (.ref 6), some (.int (l1 + 1))] (rA s 1 (ix (27 + l1)) 1) (pV c Q))) : eR c (d) m_R_tellsNothing 34 [some (.ref 6), some (.int l1)] s (pV c Q) := by
  unfold eR
  refine ev_ex 0 (c' := (34, [some (.ref 6), some (.int l1)], [], cH c s)) rfl ?_
  refine ev_ex 5 (c' := (40, [some (.ref 6), some (.int l1)], [.int 1, .int (27 + l1), .ref 6], cH c s)) rfl ?_
  obtain ⟨H0, H⟩ := H
  refine ev_ast (i := .iastore) rfl (Or.inl rfl) rfl H0 (by decide) rfl rfl (σ' := cH c (rA s 1 (ix (27 + l1)) 1)) rfl ?_
  refine ev_ex 2 (c' := (21, [some (.ref 6), some (.int (l1 + 1))], [], cH c (rA s 1 (ix (27 + l1)) 1))) rfl ?_
  exact H
set_option maxRecDepth 8000 in
theorem w_R_tellsNothing_10 {c : CX} {d : Nat} {s : RS} {Q : RS → Prop}  (H : eR c (d) m_R_tellsNothing 2 [some (.ref 10), some (.int 0)] s (pV c Q)) : RV c (d) m_R_tellsNothing [.ref 10] s Q := by
  refine ⟨q_R_tellsNothing, rfl, Nat.le_of_ble_eq_true rfl, ?_⟩
  refine ev_ex 0 (c' := (0, [some (.ref 10), none], [], cH c s)) rfl ?_
  refine ev_ex 2 (c' := (2, [some (.ref 10), some (.int 0)], [], cH c s)) rfl ?_
  exact H
set_option maxRecDepth 8000 in
theorem w_R_tellsNothing_10_2 {c : CX} {d : Nat} {s : RS} {Q : RS → Prop} (l1 : Int32) (H : ((2101 ≤ l1 → eR c (d) m_R_tellsNothing 21 [some (.ref 10), some (.int 0)] s (pV c Q)) ∧ (¬ 2101 ≤ l1 → (okx l1 2101 ∧ eR c (d) m_R_tellsNothing 2 [some (.ref 10), some (.int (l1 + 1))] (rA s 2 (ix l1) 0) (pV c Q))))) : eR c (d) m_R_tellsNothing 2 [some (.ref 10), some (.int l1)] s (pV c Q) := by
  unfold eR
  refine ev_ex 0 (c' := (2, [some (.ref 10), some (.int l1)], [], cH c s)) rfl ?_
  refine ev_ex 2 (c' := (6, [some (.ref 10), some (.int l1)], [.int 2101, .int l1], cH c s)) rfl ?_
  refine ev_icmp_ge (tgt := 19) rfl rfl (fun h => ?_) (fun h => ?_)
  · replace H := H.1 (h)
    refine ev_ex 2 (c' := (21, [some (.ref 10), some (.int 0)], [], cH c s)) rfl ?_
    exact H
  · replace H := H.2 (h)
    refine ev_ex 3 (c' := (12, [some (.ref 10), some (.int l1)], [.int 0, .int l1, .ref 10], cH c s)) rfl ?_
    obtain ⟨H0, H⟩ := H
    refine ev_ast (i := .iastore) rfl (Or.inl rfl) rfl H0 (by decide) rfl rfl (σ' := cH c (rA s 2 (ix l1) 0)) rfl ?_
    refine ev_ex 2 (c' := (2, [some (.ref 10), some (.int (l1 + 1))], [], cH c (rA s 2 (ix l1) 0))) rfl ?_
    exact H
set_option maxRecDepth 8000 in
theorem w_R_tellsNothing_10_21 {c : CX} {d : Nat} {s : RS} {Q : RS → Prop} (l1 : Int32) (H : ((10 ≤ l1 → Q s) ∧ (¬ 10 ≤ l1 → (okx (6 + l1) 2101 ∧ eR c (d) m_R_tellsNothing 34 [some (.ref 10), some (.int l1)] (rA s 2 (ix (6 + l1)) ((-1))) (pV c Q))))) : eR c (d) m_R_tellsNothing 21 [some (.ref 10), some (.int l1)] s (pV c Q) := by
  unfold eR
  refine ev_ex 0 (c' := (21, [some (.ref 10), some (.int l1)], [], cH c s)) rfl ?_
  refine ev_ex 2 (c' := (24, [some (.ref 10), some (.int l1)], [.int 10, .int l1], cH c s)) rfl ?_
  refine ev_icmp_ge (tgt := 47) rfl rfl (fun h => ?_) (fun h => ?_)
  · replace H := H.1 (h)
    exact ev_ret rfl rfl rfl ⟨_, rfl, rfl, H⟩
  · replace H := H.2 (h)
    refine ev_ex 5 (c' := (33, [some (.ref 10), some (.int l1)], [.int ((-1)), .int (6 + l1), .ref 10], cH c s)) rfl ?_
    obtain ⟨H0, H⟩ := H
    refine ev_ast (i := .iastore) rfl (Or.inl rfl) rfl H0 (by decide) rfl rfl (σ' := cH c (rA s 2 (ix (6 + l1)) ((-1)))) rfl ?_
    exact H
set_option maxRecDepth 8000 in
theorem w_R_tellsNothing_10_34 {c : CX} {d : Nat} {s : RS} {Q : RS → Prop} (l1 : Int32) (H : (okx (27 + l1) 2101 ∧ eR c (d) m_R_tellsNothing 21 [some (.ref 10), some (.int (l1 + 1))] (rA s 2 (ix (27 + l1)) 1) (pV c Q))) : eR c (d) m_R_tellsNothing 34 [some (.ref 10), some (.int l1)] s (pV c Q) := by
  unfold eR
  refine ev_ex 0 (c' := (34, [some (.ref 10), some (.int l1)], [], cH c s)) rfl ?_
  refine ev_ex 5 (c' := (40, [some (.ref 10), some (.int l1)], [.int 1, .int (27 + l1), .ref 10], cH c s)) rfl ?_
  obtain ⟨H0, H⟩ := H
  refine ev_ast (i := .iastore) rfl (Or.inl rfl) rfl H0 (by decide) rfl rfl (σ' := cH c (rA s 2 (ix (27 + l1)) 1)) rfl ?_
  refine ev_ex 2 (c' := (21, [some (.ref 10), some (.int (l1 + 1))], [], cH c (rA s 2 (ix (27 + l1)) 1))) rfl ?_
  exact H
