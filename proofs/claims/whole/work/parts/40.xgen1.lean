/-! written by wip/gen/vcx.py: what runs of the class ask -/
set_option maxRecDepth 8000 in
theorem wx_Sd_turn {c : CX} {d : Nat} {T : XS} {Q : XS → Prop} (a : Nat) (a0 : Int32) (a1 : Int32) (H : (SdS T a ∧ (okx a0 10 ∧ (((one (xA T (sW a) (ix a0))) = false → (okx a0 10 ∧ (((one a1) = false → Q (tA T (sW a) (ix a0) a1)) ∧ ((one a1) = true → (okx a1 10 ∧ (okx a1 10 ∧ Q (tA (tA T (sW a) (ix a0) a1) (sM a) (ix a1) ((xA (tA T (sW a) (ix a0) a1) (sM a) (ix a1)) ||| ((1 : Int32) <<< (a0 &&& 31)))))))))) ∧ ((one (xA T (sW a) (ix a0))) = true → (okx (xA T (sW a) (ix a0)) 10 ∧ (okx (xA T (sW a) (ix a0)) 10 ∧ (okx a0 10 ∧ (((one a1) = false → Q (tA (tA T (sM a) (ix (xA T (sW a) (ix a0))) ((xA T (sM a) (ix (xA T (sW a) (ix a0)))) &&& (((1 : Int32) <<< (a0 &&& 31)) ^^^ ((-1))))) (sW a) (ix a0) a1)) ∧ ((one a1) = true → (okx a1 10 ∧ (okx a1 10 ∧ Q (tA (tA (tA T (sM a) (ix (xA T (sW a) (ix a0))) ((xA T (sM a) (ix (xA T (sW a) (ix a0)))) &&& (((1 : Int32) <<< (a0 &&& 31)) ^^^ ((-1))))) (sW a) (ix a0) a1) (sM a) (ix a1) ((xA (tA (tA T (sM a) (ix (xA T (sW a) (ix a0))) ((xA T (sM a) (ix (xA T (sW a) (ix a0)))) &&& (((1 : Int32) <<< (a0 &&& 31)) ^^^ ((-1))))) (sW a) (ix a0) a1) (sM a) (ix a1)) ||| ((1 : Int32) <<< (a0 &&& 31)))))))))))))))) : XV c (d + 1) m_Sd_turn [.ref a, .int a0, .int a1] T Q := by
  refine ⟨q_Sd_turn, rfl, Nat.le_of_ble_eq_true rfl, ?_⟩
  refine ev_ex 0 (c' := (0, [some (.ref a), some (.int a0), some (.int a1), none], [], hX c T)) rfl ?_
  refine ev_ex 1 (c' := (1, [some (.ref a), some (.int a0), some (.int a1), none], [.ref a], hX c T)) rfl ?_
  obtain ⟨h1, H⟩ := H
  refine xe_gfr (ci := 9) (k := 1) rfl rfl h1.1 ⟨by decide, by decide⟩ rfl h1.fw ?_
  refine ev_ex 1 (c' := (5, [some (.ref a), some (.int a0), some (.int a1), none], [.int a0, .ref (sW a)], hX c T)) rfl ?_
  obtain ⟨H0, H⟩ := H
  refine xe_al rfl h1.aw H0 ?_
  refine ev_ex 0 (c' := (6, [some (.ref a), some (.int a0), some (.int a1), none], [.int (xA T (sW a) (ix a0))], hX c T)) rfl ?_
  refine ev_ex 2 (c' := (8, [some (.ref a), some (.int a0), some (.int a1), some (.int (xA T (sW a) (ix a0)))], [.int (xA T (sW a) (ix a0))], hX c T)) rfl ?_
  refine xq_B (idx := 52) (V := one (xA T (sW a) (ix a0))) (S := T) rfl rfl rfl (Nat.le_of_ble_eq_true rfl) (Nat.le_of_ble_eq_true rfl) rfl (zx_X_isOne ⟨rfl, rfl⟩) ?_
  refine ev_if_eqB (x := (one (xA T (sW a) (ix a0)))) (tgt := 28) rfl rfl (fun h => ?_) (fun h => ?_)
  · replace H := H.1 (h)
    refine ev_ex 1 (c' := (29, [some (.ref a), some (.int a0), some (.int a1), some (.int (xA T (sW a) (ix a0)))], [.ref a], hX c T)) rfl ?_
    refine xe_gfr (ci := 9) (k := 1) rfl rfl h1.1 ⟨by decide, by decide⟩ rfl h1.fw ?_
    refine ev_ex 2 (c' := (34, [some (.ref a), some (.int a0), some (.int a1), some (.int (xA T (sW a) (ix a0)))], [.int a1, .int a0, .ref (sW a)], hX c T)) rfl ?_
    obtain ⟨H0, H⟩ := H
    refine xe_as rfl h1.aw H0 ?_
    refine ev_ex 1 (c' := (36, [some (.ref a), some (.int a0), some (.int a1), some (.int (xA T (sW a) (ix a0)))], [.int a1], hX c (tA T (sW a) (ix a0) a1))) rfl ?_
    refine xq_B (idx := 52) (V := one a1) (S := tA T (sW a) (ix a0) a1) rfl rfl rfl (Nat.le_of_ble_eq_true rfl) (Nat.le_of_ble_eq_true rfl) rfl (zx_X_isOne ⟨rfl, rfl⟩) ?_
    refine ev_if_eqB (x := (one a1)) (tgt := 54) rfl rfl (fun h => ?_) (fun h => ?_)
    · replace H := H.1 (h)
      exact ev_ret rfl rfl rfl ⟨_, rfl, rfl, H⟩
    · replace H := H.2 (h)
      refine ev_ex 1 (c' := (43, [some (.ref a), some (.int a0), some (.int a1), some (.int (xA T (sW a) (ix a0)))], [.ref a], hX c (tA T (sW a) (ix a0) a1))) rfl ?_
      refine xe_gfr (ci := 9) (k := 2) rfl rfl h1.1 ⟨by decide, by decide⟩ rfl h1.fm ?_
      refine ev_ex 2 (c' := (48, [some (.ref a), some (.int a0), some (.int a1), some (.int (xA T (sW a) (ix a0)))], [.int a1, .ref (sM a), .int a1, .ref (sM a)], hX c (tA T (sW a) (ix a0) a1))) rfl ?_
      obtain ⟨H0, H⟩ := H
      refine xe_al rfl h1.am H0 ?_
      refine ev_ex 0 (c' := (49, [some (.ref a), some (.int a0), some (.int a1), some (.int (xA T (sW a) (ix a0)))], [.int (xA (tA T (sW a) (ix a0) a1) (sM a) (ix a1)), .int a1, .ref (sM a)], hX c (tA T (sW a) (ix a0) a1))) rfl ?_
      refine ev_ex 4 (c' := (53, [some (.ref a), some (.int a0), some (.int a1), some (.int (xA T (sW a) (ix a0)))], [.int ((xA (tA T (sW a) (ix a0) a1) (sM a) (ix a1)) ||| ((1 : Int32) <<< (a0 &&& 31))), .int a1, .ref (sM a)], hX c (tA T (sW a) (ix a0) a1))) rfl ?_
      obtain ⟨H0, H⟩ := H
      refine xe_as rfl h1.am H0 ?_
      exact ev_ret rfl rfl rfl ⟨_, rfl, rfl, H⟩
  · replace H := H.2 (h)
    refine ev_ex 1 (c' := (15, [some (.ref a), some (.int a0), some (.int a1), some (.int (xA T (sW a) (ix a0)))], [.ref a], hX c T)) rfl ?_
    refine xe_gfr (ci := 9) (k := 2) rfl rfl h1.1 ⟨by decide, by decide⟩ rfl h1.fm ?_
    refine ev_ex 2 (c' := (20, [some (.ref a), some (.int a0), some (.int a1), some (.int (xA T (sW a) (ix a0)))], [.int (xA T (sW a) (ix a0)), .ref (sM a), .int (xA T (sW a) (ix a0)), .ref (sM a)], hX c T)) rfl ?_
    obtain ⟨H0, H⟩ := H
    refine xe_al rfl h1.am H0 ?_
    refine ev_ex 0 (c' := (21, [some (.ref a), some (.int a0), some (.int a1), some (.int (xA T (sW a) (ix a0)))], [.int (xA T (sM a) (ix (xA T (sW a) (ix a0)))), .int (xA T (sW a) (ix a0)), .ref (sM a)], hX c T)) rfl ?_
    refine ev_ex 6 (c' := (27, [some (.ref a), some (.int a0), some (.int a1), some (.int (xA T (sW a) (ix a0)))], [.int ((xA T (sM a) (ix (xA T (sW a) (ix a0)))) &&& (((1 : Int32) <<< (a0 &&& 31)) ^^^ ((-1)))), .int (xA T (sW a) (ix a0)), .ref (sM a)], hX c T)) rfl ?_
    obtain ⟨H0, H⟩ := H
    refine xe_as rfl h1.am H0 ?_
    refine ev_ex 1 (c' := (29, [some (.ref a), some (.int a0), some (.int a1), some (.int (xA T (sW a) (ix a0)))], [.ref a], hX c (tA T (sM a) (ix (xA T (sW a) (ix a0))) ((xA T (sM a) (ix (xA T (sW a) (ix a0)))) &&& (((1 : Int32) <<< (a0 &&& 31)) ^^^ ((-1))))))) rfl ?_
    refine xe_gfr (ci := 9) (k := 1) rfl rfl h1.1 ⟨by decide, by decide⟩ rfl h1.fw ?_
    refine ev_ex 2 (c' := (34, [some (.ref a), some (.int a0), some (.int a1), some (.int (xA T (sW a) (ix a0)))], [.int a1, .int a0, .ref (sW a)], hX c (tA T (sM a) (ix (xA T (sW a) (ix a0))) ((xA T (sM a) (ix (xA T (sW a) (ix a0)))) &&& (((1 : Int32) <<< (a0 &&& 31)) ^^^ ((-1))))))) rfl ?_
    obtain ⟨H0, H⟩ := H
    refine xe_as rfl h1.aw H0 ?_
    refine ev_ex 1 (c' := (36, [some (.ref a), some (.int a0), some (.int a1), some (.int (xA T (sW a) (ix a0)))], [.int a1], hX c (tA (tA T (sM a) (ix (xA T (sW a) (ix a0))) ((xA T (sM a) (ix (xA T (sW a) (ix a0)))) &&& (((1 : Int32) <<< (a0 &&& 31)) ^^^ ((-1))))) (sW a) (ix a0) a1))) rfl ?_
    refine xq_B (idx := 52) (V := one a1) (S := tA (tA T (sM a) (ix (xA T (sW a) (ix a0))) ((xA T (sM a) (ix (xA T (sW a) (ix a0)))) &&& (((1 : Int32) <<< (a0 &&& 31)) ^^^ ((-1))))) (sW a) (ix a0) a1) rfl rfl rfl (Nat.le_of_ble_eq_true rfl) (Nat.le_of_ble_eq_true rfl) rfl (zx_X_isOne ⟨rfl, rfl⟩) ?_
    refine ev_if_eqB (x := (one a1)) (tgt := 54) rfl rfl (fun h => ?_) (fun h => ?_)
    · replace H := H.1 (h)
      exact ev_ret rfl rfl rfl ⟨_, rfl, rfl, H⟩
    · replace H := H.2 (h)
      refine ev_ex 1 (c' := (43, [some (.ref a), some (.int a0), some (.int a1), some (.int (xA T (sW a) (ix a0)))], [.ref a], hX c (tA (tA T (sM a) (ix (xA T (sW a) (ix a0))) ((xA T (sM a) (ix (xA T (sW a) (ix a0)))) &&& (((1 : Int32) <<< (a0 &&& 31)) ^^^ ((-1))))) (sW a) (ix a0) a1))) rfl ?_
      refine xe_gfr (ci := 9) (k := 2) rfl rfl h1.1 ⟨by decide, by decide⟩ rfl h1.fm ?_
      refine ev_ex 2 (c' := (48, [some (.ref a), some (.int a0), some (.int a1), some (.int (xA T (sW a) (ix a0)))], [.int a1, .ref (sM a), .int a1, .ref (sM a)], hX c (tA (tA T (sM a) (ix (xA T (sW a) (ix a0))) ((xA T (sM a) (ix (xA T (sW a) (ix a0)))) &&& (((1 : Int32) <<< (a0 &&& 31)) ^^^ ((-1))))) (sW a) (ix a0) a1))) rfl ?_
      obtain ⟨H0, H⟩ := H
      refine xe_al rfl h1.am H0 ?_
      refine ev_ex 0 (c' := (49, [some (.ref a), some (.int a0), some (.int a1), some (.int (xA T (sW a) (ix a0)))], [.int (xA (tA (tA T (sM a) (ix (xA T (sW a) (ix a0))) ((xA T (sM a) (ix (xA T (sW a) (ix a0)))) &&& (((1 : Int32) <<< (a0 &&& 31)) ^^^ ((-1))))) (sW a) (ix a0) a1) (sM a) (ix a1)), .int a1, .ref (sM a)], hX c (tA (tA T (sM a) (ix (xA T (sW a) (ix a0))) ((xA T (sM a) (ix (xA T (sW a) (ix a0)))) &&& (((1 : Int32) <<< (a0 &&& 31)) ^^^ ((-1))))) (sW a) (ix a0) a1))) rfl ?_
      refine ev_ex 4 (c' := (53, [some (.ref a), some (.int a0), some (.int a1), some (.int (xA T (sW a) (ix a0)))], [.int ((xA (tA (tA T (sM a) (ix (xA T (sW a) (ix a0))) ((xA T (sM a) (ix (xA T (sW a) (ix a0)))) &&& (((1 : Int32) <<< (a0 &&& 31)) ^^^ ((-1))))) (sW a) (ix a0) a1) (sM a) (ix a1)) ||| ((1 : Int32) <<< (a0 &&& 31))), .int a1, .ref (sM a)], hX c (tA (tA T (sM a) (ix (xA T (sW a) (ix a0))) ((xA T (sM a) (ix (xA T (sW a) (ix a0)))) &&& (((1 : Int32) <<< (a0 &&& 31)) ^^^ ((-1))))) (sW a) (ix a0) a1))) rfl ?_
      obtain ⟨H0, H⟩ := H
      refine xe_as rfl h1.am H0 ?_
      exact ev_ret rfl rfl rfl ⟨_, rfl, rfl, H⟩
set_option maxRecDepth 8000 in
theorem wx_Sd_mocking {c : CX} {d : Nat} {T : XS} {Q : Int32 → XS → Prop} (a : Nat) (H : eX c (d) m_Sd_mocking 4 [some (.ref a), some (.int 0), some (.int 0)] T (yI c Q)) : XI c (d) m_Sd_mocking [.ref a] T Q := by
  refine ⟨q_Sd_mocking, rfl, Nat.le_of_ble_eq_true rfl, ?_⟩
  refine ev_ex 0 (c' := (0, [some (.ref a), none, none], [], hX c T)) rfl ?_
  refine ev_ex 4 (c' := (4, [some (.ref a), some (.int 0), some (.int 0)], [], hX c T)) rfl ?_
  exact H
set_option maxRecDepth 8000 in
theorem wx_Sd_mocking_4 {c : CX} {d : Nat} {T : XS} {Q : Int32 → XS → Prop} (a : Nat) (l1 : Int32) (l2 : Int32) (H : ((10 ≤ l2 → Q l1 T) ∧ (¬ 10 ≤ l2 → (SdS T a ∧ (okx l2 10 ∧ (((xA T (sW a) (ix l2)) = ((-1)) → eX c (d) m_Sd_mocking 4 [some (.ref a), some (.int l1), some (.int (l2 + 1))] T (yI c Q)) ∧ (¬ (xA T (sW a) (ix l2)) = ((-1)) → eX c (d) m_Sd_mocking 4 [some (.ref a), some (.int (l1 + 1)), some (.int (l2 + 1))] T (yI c Q)))))))) : eX c (d) m_Sd_mocking 4 [some (.ref a), some (.int l1), some (.int l2)] T (yI c Q) := by
  unfold eX
  refine ev_ex 0 (c' := (4, [some (.ref a), some (.int l1), some (.int l2)], [], hX c T)) rfl ?_
  refine ev_ex 2 (c' := (7, [some (.ref a), some (.int l1), some (.int l2)], [.int 10, .int l2], hX c T)) rfl ?_
  refine ev_icmp_ge (tgt := 29) rfl rfl (fun h => ?_) (fun h => ?_)
  · replace H := H.1 (h)
    refine ev_ex 1 (c' := (30, [some (.ref a), some (.int l1), some (.int l2)], [.int l1], hX c T)) rfl ?_
    exact ev_ret rfl rfl rfl ⟨_, _, rfl, rfl, H⟩
  · replace H := H.2 (h)
    refine ev_ex 1 (c' := (11, [some (.ref a), some (.int l1), some (.int l2)], [.ref a], hX c T)) rfl ?_
    obtain ⟨h51, H⟩ := H
    refine xe_gfr (ci := 9) (k := 1) rfl rfl h51.1 ⟨by decide, by decide⟩ rfl h51.fw ?_
    refine ev_ex 1 (c' := (15, [some (.ref a), some (.int l1), some (.int l2)], [.int l2, .ref (sW a)], hX c T)) rfl ?_
    obtain ⟨H0, H⟩ := H
    refine xe_al rfl h51.aw H0 ?_
    refine ev_ex 0 (c' := (16, [some (.ref a), some (.int l1), some (.int l2)], [.int (xA T (sW a) (ix l2))], hX c T)) rfl ?_
    refine ev_ex 1 (c' := (17, [some (.ref a), some (.int l1), some (.int l2)], [.int ((-1)), .int (xA T (sW a) (ix l2))], hX c T)) rfl ?_
    refine ev_icmp_eq (tgt := 23) rfl rfl (fun h => ?_) (fun h => ?_)
    · replace H := H.1 (h)
      refine ev_ex 2 (c' := (4, [some (.ref a), some (.int l1), some (.int (l2 + 1))], [], hX c T)) rfl ?_
      exact H
    · replace H := H.2 (h)
      refine ev_ex 3 (c' := (4, [some (.ref a), some (.int (l1 + 1)), some (.int (l2 + 1))], [], hX c T)) rfl ?_
      exact H
set_option maxRecDepth 8000 in
theorem wx_Sd_copyFrom {c : CX} {d : Nat} {T : XS} {Q : XS → Prop} (a : Nat) (a0 : Nat) (H : (SdS T a0 ∧ (∃ b2 : Nat, frx T a0 0 = some b2 ∧ (SdS T a ∧ ((sW a0) ≠ (sW a) ∧ ((sM a0) ≠ (sM a) ∧ ((sR a0) ≠ (sR a) ∧ Q (tW (tW (tW (tI (tR T a 0 (some b2)) a 4 (xI T a0 4)) (sW a) (va_cpy (xA T (sW a0)) (xA T (sW a)) 0 0 10)) (sM a) (va_cpy (xA (tW (tI (tR T a 0 (some b2)) a 4 (xI T a0 4)) (sW a) (va_cpy (xA T (sW a0)) (xA T (sW a)) 0 0 10)) (sM a0)) (xA (tW (tI (tR T a 0 (some b2)) a 4 (xI T a0 4)) (sW a) (va_cpy (xA T (sW a0)) (xA T (sW a)) 0 0 10)) (sM a)) 0 0 10)) (sR a) (va_cpy (xA (tW (tW (tI (tR T a 0 (some b2)) a 4 (xI T a0 4)) (sW a) (va_cpy (xA T (sW a0)) (xA T (sW a)) 0 0 10)) (sM a) (va_cpy (xA (tW (tI (tR T a 0 (some b2)) a 4 (xI T a0 4)) (sW a) (va_cpy (xA T (sW a0)) (xA T (sW a)) 0 0 10)) (sM a0)) (xA (tW (tI (tR T a 0 (some b2)) a 4 (xI T a0 4)) (sW a) (va_cpy (xA T (sW a0)) (xA T (sW a)) 0 0 10)) (sM a)) 0 0 10)) (sR a0)) (xA (tW (tW (tI (tR T a 0 (some b2)) a 4 (xI T a0 4)) (sW a) (va_cpy (xA T (sW a0)) (xA T (sW a)) 0 0 10)) (sM a) (va_cpy (xA (tW (tI (tR T a 0 (some b2)) a 4 (xI T a0 4)) (sW a) (va_cpy (xA T (sW a0)) (xA T (sW a)) 0 0 10)) (sM a0)) (xA (tW (tI (tR T a 0 (some b2)) a 4 (xI T a0 4)) (sW a) (va_cpy (xA T (sW a0)) (xA T (sW a)) 0 0 10)) (sM a)) 0 0 10)) (sR a)) 0 0 10))))))))) : XV c (d) m_Sd_copyFrom [.ref a, .ref a0] T Q := by
  refine ⟨q_Sd_copyFrom, rfl, Nat.le_of_ble_eq_true rfl, ?_⟩
  refine ev_ex 0 (c' := (0, [some (.ref a), some (.ref a0)], [], hX c T)) rfl ?_
  refine ev_ex 2 (c' := (2, [some (.ref a), some (.ref a0)], [.ref a0, .ref a], hX c T)) rfl ?_
  obtain ⟨h1, H⟩ := H
  obtain ⟨b2, h3, H⟩ := H
  refine xe_gfr (ci := 9) (k := 0) rfl rfl h1.1 ⟨by decide, by decide⟩ rfl h3 ?_
  obtain ⟨h4, H⟩ := H
  refine xe_pr (ci := 9) (k := 0) (x := (some b2)) rfl rfl h4.1 ⟨by decide, by decide⟩ (Nat.le_of_ble_eq_true rfl) (fr_9_0 _ _ _ (frx_put0 h4.1)) ?_
  refine ev_ex 2 (c' := (10, [some (.ref a), some (.ref a0)], [.ref a0, .ref a], hX c (tR T a 0 (some b2)))) rfl ?_
  refine xe_gf (ci := 9) (k := 4) rfl rfl (h1.tR0 a (some b2)).1 ⟨by decide, by decide⟩ (v := .int (xI T a0 4)) rfl ?_
  refine xe_pi (ci := 9) (k := 4) rfl rfl (h4.tR0 a (some b2)).1 ⟨by decide, by decide⟩ (Nat.le_of_ble_eq_true rfl) rfl (fi_9_4 _ _ _) ?_
  refine ev_ex 1 (c' := (17, [some (.ref a), some (.ref a0)], [.ref a0], hX c (tI (tR T a 0 (some b2)) a 4 (xI T a0 4)))) rfl ?_
  refine xe_gfr (ci := 9) (k := 1) rfl rfl (h1.tR0 a (some b2)).1 ⟨by decide, by decide⟩ rfl (h1.tR0 a (some b2)).fw ?_
  refine ev_ex 2 (c' := (22, [some (.ref a), some (.ref a0)], [.ref a, .int 0, .ref (sW a0)], hX c (tI (tR T a 0 (some b2)) a 4 (xI T a0 4)))) rfl ?_
  refine xe_gfr (ci := 9) (k := 1) rfl rfl (h4.tR0 a (some b2)).1 ⟨by decide, by decide⟩ rfl (h4.tR0 a (some b2)).fw ?_
  refine ev_ex 2 (c' := (28, [some (.ref a), some (.ref a0)], [.int 10, .int 0, .ref (sW a), .int 0, .ref (sW a0)], hX c (tI (tR T a 0 (some b2)) a 4 (xI T a0 4)))) rfl ?_
  obtain ⟨h5, H⟩ := H
  refine xe_cpy (n := 10) (sp := 0) (dp := 0) rfl rfl (h1.tR0 a (some b2)).aw (h4.tR0 a (some b2)).aw h5 (by decide) (by decide) (by decide) (by decide) (Nat.le_of_ble_eq_true rfl) ?_
  refine ev_ex 1 (c' := (32, [some (.ref a), some (.ref a0)], [.ref a0], hX c (tW (tI (tR T a 0 (some b2)) a 4 (xI T a0 4)) (sW a) (va_cpy (xA T (sW a0)) (xA T (sW a)) 0 0 10)))) rfl ?_
  refine xe_gfr (ci := 9) (k := 2) rfl rfl (h1.tR0 a (some b2)).1 ⟨by decide, by decide⟩ rfl (h1.tR0 a (some b2)).fm ?_
  refine ev_ex 2 (c' := (37, [some (.ref a), some (.ref a0)], [.ref a, .int 0, .ref (sM a0)], hX c (tW (tI (tR T a 0 (some b2)) a 4 (xI T a0 4)) (sW a) (va_cpy (xA T (sW a0)) (xA T (sW a)) 0 0 10)))) rfl ?_
  refine xe_gfr (ci := 9) (k := 2) rfl rfl (h4.tR0 a (some b2)).1 ⟨by decide, by decide⟩ rfl (h4.tR0 a (some b2)).fm ?_
  refine ev_ex 2 (c' := (43, [some (.ref a), some (.ref a0)], [.int 10, .int 0, .ref (sM a), .int 0, .ref (sM a0)], hX c (tW (tI (tR T a 0 (some b2)) a 4 (xI T a0 4)) (sW a) (va_cpy (xA T (sW a0)) (xA T (sW a)) 0 0 10)))) rfl ?_
  obtain ⟨h6, H⟩ := H
  refine xe_cpy (n := 10) (sp := 0) (dp := 0) rfl rfl (h1.tR0 a (some b2)).am (h4.tR0 a (some b2)).am h6 (by decide) (by decide) (by decide) (by decide) (Nat.le_of_ble_eq_true rfl) ?_
  refine ev_ex 1 (c' := (47, [some (.ref a), some (.ref a0)], [.ref a0], hX c (tW (tW (tI (tR T a 0 (some b2)) a 4 (xI T a0 4)) (sW a) (va_cpy (xA T (sW a0)) (xA T (sW a)) 0 0 10)) (sM a) (va_cpy (xA (tW (tI (tR T a 0 (some b2)) a 4 (xI T a0 4)) (sW a) (va_cpy (xA T (sW a0)) (xA T (sW a)) 0 0 10)) (sM a0)) (xA (tW (tI (tR T a 0 (some b2)) a 4 (xI T a0 4)) (sW a) (va_cpy (xA T (sW a0)) (xA T (sW a)) 0 0 10)) (sM a)) 0 0 10)))) rfl ?_
  refine xe_gfr (ci := 9) (k := 3) rfl rfl (h1.tR0 a (some b2)).1 ⟨by decide, by decide⟩ rfl (h1.tR0 a (some b2)).fr ?_
  refine ev_ex 2 (c' := (52, [some (.ref a), some (.ref a0)], [.ref a, .int 0, .ref (sR a0)], hX c (tW (tW (tI (tR T a 0 (some b2)) a 4 (xI T a0 4)) (sW a) (va_cpy (xA T (sW a0)) (xA T (sW a)) 0 0 10)) (sM a) (va_cpy (xA (tW (tI (tR T a 0 (some b2)) a 4 (xI T a0 4)) (sW a) (va_cpy (xA T (sW a0)) (xA T (sW a)) 0 0 10)) (sM a0)) (xA (tW (tI (tR T a 0 (some b2)) a 4 (xI T a0 4)) (sW a) (va_cpy (xA T (sW a0)) (xA T (sW a)) 0 0 10)) (sM a)) 0 0 10)))) rfl ?_
  refine xe_gfr (ci := 9) (k := 3) rfl rfl (h4.tR0 a (some b2)).1 ⟨by decide, by decide⟩ rfl (h4.tR0 a (some b2)).fr ?_
  refine ev_ex 2 (c' := (58, [some (.ref a), some (.ref a0)], [.int 10, .int 0, .ref (sR a), .int 0, .ref (sR a0)], hX c (tW (tW (tI (tR T a 0 (some b2)) a 4 (xI T a0 4)) (sW a) (va_cpy (xA T (sW a0)) (xA T (sW a)) 0 0 10)) (sM a) (va_cpy (xA (tW (tI (tR T a 0 (some b2)) a 4 (xI T a0 4)) (sW a) (va_cpy (xA T (sW a0)) (xA T (sW a)) 0 0 10)) (sM a0)) (xA (tW (tI (tR T a 0 (some b2)) a 4 (xI T a0 4)) (sW a) (va_cpy (xA T (sW a0)) (xA T (sW a)) 0 0 10)) (sM a)) 0 0 10)))) rfl ?_
  obtain ⟨h7, H⟩ := H
  refine xe_cpy (n := 10) (sp := 0) (dp := 0) rfl rfl (h1.tR0 a (some b2)).ak (h4.tR0 a (some b2)).ak h7 (by decide) (by decide) (by decide) (by decide) (Nat.le_of_ble_eq_true rfl) ?_
  exact ev_ret rfl rfl rfl ⟨_, rfl, rfl, H⟩
set_option maxRecDepth 8000 in
theorem wx_Sd_packed {c : CX} {d : Nat} {T : XS} {Q : Int64 → XS → Prop} (a : Nat) (H : eX c (d) m_Sd_packed 4 [some (.ref a), some (.long 0), none, some (.int 0)] T (yJ c Q)) : XJ c (d) m_Sd_packed [.ref a] T Q := by
  refine ⟨q_Sd_packed, rfl, Nat.le_of_ble_eq_true rfl, ?_⟩
  refine ev_ex 0 (c' := (0, [some (.ref a), none, none, none], [], hX c T)) rfl ?_
  refine ev_ex 4 (c' := (4, [some (.ref a), some (.long 0), none, some (.int 0)], [], hX c T)) rfl ?_
  exact H
set_option maxRecDepth 8000 in
theorem wx_Sd_packed_4 {c : CX} {d : Nat} {T : XS} {Q : Int64 → XS → Prop} (a : Nat) (l1 : Int64) (l3 : Int32) (H : ((10 ≤ l3 → Q l1 T) ∧ (¬ 10 ≤ l3 → (SdS T a ∧ (okx l3 10 ∧ eX c (d) m_Sd_packed 4 [some (.ref a), some (.long (((l1 * 16) + ((xA T (sW a) (ix l3)).toInt64)) + 1)), none, some (.int (l3 + 1))] T (yJ c Q)))))) : eX c (d) m_Sd_packed 4 [some (.ref a), some (.long l1), none, some (.int l3)] T (yJ c Q) := by
  unfold eX
  refine ev_ex 0 (c' := (4, [some (.ref a), some (.long l1), none, some (.int l3)], [], hX c T)) rfl ?_
  refine ev_ex 2 (c' := (7, [some (.ref a), some (.long l1), none, some (.int l3)], [.int 10, .int l3], hX c T)) rfl ?_
  refine ev_icmp_ge (tgt := 32) rfl rfl (fun h => ?_) (fun h => ?_)
  · replace H := H.1 (h)
    refine ev_ex 1 (c' := (33, [some (.ref a), some (.long l1), none, some (.int l3)], [.long l1], hX c T)) rfl ?_
    exact ev_ret rfl rfl rfl ⟨_, _, rfl, rfl, H⟩
  · replace H := H.2 (h)
    refine ev_ex 4 (c' := (16, [some (.ref a), some (.long l1), none, some (.int l3)], [.ref a, .long (l1 * 16)], hX c T)) rfl ?_
    obtain ⟨h51, H⟩ := H
    refine xe_gfr (ci := 9) (k := 1) rfl rfl h51.1 ⟨by decide, by decide⟩ rfl h51.fw ?_
    refine ev_ex 1 (c' := (20, [some (.ref a), some (.long l1), none, some (.int l3)], [.int l3, .ref (sW a), .long (l1 * 16)], hX c T)) rfl ?_
    obtain ⟨H0, H⟩ := H
    refine xe_al rfl h51.aw H0 ?_
    refine ev_ex 0 (c' := (21, [some (.ref a), some (.long l1), none, some (.int l3)], [.int (xA T (sW a) (ix l3)), .long (l1 * 16)], hX c T)) rfl ?_
    refine ev_ex 7 (c' := (4, [some (.ref a), some (.long (((l1 * 16) + ((xA T (sW a) (ix l3)).toInt64)) + 1)), none, some (.int (l3 + 1))], [], hX c T)) rfl ?_
    exact H
set_option maxRecDepth 8000 in
theorem wx_Sd_open {c : CX} {d : Nat} {T : XS} {Q : XS → Prop} (a : Nat) (a0 : Nat) (H : (SdS T a ∧ XV c d m_JA_fill [.ref (sW a), .int ((-1))] (tI (tR T a 0 (some a0)) a 4 0) (fun T2 => (SdS T2 a ∧ XV c d m_JA_fill [.ref (sM a), .int 0] T2 (fun T4 => (SdS T4 a ∧ XV c d m_JA_fill [.ref (sR a), .int 0] T4 (fun T6 => eX c (d + 1) m_Sd_open 36 [some (.ref a), some (.ref a0), some (.int 0)] T6 (yV c Q)))))))) : XV c (d + 1) m_Sd_open [.ref a, .ref a0] T Q := by
  refine ⟨q_Sd_open, rfl, Nat.le_of_ble_eq_true rfl, ?_⟩
  refine ev_ex 0 (c' := (0, [some (.ref a), some (.ref a0), none], [], hX c T)) rfl ?_
  refine ev_ex 2 (c' := (2, [some (.ref a), some (.ref a0), none], [.ref a0, .ref a], hX c T)) rfl ?_
  obtain ⟨h1, H⟩ := H
  refine xe_pr (ci := 9) (k := 0) (x := (some a0)) rfl rfl h1.1 ⟨by decide, by decide⟩ (Nat.le_of_ble_eq_true rfl) (fr_9_0 _ _ _ (frx_put0 h1.1)) ?_
  refine ev_ex 2 (c' := (7, [some (.ref a), some (.ref a0), none], [.int 0, .ref a], hX c (tR T a 0 (some a0)))) rfl ?_
  refine xe_pi (ci := 9) (k := 4) rfl rfl (h1.tR0 a (some a0)).1 ⟨by decide, by decide⟩ (Nat.le_of_ble_eq_true rfl) rfl (fi_9_4 _ _ _) ?_
  refine ev_ex 1 (c' := (11, [some (.ref a), some (.ref a0), none], [.ref a], hX c (tI (tR T a 0 (some a0)) a 4 0))) rfl ?_
  refine xe_gfr (ci := 9) (k := 1) rfl rfl (h1.tR0 a (some a0)).1 ⟨by decide, by decide⟩ rfl (h1.tR0 a (some a0)).fw ?_
  refine ev_ex 1 (c' := (15, [some (.ref a), some (.ref a0), none], [.int ((-1)), .ref (sW a)], hX c (tI (tR T a 0 (some a0)) a 4 0))) rfl ?_
  refine xc_V (idx := 25) rfl rfl rfl (Nat.le_of_ble_eq_true rfl) (Nat.le_of_ble_eq_true rfl) rfl H (fun T2 H => ?_)
  refine ev_ex 1 (c' := (19, [some (.ref a), some (.ref a0), none], [.ref a], hX c T2)) rfl ?_
  obtain ⟨h3, H⟩ := H
  refine xe_gfr (ci := 9) (k := 2) rfl rfl h3.1 ⟨by decide, by decide⟩ rfl h3.fm ?_
  refine ev_ex 1 (c' := (23, [some (.ref a), some (.ref a0), none], [.int 0, .ref (sM a)], hX c T2)) rfl ?_
  refine xc_V (idx := 25) rfl rfl rfl (Nat.le_of_ble_eq_true rfl) (Nat.le_of_ble_eq_true rfl) rfl H (fun T4 H => ?_)
  refine ev_ex 1 (c' := (27, [some (.ref a), some (.ref a0), none], [.ref a], hX c T4)) rfl ?_
  obtain ⟨h5, H⟩ := H
  refine xe_gfr (ci := 9) (k := 3) rfl rfl h5.1 ⟨by decide, by decide⟩ rfl h5.fr ?_
  refine ev_ex 1 (c' := (31, [some (.ref a), some (.ref a0), none], [.int 0, .ref (sR a)], hX c T4)) rfl ?_
  refine xc_V (idx := 25) rfl rfl rfl (Nat.le_of_ble_eq_true rfl) (Nat.le_of_ble_eq_true rfl) rfl H (fun T6 H => ?_)
  refine ev_ex 2 (c' := (36, [some (.ref a), some (.ref a0), some (.int 0)], [], hX c T6)) rfl ?_
  exact H
set_option maxRecDepth 8000 in
theorem wx_Sd_open_36 {c : CX} {d : Nat} {T : XS} {Q : XS → Prop} (a : Nat) (a0 : Nat) (l2 : Int32) (H : (CvS T a0 ∧ (((xI T a0 1) ≤ l2 → Q T) ∧ (¬ (xI T a0 1) ≤ l2 → (SdS T a ∧ (okx l2 10 ∧ (okx l2 10 ∧ (okx l2 10 ∧ XV c d m_Sd_turn [.ref a, .int l2, .int (xA (tA T (sR a) (ix l2) (xA T (a0 + 8) (ix l2))) (a0 + 4) (ix l2))] (tA T (sR a) (ix l2) (xA T (a0 + 8) (ix l2))) (fun T53 => eX c (d + 1) m_Sd_open 36 [some (.ref a), some (.ref a0), some (.int (l2 + 1))] T53 (yV c Q)))))))))) : eX c (d + 1) m_Sd_open 36 [some (.ref a), some (.ref a0), some (.int l2)] T (yV c Q) := by
  unfold eX
  refine ev_ex 0 (c' := (36, [some (.ref a), some (.ref a0), some (.int l2)], [], hX c T)) rfl ?_
  refine ev_ex 2 (c' := (38, [some (.ref a), some (.ref a0), some (.int l2)], [.ref a0, .int l2], hX c T)) rfl ?_
  obtain ⟨h51, H⟩ := H
  refine xe_gf (ci := 2) (k := 1) rfl rfl h51.1 ⟨by decide, by decide⟩ (v := .int (xI T a0 1)) rfl ?_
  refine ev_icmp_ge (tgt := 73) rfl rfl (fun h => ?_) (fun h => ?_)
  · replace H := H.1 (h)
    exact ev_ret rfl rfl rfl ⟨_, rfl, rfl, H⟩
  · replace H := H.2 (h)
    refine ev_ex 1 (c' := (45, [some (.ref a), some (.ref a0), some (.int l2)], [.ref a], hX c T)) rfl ?_
    obtain ⟨h52, H⟩ := H
    refine xe_gfr (ci := 9) (k := 3) rfl rfl h52.1 ⟨by decide, by decide⟩ rfl h52.fr ?_
    refine ev_ex 2 (c' := (50, [some (.ref a), some (.ref a0), some (.int l2)], [.ref a0, .int l2, .ref (sR a)], hX c T)) rfl ?_
    refine xe_gfr (ci := 2) (k := 9) rfl rfl h51.1 ⟨by decide, by decide⟩ rfl h51.f9 ?_
    refine ev_ex 1 (c' := (54, [some (.ref a), some (.ref a0), some (.int l2)], [.int l2, .ref (a0 + 8), .int l2, .ref (sR a)], hX c T)) rfl ?_
    obtain ⟨H0, H⟩ := H
    refine xe_al rfl h51.a9 H0 ?_
    refine ev_ex 0 (c' := (55, [some (.ref a), some (.ref a0), some (.int l2)], [.int (xA T (a0 + 8) (ix l2)), .int l2, .ref (sR a)], hX c T)) rfl ?_
    obtain ⟨H0, H⟩ := H
    refine xe_as rfl h52.ak H0 ?_
    refine ev_ex 3 (c' := (59, [some (.ref a), some (.ref a0), some (.int l2)], [.ref a0, .int l2, .ref a], hX c (tA T (sR a) (ix l2) (xA T (a0 + 8) (ix l2))))) rfl ?_
    refine xe_gfr (ci := 2) (k := 3) rfl rfl h51.1 ⟨by decide, by decide⟩ rfl h51.f3 ?_
    refine ev_ex 1 (c' := (63, [some (.ref a), some (.ref a0), some (.int l2)], [.int l2, .ref (a0 + 4), .int l2, .ref a], hX c (tA T (sR a) (ix l2) (xA T (a0 + 8) (ix l2))))) rfl ?_
    obtain ⟨H0, H⟩ := H
    refine xe_al rfl h51.a3 H0 ?_
    refine ev_ex 0 (c' := (64, [some (.ref a), some (.ref a0), some (.int l2)], [.int (xA (tA T (sR a) (ix l2) (xA T (a0 + 8) (ix l2))) (a0 + 4) (ix l2)), .int l2, .ref a], hX c (tA T (sR a) (ix l2) (xA T (a0 + 8) (ix l2))))) rfl ?_
    refine xc_V (idx := 42) rfl rfl rfl (Nat.le_of_ble_eq_true rfl) (Nat.le_of_ble_eq_true rfl) (x_rcv (T := tA T (sR a) (ix l2) (xA T (a0 + 8) (ix l2))) h52.1 ⟨by decide, by decide⟩ _ _) H (fun T53 H => ?_)
    refine ev_ex 2 (c' := (36, [some (.ref a), some (.ref a0), some (.int (l2 + 1))], [], hX c T53)) rfl ?_
    exact H
set_option maxRecDepth 8000 in
theorem wx_Ct_whyNot {c : CX} {d : Nat} {T : XS} {Q : Int32 → XS → Prop} (a0 : Nat) (a1 : Int32) (a2 : Int32) (H : (SdS T a0 ∧ (∃ b2 : Nat, frx T a0 0 = some b2 ∧ (CvS T b2 ∧ ((a1 < 0 → Q 1 T) ∧ (¬ a1 < 0 → (((xI T b2 1) ≤ a1 → Q 1 T) ∧ (¬ (xI T b2 1) ≤ a1 → ((a2 < 0 → Q 1 T) ∧ (¬ a2 < 0 → (((xI T b2 1) ≤ a2 → Q 1 T) ∧ (¬ (xI T b2 1) ≤ a2 → ((¬ a1 = a2 → XB c d m_Ct_allows [.ref 117, .ref a0, .int a1, .int a2] T (fun v6 T5 => ((v6 = false → Q 2 T5) ∧ (v6 = true → Q 0 T5)))) ∧ (a1 = a2 → Q 1 T)))))))))))))) : XI c (d + 1) m_Ct_whyNot [.ref 117, .ref a0, .int a1, .int a2] T Q := by
  refine ⟨q_Ct_whyNot, rfl, Nat.le_of_ble_eq_true rfl, ?_⟩
  refine ev_ex 0 (c' := (0, [some (.ref 117), some (.ref a0), some (.int a1), some (.int a2), none], [], hX c T)) rfl ?_
  refine ev_ex 1 (c' := (1, [some (.ref 117), some (.ref a0), some (.int a1), some (.int a2), none], [.ref a0], hX c T)) rfl ?_
  obtain ⟨h1, H⟩ := H
  obtain ⟨b2, h3, H⟩ := H
  refine xe_gfr (ci := 9) (k := 0) rfl rfl h1.1 ⟨by decide, by decide⟩ rfl h3 ?_
  obtain ⟨h4, H⟩ := H
  refine xe_gf (ci := 2) (k := 1) rfl rfl h4.1 ⟨by decide, by decide⟩ (v := .int (xI T b2 1)) rfl ?_
  refine ev_ex 2 (c' := (10, [some (.ref 117), some (.ref a0), some (.int a1), some (.int a2), some (.int (xI T b2 1))], [.int a1], hX c T)) rfl ?_
  refine ev_if_lt (tgt := 34) rfl rfl (fun h => ?_) (fun h => ?_)
  · replace H := H.1 (h)
    refine ev_ex 1 (c' := (35, [some (.ref 117), some (.ref a0), some (.int a1), some (.int a2), some (.int (xI T b2 1))], [.int 1], hX c T)) rfl ?_
    exact ev_ret rfl rfl rfl ⟨_, _, rfl, rfl, H⟩
  · replace H := H.2 (h)
    refine ev_ex 2 (c' := (16, [some (.ref 117), some (.ref a0), some (.int a1), some (.int a2), some (.int (xI T b2 1))], [.int (xI T b2 1), .int a1], hX c T)) rfl ?_
    refine ev_icmp_ge (tgt := 34) rfl rfl (fun h => ?_) (fun h => ?_)
    · replace H := H.1 (h)
      refine ev_ex 1 (c' := (35, [some (.ref 117), some (.ref a0), some (.int a1), some (.int a2), some (.int (xI T b2 1))], [.int 1], hX c T)) rfl ?_
      exact ev_ret rfl rfl rfl ⟨_, _, rfl, rfl, H⟩
    · replace H := H.2 (h)
      refine ev_ex 1 (c' := (20, [some (.ref 117), some (.ref a0), some (.int a1), some (.int a2), some (.int (xI T b2 1))], [.int a2], hX c T)) rfl ?_
      refine ev_if_lt (tgt := 34) rfl rfl (fun h => ?_) (fun h => ?_)
      · replace H := H.1 (h)
        refine ev_ex 1 (c' := (35, [some (.ref 117), some (.ref a0), some (.int a1), some (.int a2), some (.int (xI T b2 1))], [.int 1], hX c T)) rfl ?_
        exact ev_ret rfl rfl rfl ⟨_, _, rfl, rfl, H⟩
      · replace H := H.2 (h)
        refine ev_ex 2 (c' := (26, [some (.ref 117), some (.ref a0), some (.int a1), some (.int a2), some (.int (xI T b2 1))], [.int (xI T b2 1), .int a2], hX c T)) rfl ?_
        refine ev_icmp_ge (tgt := 34) rfl rfl (fun h => ?_) (fun h => ?_)
        · replace H := H.1 (h)
          refine ev_ex 1 (c' := (35, [some (.ref 117), some (.ref a0), some (.int a1), some (.int a2), some (.int (xI T b2 1))], [.int 1], hX c T)) rfl ?_
          exact ev_ret rfl rfl rfl ⟨_, _, rfl, rfl, H⟩
        · replace H := H.2 (h)
          refine ev_ex 2 (c' := (31, [some (.ref 117), some (.ref a0), some (.int a1), some (.int a2), some (.int (xI T b2 1))], [.int a2, .int a1], hX c T)) rfl ?_
          refine ev_icmp_ne (tgt := 36) rfl rfl (fun h => ?_) (fun h => ?_)
          · replace H := H.1 (h)
            refine ev_ex 4 (c' := (40, [some (.ref 117), some (.ref a0), some (.int a1), some (.int a2), some (.int (xI T b2 1))], [.int a2, .int a1, .ref a0, .ref 117], hX c T)) rfl ?_
            refine xc_B (idx := 65) rfl rfl rfl (Nat.le_of_ble_eq_true rfl) (Nat.le_of_ble_eq_true rfl) (x_rcv (T := T) (ob_lit (i := 29) rfl (by decide) rfl) ⟨by decide, by decide⟩ _ _) H (fun v6 T5 H => ?_)
            refine ev_if_eqB (x := v6) (tgt := 50) rfl rfl (fun h => ?_) (fun h => ?_)
            · replace H := H.1 (h)
              refine ev_ex 1 (c' := (51, [some (.ref 117), some (.ref a0), some (.int a1), some (.int a2), some (.int (xI T b2 1))], [.int 2], hX c T5)) rfl ?_
              exact ev_ret rfl rfl rfl ⟨_, _, rfl, rfl, H⟩
            · replace H := H.2 (h)
              refine ev_ex 2 (c' := (51, [some (.ref 117), some (.ref a0), some (.int a1), some (.int a2), some (.int (xI T b2 1))], [.int 0], hX c T5)) rfl ?_
              exact ev_ret rfl rfl rfl ⟨_, _, rfl, rfl, H⟩
          · replace H := H.2 (h)
            refine ev_ex 1 (c' := (35, [some (.ref 117), some (.ref a0), some (.int a1), some (.int a2), some (.int (xI T b2 1))], [.int 1], hX c T)) rfl ?_
            exact ev_ret rfl rfl rfl ⟨_, _, rfl, rfl, H⟩
set_option maxRecDepth 8000 in
theorem wx_Ct_allows {c : CX} {d : Nat} {T : XS} {Q : Bool → XS → Prop} (a0 : Nat) (a1 : Int32) (a2 : Int32) (H : (SdS T a0 ∧ (∃ b2 : Nat, frx T a0 0 = some b2 ∧ (CvS T b2 ∧ ((frx T b2 4 = none → Q true T) ∧ (∀ b5, frx T b2 4 = some b5 → XB c d m_Ct_holds [.ref 117, .ref b5, .ref a0, .int a1, .int a2] T (fun v7 T6 => ((v7 = false → Q false T6) ∧ (v7 = true → Q true T6))))))))) : XB c (d + 1) m_Ct_allows [.ref 117, .ref a0, .int a1, .int a2] T Q := by
  refine ⟨q_Ct_allows, rfl, Nat.le_of_ble_eq_true rfl, ?_⟩
  refine ev_ex 0 (c' := (0, [some (.ref 117), some (.ref a0), some (.int a1), some (.int a2), none], [], hX c T)) rfl ?_
  refine ev_ex 1 (c' := (1, [some (.ref 117), some (.ref a0), some (.int a1), some (.int a2), none], [.ref a0], hX c T)) rfl ?_
  obtain ⟨h1, H⟩ := H
  obtain ⟨b2, h3, H⟩ := H
  refine xe_gfr (ci := 9) (k := 0) rfl rfl h1.1 ⟨by decide, by decide⟩ rfl h3 ?_
  obtain ⟨h4, H⟩ := H
  refine xe_gf (ci := 2) (k := 4) rfl rfl h4.1 ⟨by decide, by decide⟩ (v := va_rf (frx T b2 4)) rfl ?_
  refine xe_aso' (e := frx T b2 4) rfl (Nat.le_of_ble_eq_true rfl) ?_
  refine ev_ex 0 (c' := (9, [some (.ref 117), some (.ref a0), some (.int a1), some (.int a2), some (va_rf (frx T b2 4))], [], hX c T)) rfl ?_
  refine xe_alo' (e := frx T b2 4) rfl rfl ?_
  refine xe_nul (e := (frx T b2 4)) (tgt := 26) rfl rfl (fun hb => ?_) (fun b5 hb => ?_)
  · replace H := H.1 hb
    rw [hb]
    refine ev_ex 0 (c' := (26, [some (.ref 117), some (.ref a0), some (.int a1), some (.int a2), some (.null)], [], hX c T)) rfl ?_
    refine ev_ex 2 (c' := (31, [some (.ref 117), some (.ref a0), some (.int a1), some (.int a2), some (.null)], [.int 1], hX c T)) rfl ?_
    exact ev_retB (x := true) rfl rfl ⟨_, _, rfl, rfl, H⟩
  · replace H := H.2 b5 hb
    rw [hb]
    refine ev_ex 0 (c' := (14, [some (.ref 117), some (.ref a0), some (.int a1), some (.int a2), some (.ref b5)], [], hX c T)) rfl ?_
    refine ev_ex 5 (c' := (20, [some (.ref 117), some (.ref a0), some (.int a1), some (.int a2), some (.ref b5)], [.int a2, .int a1, .ref a0, .ref b5, .ref 117], hX c T)) rfl ?_
    refine xc_B (idx := 29) rfl rfl rfl (Nat.le_of_ble_eq_true rfl) (Nat.le_of_ble_eq_true rfl) (x_rcv (T := T) (ob_lit (i := 29) rfl (by decide) rfl) ⟨by decide, by decide⟩ _ _) H (fun v7 T6 H => ?_)
    refine ev_if_eqB (x := v7) (tgt := 30) rfl rfl (fun h => ?_) (fun h => ?_)
    · replace H := H.1 (h)
      refine ev_ex 1 (c' := (31, [some (.ref 117), some (.ref a0), some (.int a1), some (.int a2), some (.ref b5)], [.int 0], hX c T6)) rfl ?_
      exact ev_retB (x := false) rfl rfl ⟨_, _, rfl, rfl, H⟩
    · replace H := H.2 (h)
      refine ev_ex 2 (c' := (31, [some (.ref 117), some (.ref a0), some (.int a1), some (.int a2), some (.ref b5)], [.int 1], hX c T6)) rfl ?_
      exact ev_retB (x := true) rfl rfl ⟨_, _, rfl, rfl, H⟩
set_option maxRecDepth 8000 in
theorem wx_Ct_answer {c : CX} {d : Nat} {T : XS} {Q : Int32 → XS → Prop} (a0 : Nat) (a1 : Int32) (H : (SdS T a0 ∧ (∃ b2 : Nat, frx T a0 0 = some b2 ∧ (CvS T b2 ∧ (okx a1 10 ∧ XI c d m_X_leastOf [.int (xA T (sM a0) (ix a1))] T (fun v6 T5 => ((frx T b2 5 = none → (SdS T5 a0 ∧ (okx a1 10 ∧ Q (xA T5 (sW a0) (ix a1)) T5))) ∧ (∀ b7, frx T b2 5 = some b7 → ((v6 = ((-1)) → (SdS T5 a0 ∧ (okx a1 10 ∧ Q (xA T5 (sW a0) (ix a1)) T5))) ∧ (¬ v6 = ((-1)) → XB c d m_Ct_holds [.ref 117, .ref b7, .ref a0, .int a1, .int v6] T5 (fun v11 T10 => ((v11 = false → (SdS T10 a0 ∧ (okx a1 10 ∧ Q (xA T10 (sW a0) (ix a1)) T10))) ∧ (v11 = true → Q v6 T10))))))))))))) : XI c (d + 1) m_Ct_answer [.ref 117, .ref a0, .int a1] T Q := by
  refine ⟨q_Ct_answer, rfl, Nat.le_of_ble_eq_true rfl, ?_⟩
  refine ev_ex 0 (c' := (0, [some (.ref 117), some (.ref a0), some (.int a1), none, none, none], [], hX c T)) rfl ?_
  refine ev_ex 1 (c' := (1, [some (.ref 117), some (.ref a0), some (.int a1), none, none, none], [.ref a0], hX c T)) rfl ?_
  obtain ⟨h1, H⟩ := H
  obtain ⟨b2, h3, H⟩ := H
  refine xe_gfr (ci := 9) (k := 0) rfl rfl h1.1 ⟨by decide, by decide⟩ rfl h3 ?_
  obtain ⟨h4, H⟩ := H
  refine xe_gf (ci := 2) (k := 5) rfl rfl h4.1 ⟨by decide, by decide⟩ (v := va_rf (frx T b2 5)) rfl ?_
  refine xe_aso (e := frx T b2 5) rfl (Nat.le_of_ble_eq_true rfl) ?_
  refine ev_ex 0 (c' := (8, [some (.ref 117), some (.ref a0), some (.int a1), some (va_rf (frx T b2 5)), none, none], [], hX c T)) rfl ?_
  refine ev_ex 1 (c' := (9, [some (.ref 117), some (.ref a0), some (.int a1), some (va_rf (frx T b2 5)), none, none], [.ref a0], hX c T)) rfl ?_
  refine xe_gfr (ci := 9) (k := 2) rfl rfl h1.1 ⟨by decide, by decide⟩ rfl h1.fm ?_
  refine ev_ex 1 (c' := (13, [some (.ref 117), some (.ref a0), some (.int a1), some (va_rf (frx T b2 5)), none, none], [.int a1, .ref (sM a0)], hX c T)) rfl ?_
  obtain ⟨H0, H⟩ := H
  refine xe_al rfl h1.am H0 ?_
  refine ev_ex 0 (c' := (14, [some (.ref 117), some (.ref a0), some (.int a1), some (va_rf (frx T b2 5)), none, none], [.int (xA T (sM a0) (ix a1))], hX c T)) rfl ?_
  refine xc_I (idx := 39) rfl rfl rfl (Nat.le_of_ble_eq_true rfl) (Nat.le_of_ble_eq_true rfl) rfl H (fun v6 T5 H => ?_)
  refine xe_iso' (k := 3) (e := frx T b2 5) rfl rfl (Nat.le_of_ble_eq_true rfl) ?_
  refine ev_ex 0 (c' := (19, [some (.ref 117), some (.ref a0), some (.int a1), some (va_rf (frx T b2 5)), some (.int v6), none], [], hX c T5)) rfl ?_
  refine xe_alo (e := frx T b2 5) rfl rfl ?_
  refine xe_nul (e := (frx T b2 5)) (tgt := 45) rfl rfl (fun hb => ?_) (fun b7 hb => ?_)
  · replace H := H.1 hb
    rw [hb]
    refine ev_ex 0 (c' := (45, [some (.ref 117), some (.ref a0), some (.int a1), some (.null), some (.int v6), none], [], hX c T5)) rfl ?_
    refine ev_ex 5 (c' := (59, [some (.ref 117), some (.ref a0), some (.int a1), some (.null), some (.int v6), some (.int 0)], [.ref a0], hX c T5)) rfl ?_
    obtain ⟨h8, H⟩ := H
    refine xe_gfr (ci := 9) (k := 1) rfl rfl h8.1 ⟨by decide, by decide⟩ rfl h8.fw ?_
    refine ev_ex 1 (c' := (63, [some (.ref 117), some (.ref a0), some (.int a1), some (.null), some (.int v6), some (.int 0)], [.int a1, .ref (sW a0)], hX c T5)) rfl ?_
    obtain ⟨H0, H⟩ := H
    refine xe_al rfl h8.aw H0 ?_
    refine ev_ex 0 (c' := (64, [some (.ref 117), some (.ref a0), some (.int a1), some (.null), some (.int v6), some (.int 0)], [.int (xA T5 (sW a0) (ix a1))], hX c T5)) rfl ?_
    exact ev_ret rfl rfl rfl ⟨_, _, rfl, rfl, H⟩
  · replace H := H.2 b7 hb
    rw [hb]
    refine ev_ex 0 (c' := (23, [some (.ref 117), some (.ref a0), some (.int a1), some (.ref b7), some (.int v6), none], [], hX c T5)) rfl ?_
    refine ev_ex 2 (c' := (26, [some (.ref 117), some (.ref a0), some (.int a1), some (.ref b7), some (.int v6), none], [.int ((-1)), .int v6], hX c T5)) rfl ?_
    refine ev_icmp_eq (tgt := 45) rfl rfl (fun h => ?_) (fun h => ?_)
    · replace H := H.1 (h)
      refine ev_ex 5 (c' := (59, [some (.ref 117), some (.ref a0), some (.int a1), some (.ref b7), some (.int v6), some (.int 0)], [.ref a0], hX c T5)) rfl ?_
      obtain ⟨h9, H⟩ := H
      refine xe_gfr (ci := 9) (k := 1) rfl rfl h9.1 ⟨by decide, by decide⟩ rfl h9.fw ?_
      refine ev_ex 1 (c' := (63, [some (.ref 117), some (.ref a0), some (.int a1), some (.ref b7), some (.int v6), some (.int 0)], [.int a1, .ref (sW a0)], hX c T5)) rfl ?_
      obtain ⟨H0, H⟩ := H
      refine xe_al rfl h9.aw H0 ?_
      refine ev_ex 0 (c' := (64, [some (.ref 117), some (.ref a0), some (.int a1), some (.ref b7), some (.int v6), some (.int 0)], [.int (xA T5 (sW a0) (ix a1))], hX c T5)) rfl ?_
      exact ev_ret rfl rfl rfl ⟨_, _, rfl, rfl, H⟩
    · replace H := H.2 (h)
      refine ev_ex 5 (c' := (35, [some (.ref 117), some (.ref a0), some (.int a1), some (.ref b7), some (.int v6), none], [.int v6, .int a1, .ref a0, .ref b7, .ref 117], hX c T5)) rfl ?_
      refine xc_B (idx := 29) rfl rfl rfl (Nat.le_of_ble_eq_true rfl) (Nat.le_of_ble_eq_true rfl) (x_rcv (T := T5) (ob_lit (i := 29) rfl (by decide) rfl) ⟨by decide, by decide⟩ _ _) H (fun v11 T10 H => ?_)
      refine ev_if_eqB (x := v11) (tgt := 45) rfl rfl (fun h => ?_) (fun h => ?_)
      · replace H := H.1 (h)
        refine ev_ex 5 (c' := (59, [some (.ref 117), some (.ref a0), some (.int a1), some (.ref b7), some (.int v6), some (.int 0)], [.ref a0], hX c T10)) rfl ?_
        obtain ⟨h12, H⟩ := H
        refine xe_gfr (ci := 9) (k := 1) rfl rfl h12.1 ⟨by decide, by decide⟩ rfl h12.fw ?_
        refine ev_ex 1 (c' := (63, [some (.ref 117), some (.ref a0), some (.int a1), some (.ref b7), some (.int v6), some (.int 0)], [.int a1, .ref (sW a0)], hX c T10)) rfl ?_
        obtain ⟨H0, H⟩ := H
        refine xe_al rfl h12.aw H0 ?_
        refine ev_ex 0 (c' := (64, [some (.ref 117), some (.ref a0), some (.int a1), some (.ref b7), some (.int v6), some (.int 0)], [.int (xA T10 (sW a0) (ix a1))], hX c T10)) rfl ?_
        exact ev_ret rfl rfl rfl ⟨_, _, rfl, rfl, H⟩
      · replace H := H.2 (h)
        refine ev_ex 7 (c' := (64, [some (.ref 117), some (.ref a0), some (.int a1), some (.ref b7), some (.int v6), some (.int 1)], [.int v6], hX c T10)) rfl ?_
        exact ev_ret rfl rfl rfl ⟨_, _, rfl, rfl, H⟩
set_option maxRecDepth 8000 in
theorem wx_Ct_passNight {c : CX} {d : Nat} {T : XS} {Q : Bool → XS → Prop} (a0 : Nat) (H : (SdS T a0 ∧ (∃ b2 : Nat, frx T a0 0 = some b2 ∧ (CvS T b2 ∧ eX c (d + 1) m_Ct_passNight 10 [some (.ref 117), some (.ref a0), some (.int (xI T b2 1)), some (.int 0), none] T (yB c Q))))) : XB c (d + 1) m_Ct_passNight [.ref 117, .ref a0] T Q := by
  refine ⟨q_Ct_passNight, rfl, Nat.le_of_ble_eq_true rfl, ?_⟩
  refine ev_ex 0 (c' := (0, [some (.ref 117), some (.ref a0), none, none, none], [], hX c T)) rfl ?_
  refine ev_ex 1 (c' := (1, [some (.ref 117), some (.ref a0), none, none, none], [.ref a0], hX c T)) rfl ?_
  obtain ⟨h1, H⟩ := H
  obtain ⟨b2, h3, H⟩ := H
  refine xe_gfr (ci := 9) (k := 0) rfl rfl h1.1 ⟨by decide, by decide⟩ rfl h3 ?_
  obtain ⟨h4, H⟩ := H
  refine xe_gf (ci := 2) (k := 1) rfl rfl h4.1 ⟨by decide, by decide⟩ (v := .int (xI T b2 1)) rfl ?_
  refine ev_ex 3 (c' := (10, [some (.ref 117), some (.ref a0), some (.int (xI T b2 1)), some (.int 0), none], [], hX c T)) rfl ?_
  exact H
set_option maxRecDepth 8000 in
theorem wx_Ct_passNight_10 {c : CX} {d : Nat} {T : XS} {Q : Bool → XS → Prop} (a0 : Nat) (l2 : Int32) (l3 : Int32) (H : ((l2 ≤ l3 → (SdS T a0 ∧ (∃ b52 : Nat, frx T a0 0 = some b52 ∧ (CvS T b52 ∧ (∃ q55 : Bool, xI T b52 6 = bI q55 ∧ eX c (d + 1) m_Ct_passNight 44 [some (.ref 117), some (.ref a0), some (.int l2), some (.int (bI q55)), some (.int 0)] T (yB c Q)))))) ∧ (¬ l2 ≤ l3 → XI c d m_Ct_answer [.ref 117, .ref a0, .int l3] T (fun v58 T57 => (okx l3 10 ∧ eX c (d + 1) m_Ct_passNight 10 [some (.ref 117), some (.ref a0), some (.int l2), some (.int (l3 + 1)), none] (tA T57 125 (ix l3) v58) (yB c Q)))))) : eX c (d + 1) m_Ct_passNight 10 [some (.ref 117), some (.ref a0), some (.int l2), some (.int l3), none] T (yB c Q) := by
  unfold eX
  refine ev_ex 0 (c' := (10, [some (.ref 117), some (.ref a0), some (.int l2), some (.int l3), none], [], hX c T)) rfl ?_
  refine ev_ex 2 (c' := (12, [some (.ref 117), some (.ref a0), some (.int l2), some (.int l3), none], [.int l2, .int l3], hX c T)) rfl ?_
  refine ev_icmp_ge (tgt := 33) rfl rfl (fun h => ?_) (fun h => ?_)
  · replace H := H.1 (h)
    refine ev_ex 1 (c' := (34, [some (.ref 117), some (.ref a0), some (.int l2), some (.int l3), none], [.ref a0], hX c T)) rfl ?_
    obtain ⟨h51, H⟩ := H
    obtain ⟨b52, h53, H⟩ := H
    refine xe_gfr (ci := 9) (k := 0) rfl rfl h51.1 ⟨by decide, by decide⟩ rfl h53 ?_
    obtain ⟨h54, H⟩ := H
    obtain ⟨q55, h56, H⟩ := H
    refine xe_gf (ci := 2) (k := 6) rfl rfl h54.1 ⟨by decide, by decide⟩ (v := .int (bI q55)) (by rw [← h56]; rfl) ?_
    refine ev_ex 3 (c' := (44, [some (.ref 117), some (.ref a0), some (.int l2), some (.int (bI q55)), some (.int 0)], [], hX c T)) rfl ?_
    exact H
  · replace H := H.2 (h)
    refine ev_ex 1 (c' := (16, [some (.ref 117), some (.ref a0), some (.int l2), some (.int l3), none], [.ref 117], hX c T)) rfl ?_
    refine xe_gf (ci := 3) (k := 1) rfl rfl (ob_lit (i := 29) rfl (by decide) rfl) ⟨by decide, by decide⟩ (v := .ref 125) rfl ?_
    refine ev_ex 4 (c' := (23, [some (.ref 117), some (.ref a0), some (.int l2), some (.int l3), none], [.int l3, .ref a0, .ref 117, .int l3, .ref 125], hX c T)) rfl ?_
    refine xc_I (idx := 50) rfl rfl rfl (Nat.le_of_ble_eq_true rfl) (Nat.le_of_ble_eq_true rfl) (x_rcv (T := T) (ob_lit (i := 29) rfl (by decide) rfl) ⟨by decide, by decide⟩ _ _) H (fun v58 T57 H => ?_)
    obtain ⟨H0, H⟩ := H
    refine xe_as rfl (ar_lit (i := 31) rfl (by decide) rfl) H0 ?_
    refine ev_ex 2 (c' := (10, [some (.ref 117), some (.ref a0), some (.int l2), some (.int (l3 + 1)), none], [], hX c (tA T57 125 (ix l3) v58))) rfl ?_
    exact H
set_option maxRecDepth 8000 in
theorem wx_Ct_passNight_44 {c : CX} {d : Nat} {T : XS} {Q : Bool → XS → Prop} (a0 : Nat) (l2 : Int32) (l3 : Bool) (l4 : Int32) (H : ((l2 ≤ l4 → (SdS T a0 ∧ Q l3 (tI T a0 4 ((xI T a0 4) + 1)))) ∧ (¬ l2 ≤ l4 → (okx l4 10 ∧ (SdS T a0 ∧ (okx l4 10 ∧ (((xA T 125 (ix l4)) = (xA T (sW a0) (ix l4)) → eX c (d + 1) m_Ct_passNight 44 [some (.ref 117), some (.ref a0), some (.int l2), some (.int (bI l3)), some (.int (l4 + 1))] T (yB c Q)) ∧ (¬ (xA T 125 (ix l4)) = (xA T (sW a0) (ix l4)) → (okx l4 10 ∧ XV c d m_Sd_turn [.ref a0, .int l4, .int (xA T 125 (ix l4))] T (fun T53 => eX c (d + 1) m_Ct_passNight 44 [some (.ref 117), some (.ref a0), some (.int l2), some (.int (bI true)), some (.int (l4 + 1))] T53 (yB c Q))))))))))) : eX c (d + 1) m_Ct_passNight 44 [some (.ref 117), some (.ref a0), some (.int l2), some (.int (bI l3)), some (.int l4)] T (yB c Q) := by
  unfold eX
  refine ev_ex 0 (c' := (44, [some (.ref 117), some (.ref a0), some (.int l2), some (.int (bI l3)), some (.int l4)], [], hX c T)) rfl ?_
  refine ev_ex 2 (c' := (47, [some (.ref 117), some (.ref a0), some (.int l2), some (.int (bI l3)), some (.int l4)], [.int l2, .int l4], hX c T)) rfl ?_
  refine ev_icmp_ge (tgt := 88) rfl rfl (fun h => ?_) (fun h => ?_)
  · replace H := H.1 (h)
    refine ev_ex 2 (c' := (90, [some (.ref 117), some (.ref a0), some (.int l2), some (.int (bI l3)), some (.int l4)], [.ref a0, .ref a0], hX c T)) rfl ?_
    obtain ⟨h51, H⟩ := H
    refine xe_gf (ci := 9) (k := 4) rfl rfl h51.1 ⟨by decide, by decide⟩ (v := .int (xI T a0 4)) rfl ?_
    refine ev_ex 2 (c' := (95, [some (.ref 117), some (.ref a0), some (.int l2), some (.int (bI l3)), some (.int l4)], [.int ((xI T a0 4) + 1), .ref a0], hX c T)) rfl ?_
    refine xe_pi (ci := 9) (k := 4) rfl rfl h51.1 ⟨by decide, by decide⟩ (Nat.le_of_ble_eq_true rfl) rfl (fi_9_4 _ _ _) ?_
    refine ev_ex 1 (c' := (99, [some (.ref 117), some (.ref a0), some (.int l2), some (.int (bI l3)), some (.int l4)], [.int (bI l3)], hX c (tI T a0 4 ((xI T a0 4) + 1)))) rfl ?_
    exact ev_retB (x := l3) rfl rfl ⟨_, _, rfl, rfl, H⟩
  · replace H := H.2 (h)
    refine ev_ex 1 (c' := (51, [some (.ref 117), some (.ref a0), some (.int l2), some (.int (bI l3)), some (.int l4)], [.ref 117], hX c T)) rfl ?_
    refine xe_gf (ci := 3) (k := 1) rfl rfl (ob_lit (i := 29) rfl (by decide) rfl) ⟨by decide, by decide⟩ (v := .ref 125) rfl ?_
    refine ev_ex 1 (c' := (56, [some (.ref 117), some (.ref a0), some (.int l2), some (.int (bI l3)), some (.int l4)], [.int l4, .ref 125], hX c T)) rfl ?_
    obtain ⟨H0, H⟩ := H
    refine xe_al rfl (ar_lit (i := 31) rfl (by decide) rfl) H0 ?_
    refine ev_ex 0 (c' := (57, [some (.ref 117), some (.ref a0), some (.int l2), some (.int (bI l3)), some (.int l4)], [.int (xA T 125 (ix l4))], hX c T)) rfl ?_
    refine ev_ex 1 (c' := (58, [some (.ref 117), some (.ref a0), some (.int l2), some (.int (bI l3)), some (.int l4)], [.ref a0, .int (xA T 125 (ix l4))], hX c T)) rfl ?_
    obtain ⟨h52, H⟩ := H
    refine xe_gfr (ci := 9) (k := 1) rfl rfl h52.1 ⟨by decide, by decide⟩ rfl h52.fw ?_
    refine ev_ex 1 (c' := (63, [some (.ref 117), some (.ref a0), some (.int l2), some (.int (bI l3)), some (.int l4)], [.int l4, .ref (sW a0), .int (xA T 125 (ix l4))], hX c T)) rfl ?_
    obtain ⟨H0, H⟩ := H
    refine xe_al rfl h52.aw H0 ?_
    refine ev_ex 0 (c' := (64, [some (.ref 117), some (.ref a0), some (.int l2), some (.int (bI l3)), some (.int l4)], [.int (xA T (sW a0) (ix l4)), .int (xA T 125 (ix l4))], hX c T)) rfl ?_
    refine ev_icmp_eq (tgt := 82) rfl rfl (fun h => ?_) (fun h => ?_)
    · replace H := H.1 (h)
      refine ev_ex 2 (c' := (44, [some (.ref 117), some (.ref a0), some (.int l2), some (.int (bI l3)), some (.int (l4 + 1))], [], hX c T)) rfl ?_
      exact H
    · replace H := H.2 (h)
      refine ev_ex 3 (c' := (71, [some (.ref 117), some (.ref a0), some (.int l2), some (.int (bI l3)), some (.int l4)], [.ref 117, .int l4, .ref a0], hX c T)) rfl ?_
      refine xe_gf (ci := 3) (k := 1) rfl rfl (ob_lit (i := 29) rfl (by decide) rfl) ⟨by decide, by decide⟩ (v := .ref 125) rfl ?_
      refine ev_ex 1 (c' := (76, [some (.ref 117), some (.ref a0), some (.int l2), some (.int (bI l3)), some (.int l4)], [.int l4, .ref 125, .int l4, .ref a0], hX c T)) rfl ?_
      obtain ⟨H0, H⟩ := H
      refine xe_al rfl (ar_lit (i := 31) rfl (by decide) rfl) H0 ?_
      refine ev_ex 0 (c' := (77, [some (.ref 117), some (.ref a0), some (.int l2), some (.int (bI l3)), some (.int l4)], [.int (xA T 125 (ix l4)), .int l4, .ref a0], hX c T)) rfl ?_
      refine xc_V (idx := 58) rfl rfl rfl (Nat.le_of_ble_eq_true rfl) (Nat.le_of_ble_eq_true rfl) (x_rcv (T := T) h52.1 ⟨by decide, by decide⟩ _ _) H (fun T53 H => ?_)
      refine ev_ex 4 (c' := (44, [some (.ref 117), some (.ref a0), some (.int l2), some (.int 1), some (.int (l4 + 1))], [], hX c T53)) rfl ?_
      exact H
set_option maxRecDepth 8000 in
theorem wx_Ct_whyNotTold {c : CX} {d : Nat} {T : XS} {Q : Int32 → XS → Prop} (a0 : Nat) (a1 : Int64) (H : ((¬ a1 = ((-1)) → ((a1 < 0 → Q 1 T) ∧ (¬ a1 < 0 → (SdS T a0 ∧ (∃ b2 : Nat, frx T a0 0 = some b2 ∧ (CvS T b2 ∧ ((a1 < (100 * ((xI T b2 1).toInt64)) → ((¬ ((a1 - a1 / 100 * 100).toInt32) = 99 → XI c d m_Ct_whyNot [.ref 117, .ref a0, .int ((a1 / 100).toInt32), .int ((a1 - a1 / 100 * 100).toInt32)] T (fun v6 T5 => Q v6 T5)) ∧ (((a1 - a1 / 100 * 100).toInt32) = 99 → Q 0 T))) ∧ (¬ a1 < (100 * ((xI T b2 1).toInt64)) → Q 1 T)))))))) ∧ (a1 = ((-1)) → Q 0 T))) : XI c (d + 1) m_Ct_whyNotTold [.ref 117, .ref a0, .long a1] T Q := by
  refine ⟨q_Ct_whyNotTold, rfl, Nat.le_of_ble_eq_true rfl, ?_⟩
  refine ev_ex 0 (c' := (0, [some (.ref 117), some (.ref a0), some (.long a1), none, none], [], hX c T)) rfl ?_
  refine ev_ex 3 (c' := (5, [some (.ref 117), some (.ref a0), some (.long a1), none, none], [.int (lg_cmp a1 ((-1)))], hX c T)) rfl ?_
  refine ev_if_ne (tgt := 10) rfl rfl (fun h => ?_) (fun h => ?_)
  · replace H := H.1 ((fun q => h ((lg_cmp_eq _ _).mpr q)))
    refine ev_ex 3 (c' := (13, [some (.ref 117), some (.ref a0), some (.long a1), none, none], [.int (lg_cmp a1 0)], hX c T)) rfl ?_
    refine ev_if_lt (tgt := 33) rfl rfl (fun h => ?_) (fun h => ?_)
    · replace H := H.1 ((lg_cmp_lt _ _).mp h)
      refine ev_ex 1 (c' := (34, [some (.ref 117), some (.ref a0), some (.long a1), none, none], [.int 1], hX c T)) rfl ?_
      exact ev_ret rfl rfl rfl ⟨_, _, rfl, rfl, H⟩
    · replace H := H.2 ((fun q => h ((lg_cmp_lt _ _).mpr q)))
      refine ev_ex 3 (c' := (21, [some (.ref 117), some (.ref a0), some (.long a1), none, none], [.ref a0, .long 100, .long a1], hX c T)) rfl ?_
      obtain ⟨h1, H⟩ := H
      obtain ⟨b2, h3, H⟩ := H
      refine xe_gfr (ci := 9) (k := 0) rfl rfl h1.1 ⟨by decide, by decide⟩ rfl h3 ?_
      obtain ⟨h4, H⟩ := H
      refine xe_gf (ci := 2) (k := 1) rfl rfl h4.1 ⟨by decide, by decide⟩ (v := .int (xI T b2 1)) rfl ?_
      refine ev_ex 3 (c' := (30, [some (.ref 117), some (.ref a0), some (.long a1), none, none], [.int (lg_cmp a1 (100 * ((xI T b2 1).toInt64)))], hX c T)) rfl ?_
      refine ev_if_lt (tgt := 35) rfl rfl (fun h => ?_) (fun h => ?_)
      · replace H := H.1 ((lg_cmp_lt _ _).mp h)
        refine ev_ex 7 (c' := (47, [some (.ref 117), some (.ref a0), some (.long a1), none, some (.int ((a1 - a1 / 100 * 100).toInt32))], [.int 99, .int ((a1 - a1 / 100 * 100).toInt32)], hX c T)) rfl ?_
        refine ev_icmp_ne (tgt := 54) rfl rfl (fun h => ?_) (fun h => ?_)
        · replace H := H.1 (h)
          refine ev_ex 7 (c' := (64, [some (.ref 117), some (.ref a0), some (.long a1), none, some (.int ((a1 - a1 / 100 * 100).toInt32))], [.int ((a1 - a1 / 100 * 100).toInt32), .int ((a1 / 100).toInt32), .ref a0, .ref 117], hX c T)) rfl ?_
          refine xc_I (idx := 73) rfl rfl rfl (Nat.le_of_ble_eq_true rfl) (Nat.le_of_ble_eq_true rfl) (x_rcv (T := T) (ob_lit (i := 29) rfl (by decide) rfl) ⟨by decide, by decide⟩ _ _) H (fun v6 T5 H => ?_)
          exact ev_ret rfl rfl rfl ⟨_, _, rfl, rfl, H⟩
        · replace H := H.2 (h)
          refine ev_ex 2 (c' := (67, [some (.ref 117), some (.ref a0), some (.long a1), none, some (.int ((a1 - a1 / 100 * 100).toInt32))], [.int 0], hX c T)) rfl ?_
          exact ev_ret rfl rfl rfl ⟨_, _, rfl, rfl, H⟩
      · replace H := H.2 ((fun q => h ((lg_cmp_lt _ _).mpr q)))
        refine ev_ex 1 (c' := (34, [some (.ref 117), some (.ref a0), some (.long a1), none, none], [.int 1], hX c T)) rfl ?_
        exact ev_ret rfl rfl rfl ⟨_, _, rfl, rfl, H⟩
  · replace H := H.2 ((lg_cmp_eq _ _).mp h)
    refine ev_ex 1 (c' := (9, [some (.ref 117), some (.ref a0), some (.long a1), none, none], [.int 0], hX c T)) rfl ?_
    exact ev_ret rfl rfl rfl ⟨_, _, rfl, rfl, H⟩
set_option maxRecDepth 8000 in
theorem wx_Ct_enact {c : CX} {d : Nat} {T : XS} {Q : XS → Prop} (a0 : Nat) (a1 : Int64) (H : ((¬ a1 = ((-1)) → (((one ((a1 / 100).toInt32)) = false → Q T) ∧ ((one ((a1 / 100).toInt32)) = true → ((¬ ((a1 - a1 / 100 * 100).toInt32) = 99 → (SdS T a0 ∧ XV c d m_Sd_turn [.ref a0, .int ((a1 / 100).toInt32), .int ((a1 - a1 / 100 * 100).toInt32)] T (fun T2 => Q T2))) ∧ (((a1 - a1 / 100 * 100).toInt32) = 99 → (SdS T a0 ∧ XV c d m_Sd_turn [.ref a0, .int ((a1 / 100).toInt32), .int ((-1))] T (fun T4 => Q T4))))))) ∧ (a1 = ((-1)) → XB c d m_Ct_passNight [.ref 117, .ref a0] T (fun v6 T5 => Q T5)))) : XV c (d + 1) m_Ct_enact [.ref 117, .ref a0, .long a1] T Q := by
  refine ⟨q_Ct_enact, rfl, Nat.le_of_ble_eq_true rfl, ?_⟩
  refine ev_ex 0 (c' := (0, [some (.ref 117), some (.ref a0), some (.long a1), none, none, none], [], hX c T)) rfl ?_
  refine ev_ex 3 (c' := (5, [some (.ref 117), some (.ref a0), some (.long a1), none, none, none], [.int (lg_cmp a1 ((-1)))], hX c T)) rfl ?_
  refine ev_if_ne (tgt := 15) rfl rfl (fun h => ?_) (fun h => ?_)
  · replace H := H.1 ((fun q => h ((lg_cmp_eq _ _).mpr q)))
    refine ev_ex 11 (c' := (33, [some (.ref 117), some (.ref a0), some (.long a1), none, some (.int ((a1 / 100).toInt32)), some (.int ((a1 - a1 / 100 * 100).toInt32))], [.int ((a1 / 100).toInt32)], hX c T)) rfl ?_
    refine xq_B (idx := 81) (V := one ((a1 / 100).toInt32)) (S := T) rfl rfl rfl (Nat.le_of_ble_eq_true rfl) (Nat.le_of_ble_eq_true rfl) rfl (zx_X_isOne ⟨rfl, rfl⟩) ?_
    refine ev_if_eqB (x := (one ((a1 / 100).toInt32))) (tgt := 58) rfl rfl (fun h => ?_) (fun h => ?_)
    · replace H := H.1 (h)
      exact ev_ret rfl rfl rfl ⟨_, rfl, rfl, H⟩
    · replace H := H.2 (h)
      refine ev_ex 4 (c' := (46, [some (.ref 117), some (.ref a0), some (.long a1), none, some (.int ((a1 / 100).toInt32)), some (.int ((a1 - a1 / 100 * 100).toInt32))], [.int 99, .int ((a1 - a1 / 100 * 100).toInt32), .int ((a1 / 100).toInt32), .ref a0], hX c T)) rfl ?_
      refine ev_icmp_ne (tgt := 53) rfl rfl (fun h => ?_) (fun h => ?_)
      · replace H := H.1 (h)
        refine ev_ex 1 (c' := (55, [some (.ref 117), some (.ref a0), some (.long a1), none, some (.int ((a1 / 100).toInt32)), some (.int ((a1 - a1 / 100 * 100).toInt32))], [.int ((a1 - a1 / 100 * 100).toInt32), .int ((a1 / 100).toInt32), .ref a0], hX c T)) rfl ?_
        obtain ⟨h1, H⟩ := H
        refine xc_V (idx := 58) rfl rfl rfl (Nat.le_of_ble_eq_true rfl) (Nat.le_of_ble_eq_true rfl) (x_rcv (T := T) h1.1 ⟨by decide, by decide⟩ _ _) H (fun T2 H => ?_)
        exact ev_ret rfl rfl rfl ⟨_, rfl, rfl, H⟩
      · replace H := H.2 (h)
        refine ev_ex 2 (c' := (55, [some (.ref 117), some (.ref a0), some (.long a1), none, some (.int ((a1 / 100).toInt32)), some (.int ((a1 - a1 / 100 * 100).toInt32))], [.int ((-1)), .int ((a1 / 100).toInt32), .ref a0], hX c T)) rfl ?_
        obtain ⟨h3, H⟩ := H
        refine xc_V (idx := 58) rfl rfl rfl (Nat.le_of_ble_eq_true rfl) (Nat.le_of_ble_eq_true rfl) (x_rcv (T := T) h3.1 ⟨by decide, by decide⟩ _ _) H (fun T4 H => ?_)
        exact ev_ret rfl rfl rfl ⟨_, rfl, rfl, H⟩
  · replace H := H.2 ((lg_cmp_eq _ _).mp h)
    refine ev_ex 2 (c' := (10, [some (.ref 117), some (.ref a0), some (.long a1), none, none, none], [.ref a0, .ref 117], hX c T)) rfl ?_
    refine xc_B (idx := 77) rfl rfl rfl (Nat.le_of_ble_eq_true rfl) (Nat.le_of_ble_eq_true rfl) (x_rcv (T := T) (ob_lit (i := 29) rfl (by decide) rfl) ⟨by decide, by decide⟩ _ _) H (fun v6 T5 H => ?_)
    refine ev_ex 1 (c' := (14, [some (.ref 117), some (.ref a0), some (.long a1), none, none, none], [], hX c T5)) rfl ?_
    exact ev_ret rfl rfl rfl ⟨_, rfl, rfl, H⟩
set_option maxRecDepth 8000 in
theorem wx_Ct_holds {c : CX} {d : Nat} {T : XS} {Q : Bool → XS → Prop} (a0 : Nat) (n_a0 : Nat) (a1 : Nat) (a2 : Int32) (a3 : Int32) (H : eX c (d + 1) m_Ct_holds 6 [some (.ref 117), some (.ref a0), some (.ref a1), some (.int a2), some (.int a3), some (.int 0), some (.int 0), none, none] T (yB c Q)) : XB c (d + 1) m_Ct_holds [.ref 117, .ref a0, .ref a1, .int a2, .int a3] T Q := by
  refine ⟨q_Ct_holds, rfl, Nat.le_of_ble_eq_true rfl, ?_⟩
  refine ev_ex 0 (c' := (0, [some (.ref 117), some (.ref a0), some (.ref a1), some (.int a2), some (.int a3), none, none, none, none], [], hX c T)) rfl ?_
  refine ev_ex 4 (c' := (6, [some (.ref 117), some (.ref a0), some (.ref a1), some (.int a2), some (.int a3), some (.int 0), some (.int 0), none, none], [], hX c T)) rfl ?_
  exact H
set_option maxRecDepth 8000 in
theorem wx_Ct_holds_6 {c : CX} {d : Nat} {T : XS} {Q : Bool → XS → Prop} (a0 : Nat) (n_a0 : Nat) (a1 : Nat) (l3 : Int32) (l4 : Int32) (l5 : Int32) (l6 : Int32) (H : (ar T a0 20 n_a0 ∧ (((nI n_a0) ≤ l6 → ((¬ l5 = 1 → Q false T) ∧ (l5 = 1 → (okx 0 64 ∧ (((xA T 121 (ix 0)) = 0 → Q false T) ∧ (¬ (xA T 121 (ix 0)) = 0 → Q true T)))))) ∧ (¬ (nI n_a0) ≤ l6 → (okx l6 n_a0 ∧ (((xA T a0 (ix l6)) < 1000 → eX c (d + 1) m_Ct_holds 49 [some (.ref 117), some (.ref a0), some (.ref a1), some (.int l3), some (.int l4), some (.int l5), some (.int l6), some (.int (xA T a0 (ix l6))), some (.int ((xA T a0 (ix l6)) - 1000))] T (yB c Q)) ∧ (¬ (xA T a0 (ix l6)) < 1000 → ((((xA T a0 (ix l6)) - 1000) < 17 → eX c (d + 1) m_Ct_holds 96 [some (.ref 117), some (.ref a0), some (.ref a1), some (.int l3), some (.int l4), some (.int l5), some (.int l6), some (.int (xA T a0 (ix l6))), some (.int ((xA T a0 (ix l6)) - 1000))] T (yB c Q)) ∧ (¬ ((xA T a0 (ix l6)) - 1000) < 17 → ((24 < ((xA T a0 (ix l6)) - 1000) → eX c (d + 1) m_Ct_holds 96 [some (.ref 117), some (.ref a0), some (.ref a1), some (.int l3), some (.int l4), some (.int l5), some (.int l6), some (.int (xA T a0 (ix l6))), some (.int ((xA T a0 (ix l6)) - 1000))] T (yB c Q)) ∧ (¬ 24 < ((xA T a0 (ix l6)) - 1000) → eX c (d + 1) m_Ct_holds 49 [some (.ref 117), some (.ref a0), some (.ref a1), some (.int l3), some (.int l4), some (.int l5), some (.int l6), some (.int (xA T a0 (ix l6))), some (.int ((xA T a0 (ix l6)) - 1000))] T (yB c Q)))))))))))) : eX c (d + 1) m_Ct_holds 6 [some (.ref 117), some (.ref a0), some (.ref a1), some (.int l3), some (.int l4), some (.int l5), some (.int l6), none, none] T (yB c Q) := by
  unfold eX
  refine ev_ex 0 (c' := (6, [some (.ref 117), some (.ref a0), some (.ref a1), some (.int l3), some (.int l4), some (.int l5), some (.int l6), none, none], [], hX c T)) rfl ?_
  refine ev_ex 2 (c' := (9, [some (.ref 117), some (.ref a0), some (.ref a1), some (.int l3), some (.int l4), some (.int l5), some (.int l6), none, none], [.ref a0, .int l6], hX c T)) rfl ?_
  obtain ⟨h51, H⟩ := H
  refine xe_len (kd := 20) rfl h51 (by decide) ?_
  refine ev_icmp_ge (tgt := 181) rfl rfl (fun h => ?_) (fun h => ?_)
  · replace H := H.1 (h)
    refine ev_ex 2 (c' := (184, [some (.ref 117), some (.ref a0), some (.ref a1), some (.int l3), some (.int l4), some (.int l5), some (.int l6), none, none], [.int 1, .int l5], hX c T)) rfl ?_
    refine ev_icmp_ne (tgt := 200) rfl rfl (fun h => ?_) (fun h => ?_)
    · replace H := H.1 (h)
      refine ev_ex 1 (c' := (201, [some (.ref 117), some (.ref a0), some (.ref a1), some (.int l3), some (.int l4), some (.int l5), some (.int l6), none, none], [.int 0], hX c T)) rfl ?_
      exact ev_retB (x := false) rfl rfl ⟨_, _, rfl, rfl, H⟩
    · replace H := H.2 (h)
      refine ev_ex 1 (c' := (188, [some (.ref 117), some (.ref a0), some (.ref a1), some (.int l3), some (.int l4), some (.int l5), some (.int l6), none, none], [.ref 117], hX c T)) rfl ?_
      refine xe_gf (ci := 3) (k := 0) rfl rfl (ob_lit (i := 29) rfl (by decide) rfl) ⟨by decide, by decide⟩ (v := .ref 121) rfl ?_
      refine ev_ex 1 (c' := (192, [some (.ref 117), some (.ref a0), some (.ref a1), some (.int l3), some (.int l4), some (.int l5), some (.int l6), none, none], [.int 0, .ref 121], hX c T)) rfl ?_
      obtain ⟨H0, H⟩ := H
      refine xe_al rfl (ar_lit (i := 30) rfl (by decide) rfl) H0 ?_
      refine ev_ex 0 (c' := (193, [some (.ref 117), some (.ref a0), some (.ref a1), some (.int l3), some (.int l4), some (.int l5), some (.int l6), none, none], [.int (xA T 121 (ix 0))], hX c T)) rfl ?_
      refine ev_if_eq (tgt := 200) rfl rfl (fun h => ?_) (fun h => ?_)
      · replace H := H.1 (h)
        refine ev_ex 1 (c' := (201, [some (.ref 117), some (.ref a0), some (.ref a1), some (.int l3), some (.int l4), some (.int l5), some (.int l6), none, none], [.int 0], hX c T)) rfl ?_
        exact ev_retB (x := false) rfl rfl ⟨_, _, rfl, rfl, H⟩
      · replace H := H.2 (h)
        refine ev_ex 2 (c' := (201, [some (.ref 117), some (.ref a0), some (.ref a1), some (.int l3), some (.int l4), some (.int l5), some (.int l6), none, none], [.int 1], hX c T)) rfl ?_
        exact ev_retB (x := true) rfl rfl ⟨_, _, rfl, rfl, H⟩
  · replace H := H.2 (h)
    refine ev_ex 2 (c' := (16, [some (.ref 117), some (.ref a0), some (.ref a1), some (.int l3), some (.int l4), some (.int l5), some (.int l6), none, none], [.int l6, .ref a0], hX c T)) rfl ?_
    obtain ⟨H0, H⟩ := H
    refine xe_al rfl h51 H0 ?_
    refine ev_ex 0 (c' := (17, [some (.ref 117), some (.ref a0), some (.ref a1), some (.int l3), some (.int l4), some (.int l5), some (.int l6), none, none], [.int (xA T a0 (ix l6))], hX c T)) rfl ?_
    refine ev_ex 7 (c' := (32, [some (.ref 117), some (.ref a0), some (.ref a1), some (.int l3), some (.int l4), some (.int l5), some (.int l6), some (.int (xA T a0 (ix l6))), some (.int ((xA T a0 (ix l6)) - 1000))], [.int 1000, .int (xA T a0 (ix l6))], hX c T)) rfl ?_
    refine ev_icmp_lt (tgt := 49) rfl rfl (fun h => ?_) (fun h => ?_)
    · replace H := H.1 (h)
      exact H
    · replace H := H.2 (h)
      refine ev_ex 2 (c' := (39, [some (.ref 117), some (.ref a0), some (.ref a1), some (.int l3), some (.int l4), some (.int l5), some (.int l6), some (.int (xA T a0 (ix l6))), some (.int ((xA T a0 (ix l6)) - 1000))], [.int 17, .int ((xA T a0 (ix l6)) - 1000)], hX c T)) rfl ?_
      refine ev_icmp_lt (tgt := 96) rfl rfl (fun h => ?_) (fun h => ?_)
      · replace H := H.1 (h)
        exact H
      · replace H := H.2 (h)
        refine ev_ex 2 (c' := (46, [some (.ref 117), some (.ref a0), some (.ref a1), some (.int l3), some (.int l4), some (.int l5), some (.int l6), some (.int (xA T a0 (ix l6))), some (.int ((xA T a0 (ix l6)) - 1000))], [.int 24, .int ((xA T a0 (ix l6)) - 1000)], hX c T)) rfl ?_
        refine ev_icmp_gt (tgt := 96) rfl rfl (fun h => ?_) (fun h => ?_)
        · replace H := H.1 (h)
          exact H
        · replace H := H.2 (h)
          exact H
set_option maxRecDepth 8000 in
theorem wx_Ct_holds_49 {c : CX} {d : Nat} {T : XS} {Q : Bool → XS → Prop} (a0 : Nat) (n_a0 : Nat) (a1 : Nat) (l3 : Int32) (l4 : Int32) (l5 : Int32) (l6 : Int32) (l7 : Int32) (l8 : Int32) (H : ((l5 < 64 → ((1000 ≤ l7 → XI c d m_Ct_atom [.int l8, .ref a1, .int l3, .int l4] T (fun v52 T51 => (okx l5 64 ∧ eX c (d + 1) m_Ct_holds 6 [some (.ref 117), some (.ref a0), some (.ref a1), some (.int l3), some (.int l4), some (.int (l5 + 1)), some (.int (l6 + 1)), none, none] (tA T51 121 (ix l5) v52) (yB c Q)))) ∧ (¬ 1000 ≤ l7 → (okx l5 64 ∧ eX c (d + 1) m_Ct_holds 6 [some (.ref 117), some (.ref a0), some (.ref a1), some (.int l3), some (.int l4), some (.int (l5 + 1)), some (.int (l6 + 1)), none, none] (tA T 121 (ix l5) l7) (yB c Q))))) ∧ (¬ l5 < 64 → Q false T))) : eX c (d + 1) m_Ct_holds 49 [some (.ref 117), some (.ref a0), some (.ref a1), some (.int l3), some (.int l4), some (.int l5), some (.int l6), some (.int l7), some (.int l8)] T (yB c Q) := by
  unfold eX
  refine ev_ex 0 (c' := (49, [some (.ref 117), some (.ref a0), some (.ref a1), some (.int l3), some (.int l4), some (.int l5), some (.int l6), some (.int l7), some (.int l8)], [], hX c T)) rfl ?_
  refine ev_ex 2 (c' := (52, [some (.ref 117), some (.ref a0), some (.ref a1), some (.int l3), some (.int l4), some (.int l5), some (.int l6), some (.int l7), some (.int l8)], [.ref 117, .int l5], hX c T)) rfl ?_
  refine xe_gf (ci := 3) (k := 0) rfl rfl (ob_lit (i := 29) rfl (by decide) rfl) ⟨by decide, by decide⟩ (v := .ref 121) rfl ?_
  refine xe_len (kd := 20) rfl (ar_lit (i := 30) rfl (by decide) rfl) (by decide) ?_
  refine ev_ex 0 (c' := (56, [some (.ref 117), some (.ref a0), some (.ref a1), some (.int l3), some (.int l4), some (.int l5), some (.int l6), some (.int l7), some (.int l8)], [.int 64, .int l5], hX c T)) rfl ?_
  refine ev_icmp_lt (tgt := 61) rfl rfl (fun h => ?_) (fun h => ?_)
  · replace H := H.1 (h)
    refine ev_ex 1 (c' := (62, [some (.ref 117), some (.ref a0), some (.ref a1), some (.int l3), some (.int l4), some (.int l5), some (.int l6), some (.int l7), some (.int l8)], [.ref 117], hX c T)) rfl ?_
    refine xe_gf (ci := 3) (k := 0) rfl rfl (ob_lit (i := 29) rfl (by decide) rfl) ⟨by decide, by decide⟩ (v := .ref 121) rfl ?_
    refine ev_ex 3 (c' := (72, [some (.ref 117), some (.ref a0), some (.ref a1), some (.int l3), some (.int l4), some (.int l5), some (.int l6), some (.int l7), some (.int l8)], [.int 1000, .int l7, .int l5, .ref 121], hX c T)) rfl ?_
    refine ev_icmp_ge (tgt := 80) rfl rfl (fun h => ?_) (fun h => ?_)
    · replace H := H.1 (h)
      refine ev_ex 4 (c' := (86, [some (.ref 117), some (.ref a0), some (.ref a1), some (.int l3), some (.int l4), some (.int l5), some (.int l6), some (.int l7), some (.int l8)], [.int l4, .int l3, .ref a1, .int l8, .int l5, .ref 121], hX c T)) rfl ?_
      refine xc_I (idx := 85) rfl rfl rfl (Nat.le_of_ble_eq_true rfl) (Nat.le_of_ble_eq_true rfl) rfl H (fun v52 T51 H => ?_)
      obtain ⟨H0, H⟩ := H
      refine xe_as rfl (ar_lit (i := 30) rfl (by decide) rfl) H0 ?_
      refine ev_ex 4 (c' := (6, [some (.ref 117), some (.ref a0), some (.ref a1), some (.int l3), some (.int l4), some (.int (l5 + 1)), some (.int (l6 + 1)), some (.int l7), some (.int l8)], [], hX c (tA T51 121 (ix l5) v52))) rfl ?_
      exact ev_less (lle_of (L := [some (.ref 117), some (.ref a0), some (.ref a1), some (.int l3), some (.int l4), some (.int (l5 + 1)), some (.int (l6 + 1)), none, none]) ⟨rfl, ⟨rfl, ⟨rfl, ⟨rfl, ⟨rfl, ⟨rfl, ⟨rfl, trivial⟩⟩⟩⟩⟩⟩⟩) H
    · replace H := H.2 (h)
      refine ev_ex 2 (c' := (89, [some (.ref 117), some (.ref a0), some (.ref a1), some (.int l3), some (.int l4), some (.int l5), some (.int l6), some (.int l7), some (.int l8)], [.int l7, .int l5, .ref 121], hX c T)) rfl ?_
      obtain ⟨H0, H⟩ := H
      refine xe_as rfl (ar_lit (i := 30) rfl (by decide) rfl) H0 ?_
      refine ev_ex 4 (c' := (6, [some (.ref 117), some (.ref a0), some (.ref a1), some (.int l3), some (.int l4), some (.int (l5 + 1)), some (.int (l6 + 1)), some (.int l7), some (.int l8)], [], hX c (tA T 121 (ix l5) l7))) rfl ?_
      exact ev_less (lle_of (L := [some (.ref 117), some (.ref a0), some (.ref a1), some (.int l3), some (.int l4), some (.int (l5 + 1)), some (.int (l6 + 1)), none, none]) ⟨rfl, ⟨rfl, ⟨rfl, ⟨rfl, ⟨rfl, ⟨rfl, ⟨rfl, trivial⟩⟩⟩⟩⟩⟩⟩) H
  · replace H := H.2 (h)
    refine ev_ex 1 (c' := (60, [some (.ref 117), some (.ref a0), some (.ref a1), some (.int l3), some (.int l4), some (.int l5), some (.int l6), some (.int l7), some (.int l8)], [.int 0], hX c T)) rfl ?_
    exact ev_retB (x := false) rfl rfl ⟨_, _, rfl, rfl, H⟩
set_option maxRecDepth 8000 in
theorem wx_Ct_holds_96 {c : CX} {d : Nat} {T : XS} {Q : Bool → XS → Prop} (a0 : Nat) (n_a0 : Nat) (a1 : Nat) (l3 : Int32) (l4 : Int32) (l5 : Int32) (l6 : Int32) (l7 : Int32) (l8 : Int32) (H : ((¬ l8 = 16 → ((2 ≤ l5 → (okx ((l5 + (-1)) - 1) 64 ∧ (okx (l5 + (-1)) 64 ∧ XI c d m_Ct_joined [.int l8, .int (xA T 121 (ix ((l5 + (-1)) - 1))), .int (xA T 121 (ix (l5 + (-1))))] T (fun v52 T51 => (okx ((l5 + (-1)) - 1) 64 ∧ eX c (d + 1) m_Ct_holds 6 [some (.ref 117), some (.ref a0), some (.ref a1), some (.int l3), some (.int l4), some (.int (l5 + (-1))), some (.int (l6 + 1)), none, none] (tA T51 121 (ix ((l5 + (-1)) - 1)) v52) (yB c Q)))))) ∧ (¬ 2 ≤ l5 → Q false T))) ∧ (l8 = 16 → ((1 ≤ l5 → (okx (l5 - 1) 64 ∧ (okx (l5 - 1) 64 ∧ eX c (d + 1) m_Ct_holds 6 [some (.ref 117), some (.ref a0), some (.ref a1), some (.int l3), some (.int l4), some (.int l5), some (.int (l6 + 1)), none, none] (tA T 121 (ix (l5 - 1)) (1 - (xA T 121 (ix (l5 - 1))))) (yB c Q)))) ∧ (¬ 1 ≤ l5 → Q false T))))) : eX c (d + 1) m_Ct_holds 96 [some (.ref 117), some (.ref a0), some (.ref a1), some (.int l3), some (.int l4), some (.int l5), some (.int l6), some (.int l7), some (.int l8)] T (yB c Q) := by
  unfold eX
  refine ev_ex 0 (c' := (96, [some (.ref 117), some (.ref a0), some (.ref a1), some (.int l3), some (.int l4), some (.int l5), some (.int l6), some (.int l7), some (.int l8)], [], hX c T)) rfl ?_
  refine ev_ex 2 (c' := (100, [some (.ref 117), some (.ref a0), some (.ref a1), some (.int l3), some (.int l4), some (.int l5), some (.int l6), some (.int l7), some (.int l8)], [.int 16, .int l8], hX c T)) rfl ?_
  refine ev_icmp_ne (tgt := 134) rfl rfl (fun h => ?_) (fun h => ?_)
  · replace H := H.1 (h)
    refine ev_ex 2 (c' := (137, [some (.ref 117), some (.ref a0), some (.ref a1), some (.int l3), some (.int l4), some (.int l5), some (.int l6), some (.int l7), some (.int l8)], [.int 2, .int l5], hX c T)) rfl ?_
    refine ev_icmp_ge (tgt := 142) rfl rfl (fun h => ?_) (fun h => ?_)
    · replace H := H.1 (h)
      refine ev_ex 2 (c' := (146, [some (.ref 117), some (.ref a0), some (.ref a1), some (.int l3), some (.int l4), some (.int (l5 + (-1))), some (.int l6), some (.int l7), some (.int l8)], [.ref 117], hX c T)) rfl ?_
      refine xe_gf (ci := 3) (k := 0) rfl rfl (ob_lit (i := 29) rfl (by decide) rfl) ⟨by decide, by decide⟩ (v := .ref 121) rfl ?_
      refine ev_ex 5 (c' := (156, [some (.ref 117), some (.ref a0), some (.ref a1), some (.int l3), some (.int l4), some (.int (l5 + (-1))), some (.int l6), some (.int l7), some (.int l8)], [.ref 117, .int l8, .int ((l5 + (-1)) - 1), .ref 121], hX c T)) rfl ?_
      refine xe_gf (ci := 3) (k := 0) rfl rfl (ob_lit (i := 29) rfl (by decide) rfl) ⟨by decide, by decide⟩ (v := .ref 121) rfl ?_
      refine ev_ex 3 (c' := (163, [some (.ref 117), some (.ref a0), some (.ref a1), some (.int l3), some (.int l4), some (.int (l5 + (-1))), some (.int l6), some (.int l7), some (.int l8)], [.int ((l5 + (-1)) - 1), .ref 121, .int l8, .int ((l5 + (-1)) - 1), .ref 121], hX c T)) rfl ?_
      obtain ⟨H0, H⟩ := H
      refine xe_al rfl (ar_lit (i := 30) rfl (by decide) rfl) H0 ?_
      refine ev_ex 0 (c' := (164, [some (.ref 117), some (.ref a0), some (.ref a1), some (.int l3), some (.int l4), some (.int (l5 + (-1))), some (.int l6), some (.int l7), some (.int l8)], [.int (xA T 121 (ix ((l5 + (-1)) - 1))), .int l8, .int ((l5 + (-1)) - 1), .ref 121], hX c T)) rfl ?_
      refine ev_ex 1 (c' := (165, [some (.ref 117), some (.ref a0), some (.ref a1), some (.int l3), some (.int l4), some (.int (l5 + (-1))), some (.int l6), some (.int l7), some (.int l8)], [.ref 117, .int (xA T 121 (ix ((l5 + (-1)) - 1))), .int l8, .int ((l5 + (-1)) - 1), .ref 121], hX c T)) rfl ?_
      refine xe_gf (ci := 3) (k := 0) rfl rfl (ob_lit (i := 29) rfl (by decide) rfl) ⟨by decide, by decide⟩ (v := .ref 121) rfl ?_
      refine ev_ex 1 (c' := (170, [some (.ref 117), some (.ref a0), some (.ref a1), some (.int l3), some (.int l4), some (.int (l5 + (-1))), some (.int l6), some (.int l7), some (.int l8)], [.int (l5 + (-1)), .ref 121, .int (xA T 121 (ix ((l5 + (-1)) - 1))), .int l8, .int ((l5 + (-1)) - 1), .ref 121], hX c T)) rfl ?_
      obtain ⟨H0, H⟩ := H
      refine xe_al rfl (ar_lit (i := 30) rfl (by decide) rfl) H0 ?_
      refine ev_ex 0 (c' := (171, [some (.ref 117), some (.ref a0), some (.ref a1), some (.int l3), some (.int l4), some (.int (l5 + (-1))), some (.int l6), some (.int l7), some (.int l8)], [.int (xA T 121 (ix (l5 + (-1)))), .int (xA T 121 (ix ((l5 + (-1)) - 1))), .int l8, .int ((l5 + (-1)) - 1), .ref 121], hX c T)) rfl ?_
      refine xc_I (idx := 89) rfl rfl rfl (Nat.le_of_ble_eq_true rfl) (Nat.le_of_ble_eq_true rfl) rfl H (fun v52 T51 H => ?_)
      obtain ⟨H0, H⟩ := H
      refine xe_as rfl (ar_lit (i := 30) rfl (by decide) rfl) H0 ?_
      refine ev_ex 2 (c' := (6, [some (.ref 117), some (.ref a0), some (.ref a1), some (.int l3), some (.int l4), some (.int (l5 + (-1))), some (.int (l6 + 1)), some (.int l7), some (.int l8)], [], hX c (tA T51 121 (ix ((l5 + (-1)) - 1)) v52))) rfl ?_
      exact ev_less (lle_of (L := [some (.ref 117), some (.ref a0), some (.ref a1), some (.int l3), some (.int l4), some (.int (l5 + (-1))), some (.int (l6 + 1)), none, none]) ⟨rfl, ⟨rfl, ⟨rfl, ⟨rfl, ⟨rfl, ⟨rfl, ⟨rfl, trivial⟩⟩⟩⟩⟩⟩⟩) H
    · replace H := H.2 (h)
      refine ev_ex 1 (c' := (141, [some (.ref 117), some (.ref a0), some (.ref a1), some (.int l3), some (.int l4), some (.int l5), some (.int l6), some (.int l7), some (.int l8)], [.int 0], hX c T)) rfl ?_
      exact ev_retB (x := false) rfl rfl ⟨_, _, rfl, rfl, H⟩
  · replace H := H.2 (h)
    refine ev_ex 2 (c' := (106, [some (.ref 117), some (.ref a0), some (.ref a1), some (.int l3), some (.int l4), some (.int l5), some (.int l6), some (.int l7), some (.int l8)], [.int 1, .int l5], hX c T)) rfl ?_
    refine ev_icmp_ge (tgt := 111) rfl rfl (fun h => ?_) (fun h => ?_)
    · replace H := H.1 (h)
      refine ev_ex 1 (c' := (112, [some (.ref 117), some (.ref a0), some (.ref a1), some (.int l3), some (.int l4), some (.int l5), some (.int l6), some (.int l7), some (.int l8)], [.ref 117], hX c T)) rfl ?_
      refine xe_gf (ci := 3) (k := 0) rfl rfl (ob_lit (i := 29) rfl (by decide) rfl) ⟨by decide, by decide⟩ (v := .ref 121) rfl ?_
      refine ev_ex 5 (c' := (121, [some (.ref 117), some (.ref a0), some (.ref a1), some (.int l3), some (.int l4), some (.int l5), some (.int l6), some (.int l7), some (.int l8)], [.ref 117, .int 1, .int (l5 - 1), .ref 121], hX c T)) rfl ?_
      refine xe_gf (ci := 3) (k := 0) rfl rfl (ob_lit (i := 29) rfl (by decide) rfl) ⟨by decide, by decide⟩ (v := .ref 121) rfl ?_
      refine ev_ex 3 (c' := (128, [some (.ref 117), some (.ref a0), some (.ref a1), some (.int l3), some (.int l4), some (.int l5), some (.int l6), some (.int l7), some (.int l8)], [.int (l5 - 1), .ref 121, .int 1, .int (l5 - 1), .ref 121], hX c T)) rfl ?_
      obtain ⟨H0, H⟩ := H
      refine xe_al rfl (ar_lit (i := 30) rfl (by decide) rfl) H0 ?_
      refine ev_ex 0 (c' := (129, [some (.ref 117), some (.ref a0), some (.ref a1), some (.int l3), some (.int l4), some (.int l5), some (.int l6), some (.int l7), some (.int l8)], [.int (xA T 121 (ix (l5 - 1))), .int 1, .int (l5 - 1), .ref 121], hX c T)) rfl ?_
      refine ev_ex 1 (c' := (130, [some (.ref 117), some (.ref a0), some (.ref a1), some (.int l3), some (.int l4), some (.int l5), some (.int l6), some (.int l7), some (.int l8)], [.int (1 - (xA T 121 (ix (l5 - 1)))), .int (l5 - 1), .ref 121], hX c T)) rfl ?_
      obtain ⟨H0, H⟩ := H
      refine xe_as rfl (ar_lit (i := 30) rfl (by decide) rfl) H0 ?_
      refine ev_ex 3 (c' := (6, [some (.ref 117), some (.ref a0), some (.ref a1), some (.int l3), some (.int l4), some (.int l5), some (.int (l6 + 1)), some (.int l7), some (.int l8)], [], hX c (tA T 121 (ix (l5 - 1)) (1 - (xA T 121 (ix (l5 - 1))))))) rfl ?_
      exact ev_less (lle_of (L := [some (.ref 117), some (.ref a0), some (.ref a1), some (.int l3), some (.int l4), some (.int l5), some (.int (l6 + 1)), none, none]) ⟨rfl, ⟨rfl, ⟨rfl, ⟨rfl, ⟨rfl, ⟨rfl, ⟨rfl, trivial⟩⟩⟩⟩⟩⟩⟩) H
    · replace H := H.2 (h)
      refine ev_ex 1 (c' := (110, [some (.ref 117), some (.ref a0), some (.ref a1), some (.int l3), some (.int l4), some (.int l5), some (.int l6), some (.int l7), some (.int l8)], [.int 0], hX c T)) rfl ?_
      exact ev_retB (x := false) rfl rfl ⟨_, _, rfl, rfl, H⟩
set_option maxRecDepth 8000 in
theorem wx_Ct_atom {c : CX} {d : Nat} {T : XS} {Q : Int32 → XS → Prop} (a0 : Int32) (a1 : Nat) (a2 : Int32) (a3 : Int32) (H : ((a0 = 17 → (SdS T a1 ∧ (okx a2 10 ∧ Q (xA T (sR a1) (ix a2)) T))) ∧ (a0 = 18 → (SdS T a1 ∧ (okx a3 10 ∧ Q (xA T (sR a1) (ix a3)) T))) ∧ (a0 = 19 → (SdS T a1 ∧ (∃ b4 : Nat, frx T a1 0 = some b4 ∧ (CvS T b4 ∧ (okx a2 10 ∧ Q (xA T (b4 + 12) (ix a2)) T))))) ∧ (a0 = 20 → (SdS T a1 ∧ (∃ b8 : Nat, frx T a1 0 = some b8 ∧ (CvS T b8 ∧ (okx a3 10 ∧ Q (xA T (b8 + 12) (ix a3)) T))))) ∧ (a0 = 21 → (SdS T a1 ∧ (okx a2 10 ∧ Q (bcI (xA T (sM a1) (ix a2))) T))) ∧ (a0 = 22 → (SdS T a1 ∧ (okx a3 10 ∧ Q (bcI (xA T (sM a1) (ix a3))) T))) ∧ (a0 = 23 → (SdS T a1 ∧ (okx a3 10 ∧ ((¬ (xA T (sW a1) (ix a3)) = a2 → Q 0 T) ∧ ((xA T (sW a1) (ix a3)) = a2 → Q 1 T))))) ∧ (¬ a0 = 17 ∧ ¬ a0 = 18 ∧ ¬ a0 = 19 ∧ ¬ a0 = 20 ∧ ¬ a0 = 21 ∧ ¬ a0 = 22 ∧ ¬ a0 = 23 → (SdS T a1 ∧ Q ((xI T a1 4) - (xI T a1 4) / 1000 * 1000) T)))) : XI c (d + 1) m_Ct_atom [.int a0, .ref a1, .int a2, .int a3] T Q := by
  refine ⟨q_Ct_atom, rfl, Nat.le_of_ble_eq_true rfl, ?_⟩
  refine ev_ex 0 (c' := (0, [some (.int a0), some (.ref a1), some (.int a2), some (.int a3)], [], hX c T)) rfl ?_
  refine ev_ex 1 (c' := (1, [some (.int a0), some (.ref a1), some (.int a2), some (.int a3)], [.int a0], hX c T)) rfl ?_
  by_cases h0 : a0 = 17
  · refine ev_sw h0 (tgt := 44) rfl rfl ?_
    replace H := H.1 h0
    refine ev_ex 1 (c' := (45, [some (.int a0), some (.ref a1), some (.int a2), some (.int a3)], [.ref a1], hX c T)) rfl ?_
    obtain ⟨h1, H⟩ := H
    refine xe_gfr (ci := 9) (k := 3) rfl rfl h1.1 ⟨by decide, by decide⟩ rfl h1.fr ?_
    refine ev_ex 1 (c' := (49, [some (.int a0), some (.ref a1), some (.int a2), some (.int a3)], [.int a2, .ref (sR a1)], hX c T)) rfl ?_
    obtain ⟨H0, H⟩ := H
    refine xe_al rfl h1.ak H0 ?_
    refine ev_ex 0 (c' := (50, [some (.int a0), some (.ref a1), some (.int a2), some (.int a3)], [.int (xA T (sR a1) (ix a2))], hX c T)) rfl ?_
    exact ev_ret rfl rfl rfl ⟨_, _, rfl, rfl, H⟩
  by_cases h1 : a0 = 18
  · refine ev_sw h1 (tgt := 51) rfl rfl ?_
    replace H := H.2.1 h1
    refine ev_ex 1 (c' := (52, [some (.int a0), some (.ref a1), some (.int a2), some (.int a3)], [.ref a1], hX c T)) rfl ?_
    obtain ⟨h2, H⟩ := H
    refine xe_gfr (ci := 9) (k := 3) rfl rfl h2.1 ⟨by decide, by decide⟩ rfl h2.fr ?_
    refine ev_ex 1 (c' := (56, [some (.int a0), some (.ref a1), some (.int a2), some (.int a3)], [.int a3, .ref (sR a1)], hX c T)) rfl ?_
    obtain ⟨H0, H⟩ := H
    refine xe_al rfl h2.ak H0 ?_
    refine ev_ex 0 (c' := (57, [some (.int a0), some (.ref a1), some (.int a2), some (.int a3)], [.int (xA T (sR a1) (ix a3))], hX c T)) rfl ?_
    exact ev_ret rfl rfl rfl ⟨_, _, rfl, rfl, H⟩
  by_cases h2 : a0 = 19
  · refine ev_sw h2 (tgt := 58) rfl rfl ?_
    replace H := H.2.2.1 h2
    refine ev_ex 1 (c' := (59, [some (.int a0), some (.ref a1), some (.int a2), some (.int a3)], [.ref a1], hX c T)) rfl ?_
    obtain ⟨h3, H⟩ := H
    obtain ⟨b4, h5, H⟩ := H
    refine xe_gfr (ci := 9) (k := 0) rfl rfl h3.1 ⟨by decide, by decide⟩ rfl h5 ?_
    obtain ⟨h6, H⟩ := H
    refine xe_gfr (ci := 2) (k := 10) rfl rfl h6.1 ⟨by decide, by decide⟩ rfl h6.f10 ?_
    refine ev_ex 1 (c' := (66, [some (.int a0), some (.ref a1), some (.int a2), some (.int a3)], [.int a2, .ref (b4 + 12)], hX c T)) rfl ?_
    obtain ⟨H0, H⟩ := H
    refine xe_al rfl h6.a10 H0 ?_
    refine ev_ex 0 (c' := (67, [some (.int a0), some (.ref a1), some (.int a2), some (.int a3)], [.int (xA T (b4 + 12) (ix a2))], hX c T)) rfl ?_
    exact ev_ret rfl rfl rfl ⟨_, _, rfl, rfl, H⟩
  by_cases h3 : a0 = 20
  · refine ev_sw h3 (tgt := 68) rfl rfl ?_
    replace H := H.2.2.2.1 h3
    refine ev_ex 1 (c' := (69, [some (.int a0), some (.ref a1), some (.int a2), some (.int a3)], [.ref a1], hX c T)) rfl ?_
    obtain ⟨h7, H⟩ := H
    obtain ⟨b8, h9, H⟩ := H
    refine xe_gfr (ci := 9) (k := 0) rfl rfl h7.1 ⟨by decide, by decide⟩ rfl h9 ?_
    obtain ⟨h10, H⟩ := H
    refine xe_gfr (ci := 2) (k := 10) rfl rfl h10.1 ⟨by decide, by decide⟩ rfl h10.f10 ?_
    refine ev_ex 1 (c' := (76, [some (.int a0), some (.ref a1), some (.int a2), some (.int a3)], [.int a3, .ref (b8 + 12)], hX c T)) rfl ?_
    obtain ⟨H0, H⟩ := H
    refine xe_al rfl h10.a10 H0 ?_
    refine ev_ex 0 (c' := (77, [some (.int a0), some (.ref a1), some (.int a2), some (.int a3)], [.int (xA T (b8 + 12) (ix a3))], hX c T)) rfl ?_
    exact ev_ret rfl rfl rfl ⟨_, _, rfl, rfl, H⟩
  by_cases h4 : a0 = 21
  · refine ev_sw h4 (tgt := 78) rfl rfl ?_
    replace H := H.2.2.2.2.1 h4
    refine ev_ex 1 (c' := (79, [some (.int a0), some (.ref a1), some (.int a2), some (.int a3)], [.ref a1], hX c T)) rfl ?_
    obtain ⟨h11, H⟩ := H
    refine xe_gfr (ci := 9) (k := 2) rfl rfl h11.1 ⟨by decide, by decide⟩ rfl h11.fm ?_
    refine ev_ex 1 (c' := (83, [some (.int a0), some (.ref a1), some (.int a2), some (.int a3)], [.int a2, .ref (sM a1)], hX c T)) rfl ?_
    obtain ⟨H0, H⟩ := H
    refine xe_al rfl h11.am H0 ?_
    refine ev_ex 0 (c' := (84, [some (.int a0), some (.ref a1), some (.int a2), some (.int a3)], [.int (xA T (sM a1) (ix a2))], hX c T)) rfl ?_
    refine xq_I (idx := 99) (V := bcI (xA T (sM a1) (ix a2))) (S := T) rfl rfl rfl (Nat.le_of_ble_eq_true rfl) (Nat.le_of_ble_eq_true rfl) rfl (zx_JI_bitCount ⟨rfl, rfl⟩) ?_
    exact ev_ret rfl rfl rfl ⟨_, _, rfl, rfl, H⟩
  by_cases h5 : a0 = 22
  · refine ev_sw h5 (tgt := 88) rfl rfl ?_
    replace H := H.2.2.2.2.2.1 h5
    refine ev_ex 1 (c' := (89, [some (.int a0), some (.ref a1), some (.int a2), some (.int a3)], [.ref a1], hX c T)) rfl ?_
    obtain ⟨h12, H⟩ := H
    refine xe_gfr (ci := 9) (k := 2) rfl rfl h12.1 ⟨by decide, by decide⟩ rfl h12.fm ?_
    refine ev_ex 1 (c' := (93, [some (.int a0), some (.ref a1), some (.int a2), some (.int a3)], [.int a3, .ref (sM a1)], hX c T)) rfl ?_
    obtain ⟨H0, H⟩ := H
    refine xe_al rfl h12.am H0 ?_
    refine ev_ex 0 (c' := (94, [some (.int a0), some (.ref a1), some (.int a2), some (.int a3)], [.int (xA T (sM a1) (ix a3))], hX c T)) rfl ?_
    refine xq_I (idx := 99) (V := bcI (xA T (sM a1) (ix a3))) (S := T) rfl rfl rfl (Nat.le_of_ble_eq_true rfl) (Nat.le_of_ble_eq_true rfl) rfl (zx_JI_bitCount ⟨rfl, rfl⟩) ?_
    exact ev_ret rfl rfl rfl ⟨_, _, rfl, rfl, H⟩
  by_cases h6 : a0 = 23
  · refine ev_sw h6 (tgt := 98) rfl rfl ?_
    replace H := H.2.2.2.2.2.2.1 h6
    refine ev_ex 1 (c' := (99, [some (.int a0), some (.ref a1), some (.int a2), some (.int a3)], [.ref a1], hX c T)) rfl ?_
    obtain ⟨h13, H⟩ := H
    refine xe_gfr (ci := 9) (k := 1) rfl rfl h13.1 ⟨by decide, by decide⟩ rfl h13.fw ?_
    refine ev_ex 1 (c' := (103, [some (.int a0), some (.ref a1), some (.int a2), some (.int a3)], [.int a3, .ref (sW a1)], hX c T)) rfl ?_
    obtain ⟨H0, H⟩ := H
    refine xe_al rfl h13.aw H0 ?_
    refine ev_ex 0 (c' := (104, [some (.int a0), some (.ref a1), some (.int a2), some (.int a3)], [.int (xA T (sW a1) (ix a3))], hX c T)) rfl ?_
    refine ev_ex 1 (c' := (105, [some (.int a0), some (.ref a1), some (.int a2), some (.int a3)], [.int a2, .int (xA T (sW a1) (ix a3))], hX c T)) rfl ?_
    refine ev_icmp_ne (tgt := 112) rfl rfl (fun h => ?_) (fun h => ?_)
    · replace H := H.1 (h)
      refine ev_ex 1 (c' := (113, [some (.int a0), some (.ref a1), some (.int a2), some (.int a3)], [.int 0], hX c T)) rfl ?_
      exact ev_ret rfl rfl rfl ⟨_, _, rfl, rfl, H⟩
    · replace H := H.2 (h)
      refine ev_ex 2 (c' := (113, [some (.int a0), some (.ref a1), some (.int a2), some (.int a3)], [.int 1], hX c T)) rfl ?_
      exact ev_ret rfl rfl rfl ⟨_, _, rfl, rfl, H⟩
  replace H := H.2.2.2.2.2.2.2 ⟨h0, h1, h2, h3, h4, h5, h6⟩
  refine ev_tswd (tgt := 114) rfl (by have e0 := i32_ne h0 (z := 17) rfl; have e1 := i32_ne h1 (z := 18) rfl; have e2 := i32_ne h2 (z := 19) rfl; have e3 := i32_ne h3 (z := 20) rfl; have e4 := i32_ne h4 (z := 21) rfl; have e5 := i32_ne h5 (z := 22) rfl; have e6 := i32_ne h6 (z := 23) rfl; omega) rfl ?_
  refine ev_ex 1 (c' := (115, [some (.int a0), some (.ref a1), some (.int a2), some (.int a3)], [.ref a1], hX c T)) rfl ?_
  obtain ⟨h14, H⟩ := H
  refine xe_gf (ci := 9) (k := 4) rfl rfl h14.1 ⟨by decide, by decide⟩ (v := .int (xI T a1 4)) rfl ?_
  refine ev_ex 1 (c' := (121, [some (.int a0), some (.ref a1), some (.int a2), some (.int a3)], [.int 1000, .int (xI T a1 4)], hX c T)) rfl ?_
  refine ev_ex 1 (c' := (122, [some (.int a0), some (.ref a1), some (.int a2), some (.int a3)], [.int ((xI T a1 4) - (xI T a1 4) / 1000 * 1000)], hX c T)) rfl ?_
  exact ev_ret rfl rfl rfl ⟨_, _, rfl, rfl, H⟩
set_option maxRecDepth 8000 in
theorem wx_Ct_joined {c : CX} {d : Nat} {T : XS} {Q : Int32 → XS → Prop} (a0 : Int32) (a1 : Int32) (a2 : Int32) (H : ((a0 = 15 → Q (a1 &&& a2) T) ∧ (a0 = 26 → (((a1.toInt64 + a2.toInt64) ≤ 1000000 → ((((-1000000)) ≤ (a1.toInt64 + a2.toInt64) → Q ((a1.toInt64 + a2.toInt64).toInt32) T) ∧ (¬ ((-1000000)) ≤ (a1.toInt64 + a2.toInt64) → Q ((-1000000)) T))) ∧ (¬ (a1.toInt64 + a2.toInt64) ≤ 1000000 → Q 1000000 T))) ∧ (a0 = 27 → (((a1.toInt64 - a2.toInt64) ≤ 1000000 → ((((-1000000)) ≤ (a1.toInt64 - a2.toInt64) → Q ((a1.toInt64 - a2.toInt64).toInt32) T) ∧ (¬ ((-1000000)) ≤ (a1.toInt64 - a2.toInt64) → Q ((-1000000)) T))) ∧ (¬ (a1.toInt64 - a2.toInt64) ≤ 1000000 → Q 1000000 T))) ∧ (a0 = 28 → (((a1.toInt64 * a2.toInt64) ≤ 1000000 → ((((-1000000)) ≤ (a1.toInt64 * a2.toInt64) → Q ((a1.toInt64 * a2.toInt64).toInt32) T) ∧ (¬ ((-1000000)) ≤ (a1.toInt64 * a2.toInt64) → Q ((-1000000)) T))) ∧ (¬ (a1.toInt64 * a2.toInt64) ≤ 1000000 → Q 1000000 T))) ∧ (a0 = 33 → ((¬ a1 = a2 → Q 0 T) ∧ (a1 = a2 → Q 1 T))) ∧ (a0 = 34 → ((a2 ≤ a1 → Q 0 T) ∧ (¬ a2 ≤ a1 → Q 1 T))) ∧ (a0 = 35 → ((a1 ≤ a2 → Q 0 T) ∧ (¬ a1 ≤ a2 → Q 1 T))) ∧ (¬ a0 = 15 ∧ ¬ a0 = 26 ∧ ¬ a0 = 27 ∧ ¬ a0 = 28 ∧ ¬ a0 = 33 ∧ ¬ a0 = 34 ∧ ¬ a0 = 35 → Q (a1 ||| a2) T))) : XI c (d) m_Ct_joined [.int a0, .int a1, .int a2] T Q := by
  refine ⟨q_Ct_joined, rfl, Nat.le_of_ble_eq_true rfl, ?_⟩
  refine ev_ex 0 (c' := (0, [some (.int a0), some (.int a1), some (.int a2), none, none], [], hX c T)) rfl ?_
  refine ev_ex 1 (c' := (1, [some (.int a0), some (.int a1), some (.int a2), none, none], [.int a0], hX c T)) rfl ?_
  by_cases h0 : a0 = 15
  · refine ev_sw h0 (tgt := 160) rfl rfl ?_
    replace H := H.1 h0
    refine ev_ex 3 (c' := (163, [some (.int a0), some (.int a1), some (.int a2), none, none], [.int (a1 &&& a2)], hX c T)) rfl ?_
    exact ev_ret rfl rfl rfl ⟨_, _, rfl, rfl, H⟩
  by_cases h1 : a0 = 26
  · refine ev_sw h1 (tgt := 100) rfl rfl ?_
    replace H := H.2.1 h1
    refine ev_ex 10 (c' := (173, [some (.int a0), some (.int a1), some (.int a2), some (.long (a1.toInt64 + a2.toInt64)), none], [.int (lg_cmp (a1.toInt64 + a2.toInt64) 1000000)], hX c T)) rfl ?_
    refine ev_if_le (tgt := 179) rfl rfl (fun h => ?_) (fun h => ?_)
    · replace H := H.1 ((lg_cmp_le _ _).mp h)
      refine ev_ex 3 (c' := (184, [some (.int a0), some (.int a1), some (.int a2), some (.long (a1.toInt64 + a2.toInt64)), none], [.int (lg_cmp (a1.toInt64 + a2.toInt64) ((-1000000)))], hX c T)) rfl ?_
      refine ev_if_ge (tgt := 192) rfl rfl (fun h => ?_) (fun h => ?_)
      · replace H := H.1 ((lg_cmp_ge _ _).mp h)
        refine ev_ex 2 (c' := (194, [some (.int a0), some (.int a1), some (.int a2), some (.long (a1.toInt64 + a2.toInt64)), none], [.int ((a1.toInt64 + a2.toInt64).toInt32)], hX c T)) rfl ?_
        exact ev_ret rfl rfl rfl ⟨_, _, rfl, rfl, H⟩
      · replace H := H.2 ((fun q => h ((lg_cmp_ge _ _).mpr q)))
        refine ev_ex 2 (c' := (194, [some (.int a0), some (.int a1), some (.int a2), some (.long (a1.toInt64 + a2.toInt64)), none], [.int ((-1000000))], hX c T)) rfl ?_
        exact ev_ret rfl rfl rfl ⟨_, _, rfl, rfl, H⟩
    · replace H := H.2 ((fun q => h ((lg_cmp_le _ _).mpr q)))
      refine ev_ex 1 (c' := (178, [some (.int a0), some (.int a1), some (.int a2), some (.long (a1.toInt64 + a2.toInt64)), none], [.int 1000000], hX c T)) rfl ?_
      exact ev_ret rfl rfl rfl ⟨_, _, rfl, rfl, H⟩
  by_cases h2 : a0 = 27
  · refine ev_sw h2 (tgt := 109) rfl rfl ?_
    replace H := H.2.2.1 h2
    refine ev_ex 10 (c' := (173, [some (.int a0), some (.int a1), some (.int a2), some (.long (a1.toInt64 - a2.toInt64)), none], [.int (lg_cmp (a1.toInt64 - a2.toInt64) 1000000)], hX c T)) rfl ?_
    refine ev_if_le (tgt := 179) rfl rfl (fun h => ?_) (fun h => ?_)
    · replace H := H.1 ((lg_cmp_le _ _).mp h)
      refine ev_ex 3 (c' := (184, [some (.int a0), some (.int a1), some (.int a2), some (.long (a1.toInt64 - a2.toInt64)), none], [.int (lg_cmp (a1.toInt64 - a2.toInt64) ((-1000000)))], hX c T)) rfl ?_
      refine ev_if_ge (tgt := 192) rfl rfl (fun h => ?_) (fun h => ?_)
      · replace H := H.1 ((lg_cmp_ge _ _).mp h)
        refine ev_ex 2 (c' := (194, [some (.int a0), some (.int a1), some (.int a2), some (.long (a1.toInt64 - a2.toInt64)), none], [.int ((a1.toInt64 - a2.toInt64).toInt32)], hX c T)) rfl ?_
        exact ev_ret rfl rfl rfl ⟨_, _, rfl, rfl, H⟩
      · replace H := H.2 ((fun q => h ((lg_cmp_ge _ _).mpr q)))
        refine ev_ex 2 (c' := (194, [some (.int a0), some (.int a1), some (.int a2), some (.long (a1.toInt64 - a2.toInt64)), none], [.int ((-1000000))], hX c T)) rfl ?_
        exact ev_ret rfl rfl rfl ⟨_, _, rfl, rfl, H⟩
    · replace H := H.2 ((fun q => h ((lg_cmp_le _ _).mpr q)))
      refine ev_ex 1 (c' := (178, [some (.int a0), some (.int a1), some (.int a2), some (.long (a1.toInt64 - a2.toInt64)), none], [.int 1000000], hX c T)) rfl ?_
      exact ev_ret rfl rfl rfl ⟨_, _, rfl, rfl, H⟩
  by_cases h3 : a0 = 28
  · refine ev_sw h3 (tgt := 118) rfl rfl ?_
    replace H := H.2.2.2.1 h3
    refine ev_ex 10 (c' := (173, [some (.int a0), some (.int a1), some (.int a2), some (.long (a1.toInt64 * a2.toInt64)), none], [.int (lg_cmp (a1.toInt64 * a2.toInt64) 1000000)], hX c T)) rfl ?_
    refine ev_if_le (tgt := 179) rfl rfl (fun h => ?_) (fun h => ?_)
    · replace H := H.1 ((lg_cmp_le _ _).mp h)
      refine ev_ex 3 (c' := (184, [some (.int a0), some (.int a1), some (.int a2), some (.long (a1.toInt64 * a2.toInt64)), none], [.int (lg_cmp (a1.toInt64 * a2.toInt64) ((-1000000)))], hX c T)) rfl ?_
      refine ev_if_ge (tgt := 192) rfl rfl (fun h => ?_) (fun h => ?_)
      · replace H := H.1 ((lg_cmp_ge _ _).mp h)
        refine ev_ex 2 (c' := (194, [some (.int a0), some (.int a1), some (.int a2), some (.long (a1.toInt64 * a2.toInt64)), none], [.int ((a1.toInt64 * a2.toInt64).toInt32)], hX c T)) rfl ?_
        exact ev_ret rfl rfl rfl ⟨_, _, rfl, rfl, H⟩
      · replace H := H.2 ((fun q => h ((lg_cmp_ge _ _).mpr q)))
        refine ev_ex 2 (c' := (194, [some (.int a0), some (.int a1), some (.int a2), some (.long (a1.toInt64 * a2.toInt64)), none], [.int ((-1000000))], hX c T)) rfl ?_
        exact ev_ret rfl rfl rfl ⟨_, _, rfl, rfl, H⟩
    · replace H := H.2 ((fun q => h ((lg_cmp_le _ _).mpr q)))
      refine ev_ex 1 (c' := (178, [some (.int a0), some (.int a1), some (.int a2), some (.long (a1.toInt64 * a2.toInt64)), none], [.int 1000000], hX c T)) rfl ?_
      exact ev_ret rfl rfl rfl ⟨_, _, rfl, rfl, H⟩
  by_cases h4 : a0 = 33
  · refine ev_sw h4 (tgt := 127) rfl rfl ?_
    replace H := H.2.2.2.2.1 h4
    refine ev_ex 2 (c' := (129, [some (.int a0), some (.int a1), some (.int a2), none, none], [.int a2, .int a1], hX c T)) rfl ?_
    refine ev_icmp_ne (tgt := 136) rfl rfl (fun h => ?_) (fun h => ?_)
    · replace H := H.1 (h)
      refine ev_ex 1 (c' := (137, [some (.int a0), some (.int a1), some (.int a2), none, none], [.int 0], hX c T)) rfl ?_
      exact ev_ret rfl rfl rfl ⟨_, _, rfl, rfl, H⟩
    · replace H := H.2 (h)
      refine ev_ex 2 (c' := (137, [some (.int a0), some (.int a1), some (.int a2), none, none], [.int 1], hX c T)) rfl ?_
      exact ev_ret rfl rfl rfl ⟨_, _, rfl, rfl, H⟩
  by_cases h5 : a0 = 34
  · refine ev_sw h5 (tgt := 138) rfl rfl ?_
    replace H := H.2.2.2.2.2.1 h5
    refine ev_ex 2 (c' := (140, [some (.int a0), some (.int a1), some (.int a2), none, none], [.int a2, .int a1], hX c T)) rfl ?_
    refine ev_icmp_ge (tgt := 147) rfl rfl (fun h => ?_) (fun h => ?_)
    · replace H := H.1 (h)
      refine ev_ex 1 (c' := (148, [some (.int a0), some (.int a1), some (.int a2), none, none], [.int 0], hX c T)) rfl ?_
      exact ev_ret rfl rfl rfl ⟨_, _, rfl, rfl, H⟩
    · replace H := H.2 (h)
      refine ev_ex 2 (c' := (148, [some (.int a0), some (.int a1), some (.int a2), none, none], [.int 1], hX c T)) rfl ?_
      exact ev_ret rfl rfl rfl ⟨_, _, rfl, rfl, H⟩
  by_cases h6 : a0 = 35
  · refine ev_sw h6 (tgt := 149) rfl rfl ?_
    replace H := H.2.2.2.2.2.2.1 h6
    refine ev_ex 2 (c' := (151, [some (.int a0), some (.int a1), some (.int a2), none, none], [.int a2, .int a1], hX c T)) rfl ?_
    refine ev_icmp_le (tgt := 158) rfl rfl (fun h => ?_) (fun h => ?_)
    · replace H := H.1 (h)
      refine ev_ex 1 (c' := (159, [some (.int a0), some (.int a1), some (.int a2), none, none], [.int 0], hX c T)) rfl ?_
      exact ev_ret rfl rfl rfl ⟨_, _, rfl, rfl, H⟩
    · replace H := H.2 (h)
      refine ev_ex 2 (c' := (159, [some (.int a0), some (.int a1), some (.int a2), none, none], [.int 1], hX c T)) rfl ?_
      exact ev_ret rfl rfl rfl ⟨_, _, rfl, rfl, H⟩
  replace H := H.2.2.2.2.2.2.2 ⟨h0, h1, h2, h3, h4, h5, h6⟩
  refine ev_tswh (tgt := 164) (hs := [16, 17, 18, 19, 20, 21, 22, 23, 24, 25, 29, 30, 31, 32]) rfl (by have e0 := i32_ne h0 (z := 15) rfl; have e1 := i32_ne h1 (z := 26) rfl; have e2 := i32_ne h2 (z := 27) rfl; have e3 := i32_ne h3 (z := 28) rfl; have e4 := i32_ne h4 (z := 33) rfl; have e5 := i32_ne h5 (z := 34) rfl; have e6 := i32_ne h6 (z := 35) rfl; simp only [List.mem_cons, List.not_mem_nil, or_false]; omega) (by decide) rfl ?_
  refine ev_ex 3 (c' := (167, [some (.int a0), some (.int a1), some (.int a2), none, none], [.int (a1 ||| a2)], hX c T)) rfl ?_
  exact ev_ret rfl rfl rfl ⟨_, _, rfl, rfl, H⟩
set_option maxRecDepth 8000 in
theorem wx_X_feed {c : CX} {d : Nat} {T : XS} {Q : Int32 → XS → Prop} (a0 : Int32) (a1 : Int32) (a2 : Int32) (a3 : Int32) (a4 : Int32) (H : (((xI T 1 1) ≤ 880 → XV c d m_X_putBytes [.ref 1, .int a0] T (fun T1 => XV c d m_X_putBytes [.ref 1, .int a1] T1 (fun T2 => XV c d m_X_putBytes [.ref 1, .int a2] T2 (fun T3 => XV c d m_X_putBytes [.ref 1, .int a3] T3 (fun T4 => XV c d m_X_putBytes [.ref 1, .int a4] T4 (fun T5 => Q (xI T5 1 1) T5)))))) ∧ (¬ (xI T 1 1) ≤ 880 → Q ((-1)) T))) : XI c (d + 1) m_X_feed [.ref 1, .int a0, .int a1, .int a2, .int a3, .int a4] T Q := by
  refine ⟨q_X_feed, rfl, Nat.le_of_ble_eq_true rfl, ?_⟩
  refine ev_ex 0 (c' := (0, [some (.ref 1), some (.int a0), some (.int a1), some (.int a2), some (.int a3), some (.int a4)], [], hX c T)) rfl ?_
  refine ev_ex 1 (c' := (1, [some (.ref 1), some (.int a0), some (.int a1), some (.int a2), some (.int a3), some (.int a4)], [.ref 1], hX c T)) rfl ?_
  refine xe_gf (ci := 12) (k := 1) rfl rfl (ob_lit (i := 0) rfl (by decide) rfl) ⟨by decide, by decide⟩ (v := .int (xI T 1 1)) rfl ?_
  refine ev_ex 1 (c' := (7, [some (.ref 1), some (.int a0), some (.int a1), some (.int a2), some (.int a3), some (.int a4)], [.int 880, .int (xI T 1 1)], hX c T)) rfl ?_
  refine ev_icmp_le (tgt := 12) rfl rfl (fun h => ?_) (fun h => ?_)
  · replace H := H.1 (h)
    refine ev_ex 2 (c' := (14, [some (.ref 1), some (.int a0), some (.int a1), some (.int a2), some (.int a3), some (.int a4)], [.int a0, .ref 1], hX c T)) rfl ?_
    refine xc_V (idx := 81) rfl rfl rfl (Nat.le_of_ble_eq_true rfl) (Nat.le_of_ble_eq_true rfl) (x_rcv (T := T) (ob_lit (i := 0) rfl (by decide) rfl) ⟨by decide, by decide⟩ _ _) H (fun T1 H => ?_)
    refine ev_ex 2 (c' := (19, [some (.ref 1), some (.int a0), some (.int a1), some (.int a2), some (.int a3), some (.int a4)], [.int a1, .ref 1], hX c T1)) rfl ?_
    refine xc_V (idx := 81) rfl rfl rfl (Nat.le_of_ble_eq_true rfl) (Nat.le_of_ble_eq_true rfl) (x_rcv (T := T1) (ob_lit (i := 0) rfl (by decide) rfl) ⟨by decide, by decide⟩ _ _) H (fun T2 H => ?_)
    refine ev_ex 2 (c' := (24, [some (.ref 1), some (.int a0), some (.int a1), some (.int a2), some (.int a3), some (.int a4)], [.int a2, .ref 1], hX c T2)) rfl ?_
    refine xc_V (idx := 81) rfl rfl rfl (Nat.le_of_ble_eq_true rfl) (Nat.le_of_ble_eq_true rfl) (x_rcv (T := T2) (ob_lit (i := 0) rfl (by decide) rfl) ⟨by decide, by decide⟩ _ _) H (fun T3 H => ?_)
    refine ev_ex 2 (c' := (30, [some (.ref 1), some (.int a0), some (.int a1), some (.int a2), some (.int a3), some (.int a4)], [.int a3, .ref 1], hX c T3)) rfl ?_
    refine xc_V (idx := 81) rfl rfl rfl (Nat.le_of_ble_eq_true rfl) (Nat.le_of_ble_eq_true rfl) (x_rcv (T := T3) (ob_lit (i := 0) rfl (by decide) rfl) ⟨by decide, by decide⟩ _ _) H (fun T4 H => ?_)
    refine ev_ex 2 (c' := (36, [some (.ref 1), some (.int a0), some (.int a1), some (.int a2), some (.int a3), some (.int a4)], [.int a4, .ref 1], hX c T4)) rfl ?_
    refine xc_V (idx := 81) rfl rfl rfl (Nat.le_of_ble_eq_true rfl) (Nat.le_of_ble_eq_true rfl) (x_rcv (T := T4) (ob_lit (i := 0) rfl (by decide) rfl) ⟨by decide, by decide⟩ _ _) H (fun T5 H => ?_)
    refine ev_ex 1 (c' := (40, [some (.ref 1), some (.int a0), some (.int a1), some (.int a2), some (.int a3), some (.int a4)], [.ref 1], hX c T5)) rfl ?_
    refine xe_gf (ci := 12) (k := 1) rfl rfl (ob_lit (i := 0) rfl (by decide) rfl) ⟨by decide, by decide⟩ (v := .int (xI T5 1 1)) rfl ?_
    exact ev_ret rfl rfl rfl ⟨_, _, rfl, rfl, H⟩
  · replace H := H.2 (h)
    refine ev_ex 1 (c' := (11, [some (.ref 1), some (.int a0), some (.int a1), some (.int a2), some (.int a3), some (.int a4)], [.int ((-1))], hX c T)) rfl ?_
    exact ev_ret rfl rfl rfl ⟨_, _, rfl, rfl, H⟩
set_option maxRecDepth 8000 in
theorem wx_X_fault {c : CX} {d : Nat} {T : XS} {Q : Int32 → XS → Prop} (a0 : Int32) (H : ((¬ a0 = 0 → ((¬ a0 = 1 → Q ((-1)) T) ∧ (a0 = 1 → Q (xI T 1 3) T))) ∧ (a0 = 0 → Q (xI T 1 2) T))) : XI c (d) m_X_fault [.ref 1, .int a0] T Q := by
  refine ⟨q_X_fault, rfl, Nat.le_of_ble_eq_true rfl, ?_⟩
  refine ev_ex 0 (c' := (0, [some (.ref 1), some (.int a0)], [], hX c T)) rfl ?_
  refine ev_ex 1 (c' := (1, [some (.ref 1), some (.int a0)], [.int a0], hX c T)) rfl ?_
  refine ev_if_ne (tgt := 9) rfl rfl (fun h => ?_) (fun h => ?_)
  · replace H := H.1 (h)
    refine ev_ex 2 (c' := (11, [some (.ref 1), some (.int a0)], [.int 1, .int a0], hX c T)) rfl ?_
    refine ev_icmp_ne (tgt := 21) rfl rfl (fun h => ?_) (fun h => ?_)
    · replace H := H.1 (h)
      refine ev_ex 1 (c' := (22, [some (.ref 1), some (.int a0)], [.int ((-1))], hX c T)) rfl ?_
      exact ev_ret rfl rfl rfl ⟨_, _, rfl, rfl, H⟩
    · replace H := H.2 (h)
      refine ev_ex 1 (c' := (15, [some (.ref 1), some (.int a0)], [.ref 1], hX c T)) rfl ?_
      refine xe_gf (ci := 12) (k := 3) rfl rfl (ob_lit (i := 0) rfl (by decide) rfl) ⟨by decide, by decide⟩ (v := .int (xI T 1 3)) rfl ?_
      refine ev_ex 1 (c' := (22, [some (.ref 1), some (.int a0)], [.int (xI T 1 3)], hX c T)) rfl ?_
      exact ev_ret rfl rfl rfl ⟨_, _, rfl, rfl, H⟩
  · replace H := H.2 (h)
    refine ev_ex 1 (c' := (5, [some (.ref 1), some (.int a0)], [.ref 1], hX c T)) rfl ?_
    refine xe_gf (ci := 12) (k := 2) rfl rfl (ob_lit (i := 0) rfl (by decide) rfl) ⟨by decide, by decide⟩ (v := .int (xI T 1 2)) rfl ?_
    exact ev_ret rfl rfl rfl ⟨_, _, rfl, rfl, H⟩
set_option maxRecDepth 8000 in
theorem wx_X_mock {c : CX} {d : Nat} {T : XS} {Q : Int32 → XS → Prop} (a0 : Int32) (a1 : Int32) (H : XI c d m_Ct_whyNot [.ref 117, .ref 93, .int a0, .int a1] T (fun v2 T1 => ((v2 = 0 → XV c d m_Fr_remember [.ref 49] T1 (fun T3 => XV c d m_Sd_turn [.ref 93, .int a0, .int a1] T3 (fun T4 => (okx a1 10 ∧ Q (bcI (xA T4 101 (ix a1))) T4)))) ∧ (¬ v2 = 0 → Q (-v2) T1)))) : XI c (d + 1) m_X_mock [.ref 1, .int a0, .int a1] T Q := by
  refine ⟨q_X_mock, rfl, Nat.le_of_ble_eq_true rfl, ?_⟩
  refine ev_ex 0 (c' := (0, [some (.ref 1), some (.int a0), some (.int a1), none], [], hX c T)) rfl ?_
  refine ev_ex 1 (c' := (1, [some (.ref 1), some (.int a0), some (.int a1), none], [.ref 1], hX c T)) rfl ?_
  refine xe_gf (ci := 12) (k := 8) rfl rfl (ob_lit (i := 0) rfl (by decide) rfl) ⟨by decide, by decide⟩ (v := .ref 117) rfl ?_
  refine ev_ex 1 (c' := (5, [some (.ref 1), some (.int a0), some (.int a1), none], [.ref 1, .ref 117], hX c T)) rfl ?_
  refine xe_gf (ci := 12) (k := 5) rfl rfl (ob_lit (i := 0) rfl (by decide) rfl) ⟨by decide, by decide⟩ (v := .ref 49) rfl ?_
  refine xe_gf (ci := 4) (k := 0) rfl rfl (ob_lit (i := 12) rfl (by decide) rfl) ⟨by decide, by decide⟩ (v := .ref 93) rfl ?_
  refine ev_ex 2 (c' := (13, [some (.ref 1), some (.int a0), some (.int a1), none], [.int a1, .int a0, .ref 93, .ref 117], hX c T)) rfl ?_
  refine xc_I (idx := 174) rfl rfl rfl (Nat.le_of_ble_eq_true rfl) (Nat.le_of_ble_eq_true rfl) (x_rcv (T := T) (ob_lit (i := 29) rfl (by decide) rfl) ⟨by decide, by decide⟩ _ _) H (fun v2 T1 H => ?_)
  refine ev_ex 2 (c' := (18, [some (.ref 1), some (.int a0), some (.int a1), some (.int v2)], [.int v2], hX c T1)) rfl ?_
  refine ev_if_eq (tgt := 24) rfl rfl (fun h => ?_) (fun h => ?_)
  · replace H := H.1 (h)
    refine ev_ex 1 (c' := (25, [some (.ref 1), some (.int a0), some (.int a1), some (.int v2)], [.ref 1], hX c T1)) rfl ?_
    refine xe_gf (ci := 12) (k := 5) rfl rfl (ob_lit (i := 0) rfl (by decide) rfl) ⟨by decide, by decide⟩ (v := .ref 49) rfl ?_
    refine xc_V (idx := 178) rfl rfl rfl (Nat.le_of_ble_eq_true rfl) (Nat.le_of_ble_eq_true rfl) (x_rcv (T := T1) (ob_lit (i := 12) rfl (by decide) rfl) ⟨by decide, by decide⟩ _ _) H (fun T3 H => ?_)
    refine ev_ex 1 (c' := (32, [some (.ref 1), some (.int a0), some (.int a1), some (.int v2)], [.ref 1], hX c T3)) rfl ?_
    refine xe_gf (ci := 12) (k := 5) rfl rfl (ob_lit (i := 0) rfl (by decide) rfl) ⟨by decide, by decide⟩ (v := .ref 49) rfl ?_
    refine xe_gf (ci := 4) (k := 0) rfl rfl (ob_lit (i := 12) rfl (by decide) rfl) ⟨by decide, by decide⟩ (v := .ref 93) rfl ?_
    refine ev_ex 2 (c' := (40, [some (.ref 1), some (.int a0), some (.int a1), some (.int v2)], [.int a1, .int a0, .ref 93], hX c T3)) rfl ?_
    refine xc_V (idx := 181) rfl rfl rfl (Nat.le_of_ble_eq_true rfl) (Nat.le_of_ble_eq_true rfl) (x_rcv (T := T3) (ob_lit (i := 23) rfl (by decide) rfl) ⟨by decide, by decide⟩ _ _) H (fun T4 H => ?_)
    refine ev_ex 1 (c' := (44, [some (.ref 1), some (.int a0), some (.int a1), some (.int v2)], [.ref 1], hX c T4)) rfl ?_
    refine xe_gf (ci := 12) (k := 5) rfl rfl (ob_lit (i := 0) rfl (by decide) rfl) ⟨by decide, by decide⟩ (v := .ref 49) rfl ?_
    refine xe_gf (ci := 4) (k := 0) rfl rfl (ob_lit (i := 12) rfl (by decide) rfl) ⟨by decide, by decide⟩ (v := .ref 93) rfl ?_
    refine xe_gf (ci := 9) (k := 2) rfl rfl (ob_lit (i := 23) rfl (by decide) rfl) ⟨by decide, by decide⟩ (v := .ref 101) rfl ?_
    refine ev_ex 1 (c' := (54, [some (.ref 1), some (.int a0), some (.int a1), some (.int v2)], [.int a1, .ref 101], hX c T4)) rfl ?_
    obtain ⟨H0, H⟩ := H
    refine xe_al rfl (ar_lit (i := 25) rfl (by decide) rfl) H0 ?_
    refine ev_ex 0 (c' := (55, [some (.ref 1), some (.int a0), some (.int a1), some (.int v2)], [.int (xA T4 101 (ix a1))], hX c T4)) rfl ?_
    refine xq_I (idx := 184) (V := bcI (xA T4 101 (ix a1))) (S := T4) rfl rfl rfl (Nat.le_of_ble_eq_true rfl) (Nat.le_of_ble_eq_true rfl) rfl (zx_JI_bitCount ⟨rfl, rfl⟩) ?_
    exact ev_ret rfl rfl rfl ⟨_, _, rfl, rfl, H⟩
  · replace H := H.2 (h)
    refine ev_ex 2 (c' := (23, [some (.ref 1), some (.int a0), some (.int a1), some (.int v2)], [.int (-v2)], hX c T1)) rfl ?_
    exact ev_ret rfl rfl rfl ⟨_, _, rfl, rfl, H⟩
set_option maxRecDepth 8000 in
theorem wx_X_ringed {c : CX} {d : Nat} {T : XS} {Q : Int32 → XS → Prop}  (H : XO c d m_X_rowNow [.ref 1] T (fun v2 T1 => (v2 = some 129 ∧ eX c (d + 1) m_X_ringed 9 [some (.ref 1), some (.ref 129), some (.int 0), some (.int 0)] T1 (yI c Q)))) : XI c (d + 1) m_X_ringed [.ref 1] T Q := by
  refine ⟨q_X_ringed, rfl, Nat.le_of_ble_eq_true rfl, ?_⟩
  refine ev_ex 0 (c' := (0, [some (.ref 1), none, none, none], [], hX c T)) rfl ?_
  refine ev_ex 1 (c' := (1, [some (.ref 1), none, none, none], [.ref 1], hX c T)) rfl ?_
  refine xc_O (idx := 255) rfl rfl rfl (Nat.le_of_ble_eq_true rfl) (Nat.le_of_ble_eq_true rfl) (x_rcv (T := T) (ob_lit (i := 0) rfl (by decide) rfl) ⟨by decide, by decide⟩ _ _) H (fun v2 T1 H => ?_)
  obtain ⟨rfl, H⟩ := H
  refine ev_ex 0 (c' := (4, [some (.ref 1), none, none, none], [.ref 129], hX c T1)) rfl ?_
  refine ev_ex 5 (c' := (9, [some (.ref 1), some (.ref 129), some (.int 0), some (.int 0)], [], hX c T1)) rfl ?_
  exact H
set_option maxRecDepth 8000 in
theorem wx_X_ringed_9 {c : CX} {d : Nat} {T : XS} {Q : Int32 → XS → Prop} (l2 : Int32) (l3 : Int32) (H : (((xI T 129 0) ≤ l3 → Q l2 T) ∧ (¬ (xI T 129 0) ≤ l3 → (okx l3 10 ∧ eX c (d + 1) m_X_ringed 9 [some (.ref 1), some (.ref 129), some (.int (l2 ||| (xA T 137 (ix l3)))), some (.int (l3 + 1))] T (yI c Q))))) : eX c (d + 1) m_X_ringed 9 [some (.ref 1), some (.ref 129), some (.int l2), some (.int l3)] T (yI c Q) := by
  unfold eX
  refine ev_ex 0 (c' := (9, [some (.ref 1), some (.ref 129), some (.int l2), some (.int l3)], [], hX c T)) rfl ?_
  refine ev_ex 2 (c' := (11, [some (.ref 1), some (.ref 129), some (.int l2), some (.int l3)], [.ref 129, .int l3], hX c T)) rfl ?_
  refine xe_gf (ci := 8) (k := 0) rfl rfl (ob_lit (i := 32) rfl (by decide) rfl) ⟨by decide, by decide⟩ (v := .int (xI T 129 0)) rfl ?_
  refine ev_icmp_ge (tgt := 32) rfl rfl (fun h => ?_) (fun h => ?_)
  · replace H := H.1 (h)
    refine ev_ex 1 (c' := (33, [some (.ref 1), some (.ref 129), some (.int l2), some (.int l3)], [.int l2], hX c T)) rfl ?_
    exact ev_ret rfl rfl rfl ⟨_, _, rfl, rfl, H⟩
  · replace H := H.2 (h)
    refine ev_ex 2 (c' := (19, [some (.ref 1), some (.ref 129), some (.int l2), some (.int l3)], [.ref 129, .int l2], hX c T)) rfl ?_
    refine xe_gf (ci := 8) (k := 6) rfl rfl (ob_lit (i := 32) rfl (by decide) rfl) ⟨by decide, by decide⟩ (v := .ref 137) rfl ?_
    refine ev_ex 1 (c' := (23, [some (.ref 1), some (.ref 129), some (.int l2), some (.int l3)], [.int l3, .ref 137, .int l2], hX c T)) rfl ?_
    obtain ⟨H0, H⟩ := H
    refine xe_al rfl (ar_lit (i := 34) rfl (by decide) rfl) H0 ?_
    refine ev_ex 0 (c' := (24, [some (.ref 1), some (.ref 129), some (.int l2), some (.int l3)], [.int (xA T 137 (ix l3)), .int l2], hX c T)) rfl ?_
    refine ev_ex 4 (c' := (9, [some (.ref 1), some (.ref 129), some (.int (l2 ||| (xA T 137 (ix l3)))), some (.int (l3 + 1))], [], hX c T)) rfl ?_
    exact H
set_option maxRecDepth 8000 in
theorem wx_X_rings {c : CX} {d : Nat} {T : XS} {Q : Int32 → XS → Prop} (a0 : Bool) (H : XO c d m_X_rowNow [.ref 1] T (fun v2 T1 => (v2 = some 129 ∧ eX c (d + 1) m_X_rings 10 [some (.ref 1), some (.int (bI a0)), some (.ref 129), some (.int 0), some (.int 0), none] T1 (yI c Q)))) : XI c (d + 1) m_X_rings [.ref 1, .int (bI a0)] T Q := by
  refine ⟨q_X_rings, rfl, Nat.le_of_ble_eq_true rfl, ?_⟩
  refine ev_ex 0 (c' := (0, [some (.ref 1), some (.int (bI a0)), none, none, none, none], [], hX c T)) rfl ?_
  refine ev_ex 1 (c' := (1, [some (.ref 1), some (.int (bI a0)), none, none, none, none], [.ref 1], hX c T)) rfl ?_
  refine xc_O (idx := 255) rfl rfl rfl (Nat.le_of_ble_eq_true rfl) (Nat.le_of_ble_eq_true rfl) (x_rcv (T := T) (ob_lit (i := 0) rfl (by decide) rfl) ⟨by decide, by decide⟩ _ _) H (fun v2 T1 H => ?_)
  obtain ⟨rfl, H⟩ := H
  refine ev_ex 0 (c' := (4, [some (.ref 1), some (.int (bI a0)), none, none, none, none], [.ref 129], hX c T1)) rfl ?_
  refine ev_ex 5 (c' := (10, [some (.ref 1), some (.int (bI a0)), some (.ref 129), some (.int 0), some (.int 0), none], [], hX c T1)) rfl ?_
  exact H
set_option maxRecDepth 8000 in
theorem wx_X_rings_10 {c : CX} {d : Nat} {T : XS} {Q : Int32 → XS → Prop} (l1 : Bool) (l3 : Int32) (l4 : Int32) (H : (((xI T 129 0) ≤ l4 → Q l3 T) ∧ (¬ (xI T 129 0) ≤ l4 → (okx l4 10 ∧ XI c d m_X_leastOf [.int (xA T 137 (ix l4))] T (fun v52 T51 => ((¬ v52 = l4 → eX c (d + 1) m_X_rings 10 [some (.ref 1), some (.int (bI l1)), some (.ref 129), some (.int l3), some (.int (l4 + 1)), none] T51 (yI c Q)) ∧ (v52 = l4 → ((l1 = false → eX c (d + 1) m_X_rings 10 [some (.ref 1), some (.int (bI l1)), some (.ref 129), some (.int (l3 + 1)), some (.int (l4 + 1)), none] T51 (yI c Q)) ∧ (l1 = true → XI c d m_Rw_opening [.ref 129, .ref 93, .int (xA T 137 (ix l4))] T51 (fun v54 T53 => ((¬ v54 = ((-1)) → eX c (d + 1) m_X_rings 10 [some (.ref 1), some (.int (bI l1)), some (.ref 129), some (.int l3), some (.int (l4 + 1)), none] T53 (yI c Q)) ∧ (v54 = ((-1)) → eX c (d + 1) m_X_rings 10 [some (.ref 1), some (.int (bI l1)), some (.ref 129), some (.int (l3 + 1)), some (.int (l4 + 1)), none] T53 (yI c Q))))))))))))) : eX c (d + 1) m_X_rings 10 [some (.ref 1), some (.int (bI l1)), some (.ref 129), some (.int l3), some (.int l4), none] T (yI c Q) := by
  unfold eX
  refine ev_ex 0 (c' := (10, [some (.ref 1), some (.int (bI l1)), some (.ref 129), some (.int l3), some (.int l4), none], [], hX c T)) rfl ?_
  refine ev_ex 2 (c' := (13, [some (.ref 1), some (.int (bI l1)), some (.ref 129), some (.int l3), some (.int l4), none], [.ref 129, .int l4], hX c T)) rfl ?_
  refine xe_gf (ci := 8) (k := 0) rfl rfl (ob_lit (i := 32) rfl (by decide) rfl) ⟨by decide, by decide⟩ (v := .int (xI T 129 0)) rfl ?_
  refine ev_icmp_ge (tgt := 68) rfl rfl (fun h => ?_) (fun h => ?_)
  · replace H := H.1 (h)
    refine ev_ex 1 (c' := (69, [some (.ref 1), some (.int (bI l1)), some (.ref 129), some (.int l3), some (.int l4), none], [.int l3], hX c T)) rfl ?_
    exact ev_ret rfl rfl rfl ⟨_, _, rfl, rfl, H⟩
  · replace H := H.2 (h)
    refine ev_ex 1 (c' := (20, [some (.ref 1), some (.int (bI l1)), some (.ref 129), some (.int l3), some (.int l4), none], [.ref 129], hX c T)) rfl ?_
    refine xe_gf (ci := 8) (k := 6) rfl rfl (ob_lit (i := 32) rfl (by decide) rfl) ⟨by decide, by decide⟩ (v := .ref 137) rfl ?_
    refine ev_ex 1 (c' := (25, [some (.ref 1), some (.int (bI l1)), some (.ref 129), some (.int l3), some (.int l4), none], [.int l4, .ref 137], hX c T)) rfl ?_
    obtain ⟨H0, H⟩ := H
    refine xe_al rfl (ar_lit (i := 34) rfl (by decide) rfl) H0 ?_
    refine ev_ex 0 (c' := (26, [some (.ref 1), some (.int (bI l1)), some (.ref 129), some (.int l3), some (.int l4), none], [.int (xA T 137 (ix l4))], hX c T)) rfl ?_
    refine ev_ex 2 (c' := (30, [some (.ref 1), some (.int (bI l1)), some (.ref 129), some (.int l3), some (.int l4), some (.int (xA T 137 (ix l4)))], [.int (xA T 137 (ix l4))], hX c T)) rfl ?_
    refine xc_I (idx := 263) rfl rfl rfl (Nat.le_of_ble_eq_true rfl) (Nat.le_of_ble_eq_true rfl) rfl H (fun v52 T51 H => ?_)
    refine ev_ex 1 (c' := (35, [some (.ref 1), some (.int (bI l1)), some (.ref 129), some (.int l3), some (.int l4), some (.int (xA T 137 (ix l4)))], [.int l4, .int v52], hX c T51)) rfl ?_
    refine ev_icmp_ne (tgt := 62) rfl rfl (fun h => ?_) (fun h => ?_)
    · replace H := H.1 (h)
      refine ev_ex 2 (c' := (10, [some (.ref 1), some (.int (bI l1)), some (.ref 129), some (.int l3), some (.int (l4 + 1)), some (.int (xA T 137 (ix l4)))], [], hX c T51)) rfl ?_
      exact ev_less (lle_of (L := [some (.ref 1), some (.int (bI l1)), some (.ref 129), some (.int l3), some (.int (l4 + 1)), none]) ⟨rfl, ⟨rfl, ⟨rfl, ⟨rfl, ⟨rfl, trivial⟩⟩⟩⟩⟩) H
    · replace H := H.2 (h)
      refine ev_ex 1 (c' := (39, [some (.ref 1), some (.int (bI l1)), some (.ref 129), some (.int l3), some (.int l4), some (.int (xA T 137 (ix l4)))], [.int (bI l1)], hX c T51)) rfl ?_
      refine ev_if_eqB (x := l1) (tgt := 59) rfl rfl (fun h => ?_) (fun h => ?_)
      · replace H := H.1 (h)
        refine ev_ex 3 (c' := (10, [some (.ref 1), some (.int (bI l1)), some (.ref 129), some (.int (l3 + 1)), some (.int (l4 + 1)), some (.int (xA T 137 (ix l4)))], [], hX c T51)) rfl ?_
        exact ev_less (lle_of (L := [some (.ref 1), some (.int (bI l1)), some (.ref 129), some (.int (l3 + 1)), some (.int (l4 + 1)), none]) ⟨rfl, ⟨rfl, ⟨rfl, ⟨rfl, ⟨rfl, trivial⟩⟩⟩⟩⟩) H
      · replace H := H.2 (h)
        refine ev_ex 2 (c' := (44, [some (.ref 1), some (.int (bI l1)), some (.ref 129), some (.int l3), some (.int l4), some (.int (xA T 137 (ix l4)))], [.ref 1, .ref 129], hX c T51)) rfl ?_
        refine xe_gf (ci := 12) (k := 5) rfl rfl (ob_lit (i := 0) rfl (by decide) rfl) ⟨by decide, by decide⟩ (v := .ref 49) rfl ?_
        refine xe_gf (ci := 4) (k := 0) rfl rfl (ob_lit (i := 12) rfl (by decide) rfl) ⟨by decide, by decide⟩ (v := .ref 93) rfl ?_
        refine ev_ex 1 (c' := (52, [some (.ref 1), some (.int (bI l1)), some (.ref 129), some (.int l3), some (.int l4), some (.int (xA T 137 (ix l4)))], [.int (xA T 137 (ix l4)), .ref 93, .ref 129], hX c T51)) rfl ?_
        refine xc_I (idx := 266) rfl rfl rfl (Nat.le_of_ble_eq_true rfl) (Nat.le_of_ble_eq_true rfl) (x_rcv (T := T51) (ob_lit (i := 32) rfl (by decide) rfl) ⟨by decide, by decide⟩ _ _) H (fun v54 T53 H => ?_)
        refine ev_ex 1 (c' := (56, [some (.ref 1), some (.int (bI l1)), some (.ref 129), some (.int l3), some (.int l4), some (.int (xA T 137 (ix l4)))], [.int ((-1)), .int v54], hX c T53)) rfl ?_
        refine ev_icmp_ne (tgt := 62) rfl rfl (fun h => ?_) (fun h => ?_)
        · replace H := H.1 (h)
          refine ev_ex 2 (c' := (10, [some (.ref 1), some (.int (bI l1)), some (.ref 129), some (.int l3), some (.int (l4 + 1)), some (.int (xA T 137 (ix l4)))], [], hX c T53)) rfl ?_
          exact ev_less (lle_of (L := [some (.ref 1), some (.int (bI l1)), some (.ref 129), some (.int l3), some (.int (l4 + 1)), none]) ⟨rfl, ⟨rfl, ⟨rfl, ⟨rfl, ⟨rfl, trivial⟩⟩⟩⟩⟩) H
        · replace H := H.2 (h)
          refine ev_ex 3 (c' := (10, [some (.ref 1), some (.int (bI l1)), some (.ref 129), some (.int (l3 + 1)), some (.int (l4 + 1)), some (.int (xA T 137 (ix l4)))], [], hX c T53)) rfl ?_
          exact ev_less (lle_of (L := [some (.ref 1), some (.int (bI l1)), some (.ref 129), some (.int (l3 + 1)), some (.int (l4 + 1)), none]) ⟨rfl, ⟨rfl, ⟨rfl, ⟨rfl, ⟨rfl, trivial⟩⟩⟩⟩⟩) H
