/-! a carnival made by the class: whole -/
section XC3
variable {c : CX} {d : Nat} {T T' T0 T1 : XS} {t : TV}
set_option maxRecDepth 8000 in
set_option maxHeartbeats 1000000 in
theorem x_Cv_init2 {Q : XS → Prop} (hR : RL c) (rd0 : RDX T0 t) (tok : TOK t) (hq : ∀ T', grw noc T0 T' → gw 9 2000 T0 T' → CVT T' (4 * xn T0 + 3) t → Q T') : XV c (d + 4) m_Cv_init_2 [.ref (4 * xn T0 + 3), .ref 9] (tN T0 2 0 14) Q := by
  have sl : stp t.1 (vT t.1) ≤ 241 := stN_b tok.1
  have o1 := new_ob T0 2 0 14
  have g1 : grw noc T0 (tN T0 2 0 14) := grw.rf.N 2 0 14
  have n1 : xn (tN T0 2 0 14) = xn T0 + 1 ∧ xk (tN T0 2 0 14) = xk T0 + 14 := ⟨rfl, rfl⟩
  have s1 : SDF (tN T0 2 0 14) := rd0.2.2.2.2.gr g1 (fun b h3 w1 w2 k => by
    rw [n1.1] at w2
    rw [show b = 4 * xn T0 + 3 by omega, o1.2] at k
    cases k)
  have hnew : ∀ b, old T0 b → b ≠ 4 * xn T0 + 3 := fun b q e => by have := q (by omega); omega
  have rd1 : RDX (tN T0 2 0 14) t := rd0.gr g1 s1
  have q0 : ∀ (T : XS), grw noc T0 T → SDF T → CVT T (4 * xn T0 + 3) t → xn T = xn T0 + 1 + 8 → xk T ≤ xk T0 + 14 + 241 * 8 → Q T := fun T g s v n k => hq T g ⟨by omega, by omega, fun _ => s⟩ v
  have P0 : CVI T0 t 0 0 (tI (tI (tI (tN T0 2 0 14) (4 * xn T0 + 3) 0 (nI (vL t.1))) (4 * xn T0 + 3) 1 (nI (vG t.1))) (4 * xn T0 + 3) 2 (nI (vT t.1))) := by
    have fr : frm (fun b => b = 4 * xn T0 + 3) (tN T0 2 0 14) (tI (tI (tI (tN T0 2 0 14) (4 * xn T0 + 3) 0 (nI (vL t.1))) (4 * xn T0 + 3) 1 (nI (vG t.1))) (4 * xn T0 + 3) 2 (nI (vT t.1))) := ((frm_I (S := fun b => b = 4 * xn T0 + 3) rfl _ _).tr (frm_I (S := fun b => b = 4 * xn T0 + 3) rfl _ _)).tr (frm_I (S := fun b => b = 4 * xn T0 + 3) rfl _ _)
    refine ⟨g1.fr fr (fun b hb e => absurd e (hnew b hb)), fr.o o1, ⟨rfl, Nat.le_refl _⟩, fr.sdf s1, ⟨?_, ?_, xI_at _ _ _ _⟩, fun i hi => absurd hi (Nat.not_lt_zero i), fun e => (by cases e)⟩
    · rw [xI_nn _ _ _ _ (by omega), xI_nn _ _ _ _ (by omega), xI_at]
    · rw [xI_nn _ _ _ _ (by omega), xI_at]
  have e6 : xI (tN T0 2 0 14) 9 6 = nI (vL t.1) := rd1.1.1
  have e7 : xI (tI (tN T0 2 0 14) (4 * xn T0 + 3) 0 (nI (vL t.1))) 9 7 = nI (vG t.1) := (xI_nn _ _ _ _ (by omega)).trans rd1.1.2.1
  have e8 : xI (tI (tI (tN T0 2 0 14) (4 * xn T0 + 3) 0 (nI (vL t.1))) (4 * xn T0 + 3) 1 (nI (vG t.1))) 9 8 = nI (vT t.1) := ((xI_nn _ _ _ _ (by omega)).trans (xI_nn _ _ _ _ (by omega))).trans rd1.1.2.2
  have h3 : (4 * xn T0 + 3) % 4 = 3 := by omega
  have hn0 : ¬ old T0 (4 * xn T0 + 3) := fun q => absurd rfl (hnew _ q)
  refine ⟨q_Cv_init_2, rfl, Nat.le_of_ble_eq_true rfl, ?_⟩
  generalize ea : 4 * xn T0 + 3 = a at *
  refine ev_ex 1 (c' := (1, [some (.ref a), some (.ref 9)], [.ref a], hX c (tN T0 2 0 14))) rfl ?_
  refine ev_obj rfl rfl (Nat.le_of_ble_eq_true rfl) ?_
  generalize tN T0 2 0 14 = T1 at *
  refine ev_ex 2 (c' := (6, [some (.ref a), some (.ref 9)], [.ref 9, .ref a], hX c (T1))) rfl ?_
  refine xe_gf (ci := 7) (k := 6) rfl rfl (ob_lit (i := 2) rfl (by decide) rfl) ⟨by decide, by decide⟩ (v := .int (xI (T1) 9 6)) rfl ?_
  rw [e6]
  refine xe_pi (ci := 2) (k := 0) rfl rfl o1 ⟨by decide, by decide⟩ (Nat.le_of_ble_eq_true rfl) rfl (fi_2_0 _ _ _) ?_
  refine ev_ex 2 (c' := (14, [some (.ref a), some (.ref 9)], [.ref 9, .ref a], hX c (tI (T1) a 0 (nI (vL t.1))))) rfl ?_
  refine xe_gf (ci := 7) (k := 7) rfl rfl (ob_lit (i := 2) rfl (by decide) rfl) ⟨by decide, by decide⟩ (v := .int (xI (tI (T1) a 0 (nI (vL t.1))) 9 7)) rfl ?_
  rw [e7]
  refine xe_pi (ci := 2) (k := 1) rfl rfl o1 ⟨by decide, by decide⟩ (Nat.le_of_ble_eq_true rfl) rfl (fi_2_1 _ _ _) ?_
  refine ev_ex 2 (c' := (22, [some (.ref a), some (.ref 9)], [.ref 9, .ref a], hX c (tI (tI (T1) a 0 (nI (vL t.1))) a 1 (nI (vG t.1))))) rfl ?_
  refine xe_gf (ci := 7) (k := 8) rfl rfl (ob_lit (i := 2) rfl (by decide) rfl) ⟨by decide, by decide⟩ (v := .int (xI (tI (tI (T1) a 0 (nI (vL t.1))) a 1 (nI (vG t.1))) 9 8)) rfl ?_
  rw [e8]
  refine xe_pi (ci := 2) (k := 2) rfl rfl o1 ⟨by decide, by decide⟩ (Nat.le_of_ble_eq_true rfl) rfl (fi_2_2 _ _ _) ?_
  generalize tI (tI (tI (T1) a 0 (nI (vL t.1))) a 1 (nI (vG t.1))) a 2 (nI (vT t.1)) = T2 at *
  rw [← ea] at h3 hn0
  have P0 : CVI T0 t 0 0 T2 := P0
  have ar9 : ∀ {T : XS} (j e : Nat), CVI T0 t j e T → RDX T t := fun j e p => rd0.gr p.1 p.2.2.2.1
  refine ev_ex 2 (c' := (30, [some (.ref a), some (.ref 9)], [.ref 9, .ref a], hX c T2)) rfl ?_
  refine xe_gf (ci := 7) (k := 3) rfl rfl (ob_lit (i := 2) rfl (by decide) rfl) ⟨by decide, by decide⟩ (v := .ref 37) rfl ?_
  refine ev_ex 1 (c' := (35, [some (.ref a), some (.ref 9)], [.int 10, .ref 37, .ref a], hX c T2)) rfl ?_
  refine xc_O (idx := 62) rfl rfl rfl (Nat.le_of_ble_eq_true rfl) (Nat.le_of_ble_eq_true rfl) rfl (x_copyAll (n := 10) (Q := fun x T' => x = some (4 * xn T2 + 3) ∧ NWA T2 T' 37 0 10) hR (ar_lit (i := 9) rfl (by decide) rfl) (by decide) (fun T' h => ⟨rfl, h⟩)) (fun x T3 H => ?_)
  obtain ⟨rfl, nw⟩ := H
  have P1 := P0.nwa (by decide) nw (fun x hx => by rw [Nat.zero_add, P0.1.A (i1_ rfl (by decide)) id]; rfl)
  rw [ea] at P1
  refine xe_pr (ci := 2) (k := 3) (x := some (4 * xn T2 + 3)) rfl rfl (by rw [← ea]; exact nw.1.o P0.2.1) ⟨by decide, by decide⟩ (Nat.le_of_ble_eq_true rfl) (fr_2_3 _ _ _ (frx_put (Or.inl (by omega)))) ?_
  have P1 : CVI T0 t 1 0 (tR T3 a 3 (some (4 * xn T2 + 3))) := P1
  generalize tR T3 a 3 (some (4 * xn T2 + 3)) = S1 at *
  refine ev_ex 3 (c' := (44, [some (.ref a), some (.ref 9)], [.int 0, .ref 9, .ref a], hX c S1)) rfl ?_
  refine xc_O (idx := 68) rfl rfl rfl (Nat.le_of_ble_eq_true rfl) (Nat.le_of_ble_eq_true rfl) rfl (x_flag (d := d) (k := 0) (Q := fun x T' => x = some (4 * xn S1 + 3) ∧ NWA S1 T' 33 (0 * 10) 10) hR (by decide) (fun T' h => ⟨rfl, h⟩)) (fun x T4 H => ?_)
  obtain ⟨rfl, nw⟩ := H
  have P2 := P1.nwa (by decide) nw (fun x hx => by rw [P1.1.A (i1_ rfl (by decide)) id]; rfl)
  rw [ea] at P2
  refine xe_pr (ci := 2) (k := 9) (x := some (4 * xn S1 + 3)) rfl rfl (by rw [← ea]; exact nw.1.o P1.2.1) ⟨by decide, by decide⟩ (Nat.le_of_ble_eq_true rfl) (fr_2_9 _ _ _ (frx_put (Or.inl (by omega)))) ?_
  have P2 : CVI T0 t 2 0 (tR T4 a 9 (some (4 * xn S1 + 3))) := P2
  generalize tR T4 a 9 (some (4 * xn S1 + 3)) = S2 at *
  refine ev_ex 3 (c' := (53, [some (.ref a), some (.ref 9)], [.int 1, .ref 9, .ref a], hX c S2)) rfl ?_
  refine xc_O (idx := 68) rfl rfl rfl (Nat.le_of_ble_eq_true rfl) (Nat.le_of_ble_eq_true rfl) rfl (x_flag (d := d) (k := 1) (Q := fun x T' => x = some (4 * xn S2 + 3) ∧ NWA S2 T' 33 (1 * 10) 10) hR (by decide) (fun T' h => ⟨rfl, h⟩)) (fun x T5 H => ?_)
  obtain ⟨rfl, nw⟩ := H
  have P3 := P2.nwa (by decide) nw (fun x hx => by rw [P2.1.A (i1_ rfl (by decide)) id]; rfl)
  rw [ea] at P3
  refine xe_pr (ci := 2) (k := 10) (x := some (4 * xn S2 + 3)) rfl rfl (by rw [← ea]; exact nw.1.o P2.2.1) ⟨by decide, by decide⟩ (Nat.le_of_ble_eq_true rfl) (fr_2_10 _ _ _ (frx_put (Or.inl (by omega)))) ?_
  have P3 : CVI T0 t 3 0 (tR T5 a 10 (some (4 * xn S2 + 3))) := P3
  generalize tR T5 a 10 (some (4 * xn S2 + 3)) = S3 at *
  refine ev_ex 3 (c' := (62, [some (.ref a), some (.ref 9)], [.int 2, .ref 9, .ref a], hX c S3)) rfl ?_
  refine xc_O (idx := 68) rfl rfl rfl (Nat.le_of_ble_eq_true rfl) (Nat.le_of_ble_eq_true rfl) rfl (x_flag (d := d) (k := 2) (Q := fun x T' => x = some (4 * xn S3 + 3) ∧ NWA S3 T' 33 (2 * 10) 10) hR (by decide) (fun T' h => ⟨rfl, h⟩)) (fun x T6 H => ?_)
  obtain ⟨rfl, nw⟩ := H
  have P4 := P3.nwa (by decide) nw (fun x hx => by rw [P3.1.A (i1_ rfl (by decide)) id]; rfl)
  rw [ea] at P4
  refine xe_pr (ci := 2) (k := 11) (x := some (4 * xn S3 + 3)) rfl rfl (by rw [← ea]; exact nw.1.o P3.2.1) ⟨by decide, by decide⟩ (Nat.le_of_ble_eq_true rfl) (fr_2_11 _ _ _ (frx_put (Or.inl (by omega)))) ?_
  have P4 : CVI T0 t 4 0 (tR T6 a 11 (some (4 * xn S3 + 3))) := P4
  generalize tR T6 a 11 (some (4 * xn S3 + 3)) = S4 at *
  refine ev_ex 3 (c' := (71, [some (.ref a), some (.ref 9)], [.int 3, .ref 9, .ref a], hX c S4)) rfl ?_
  refine xc_O (idx := 68) rfl rfl rfl (Nat.le_of_ble_eq_true rfl) (Nat.le_of_ble_eq_true rfl) rfl (x_flag (d := d) (k := 3) (Q := fun x T' => x = some (4 * xn S4 + 3) ∧ NWA S4 T' 33 (3 * 10) 10) hR (by decide) (fun T' h => ⟨rfl, h⟩)) (fun x T7 H => ?_)
  obtain ⟨rfl, nw⟩ := H
  have P5 := P4.nwa (by decide) nw (fun x hx => by rw [P4.1.A (i1_ rfl (by decide)) id]; rfl)
  rw [ea] at P5
  refine xe_pr (ci := 2) (k := 12) (x := some (4 * xn S4 + 3)) rfl rfl (by rw [← ea]; exact nw.1.o P4.2.1) ⟨by decide, by decide⟩ (Nat.le_of_ble_eq_true rfl) (fr_2_12 _ _ _ (frx_put (Or.inl (by omega)))) ?_
  have P5 : CVI T0 t 5 0 (tR T7 a 12 (some (4 * xn S4 + 3))) := P5
  generalize tR T7 a 12 (some (4 * xn S4 + 3)) = S5 at *
  refine ev_ex 3 (c' := (80, [some (.ref a), some (.ref 9)], [.int 4, .ref 9, .ref a], hX c S5)) rfl ?_
  refine xc_O (idx := 68) rfl rfl rfl (Nat.le_of_ble_eq_true rfl) (Nat.le_of_ble_eq_true rfl) rfl (x_flag (d := d) (k := 4) (Q := fun x T' => x = some (4 * xn S5 + 3) ∧ NWA S5 T' 33 (4 * 10) 10) hR (by decide) (fun T' h => ⟨rfl, h⟩)) (fun x T8 H => ?_)
  obtain ⟨rfl, nw⟩ := H
  have P6 := P5.nwa (by decide) nw (fun x hx => by rw [P5.1.A (i1_ rfl (by decide)) id]; rfl)
  rw [ea] at P6
  refine xe_pr (ci := 2) (k := 13) (x := some (4 * xn S5 + 3)) rfl rfl (by rw [← ea]; exact nw.1.o P5.2.1) ⟨by decide, by decide⟩ (Nat.le_of_ble_eq_true rfl) (fr_2_13 _ _ _ (frx_put (Or.inl (by omega)))) ?_
  have P6 : CVI T0 t 6 0 (tR T8 a 13 (some (4 * xn S5 + 3))) := P6
  generalize tR T8 a 13 (some (4 * xn S5 + 3)) = S6 at *
  have f9 : ∀ k, frx S6 9 k = frx T0 9 k := fun k => P6.1.fx (i1_ rfl (by decide)) (Or.inr id)
  refine ev_ex 2 (c' := (88, [some (.ref a), some (.ref 9)], [.ref 9, .ref a], hX c S6)) rfl ?_
  refine xe_gf (ci := 7) (k := 9) rfl rfl (ob_lit (i := 2) rfl (by decide) rfl) ⟨by decide, by decide⟩ (v := va_rf (frx S6 9 9)) rfl ?_
  have oa : ob S6 a 2 := by rw [← ea]; exact P6.2.1
  refine xe_pr (ci := 2) (k := 4) (x := frx S6 9 9) rfl rfl oa ⟨by decide, by decide⟩ (Nat.le_of_ble_eq_true rfl) (fr_2_4 _ _ _ (frx_put (Or.inl (by omega)))) ?_
  have a9 : (9 : Nat) ≠ a := by omega
  have h9 : frx (tR S6 a 4 (frx S6 9 9)) 9 10 = frx S6 9 10 := by
    unfold frx
    rw [show xR (tR S6 a 4 _) 9 10 = xR S6 9 10 from if_neg (fun e => a9 e.1)]
  refine ev_ex 2 (c' := (96, [some (.ref a), some (.ref 9)], [.ref 9, .ref a], hX c (tR S6 a 4 (frx S6 9 9)))) rfl ?_
  refine xe_gf (ci := 7) (k := 10) rfl rfl (ob_lit (i := 2) rfl (by decide) rfl) ⟨by decide, by decide⟩ (v := va_rf (frx (tR S6 a 4 (frx S6 9 9)) 9 10)) rfl ?_
  rw [h9]
  refine xe_pr (ci := 2) (k := 5) (x := frx S6 9 10) rfl rfl oa ⟨by decide, by decide⟩ (Nat.le_of_ble_eq_true rfl) (fr_2_5 _ _ _ (frx_put (Or.inl (by omega)))) ?_
  have h10 : frx (tR (tR S6 a 4 (frx S6 9 9)) a 5 (frx S6 9 10)) 9 10 = frx S6 9 10 := by
    rw [← h9]
    unfold frx
    rw [show xR (tR (tR S6 a 4 _) a 5 _) 9 10 = xR (tR S6 a 4 _) 9 10 from if_neg (fun e => a9 e.1)]
  have g44 : frx (tR (tR S6 a 4 (frx S6 9 9)) a 5 (frx S6 9 10)) a 4 = frx S6 9 9 := by
    rw [frx_j (by decide), frx_put (Or.inl (by omega))]
  have g55 : frx (tR (tR S6 a 4 (frx S6 9 9)) a 5 (frx S6 9 10)) a 5 = frx S6 9 10 := frx_put (Or.inl (by omega))
  have gkk : ∀ k, k ≠ 4 → k ≠ 5 → frx (tR (tR S6 a 4 (frx S6 9 9)) a 5 (frx S6 9 10)) a k = frx S6 a k := fun k k4 k5 => by
    rw [frx_j k5, frx_j k4]
  have gR : grw noc T0 (tR (tR S6 a 4 (frx S6 9 9)) a 5 (frx S6 9 10)) := (P6.1.R (by rw [← ea]; exact hn0) _ _).R (by rw [← ea]; exact hn0) _ _
  have law : LAWA (tR (tR S6 a 4 (frx S6 9 9)) a 5 (frx S6 9 10)) (frx S6 9 10) (vA t.1) := by
    have := (ar9 6 0 P6).2.2.2.1.2
    exact this
  have oa2 : ob (tR (tR S6 a 4 (frx S6 9 9)) a 5 (frx S6 9 10)) a 2 := oa
  have P6' : ∀ (x : Int32), x = bI (decide (107 ∈ vA t.1)) → CVI T0 t 6 1 (tI (tR (tR S6 a 4 (frx S6 9 9)) a 5 (frx S6 9 10)) a 6 x) := fun x hx => by
    have fr : frm (fun b => b = a) (tR (tR S6 a 4 (frx S6 9 9)) a 5 (frx S6 9 10)) (tI (tR (tR S6 a 4 (frx S6 9 9)) a 5 (frx S6 9 10)) a 6 x) := frm_I (S := fun b => b = a) rfl _ _
    obtain ⟨p1, p2, p3, p4, p5, p6, p7⟩ := P6
    rw [ea] at p2 p5 p6
    refine ⟨gR.fr fr (fun b hb e => absurd e (by rw [← ea]; exact fun w => hn0 (by rw [← w]; exact hb))), ?_, p3, p4, ?_, fun i hi => ?_, fun _ => ?_⟩
    · rw [ea]; exact p2
    · rw [ea]
      refine ⟨(xI_nn _ _ _ _ (by omega)).trans p5.1, (xI_nn _ _ _ _ (by omega)).trans p5.2.1, (xI_nn _ _ _ _ (by omega)).trans p5.2.2⟩
    · rw [ea]
      obtain ⟨r1, r2, r3⟩ := p6 i hi
      have c45 := cfl_45 i (by omega)
      refine ⟨?_, r2, r3⟩
      rw [fr.fx (Or.inl c45.2.2), gkk _ c45.1 c45.2.1]
      exact r1
    · rw [ea]
      refine ⟨?_, ?_, ?_⟩
      · rw [fr.fx (Or.inl (by decide)), g44]; exact f9 9
      · rw [fr.fx (Or.inl (by decide)), g55]; exact f9 10
      · rw [xI_at]; exact hx
  generalize tR (tR S6 a 4 (frx S6 9 9)) a 5 (frx S6 9 10) = S7 at *
  refine ev_ex 2 (c' := (104, [some (.ref a), some (.ref 9)], [.ref 9, .ref a], hX c S7)) rfl ?_
  refine xe_gf (ci := 7) (k := 10) rfl rfl (ob_lit (i := 2) rfl (by decide) rfl) ⟨by decide, by decide⟩ (v := va_rf (frx S7 9 10)) rfl ?_
  rw [h10]
  refine xc_B (idx := 74) rfl rfl rfl (Nat.le_of_ble_eq_true rfl) (Nat.le_of_ble_eq_true rfl) rfl (x_tells (d := d + 3) (Q := fun x T' => x = decide (107 ∈ vA t.1) ∧ T' = S7) law tok.1.2.2.2.2.1 ⟨rfl, rfl⟩) (fun x T9 H => ?_)
  obtain ⟨rfl, rfl⟩ := H
  refine xe_pi (ci := 2) (k := 6) rfl rfl oa2 ⟨by decide, by decide⟩ (Nat.le_of_ble_eq_true rfl) (by cases decide (107 ∈ vA t.1) <;> rfl) (fi_2_6 _ _ _) ?_
  have P6 := P6' _ rfl
  generalize tI T9 a 6 (bI (decide (107 ∈ vA t.1))) = U6 at *
  refine ev_ex 3 (c' := (118, [some (.ref a), some (.ref 9)], [.ref 16, .ref 9, .ref a], hX c U6)) rfl ?_
  refine xc_O (idx := 81) rfl rfl rfl (Nat.le_of_ble_eq_true rfl) (Nat.le_of_ble_eq_true rfl) rfl (x_wayOf (d := d + 3) (dr := dirX) (t := t) (Q := fun x T' => x = some (4 * xn U6 + 3) ∧ NWW dirX t.1 U6 T') hR (ar9 6 1 P6) tok (fun σ => rfl) (by decide) (fun T' h => ⟨rfl, h⟩)) (fun x V6 H => ?_)
  obtain ⟨rfl, nw⟩ := H
  have P7 := P6.st (by decide) nw.1 nw.2.1 sl nw.2.2.1 nw.2.2.2 (nw.sdf P6.2.2.2.1)
  rw [ea] at P7
  refine xe_pr (ci := 2) (k := 7) (x := some (4 * xn U6 + 3)) rfl rfl (by rw [← ea]; exact nw.1.o P6.2.1) ⟨by decide, by decide⟩ (Nat.le_of_ble_eq_true rfl) (fr_2_7 _ _ _ (frx_put (Or.inl (by omega)))) ?_
  have P7 : CVI T0 t 7 1 (tR V6 a 7 (some (4 * xn U6 + 3))) := P7
  generalize tR V6 a 7 (some (4 * xn U6 + 3)) = U7 at *
  refine ev_ex 3 (c' := (129, [some (.ref a), some (.ref 9)], [.ref 20, .ref 9, .ref a], hX c U7)) rfl ?_
  refine xc_O (idx := 81) rfl rfl rfl (Nat.le_of_ble_eq_true rfl) (Nat.le_of_ble_eq_true rfl) rfl (x_wayOf (d := d + 3) (dr := dirY) (t := t) (Q := fun x T' => x = some (4 * xn U7 + 3) ∧ NWW dirY t.1 U7 T') hR (ar9 7 1 P7) tok (fun σ => rfl) (by decide) (fun T' h => ⟨rfl, h⟩)) (fun x V7 H => ?_)
  obtain ⟨rfl, nw⟩ := H
  have P8 := P7.st (by decide) nw.1 nw.2.1 sl nw.2.2.1 nw.2.2.2 (nw.sdf P7.2.2.2.1)
  rw [ea] at P8
  refine xe_pr (ci := 2) (k := 8) (x := some (4 * xn U7 + 3)) rfl rfl (by rw [← ea]; exact nw.1.o P7.2.1) ⟨by decide, by decide⟩ (Nat.le_of_ble_eq_true rfl) (fr_2_8 _ _ _ (frx_put (Or.inl (by omega)))) ?_
  have P8 : CVI T0 t 8 1 (tR V7 a 8 (some (4 * xn U7 + 3))) := P8
  generalize tR V7 a 8 (some (4 * xn U7 + 3)) = U8 at *
  have cv := P8.cvt rd0 tok
  rw [ea] at cv
  exact ev_ret rfl rfl rfl ⟨_, rfl, rfl, q0 _ P8.1 P8.2.2.2.1 cv P8.2.2.1.1 P8.2.2.1.2⟩
end XC3
