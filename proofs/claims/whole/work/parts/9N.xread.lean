/-! the text read by the class -/
section XR1
variable {c : CX} {d n : Nat} {f : Nat → Nat} {T T' T0 T1 T2 : XS} {t : TV}
def RGX (T T' : XS) : Prop := grw rdS T T' ∧ gw 909 2900 T T'
theorem RDX.ln (q : RDX T t) : RDX (tI T 9 6 (nI (vL t.1 + 1))) (tvL t (vL t.1 + 1)) ∧ RKX 0 T (tI T 9 6 (nI (vL t.1 + 1))) := by
  have f1 : frm (fun b => b = 9) T (tI T 9 6 (nI (vL t.1 + 1))) := frm_I (S := fun b => b = 9) rfl _ _
  obtain ⟨⟨q0, q1, q2⟩, q3, q4, ⟨q5, q6⟩, q7⟩ := q
  exact ⟨⟨⟨xI_at _ _ _ _, (xI_nn _ _ _ _ (by decide)).trans q1, (xI_nn _ _ _ _ (by decide)).trans q2⟩, q3, q4, ⟨f1.law q5 (fun b h3 _ => by omega), f1.law q6 (fun b h3 _ => by omega)⟩, f1.sdf q7⟩, ⟨rfx_frm f1 (fun b hb => Or.inl hb), xI_nn _ _ _ _ (by decide), xI_nn _ _ _ _ (by decide)⟩⟩
set_option maxRecDepth 8000 in
theorem x_read_lp {Q : Option Nat → XS → Prop} (hR : RL c) (hf : fvok c) (ok : ∀ T1 T' h' t', RKX n T T1 → grw noc T1 T' → gw 9 2000 T1 T' → CVT T' (4 * xn T1 + 3) t' → TOK t' → carnP f n (n + 1) 0 tv0 = some (.inl (h', t')) → Q (some (4 * xn T1 + 3)) T') (bad : ∀ T' k p, RBX n T T' k p → carnP f n (n + 1) 0 tv0 = some (.inr (k, p)) → Q none T') :
    ∀ (F h : Nat) (t : TV) (r : (Nat × TV) ⊕ (Nat × Nat)), carnP f n F h t = some r → carnP f n (n + 1) 0 tv0 = some r → ∀ (T2 : XS) (i : Nat), RKX h T T2 → TKS T2 f n h → RDX T2 t → TOK t → vL t.1 ≤ h → i ≤ h → ev (cP c) (d + 9) m_Rd_read 36 [some (.ref 9), some (.ref 5), some (.int (nI n)), some (.int (nI i))] [] (hX c T2) (yO c Q)
  | 0, _, _, _, q => by rw [carnP] at q; cases q
  | F + 1, h, t, r, e => by
    intro er T2 i kx tk rd tok hL hi
    have h9 := tk.2.2.2.2.1
    have hn := tk.2.2.2.1
    have k40 := kd_40 f n h
    rw [carnP] at e
    refine ev_ex 2 (c' := (40, [some (.ref 9), some (.ref 5), some (.int (nI n)), some (.int (nI i))], [.int 900, .int (nI i)], hX c T2)) rfl ?_
    refine ev_icmp_gt (tgt := 96) rfl rfl (fun z => absurd ((nI_ltI (a := 900) (by decide) (by omega)).mp z) (by omega)) (fun _ => ?_)
    refine ev_ex 1 (c' := (44, [some (.ref 9), some (.ref 5), some (.int (nI n)), some (.int (nI i))], [.ref 9], hX c T2)) rfl ?_
    refine xe_gf (ci := 7) (k := 0) rfl rfl (ob_lit (i := 2) rfl (by decide) rfl) ⟨by decide, by decide⟩ (v := .ref 13) rfl ?_
    refine xc_V (idx := 64) rfl rfl rfl (Nat.le_of_ble_eq_true rfl) (Nat.le_of_ble_eq_true rfl) (x_rcv (T := T2) (ob_lit (i := 3) rfl (by decide) rfl) ⟨by decide, by decide⟩ _ _) (x_move (d := d + 2) (Q := fun T' => MVD T2 T' ∧ TKA T' f n h) hf tk (fun T' a b => ⟨a, b⟩)) (fun T3 H => ?_)
    obtain ⟨mv, ta⟩ := H
    have rd3 := rd.mv mv
    have k3 := kx.tr mv.k
    refine ev_ex 1 (c' := (51, [some (.ref 9), some (.ref 5), some (.int (nI n)), some (.int (nI i))], [.ref 9], hX c T3)) rfl ?_
    refine xe_gf (ci := 7) (k := 0) rfl rfl (ob_lit (i := 2) rfl (by decide) rfl) ⟨by decide, by decide⟩ (v := .ref 13) rfl ?_
    refine xe_gf (ci := 10) (k := 4) rfl rfl (ob_lit (i := 3) rfl (by decide) rfl) ⟨by decide, by decide⟩ (v := .int (xI T3 13 4)) rfl ?_
    rw [ta.2.2.2.1]
    refine ev_ex 1 (c' := (59, [some (.ref 9), some (.ref 5), some (.int (nI n)), some (.int (nI i))], [.int 37, .int (nI (kd f n h))], hX c T3)) rfl ?_
    refine ev_icmp_ne (tgt := 71) rfl rfl (fun z => ?_) (fun z => ?_)
    · have z : kd f n h ≠ 37 := fun w => z (by rw [w]; rfl)
      rw [if_neg z] at e
      refine ev_ex 1 (c' := (72, [some (.ref 9), some (.ref 5), some (.int (nI n)), some (.int (nI i))], [.ref 9], hX c T3)) rfl ?_
      match e1 : lineP f n h t with
      | none => exact absurd e1 (lineP_none hn)
      | some rr =>
        rw [e1] at e
        refine xc_B (idx := 75) rfl rfl rfl (Nat.le_of_ble_eq_true rfl) (Nat.le_of_ble_eq_true rfl) (x_rcv (T := T3) (ob_lit (i := 2) rfl (by decide) rfl) ⟨by decide, by decide⟩ _ _) (x_line (d := d) (Q := fun x T' => (x = true ∧ ∃ h' t', rr = .inl (h', t') ∧ RKX (h' - h) T3 T' ∧ TKS T' f n h' ∧ RDX T' t') ∨ (x = false ∧ ∃ k p, rr = .inr (k, p) ∧ RBX 0 T3 T' k p)) hR hf ta rd3 tok e1 (fun h' t' er T' a b c' => Or.inl ⟨rfl, h', t', er, a, b, c'⟩) (fun k p er T' a => Or.inr ⟨rfl, k, p, er, a⟩)) (fun x T4 H => ?_)
        rcases H with ⟨rfl, h', t', er', k4, tk4, rd4⟩ | ⟨rfl, k, p, er', b4⟩
        · subst er'
          obtain ⟨w1, w2, w3, w4⟩ := lineP_ok hn h9 tok e1
          refine ev_if_ne (tgt := 80) rfl rfl (fun _ => ?_) (fun w => absurd w (by decide))
          refine ev_ex 2 (c' := (82, [some (.ref 9), some (.ref 5), some (.int (nI n)), some (.int (nI i))], [.ref 9, .ref 9], hX c T4)) rfl ?_
          refine xe_gf (ci := 7) (k := 6) rfl rfl (ob_lit (i := 2) rfl (by decide) rfl) ⟨by decide, by decide⟩ (v := .int (xI T4 9 6)) rfl ?_
          rw [rd4.1.1]
          refine ev_ex 2 (c' := (87, [some (.ref 9), some (.ref 5), some (.int (nI n)), some (.int (nI i))], [.int (nI (vL t'.1) + 1), .ref 9], hX c T4)) rfl ?_
          rw [nI_1]
          refine xe_pi (ci := 7) (k := 6) rfl rfl (ob_lit (i := 2) rfl (by decide) rfl) ⟨by decide, by decide⟩ (Nat.le_of_ble_eq_true rfl) rfl (fi_7_6 _ _ _) ?_
          obtain ⟨rd5, k5⟩ := rd4.ln
          have tk5 : TKS (tI T4 9 6 (nI (vL t'.1 + 1))) f n h' := tks_frm tk4 (frm_I (S := fun b => b = 9) rfl _ _) (by decide) (by decide)
          refine ev_ex 2 (c' := (36, [some (.ref 9), some (.ref 5), some (.int (nI n)), some (.int (nI i + 1))], [], hX c (tI T4 9 6 (nI (vL t'.1 + 1))))) rfl ?_
          rw [nI_1]
          exact x_read_lp hR hf ok bad F h' _ r e er _ (i + 1) (((k3.tr k4).tr k5).up (by omega)) tk5 rd5 (TOK_L w3 (by omega)) (by show vL t'.1 + 1 ≤ h'; omega) (by omega)
        · subst er'
          refine ev_if_ne (tgt := 80) rfl rfl (fun w => absurd rfl w) (fun _ => ?_)
          refine ev_ex 1 (c' := (79, [some (.ref 9), some (.ref 5), some (.int (nI n)), some (.int (nI i))], [.null], hX c T4)) rfl ?_
          refine ev_retO (e := none) rfl rfl (Or.inl ⟨_, rfl⟩) ⟨_, _, rfl, rfl, ?_⟩
          exact bad T4 k p ((k3.bad b4).up (by omega)) (by rw [er]; exact congrArg some (Option.some.inj e).symm)
    · have z : kd f n h = 37 := (nI_inj (b := 37) (by omega) (by decide)).mp z
      rw [if_pos z] at e
      refine xe_new (ci := 2) (nf := 14) hR rfl rfl ⟨by decide, by decide⟩ ?_
      refine ev_ex 2 (c' := (67, [some (.ref 9), some (.ref 5), some (.int (nI n)), some (.int (nI i))], [.ref 9, .ref (4 * xn T3 + 3), .ref (4 * xn T3 + 3)], hX c (tN T3 2 0 14))) rfl ?_
      refine xc_V (idx := 72) rfl rfl rfl (Nat.le_of_ble_eq_true rfl) (Nat.le_of_ble_eq_true rfl) rfl (x_Cv_init2 (d := d + 4) (t := t) (Q := fun T' => grw noc T3 T' ∧ gw 9 2000 T3 T' ∧ CVT T' (4 * xn T3 + 3) t) hR rd3 tok (fun T' a b c' => ⟨a, b, c'⟩)) (fun T4 H => ?_)
      obtain ⟨g4, w4, cv⟩ := H
      refine ev_retO (e := some (4 * xn T3 + 3)) rfl rfl (Or.inl ⟨_, rfl⟩) ⟨_, _, rfl, rfl, ?_⟩
      exact ok T3 T4 h t (k3.up (by omega)) g4 w4 cv tok (by rw [er]; exact congrArg some (Option.some.inj e).symm)
end XR1
