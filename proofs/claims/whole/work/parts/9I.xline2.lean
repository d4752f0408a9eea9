/-! lines of the text, read by the class: each kind -/
section XN2
variable {c : CX} {d n h : Nat} {f : Nat → Nat} {T T' T1 T2 : XS} {t : TV} {r : (Nat × TV) ⊕ (Nat × Nat)} {Q : Bool → XS → Prop}
theorem leG {G x : Nat} (hG : G ≤ 10) (hx : x < 1000) : nI x ≤ nI G - 1 ↔ x < G := by
  by_cases z : G = 0
  · rw [z, show (nI 0 - 1 : Int32) = -1 from by decide]
    refine ⟨fun e => ?_, fun e => absurd e (Nat.not_lt_zero x)⟩
    have h1 := Int32.le_iff_toInt_le.mp e
    rw [nI_toInt (by omega)] at h1
    have h2 : (-1 : Int32).toInt = -1 := by decide
    omega
  · rw [show nI G - (1 : Int32) = nI (G - 1) from nI_sub (b := 1) (by omega), nI_leI (by omega) (by omega)]
    omega
theorem x_guildL (hf : fvok c) (q : TKA T f n h) (rd : RDX T t) (tok : TOK t) (hk : kd f n h = 0) (e : lineP f n h t = some r)
    (ok : ∀ h' t', r = .inl (h', t') → ∀ T', RKX 0 T T' → TKS T' f n h' → RDX T' t' → Q true T') (bad : ∀ k p, r = .inr (k, p) → ∀ T', RBX 0 T T' k p → Q false T') : XB c (d + 7) m_Rd_readGuild [.ref 9] T Q := by
  have hG : vG t.1 ≤ 10 := tok.1.1
  unfold lineP at e
  rw [if_pos hk] at e
  refine wx_Rd_readGuild ?_
  rw [rd.1.2.1, show (nI (vG t.1) < (10 : Int32)) = (vG t.1 < 10) from propext (nI_ltI (b := 10) (by omega) (by decide)), ix_nI (by omega), nI_1]
  refine ⟨fun z => ⟨okn z (by decide), ?_⟩, fun z => ?_⟩
  · rw [if_pos z] at e
    have f0 : frm (fun b => b = 9 ∨ b = 37) T (tA (tI T 9 7 (nI (vG t.1 + 1))) 37 (vG t.1) (-1)) := (frm_I (S := fun b => b = 9 ∨ b = 37) (Or.inl rfl) _ _).tr (frm_A (S := fun b => b = 9 ∨ b = 37) (Or.inr rfl) _ _)
    have i0 : ∀ k, xI (tA (tI T 9 7 (nI (vG t.1 + 1))) 37 (vG t.1) (-1)) 9 k = if k = 7 then nI (vG t.1 + 1) else xI T 9 k := fun k => by
      show (if 9 = 9 ∧ k = 7 then _ else _) = _
      by_cases y : k = 7
      · rw [if_pos y, if_pos ⟨rfl, y⟩]
      · rw [if_neg y, if_neg (fun u => y u.2)]
    have a0 : ∀ y, xA (tA (tI T 9 7 (nI (vG t.1 + 1))) 37 (vG t.1) (-1)) 37 y = if y = vG t.1 then -1 else xA T 37 y := fun y => by
      rw [xA_A, if_pos rfl]; rfl
    have j0 : ∀ a k, a ≠ 9 → xI (tA (tI T 9 7 (nI (vG t.1 + 1))) 37 (vG t.1) (-1)) a k = xI T a k := fun a k ha => if_neg (fun u => ha u.1)
    generalize tA (tI T 9 7 (nI (vG t.1 + 1))) 37 (vG t.1) (-1) = T0 at *
    suffices H : ∀ (m k : Nat) (T1 : XS), k + m = 5 → frm (fun b => b = 33) T0 T1 → (∀ j, j < k → xA T1 33 (j * 10 + vG t.1) = nI (ffs j)) → (∀ j y, y < 10 → y ≠ vG t.1 → xA T1 33 (j * 10 + y) = xA T0 33 (j * 10 + y)) → eX c (d + 7) m_Rd_readGuild 42 [some (.ref 9), some (.int (nI (vG t.1))), some (.int (nI k)), none] T1 (yB c Q) from H 5 0 T0 rfl frm.rf (fun j hj => absurd hj (Nat.not_lt_zero j)) (fun j y _ _ => rfl)
    intro m
    induction m with
    | zero =>
      intro k T1 hk1 f1 b1 b2
      refine wx_Rd_readGuild_42 _ _ ⟨fun _ => ?_, fun y => absurd ((nI_leI (a := 5) (by decide) (by omega)).mpr (by omega)) y⟩
      have rd1 : RDX T1 (tvG t (vG t.1 + 1)) := by
        obtain ⟨⟨q0, q1, q2⟩, q3, q4, ⟨q5, q6⟩, q7⟩ := rd
        refine ⟨⟨?_, ?_, ?_⟩, fun g hg => ⟨?_, fun j hj => ?_⟩, fun i hi => ?_, ⟨?_, ?_⟩, f1.sdf (f0.sdf q7)⟩
        · rw [f1.I (by decide), i0, if_neg (by decide)]; exact q0
        · rw [f1.I (by decide), i0, if_pos rfl]; rfl
        · rw [f1.I (by decide), i0, if_neg (by decide)]; exact q2
        · rw [f1.A (by decide), a0]
          have hg : g < vG t.1 + 1 := hg
          split
          · rename_i u
            show _ = oI (t.2 g)
            rw [u]
            cases w : t.2 (vG t.1) with
            | none => rfl
            | some x => exact absurd (tok.2.1 _ _ w).1 (Nat.lt_irrefl _)
          · exact (q3 g (by omega)).1
        · have hg : g < vG t.1 + 1 := hg
          by_cases u : g = vG t.1
          · rw [u, b1 j (by omega)]
            exact congrArg nI (tok.2.2.2 j _ (Nat.le_refl _)).symm
          · rw [b2 j g (by omega) u, f0.A (by decide)]
            exact (q3 g (by omega)).2 j hj
        · rw [f1.A (by decide), f1.A (by decide), f0.A (by decide), f0.A (by decide)]; exact q4 i hi
        · rw [f1.fx (Or.inr (by decide)), f0.fx (Or.inl (by decide))]; exact f1.law (f0.law q5 (fun b h3 _ => by omega)) (fun b h3 _ => by omega)
        · rw [f1.fx (Or.inr (by decide)), f0.fx (Or.inl (by decide))]; exact f1.law (f0.law q6 (fun b h3 _ => by omega)) (fun b h3 _ => by omega)
      have tk1 : TKS T1 f n (nx f n h) := tks_frm (tks_frm q.1 f0 (by decide) (by decide)) f1 (by decide) (by decide)
      have kk : RKX 0 T T1 := ⟨(rfx_frm f0 (fun b hb => by omega)).tr (rfx_frm f1 (fun b hb => by omega)), by rw [f1.I (by decide), j0 _ _ (by decide)], by rw [f1.I (by decide), j0 _ _ (by decide)]⟩
      exact x_guild_lp hf _ _ _ r e T1 0 tk1 rd1 z (Nat.lt_succ_self _) (Nat.zero_le _) (fun h' t' er T' k4 tk4 rd4 => ok h' t' er T' (kk.tr k4) tk4 rd4) (fun k p er T' b => bad k p er T' (kk.bad b))
    | succ m ih =>
      intro k T1 hk1 f1 b1 b2
      refine wx_Rd_readGuild_42 _ _ ⟨fun y => absurd ((nI_leI (a := 5) (by decide) (by omega)).mp y) (by omega), fun _ => ⟨okn (by omega) (by decide), ?_, ?_⟩⟩
      · rw [show nI k * (10 : Int32) = nI (k * 10) from nI_mul _ 10, nI_add]
        exact okn (by omega) (by decide)
      · rw [show nI k * (10 : Int32) = nI (k * 10) from nI_mul _ 10, nI_add, ix_nI (by omega), ix_nI (by omega), (fl_i k (by omega)).2.2, nI_1]
        refine ih (k + 1) _ (by omega) (f1.tr (frm_A (S := fun b => b = 33) rfl _ _)) (fun j hj => ?_) (fun j y hy hy2 => ?_)
        · rw [xA_A, if_pos rfl]
          show (if _ = _ then _ else _) = _
          by_cases w : j = k
          · rw [if_pos (by rw [w]), w]
          · rw [if_neg (by omega)]; exact b1 j (by omega)
        · rw [xA_A, if_pos rfl]
          show (if _ = _ then _ else _) = _
          rw [if_neg (by omega)]
          exact b2 j y hy hy2
  · rw [if_neg z] at e
    exact x_ref (k := 4) q (fun T' b => bad _ _ (Option.some.inj e).symm T' b)
theorem one_n {a : Nat} (h : a < 10) : one (nI a) = true := decide_eq_true ⟨(nI_leI (a := 0) (by decide) (by omega)).mpr (by omega), (nI_ltI (b := 10) (by omega) (by decide)).mpr h⟩
theorem x_mocksL (hf : fvok c) (q : TKA T f n h) (rd : RDX T t) (tok : TOK t) (hk : kd f n h = 1) (e : lineP f n h t = some r)
    (ok : ∀ h' t', r = .inl (h', t') → ∀ T', RKX 0 T T' → TKS T' f n h' → RDX T' t' → Q true T') (bad : ∀ k p, r = .inr (k, p) → ∀ T', RBX 0 T T' k p → Q false T') : XB c (d + 7) m_Rd_readMocks [.ref 9] T Q := by
  have hG : vG t.1 ≤ 10 := tok.1.1
  unfold lineP at e
  rw [if_neg (by omega), if_pos hk] at e
  refine wx_Rd_readMocks (x_move (d := d) hf q.1 (fun T1 m1 ta1 => ?_))
  have rd1 := rd.mv m1
  have k1 := m1.k
  rw [rd1.1.2.1]
  refine x_num (d := d + 5) (lo := 0) ta1 (by decide) (fun x hx => leG hG hx) e (fun y1 y2 y3 y4 y5 => ⟨fun _ => ?_, fun w => (by cases w)⟩) (fun k p er T' b => ⟨fun w => (by cases w), fun _ => bad k p er T' (k1.bad b)⟩)
  have y4 : numP f n (nx f n (nx f n h)) 0 (vG t.1) (fun b => if vl f n (nx f n h) = b then ft f n (nx f n (nx f n h)) 3 else stopP f n (nx f n (nx f n (nx f n h))) (tvW t (vl f n (nx f n h)) b)) = some r := y4
  refine x_move (d := d) hf ta1.1 (fun T2 m2 ta2 => ?_)
  have rd2 := rd1.mv m2
  have k2 := k1.tr m2.k
  rw [rd2.1.2.1]
  refine x_num (d := d + 5) (lo := 0) ta2 (by decide) (fun x hx => leG hG hx) y4 (fun x1 x2 x3 x4 x5 => ⟨fun _ => ?_, fun w => (by cases w)⟩) (fun k p er T' b => ⟨fun w => (by cases w), fun _ => bad k p er T' (k2.bad b)⟩)
  have x4 : (if vl f n (nx f n h) = vl f n (nx f n (nx f n h)) then ft f n (nx f n (nx f n h)) 3 else stopP f n (nx f n (nx f n (nx f n h))) (tvW t (vl f n (nx f n h)) (vl f n (nx f n (nx f n h))))) = some r := x4
  rw [y5, x5, show (nI (vl f n (nx f n h)) = nI (vl f n (nx f n (nx f n h)))) = (vl f n (nx f n h) = vl f n (nx f n (nx f n h))) from propext (nI_inj (by omega) (by omega)), one_n (by omega), ix_nI (by omega)]
  refine ⟨fun u => ⟨fun w => (by cases w), fun _ => ⟨okn (by omega) (by decide), ?_⟩⟩, fun u => ?_⟩
  · rw [if_neg u] at x4
    have f3 : frm (fun b => b = 37) T2 (tA T2 37 (vl f n (nx f n h)) (nI (vl f n (nx f n (nx f n h))))) := frm_A (S := fun b => b = 37) rfl _ _
    have k3 : RKX 0 T2 (tA T2 37 (vl f n (nx f n h)) (nI (vl f n (nx f n (nx f n h))))) := ⟨rfx_frm f3 (fun b hb => by omega), rfl, rfl⟩
    have rd3 : RDX (tA T2 37 (vl f n (nx f n h)) (nI (vl f n (nx f n (nx f n h))))) (tvW t (vl f n (nx f n h)) (vl f n (nx f n (nx f n h)))) := by
      obtain ⟨q0, q3, q4, ⟨q5, q6⟩, q7⟩ := rd2
      refine ⟨q0, fun g hg => ?_, q4, ⟨f3.law q5 (fun b h3 _ => by omega), f3.law q6 (fun b h3 _ => by omega)⟩, f3.sdf q7⟩
      rw [f3.A (a := 33) (by decide), xA_A, if_pos rfl]
      refine ⟨?_, (q3 g hg).2⟩
      show (if _ = _ then _ else _) = oI (if _ = _ then _ else _)
      split
      · rfl
      · exact (q3 g hg).1
    have tk3 := tks_frm ta2.1 f3 (by decide) (by decide)
    generalize tA T2 37 (vl f n (nx f n h)) (nI (vl f n (nx f n (nx f n h)))) = T3 at *
    refine x_move (d := d) hf tk3 (fun T4 m4 ta4 => ?_)
    have k4 := (k2.tr k3).tr m4.k
    exact x_semi (d := d + 5) ta4 x4 (fun er => ok _ _ er T4 k4 ta4.1 (rd3.mv m4)) (fun k p er T' b => bad k p er T' (k4.bad b))
  · rw [if_pos u] at x4
    exact x_ref (k := 3) ta2 (fun T' b => bad _ _ (Option.some.inj x4).symm T' (k2.bad b))
theorem x_streetL (hf : fvok c) (q : TKA T f n h) (rd : RDX T t) (tok : TOK t) (hk : kd f n h = 4) (e : lineP f n h t = some r)
    (ok : ∀ h' t', r = .inl (h', t') → ∀ T', RKX 0 T T' → TKS T' f n h' → RDX T' t' → Q true T') (bad : ∀ k p, r = .inr (k, p) → ∀ T', RBX 0 T T' k p → Q false T') : XB c (d + 7) m_Rd_readStreet [.ref 9] T Q := by
  have hT : vT t.1 ≤ 12 := tok.1.2.1
  have k40 := kd_40 f n (nx f n h)
  unfold lineP at e
  rw [if_neg (by omega), if_neg (by omega), if_neg (by omega), if_neg (by omega), if_pos hk] at e
  refine wx_Rd_readStreet ?_
  rw [rd.1.2.2, show (nI (vT t.1) < (12 : Int32)) = (vT t.1 < 12) from propext (nI_ltI (b := 12) (by omega) (by decide))]
  refine ⟨fun z => ?_, fun z => ?_⟩
  · rw [if_pos z] at e
    refine x_move (d := d) hf q.1 (fun T1 m1 ta1 => ?_)
    have rd1 := rd.mv m1
    have k1 := m1.k
    rw [ta1.2.2.2.1, rd1.1.2.2, show (nI (kd f n (nx f n h)) < (10 : Int32)) = (kd f n (nx f n h) < 10) from propext (nI_ltI (b := 10) (by omega) (by decide)), show (nI (kd f n (nx f n h)) ≤ (13 : Int32)) = (kd f n (nx f n h) ≤ 13) from propext (nI_leI (b := 13) (by omega) (by decide)), ix_nI (by omega)]
    have no : ¬ (10 ≤ kd f n (nx f n h) ∧ kd f n (nx f n h) ≤ 13) → XB c (d + 6) m_Tk_refuse [.ref 13, .int 2] T1 (fun v T' => Q v T') := fun y => by
      rw [if_neg y] at e
      exact x_ref (k := 2) ta1 (fun T' b => bad _ _ (Option.some.inj e).symm T' (k1.bad b))
    refine ⟨fun y => no (by omega), fun y => ⟨fun w => ⟨okn z (by decide), ?_⟩, fun w => no (by omega)⟩⟩
    rw [if_pos ⟨by omega, w⟩] at e
    rw [show nI (kd f n (nx f n h)) - (10 : Int32) = nI (kd f n (nx f n h) - 10) from nI_sub (b := 10) (by omega)]
    have f2 : frm (fun b => b = 41) T1 (tA T1 41 (vT t.1) (nI (kd f n (nx f n h) - 10))) := frm_A (S := fun b => b = 41) rfl _ _
    have k2 : RKX 0 T1 (tA T1 41 (vT t.1) (nI (kd f n (nx f n h) - 10))) := ⟨rfx_frm f2 (fun b hb => by omega), rfl, rfl⟩
    have a2 : ∀ i, xA (tA T1 41 (vT t.1) (nI (kd f n (nx f n h) - 10))) 41 i = if i = vT t.1 then nI (kd f n (nx f n h) - 10) else xA T1 41 i := fun i => by rw [xA_A, if_pos rfl]; rfl
    have tk2 := tks_frm ta1.1 f2 (by decide) (by decide)
    have rd2 : RDX (tA T1 41 (vT t.1) (nI (kd f n (nx f n h) - 10))) t := by
      obtain ⟨q0, q3, q4, ⟨q5, q6⟩, q7⟩ := rd1
      refine ⟨q0, q3, fun i hi => ?_, ⟨f2.law q5 (fun b h3 _ => by omega), f2.law q6 (fun b h3 _ => by omega)⟩, f2.sdf q7⟩
      rw [f2.A (a := 45) (by decide), a2, if_neg (by omega)]
      exact q4 i hi
    generalize tA T1 41 (vT t.1) (nI (kd f n (nx f n h) - 10)) = T2 at *
    refine x_move (d := d) hf tk2 (fun T3 m3 ta3 => ?_)
    have rd3 := rd2.mv m3
    have k3 := (k1.tr k2).tr m3.k
    refine x_num (d := d + 5) (lo := 1) (hb := 21) ta3 (by decide) (fun x hx => by rw [show (20 : Int32) = nI 20 from rfl, nI_leI (by omega) (by decide)]; omega) e (fun y1 y2 y3 y4 y5 => ⟨fun _ => ?_, fun w => (by cases w)⟩) (fun k p er T' b => ⟨fun w => (by cases w), fun _ => bad k p er T' (k3.bad b)⟩)
    have y4 : stopP f n (nx f n (nx f n (nx f n h))) (tvS t (kd f n (nx f n h) - 10) (vl f n (nx f n (nx f n h)))) = some r := y4
    rw [rd3.1.2.2, y5, ix_nI (by omega), nI_1]
    refine ⟨okn z (by decide), ?_⟩
    have f4 : frm (fun b => b = 9 ∨ b = 45) T3 (tI (tA T3 45 (vT t.1) (nI (vl f n (nx f n (nx f n h))))) 9 8 (nI (vT t.1 + 1))) := (frm_A (S := fun b => b = 9 ∨ b = 45) (Or.inr rfl) _ _).tr (frm_I (S := fun b => b = 9 ∨ b = 45) (Or.inl rfl) _ _)
    have k4 : RKX 0 T3 (tI (tA T3 45 (vT t.1) (nI (vl f n (nx f n (nx f n h))))) 9 8 (nI (vT t.1 + 1))) := ⟨rfx_frm f4 (fun b hb => by omega), f4.I (by decide) 6, f4.I (by decide) 7⟩
    have tk4 := tks_frm ta3.1 f4 (by decide) (by decide)
    have rd4 : RDX (tI (tA T3 45 (vT t.1) (nI (vl f n (nx f n (nx f n h))))) 9 8 (nI (vT t.1 + 1))) (tvS t (kd f n (nx f n h) - 10) (vl f n (nx f n (nx f n h)))) := by
      obtain ⟨⟨q0, q1, q2⟩, q3, q4, ⟨q5, q6⟩, q7⟩ := rd3
      refine ⟨⟨(xI_nn _ _ _ _ (by decide)).trans q0, (xI_nn _ _ _ _ (by decide)).trans q1, xI_at _ _ _ _⟩, q3, fun i hi => ?_, ⟨f4.law q5 (fun b h3 _ => by omega), f4.law q6 (fun b h3 _ => by omega)⟩, f4.sdf q7⟩
      have hi : i < vT t.1 + 1 := hi
      show xA T3 41 i = nI (up1 _ _ _ i) ∧ xA (tA T3 45 (vT t.1) (nI (vl f n (nx f n (nx f n h))))) 45 i = nI (up1 _ _ _ i)
      rw [xA_A, if_pos rfl, m3.1.A (a := 41) (by decide), a2]
      show _ ∧ (if _ = _ then _ else _) = _
      unfold up1
      by_cases u : i = vT t.1
      · rw [if_pos u, if_pos u, if_pos u, if_pos u]; exact ⟨rfl, rfl⟩
      · rw [if_neg u, if_neg u, if_neg u, if_neg u]
        have := q4 i (by show i < vT t.1; omega)
        rw [m3.1.A (a := 41) (by decide), a2, if_neg u] at this
        exact this
    generalize tI (tA T3 45 (vT t.1) (nI (vl f n (nx f n (nx f n h))))) 9 8 (nI (vT t.1 + 1)) = T4 at *
    refine x_move (d := d) hf tk4 (fun T5 m5 ta5 => ?_)
    have k5 := (k3.tr k4).tr m5.k
    exact x_semi (d := d + 5) ta5 y4 (fun er => ok _ _ er T5 k5 ta5.1 (rd4.mv m5)) (fun k p er T' b => bad k p er T' (k5.bad b))
  · rw [if_neg z] at e
    exact x_ref (k := 4) q (fun T' b => bad _ _ (Option.some.inj e).symm T' b)
end XN2
