/-! a carnival told to the class -/
section XP1
variable {c : CX} {d b n : Nat} {T T' T1 : XS} {t : TV} {A : AB} {f : Nat → Nat}
set_option maxRecDepth 8000 in
theorem x_read {Q : Option Nat → XS → Prop} (hR : RL c) (hf : fvok c) (hn : n ≤ 900) (hb : ∀ j, j < n → xA T 5 j = sgb (f j) ∧ f j < 256) (sd : SDF T)
    (ok : ∀ T' b h' t', RGX T T' → b % 4 = 3 → CVT T' b t' → TOK t' → carnP f n (n + 1) 0 tv0 = some (.inl (h', t')) → xI T' 13 6 = 0 → xI T' 13 7 = -1 → Q (some b) T') (bad : ∀ T' k p, RGX T T' → carnP f n (n + 1) 0 tv0 = some (.inr (k, p)) → xI T' 13 6 = nI k → xI T' 13 7 = nI p → Q none T') : XO c (d + 9) m_Rd_read [.ref 9, .ref 5, .int (nI n)] T Q := by
  refine ⟨q_Rd_read, rfl, Nat.le_of_ble_eq_true rfl, ?_⟩
  refine ev_ex 1 (c' := (1, [some (.ref 9), some (.ref 5), some (.int (nI n)), none], [.ref 9], hX c T)) rfl ?_
  refine xe_gf (ci := 7) (k := 0) rfl rfl (ob_lit (i := 2) rfl (by decide) rfl) ⟨by decide, by decide⟩ (v := .ref 13) rfl ?_
  refine ev_ex 2 (c' := (6, [some (.ref 9), some (.ref 5), some (.int (nI n)), none], [.int (nI n), .ref 5, .ref 13], hX c T)) rfl ?_
  refine xc_V (idx := 45) rfl rfl rfl (Nat.le_of_ble_eq_true rfl) (Nat.le_of_ble_eq_true rfl) (x_rcv (T := T) (ob_lit (i := 3) rfl (by decide) rfl) ⟨by decide, by decide⟩ _ _) (wx_Tk_begin (d := d + 7) (Q := fun T' => T' = (tI (tI (tI (tI (tR T 13 0 (some 5)) 13 1 (mnI (nI n) 900)) 13 2 0) 13 6 0) 13 7 ((-1)))) _ rfl) (fun T1 H => ?_)
  have em : mnI (nI n) 900 = nI n := by
    rw [show (900 : Int32) = nI 900 from rfl, mnI_nI (by omega) (by decide), show min n 900 = n by omega]
  rw [em] at H
  have f1 : frm (fun y => y = 13) T T1 := by
    rw [H]
    exact ((((frm_R (S := fun y => y = 13) rfl _).tr (frm_I (S := fun y => y = 13) rfl _ _)).tr (frm_I (S := fun y => y = 13) rfl _ _)).tr (frm_I (S := fun y => y = 13) rfl _ _)).tr (frm_I (S := fun y => y = 13) rfl _ _)
  have t1 : TKS T1 f n 0 := by
    refine ⟨?_, ?_, ?_, Nat.zero_le _, hn, fun j hj => by rw [f1.A (by decide)]; exact hb j hj⟩
    · rw [H]; exact frx_put (T := T) (a := 13) (k := 0) (Or.inr rfl)
    · rw [H, xI_nn _ _ _ _ (by decide), xI_nn _ _ _ _ (by decide), xI_nn _ _ _ _ (by decide), xI_at]
    · rw [H, xI_nn _ _ _ _ (by decide), xI_nn _ _ _ _ (by decide), xI_at]; rfl
  have z6 : xI T1 13 6 = 0 := by rw [H, xI_nn _ _ _ _ (by decide), xI_at]
  have z7 : xI T1 13 7 = -1 := by rw [H, xI_at]
  clear H
  refine ev_ex 2 (c' := (11, [some (.ref 9), some (.ref 5), some (.int (nI n)), none], [.int 0, .ref 9], hX c T1)) rfl ?_
  refine xe_pi (ci := 7) (k := 6) rfl rfl (ob_lit (i := 2) rfl (by decide) rfl) ⟨by decide, by decide⟩ (Nat.le_of_ble_eq_true rfl) rfl (fi_7_6 _ _ _) ?_
  refine ev_ex 2 (c' := (16, [some (.ref 9), some (.ref 5), some (.int (nI n)), none], [.int 0, .ref 9], hX c (tI T1 9 6 0))) rfl ?_
  refine xe_pi (ci := 7) (k := 7) rfl rfl (ob_lit (i := 2) rfl (by decide) rfl) ⟨by decide, by decide⟩ (Nat.le_of_ble_eq_true rfl) rfl (fi_7_7 _ _ _) ?_
  refine ev_ex 2 (c' := (21, [some (.ref 9), some (.ref 5), some (.int (nI n)), none], [.int 0, .ref 9], hX c (tI (tI T1 9 6 0) 9 7 0))) rfl ?_
  refine xe_pi (ci := 7) (k := 8) rfl rfl (ob_lit (i := 2) rfl (by decide) rfl) ⟨by decide, by decide⟩ (Nat.le_of_ble_eq_true rfl) rfl (fi_7_8 _ _ _) ?_
  have f2 : frm (fun y => y = 9) T1 (tI (tI (tI T1 9 6 0) 9 7 0) 9 8 0) := ((frm_I (S := fun y => y = 9) rfl _ _).tr (frm_I (S := fun y => y = 9) rfl _ _)).tr (frm_I (S := fun y => y = 9) rfl _ _)
  have t2 := tks_frm t1 f2 (by decide) (by decide)
  have a6 : xI (tI (tI (tI T1 9 6 0) 9 7 0) 9 8 0) 9 6 = 0 := by rw [xI_nn _ _ _ _ (by decide), xI_nn _ _ _ _ (by decide), xI_at]
  have a7 : xI (tI (tI (tI T1 9 6 0) 9 7 0) 9 8 0) 9 7 = 0 := by rw [xI_nn _ _ _ _ (by decide), xI_at]
  have a8 : xI (tI (tI (tI T1 9 6 0) 9 7 0) 9 8 0) 9 8 = 0 := xI_at _ _ _ _
  generalize tI (tI (tI T1 9 6 0) 9 7 0) 9 8 0 = T2 at *
  refine ev_ex 2 (c' := (26, [some (.ref 9), some (.ref 5), some (.int (nI n)), none], [.null, .ref 9], hX c T2)) rfl ?_
  refine xe_pr (ci := 7) (k := 9) (x := none) rfl rfl (ob_lit (i := 2) rfl (by decide) rfl) ⟨by decide, by decide⟩ (Nat.le_of_ble_eq_true rfl) (fr_7_9 _ _ _ (frx_put (Or.inr rfl))) ?_
  refine ev_ex 2 (c' := (31, [some (.ref 9), some (.ref 5), some (.int (nI n)), none], [.null, .ref 9], hX c (tR T2 9 9 none))) rfl ?_
  refine xe_pr (ci := 7) (k := 10) (x := none) rfl rfl (ob_lit (i := 2) rfl (by decide) rfl) ⟨by decide, by decide⟩ (Nat.le_of_ble_eq_true rfl) (fr_7_10 _ _ _ (frx_put (Or.inr rfl))) ?_
  refine ev_ex 2 (c' := (36, [some (.ref 9), some (.ref 5), some (.int (nI n)), some (.int 0)], [], hX c (tR (tR T2 9 9 none) 9 10 none))) rfl ?_
  have k3 : RFX 0 T (tR (tR T2 9 9 none) 9 10 none) := (((rfx_frm f1 (fun y hy => Or.inr (Or.inl hy))).tr (rfx_frm f2 (fun y hy => Or.inl hy))).tr (rfx_R9 9 none).1).tr (rfx_R9 10 none).1
  have rd3 : RDX (tR (tR T2 9 9 none) 9 10 none) tv0 := by
    refine ⟨⟨a6, a7, a8⟩, fun g hg => absurd hg (Nat.not_lt_zero g), fun g hg => absurd hg (Nat.not_lt_zero g), ⟨Or.inl ⟨?_, rfl⟩, Or.inl ⟨?_, rfl⟩⟩, f2.sdf (f1.sdf sd)⟩
    · rw [frx_j (by decide), frx_put (Or.inr rfl)]
    · exact frx_put (Or.inr rfl)
  have t3 : TKS (tR (tR T2 9 9 none) 9 10 none) f n 0 := t2
  have y6 : xI (tR (tR T2 9 9 none) 9 10 none) 13 6 = 0 := (f2.I (by decide) 6).trans z6
  have y7 : xI (tR (tR T2 9 9 none) 9 10 none) 13 7 = -1 := (f2.I (by decide) 7).trans z7
  generalize tR (tR T2 9 9 none) 9 10 none = T3 at *
  have i13 : ∀ {T : XS}, inb T 13 := i1_ rfl (by decide)
  match e : carnP f n (n + 1) 0 tv0 with
  | none => exact absurd e (carnP_none _ _ _ (Nat.zero_le _) hn TOK_0 (Nat.le_refl _) (by omega))
  | some r =>
    refine x_read_lp (d := d) (T := T3) (f := f) (n := n) hR hf (fun T4 T5 h' t' k4 g5 w5 cv tok e' => ?_) (fun T4 k p b4 e' => ?_) (n + 1) 0 tv0 r e e T3 0 RKX.rf t3 rd3 TOK_0 (Nat.le_refl _) (Nat.le_refl _)
    · rw [e'] at e
      exact ok T5 _ h' t' ⟨(k3.1.tr k4.1.1).tr (g5.mono (fun _ z => z.elim)), ((k3.2.tr k4.1.2).tr w5).up (by omega) (by omega)⟩ (by omega) cv tok e' (by rw [g5.I i13 id, k4.2.1]; exact y6) (by rw [g5.I i13 id, k4.2.2]; exact y7)
    · exact bad T4 k p ⟨k3.1.tr b4.1.1, (k3.2.tr b4.1.2).up (by omega) (by omega)⟩ e' b4.2.1 b4.2.2
theorem XINV.o1 (h : XINV T A) (hf : frm tpS T T') (ht : TPX T' n f) : XINV T' ((n, f), (xI T' 1 2, xI T' 1 3), A.2.2) := by
  have s49 := h.sh
  obtain ⟨h1, h2, ⟨ca, h3⟩, h4, h5⟩ := h
  have g := hf.grw
  have cv : ∀ ca v, CAR T ca v → cvN tpS T ca := fun ca v q => by
    rcases q.2.1 with rfl | z
    · exact ⟨by omega, ⟨by omega, by omega, by omega, by omega, by omega, by omega⟩, fun b m hb _ _ => by omega⟩
    · exact ⟨by omega, ⟨by omega, by omega, by omega, by omega, by omega, by omega⟩, fun b m hb _ _ => by omega⟩
  have f3 := h3.gr g (fun y hy e => by
    rcases e with e | e
    · have := own_1 s49 hy (by omega); omega
    · have := own_1 s49 hy (by omega); omega) (cv _ _ h3.2.1.2.1)
  exact ⟨ht, ⟨rfl, rfl⟩, ⟨ca, f3.1⟩, h4.gr g (by omega) (fun i f hi hf y hy e => by have := own_3 (h4.get hi hf).2.1 (h4.get hi hf).1 hy; omega) cv (fun y _ hy => by rw [own_eq f3.2] at hy; exact hy), h5.gr' g (by omega) (fun b hb h3 => ⟨by omega, by omega⟩)⟩
theorem rdS_no : ∀ y, rdS y → y % 4 = 1 ∧ y ≠ 1 ∧ y ≠ 5 ∧ y ≠ 109 ∧ y ≠ 113 ∧ y ≠ 49 ∧ y ≠ 89 ∧ y ≠ 93 ∧ y ≠ 97 ∧ y ≠ 101 ∧ y ≠ 105 ∧ y ≠ 53 ∧ y ≠ 65 ∧ y ≠ 69 ∧ y ≠ 73 ∧ y ≠ 77 ∧ y ≠ 81 ∧ y ≠ 85 := fun y hy => by
  rcases hy with h | h | h | h | h | h | h | h | h <;> omega
/-- what a carnival told leaves -/
def tld (A : AB) (n : Nat) : Option ((Nat × TV) ⊕ (Nat × Nat)) := carnP A.1.2 n (n + 1) 0 tv0
def aOk (A : AB) (t : TV) : AB := ((0, A.1.2), (0, -1), (t.1, sdT t, []), A.2.2.2)
def aBad (A : AB) (k p : Nat) : AB := ((0, A.1.2), (nI k, nI p), A.2.2)
theorem x_carnival {Q : Int32 → XS → Prop} {E : Nat → XS → Prop} (hR : RL c) (hf : fvok c) (h : XINV T A) (sd : SDF T) {a0 : Int32} (thr : ¬ (0 ≤ a0 ∧ a0 ≤ nI A.1.1) → E 1 (tN T 0 0 6)) (ok : ∀ m, a0 = nI m → m ≤ A.1.1 → (∀ h' t, tld A m = some (.inl (h', t)) → ∀ T', XINV T' (aOk A t) → gw 909 2900 T T' → TOK t → Q (nI (vL t.1)) T') ∧ ∀ k p, tld A m = some (.inr (k, p)) → ∀ T', XINV T' (aBad A k p) → gw 909 2900 T T' → Q (-10 - nI k) T') : XIt c (d + 10) m_X_carnival [.ref 1, .int a0] T Q E := by
  have e1 : xI T 1 1 = nI A.1.1 := h.1.1
  refine wx_X_carnival hR _ ?_
  rw [e1]
  refine ⟨fun z => thr (fun w => ?_), fun z => ⟨fun w => ?_, fun w => thr (fun y => w y.2)⟩⟩
  · have w1 := Int32.le_iff_toInt_le.mp w.1
    have w2 := Int32.lt_iff_toInt_lt.mp z
    omega
  have hN := h.1.2.1
  have z1 : 0 ≤ a0.toInt := by
    have w2 : ¬ a0.toInt < (0 : Int32).toInt := fun q => z (Int32.lt_iff_toInt_lt.mpr q)
    have w3 : (0 : Int32).toInt = 0 := rfl
    omega
  have w1 := Int32.le_iff_toInt_le.mp w
  rw [nI_toInt (by omega)] at w1
  have eg : a0 = nI a0.toInt.toNat := nI_of_toInt (by omega)
  have hm : a0.toInt.toNat ≤ A.1.1 := by omega
  have ok := ok _ eg hm
  generalize a0.toInt.toNat = m at *
  rw [eg]
  have fin : ∀ T1, RGX T T1 → XINV (tI (tI (tI T1 1 1 0) 1 2 (xI T1 13 6)) 1 3 (xI T1 13 7)) ((0, A.1.2), (xI T1 13 6, xI T1 13 7), A.2.2) ∧ gw 909 2900 T (tI (tI (tI T1 1 1 0) 1 2 (xI T1 13 6)) 1 3 (xI T1 13 7)) ∧ frm tpS T1 (tI (tI (tI T1 1 1 0) 1 2 (xI T1 13 6)) 1 3 (xI T1 13 7)) ∧ xI (tI (tI T1 1 1 0) 1 2 (xI T1 13 6)) 13 7 = xI T1 13 7 ∧ xI (tI T1 1 1 0) 13 6 = xI T1 13 6 := fun T1 g => by
    have h1 := h.gr g.1 rdS_no
    have fr : frm tpS T1 (tI (tI (tI T1 1 1 0) 1 2 (xI T1 13 6)) 1 3 (xI T1 13 7)) := ((frm_I (S := tpS) (Or.inl rfl) _ _).tr (frm_I (S := tpS) (Or.inl rfl) _ _)).tr (frm_I (S := tpS) (Or.inl rfl) _ _)
    have q1 : xI (tI (tI (tI T1 1 1 0) 1 2 (xI T1 13 6)) 1 3 (xI T1 13 7)) 1 1 = 0 := by rw [xI_nn _ _ _ _ (by decide), xI_nn _ _ _ _ (by decide), xI_at]
    have q2 : xI (tI (tI (tI T1 1 1 0) 1 2 (xI T1 13 6)) 1 3 (xI T1 13 7)) 1 2 = xI T1 13 6 := by rw [xI_nn _ _ _ _ (by decide), xI_at]
    have q3 : xI (tI (tI (tI T1 1 1 0) 1 2 (xI T1 13 6)) 1 3 (xI T1 13 7)) 1 3 = xI T1 13 7 := xI_at _ _ _ _
    have tp : TPX (tI (tI (tI T1 1 1 0) 1 2 (xI T1 13 6)) 1 3 (xI T1 13 7)) 0 A.1.2 := ⟨q1, Nat.zero_le _, fun j hj => absurd hj (Nat.not_lt_zero j)⟩
    have := h1.o1 fr tp
    rw [q2, q3] at this
    exact ⟨this, g.2.fr fr, fr, by rw [xI_nn _ _ _ _ (by decide), xI_nn _ _ _ _ (by decide)], xI_nn _ _ _ _ (by decide)⟩
  refine x_read (d := d) (f := A.1.2) hR hf (by omega) (fun j hj => h.1.2.2 j (by omega)) sd (fun T1 b h' t' g b3 cv tok e q6 q7 => ?_) (fun T1 k p g e q6 q7 => ?_)
  · obtain ⟨v1, v2, v3, v4, v5⟩ := fin T1 g
    refine wx_Rd_faultKind (wx_Rd_faultPlace ?_)
    rw [v5, v4]
    refine ⟨fun w => (by cases w), fun b' w => ?_⟩
    cases w
    rw [q6, q7] at v1 v2 v3
    rw [q6, q7]
    have cv2 := cv.fr b3 v3 (fun y hy e => by omega)
    refine x_frOpen (d := d + 6) v1 cv2 b3 tok (fun T' xi w' cv' => ?_)
    refine ⟨cv'.1.1, ?_⟩
    rw [cv'.1.2.2.1.1]
    exact ok.1 h' t' e T' xi ((v2.tr w').up (by decide) (by decide)) tok
  · obtain ⟨v1, v2, v3, v4, v5⟩ := fin T1 g
    refine wx_Rd_faultKind (wx_Rd_faultPlace ?_)
    rw [v5, v4]
    refine ⟨fun _ => ?_, fun b' w => (by cases w)⟩
    rw [q6, q7] at v1 v2
    rw [q6, q7, xI_at]
    exact ok.2 k p e _ v1 v2
end XP1
