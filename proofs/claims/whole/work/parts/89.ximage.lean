/-! images of the class -/
def updI (im : Nat → Option FA) (i : Nat) (a : FA) : Nat → Option FA := fun j => if j = i then some a else im j
section XM1
variable {c : CX} {d : Nat} {T T' : XS} {f ca i : Nat} {A : AB} {a : FA}
theorem XINV.im (h : XINV T A) (hi : i < 3) (g : grw (fun y => y = 109 ∨ ∃ fi, xQ T 109 i = some fi ∧ own T fi y) T T') (hQ : ∀ j, xQ T' 109 j = if j = i then some f else xQ T 109 j) (h3 : f % 4 = 3) (hF : FAIR T' f ca a.1 a.2.1 a.2.2) (hw : ∀ y, old T y → own T' f y → ∃ fi, xQ T 109 i = some fi ∧ own T fi y) (hn : xQ T 109 i = some f ∨ ¬ old T f) : XINV T' (A.1, A.2.1, A.2.2.1, updI A.2.2.2.1 i a, A.2.2.2.2) := by
  have s49 := h.sh
  obtain ⟨h1, h2, ⟨cb, h49⟩, h4, h5⟩ := h
  generalize eS : (fun y => y = 109 ∨ ∃ fi, xQ T 109 i = some fi ∧ own T fi y) = S at *
  have hS : ∀ y, S y ↔ (y = 109 ∨ ∃ fi, xQ T 109 i = some fi ∧ own T fi y) := fun y => by rw [← eS]
  have no1 : ∀ y, y % 4 = 1 → y ≠ 109 → ¬ S y := fun y y1 y2 e => by
    rcases (hS y).mp e with e | ⟨fi, e1, e2⟩
    · exact y2 e
    · have := own_3 (h4.get hi e1).2.1 (h4.get hi e1).1 e2
      omega
  have nof : ∀ f', isF T f' → (∀ fi, xQ T 109 i = some fi → f' ≠ fi) → FSH T f' → (f' % 4 = 3 ∨ f' = 49) → ∀ y, own T f' y → ¬ S y := fun f' hf hne hs hm y hy e => by
    rcases (hS y).mp e with e | ⟨fi, e1, e2⟩
    · rcases hm with hm | hm
      · have := own_3 hs hm hy; omega
      · subst hm
        have := own_1 hs hy (by omega)
        omega
    · exact h4.2.2 f' fi hf (Or.inr ⟨i, hi, e1⟩) (hne fi e1) y hy e2
  have cv : ∀ ca v, CAR T ca v → cvN S T ca := fun ca v q => by
    have q109 : cvN (fun y => y = 109) T ca := by
      rcases q.2.1 with rfl | z
      · exact ⟨by omega, ⟨by omega, by omega, by omega, by omega, by omega, by omega⟩, fun b m hb _ _ => by omega⟩
      · exact ⟨by omega, ⟨by omega, by omega, by omega, by omega, by omega, by omega⟩, fun b m hb _ _ => by omega⟩
    cases e : xQ T 109 i with
    | none =>
      refine q109.mono (fun y hy => ?_)
      rcases (hS y).mp hy with w | ⟨fi, e1, _⟩
      · exact w
      · rw [e] at e1; cases e1
    | some fi =>
      refine (q109.un (own_cv (h4.get hi e).2.1 q)).mono (fun y hy => ?_)
      rcases (hS y).mp hy with w | ⟨fi', e1, e2⟩
      · exact Or.inl w
      · rw [e] at e1
        cases e1
        exact Or.inr e2
  have n49 : ∀ fi, xQ T 109 i = some fi → 49 ≠ fi := fun fi e => by have := (h4.get hi e).1; omega
  have f49 := h49.gr g (nof 49 (Or.inl rfl) n49 s49 (Or.inr rfl)) (cv _ _ h49.2.1.2.1)
  have oth : ∀ j f', j < 3 → j ≠ i → xQ T 109 j = some f' → ∀ y, own T f' y → ¬ S y := fun j f' hj hne e => nof f' (Or.inr ⟨j, hj, e⟩) (fun fi e1 z => hne (h4.2.1 j i f' hj hi e (by rw [e1, z]))) (h4.get hj e).2.1 (Or.inl (h4.get hj e).1)
  have oeq : ∀ j f', j < 3 → j ≠ i → xQ T 109 j = some f' → own T' f' = own T f' := fun j f' hj hne e => by
    obtain ⟨_, _, ca, a, _, w⟩ := h4.get hj e
    exact own_eq (w.gr g (oth j f' hj hne e) (cv _ _ w.2.1.2.1)).2
  have ffn : ∀ j f', j < 3 → j ≠ i → xQ T 109 j = some f' → f' ≠ f := fun j f' hj hne e z => by
    rcases hn with w | w
    · exact hne (h4.2.1 j i f hj hi (by rw [e, z]) w)
    · exact w (by rw [← z]; exact (h4.get hj e).2.1.1.1.1.ol)
  have dj : ∀ f', isF T' f' → f' ≠ f → ∀ y, own T' f y → ¬ own T' f' y := fun f' hf' hne y hy hy' => by
    rcases hf' with w | ⟨j, hj, w⟩
    · subst w
      rw [own_eq f49.2] at hy'
      obtain ⟨fi, e1, e2⟩ := hw y (own_in s49 hy').ol hy
      exact h4.2.2 49 fi (Or.inl rfl) (Or.inr ⟨i, hi, e1⟩) (n49 fi e1) y hy' e2
    · rw [hQ] at w
      by_cases z : j = i
      · rw [if_pos z] at w
        exact hne (Option.some.inj w).symm
      · rw [if_neg z] at w
        rw [oeq j f' hj z w] at hy'
        obtain ⟨fi, e1, e2⟩ := hw y (own_in (h4.get hj w).2.1 hy').ol hy
        exact h4.2.2 f' fi (Or.inr ⟨j, hj, w⟩) (Or.inr ⟨i, hi, e1⟩) (fun u => z (h4.2.1 j i f' hj hi w (by rw [e1, u]))) y hy' e2
  refine ⟨h1.gr g (no1 _ rfl (by decide)) (no1 _ rfl (by decide)), ⟨by rw [g.I in1 (no1 _ rfl (by decide))]; exact h2.1, by rw [g.I in1 (no1 _ rfl (by decide))]; exact h2.2⟩, ⟨cb, f49.1⟩, ⟨fun j hj => ?_, fun j k f' hj hk e1 e2 => ?_, fun f' f'' hf' hf'' hne y hy hy' => ?_⟩, h5.gr' g (no1 _ rfl (by decide)) (fun b hb b3 => ?_)⟩
  · by_cases z : j = i
    · exact Or.inr ⟨f, ca, a, if_pos z, by rw [hQ, if_pos z], h3, hF⟩
    · rcases h4.1 j hj with w | ⟨f', ca', a', w1, w2, w3, w4⟩
      · exact Or.inl ⟨(if_neg z).trans w.1, by rw [hQ, if_neg z]; exact w.2⟩
      · exact Or.inr ⟨f', ca', a', (if_neg z).trans w1, by rw [hQ, if_neg z]; exact w2, w3, (w4.gr g (oth j f' hj z w2) (cv _ _ w4.2.1.2.1)).1⟩
  · rw [hQ] at e1 e2
    by_cases zj : j = i
    · by_cases zk : k = i
      · rw [zj, zk]
      · rw [if_pos zj] at e1
        rw [if_neg zk] at e2
        exact absurd (Option.some.inj e1).symm (ffn k f' hk zk e2)
    · rw [if_neg zj] at e1
      by_cases zk : k = i
      · rw [if_pos zk] at e2
        exact absurd (Option.some.inj e2).symm (ffn j f' hj zj e1)
      · rw [if_neg zk] at e2
        exact h4.2.1 j k f' hj hk e1 e2
  · by_cases z1 : f' = f
    · subst z1
      exact dj f'' hf'' (fun u => hne u.symm) y hy hy'
    · by_cases z2 : f'' = f
      · subst z2
        exact dj f' hf' z1 y hy' hy
      · have old' : ∀ g', isF T' g' → g' ≠ f → isF T g' ∧ own T' g' = own T g' := fun g' hg hne => by
          rcases hg with w | ⟨j, hj, w⟩
          · subst w
            exact ⟨Or.inl rfl, own_eq f49.2⟩
          · rw [hQ] at w
            by_cases z : j = i
            · rw [if_pos z] at w
              exact absurd (Option.some.inj w).symm hne
            · rw [if_neg z] at w
              exact ⟨Or.inr ⟨j, hj, w⟩, oeq j g' hj z w⟩
        obtain ⟨u1, u2⟩ := old' f' hf' z1
        obtain ⟨u3, u4⟩ := old' f'' hf'' z2
        rw [u2] at hy
        rw [u4] at hy'
        exact h4.2.2 f' f'' u1 u3 hne y hy hy'
  · refine ⟨fun e => ?_, fun e => ?_⟩
    · rcases (hS _).mp e with w | ⟨fi, e1, e2⟩
      · omega
      · exact (own_ty (h4.get hi e1).2.1 hb).1 e2
    · rcases (hS _).mp e with w | ⟨fi, e1, e2⟩
      · omega
      · exact (own_ty (h4.get hi e1).2.1 hb).2 e2
/-- a fair made -/
theorem x_Fr_init {Q : XS → Prop} (hR : RL c) {T0 : XS} (hq : ∀ T', grw noc T0 T' → (xn T' = xn T0 + 6 ∧ xk T' = xk T0 + 48) → FSH T' (4 * xn T0 + 3) → (∀ i, xQ T' (fP (4 * xn T0 + 3)) i = none) → Q T') : XV c (d + 2) m_Fr_init [.ref (4 * xn T0 + 3), .ref ca] (tN T0 4 0 3) Q := by
  have o1 := new_ob T0 4 0 3
  have g1 : grw noc T0 (tN T0 4 0 3) := grw.rf.N 4 0 3
  have n1 : xn (tN T0 4 0 3) = xn T0 + 1 ∧ xk (tN T0 4 0 3) = xk T0 + 3 := ⟨rfl, rfl⟩
  have hnew : ¬ old T0 (4 * xn T0 + 3) := fun q => by have := q (by omega); omega
  have h3 : (4 * xn T0 + 3) % 4 = 3 := by omega
  generalize ea : 4 * xn T0 + 3 = a at *
  generalize tN T0 4 0 3 = T1 at *
  refine ⟨q_Fr_init, rfl, Nat.le_of_ble_eq_true rfl, ?_⟩
  refine ev_ex 1 (c' := (1, [some (.ref a), some (.ref ca)], [.ref a], hX c T1)) rfl ?_
  refine ev_obj rfl rfl (Nat.le_of_ble_eq_true rfl) ?_
  refine ev_ex 2 (c' := (7, [some (.ref a), some (.ref ca)], [.int 10, .ref a], hX c T1)) rfl ?_
  refine xe_nas (n := 10) hR rfl rfl (by decide) ?_
  have e1 : 4 * xn T1 + 3 = a + 4 := by omega
  rw [e1]
  refine xe_pr (ci := 4) (k := 1) (x := some (a + 4)) rfl rfl ((grw.rf.N 23 10 10).o (S := noc) o1) ⟨by decide, by decide⟩ (Nat.le_of_ble_eq_true rfl) (fr_4_1 _ _ _ (frx_put (Or.inl h3))) ?_
  have g2 : grw noc T0 (tR (tN T1 23 10 10) a 1 (some (a + 4))) := (g1.N 23 10 10).R hnew _ _
  have o2 : ob (tR (tN T1 23 10 10) a 1 (some (a + 4))) a 4 := (grw.rf.N 23 10 10).o (S := noc) o1
  have n2 : xn (tR (tN T1 23 10 10) a 1 (some (a + 4))) = xn T1 + 1 ∧ xk (tR (tN T1 23 10 10) a 1 (some (a + 4))) = xk T1 + 10 := ⟨rfl, rfl⟩
  have f1 : frx (tR (tN T1 23 10 10) a 1 (some (a + 4))) a 1 = some (a + 4) := frx_put (Or.inl h3)
  have w1 : ar (tR (tN T1 23 10 10) a 1 (some (a + 4))) (a + 4) 23 10 := by rw [← e1]; exact new_ar T1 23 10 10
  have u1 : ∀ i, xQ (tR (tN T1 23 10 10) a 1 (some (a + 4))) (a + 4) i = none := fun i => by
    show (if a + 4 = 4 * xn T1 + 3 then none else xQ T1 (a + 4) i) = none
    rw [if_pos e1.symm]
  generalize tR (tN T1 23 10 10) a 1 (some (a + 4)) = T2 at *
  refine ev_ex 1 (c' := (14, [some (.ref a), some (.ref ca)], [.ref a], hX c T2)) rfl ?_
  refine xe_new (ci := 9) (nf := 5) hR rfl rfl ⟨by decide, by decide⟩ ?_
  have e2 : 4 * xn T2 + 3 = a + 8 := by omega
  refine ev_ex 2 (c' := (19, [some (.ref a), some (.ref ca)], [.ref ca, .ref (4 * xn T2 + 3), .ref (4 * xn T2 + 3), .ref a], hX c (tN T2 9 0 5))) rfl ?_
  refine xc_V (idx := 17) rfl rfl rfl (Nat.le_of_ble_eq_true rfl) (Nat.le_of_ble_eq_true rfl) rfl (x_Sd_init (d := d) hR (fun T3 a1 a2 a3 a4 => (⟨a1, a2, a3⟩ : (fun T3 => grw noc T2 T3 ∧ (xn T3 = xn T2 + 4 ∧ xk T3 = xk T2 + 35) ∧ SdS T3 (4 * xn T2 + 3)) T3))) (fun T3 H => ?_)
  obtain ⟨g3, n3, s3⟩ := H
  rw [e2] at *
  refine ev_ex 0 (c' := (22, [some (.ref a), some (.ref ca)], [.ref (a + 8), .ref a], hX c T3)) rfl ?_
  refine xe_pr (ci := 4) (k := 0) (x := some (a + 8)) rfl rfl (g3.o o2) ⟨by decide, by decide⟩ (Nat.le_of_ble_eq_true rfl) (fr_4_0 _ _ _ (frx_put (Or.inl h3))) ?_
  have g4 : grw noc T0 (tR T3 a 0 (some (a + 8))) := (g2.tr g3).R hnew _ _
  have o4 : ob (tR T3 a 0 (some (a + 8))) a 4 := g3.o o2
  have f0 : frx (tR T3 a 0 (some (a + 8))) a 0 = some (a + 8) := frx_put (Or.inl h3)
  have f1' : frx (tR T3 a 0 (some (a + 8))) a 1 = some (a + 4) := by rw [frx_j (by decide), g3.fx o2.1 (Or.inr id)]; exact f1
  have w4 : ar (tR T3 a 0 (some (a + 8))) (a + 4) 23 10 := g3.r w1
  have s4 : SdS (tR T3 a 0 (some (a + 8))) (a + 8) := s3.tR0 _ _
  have u4 : ∀ i, xQ (tR T3 a 0 (some (a + 8))) (a + 4) i = none := fun i => by
    show xQ T3 (a + 4) i = none
    rw [g3.Q w1.1 id]
    exact u1 i
  have n4 : xn (tR T3 a 0 (some (a + 8))) = xn T3 ∧ xk (tR T3 a 0 (some (a + 8))) = xk T3 := ⟨rfl, rfl⟩
  generalize tR T3 a 0 (some (a + 8)) = T4 at *
  obtain ⟨p1, p2⟩ := okF_3 h3
  refine ev_ret rfl rfl rfl ⟨_, rfl, rfl, hq T4 g4 (by omega) ⟨⟨o4, by rw [p2]; exact f0, by rw [p1]; exact f1', by rw [p1]; exact w4⟩, Or.inr h3, by rw [p2]; exact s4, fun i b _ hb => ?_, fun i j b _ _ hb _ => ?_⟩ (fun i => by rw [p1]; exact u4 i)⟩
  · rw [p1, u4 i] at hb; cases hb
  · rw [p1, u4 i] at hb; cases hb
theorem x_needImage {Q : XS → Prop} {E : Nat → XS → Prop} (hR : RL c) {g : Int32} (ok : ∀ i, g = nI i → i < 3 → Q T) (bad : ¬ (0 ≤ g.toInt ∧ g.toInt ≤ 2) → E 2 (tN T 0 0 6)) : XVt c d m_X_needImage [.int g] T Q E := by
  have e0 : ((0 : Int32).toInt : Int) = 0 := rfl
  have e3 : ((3 : Int32).toInt : Int) = 3 := rfl
  refine wx_X_needImage hR _ ?_
  rw [fa_lt, fa_lt, e0, e3]
  exact ⟨fun z => bad (by omega), fun z => ⟨fun z2 => ok g.toInt.toNat (nI_of_toInt (by omega)) (by omega), fun z2 => bad (by omega)⟩⟩
set_option maxRecDepth 8000 in
theorem x_image {Q : XS → Prop} {E : Nat → XS → Prop} (hR : RL c) (h : XINV T A) {g : Int32} (ok : ∀ i, g = nI i → i < 3 → ∀ T', XINV T' (A.1, A.2.1, A.2.2.1, updI A.2.2.2.1 i A.2.2.1, A.2.2.2.2) → gw 50 400 T T' → Q T') (bad : ¬ (0 ≤ g.toInt ∧ g.toInt ≤ 2) → E 2 (tN T 0 0 6)) : XVt c (d + 4) m_X_image [.ref 1, .int g] T Q E := by
  have s49 := h.sh
  have hh := h
  obtain ⟨-, -, ⟨cb, h49⟩, h4, h5⟩ := h
  refine ⟨q_X_image, rfl, Nat.le_of_ble_eq_true rfl, ?_⟩
  refine ev_ex 1 (c' := (1, [some (.ref 1), some (.int g), none], [.int g], hX c T)) rfl ?_
  refine xt_V (idx := 372) rfl rfl rfl (Nat.le_of_ble_eq_true rfl) (Nat.le_of_ble_eq_true rfl) rfl rfl rfl rfl rfl (by decide) (x_needImage (g := g) (Q := fun T1 => T1 = T ∧ ∃ i, g = nI i ∧ i < 3) hR (fun i h1 h2 => ⟨rfl, i, h1, h2⟩) bad) (fun T1 H => ?_)
  obtain ⟨rfl, i, eg, hi⟩ := H
  have ok := ok i eg hi
  rw [eg]
  refine ev_ex 1 (c' := (5, [some (.ref 1), some (.int (nI i)), none], [.ref 1], hX c T1)) rfl ?_
  refine xe_gf (ci := 12) (k := 6) rfl rfl (ob_lit (i := 0) rfl (by decide) rfl) ⟨by decide, by decide⟩ (v := .ref 109) rfl ?_
  refine ev_ex 1 (c' := (9, [some (.ref 1), some (.int (nI i)), none], [.int (nI i), .ref 109], hX c T1)) rfl ?_
  refine xe_ql rfl (ar_lit (i := 27) rfl (by decide) rfl) (by decide) (okn hi (by decide)) ?_
  rw [ix_nI (by omega)]
  refine ev_ex 0 (c' := (10, [some (.ref 1), some (.int (nI i)), none], [va_rf (xQ T1 109 i)], hX c T1)) rfl ?_
  refine xe_aso (e := xQ T1 109 i) rfl (Nat.le_of_ble_eq_true rfl) ?_
  refine ev_ex 0 (c' := (11, [some (.ref 1), some (.int (nI i)), some (va_rf (xQ T1 109 i))], [], hX c T1)) rfl ?_
  refine xe_alo (e := xQ T1 109 i) rfl rfl ?_
  refine xe_nnl (e := xQ T1 109 i) (tgt := 40) rfl rfl (fun f hf => ?_) (fun hf => ?_)
  · rw [hf]
    obtain ⟨f3, fs, _⟩ := h4.get hi hf
    refine ev_ex 0 (c' := (40, [some (.ref 1), some (.int (nI i)), some (.ref f)], [], hX c T1)) rfl ?_
    refine ev_ex 2 (c' := (42, [some (.ref 1), some (.int (nI i)), some (.ref f)], [.ref 1, .ref f], hX c T1)) rfl ?_
    refine xe_gf (ci := 12) (k := 5) rfl rfl (ob_lit (i := 0) rfl (by decide) rfl) ⟨by decide, by decide⟩ (v := .ref 49) rfl ?_
    refine xc_V (idx := 375) rfl rfl rfl (Nat.le_of_ble_eq_true rfl) (Nat.le_of_ble_eq_true rfl) (x_rcv (T := T1) fs.1.1 ⟨by decide, by decide⟩ _ _) (x_frCopy (d := d) (a := f) (a0 := 49) (Q := fun T2 => XINV T2 (A.1, A.2.1, A.2.2.1, updI A.2.2.2.1 i A.2.2.1, A.2.2.2.2) ∧ gw 50 400 T1 T2) hR fs h49 (Or.inl rfl) (h4.2.2 f 49 (Or.inr ⟨i, hi, hf⟩) (Or.inl rfl) (by omega)) (fun T2 g2 w2 F2 sl => ⟨?_, w2.up (by decide) (by decide)⟩)) (fun T2 H => ?_)
    · refine hh.im (f := f) (ca := cb) (a := A.2.2.1) hi (g2.mono (fun y hy => Or.inr ⟨f, hf, hy⟩)) (fun j => ?_) f3 F2 (fun y oy hy => ⟨f, hf, ?_⟩) (Or.inl hf)
      · rw [g2.Q in109 (fun e => by have := own_3 fs f3 e; omega)]
        split
        · rename_i z; rw [z]; exact hf
        · rfl
      · rcases hy with w | w | w | ⟨k, x, hk, hx, w⟩
        · exact Or.inl w
        · exact Or.inr (Or.inl w)
        · exact Or.inr (Or.inr (Or.inl w))
        · rcases sl k x hk hx with ⟨j, hj, w2⟩ | w2
          · exact Or.inr (Or.inr (Or.inr ⟨j, x, hj, w2, w⟩))
          · exfalso
            obtain ⟨k1, k2⟩ := sdC_3 (F2.2.2.2.1 k x hk hx).2.1 w
            exact w2 (fun _ => by have := oy k1; omega)
    · exact ev_ret rfl rfl rfl (Or.inl ⟨_, rfl, rfl, ok T2 H.1 H.2⟩)
  · rw [hf]
    refine ev_ex 0 (c' := (15, [some (.ref 1), some (.int (nI i)), some (.null)], [], hX c T1)) rfl ?_
    refine xe_new (ci := 4) (nf := 3) hR rfl rfl ⟨by decide, by decide⟩ ?_
    have gN : grw noc T1 (tN T1 4 0 3) := grw.rf.N 4 0 3
    refine ev_ex 2 (c' := (20, [some (.ref 1), some (.int (nI i)), some (.null)], [.ref 1, .ref (4 * xn T1 + 3), .ref (4 * xn T1 + 3)], hX c (tN T1 4 0 3))) rfl ?_
    refine xe_gf (ci := 12) (k := 5) rfl rfl (ob_lit (i := 0) rfl (by decide) rfl) ⟨by decide, by decide⟩ (v := .ref 49) rfl ?_
    refine xe_gf (ci := 4) (k := 0) rfl rfl (ob_lit (i := 12) rfl (by decide) rfl) ⟨by decide, by decide⟩ (v := .ref 93) rfl ?_
    refine xe_gfr (ci := 9) (k := 0) (b := cb) rfl rfl (ob_lit (i := 23) rfl (by decide) rfl) ⟨by decide, by decide⟩ rfl (by rw [show frx (tN T1 4 0 3) 93 0 = frx T1 93 0 from gN.fx h49.2.1.1.1.1.1 (Or.inr id)]; exact h49.2.1.fc) ?_
    refine xc_V (idx := 29) rfl rfl rfl (Nat.le_of_ble_eq_true rfl) (Nat.le_of_ble_eq_true rfl) rfl (x_Fr_init (d := d + 1) hR (fun T2 a1 a2 a3 a4 => (⟨a1, a2, a3, a4⟩ : (fun T2 => grw noc T1 T2 ∧ (xn T2 = xn T1 + 6 ∧ xk T2 = xk T1 + 48) ∧ FSH T2 (4 * xn T1 + 3) ∧ ∀ i, xQ T2 (fP (4 * xn T1 + 3)) i = none) T2))) (fun T2 H => ?_)
    obtain ⟨g2, n2, s2, u2⟩ := H
    have sg : SDF T1 → SDF T2 := fun q => q.gr g2 (fun a h3 w1 w2 k => by
      obtain ⟨p1, p2⟩ := okF_3 (show (4 * xn T1 + 3) % 4 = 3 by omega)
      rw [n2.1] at w2 ⊢
      by_cases z : a = 4 * xn T1 + 3
      · rw [z, s2.1.1.2] at k; cases k
      by_cases z : a = 4 * xn T1 + 3 + 4
      · rw [show a = fP (4 * xn T1 + 3) by omega, s2.1.ap.2] at k; cases k
      by_cases z : a = 4 * xn T1 + 3 + 8
      · omega
      obtain ⟨u1, u2, u3⟩ := sW_3 (show fN (4 * xn T1 + 3) % 4 = 3 by omega)
      by_cases z : a = 4 * xn T1 + 3 + 12
      · rw [show a = sW (fN (4 * xn T1 + 3)) by omega, s2.2.2.1.aw.2] at k; cases k
      by_cases z : a = 4 * xn T1 + 3 + 16
      · rw [show a = sM (fN (4 * xn T1 + 3)) by omega, s2.2.2.1.am.2] at k; cases k
      · rw [show a = sR (fN (4 * xn T1 + 3)) by omega, s2.2.2.1.ak.2] at k; cases k)
    have hnew : ¬ old T1 (4 * xn T1 + 3) := fun q => by have := q (by omega); omega
    have hnn : ∀ y, (4 * xn T1 + 3) / 4 ≤ y / 4 → y % 4 = 3 → ¬ old T1 y := fun y h1 h2 q => by have := q h2; omega
    have h3 : (4 * xn T1 + 3) % 4 = 3 := by omega
    generalize 4 * xn T1 + 3 = f at *
    refine ev_ex 2 (c' := (34, [some (.ref 1), some (.int (nI i)), some (.ref f)], [.ref 1], hX c T2)) rfl ?_
    refine xe_gf (ci := 12) (k := 6) rfl rfl (ob_lit (i := 0) rfl (by decide) rfl) ⟨by decide, by decide⟩ (v := .ref 109) rfl ?_
    refine ev_ex 2 (c' := (39, [some (.ref 1), some (.int (nI i)), some (.ref f)], [.ref f, .int (nI i), .ref 109], hX c T2)) rfl ?_
    refine xe_qs (kd := 24) rfl (ar_lit (i := 27) rfl (by decide) rfl) (by decide) (okn hi (by decide)) s2.1.1 ?_
    rw [ix_nI (by omega)]
    have fq : frm (fun y => y = 109) T2 (tQ T2 109 i (some f)) := frm_Q (S := fun y => y = 109) rfl _ _
    obtain ⟨p1, p2⟩ := okF_3 h3
    have q3 : ∀ y, y ≠ 109 → xQ (tQ T2 109 i (some f)) y = xQ T2 y := fun y hy => fq.Q hy
    have q109 : ∀ j, xQ (tQ T2 109 i (some f)) 109 j = if j = i then some f else xQ T1 109 j := fun j => by
      rw [xQ_tQ, if_pos rfl, g2.Q in109 id]
    have g3 : grw (fun y => y = 109) T1 (tQ T2 109 i (some f)) := (g2.mono (fun _ z => z.elim)).tr fq.grw
    have w3 := gw.fr (S := fun y => y = 109) (n := 6) (z := 48) (T := T1) ⟨by omega, by omega, sg⟩ fq
    have s3 : FSH (tQ T2 109 i (some f)) f := by
      refine ⟨fq.frs (by omega) s2.1, s2.2.1, fq.sds s2.2.2.1, fun k b _ hb => ?_, fun j k b _ _ hb _ => ?_⟩
      · rw [q3 _ (by omega), u2 k] at hb; cases hb
      · rw [q3 _ (by omega), u2 j] at hb; cases hb
    have u3 : ∀ k, xQ (tQ T2 109 i (some f)) (fP f) k = none := fun k => by rw [q3 _ (by omega)]; exact u2 k
    have cv1 : ∀ ca v, CAR T1 ca v → cvN (fun y => y = 109) T1 ca := fun ca v q => by
      rcases q.2.1 with rfl | z
      · exact ⟨by omega, ⟨by omega, by omega, by omega, by omega, by omega, by omega⟩, fun b m hb _ _ => by omega⟩
      · exact ⟨by omega, ⟨by omega, by omega, by omega, by omega, by omega, by omega⟩, fun b m hb _ _ => by omega⟩
    have f49 := h49.gr g3 (fun y hy e => by have := own_1 s49 hy (by omega); omega) (cv1 _ _ h49.2.1.2.1)
    generalize tQ T2 109 i (some f) = T3 at *
    have onew : ∀ y, own T3 f y → ¬ old T1 y := fun y hy => by
      rcases hy with w | w | w | ⟨k, x, hk, hx, w⟩
      · exact hnn y (by omega) (by omega)
      · exact hnn y (by omega) (by omega)
      · have := sdC_3 (by omega) w
        exact hnn y (by omega) this.1
      · rw [u3 k] at hx; cases hx
    refine ev_ex 2 (c' := (42, [some (.ref 1), some (.int (nI i)), some (.ref f)], [.ref 1, .ref f], hX c T3)) rfl ?_
    refine xe_gf (ci := 12) (k := 5) rfl rfl (ob_lit (i := 0) rfl (by decide) rfl) ⟨by decide, by decide⟩ (v := .ref 49) rfl ?_
    refine xc_V (idx := 375) rfl rfl rfl (Nat.le_of_ble_eq_true rfl) (Nat.le_of_ble_eq_true rfl) (x_rcv (T := T3) s3.1.1 ⟨by decide, by decide⟩ _ _) (x_frCopy (d := d) (a := f) (a0 := 49) (Q := fun T2 => XINV T2 (A.1, A.2.1, A.2.2.1, updI A.2.2.2.1 i A.2.2.1, A.2.2.2.2) ∧ gw 50 400 T1 T2) hR s3 f49.1 (Or.inl rfl) (fun y hy hy' => ?_) (fun T4 g4 w4 F4 sl => ⟨?_, (w3.tr w4).up (by decide) (by decide)⟩)) (fun T4 H => ?_)
    · rw [own_eq f49.2] at hy'
      exact onew y hy (own_in s49 hy').ol
    · refine hh.im (f := f) (ca := cb) (a := A.2.2.1) hi ((g3.mono (fun y hy => Or.inl hy)).tr2 g4 (fun y oy hy => absurd oy (onew y hy))) (fun j => ?_) h3 F4 (fun y oy hy => ?_) (Or.inr hnew)
      · rw [g4.Q in109 (fun e => onew _ e in109.ol)]
        exact q109 j
      · exfalso
        rcases hy with w | w | w | ⟨k, x, hk, hx, w⟩
        · exact onew y (Or.inl w) oy
        · exact onew y (Or.inr (Or.inl w)) oy
        · exact onew y (Or.inr (Or.inr (Or.inl w))) oy
        · rcases sl k x hk hx with ⟨j, hj, w2⟩ | w2
          · rw [u3 j] at w2; cases w2
          · obtain ⟨k1, k2⟩ := sdC_3 (F4.2.2.2.1 k x hk hx).2.1 w
            exact w2 (fun _ => by have := oy k1; have := g3.1; omega)
    · exact ev_ret rfl rfl rfl (Or.inl ⟨_, rfl, rfl, ok T4 H.1 H.2⟩)
theorem x_restore {Q : XS → Prop} {E : Nat → XS → Prop} (hR : RL c) (h : XINV T A) {g : Int32} (ok : ∀ i a, g = nI i → i < 3 → A.2.2.2.1 i = some a → ∀ T', XINV T' (A.1, A.2.1, a, A.2.2.2) → gw 50 400 T T' → Q T') (bad : ¬ (0 ≤ g.toInt ∧ g.toInt ≤ 2) → E 2 (tN T 0 0 6)) (bad2 : ∀ i, g = nI i → i < 3 → A.2.2.2.1 i = none → E 3 (tN T 0 0 6)) : XVt c (d + 4) m_X_restore [.ref 1, .int g] T Q E := by
  have s49 := h.sh
  obtain ⟨h1, h2, ⟨cb, h49⟩, h4, h5⟩ := h
  refine wx_X_restore hR _ (x_needImage hR (fun i eg hi => ?_) bad)
  rw [eg, ix_nI (by omega)]
  refine ⟨okn hi (by decide), fun e => ?_, fun f hf => ?_⟩
  · rcases h4.1 i hi with w | ⟨f, ca, a, w1, w2, w3, w4⟩
    · exact bad2 i eg hi w.1
    · rw [e] at w2; cases w2
  · obtain ⟨f3, fs, ca, a, e1, w⟩ := h4.get hi hf
    refine x_frCopy (d := d) hR s49 w (Or.inr f3) (h4.2.2 49 f (Or.inl rfl) (Or.inr ⟨i, hi, hf⟩) (by omega)) (fun T2 g2 w2 F2 sl => ok i a eg hi e1 T2 ?_ (w2.up (by decide) (by decide)))
    have no : ∀ y, (y = 1 ∨ y = 5 ∨ y = 109 ∨ y = 113) → ¬ own T 49 y := fun y hy e => by
      have := own_1 s49 e (by omega)
      omega
    refine ⟨h1.gr g2 (no _ (by omega)) (no _ (by omega)), ⟨by rw [g2.I in1 (no _ (by omega))]; exact h2.1, by rw [g2.I in1 (no _ (by omega))]; exact h2.2⟩, ⟨ca, F2⟩, h4.gr g2 (no _ (by omega)) (fun j f' hj hf' y hy e => h4.2.2 f' 49 (Or.inr ⟨j, hj, hf'⟩) (Or.inl rfl) (by have := (h4.get hj hf').1; omega) y hy e) (fun ca v q => own_cv s49 q) (fun y oy hy => ?_), h5.gr' g2 (no _ (by omega)) (fun b hb b3 => own_ty s49 hb)⟩
    rcases hy with w | w | w | ⟨k, x, hk, hx, w⟩
    · exact Or.inl w
    · exact Or.inr (Or.inl w)
    · exact Or.inr (Or.inr (Or.inl w))
    · rcases sl k x hk hx with ⟨j, hj, w2⟩ | w2
      · exact Or.inr (Or.inr (Or.inr ⟨j, x, hj, w2, w⟩))
      · exfalso
        obtain ⟨k1, k2⟩ := sdC_3 (F2.2.2.2.1 k x hk hx).2.1 w
        exact w2 (fun _ => by have := oy k1; omega)
end XM1
