/-! a deed remembered -/
section RM1
variable {c : CX} {d : Nat} {T T' : XS} {f ca : Nat} {v : CV} {sd : SD} {p : List SD}
theorem oks_fN (h : STD T (fN f) ca sd) : oks (fN f) := h.2.1
theorem rem_keep {Q : XS → Prop} (hR : RL c) (h : FAIR T f ca v sd p) (hp : p.length < 10) (hq : ∀ T', grw (remS T f) T T' ∧ gw 4 35 T T' → FAIR T' f ca v sd (p ++ [sd]) → (∀ i x, i < 10 → xQ T' (fP f) i = some x → xQ T (fP f) i = some x ∨ ¬ old T x) → Q T') : XV c (d + 2) m_Fr_keep [.ref f, .int (xI T f 2), .ref (fN f)] T (fun T2 => FrS T2 f ∧ Q (tI T2 f 2 (xI T2 f 2 + 1))) := by
  obtain ⟨hF, hC, ⟨hd, hl⟩, ho, hi, hP⟩ := h
  rw [hd]
  refine x_keep hR hF hC.1 hp (fun b hb => ⟨(ho _ b hp hb).1, Or.inr (Or.inr (ho _ b hp hb).2.1), (ho _ b hp hb).2.2.symm⟩) (fun T2 b' hk hgw hQ hs => ?_)
  have hold : ∀ x, SdS T x → old T x := fun x hx => hx.1.1.ol
  have key : ∃ S2 : Nat → Prop, grw S2 T T2 ∧ (∀ y, S2 y → remS T f y) ∧ (∀ x, SdS T x → oks x → x ≠ b' → ∀ y, sdC x y → ¬ S2 y) ∧ ¬ S2 f ∧ (∀ i, i ≠ p.length → xQ T2 (fP f) i = xQ T (fP f) i) ∧ b' % 4 = 3 ∧ b' ≠ fN f ∧ (∀ i x, i < 10 → i ≠ p.length → xQ T (fP f) i = some x → x ≠ b') ∧ (xQ T (fP f) p.length = some b' ∨ ¬ old T b') := by
    rcases hk with ⟨k1, k2⟩ | ⟨k1, k2, k3, k4, k5, k6⟩
    · obtain ⟨o1, o2, o3⟩ := ho _ b' hp k1
      exact ⟨sdC b', k2.grw, fun y hy => Or.inr (Or.inr ⟨_, b', hp, k1, hy⟩), fun x hx hox hne => sd_dis o1 hx (Or.inr (Or.inr o2)) hox hne, (fr_sd hF o1).1, fun i _ => by rw [k2.Q (fr_sd hF o1).2], o2, o3, fun i x hi10 hne hx e => hne (hi i _ b' hi10 hp (by rw [hx, e]) k1), Or.inl k1⟩
    · exact ⟨fun y => y = fP f, k4, fun y hy => Or.inr (Or.inl hy), fun x hx _ _ y hy e => (fr_sd hF hx).2 (by rw [← e]; exact hy), (fun (e : f = fP f) => by have h1 := hF.1.2; rw [e, hF.ap.2] at h1; exact absurd h1 (by decide)), fun i hne => by rw [k5]; exact if_neg hne, k3, fun e => k2 (by rw [e]; exact hold _ hC.1.1), fun i x hi10 _ hx e => k2 (by rw [← e]; exact hold _ (ho i x hi10 hx).1), Or.inr k2⟩
  obtain ⟨S2, g2, s1, s2, s3, q2, b3, bN, bO, bW⟩ := key
  have e0 : frx T2 f 0 = some (fN f) := by rw [g2.fx hF.1.1 (Or.inr s3)]; exact hF.fn
  have hF2 : FrS T2 f := ⟨g2.o hF.1, e0, by rw [g2.fxo hF.1 (by decide) (Or.inl (by decide))]; exact hF.fp, g2.r hF.ap⟩
  have eI : xI T2 f 2 = nI p.length := (g2.I hF.1.1 s3 2).trans hd
  refine ⟨hF2, ?_⟩
  rw [eI, nI_1]
  have f3 : frm (fun y => y = f) T2 (tI T2 f 2 (nI (p.length + 1))) := frm_I (S := fun y => y = f) (a := f) rfl _ _
  have i3 : xI (tI T2 f 2 (nI (p.length + 1))) f 2 = nI (p.length + 1) := xI_at _ _ _ _
  have hF3 : FrS (tI T2 f 2 (nI (p.length + 1))) f := f3.frs0 rfl hF2
  have hQ3 : ∀ i, xQ (tI T2 f 2 (nI (p.length + 1))) (fP f) i = xQ T2 (fP f) i := fun i => rfl
  generalize tI T2 f 2 (nI (p.length + 1)) = T3 at *
  have g3 : grw (remS T f) T T3 := (g2.mono s1).tr (f3.mono (S' := remS T f) (fun y hy => Or.inl hy)).grw
  have st3 : ∀ x s, STD T2 x ca s → STD T3 x ca s := fun x s hx => by
    have := (fr_sd hF2 hx.1).1
    exact f3.std hx (fun e => this (Or.inl e.symm)) (fun e => this (Or.inr (Or.inl e.symm))) (fun e => this (Or.inr (Or.inr (Or.inl e.symm)))) (fun e => this (Or.inr (Or.inr (Or.inr e.symm))))
  have st : ∀ x s, STD T x ca s → x ≠ b' → STD T3 x ca s := fun x s hx hne => st3 x s (g2.stdC hx (s2 x hx.1 hx.2.1 hne))
  have slot : ∀ i x, i < 10 → xQ T3 (fP f) i = some x → (i = p.length ∧ x = b') ∨ (i ≠ p.length ∧ x ≠ b' ∧ xQ T (fP f) i = some x) := fun i x hi10 hx => by
    rw [hQ3] at hx
    by_cases e : i = p.length
    · rw [e, hQ] at hx
      exact Or.inl ⟨e, (Option.some.inj hx).symm⟩
    · rw [q2 i e] at hx
      exact Or.inr ⟨e, bO i x hi10 e hx, hx⟩
  refine hq T3 ⟨g3, hgw.fr f3⟩ ⟨hF3, ⟨st _ _ hC.1 bN.symm, g3.carC hC.2.1 (rem_cv hC.2.1 hF (fun i b hi10 hb => ⟨(ho i b hi10 hb).1, (ho i b hi10 hb).2.1⟩)), hC.2.2⟩, ⟨by rw [i3, List.length_append]; rfl, by rw [List.length_append]; exact hp⟩, fun i x hi10 hx => ?_, fun i j x hi10 hj10 hx hy => ?_, fun i s hs' => ?_⟩ (fun i x hi10 hx => ?_)
  · rcases slot i x hi10 hx with ⟨_, e⟩ | ⟨_, _, hx'⟩
    · rw [e]; exact ⟨(st3 _ _ hs).1, b3, bN⟩
    · obtain ⟨o1, o2, o3⟩ := ho i x hi10 hx'
      exact ⟨g3.sds o1, o2, o3⟩
  · rcases slot i x hi10 hx with ⟨e1, e2⟩ | ⟨e1, e2, hx'⟩
    · rcases slot j x hj10 hy with ⟨d1, d2⟩ | ⟨d1, d2, hy'⟩
      · rw [e1, d1]
      · exact absurd e2 d2
    · rcases slot j x hj10 hy with ⟨d1, d2⟩ | ⟨d1, d2, hy'⟩
      · exact absurd d2 e2
      · exact hi i j x hi10 hj10 hx' hy'
  · rcases Nat.lt_trichotomy i p.length with y | y | y
    · rw [List.getElem?_append_left y] at hs'
      obtain ⟨b, h1, h2, h3⟩ := hP i s hs'
      exact ⟨b, by rw [hQ3, q2 i (by omega)]; exact h1, st b s h2 (bO i b (by omega) (by omega) h1), h3⟩
    · rw [List.getElem?_append_right (by omega), show i - p.length = 0 by omega] at hs'
      have e : sd = s := Option.some.inj hs'
      refine ⟨b', by rw [hQ3, y]; exact hQ, ?_, ?_⟩
      · rw [← e]; exact st3 _ _ hs
      · rw [← e]; exact hC.2.2.2
    · rw [List.getElem?_eq_none (by simp; omega)] at hs'
      cases hs'
  · rcases slot i x hi10 hx with ⟨e1, e2⟩ | ⟨_, _, hx'⟩
    · rw [e1, e2]
      exact bW
    · exact Or.inl hx'
theorem cvN.mono {S S' : Nat → Prop} (h : cvN S T ca) (hs : ∀ y, S' y → S y) : cvN S' T ca :=
  ⟨fun q => h.1 (hs _ q), ⟨fun q => h.2.1.1 (hs _ q), fun q => h.2.1.2.1 (hs _ q), fun q => h.2.1.2.2.1 (hs _ q), fun q => h.2.1.2.2.2.1 (hs _ q), fun q => h.2.1.2.2.2.2.1 (hs _ q), fun q => h.2.1.2.2.2.2.2 (hs _ q)⟩, fun b m h1 h2 h3 q => h.2.2 b m h1 h2 h3 (hs _ q)⟩
theorem rotQ_is (q : Nat → Option Nat) {i : Nat} (hi : i < 10) : ∃ j, j < 10 ∧ rotQ q i = q j ∧ (j = i + 1 ∨ (j = 0 ∧ i = 9)) := by
  unfold rotQ
  by_cases y : i < 9
  · exact ⟨i + 1, by omega, if_pos y, Or.inl rfl⟩
  · exact ⟨0, by decide, if_neg y, Or.inr ⟨rfl, by omega⟩⟩
theorem x_remember {Q : XS → Prop} (hR : RL c) (h : FAIR T f ca v sd p) (hq : ∀ T', grw (remS T f) T T' ∧ gw 4 35 T T' → FAIR T' f ca v sd (push10 p sd) → (∀ i x, i < 10 → xQ T' (fP f) i = some x → (∃ j, j < 10 ∧ xQ T (fP f) j = some x) ∨ ¬ old T x) → Q T') : XV c (d + 3) m_Fr_remember [.ref f] T Q := by
  have hh := h
  obtain ⟨hF, hC, ⟨hd, hl⟩, ho, hi, hP⟩ := h
  have e10 : xI T f 2 < (10 : Int32) ↔ p.length < 10 := by rw [hd]; exact nI_ltI (b := 10) (by omega) (by decide)
  refine wx_Fr_remember _ ⟨hF, ?_⟩
  rw [e10]
  refine ⟨fun z => rem_keep hR hh z (fun T' g hf hw => hq T' g (by unfold push10; rw [if_neg (by omega)]; exact hf) (fun i x hi10 hx => (hw i x hi10 hx).elim (fun q => Or.inl ⟨i, hi10, q⟩) Or.inr)), fun z => ?_⟩
  have h10 : p.length = 10 := by omega
  refine x_forgetEldest hF (fun j b hj hb => (ho j b hj hb).1.1) (fun T4 hf4 hF4 hQ4 i4 => ⟨hF4, ?_⟩)
  have sep : ∀ x, SdS T x → ∀ y, sdC x y → ¬ (y = fP f ∨ y = f) := fun x hx y hy e => by
    rcases e with e | e
    · rw [e] at hy; exact (fr_sd hF hx).2 hy
    · rw [e] at hy; exact (fr_sd hF hx).1 hy
  have st : ∀ x s, STD T x ca s → STD T4 x ca s := fun x s hx => hf4.grw.stdC hx (sep x hx.1)
  have ho' : ∀ i b, i < 10 → xQ T (fP f) i = some b → SdS T b ∧ b % 4 = 3 := fun i b hi10 hb => ⟨(ho i b hi10 hb).1, (ho i b hi10 hb).2.1⟩
  have sub : ∀ y, (y = fP f ∨ y = f) → remS T f y := fun y hy => hy.elim (fun q => Or.inr (Or.inl q)) Or.inl
  have hf : FAIR T4 f ca v sd (p.drop 1) := by
    refine ⟨hF4, ⟨st _ _ hC.1, hf4.grw.carC hC.2.1 ((rem_cv hC.2.1 hF ho').mono sub), hC.2.2⟩, ⟨by rw [i4, List.length_drop, h10]; rfl, by rw [List.length_drop]; omega⟩, fun i b hi10 hb => ?_, fun i j b hi10 hj10 hb hb2 => ?_, fun i s hs => ?_⟩
    · rw [hQ4 i hi10] at hb
      obtain ⟨j, hj, e, _⟩ := rotQ_is (xQ T (fP f)) hi10
      rw [e] at hb
      obtain ⟨o1, o2, o3⟩ := ho j b hj hb
      exact ⟨hf4.sds o1, o2, o3⟩
    · rw [hQ4 i hi10] at hb
      rw [hQ4 j hj10] at hb2
      obtain ⟨k, hk, e, w⟩ := rotQ_is (xQ T (fP f)) hi10
      obtain ⟨k', hk', e', w'⟩ := rotQ_is (xQ T (fP f)) hj10
      rw [e] at hb
      rw [e'] at hb2
      have := hi k k' b hk hk' hb hb2
      omega
    · rw [List.getElem?_drop] at hs
      obtain ⟨b, h1, h2, h3⟩ := hP (1 + i) s hs
      have hlt := (List.getElem?_eq_some_iff.mp hs).1
      refine ⟨b, ?_, st b s h2, h3⟩
      rw [hQ4 i (by omega)]
      unfold rotQ
      rw [if_pos (by omega), Nat.add_comm]
      exact h1
  refine rem_keep hR hf (by rw [List.length_drop]; omega) (fun T' g hfa hw => hq T' ?_ (by unfold push10; rw [if_pos h10]; exact hfa) (fun i x hi10 hx => ?_))
  · refine ⟨(hf4.mono sub).grw.tr (g.1.mono (fun y hy => ?_)), gw.af hf4 g.2⟩
    rcases hy with q | q | ⟨i, x, hi10, hx, q⟩
    · exact Or.inl q
    · exact Or.inr (Or.inl q)
    · rw [hQ4 i hi10] at hx
      obtain ⟨j, hj, e, _⟩ := rotQ_is (xQ T (fP f)) hi10
      rw [e] at hx
      exact Or.inr (Or.inr ⟨j, x, hj, hx, q⟩)
  · rcases hw i x hi10 hx with q | q
    · rw [hQ4 i hi10] at q
      obtain ⟨j, hj, e, _⟩ := rotQ_is (xQ T (fP f)) hi10
      rw [e] at q
      exact Or.inl ⟨j, hj, q⟩
    · refine Or.inr (fun y => q (fun y3 => ?_))
      rw [hf4.2.1]
      exact y y3
end RM1
