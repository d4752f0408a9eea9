/-! fairs copied -/
def okF (f : Nat) : Prop := f = 49 ∨ f % 4 = 3
def own (T : XS) (f y : Nat) : Prop := y = f ∨ y = fP f ∨ sdC (fN f) y ∨ ∃ i x, i < 10 ∧ xQ T (fP f) i = some x ∧ sdC x y
/-- a fair's shape -/
def FSH (T : XS) (f : Nat) : Prop := FrS T f ∧ okF f ∧ SdS T (fN f) ∧ (∀ i b, i < 10 → xQ T (fP f) i = some b → SdS T b ∧ b % 4 = 3 ∧ b ≠ fN f) ∧ ∀ i j b, i < 10 → j < 10 → xQ T (fP f) i = some b → xQ T (fP f) j = some b → i = j
theorem cvN.un {S S' : Nat → Prop} {T : XS} {ca : Nat} (h : cvN S T ca) (h' : cvN S' T ca) : cvN (fun y => S y ∨ S' y) T ca :=
  ⟨fun q => q.elim h.1 h'.1, ⟨fun q => q.elim h.2.1.1 h'.2.1.1, fun q => q.elim h.2.1.2.1 h'.2.1.2.1, fun q => q.elim h.2.1.2.2.1 h'.2.1.2.2.1, fun q => q.elim h.2.1.2.2.2.1 h'.2.1.2.2.2.1, fun q => q.elim h.2.1.2.2.2.2.1 h'.2.1.2.2.2.2.1, fun q => q.elim h.2.1.2.2.2.2.2 h'.2.1.2.2.2.2.2⟩, fun b m h1 h2 h3 q => q.elim (h.2.2 b m h1 h2 h3) (h'.2.2 b m h1 h2 h3)⟩
section OW1
variable {c : CX} {d : Nat} {S : Nat → Prop} {T T' T2 : XS} {a a0 b f ca x y i b' : Nat} {v : CV} {sd : SD} {p : List SD}
theorem okF_3 (h : f % 4 = 3) : fP f = f + 4 ∧ fN f = f + 8 := by
  have : f ≠ 49 := by omega
  unfold fP fN
  exact ⟨if_neg this, if_neg this⟩
theorem okF_n (h : okF f) : oks (fN f) := by
  rcases h with rfl | h
  · exact Or.inl rfl
  · exact Or.inr (Or.inr (by rw [(okF_3 h).2]; omega))
theorem FAIR.sh (h : FAIR T f ca v sd p) (ho : okF f) : FSH T f := ⟨h.1, ho, h.2.1.1.1, h.2.2.2.1, h.2.2.2.2.1⟩
theorem sds_in (h : SdS T x) (hy : sdC x y) : inb T y := by
  rcases hy with rfl | rfl | rfl | rfl
  · exact h.1.1
  · exact h.aw.1
  · exact h.am.1
  · exact h.ak.1
theorem own_in (h : FSH T f) (hy : own T f y) : inb T y := by
  obtain ⟨h1, _, h3, h4, _⟩ := h
  rcases hy with rfl | rfl | hy | ⟨i, x, hi, hx, hy⟩
  · exact h1.1.1
  · exact h1.ap.1
  · exact sds_in h3 hy
  · exact sds_in (h4 i x hi hx).1 hy
theorem rem_own (h : remS T f y) : own T f y := by
  rcases h with h | h | h
  · exact Or.inl h
  · exact Or.inr (Or.inl h)
  · exact Or.inr (Or.inr (Or.inr h))
theorem own_rem (h : own T f y) : remS T f y ∨ sdC (fN f) y := by
  rcases h with h | h | h | h
  · exact Or.inl (Or.inl h)
  · exact Or.inl (Or.inr (Or.inl h))
  · exact Or.inr h
  · exact Or.inl (Or.inr (Or.inr h))
theorem c93 {v : CV} (q : CAR T ca v) : cvN (sdC 93) T ca := by
  unfold cvN sdC
  rw [show sW 93 = 97 from rfl, show sM 93 = 101 from rfl, show sR 93 = 105 from rfl]
  rcases q.2.1 with rfl | z
  · exact ⟨by omega, ⟨by omega, by omega, by omega, by omega, by omega, by omega⟩, fun b m hb _ _ => by omega⟩
  · exact ⟨by omega, ⟨by omega, by omega, by omega, by omega, by omega, by omega⟩, fun b m hb _ _ => by omega⟩
theorem own_cv (h : FSH T f) (q : CAR T ca v) : cvN (own T f) T ca := by
  have A := rem_cv q h.1 (fun i b hi hb => ⟨(h.2.2.2.1 i b hi hb).1, (h.2.2.2.1 i b hi hb).2.1⟩)
  have B : cvN (sdC (fN f)) T ca := by
    rcases h.2.1 with rfl | z
    · exact c93 q
    · exact cv_sd q h.2.2.1 (by rw [(okF_3 z).2]; omega)
  exact (A.un B).mono (fun y hy => own_rem hy)
theorem FAIR.gr (h : FAIR T f ca v sd p) (g : grw S T T') (hS : ∀ y, own T f y → ¬ S y) (hc : cvN S T ca) : FAIR T' f ca v sd p ∧ xQ T' (fP f) = xQ T (fP f) := by
  obtain ⟨hF, hC, ⟨hd, hl⟩, ho, hi, hP⟩ := h
  have n0 : ¬ S f := hS f (Or.inl rfl)
  have eQ : xQ T' (fP f) = xQ T (fP f) := g.Q hF.ap.1 (hS _ (Or.inr (Or.inl rfl)))
  refine ⟨⟨⟨g.o hF.1, by rw [g.fx hF.1.1 (Or.inr n0)]; exact hF.fn, by rw [g.fxo hF.1 (by decide) (Or.inl (by decide))]; exact hF.fp, g.r hF.ap⟩, ⟨g.stdC hC.1 (fun y hy => hS y (Or.inr (Or.inr (Or.inl hy)))), g.carC hC.2.1 hc, hC.2.2⟩, ⟨by rw [g.I hF.1.1 n0]; exact hd, hl⟩, fun i b h10 hb => ?_, fun i j b h10 h10' hb hb' => ?_, fun i s hs => ?_⟩, eQ⟩
  · rw [eQ] at hb
    obtain ⟨o1, o2⟩ := ho i b h10 hb
    exact ⟨g.sds o1, o2⟩
  · rw [eQ] at hb hb'
    exact hi i j b h10 h10' hb hb'
  · obtain ⟨b, h1, h2, h3⟩ := hP i s hs
    have hlt := (List.getElem?_eq_some_iff.mp hs).1
    exact ⟨b, by rw [eQ]; exact h1, g.stdC h2 (fun y hy => hS y (Or.inr (Or.inr (Or.inr ⟨i, b, by omega, h1, hy⟩)))), h3⟩
theorem own_eq (h : xQ T' (fP f) = xQ T (fP f)) : own T' f = own T f := by
  funext y
  unfold own
  rw [h]
/-- what keeping one standing leaves -/
theorem keep_key (h : FSH T f) (hi : i < 10) (hk : KPT T f i b' T2) : ∃ S2 : Nat → Prop, grw S2 T T2 ∧ (∀ y, S2 y → remS T f y) ∧ (∀ x, SdS T x → oks x → x ≠ b' → ∀ y, sdC x y → ¬ S2 y) ∧ ¬ S2 f ∧ (∀ j, j ≠ i → xQ T2 (fP f) j = xQ T (fP f) j) ∧ b' % 4 = 3 ∧ b' ≠ fN f ∧ (∀ j x, j < 10 → j ≠ i → xQ T (fP f) j = some x → x ≠ b') ∧ (xQ T (fP f) i = some b' ∨ ¬ old T b') := by
  obtain ⟨hF, -, hN, ho, hinj⟩ := h
  have hold : ∀ x, SdS T x → old T x := fun x hx => hx.1.1.ol
  rcases hk with ⟨k1, k2⟩ | ⟨k1, k2, k3, k4, k5, k6⟩
  · obtain ⟨o1, o2, o3⟩ := ho _ b' hi k1
    exact ⟨sdC b', k2.grw, fun y hy => Or.inr (Or.inr ⟨_, b', hi, k1, hy⟩), fun x hx hox hne => sd_dis o1 hx (Or.inr (Or.inr o2)) hox hne, (fr_sd hF o1).1, fun j _ => by rw [k2.Q (fr_sd hF o1).2], o2, o3, fun j x hj hne hx e => hne (hinj j _ b' hj hi (by rw [hx, e]) k1), Or.inl k1⟩
  · exact ⟨fun y => y = fP f, k4, fun y hy => Or.inr (Or.inl hy), fun x hx _ _ y hy e => (fr_sd hF hx).2 (by rw [← e]; exact hy), (fun (e : f = fP f) => by have h1 := hF.1.2; rw [e, hF.ap.2] at h1; exact absurd h1 (by decide)), fun j hne => by rw [k5]; exact if_neg hne, k3, fun e => k2 (by rw [e]; exact hold _ hN), fun j x hj _ hx e => k2 (by rw [← e]; exact hold _ (ho j x hj hx).1), Or.inr k2⟩
theorem x_frCopy {Q : XS → Prop} (hR : RL c) (ha : FSH T a) (h0 : FAIR T a0 ca v sd p) (ho : okF a0) (hd : ∀ y, own T a y → ¬ own T a0 y) (hq : ∀ T', grw (own T a) T T' → gw 40 350 T T' → FAIR T' a ca v sd p → (∀ i x, i < 10 → xQ T' (fP a) i = some x → (∃ j, j < 10 ∧ xQ T (fP a) j = some x) ∨ ¬ old T x) → Q T') : XV c (d + 3) m_Fr_copyFrom [.ref a, .ref a0] T Q := by
  have hne : fN a0 ≠ fN a := fun e => hd (fN a) (Or.inr (Or.inr (Or.inl (Or.inl rfl)))) (Or.inr (Or.inr (Or.inl (Or.inl e.symm))))
  have sh0 := h0.sh ho
  have hl := h0.2.2.1.2
  have cv0 := own_cv ha h0.2.1.2.1
  refine wx_Fr_copyFrom _ _ ⟨ha.1, h0.1, ha.2.2.1, x_copyFrom h0.2.1.1 ha.2.2.1 (okF_n ha.2.1) hne (fun T4 hf4 hs4 => ?_)⟩
  have ow4 : ∀ y, sdC (fN a) y → own T a y := fun y hy => Or.inr (Or.inr (Or.inl hy))
  have g4 : grw (own T a) T T4 := (hf4.mono ow4).grw
  have f40 := h0.gr g4 (fun y hy hz => hd y hz hy) cv0
  have fr4 : FrS T4 a := hf4.frs (fr_sd ha.1 ha.2.2.1).1 ha.1
  have q4 : xQ T4 (fP a) = xQ T (fP a) := hf4.Q (fr_sd ha.1 ha.2.2.1).2
  refine ⟨f40.1.1, fr4, ?_⟩
  rw [f40.1.2.2.1.1]
  have f5 : frm (fun y => y = a) T4 (tI T4 a 2 (nI p.length)) := frm_I (S := fun y => y = a) rfl _ _
  have i5 : xI (tI T4 a 2 (nI p.length)) a 2 = nI p.length := xI_at _ _ _ _
  have fr5 : FrS (tI T4 a 2 (nI p.length)) a := f5.frs0 rfl fr4
  have q5 : xQ (tI T4 a 2 (nI p.length)) (fP a) = xQ T (fP a) := q4
  have w5 : gw (4 * 0) (35 * 0) T (tI T4 a 2 (nI p.length)) := (hf4.gw _ _).fr f5
  generalize tI T4 a 2 (nI p.length) = T5 at *
  have g5 : grw (own T a) T T5 := g4.tr (f5.mono (S' := own T a) (fun y hy => Or.inl hy)).grw
  have st5 : STD T5 (fN a) ca sd := by
    have := (fr_sd fr4 hs4.1).1
    exact f5.std hs4 (fun e => this (Or.inl e.symm)) (fun e => this (Or.inr (Or.inl e.symm))) (fun e => this (Or.inr (Or.inr (Or.inl e.symm)))) (fun e => this (Or.inr (Or.inr (Or.inr e.symm))))
  suffices H : ∀ (m k : Nat) (T1 : XS), k + m = p.length → grw (own T a) T T1 → gw (4 * k) (35 * k) T T1 → FSH T1 a → (∀ i x, i < 10 → xQ T1 (fP a) i = some x → (∃ j, j < 10 ∧ xQ T (fP a) j = some x) ∨ ¬ old T x) → CS T1 (fN a) ca v sd → xI T1 a 2 = nI p.length → (∀ i s, i < k → p[i]? = some s → ∃ b, xQ T1 (fP a) i = some b ∧ STD T1 b ca s ∧ SOK (vG v) s) → eX c (d + 3) m_Fr_copyFrom 21 [some (.ref a), some (.ref a0), some (.int (nI k))] T1 (yV c Q) from H p.length 0 T5 (by omega) g5 w5 ⟨fr5, ha.2.1, st5.1, fun i b h10 hb => by
    rw [q5] at hb
    obtain ⟨o1, o2⟩ := ha.2.2.2.1 i b h10 hb
    exact ⟨g5.sds o1, o2⟩, fun i j b h1 h2 h3 h4 => by
    rw [q5] at h3 h4
    exact ha.2.2.2.2 i j b h1 h2 h3 h4⟩ (fun i x h10 hx => Or.inl ⟨i, h10, by rw [← q5]; exact hx⟩) ⟨st5, g5.carC h0.2.1.2.1 cv0, h0.2.1.2.2⟩ i5 (fun i s hi _ => by omega)
  clear g4 f40 fr4 q4 f5 i5 fr5 q5 w5 g5 st5 hf4 hs4
  intro m
  induction m with
  | zero =>
    intro k T1 hk g1 w1 s1 sl cs i2 ps
    refine wx_Fr_copyFrom_21 _ _ _ ⟨s1.1, fun _ => hq T1 g1 (w1.up (by omega) (by omega)) ⟨s1.1, cs, ⟨i2, hl⟩, s1.2.2.2.1, s1.2.2.2.2, fun i s hs => ps i s ?_ hs⟩ sl, fun z => absurd (by rw [i2]; exact (nI_leI (by omega) (by omega)).mpr (by omega)) z⟩
    have := (List.getElem?_eq_some_iff.mp hs).1
    omega
  | succ m ih =>
    intro k T1 hk g1 w1 s1 sl cs i2 ps
    have h0' := h0.gr g1 (fun y hy hz => hd y hz hy) cv0
    have ow0 := own_eq h0'.2
    obtain ⟨s, hs⟩ : ∃ s, p[k]? = some s := ⟨_, List.getElem?_eq_getElem (by omega)⟩
    obtain ⟨b0, e1, e2, e3⟩ := h0'.1.2.2.2.2.2 k s hs
    have ownT : ∀ y, old T y → own T1 a y → own T a y := fun y hy hz => by
      rcases hz with q | q | q | ⟨i, x, hi, hx, q⟩
      · exact Or.inl q
      · exact Or.inr (Or.inl q)
      · exact Or.inr (Or.inr (Or.inl q))
      · rcases sl i x hi hx with ⟨j, hj, q2⟩ | q2
        · exact Or.inr (Or.inr (Or.inr ⟨j, x, hj, q2, q⟩))
        · exfalso
          obtain ⟨k1, k2⟩ := sdC_3 (s1.2.2.2.1 i x hi hx).2.1 q
          exact q2 (fun _ => by have := hy k1; omega)
    have dj : ∀ y, own T1 a y → ¬ own T1 a0 y := fun y hy hz => by
      rw [ow0] at hz
      exact hd y (ownT y (own_in sh0 hz).ol hy) hz
    refine wx_Fr_copyFrom_21 _ _ _ ⟨s1.1, fun z => ?_, fun _ => ⟨fun z => absurd ((nI_leI (a := 10) (by decide) (by omega)).mp z) (by omega), fun _ => ⟨h0'.1.1, okn (by omega) (by decide), ?_⟩⟩⟩
    · rw [i2] at z
      exact absurd ((nI_leI (by omega) (by omega)).mp z) (by omega)
    rw [ix_nI (by omega), e1, nI_1]
    refine x_keep (d := d) (i := k) hR s1.1 e2 (by omega) (fun b hb => ⟨(s1.2.2.2.1 k b (by omega) hb).1, Or.inr (Or.inr (s1.2.2.2.1 k b (by omega) hb).2.1), fun e => ?_⟩) (fun T2 b' kp w2 hQ hs2 => ?_)
    · exact dj b (Or.inr (Or.inr (Or.inr ⟨k, b, by omega, hb, Or.inl rfl⟩))) (Or.inr (Or.inr (Or.inr ⟨k, b0, by omega, e1, Or.inl e.symm⟩)))
    obtain ⟨S2, g2, r1, r2, r3, q2, b3, bN, bO, bW⟩ := keep_key s1 (by omega) kp
    have fr2 : FrS T2 a := ⟨g2.o s1.1.1, by rw [g2.fx s1.1.1.1 (Or.inr r3)]; exact s1.1.fn, by rw [g2.fxo s1.1.1 (by decide) (Or.inl (by decide))]; exact s1.1.fp, g2.r s1.1.ap⟩
    have slot : ∀ i x, i < 10 → xQ T2 (fP a) i = some x → (i = k ∧ x = b') ∨ (i ≠ k ∧ x ≠ b' ∧ xQ T1 (fP a) i = some x) := fun i x hi10 hx => by
      by_cases e : i = k
      · rw [e, hQ] at hx
        exact Or.inl ⟨e, (Option.some.inj hx).symm⟩
      · rw [q2 i e] at hx
        exact Or.inr ⟨e, bO i x hi10 e hx, hx⟩
    have st : ∀ x s, STD T1 x ca s → x ≠ b' → STD T2 x ca s := fun x s hx hne => g2.stdC hx (r2 x hx.1 hx.2.1 hne)
    have rcv := (rem_cv cs.2.1 s1.1 (fun i b hi hb => ⟨(s1.2.2.2.1 i b hi hb).1, (s1.2.2.2.1 i b hi hb).2.1⟩)).mono r1
    refine ih (k + 1) T2 (by omega) (g1.tr2 g2 (fun y oy hy => ownT y oy (rem_own (r1 y hy)))) ((w1.tr w2).up (by omega) (by omega)) ⟨fr2, s1.2.1, g2.sds s1.2.2.1, fun i x hi10 hx => ?_, fun i j x hi10 hj10 hx hy => ?_⟩ (fun i x hi10 hx => ?_) ⟨st _ _ cs.1 bN.symm, g2.carC cs.2.1 rcv, cs.2.2⟩ (by rw [g2.I s1.1.1.1 r3]; exact i2) (fun i s' hi hs' => ?_)
    · rcases slot i x hi10 hx with ⟨_, e⟩ | ⟨_, _, hx'⟩
      · rw [e]; exact ⟨hs2.1, b3, bN⟩
      · obtain ⟨o1, o2, o3⟩ := s1.2.2.2.1 i x hi10 hx'
        exact ⟨g2.sds o1, o2, o3⟩
    · rcases slot i x hi10 hx with ⟨e1, e2⟩ | ⟨e1, e2, hx'⟩
      · rcases slot j x hj10 hy with ⟨d1, d2⟩ | ⟨d1, d2, hy'⟩
        · rw [e1, d1]
        · exact absurd e2 d2
      · rcases slot j x hj10 hy with ⟨d1, d2⟩ | ⟨d1, d2, hy'⟩
        · exact absurd d2 e2
        · exact s1.2.2.2.2 i j x hi10 hj10 hx' hy'
    · rcases slot i x hi10 hx with ⟨e1, e2⟩ | ⟨_, _, hx'⟩
      · rw [e2]
        rcases bW with w | w
        · exact sl k b' (by omega) w
        · exact Or.inr (fun z => w (g1.ol z))
      · exact sl i x hi10 hx'
    · rcases Nat.lt_or_ge i k with z | z
      · obtain ⟨b, h1, h2, h3⟩ := ps i s' z hs'
        exact ⟨b, by rw [q2 i (by omega)]; exact h1, st b s' h2 (bO i b (by omega) (by omega) h1), h3⟩
      · have ei : i = k := by omega
        subst ei
        rw [hs] at hs'
        cases hs'
        exact ⟨b', hQ, hs2, e3⟩
end OW1
