/-! all that the class keeps -/
abbrev FA : Type := CV × SD × List SD
/-- the tape; the fault; the fair; images; trays -/
abbrev AB : Type := (Nat × (Nat → Nat)) × (Int32 × Int32) × FA × (Nat → Option FA) × (Nat → Option TY)
def isF (T : XS) (f : Nat) : Prop := f = 49 ∨ ∃ i, i < 3 ∧ xQ T 109 i = some f
def IMX (T : XS) (im : Nat → Option FA) : Prop := (∀ i, i < 3 → (im i = none ∧ xQ T 109 i = none) ∨ ∃ f ca a, im i = some a ∧ xQ T 109 i = some f ∧ f % 4 = 3 ∧ FAIR T f ca a.1 a.2.1 a.2.2) ∧ (∀ i j f, i < 3 → j < 3 → xQ T 109 i = some f → xQ T 109 j = some f → i = j) ∧ ∀ f f', isF T f → isF T f' → f ≠ f' → ∀ y, own T f y → ¬ own T f' y
def XINV (T : XS) (A : AB) : Prop := TPX T A.1.1 A.1.2 ∧ (xI T 1 2 = A.2.1.1 ∧ xI T 1 3 = A.2.1.2) ∧ (∃ ca, FAIR T 49 ca A.2.2.1.1 A.2.2.1.2.1 A.2.2.1.2.2) ∧ IMX T A.2.2.2.1 ∧ TRX T A.2.2.2.2
theorem TRX.gr' {S : Nat → Prop} {T T' : XS} {q : Nat → Option TY} (x : TRX T q) (h : grw S T T') (n0 : ¬ S 113) (n : ∀ b, TyS T b → b % 4 = 3 → ¬ S b ∧ ¬ S (b + 4)) : TRX T' q := h.trx x n0 n
section XV1
variable {S : Nat → Prop} {T T' : XS} {f ca y i n : Nat} {v : CV} {sd sd' : SD} {p p' : List SD} {im : Nat → Option FA} {q : Nat → Option TY} {A : AB} {t : Nat → Nat}
theorem in109 : inb T 109 := Or.inl ⟨rfl, by decide⟩
theorem own_3 (h : FSH T f) (h3 : f % 4 = 3) (hy : own T f y) : y % 4 = 3 := by
  obtain ⟨e1, e2⟩ := okF_3 h3
  rcases hy with hy | hy | hy | ⟨i, x, hi, hx, hy⟩
  · omega
  · omega
  · exact (sdC_3 (by omega) hy).1
  · exact (sdC_3 (h.2.2.2.1 i x hi hx).2.1 hy).1
theorem own_1 (h : FSH T 49) (hy : own T 49 y) (h1 : y % 4 = 1) : y = 49 ∨ y = 89 ∨ y = 93 ∨ y = 97 ∨ y = 101 ∨ y = 105 := by
  rcases hy with hy | hy | hy | ⟨i, x, hi, hx, hy⟩
  · exact Or.inl hy
  · exact Or.inr (Or.inl hy)
  · exact Or.inr (Or.inr hy)
  · have := (sdC_3 (h.2.2.2.1 i x hi hx).2.1 hy).1
    omega
/-- a fair has no part in a tray -/
theorem own_ty {b : Nat} (h : FSH T f) (hb : TyS T b) : ¬ own T f b ∧ ¬ own T f (b + 4) := by
  have k1 := hb.1.2
  have k2 := hb.az.2
  have key : ∀ x, SdS T x → ¬ sdC x b ∧ ¬ sdC x (b + 4) := fun x hx => by
    refine ⟨fun e => ?_, fun e => ?_⟩
    · rcases e with e | e | e | e
      · rw [e, hx.1.2] at k1; cases k1
      · rw [e, hx.aw.2] at k1; cases k1
      · rw [e, hx.am.2] at k1; cases k1
      · rw [e, hx.ak.2] at k1; cases k1
    · rcases e with e | e | e | e
      · have k3 := hx.1.2
        rw [← e, k2] at k3; cases k3
      · rw [e, hx.aw.2] at k2; cases k2
      · rw [e, hx.am.2] at k2; cases k2
      · rw [e, hx.ak.2] at k2; cases k2
  refine ⟨fun e => ?_, fun e => ?_⟩
  · rcases e with e | e | e | ⟨i, x, hi, hx, e⟩
    · rw [e, h.1.1.2] at k1; cases k1
    · rw [e, h.1.ap.2] at k1; cases k1
    · exact (key _ h.2.2.1).1 e
    · exact (key _ (h.2.2.2.1 i x hi hx).1).1 e
  · rcases e with e | e | e | ⟨i, x, hi, hx, e⟩
    · have k3 := h.1.1.2
      rw [← e, k2] at k3; cases k3
    · rw [e, h.1.ap.2] at k2; cases k2
    · exact (key _ h.2.2.1).2 e
    · exact (key _ (h.2.2.2.1 i x hi hx).1).2 e
theorem IMX.get (h : IMX T im) (hi : i < 3) (hf : xQ T 109 i = some f) : f % 4 = 3 ∧ FSH T f ∧ ∃ ca a, im i = some a ∧ FAIR T f ca a.1 a.2.1 a.2.2 := by
  rcases h.1 i hi with w | ⟨f', ca, a, w1, w2, w3, w4⟩
  · rw [hf] at w; cases w.2
  · have e : f' = f := by rw [hf] at w2; exact (Option.some.inj w2).symm
    subst e
    exact ⟨w3, w4.sh (Or.inr w3), ca, a, w1, w4⟩
/-- images stay -/
theorem IMX.gr (h : IMX T im) (g : grw S T T') (hS : ¬ S 109) (ho : ∀ i f, i < 3 → xQ T 109 i = some f → ∀ y, own T f y → ¬ S y) (hc : ∀ ca v, CAR T ca v → cvN S T ca) (h49 : ∀ y, old T y → own T' 49 y → own T 49 y) : IMX T' im := by
  have e : xQ T' 109 = xQ T 109 := g.Q in109 hS
  have key : ∀ i f, i < 3 → xQ T 109 i = some f → own T' f = own T f := fun i f hi hf => by
    obtain ⟨_, _, ca, a, _, w⟩ := h.get hi hf
    exact own_eq (w.gr g (ho i f hi hf) (hc _ _ w.2.1.2.1)).2
  refine ⟨fun i hi => ?_, fun i j f hi hj h1 h2 => ?_, fun f f' hf hf' hne y hy hy' => ?_⟩
  · rcases h.1 i hi with w | ⟨f, ca, a, w1, w2, w3, w4⟩
    · exact Or.inl ⟨w.1, by rw [e]; exact w.2⟩
    · exact Or.inr ⟨f, ca, a, w1, by rw [e]; exact w2, w3, (w4.gr g (ho i f hi w2) (hc _ _ w4.2.1.2.1)).1⟩
  · rw [e] at h1 h2
    exact h.2.1 i j f hi hj h1 h2
  · have hf0 : isF T f := by
      rcases hf with w | ⟨i, hi, w⟩
      · exact Or.inl w
      · exact Or.inr ⟨i, hi, by rw [← e]; exact w⟩
    have hf0' : isF T f' := by
      rcases hf' with w | ⟨i, hi, w⟩
      · exact Or.inl w
      · exact Or.inr ⟨i, hi, by rw [← e]; exact w⟩
    have dj := h.2.2 f f' hf0 hf0' hne y
    rcases hf0 with rfl | ⟨i, hi, w⟩
    · rcases hf0' with rfl | ⟨j, hj, w'⟩
      · exact hne rfl
      · rw [key j f' hj w'] at hy'
        exact dj (h49 y (own_in (h.get hj w').2.1 hy').ol hy) hy'
    · rw [key i f hi w] at hy
      rcases hf0' with rfl | ⟨j, hj, w'⟩
      · exact dj hy (h49 y (own_in (h.get hi w).2.1 hy).ol hy')
      · rw [key j f' hj w'] at hy'
        exact dj hy hy'
/-- cells 1, 5: what stays -/
theorem TPX.gr (h : TPX T n t) (g : grw S T T') (h1 : ¬ S 1) (h5 : ¬ S 5) : TPX T' n t :=
  ⟨by rw [g.I (Or.inl ⟨rfl, by decide⟩) h1]; exact h.1, h.2.1, fun j hj => by rw [g.A (Or.inl ⟨rfl, by decide⟩) h5]; exact h.2.2 j hj⟩
theorem in1 : inb T 1 := Or.inl ⟨rfl, by decide⟩
theorem XINV.sh (h : XINV T A) : FSH T 49 := by
  obtain ⟨_, _, ⟨ca, h⟩, _⟩ := h
  exact h.sh (Or.inl rfl)
/-- whatever touches nothing of it -/
theorem XINV.gr (h : XINV T A) (g : grw S T T') (hS : ∀ y, S y → y % 4 = 1 ∧ y ≠ 1 ∧ y ≠ 5 ∧ y ≠ 109 ∧ y ≠ 113 ∧ y ≠ 49 ∧ y ≠ 89 ∧ y ≠ 93 ∧ y ≠ 97 ∧ y ≠ 101 ∧ y ≠ 105 ∧ y ≠ 53 ∧ y ≠ 65 ∧ y ≠ 69 ∧ y ≠ 73 ∧ y ≠ 77 ∧ y ≠ 81 ∧ y ≠ 85) : XINV T' A := by
  have s49 := h.sh
  obtain ⟨h1, h2, ⟨ca, h3⟩, h4, h5⟩ := h
  have no : ∀ y, (y % 4 = 3 ∨ y = 1 ∨ y = 5 ∨ y = 109 ∨ y = 113 ∨ y = 49 ∨ y = 89 ∨ y = 93 ∨ y = 97 ∨ y = 101 ∨ y = 105 ∨ y = 53 ∨ y = 65 ∨ y = 69 ∨ y = 73 ∨ y = 77 ∨ y = 81 ∨ y = 85) → ¬ S y := fun y hy e => by have := hS y e; omega
  have cv : ∀ ca v, CAR T ca v → cvN S T ca := fun ca v q => by
    rcases q.2.1 with rfl | z
    · exact ⟨no _ (by omega), ⟨no _ (by omega), no _ (by omega), no _ (by omega), no _ (by omega), no _ (by omega), no _ (by omega)⟩, fun b m hb _ _ => no _ (by omega)⟩
    · exact ⟨no _ (by omega), ⟨no _ (by omega), no _ (by omega), no _ (by omega), no _ (by omega), no _ (by omega), no _ (by omega)⟩, fun b m hb _ _ => no _ (by omega)⟩
  have o49 : ∀ y, own T 49 y → ¬ S y := fun y hy e => by
    have := hS y e
    have := own_1 s49 hy (by omega)
    omega
  have f3 := h3.gr g o49 (cv _ _ h3.2.1.2.1)
  refine ⟨h1.gr g (no _ (by omega)) (no _ (by omega)), ⟨by rw [g.I in1 (no _ (by omega))]; exact h2.1, by rw [g.I in1 (no _ (by omega))]; exact h2.2⟩, ⟨ca, f3.1⟩, h4.gr g (no _ (by omega)) (fun i f hi hf y hy => no _ (Or.inl (own_3 (h4.get hi hf).2.1 (h4.get hi hf).1 hy))) cv (fun y _ hy => by rw [own_eq f3.2] at hy; exact hy), h5.gr' g (no _ (by omega)) (fun b hb h3 => ⟨no _ (by omega), no _ (by omega)⟩)⟩
theorem XINV.scr (h : XINV T A) (hf : frm scr T T') : XINV T' A :=
  h.gr hf.grw (fun y hy => (by decide : ∀ y ∈ scrL, y % 4 = 1 ∧ y ≠ 1 ∧ y ≠ 5 ∧ y ≠ 109 ∧ y ≠ 113 ∧ y ≠ 49 ∧ y ≠ 89 ∧ y ≠ 93 ∧ y ≠ 97 ∧ y ≠ 101 ∧ y ≠ 105 ∧ y ≠ 53 ∧ y ≠ 65 ∧ y ≠ 69 ∧ y ≠ 73 ∧ y ≠ 77 ∧ y ≠ 81 ∧ y ≠ 85) y hy)
theorem XINV.thr (h : XINV T A) : XINV (tN T 0 0 6) A := h.gr (S := noc) (grw.rf.N 0 0 6) (fun y hy => hy.elim)
/-- deeds -/
theorem XINV.dd {ca' : Nat} {v' : CV} (h : XINV T A) (h49 : FAIR T 49 ca v sd p) (hd : DDn n T T' ca' v' sd' p') : XINV T' (A.1, A.2.1, (v', sd', p'), A.2.2.2) := by
  have s49 := h.sh
  obtain ⟨h1, h2, -, h4, h5⟩ := h
  obtain ⟨g, f', sl, -⟩ := hd
  have dno : ∀ y, (y = 1 ∨ y = 5 ∨ y = 109 ∨ y = 113) → ¬ dS T y := fun y hy e => by
    rcases e with e | e
    · have := own_1 s49 (rem_own e) (by omega)
      omega
    · rcases e with e | e
      · have := (by decide : ∀ y ∈ nwL, y ≠ 1 ∧ y ≠ 5 ∧ y ≠ 109 ∧ y ≠ 113) y e
        omega
      · have := (by decide : ∀ y ∈ scrL, y ≠ 1 ∧ y ≠ 5 ∧ y ≠ 109 ∧ y ≠ 113) y e
        omega
  have cvn : ∀ ca v, CAR T ca v → cvN nwS T ca := fun ca v q => by
    rcases q.2.1 with rfl | z
    · exact ⟨nwS_d (by decide) (by decide), ⟨nwS_d (by decide) (by decide), nwS_d (by decide) (by decide), nwS_d (by decide) (by decide), nwS_d (by decide) (by decide), nwS_d (by decide) (by decide), nwS_d (by decide) (by decide)⟩, fun b m hb _ _ => nwS_no hb⟩
    · exact ⟨nwS_no (by omega), ⟨nwS_no (by omega), nwS_no (by omega), nwS_no (by omega), nwS_no (by omega), nwS_no (by omega), nwS_no (by omega)⟩, fun b m hb _ _ => nwS_no hb⟩
  refine ⟨h1.gr g (dno _ (by omega)) (dno _ (by omega)), ⟨by rw [g.I in1 (dno _ (by omega))]; exact h2.1, by rw [g.I in1 (dno _ (by omega))]; exact h2.2⟩, ⟨ca', f'⟩, h4.gr g (dno _ (by omega)) (fun i f hi hf y hy e => ?_) (fun ca v q => (((own_cv s49 q).mono (fun y hy => rem_own hy)).un (cvn ca v q)).mono (fun y hy => hy)) (fun y oy hy => ?_), h5.gr' g (dno _ (by omega)) (fun b hb h3 => dS_ty h49 hb h3)⟩
  · obtain ⟨f3, fs, _⟩ := h4.get hi hf
    have y3 := own_3 fs f3 hy
    rcases e with e | e
    · exact h4.2.2 f 49 (Or.inr ⟨i, hi, hf⟩) (Or.inl rfl) (by omega) y hy (rem_own e)
    · exact nwS_no y3 e
  · rcases hy with w | w | w | ⟨i, x, hi, hx, w⟩
    · exact Or.inl w
    · exact Or.inr (Or.inl w)
    · exact Or.inr (Or.inr (Or.inl w))
    · rcases sl i x hi hx with ⟨j, hj, w2⟩ | w2
      · exact Or.inr (Or.inr (Or.inr ⟨j, x, hj, w2, w⟩))
      · exfalso
        obtain ⟨k1, k2⟩ := sdC_3 (f'.2.2.2.1 i x hi hx).2.1 w
        exact w2 (fun _ => by have := oy k1; omega)
/-- trays -/
theorem XINV.ty (h : XINV T A) (hd : TD T T' q) : XINV T' (A.1, A.2.1, A.2.2.1, A.2.2.2.1, q) := by
  have s49 := h.sh
  obtain ⟨h1, h2, ⟨ca, h3⟩, h4, h5⟩ := h
  obtain ⟨g, -, hq⟩ := hd
  have no : ∀ y, y % 4 = 1 → y ≠ 113 → ¬ tyC T y := fun y h1 h2 e => by
    rcases e with e | ⟨b, _, b3, e⟩
    · exact h2 e
    · omega
  have ow : ∀ f, FSH T f → (f % 4 = 3 ∨ f = 49) → ∀ y, own T f y → ¬ tyC T y := fun f hf h3 y hy e => by
    rcases e with e | ⟨b, hb, b3, e⟩
    · rcases h3 with h3 | h3
      · have := own_3 hf h3 hy; omega
      · subst h3
        have := own_1 hf hy (by omega)
        omega
    · have := own_ty hf hb
      rcases e with e | e
      · rw [e] at hy; exact this.1 hy
      · rw [e] at hy; exact this.2 hy
  have cv : ∀ ca v, CAR T ca v → cvN (tyC T) T ca := fun ca v q => by
    have ne : ∀ y, (shx T y).1 = 2 ∨ (∃ n, shx T y = (20, n)) → y ≠ 113 → ¬ tyC T y := fun y hk hy e => by
      rcases e with e | ⟨b, hb, b3, e | e⟩
      · exact hy e
      · rw [e] at hk
        have := hb.1.2
        rcases hk with hk | ⟨n, hk⟩
        · rw [hk] at this; cases this
        · rw [hk] at this; cases this
      · rw [e] at hk
        have := hb.az.2
        rcases hk with hk | ⟨n, hk⟩
        · rw [this] at hk; cases hk
        · rw [hk] at this; cases this
    have hca : ∀ k, k = 0 ∨ k = 12 ∨ k = 16 ∨ k = 20 ∨ k = 24 ∨ k = 28 ∨ k = 32 → ca + k ≠ 113 := fun k hk => by
      rcases q.2.1 with rfl | z <;> omega
    exact ⟨ne _ (Or.inl q.1.1.2) (hca 0 (by omega)), ⟨ne _ (Or.inr ⟨_, q.1.a10.2⟩) (hca _ (by omega)), ne _ (Or.inr ⟨_, q.1.a11.2⟩) (hca _ (by omega)), ne _ (Or.inr ⟨_, q.1.a12.2⟩) (hca _ (by omega)), ne _ (Or.inr ⟨_, q.1.a13.2⟩) (hca _ (by omega)), ne _ (Or.inr ⟨_, q.1.a7.2⟩) (hca _ (by omega)), ne _ (Or.inr ⟨_, q.1.a8.2⟩) (hca _ (by omega))⟩, fun b m hb hm _ => ne _ (Or.inr ⟨m, hm.2⟩) (by omega)⟩
  have f3 := h3.gr g (ow 49 s49 (Or.inr rfl)) (cv _ _ h3.2.1.2.1)
  exact ⟨h1.gr g (no _ rfl (by decide)) (no _ rfl (by decide)), ⟨by rw [g.I in1 (no _ rfl (by decide))]; exact h2.1, by rw [g.I in1 (no _ rfl (by decide))]; exact h2.2⟩, ⟨ca, f3.1⟩, h4.gr g (no _ rfl (by decide)) (fun i f hi hf y hy => ow f (h4.get hi hf).2.1 (Or.inl (h4.get hi hf).1) y hy) cv (fun y _ hy => by rw [own_eq f3.2] at hy; exact hy), hq⟩
/-- feeding -/
theorem XINV.fd (h : XINV T A) (hf : FDX T T') (ht : TPX T' n t) : XINV T' ((n, t), A.2) := by
  have s49 := h.sh
  obtain ⟨h1, h2, ⟨ca, h3⟩, h4, h5⟩ := h
  have g := hf.1.grw
  have no : ∀ y, y ≠ 1 → y ≠ 5 → ¬ tpS y := fun y h1 h2 e => by omega
  have cv : ∀ ca v, CAR T ca v → cvN tpS T ca := fun ca v q => by
    rcases q.2.1 with rfl | z
    · exact ⟨by omega, ⟨by omega, by omega, by omega, by omega, by omega, by omega⟩, fun b m hb _ _ => by omega⟩
    · exact ⟨by omega, ⟨by omega, by omega, by omega, by omega, by omega, by omega⟩, fun b m hb _ _ => by omega⟩
  have f3 := h3.gr g (fun y hy e => by
    rcases e with e | e
    · have := own_1 s49 hy (by omega); omega
    · have := own_1 s49 hy (by omega); omega) (cv _ _ h3.2.1.2.1)
  exact ⟨ht, ⟨by rw [hf.2 2 (by decide)]; exact h2.1, by rw [hf.2 3 (by decide)]; exact h2.2⟩, ⟨ca, f3.1⟩, h4.gr g (by omega) (fun i f hi hf y hy e => by have := own_3 (h4.get hi hf).2.1 (h4.get hi hf).1 hy; omega) cv (fun y _ hy => by rw [own_eq f3.2] at hy; exact hy), h5.gr' g (by omega) (fun b hb h3 => ⟨by omega, by omega⟩)⟩
end XV1
