/-! a fair as told -/
/-- cells that a carnival has no part in -/
def cvN (S : Nat → Prop) (T : XS) (ca : Nat) : Prop := ¬ S ca ∧ (¬ S (ca + 12) ∧ ¬ S (ca + 16) ∧ ¬ S (ca + 20) ∧ ¬ S (ca + 24) ∧ ¬ S (ca + 28) ∧ ¬ S (ca + 32)) ∧ ∀ b m, b % 4 = 3 → ar T b 20 m → NB T b → ¬ S b
section FA1
variable {S S' : Nat → Prop} {T T' : XS} {a b f ca x : Nat} {v : CV} {sd : SD} {p : List SD}
theorem grw.lawC (h : grw S T T') {o : Option Nat} {l : List Nat} (q : LAWA T o l) (n : ∀ b m, b % 4 = 3 → ar T b 20 m → NB T b → ¬ S b) : LAWA T' o l := by
  rcases q with q | ⟨b, q1, q2, q3, q4, q5, q6⟩
  · exact Or.inl q
  · refine Or.inr ⟨b, q1, q2, q3, h.r q4, h.nb q4.1 q3 q5, fun i hi => ?_⟩
    rw [h.A q4.1 (n b _ q3 q4 q5)]
    exact q6 i hi
theorem grw.carC (h : grw S T T') (q : CAR T ca v) (n : cvN S T ca) : CAR T' ca v := by
  obtain ⟨q1, q2, ⟨q3, q4, q5⟩, q6, q7, q8, q9, q10, q11⟩ := q
  obtain ⟨n0, ⟨m1, m2, m3, m4, m5, m6⟩, n⟩ := n
  have i0 := q1.1.1
  refine ⟨h.cvs q1, q2, ⟨by rw [h.I i0 n0]; exact q3, by rw [h.I i0 n0]; exact q4, by rw [h.I i0 n0]; exact q5⟩, ?_, ?_, by rw [h.I i0 n0]; exact q8, fun g hg => ?_, by rw [h.ns q1]; exact q10, fun k hk => ?_⟩
  · rw [h.fx i0 (Or.inr n0)]; exact h.lawC q6 n
  · rw [h.fx i0 (Or.inr n0)]; exact h.lawC q7 n
  · rw [h.A q1.a10.1 m1, h.A q1.a11.1 m2, h.A q1.a12.1 m3, h.A q1.a13.1 m4]; exact q9 g hg
  · rw [h.A q1.a7.1 m5, h.A q1.a8.1 m6]; exact q11 k hk
/-- a carnival and a standing share no cell -/
theorem cv_sd (q : CAR T ca v) (h : SdS T x) (h3 : x % 4 = 3) : cvN (sdC x) T ca := by
  obtain ⟨e1, e2, e3⟩ := sW_3 h3
  have hx := h.1.2
  have w1 := h.aw.2
  have w2 := h.am.2
  have w3 := h.ak.2
  have ne : ∀ y n, shx T y = (20, n) → x ≠ y := fun y n hy e => by rw [e, hy] at hx; cases hx
  have nc : x ≠ ca := fun e => by have := q.1.1.2; rw [← e, hx] at this; cases this
  have k3 := ne _ _ q.1.a3.2
  have k9 := ne _ _ q.1.a9.2
  have k10 := ne _ _ q.1.a10.2
  have k11 := ne _ _ q.1.a11.2
  have k12 := ne _ _ q.1.a12.2
  have k13 := ne _ _ q.1.a13.2
  have k7 := ne _ _ q.1.a7.2
  have k8 := ne _ _ q.1.a8.2
  have c0 : ∀ y n, shx T y = (20, n) → ca ≠ y := fun y n hy e => by have := q.1.1.2; rw [e, hy] at this; cases this
  have d1 := c0 _ _ w1
  have d2 := c0 _ _ w2
  have d3 := c0 _ _ w3
  unfold cvN sdC
  refine ⟨by omega, ⟨by omega, by omega, by omega, by omega, by omega, by omega⟩, fun b m hb hm hn e => ?_⟩
  have := hn x h.1
  have := ne _ _ hm.2
  rcases e with e | e | e | e
  · exact this e.symm
  · exact (hn x h.1).1 e
  · exact (hn x h.1).2.1 e
  · exact (hn x h.1).2.2 e
/-- a fair: what is now, what was -/
def FAIR (T : XS) (f ca : Nat) (v : CV) (sd : SD) (p : List SD) : Prop := FrS T f ∧ CS T (fN f) ca v sd ∧ (xI T f 2 = nI p.length ∧ p.length ≤ 10) ∧ (∀ i b, i < 10 → xQ T (fP f) i = some b → SdS T b ∧ b % 4 = 3 ∧ b ≠ fN f) ∧ (∀ i j b, i < 10 → j < 10 → xQ T (fP f) i = some b → xQ T (fP f) j = some b → i = j) ∧ ∀ i s, p[i]? = some s → ∃ b, xQ T (fP f) i = some b ∧ STD T b ca s ∧ SOK (vG v) s
/-- what keeping may change -/
def remS (T : XS) (f b : Nat) : Prop := b = f ∨ b = fP f ∨ ∃ i x, i < 10 ∧ xQ T (fP f) i = some x ∧ sdC x b
theorem fr_sd (hF : FrS T f) (h : SdS T x) : ¬ sdC x f ∧ ¬ sdC x (fP f) := by
  have h1 := hF.1.2
  have h2 := hF.ap.2
  refine ⟨fun e => ?_, fun e => ?_⟩
  · rcases e with e | e | e | e
    · rw [e, h.1.2] at h1; cases h1
    · rw [e, h.aw.2] at h1; cases h1
    · rw [e, h.am.2] at h1; cases h1
    · rw [e, h.ak.2] at h1; cases h1
  · rcases e with e | e | e | e
    · have := h.1.2; rw [← e, h2] at this; cases this
    · rw [e, h.aw.2] at h2; cases h2
    · rw [e, h.am.2] at h2; cases h2
    · rw [e, h.ak.2] at h2; cases h2
theorem rem_cv (q : CAR T ca v) (hF : FrS T f) (ho : ∀ i b, i < 10 → xQ T (fP f) i = some b → SdS T b ∧ b % 4 = 3) : cvN (remS T f) T ca := by
  have key : ∀ y, (shx T y).1 = 2 ∨ (∃ n, shx T y = (20, n)) → (∀ x, SdS T x → x % 4 = 3 → ¬ sdC x y) → ¬ remS T f y := fun y hy hs e => by
    rcases e with e | e | ⟨i, x, hi, hx, e⟩
    · have := hF.1.2
      rw [← e] at this
      rcases hy with hy | ⟨n, hy⟩
      · rw [hy] at this; cases this
      · rw [hy] at this; cases this
    · have := hF.ap.2
      rw [← e] at this
      rcases hy with hy | ⟨n, hy⟩
      · rw [this] at hy; cases hy
      · rw [this] at hy; cases hy
    · exact hs x (ho i x hi hx).1 (ho i x hi hx).2 e
  refine ⟨key ca (Or.inl q.1.1.2) (fun x h h3 => (cv_sd q h h3).1), ⟨key _ (Or.inr ⟨_, q.1.a10.2⟩) (fun x h h3 => (cv_sd q h h3).2.1.1), key _ (Or.inr ⟨_, q.1.a11.2⟩) (fun x h h3 => (cv_sd q h h3).2.1.2.1), key _ (Or.inr ⟨_, q.1.a12.2⟩) (fun x h h3 => (cv_sd q h h3).2.1.2.2.1), key _ (Or.inr ⟨_, q.1.a13.2⟩) (fun x h h3 => (cv_sd q h h3).2.1.2.2.2.1), key _ (Or.inr ⟨_, q.1.a7.2⟩) (fun x h h3 => (cv_sd q h h3).2.1.2.2.2.2.1), key _ (Or.inr ⟨_, q.1.a8.2⟩) (fun x h h3 => (cv_sd q h h3).2.1.2.2.2.2.2)⟩, fun b m hb hm hn => key b (Or.inr ⟨m, hm.2⟩) (fun x h h3 => (cv_sd q h h3).2.2 b m hb hm hn)⟩
theorem rem_sd (hF : FrS T f) (hy : SdS T a) (ha : oks a) (ho : ∀ i b, i < 10 → xQ T (fP f) i = some b → SdS T b ∧ b % 4 = 3 ∧ b ≠ a) : ∀ y, sdC a y → ¬ remS T f y := fun y hs e => by
  rcases e with e | e | ⟨i, x, hi, hx, e⟩
  · rw [e] at hs; exact (fr_sd hF hy).1 hs
  · rw [e] at hs; exact (fr_sd hF hy).2 hs
  · obtain ⟨o1, o2, o3⟩ := ho i x hi hx
    exact sd_dis o1 hy (Or.inr (Or.inr o2)) ha (fun q => o3 q.symm) y hs e
theorem grw.stdC (h : grw S T T') (q : STD T a ca sd) (n : ∀ y, sdC a y → ¬ S y) : STD T' a ca sd :=
  h.std q (n _ (Or.inl rfl)) (n _ (Or.inr (Or.inl rfl))) (n _ (Or.inr (Or.inr (Or.inl rfl)))) (n _ (Or.inr (Or.inr (Or.inr rfl))))
end FA1
