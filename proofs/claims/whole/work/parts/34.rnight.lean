/-! ===== a stretch of an array written over by a function ===== -/
def fb_put {α : Type} (f g : Nat → α) (a n : Nat) : Nat → α := fun k => if a ≤ k ∧ k < a + n then g (k - a) else f k
theorem fb_put_0 {α : Type} (f g : Nat → α) (a : Nat) : fb_put f g a 0 = f := funext fun k => if_neg (by omega)
theorem fb_put_in {α : Type} {f g : Nat → α} {a n k : Nat} (h1 : a ≤ k) (h2 : k < a + n) : fb_put f g a n k = g (k - a) := if_pos ⟨h1, h2⟩
theorem fb_put_out {α : Type} {f g : Nat → α} {a n k : Nat} (h : k < a ∨ a + n ≤ k) : fb_put f g a n k = f k := if_neg (by omega)
theorem fb_put_succ (f g : Nat → Int32) (a n : Nat) : upd (fb_put f g a n) (a + n) (g n) = fb_put f g a (n + 1) := by
  funext k
  by_cases h : k = a + n
  · subst h
    simp [upd, fb_put]
  · by_cases h1 : a ≤ k ∧ k < a + n
    · have h2 : a ≤ k ∧ k < a + (n + 1) := by omega
      simp only [upd, fb_put, if_neg h, if_pos h1, if_pos h2]
    · have h2 : ¬ (a ≤ k ∧ k < a + (n + 1)) := by omega
      simp only [upd, fb_put, if_neg h, if_neg h1, if_neg h2]
/-- .. from the far end down -/
theorem fb_put_down (f g : Nat → Int32) {a n m : Nat} (h : m < n) : upd (fb_put f (fun k => g (k + (m + 1))) (a + (m + 1)) (n - (m + 1))) (a + m) (g m) = fb_put f (fun k => g (k + m)) (a + m) (n - m) := by
  funext k
  by_cases h0 : k = a + m
  · subst h0
    simp only [upd, if_true]
    rw [fb_put_in (by omega) (by omega)]
    exact congrArg g (by omega)
  · simp only [upd, if_neg h0]
    by_cases h1 : a + (m + 1) ≤ k ∧ k < a + (m + 1) + (n - (m + 1))
    · rw [fb_put_in h1.1 h1.2, fb_put_in (by omega) (by omega)]
      exact congrArg g (by omega)
    · rw [fb_put_out (by omega), fb_put_out (by omega)]
theorem fb_put_cong {α : Type} {f f2 g g2 : Nat → α} {a n : Nat} (hf : ∀ k, (k < a ∨ a + n ≤ k) → f k = f2 k) (hg : ∀ k, k < n → g k = g2 k) : fb_put f g a n = fb_put f2 g2 a n := by
  funext k
  by_cases h : a ≤ k ∧ k < a + n
  · rw [fb_put_in h.1 h.2, fb_put_in h.1 h.2, hg _ (by omega)]
  · rw [fb_put_out (by omega), fb_put_out (by omega), hf _ (by omega)]
/-! the reference's scratch; nights; deeds kept -/
def SR (s s' : RS) : Prop := (∀ k, k ≠ 22 → k ≠ 26 → k ≠ 27 → k ≠ 28 → k ≠ 31 → k ≠ 32 → s'.1 k = s.1 k) ∧ (∀ i, i ≠ 1 → (i < 6 ∨ 13 < i) → s'.2.1 i = s.2.1 i) ∧ (∀ x, (x < 6 ∨ 27 ≤ x) → s'.2.1 1 x = s.2.1 1 x) ∧ ∀ i, i ≠ 14 → s'.2.2 i = s.2.2 i
theorem SR.rf (s : RS) : SR s s := ⟨fun _ _ _ _ _ _ _ => rfl, fun _ _ _ => rfl, fun _ _ => rfl, fun _ _ => rfl⟩
theorem SR.tr {s t u : RS} (h : SR s t) (h' : SR t u) : SR s u :=
  ⟨fun k a b c d e f => (h'.1 k a b c d e f).trans (h.1 k a b c d e f), fun i a b => (h'.2.1 i a b).trans (h.2.1 i a b), fun x a => (h'.2.2.1 x a).trans (h.2.2.1 x a), fun i a => (h'.2.2.2 i a).trans (h.2.2.2 i a)⟩
theorem SR.w (s : RS) {i : Nat} (f : Nat → Int32) (h : 6 ≤ i ∧ i ≤ 13) : SR s (rW s i f) :=
  ⟨fun _ _ _ _ _ _ _ => rfl, fun j _ hj => rW_ne s f (by omega), fun x _ => by rw [rW_ne s f (by omega)], fun _ _ => rfl⟩
theorem SR.w1 (s : RS) (f : Nat → Int32) (h : ∀ x, (x < 6 ∨ 27 ≤ x) → f x = s.2.1 1 x) : SR s (rW s 1 f) :=
  ⟨fun _ _ _ _ _ _ _ => rfl, fun j h1 hj => rW_ne s f h1, fun x hx => by rw [rW_at]; exact h x hx, fun _ _ => rfl⟩
theorem KC.keep {k k' : Nat → Int32} {v : CV} (h : KC k v) (hv : COK v) (hx : ∀ x, (x < 5 ∨ 27 ≤ x ∧ x < 91 ∨ 301 ≤ x) → k' x = k x) : KC k' v := by
  obtain ⟨h0, h1, h2, h3, h4, h5, h6, h7, h8⟩ := h
  have hG := hv.1
  have hT := hv.2.1
  refine ⟨by rw [hx 0 (by omega)]; exact h0, by rw [hx 1 (by omega)]; exact h1, by rw [hx 2 (by omega)]; exact h2, by rw [hx 3 (by omega)]; exact h3, by rw [hx 4 (by omega)]; exact h4, fun g hg => ?_, fun i hi => ?_, fun i hi => ?_, fun i hi => ?_⟩
  · rw [hx _ (by omega), hx _ (by omega), hx _ (by omega), hx _ (by omega)]; exact h5 g hg
  · rw [hx _ (by omega), hx _ (by omega)]; exact h6 i hi
  · rw [hx _ (by omega)]; exact h7 i hi
  · rw [hx _ (by omega)]; exact h8 i hi
theorem KS.keep {k k' : Nat → Int32} {b b' : Nat} {a : SD} (h : KS k b a) (hx : ∀ x, x < 21 → k' (b' + x) = k (b + x)) : KS k' b' a :=
  ⟨fun g hg => by rw [hx g (by omega)]; exact h.1 g hg, fun g hg => by rw [Nat.add_assoc, hx (10 + g) (by omega), ← Nat.add_assoc]; exact h.2.1 g hg, by rw [hx 20 (by omega)]; exact h.2.2⟩
theorem KR.sr {s s' : RS} {v : CV} {a a' : SD} (h : KR s v a) (hs : SR s s') (ha : KS (s'.2.1 1) 6 a') (hok : SOK (vG v) a') : KR s' v a' :=
  ⟨h.1.keep h.2.2.1 (fun x hx => hs.2.2.1 x (by omega)), ha, h.2.2.1, hok⟩
def nightS (v : CV) (a : SD) : SD := (thenW v a, a.2.1, a.2.2 + 1)
theorem mkb_0 {w : Nat → Option Nat} {g : Nat} (h : ∀ k, w k ≠ some g) : ∀ n, mkb w g n = 0
  | 0 => rfl
  | n + 1 => by rw [mkb, if_neg (h n)]; exact mkb_0 h n
theorem nightS_ok {s : RS} {v : CV} {a : SD} (h : KR s v a) : SOK (vG v) (nightS v a) := by
  refine ⟨fun g x hx => ?_, h.2.2.2.2⟩
  simp only [nightS] at hx
  unfold thenW at hx
  split at hx
  · exact h.2.2.2.1 g x hx
  · rename_i h0
    split at hx
    · have hx := Option.some.inj hx
      subst hx
      obtain ⟨l1, l2⟩ := mkb_lob h h0
      have := h.2.2.2.1 _ _ l2
      exact ⟨this.2.1, l1, fun q => this.2.2 q.symm⟩
    · exact h.2.2.2.1 g x hx
theorem thenW_big {s : RS} {v : CV} {a : SD} (h : KR s v a) {g : Nat} (hg : vG v ≤ g) : thenW v a g = none := by
  unfold thenW
  rw [if_pos (mkb_0 (fun k q => by have := h.2.2.2.1 k g q; omega) _)]
  cases e : a.1 g with
  | none => rfl
  | some x => have := h.2.2.2.1 g x e; omega
section NT
variable {c : CX} {d : Nat} {s : RS} {v : CV} {a : SD}
theorem night_lp1 {Q : RS → Prop} (h : KR s v a) (hk : ∀ (f n : Nat → Int32), (∀ j, j < vG v → n j = oI (thenW v a j)) → eR c (d + 5) m_R_night 29 [some (.ref 2), some (.int (nI 0))] (rW (rW s 6 f) 7 n) (pV c Q)) :
    ∀ (m k : Nat) (f n : Nat → Int32), k + m = vG v → (∀ j, j < k → n j = oI (thenW v a j)) → eR c (d + 5) m_R_night 2 [some (.ref 2), some (.int (nI k))] (rW (rW s 6 f) 7 n) (pV c Q) := by
  have hG := h.2.2.1.1
  intro m
  induction m with
  | zero =>
    intro k f n hkm hn
    have hh := (h.put f (show 6 ≠ 1 by decide)).put n (show 7 ≠ 1 by decide)
    refine w_R_night_2 _ ⟨fun _ => hk f n (fun j hj => hn j (by omega)), fun z => absurd ((hh.gle (by omega)).mpr (by omega)) z⟩
  | succ m ih =>
    intro k f n hkm hn
    have hh := (h.put f (show 6 ≠ 1 by decide)).put n (show 7 ≠ 1 by decide)
    refine w_R_night_2 _ ⟨fun z => absurd ((hh.gle (by omega)).mp z) (by omega), fun _ => s_then hh (by omega) (fun f' => ⟨okx_nI' (by omega) (by decide), ?_⟩)⟩
    rw [nI_1, ix_nI (by omega), rA_W, rW_ne _ f' (by decide), rW_at, rW_sw _ _ _ (by decide : 6 ≠ 7), rW_W, rW_sw _ _ _ (by decide : 7 ≠ 6), rW_W]
    refine ih (k + 1) f' _ (by omega) (fun j hj => ?_)
    unfold upd
    split
    · rename_i e; rw [e]
    · exact hn j (by omega)
theorem night_lp2 {Q : RS → Prop} (h : KR s v a) {n : Nat → Int32} (hn : s.2.1 7 = n) :
    ∀ (m k : Nat), k + m = vG v → (Q (rW s 1 (upd (fb_put (s.2.1 1) n 6 (vG v)) 26 (s.2.1 1 26 + 1)))) → eR c (d + 1) m_R_night 29 [some (.ref 2), some (.int (nI k))] (rW s 1 (fb_put (s.2.1 1) n 6 k)) (pV c Q) := by
  have hG := h.2.2.1.1
  have hg : ∀ k, k ≤ 10 → ((rW s 1 (fb_put (s.2.1 1) n 6 k)).2.1 1 1 ≤ nI k ↔ vG v ≤ k) := fun k hk => by
    rw [rW_at, fb_put_out (by omega)]
    exact h.gle hk
  intro m
  induction m with
  | zero =>
    intro k hkm hq
    refine w_R_night_29 _ ⟨fun _ => ⟨rfl, rfl, ?_⟩, fun z => absurd ((hg k (by omega)).mpr (by omega)) z⟩
    rw [rA_W, rW_W, rW_at, show ix 26 = 26 from rfl, fb_put_out (by omega), show k = vG v by omega]
    exact hq
  | succ m ih =>
    intro k hkm hq
    refine w_R_night_29 _ ⟨fun z => absurd ((hg k (by omega)).mp z) (by omega), fun _ => ⟨okx_nI' (by omega) (by decide), okm (by omega), ?_⟩⟩
    rw [nI_1, show ix (6 + nI k) = 6 + k from ixA 6 (by omega), ix_nI (by omega), rA_W, rW_W, rW_at, rW_ne _ _ (by decide), hn, fb_put_succ]
    exact ih (k + 1) (by omega) hq
theorem s_night {Q : RS → Prop} (h : KR s v a) (hq : ∀ s', SR s s' → KR s' v (nightS v a) → Q s') : RV c (d + 5) m_R_night [.ref 2] s Q := by
  have hG := h.2.2.1.1
  refine w_R_night ?_
  have e := night_lp1 (c := c) (d := d) (Q := Q) h ?_ (vG v) 0 (s.2.1 6) (s.2.1 7) (by omega) (fun j hj => by omega)
  · rw [rW_id, rW_id] at e
    exact e
  · intro f n hn
    have hh := (h.put f (show 6 ≠ 1 by decide)).put n (show 7 ≠ 1 by decide)
    have e := night_lp2 (c := c) (d := d + 4) (Q := Q) hh (n := n) (rW_at _ _ _) (vG v) 0 (by omega) ?_
    · rw [fb_put_0, rW_id] at e
      exact e
    · rw [rW_ne _ n (by decide), rW_ne _ f (by decide)]
      have hs : SR s (rW (rW (rW s 6 f) 7 n) 1 (upd (fb_put (s.2.1 1) n 6 (vG v)) 26 (s.2.1 1 26 + 1))) := by
        refine ((SR.w s f (by decide)).tr (SR.w _ n (by decide))).tr (SR.w1 _ _ (fun x hx => ?_))
        rw [rW_ne _ n (by decide), rW_ne _ f (by decide)]
        unfold upd
        rw [if_neg (by omega), fb_put_out (by omega)]
      refine hq _ hs (h.sr hs ?_ (nightS_ok h))
      rw [rW_at]
      refine ⟨fun g hg => ?_, fun g hg => ?_, ?_⟩
      · unfold upd
        rw [if_neg (by omega)]
        by_cases q : g < vG v
        · rw [fb_put_in (by omega) (by omega), show 6 + g - 6 = g by omega, hn g q]
          rfl
        · rw [fb_put_out (by omega), h.2.1.1 g hg]
          show _ = oI (thenW v a g)
          rw [thenW_big h (by omega)]
          cases e : a.1 g with
          | none => rfl
          | some x => have := h.2.2.2.1 g x e; omega
      · unfold upd
        rw [if_neg (by omega), fb_put_out (by omega), h.2.1.2.1 g hg]
        rfl
      · show upd _ 26 _ 26 = _
        unfold upd
        rw [if_pos rfl, show s.2.1 1 26 = a.2.2 from h.2.1.2.2]
        rfl
/-! deeds kept -/
def KP (k : Nat → Int32) (G : Nat) (p : List SD) : Prop := k 5 = nI p.length ∧ p.length ≤ 10 ∧ ∀ i a, p[i]? = some a → KS k (91 + 21 * i) a ∧ SOK G a
/-- kept as the newest of ten -/
def push10 (p : List SD) (a : SD) : List SD := if p.length = 10 then p.drop 1 ++ [a] else p ++ [a]
theorem aside_lp {Q : RS → Prop} : ∀ (m k : Nat) (f : Nat → Int32), k + m = 21 → Q (rW s 8 (fb_put f (fun j => s.2.1 1 (6 + j)) 0 21)) → eR c d m_R_putsAside 2 [some (.ref 2), some (.int (nI k))] (rW s 8 (fb_put f (fun j => s.2.1 1 (6 + j)) 0 k)) (pV c Q) := by
  intro m
  induction m with
  | zero =>
    intro k f hk hq
    refine w_R_putsAside_2 _ ⟨fun _ => by rw [show k = 21 by omega]; exact hq, fun z => absurd (nI_leI (a := 21) (by decide) (by omega) |>.mpr (by omega)) z⟩
  | succ m ih =>
    intro k f hk hq
    refine w_R_putsAside_2 _ ⟨fun z => absurd ((nI_leI (a := 21) (by decide) (by omega)).mp z) (by omega), fun _ => ⟨okA 6 (by omega) (by decide), okx_nI' (by omega) (by decide), ?_⟩⟩
    have e := fb_put_succ f (fun j => s.2.1 1 (6 + j)) 0 k
    rw [Nat.zero_add] at e
    rw [nI_1, ix_nI (by omega), show ix (6 + nI k) = 6 + k from ixA 6 (by omega), rA_W, rW_W, rW_at, rW_ne _ _ (by decide), e]
    exact ih (k + 1) f (by omega) hq
theorem s_putsAside {Q : RS → Prop} (hq : Q (rW s 8 (fb_put (s.2.1 8) (fun j => s.2.1 1 (6 + j)) 0 21))) : RV c d m_R_putsAside [.ref 2] s Q := by
  refine w_R_putsAside ?_
  have e := aside_lp (c := c) (d := d) (s := s) 21 0 (s.2.1 8) (by omega) hq
  rw [fb_put_0, rW_id] at e
  exact e
theorem back_lp {Q : RS → Prop} : ∀ (m k : Nat), k + m = 21 → Q (rW s 1 (fb_put (s.2.1 1) (s.2.1 8) 6 21)) → eR c d m_R_putsBack 2 [some (.ref 2), some (.int (nI k))] (rW s 1 (fb_put (s.2.1 1) (s.2.1 8) 6 k)) (pV c Q) := by
  intro m
  induction m with
  | zero =>
    intro k hk hq
    refine w_R_putsBack_2 _ ⟨fun _ => by rw [show k = 21 by omega]; exact hq, fun z => absurd (nI_leI (a := 21) (by decide) (by omega) |>.mpr (by omega)) z⟩
  | succ m ih =>
    intro k hk hq
    refine w_R_putsBack_2 _ ⟨fun z => absurd ((nI_leI (a := 21) (by decide) (by omega)).mp z) (by omega), fun _ => ⟨okx_nI' (by omega) (by decide), okA 6 (by omega) (by decide), ?_⟩⟩
    rw [nI_1, ix_nI (by omega), show ix (6 + nI k) = 6 + k from ixA 6 (by omega), rA_W, rW_W, rW_at, rW_ne _ _ (by decide), fb_put_succ]
    exact ih (k + 1) (by omega) hq
theorem s_putsBack {Q : RS → Prop} (hq : Q (rW s 1 (fb_put (s.2.1 1) (s.2.1 8) 6 21))) : RV c d m_R_putsBack [.ref 2] s Q := by
  refine w_R_putsBack ?_
  have e := back_lp (c := c) (d := d) (s := s) 21 0 (by omega) hq
  rw [fb_put_0, rW_id] at e
  exact e
/-- a standing put aside -/
theorem KS.aside {k f : Nat → Int32} {a : SD} (h : KS k 6 a) : KS (fb_put f (fun j => k (6 + j)) 0 21) 0 a :=
  h.keep (fun x hx => by rw [fb_put_in (by omega) (by omega)]; congr 1; omega)
theorem KS.back {k f : Nat → Int32} {a : SD} (h : KS f 0 a) : KS (fb_put k f 6 21) 6 a :=
  h.keep (fun x hx => by rw [fb_put_in (by omega) (by omega)]; congr 1; omega)
theorem keeps_cp {Q : RS → Prop} {n : Nat} (hn : n < 10) (h5 : s.2.1 1 5 = nI n) : ∀ (m k : Nat), k + m = 21 → Q (rW s 1 (upd (fb_put (s.2.1 1) (fun j => s.2.1 1 (6 + j)) (91 + 21 * n) 21) 5 (nI (n + 1)))) → eR c d m_R_keeps 54 [some (.ref 2), some (.int (nI k))] (rW s 1 (fb_put (s.2.1 1) (fun j => s.2.1 1 (6 + j)) (91 + 21 * n) k)) (pV c Q) := by
  have e5 : ∀ k, (rW s 1 (fb_put (s.2.1 1) (fun j => s.2.1 1 (6 + j)) (91 + 21 * n) k)).2.1 1 (ix 5) = nI n := fun k => by
    rw [rW_at, show ix 5 = 5 from rfl, fb_put_out (by omega)]; exact h5
  intro m
  induction m with
  | zero =>
    intro k hk hq
    refine w_R_keeps_54 _ ⟨fun _ => ⟨rfl, rfl, ?_⟩, fun z => absurd (nI_leI (a := 21) (by decide) (by omega) |>.mpr (by omega)) z⟩
    rw [e5, nI_1, rA_W, rW_W, rW_at, show k = 21 by omega]
    exact hq
  | succ m ih =>
    intro k hk hq
    refine w_R_keeps_54 _ ⟨fun z => absurd ((nI_leI (a := 21) (by decide) (by omega)).mp z) (by omega), fun _ => ⟨rfl, okA 6 (by omega) (by decide), ?_⟩⟩
    have ei : 91 + 21 * nI n + nI k = nI (91 + 21 * n + k) := by
      rw [show (91 : Int32) + 21 * nI n = nI (91 + 21 * n) by rw [show (21 : Int32) * nI n = nI (21 * n) from nI_mul 21 n]; exact nI_add 91 _, nI_add]
    rw [e5, ei]
    refine ⟨okx_nI' (by omega) (by decide), ?_⟩
    rw [nI_1, ix_nI (by omega), show ix (6 + nI k) = 6 + k from ixA 6 (by omega), rA_W, rW_W, rW_at, fb_put_out (k := 6 + k) (by omega)]
    rw [fb_put_succ (s.2.1 1) (fun j => s.2.1 1 (6 + j)) (91 + 21 * n) k]
    exact ih (k + 1) (by omega) hq
theorem keeps_sh {Q : RS → Prop} (h5 : s.2.1 1 5 = nI 10) : ∀ (m k : Nat), k + m = 189 → eR c d m_R_keeps 54 [some (.ref 2), some (.int (nI 0))] (rW s 1 (upd (fb_put (s.2.1 1) (fun j => s.2.1 1 (112 + j)) 91 189) 5 (nI 9))) (pV c Q) → eR c d m_R_keeps 14 [some (.ref 2), some (.int (nI (91 + k)))] (rW s 1 (fb_put (s.2.1 1) (fun j => s.2.1 1 (112 + j)) 91 k)) (pV c Q) := by
  intro m
  induction m with
  | zero =>
    intro k hk hq
    refine w_R_keeps_14 _ ⟨fun _ => ⟨rfl, rfl, ?_⟩, fun z => absurd (nI_leI (a := 280) (by decide) (by omega) |>.mpr (by omega)) z⟩
    rw [rW_at, show ix 5 = 5 from rfl, fb_put_out (k := 5) (by omega), h5, rA_W, rW_W, rW_at, show k = 189 by omega]
    exact hq
  | succ m ih =>
    intro k hk hq
    refine w_R_keeps_14 _ ⟨fun z => absurd ((nI_leI (a := 280) (by decide) (by omega)).mp z) (by omega), fun _ => ?_⟩
    rw [show nI (91 + k) + 21 = nI (112 + k) by rw [show nI (91 + k) + 21 = nI (91 + k + 21) from nI_add _ 21]; congr 1; omega]
    refine ⟨okx_nI' (by omega) (by decide), okx_nI' (by omega) (by decide), ?_⟩
    rw [nI_1, ix_nI (by omega), ix_nI (by omega), rA_W, rW_W, rW_at, fb_put_out (k := 112 + k) (by omega)]
    rw [fb_put_succ (s.2.1 1) (fun j => s.2.1 1 (112 + j)) 91 k]
    exact ih (k + 1) (by omega) hq
theorem s_keeps {Q : RS → Prop} {p : List SD} (h : KR s v a) (hp : KP (s.2.1 1) (vG v) p) (hq : ∀ k, KP k (vG v) (push10 p a) → (∀ x, x ≠ 5 → (x < 91 ∨ 301 ≤ x) → k x = s.2.1 1 x) → KR (rW s 1 k) v a → Q (rW s 1 k)) : RV c d m_R_keeps [.ref 2] s Q := by
  have fin : ∀ k, KP k (vG v) (push10 p a) → (∀ x, x ≠ 5 → (x < 91 ∨ 301 ≤ x) → k x = s.2.1 1 x) → Q (rW s 1 k) := fun k h1 h2 => by
    refine hq k h1 h2 ⟨?_, ?_, h.2.2.1, h.2.2.2⟩
    · rw [rW_at]
      exact h.1.keep h.2.2.1 (fun x hx => h2 x (by omega) (by omega))
    · rw [rW_at]
      exact h.2.1.keep (fun x hx => h2 _ (by omega) (by omega))
  obtain ⟨p1, p2, p3⟩ := hp
  refine w_R_keeps ⟨rfl, ?_⟩
  rw [show s.2.1 1 (ix 5) = nI p.length from p1]
  refine ⟨fun z => ?_, fun z => ?_⟩
  · have z : p.length ≠ 10 := fun q => z (by rw [q]; rfl)
    have e := keeps_cp (c := c) (d := d) (s := s) (Q := Q) (n := p.length) (by omega) p1 21 0 (by omega) (fin _ ⟨?_, ?_, ?_⟩ (fun x h1 h2 => ?_))
    · rw [fb_put_0, rW_id] at e
      exact e
    · show upd _ 5 _ 5 = _
      unfold upd push10
      rw [if_pos rfl, if_neg z, List.length_append]
      rfl
    · unfold push10
      rw [if_neg z, List.length_append]
      simp
      omega
    · intro i x hx
      unfold push10 at hx
      rw [if_neg z] at hx
      rcases Nat.lt_or_ge i p.length with q | q
      · rw [List.getElem?_append_left q] at hx
        obtain ⟨q1, q2⟩ := p3 i x hx
        refine ⟨q1.keep (fun y hy => ?_), q2⟩
        unfold upd
        rw [if_neg (by omega), fb_put_out (by omega)]
      · rw [List.getElem?_append_right q] at hx
        have hi : i = p.length := by
          have := (List.getElem?_eq_some_iff.mp hx).1
          simp at this
          omega
        subst hi
        rw [Nat.sub_self] at hx
        cases hx
        refine ⟨h.2.1.keep (fun y hy => ?_), h.2.2.2⟩
        unfold upd
        rw [if_neg (by omega), fb_put_in (by omega) (by omega), show 91 + 21 * p.length + y - (91 + 21 * p.length) = y by omega]
    · unfold upd
      rw [if_neg h1, fb_put_out (by omega)]
  · have z : p.length = 10 := (nI_inj (b := 10) (by omega) (by decide)).mp z
    have e0 := keeps_sh (c := c) (d := d) (s := s) (Q := Q) (by rw [p1, z]) 189 0 (by omega) ?_
    · rw [fb_put_0, rW_id] at e0
      exact e0
    · have e := keeps_cp (c := c) (d := d) (s := rW s 1 (upd (fb_put (s.2.1 1) (fun j => s.2.1 1 (112 + j)) 91 189) 5 (nI 9))) (Q := Q) (n := 9) (by omega) (by rw [rW_at]; rfl) 21 0 (by omega) ?_
      · rw [fb_put_0, rW_id] at e
        exact e
      · rw [rW_W, rW_at]
        have e6 : ∀ j, j < 21 → upd (fb_put (s.2.1 1) (fun j => s.2.1 1 (112 + j)) 91 189) 5 (nI 9) (6 + j) = s.2.1 1 (6 + j) := fun j hj => by
          unfold upd
          rw [if_neg (by omega), fb_put_out (by omega)]
        refine fin _ ⟨?_, ?_, ?_⟩ (fun x h1 h2 => ?_)
        · show upd _ 5 _ 5 = _
          unfold upd push10
          rw [if_pos rfl, if_pos z, List.length_append, List.length_drop, z]
          rfl
        · unfold push10
          rw [if_pos z, List.length_append, List.length_drop, z]
          simp
        · intro i x hx
          unfold push10 at hx
          rw [if_pos z] at hx
          rcases Nat.lt_or_ge i 9 with q | q
          · rw [List.getElem?_append_left (by rw [List.length_drop]; omega), List.getElem?_drop] at hx
            obtain ⟨q1, q2⟩ := p3 (1 + i) x hx
            refine ⟨q1.keep (fun y hy => ?_), q2⟩
            unfold upd
            rw [if_neg (by omega), fb_put_out (by omega), if_neg (by omega), fb_put_in (by omega) (by omega)]
            exact congrArg (s.2.1 1) (show 112 + (91 + 21 * i + y - 91) = 91 + 21 * (1 + i) + y by omega)
          · rw [List.getElem?_append_right (by rw [List.length_drop]; omega)] at hx
            have hi : i = 9 := by
              have := (List.getElem?_eq_some_iff.mp hx).1
              rw [List.length_drop] at this
              simp at this
              omega
            subst hi
            rw [List.length_drop, z] at hx
            cases hx
            refine ⟨h.2.1.keep (fun y hy => ?_), h.2.2.2⟩
            rw [upd, if_neg (by omega), fb_put_in (by omega) (by omega), show 91 + 21 * 9 + y - (91 + 21 * 9) = y by omega, e6 y hy]
        · unfold upd
          rw [if_neg h1, fb_put_out (by omega), if_neg h1, fb_put_out (by omega)]
end NT
