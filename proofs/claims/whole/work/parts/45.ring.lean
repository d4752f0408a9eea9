/-! rings: who mocks whom in turn -/
/-- whom one mocks, 10 for none -/
def fo (w : Nat → Option Nat) (x : Nat) : Nat := match w x with
  | none => 10
  | some k => k
def fi (f : Nat → Nat) : Nat → Nat → Nat
  | 0, x => x
  | n + 1, x => fi f n (f x)
theorem fi_add (f : Nat → Nat) : ∀ m n x, fi f (m + n) x = fi f m (fi f n x) := by
  intro m n
  induction n with
  | zero => intro x; rfl
  | succ n ih => intro x; exact ih (f x)
theorem fi_1 (f : Nat → Nat) (n x : Nat) : fi f (n + 1) x = f (fi f n x) := by rw [Nat.add_comm, fi_add]; rfl
theorem fi_mul {f : Nat → Nat} {n x : Nat} (h : fi f n x = x) : ∀ k, fi f (k * n) x = x
  | 0 => by rw [Nat.zero_mul]; rfl
  | k + 1 => by rw [Nat.succ_mul, fi_add, h, fi_mul h k]
/-- it comes round to itself -/
def cyc (f : Nat → Nat) (x : Nat) : Prop := ∃ n, fi f (n + 1) x = x
def rch (f : Nat → Nat) (x y : Nat) : Prop := ∃ n, fi f n x = y
theorem cyc_back {f : Nat → Nat} {x : Nat} (h : cyc f x) (i : Nat) : ∃ m, fi f m (fi f i x) = x := by
  obtain ⟨n, hn⟩ := h
  refine ⟨i * (n + 1) - i, ?_⟩
  have e : i * (n + 1) - i + i = i * (n + 1) := Nat.sub_add_cancel (Nat.le_mul_of_pos_right i (by omega))
  rw [← fi_add, e, fi_mul hn]
theorem cyc_rch {f : Nat → Nat} {x y : Nat} (h : cyc f x) (hr : rch f x y) : cyc f y ∧ rch f y x := by
  obtain ⟨i, rfl⟩ := hr
  obtain ⟨m, hm⟩ := cyc_back h i
  refine ⟨?_, m, hm⟩
  obtain ⟨n, hn⟩ := h
  refine ⟨n, ?_⟩
  rw [← fi_add, Nat.add_comm, fi_add, hn]
/-- a repetition on a round comes from the start coming round -/
theorem cyc_rep {f : Nat → Nat} {x i j : Nat} (h : cyc f x) (hij : i ≤ j) (he : fi f i x = fi f j x) : fi f (j - i) x = x := by
  obtain ⟨m, hm⟩ := cyc_back h i
  have h1 : fi f m (fi f j x) = x := by rw [← he]; exact hm
  rw [← fi_add] at h1 hm
  have e : m + j = j - i + (m + i) := by omega
  rw [e, fi_add, hm] at h1
  exact h1
theorem cyc_inj {f : Nat → Nat} {x y : Nat} (hx : cyc f x) (hy : cyc f y) (h : f x = f y) : x = y := by
  obtain ⟨n, hn⟩ := hx
  obtain ⟨m, hm⟩ := hy
  have h1 := fi_mul hn (m + 1)
  have h2 := fi_mul hm (n + 1)
  rw [Nat.mul_comm] at h2
  have e : (m + 1) * (n + 1) = ((m + 1) * (n + 1) - 1) + 1 := (Nat.sub_add_cancel (Nat.mul_pos (by omega) (by omega))).symm
  rw [e] at h1 h2
  rw [← h1, ← h2]
  show fi f _ (f x) = fi f _ (f y)
  rw [h]
/-- the first n of a walk, as bits -/
def vis (f : Nat → Nat) (x : Nat) : Nat → Nat
  | 0 => 0
  | n + 1 => vis f x n ||| 2 ^ fi f n x
theorem vis_bit (f : Nat → Nat) (x y : Nat) : ∀ n, (vis f x n).testBit y = true ↔ ∃ i, i < n ∧ fi f i x = y
  | 0 => by
    rw [vis, Nat.zero_testBit]
    exact ⟨fun h => absurd h (by decide), fun ⟨i, h, _⟩ => absurd h (by omega)⟩
  | n + 1 => by
    rw [vis, Nat.testBit_or, Bool.or_eq_true, vis_bit f x y n, Nat.testBit_two_pow, decide_eq_true_iff]
    refine ⟨fun h => ?_, fun ⟨i, h, e⟩ => ?_⟩
    · rcases h with ⟨i, h, e⟩ | h
      · exact ⟨i, by omega, e⟩
      · exact ⟨n, by omega, h⟩
    · rcases Nat.lt_or_ge i n with q | q
      · exact Or.inl ⟨i, q, e⟩
      · rw [show i = n by omega] at e
        exact Or.inr e
theorem pop_or : ∀ n, n < 1024 → ∀ k, k < 10 → n.testBit k = false → pop (n ||| 2 ^ k) = pop n + 1 := by1024 (by decide +kernel)
theorem vis_lt {f : Nat → Nat} {x : Nat} : ∀ n, (∀ i, i < n → fi f i x < 10) → vis f x n < 1024
  | 0, _ => by show 0 < 1024; omega
  | n + 1, h => or_lt (vis_lt n (fun i hi => h i (by omega))) (h n (by omega))
/-- unlike ones: as many as steps -/
theorem vis_pop {f : Nat → Nat} {x : Nat} : ∀ n, (∀ i, i < n → fi f i x < 10) → (∀ i j, i < j → j < n → fi f i x ≠ fi f j x) → pop (vis f x n) = n
  | 0, _, _ => by show pop 0 = 0; decide
  | n + 1, h, hd => by
    have ih := vis_pop n (fun i hi => h i (by omega)) (fun i j hij hj => hd i j hij (by omega))
    have hb : (vis f x n).testBit (fi f n x) = false := by
      cases e : (vis f x n).testBit (fi f n x) with
      | false => rfl
      | true =>
        obtain ⟨i, hi, he⟩ := (vis_bit f x _ n).mp e
        exact absurd he (hd i n hi (by omega))
    rw [vis, pop_or _ (vis_lt n (fun i hi => h i (by omega))) _ (h n (by omega)) hb, ih]
theorem vis_10 {f : Nat → Nat} {x n : Nat} (h : ∀ i, i < n → fi f i x < 10) (hd : ∀ i j, i < j → j < n → fi f i x ≠ fi f j x) : n ≤ 10 := by
  rw [← vis_pop n h hd]
  exact pop_le _ (vis_lt n h)
/-- the first time that it comes round -/
theorem cyc_first {f : Nat → Nat} {x : Nat} (h10 : f 10 = 10) (hb : ∀ y, f y ≤ 10) (hx : x < 10) (h : cyc f x) : ∃ n, n < 10 ∧ fi f (n + 1) x = x ∧ (∀ i, i ≤ n → fi f i x < 10) ∧ ∀ i, 0 < i → i ≤ n → fi f i x ≠ x := by
  have hall : ∀ i, fi f i x < 10 := fun i => by
    obtain ⟨m, hm⟩ := cyc_back h i
    refine Classical.byContradiction (fun q => ?_)
    have hle : fi f i x ≤ 10 := by
      cases i with
      | zero => show x ≤ 10; omega
      | succ i => rw [fi_1]; exact hb _
    have e : fi f i x = 10 := by omega
    have st : ∀ m, fi f m 10 = 10 := fun m => by
      induction m with
      | zero => rfl
      | succ m ih => show fi f m (f 10) = 10; rw [h10]; exact ih
    rw [e, st] at hm
    omega
  have key : ∀ k, (∃ n, n < k ∧ fi f (n + 1) x = x ∧ ∀ i, 0 < i → i ≤ n → fi f i x ≠ x) ∨ ∀ i, 0 < i → i ≤ k → fi f i x ≠ x := by
    intro k
    induction k with
    | zero => exact Or.inr (fun i h1 h2 => by omega)
    | succ k ih =>
      rcases ih with ⟨n, h1, h2, h3⟩ | ih
      · exact Or.inl ⟨n, by omega, h2, h3⟩
      · by_cases q : fi f (k + 1) x = x
        · exact Or.inl ⟨k, by omega, q, ih⟩
        · refine Or.inr (fun i h1 h2 => ?_)
          rcases Nat.lt_or_ge i (k + 1) with z | z
          · exact ih i h1 (by omega)
          · rw [show i = k + 1 by omega]; exact q
  rcases key 10 with ⟨n, h1, h2, h3⟩ | h1
  · exact ⟨n, h1, h2, fun i _ => hall i, h3⟩
  · exfalso
    have := vis_10 (f := f) (x := x) (n := 11) (fun i _ => hall i) (fun i j hij hj he => h1 (j - i) (by omega) (by omega) (cyc_rep h (by omega) he))
    omega
/-- as the class walks it -/
def rgX (f : Nat → Nat) (x : Nat) : Nat → Nat → Nat → Nat
  | 0, _, _ => 0
  | n + 1, bits, h => if h < 10 then (if f h = x then bits ||| 2 ^ h else rgX f x n (bits ||| 2 ^ h) (f h)) else 0
def ring (w : Nat → Option Nat) (x : Nat) : Nat := rgX (fo w) x 10 0 x
theorem rgX_no {f : Nat → Nat} {x : Nat} (h : ¬ cyc f x) : ∀ n k, rgX f x n (vis f x k) (fi f k x) = 0
  | 0, _ => rfl
  | n + 1, k => by
    rw [rgX]
    split
    · have e : f (fi f k x) = fi f (k + 1) x := (fi_1 f k x).symm
      rw [e, if_neg (fun q => h ⟨k, q⟩)]
      exact rgX_no h n (k + 1)
    · rfl
theorem rgX_yes {f : Nat → Nat} {x n : Nat} (h1 : fi f (n + 1) x = x) (h2 : ∀ i, i ≤ n → fi f i x < 10) (h3 : ∀ i, 0 < i → i ≤ n → fi f i x ≠ x) : ∀ m k, k + m = n → ∀ t, m < t → rgX f x t (vis f x k) (fi f k x) = vis f x (n + 1) := by
  intro m
  induction m with
  | zero =>
    intro k hk t ht
    obtain ⟨t, rfl⟩ : ∃ t', t = t' + 1 := ⟨t - 1, by omega⟩
    have : k = n := by omega
    subst this
    rw [rgX, if_pos (h2 k (by omega)), ← fi_1 f k x, if_pos h1]
    rfl
  | succ m ih =>
    intro k hk t ht
    obtain ⟨t, rfl⟩ : ∃ t', t = t' + 1 := ⟨t - 1, by omega⟩
    rw [rgX, if_pos (h2 k (by omega)), ← fi_1 f k x, if_neg (h3 (k + 1) (by omega) (by omega))]
    exact ih (k + 1) (by omega) t (by omega)
def W10 (w : Nat → Option Nat) : Prop := ∀ x k, w x = some k → x < 10 ∧ k < 10
section RG1
variable {w : Nat → Option Nat}
theorem fo_10 (h : W10 w) : fo w 10 = 10 := by
  unfold fo
  cases e : w 10 with
  | none => rfl
  | some k => have := (h 10 k e).1; omega
theorem fo_le (h : W10 w) (x : Nat) : fo w x ≤ 10 := by
  unfold fo
  cases e : w x with
  | none => exact Nat.le_refl _
  | some k => have := (h x k e).2; show k ≤ 10; omega
theorem fo_eq (h : W10 w) {x k : Nat} (hk : k < 10) : fo w x = k ↔ w x = some k := by
  unfold fo
  cases e : w x with
  | none => exact ⟨fun q => by simp at q; omega, fun q => by cases q⟩
  | some j => exact ⟨fun q => by simp at q; rw [q], fun q => by simp at q; exact q⟩
/-- what is in a ring -/
theorem ring_bit (h : W10 w) {x : Nat} (hx : x < 10) (y : Nat) : (ring w x).testBit y = true ↔ cyc (fo w) x ∧ rch (fo w) x y := by
  by_cases hc : cyc (fo w) x
  · obtain ⟨n, h0, h1, h2, h3⟩ := cyc_first (fo_10 h) (fo_le h) hx hc
    have e : ring w x = vis (fo w) x (n + 1) := rgX_yes h1 h2 h3 n 0 (by omega) 10 (by omega)
    rw [e, vis_bit]
    refine ⟨fun ⟨i, _, q⟩ => ⟨hc, i, q⟩, fun ⟨_, i, q⟩ => ⟨i % (n + 1), Nat.mod_lt _ (by omega), ?_⟩⟩
    rw [← q]
    have e2 : i = i % (n + 1) + i / (n + 1) * (n + 1) := by rw [Nat.mul_comm]; exact (Nat.mod_add_div i (n + 1)).symm
    conv => rhs; rw [e2, fi_add, fi_mul h1]
  · have e : ring w x = 0 := rgX_no hc 10 0
    rw [e, Nat.zero_testBit]
    exact ⟨fun q => absurd q (by decide), fun q => absurd q.1 hc⟩
theorem ring_lt (h : W10 w) {x : Nat} (hx : x < 10) : ring w x < 1024 := by
  by_cases hc : cyc (fo w) x
  · obtain ⟨n, h0, h1, h2, h3⟩ := cyc_first (fo_10 h) (fo_le h) hx hc
    have e : ring w x = vis (fo w) x (n + 1) := rgX_yes h1 h2 h3 n 0 (by omega) 10 (by omega)
    rw [e]
    exact vis_lt (n + 1) (fun i hi => h2 i (by omega))
  · have e : ring w x = 0 := rgX_no hc 10 0
    rw [e]; decide
theorem ring_0 (h : W10 w) {x : Nat} (hx : x < 10) : ring w x ≠ 0 ↔ cyc (fo w) x := by
  refine ⟨fun q => ?_, fun q q0 => ?_⟩
  · refine Classical.byContradiction (fun hc => q (rgX_no hc 10 0))
  · have := (ring_bit h hx x).mpr ⟨q, 0, rfl⟩
    rw [q0, Nat.zero_testBit] at this
    cases this
theorem ring_self (h : W10 w) {x : Nat} (hx : x < 10) (h0 : ring w x ≠ 0) : (ring w x).testBit x = true := (ring_bit h hx x).mpr ⟨(ring_0 h hx).mp h0, 0, rfl⟩
theorem bit_10 {n k : Nat} (hn : n < 1024) (h : n.testBit k = true) : k < 10 := by
  refine Classical.byContradiction (fun q => ?_)
  rw [Nat.testBit_lt_two_pow (Nat.lt_of_lt_of_le hn (show 2 ^ 10 ≤ 2 ^ k from Nat.pow_le_pow_right (by decide) (by omega)))] at h
  cases h
/-- all in a ring have that ring -/
theorem ring_same (h : W10 w) {x y : Nat} (hx : x < 10) (hy : (ring w x).testBit y = true) : ring w y = ring w x ∧ y < 10 := by
  have hy10 := bit_10 (ring_lt h hx) hy
  obtain ⟨hc, hr⟩ := (ring_bit h hx y).mp hy
  obtain ⟨hc2, hr2⟩ := cyc_rch hc hr
  refine ⟨bits10 (ring_lt h hy10) (ring_lt h hx) (fun i hi => ?_), hy10⟩
  have : (ring w y).testBit i = true ↔ (ring w x).testBit i = true := by
    rw [ring_bit h hy10, ring_bit h hx]
    constructor
    · rintro ⟨-, n, q⟩
      obtain ⟨m, hm⟩ := hr
      exact ⟨hc, n + m, by rw [fi_add, hm]; exact q⟩
    · rintro ⟨-, n, q⟩
      obtain ⟨m, hm⟩ := hr2
      exact ⟨hc2, n + m, by rw [fi_add, hm]; exact q⟩
  cases e : (ring w y).testBit i with
  | true => exact (this.mp e).symm
  | false => cases e2 : (ring w x).testBit i with
    | false => rfl
    | true => rw [this.mpr e2] at e; cases e
/-- whom it mocks is in it too -/
theorem ring_next (h : W10 w) {x y : Nat} (hx : x < 10) (hy : (ring w x).testBit y = true) : ∃ k, w y = some k ∧ (ring w x).testBit k = true := by
  obtain ⟨hc, n, hr⟩ := (ring_bit h hx y).mp hy
  have hk : (ring w x).testBit (fo w y) = true := (ring_bit h hx _).mpr ⟨hc, n + 1, by rw [fi_1, hr]⟩
  have h10 := bit_10 (ring_lt h hx) hk
  exact ⟨fo w y, (fo_eq h h10).mp rfl, hk⟩
/-- just one in it mocks one in it -/
theorem ring_prev (h : W10 w) {x y : Nat} (hx : x < 10) (hy : (ring w x).testBit y = true) : ∃ p, w p = some y ∧ (ring w x).testBit p = true ∧ ∀ z, w z = some y → (ring w x).testBit z = true → z = p := by
  have hy10 := bit_10 (ring_lt h hx) hy
  obtain ⟨hc, hr⟩ := (ring_bit h hx y).mp hy
  obtain ⟨⟨n, hn⟩, hr2⟩ := cyc_rch hc hr
  have hb : ∀ z, (ring w x).testBit z = true → cyc (fo w) z := fun z hz => by
    obtain ⟨c1, r1⟩ := (ring_bit h hx z).mp hz
    exact (cyc_rch c1 r1).1
  have hp : fo w (fi (fo w) n y) = y := by rw [← fi_1 (fo w) n y]; exact hn
  refine ⟨fi (fo w) n y, (fo_eq h hy10).mp hp, ?_, fun z hz hzb => ?_⟩
  · obtain ⟨m, hm⟩ := hr
    exact (ring_bit h hx _).mpr ⟨hc, n + m, by rw [fi_add, hm]⟩
  · have hpb : (ring w x).testBit (fi (fo w) n y) = true := by
      obtain ⟨m, hm⟩ := hr
      exact (ring_bit h hx _).mpr ⟨hc, n + m, by rw [fi_add, hm]⟩
    exact cyc_inj (hb z hzb) (hb _ hpb) (by rw [(fo_eq h hy10).mpr hz, hp])
end RG1
