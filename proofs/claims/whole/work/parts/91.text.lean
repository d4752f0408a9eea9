/-! a text and its tokens -/
def isL (x : Nat) : Bool := decide (97 ≤ x ∧ x ≤ 122)
def isD (x : Nat) : Bool := decide (48 ≤ x ∧ x ≤ 57)
def isBl (x : Nat) : Bool := decide (x = 32 ∨ x = 10)
/-- where a run of p from h on ends -/
def rn (p : Nat → Bool) : Nat → Nat → Nat
  | 0, h => h
  | m + 1, h => if p h = true then rn p m (h + 1) else h
def rend (p : Nat → Bool) (n h : Nat) : Nat := rn p (n - h) h
theorem rend_s {p : Nat → Bool} {n h : Nat} (h1 : h < n) (h2 : p h = true) : rend p n h = rend p n (h + 1) := by
  unfold rend
  obtain ⟨m, hm⟩ : ∃ m, n - h = m + 1 := ⟨n - h - 1, by omega⟩
  rw [hm, rn, if_pos h2, show n - (h + 1) = m by omega]
theorem rend_e {p : Nat → Bool} {n h : Nat} (h1 : ¬ (h < n ∧ p h = true)) : rend p n h = h := by
  unfold rend
  cases hm : n - h with
  | zero => rfl
  | succ m =>
    rw [rn, if_neg (fun z => h1 ⟨by omega, z⟩)]
theorem rn_b {p : Nat → Bool} : ∀ (m h : Nat), h ≤ rn p m h ∧ rn p m h ≤ h + m ∧ (∀ j, h ≤ j → j < rn p m h → p j = true)
  | 0, h => ⟨Nat.le_refl _, Nat.le_refl _, fun j h1 h2 => absurd h2 (by rw [rn]; omega)⟩
  | m + 1, h => by
    rw [rn]
    by_cases z : p h = true
    · rw [if_pos z]
      obtain ⟨a1, a2, a3⟩ := rn_b (p := p) m (h + 1)
      refine ⟨by omega, by omega, fun j h1 h2 => ?_⟩
      rcases Nat.eq_or_lt_of_le h1 with e | e
      · rw [← e]; exact z
      · exact a3 j e h2
    · rw [if_neg z]
      exact ⟨Nat.le_refl _, by omega, fun j h1 h2 => by omega⟩
theorem rend_b {p : Nat → Bool} {n h : Nat} (hn : h ≤ n) : h ≤ rend p n h ∧ rend p n h ≤ n ∧ ∀ j, h ≤ j → j < rend p n h → p j = true := by
  obtain ⟨a1, a2, a3⟩ := rn_b (p := p) (n - h) h
  exact ⟨a1, by unfold rend; omega, a3⟩
theorem rn_z {p : Nat → Bool} : ∀ (m h : Nat), rn p m h < h + m → p (rn p m h) = false
  | 0, h, z => by rw [rn] at z; omega
  | m + 1, h, z => by
    rw [rn] at z ⊢
    by_cases y : p h = true
    · rw [if_pos y] at z ⊢
      exact rn_z m (h + 1) (by omega)
    · rw [if_neg y] at z ⊢
      exact Bool.eq_false_iff.mpr y
theorem rend_z {p : Nat → Bool} {n h : Nat} (hn : h ≤ n) (z : rend p n h < n) : p (rend p n h) = false := rn_z (n - h) h (by unfold rend at z; omega)
/-- the class's words in one row, where each begins and ends -/
def wdL : List Nat := [103, 117, 105, 108, 100, 32, 109, 111, 99, 107, 115, 32, 109, 97, 121, 32, 97, 110, 115, 119, 101, 114, 115, 32, 115, 116, 114, 101, 101, 116, 32, 114, 97, 110, 107, 32, 108, 111, 110, 103, 32, 108, 111, 117, 100, 32, 118, 101, 114, 115, 101, 32, 109, 101, 108, 116, 115, 32, 110, 111, 114, 116, 104, 32, 101, 97, 115, 116, 32, 115, 111, 117, 116, 104, 32, 119, 101, 115, 116, 32, 111, 114, 32, 97, 110, 100, 32, 110, 111, 116, 32, 114, 97, 32, 114, 98, 32, 108, 97, 32, 108, 98, 32, 109, 97, 32, 109, 98, 32, 109, 117, 116, 117, 97, 108, 32, 110, 105, 103, 104, 116, 32]
def wdB (i : Nat) : Nat := wdL.getD i 0
def stL : List Nat := [0, 6, 12, 16, 24, 31, 36, 41, 46, 52, 58, 64, 69, 75, 80, 83, 87, 91, 94, 97, 100, 103, 106, 109, 116]
def enL : List Nat := [5, 11, 15, 23, 30, 35, 40, 45, 51, 57, 63, 68, 74, 79, 82, 86, 90, 93, 96, 99, 102, 105, 108, 115, 121]
def wst (k : Nat) : Nat := stL.getD k 0
def wet (k : Nat) : Nat := enL.getD k 0
/-- which word a place in the row belongs to -/
def wno (i : Nat) : Nat := (enL.filter (fun e => decide (e < i))).length
def mtc (f : Nat → Nat) (b e fr to : Nat) : Prop := e - b = to - fr ∧ ∀ j, j < to - fr → f (b + j) = wdB (fr + j)
def mtB (f : Nat → Nat) (b e k : Nat) : Bool := decide (e - b = wet k - wst k ∧ ∀ j, j < wet k - wst k → f (b + j) = wdB (wst k + j))
def wkd (f : Nat → Nat) (b e : Nat) : Nat := if fa_first (mtB f b e) 25 = 25 then 39 else fa_first (mtB f b e) 25
def skd (x : Nat) : Nat := if x = 59 then 25 else if x = 43 then 26 else if x = 45 then 27 else if x = 42 then 28 else if x = 40 then 29 else if x = 41 then 30 else if x = 91 then 31 else if x = 93 then 32 else if x = 61 then 33 else if x = 60 then 34 else if x = 62 then 35 else 38
def bgn (f : Nat → Nat) (n h : Nat) : Nat := rend (fun j => isBl (f j)) n h
def lend (f : Nat → Nat) (n b : Nat) : Nat := rend (fun j => isL (f j)) n b
def dend (f : Nat → Nat) (n b : Nat) : Nat := rend (fun j => isD (f j)) n b
/-- the end of the token that begins at b; its kind; a number's value -/
def ten (f : Nat → Nat) (n b : Nat) : Nat := if n ≤ b then b else if isL (f b) = true then lend f n b else if isD (f b) = true then dend f n b else b + 1
def kdb (f : Nat → Nat) (n b : Nat) : Nat := if n ≤ b then 37 else if isL (f b) = true then wkd f b (lend f n b) else if isD (f b) = true then (if dend f n b - b ≤ 3 then 36 else 38) else skd (f b)
def vlk (f : Nat → Nat) (b : Nat) : Nat → Nat
  | 0 => 0
  | k + 1 => vlk f b k * 10 + (f (b + k) - 48)
/-- of the token that is next from h on -/
def nx (f : Nat → Nat) (n h : Nat) : Nat := ten f n (bgn f n h)
def kd (f : Nat → Nat) (n h : Nat) : Nat := kdb f n (bgn f n h)
def vl (f : Nat → Nat) (n h : Nat) : Nat := vlk f (bgn f n h) (min 3 (dend f n (bgn f n h) - bgn f n h))
section TX0
variable {f : Nat → Nat} {n h b e k : Nat}
theorem bgn_b (hn : h ≤ n) : h ≤ bgn f n h ∧ bgn f n h ≤ n := ⟨(rend_b hn).1, (rend_b hn).2.1⟩
theorem ten_b (hb : b ≤ n) : b ≤ ten f n b ∧ ten f n b ≤ n ∧ (b < n → b < ten f n b) := by
  unfold ten
  by_cases z : n ≤ b
  · rw [if_pos z]; exact ⟨Nat.le_refl _, by omega, fun y => by omega⟩
  · rw [if_neg z]
    by_cases y : isL (f b) = true
    · rw [if_pos y]
      have h1 := rend_b (p := fun j => isL (f j)) (n := n) (h := b + 1) (by omega)
      have h2 : lend f n b = rend (fun j => isL (f j)) n (b + 1) := rend_s (by omega) y
      rw [h2]
      exact ⟨by omega, h1.2.1, fun _ => by omega⟩
    · rw [if_neg y]
      by_cases x : isD (f b) = true
      · rw [if_pos x]
        have h1 := rend_b (p := fun j => isD (f j)) (n := n) (h := b + 1) (by omega)
        have h2 : dend f n b = rend (fun j => isD (f j)) n (b + 1) := rend_s (by omega) x
        rw [h2]
        exact ⟨by omega, h1.2.1, fun _ => by omega⟩
      · rw [if_neg x]
        exact ⟨by omega, by omega, fun _ => by omega⟩
theorem skd_c (x : Nat) : (25 ≤ skd x ∧ skd x ≤ 35) ∨ skd x = 38 := by
  unfold skd
  repeat' split
  all_goals omega
theorem wkd_c (f : Nat → Nat) (b e : Nat) : wkd f b e < 25 ∨ wkd f b e = 39 := by
  unfold wkd
  have := fa_first_le (mtB f b e) 25
  split <;> omega
/-- the end alone is no token that can be taken -/
theorem kd_nx (hn : h ≤ n) (hk : kd f n h ≠ 37) : h < nx f n h ∧ nx f n h ≤ n := by
  have h1 := bgn_b (f := f) hn
  have h2 := ten_b (f := f) h1.2
  have : bgn f n h < n := by
    refine Classical.byContradiction (fun z => hk ?_)
    unfold kd kdb
    rw [if_pos (by omega)]
  have := h2.2.2 this
  unfold nx
  omega
theorem nx_b (hn : h ≤ n) : h ≤ nx f n h ∧ nx f n h ≤ n := by
  have h1 := bgn_b (f := f) hn
  have h2 := ten_b (f := f) h1.2
  unfold nx
  omega
theorem kd_40 (f : Nat → Nat) (n h : Nat) : kd f n h < 40 := by
  unfold kd kdb
  split
  · omega
  · split
    · have := wkd_c f (bgn f n h) (lend f n (bgn f n h)); omega
    · split
      · split <;> omega
      · have := skd_c (f (bgn f n h)); omega
theorem vlk_lt (hf : ∀ j, j < k → isD (f (b + j)) = true) : vlk f b k < 10 ^ k := by
  induction k with
  | zero => exact Nat.one_pos
  | succ k ih =>
    have := ih (fun j hj => hf j (by omega))
    have h9 := hf k (by omega)
    unfold isD at h9
    have h9 := of_decide_eq_true h9
    rw [vlk, Nat.pow_succ]
    omega
theorem vl_lt (hn : h ≤ n) : vl f n h < 1000 := by
  have h1 := bgn_b (f := f) hn
  have h2 := rend_b (p := fun j => isD (f j)) (n := n) h1.2
  unfold vl
  have hm : min 3 (dend f n (bgn f n h) - bgn f n h) ≤ 3 ∧ min 3 (dend f n (bgn f n h) - bgn f n h) ≤ dend f n (bgn f n h) - bgn f n h := by omega
  generalize min 3 (dend f n (bgn f n h) - bgn f n h) = m at *
  have h3 := vlk_lt (f := f) (b := bgn f n h) (k := m) (fun j hj => h2.2.2 _ (by omega) (by unfold dend at hm; omega))
  have h4 : 10 ^ m ≤ 10 ^ 3 := Nat.pow_le_pow_right (by decide) hm.1
  omega
/-- a word of the row is this one -/
theorem wkd_of (hk : k < 25) (h : mtB f b e k = true) : wkd f b e = k := by
  have dif : ∀ k, k < 25 → ∀ j, j < k → ¬ (wet j - wst j = wet k - wst k ∧ ∀ i, i < wet k - wst k → wdB (wst j + i) = wdB (wst k + i)) := by decide +kernel
  have e1 : fa_first (mtB f b e) 25 = k := by
    refine first_is hk h (fun j hj => Bool.eq_false_iff.mpr (fun z => dif k hk j hj ?_))
    have h1 := of_decide_eq_true h
    have h2 := of_decide_eq_true z
    refine ⟨by omega, fun i hi => ?_⟩
    rw [← h2.2 i (by omega), ← h1.2 i hi]
  unfold wkd
  rw [e1, if_neg (by omega)]
theorem of_wkd (hk : k < 25) (h : wkd f b e = k) : mtB f b e k = true := by
  unfold wkd at h
  by_cases z : fa_first (mtB f b e) 25 = 25
  · rw [if_pos z] at h; omega
  · rw [if_neg z] at h
    have := fa_first_yes (mtB f b e) 25 (by omega)
    rwa [h] at this
end TX0
