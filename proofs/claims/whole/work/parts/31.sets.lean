/-! sets of at most ten, as numbers below 1024 -/
def pop (n : Nat) : Nat := fa_cnt n.testBit 10
def lob (n : Nat) : Nat := fa_first n.testBit 10
theorem by1024 {p : Nat → Prop} (h : ∀ a, a < 32 → ∀ b, b < 32 → p (32 * a + b)) : ∀ n, n < 1024 → p n := by
  intro n hn
  have := h (n / 32) (by omega) (n % 32) (Nat.mod_lt _ (by decide))
  rwa [Nat.div_add_mod] at this
theorem hs_nI : ∀ n, n < 1024 → ∀ k, k < 10 → hs (nI n) (nI k) = n.testBit k := by1024 (by decide +kernel)
theorem pop_step : ∀ n, n < 1024 → n ≠ 0 → n &&& (n - 1) < n ∧ pop (n &&& (n - 1)) + 1 = pop n := by1024 (by decide +kernel)
theorem pop_le : ∀ n, n < 1024 → pop n ≤ 10 := by1024 (by decide +kernel)
theorem pop_0 : pop 0 = 0 := by decide
theorem lob_lt : ∀ n, n < 1024 → n ≠ 0 → lob n < 10 ∧ n.testBit (lob n) = true := by1024 (by decide +kernel)
theorem lob_no {n k : Nat} (h : k < lob n) : n.testBit k = false := fa_first_no _ _ _ h
theorem lob_le (n : Nat) : lob n ≤ 10 := fa_first_le _ _
section SZ
variable {c : CX} {d : Nat} {s : RS}
theorem size_lp {Q : Int32 → RS → Prop} (x : Int32) : ∀ (m n k : Nat), n ≤ m → n < 1024 → Q (nI (k + pop n)) s → eR c d m_R_size 4 [some (.int x), some (.int (nI k)), some (.int (nI n))] s (pI c Q) := by
  intro m
  induction m with
  | zero =>
    intro n k h1 h2 hq
    cases (by omega : n = 0)
    exact w_R_size_4 _ _ _ ⟨fun _ => by rw [pop_0] at hq; exact hq, fun z => absurd nI_0 z⟩
  | succ m ih =>
    intro n k h1 h2 hq
    refine w_R_size_4 _ _ _ ⟨fun z => ?_, fun z => ?_⟩
    · have e : n = 0 := (nI_inj (by omega) (by omega)).mp (z.trans nI_0.symm)
      rw [e, pop_0] at hq
      exact hq
    · have e : n ≠ 0 := fun q => z (by rw [q]; exact nI_0)
      obtain ⟨e1, e2⟩ := pop_step n h2 e
      have e3 : nI n &&& (nI n - 1) = nI (n &&& (n - 1)) := by
        rw [show nI n - 1 = nI (n - 1) from nI_sub (b := 1) (by omega), fa_and]
      rw [e3, nI_1]
      refine ih _ _ (by omega) (by omega) ?_
      rw [← e2] at hq
      rwa [show k + 1 + pop (n &&& (n - 1)) = k + (pop (n &&& (n - 1)) + 1) by omega]
theorem s_size {Q : Int32 → RS → Prop} {n : Nat} (hn : n < 1024) (h : Q (nI (pop n)) s) : RI c d m_R_size [.int (nI n)] s Q := by
  refine w_R_size _ (size_lp _ n n 0 (Nat.le_refl _) hn ?_)
  rwa [Nat.zero_add]
theorem firstOf_lp {Q : Int32 → RS → Prop} {n : Nat} (hn : n < 1024) (h0 : n ≠ 0) (hq : Q (nI (lob n)) s) : ∀ (m k : Nat), k + m = lob n → eR c (d + 1) m_R_firstOf 2 [some (.int (nI n)), some (.int (nI k))] s (pI c Q) := by
  have hl := lob_lt n hn h0
  intro m
  induction m with
  | zero =>
    intro k hk
    refine w_R_firstOf_2 _ _ (zq_R_has ?_)
    rw [hs_nI n hn k (by omega)]
    refine ⟨fun _ => ?_, fun z => ?_⟩
    · rw [show k = lob n by omega]; exact hq
    · rw [show k = lob n by omega, hl.2] at z; cases z
  | succ m ih =>
    intro k hk
    refine w_R_firstOf_2 _ _ (zq_R_has ?_)
    rw [hs_nI n hn k (by omega)]
    refine ⟨fun z => ?_, fun _ => ?_⟩
    · rw [lob_no (by omega)] at z; cases z
    · rw [nI_1]
      exact ih _ (by omega)
theorem s_firstOf {Q : Int32 → RS → Prop} {n : Nat} (hn : n < 1024) (h0 : n ≠ 0) (hq : Q (nI (lob n)) s) : RI c (d + 1) m_R_firstOf [.int (nI n)] s Q := w_R_firstOf _ (firstOf_lp hn h0 hq (lob n) 0 (by omega))
end SZ
/-! who mocks whom, as sets -/
def mkb (w : Nat → Option Nat) (g : Nat) : Nat → Nat
  | 0 => 0
  | k + 1 => if w k = some g then mkb w g k ||| 2 ^ k else mkb w g k
theorem mkb_lt (w : Nat → Option Nat) (g : Nat) : ∀ k, mkb w g k < 2 ^ k
  | 0 => by rw [mkb]; decide
  | k + 1 => by
    have h := mkb_lt w g k
    have h2 : 2 ^ k < 2 ^ (k + 1) := Nat.pow_lt_pow_right (by decide) (by omega)
    rw [mkb]
    split
    · exact Nat.or_lt_two_pow (by omega) h2
    · omega
theorem mkb_bit (w : Nat → Option Nat) (g : Nat) : ∀ k i, (mkb w g k).testBit i = decide (i < k ∧ w i = some g)
  | 0, i => by simp [mkb]
  | k + 1, i => by
    have h := mkb_bit w g k i
    rw [mkb]
    split
    · rename_i hk
      rw [Nat.testBit_or, h, Nat.testBit_two_pow]
      by_cases e : k = i
      · subst e; simp [hk]
      · simp [e]
        by_cases h2 : w i = some g
        · simp [h2]; omega
        · simp [h2]
    · rename_i hk
      rw [h]
      by_cases e : k = i
      · subst e; simp [hk]
      · by_cases h2 : w i = some g
        · simp [h2]; omega
        · simp [h2]
theorem sh1 : ∀ k, k < 10 → (1 : Int32) <<< (nI k &&& 31) = nI (2 ^ k) := by decide +kernel
