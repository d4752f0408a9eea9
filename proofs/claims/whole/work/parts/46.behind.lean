/-! who walks behind whom -/
theorem bt_nI (n : Nat) {i : Nat} (hi : i < 32) : bt (nI n) i = n.testBit i := by
  show (BitVec.ofNat 32 n).getLsbD i = _
  rw [BitVec.getLsbD_ofNat, decide_eq_true hi, Bool.true_and]
theorem cpl {M r : Nat} (hM : M < 1024) : nI M &&& (nI r ^^^ (-1)) = nI (M &&& (1023 ^^^ r)) := by
  refine b_ext (fun i hi => ?_)
  rw [b_and, b_xor, bt_nI _ hi, bt_nI _ hi, bt_nI _ hi, b_m1 i hi, Nat.testBit_and, Nat.testBit_xor]
  rcases Nat.lt_or_ge i 10 with q | q
  · rw [b1023 i q, Bool.xor_comm]
  · rw [Nat.testBit_lt_two_pow (Nat.lt_of_lt_of_le hM (show 2 ^ 10 ≤ 2 ^ i from Nat.pow_le_pow_right (by decide) q))]
    rfl
theorem cpl_bit {M r i : Nat} (hi : i < 10) : (M &&& (1023 ^^^ r)).testBit i = (M.testBit i && !r.testBit i) := by
  rw [Nat.testBit_and, Nat.testBit_xor, b1023 i hi, Bool.true_xor]
theorem and_lt {M : Nat} (r : Nat) (hM : M < 1024) : M &&& r < 1024 := Nat.lt_of_le_of_lt Nat.and_le_left hM
theorem nI_z {n : Nat} (h : n < 2 ^ 31) : nI n = 0 ↔ n = 0 := nI_inj (b := 0) h (by decide)
def opp (w : Nat → Option Nat) (r g : Nat) : Bool := r.testBit g && decide (mkb w g 10 &&& (1023 ^^^ r) ≠ 0)
/-- the least of a ring that has mockers not in it -/
def opn (w : Nat → Option Nat) (r G : Nat) : Option Nat := if fa_first (opp w r) G < G then some (fa_first (opp w r) G) else none
/-- who walks behind one -/
def bhd (w : Nat → Option Nat) (G g : Nat) : Option Nat :=
  if ring w g = 0 then lbo (mkb w g 10) else match opn w (ring w g) G with
    | none => if g = lob (ring w g) then none else lbo (mkb w g 10)
    | some o => lbo (if g = o then mkb w g 10 &&& (1023 ^^^ ring w g) else mkb w g 10 &&& ring w g)
theorem fa_first_is {p : Nat → Bool} {n k : Nat} (hk : k < n) (hp : p k = true) (h : ∀ j, j < k → p j = false) : fa_first p n = k := by
  rcases Nat.lt_trichotomy (fa_first p n) k with q | q | q
  · have := fa_first_yes p n (by omega)
    rw [h _ q] at this; cases this
  · exact q
  · rw [fa_first_no p n k q] at hp; cases hp
theorem opn_some {w : Nat → Option Nat} {r G k : Nat} (hk : k < G) (hp : opp w r k = true) (h : ∀ j, j < k → opp w r j = false) : opn w r G = some k := by
  unfold opn
  rw [fa_first_is hk hp h, if_pos hk]
theorem opn_none {w : Nat → Option Nat} {r G : Nat} (h : ∀ j, j < G → opp w r j = false) : opn w r G = none := by
  unfold opn
  rw [if_neg]
  intro q
  have := fa_first_yes _ _ q
  rw [h _ q] at this
  cases this
theorem opn_is {w : Nat → Option Nat} {r G o : Nat} (h : opn w r G = some o) : o < G ∧ opp w r o = true ∧ ∀ j, j < o → opp w r j = false := by
  unfold opn at h
  split at h
  · rename_i q
    have e := Option.some.inj h
    subst e
    exact ⟨q, fa_first_yes _ _ q, fun j hj => fa_first_no _ _ _ hj⟩
  · cases h
theorem opn_no {w : Nat → Option Nat} {r G : Nat} (h : opn w r G = none) : ∀ j, j < G → opp w r j = false := by
  unfold opn at h
  split at h
  · cases h
  · rename_i q
    intro j hj
    have h1 := fa_first_le (opp w r) G
    exact fa_first_no (opp w r) G j (by omega)
theorem lbo_bit {n k : Nat} (hn : n < 1024) (h : lbo n = some k) : k < 10 ∧ n.testBit k = true := by
  unfold lbo at h
  split at h
  · cases h
  · rename_i q
    have e := Option.some.inj h
    subst e
    exact lob_lt n hn q
theorem pop1 : ∀ n, n < 1024 → ∀ p, p < 10 → n.testBit p = true → pop n = 1 → n = 2 ^ p := by1024 (by decide +kernel)
theorem pop1' : ∀ p, p < 10 → pop (2 ^ p) = 1 := by decide
section BH1
variable {w : Nat → Option Nat} {G : Nat}
theorem shut_eq (h : W10 w) {x y : Nat} (hx : x < 10) (hy : (ring w x).testBit y = true) : pop (mkb w y 10) = 1 ↔ mkb w y 10 &&& (1023 ^^^ ring w x) = 0 := by
  obtain ⟨p, h1, h2, h3⟩ := ring_prev h hx hy
  have hp := (h p y h1).1
  have hpb : (mkb w y 10).testBit p = true := by rw [mkb_b hp]; exact decide_eq_true h1
  constructor
  · intro q
    have e := pop1 _ (mkb_t w y) p hp hpb q
    refine no_bits (and_lt _ (mkb_t w y)) (fun j hj => ?_)
    rw [cpl_bit hj, e, Nat.testBit_two_pow]
    by_cases z : p = j
    · subst z; rw [h2]; simp
    · rw [decide_eq_false z]; rfl
  · intro q
    have e : mkb w y 10 = 2 ^ p := by
      refine bits10 (mkb_t w y) (Nat.pow_lt_pow_right (by decide) hp) (fun i hi => ?_)
      rw [Nat.testBit_two_pow, mkb_b hi]
      by_cases z : w i = some y
      · have hb : (mkb w y 10 &&& (1023 ^^^ ring w x)).testBit i = false := by rw [q, Nat.zero_testBit]
        rw [cpl_bit hi, mkb_b hi, decide_eq_true z, Bool.true_and] at hb
        have hi2 : (ring w x).testBit i = true := by cases e : (ring w x).testBit i <;> simp_all
        rw [decide_eq_true z, decide_eq_true (h3 i z hi2).symm]
      · rw [decide_eq_false z, decide_eq_false (fun e => z (by rw [← e]; exact h1))]
    rw [e]
    exact pop1' p hp
theorem bhd_mk (h : W10 w) {g k : Nat} (hb : bhd w G g = some k) : w k = some g ∧ k < 10 := by
  have fin : ∀ n, n < 1024 → (∀ i, n.testBit i = true → (mkb w g 10).testBit i = true) → lbo n = some k → w k = some g ∧ k < 10 := fun n hn hs hl => by
    obtain ⟨l1, l2⟩ := lbo_bit hn hl
    have := hs k l2
    rw [mkb_b l1] at this
    exact ⟨of_decide_eq_true this, l1⟩
  have sub : ∀ r i, (mkb w g 10 &&& r).testBit i = true → (mkb w g 10).testBit i = true := fun r i q => by
    rw [Nat.testBit_and, Bool.and_eq_true] at q
    exact q.1
  unfold bhd at hb
  split at hb
  · exact fin _ (mkb_t w g) (fun _ q => q) hb
  · split at hb
    · split at hb
      · cases hb
      · exact fin _ (mkb_t w g) (fun _ q => q) hb
    · split at hb
      · exact fin _ (and_lt _ (mkb_t w g)) (sub _) hb
      · exact fin _ (and_lt _ (mkb_t w g)) (sub _) hb
end BH1
section BH2
variable {c : CX} {d : Nat} {T : XS} {a ca : Nat} {v : CV} {sd : SD}
theorem CS.W (h : CS T a ca v sd) : W10 sd.1 := fun x k hk => by
  have := h.wb hk
  have := h.G
  omega
theorem x_ringOf {Q : Int32 → XS → Prop} (h : CS T a ca v sd) {g : Nat} (hg : g < 10) (hq : Q (nI (ring sd.1 g)) T) : XI c (d + 1) m_Rw_ringOf [.ref a, .int (nI g)] T Q := by
  have hW := h.W
  refine wx_Rw_ringOf _ _ ?_
  suffices H : ∀ (m k bits x : Nat), k + m = 10 → x ≤ 10 → Q (nI (rgX (fo sd.1) g m bits x)) T → eX c (d + 1) m_Rw_ringOf 7 [some (.ref a), some (.int (nI g)), some (.int (nI bits)), some (.int (if x < 10 then nI x else -1)), some (.int (nI k))] T (yI c Q) by
    have := H 10 0 0 g (by omega) (by omega) hq
    rw [if_pos hg] at this
    exact this
  intro m
  induction m with
  | zero =>
    intro k bits x hk hx hq
    refine wx_Rw_ringOf_7 _ _ _ _ _ ⟨fun _ => hq, fun z => absurd (nI_leI (a := 10) (by decide) (by omega) |>.mpr (by omega)) z⟩
  | succ m ih =>
    intro k bits x hk hx hq
    refine wx_Rw_ringOf_7 _ _ _ _ _ ⟨fun z => absurd ((nI_leI (a := 10) (by decide) (by omega)).mp z) (by omega), fun _ => ?_⟩
    rw [rgX] at hq
    by_cases h10 : x < 10
    · rw [if_pos h10]
      rw [if_pos h10] at hq
      refine ⟨fun z => absurd ((one_nI h10).symm.trans z) (by decide), fun _ => ⟨h.1.1, okn h10 (by decide), ?_⟩⟩
      rw [ix_nI (by omega), h.wh h10, sh1 x h10, fa_or, nI_1, oI_some (fun k hk => by have := h.w10 hk; omega) (by omega), ← fo_eq hW hg]
      refine ⟨fun z => ?_, fun z => ?_⟩
      · rw [if_neg z] at hq
        have := ih (k + 1) (bits ||| 2 ^ x) (fo sd.1 x) (by omega) (fo_le hW x) hq
        have e : (if fo sd.1 x < 10 then nI (fo sd.1 x) else -1) = oI (sd.1 x) := by
          unfold fo
          cases e : sd.1 x with
          | none => rfl
          | some j => have := h.w10 e; simp only; rw [if_pos this]; rfl
        rw [e] at this
        exact this
      · rw [if_pos z] at hq
        exact hq
    · rw [if_neg h10]
      rw [if_neg h10] at hq
      exact ⟨fun _ => hq, fun z => absurd z (by decide)⟩
theorem x_opening {Q : Int32 → XS → Prop} (h : CS T a ca v sd) (hG : xI T 129 0 = nI (vG v)) {r : Nat} (hq : Q (oI (opn sd.1 r (vG v))) T) : XI c d m_Rw_opening [.ref 129, .ref a, .int (nI r)] T Q := by
  have h10 := h.G
  refine wx_Rw_opening _ _ ?_
  suffices H : ∀ (m k : Nat), k + m = vG v → (∀ j, j < k → opp sd.1 r j = false) → eX c d m_Rw_opening 2 [some (.ref 129), some (.ref a), some (.int (nI r)), some (.int (nI k))] T (yI c Q) from H (vG v) 0 (by omega) (fun j hj => by omega)
  intro m
  induction m with
  | zero =>
    intro k hk hj
    refine wx_Rw_opening_2 _ _ _ ⟨fun _ => ?_, fun z => absurd (by rw [hG, nI_leI (by omega) (by omega)]; omega) z⟩
    rw [opn_none (fun j hj' => hj j (by omega))] at hq
    exact hq
  | succ m ih =>
    intro k hk hj
    refine wx_Rw_opening_2 _ _ _ ⟨fun z => absurd z (by rw [hG, nI_leI (by omega) (by omega)]; omega), fun _ => ?_⟩
    rw [bit_i (by omega), nI_1]
    have go : opp sd.1 r k = false → eX c d m_Rw_opening 2 [some (.ref 129), some (.ref a), some (.int (nI r)), some (.int (nI (k + 1)))] T (yI c Q) := fun q => ih (k + 1) (by omega) (fun j hj' => by
      rcases Nat.lt_or_ge j k with z | z
      · exact hj j z
      · rw [show j = k by omega]; exact q)
    refine ⟨fun z => go (by unfold opp; rw [z]; rfl), fun z => ⟨h.1.1, okn (by omega) (by decide), ?_⟩⟩
    have z : r.testBit k = true := by cases e : r.testBit k <;> simp_all
    rw [ix_nI (by omega), h.mk (by omega), cpl (mkb_t _ _), nI_z (by have := and_lt (1023 ^^^ r) (mkb_t sd.1 k); omega)]
    refine ⟨fun q => go (by unfold opp; rw [decide_eq_false (fun y => y q), Bool.and_false]), fun q => ?_⟩
    rw [opn_some (by omega) (by unfold opp; rw [z, decide_eq_true q]; rfl) hj] at hq
    exact hq
theorem lob_10 {n : Nat} : lob n < 2 ^ 31 := by have := lob_le n; omega
theorem oI_lbo {n : Nat} (h : n ≠ 0) : oI (lbo n) = nI (lob n) := by unfold lbo; rw [if_neg h]; rfl
theorem x_behind {Q : Int32 → XS → Prop} (h : CS T a ca v sd) (hG : xI T 129 0 = nI (vG v)) {g : Nat} (hg : g < 10) (hr : xA T 137 g = nI (ring sd.1 g)) (hq : Q (oI (bhd sd.1 (vG v) g)) T) : XI c (d + 1) m_Rw_whoIsBehind [.ref 129, .ref a, .int (nI g)] T Q := by
  have hW := h.W
  have h10 := h.G
  have ok : okx (nI g) 10 := okn hg (by decide)
  have rl := ring_lt hW hg
  refine wx_Rw_whoIsBehind _ _ ⟨h.1.1, ok, ok, ?_⟩
  rw [ix_nI (by omega), h.mk hg, hr]
  unfold bhd at hq
  refine ⟨fun z => ?_, fun z => ?_⟩
  · have z : ring sd.1 g ≠ 0 := fun q => z (by rw [q]; rfl)
    rw [if_neg z] at hq
    refine x_opening h hG ?_
    have ob : ∀ k, opn sd.1 (ring sd.1 g) (vG v) = some k → k < 2 ^ 31 := fun k hk => by have := (opn_is hk).1; omega
    refine ⟨fun q => ?_, fun q => ?_⟩
    · obtain ⟨o, ho⟩ : ∃ o, opn sd.1 (ring sd.1 g) (vG v) = some o := by
        cases e : opn sd.1 (ring sd.1 g) (vG v) with
        | none => rw [e] at q; exact absurd rfl q
        | some o => exact ⟨o, rfl⟩
      rw [ho] at hq ⊢
      have hob := ob o ho
      simp only at hq
      refine ⟨fun q2 => ?_, fun q2 => ?_⟩
      · have q2 : g ≠ o := fun e => q2 (by rw [e]; rfl)
        rw [if_neg q2] at hq
        rw [fa_and]
        exact x_leastOf (and_lt _ (mkb_t _ _)) hq
      · have q2 : g = o := (nI_inj (by omega) hob).mp q2
        rw [if_pos q2] at hq
        rw [cpl (mkb_t _ _)]
        exact x_leastOf (and_lt _ (mkb_t _ _)) hq
    · rw [oI_none ob] at q
      rw [q] at hq
      refine x_leastOf rl ?_
      rw [oI_lbo z]
      simp only at hq
      refine ⟨fun q2 => ?_, fun q2 => ?_⟩
      · rw [if_neg (fun e => q2 (by rw [← e]))] at hq
        exact x_leastOf (mkb_t _ _) hq
      · rw [if_pos ((nI_inj (by omega) lob_10).mp q2)] at hq
        exact hq
  · rw [if_pos ((nI_z (by omega)).mp z)] at hq
    exact x_leastOf (mkb_t _ _) hq
end BH2
