/-! the fewest to persuade; peace -/
theorem sh10 : ∀ k, k < 11 → (1 : Int32) <<< (nI k &&& 31) = nI (2 ^ k) := by decide +kernel
def bst (p : Nat → Bool) : Nat → Option Nat
  | 0 => none
  | n + 1 => match bst p n with
    | none => if p n = true then some n else none
    | some b => if pop n < pop b ∧ p n = true then some n else some b
theorem bst_lt (p : Nat → Bool) : ∀ {n b : Nat}, bst p n = some b → b < n ∧ p b = true
  | 0, b, h => by cases h
  | n + 1, b, h => by
    rw [bst] at h
    split at h
    · split at h
      · have := Option.some.inj h; subst this; exact ⟨by omega, by assumption⟩
      · cases h
    · rename_i b' hb'
      split at h
      · rename_i q
        have := Option.some.inj h; subst this; exact ⟨by omega, q.2⟩
      · have := Option.some.inj h
        subst this
        have := bst_lt p hb'
        exact ⟨by omega, this.2⟩
theorem bst_some {p : Nat → Bool} {x : Nat} (hp : p x = true) : ∀ {n : Nat}, x < n → ∃ b, bst p n = some b
  | 0, h => by omega
  | n + 1, h => by
    rw [bst]
    cases e : bst p n with
    | some b => simp only; split <;> exact ⟨_, rfl⟩
    | none =>
      simp only
      rcases Nat.lt_or_ge x n with q | q
      · obtain ⟨b, hb⟩ := bst_some hp q
        rw [e] at hb; cases hb
      · rw [show n = x by omega, if_pos hp]
        exact ⟨_, rfl⟩
/-- one below all others, in size too -/
theorem bst_is {p : Nat → Bool} {M : Nat} (hM : p M = true) (h : ∀ x, p x = true → M ≤ x ∧ pop M ≤ pop x) : ∀ {n : Nat}, bst p n = if M < n then some M else none
  | 0 => rfl
  | n + 1 => by
    have ih := bst_is hM h (n := n)
    rcases Nat.lt_trichotomy M n with q | q | q
    · rw [if_pos q] at ih
      rw [bst, ih, show (if M < n + 1 then some M else none) = some M from if_pos (by omega)]
      exact if_neg (fun y => by have := (h n y.2).2; omega)
    · subst q
      rw [if_neg (Nat.lt_irrefl _)] at ih
      rw [bst, ih, show (if M < M + 1 then some M else none) = some M from if_pos (by omega)]
      exact if_pos hM
    · rw [if_neg (by omega)] at ih
      rw [bst, ih, show (if M < n + 1 then some M else none) = none from if_neg (by omega)]
      exact if_neg (fun y => by have := (h n y).1; omega)
theorem pop_pos {n i : Nat} (hn : n < 1024) (hi : i < 10) (h : n.testBit i = true) : 1 ≤ pop n := by
  have := pop_clr n hn i hi h
  omega
theorem pop_two {n i j : Nat} (hn : n < 1024) (hi : i < 10) (hj : j < 10) (hij : i ≠ j) (h1 : n.testBit i = true) (h2 : n.testBit j = true) : 2 ≤ pop n := by
  have e1 := pop_clr n hn i hi h1
  have e2 : (clrb n i).testBit j = true := by rw [clr_bit hj, h2, decide_eq_true (by omega)]; rfl
  have := pop_pos (clr_lt hn) hj e2
  omega
theorem pop_le1 {n : Nat} (hn : n < 1024) (h : ∀ i j, i < 10 → j < 10 → n.testBit i = true → n.testBit j = true → i = j) : pop n ≤ 1 := by
  by_cases q : n = 0
  · rw [q]; decide
  · obtain ⟨l1, l2⟩ := lob_lt n hn q
    have e : n = 2 ^ lob n := by
      refine bits10 hn (Nat.pow_lt_pow_right (by decide) l1) (fun i hi => ?_)
      rw [Nat.testBit_two_pow]
      cases e : n.testBit i with
      | true => exact (decide_eq_true (h _ _ l1 hi l2 e)).symm
      | false => exact (decide_eq_false (fun z => by rw [← z, l2] at e; cases e)).symm
    have := pop1' _ l1
    rw [← e] at this
    omega
theorem cnt_mono {p q : Nat → Bool} : ∀ (n : Nat), (∀ k, k < n → p k = true → q k = true) → fa_cnt p n ≤ fa_cnt q n := by
  intro n
  induction n with
  | zero => intro _; exact Nat.le_refl _
  | succ n ih =>
    intro h
    have ih := ih (fun k hk => h k (by omega))
    cases e : p n with
    | true => rw [fa_cnt_yes e, fa_cnt_yes (h n (by omega) e)]; omega
    | false =>
      rw [fa_cnt_no e]
      cases e2 : q n with
      | true => rw [fa_cnt_yes e2]; omega
      | false => rw [fa_cnt_no e2]; exact ih
theorem sub_le {S x : Nat} (h : ∀ i, S.testBit i = true → x.testBit i = true) : S ≤ x ∧ pop S ≤ pop x := by
  refine ⟨?_, cnt_mono 10 (fun k _ => h k)⟩
  have e : S = S &&& x := Nat.eq_of_testBit_eq (fun i => by
    rw [Nat.testBit_and]
    cases e : S.testBit i with
    | true => rw [h i e]; rfl
    | false => rfl)
  rw [e]
  exact Nat.and_le_right
theorem or_add : ∀ n, n < 1024 → ∀ j, j < 10 → n.testBit j = false → n ||| 2 ^ j = n + 2 ^ j := by1024 (by decide +kernel)
/-- all rings are open -/
def AO (v : CV) (sd : SD) (x : Nat) : Prop := ∀ g, g < vG v → ring sd.1 g ≠ 0 → ring sd.1 g &&& x ≠ 0
noncomputable def aoB (v : CV) (sd : SD) (x : Nat) : Bool := @decide (AO v sd x) (Classical.propDecidable _)
theorem aoB_t {v : CV} {sd : SD} {x : Nat} : aoB v sd x = true ↔ AO v sd x := @decide_eq_true_iff _ (Classical.propDecidable _)
theorem aoB_f {v : CV} {sd : SD} {x : Nat} : aoB v sd x = false ↔ ¬ AO v sd x := @decide_eq_false_iff_not _ (Classical.propDecidable _)
/-- the least of each ring -/
def pcC (sd : SD) (g : Nat) : Bool := decide (ring sd.1 g ≠ 0 ∧ lob (ring sd.1 g) = g)
def pcS (sd : SD) (k : Nat) : Nat := bits (pcC sd) k
theorem bits_lt (p : Nat → Bool) : ∀ k, k ≤ 10 → bits p k < 1024
  | 0, _ => by show 0 < 1024; omega
  | k + 1, hk => by
    show (if p k = true then bits p k ||| 2 ^ k else bits p k) < 1024
    split
    · exact or_lt (bits_lt p k (by omega)) (by omega)
    · exact bits_lt p k (by omega)
theorem bits_bit (p : Nat → Bool) : ∀ k i, (bits p k).testBit i = (decide (i < k) && p i)
  | 0, i => by show (0 : Nat).testBit i = _; rw [Nat.zero_testBit]; simp
  | k + 1, i => by
    show (if p k = true then bits p k ||| 2 ^ k else bits p k).testBit i = _
    by_cases q : i = k
    · subst q
      split
      · rename_i hp; rw [Nat.testBit_or, Nat.testBit_two_pow, hp]; simp
      · rename_i hp
        rw [bits_bit p i i]
        have : p i = false := by cases e : p i <;> simp_all
        rw [this]; simp
    · split
      · rw [Nat.testBit_or, Nat.testBit_two_pow, bits_bit p k i, decide_eq_false (Ne.symm q), Bool.or_false]
        congr 1
        by_cases z : i < k
        · rw [decide_eq_true z, decide_eq_true (by omega)]
        · rw [decide_eq_false z, decide_eq_false (by omega)]
      · rw [bits_bit p k i]
        congr 1
        by_cases z : i < k
        · rw [decide_eq_true z, decide_eq_true (by omega)]
        · rw [decide_eq_false z, decide_eq_false (by omega)]
theorem bits_2 (p : Nat → Bool) : ∀ k, bits p k < 2 ^ k
  | 0 => by show 0 < 1; omega
  | k + 1 => by
    have ih := bits_2 p k
    have e : 2 ^ (k + 1) = 2 ^ k * 2 := Nat.pow_succ 2 k
    show (if p k = true then bits p k ||| 2 ^ k else bits p k) < 2 ^ (k + 1)
    split
    · exact Nat.or_lt_two_pow (by omega) (by omega)
    · omega
section PC1
variable {v : CV} {sd : SD}
theorem SO.W (h : SO v sd) : W10 sd.1 := fun x k hk => by have := h.2.1 x k hk; have := h.1; omega
theorem ring_G (h : SO v sd) {g y : Nat} (hg : g < 10) (hy : (ring sd.1 g).testBit y = true) : y < vG v := by
  obtain ⟨k, hk, -⟩ := ring_next h.W hg hy
  exact (h.2.1 y k hk).1
theorem pc_ao (h : SO v sd) : AO v sd (pcS sd (vG v)) := by
  have h10 := h.1
  intro g hg hr e
  have hg10 : g < 10 := by omega
  obtain ⟨l1, l2⟩ := lob_lt _ (ring_lt h.W hg10) hr
  obtain ⟨s1, s2⟩ := ring_same h.W hg10 l2
  have : (ring sd.1 g &&& pcS sd (vG v)).testBit (lob (ring sd.1 g)) = true := by
    rw [Nat.testBit_and, l2, pcS, bits_bit, decide_eq_true (ring_G h hg10 l2)]
    unfold pcC
    rw [s1, decide_eq_true ⟨hr, rfl⟩]
    rfl
  rw [e, Nat.zero_testBit] at this
  cases this
/-- one picked in each ring -/
def pk (sd : SD) (x m : Nat) : Nat := lob (ring sd.1 m &&& x)
def pkS (sd : SD) (x : Nat) : Nat → Nat
  | 0 => 0
  | k + 1 => if pcC sd k = true then pkS sd x k ||| 2 ^ pk sd x k else pkS sd x k
theorem pk_is (h : SO v sd) {x m : Nat} (hx : AO v sd x) (hm : m < vG v) (hp : pcC sd m = true) : pk sd x m < 10 ∧ x.testBit (pk sd x m) = true ∧ (ring sd.1 m).testBit (pk sd x m) = true ∧ m ≤ pk sd x m := by
  have h10 := h.1
  have hp := of_decide_eq_true hp
  have rl := ring_lt h.W (show m < 10 by omega)
  obtain ⟨l1, l2⟩ := lob_lt (ring sd.1 m &&& x) (and_lt x rl) (hx m hm hp.1)
  rw [Nat.testBit_and, Bool.and_eq_true] at l2
  refine ⟨l1, l2.2, l2.1, ?_⟩
  refine Classical.byContradiction (fun q => ?_)
  have := lob_no (n := ring sd.1 m) (k := pk sd x m) (by rw [hp.2]; omega)
  rw [show pk sd x m = lob (ring sd.1 m &&& x) from rfl, l2.1] at this
  cases this
theorem pkS_ok (h : SO v sd) {x : Nat} (hx : AO v sd x) : ∀ k, k ≤ vG v → pkS sd x k < 1024 ∧ (∀ i, (pkS sd x k).testBit i = true → ∃ m, m < k ∧ pcC sd m = true ∧ pk sd x m = i) ∧ pop (pkS sd x k) = pop (pcS sd k) ∧ pcS sd k ≤ pkS sd x k
  | 0, _ => ⟨by show 0 < 1024; omega, fun i q => absurd q (by rw [show pkS sd x 0 = 0 from rfl, Nat.zero_testBit]; decide), rfl, Nat.le_refl _⟩
  | k + 1, hk => by
    have h10 := h.1
    obtain ⟨i1, i2, i3, i4⟩ := pkS_ok h hx k (by omega)
    have bl := bits_lt (pcC sd) k (by omega)
    have eb : (bits (pcC sd) k).testBit k = false := by rw [bits_bit, decide_eq_false (Nat.lt_irrefl k)]; rfl
    have e1 : pcS sd (k + 1) = if pcC sd k = true then pcS sd k ||| 2 ^ k else pcS sd k := rfl
    rw [pkS, e1]
    split
    · rename_i hp
      obtain ⟨p1, p2, p3, p4⟩ := pk_is h hx (show k < vG v by omega) hp
      have hn : (pkS sd x k).testBit (pk sd x k) = false := by
        cases e : (pkS sd x k).testBit (pk sd x k) with
        | false => rfl
        | true =>
          obtain ⟨m, m1, m2, m3⟩ := i2 _ e
          obtain ⟨q1, q2, q3, q4⟩ := pk_is h hx (show m < vG v by omega) m2
          rw [m3] at q3
          obtain ⟨s1, -⟩ := ring_same h.W (show m < 10 by omega) q3
          obtain ⟨s2, -⟩ := ring_same h.W (show k < 10 by omega) p3
          have a1 := (of_decide_eq_true hp).2
          have a2 := (of_decide_eq_true m2).2
          rw [← s2, s1, a2] at a1
          omega
      refine ⟨or_lt i1 p1, fun i q => ?_, ?_, ?_⟩
      · rw [Nat.testBit_or, Bool.or_eq_true, Nat.testBit_two_pow, decide_eq_true_iff] at q
        rcases q with q | q
        · obtain ⟨m, m1, m2, m3⟩ := i2 i q; exact ⟨m, by omega, m2, m3⟩
        · exact ⟨k, by omega, hp, q⟩
      · rw [pop_or _ i1 _ p1 hn, pop_or (pcS sd k) bl k (by omega) eb, i3]
      · rw [or_add _ i1 _ p1 hn, or_add (pcS sd k) bl k (by omega) eb]
        have := Nat.pow_le_pow_right (n := 2) (by decide) p4
        omega
    · exact ⟨i1, fun i q => by obtain ⟨m, m1, m2, m3⟩ := i2 i q; exact ⟨m, by omega, m2, m3⟩, i3, i4⟩
theorem pc_least (h : SO v sd) {x : Nat} (hx : AO v sd x) : pcS sd (vG v) ≤ x ∧ pop (pcS sd (vG v)) ≤ pop x := by
  obtain ⟨i1, i2, i3, i4⟩ := pkS_ok h hx (vG v) (Nat.le_refl _)
  obtain ⟨s1, s2⟩ := sub_le (S := pkS sd x (vG v)) (x := x) (fun i q => by
    obtain ⟨m, m1, m2, m3⟩ := i2 i q
    rw [← m3]
    exact (pk_is h hx m1 m2).2.1)
  omega
/-- peace is the least of each ring -/
theorem pc_bst (h : SO v sd) : bst (aoB v sd) (2 ^ vG v) = some (pcS sd (vG v)) := by
  rw [bst_is (M := pcS sd (vG v)) (aoB_t.mpr (pc_ao h)) (fun x hx => pc_least h (aoB_t.mp hx)), if_pos (show pcS sd (vG v) < 2 ^ vG v from bits_2 _ _)]
/-- enough are persuaded -/
def nnC (sd : SD) (x g : Nat) : Bool := decide (sd.1 g = none) && !x.testBit g
def EN (v : CV) (sd : SD) (x : Nat) : Prop := (∀ g, g < vG v → pop (mkb sd.1 g 10 &&& (1023 ^^^ x)) ≤ 1) ∧ AO v sd x ∧ fa_cnt (nnC sd x) (vG v) ≤ 1
noncomputable def enB (v : CV) (sd : SD) (x : Nat) : Bool := @decide (EN v sd x) (Classical.propDecidable _)
theorem enB_t {x : Nat} : enB v sd x = true ↔ EN v sd x := @decide_eq_true_iff _ (Classical.propDecidable _)
theorem enB_f {x : Nat} : enB v sd x = false ↔ ¬ EN v sd x := @decide_eq_false_iff_not _ (Classical.propDecidable _)
theorem full_bit {G i : Nat} (hi : i < G) : (2 ^ G - 1).testBit i = true := by rw [Nat.testBit_two_pow_sub_one]; exact decide_eq_true hi
theorem en_full (h : SO v sd) : EN v sd (2 ^ vG v - 1) := by
  have h10 := h.1
  refine ⟨fun g hg => ?_, fun g hg hr e => ?_, ?_⟩
  · have : mkb sd.1 g 10 &&& (1023 ^^^ (2 ^ vG v - 1)) = 0 := by
      refine no_bits (and_lt _ (mkb_t _ _)) (fun j hj => ?_)
      rw [cpl_bit hj, mkb_b hj]
      by_cases q : sd.1 j = some g
      · rw [full_bit (h.2.1 j g q).1]; simp
      · rw [decide_eq_false q]; rfl
    rw [this]; decide
  · have : (ring sd.1 g &&& (2 ^ vG v - 1)).testBit g = true := by
      rw [Nat.testBit_and, ring_self h.W (by omega) hr, full_bit hg]; rfl
    rw [e, Nat.zero_testBit] at this
    cases this
  · have : fa_cnt (nnC sd (2 ^ vG v - 1)) (vG v) ≤ fa_cnt (fun _ => false) (vG v) := cnt_mono _ (fun k hk q => by
      unfold nnC at q
      rw [full_bit hk] at q
      simp at q)
    have e : ∀ n, fa_cnt (fun _ => false) n = 0 := fun n => by
      induction n with
      | zero => rfl
      | succ n ih => rw [fa_cnt_no rfl]; exact ih
    rw [e] at this
    omega
/-- the fewest -/
noncomputable def prsS (v : CV) (sd : SD) : Nat := (bst (enB v sd) (2 ^ vG v)).getD 0
theorem prs_some (h : SO v sd) : bst (enB v sd) (2 ^ vG v) = some (prsS v sd) := by
  obtain ⟨b, hb⟩ := bst_some (p := enB v sd) (enB_t.mpr (en_full h)) (n := 2 ^ vG v) (by have := Nat.two_pow_pos (vG v); omega)
  unfold prsS
  rw [hb]
  rfl
end PC1
section PX1
variable {c : CX} {d : Nat} {T T' : XS} {ca : Nat} {v : CV} {sd : SD}
theorem x_peace {Q : Int32 → XS → Prop} {E : Nat → XS → Prop} (hR : RL c) (h : CS T 93 ca v sd) {wt : Int32} (ok : (wt = 0 ∨ wt = 1) → ∀ T', frm scr T T' → Q (if wt = 0 then nI (pop (pcS sd (vG v))) else nI (pcS sd (vG v))) T') (bad : ¬ (wt = 0 ∨ wt = 1) → E 1 (tN T 0 0 6)) : XIt c (d + 4) m_X_peace [.ref 1, .int wt] T Q E := by
  have hG := h.G
  have hW := h.W
  have e0 : ((0 : Int32).toInt : Int) = 0 := rfl
  have e1 : ((1 : Int32).toInt : Int) = 1 := rfl
  have w01 : (wt = 0 ∨ wt = 1) ↔ ((0 : Int32).toInt ≤ wt.toInt ∧ wt.toInt ≤ (1 : Int32).toInt) := by
    rw [fa_eq, fa_eq, e0, e1]; omega
  refine wx_X_peace _ (x_needWithin hR (fun a1 a2 => x_rowNow h (fun T1 hf hr => ⟨rfl, ?_⟩)) (fun q => bad (fun y => q (w01.mp y))))
  have ok := ok (w01.mpr ⟨a1, a2⟩) T1 (rw_scr hf)
  suffices H : ∀ (m k : Nat), k + m = vG v → eX c (d + 4) m_X_peace 16 [some (.ref 1), some (.int wt), some (.ref 129), some (.int (nI (pcS sd k))), some (.int (nI k))] T1 (yt c E (yI c Q)) from H (vG v) 0 (by omega)
  intro m
  induction m with
  | zero =>
    intro k hk
    refine wx_X_peace_16 _ _ _ ⟨fun _ => ?_, fun z => absurd ((gle hr.1.1.1 hG (by omega)).mpr (by omega)) z⟩
    rw [show k = vG v by omega, bcI_nI (pcS sd (vG v)) (bits_lt _ _ hG)]
    exact ⟨fun z => by rwa [if_neg z] at ok, fun z => by rwa [if_pos z] at ok⟩
  | succ m ih =>
    intro k hk
    have ih := ih (k + 1) (by omega)
    have e3 : pcS sd (k + 1) = if pcC sd k = true then pcS sd k ||| 2 ^ k else pcS sd k := rfl
    rw [e3] at ih
    refine wx_X_peace_16 _ _ _ ⟨fun z => absurd ((gle hr.1.1.1 hG (by omega)).mp z) (by omega), fun _ => ⟨okn (by omega) (by decide), ?_⟩⟩
    rw [ix_nI (by omega), (hr.1.2.2.1 k (by omega)).1, sh1 k (by omega), fa_or, nI_1]
    refine x_leastOf (ring_lt hW (by omega)) ?_
    have e1 : oI (lbo (ring sd.1 k)) = nI k ↔ pcC sd k = true := by
      unfold pcC lbo
      rw [decide_eq_true_iff]
      by_cases q : ring sd.1 k = 0
      · rw [if_pos q, oI_some (fun j hj => by cases hj) (by omega)]
        exact ⟨fun z => (by cases z), fun z => absurd q z.1⟩
      · rw [if_neg q, oI_some (fun j hj => by have := Option.some.inj hj; have := lob_10 (n := ring sd.1 k); omega) (by omega)]
        exact ⟨fun z => ⟨q, Option.some.inj z⟩, fun z => by rw [z.2]⟩
    rw [e1]
    exact ⟨fun z => by rwa [if_neg z] at ih, fun z => by rwa [if_pos z] at ih⟩
theorem ro_le {x : Nat} (hx : x < 1024) : x < 2 ^ 31 := by omega
theorem x_isEnough {Q : Bool → XS → Prop} (h : CS T 93 ca v sd) (hr : ROWX T v sd) {x : Nat} (hx : x < 1024) (hq : Q (enB v sd x) T) : XB c (d + 1) m_Rw_isEnough [.ref 129, .ref 93, .int (nI x)] T Q := by
  have hG := h.G
  have hW := h.W
  refine wx_Rw_isEnough _ _ ?_
  suffices H : ∀ (m k n : Nat), k + m = vG v → n = fa_cnt (nnC sd x) k → n ≤ 1 → (∀ g, g < k → pop (mkb sd.1 g 10 &&& (1023 ^^^ x)) ≤ 1) → (∀ g, g < k → ring sd.1 g ≠ 0 → ring sd.1 g &&& x ≠ 0) → eX c (d + 1) m_Rw_isEnough 5 [some (.ref 129), some (.ref 93), some (.int (nI x)), some (.int (nI n)), some (.int (nI k))] T (yB c Q) from H (vG v) 0 0 (by omega) rfl (by omega) (fun g hg => by omega) (fun g hg => by omega)
  have no : ¬ EN v sd x → Q false T := fun q => by rwa [enB_f.mpr q] at hq
  intro m
  induction m with
  | zero =>
    intro k n hk hn n1 h1 h2
    refine wx_Rw_isEnough_5 _ _ _ _ ⟨fun _ => ?_, fun z => absurd ((gle hr.1.1.1 hG (by omega)).mpr (by omega)) z⟩
    have e : k = vG v := by omega
    subst e
    rwa [enB_t.mpr ⟨h1, h2, by omega⟩] at hq
  | succ m ih =>
    intro k n hk hn n1 h1 h2
    have ok : okx (nI k) 10 := okn (by omega) (by decide)
    have rl := ring_lt hW (show k < 10 by omega)
    have e93 : xA T (sM 93) k = nI (mkb sd.1 k 10) := h.mk (by omega)
    have ew : xA T (sW 93) k = oI (sd.1 k) := h.wh (by omega)
    have pl := pop_le _ (and_lt (1023 ^^^ x) (mkb_t sd.1 k))
    refine wx_Rw_isEnough_5 _ _ _ _ ⟨fun z => absurd ((gle hr.1.1.1 hG (by omega)).mp z) (by omega), fun _ => ⟨h.1.1, ok, ?_⟩⟩
    rw [ix_nI (by omega), e93, ew, (hr.1.2.2.1 k (by omega)).1, cpl (mkb_t _ _), bcI_nI _ (and_lt _ (mkb_t _ _)), show nI (ring sd.1 k) = 0 ↔ ring sd.1 k = 0 from nI_z (by omega), fa_and, show nI (ring sd.1 k &&& x) = 0 ↔ ring sd.1 k &&& x = 0 from nI_z (by have := and_lt x rl; omega), bit_i (by omega), nI_1, show nI n = 0 ↔ n = 0 from nI_z (by omega), oI_none (fun j hj => by have := h.w10 hj; omega)]
    have l1 : nI (pop (mkb sd.1 k 10 &&& (1023 ^^^ x))) ≤ 1 ↔ pop (mkb sd.1 k 10 &&& (1023 ^^^ x)) ≤ 1 := nI_leI (b := 1) (by omega) (by decide)
    rw [l1]
    have tail : (ring sd.1 k ≠ 0 → ring sd.1 k &&& x ≠ 0) → pop (mkb sd.1 k 10 &&& (1023 ^^^ x)) ≤ 1 → (okx (nI k) 10 ∧ ((¬ sd.1 k = none → eX c (d + 1) m_Rw_isEnough 5 [some (.ref 129), some (.ref 93), some (.int (nI x)), some (.int (nI n)), some (.int (nI (k + 1)))] T (yB c Q)) ∧ (sd.1 k = none → ((¬ x.testBit k = false → eX c (d + 1) m_Rw_isEnough 5 [some (.ref 129), some (.ref 93), some (.int (nI x)), some (.int (nI n)), some (.int (nI (k + 1)))] T (yB c Q)) ∧ (x.testBit k = false → ((n = 0 → eX c (d + 1) m_Rw_isEnough 5 [some (.ref 129), some (.ref 93), some (.int (nI x)), some (.int 1), some (.int (nI (k + 1)))] T (yB c Q)) ∧ (¬ n = 0 → Q false T))))))) := by
      intro t1 t2
      have n1' : ∀ g, g < k + 1 → pop (mkb sd.1 g 10 &&& (1023 ^^^ x)) ≤ 1 := fun g hg => by
        rcases Nat.lt_or_ge g k with q | q
        · exact h1 g q
        · rw [show g = k by omega]; exact t2
      have n2' : ∀ g, g < k + 1 → ring sd.1 g ≠ 0 → ring sd.1 g &&& x ≠ 0 := fun g hg => by
        rcases Nat.lt_or_ge g k with q | q
        · exact h2 g q
        · rw [show g = k by omega]; exact t1
      have cno : nnC sd x k = false → fa_cnt (nnC sd x) (k + 1) = n := fun q => by rw [fa_cnt_no q, hn]
      have cyes : nnC sd x k = true → fa_cnt (nnC sd x) (k + 1) = n + 1 := fun q => by rw [fa_cnt_yes q, hn]
      refine ⟨ok, fun z => ih (k + 1) n (by omega) (cno (by unfold nnC; rw [decide_eq_false z]; rfl)).symm n1 n1' n2', fun z => ⟨fun z2 => ih (k + 1) n (by omega) (cno (by
        unfold nnC
        have : x.testBit k = true := by cases e : x.testBit k <;> simp_all
        rw [this]; simp)).symm n1 n1' n2', fun z2 => ⟨fun z3 => ?_, fun z3 => no (fun q => ?_)⟩⟩⟩
      · have := ih (k + 1) 1 (by omega) (by rw [cyes (by unfold nnC; rw [decide_eq_true z, z2]; rfl), z3]) (by omega) n1' n2'
        exact this
      · have hc : fa_cnt (nnC sd x) (k + 1) ≤ fa_cnt (nnC sd x) (vG v) := by
          have : ∀ n, k + 1 ≤ n → fa_cnt (nnC sd x) (k + 1) ≤ fa_cnt (nnC sd x) n := by
            intro n
            induction n with
            | zero => intro hn; omega
            | succ n ih2 =>
              intro hn
              rcases Nat.lt_or_ge n (k + 1) with y | y
              · rw [show n = k by omega]; exact Nat.le_refl _
              · have := ih2 y
                cases e : nnC sd x n with
                | true => rw [fa_cnt_yes e]; omega
                | false => rw [fa_cnt_no e]; exact this
          exact this _ (by omega)
        rw [cyes (by unfold nnC; rw [decide_eq_true z, z2]; rfl)] at hc
        have := q.2.2
        omega
    refine ⟨fun z => ⟨ok, fun z2 => tail (fun q => absurd z2 q) z, fun z2 => ⟨ok, fun z3 => tail (fun _ => z3) z, fun z3 => no (fun q => q.2.1 k (by omega) z2 z3)⟩⟩, fun z => no (fun q => z (q.1 k (by omega)))⟩
theorem x_fewest {Q : Int32 → XS → Prop} (h : CS T 93 ca v sd) (hr : ROWX T v sd) (hq : Q (nI (prsS v sd)) T) : XI c (d + 2) m_Rw_fewestPersuaded [.ref 129, .ref 93] T Q := by
  have hG := h.G
  have h2G : 2 ^ vG v ≤ 1024 := (show 2 ^ vG v ≤ 2 ^ 10 from Nat.pow_le_pow_right (by decide) hG)
  refine wx_Rw_fewestPersuaded _ ?_
  suffices H : ∀ (m k : Nat), k + m = 2 ^ vG v → eX c (d + 2) m_Rw_fewestPersuaded 8 [some (.ref 129), some (.ref 93), some (.int (nI (match bst (enB v sd) k with
      | none => 11
      | some b => pop b))), some (.int (nI ((bst (enB v sd) k).getD 0))), some (.int (nI k)), none] T (yI c Q) from H (2 ^ vG v) 0 (by omega)
  have hlim : ∀ k, k ≤ 2 ^ vG v → (((1 : Int32) <<< (xI T 129 0 &&& 31)) ≤ nI k ↔ 2 ^ vG v ≤ k) := fun k hk => by rw [hr.1.1.1, sh10 _ (by omega), nI_leI (by omega) (by omega)]
  intro m
  induction m with
  | zero =>
    intro k hk
    refine wx_Rw_fewestPersuaded_8 _ _ _ _ ⟨fun _ => ?_, fun z => absurd ((hlim k (by omega)).mpr (by omega)) z⟩
    rw [show k = 2 ^ vG v by omega]
    exact hq
  | succ m ih =>
    intro k hk
    have ih := ih (k + 1) (by omega)
    have pk := pop_le k (by omega)
    refine wx_Rw_fewestPersuaded_8 _ _ _ _ ⟨fun z => absurd ((hlim k (by omega)).mp z) (by omega), fun _ => ?_⟩
    rw [bcI_nI k (by omega), nI_1]
    cases e : bst (enB v sd) k with
    | none =>
      have e2 : bst (enB v sd) (k + 1) = if enB v sd k = true then some k else none := by rw [bst, e]
      rw [e2] at ih
      refine ⟨fun z => absurd ((nI_leI (a := 11) (by decide) (by omega)).mp z) (by omega), fun _ => x_isEnough h hr (by omega) ⟨fun z => ?_, fun z => ?_⟩⟩
      · rw [z] at ih; exact ih
      · rw [z] at ih; exact ih
    | some b =>
      have bb := bst_lt _ e
      have pb := pop_le b (by omega)
      have e2 : bst (enB v sd) (k + 1) = if pop k < pop b ∧ enB v sd k = true then some k else some b := by rw [bst, e]
      rw [e2] at ih
      have l1 : nI (pop b) ≤ nI (pop k) ↔ pop b ≤ pop k := nI_leI (by omega) (by omega)
      show (nI (pop b) ≤ nI (pop k) → _) ∧ _
      refine ⟨fun z => ?_, fun z => x_isEnough h hr (by omega) ⟨fun z2 => ?_, fun z2 => ?_⟩⟩
      · rw [if_neg (fun y => by have := l1.mp z; omega)] at ih
        exact ih
      · rw [if_neg (fun y => by rw [z2] at y; cases y.2)] at ih
        exact ih
      · rw [if_pos ⟨by have := mt l1.mpr z; omega, z2⟩] at ih
        exact ih
theorem prs_lt (h : SO v sd) : prsS v sd < 1024 := by
  have := (bst_lt _ (prs_some h)).1
  have h2G : 2 ^ vG v ≤ 1024 := (show 2 ^ vG v ≤ 2 ^ 10 from Nat.pow_le_pow_right (by decide) h.1)
  omega
theorem x_persuaded {Q : Int32 → XS → Prop} {E : Nat → XS → Prop} (hR : RL c) (h : CS T 93 ca v sd) {wt : Int32} (ok : (wt = 0 ∨ wt = 1) → ∀ T', frm scr T T' → Q (if wt = 0 then nI (pop (prsS v sd)) else nI (prsS v sd)) T') (bad : ¬ (wt = 0 ∨ wt = 1) → E 1 (tN T 0 0 6)) : XIt c (d + 4) m_X_persuaded [.ref 1, .int wt] T Q E := by
  have e0 : ((0 : Int32).toInt : Int) = 0 := rfl
  have e1 : ((1 : Int32).toInt : Int) = 1 := rfl
  have w01 : (wt = 0 ∨ wt = 1) ↔ ((0 : Int32).toInt ≤ wt.toInt ∧ wt.toInt ≤ (1 : Int32).toInt) := by
    rw [fa_eq, fa_eq, e0, e1]; omega
  refine wx_X_persuaded _ (x_needWithin hR (fun a1 a2 => x_rowNow h (fun T1 hf hr => ⟨rfl, x_fewest (d := d + 1) (hf.CSr h) hr ?_⟩)) (fun q => bad (fun y => q (w01.mp y))))
  have ok := ok (w01.mpr ⟨a1, a2⟩) T1 (rw_scr hf)
  rw [bcI_nI _ (prs_lt h.so)]
  exact ⟨fun z => by rwa [if_neg z] at ok, fun z => by rwa [if_pos z] at ok⟩
end PX1
section PR1
variable {c : CX} {d : Nat} {s s' : RS} {v : CV} {a : SD}
theorem s_areOpen {Q : Bool → RS → Prop} (h : KR s v a) {x : Nat} (hx : x < 1024) (hq : Q (aoB v a x) s) : RB c (d + 2) m_R_areOpen [.ref 2, .int (nI x)] s Q := by
  have hG := h.2.2.1.1
  have hW := h.W
  refine w_R_areOpen _ ?_
  suffices H : ∀ (m k : Nat), k + m = vG v → (∀ g, g < k → ring a.1 g ≠ 0 → ring a.1 g &&& x ≠ 0) → eR c (d + 2) m_R_areOpen 2 [some (.ref 2), some (.int (nI x)), some (.int (nI k))] s (pB c Q) from H (vG v) 0 (by omega) (fun g hg => by omega)
  intro m
  induction m with
  | zero =>
    intro k hk h2
    refine w_R_areOpen_2 _ _ ⟨fun _ => ?_, fun z => absurd ((h.gle (by omega)).mpr (by omega)) z⟩
    rwa [aoB_t.mpr (fun g hg => h2 g (by omega))] at hq
  | succ m ih =>
    intro k hk h2
    have rl := ring_lt hW (show k < 10 by omega)
    have go : (ring a.1 k ≠ 0 → ring a.1 k &&& x ≠ 0) → eR c (d + 2) m_R_areOpen 2 [some (.ref 2), some (.int (nI x)), some (.int (nI (k + 1)))] s (pB c Q) := fun t => ih (k + 1) (by omega) (fun g hg => by
      rcases Nat.lt_or_ge g k with q | q
      · exact h2 g q
      · rw [show g = k by omega]; exact t)
    refine w_R_areOpen_2 _ _ ⟨fun z => absurd ((h.gle (by omega)).mp z) (by omega), fun _ => s_ringOf h (by omega) ?_⟩
    rw [nI_z (by omega), nI_1]
    refine ⟨fun z => go (fun q => absurd z q), fun z => s_ringOf h (by omega) ?_⟩
    rw [fa_and, nI_z (by have := and_lt x rl; omega)]
    exact ⟨fun z2 => go (fun _ => z2), fun z2 => by rwa [aoB_f.mpr (fun q => q k (by omega) z z2)] at hq⟩
theorem s_mayWalk {Q : Bool → RS → Prop} (h : KR s v a) {x : Nat} (hx : x < 1024) (hq : Q (enB v a x) s) : RB c (d + 3) m_R_mayWalk [.ref 2, .int (nI x)] s Q := by
  have hG := h.2.2.1.1
  have hW := h.W
  have no : ¬ EN v a x → Q false s := fun q => by rwa [enB_f.mpr q] at hq
  refine w_R_mayWalk _ ?_
  -- those seen
  suffices H : ∀ (m k B : Nat), k + m = vG v → B < 1024 → (∀ y, y < 10 → (B.testBit y = true ↔ ∃ g, g < k ∧ x.testBit g = false ∧ a.1 g = some y)) → (∀ g g' y, g < g' → g' < k → x.testBit g = false → x.testBit g' = false → a.1 g = some y → a.1 g' = some y → False) → eR c (d + 3) m_R_mayWalk 7 [some (.ref 2), some (.int (nI x)), some (.int (nI B)), some (.int (nI (fa_cnt (nnC a x) k))), some (.int (nI k))] s (pB c Q) from H (vG v) 0 0 (by omega) (by decide) (fun y hy => by rw [Nat.zero_testBit]; exact ⟨fun q => absurd q (by decide), fun ⟨g, hg, _⟩ => absurd hg (by omega)⟩) (fun g g' y _ hg => by omega)
  intro m
  induction m with
  | zero =>
    intro k B hk hB hb hd
    have e : k = vG v := by omega
    subst e
    have cl := fa_cnt_le (nnC a x) (vG v)
    have l2 : (2 : Int32) ≤ nI (fa_cnt (nnC a x) (vG v)) ↔ 2 ≤ fa_cnt (nnC a x) (vG v) := nI_leI (a := 2) (by decide) (by omega)
    refine w_R_mayWalk_7 _ _ _ _ ⟨fun _ => ?_, fun z => absurd ((h.gle (by omega)).mpr (by omega)) z⟩
    rw [l2]
    refine ⟨fun z => no (fun q => by have := q.2.2; omega), fun z => s_areOpen h hx ⟨fun z2 => no (fun q => (aoB_f.mp z2) q.2.1), fun z2 => ?_⟩⟩
    have : EN v a x := by
      refine ⟨fun g hg => pop_le1 (and_lt _ (mkb_t _ _)) (fun i j hi hj q1 q2 => ?_), aoB_t.mp z2, by omega⟩
      rw [cpl_bit hi, mkb_b hi, Bool.and_eq_true, decide_eq_true_iff] at q1
      rw [cpl_bit hj, mkb_b hj, Bool.and_eq_true, decide_eq_true_iff] at q2
      have b1 : x.testBit i = false := by cases e : x.testBit i <;> simp_all
      have b2 : x.testBit j = false := by cases e : x.testBit j <;> simp_all
      rcases Nat.lt_trichotomy i j with y | y | y
      · exact (hd i j g y (h.2.2.2.1 j g q2.1).1 b1 b2 q1.1 q2.1).elim
      · exact y
      · exact (hd j i g y (h.2.2.2.1 i g q1.1).1 b2 b1 q2.1 q1.1).elim
    rwa [enB_t.mpr this] at hq
  | succ m ih =>
    intro k B hk hB hb hd
    have ok : okx (6 + nI k) 2101 := okm (by omega)
    refine w_R_mayWalk_7 _ _ _ _ ⟨fun z => absurd ((h.gle (by omega)).mp z) (by omega), fun _ => ?_⟩
    rw [hs_nI x hx k (by omega), h.wh (by omega), nI_1, nI_1]
    have ih := ih (k + 1)
    refine ⟨fun z => ⟨ok, fun z2 => ⟨ok, ?_⟩, fun z2 => ?_⟩, fun z => ?_⟩
    · obtain ⟨y, hy⟩ : ∃ y, a.1 k = some y := by
        cases e : a.1 k with
        | none => rw [e] at z2; exact absurd rfl z2
        | some y => exact ⟨y, rfl⟩
      have hy10 := h.wb hy
      rw [hy, show oI (some y) = nI y from rfl, hs_nI B hB y hy10, sh1 y hy10, fa_or]
      refine ⟨fun z3 => ⟨ok, ?_⟩, fun z3 => no (fun q => ?_)⟩
      · have := ih (B ||| 2 ^ y) (by omega) (or_lt hB hy10) (fun y' hy' => ?_) (fun g g' y' h1 h2 h3 h4 h5 h6 => ?_)
        · rw [fa_cnt_no (by unfold nnC; rw [hy]; rfl)] at this
          exact this
        · rw [Nat.testBit_or, Bool.or_eq_true, Nat.testBit_two_pow, decide_eq_true_iff, hb y' hy']
          refine ⟨fun q => ?_, fun ⟨g, h1, h2, h3⟩ => ?_⟩
          · rcases q with ⟨g, h1, h2⟩ | q
            · exact ⟨g, by omega, h2⟩
            · exact ⟨k, by omega, z, by rw [hy, q]⟩
          · rcases Nat.lt_or_ge g k with q | q
            · exact Or.inl ⟨g, q, h2, h3⟩
            · rw [show g = k by omega, hy] at h3
              exact Or.inr (Option.some.inj h3)
        · rcases Nat.lt_or_ge g' k with q | q
          · exact hd g g' y' h1 q h3 h4 h5 h6
          · rw [show g' = k by omega, hy] at h6
            have e := Option.some.inj h6
            subst e
            have := (hb y hy10).mpr ⟨g, by omega, h3, h5⟩
            rw [this] at z3
            cases z3
      · obtain ⟨g, h1, h2, h3⟩ := (hb y hy10).mp z3
        have hyG := (h.2.2.2.1 k y hy).2.1
        have p2 := q.1 y hyG
        have := pop_two (and_lt (1023 ^^^ x) (mkb_t a.1 y)) (i := g) (j := k) (by omega) (by omega) (by omega) (by rw [cpl_bit (by omega), mkb_b (by omega), decide_eq_true h3, h2]; rfl) (by rw [cpl_bit (by omega), mkb_b (by omega), decide_eq_true hy, z]; rfl)
        omega
    · have z2 := (h.wn k).mp z2
      have := ih B (by omega) hB (fun y hy => ?_) (fun g g' y h1 h2 h3 h4 h5 h6 => ?_)
      · rw [fa_cnt_yes (by unfold nnC; rw [decide_eq_true z2, z]; rfl)] at this
        exact this
      · rw [hb y hy]
        refine ⟨fun ⟨g, h1, h2⟩ => ⟨g, by omega, h2⟩, fun ⟨g, h1, h2, h3⟩ => ⟨g, ?_, h2, h3⟩⟩
        refine Classical.byContradiction (fun q => ?_)
        rw [show g = k by omega, z2] at h3; cases h3
      · rcases Nat.lt_or_ge g' k with q | q
        · exact hd g g' y h1 q h3 h4 h5 h6
        · rw [show g' = k by omega, z2] at h6; cases h6
    · have := ih B (by omega) hB (fun y hy => ?_) (fun g g' y h1 h2 h3 h4 h5 h6 => ?_)
      · rw [fa_cnt_no (by unfold nnC; rw [z]; simp)] at this
        exact this
      · rw [hb y hy]
        refine ⟨fun ⟨g, h1, h2⟩ => ⟨g, by omega, h2⟩, fun ⟨g, h1, h2, h3⟩ => ⟨g, ?_, h2, h3⟩⟩
        refine Classical.byContradiction (fun q => ?_)
        rw [show g = k by omega, z] at h2; cases h2
      · rcases Nat.lt_or_ge g' k with q | q
        · exact hd g g' y h1 q h3 h4 h5 h6
        · rw [show g' = k by omega, z] at h4; cases h4
theorem s_fewestOf {Q : Int32 → RS → Prop} (h : KR s v a) (wk : Bool) {b : Nat} (hb : bst (if wk = true then enB v a else aoB v a) (2 ^ vG v) = some b) (hq : Q (nI b) s) : RI c (d + 4) m_R_fewestOf [.ref 2, .int (bI wk)] s Q := by
  have hG := h.2.2.1.1
  have h2G : 2 ^ vG v ≤ 1024 := (show 2 ^ vG v ≤ 2 ^ 10 from Nat.pow_le_pow_right (by decide) hG)
  refine w_R_fewestOf _ ?_
  generalize hp : (if wk = true then enB v a else aoB v a) = p at hb
  suffices H : ∀ (m k : Nat), k + m = 2 ^ vG v → eR c (d + 4) m_R_fewestOf 4 [some (.ref 2), some (.int (bI wk)), some (.int (oI (bst p k))), some (.int (nI k))] s (pI c Q) from H (2 ^ vG v) 0 (by omega)
  have hlim : ∀ k, k ≤ 2 ^ vG v → (((1 : Int32) <<< (s.2.1 1 1 &&& 31)) ≤ nI k ↔ 2 ^ vG v ≤ k) := fun k hk => by rw [h.1.2.1, sh10 _ (by omega), nI_leI (by omega) (by omega)]
  intro m
  induction m with
  | zero =>
    intro k hk
    refine w_R_fewestOf_4 _ _ _ ⟨fun _ => ?_, fun z => absurd ((hlim k (by omega)).mpr (by omega)) z⟩
    rw [show k = 2 ^ vG v by omega, hb]
    exact hq
  | succ m ih =>
    intro k hk
    have ih := ih (k + 1) (by omega)
    have pk := pop_le k (by omega)
    refine w_R_fewestOf_4 _ _ _ ⟨fun z => absurd ((hlim k (by omega)).mp z) (by omega), fun _ => ?_⟩
    rw [nI_1]
    have tst : ∀ (o : Option Nat), (p k = false → bst p (k + 1) = o) → (p k = true → bst p (k + 1) = some k) → ((wk = false → RB c (d + 3) m_R_areOpen [.ref 2, .int (nI k)] s (fun v2 s1 => ((v2 = false → eR c (d + 4) m_R_fewestOf 4 [some (.ref 2), some (.int (bI wk)), some (.int (oI o)), some (.int (nI (k + 1)))] s1 (pI c Q)) ∧ (v2 = true → eR c (d + 4) m_R_fewestOf 4 [some (.ref 2), some (.int (bI wk)), some (.int (nI k)), some (.int (nI (k + 1)))] s1 (pI c Q))))) ∧ (wk = true → RB c (d + 3) m_R_mayWalk [.ref 2, .int (nI k)] s (fun v4 s3 => ((v4 = false → eR c (d + 4) m_R_fewestOf 4 [some (.ref 2), some (.int (bI wk)), some (.int (oI o)), some (.int (nI (k + 1)))] s3 (pI c Q)) ∧ (v4 = true → eR c (d + 4) m_R_fewestOf 4 [some (.ref 2), some (.int (bI wk)), some (.int (nI k)), some (.int (nI (k + 1)))] s3 (pI c Q)))))) := by
      intro o t1 t2
      refine ⟨fun w => s_areOpen h (by omega) ⟨fun z => ?_, fun z => ?_⟩, fun w => s_mayWalk h (by omega) ⟨fun z => ?_, fun z => ?_⟩⟩
      · rw [w] at hp
        have e : p k = false := by rw [← hp]; exact z
        rw [t1 e] at ih; exact ih
      · rw [w] at hp
        have e : p k = true := by rw [← hp]; exact z
        rw [t2 e] at ih; exact ih
      · rw [w] at hp
        have e : p k = false := by rw [← hp]; exact z
        rw [t1 e] at ih; exact ih
      · rw [w] at hp
        have e : p k = true := by rw [← hp]; exact z
        rw [t2 e] at ih; exact ih
    cases e : bst p k with
    | none =>
      refine ⟨fun _ => tst none (fun q => by rw [bst, e]; exact if_neg (by rw [q]; decide)) (fun q => by rw [bst, e]; exact if_pos q), fun z => absurd rfl z⟩
    | some b' =>
      have bb := bst_lt _ e
      have pb := pop_le b' (by omega)
      refine ⟨fun z => ?_, fun _ => s_size (by omega) (s_size (n := b') (by omega) ?_)⟩
      · have := (oI_none (o := some b') (fun j hj => by have := Option.some.inj hj; omega)).mp z
        cases this
      · rw [nI_leI (by omega) (by omega)]
        refine ⟨fun z => ?_, fun z => tst (some b') (fun q => by rw [bst, e]; exact if_neg (fun y => by rw [q] at y; cases y.2)) (fun q => by rw [bst, e]; exact if_pos ⟨by omega, q⟩)⟩
        have e2 : bst p (k + 1) = some b' := by rw [bst, e]; exact if_neg (fun y => by omega)
        rw [e2] at ih
        exact ih
theorem r_setq {Q : Int32 → RS → Prop} {b : Nat} (hb : b < 1024) {wt : Int32} (hw : wt = 0 ∨ wt = 1) (hq : Q (if wt = 0 then nI (pop b) else nI b) s) : ((¬ wt = 1 → RI c d m_R_size [.int (nI b)] s (fun v4 s3 => Q v4 s3)) ∧ (wt = 1 → Q (nI b) s)) := by
  refine ⟨fun z => s_size hb ?_, fun z => ?_⟩
  · have : wt = 0 := hw.elim id (fun q => absurd q z)
    rwa [if_pos this] at hq
  · rwa [if_neg (by rw [z]; decide)] at hq
theorem r_persuaded {Q : Int32 → RS → Prop} (h : KR s v a) {wt : Int32} (ok : (wt = 0 ∨ wt = 1) → ∀ s', SQ s s' 0 → Q (if wt = 0 then nI (pop (prsS v a)) else nI (prsS v a)) s') (bad : ¬ (wt = 0 ∨ wt = 1) → ∀ s', SQ s s' 1 → Q 0 s') : RI c (d + 5) m_R_persuaded [.ref 2, .int wt] s Q := by
  have w01 : (wt = 0 ∨ wt = 1) ↔ ((0 : Int64).toInt ≤ wt.toInt ∧ wt.toInt ≤ (1 : Int64).toInt) := by
    rw [fa_eq, fa_eq, show ((0 : Int32).toInt : Int) = 0 from rfl, show ((1 : Int32).toInt : Int) = 1 from rfl, show ((0 : Int64).toInt : Int) = 0 from rfl, show ((1 : Int64).toInt : Int) = 1 from rfl]; omega
  refine w_R_persuaded _ ?_
  rw [wth_c.1, wth_c.2, ← w01]
  exact ⟨fun q => s_fewestOf (d := d) ((SQ.th s 0).kr h) true (b := prsS v a) (prs_some h.so) (r_setq (prs_lt h.so) q (ok q _ (SQ.th s 0))), fun q => bad q _ (SQ.th2 s 0 1)⟩
theorem r_peace {Q : Int32 → RS → Prop} (h : KR s v a) {wt : Int32} (ok : (wt = 0 ∨ wt = 1) → ∀ s', SQ s s' 0 → Q (if wt = 0 then nI (pop (pcS a (vG v))) else nI (pcS a (vG v))) s') (bad : ¬ (wt = 0 ∨ wt = 1) → ∀ s', SQ s s' 1 → Q 0 s') : RI c (d + 5) m_R_peace [.ref 2, .int wt] s Q := by
  have w01 : (wt = 0 ∨ wt = 1) ↔ ((0 : Int64).toInt ≤ wt.toInt ∧ wt.toInt ≤ (1 : Int64).toInt) := by
    rw [fa_eq, fa_eq, show ((0 : Int32).toInt : Int) = 0 from rfl, show ((1 : Int32).toInt : Int) = 1 from rfl, show ((0 : Int64).toInt : Int) = 0 from rfl, show ((1 : Int64).toInt : Int) = 1 from rfl]; omega
  refine w_R_peace _ ?_
  rw [wth_c.1, wth_c.2, ← w01]
  exact ⟨fun q => s_fewestOf (d := d) ((SQ.th s 0).kr h) false (b := pcS a (vG v)) (pc_bst h.so) (r_setq (bits_lt _ _ h.so.1) q (ok q _ (SQ.th s 0))), fun q => bad q _ (SQ.th2 s 0 1)⟩
end PR1
