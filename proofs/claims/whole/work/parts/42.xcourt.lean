/-! the class's court -/
/-- the least of a set -/
def lbo (n : Nat) : Option Nat := if n = 0 then none else some (lob n)
theorem lob_is {n k : Nat} (hn : n < 1024) (hk : n.testBit k = true) (h : ∀ j, j < k → n.testBit j = false) : lob n = k := by
  have h0 : n ≠ 0 := fun q => by rw [q, Nat.zero_testBit] at hk; cases hk
  have h1 := (lob_lt n hn h0).2
  rcases Nat.lt_trichotomy (lob n) k with q | q | q
  · rw [h _ q] at h1; cases h1
  · exact q
  · rw [lob_no q] at hk; cases hk
theorem no_bits {n : Nat} (hn : n < 1024) (h : ∀ j, j < 10 → n.testBit j = false) : n = 0 := by
  refine Classical.byContradiction (fun q => ?_)
  obtain ⟨h1, h2⟩ := lob_lt n hn q
  rw [h _ h1] at h2
  cases h2
theorem bit_i {n k : Nat} (hk : k < 10) : (nI n &&& ((1 : Int32) <<< (nI k &&& 31))) = 0 ↔ n.testBit k = false := by
  rw [sh1 k hk]
  exact fa_bit (by omega)
def clrb (x g : Nat) : Nat := x &&& (1023 ^^^ 2 ^ g)
theorem clr_i : ∀ x, x < 1024 → ∀ g, g < 10 → nI x &&& (((1 : Int32) <<< (nI g &&& 31)) ^^^ (-1)) = nI (clrb x g) := by1024 (by decide +kernel)
theorem b1023 : ∀ i, i < 10 → (1023).testBit i = true := by decide
theorem clr_bit {x g i : Nat} (hi : i < 10) : (clrb x g).testBit i = (x.testBit i && decide (i ≠ g)) := by
  unfold clrb
  rw [Nat.testBit_and, Nat.testBit_xor, b1023 i hi, Nat.testBit_two_pow]
  congr 1
  by_cases q : g = i
  · rw [decide_eq_true q, decide_eq_false (by omega)]; rfl
  · rw [decide_eq_false q, decide_eq_true (by omega)]; rfl
theorem clr_lt {x g : Nat} (hx : x < 1024) : clrb x g < 1024 := Nat.lt_of_le_of_lt Nat.and_le_left hx
theorem or_lt {x g : Nat} (hx : x < 1024) (hg : g < 10) : x ||| 2 ^ g < 1024 := Nat.or_lt_two_pow (n := 10) hx (Nat.pow_lt_pow_right (by decide) hg)
theorem bits10 {x y : Nat} (hx : x < 1024) (hy : y < 1024) (h : ∀ i, i < 10 → x.testBit i = y.testBit i) : x = y := by
  refine Nat.eq_of_testBit_eq (fun i => ?_)
  rcases Nat.lt_or_ge i 10 with q | q
  · exact h i q
  · have e : ∀ z, z < 1024 → z.testBit i = false := fun z hz => Nat.testBit_lt_two_pow (Nat.lt_of_lt_of_le hz (show 2 ^ 10 ≤ 2 ^ i from Nat.pow_le_pow_right (by decide) q))
    rw [e x hx, e y hy]
def turnS (sd : SD) (g : Nat) (h : Option Nat) : SD := (fun x => if x = g then h else sd.1 x, sd.2)
theorem mkb_b {w : Nat → Option Nat} {j i : Nat} (hi : i < 10) : (mkb w j 10).testBit i = decide (w i = some j) := by
  rw [mkb_bit]
  by_cases q : w i = some j
  · rw [decide_eq_true ⟨hi, q⟩, decide_eq_true q]
  · rw [decide_eq_false (fun z => q z.2), decide_eq_false q]
theorem mkb_off {w : Nat → Option Nat} {g j : Nat} {h : Option Nat} (hj : w g = some j) (hh : h ≠ some j) : mkb (fun x => if x = g then h else w x) j 10 = clrb (mkb w j 10) g := by
  refine bits10 (mkb_t _ _) (clr_lt (mkb_t _ _)) (fun i hi => ?_)
  rw [mkb_b hi, clr_bit hi, mkb_b hi]
  by_cases q : i = g
  · simp [q, hh]
  · simp [q]
theorem mkb_on {w : Nat → Option Nat} {g j : Nat} (hg : g < 10) : mkb (fun x => if x = g then some j else w x) j 10 = mkb w j 10 ||| 2 ^ g := by
  refine bits10 (mkb_t _ _) (or_lt (mkb_t _ _) hg) (fun i hi => ?_)
  rw [mkb_b hi, Nat.testBit_or, mkb_b hi, Nat.testBit_two_pow]
  by_cases q : i = g
  · simp [q]
  · simp [q, Ne.symm q]
theorem mkb_sw {w : Nat → Option Nat} {g j : Nat} {h : Option Nat} (hj : w g ≠ some j) (hh : h ≠ some j) : mkb (fun x => if x = g then h else w x) j 10 = mkb w j 10 := by
  refine bits10 (mkb_t _ _) (mkb_t _ _) (fun i hi => ?_)
  rw [mkb_b hi, mkb_b hi]
  by_cases q : i = g
  · subst q; simp [hj, hh]
  · simp [q]
theorem mkb_offon {w : Nat → Option Nat} {g j : Nat} (hg : g < 10) : mkb (fun x => if x = g then some j else w x) j 10 = clrb (mkb w j 10) g ||| 2 ^ g := by
  refine bits10 (mkb_t _ _) (or_lt (clr_lt (mkb_t _ _)) hg) (fun i hi => ?_)
  rw [mkb_b hi, Nat.testBit_or, clr_bit hi, mkb_b hi, Nat.testBit_two_pow]
  by_cases q : i = g
  · simp [q]
  · simp [q, Ne.symm q]
theorem one_nI {k : Nat} (hk : k < 10) : one (nI k) = true := by
  have : ∀ k, k < 10 → one (nI k) = true := by decide
  exact this k hk
theorem one_oI {o : Option Nat} (h : ∀ k, o = some k → k < 10) : one (oI o) = o.isSome := by
  cases o with
  | none => decide
  | some k => exact one_nI (h k rfl)
section CT1
variable {c : CX} {d : Nat} {T : XS} {a ca : Nat} {v : CV} {sd : SD}
theorem x_leastOf {Q : Int32 → XS → Prop} {n : Nat} (hn : n < 1024) (hq : Q (oI (lbo n)) T) : XI c d m_X_leastOf [.int (nI n)] T Q := by
  refine wx_X_leastOf _ ?_
  suffices h : ∀ (m k : Nat), k + m = 10 → (∀ j, j < k → n.testBit j = false) → eX c d m_X_leastOf 2 [some (.int (nI n)), some (.int (nI k))] T (yI c Q) from h 10 0 (by omega) (fun j hj => by omega)
  intro m
  induction m with
  | zero =>
    intro k hk hb
    refine wx_X_leastOf_2 _ _ ⟨fun _ => ?_, fun z => absurd (nI_leI (a := 10) (by decide) (by omega) |>.mpr (by omega)) z⟩
    have e : n = 0 := no_bits hn (fun j hj => hb j (by omega))
    subst e
    exact hq
  | succ m ih =>
    intro k hk hb
    refine wx_X_leastOf_2 _ _ ⟨fun z => absurd ((nI_leI (a := 10) (by decide) (by omega)).mp z) (by omega), fun _ => ⟨fun z => ?_, fun z => ?_⟩⟩
    · rw [bit_i (by omega)] at z
      rw [nI_1]
      refine ih (k + 1) (by omega) (fun j hj => ?_)
      rcases Nat.lt_or_ge j k with q | q
      · exact hb j q
      · rw [show j = k by omega]; exact z
    · rw [bit_i (by omega)] at z
      have z : n.testBit k = true := by cases e : n.testBit k <;> simp_all
      have h0 : n ≠ 0 := fun q => by rw [q, Nat.zero_testBit] at z; cases z
      unfold lbo at hq
      rw [if_neg h0, lob_is hn z hb] at hq
      exact hq
/-- one turns to another -/
theorem x_turn {Q : XS → Prop} {g : Nat} {h : Option Nat} (hS : STD T a ca sd) (hg : g < 10) (hw : ∀ x k, sd.1 x = some k → k < 10) (hh : ∀ k, h = some k → k < 10)
    (hq : ∀ T', frm (fun b => b = sW a ∨ b = sM a) T T' → STD T' a ca (turnS sd g h) → Q T') : XV c (d + 1) m_Sd_turn [.ref a, .int (nI g), .int (oI h)] T Q := by
  obtain ⟨s1, s2, s3, s4, s5, s6, s7⟩ := hS
  have fin : ∀ T', frm (fun b => b = sW a ∨ b = sM a) T T' → xI T' a 4 = xI T a 4 → frx T' a 0 = frx T a 0 → xA T' (sR a) = xA T (sR a) → xA T' (sW a) = upd (xA T (sW a)) g (oI h) → (∀ j, j < 10 → xA T' (sM a) j = nI (mkb (turnS sd g h).1 j 10)) → Q T' := by
    intro T' hf hI hR hA hW hM
    refine hq T' hf ⟨hf.sds s1, s2, by rw [hR]; exact s3, fun x hx => ?_, hM, fun x hx => by rw [hA]; exact s6 x hx, by rw [hI]; exact s7⟩
    rw [hW]
    unfold upd turnS
    simp only
    split
    · rfl
    · exact s4 x hx
  have eg : ix (nI g) = g := ix_nI (by omega)
  have ew : xA T (sW a) g = oI (sd.1 g) := s4 g hg
  have ok : ∀ {k : Nat}, k < 10 → okx (nI k) 10 := fun hk => okx_nI' hk (by decide)
  have n1 := sWM a
  have n2 := sWR a
  have n3 := sMR a
  refine wx_Sd_turn _ _ _ ⟨s1, ok hg, ?_⟩
  rw [eg, ew, one_oI (hw g), one_oI hh]
  refine ⟨fun z => ⟨ok hg, fun z2 => ?_, fun z2 => ?_⟩, fun z => ?_⟩
  · have e1 : sd.1 g = none := by cases e : sd.1 g <;> simp_all
    have e2 : h = none := by cases e : h <;> simp_all
    refine fin _ (frm_A (Or.inl rfl) _ _) rfl rfl (if_neg (Ne.symm n2)) (if_pos rfl) (fun j hj => ?_)
    rw [xA_A, if_neg (Ne.symm n1), s5 j hj]
    unfold turnS
    rw [mkb_sw (by rw [e1]; simp) (by rw [e2]; simp)]
  · have e1 : sd.1 g = none := by cases e : sd.1 g <;> simp_all
    obtain ⟨k, rfl⟩ : ∃ k, h = some k := by cases e : h <;> simp_all
    have hk := hh k rfl
    have ek : ix (oI (some k)) = k := ix_nI (by omega)
    refine ⟨ok hk, ok hk, ?_⟩
    rw [ek]
    refine fin _ ((frm_A (Or.inl rfl) _ _).tr (frm_A (Or.inr rfl) _ _)) rfl rfl ?_ ?_ (fun j hj => ?_)
    · rw [xA_A, if_neg (Ne.symm n3), xA_A, if_neg (Ne.symm n2)]
    · rw [xA_A, if_neg n1, xA_A, if_pos rfl]
    · rw [xA_A, if_pos rfl, xA_A, if_neg (Ne.symm n1)]
      unfold upd
      split
      · rename_i q
        subst q
        rw [s5 j hj, sh1 g hg, fa_or]
        unfold turnS
        rw [mkb_on hg]
      · rename_i q
        rw [s5 j hj]
        unfold turnS
        rw [mkb_sw (by rw [e1]; simp) (by simp; omega)]
  · obtain ⟨u, hu⟩ : ∃ k, sd.1 g = some k := by cases e : sd.1 g <;> simp_all
    have hk := hw g u hu
    have eu : ix (oI (some u)) = u := ix_nI (by omega)
    rw [hu, eu]
    refine ⟨ok hk, ok hk, ok hg, fun z2 => ?_, fun z2 => ?_⟩
    · have e2 : h = none := by cases e : h <;> simp_all
      refine fin _ ((frm_A (Or.inr rfl) _ _).tr (frm_A (Or.inl rfl) _ _)) rfl rfl ?_ ?_ (fun j hj => ?_)
      · rw [xA_A, if_neg (Ne.symm n2), xA_A, if_neg (Ne.symm n3)]
      · rw [xA_A, if_pos rfl, xA_A, if_neg n1]
      · rw [xA_A, if_neg (Ne.symm n1), xA_A, if_pos rfl]
        unfold upd
        split
        · rename_i q
          subst q
          rw [s5 j hj, clr_i _ (mkb_t _ _) g hg]
          unfold turnS
          rw [mkb_off hu (by rw [e2]; simp)]
        · rename_i q
          rw [s5 j hj]
          unfold turnS
          rw [mkb_sw (by rw [hu]; simp; omega) (by rw [e2]; simp)]
    · obtain ⟨k, rfl⟩ : ∃ k, h = some k := by cases e : h <;> simp_all
      have hk2 := hh k rfl
      have ek : ix (oI (some k)) = k := ix_nI (by omega)
      refine ⟨ok hk2, ok hk2, ?_⟩
      rw [ek]
      refine fin _ (((frm_A (Or.inr rfl) _ _).tr (frm_A (Or.inl rfl) _ _)).tr (frm_A (Or.inr rfl) _ _)) rfl rfl ?_ ?_ (fun j hj => ?_)
      · rw [xA_A, if_neg (Ne.symm n3), xA_A, if_neg (Ne.symm n2), xA_A, if_neg (Ne.symm n3)]
      · rw [xA_A, if_neg n1, xA_A, if_pos rfl, xA_A, if_neg n1]
      · rw [xA_A, if_pos rfl, xA_A, if_neg (Ne.symm n1), xA_A, if_pos rfl]
        unfold upd
        by_cases q1 : j = k
        · subst q1
          rw [if_pos rfl]
          by_cases q2 : j = u
          · subst q2
            rw [if_pos rfl, s5 j hj, clr_i _ (mkb_t _ _) g hg, sh1 g hg, fa_or]
            unfold turnS
            rw [mkb_offon hg]
          · rw [if_neg q2, s5 j hj, sh1 g hg, fa_or]
            unfold turnS
            rw [mkb_on hg]
        · rw [if_neg q1]
          by_cases q2 : j = u
          · subst q2
            rw [if_pos rfl, s5 j hj, clr_i _ (mkb_t _ _) g hg]
            unfold turnS
            rw [mkb_off hu (by simp; omega)]
          · rw [if_neg q2, s5 j hj]
            unfold turnS
            rw [mkb_sw (by rw [hu]; simp; omega) (by simp; omega)]
end CT1
