/-! why a told deed can't be, of the reference -/
theorem l_div64 : ∀ n, n < 1024 → lN n / 100 = lN (n / 100) ∧ lN n - lN n / 100 * 100 = lN (n % 100) := by1024 (by decide +kernel)
theorem div_100 {x : Int64} (h : 0 ≤ x.toInt) : (x / 100).toInt = x.toInt / 100 := by
  have h1 := Int64.toInt_lt x
  rw [Int64.toInt_div, show ((100 : Int64).toInt : Int) = 100 from rfl, Int.tdiv_eq_ediv_of_nonneg h]
  refine Int.bmod_eq_of_le ?_ ?_
  · omega
  · omega
section TO1
variable {c : CX} {d : Nat} {s s' : RS} {v : CV} {a : SD}
theorem s_whyTold {Q : Int32 → RS → Prop} (h : KR s v a) {x : Int64} (hq : ∀ s', (s' = s ∨ ∃ f, s' = rW s 6 f) → Q (nI (whyT v a x.toInt)) s') : RI c (d + 7) m_R_whyTold [.ref 2, .long x] s Q := by
  have hG := h.2.2.1.1
  have e0 : ((0 : Int64).toInt : Int) = 0 := rfl
  have e1 := m1_64
  have bad : x.toInt ≠ -1 → (x.toInt < 0 ∨ 100 * (vG v : Int) ≤ x.toInt) → Q 1 s := fun q1 q2 => by
    have := hq s (Or.inl rfl)
    unfold whyT at this
    rwa [if_neg q1, if_pos q2] at this
  refine w_R_whyTold _ ⟨fun q1 => ?_, fun q1 => ?_⟩
  · rw [fa_eq64, e1] at q1
    refine ⟨fun q2 => bad q1 (Or.inl (by rw [fa_lt64, e0] at q2; exact q2)), fun q2 => ?_⟩
    rw [fa_lt64, e0] at q2
    have hx : 0 ≤ x.toInt := by omega
    rw [h.1.2.1, wth_t, wth_f, g1_int _ (by omega), e0, div_100 hx]
    refine ⟨fun q3 => ?_, fun q3 => bad q1 (Or.inr (by omega))⟩
    have ez : x = lN x.toInt.toNat := lN_of (by omega) (by omega)
    have hn : x.toInt.toNat < 1024 := by omega
    have hq' : ∀ s', (s' = s ∨ ∃ f, s' = rW s 6 f) → Q (nI (if x.toInt.toNat % 100 = 99 then 0 else whyN v a ((x.toInt.toNat / 100 : Nat) : Int) ((x.toInt.toNat % 100 : Nat) : Int))) s' := fun s' hs' => by
      have := hq s' hs'
      unfold whyT at this
      rw [if_neg q1, if_neg (by omega)] at this
      by_cases q : x.toInt.toNat % 100 = 99
      · rw [if_pos q]
        rwa [if_pos (by omega)] at this
      · rw [if_neg q]
        rw [if_neg (by omega)] at this
        rwa [show ((x.toInt.toNat / 100 : Nat) : Int) = x.toInt / 100 by omega, show ((x.toInt.toNat % 100 : Nat) : Int) = x.toInt % 100 by omega]
    generalize x.toInt.toNat = n at *
    rw [ez, (l_div64 n hn).2, (l_div64 n hn).1]
    refine ⟨fun q4 => s_whyNot (d := d + 1) h (fun s' hs' => ?_), fun q4 => ?_⟩
    · have := hq' s' hs'
      rw [if_neg (fun q => q4 (by rw [q]; rfl))] at this
      rwa [lN_toInt (by omega), lN_toInt (by omega)]
    · have := hq' s (Or.inl rfl)
      rw [if_pos ((lN_inj (b := 99) (by omega) (by decide)).mp q4)] at this
      exact this
  · have := hq s (Or.inl rfl)
    unfold whyT at this
    rw [fa_eq64, e1] at q1
    rwa [if_pos q1] at this
end TO1
