/-! a told deed of the reference -/
theorem i_div : ∀ n, n < 1024 → nI n / 100 = nI (n / 100) ∧ nI n - nI n / 100 * 100 = nI (n % 100) := by1024 (by decide +kernel)
section DO1
variable {c : CX} {d : Nat} {s s' : RS} {v : CV} {a : SD}
theorem SR.turn (s : RS) {g : Nat} (x : Int32) (hg : g < 21) : SR s (rA s 1 (6 + g) x) := by
  rw [rA_W]
  refine SR.w1 s _ (fun y hy => ?_)
  unfold upd
  exact if_neg (by omega)
theorem s_does {Q : RS → Prop} (h : KR s v a) {x : Int32} {z : Int} (hx : x.toInt = z) (hz : whyT v a z = 0) (hq : ∀ s', SR s s' → s'.2.1 8 = s.2.1 8 → s'.2.2 = s.2.2 → KR s' v (doS v a z) → Q s') : RV c (d + 6) m_R_does [.ref 2, .int x] s Q := by
  have hG := h.2.2.1.1
  have hok := doS_sok hG h.2.2.2 hz
  have em : ((-1 : Int32).toInt : Int) = -1 := rfl
  refine w_R_does _ ⟨fun q => ?_, fun q => ?_⟩
  · rw [fa_eq, em, hx] at q
    have hd : doS v a z = turnS a (z / 100).toNat (if z % 100 = 99 then none else some (z % 100).toNat) := by unfold doS; rw [if_neg q]
    rcases whyT_0 hz with q1 | ⟨q2, q3, q4⟩
    · exact absurd q1 q
    · have ex : x = nI z.toNat := by rw [← hx]; exact nI_of_toInt (by omega)
      have hn : z.toNat < 1024 := by omega
      have i1 : z / 100 = ((z.toNat / 100 : Nat) : Int) := by omega
      have i2 : z % 100 = ((z.toNat % 100 : Nat) : Int) := by omega
      have hi : z.toNat / 100 < 10 := by omega
      rw [i1, i2] at hd
      generalize z.toNat = n at *
      have e6 : ix (6 + nI (n / 100)) = 6 + n / 100 := ixA 6 (by omega)
      have fin : ∀ o : Option Nat, doS v a z = turnS a (n / 100) o → Q (rA s 1 (6 + n / 100) (oI o)) := fun o ho => by
        refine hq _ (SR.turn s _ (by omega)) rfl rfl (h.sr (SR.turn s _ (by omega)) ?_ hok)
        rw [ho, rA_W, rW_at]
        exact h.2.1.turn hi o
      rw [ex, (i_div n hn).2, (i_div n hn).1, e6]
      refine ⟨fun q5 => ⟨okm hi, ?_⟩, fun q5 => ⟨okm hi, ?_⟩⟩
      · have q5 : n % 100 ≠ 99 := fun y => q5 (by rw [y]; rfl)
        refine fin (some (n % 100)) ?_
        rw [hd, if_neg (by omega)]
        rfl
      · have q5 : n % 100 = 99 := (nI_inj (b := 99) (by omega) (by decide)).mp q5
        refine fin none ?_
        rw [hd, if_pos (by omega)]
        rfl
  · rw [fa_eq, em, hx] at q
    have hd : doS v a z = nightS v a := by unfold doS; rw [if_pos q]
    exact s_night8 (d := d) h (fun s' h1 h2 h3 h4 => hq s' h1 h2 h3 (by rw [hd]; exact h4))
end DO1
