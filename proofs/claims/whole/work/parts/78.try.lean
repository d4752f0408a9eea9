/-! a deed tried, of the class -/
section TR1
variable {c : CX} {d : Nat} {T : XS} {ca : Nat} {v : CV} {sd : SD} {p : List SD}
theorem x_tryDeed {Q : Bool → XS → Prop} (hR : RL c) (h : FAIR T 49 ca v sd p) {z : Int64} (ok : whyT v sd z.toInt = 0 → ∀ T', DD T T' ca v (doS v sd z.toInt) (push10 p sd) → Q true T') (bad : whyT v sd z.toInt ≠ 0 → ∀ T', frm scr T T' → Q false T') : XB c (d + 6) m_X_tryDeed [.ref 1, .long z] T Q := by
  have h93 : CS T 93 ca v sd := h.2.1
  have hle : whyT v sd z.toInt ≤ 2 := by
    unfold whyT whyN
    split
    · omega
    · split
      · omega
      · split
        · omega
        · split
          · split <;> omega
          · omega
  have e0 : nI (whyT v sd z.toInt) = (0 : Int32) ↔ whyT v sd z.toInt = 0 := nI_inj (b := 0) (by omega) (by decide)
  refine wx_X_tryDeed _ (x_whyNotTold (d := d) h93 (fun T0 hf0 => ?_))
  have hf0 := hf0.mono (S' := scr) (fun b hb => ctr_scr (ct1_ctr hb))
  rw [e0]
  refine ⟨fun q => ?_, fun q => ?_⟩
  all_goals first
    | exact bad q T0 hf0
    | exact x_remember (d := d + 2) hR (h.scr hf0) (fun T1 g1 f1 w1 => x_enact (d := d) f1.2.1 (Or.inl rfl) q (fun T2 hf2 h2 => ok q T2 (DD_of hf0 g1 f1 w1 (hf2.mono (fun b hb => frN_nw hb)) h2.1 h2.2.2.2)))
end TR1
