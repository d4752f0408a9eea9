/-! a fair: what is now, what was -/
def rotQ (q : Nat → Option Nat) (j : Nat) : Option Nat := if j < 9 then q (j + 1) else q 0
section FE1
variable {c : CX} {d : Nat} {T T' : XS} {a b f ca : Nat} {v : CV} {sd : SD}
theorem frm.frs0 {S : Nat → Prop} (h : frm S T T') (n : frx T' f 0 = frx T f 0) (q : FrS T f) : FrS T' f := ⟨h.o q.1, by rw [n]; exact q.fn, by rw [h.fx (Or.inl (by decide))]; exact q.fp, h.r q.ap⟩
set_option maxRecDepth 8000 in
theorem fe_loop {Q : XS → Prop} (hF : FrS T f) {w : Value} {e0 : Option Nat} (hw : w = va_rf e0) (he : e0 = xQ T (fP f) 0) (ho : ∀ j b, j < 10 → xQ T (fP f) j = some b → ob T b 9) (hq : ∀ T', frm (fun b => b = fP f ∨ b = f) T T' → FrS T' f → (∀ j, j < 10 → xQ T' (fP f) j = rotQ (xQ T (fP f)) j) → xI T' f 2 = 9 → Q T') : ∀ (m i : Nat) (T1 : XS), i + m = 10 → 1 ≤ i → frm (fun b => b = fP f) T T1 → frx T1 f 0 = frx T f 0 → (∀ j, j < 10 → xQ T1 (fP f) j = if j < i - 1 then xQ T (fP f) (j + 1) else xQ T (fP f) j) → eX c d m_Fr_forgetEldest 9 [some (.ref f), some w, some (.int (nI i))] T1 (yV c Q) := by
  have hne : f ≠ fP f := fun e => by have h1 := hF.1.2; have h2 := hF.ap.2; rw [← e] at h2; rw [h2] at h1; cases h1
  have hw' : w = .null ∨ ∃ b, w = .ref b := by
    cases e0 with
    | none => exact Or.inl hw
    | some b => exact Or.inr ⟨b, hw⟩
  intro m
  induction m with
  | zero =>
    intro i T1 hi h1 hf hx hQ
    have hF1 := hf.frs0 hx hF
    have ei : i = 10 := by omega
    subst ei
    refine ev_ex 2 (c' := (12, [some (.ref f), some w, some (.int (nI 10))], [.int 10, .int (nI 10)], hX c T1)) rfl ?_
    refine ev_icmp_ge (tgt := 35) rfl rfl (fun _ => ?_) (fun z => absurd (by decide) z)
    refine ev_ex 1 (c' := (36, [some (.ref f), some w, some (.int (nI 10))], [.ref f], hX c T1)) rfl ?_
    refine xe_gfr (ci := 4) (k := 1) rfl rfl hF1.1 ⟨by decide, by decide⟩ rfl hF1.fp ?_
    have o1 : ∀ b, e0 = some b → ob T1 b 9 := fun b hb => hf.o (ho 0 b (by decide) (by rw [← he]; exact hb))
    have fin : ∀ x, xQ T1 (fP f) = x → eX c d m_Fr_forgetEldest 43 [some (.ref f), some w, some (.int (nI 10))] (tQ T1 (fP f) 9 e0) (yV c Q) := fun x hx9 => by
      have hf2 : frm (fun b => b = fP f) T1 (tQ T1 (fP f) 9 e0) := frm_Q (S := fun x => x = fP f) (a := fP f) rfl _ _
      have hF2 : FrS (tQ T1 (fP f) 9 e0) f := hf2.frs0 rfl hF1
      refine ev_ex 2 (c' := (46, [some (.ref f), some w, some (.int (nI 10))], [.int 9, .ref f], hX c (tQ T1 (fP f) 9 e0))) rfl ?_
      refine xe_pi (ci := 4) (k := 2) rfl rfl hF2.1 ⟨by decide, by decide⟩ (Nat.le_of_ble_eq_true rfl) rfl (fi_4_2 _ _ _) ?_
      have hf3 : frm (fun b => b = fP f ∨ b = f) (tQ T1 (fP f) 9 e0) (tI (tQ T1 (fP f) 9 e0) f 2 9) := frm_I (Or.inr rfl) _ _
      refine ev_ret rfl rfl rfl ⟨_, rfl, rfl, hq _ (((hf.tr hf2).mono (fun b hb => Or.inl hb)).tr hf3) (hf3.frs0 rfl hF2) (fun j hj => ?_) (xI_at _ _ _ _)⟩
      show xQ (tQ T1 (fP f) 9 e0) (fP f) j = _
      rw [xQ_tQ, if_pos rfl, hQ j hj]
      unfold rotQ
      by_cases y : j < 9
      · rw [if_neg (by omega), if_pos (by omega), if_pos y]
      · rw [if_pos (by omega), if_neg y, he]
    rcases hw' with q | ⟨b, q⟩
    · have e0n : e0 = none := by
        cases e0 with
        | none => rfl
        | some b => rw [hw] at q; cases q
      have fin := fin _ rfl
      rw [q] at fin ⊢
      refine ev_ex 2 (c' := (42, [some (.ref f), some .null, some (.int (nI 10))], [.null, .int 9, .ref (fP f)], hX c T1)) rfl ?_
      refine xe_qo (kd := 23) (e := none) rfl hF1.ap (by decide) rfl (fun b hb => by cases hb) ?_
      rw [e0n] at fin
      exact fin
    · have e0b : e0 = some b := by
        cases e0 with
        | none => rw [hw] at q; cases q
        | some b' => rw [hw] at q; cases q; rfl
      have fin := fin _ rfl
      rw [q] at fin ⊢
      refine ev_ex 2 (c' := (42, [some (.ref f), some (.ref b), some (.int (nI 10))], [.ref b, .int 9, .ref (fP f)], hX c T1)) rfl ?_
      refine xe_qo (kd := 23) (e := some b) rfl hF1.ap (by decide) rfl (fun x hx => o1 x (by rw [e0b]; exact hx)) ?_
      rw [e0b] at fin
      exact fin
  | succ m ih =>
    intro i T1 hi h1 hf hx hQ
    have hF1 := hf.frs0 hx hF
    refine ev_ex 2 (c' := (12, [some (.ref f), some w, some (.int (nI i))], [.int 10, .int (nI i)], hX c T1)) rfl ?_
    refine ev_icmp_ge (tgt := 35) rfl rfl (fun z => absurd ((nI_leI (a := 10) (by decide) (by omega)).mp z) (by omega)) (fun _ => ?_)
    refine ev_ex 1 (c' := (16, [some (.ref f), some w, some (.int (nI i))], [.ref f], hX c T1)) rfl ?_
    refine xe_gfr (ci := 4) (k := 1) rfl rfl hF1.1 ⟨by decide, by decide⟩ rfl hF1.fp ?_
    refine ev_ex 4 (c' := (23, [some (.ref f), some w, some (.int (nI i))], [.ref f, .int (nI i - 1), .ref (fP f)], hX c T1)) rfl ?_
    refine xe_gfr (ci := 4) (k := 1) rfl rfl hF1.1 ⟨by decide, by decide⟩ rfl hF1.fp ?_
    refine ev_ex 1 (c' := (27, [some (.ref f), some w, some (.int (nI i))], [.int (nI i), .ref (fP f), .int (nI i - 1), .ref (fP f)], hX c T1)) rfl ?_
    refine xe_ql rfl hF1.ap (by decide) (okn (by omega) (by decide)) ?_
    rw [ix_nI (by omega), show nI i - 1 = nI (i - 1) from nI_sub (b := 1) h1]
    refine xe_qo (kd := 23) (e := xQ T1 (fP f) i) rfl hF1.ap (by decide) (okn (by omega) (by decide)) (fun b hb => ?_) ?_
    · rw [hQ i (by omega), if_neg (by omega)] at hb
      exact hf.o (ho i b (by omega) hb)
    rw [ix_nI (by omega)]
    have hf2 : frm (fun b => b = fP f) T1 (tQ T1 (fP f) (i - 1) (xQ T1 (fP f) i)) := frm_Q (S := fun x => x = fP f) (a := fP f) rfl _ _
    have nxt := ih (i + 1) (tQ T1 (fP f) (i - 1) (xQ T1 (fP f) i)) (by omega) (by omega) (hf.tr hf2) hx (fun j hj => ?_)
    · rcases hw' with q | ⟨b, q⟩
      · rw [q] at nxt ⊢
        refine ev_ex 2 (c' := (9, [some (.ref f), some .null, some (.int (nI i + 1))], [], hX c (tQ T1 (fP f) (i - 1) (xQ T1 (fP f) i)))) rfl ?_
        rw [nI_1]
        exact nxt
      · rw [q] at nxt ⊢
        refine ev_ex 2 (c' := (9, [some (.ref f), some (.ref b), some (.int (nI i + 1))], [], hX c (tQ T1 (fP f) (i - 1) (xQ T1 (fP f) i)))) rfl ?_
        rw [nI_1]
        exact nxt
    · rw [xQ_tQ, if_pos rfl, hQ j hj]
      by_cases y : j = i - 1
      · rw [if_pos y, if_pos (by omega), hQ i (by omega), if_neg (by omega), y, show i - 1 + 1 = i by omega]
      · rw [if_neg y]
        by_cases y2 : j < i - 1
        · rw [if_pos y2, if_pos (by omega)]
        · rw [if_neg y2, if_neg (by omega)]
set_option maxRecDepth 8000 in
theorem x_forgetEldest {Q : XS → Prop} (hF : FrS T f) (ho : ∀ j b, j < 10 → xQ T (fP f) j = some b → ob T b 9) (hq : ∀ T', frm (fun b => b = fP f ∨ b = f) T T' → FrS T' f → (∀ j, j < 10 → xQ T' (fP f) j = rotQ (xQ T (fP f)) j) → xI T' f 2 = 9 → Q T') : XV c d m_Fr_forgetEldest [.ref f] T Q := by
  refine ⟨q_Fr_forgetEldest, rfl, Nat.le_of_ble_eq_true rfl, ?_⟩
  refine ev_ex 1 (c' := (1, [some (.ref f), none, none], [.ref f], hX c T)) rfl ?_
  refine xe_gfr (ci := 4) (k := 1) rfl rfl hF.1 ⟨by decide, by decide⟩ rfl hF.fp ?_
  refine ev_ex 1 (c' := (5, [some (.ref f), none, none], [.int 0, .ref (fP f)], hX c T)) rfl ?_
  refine xe_ql rfl hF.ap (by decide) rfl ?_
  have lp := fe_loop (c := c) (d := d) (Q := Q) (w := va_rf (xQ T (fP f) 0)) hF rfl rfl ho hq 9 1 T (by omega) (by omega) frm.rf rfl (fun j hj => by rw [if_neg (by omega)])
  rw [show ix 0 = 0 from rfl]
  cases e : xQ T (fP f) 0 with
  | none =>
    rw [e] at lp
    refine ev_ex 3 (c' := (9, [some (.ref f), some .null, some (.int 1)], [], hX c T)) rfl ?_
    exact lp
  | some b =>
    rw [e] at lp
    refine ev_ex 3 (c' := (9, [some (.ref f), some (.ref b), some (.int 1)], [], hX c T)) rfl ?_
    exact lp
end FE1
