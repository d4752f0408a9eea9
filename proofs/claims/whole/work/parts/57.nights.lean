/-! copies of standings; nights ahead -/
section CP1
variable {c : CX} {d : Nat} {T T' : XS} {a a0 ca : Nat} {v : CV} {sd : SD}
/-- a standing's cells -/
abbrev sdC (a b : Nat) : Prop := b = a ∨ b = sW a ∨ b = sM a ∨ b = sR a
theorem sW_v (ha : oks a) : (a = 93 ∧ sW a = 97 ∧ sM a = 101 ∧ sR a = 105) ∨ (a = 173 ∧ sW a = 213 ∧ sM a = 217 ∧ sR a = 221) ∨ (a % 4 = 3 ∧ sW a = a + 4 ∧ sM a = a + 8 ∧ sR a = a + 12) := by
  rcases ha with rfl | rfl | z
  · exact Or.inl ⟨rfl, rfl, rfl, rfl⟩
  · exact Or.inr (Or.inl ⟨rfl, rfl, rfl, rfl⟩)
  · exact Or.inr (Or.inr ⟨z, sW_3 z⟩)
theorem sh_ne {x y ci n : Nat} (h : (shx T x).1 = ci) (q : shx T y = (20, n)) (hc : ci ≠ 20) : x ≠ y := fun e => by
  rw [e, q] at h
  exact hc h.symm
/-- two standings share no cell -/
theorem sd_dis (h : SdS T a) (h0 : SdS T a0) (ha : oks a) (hb : oks a0) (hn : a0 ≠ a) : ∀ x, sdC a0 x → ¬ sdC a x := by
  have n1 := sh_ne h0.1.2 h.aw.2 (by decide)
  have n2 := sh_ne h0.1.2 h.am.2 (by decide)
  have n3 := sh_ne h0.1.2 h.ak.2 (by decide)
  have m1 := sh_ne h.1.2 h0.aw.2 (by decide)
  have m2 := sh_ne h.1.2 h0.am.2 (by decide)
  have m3 := sh_ne h.1.2 h0.ak.2 (by decide)
  intro x hx hy
  unfold sdC at hx hy
  rcases sW_v ha with ⟨e0, e1, e2, e3⟩ | ⟨e0, e1, e2, e3⟩ | ⟨e0, e1, e2, e3⟩ <;> rcases sW_v hb with ⟨f0, f1, f2, f3⟩ | ⟨f0, f1, f2, f3⟩ | ⟨f0, f1, f2, f3⟩ <;> omega
theorem cpy10 (f g : Nat → Int32) {k : Nat} (hk : k < 10) : va_cpy f g 0 0 10 k = f k := by
  unfold va_cpy
  rw [if_pos (by omega)]
  congr 1
  omega
theorem x_copyFrom {Q : XS → Prop} (h : STD T a0 ca sd) (hs : SdS T a) (ha : oks a) (hn : a0 ≠ a) (hq : ∀ T', frm (sdC a) T T' → STD T' a ca sd → Q T') : XV c d m_Sd_copyFrom [.ref a, .ref a0] T Q := by
  have hd := sd_dis hs h.1 ha h.2.1 hn
  obtain ⟨h1, h2, h3, h4, h5, h6, h7⟩ := h
  have d1 : ¬ sdC a (sW a0) := hd _ (Or.inr (Or.inl rfl))
  have d2 : ¬ sdC a (sM a0) := hd _ (Or.inr (Or.inr (Or.inl rfl)))
  have d3 : ¬ sdC a (sR a0) := hd _ (Or.inr (Or.inr (Or.inr rfl)))
  refine wx_Sd_copyFrom _ _ ⟨h1, ca, h3, hs, fun e => d1 (Or.inr (Or.inl e)), fun e => d2 (Or.inr (Or.inr (Or.inl e))), fun e => d3 (Or.inr (Or.inr (Or.inr e))), ?_⟩
  have f0 : frm (sdC a) T (tI (tR T a 0 (some ca)) a 4 (xI T a0 4)) := (frm_R (Or.inl rfl) _).tr (frm_I (Or.inl rfl) _ _)
  have e0 : frx (tI (tR T a 0 (some ca)) a 4 (xI T a0 4)) a 0 = some ca := frx_put0 hs.1
  have e4 : xI (tI (tR T a 0 (some ca)) a 4 (xI T a0 4)) a 4 = sd.2.2 := (if_pos ⟨rfl, rfl⟩).trans h7
  generalize tI (tR T a 0 (some ca)) a 4 (xI T a0 4) = T1 at *
  have f1 := f0.tr (frm_W (T := T1) (S := sdC a) (Or.inr (Or.inl rfl)) (va_cpy (xA T (sW a0)) (xA T (sW a)) 0 0 10))
  have a1 : ∀ g, g < 10 → xA (tW T1 (sW a) (va_cpy (xA T (sW a0)) (xA T (sW a)) 0 0 10)) (sW a) g = oI (sd.1 g) := fun g hg => by
    rw [xA_W, if_pos rfl, cpy10 _ _ hg]; exact h4 g hg
  have e0 : frx (tW T1 (sW a) (va_cpy (xA T (sW a0)) (xA T (sW a)) 0 0 10)) a 0 = some ca := e0
  have e4 : xI (tW T1 (sW a) (va_cpy (xA T (sW a0)) (xA T (sW a)) 0 0 10)) a 4 = sd.2.2 := e4
  clear f0
  generalize tW T1 (sW a) (va_cpy (xA T (sW a0)) (xA T (sW a)) 0 0 10) = T2 at *
  have f2 := f1.tr (frm_W (T := T2) (S := sdC a) (Or.inr (Or.inr (Or.inl rfl))) (va_cpy (xA T2 (sM a0)) (xA T2 (sM a)) 0 0 10))
  have a2 : ∀ g, g < 10 → xA (tW T2 (sM a) (va_cpy (xA T2 (sM a0)) (xA T2 (sM a)) 0 0 10)) (sM a) g = nI (mkb sd.1 g 10) := fun g hg => by
    rw [xA_W, if_pos rfl, cpy10 _ _ hg, f1.A d2]; exact h5 g hg
  have a1 : ∀ g, g < 10 → xA (tW T2 (sM a) (va_cpy (xA T2 (sM a0)) (xA T2 (sM a)) 0 0 10)) (sW a) g = oI (sd.1 g) := fun g hg => by
    rw [xA_W, if_neg (sWM a)]; exact a1 g hg
  have e0 : frx (tW T2 (sM a) (va_cpy (xA T2 (sM a0)) (xA T2 (sM a)) 0 0 10)) a 0 = some ca := e0
  have e4 : xI (tW T2 (sM a) (va_cpy (xA T2 (sM a0)) (xA T2 (sM a)) 0 0 10)) a 4 = sd.2.2 := e4
  clear f1
  generalize tW T2 (sM a) (va_cpy (xA T2 (sM a0)) (xA T2 (sM a)) 0 0 10) = T3 at *
  have f3 := f2.tr (frm_W (T := T3) (S := sdC a) (Or.inr (Or.inr (Or.inr rfl))) (va_cpy (xA T3 (sR a0)) (xA T3 (sR a)) 0 0 10))
  refine hq _ f3 ⟨f3.sds hs, ha, e0, fun g hg => ?_, fun g hg => ?_, fun g hg => ?_, e4⟩
  · rw [xA_W, if_neg (sWR a)]; exact a1 g hg
  · rw [xA_W, if_neg (sMR a)]; exact a2 g hg
  · rw [xA_W, if_pos rfl, cpy10 _ _ hg, f2.A d3]; exact h6 g hg
theorem sds_173 : SdS T 173 := ⟨ob_lit (i := 43) rfl (by decide) rfl, rfl, rfl, rfl, ar_lit (i := 53) rfl (by decide) rfl, ar_lit (i := 54) rfl (by decide) rfl, ar_lit (i := 55) rfl (by decide) rfl⟩
theorem sdC_scr {b : Nat} (h : sdC 173 b) : scr b := by
  rcases h with rfl | rfl | rfl | rfl <;> decide
/-- a copy to try on -/
theorem x_trial {Q : XS → Prop} (h : CS T 93 ca v sd) (hq : ∀ T', frm scr T T' → CS T' 173 ca v sd → Q T') : XV c d m_Sd_copyFrom [.ref 173, .ref 93] T Q :=
  x_copyFrom h.1 sds_173 (Or.inr (Or.inl rfl)) (by decide) (fun T' hf hs => by
    have hf := hf.mono (fun b hb => sdC_scr hb)
    exact hq T' hf ⟨hs, hf.CARs h.2.1, h.2.2⟩)
theorem frN_scr {b : Nat} (h : frN 173 b) : scr b := by
  rcases h with (rfl | rfl) | rfl | rfl | rfl <;> decide
end CP1
/-- nights -/
def nit (v : CV) : Nat → SD → SD
  | 0, sd => sd
  | n + 1, sd => nightS v (nit v n sd)
theorem evF_no {e e' : Nat → Int32} (he : ∀ k, k < 7 → e k = e' k) : ∀ (l : List Nat) (p : (Nat → Int32) × Nat), (∀ x ∈ l, 100 ≤ x → x < 1000 → x < 107) → evF e p l = evF e' p l
  | [], _, _ => rfl
  | x :: r, p, h => by
    have : evS e p x = evS e' p x := by
      unfold evS
      by_cases q : 100 ≤ x
      · rw [if_pos q, if_pos q]
        by_cases q2 : 1000 ≤ x
        · rw [if_pos q2, if_pos q2]
        · rw [if_neg q2, if_neg q2, he (x - 100) (by have := h x (List.mem_cons_self ..) q (by omega); omega)]
      · rw [if_neg q, if_neg q]
    rw [evF, evF, this]
    exact evF_no he r _ (fun y hy => h y (List.mem_cons_of_mem _ hy))
theorem tkL_x : ∀ (l : List Nat) (ty tz : List Bool), tkL ty l = some tz → ∀ x ∈ l, 100 ≤ x → x < 108 ∨ 1000 ≤ x
  | [], _, _, _, x, hx => by cases hx
  | y :: r, ty, tz, h, x, hx => by
    intro h100
    rw [tkL] at h
    split at h
    · rename_i ty' ht
      rcases List.mem_cons.mp hx with rfl | hx
      · rcases tkS_cases ht with ⟨_, _, q, _⟩ | ⟨q, _⟩ | ⟨q, _⟩
        · omega
        · omega
        · omega
      · exact tkL_x r ty' tz h x hx h100
    · cases h
theorem holdB_no {v : CV} (hv : COK v) (h7 : 107 ∉ vA v) {sd sd' : SD} (h1 : sd'.1 = sd.1) (h2 : sd'.2.1 = sd.2.1) (g b : Nat) : holdB v sd' (vA v) g b = holdB v sd (vA v) g b := by
  unfold holdB
  rw [evF_no (e' := wen v sd g b)]
  · intro k hk
    unfold wen
    rw [h1, h2]
    rcases (show k = 0 ∨ k = 1 ∨ k = 2 ∨ k = 3 ∨ k = 4 ∨ k = 5 ∨ k = 6 by omega) with rfl | rfl | rfl | rfl | rfl | rfl | rfl <;> simp
  · intro x hx q1 q2
    rcases hv.2.2.2.2.1 with q | q
    · rw [q] at hx; cases hx
    · have := tkL_x _ _ _ q.1 x hx q1
      have : x ≠ 107 := fun e => h7 (by rw [← e]; exact hx)
      omega
theorem thenW_no {v : CV} (hv : COK v) (h7 : 107 ∉ vA v) {sd sd' : SD} (h1 : sd'.1 = sd.1) (h2 : sd'.2.1 = sd.2.1) : thenW v sd' = thenW v sd := by
  funext g
  unfold thenW
  rw [h1, holdB_no hv h7 h1 h2]
theorem mov_f {v : CV} {sd : SD} (hv : COK v) (hs : SOK (vG v) sd) (h : mov v sd = false) : 107 ∉ vA v ∧ thenW v sd = sd.1 := by
  unfold mov movK at h
  rw [Bool.or_eq_false_iff] at h
  refine ⟨of_decide_eq_false h.1, ?_⟩
  funext g
  rcases Nat.lt_or_ge g (vG v) with q | q
  · have := List.any_eq_false.mp h.2 g (List.mem_range.mpr q)
    simpa using this
  · rw [thenW_none hv.1 hs q, sok_none hs q]
theorem nit_r (v : CV) (sd : SD) : ∀ n, (nit v n sd).2.1 = sd.2.1
  | 0 => rfl
  | n + 1 => nit_r v sd n
theorem nit_sok {v : CV} {sd : SD} (hv : COK v) (hs : SOK (vG v) sd) : ∀ n, SOK (vG v) (nit v n sd)
  | 0 => hs
  | n + 1 => nightS_sok hv.1 (nit_sok hv hs n)
/-- nothing more happens -/
def nih (v : CV) (sd : SD) (i : Nat) : Prop := ∀ j, (nit v (i + j) sd).1 = (nit v i sd).1
theorem nih_of {v : CV} {sd : SD} (hv : COK v) (hs : SOK (vG v) sd) {i : Nat} (h : mov v (nit v i sd) = false) : nih v sd (i + 1) := by
  obtain ⟨h7, h1⟩ := mov_f hv (nit_sok hv hs i) h
  have key : ∀ j, (nit v (i + j) sd).1 = (nit v i sd).1 := by
    intro j
    induction j with
    | zero => rfl
    | succ j ih =>
      show thenW v (nit v (i + j) sd) = _
      rw [thenW_no hv h7 ih (by rw [nit_r, nit_r]), h1]
  intro j
  rw [show i + 1 + j = i + (1 + j) by omega, key (1 + j), key 1]
