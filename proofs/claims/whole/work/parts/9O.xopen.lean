/-! a carnival opened by the class -/
def rkT (t : TV) (k : Nat) : Nat → Nat := fun g => if g < k then vF t.1 0 g else 0
def whT (t : TV) (k : Nat) : Nat → Option Nat := fun g => if g < k then t.2 g else none
def sdT (t : TV) : SD := (t.2, rkT t (vG t.1), 0)
section XO1
variable {c : CX} {d b : Nat} {T T' T1 : XS} {t : TV} {A : AB} {n : Nat} {f : Nat → Nat}
theorem sdC93 {y : Nat} : sdC 93 y ↔ y = 93 ∨ y = 97 ∨ y = 101 ∨ y = 105 := Iff.rfl
theorem CVT.fr {S : Nat → Prop} (h : CVT T b t) (hb : b % 4 = 3) (f : frm S T T') (hS : ∀ y, y % 4 = 3 → ¬ S y) : CVT T' b t := by
  refine ⟨f.grw.car h.1 (hS _ hb) ⟨hS _ (by omega), hS _ (by omega), hS _ (by omega), hS _ (by omega), hS _ (by omega), hS _ (by omega)⟩ (fun y hy _ => hS y hy), fun g hg => ?_⟩
  rw [f.A (hS _ (by omega)), f.A (hS _ (by omega))]
  exact h.2 g hg
theorem CVT.gr {S : Nat → Prop} (h : CVT T b t) (hb : b % 4 = 3) (f : grw S T T') (hS : ∀ y, y % 4 = 3 → ¬ S y) : CVT T' b t := by
  refine ⟨f.car h.1 (hS _ hb) ⟨hS _ (by omega), hS _ (by omega), hS _ (by omega), hS _ (by omega), hS _ (by omega), hS _ (by omega)⟩ (fun y hy _ => hS y hy), fun g hg => ?_⟩
  rw [f.A h.1.1.a3.1 (hS _ (by omega)), f.A h.1.1.a9.1 (hS _ (by omega))]
  exact h.2 g hg
theorem sd_no (y : Nat) (h : y % 4 = 3) : ¬ sdC 93 y := fun e => by rw [sdC93] at e; omega
theorem whT_all (tok : TOK t) : whT t (vG t.1) = t.2 := by
  funext g
  unfold whT
  split
  · rfl
  · cases e : t.2 g with
    | none => rfl
    | some x => have := (tok.2.1 g x e).1; omega
theorem x_sdOpen {Q : XS → Prop} (hS : SdS T 93) (cv : CVT T b t) (hb : b % 4 = 3) (tok : TOK t) (hq : ∀ T', frm (sdC 93) T T' → STD T' 93 b (sdT t) → Q T') : XV c (d + 2) m_Sd_open [.ref 93, .ref b] T Q := by
  have hG : vG t.1 ≤ 10 := tok.1.1
  have f1 : frm (sdC 93) T (tI (tR T 93 0 (some b)) 93 4 0) := (frm_R (S := sdC 93) (Or.inl rfl) _).tr (frm_I (S := sdC 93) (Or.inl rfl) _ _)
  have r1 : frx (tI (tR T 93 0 (some b)) 93 4 0) 93 0 = some b := frx_put (T := T) (a := 93) (k := 0) (Or.inr rfl)
  have i1 : xI (tI (tR T 93 0 (some b)) 93 4 0) 93 4 = 0 := xI_at _ _ _ _
  refine wx_Sd_open 93 b ⟨hS, ?_⟩
  generalize tI (tR T 93 0 (some b)) 93 4 0 = T1 at *
  refine x_fill (n := 10) (f1.r hS.aw) (by decide) (fun T2 f2 w2 => ⟨?_, ?_⟩)
  · exact f2.sds (f1.sds hS)
  have r2 : frx T2 93 0 = some b := (f2.fx (Or.inr (by decide))).trans r1
  have i2 : xI T2 93 4 = 0 := (f2.I (by decide) 4).trans i1
  have f2 : frm (sdC 93) T1 T2 := f2.mono (fun y hy => Or.inr (Or.inl hy))
  have f12 := f1.tr f2
  refine x_fill (n := 10) (f12.r hS.am) (by decide) (fun T4 f4 w4 => ⟨?_, ?_⟩)
  · exact f4.sds (f12.sds hS)
  have a4 : xA T4 97 = xA T2 97 := f4.A (by decide)
  have r4 : frx T4 93 0 = some b := (f4.fx (Or.inr (by decide))).trans r2
  have i4 : xI T4 93 4 = 0 := (f4.I (by decide) 4).trans i2
  have f4 : frm (sdC 93) T2 T4 := f4.mono (fun y hy => Or.inr (Or.inr (Or.inl hy)))
  have f14 := f12.tr f4
  refine x_fill (n := 10) (f14.r hS.ak) (by decide) (fun T6 f6 w6 => ?_)
  have a6 : xA T6 97 = xA T4 97 := f6.A (by decide)
  have b6 : xA T6 101 = xA T4 101 := f6.A (by decide)
  have r6 : frx T6 93 0 = some b := (f6.fx (Or.inr (by decide))).trans r4
  have i6 : xI T6 93 4 = 0 := (f6.I (by decide) 4).trans i4
  have f6 : frm (sdC 93) T4 T6 := f6.mono (fun y hy => Or.inr (Or.inr (Or.inr hy)))
  have f16 := f14.tr f6
  have S0 : STD T6 93 b (whT t 0, rkT t 0, 0) := by
    refine ⟨f16.sds hS, Or.inl rfl, r6, fun g hg => ?_, fun g hg => ?_, fun g hg => ?_, i6⟩
    · show xA T6 97 g = _
      rw [a6, a4, show xA T2 97 g = -1 from w2 g hg]; rfl
    · show xA T6 101 g = nI (mkb (whT t 0) g 10)
      rw [b6, show xA T4 101 g = 0 from w4 g hg, mkb_0 (fun k e => by cases e)]; rfl
    · show xA T6 105 g = _
      rw [show xA T6 105 g = 0 from w6 g hg]; rfl
  suffices H : ∀ (m k : Nat) (T7 : XS), k + m = vG t.1 → frm (sdC 93) T T7 → STD T7 93 b (whT t k, rkT t k, 0) → eX c (d + 2) m_Sd_open 36 [some (.ref 93), some (.ref b), some (.int (nI k))] T7 (yV c Q) from H (vG t.1) 0 T6 (by omega) f16 S0
  intro m
  induction m with
  | zero =>
    intro k T7 hk f7 S7
    have cv7 := cv.fr hb f7 sd_no
    refine wx_Sd_open_36 93 b _ ⟨cv7.1.1, fun _ => hq T7 f7 ?_, fun z => absurd (by rw [cv7.1.2.2.1.2.1]; exact (nI_leI (by omega) (by omega)).mpr (by omega)) z⟩
    have ek : k = vG t.1 := by omega
    rw [ek, whT_all tok] at S7
    exact S7
  | succ m ih =>
    intro k T7 hk f7 S7
    have cv7 := cv.fr hb f7 sd_no
    have wk := cv7.2 k (by omega)
    refine wx_Sd_open_36 93 b _ ⟨cv7.1.1, fun z => absurd z (by rw [cv7.1.2.2.1.2.1, nI_leI (by omega) (by omega)]; omega), fun _ => ⟨S7.1, okn (by omega) (by decide), okn (by omega) (by decide), okn (by omega) (by decide), ?_⟩⟩
    rw [ix_nI (by omega), wk.2]
    have f8 : frm (fun y => y = 105) T7 (tA T7 (sR 93) k (nI (vF t.1 0 k))) := frm_A (S := fun y => y = 105) rfl _ _
    rw [f8.A (show ¬ b + 4 = 105 by omega), wk.1, nI_1]
    have S8 : STD (tA T7 (sR 93) k (nI (vF t.1 0 k))) 93 b (whT t k, rkT t (k + 1), 0) := by
      obtain ⟨s1, s2, s3, s4, s5, s6, s7⟩ := S7
      refine ⟨f8.sds s1, s2, s3, fun g hg => ?_, fun g hg => ?_, fun g hg => ?_, s7⟩
      · rw [f8.A (by decide)]; exact s4 g hg
      · rw [f8.A (by decide)]; exact s5 g hg
      · rw [xA_A, if_pos rfl]
        show (if g = k then _ else _) = nI (if g < k + 1 then _ else 0)
        by_cases z : g = k
        · rw [if_pos z, if_pos (by omega), z]
        · have := s6 g hg
          rw [if_neg z]
          show xA T7 (sR 93) g = _
          rw [this]
          show nI (if g < k then _ else 0) = _
          by_cases y : g < k
          · rw [if_pos y, if_pos (by omega)]
          · rw [if_neg y, if_neg (by omega)]
    have f8 : frm (sdC 93) T7 (tA T7 (sR 93) k (nI (vF t.1 0 k))) := f8.mono (fun y hy => Or.inr (Or.inr (Or.inr hy)))
    generalize tA T7 (sR 93) k (nI (vF t.1 0 k)) = T8 at *
    refine x_turn (d := d) S8 (by omega) (fun x j e => ?_) (fun j e => by have := (tok.2.1 k j e).2.1; omega) (fun T9 f9 S9 => ?_)
    · have e : (if x < k then t.2 x else none) = some j := e
      split at e
      · have := (tok.2.1 x j e).2.1; omega
      · cases e
    · have ew : turnS (whT t k, rkT t (k + 1), 0) k (t.2 k) = (whT t (k + 1), rkT t (k + 1), 0) := by
        unfold turnS
        refine Prod.ext ?_ rfl
        funext x
        show (if x = k then t.2 k else if x < k then t.2 x else none) = if x < k + 1 then t.2 x else none
        by_cases z : x = k
        · rw [if_pos z, if_pos (by omega), z]
        · rw [if_neg z]
          by_cases y : x < k
          · rw [if_pos y, if_pos (by omega)]
          · rw [if_neg y, if_neg (by omega)]
      rw [ew] at S9
      exact ih (k + 1) T9 (by omega) ((f7.tr f8).tr (f9.mono (fun y hy => hy.elim (fun z => Or.inr (Or.inl z)) (fun z => Or.inr (Or.inr (Or.inl z)))))) S9
theorem TOK.sok (tok : TOK t) : SOK (vG t.1) (sdT t) := by
  refine ⟨tok.2.1, fun g hg => ?_⟩
  show (if g < vG t.1 then vF t.1 0 g else 0) ≤ 99
  have := tok.2.2.1 g
  split <;> omega
/-- the fair opened -/
theorem x_frOpen {Q : XS → Prop} (h : XINV T A) (cv : CVT T b t) (hb : b % 4 = 3) (tok : TOK t) (hq : ∀ T', XINV T' (A.1, A.2.1, (t.1, sdT t, []), A.2.2.2) → gw 0 0 T T' → CVT T' b t → Q T') : XV c (d + 3) m_Fr_open [.ref 49, .ref b] T Q := by
  have hh := h
  obtain ⟨h1, h2, ⟨ca, h3⟩, h4, h5⟩ := h
  refine wx_Fr_open 49 b ⟨h3.1, h3.2.1.1.1, x_sdOpen (d := d) h3.2.1.1.1 cv hb tok (fun T3 f3 S3 => ?_)⟩
  have F3 : FrS T3 49 := f3.frs (by decide) h3.1
  refine ⟨F3, ?_⟩
  have f4 : frm (fun y => y = 49) T3 (tI T3 49 2 0) := frm_I (S := fun y => y = 49) rfl _ _
  have fa : frm (fun y => sdC 93 y ∨ y = 49) T (tI T3 49 2 0) := (f3.mono (fun y hy => Or.inl hy)).tr (f4.mono (fun y hy => Or.inr hy))
  have cv4 := cv.fr hb fa (fun y hy e => by rw [sdC93] at e; omega)
  have i4 : xI (tI T3 49 2 0) 49 2 = 0 := xI_at _ _ _ _
  have S4 : STD (tI T3 49 2 0) 93 b (sdT t) := f4.grw.std S3 (by decide) (by decide) (by decide) (by decide)
  have F4 : FrS (tI T3 49 2 0) 49 := F3
  generalize tI T3 49 2 0 = T4 at *
  have q4 : xQ T4 (fP 49) = xQ T (fP 49) := fa.Q (by decide)
  have F : FAIR T4 49 b t.1 (sdT t) [] := by
    refine ⟨F4, ⟨S4, cv4.1, tok.1, tok.sok⟩, ⟨i4, by decide⟩, fun i x hi hx => ?_, fun i j x hi hj hx hx' => ?_, fun i s e => ?_⟩
    · rw [q4] at hx
      obtain ⟨w1, w2, w3⟩ := h3.2.2.2.1 i x hi hx
      exact ⟨fa.sds w1, w2, w3⟩
    · rw [q4] at hx hx'
      exact h3.2.2.2.2.1 i j x hi hj hx hx'
    · cases e
  have dd : DDn 0 T T4 b t.1 (sdT t) [] := by
    refine ⟨(fa.mono (S' := dS T) (fun y hy => ?_)).grw, F, fun i x hi hx => Or.inl ⟨i, hi, by rw [← q4]; exact hx⟩, fa.gw _ _⟩
    rcases hy with hy | hy
    · refine Or.inr (Or.inl ?_)
      rw [sdC93] at hy
      rcases hy with rfl | rfl | rfl | rfl <;> decide
    · exact Or.inl (Or.inl hy)
  exact hq T4 (hh.dd h3 dd) (fa.gw _ _) cv4
end XO1
