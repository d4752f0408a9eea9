/-! guild, may, tomorrow, count, fault -/
def gqV (v : CV) (sd : SD) (k : Nat) (wt : Int32) : Int32 := if wt = 0 then oI (sd.1 k) else if wt = 1 then nI (sd.2.1 k) else if wt = 2 then nI (vF v 1 k) else if wt = 3 then nI (vF v 2 k) else if wt = 4 then nI (vF v 3 k) else if wt = 5 then nI (vF v 4 k) else nI (mkb sd.1 k 10)
theorem sw6 {wt : Int32} {P0 P1 P2 P3 P4 P5 P6 : Prop} {x0 x1 x2 x3 x4 x5 x6 : Int32} {R : Int32 → Prop} (hq : R (if wt = 0 then x0 else if wt = 1 then x1 else if wt = 2 then x2 else if wt = 3 then x3 else if wt = 4 then x4 else if wt = 5 then x5 else x6)) (h0 : R x0 → P0) (h1 : R x1 → P1) (h2 : R x2 → P2) (h3 : R x3 → P3) (h4 : R x4 → P4) (h5 : R x5 → P5) (h6 : R x6 → P6) : (wt = 0 → P0) ∧ (wt = 1 → P1) ∧ (wt = 2 → P2) ∧ (wt = 3 → P3) ∧ (wt = 4 → P4) ∧ (wt = 5 → P5) ∧ (¬ wt = 0 ∧ ¬ wt = 1 ∧ ¬ wt = 2 ∧ ¬ wt = 3 ∧ ¬ wt = 4 ∧ ¬ wt = 5 → P6) := by
  refine ⟨fun e => h0 (by rwa [if_pos e] at hq), fun e => h1 ?_, fun e => h2 ?_, fun e => h3 ?_, fun e => h4 ?_, fun e => h5 ?_, fun ⟨e0, e1, e2, e3, e4, e5⟩ => h6 (by rwa [if_neg e0, if_neg e1, if_neg e2, if_neg e3, if_neg e4, if_neg e5] at hq)⟩
  all_goals (rw [e] at hq; simpa using hq)
section SM1
variable {c : CX} {d : Nat} {T T' : XS} {ca : Nat} {v : CV} {sd : SD}
theorem x_guild {Q : Int32 → XS → Prop} {E : Nat → XS → Prop} (hR : RL c) (h : CS T 93 ca v sd) {g wt : Int32} (ok : ∀ k, g = nI k → k < vG v → 0 ≤ wt.toInt → wt.toInt ≤ 6 → Q (gqV v sd k wt) T) (bad : ¬ (0 ≤ g.toInt ∧ g.toInt < vG v) → E 2 (tN T 0 0 6)) (bad2 : 0 ≤ g.toInt ∧ g.toInt < vG v → ¬ (0 ≤ wt.toInt ∧ wt.toInt ≤ 6) → E 1 (tN T 0 0 6)) : XIt c (d + 1) m_X_guild [.ref 1, .int g, .int wt] T Q E := by
  have hG := h.G
  refine wx_X_guild _ _ (x_needGuild hR h (fun k hk hkG => x_needWithin hR (fun z1 z2 => ?_) (fun z => bad2 (by rw [hk, nI_toInt (by omega)]; omega) z)) bad)
  have ok := ok k hk hkG z1 z2
  have hF := h.2.1.2.2.2.2.2.2.1 k hkG
  have o : okx (nI k) 10 := okn (by omega) (by decide)
  rw [hk, ix_nI (by omega)]
  exact sw6 (R := fun x => Q x T) ok (fun q => ⟨o, by rw [show xA T 97 k = oI (sd.1 k) from h.wh (by omega)]; exact q⟩) (fun q => ⟨o, by rw [show xA T 105 k = nI (sd.2.1 k) from h.rk (by omega)]; exact q⟩) (fun q => ⟨ca, h.fc, h.2.1.1, o, by rw [hF.1]; exact q⟩) (fun q => ⟨ca, h.fc, h.2.1.1, o, by rw [hF.2.1]; exact q⟩) (fun q => ⟨ca, h.fc, h.2.1.1, o, by rw [hF.2.2.1]; exact q⟩) (fun q => ⟨ca, h.fc, h.2.1.1, o, by rw [hF.2.2.2]; exact q⟩) (fun q => ⟨o, by rw [show xA T 101 k = nI (mkb sd.1 k 10) from h.mk (by omega)]; exact q⟩)
theorem x_may {Q : Bool → XS → Prop} {E : Nat → XS → Prop} (hR : RL c) (h : CS T 93 ca v sd) {g g' : Int32} (ok : ∀ k k', g = nI k → k < vG v → g' = nI k' → k' < vG v → k ≠ k' → ∀ T', frm scr T T' → Q (mayB v sd k k') T') (bad1 : ¬ ((0 ≤ g.toInt ∧ g.toInt < vG v) ∧ (0 ≤ g'.toInt ∧ g'.toInt < vG v)) → E 2 (tN T 0 0 6)) (bad2 : ((0 ≤ g.toInt ∧ g.toInt < vG v) ∧ (0 ≤ g'.toInt ∧ g'.toInt < vG v)) → g = g' → E 1 (tN T 0 0 6)) : XBt c (d + 4) m_X_may [.ref 1, .int g, .int g'] T Q E :=
  wx_X_may _ _ (x_needTwo (d := d + 2) hR h (fun k k' e1 l1 e2 l2 n => by
    have ok := ok k k' e1 l1 e2 l2 n
    rw [e1, e2]
    exact x_allows h l1 l2 (fun T' hf => ok T' (hf.mono (fun b hb => ctr_scr (ct1_ctr hb))))) bad1 bad2)
theorem x_tomorrow {Q : Int32 → XS → Prop} {E : Nat → XS → Prop} (hR : RL c) (h : CS T 93 ca v sd) {g : Int32} (ok : ∀ k, g = nI k → k < vG v → ∀ T', frm scr T T' → Q (oI (thenW v sd k)) T') (bad : ¬ (0 ≤ g.toInt ∧ g.toInt < vG v) → E 2 (tN T 0 0 6)) : XIt c (d + 4) m_X_tomorrow [.ref 1, .int g] T Q E :=
  wx_X_tomorrow _ (x_needGuild hR h (fun k e hk => by
    have ok := ok k e hk
    rw [e]
    exact x_answer h hk (fun T' hf => ok T' (hf.mono (fun b hb => ctr_scr (ct1_ctr hb))))) bad)
def mkC (sd : SD) (g : Nat) : Bool := decide (sd.1 g ≠ none)
theorem x_mocking {Q : Int32 → XS → Prop} (h : CS T 93 ca v sd) (hq : Q (nI (fa_cnt (mkC sd) 10)) T) : XI c d m_Sd_mocking [.ref 93] T Q := by
  refine wx_Sd_mocking _ ?_
  suffices H : ∀ (m k : Nat), k + m = 10 → eX c d m_Sd_mocking 4 [some (.ref 93), some (.int (nI (fa_cnt (mkC sd) k))), some (.int (nI k))] T (yI c Q) from H 10 0 (by omega)
  intro m
  induction m with
  | zero =>
    intro k hk
    exact wx_Sd_mocking_4 _ _ _ ⟨fun _ => by rw [show k = 10 by omega]; exact hq, fun z => absurd ((nI_leI (a := 10) (by decide) (by omega)).mpr (by omega)) z⟩
  | succ m ih =>
    intro k hk
    refine wx_Sd_mocking_4 _ _ _ ⟨fun z => absurd ((nI_leI (a := 10) (by decide) (by omega)).mp z) (by omega), fun _ => ⟨h.1.1, okn (by omega) (by decide), ?_⟩⟩
    have ih := ih (k + 1) (by omega)
    rw [fa_cnt] at ih
    rw [ix_nI (by omega), h.wh (by omega), oI_m1 (fun x hx => by have := h.w10 hx; omega), nI_1]
    refine ⟨fun z => ?_, fun z => ?_⟩
    · rw [show mkC sd k = false from decide_eq_false (fun q => q z)] at ih
      exact ih
    · rw [show mkC sd k = true from decide_eq_true z] at ih
      rw [nI_1]
      exact ih
/-- counts: P deeds kept, F letters fed -/
def cnV (v : CV) (sd : SD) (P F wt : Int32) : Int32 := if wt = 0 then nI (vL v) else if wt = 1 then nI (vG v) else if wt = 2 then nI (vT v) else if wt = 3 then nI (stN v) else if wt = 4 then sd.2.2 else if wt = 5 then nI (fa_cnt (mkC sd) 10) else if wt = 6 then P else if wt = 7 then F else if wt = 8 then (if vM v = [] then 0 else 1) else if wt = 9 then (if vA v = [] then 0 else 1) else -1
theorem law_x {o : Option Nat} {l : List Nat} {R : Int32 → Prop} (h : LAWA T o l) (hq : R (if l = [] then 0 else 1)) : (o = none → R 0) ∧ (∀ b, o = some b → R 1) := by
  rcases h with ⟨h1, h2⟩ | ⟨b, h1, h2, -⟩
  · exact ⟨fun _ => by rwa [if_pos h2] at hq, fun b hb => by rw [h1] at hb; cases hb⟩
  · exact ⟨fun e => absurd (h1.symm.trans e) (by simp), fun b hb => by rwa [if_neg h2] at hq⟩
theorem x_count {Q : Int32 → XS → Prop} (h : CS T 93 ca v sd) {wt : Int32} (ok : Q (cnV v sd (xI T 49 2) (xI T 1 1) wt) T) : XI c (d + 1) m_X_count [.ref 1, .int wt] T Q := by
  obtain ⟨-, -, ⟨f0, f1, f2⟩, f4, f5, -⟩ := h.2.1
  unfold cnV at ok
  refine wx_X_count _ ⟨ca, h.fc, fun e => ⟨h.2.1.1, ?_⟩, fun e => ⟨h.2.1.1, ?_⟩, fun e => ⟨h.2.1.1, ?_⟩, fun e => ⟨h.2.1.1, x_steps h.2.1 ?_⟩, fun e => ?_, fun e => x_mocking h ?_, fun e => ?_, fun e => ?_, fun e => ⟨h.2.1.1, law_x (R := fun x => Q x T) f4 ?_⟩, fun e => ⟨h.2.1.1, law_x (R := fun x => Q x T) f5 ?_⟩, fun ⟨e0, e1, e2, e3, e4, e5, e6, e7, e8, e9⟩ => ?_⟩
  · rw [f0]; rw [e] at ok; simpa using ok
  · rw [f1]; rw [e] at ok; simpa using ok
  · rw [f2]; rw [e] at ok; simpa using ok
  · rw [e] at ok; simpa using ok
  · rw [show xI T 93 4 = sd.2.2 from h.1.2.2.2.2.2.2]; rw [e] at ok; simpa using ok
  · rw [e] at ok; simpa using ok
  · rw [e] at ok; simpa using ok
  · rw [e] at ok; simpa using ok
  · rw [e] at ok; simpa using ok
  · rw [e] at ok; simpa using ok
  · rwa [if_neg e0, if_neg e1, if_neg e2, if_neg e3, if_neg e4, if_neg e5, if_neg e6, if_neg e7, if_neg e8, if_neg e9] at ok
def flV (k p wt : Int32) : Int32 := if wt = 0 then k else if wt = 1 then p else -1
theorem x_fault {Q : Int32 → XS → Prop} {wt : Int32} (ok : Q (flV (xI T 1 2) (xI T 1 3) wt) T) : XI c d m_X_fault [.ref 1, .int wt] T Q := by
  unfold flV at ok
  refine wx_X_fault _ ⟨fun e => ⟨fun e1 => ?_, fun e1 => ?_⟩, fun e => ?_⟩
  · rwa [if_neg e, if_neg e1] at ok
  · rwa [if_neg e, if_pos e1] at ok
  · rwa [if_pos e] at ok
end SM1
section SM2
variable {c : CX} {d : Nat} {s s' : RS} {v : CV} {a : SD}
theorem r_guild {Q : Int32 → RS → Prop} (h : KR s v a) {g wt : Int32} (ok : ∀ k, g = nI k → k < vG v → 0 ≤ wt.toInt → wt.toInt ≤ 6 → ∀ s', SQ s s' 0 → Q (gqV v a k wt) s') (bad : ¬ (0 ≤ g.toInt ∧ g.toInt < vG v) → ∀ s', SQ s s' 1 → Q 0 s') (bad2 : 0 ≤ g.toInt ∧ g.toInt < vG v → ¬ (0 ≤ wt.toInt ∧ wt.toInt ≤ 6) → ∀ s', SQ s s' 2 → Q 0 s') : RI c (d + 2) m_R_guild [.ref 2, .int g, .int wt] s Q := by
  have hG := h.2.2.1.1
  refine w_R_guild _ _ (h.isg (fun k e hk => ?_) (fun q => bad q _ (SQ.th s 1)))
  rw [wth_c.1, wth_c.2]
  refine ⟨fun q => bad2 (by rw [e, nI_toInt (by omega)]; omega) q _ (SQ.th s 2), fun q => ?_⟩
  have ok := ok k e hk q.1 q.2 _ (SQ.th s 0)
  obtain ⟨q1, q2, q3, q4⟩ := h.1.2.2.2.2.2.1 k hk
  have o : ∀ m, m ≤ 57 → okx (nI m + nI k) 2101 := fun m hm => okA m (by omega) (by decide)
  have x : ∀ m, m ≤ 57 → ix (nI m + nI k) = m + k := fun m hm => ixA m (by omega)
  rw [e]
  exact sw6 (R := fun x => Q x (rF s 4 0)) ok
    (fun q => ⟨o 6 (by decide), by rw [show ix (6 + nI k) = 6 + k from x 6 (by decide), h.2.1.1 k (by omega)]; exact q⟩)
    (fun q => ⟨o 16 (by decide), by rw [show ix (16 + nI k) = 16 + k from x 16 (by decide), show s.2.1 1 (16 + k) = nI (a.2.1 k) from h.2.1.2.1 k (by omega)]; exact q⟩)
    (fun q => ⟨o 27 (by decide), by rw [show ix (27 + nI k) = 27 + k from x 27 (by decide), q1]; exact q⟩)
    (fun q => ⟨o 37 (by decide), by rw [show ix (37 + nI k) = 37 + k from x 37 (by decide), q2]; exact q⟩)
    (fun q => ⟨o 47 (by decide), by rw [show ix (47 + nI k) = 47 + k from x 47 (by decide), q3]; exact q⟩)
    (fun q => ⟨o 57 (by decide), by rw [show ix (57 + nI k) = 57 + k from x 57 (by decide), q4]; exact q⟩)
    (fun q => s_mk (s := rF s 4 0) h (by omega) q)
theorem r_may {Q : Bool → RS → Prop} (h : KR s v a) {g g' : Int32} (ok : ∀ k k', g = nI k → k < vG v → g' = nI k' → k' < vG v → k ≠ k' → ∀ s', SQ s s' 0 → Q (mayB v a k k') s') (bad1 : ¬ ((0 ≤ g.toInt ∧ g.toInt < vG v) ∧ (0 ≤ g'.toInt ∧ g'.toInt < vG v)) → ∀ s', SQ s s' 1 → Q false s') (bad2 : ((0 ≤ g.toInt ∧ g.toInt < vG v) ∧ (0 ≤ g'.toInt ∧ g'.toInt < vG v)) → g = g' → ∀ s', SQ s s' 2 → Q false s') : RB c (d + 5) m_R_may [.ref 2, .int g, .int g'] s Q := by
  have hG := h.2.2.1.1
  have i1 := h.isg (g := g) (P := ∃ k, g = nI k ∧ k < vG v) (Q := ¬ (0 ≤ g.toInt ∧ g.toInt < vG v)) (fun k e hk => ⟨k, e, hk⟩) (fun q => q)
  have i2 := h.isg (g := g') (P := ∃ k, g' = nI k ∧ k < vG v) (Q := ¬ (0 ≤ g'.toInt ∧ g'.toInt < vG v)) (fun k e hk => ⟨k, e, hk⟩) (fun q => q)
  refine w_R_may _ _ ⟨fun z => bad1 (fun q => i1.2 z q.1) _ (SQ.th s 1), fun z => ⟨fun z2 => ?_, fun z2 => bad1 (fun q => i2.2 z2 q.2) _ (SQ.th s 1)⟩⟩
  obtain ⟨k, e1, l1⟩ := i1.1 z
  obtain ⟨k', e2, l2⟩ := i2.1 z2
  refine ⟨fun n => ?_, fun e => bad2 ⟨by rw [e1, nI_toInt (by omega)]; omega, by rw [e2, nI_toInt (by omega)]; omega⟩ e _ (SQ.th s 2)⟩
  have ok := ok k k' e1 l1 e2 l2 (fun e => n (by rw [e1, e2, e]))
  rw [e1, e2]
  refine s_mayMock (s := rF s 4 0) (d := d) h l1 l2 (fun f => ?_)
  have := ok _ ((SQ.th s 0).W f (i := 6) (by decide))
  exact ⟨fun q => by rwa [q] at this, fun q => by rwa [q] at this⟩
theorem r_tomorrow {Q : Int32 → RS → Prop} (h : KR s v a) {g : Int32} (ok : ∀ k, g = nI k → k < vG v → ∀ s', SQ s s' 0 → Q (oI (thenW v a k)) s') (bad : ¬ (0 ≤ g.toInt ∧ g.toInt < vG v) → ∀ s', SQ s s' 1 → Q 0 s') : RI c (d + 5) m_R_tomorrow [.ref 2, .int g] s Q := by
  have i1 := h.isg (g := g) (P := ∃ k, g = nI k ∧ k < vG v) (Q := ¬ (0 ≤ g.toInt ∧ g.toInt < vG v)) (fun k e hk => ⟨k, e, hk⟩) (fun q => q)
  refine w_R_tomorrow _ ⟨fun z => bad (i1.2 z) _ (SQ.th2 s 0 1), fun z => ?_⟩
  obtain ⟨k, e, hk⟩ := i1.1 z
  have ok := ok k e hk
  rw [e]
  exact s_then (s := rF s 4 0) (d := d) h hk (fun f => ok _ ((SQ.th s 0).W f (i := 6) (by decide)))
theorem cnt_cut {p : Nat → Bool} {G : Nat} (h : ∀ k, G ≤ k → p k = false) : ∀ n, G ≤ n → fa_cnt p n = fa_cnt p G
  | 0, hn => by rw [show G = 0 by omega]
  | n + 1, hn => by
    rcases Nat.lt_or_ge n G with q | q
    · rw [show n + 1 = G by omega]
    · rw [fa_cnt, h n q, cnt_cut h n q]; rfl
theorem s_mocking {Q : Int32 → RS → Prop} (h : KR s v a) (hq : Q (nI (fa_cnt (mkC a) 10)) s) : RI c (d + 1) m_R_mocking [.ref 2] s Q := by
  have hG := h.2.2.1.1
  rw [cnt_cut (p := mkC a) (G := vG v) (fun k hk => decide_eq_false (fun q => q (sok_none h.2.2.2 hk))) 10 hG] at hq
  refine w_R_mocking ?_
  suffices H : ∀ (m k : Nat), k + m = vG v → eR c (d + 1) m_R_mocking 4 [some (.ref 2), some (.int (nI (fa_cnt (mkC a) k))), some (.int (nI k))] s (pI c Q) from H (vG v) 0 (by omega)
  intro m
  induction m with
  | zero =>
    intro k hk
    exact w_R_mocking_4 _ _ ⟨fun _ => by rw [show k = vG v by omega]; exact hq, fun z => absurd ((h.gle (by omega)).mpr (by omega)) z⟩
  | succ m ih =>
    intro k hk
    refine w_R_mocking_4 _ _ ⟨fun z => absurd ((h.gle (by omega)).mp z) (by omega), fun _ => ⟨okm (by omega), ?_⟩⟩
    have ih := ih (k + 1) (by omega)
    rw [fa_cnt] at ih
    rw [h.wh (by omega), h.wn, nI_1]
    refine ⟨fun z => ?_, fun z => ?_⟩
    · rw [show mkC a k = true from decide_eq_true z] at ih
      rw [nI_1]
      exact ih
    · rw [show mkC a k = false from decide_eq_false (fun q => q z)] at ih
      rw [show nI (fa_cnt (mkC a) k) + 0 = nI (fa_cnt (mkC a) k) from Int32.add_zero _, nI_1]
      exact ih
theorem law_r {x : Int32} {l : List Nat} {R : Int32 → Prop} (h : x = nI l.length) (hl : l.length ≤ 900) (hq : R (if l = [] then 0 else 1)) : (x ≤ 0 → R 0) ∧ (¬ x ≤ 0 → R 1) := by
  rw [h, show (nI l.length ≤ (0 : Int32)) ↔ l.length ≤ 0 from nI_leI (b := 0) (by omega) (by decide)]
  cases l with
  | nil => exact ⟨fun _ => hq, fun z => absurd (Nat.le_refl _) z⟩
  | cons y r => exact ⟨fun z => absurd z (by simp), fun _ => hq⟩
theorem r_count {Q : Int32 → RS → Prop} (h : KR s v a) {wt : Int32} (ok : ∀ s', SQ s s' 0 → Q (cnV v a (s.2.1 1 5) (s.1 6) wt) s') : RI c (d + 2) m_R_count [.ref 2, .int wt] s Q := by
  obtain ⟨f0, f1, f2, f3, f4, -⟩ := h.1
  have h' : KR (rF s 4 0) v a := h
  have ok := ok _ (SQ.th s 0)
  have l1 : (vM v).length ≤ 900 := by
    rcases h.2.2.1.2.2.2.1 with q | q
    · rw [q]; decide
    · exact q.2
  have l2 : (vA v).length ≤ 900 := by
    rcases h.2.2.1.2.2.2.2.1 with q | q
    · rw [q]; decide
    · exact q.2
  unfold cnV at ok
  refine w_R_count _ ⟨fun e => ⟨rfl, ?_⟩, fun e => ?_, fun e => ⟨rfl, ?_⟩, fun e => s_steps h' ?_, fun e => ⟨rfl, ?_⟩, fun e => s_mocking h' ?_, fun e => ⟨rfl, ?_⟩, fun e => ?_, fun e => ⟨rfl, law_r (R := fun x => Q x (rF s 4 0)) f3 l1 ?_⟩, fun e => ⟨rfl, law_r (R := fun x => Q x (rF s 4 0)) f4 l2 ?_⟩, fun ⟨e0, e1, e2, e3, e4, e5, e6, e7, e8, e9⟩ => ?_⟩
  · rw [show s.2.1 1 (ix 0) = nI (vL v) from f0]; rw [e] at ok; simpa using ok
  · rw [f1]; rw [e] at ok; simpa using ok
  · rw [show s.2.1 1 (ix 2) = nI (vT v) from f2]; rw [e] at ok; simpa using ok
  · rw [e] at ok; simpa using ok
  · rw [show s.2.1 1 (ix 26) = a.2.2 from h.2.1.2.2]; rw [e] at ok; simpa using ok
  · rw [e] at ok; simpa using ok
  · rw [show s.2.1 1 (ix 5) = s.2.1 1 5 from rfl]; rw [e] at ok; simpa using ok
  · rw [e] at ok; simpa using ok
  · rw [e] at ok; simpa using ok
  · rw [e] at ok; simpa using ok
  · rwa [if_neg e0, if_neg e1, if_neg e2, if_neg e3, if_neg e4, if_neg e5, if_neg e6, if_neg e7, if_neg e8, if_neg e9] at ok
theorem r_fault {Q : Int32 → RS → Prop} {wt : Int32} (ok : ∀ s', SQ s s' 0 → Q (flV (s.1 14) (s.1 15) wt) s') : RI c d m_R_fault [.ref 2, .int wt] s Q := by
  have ok := ok _ (SQ.th s 0)
  unfold flV at ok
  refine w_R_fault _ ⟨fun e => ⟨fun e1 => ?_, fun e1 => ?_⟩, fun e => ?_⟩
  · rwa [if_neg e, if_neg e1] at ok
  · rwa [if_neg e, if_pos e1] at ok
  · rwa [if_pos e] at ok
end SM2
