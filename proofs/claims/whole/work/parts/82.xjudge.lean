/-! told deeds on trays: of the class -/
def jdg (v : CV) (f : Nat → Int64) : Nat → Nat → SD → Nat × Nat × SD
  | 0, k, a => (k, 0, a)
  | n + 1, k, a => if whyT v a (f k).toInt = 0 then jdg v f n (k + 1) (doS v a (f k).toInt) else (k, whyT v a (f k).toInt, a)
def jdA (v : CV) (r : Nat × Nat × SD) (wt : Int32) : Int32 := if wt = 0 then (if r.2.1 = 0 then -1 else nI r.1) else if wt = 1 then nI r.2.1 else if wt = 2 then nI (fa_cnt (mkC r.2.2) 10) else nI (cakS v r.2.2)
theorem whyT_2 (v : CV) (sd : SD) (z : Int) : whyT v sd z ≤ 2 := by
  unfold whyT whyN
  split
  · omega
  · split
    · omega
    · split
      · omega
      · split
        · split <;> omega
        · omega
def prf (v : CV) (f : Nat → Int64) : Nat → Nat → SD → List SD → Nat × SD × List SD
  | 0, k, a, p => (k, a, p)
  | n + 1, k, a, p => if whyT v a (f k).toInt = 0 then prf v f n (k + 1) (doS v a (f k).toInt) (push10 p a) else (k, a, p)
theorem ty_scr {T T' : XS} {b : Nat} {t : TY} (hf : frm scr T T') (h : TRY1 T b t) : TRY1 T' b t := hf.ty1 h (scr_no h.2.1) (scr_no (by have := h.2.1; omega))
/-- a deed touches no tray -/
theorem dS_ty {T : XS} {ca b : Nat} {v : CV} {sd : SD} {p : List SD} (h : FAIR T 49 ca v sd p) (hb : TyS T b) (h3 : b % 4 = 3) : ¬ dS T b ∧ ¬ dS T (b + 4) := by
  have key : ∀ y, y % 4 = 3 → (∀ x, SdS T x → ¬ sdC x y) → ¬ dS T y := fun y y3 hy e => by
    rcases e with (e | e | ⟨i, x, hi, hx, e⟩) | e
    · omega
    · rw [show fP 49 = 89 from rfl] at e; omega
    · exact hy x (h.2.2.2.1 i x hi hx).1 e
    · exact nwS_no y3 e
  refine ⟨key b h3 (fun x hx e => ?_), key (b + 4) (by omega) (fun x hx e => ?_)⟩
  · have k1 := hb.1.2
    rcases e with e | e | e | e
    · rw [e, hx.1.2] at k1; cases k1
    · rw [e, hx.aw.2] at k1; cases k1
    · rw [e, hx.am.2] at k1; cases k1
    · rw [e, hx.ak.2] at k1; cases k1
  · have k1 := hb.az.2
    rcases e with e | e | e | e
    · have k2 := hx.1.2
      rw [← e, k1] at k2; cases k2
    · rw [e, hx.aw.2] at k1; cases k1
    · rw [e, hx.am.2] at k1; cases k1
    · rw [e, hx.ak.2] at k1; cases k1
theorem dS_113 {T : XS} {ca : Nat} {v : CV} {sd : SD} {p : List SD} (h : FAIR T 49 ca v sd p) : ¬ dS T 113 := fun e => by
  rcases e with (e | e | ⟨i, x, hi, hx, e⟩) | e
  · cases e
  · cases e
  · obtain ⟨_, x3, _⟩ := h.2.2.2.1 i x hi hx
    obtain ⟨e1, e2, e3⟩ := sW_3 x3
    unfold sdC at e
    rw [e1, e2, e3] at e
    omega
  · exact nwS_d (by decide) (by decide) e
/-- what n deeds leave -/
def DDn (n : Nat) (T T' : XS) (ca : Nat) (v : CV) (sd : SD) (p : List SD) : Prop := grw (dS T) T T' ∧ FAIR T' 49 ca v sd p ∧ (∀ i x, i < 10 → xQ T' (fP 49) i = some x → (∃ j, j < 10 ∧ xQ T (fP 49) j = some x) ∨ ¬ old T x) ∧ gw (4 * n) (35 * n) T T'
section JX1
variable {c : CX} {d n : Nat} {T T1 T2 T' : XS} {ca : Nat} {t : TY} {q : Nat → Option TY} {v : CV} {sd sd' : SD} {p p' : List SD}
theorem DDn.rf (h : FAIR T 49 ca v sd p) : DDn 0 T T ca v sd p := ⟨grw.rf, h, fun i x hi hx => Or.inl ⟨i, hi, hx⟩, gw.rf _ _⟩
theorem DD.one (h : DD T T' ca v sd p) : DDn 1 T T' ca v sd p := h
theorem grw.tr2 {S S' : Nat → Prop} (h : grw S T T1) (h' : grw S' T1 T2) (hs : ∀ b, old T b → S' b → S b) : grw S T T2 := by
  refine ⟨Nat.le_trans h.1 h'.1, fun b hb => ?_⟩
  obtain ⟨a1, a2, a3⟩ := h.2 b hb
  obtain ⟨b1, b2, b3⟩ := h'.2 b (h.ol hb)
  refine ⟨b1.trans a1, fun k q => (b2 k (q.elim Or.inl (fun z => Or.inr (fun y => z (hs b hb y))))).trans (a2 k q), fun q => ?_⟩
  obtain ⟨c1, c2, c3, c4⟩ := a3 q
  obtain ⟨d1, d2, d3, d4⟩ := b3 (fun y => q (hs b hb y))
  exact ⟨fun k => (d1 k).trans (c1 k), d2.trans c2, d3.trans c3, d4.trans c4⟩
theorem sdC_3 {x y : Nat} (h3 : x % 4 = 3) (h : sdC x y) : y % 4 = 3 ∧ x / 4 ≤ y / 4 := by
  obtain ⟨e1, e2, e3⟩ := sW_3 h3
  unfold sdC at h
  rw [e1, e2, e3] at h
  omega
theorem DDn.step (h : DDn n T T1 ca v sd p) (h' : DD T1 T2 ca v sd' p') : DDn (n + 1) T T2 ca v sd' p' := by
  obtain ⟨a1, a2, a3, a4⟩ := h
  obtain ⟨b1, b2, b3, b4⟩ := h'
  refine ⟨a1.tr2 b1 (fun b hb e => ?_), b2, fun i x hi hx => ?_, (a4.tr b4).up (by omega) (by omega)⟩
  · rcases e with (e | e | ⟨i, x, hi, hx, e⟩) | e
    · exact Or.inl (Or.inl e)
    · exact Or.inl (Or.inr (Or.inl e))
    · rcases a3 i x hi hx with ⟨j, hj, y⟩ | y
      · exact Or.inl (Or.inr (Or.inr ⟨j, x, hj, y, e⟩))
      · exfalso
        obtain ⟨k1, k2⟩ := sdC_3 (a2.2.2.2.1 i x hi hx).2.1 e
        exact y (fun _ => by have := hb k1; omega)
    · exact Or.inr e
  · rcases b3 i x hi hx with ⟨j, hj, y⟩ | y
    · exact a3 j x hj y
    · exact Or.inr (fun z => y (a1.ol z))
theorem DDn.scr (h : DDn n T T1 ca v sd p) (hf : frm scr T1 T2) : DDn n T T2 ca v sd p := by
  obtain ⟨a1, a2, a3, a4⟩ := h
  refine ⟨a1.tr (hf.mono (S' := dS T) (fun b hb => Or.inr (Or.inr hb))).grw, a2.scr hf, fun i x hi hx => ?_, a4.fr hf⟩
  rw [hf.Q (by decide)] at hx
  exact a3 i x hi hx
theorem DDn.up {m : Nat} (h : DDn n T T1 ca v sd p) (hm : n ≤ m) : DDn m T T1 ca v sd p := ⟨h.1, h.2.1, h.2.2.1, h.2.2.2.up (by omega) (by omega)⟩
theorem DDn.ty (h0 : FAIR T 49 ca v sd p) (h : DDn n T T1 ca v sd' p') {b : Nat} (x : TRY1 T b t) : TRY1 T1 b t := h.1.ty1 x (dS_ty h0 x.1 x.2.1).1 (dS_ty h0 x.1 x.2.1).2
theorem x_mocking2 {Q : Int32 → XS → Prop} {a : Nat} (h : CS T a ca v sd) (hq : Q (nI (fa_cnt (mkC sd) 10)) T) : XI c d m_Sd_mocking [.ref a] T Q := by
  refine wx_Sd_mocking _ ?_
  suffices H : ∀ (m k : Nat), k + m = 10 → eX c d m_Sd_mocking 4 [some (.ref a), some (.int (nI (fa_cnt (mkC sd) k))), some (.int (nI k))] T (yI c Q) from H 10 0 (by omega)
  intro m
  induction m with
  | zero =>
    intro k hk
    exact wx_Sd_mocking_4 _ _ _ ⟨fun _ => by rw [show k = 10 by omega]; exact hq, fun z => absurd ((nI_leI (a := 10) (by decide) (by omega)).mpr (by omega)) z⟩
  | succ m ih =>
    intro k hk
    refine wx_Sd_mocking_4 _ _ _ ⟨fun z => absurd ((nI_leI (a := 10) (by decide) (by omega)).mp z) (by omega), fun _ => ⟨h.1.1, okn (by omega) (by decide), ?_⟩⟩
    have ih := ih (k + 1) (by omega)
    rw [fa_cnt] at ih
    rw [ix_nI (by omega), h.wh (by omega), oI_m1 (fun x hx => by have := h.w10 hx; omega), nI_1]
    refine ⟨fun z => ?_, fun z => ?_⟩
    · rw [show mkC sd k = false from decide_eq_false (fun q => q z)] at ih
      exact ih
    · rw [show mkC sd k = true from decide_eq_true z] at ih
      rw [nI_1]
      exact ih
theorem x_judge {Q : Int32 → XS → Prop} {E : Nat → XS → Prop} (hR : RL c) (h : TRX T q) (h93 : CS T 93 ca v sd) {g wt : Int32} (ok : ∀ i t, g = nI i → i < 4 → q i = some t → 0 ≤ wt.toInt → wt.toInt ≤ 3 → ∀ T', frm scr T T' → Q (jdA v (jdg v t.2.2 t.2.1 0 sd) wt) T') (bad : ¬ (0 ≤ g.toInt ∧ g.toInt ≤ 3) → E 2 (tN T 0 0 6)) (bad2 : ∀ i, g = nI i → i < 4 → q i = none → E 3 (tN T 0 0 6)) (bad3 : ∀ i t, g = nI i → i < 4 → q i = some t → ¬ (0 ≤ wt.toInt ∧ wt.toInt ≤ 3) → E 1 (tN T 0 0 6)) : XIt c (d + 6) m_X_judge [.ref 1, .int g, .int wt] T Q E := by
  have hG := h93.G
  refine wx_X_judge _ _ (x_needTray hR h (fun i b t eg hi ht hb h1 => ⟨b, rfl, x_needWithin hR (fun z1 z2 => x_trial h93 (fun T2 hf2 h2 => ?_)) (fun z => bad3 i t eg hi ht z)⟩) bad bad2)
  have ok := ok i t eg hi ht z1 z2
  have h30 := h1.2.2.2.2.1.2
  clear bad bad2 bad3 z1 z2
  generalize eR : jdg v t.2.2 t.2.1 0 sd = R at *
  have fin : ∀ (k w : Nat) (a : SD) (T1 : XS), frm scr T T1 → CS T1 173 ca v a → (k, w, a) = R → w ≤ 2 → ((¬ wt = 0 → ((¬ wt = 1 → ((¬ wt = 2 → XO c (d + 5) m_Rw_build [.ref 129, .ref 173] T1 (fun v53 T52 => (v53 = some 129 ∧ Q (xI T52 129 3) T52))) ∧ (wt = 2 → XI c (d + 5) m_Sd_mocking [.ref 173] T1 (fun v55 T54 => Q v55 T54)))) ∧ (wt = 1 → Q (nI w) T1))) ∧ (wt = 0 → ((¬ nI w = 0 → Q (nI k) T1) ∧ (nI w = 0 → Q ((-1)) T1)))) := fun k w a T1 hf ha hr hw => by
    subst hr
    unfold jdA at ok
    refine ⟨fun q0 => ⟨fun q1 => ⟨fun q2 => x_build (d := d + 3) ha (fun T3 hf3 hr => ⟨rfl, ?_⟩), fun q2 => x_mocking2 ha ?_⟩, fun q1 => ?_⟩, fun q0 => ?_⟩
    · have := ok T3 (hf.tr (rw_scr hf3))
      rw [if_neg q0, if_neg q1, if_neg q2] at this
      rw [hr.1.1.2.2.2.1]
      exact this
    · have := ok T1 hf
      rw [if_neg q0, if_neg q1, if_pos q2] at this
      exact this
    · have := ok T1 hf
      rw [if_neg q0, if_pos q1] at this
      exact this
    · have := ok T1 hf
      rw [if_pos q0] at this
      rw [show (nI w = (0 : Int32)) = (w = 0) from propext (nI_inj (b := 0) (by omega) (by decide))]
      exact ⟨fun q => by rwa [if_neg q] at this, fun q => by rwa [if_pos q] at this⟩
  suffices H : ∀ (m k : Nat) (a : SD) (T1 : XS), k + m = t.2.1 → frm scr T T1 → CS T1 173 ca v a → jdg v t.2.2 m k a = R → eX c (d + 6) m_X_judge 32 [some (.ref 1), some (.int g), some (.int wt), some (.ref b), some (.int 0), some (.int (nI k)), none, none] T1 (yt c E (yI c Q)) from H t.2.1 0 sd T2 (by omega) hf2 h2 eR
  intro m
  induction m with
  | zero =>
    intro k a T1 hk hf ha hr
    have ht1 := ty_scr hf h1
    refine wx_X_judge_32 _ _ _ _ _ ⟨ht1.1, ?_⟩
    rw [ht1.2.2.2.1]
    exact ⟨fun _ => fin k 0 a T1 hf ha hr (by omega), fun z => absurd ((nI_leI (by omega) (by omega)).mpr (by omega)) z⟩
  | succ m ih =>
    intro k a T1 hk hf ha hr
    have ht1 := ty_scr hf h1
    refine wx_X_judge_32 _ _ _ _ _ ⟨ht1.1, ?_⟩
    rw [ht1.2.2.2.1]
    refine ⟨fun z => absurd ((nI_leI (by omega) (by omega)).mp z) (by omega), fun _ => x_numberAt ht1 (by omega) (x_whyNotTold (d := d) ha (fun T3 hf3 => ?_))⟩
    have hfc := hf3.mono (S' := ctr) (fun b hb => ct1_ctr hb)
    have ha3 := hfc.CSc ha
    have hf3 := hfc.mono (S' := scr) (fun b hb => ctr_scr hb)
    have hw2 := whyT_2 v a (t.2.2 k).toInt
    have ew : (nI (whyT v a (t.2.2 k).toInt) = (0 : Int32)) = (whyT v a (t.2.2 k).toInt = 0) := propext (nI_inj (b := 0) (by omega) (by decide))
    rw [jdg] at hr
    refine ⟨fun z => ?_, fun z => ?_⟩
    · rw [ew] at z
      rw [if_pos z] at hr
      refine x_enact (d := d) ha3 (Or.inr rfl) z (fun T4 hf4 h4 => ?_)
      rw [nI_1, z]
      exact ih (k + 1) _ T4 (by omega) ((hf.tr hf3).tr (hf4.mono (fun b hb => frN_scr hb))) h4 hr
    · rw [ew] at z
      rw [if_neg z] at hr
      exact fin k _ a T3 (hf.tr hf3) ha3 hr hw2
theorem x_perform {Q : Int32 → XS → Prop} {E : Nat → XS → Prop} (hR : RL c) (h : TRX T q) (h49 : FAIR T 49 ca v sd p) {g : Int32} (ok : ∀ i t, g = nI i → i < 4 → q i = some t → ∀ T', DDn 30 T T' ca v (prf v t.2.2 t.2.1 0 sd p).2.1 (prf v t.2.2 t.2.1 0 sd p).2.2 → Q (nI (prf v t.2.2 t.2.1 0 sd p).1) T') (bad : ¬ (0 ≤ g.toInt ∧ g.toInt ≤ 3) → E 2 (tN T 0 0 6)) (bad2 : ∀ i, g = nI i → i < 4 → q i = none → E 3 (tN T 0 0 6)) : XIt c (d + 7) m_X_perform [.ref 1, .int g] T Q E := by
  refine wx_X_perform _ (x_needTray hR h (fun i b t eg hi ht hb h1 => ⟨b, rfl, ?_⟩) bad bad2)
  have ok := ok i t eg hi ht
  have h30 := h1.2.2.2.2.1.2
  clear bad bad2
  generalize eR : prf v t.2.2 t.2.1 0 sd p = R at *
  suffices H : ∀ (m k : Nat) (a : SD) (p1 : List SD) (T1 : XS), k + m = t.2.1 → DDn k T T1 ca v a p1 → prf v t.2.2 m k a p1 = R → eX c (d + 7) m_X_perform 8 [some (.ref 1), some (.int g), some (.ref b), some (.int (nI k))] T1 (yt c E (yI c Q)) from H t.2.1 0 sd p T (by omega) (DDn.rf h49) eR
  intro m
  induction m with
  | zero =>
    intro k a p1 T1 hk hd hr
    have ht1 := hd.ty h49 h1
    refine wx_X_perform_8 _ _ _ ⟨ht1.1, ?_⟩
    rw [ht1.2.2.2.1]
    subst hr
    exact ⟨fun _ => ok T1 (hd.up (by omega)), fun z => absurd ((nI_leI (by omega) (by omega)).mpr (by omega)) z⟩
  | succ m ih =>
    intro k a p1 T1 hk hd hr
    have ht1 := hd.ty h49 h1
    refine wx_X_perform_8 _ _ _ ⟨ht1.1, ?_⟩
    rw [ht1.2.2.2.1]
    rw [prf] at hr
    refine ⟨fun z => absurd ((nI_leI (by omega) (by omega)).mp z) (by omega), fun _ => x_numberAt ht1 (by omega) (x_tryDeed (d := d) hR hd.2.1 (fun z T2 hd2 => ⟨fun y => (by cases y), fun _ => ?_⟩) (fun z T2 hf2 => ⟨fun _ => ?_, fun y => by cases y⟩))⟩
    · rw [if_pos z] at hr
      rw [nI_1]
      exact ih (k + 1) _ _ T2 (by omega) (hd.step hd2) hr
    · rw [if_neg z] at hr
      subst hr
      exact ok T2 ((hd.scr hf2).up (by omega))
end JX1
