/-! deeds of the class -/
abbrev nwL : List Nat := [93, 97, 101, 105]
def nwS (b : Nat) : Prop := b ∈ nwL ∨ scr b
def dS (T : XS) (b : Nat) : Prop := remS T 49 b ∨ nwS b
section DE1
variable {c : CX} {d : Nat} {T T0 T1 T2 T' : XS} {f ca : Nat} {v : CV} {sd sd' : SD} {p : List SD}
theorem nwS_1 {b : Nat} (h : nwS b) : b % 4 = 1 := by
  rcases h with h | h
  · have : ∀ b ∈ nwL, b % 4 = 1 := by decide
    exact this b h
  · exact scr_1 h
theorem nwS_no {b : Nat} (h : b % 4 = 3) : ¬ nwS b := fun q => by have := nwS_1 q; omega
theorem nwS_d {b : Nat} (h : b ∉ nwL) (h2 : b ∉ scrL) : ¬ nwS b := fun q => q.elim h h2
theorem FAIR.now (h : FAIR T1 49 ca v sd p) (hf : frm nwS T1 T2) (hs : STD T2 93 ca sd') (ok : SOK (vG v) sd') : FAIR T2 49 ca v sd' p := by
  obtain ⟨hF, hC, ⟨hd, hl⟩, ho, hi, hP⟩ := h
  have n49 : ¬ nwS 49 := nwS_d (by decide) (by decide)
  have n89 : ¬ nwS (fP 49) := nwS_d (by decide) (by decide)
  have hcar : CAR T2 ca v := by
    rcases hC.2.1.2.1 with rfl | z
    · exact hf.car hC.2.1 (nwS_d (by decide) (by decide)) ⟨nwS_d (by decide) (by decide), nwS_d (by decide) (by decide), nwS_d (by decide) (by decide), nwS_d (by decide) (by decide), nwS_d (by decide) (by decide), nwS_d (by decide) (by decide)⟩ (fun b hb _ => nwS_no hb)
    · exact hf.car hC.2.1 (nwS_no z) ⟨nwS_no (by omega), nwS_no (by omega), nwS_no (by omega), nwS_no (by omega), nwS_no (by omega), nwS_no (by omega)⟩ (fun b hb _ => nwS_no hb)
  have eQ : xQ T2 (fP 49) = xQ T1 (fP 49) := hf.Q n89
  refine ⟨hf.frs n49 hF, ⟨hs, hcar, hC.2.2.1, ok⟩, ⟨by rw [hf.I n49]; exact hd, hl⟩, fun i b h10 hb => ?_, fun i j b h10 h10' hb hb' => ?_, fun i s hs' => ?_⟩
  · rw [eQ] at hb
    obtain ⟨o1, o2⟩ := ho i b h10 hb
    exact ⟨hf.sds o1, o2⟩
  · rw [eQ] at hb hb'
    exact hi i j b h10 h10' hb hb'
  · obtain ⟨b, h1, h2, h3⟩ := hP i s hs'
    have hlt := (List.getElem?_eq_some_iff.mp hs').1
    obtain ⟨_, o2, _⟩ := ho i b (by omega) h1
    obtain ⟨e1, e2, e3⟩ := sW_3 o2
    exact ⟨b, by rw [eQ]; exact h1, hf.std h2 (nwS_no o2) (by rw [e1]; exact nwS_no (by omega)) (by rw [e2]; exact nwS_no (by omega)) (by rw [e3]; exact nwS_no (by omega)), h3⟩
theorem scr_nw {b : Nat} (h : scr b) : nwS b := Or.inr h
theorem FAIR.scr (h : FAIR T1 49 ca v sd p) (hf : frm scr T1 T2) : FAIR T2 49 ca v sd p :=
  h.now (hf.mono (fun _ => scr_nw)) (hf.STDs h.2.1.1 (by decide)) h.2.1.2.2.2
/-- what a deed leaves -/
def DD (T T' : XS) (ca : Nat) (v : CV) (sd : SD) (p : List SD) : Prop := grw (dS T) T T' ∧ FAIR T' 49 ca v sd p ∧ (∀ i x, i < 10 → xQ T' (fP 49) i = some x → (∃ j, j < 10 ∧ xQ T (fP 49) j = some x) ∨ ¬ old T x) ∧ gw 4 35 T T'
theorem DD_of (hf0 : frm scr T T0) (hg : grw (remS T0 49) T0 T1 ∧ gw 4 35 T0 T1) (hF : FAIR T1 49 ca v sd p) (hw : ∀ i x, i < 10 → xQ T1 (fP 49) i = some x → (∃ j, j < 10 ∧ xQ T0 (fP 49) j = some x) ∨ ¬ old T0 x) (hf2 : frm nwS T1 T2) (hs : STD T2 93 ca sd') (ok : SOK (vG v) sd') : DD T T2 ca v sd' p := by
  have e0 : xQ T0 (fP 49) = xQ T (fP 49) := hf0.Q (by decide)
  have hn : xn T0 = xn T := hf0.2.1
  refine ⟨((hf0.mono (S' := dS T) (fun b hb => Or.inr (Or.inr hb))).grw.tr (hg.1.mono (fun b hb => Or.inl ?_))).tr (hf2.mono (S' := dS T) (fun b hb => Or.inr hb)).grw, hF.now hf2 hs ok, fun i x hi hx => ?_, (gw.af hf0 hg.2).fr hf2⟩
  · rcases hb with q | q | ⟨i, x, hi, hx, q⟩
    · exact Or.inl q
    · exact Or.inr (Or.inl q)
    · rw [e0] at hx
      exact Or.inr (Or.inr ⟨i, x, hi, hx, q⟩)
  · rw [hf2.Q (nwS_d (by decide) (by decide))] at hx
    rcases hw i x hi hx with ⟨j, hj, q⟩ | q
    · rw [e0] at q
      exact Or.inl ⟨j, hj, q⟩
    · refine Or.inr (fun y => q (fun y3 => ?_))
      rw [hn]
      exact y y3
theorem turn_nw {b : Nat} (h : b = sW 93 ∨ b = sM 93) : nwS b := by
  rcases h with h | h
  · exact Or.inl (by rw [h]; decide)
  · exact Or.inl (by rw [h]; decide)
theorem x_mock {Q : Int32 → XS → Prop} (hR : RL c) (h : FAIR T 49 ca v sd p) {x y : Int32} (ok : whyN v sd x.toInt y.toInt = 0 → ∀ T', DD T T' ca v (turnS sd x.toInt.toNat (some y.toInt.toNat)) (push10 p sd) → Q (nI (pop (mkb (turnS sd x.toInt.toNat (some y.toInt.toNat)).1 y.toInt.toNat 10))) T') (bad : whyN v sd x.toInt y.toInt ≠ 0 → ∀ T', frm scr T T' → Q (-(nI (whyN v sd x.toInt y.toInt))) T') : XI c (d + 5) m_X_mock [.ref 1, .int x, .int y] T Q := by
  have hG := h.2.1.G
  have h93 : CS T 93 ca v sd := h.2.1
  refine wx_X_mock _ _ (x_whyNot (d := d) h93 (fun T0 hf0 => ?_))
  have hf0 := hf0.mono (S' := scr) (fun b hb => ctr_scr (ct1_ctr hb))
  have hle : whyN v sd x.toInt y.toInt ≤ 2 := by
    unfold whyN
    split
    · split <;> omega
    · omega
  have e0 : nI (whyN v sd x.toInt y.toInt) = (0 : Int32) ↔ whyN v sd x.toInt y.toInt = 0 := nI_inj (b := 0) (by omega) (by decide)
  rw [e0]
  refine ⟨fun z => ?_, fun z => bad z T0 hf0⟩
  have ok := ok z
  have hc : 0 ≤ x.toInt ∧ x.toInt < vG v ∧ 0 ≤ y.toInt ∧ y.toInt < vG v ∧ x.toInt ≠ y.toInt := by
    unfold whyN at z
    split at z
    · assumption
    · cases z
  have ex : x = nI x.toInt.toNat := nI_of_toInt (by omega)
  have ey : y = nI y.toInt.toNat := nI_of_toInt (by omega)
  have hk : x.toInt.toNat < vG v := by omega
  have hk' : y.toInt.toNat < vG v := by omega
  have hne : y.toInt.toNat ≠ x.toInt.toNat := by omega
  clear hc z bad e0 hle
  generalize x.toInt.toNat = k at *
  generalize y.toInt.toNat = k' at *
  rw [ex, ey]
  refine x_remember (d := d + 1) hR (h.scr hf0) (fun T1 g1 f1 w1 => ?_)
  have h1 : CS T1 93 ca v sd := f1.2.1
  refine x_turn h1.1 (by omega) (fun x k hk => h1.w10 hk) (h := some k') (fun j hj => by have := Option.some.inj hj; omega) (fun T2 hf2 hs2 => ⟨okn (by omega) (by decide), ?_⟩)
  rw [ix_nI (by omega), show xA T2 101 k' = nI (mkb (turnS sd k (some k')).1 k' 10) from hs2.2.2.2.2.1 k' (by omega), bcI_nI _ (mkb_t _ _)]
  exact ok T2 (DD_of hf0 g1 f1 w1 (hf2.mono (fun b hb => turn_nw hb)) hs2 (turn_sok h1.2.2.2 hk hk' hne))
theorem spare_sok {G : Nat} (hs : SOK G sd) (g : Nat) : SOK G (turnS sd g none) := by
  refine ⟨fun x k hk => ?_, hs.2⟩
  simp only [turnS] at hk
  split at hk
  · cases hk
  · exact hs.1 x k hk
theorem x_spare {Q : Int32 → XS → Prop} {E : Nat → XS → Prop} (hR : RL c) (h : FAIR T 49 ca v sd p) {g : Int32} (ok : ∀ k, g = nI k → k < vG v → ∀ T', DD T T' ca v (turnS sd k none) (push10 p sd) → Q (oI (sd.1 k)) T') (bad : ¬ (0 ≤ g.toInt ∧ g.toInt < vG v) → E 2 (tN T 0 0 6)) : XIt c (d + 4) m_X_spare [.ref 1, .int g] T Q E := by
  have hG := h.2.1.G
  have h93 : CS T 93 ca v sd := h.2.1
  refine wx_X_spare _ (x_needGuild hR h93 (fun k hk hkG => ⟨?_, ?_⟩) bad)
  · rw [hk]; exact okn (by omega) (by decide)
  have ok := ok k hk hkG
  rw [hk, ix_nI (by omega), show xA T 97 k = oI (sd.1 k) from h93.wh (by omega)]
  refine x_remember hR h (fun T1 g1 f1 w1 => ?_)
  have h1 : CS T1 93 ca v sd := f1.2.1
  exact x_turn h1.1 (by omega) (fun x k hk => h1.w10 hk) (h := none) (fun j hj => by cases hj) (fun T2 hf2 hs2 => ok T2 (DD_of frm.rf g1 f1 w1 (hf2.mono (fun b hb => turn_nw hb)) hs2 (spare_sok h1.2.2.2 k)))
def rankS (sd : SD) (g n : Nat) : SD := (sd.1, fun x => if x = g then n else sd.2.1 x, sd.2.2)
theorem rank_sok {G : Nat} (hs : SOK G sd) {g n : Nat} (hn : n ≤ 99) : SOK G (rankS sd g n) := by
  refine ⟨hs.1, fun x hx => ?_⟩
  simp only [rankS]
  split
  · exact hn
  · exact hs.2 x hx
theorem x_rank {Q : Int32 → XS → Prop} {E : Nat → XS → Prop} (hR : RL c) (h : FAIR T 49 ca v sd p) {g n : Int32} (ok : ∀ k m, g = nI k → k < vG v → n = nI m → m ≤ 99 → ∀ T', DD T T' ca v (rankS sd k m) (push10 p sd) → Q (nI (sd.2.1 k)) T') (bad : ¬ (0 ≤ g.toInt ∧ g.toInt < vG v) → E 2 (tN T 0 0 6)) (bad2 : 0 ≤ g.toInt ∧ g.toInt < vG v → ¬ (0 ≤ n.toInt ∧ n.toInt ≤ 99) → E 1 (tN T 0 0 6)) : XIt c (d + 4) m_X_rank [.ref 1, .int g, .int n] T Q E := by
  have hG := h.2.1.G
  have h93 : CS T 93 ca v sd := h.2.1
  refine wx_X_rank _ _ (x_needGuild hR h93 (fun k hk hkG => x_needWithin hR (fun z1 z2 => ⟨?_, ?_⟩) (fun z => bad2 (by rw [hk, nI_toInt (by omega)]; omega) z)) bad)
  · rw [hk]; exact okn (by omega) (by decide)
  have z1 : 0 ≤ n.toInt := z1
  have z2 : n.toInt ≤ 99 := z2
  have en : n = nI n.toInt.toNat := nI_of_toInt (by omega)
  have hn : n.toInt.toNat ≤ 99 := by omega
  have ok := ok k _ hk hkG en hn
  generalize n.toInt.toNat = m at *
  rw [hk, en, ix_nI (by omega), show xA T 105 k = nI (sd.2.1 k) from h93.rk (by omega)]
  refine x_remember hR h (fun T1 g1 f1 w1 => ⟨okn (by omega) (by decide), ?_⟩)
  have h1 : CS T1 93 ca v sd := f1.2.1
  have hf : frm nwS T1 (tA T1 105 k (nI m)) := frm_A (Or.inl (by decide)) _ _
  refine ok _ (DD_of frm.rf g1 f1 w1 hf ?_ (rank_sok h1.2.2.2 hn))
  obtain ⟨q1, q2, q3, q4, q5, q6, q7⟩ := h1.1
  refine ⟨hf.sds q1, q2, q3, fun x hx => ?_, fun x hx => ?_, fun x hx => ?_, q7⟩
  · rw [xA_A, if_neg (by decide)]; exact q4 x hx
  · rw [xA_A, if_neg (by decide)]; exact q5 x hx
  · rw [show sR 93 = 105 from rfl, xA_A, if_pos rfl]
    unfold upd
    simp only [rankS]
    split
    · rfl
    · exact q6 x hx
/-- how many mock otherwise -/
def chgC (a b : SD) (g : Nat) : Bool := decide (a.1 g ≠ b.1 g)
theorem frN_nw {b : Nat} (h : frN 93 b) : nwS b := by
  rcases h with (h | h) | h | h | h
  · exact Or.inr (by rw [h]; decide)
  · exact Or.inr (by rw [h]; decide)
  · exact Or.inl (by rw [h]; decide)
  · exact Or.inl (by rw [h]; decide)
  · exact Or.inl (by rw [h]; decide)
theorem x_nights {Q : Int32 → XS → Prop} {E : Nat → XS → Prop} (hR : RL c) (h : FAIR T 49 ca v sd p) {n : Int32} (ok : 1 ≤ n.toInt → n.toInt ≤ 60 → ∀ T', DD T T' ca v (nit v n.toInt.toNat sd) (push10 p sd) → Q (nI (fa_cnt (chgC sd (nit v n.toInt.toNat sd)) 10)) T') (bad : ¬ (1 ≤ n.toInt ∧ n.toInt ≤ 60) → E 1 (tN T 0 0 6)) : XIt c (d + 5) m_X_nights [.ref 1, .int n] T Q E := by
  have hG := h.2.1.G
  refine wx_X_nights _ (x_needWithin hR (fun z1 z2 => ?_) bad)
  have z1 : 1 ≤ n.toInt := z1
  have z2 : n.toInt ≤ 60 := z2
  have en : n = nI n.toInt.toNat := nI_of_toInt (by omega)
  have ok := ok z1 z2
  have hn : n.toInt.toNat ≤ 60 := by omega
  generalize n.toInt.toNat = N at *
  rw [en]
  refine x_remember (d := d + 1) hR h (fun T1 g1 f1 w1 => ?_)
  have h1 : CS T1 93 ca v sd := f1.2.1
  refine x_trial h1 (fun T2 hf2 h2 => ?_)
  have h93 : CS T2 93 ca v sd := hf2.CSs h1 (by decide)
  have w213 : ∀ g, g < 10 → xA T2 213 g = oI (sd.1 g) := fun g hg => h2.wh hg
  have hf2 := hf2.mono (S' := nwS) (fun _ => scr_nw)
  clear h2
  suffices H : ∀ (m i : Nat) (T3 : XS), i + m = N → frm nwS T1 T3 → CS T3 93 ca v (nit v i sd) → (∀ g, g < 10 → xA T3 213 g = oI (sd.1 g)) → eX c (d + 5) m_X_nights 30 [some (.ref 1), some (.int (nI N)), some (.int (nI i)), none] T3 (yt c E (yI c Q)) from H N 0 T2 (by omega) hf2 h93 w213
  intro m
  induction m with
  | zero =>
    intro i T3 hm hf h3 hw
    have ei : i = N := by omega
    subst ei
    refine wx_X_nights_30 _ _ ⟨fun _ => ?_, fun z => absurd ((nI_leI (by omega) (by omega)).mpr (Nat.le_refl _)) z⟩
    have ok := ok T3 (DD_of frm.rf g1 f1 w1 hf h3.1 h3.2.2.2)
    suffices K : ∀ (q k : Nat), k + q = 10 → eX c (d + 5) m_X_nights 60 [some (.ref 1), some (.int (nI i)), some (.int (nI (fa_cnt (chgC sd (nit v i sd)) k))), some (.int (nI k))] T3 (yt c E (yI c Q)) from K 10 0 (by omega)
    intro q
    induction q with
    | zero =>
      intro k hk
      exact wx_X_nights_60 _ _ _ ⟨fun _ => by rw [show k = 10 by omega]; exact ok, fun z => absurd ((nI_leI (a := 10) (by decide) (by omega)).mpr (by omega)) z⟩
    | succ q ihq =>
      intro k hk
      refine wx_X_nights_60 _ _ _ ⟨fun z => absurd ((nI_leI (a := 10) (by decide) (by omega)).mp z) (by omega), fun _ => ⟨okn (by omega) (by decide), okn (by omega) (by decide), ?_⟩⟩
      have ihq := ihq (k + 1) (by omega)
      rw [fa_cnt] at ihq
      rw [ix_nI (by omega), hw k (by omega), show xA T3 97 k = oI ((nit v i sd).1 k) from h3.wh (by omega), oI_inj (fun x hx => by have := h1.w10 hx; omega) (fun x hx => by have := h3.w10 hx; omega), nI_1]
      refine ⟨fun z => ?_, fun z => ?_⟩
      · rw [show chgC sd (nit v i sd) k = false from decide_eq_false (fun y => y z)] at ihq
        exact ihq
      · rw [show chgC sd (nit v i sd) k = true from decide_eq_true z] at ihq
        rw [nI_1]
        exact ihq
  | succ m ih =>
    intro i T3 hm hf h3 hw
    refine wx_X_nights_30 _ _ ⟨fun z => absurd ((nI_leI (by omega) (by omega)).mp z) (by omega), fun _ => x_night (d := d) h3 (Or.inl rfl) (fun T4 hf4 h4 => ?_)⟩
    rw [nI_1]
    refine ih (i + 1) T4 (by omega) (hf.tr (hf4.mono (fun b hb => frN_nw hb))) h4 (fun g hg => ?_)
    rw [hf4.A (by rintro ((q | q) | q | q | q) <;> exact absurd q (by decide))]
    exact hw g hg
end DE1
