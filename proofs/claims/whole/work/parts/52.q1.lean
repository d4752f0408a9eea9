/-! questions of rings and of the row -/
def fld {α : Type} (F : Nat → α → α) (a : α) : Nat → α
  | 0 => a
  | n + 1 => F n (fld F a n)
def rgdF (w : Nat → Option Nat) (k : Nat) : Nat := fld (fun g acc => acc ||| ring w g) 0 k
def rgsC (v : CV) (sd : SD) (sh : Bool) (g : Nat) : Bool := decide (ring sd.1 g ≠ 0 ∧ lob (ring sd.1 g) = g) && (!sh || decide (opn sd.1 (ring sd.1 g) (vG v) = none))
def rgsF (v : CV) (sd : SD) (sh : Bool) (k : Nat) : Nat := fa_cnt (rgsC v sd sh) k
def goF (sd : SD) (k : Nat) : Option Nat × Nat := fld (fun g p => if p.2 < pop (mkb sd.1 g 10) then (some g, pop (mkb sd.1 g 10)) else p) (none, 0) k
def lgF (v : CV) (sd : SD) (k : Nat) : Nat := fld (fun g m => max m (chl sd.1 (bhd sd.1 (vG v)) (vG v) g)) 0 k
theorem goF_b (sd : SD) : ∀ k, (goF sd k).2 ≤ 10 ∧ ∀ x, (goF sd k).1 = some x → x < k
  | 0 => ⟨by show 0 ≤ 10; omega, fun x q => by cases q⟩
  | k + 1 => by
    obtain ⟨h1, h2⟩ := goF_b sd k
    show (if (goF sd k).2 < _ then _ else goF sd k).2 ≤ 10 ∧ ∀ x, (if (goF sd k).2 < _ then _ else goF sd k).1 = some x → x < k + 1
    split
    · exact ⟨pop_le _ (mkb_t _ _), fun x q => by have := Option.some.inj q; omega⟩
    · exact ⟨h1, fun x q => by have := h2 x q; omega⟩
theorem clen_le (b : Nat → Option Nat) (g : Nat) : clen b g ≤ 11 := fa_first_le _ _
theorem lgF_b (v : CV) (sd : SD) : ∀ k, lgF v sd k ≤ 11
  | 0 => by show 0 ≤ 11; omega
  | k + 1 => by
    have := lgF_b v sd k
    have h2 : chl sd.1 (bhd sd.1 (vG v)) (vG v) k ≤ 11 := clen_le _ _
    show max (lgF v sd k) _ ≤ 11
    omega
theorem mx_nI {x y : Nat} (hx : x < 2 ^ 31) (hy : y < 2 ^ 31) : mxI (nI x) (nI y) = nI (max x y) := by
  unfold mxI
  simp only [nI_ltI hx hy]
  split
  · rw [Nat.max_eq_right (by omega)]
  · rw [Nat.max_eq_left (by omega)]
theorem rgd_lt {w : Nat → Option Nat} (h : W10 w) : ∀ k, k ≤ 10 → rgdF w k < 1024
  | 0, _ => by show 0 < 1024; omega
  | k + 1, hk => Nat.or_lt_two_pow (n := 10) (rgd_lt h k (by omega)) (ring_lt h (by omega))
section Q1X
variable {c : CX} {d : Nat} {T T' : XS} {ca : Nat} {v : CV} {sd : SD}
theorem rw_scr {T T' : XS} (h : frm rwS T T') : frm scr T T' := h.mono (fun _ => rwS_scr)
theorem gle {T : XS} {v : CV} (h0 : xI T 129 0 = nI (vG v)) (hG : vG v ≤ 10) {k : Nat} (hk : k ≤ 10) : xI T 129 0 ≤ nI k ↔ vG v ≤ k := by rw [h0, nI_leI (by omega) (by omega)]
theorem x_ringed {Q : Int32 → XS → Prop} (h : CS T 93 ca v sd) (hq : ∀ T', frm scr T T' → Q (nI (rgdF sd.1 (vG v))) T') : XI c (d + 4) m_X_ringed [.ref 1] T Q := by
  have hG := h.G
  refine wx_X_ringed (x_rowNow h (fun T1 hf hr => ⟨rfl, ?_⟩))
  have hq := hq T1 (rw_scr hf)
  suffices H : ∀ (m k : Nat), k + m = vG v → eX c (d + 4) m_X_ringed 9 [some (.ref 1), some (.ref 129), some (.int (nI (rgdF sd.1 k))), some (.int (nI k))] T1 (yI c Q) from H (vG v) 0 (by omega)
  intro m
  induction m with
  | zero =>
    intro k hk
    refine wx_X_ringed_9 _ _ ⟨fun _ => by rw [show k = vG v by omega]; exact hq, fun z => absurd ((gle hr.1.1.1 hG (by omega)).mpr (by omega)) z⟩
  | succ m ih =>
    intro k hk
    refine wx_X_ringed_9 _ _ ⟨fun z => absurd ((gle hr.1.1.1 hG (by omega)).mp z) (by omega), fun _ => ⟨okn (by omega) (by decide), ?_⟩⟩
    rw [ix_nI (by omega), (hr.1.2.2.1 k (by omega)).1, fa_or, nI_1]
    exact ih (k + 1) (by omega)
theorem cnt_le {p : Nat → Bool} {k : Nat} : fa_cnt p k ≤ k := fa_cnt_le p k
theorem x_rings {Q : Int32 → XS → Prop} (h : CS T 93 ca v sd) (sh : Bool) (hq : ∀ T', frm scr T T' → Q (nI (rgsF v sd sh (vG v))) T') : XI c (d + 4) m_X_rings [.ref 1, .int (bI sh)] T Q := by
  have hG := h.G
  have hW := h.W
  refine wx_X_rings _ (x_rowNow h (fun T1 hf hr => ⟨rfl, ?_⟩))
  have hq := hq T1 (rw_scr hf)
  have h1 := hf.CSr h
  suffices H : ∀ (m k : Nat), k + m = vG v → eX c (d + 4) m_X_rings 10 [some (.ref 1), some (.int (bI sh)), some (.ref 129), some (.int (nI (rgsF v sd sh k))), some (.int (nI k)), none] T1 (yI c Q) from H (vG v) 0 (by omega)
  intro m
  induction m with
  | zero =>
    intro k hk
    refine wx_X_rings_10 _ _ _ ⟨fun _ => by rw [show k = vG v by omega]; exact hq, fun z => absurd ((gle hr.1.1.1 hG (by omega)).mpr (by omega)) z⟩
  | succ m ih =>
    intro k hk
    refine wx_X_rings_10 _ _ _ ⟨fun z => absurd ((gle hr.1.1.1 hG (by omega)).mp z) (by omega), fun _ => ⟨okn (by omega) (by decide), ?_⟩⟩
    rw [ix_nI (by omega), (hr.1.2.2.1 k (by omega)).1, nI_1, nI_1]
    have ih := ih (k + 1) (by omega)
    have yes : rgsC v sd sh k = true → eX c (d + 4) m_X_rings 10 [some (.ref 1), some (.int (bI sh)), some (.ref 129), some (.int (nI (rgsF v sd sh k + 1))), some (.int (nI (k + 1))), none] T1 (yI c Q) := fun q => by
      rw [show rgsF v sd sh (k + 1) = rgsF v sd sh k + 1 from fa_cnt_yes q] at ih
      exact ih
    have no : rgsC v sd sh k = false → eX c (d + 4) m_X_rings 10 [some (.ref 1), some (.int (bI sh)), some (.ref 129), some (.int (nI (rgsF v sd sh k))), some (.int (nI (k + 1))), none] T1 (yI c Q) := fun q => by
      rw [show rgsF v sd sh (k + 1) = rgsF v sd sh k from fa_cnt_no q] at ih
      exact ih
    refine x_leastOf (ring_lt hW (by omega)) ?_
    have e1 : oI (lbo (ring sd.1 k)) = nI k ↔ (ring sd.1 k ≠ 0 ∧ lob (ring sd.1 k) = k) := by
      unfold lbo
      by_cases q : ring sd.1 k = 0
      · rw [if_pos q, oI_some (fun j hj => by cases hj) (by omega)]
        exact ⟨fun z => (by cases z), fun z => absurd q z.1⟩
      · rw [if_neg q, oI_some (fun j hj => by have := Option.some.inj hj; have := lob_10 (n := ring sd.1 k); omega) (by omega)]
        exact ⟨fun z => ⟨q, Option.some.inj z⟩, fun z => by rw [z.2]⟩
    rw [e1]
    refine ⟨fun z => no (by unfold rgsC; rw [decide_eq_false z]; rfl), fun z => ⟨fun z2 => yes (by unfold rgsC; rw [decide_eq_true z, z2]; rfl), fun z2 => x_opening h1 hr.1.1.1 ?_⟩⟩
    rw [oI_none (fun j hj => by have := (opn_is hj).1; omega)]
    exact ⟨fun z3 => no (by unfold rgsC; rw [decide_eq_true z, z2, decide_eq_false z3]; rfl), fun z3 => yes (by unfold rgsC; rw [decide_eq_true z, z2, decide_eq_true z3]; rfl)⟩
theorem x_cakes {Q : Int32 → XS → Prop} (h : CS T 93 ca v sd) (hq : ∀ T', frm scr T T' → Q (nI (cakS v sd)) T') : XI c (d + 4) m_X_cakes [.ref 1] T Q :=
  wx_X_cakes (x_rowNow h (fun T1 hf hr => ⟨rfl, by rw [hr.1.1.2.2.2.1]; exact hq T1 (rw_scr hf)⟩))
theorem x_chains {Q : Int32 → XS → Prop} (h : CS T 93 ca v sd) (hq : ∀ T', frm scr T T' → Q (nI (chnS v sd)) T') : XI c (d + 4) m_X_chains [.ref 1] T Q :=
  wx_X_chains (x_rowNow h (fun T1 hf hr => ⟨rfl, by rw [hr.1.1.2.2.2.2]; exact hq T1 (rw_scr hf)⟩))
theorem x_length {Q : Int32 → XS → Prop} (h : CS T 93 ca v sd) (hq : ∀ T', frm scr T T' → Q (nI (slen v (rowL v sd))) T') : XI c (d + 4) m_X_length [.ref 1] T Q :=
  wx_X_length (x_rowNow h (fun T1 hf hr => ⟨rfl, by rw [hr.1.1.2.2.1]; exact hq T1 (rw_scr hf)⟩))
/-- the k-th of the row -/
def wlkF (v : CV) (sd : SD) (k : Nat) : Option Nat := (rowL v sd)[k]?
theorem x_walks {Q : Int32 → XS → Prop} {E : Nat → XS → Prop} (hR : RL c) (h : CS T 93 ca v sd) {k : Int32} (ok : 0 ≤ k.toInt → ∀ T', frm scr T T' → Q (oI (wlkF v sd k.toInt.toNat)) T') (bad : k.toInt < 0 → E 1 (tN T 0 0 6)) : XIt c (d + 4) m_X_walks [.ref 1, .int k] T Q E := by
  have e0 : ((0 : Int32).toInt : Int) = 0 := rfl
  have hl := h.so.len
  refine wx_X_walks hR _ ⟨fun z => x_rowNow h (fun T1 hf hr => ⟨rfl, ?_⟩), fun z => bad (by rw [fa_le] at z; omega)⟩
  rw [fa_le] at z
  have ok := ok (by omega) T1 (rw_scr hf)
  have ek : k = nI k.toInt.toNat := nI_of_toInt (by omega)
  have hb := (fb_rng k).2
  have hn : k.toInt.toNat < 2 ^ 31 := by omega
  generalize k.toInt.toNat = n at *
  rw [ek, hr.1.1.2.1, nI_leI (by omega) hn]
  unfold wlkF at ok
  refine ⟨fun q => ?_, fun q => ⟨okn (by omega) (by decide), ?_⟩⟩
  · rw [List.getElem?_eq_none q] at ok
    exact ok
  · obtain ⟨x, hx⟩ : ∃ x, (rowL v sd)[n]? = some x := ⟨_, List.getElem?_eq_getElem (by omega)⟩
    rw [hx] at ok
    rw [ix_nI hn, hr.1.2.1 n x hx]
    exact ok
theorem x_place {Q : Int32 → XS → Prop} {E : Nat → XS → Prop} (hR : RL c) (h : CS T 93 ca v sd) {g : Int32} (ok : ∀ k, g = nI k → k < vG v → ∀ T', frm scr T T' → Q (nI ((rowL v sd).idxOf k)) T') (bad : ¬ (0 ≤ g.toInt ∧ g.toInt < vG v) → E 2 (tN T 0 0 6)) : XIt c (d + 4) m_X_place [.ref 1, .int g] T Q E := by
  have hG := h.G
  refine wx_X_place _ (x_needGuild hR h (fun k e hk => x_rowNow h (fun T1 hf hr => ⟨rfl, ?_⟩)) bad)
  have ok := ok k e hk T1 (rw_scr hf)
  rw [e, ix_nI (by omega), (hr.1.2.2.2 k (h.so.mem hk) (by omega)).1]
  exact ⟨okn (by omega) (by decide), ok⟩
theorem x_chainOf {Q : Int32 → XS → Prop} {E : Nat → XS → Prop} (hR : RL c) (h : CS T 93 ca v sd) {g : Int32} (ok : ∀ k, g = nI k → k < vG v → ∀ T', frm scr T T' → Q (nI (chl sd.1 (bhd sd.1 (vG v)) (vG v) k)) T') (bad : ¬ (0 ≤ g.toInt ∧ g.toInt < vG v) → E 2 (tN T 0 0 6)) : XIt c (d + 4) m_X_chainOf [.ref 1, .int g] T Q E := by
  have hG := h.G
  refine wx_X_chainOf _ (x_needGuild hR h (fun k e hk => x_rowNow h (fun T1 hf hr => ⟨rfl, ?_⟩)) bad)
  have ok := ok k e hk T1 (rw_scr hf)
  rw [e, ix_nI (by omega), hr.2 k (h.so.mem hk) (by omega)]
  exact ⟨okn (by omega) (by decide), ok⟩
theorem x_longest {Q : Int32 → XS → Prop} (h : CS T 93 ca v sd) (hq : ∀ T', frm scr T T' → Q (nI (lgF v sd (vG v))) T') : XI c (d + 4) m_X_longest [.ref 1] T Q := by
  have hG := h.G
  refine wx_X_longest (x_rowNow h (fun T1 hf hr => ⟨rfl, ?_⟩))
  have hq := hq T1 (rw_scr hf)
  suffices H : ∀ (m k : Nat), k + m = vG v → eX c (d + 4) m_X_longest 9 [some (.ref 1), some (.ref 129), some (.int (nI (lgF v sd k))), some (.int (nI k))] T1 (yI c Q) from H (vG v) 0 (by omega)
  intro m
  induction m with
  | zero =>
    intro k hk
    refine wx_X_longest_9 _ _ ⟨fun _ => by rw [show k = vG v by omega]; exact hq, fun z => absurd ((gle hr.1.1.1 hG (by omega)).mpr (by omega)) z⟩
  | succ m ih =>
    intro k hk
    refine wx_X_longest_9 _ _ ⟨fun z => absurd ((gle hr.1.1.1 hG (by omega)).mp z) (by omega), fun _ => ⟨okn (by omega) (by decide), ?_⟩⟩
    rw [ix_nI (by omega), hr.2 k (h.so.mem (by omega)) (by omega), mx_nI (by have := lgF_b v sd k; omega) (by have : chl sd.1 (bhd sd.1 (vG v)) (vG v) k ≤ 11 := clen_le _ _; omega), nI_1]
    exact ih (k + 1) (by omega)
theorem x_goat {Q : Int32 → XS → Prop} (h : CS T 93 ca v sd) (hq : Q (oI (goF sd (vG v)).1) T) : XI c (d + 1) m_X_goat [.ref 1] T Q := by
  have hG := h.G
  refine wx_X_goat ?_
  suffices H : ∀ (m k : Nat), k + m = vG v → eX c (d + 1) m_X_goat 15 [some (.ref 1), some (.ref 93), some (.int (oI (goF sd k).1)), some (.int (nI (goF sd k).2)), some (.int (nI k)), none] T (yI c Q) from H (vG v) 0 (by omega)
  have hgl : ∀ k, k ≤ 10 → (xI T ca 1 ≤ nI k ↔ vG v ≤ k) := fun k hk => by rw [h.gs, nI_leI (by omega) (by omega)]
  intro m
  induction m with
  | zero =>
    intro k hk
    refine wx_X_goat_15 _ _ _ ⟨ca, h.fc, h.2.1.1, fun _ => by rw [show k = vG v by omega]; exact hq, fun z => absurd ((hgl k (by omega)).mpr (by omega)) z⟩
  | succ m ih =>
    intro k hk
    have hb := goF_b sd k
    have hp := pop_le _ (mkb_t sd.1 k)
    refine wx_X_goat_15 _ _ _ ⟨ca, h.fc, h.2.1.1, fun z => absurd ((hgl k (by omega)).mp z) (by omega), fun _ => ⟨okn (by omega) (by decide), ?_⟩⟩
    have e1 : xA T 101 k = nI (mkb sd.1 k 10) := h.mk (by omega)
    rw [ix_nI (by omega), e1, bcI_nI _ (mkb_t _ _), nI_leI (by omega) (by omega), nI_1]
    have ih := ih (k + 1) (by omega)
    have e2 : goF sd (k + 1) = if (goF sd k).2 < pop (mkb sd.1 k 10) then (some k, pop (mkb sd.1 k 10)) else goF sd k := rfl
    rw [e2] at ih
    refine ⟨fun z => ?_, fun z => ?_⟩
    · rw [if_neg (by omega)] at ih; exact ih
    · rw [if_pos (by omega)] at ih; exact ih
end Q1X
section Q1R
variable {c : CX} {d : Nat} {s s' : RS} {v : CV} {a : SD}
theorem r_ringed {Q : Int32 → RS → Prop} (h : KR s v a) (hq : ∀ s', SQ s s' 0 → Q (nI (rgdF a.1 (vG v))) s') : RI c (d + 2) m_R_ringed [.ref 2] s Q := by
  have hG := h.2.2.1.1
  have h1 := (SQ.th s 0).kr h
  have hq := hq _ (SQ.th s 0)
  refine w_R_ringed ?_
  suffices H : ∀ (m k : Nat), k + m = vG v → eR c (d + 2) m_R_ringed 9 [some (.ref 2), some (.int (nI (rgdF a.1 k))), some (.int (nI k))] (rF s 4 0) (pI c Q) from H (vG v) 0 (by omega)
  intro m
  induction m with
  | zero =>
    intro k hk
    refine w_R_ringed_9 _ _ ⟨fun _ => by rw [show k = vG v by omega]; exact hq, fun z => absurd ((h1.gle (by omega)).mpr (by omega)) z⟩
  | succ m ih =>
    intro k hk
    refine w_R_ringed_9 _ _ ⟨fun z => absurd ((h1.gle (by omega)).mp z) (by omega), fun _ => s_ringOf h1 (by omega) ?_⟩
    rw [fa_or, nI_1]
    exact ih (k + 1) (by omega)
theorem r_rings {Q : Int32 → RS → Prop} (h : KR s v a) (sh : Bool) (hq : ∀ s', SQ s s' 0 → Q (nI (rgsF v a sh (vG v))) s') : RI c (d + 3) m_R_rings [.ref 2, .int (bI sh)] s Q := by
  have hG := h.2.2.1.1
  have hW := h.W
  have h1 := (SQ.th s 0).kr h
  have hq := hq _ (SQ.th s 0)
  refine w_R_rings _ ?_
  suffices H : ∀ (m k : Nat), k + m = vG v → eR c (d + 3) m_R_rings 9 [some (.ref 2), some (.int (bI sh)), some (.int (nI (rgsF v a sh k))), some (.int (nI k)), none] (rF s 4 0) (pI c Q) from H (vG v) 0 (by omega)
  intro m
  induction m with
  | zero =>
    intro k hk
    refine w_R_rings_9 _ _ _ ⟨fun _ => by rw [show k = vG v by omega]; exact hq, fun z => absurd ((h1.gle (by omega)).mpr (by omega)) z⟩
  | succ m ih =>
    intro k hk
    refine w_R_rings_9 _ _ _ ⟨fun z => absurd ((h1.gle (by omega)).mp z) (by omega), fun _ => s_ringOf h1 (by omega) ?_⟩
    have rl := ring_lt hW (show k < 10 by omega)
    rw [nI_1, nI_1, show nI (rgsF v a sh k) + 0 = nI (rgsF v a sh k) from Int32.add_zero _, nI_z (by omega)]
    have ih := ih (k + 1) (by omega)
    have yes : rgsC v a sh k = true → eR c (d + 3) m_R_rings 9 [some (.ref 2), some (.int (bI sh)), some (.int (nI (rgsF v a sh k + 1))), some (.int (nI (k + 1))), none] (rF s 4 0) (pI c Q) := fun q => by
      rw [show rgsF v a sh (k + 1) = rgsF v a sh k + 1 from fa_cnt_yes q] at ih
      exact ih
    have no : rgsC v a sh k = false → eR c (d + 3) m_R_rings 9 [some (.ref 2), some (.int (bI sh)), some (.int (nI (rgsF v a sh k))), some (.int (nI (k + 1))), none] (rF s 4 0) (pI c Q) := fun q => by
      rw [show rgsF v a sh (k + 1) = rgsF v a sh k from fa_cnt_no q] at ih
      exact ih
    refine ⟨fun z => no (by unfold rgsC; rw [decide_eq_false (fun q => q.1 z)]; rfl), fun z => s_firstOf rl z ?_⟩
    rw [nI_inj lob_10 (by omega)]
    refine ⟨fun z2 => no (by unfold rgsC; rw [decide_eq_false (fun q => z2 q.2)]; rfl), fun z2 => ⟨fun z3 => yes (by unfold rgsC; rw [decide_eq_true ⟨z, z2⟩, z3]; rfl), fun z3 => s_isShut h1 (by omega) ?_⟩⟩
    refine ⟨fun z4 => no (by unfold rgsC; rw [decide_eq_true ⟨z, z2⟩, z3, z4]; rfl), fun z4 => yes (by unfold rgsC; rw [decide_eq_true ⟨z, z2⟩, z3, z4]; rfl)⟩
theorem r_lays {Q : RS → Prop} (h : KR s v a) (hq : ∀ s', SQ s s' 0 → KR s' v a → ROWR s' v a → Q s') : RV c (d + 4) m_R_laysRow [.ref 2] (rF s 4 0) Q :=
  s_laysRow ((SQ.th s 0).kr h) (fun s' hf hr => hq s' ((SQ.th s 0).row hf) (((SQ.th s 0).row hf).kr h) hr)
theorem r_cakes {Q : Int32 → RS → Prop} (h : KR s v a) (hq : ∀ s', SQ s s' 0 → Q (nI (cakS v a)) s') : RI c (d + 5) m_R_cakes [.ref 2] s Q :=
  w_R_cakes (r_lays h (fun s' hs _ hr => by rw [hr.1.2.1]; exact hq s' hs))
theorem r_chains {Q : Int32 → RS → Prop} (h : KR s v a) (hq : ∀ s', SQ s s' 0 → Q (nI (chnS v a)) s') : RI c (d + 5) m_R_chains [.ref 2] s Q :=
  w_R_chains (r_lays h (fun s' hs _ hr => by rw [hr.1.2.2]; exact hq s' hs))
theorem r_length {Q : Int32 → RS → Prop} (h : KR s v a) (hq : ∀ s', SQ s s' 0 → Q (nI (slen v (rowL v a))) s') : RI c (d + 5) m_R_length [.ref 2] s Q :=
  w_R_length (r_lays h (fun s' hs _ hr => by
    have hl := h.so.len
    rw [hr.1.1, ix_nI (by omega), hr.2.2.1 _ (Nat.le_refl _), List.take_length]
    exact ⟨okn (by omega) (by decide), hq s' hs⟩))
theorem r_walks {Q : Int32 → RS → Prop} (h : KR s v a) {k : Int32} (ok : 0 ≤ k.toInt → ∀ s', SQ s s' 0 → Q (oI (wlkF v a k.toInt.toNat)) s') (bad : k.toInt < 0 → ∀ s', SQ s s' 1 → Q 0 s') : RI c (d + 5) m_R_walks [.ref 2, .int k] s Q := by
  have e0 : ((0 : Int32).toInt : Int) = 0 := rfl
  have hl := h.so.len
  refine w_R_walks _ ⟨fun z => r_lays h (fun s' hs _ hr => ?_), fun z => bad (by rw [fa_le] at z; omega) _ (SQ.th2 s 0 1)⟩
  rw [fa_le] at z
  have ok := ok (by omega) s' hs
  have ek : k = nI k.toInt.toNat := nI_of_toInt (by omega)
  have hb := (fb_rng k).2
  have hn : k.toInt.toNat < 2 ^ 31 := by omega
  generalize k.toInt.toNat = n at *
  rw [ek, hr.1.1, nI_leI (by omega) hn]
  unfold wlkF at ok
  refine ⟨fun q => ?_, fun q => ⟨okn (by omega) (by decide), ?_⟩⟩
  · rw [List.getElem?_eq_none q] at ok
    exact ok
  · obtain ⟨x, hx⟩ : ∃ x, (rowL v a)[n]? = some x := ⟨_, List.getElem?_eq_getElem (by omega)⟩
    rw [hx] at ok
    rw [ix_nI hn, hr.2.1 n x hx]
    exact ok
/-- a guild of the reference, or none such -/
theorem KR.isg (h : KR s v a) {g : Int32} {P Q : Prop} (ok : ∀ k, g = nI k → k < vG v → P) (bad : ¬ (0 ≤ g.toInt ∧ g.toInt < vG v) → Q) : ((wth g.toInt64 0 (s.2.1 1 1 - 1).toInt64 = true → P) ∧ (wth g.toInt64 0 (s.2.1 1 1 - 1).toInt64 = false → Q)) := by
  rw [h.1.2.1]
  exact ⟨fun z => by obtain ⟨k, h1, h2⟩ := isg_t h.2.2.1.1 z; exact ok k h2 h1, fun z => bad (isg_f h.2.2.1.1 z)⟩
theorem r_place {Q : Int32 → RS → Prop} (h : KR s v a) {g : Int32} (ok : ∀ k, g = nI k → k < vG v → ∀ s', SQ s s' 0 → Q (nI ((rowL v a).idxOf k)) s') (bad : ¬ (0 ≤ g.toInt ∧ g.toInt < vG v) → ∀ s', SQ s s' 1 → Q 0 s') : RI c (d + 5) m_R_place [.ref 2, .int g] s Q := by
  have hG := h.2.2.1.1
  refine w_R_place _ (h.isg (fun k e hk => r_lays h (fun s' hs _ hr => ?_)) (fun q => bad q _ (SQ.th2 s 0 1)))
  rw [e, ix_nI (by omega), hr.2.2.2 k (h.so.mem hk) (by omega)]
  exact ⟨okn (by omega) (by decide), ok k e hk s' hs⟩
theorem r_goat {Q : Int32 → RS → Prop} (h : KR s v a) (hq : ∀ s', SQ s s' 0 → Q (oI (goF a (vG v)).1) s') : RI c (d + 2) m_R_goat [.ref 2] s Q := by
  have hG := h.2.2.1.1
  have h1 := (SQ.th s 0).kr h
  have hq := hq _ (SQ.th s 0)
  refine w_R_goat ?_
  suffices H : ∀ (m k : Nat), k + m = vG v → eR c (d + 2) m_R_goat 11 [some (.ref 2), some (.int (oI (goF a k).1)), some (.int (nI (goF a k).2)), some (.int (nI k)), none] (rF s 4 0) (pI c Q) from H (vG v) 0 (by omega)
  intro m
  induction m with
  | zero =>
    intro k hk
    refine w_R_goat_11 _ _ _ ⟨fun _ => by rw [show k = vG v by omega]; exact hq, fun z => absurd ((h1.gle (by omega)).mpr (by omega)) z⟩
  | succ m ih =>
    intro k hk
    have hb := goF_b a k
    have hp := pop_le _ (mkb_t a.1 k)
    refine w_R_goat_11 _ _ _ ⟨fun z => absurd ((h1.gle (by omega)).mp z) (by omega), fun _ => s_mk h1 (by omega) (s_size (mkb_t _ _) ?_)⟩
    rw [nI_ltI (by omega) (by omega), nI_1]
    have ih := ih (k + 1) (by omega)
    have e2 : goF a (k + 1) = if (goF a k).2 < pop (mkb a.1 k 10) then (some k, pop (mkb a.1 k 10)) else goF a k := rfl
    rw [e2] at ih
    refine ⟨fun z => ?_, fun z => ?_⟩
    · rw [if_pos z] at ih; exact ih
    · rw [if_neg z] at ih; exact ih
end Q1R
