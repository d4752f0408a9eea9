/-! weeks, what was seen: of the class -/
def uu (x : Int32) : Nat := x.toUInt32.toNat / 65536
theorem uu_lt (x : Int32) : uu x < 65536 := by
  have := UInt32.toNat_lt x.toUInt32
  unfold uu
  omega
theorem uu_sh (x : Int32) : (x.toUInt32 >>> ((16 : Int32).toUInt32 &&& Int32.toUInt32 31)).toInt32 = nI (uu x) := by
  have e : (x.toUInt32 >>> ((16 : Int32).toUInt32 &&& Int32.toUInt32 31)).toNat = uu x := by
    rw [UInt32.toNat_shiftRight, show ((16 : Int32).toUInt32 &&& Int32.toUInt32 31).toNat % 32 = 16 by decide, Nat.shiftRight_eq_div_pow]
    rfl
  refine Int32.toBitVec_inj.mp (BitVec.eq_of_toNat_eq ?_)
  show (x.toUInt32 >>> ((16 : Int32).toUInt32 &&& Int32.toUInt32 31)).toNat = (nI (uu x)).toBitVec.toNat
  rw [e]
  show _ = (BitVec.ofNat 32 (uu x)).toNat
  rw [BitVec.toNat_ofNat, Nat.mod_eq_of_lt]
  have := uu_lt x
  omega
theorem uu_rem (x : Int32) {G : Nat} (h : 0 < G) (h2 : G ≤ 10) : nI (uu x) - nI (uu x) / nI G * nI G = nI (uu x % G) := pk_rem (by have := uu_lt x; omega) h (by omega)
/-- a deed drawn -/
def wkD (G : Nat) (x : Int32) : Int × Int32 := if uu (drw x) % 3 = 0 then (-1, drw x) else if uu (drw x) % 3 = 1 then (((100 * (uu (drw (drw x)) % G) + uu (drw (drw (drw x))) % G : Nat) : Int), drw (drw (drw x))) else (((100 * (uu (drw (drw x)) % G) + 99 : Nat) : Int), drw (drw x))
def wkk (v : CV) : Nat → Int32 → Nat → SD → List SD → Nat × SD × List SD
  | 0, _, n, a, p => (n, a, p)
  | m + 1, x, n, a, p => if whyT v a (wkD (vG v) x).1 = 0 then wkk v m (wkD (vG v) x).2 (n + 1) (doS v a (wkD (vG v) x).1) (push10 p a) else wkk v m (wkD (vG v) x).2 n a p
/-- as it is seen -/
def sgO (G : Nat) (z : Int64) : Prop := z.toInt = 99 ∨ (-1 ≤ z.toInt ∧ z.toInt < G)
def lkB (f : Nat → Int64) (w : Nat → Option Nat) (G : Nat) : Bool := decide (∀ g, g < G → f g = -1 ∨ f g = spL (w g))
def snN (v : CV) (f : Nat → Int64) (sd : SD) : Nat := fa_first (fun i => lkB f (nit v i sd).1 (vG v)) 201
def snA (v : CV) (f : Nat → Int64) (sd : SD) : Int32 := if snN v f sd = 201 then -1 else nI (snN v f sd)
section WX1
variable {c : CX} {d n : Nat} {T T1 T2 T' : XS} {ca : Nat} {t : TY} {q : Nat → Option TY} {v : CV} {sd sd' : SD} {p p' : List SD}
theorem l100 : ∀ a, a < 10 → ((100 : Int64) * (nI a).toInt64) + 99 = lN (100 * a + 99) := by decide +kernel
theorem l100b : ∀ a, a < 10 → ∀ b, b < 10 → (lN (100 * a + 99) - 99) + (nI b).toInt64 = lN (100 * a + b) := by decide +kernel
theorem x_week {Q : Int32 → XS → Prop} {E : Nat → XS → Prop} (hR : RL c) (h49 : FAIR T 49 ca v sd p) {x n : Int32} (ok : 1 ≤ n.toInt → n.toInt ≤ 30 → 0 < vG v → ∀ T', DDn 30 T T' ca v (wkk v n.toInt.toNat x 0 sd p).2.1 (wkk v n.toInt.toNat x 0 sd p).2.2 → Q (nI (wkk v n.toInt.toNat x 0 sd p).1) T') (bad : ¬ (1 ≤ n.toInt ∧ n.toInt ≤ 30) → E 1 (tN T 0 0 6)) (bad2 : 1 ≤ n.toInt ∧ n.toInt ≤ 30 → ¬ 0 < vG v → E 3 (tN T 0 0 6)) : XIt c (d + 7) m_X_week [.ref 1, .int x, .int n] T Q E := by
  have h93 : CS T 93 ca v sd := h49.2.1
  have hG := h93.G
  refine wx_X_week hR _ _ (x_needWithin hR (fun z1 z2 => ⟨ca, h93.fc, h93.2.1.1, ?_⟩) bad)
  have z1 : 1 ≤ n.toInt := z1
  have z2 : n.toInt ≤ 30 := z2
  rw [h93.gs, show ((0 : Int32) < nI (vG v)) = (0 < vG v) from propext (nI_ltI (a := 0) (by decide) (by omega))]
  refine ⟨fun h0 => ?_, fun h0 => bad2 ⟨z1, z2⟩ h0⟩
  have ok := ok z1 z2 h0
  have en : n = nI n.toInt.toNat := nI_of_toInt (by omega)
  have hn : n.toInt.toNat ≤ 30 := by omega
  generalize n.toInt.toNat = N at *
  rw [en]
  clear bad bad2 z1 z2 en
  generalize eR : wkk v N x 0 sd p = R at *
  suffices H : ∀ (m k r : Nat) (y : Int32) (a : SD) (p1 : List SD) (T1 : XS), k + m = N → r ≤ k → DDn k T T1 ca v a p1 → wkk v m y r a p1 = R → eX c (d + 7) m_X_week 44 [some (.ref 1), some (.int x), some (.int (nI N)), some (.int (nI (vG v))), some (.int y), some (.int (nI r)), some (.int (nI k)), none, none, none] T1 (yt c E (yI c Q)) from H N 0 0 x sd p T (by omega) (by omega) (DDn.rf h49) eR
  intro m
  induction m with
  | zero =>
    intro k r y a p1 T1 hk hr hd he
    refine wx_X_week_44 _ _ _ _ _ _ ⟨fun _ => ?_, fun z => absurd ((nI_leI (by omega) (by omega)).mpr (by omega)) z⟩
    subst he
    exact ok T1 (hd.up (by omega))
  | succ m ih =>
    intro k r y a p1 T1 hk hr hd he
    rw [wkk] at he
    have go : ∀ (w : Int32) (z : Int64), z.toInt = (wkD (vG v) y).1 → ∀ l7, eX c (d + 7) m_X_week 131 [some (.ref 1), some (.int x), some (.int (nI N)), some (.int (nI (vG v))), some (.int (wkD (vG v) y).2), some (.int (nI r)), some (.int (nI k)), some (.int l7), some (.long z), none] T1 (yt c E (yI c Q)) := fun w z hz l7 => by
      refine wx_X_week_131 _ _ _ _ _ _ _ _ (x_tryDeed (d := d) hR hd.2.1 (fun y1 T2 hd2 => ⟨fun y => (by cases y), fun _ => ?_⟩) (fun y1 T2 hf2 => ⟨fun _ => ?_, fun y => by cases y⟩))
      · rw [hz] at y1 hd2
        rw [if_pos y1] at he
        rw [nI_1, nI_1]
        exact ih (k + 1) (r + 1) _ _ _ T2 (by omega) (by omega) (hd.step hd2) he
      · rw [hz] at y1
        rw [if_neg y1] at he
        rw [nI_1]
        exact ih (k + 1) r _ _ _ T2 (by omega) (by omega) ((hd.scr hf2).up (by omega)) he
    have a1 : uu (drw (drw y)) % vG v < vG v := Nat.mod_lt _ h0
    have a2 : uu (drw (drw (drw y))) % vG v < vG v := Nat.mod_lt _ h0
    have hG0 : ¬ nI (vG v) = 0 := fun z => by have := (nI_inj (b := 0) (by omega) (by decide)).mp z; omega
    have u3 := Nat.mod_lt (uu (drw y)) (show 0 < 3 by decide)
    refine wx_X_week_44 _ _ _ _ _ _ ⟨fun z => absurd ((nI_leI (by omega) (by omega)).mp z) (by omega), fun _ => ?_⟩
    rw [uu_sh, uu_sh, show nI (uu (drw y)) - nI (uu (drw y)) / 3 * 3 = nI (uu (drw y) % 3) from uu_rem (drw y) (G := 3) (by decide) (by decide), uu_rem _ h0 hG, l100 _ (by omega)]
    unfold wkD at go he
    refine ⟨fun z => ?_, fun z => ⟨hG0, ?_⟩⟩
    · have z := (nI_inj (b := 0) (by omega) (by decide)).mp z
      refine wx_X_week_101 _ _ _ _ _ _ _ _ ⟨fun _ => ?_, fun z2 => absurd ((nI_inj (b := 1) (by omega) (by decide)).mp z2) (by omega)⟩
      rw [if_pos z] at go
      exact go 0 (-1) rfl _
    · have z : ¬ uu (drw y) % 3 = 0 := fun w => z (by rw [w]; rfl)
      rw [if_neg z] at go
      refine wx_X_week_101 _ _ _ _ _ _ _ _ ⟨fun z2 => ?_, fun z2 => ⟨hG0, ?_⟩⟩
      · have z2 : ¬ uu (drw y) % 3 = 1 := fun w => z2 (by rw [w]; rfl)
        rw [if_neg z2] at go
        exact go 0 _ (lN_toInt (by omega)) _
      · have z2 := (nI_inj (b := 1) (by omega) (by decide)).mp z2
        rw [if_pos z2] at go
        rw [uu_sh, uu_rem _ h0 hG, l100b _ (by omega) _ (by omega)]
        exact go 0 _ (lN_toInt (by omega)) _
theorem x_needSight {Q : XS → Prop} {E : Nat → XS → Prop} (hR : RL c) (h93 : CS T 93 ca v sd) {b : Nat} (h1 : TRY1 T b t) (ok : t.2.1 = vG v → (∀ g, g < vG v → sgO (vG v) (t.2.2 g)) → Q T) (bad : ¬ (t.2.1 = vG v ∧ ∀ g, g < vG v → sgO (vG v) (t.2.2 g)) → E 1 (tN T 0 0 6)) : XVt c (d + 1) m_X_needSight [.ref 1, .ref b] T Q E := by
  have hG := h93.G
  have h30 := h1.2.2.2.2.1.2
  refine wx_X_needSight hR _ ⟨ca, h93.fc, h93.2.1.1, h1.1, ?_⟩
  rw [h1.2.2.2.1, h93.gs, show (nI t.2.1 = nI (vG v)) = (t.2.1 = vG v) from propext (nI_inj (by omega) (by omega))]
  refine ⟨fun e => ?_, fun e => bad (fun z => e z.1)⟩
  suffices H : ∀ (m k : Nat), k + m = vG v → (∀ g, g < k → sgO (vG v) (t.2.2 g)) → eX c (d + 1) m_X_needSight 35 [some (.ref 1), some (.ref b), some (.int (nI (vG v))), some (.int (nI k)), none, none] T (yt c E (yV c Q)) from H (vG v) 0 (by omega) (fun g hg => by omega)
  intro m
  induction m with
  | zero =>
    intro k hk ha
    exact wx_X_needSight_35 hR _ _ _ ⟨fun _ => ok e (fun g hg => ha g (by omega)), fun z => absurd ((nI_leI (by omega) (by omega)).mpr (by omega)) z⟩
  | succ m ih =>
    intro k hk ha
    refine wx_X_needSight_35 hR _ _ _ ⟨fun z => absurd ((nI_leI (by omega) (by omega)).mp z) (by omega), fun _ => ⟨h1.1, x_numberAt h1 (by omega) ?_⟩⟩
    have go : sgO (vG v) (t.2.2 k) → eX c (d + 1) m_X_needSight 35 [some (.ref 1), some (.ref b), some (.int (nI (vG v))), some (.int (nI k + 1)), none, none] T (yt c E (yV c Q)) := fun z => by
      rw [nI_1]
      refine ih (k + 1) (by omega) (fun g hg => ?_)
      rcases Nat.lt_or_ge g k with y | y
      · exact ha g y
      · rw [show g = k by omega]; exact z
    have no : ¬ sgO (vG v) (t.2.2 k) → E 1 (tN T 0 0 6) := fun z => bad (fun y => z (y.2 k (by omega)))
    have e1 : (((-1) : Int64).toInt : Int) = -1 := rfl
    have e2 : ((nI (vG v)).toInt64).toInt = (vG v : Int) := by rw [i64_toInt, nI_toInt (by omega)]
    rw [fa_eq64, fa_lt64, fa_lt64, e1, e2, show ((99 : Int64).toInt : Int) = 99 from rfl]
    unfold sgO at go no
    exact ⟨fun z => go (Or.inl z), fun z => ⟨fun z2 => no (by omega), fun z2 => ⟨fun z3 => go (by omega), fun z3 => no (by omega)⟩⟩⟩
theorem spL_99 {w : Option Nat} (hw : ∀ k, w = some k → k < 10) (h : w ≠ none) : spL w = (oI w).toInt64 := if_neg h
theorem x_looksSo {Q : Bool → XS → Prop} (h : CS T 173 ca v sd) {b : Nat} (h1 : TRY1 T b t) (hm : t.2.1 = vG v) (hq : Q (lkB t.2.2 sd.1 (vG v)) T) : XB c (d + 1) m_X_looksSo [.ref 1, .ref b] T Q := by
  have hG := h.G
  refine wx_X_looksSo _ ?_
  suffices H : ∀ (m k : Nat), k + m = vG v → (∀ g, g < k → t.2.2 g = -1 ∨ t.2.2 g = spL (sd.1 g)) → eX c (d + 1) m_X_looksSo 2 [some (.ref 1), some (.ref b), some (.int (nI k)), none, none, none, none] T (yB c Q) from H (vG v) 0 (by omega) (fun g hg => by omega)
  intro m
  induction m with
  | zero =>
    intro k hk ha
    refine wx_X_looksSo_2 _ _ ⟨h1.1, ?_⟩
    rw [h1.2.2.2.1]
    refine ⟨fun _ => ?_, fun z => absurd ((nI_leI (by omega) (by omega)).mpr (by omega)) z⟩
    rw [show lkB t.2.2 sd.1 (vG v) = true from decide_eq_true (fun g hg => ha g (by omega))] at hq
    exact hq
  | succ m ih =>
    intro k hk ha
    refine wx_X_looksSo_2 _ _ ⟨h1.1, ?_⟩
    rw [h1.2.2.2.1]
    have hw : xA T 213 k = oI (sd.1 k) := h.wh (by omega)
    refine ⟨fun z => absurd ((nI_leI (by omega) (by omega)).mp z) (by omega), fun _ => ⟨fun z => absurd ((nI_leI (a := 10) (by decide) (by omega)).mp z) (by omega), fun _ => x_numberAt h1 (by omega) ⟨okn (by omega) (by decide), ?_⟩⟩⟩
    rw [ix_nI (by omega), hw, oI_m1 (fun x hx => by have := h.w10 hx; omega)]
    have go : (t.2.2 k = -1 ∨ t.2.2 k = spL (sd.1 k)) → eX c (d + 1) m_X_looksSo 2 [some (.ref 1), some (.ref b), some (.int (nI k + 1)), none, none, none, none] T (yB c Q) := fun z => by
      rw [nI_1]
      refine ih (k + 1) (by omega) (fun g hg => ?_)
      rcases Nat.lt_or_ge g k with y | y
      · exact ha g y
      · rw [show g = k by omega]; exact z
    have no : ¬ (t.2.2 k = -1 ∨ t.2.2 k = spL (sd.1 k)) → Q false T := fun z => by
      rw [show lkB t.2.2 sd.1 (vG v) = false from decide_eq_false (fun y => z (y k (by omega)))] at hq
      exact hq
    unfold spL at go no
    refine ⟨fun z => ⟨okn (by omega) (by decide), ?_⟩, fun z => ?_⟩
    · rw [if_neg z] at go no
      exact ⟨fun y => go (Or.inl y), fun y => ⟨fun w => go (Or.inr w), fun w => no (fun u => u.elim y w)⟩⟩
    · rw [if_pos z] at go no
      exact ⟨fun y => go (Or.inl y), fun y => ⟨fun w => go (Or.inr w), fun w => no (fun u => u.elim y w)⟩⟩
theorem x_seen {Q : Int32 → XS → Prop} {E : Nat → XS → Prop} (hR : RL c) (h : TRX T q) (h93 : CS T 93 ca v sd) {g : Int32} (ok : ∀ i t, g = nI i → i < 4 → q i = some t → (t.2.1 = vG v ∧ ∀ g, g < vG v → sgO (vG v) (t.2.2 g)) → ∀ T', frm scr T T' → Q (snA v t.2.2 sd) T') (bad : ¬ (0 ≤ g.toInt ∧ g.toInt ≤ 3) → E 2 (tN T 0 0 6)) (bad2 : ∀ i, g = nI i → i < 4 → q i = none → E 3 (tN T 0 0 6)) (bad3 : ∀ i t, g = nI i → i < 4 → q i = some t → ¬ (t.2.1 = vG v ∧ ∀ g, g < vG v → sgO (vG v) (t.2.2 g)) → E 1 (tN T 0 0 6)) : XIt c (d + 5) m_X_seen [.ref 1, .int g] T Q E := by
  have hG := h93.G
  refine wx_X_seen _ (x_needTray hR h (fun i b t eg hi ht hb h1 => ⟨b, rfl, x_needSight (d := d + 3) hR h93 h1 (fun z1 z2 => x_trial h93 (fun T2 hf2 h2 => ?_)) (fun z => bad3 i t eg hi ht z)⟩) bad bad2)
  have ok := ok i t eg hi ht ⟨z1, z2⟩
  clear bad bad2 bad3
  have no : (∀ j, j < 201 → lkB t.2.2 (nit v j sd).1 (vG v) = false) → ∀ T1, frm scr T T1 → Q (-1) T1 := fun hj T1 hf => by
    have := ok T1 hf
    unfold snA at this
    rw [if_pos (show snN v t.2.2 sd = 201 from first_no hj)] at this
    exact this
  suffices H : ∀ (m k : Nat) (fl : Bool) (T1 : XS), k + m = 201 → frm scr T T1 → CS T1 173 ca v (nit v k sd) → (∀ j, j < k → lkB t.2.2 (nit v j sd).1 (vG v) = false) → (fl = false → nih v sd k ∧ lkB t.2.2 (nit v k sd).1 (vG v) = false) → eX c (d + 5) m_X_seen 30 [some (.ref 1), some (.int g), some (.ref b), some (.int (bI fl)), some (.int (nI k))] T1 (yt c E (yI c Q)) from H 201 0 true T2 (by omega) hf2 h2 (fun j hj => by omega) (fun z => by cases z)
  intro m
  induction m with
  | zero =>
    intro k fl T1 hk hf hs hn _
    exact wx_X_seen_30 _ _ _ _ ⟨fun _ => no (fun j hj => hn j (by omega)) T1 hf, fun z => absurd ((nI_ltI (a := 200) (by decide) (by omega)).mpr (by omega)) z⟩
  | succ m ih =>
    intro k fl T1 hk hf hs hn hfl
    refine wx_X_seen_30 _ _ _ _ ⟨fun z => absurd ((nI_ltI (a := 200) (by decide) (by omega)).mp z) (by omega), fun _ => ⟨fun z => ?_, fun z => ?_⟩⟩
    · have : fl = false := by cases fl with
        | false => rfl
        | true => cases z
      obtain ⟨f1, f2⟩ := hfl this
      refine no (fun j hj => ?_) T1 hf
      rcases Nat.lt_or_ge j k with y | y
      · exact hn j y
      · rw [show j = k + (j - k) by omega, f1 (j - k)]
        exact f2
    · refine x_looksSo (d := d + 3) hs (ty_scr hf h1) z1 ⟨fun y => ?_, fun y => ?_⟩
      · refine x_nightOn h93 hf hs (fun T3 hf3 h3 => ?_)
        rw [nI_1]
        refine ih (k + 1) _ T3 (by omega) hf3 h3 (fun j hj => ?_) (fun w => ⟨nih_of h93.2.2.1 h93.2.2.2 w, ?_⟩)
        · rcases Nat.lt_or_ge j k with u | u
          · exact hn j u
          · rw [show j = k by omega]; exact y
        · have e : (nit v (k + 1) sd).1 = (nit v k sd).1 := (mov_f h93.2.2.1 (nit_sok h93.2.2.1 h93.2.2.2 k) w).2
          rw [e]
          exact y
      · have := ok T1 hf
        unfold snA at this
        have e : snN v t.2.2 sd = k := first_is (by omega) y hn
        rw [e, if_neg (by omega)] at this
        exact this
end WX1
