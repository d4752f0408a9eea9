/-! questions of nights to come, of the class -/
section AH1
variable {c : CX} {d : Nat} {T T' : XS} {ca : Nat} {v : CV} {sd : SD}
theorem nit_10 (h : CS T 93 ca v sd) {n g k : Nat} (hk : (nit v n sd).1 g = some k) : k < 10 := by
  have := (nit_sok h.2.2.1 h.2.2.2 n).1 g k hk
  have := h.G
  omega
theorem x_nightOn {Q : Bool → XS → Prop} (h : CS T 93 ca v sd) {T1 : XS} (hf : frm scr T T1) {i : Nat} (h1 : CS T1 173 ca v (nit v i sd)) (hq : ∀ T', frm scr T T' → CS T' 173 ca v (nit v (i + 1) sd) → Q (mov v (nit v i sd)) T') : XB c (d + 4) m_Ct_passNight [.ref 117, .ref 173] T1 Q :=
  x_night h1 (Or.inr rfl) (fun T' hf' hs => hq T' (hf.tr (hf'.mono (fun b hb => frN_scr hb))) hs)
theorem n_within {n : Int32} {m : Int} (hm : m ≤ 1000) (h0 : 0 ≤ n.toInt) (h1 : n.toInt ≤ m) : n = nI n.toInt.toNat ∧ n.toInt.toNat ≤ 1000 := ⟨nI_of_toInt (by omega), by omega⟩
theorem x_mocksIn {Q : Int32 → XS → Prop} {E : Nat → XS → Prop} (hR : RL c) (h : CS T 93 ca v sd) {g n : Int32} (ok : ∀ k, g = nI k → k < vG v → 0 ≤ n.toInt → n.toInt ≤ 1000 → ∀ T', frm scr T T' → Q (oI ((nit v n.toInt.toNat sd).1 k)) T') (bad : ¬ (0 ≤ g.toInt ∧ g.toInt < vG v) → E 2 (tN T 0 0 6)) (bad2 : 0 ≤ g.toInt ∧ g.toInt < vG v → ¬ (0 ≤ n.toInt ∧ n.toInt ≤ 1000) → E 1 (tN T 0 0 6)) : XIt c (d + 5) m_X_mocksIn [.ref 1, .int g, .int n] T Q E := by
  have hG := h.G
  refine wx_X_mocksIn _ _ (x_needGuild hR h (fun k hk hkG => x_needWithin hR (fun z1 z2 => x_trial h (fun T1 hf1 h1 => ?_)) (fun z => bad2 (by rw [hk, nI_toInt (by omega)]; omega) z)) bad)
  obtain ⟨en, hn⟩ := n_within (m := 1000) (by decide) z1 z2
  have ok := ok k hk hkG z1 z2
  generalize n.toInt.toNat = N at *
  rw [hk, en]
  suffices H : ∀ (m i : Nat) (fl : Bool) (T2 : XS), i + m = N → frm scr T T2 → CS T2 173 ca v (nit v i sd) → (fl = false → nih v sd i) → eX c (d + 5) m_X_mocksIn 32 [some (.ref 1), some (.int (nI k)), some (.int (nI N)), some (.int (bI fl)), some (.int (nI i))] T2 (yt c E (yI c Q)) from H N 0 true T1 (by omega) hf1 h1 (fun q => by cases q)
  intro m
  induction m with
  | zero =>
    intro i fl T2 hm hf h2 _
    refine wx_X_mocksIn_32 _ _ _ _ ⟨fun _ => ⟨okn (by omega) (by decide), ?_⟩, fun z => absurd ((nI_leI (by omega) (by omega)).mpr (by omega)) z⟩
    have := ok T2 hf
    rw [ix_nI (by omega), show xA T2 213 k = oI ((nit v i sd).1 k) from h2.wh (by omega), show i = N by omega]
    exact this
  | succ m ih =>
    intro i fl T2 hm hf h2 hfl
    refine wx_X_mocksIn_32 _ _ _ _ ⟨fun z => absurd ((nI_leI (by omega) (by omega)).mp z) (by omega), fun _ => ⟨fun z => ⟨okn (by omega) (by decide), ?_⟩, fun z => ?_⟩⟩
    · have : fl = false := by cases fl with
        | false => rfl
        | true => cases z
      have := hfl this (m + 1)
      rw [hm] at this
      have ok := ok T2 hf
      rw [this] at ok
      rw [ix_nI (by omega), show xA T2 213 k = oI ((nit v i sd).1 k) from h2.wh (by omega)]
      exact ok
    · refine x_nightOn h hf h2 (fun T3 hf3 h3 => ?_)
      rw [nI_1]
      exact ih (i + 1) _ T3 (by omega) hf3 h3 (fun q => nih_of h.2.2.1 h.2.2.2 q)
/-- who has mocked one by then -/
def evr (v : CV) (sd : SD) (g : Nat) (k : Nat) : Nat := fld (fun i acc => acc ||| mkb (nit v (i + 1) sd).1 g 10) (mkb sd.1 g 10) k
theorem evr_s (v : CV) (sd : SD) (g k : Nat) : evr v sd g (k + 1) = evr v sd g k ||| mkb (nit v (k + 1) sd).1 g 10 := rfl
theorem evr_has (v : CV) (sd : SD) (g : Nat) : ∀ k, evr v sd g k ||| mkb (nit v k sd).1 g 10 = evr v sd g k
  | 0 => Nat.or_self _
  | k + 1 => by rw [evr_s, Nat.or_assoc, Nat.or_self]
theorem evr_stay {v : CV} {sd : SD} {g i : Nat} (h : nih v sd i) : ∀ j, evr v sd g (i + j) = evr v sd g i
  | 0 => rfl
  | j + 1 => by
    show evr v sd g (i + j + 1) = _
    rw [evr_s, evr_stay h j, show i + j + 1 = i + (j + 1) from rfl, h (j + 1), evr_has]
theorem x_ever {Q : Int32 → XS → Prop} {E : Nat → XS → Prop} (hR : RL c) (h : CS T 93 ca v sd) {g n : Int32} (ok : ∀ k, g = nI k → k < vG v → 0 ≤ n.toInt → n.toInt ≤ 1000 → ∀ T', frm scr T T' → Q (nI (evr v sd k n.toInt.toNat)) T') (bad : ¬ (0 ≤ g.toInt ∧ g.toInt < vG v) → E 2 (tN T 0 0 6)) (bad2 : 0 ≤ g.toInt ∧ g.toInt < vG v → ¬ (0 ≤ n.toInt ∧ n.toInt ≤ 1000) → E 1 (tN T 0 0 6)) : XIt c (d + 5) m_X_ever [.ref 1, .int g, .int n] T Q E := by
  have hG := h.G
  refine wx_X_ever _ _ (x_needGuild hR h (fun k hk hkG => x_needWithin hR (fun z1 z2 => x_trial h (fun T1 hf1 h1 => ?_)) (fun z => bad2 (by rw [hk, nI_toInt (by omega)]; omega) z)) bad)
  obtain ⟨en, hn⟩ := n_within (m := 1000) (by decide) z1 z2
  have ok := ok k hk hkG z1 z2
  generalize n.toInt.toNat = N at *
  rw [hk, en, ix_nI (by omega), show xA T1 217 k = nI (mkb sd.1 k 10) from h1.mk (by omega)]
  refine ⟨okn (by omega) (by decide), ?_⟩
  suffices H : ∀ (m i : Nat) (fl : Bool) (T2 : XS), i + m = N → frm scr T T2 → CS T2 173 ca v (nit v i sd) → (fl = false → nih v sd i) → eX c (d + 5) m_X_ever 43 [some (.ref 1), some (.int (nI k)), some (.int (nI N)), some (.int (nI (evr v sd k i))), some (.int (bI fl)), some (.int (nI i))] T2 (yt c E (yI c Q)) from H N 0 true T1 (by omega) hf1 h1 (fun q => by cases q)
  intro m
  induction m with
  | zero =>
    intro i fl T2 hm hf h2 _
    refine wx_X_ever_43 _ _ _ _ _ ⟨fun _ => ?_, fun z => absurd ((nI_leI (by omega) (by omega)).mpr (by omega)) z⟩
    rw [show i = N by omega]
    exact ok T2 hf
  | succ m ih =>
    intro i fl T2 hm hf h2 hfl
    refine wx_X_ever_43 _ _ _ _ _ ⟨fun z => absurd ((nI_leI (by omega) (by omega)).mp z) (by omega), fun _ => ⟨fun z => ?_, fun z => ?_⟩⟩
    · have : fl = false := by cases fl with
        | false => rfl
        | true => cases z
      have := evr_stay (g := k) (hfl this) (m + 1)
      rw [hm] at this
      rw [← this]
      exact ok T2 hf
    · refine x_nightOn h hf h2 (fun T3 hf3 h3 => ⟨okn (by omega) (by decide), ?_⟩)
      rw [nI_1, ix_nI (by omega), show xA T3 217 k = nI (mkb (nit v (i + 1) sd).1 k 10) from h3.mk (by omega), fa_or, ← evr_s]
      exact ih (i + 1) _ T3 (by omega) hf3 h3 (fun q => nih_of h.2.2.1 h.2.2.2 q)
/-- fewest cakes by then, and when -/
def few (v : CV) (sd : SD) (k : Nat) : Nat × Nat := fld (fun i p => if cakS v (nit v (i + 1) sd) < p.1 then (cakS v (nit v (i + 1) sd), i + 1) else p) (cakS v sd, 0) k
theorem few_s (v : CV) (sd : SD) (k : Nat) : few v sd (k + 1) = if cakS v (nit v (k + 1) sd) < (few v sd k).1 then (cakS v (nit v (k + 1) sd), k + 1) else few v sd k := rfl
theorem few_le (v : CV) (sd : SD) : ∀ k, (few v sd k).1 ≤ cakS v (nit v k sd)
  | 0 => Nat.le_refl _
  | k + 1 => by
    rw [few_s]
    split
    · exact Nat.le_refl _
    · omega
theorem cak_ext {v : CV} {sd sd' : SD} (h : sd'.1 = sd.1) : cakS v sd' = cakS v sd := by unfold cakS; rw [h]
theorem few_stay {v : CV} {sd : SD} {i : Nat} (h : nih v sd i) : ∀ j, few v sd (i + j) = few v sd i
  | 0 => rfl
  | j + 1 => by
    show few v sd (i + j + 1) = _
    rw [few_s, few_stay h j, show i + j + 1 = i + (j + 1) from rfl, cak_ext (h (j + 1)), if_neg (by have := few_le v sd i; omega)]
theorem cak_10 {v : CV} (hG : vG v ≤ 10) (sd : SD) : cakS v sd ≤ 10 := Nat.le_trans (cakN_le _ _ _) hG
theorem few_10 {v : CV} (hG : vG v ≤ 10) (sd : SD) (k : Nat) : (few v sd k).1 ≤ 10 := Nat.le_trans (few_le v sd k) (cak_10 hG _)
theorem w01 (wt : Int32) : (wt = 0 ∨ wt = 1) ↔ ((0 : Int32).toInt ≤ wt.toInt ∧ wt.toInt ≤ (1 : Int32).toInt) := by
  rw [fa_eq, fa_eq, show ((0 : Int32).toInt : Int) = 0 from rfl, show ((1 : Int32).toInt : Int) = 1 from rfl]; omega
theorem x_fewestIn {Q : Int32 → XS → Prop} {E : Nat → XS → Prop} (hR : RL c) (h : CS T 93 ca v sd) {n wt : Int32} (ok : 0 ≤ n.toInt → n.toInt ≤ 200 → (wt = 0 ∨ wt = 1) → ∀ T', frm scr T T' → Q (if wt = 0 then nI (few v sd n.toInt.toNat).1 else nI (few v sd n.toInt.toNat).2) T') (bad : ¬ ((0 ≤ n.toInt ∧ n.toInt ≤ 200) ∧ (wt = 0 ∨ wt = 1)) → E 1 (tN T 0 0 6)) : XIt c (d + 5) m_X_fewest [.ref 1, .int n, .int wt] T Q E := by
  have hG := h.G
  refine wx_X_fewest _ _ (x_needWithin hR (fun z1 z2 => x_needWithin hR (fun z3 z4 => x_trial h (fun T1 hf1 h1 => x_build h1 (fun T2 hf2 hr => ⟨rfl, ?_⟩))) (fun z => bad (fun q => z ((w01 wt).mp q.2)))) (fun z => bad (fun q => z q.1)))
  obtain ⟨en, hn⟩ := n_within (m := 200) (by decide) z1 z2
  have hn : n.toInt.toNat ≤ 200 := by have : n.toInt ≤ 200 := z2; omega
  have ok := ok z1 z2 ((w01 wt).mpr ⟨z3, z4⟩)
  generalize n.toInt.toNat = N at *
  have hc := cak_10 hG
  have fin : ∀ T', frm scr T T' → ∀ p, p = few v sd N → ((¬ wt = 0 → Q (nI p.2) T') ∧ (wt = 0 → Q (nI p.1) T')) := fun T' hf p hp => by
    have := ok T' hf
    rw [hp]
    exact ⟨fun q => by rwa [if_neg q] at this, fun q => by rwa [if_pos q] at this⟩
  rw [en, hr.1.1.2.2.2.1]
  suffices H : ∀ (m i : Nat) (fl : Bool) (T2 : XS), i + m = N → frm scr T T2 → CS T2 173 ca v (nit v i sd) → (fl = false → nih v sd i) → eX c (d + 5) m_X_fewest 52 [some (.ref 1), some (.int (nI N)), some (.int wt), some (.int (nI (few v sd i).1)), some (.int (nI (few v sd i).2)), some (.int (bI fl)), some (.int (nI (i + 1))), none] T2 (yt c E (yI c Q)) from H N 0 true T2 (by omega) (hf1.tr (rw_scr hf2)) ⟨hf2.std h1.1 (by decide) (by decide) (by decide) (by decide), (rw_scr hf2).CARs h1.2.1, h1.2.2⟩ (fun q => by cases q)
  clear hr hf2
  intro m
  induction m with
  | zero =>
    intro i fl T2 hm hf h2 _
    refine wx_X_fewest_52 _ _ _ _ _ _ ⟨fun _ => fin T2 hf _ (by rw [show i = N by omega]), fun z => absurd ((nI_ltI (by omega) (by omega)).mpr (by omega)) z⟩
  | succ m ih =>
    intro i fl T2 hm hf h2 hfl
    refine wx_X_fewest_52 _ _ _ _ _ _ ⟨fun z => absurd ((nI_ltI (by omega) (by omega)).mp z) (by omega), fun _ => ⟨fun z => ?_, fun z => ?_⟩⟩
    · have : fl = false := by cases fl with
        | false => rfl
        | true => cases z
      have := few_stay (hfl this) (m + 1)
      rw [hm] at this
      exact fin T2 hf _ this.symm
    · refine x_nightOn h hf h2 (fun T3 hf3 h3 => x_build (d := d + 2) h3 (fun T4 hf4 hr => ⟨rfl, ?_⟩))
      have h4 : CS T4 173 ca v (nit v (i + 1) sd) := ⟨hf4.std h3.1 (by decide) (by decide) (by decide) (by decide), (rw_scr hf4).CARs h3.2.1, h3.2.2⟩
      have hf4 := hf3.tr (rw_scr hf4)
      have hc1 := hc (nit v (i + 1) sd)
      have hc2 := few_10 hG sd i
      have ih := ih (i + 1) (mov v (nit v i sd)) T4 (by omega) hf4 h4 (fun q => nih_of h.2.2.1 h.2.2.2 q)
      rw [few_s] at ih
      rw [nI_1, hr.1.1.2.2.2.1, nI_leI (by omega) (by omega)]
      refine ⟨fun q => ?_, fun q => ?_⟩
      · rw [if_neg (by omega)] at ih
        exact ih
      · rw [if_pos (by omega)] at ih
        exact ih
end AH1
