/-! nights, told deeds, copies of the class -/
abbrev frN (a b : Nat) : Prop := ctr b ∨ b = a ∨ b = sW a ∨ b = sM a
def mid (v : CV) (sd : SD) (k : Nat) : SD := (fun x => if x < k then thenW v sd x else sd.1 x, sd.2)
def movK (v : CV) (sd : SD) (k : Nat) : Bool := decide (107 ∈ vA v) || (List.range k).any (fun g => decide (thenW v sd g ≠ sd.1 g))
/-- may another night bring something else -/
def mov (v : CV) (sd : SD) : Bool := movK v sd (vG v)
theorem oI_inj {o p : Option Nat} (ho : ∀ k, o = some k → k < 2 ^ 31) (hp : ∀ k, p = some k → k < 2 ^ 31) : oI o = oI p ↔ o = p := by
  cases p with
  | none => exact oI_none ho
  | some k => exact oI_some ho (hp k rfl)
section NX1
variable {c : CX} {d : Nat} {T T' : XS} {a ca : Nat} {v : CV} {sd : SD}
theorem night_1 {Q : Bool → XS → Prop} (h : CS T a ca v sd) (hk : ∀ T1, frm ctr T T1 → (∀ j, j < vG v → xA T1 125 j = oI (thenW v sd j)) → eX c (d + 4) m_Ct_passNight 44 [some (.ref 117), some (.ref a), some (.int (nI (vG v))), some (.int (bI (decide (107 ∈ vA v)))), some (.int (nI 0))] T1 (yB c Q)) :
    ∀ (m k : Nat) (T1 : XS), k + m = vG v → frm ctr T T1 → (∀ j, j < k → xA T1 125 j = oI (thenW v sd j)) → eX c (d + 4) m_Ct_passNight 10 [some (.ref 117), some (.ref a), some (.int (nI (vG v))), some (.int (nI k)), none] T1 (yB c Q) := by
  have hG := h.G
  intro m
  induction m with
  | zero =>
    intro k T1 hkm hf hn
    have h1 := hf.CSc h
    exact wx_Ct_passNight_10 _ _ _ ⟨fun _ => ⟨h1.1.1, ca, h1.fc, h1.2.1.1, _, h1.2.1.2.2.2.2.2.1, hk T1 hf (fun j hj => hn j (by omega))⟩, fun z => absurd (nI_leI (by omega) (by omega) |>.mpr (by omega)) z⟩
  | succ m ih =>
    intro k T1 hkm hf hn
    have h1 := hf.CSc h
    refine wx_Ct_passNight_10 _ _ _ ⟨fun z => absurd ((nI_leI (by omega) (by omega)).mp z) (by omega), fun _ => x_answer h1 (by omega) (fun T2 hf2 => ⟨okn (by omega) (by decide), ?_⟩)⟩
    rw [nI_1, ix_nI (by omega)]
    refine ih (k + 1) _ (by omega) ((hf.tr (hf2.mono (fun _ => ct1_ctr))).tr (frm_A (Or.inr rfl) _ _)) (fun j hj => ?_)
    rw [xA_A, if_pos rfl, hf2.A (by decide)]
    unfold upd
    split
    · rename_i e; rw [e]
    · exact hn j (by omega)
theorem mid_bd (h : CS T a ca v sd) (k : Nat) : ∀ x j, (mid v sd k).1 x = some j → j < 10 := by
  intro x j hj
  have hG := h.G
  simp only [mid] at hj
  split at hj
  · have := (thenW_ok hG h.2.2.2 hj).2.1; omega
  · exact h.w10 hj
theorem night_2 {Q : Bool → XS → Prop} (h : CS T a ca v sd) (hq : ∀ T', frm (frN a) T T' → STD T' a ca (nightS v sd) → Q (mov v sd) T') :
    ∀ (m k : Nat) (T2 : XS), k + m = vG v → frm (frN a) T T2 → STD T2 a ca (mid v sd k) → (∀ j, j < vG v → xA T2 125 j = oI (thenW v sd j)) → eX c (d + 2) m_Ct_passNight 44 [some (.ref 117), some (.ref a), some (.int (nI (vG v))), some (.int (bI (movK v sd k))), some (.int (nI k))] T2 (yB c Q) := by
  have hG := h.G
  intro m
  induction m with
  | zero =>
    intro k T2 hkm hf hs hn
    refine wx_Ct_passNight_44 _ _ _ _ ⟨fun _ => ⟨hs.1, ?_⟩, fun z => absurd (nI_leI (by omega) (by omega) |>.mpr (by omega)) z⟩
    have ek : k = vG v := by omega
    subst ek
    have ew : (mid v sd (vG v)).1 = thenW v sd := by
      funext x
      simp only [mid]
      split
      · rfl
      · rename_i q
        rw [thenW_none hG h.2.2.2 (by omega), sok_none h.2.2.2 (by omega)]
    refine hq _ (hf.tr (frm_I (Or.inr (Or.inl rfl)) _ _)) ?_
    obtain ⟨s1, s2, s3, s4, s5, s6, s7⟩ := hs
    rw [ew] at s4 s5
    refine ⟨frm.sds (frm_I (S := fun _ => True) trivial 4 _) s1, s2, s3, s4, s5, s6, ?_⟩
    show (if a = a ∧ 4 = 4 then _ else _) = _
    rw [if_pos ⟨rfl, rfl⟩, s7]
    rfl
  | succ m ih =>
    intro k T2 hkm hf hs hn
    have ok : okx (nI k) 10 := okn (by omega) (by decide)
    have ek : ix (nI k) = k := ix_nI (by omega)
    have hkG : k < vG v := by omega
    refine wx_Ct_passNight_44 _ _ _ _ ⟨fun z => absurd ((nI_leI (by omega) (by omega)).mp z) (by omega), fun _ => ⟨ok, hs.1, ok, ?_⟩⟩
    have e1 : (mid v sd k).1 k = sd.1 k := by simp [mid]
    have e2 : ∀ b : Bool, movK v sd (k + 1) = (movK v sd k || decide (thenW v sd k ≠ sd.1 k)) := fun _ => by
      unfold movK
      rw [List.range_succ, List.any_append]
      simp [Bool.or_assoc]
    rw [ek, hn k hkG, hs.2.2.2.1 k (by omega), e1, oI_inj (fun x hx => by have := (thenW_ok hG h.2.2.2 hx).2.1; omega) (fun x hx => by have := h.w10 hx; omega), nI_1]
    refine ⟨fun z => ?_, fun z => ⟨ok, ?_⟩⟩
    · have := ih (k + 1) T2 (by omega) hf (by
        have e3 : mid v sd (k + 1) = mid v sd k := by
          unfold mid
          congr 1
          funext x
          by_cases q : x = k
          · subst q; simp [z]
          · by_cases q2 : x < k
            · simp [q2, Nat.lt_succ_of_lt q2]
            · simp [q2, show ¬ x < k + 1 by omega]
        rw [e3]; exact hs) hn
      rw [e2 true, decide_eq_false (fun y => y z), Bool.or_false] at this
      exact this
    · refine x_turn hs (by omega) (mid_bd h k) (fun j hj => by have := (thenW_ok hG h.2.2.2 hj).2.1; omega) (fun T3 hf3 hs3 => ?_)
      have := ih (k + 1) T3 (by omega) (hf.tr (hf3.mono (fun b hb => Or.inr (Or.inr hb)))) (by
        have e3 : turnS (mid v sd k) k (thenW v sd k) = mid v sd (k + 1) := by
          unfold turnS mid
          congr 1
          funext x
          by_cases q : x = k
          · subst q; simp
          · by_cases q2 : x < k
            · simp [q, q2, Nat.lt_succ_of_lt q2]
            · simp [q, q2, show ¬ x < k + 1 by omega]
        rw [← e3]; exact hs3) (fun j hj => by
        obtain ⟨n0, n1, n2, n3⟩ := oks_ctr h.1.2.1
        rw [hf3.A (by rintro (q | q)
                      · exact n1 (Or.inr q.symm)
                      · exact n2 (Or.inr q.symm))]
        exact hn j hj)
      rw [e2 true, decide_eq_true z, Bool.or_true] at this
      exact this
theorem x_passNight {Q : Bool → XS → Prop} (h : CS T a ca v sd) (hq : ∀ T', frm (frN a) T T' → STD T' a ca (nightS v sd) → Q (mov v sd) T') : XB c (d + 4) m_Ct_passNight [.ref 117, .ref a] T Q := by
  refine wx_Ct_passNight _ ⟨h.1.1, ca, h.fc, h.2.1.1, ?_⟩
  rw [h.gs]
  refine night_1 h (fun T1 hf hn => ?_) (vG v) 0 T (by omega) frm.rf (fun j hj => by omega)
  have h1 := hf.CSc h
  have e0 : movK v sd 0 = decide (107 ∈ vA v) := by simp [movK]
  rw [← e0]
  refine night_2 (d := d + 2) h1 (fun T2 hf2 hs => hq T2 ((hf.mono (fun b hb => Or.inl hb)).tr hf2) hs) (vG v) 0 T1 (by omega) frm.rf ?_ hn
  have e1 : mid v sd 0 = sd := by simp [mid]
  rw [e1]
  exact h1.1
/-- the standings that nights go by for -/
def okn2 (a : Nat) : Prop := a = 93 ∨ a = 173
theorem frN_1 {a b : Nat} (ha : okn2 a) (h : frN a b) : b = 121 ∨ b = 125 ∨ b = 93 ∨ b = 97 ∨ b = 101 ∨ b = 173 ∨ b = 213 ∨ b = 217 := by
  rcases ha with rfl | rfl
  · rcases h with (h | h) | h | h | h
    · exact Or.inl h
    · exact Or.inr (Or.inl h)
    · exact Or.inr (Or.inr (Or.inl h))
    · exact Or.inr (Or.inr (Or.inr (Or.inl h)))
    · exact Or.inr (Or.inr (Or.inr (Or.inr (Or.inl h))))
  · rcases h with (h | h) | h | h | h
    · exact Or.inl h
    · exact Or.inr (Or.inl h)
    · exact Or.inr (Or.inr (Or.inr (Or.inr (Or.inr (Or.inl h)))))
    · exact Or.inr (Or.inr (Or.inr (Or.inr (Or.inr (Or.inr (Or.inl h))))))
    · exact Or.inr (Or.inr (Or.inr (Or.inr (Or.inr (Or.inr (Or.inr h))))))
theorem frN_c {a b : Nat} (ha : okn2 a) (hb : b = 53 ∨ b = 65 ∨ b = 69 ∨ b = 73 ∨ b = 77 ∨ b = 81 ∨ b = 85 ∨ b % 4 = 3) : ¬ frN a b := fun q => by
  have := frN_1 ha q
  omega
theorem frm.carN (h : frm (frN a) T T') (ha : okn2 a) (q : CAR T ca v) : CAR T' ca v := by
  rcases q.2.1 with rfl | z
  · exact h.car q (frN_c ha (by omega)) ⟨frN_c ha (by omega), frN_c ha (by omega), frN_c ha (by omega), frN_c ha (by omega), frN_c ha (by omega), frN_c ha (by omega)⟩ (fun b hb _ => frN_c ha (by omega))
  · exact h.car q (frN_c ha (by omega)) ⟨frN_c ha (by omega), frN_c ha (by omega), frN_c ha (by omega), frN_c ha (by omega), frN_c ha (by omega), frN_c ha (by omega)⟩ (fun b hb _ => frN_c ha (by omega))
theorem x_night {Q : Bool → XS → Prop} (h : CS T a ca v sd) (ha : okn2 a) (hq : ∀ T', frm (frN a) T T' → CS T' a ca v (nightS v sd) → Q (mov v sd) T') : XB c (d + 4) m_Ct_passNight [.ref 117, .ref a] T Q :=
  x_passNight h (fun T' hf hs => hq T' hf ⟨hs, hf.carN ha h.2.1, h.2.2.1, nightS_sok h.G h.2.2.2⟩)
/-- why one can't mock another -/
def whyN (v : CV) (sd : SD) (x y : Int) : Nat := if 0 ≤ x ∧ x < vG v ∧ 0 ≤ y ∧ y < vG v ∧ x ≠ y then (if mayB v sd x.toNat y.toNat = true then 0 else 2) else 1
theorem x_whyNot {Q : Int32 → XS → Prop} (h : CS T a ca v sd) {x y : Int32} (hq : ∀ T', frm ct1 T T' → Q (nI (whyN v sd x.toInt y.toInt)) T') : XI c (d + 4) m_Ct_whyNot [.ref 117, .ref a, .int x, .int y] T Q := by
  have hG := h.G
  have e0 : ((0 : Int32).toInt : Int) = 0 := rfl
  have eG : (nI (vG v)).toInt = (vG v : Int) := nI_toInt (by omega)
  have bad : ¬ (0 ≤ x.toInt ∧ x.toInt < vG v ∧ 0 ≤ y.toInt ∧ y.toInt < vG v ∧ x.toInt ≠ y.toInt) → Q 1 T := fun z => by
    have := hq T frm.rf
    unfold whyN at this
    rwa [if_neg z] at this
  refine wx_Ct_whyNot _ _ _ ⟨h.1.1, ca, h.fc, h.2.1.1, fun z => bad ?_, fun z => ?_⟩
  · rw [fa_lt] at z; omega
  rw [h.gs]
  refine ⟨fun z2 => bad ?_, fun z2 => ⟨fun z3 => bad ?_, fun z3 => ⟨fun z4 => bad ?_, fun z4 => ⟨fun z5 => ?_, fun z5 => bad ?_⟩⟩⟩⟩
  · rw [fa_le] at z2; omega
  · rw [fa_lt] at z3; omega
  · rw [fa_le] at z4; omega
  · rw [fa_lt] at z z3
    rw [fa_le] at z2 z4
    rw [fa_eq] at z5
    have ex : x = nI x.toInt.toNat := nI_of_toInt (by omega)
    have ey : y = nI y.toInt.toNat := nI_of_toInt (by omega)
    have hq' : ∀ T', frm ct1 T T' → Q (nI (if mayB v sd x.toInt.toNat y.toInt.toNat = true then 0 else 2)) T' := fun T' hf => by
      have := hq T' hf
      unfold whyN at this
      rwa [if_pos (by omega)] at this
    have hi : x.toInt.toNat < vG v := by omega
    have hj : y.toInt.toNat < vG v := by omega
    generalize x.toInt.toNat = i at *
    generalize y.toInt.toNat = j at *
    rw [ex, ey]
    refine x_allows h hi hj (fun T' hf => ⟨fun q => ?_, fun q => ?_⟩)
    · have := hq' T' hf
      rwa [if_neg (by rw [q]; decide)] at this
    · have := hq' T' hf
      rwa [if_pos q] at this
  · rw [fa_eq] at z5; omega
/-- a told deed: why it can't be, what it does -/
def whyT (v : CV) (sd : SD) (z : Int) : Nat := if z = -1 then 0 else if z < 0 ∨ 100 * (vG v : Int) ≤ z then 1 else if z % 100 = 99 then 0 else whyN v sd (z / 100) (z % 100)
def doS (v : CV) (sd : SD) (z : Int) : SD := if z = -1 then nightS v sd else turnS sd (z / 100).toNat (if z % 100 = 99 then none else some (z % 100).toNat)
theorem l_div : ∀ n, n < 1024 → (lN n / 100).toInt32 = nI (n / 100) ∧ (lN n - lN n / 100 * 100).toInt32 = nI (n % 100) := by1024 (by decide +kernel)
theorem lN_of {x : Int64} {k : Nat} (hk : k < 2 ^ 31) (h : x.toInt = k) : x = lN k := by rw [fa_eq64, lN_toInt hk, h]
theorem m1_64 : ((-1 : Int64).toInt : Int) = -1 := rfl
theorem x_whyNotTold {Q : Int32 → XS → Prop} (h : CS T a ca v sd) {z : Int64} (hq : ∀ T', frm ct1 T T' → Q (nI (whyT v sd z.toInt)) T') : XI c (d + 5) m_Ct_whyNotTold [.ref 117, .ref a, .long z] T Q := by
  have hG := h.G
  have e0 : ((0 : Int64).toInt : Int) = 0 := rfl
  have e1 := m1_64
  have bad : z.toInt ≠ -1 → (z.toInt < 0 ∨ 100 * (vG v : Int) ≤ z.toInt) → Q 1 T := fun q1 q2 => by
    have := hq T frm.rf
    unfold whyT at this
    rwa [if_neg q1, if_pos q2] at this
  refine wx_Ct_whyNotTold _ _ ⟨fun q1 => ?_, fun q1 => ?_⟩
  · rw [fa_eq64] at q1
    refine ⟨fun q2 => bad (by omega) (Or.inl ?_), fun q2 => ⟨h.1.1, ca, h.fc, h.2.1.1, ?_⟩⟩
    · rw [fa_lt64] at q2; omega
    rw [fa_lt64] at q2
    have eb : (100 * (xI T ca 1).toInt64 : Int64) = lN (100 * vG v) := by
      rw [h.gs, show (nI (vG v)).toInt64 = lN (vG v) from lN_of (by omega) (by rw [i64_toInt, nI_toInt (by omega)])]
      exact lN_mul 100 _
    rw [eb, fa_lt64, lN_toInt (by omega)]
    refine ⟨fun q3 => ?_, fun q3 => bad (by omega) (Or.inr (by omega))⟩
    have ez : z = lN z.toInt.toNat := lN_of (by omega) (by omega)
    have hn : z.toInt.toNat < 1024 := by omega
    have hz : z.toInt = (z.toInt.toNat : Int) := by omega
    have hq' : ∀ T', frm ct1 T T' → Q (nI (if z.toInt.toNat % 100 = 99 then 0 else whyN v sd ((z.toInt.toNat / 100 : Nat) : Int) ((z.toInt.toNat % 100 : Nat) : Int))) T' := fun T' hf => by
      have := hq T' hf
      unfold whyT at this
      rw [if_neg (by omega), if_neg (by omega)] at this
      by_cases q : z.toInt.toNat % 100 = 99
      · rw [if_pos q]
        rwa [if_pos (by omega)] at this
      · rw [if_neg q]
        rw [if_neg (by omega)] at this
        rwa [show ((z.toInt.toNat / 100 : Nat) : Int) = z.toInt / 100 by omega, show ((z.toInt.toNat % 100 : Nat) : Int) = z.toInt % 100 by omega]
    generalize z.toInt.toNat = n at *
    rw [ez, (l_div n hn).1, (l_div n hn).2]
    refine ⟨fun q4 => x_whyNot h (fun T' hf => ?_), fun q4 => ?_⟩
    · have := hq' T' hf
      rw [if_neg (fun q => q4 (by rw [q]; rfl))] at this
      rwa [nI_toInt (by omega), nI_toInt (by omega)]
    · have := hq' T frm.rf
      rw [if_pos ((nI_inj (b := 99) (by omega) (by decide)).mp q4)] at this
      exact this
  · have := hq T frm.rf
    unfold whyT at this
    rw [fa_eq64] at q1
    rwa [if_pos (by omega)] at this
/-- a deed that can be -/
theorem whyT_0 {z : Int} (h : whyT v sd z = 0) : z = -1 ∨ (0 ≤ z ∧ z < 100 * (vG v : Int) ∧ (z % 100 = 99 ∨ (z % 100 < vG v ∧ z / 100 ≠ z % 100 ∧ mayB v sd (z / 100).toNat (z % 100).toNat = true))) := by
  unfold whyT at h
  split at h
  · rename_i q; exact Or.inl q
  · split at h
    · cases h
    · split at h
      · exact Or.inr ⟨by omega, by omega, Or.inl (by assumption)⟩
      · unfold whyN at h
        split at h
        · rename_i q
          split at h
          · exact Or.inr ⟨by omega, by omega, Or.inr ⟨by omega, by omega, by assumption⟩⟩
          · cases h
        · cases h
theorem doS_sok (hG : vG v ≤ 10) (hs : SOK (vG v) sd) {z : Int} (h : whyT v sd z = 0) : SOK (vG v) (doS v sd z) := by
  unfold doS
  rcases whyT_0 h with q | ⟨q1, q2, q3⟩
  · rw [if_pos q]; exact nightS_sok hG hs
  · rw [if_neg (by omega)]
    refine ⟨fun g k hk => ?_, hs.2⟩
    simp only [turnS] at hk
    split at hk
    · rename_i e
      split at hk
      · cases hk
      · have := Option.some.inj hk
        rcases q3 with q3 | q3
        · contradiction
        · omega
    · exact hs.1 g k hk
theorem x_enact {Q : XS → Prop} (h : CS T a ca v sd) (ha : okn2 a) {z : Int64} (hz : whyT v sd z.toInt = 0) (hq : ∀ T', frm (frN a) T T' → CS T' a ca v (doS v sd z.toInt) → Q T') : XV c (d + 5) m_Ct_enact [.ref 117, .ref a, .long z] T Q := by
  have hG := h.G
  have e1 := m1_64
  have hok := doS_sok hG h.2.2.2 hz
  refine wx_Ct_enact _ _ ⟨fun q1 => ?_, fun q1 => ?_⟩
  · rw [fa_eq64] at q1
    have hd : doS v sd z.toInt = turnS sd (z.toInt / 100).toNat (if z.toInt % 100 = 99 then none else some (z.toInt % 100).toNat) := by unfold doS; rw [if_neg (by omega)]
    rcases whyT_0 hz with q | ⟨q2, q3, q4⟩
    · omega
    · have ez : z = lN z.toInt.toNat := lN_of (by omega) (by omega)
      have hn : z.toInt.toNat < 1024 := by omega
      have i1 : z.toInt / 100 = ((z.toInt.toNat / 100 : Nat) : Int) := by omega
      have i2 : z.toInt % 100 = ((z.toInt.toNat % 100 : Nat) : Int) := by omega
      have hi : z.toInt.toNat / 100 < 10 := by omega
      have hj : z.toInt.toNat % 100 ≠ 99 → z.toInt.toNat % 100 < 10 := by
        intro q
        rcases q4 with q4 | q4
        · omega
        · omega
      rw [i1, i2] at hd
      generalize z.toInt.toNat = n at *
      have ok : one (nI (n / 100)) = true := one_nI hi
      have fin : ∀ o : Option Nat, (∀ k, o = some k → k < 10) → doS v sd z.toInt = turnS sd (n / 100) o → (SdS T a ∧ XV c (d + 4) m_Sd_turn [.ref a, .int (nI (n / 100)), .int (oI o)] T Q) := fun o ho he =>
        ⟨h.1.1, x_turn h.1 hi (fun x k hk => h.w10 hk) ho (fun T' hf hs => hq T' (hf.mono (fun b hb => Or.inr (Or.inr hb))) ⟨by rw [he]; exact hs, frm.carN (hf.mono (fun b hb => Or.inr (Or.inr hb))) ha h.2.1, h.2.2.1, hok⟩)⟩
      rw [ez, (l_div n hn).1, (l_div n hn).2]
      refine ⟨fun q => absurd (ok.symm.trans q) (by decide), fun _ => ⟨fun q5 => ?_, fun q5 => ?_⟩⟩
      · have q5 : n % 100 ≠ 99 := fun q => q5 (by rw [q]; rfl)
        refine fin (some (n % 100)) (fun k hk => by have := Option.some.inj hk; have := hj q5; omega) ?_
        rw [hd, if_neg (by omega)]
        rfl
      · have q5 : n % 100 = 99 := (nI_inj (b := 99) (by omega) (by decide)).mp q5
        refine fin none (fun k hk => by cases hk) ?_
        rw [hd, if_pos (by omega)]
        rfl
  · rw [fa_eq64] at q1
    have hd : doS v sd z.toInt = nightS v sd := by unfold doS; rw [if_pos (by omega)]
    exact x_night (d := d) h ha (fun T' hf hs => hq T' hf (by rw [hd]; exact hs))
end NX1
