/-! all that the reference keeps; its images -/
def IMR (s : RS) (im : Nat → Option FA) : Prop := ∀ i, i < 3 → (im i = none ∧ s.2.1 4 i = 0) ∨ ∃ a, im i = some a ∧ s.2.1 4 i = 1 ∧ KF (fun x => s.2.1 3 (2101 * i + x)) a.1 a.2.1 a.2.2
def RINV (s : RS) (A : AB) : Prop := TPR s A.1.1 A.1.2 ∧ (s.1 14 = A.2.1.1 ∧ s.1 15 = A.2.1.2) ∧ KF (s.2.1 1) A.2.2.1.1 A.2.2.1.2.1 A.2.2.1.2.2 ∧ IMR s A.2.2.2.1 ∧ TRR s A.2.2.2.2
section RV1
variable {c : CX} {d n : Nat} {s s' : RS} {A : AB} {v : CV} {a : SD} {p : List SD} {t : Int32} {q : Nat → Option TY} {f : Nat → Nat} {k k' : Nat → Int32} {im : Nat → Option FA}
theorem law_900 {l : List Nat} (h : l = [] ∨ lawok l) : l.length ≤ 900 := by
  rcases h with h | h
  · rw [h]; exact Nat.zero_le _
  · exact h.2
theorem KF.cong (h : KF k v a p) (hx : ∀ x, x < 2101 → k' x = k x) : KF k' v a p := by
  obtain ⟨⟨⟨h0, h1, h2, h3, h4, h5, h6, h7, h8⟩, hS, hC, hO⟩, hP⟩ := h
  have m9 := law_900 hC.2.2.2.1
  have a9 := law_900 hC.2.2.2.2.1
  have hG := hC.1
  have hT := hC.2.1
  refine ⟨⟨⟨by rw [hx _ (by omega)]; exact h0, by rw [hx _ (by omega)]; exact h1, by rw [hx _ (by omega)]; exact h2, by rw [hx _ (by omega)]; exact h3, by rw [hx _ (by omega)]; exact h4, fun g hg => ?_, fun i hi => ?_, fun i hi => ?_, fun i hi => ?_⟩, hS.keep (fun x hx' => hx _ (by omega)), hC, hO⟩, hP.keep (fun x hx' => hx _ (by omega))⟩
  · rw [hx _ (by omega), hx _ (by omega), hx _ (by omega), hx _ (by omega)]; exact h5 g hg
  · rw [hx _ (by omega), hx _ (by omega)]; exact h6 i hi
  · rw [hx _ (by omega)]; exact h7 i hi
  · rw [hx _ (by omega)]; exact h8 i hi
theorem TPR.eq (h : TPR s n f) (h6 : s'.1 6 = s.1 6) (h5 : s'.2.1 5 = s.2.1 5) : TPR s' n f := ⟨by rw [h6]; exact h.1, h.2.1, fun j hj => by rw [h5]; exact h.2.2 j hj⟩
theorem IMR.eq (h : IMR s im) (h4 : s'.2.1 4 = s.2.1 4) (h3 : s'.2.1 3 = s.2.1 3) : IMR s' im := fun i hi => by rw [h4, h3]; exact h i hi
theorem TRR.eq (h : TRR s q) (h15 : s'.2.1 15 = s.2.1 15) (h16 : s'.2.1 16 = s.2.1 16) (h17 : s'.2.2 17 = s.2.2 17) : TRR s' q := fun i hi => by rw [h15, h16, h17]; exact h i hi
theorem RINV.sq (h : RINV s A) (hs : SQ s s' t) : RINV s' A := by
  obtain ⟨h1, h2, h3, h4, h5⟩ := h
  obtain ⟨-, s1, s2, s3⟩ := hs
  have e1 : ∀ k, k = 6 ∨ k = 14 ∨ k = 15 → s'.1 k = s.1 k := fun k hk => s1 k (by omega) (by omega) (by omega) (by omega) (by omega) (by omega) (by omega)
  exact ⟨h1.eq (e1 6 (by omega)) (s2 5 (by omega)), ⟨by rw [e1 14 (by omega)]; exact h2.1, by rw [e1 15 (by omega)]; exact h2.2⟩, by rw [s2 1 (by omega)]; exact h3, h4.eq (s2 4 (by omega)) (s2 3 (by omega)), h5.eq (s2 15 (by omega)) (s2 16 (by omega)) (s3 17 (by omega))⟩
theorem RINV.rd (h : RINV s A) (hs : RD s s' t v a p) : RINV s' (A.1, A.2.1, (v, a, p), A.2.2.2) := by
  obtain ⟨h1, h2, -, h4, h5⟩ := h
  obtain ⟨-, s1, s2, s3, s4⟩ := hs
  have e1 : ∀ k, k = 6 ∨ k = 14 ∨ k = 15 → s'.1 k = s.1 k := fun k hk => s1 k (by omega) (by omega) (by omega) (by omega) (by omega) (by omega) (by omega)
  exact ⟨h1.eq (e1 6 (by omega)) (s2 5 (by omega) (by omega)), ⟨by rw [e1 14 (by omega)]; exact h2.1, by rw [e1 15 (by omega)]; exact h2.2⟩, s4, h4.eq (s2 4 (by omega) (by omega)) (s2 3 (by omega) (by omega)), h5.eq (s2 15 (by omega) (by omega)) (s2 16 (by omega) (by omega)) (s3 17 (by omega))⟩
theorem RINV.ty (h : RINV s A) (hs : RTD s s' t q) : RINV s' (A.1, A.2.1, A.2.2.1, A.2.2.2.1, q) := by
  obtain ⟨h1, h2, h3, h4, -⟩ := h
  obtain ⟨-, s1, s2, s3, s4⟩ := hs
  exact ⟨h1.eq (s1 6 (by omega)) (s2 5 (by omega) (by omega)), ⟨by rw [s1 14 (by omega)]; exact h2.1, by rw [s1 15 (by omega)]; exact h2.2⟩, by rw [s2 1 (by omega) (by omega)]; exact h3, h4.eq (s2 4 (by omega) (by omega)) (s2 3 (by omega) (by omega)), s4⟩
theorem RINV.fd (h : RINV s A) (hs : FDR s s') (ht : TPR s' n f) : RINV s' ((n, f), A.2) := by
  obtain ⟨-, h2, h3, h4, h5⟩ := h
  obtain ⟨-, s1, s2, s3⟩ := hs
  exact ⟨ht, ⟨by rw [s1 14 (by omega) (by omega)]; exact h2.1, by rw [s1 15 (by omega) (by omega)]; exact h2.2⟩, by rw [s2 1 (by omega)]; exact h3, h4.eq (s2 4 (by omega)) (s2 3 (by omega)), h5.eq (s2 15 (by omega)) (s2 16 (by omega)) (by rw [s3])⟩
theorem RINV.th (h : RINV s A) (x : Int32) : RINV (rF s 4 x) A := h.sq (SQ.th s x)
theorem m2101 {i j : Nat} : (2101 * nI i) + nI j = nI (2101 * i + j) := by rw [show (2101 : Int32) * nI i = nI (2101 * i) from nI_mul 2101 i, nI_add]
theorem r_image {Q : RS → Prop} (h : RINV s A) {g : Int32} (ok : ∀ i, g = nI i → i < 3 → ∀ s', s'.1 4 = 0 → RINV s' (A.1, A.2.1, A.2.2.1, updI A.2.2.2.1 i A.2.2.1, A.2.2.2.2) → Q s') (bad : ¬ (0 ≤ g.toInt ∧ g.toInt ≤ 2) → Q (rF s 4 1)) : RV c (d + 1) m_R_image [.ref 2, .int g] s Q := by
  refine w_R_image _ ?_
  rw [wth_c.1, wth_c.2]
  refine ⟨bad, fun z => ?_⟩
  have z1 : 0 ≤ g.toInt := z.1
  have z2 : g.toInt ≤ 2 := z.2
  have eg : g = nI g.toInt.toNat := nI_of_toInt (by omega)
  have hi : g.toInt.toNat < 3 := by omega
  have ok := ok _ eg hi
  generalize g.toInt.toNat = i at *
  rw [eg, ix_nI (by omega)]
  refine ⟨okn hi (by decide), ?_⟩
  have b1 : (rA (rF s 4 0) 4 i 1).2.1 1 = s.2.1 1 := rfl
  have b3 : (rA (rF s 4 0) 4 i 1).2.1 3 = s.2.1 3 := rfl
  have b4 : ∀ j, (rA (rF s 4 0) 4 i 1).2.1 4 j = if j = i then 1 else s.2.1 4 j := fun j => rfl
  have bo : ∀ j, j ≠ 4 → (rA (rF s 4 0) 4 i 1).2.1 j = s.2.1 j := fun j hj => if_neg hj
  have bf : (rA (rF s 4 0) 4 i 1).1 = (rF s 4 0).1 := rfl
  have bl : (rA (rF s 4 0) 4 i 1).2.2 = s.2.2 := rfl
  generalize rA (rF s 4 0) 4 i 1 = s1 at *
  suffices H : ∀ (m k : Nat), k + m = 2101 → eR c (d + 1) m_R_image 38 [some (.ref 2), some (.int (nI i)), some (.int (nI k))] (rW s1 3 (fb_put (s1.2.1 3) (s1.2.1 1) (2101 * i) k)) (pV c Q) by
    have := H 2101 0 (by omega)
    rw [fb_put_0, rW_id] at this
    exact this
  intro m
  induction m with
  | zero =>
    intro k hk
    have ek : k = 2101 := by omega
    subst ek
    refine w_R_image_38 _ _ ⟨fun _ => ok _ (by show s1.1 4 = 0; rw [bf]; rfl) ?_, fun z => absurd (by decide) z⟩
    obtain ⟨h1, h2, h3, h4, h5⟩ := h
    refine ⟨h1.eq (by show s1.1 6 = _; rw [bf]; rfl) (by rw [rW_ne _ _ (by decide), bo 5 (by decide)]), ⟨by show s1.1 14 = _; rw [bf]; exact h2.1, by show s1.1 15 = _; rw [bf]; exact h2.2⟩, by rw [rW_ne _ _ (by decide), b1]; exact h3, fun j hj => ?_, h5.eq (by rw [rW_ne _ _ (by decide), bo 15 (by decide)]) (by rw [rW_ne _ _ (by decide), bo 16 (by decide)]) (by show s1.2.2 17 = _; rw [bl])⟩
    rw [rW_ne _ _ (by decide), rW_at, b4]
    by_cases y : j = i
    · refine Or.inr ⟨A.2.2.1, if_pos y, if_pos y, h3.cong (fun x hx => ?_)⟩
      rw [y, fb_put_in (by omega) (by omega), show 2101 * i + x - 2101 * i = x by omega, b1]
    · rcases h4 j hj with w | ⟨a, w1, w2, w3⟩
      · exact Or.inl ⟨(if_neg y).trans w.1, (if_neg y).trans w.2⟩
      · refine Or.inr ⟨a, (if_neg y).trans w1, (if_neg y).trans w2, w3.cong (fun x hx => ?_)⟩
        rw [fb_put_out (by omega), b3]
  | succ m ih =>
    intro k hk
    have e1 : (rW s1 3 (fb_put (s1.2.1 3) (s1.2.1 1) (2101 * i) k)).2.1 1 k = s1.2.1 1 k := rfl
    refine w_R_image_38 _ _ ⟨fun z => absurd ((nI_leI (a := 2101) (by decide) (by omega)).mp z) (by omega), fun _ => ⟨okn (by omega) (by decide), ?_⟩⟩
    rw [m2101, ix_nI (by omega), ix_nI (by omega), nI_1, e1, rA_W, rW_W, rW_at, fb_put_succ]
    exact ⟨okn (by omega) (by decide), ih (k + 1) (by omega)⟩
theorem r_restore {Q : RS → Prop} (h : RINV s A) {g : Int32} (ok : ∀ i a, g = nI i → i < 3 → A.2.2.2.1 i = some a → ∀ s', s'.1 4 = 0 → RINV s' (A.1, A.2.1, a, A.2.2.2) → Q s') (bad : ¬ (0 ≤ g.toInt ∧ g.toInt ≤ 2) → Q (rF s 4 1)) (bad2 : ∀ i, g = nI i → i < 3 → A.2.2.2.1 i = none → Q (rF s 4 2)) : RV c (d + 1) m_R_restore [.ref 2, .int g] s Q := by
  refine w_R_restore _ ?_
  rw [wth_c.1, wth_c.2]
  refine ⟨fun z => ?_, bad⟩
  have z1 : 0 ≤ g.toInt := z.1
  have z2 : g.toInt ≤ 2 := z.2
  have eg : g = nI g.toInt.toNat := nI_of_toInt (by omega)
  have hi : g.toInt.toNat < 3 := by omega
  generalize g.toInt.toNat = i at *
  have ok := fun a => ok i a eg hi
  have bad2 := bad2 i eg hi
  rw [eg, ix_nI (by omega)]
  refine ⟨okn hi (by decide), ?_⟩
  obtain ⟨h1, h2, h3, h4, h5⟩ := h
  rcases h4 i hi with w | ⟨a, w1, w2, w3⟩
  · rw [w.2]
    exact ⟨fun y => absurd rfl y, fun _ => bad2 w.1⟩
  rw [w2]
  refine ⟨fun _ => ?_, fun y => absurd y (by decide)⟩
  have ok := ok a w1
  suffices H : ∀ (m k : Nat), k + m = 2101 → eR c (d + 1) m_R_restore 44 [some (.ref 2), some (.int (nI i)), some (.int (nI k))] (rW (rF s 4 0) 1 (fb_put (s.2.1 1) (fun x => s.2.1 3 (2101 * i + x)) 0 k)) (pV c Q) by
    have := H 2101 0 (by omega)
    rw [fb_put_0, show s.2.1 1 = (rF s 4 0).2.1 1 from rfl, rW_id] at this
    exact this
  intro m
  induction m with
  | zero =>
    intro k hk
    have ek : k = 2101 := by omega
    subst ek
    refine w_R_restore_44 _ _ ⟨fun _ => ok _ rfl ⟨h1.eq rfl (rW_ne _ _ (by decide)), h2, ?_, h4.eq (rW_ne _ _ (by decide)) (rW_ne _ _ (by decide)), h5.eq (rW_ne _ _ (by decide)) (rW_ne _ _ (by decide)) rfl⟩, fun z => absurd (by decide) z⟩
    rw [rW_at]
    refine w3.cong (fun x hx => ?_)
    rw [fb_put_in (by omega) (by omega), Nat.sub_zero]
  | succ m ih =>
    intro k hk
    have e3 : (rW (rF s 4 0) 1 (fb_put (s.2.1 1) (fun x => s.2.1 3 (2101 * i + x)) 0 k)).2.1 3 = s.2.1 3 := rfl
    refine w_R_restore_44 _ _ ⟨fun z => absurd ((nI_leI (a := 2101) (by decide) (by omega)).mp z) (by omega), fun _ => ?_⟩
    rw [m2101, ix_nI (by omega), ix_nI (by omega), nI_1, e3, rA_W, rW_W, rW_at]
    have := fb_put_succ (s.2.1 1) (fun x => s.2.1 3 (2101 * i + x)) 0 k
    rw [Nat.zero_add] at this
    rw [this]
    exact ⟨okn (by omega) (by decide), okn (by omega) (by decide), ih (k + 1) (by omega)⟩
end RV1
