/-! a law read by the reference -/
def mmok (mm at' : Nat) : Prop := (mm = 3 ∧ at' = 301) ∨ (mm = 4 ∧ at' = 1201)
def CPR (s : RS) (f : Nat → Nat) (n h dp mm at' : Nat) : Prop := RTK s f n h ∧ s.1 12 = 0 ∧ s.1 16 = nI dp ∧ s.1 17 = nI mm ∧ s.1 18 = nI at'
/-- so much was laid down -/
def TLD (s s' : RS) (mm at' L : Nat) (c : List Nat) : Prop := RFR s s' ∧ s'.2.1 2 mm = nI (L + c.length) ∧ (∀ i, i < c.length → s'.2.1 2 (at' + L + i) = nI (c.getD i 0)) ∧ ∀ x, x ≠ mm → (x < at' + L ∨ at' + L + c.length ≤ x) → s'.2.1 2 x = s.2.1 2 x
def SMT (s s' : RS) : Prop := RFR s s' ∧ s'.2.1 2 = s.2.1 2
section RQ1
variable {c : CX} {d : Nat} {s s' s1 s2 : RS} {f : Nat → Nat} {n h h1 k mm at' L dp : Nat} {c1 c2 : List Nat}
theorem SMT.rf : SMT s s := ⟨RFR.rf, rfl⟩
theorem RMV.sm (h : RMV s s') : SMT s s' := ⟨h.fr, by rw [h.2]⟩
theorem SMT.put (h : SMT s s') {k : Nat} (x : Int32) (hk : 8 ≤ k ∧ k ≤ 18 ∧ k ≠ 14 ∧ k ≠ 15) : SMT s (rF s' k x) := ⟨h.1.put x hk, h.2⟩
theorem SMT.tr (h : SMT s s') (h' : SMT s' s1) : SMT s s1 := ⟨h.1.tr h'.1, h'.2.trans h.2⟩
theorem mm_ne (hm : mmok mm at') (x : Nat) : at' + x ≠ mm ∧ mm < at' := by unfold mmok at hm; omega
theorem TLD.tr (hm : mmok mm at') (a : TLD s s1 mm at' L c1) (b : TLD s1 s2 mm at' (L + c1.length) c2) : TLD s s2 mm at' L (c1 ++ c2) := by
  obtain ⟨a1, a2, a3, a4⟩ := a
  obtain ⟨b1, b2, b3, b4⟩ := b
  refine ⟨a1.tr b1, by rw [b2, List.length_append, Nat.add_assoc], fun i hi => ?_, fun x hx hr => ?_⟩
  · rw [List.length_append] at hi
    rcases Nat.lt_or_ge i c1.length with z | z
    · have := (mm_ne hm (L + i)).1
      rw [b4 _ (by omega) (by omega), a3 i z, List.getD_eq_getElem?_getD, List.getD_eq_getElem?_getD, List.getElem?_append_left z]
    · have := b3 (i - c1.length) (by omega)
      rw [show at' + (L + c1.length) + (i - c1.length) = at' + L + i by omega] at this
      rw [this, List.getD_eq_getElem?_getD, List.getD_eq_getElem?_getD, List.getElem?_append_right z]
  · rw [List.length_append] at hr
    rw [b4 x hx (by omega), a4 x hx (by omega)]
theorem TLD.mv (a : TLD s s1 mm at' L c1) (b : SMT s1 s2) : TLD s s2 mm at' L c1 := ⟨a.1.tr b.1, by rw [b.2]; exact a.2.1, fun i hi => by rw [b.2]; exact a.2.2.1 i hi, fun x hx hr => by rw [b.2]; exact a.2.2.2 x hx hr⟩
theorem TLD.vm (b : SMT s s1) (a : TLD s1 s2 mm at' L c1) : TLD s s2 mm at' L c1 := ⟨b.1.tr a.1, a.2.1, a.2.2.1, fun x hx hr => by rw [a.2.2.2 x hx hr, b.2]⟩
theorem TLD.nil (b : SMT s s1) (hL : s.2.1 2 mm = nI L) : TLD s s1 mm at' L [] := ⟨b.1, by rw [b.2]; exact hL, fun i hi => absurd hi (Nat.not_lt_zero _), fun x _ _ => by rw [b.2]⟩
theorem CPR.on (q : CPR s f n h dp mm at') (h1 : RMV s s') (h2 : RTK s' f n (nx f n h)) : CPR s' f n (nx f n h) dp mm at' := by
  have e : ∀ k, k = 12 ∨ k = 16 ∨ k = 17 ∨ k = 18 → s'.1 k = s.1 k := fun k hk => h1.1 k (by omega) (by omega) (by omega) (by omega)
  exact ⟨h2, by rw [e 12 (by omega)]; exact q.2.1, by rw [e 16 (by omega)]; exact q.2.2.1, by rw [e 17 (by omega)]; exact q.2.2.2.1, by rw [e 18 (by omega)]; exact q.2.2.2.2⟩
theorem RTK.tel (q : RTK s f n h) (j : Nat) (x : Int32) : RTK (rA s 2 j x) f n h := q
theorem s_lay {Q : RS → Prop} (hm : mmok mm at') (q : CPR s f n h dp mm at') (hL : s.2.1 2 mm = nI L) (h9 : L < 900) {x : Nat} (hq : ∀ s', CPR s' f n h dp mm at' → TLD s s' mm at' L [x] → Q s') : RV c d m_R_laysStep [.ref 2, .int (nI x)] s Q := by
  have mb := mm_ne hm L
  have ma : mm < 5 ∧ at' ≤ 1201 := by unfold mmok at hm; omega
  refine w_R_laysStep _ ⟨fun _ => ?_, fun z => absurd q.2.1 z⟩
  rw [q.2.2.2.1, q.2.2.2.2, ix_nI (by omega), hL, nI_add, ix_nI (by omega)]
  refine ⟨okn (by omega) (by decide), okn (by omega) (by decide), w_R_laysStep_28 _ ?_⟩
  have e : ∀ y, (rA s 2 (at' + L) (nI x)).2.1 2 y = if y = at' + L then nI x else s.2.1 2 y := fun y => rfl
  rw [show (rA s 2 (at' + L) (nI x)).1 17 = nI mm from q.2.2.2.1, ix_nI (by omega), e mm, if_neg (by omega), hL, nI_1]
  refine ⟨okn (by omega) (by decide), okn (by omega) (by decide), hq _ q ?_⟩
  have e2 : ∀ y, (rA (rA s 2 (at' + L) (nI x)) 2 mm (nI (L + 1))).2.1 2 y = if y = mm then nI (L + 1) else if y = at' + L then nI x else s.2.1 2 y := fun y => rfl
  refine ⟨(RFR.rf.tel _ _).tel _ _, (e2 mm).trans (if_pos rfl), fun i hi => ?_, fun y hy hr => ?_⟩
  · have : i = 0 := by simp only [List.length_cons, List.length_nil] at hi; omega
    subst this
    rw [e2, if_neg (by omega), if_pos (by omega)]
    rfl
  · simp only [List.length_cons, List.length_nil] at hr
    rw [e2, if_neg hy, if_neg (by omega)]
theorem s_layX {Q : RS → Prop} {x : Int32} (h0 : ¬ s.1 12 = 0) (hq : Q s) : RV c d m_R_laysStep [.ref 2, .int x] s Q := w_R_laysStep _ ⟨fun z => absurd z h0, fun _ => hq⟩
theorem s_goesIn {Q : RS → Prop} (q : CPR s f n h dp mm at') (hd : dp ≤ 6) (h38 : kd f n h ≠ 38) (yes : dp ≠ 6 → ∀ s', SMT s s' → CPR s' f n (nx f n h) (dp + 1) mm at' → Q s') (no : dp = 6 → ∀ s', FLT s s' 4 (bgn f n h) → Q s') : RV c (d + 2) m_R_goesIn [.ref 2] s Q := by
  have ek : fkk f n h 4 = 4 := if_neg h38
  have bn := blm_ne (s := s) (k := 4) (by decide) (bgn f n h)
  refine w_R_goesIn ?_
  rw [q.2.2.1, show (nI dp = (6 : Int32)) = (dp = 6) from propext (nI_inj (b := 6) (by omega) (by decide)), nI_1]
  refine ⟨fun z => ⟨fun y => absurd q.2.1 y, fun _ => ?_⟩, fun z => s_blames (k := 4) q.1 q.2.1 ?_⟩
  · have q' : RTK (rF s 16 (nI (dp + 1))) f n h := q.1
    refine s_on q' (fun s' h1 h2 => yes z s' ((SMT.rf.put _ (by decide)).tr h1.sm) ?_)
    have q0 : CPR (rF s 16 (nI (dp + 1))) f n h (dp + 1) mm at' := ⟨q', q.2.1, rF_at _ _ _, q.2.2.2.1, q.2.2.2.2⟩
    exact q0.on h1 h2
  · rw [ek]
    exact ⟨fun _ => no z _ ((FLT.of RFR.rf _ (by decide)).put _ rfl), fun y => absurd y bn⟩
end RQ1
/-- the reference's calls by what they read -/
def RCC (c : CX) (m D : Nat) (s : RS) (Q : RS → Prop) : Prop := match m with
  | 0 => RV c D m_R_readTruth [.ref 2] s Q
  | 1 => eR c D m_R_readTruth 4 [some (.ref 2)] s (pV c Q)
  | 2 => RV c D m_R_readBoth [.ref 2] s Q
  | 3 => eR c D m_R_readBoth 4 [some (.ref 2)] s (pV c Q)
  | 4 => RV c D m_R_readUnit [.ref 2] s Q
  | 5 => RV c D m_R_readSum [.ref 2] s Q
  | 6 => eR c D m_R_readSum 4 [some (.ref 2), none] s (pV c Q)
  | 7 => RV c D m_R_readTerm [.ref 2] s Q
  | 8 => eR c D m_R_readTerm 4 [some (.ref 2)] s (pV c Q)
  | _ => RV c D m_R_readAtom [.ref 2] s Q
def rdm (m : Nat) : Nat := if m ≤ 1 then 12 else if m ≤ 3 then 11 else if m = 4 then 10 else if m ≤ 6 then 9 else if m ≤ 8 then 8 else 7
section RQ2
variable {c : CX} {f : Nat → Nat} {n mm at' : Nat}
/-- behind a fault nothing happens -/
theorem r_psX {s : RS} {Q : RS → Prop} (h0 : ¬ s.1 12 = 0) (hq : Q s) : ∀ (m D : Nat), m ≤ 9 → 4 ≤ D → RCC c m D s Q := by
  have dec : ∀ x : Int32, decide (s.1 12 = 0 ∧ s.1 10 = x) = false := fun x => decide_eq_false (fun z => h0 z.1)
  have r9 : ∀ D Q, Q s → 1 ≤ D → RV c D m_R_readAtom [.ref 2] s Q := fun D Q hq hD => by
    obtain ⟨d, rfl⟩ : ∃ d, D = d + 1 := ⟨D - 1, by omega⟩
    exact w_R_readAtom ⟨fun z => absurd z h0, fun _ => hq⟩
  have r8 : ∀ D Q, Q s → 1 ≤ D → eR c D m_R_readTerm 4 [some (.ref 2)] s (pV c Q) := fun D Q hq hD => by
    obtain ⟨d, rfl⟩ : ∃ d, D = d + 1 := ⟨D - 1, by omega⟩
    refine w_R_readTerm_4 ?_
    rw [dec]
    exact ⟨fun _ => hq, fun z => by cases z⟩
  have r7 : ∀ D Q, Q s → 2 ≤ D → RV c D m_R_readTerm [.ref 2] s Q := fun D Q hq hD => by
    obtain ⟨d, rfl⟩ : ∃ d, D = d + 2 := ⟨D - 2, by omega⟩
    exact w_R_readTerm (r9 (d + 1) _ (r8 (d + 2) Q hq (by omega)) (by omega))
  have r6 : ∀ D Q, Q s → 1 ≤ D → eR c D m_R_readSum 4 [some (.ref 2), none] s (pV c Q) := fun D Q hq hD => by
    obtain ⟨d, rfl⟩ : ∃ d, D = d + 1 := ⟨D - 1, by omega⟩
    refine w_R_readSum_4 ?_
    rw [dec, dec]
    exact ⟨fun z => (by cases z), fun _ => ⟨fun _ => hq, fun z => by cases z⟩⟩
  have r5 : ∀ D Q, Q s → 3 ≤ D → RV c D m_R_readSum [.ref 2] s Q := fun D Q hq hD => by
    obtain ⟨d, rfl⟩ : ∃ d, D = d + 1 := ⟨D - 1, by omega⟩
    exact w_R_readSum (r7 d _ (r6 (d + 1) Q hq (by omega)) (by omega))
  have r4 : ∀ D Q, Q s → 1 ≤ D → RV c D m_R_readUnit [.ref 2] s Q := fun D Q hq hD => by
    obtain ⟨d, rfl⟩ : ∃ d, D = d + 1 := ⟨D - 1, by omega⟩
    exact w_R_readUnit ⟨fun z => absurd z h0, fun _ => hq⟩
  have r3 : ∀ D Q, Q s → 3 ≤ D → eR c D m_R_readBoth 4 [some (.ref 2)] s (pV c Q) := fun D Q hq hD => by
    obtain ⟨d, rfl⟩ : ∃ d, D = d + 3 := ⟨D - 3, by omega⟩
    exact w_R_readBoth_4 (s_tookX h0 ⟨fun _ => hq, fun z => by cases z⟩)
  have r2 : ∀ D Q, Q s → 3 ≤ D → RV c D m_R_readBoth [.ref 2] s Q := fun D Q hq hD => by
    obtain ⟨d, rfl⟩ : ∃ d, D = d + 1 := ⟨D - 1, by omega⟩
    exact w_R_readBoth (r4 d _ (r3 (d + 1) Q hq (by omega)) (by omega))
  have r1 : ∀ D Q, Q s → 3 ≤ D → eR c D m_R_readTruth 4 [some (.ref 2)] s (pV c Q) := fun D Q hq hD => by
    obtain ⟨d, rfl⟩ : ∃ d, D = d + 3 := ⟨D - 3, by omega⟩
    exact w_R_readTruth_4 (s_tookX h0 ⟨fun _ => hq, fun z => by cases z⟩)
  have r0 : ∀ D Q, Q s → 4 ≤ D → RV c D m_R_readTruth [.ref 2] s Q := fun D Q hq hD => by
    obtain ⟨d, rfl⟩ : ∃ d, D = d + 1 := ⟨D - 1, by omega⟩
    exact w_R_readTruth (r2 d _ (r1 (d + 1) Q hq (by omega)) (by omega))
  intro m D hm hD
  match m, hm with
  | 0, _ => exact r0 D Q hq (by omega)
  | 1, _ => exact r1 D Q hq (by omega)
  | 2, _ => exact r2 D Q hq (by omega)
  | 3, _ => exact r3 D Q hq (by omega)
  | 4, _ => exact r4 D Q hq (by omega)
  | 5, _ => exact r5 D Q hq (by omega)
  | 6, _ => exact r6 D Q hq (by omega)
  | 7, _ => exact r7 D Q hq (by omega)
  | 8, _ => exact r8 D Q hq (by omega)
  | 9, _ => exact r9 D Q hq (by omega)
end RQ2
