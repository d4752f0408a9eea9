/-! deeds of the reference -/
def KF (k : Nat → Int32) (v : CV) (a : SD) (p : List SD) : Prop := (KC k v ∧ KS k 6 a ∧ COK v ∧ SOK (vG v) a) ∧ KP k (vG v) p
/-- what a deed leaves -/
def RD (s s' : RS) (t : Int32) (v : CV) (a : SD) (p : List SD) : Prop := s'.1 4 = t ∧ (∀ k, k ≠ 4 → k ≠ 22 → k ≠ 26 → k ≠ 27 → k ≠ 28 → k ≠ 31 → k ≠ 32 → s'.1 k = s.1 k) ∧ (∀ i, i ≠ 1 → (i < 6 ∨ 13 < i) → s'.2.1 i = s.2.1 i) ∧ (∀ i, i ≠ 14 → s'.2.2 i = s.2.2 i) ∧ KF (s'.2.1 1) v a p
section RD1
variable {c : CX} {d : Nat} {s s' : RS} {v : CV} {a a' : SD} {p : List SD} {k k' : Nat → Int32}
theorem KP.keep {G : Nat} (h : KP k G p) (hx : ∀ x, (x = 5 ∨ (91 ≤ x ∧ x < 301)) → k' x = k x) : KP k' G p := by
  refine ⟨by rw [hx 5 (Or.inl rfl)]; exact h.1, h.2.1, fun i b hb => ?_⟩
  obtain ⟨h1, h2⟩ := h.2.2 i b hb
  have hlt := (List.getElem?_eq_some_iff.mp hb).1
  have := h.2.1
  exact ⟨h1.keep (fun x hx' => hx _ (by omega)), h2⟩
theorem KF.put (h : KF k v a p) (hx : ∀ x, (x < 6 ∨ 27 ≤ x) → k' x = k x) (hs : KS k' 6 a') (ok : SOK (vG v) a') : KF k' v a' p :=
  ⟨⟨h.1.1.keep h.1.2.2.1 (fun x hx' => hx x (by omega)), hs, h.1.2.2.1, ok⟩, h.2.keep (fun x hx' => hx x (by omega))⟩
theorem KS.turn (h : KS k 6 a) {g : Nat} (hg : g < 10) (o : Option Nat) : KS (upd k (6 + g) (oI o)) 6 (turnS a g o) := by
  refine ⟨fun x hx => ?_, fun x hx => ?_, ?_⟩
  · unfold upd
    simp only [turnS]
    by_cases y : x = g
    · rw [if_pos (by omega), if_pos y]
    · rw [if_neg (by omega), if_neg y]; exact h.1 x hx
  · unfold upd; rw [if_neg (by omega)]; exact h.2.1 x hx
  · unfold upd; rw [if_neg (by omega)]; exact h.2.2
theorem KS.rank (h : KS k 6 a) {g n : Nat} (hg : g < 10) : KS (upd k (16 + g) (nI n)) 6 (rankS a g n) := by
  refine ⟨fun x hx => ?_, fun x hx => ?_, ?_⟩
  · unfold upd; rw [if_neg (by omega)]; exact h.1 x hx
  · unfold upd
    simp only [rankS]
    by_cases y : x = g
    · rw [if_pos (by omega), if_pos y]
    · rw [if_neg (by omega), if_neg y]; exact h.2.1 x hx
  · unfold upd; rw [if_neg (by omega)]; exact h.2.2
theorem g1_int : ∀ G, G < 11 → ((nI G - 1).toInt64).toInt = (G : Int) - 1 := by decide +kernel
theorem l32 : ∀ n, n < 10 → (lN n).toInt32 = nI n := by decide +kernel
theorem s_whyNot {Q : Int32 → RS → Prop} (h : KR s v a) {x y : Int64} (hq : ∀ s', (s' = s ∨ ∃ f, s' = rW s 6 f) → Q (nI (whyN v a x.toInt y.toInt)) s') : RI c (d + 5) m_R_whyNot [.ref 2, .long x, .long y] s Q := by
  have hG := h.2.2.1.1
  have e0 : ((0 : Int64).toInt : Int) = 0 := rfl
  have bad : ¬ (0 ≤ x.toInt ∧ x.toInt < vG v ∧ 0 ≤ y.toInt ∧ y.toInt < vG v ∧ x.toInt ≠ y.toInt) → Q 1 s := fun z => by
    have := hq s (Or.inl rfl)
    unfold whyN at this
    rwa [if_neg z] at this
  refine w_R_whyNot _ _ ?_
  rw [h.1.2.1, wth_t, wth_f, wth_t, wth_f, g1_int _ (by omega), e0]
  refine ⟨fun z => bad (by omega), fun z => ⟨fun z2 => bad (by omega), fun z2 => ⟨fun z3 => ?_, fun z3 => bad (by rw [z3]; omega)⟩⟩⟩
  rw [fa_eq64] at z3
  have ex : x = lN x.toInt.toNat := lN_of (by omega) (by omega)
  have ey : y = lN y.toInt.toNat := lN_of (by omega) (by omega)
  have hq' : ∀ f, Q (nI (if mayB v a x.toInt.toNat y.toInt.toNat = true then 0 else 2)) (rW s 6 f) := fun f => by
    have := hq _ (Or.inr ⟨f, rfl⟩)
    unfold whyN at this
    rwa [if_pos (by omega)] at this
  have hi : x.toInt.toNat < vG v := by omega
  have hj : y.toInt.toNat < vG v := by omega
  generalize x.toInt.toNat = i at *
  generalize y.toInt.toNat = j at *
  rw [ex, ey, l32 i (by omega), l32 j (by omega)]
  refine s_mayMock (d := d) h hi hj (fun f => ⟨fun q => ?_, fun q => ?_⟩)
  · have := hq' f
    rwa [if_neg (by rw [q]; decide)] at this
  · have := hq' f
    rwa [if_pos q] at this
theorem RD.of (h0 : s'.1 4 = 0) (h1 : ∀ j, j ≠ 4 → s'.1 j = s.1 j) (h2 : ∀ i, i ≠ 1 → i ≠ 6 → s'.2.1 i = s.2.1 i) (h3 : s'.2.2 = s.2.2) (h4 : KF (s'.2.1 1) v a p) : RD s s' 0 v a p :=
  ⟨h0, fun j q _ _ _ _ _ _ => h1 j q, fun i q1 q2 => h2 i q1 (by omega), fun i _ => by rw [h3], h4⟩
theorem r_mock {Q : Int32 → RS → Prop} (h : KF (s.2.1 1) v a p) {x y : Int32} (ok : whyN v a x.toInt y.toInt = 0 → ∀ s', RD s s' 0 v (turnS a x.toInt.toNat (some y.toInt.toNat)) (push10 p a) → Q (nI (pop (mkb (turnS a x.toInt.toNat (some y.toInt.toNat)).1 y.toInt.toNat 10))) s') (bad : whyN v a x.toInt y.toInt ≠ 0 → ∀ s', SQ s s' 0 → Q (-(nI (whyN v a x.toInt y.toInt))) s') : RI c (d + 6) m_R_mock [.ref 2, .int x, .int y] s Q := by
  have hk : KR (rF s 4 0) v a := h.1
  have hG := h.1.2.2.1.1
  refine w_R_mock _ _ (s_whyNot (d := d) hk (fun s1 hs1 => ?_))
  rw [i64_toInt, i64_toInt]
  have hsq : SQ s s1 0 := by
    rcases hs1 with rfl | ⟨f, rfl⟩
    · exact SQ.th s 0
    · exact (SQ.th s 0).W f (by decide)
  have e6 : ∀ i, i ≠ 6 → s1.2.1 i = s.2.1 i := by
    rcases hs1 with rfl | ⟨f, rfl⟩
    · exact fun i _ => rfl
    · exact fun i hi => rW_ne _ _ hi
  have ef : (∀ j, j ≠ 4 → s1.1 j = s.1 j) ∧ s1.2.2 = s.2.2 := by
    rcases hs1 with rfl | ⟨f, rfl⟩
    · exact ⟨fun j hj => if_neg hj, rfl⟩
    · exact ⟨fun j hj => if_neg hj, rfl⟩
  have hle : whyN v a x.toInt y.toInt ≤ 2 := by
    unfold whyN
    split
    · split <;> omega
    · omega
  have e0 : nI (whyN v a x.toInt y.toInt) = (0 : Int32) ↔ whyN v a x.toInt y.toInt = 0 := nI_inj (b := 0) (by omega) (by decide)
  rw [e0]
  refine ⟨fun z => ?_, fun z => bad z s1 hsq⟩
  have ok := ok z
  have hc : 0 ≤ x.toInt ∧ x.toInt < vG v ∧ 0 ≤ y.toInt ∧ y.toInt < vG v ∧ x.toInt ≠ y.toInt := by
    unfold whyN at z
    split at z
    · assumption
    · cases z
  have ex : x = nI x.toInt.toNat := nI_of_toInt (by omega)
  have ey : y = nI y.toInt.toNat := nI_of_toInt (by omega)
  have hi : x.toInt.toNat < vG v := by omega
  have hj : y.toInt.toNat < vG v := by omega
  have hne : y.toInt.toNat ≠ x.toInt.toNat := by omega
  clear hc z bad e0 hle hs1
  generalize x.toInt.toNat = i at *
  generalize y.toInt.toNat = j at *
  rw [ex, ey]
  have k1 : KR s1 v a := hsq.kr h.1
  refine s_keeps k1 (p := p) (by rw [e6 1 (by decide)]; exact h.2) (fun k hkp hkx hkr => ⟨okm (by omega), ?_⟩)
  have kf : KF (upd k (6 + i) (nI j)) v (turnS a i (some j)) (push10 p a) := by
    have hkf : KF k v a (push10 p a) := ⟨by have := hkr; unfold KR at this; rwa [rW_at] at this, hkp⟩
    exact hkf.put (fun x hx => by unfold upd; exact if_neg (by omega)) (hkf.1.2.1.turn (by omega) (some j)) (turn_sok hkf.1.2.2.2 hi hj hne)
  rw [show ix (6 + nI i) = 6 + i from ixA 6 (by omega), rA_W, rW_at, rW_W]
  have k2 : KR (rW s1 1 (upd k (6 + i) (nI j))) v (turnS a i (some j)) := by
    have := kf.1
    unfold KR
    rwa [rW_at]
  refine s_mk (d := d + 4) k2 (by omega) (s_size (mkb_t _ _) ?_)
  refine ok _ (RD.of hsq.1 ef.1 (fun i' q1 q2 => by rw [rW_ne _ _ q1]; exact e6 i' q2) ef.2 ?_)
  rw [rW_at]
  exact kf
theorem r_spare {Q : Int32 → RS → Prop} (h : KF (s.2.1 1) v a p) {g : Int32} (ok : ∀ k, g = nI k → k < vG v → ∀ s', RD s s' 0 v (turnS a k none) (push10 p a) → Q (oI (a.1 k)) s') (bad : ¬ (0 ≤ g.toInt ∧ g.toInt < vG v) → ∀ s', SQ s s' 1 → Q 0 s') : RI c (d + 2) m_R_spare [.ref 2, .int g] s Q := by
  have hG := h.1.2.2.1.1
  have hk : KR (rF s 4 0) v a := h.1
  refine w_R_spare _ (KR.isg (s := s) h.1 (fun i e hi => ?_) (fun q => bad q _ (SQ.th2 s 0 1)))
  have ok := ok i e hi
  rw [e]
  refine s_keeps hk (p := p) h.2 (fun k hkp hkx hkr => ⟨okm (by omega), okm (by omega), ?_⟩)
  have hkf : KF k v a (push10 p a) := ⟨by have := hkr; unfold KR at this; rwa [rW_at] at this, hkp⟩
  rw [hkr.wh (by omega), show ix (6 + nI i) = 6 + i from ixA 6 (by omega), rA_W, rW_at, rW_W]
  refine ok _ (RD.of rfl (fun j hj => if_neg hj) (fun i' q1 q2 => rW_ne _ _ q1) rfl ?_)
  rw [rW_at]
  exact hkf.put (fun x hx => by unfold upd; exact if_neg (by omega)) (hkf.1.2.1.turn (by omega) none) (spare_sok hkf.1.2.2.2 i)
theorem r_rank {Q : Int32 → RS → Prop} (h : KF (s.2.1 1) v a p) {g n : Int32} (ok : ∀ k m, g = nI k → k < vG v → n = nI m → m ≤ 99 → ∀ s', RD s s' 0 v (rankS a k m) (push10 p a) → Q (nI (a.2.1 k)) s') (bad : ¬ (0 ≤ g.toInt ∧ g.toInt < vG v) → ∀ s', SQ s s' 1 → Q 0 s') (bad2 : 0 ≤ g.toInt ∧ g.toInt < vG v → ¬ (0 ≤ n.toInt ∧ n.toInt ≤ 99) → ∀ s', SQ s s' 2 → Q 0 s') : RI c (d + 2) m_R_rank [.ref 2, .int g, .int n] s Q := by
  have hG := h.1.2.2.1.1
  have hk : KR (rF s 4 0) v a := h.1
  refine w_R_rank _ _ (KR.isg (s := s) h.1 (fun i e hi => ?_) (fun q => bad q _ (SQ.th s 1)))
  rw [wth_c.1, wth_c.2]
  refine ⟨fun q => bad2 (by rw [e, nI_toInt (by omega)]; omega) q _ (SQ.th s 2), fun q => ?_⟩
  have z1 : 0 ≤ n.toInt := q.1
  have z2 : n.toInt ≤ 99 := q.2
  have en : n = nI n.toInt.toNat := nI_of_toInt (by omega)
  have hn : n.toInt.toNat ≤ 99 := by omega
  have ok := ok i _ e hi en hn
  generalize n.toInt.toNat = m at *
  rw [e, en]
  refine s_keeps hk (p := p) h.2 (fun k hkp hkx hkr => ⟨okA 16 (by omega) (by decide), okA 16 (by omega) (by decide), ?_⟩)
  have hkf : KF k v a (push10 p a) := ⟨by have := hkr; unfold KR at this; rwa [rW_at] at this, hkp⟩
  rw [show ix (16 + nI i) = 16 + i from ixA 16 (by omega), rA_W, rW_at, rW_W, show k (16 + i) = nI (a.2.1 i) from hkf.1.2.1.2.1 i (by omega)]
  refine ok _ (RD.of rfl (fun j hj => if_neg hj) (fun i' q1 q2 => rW_ne _ _ q1) rfl ?_)
  rw [rW_at]
  exact hkf.put (fun x hx => by unfold upd; exact if_neg (by omega)) (hkf.1.2.1.rank (by omega)) (rank_sok hkf.1.2.2.2 hn)
end RD1
