/-! tokens of the reference -/
def sgc (k : Nat) : Nat := [59, 43, 45, 42, 40, 41, 91, 93, 61, 60, 62].getD (k - 25) 0
def rtk (k : Nat) : Int32 := if k < 25 then 1 else if k = 39 then 1 else if k = 37 then 0 else if k = 36 then 2 else if k = 38 then 3 else nI (sgc k)
theorem rtk_is : ∀ k, k < 40 → (rtk k = 0 ↔ k = 37) ∧ (rtk k = 1 ↔ (k < 25 ∨ k = 39)) ∧ (rtk k = 2 ↔ k = 36) ∧ (rtk k = 3 ↔ k = 38) ∧ (rtk k = 59 ↔ k = 25) ∧ (rtk k = 43 ↔ k = 26) ∧ (rtk k = 45 ↔ k = 27) ∧ (rtk k = 42 ↔ k = 28) ∧ (rtk k = 40 ↔ k = 29) ∧ (rtk k = 41 ↔ k = 30) ∧ (rtk k = 91 ↔ k = 31) ∧ (rtk k = 93 ↔ k = 32) ∧ (rtk k = 61 ↔ k = 33) ∧ (rtk k = 60 ↔ k = 34) ∧ (rtk k = 62 ↔ k = 35) := by decide +kernel
def isSg (x : Nat) : Bool := decide (skd x ≠ 38)
def RTX (s : RS) (f : Nat → Nat) (n : Nat) : Prop := s.1 7 = nI n ∧ n ≤ 900 ∧ ∀ j, j < n → s.2.1 5 j = nI (f j) ∧ f j < 256
/-- the token that stands, from h on -/
def RTK (s : RS) (f : Nat → Nat) (n h : Nat) : Prop := RTX s f n ∧ h ≤ n ∧ s.1 8 = nI (nx f n h) ∧ s.1 9 = nI (bgn f n h) ∧ s.1 10 = rtk (kd f n h) ∧ (kd f n h = 36 → s.1 11 = nI (vl f n h))
def RMV (s s' : RS) : Prop := (∀ k, k ≠ 8 → k ≠ 9 → k ≠ 10 → k ≠ 11 → s'.1 k = s.1 k) ∧ s'.2 = s.2
section RK1
variable {c : CX} {d : Nat} {s s' s1 : RS} {f : Nat → Nat} {n h b e k a : Nat}
theorem RMV.rf : RMV s s := ⟨fun _ _ _ _ _ => rfl, rfl⟩
theorem RMV.tr (h : RMV s s') (h' : RMV s' s1) : RMV s s1 := ⟨fun k a b c d => (h'.1 k a b c d).trans (h.1 k a b c d), h'.2.trans h.2⟩
theorem RMV.put (h : RMV s s') {k : Nat} (x : Int32) (hk : k = 8 ∨ k = 9 ∨ k = 10 ∨ k = 11) : RMV s (rF s' k x) := ⟨fun j a b c d => (if_neg (by omega)).trans (h.1 j a b c d), h.2⟩
theorem RMV.txt (h : RMV s s') (q : RTX s f n) : RTX s' f n := ⟨by rw [h.1 7 (by decide) (by decide) (by decide) (by decide)]; exact q.1, q.2.1, fun j hj => by rw [h.2]; exact q.2.2 j hj⟩
theorem rF_ne (s : RS) {k j : Nat} (x : Int32) (h : j ≠ k) : (rF s k x).1 j = s.1 j := if_neg h
theorem nat_L : ∀ x, x < 256 → isLt (nI x) = isL x := by decide +kernel
theorem nat_D : ∀ x, x < 256 → isDg (nI x) = isD x := by decide +kernel
theorem nat_S : ∀ x, x < 256 → skd x ≠ 38 → nI x = rtk (skd x) := by decide +kernel
theorem s_see {Q : Int32 → RS → Prop} (q : RTX s f n) {j : Nat} (hj : j ≤ n) (hq : Q (if j < n then nI (f j) else 0) s) : RI c d m_R_see [.ref 2, .int (nI j)] s Q := by
  have h9 := q.2.1
  refine w_R_see _ ?_
  rw [q.1, ix_nI (by omega)]
  rw [show (nI n ≤ nI j) = (n ≤ j) from propext (nI_leI (by omega) (by omega))]
  refine ⟨fun z => ?_, fun z => ⟨okn (by omega) (by decide), ?_⟩⟩
  · rw [if_neg (by omega)] at hq
    exact hq
  · rw [if_pos (by omega)] at hq
    rw [(q.2.2 j (by omega)).1]
    exact hq
theorem s_isSignByte {Q : Bool → RS → Prop} {x : Nat} (hx : x < 256) (hq : Q (isSg x) s) : RB c d m_R_isSignByte [.int (nI x)] s Q := by
  have key : ∀ j : Nat, j < 256 → ((nI x = nI j) = (x = j)) := fun j hj => propext (nI_inj (by omega) (by omega))
  refine w_R_isSignByte _ ?_
  rw [show (nI x = (91 : Int32)) = _ from key 91 (by decide), show (nI x = (93 : Int32)) = _ from key 93 (by decide), show (nI x = (61 : Int32)) = _ from key 61 (by decide), show (nI x = (60 : Int32)) = _ from key 60 (by decide), show (nI x = (62 : Int32)) = _ from key 62 (by decide), show (nI x = (59 : Int32)) = _ from key 59 (by decide), show (nI x = (43 : Int32)) = _ from key 43 (by decide), show (nI x = (45 : Int32)) = _ from key 45 (by decide), show (nI x = (42 : Int32)) = _ from key 42 (by decide), show (nI x = (40 : Int32)) = _ from key 40 (by decide), show (nI x = (41 : Int32)) = _ from key 41 (by decide)]
  have yes : ∀ j, j = 91 ∨ j = 93 ∨ j = 61 ∨ j = 60 ∨ j = 62 ∨ j = 59 ∨ j = 43 ∨ j = 45 ∨ j = 42 ∨ j = 40 ∨ j = 41 → x = j → Q true s := fun j hj e => by
    subst e
    have : isSg x = true := by
      rcases hj with rfl | rfl | rfl | rfl | rfl | rfl | rfl | rfl | rfl | rfl | rfl <;> decide
    rw [this] at hq
    exact hq
  refine ⟨fun z => yes 91 (by omega) z, fun z1 => ⟨fun z => yes 93 (by omega) z, fun z2 => ⟨fun z => yes 61 (by omega) z, fun z3 => ⟨fun z => yes 60 (by omega) z, fun z4 => ⟨fun z5 => ⟨fun z => yes 59 (by omega) z, fun z6 => ⟨fun z => yes 43 (by omega) z, fun z7 => ⟨fun z => yes 45 (by omega) z, fun z8 => ⟨fun z => yes 42 (by omega) z, fun z9 => ⟨fun z => yes 40 (by omega) z, fun z10 => ⟨fun z11 => ?_, fun z => yes 41 (by omega) z⟩⟩⟩⟩⟩⟩, fun z => yes 62 (by omega) z⟩⟩⟩⟩⟩
  have : isSg x = false := by
    refine decide_eq_false (fun w => w ?_)
    unfold skd
    rw [if_neg z6, if_neg z7, if_neg z8, if_neg z9, if_neg z10, if_neg z11, if_neg z1, if_neg z2, if_neg z3, if_neg z4, if_neg z5]
  rw [this] at hq
  exact hq
theorem s_readsOn {Q : RS → Prop} (q : RTX s f n) (h8 : s.1 8 = nI h) (hn : h ≤ n) (hq : ∀ s', RMV s s' → RTK s' f n h → Q s') : RV c (d + 1) m_R_readsOn [.ref 2] s Q := by
  have h9 := q.2.1
  refine w_R_readsOn ?_
  suffices H : ∀ (m j : Nat) (s1 : RS), j + m = n → h ≤ j → RMV s s1 → s1.1 8 = nI j → bgn f n j = bgn f n h → eR c (d + 1) m_R_readsOn 0 [some (.ref 2), none] s1 (pV c Q) from H (n - h) h s (by omega) (Nat.le_refl _) RMV.rf h8 rfl
  intro m
  induction m with
  | zero =>
    intro j s1 hm hj hd g8 he
    have q1 := hd.txt q
    have eb : bgn f n h = n := by rw [← he, show j = n by omega]; exact rend_e (by omega)
    have ek : kd f n h = 37 := by unfold kd kdb; rw [eb, if_pos (Nat.le_refl _)]
    have en : nx f n h = n := by unfold nx ten; rw [eb, if_pos (Nat.le_refl _)]
    refine w_R_readsOn_0 ?_
    rw [q1.1, g8, show j = n by omega]
    refine ⟨fun _ => ⟨fun z => absurd ((nI_ltI (by omega) (by omega)).mp z) (by omega), fun _ => hq _ ((hd.put _ (by omega)).put _ (by omega)) ⟨((hd.put _ (by omega)).put _ (by omega)).txt q, hn, ?_, ?_, ?_, fun z => by omega⟩⟩, fun z => absurd ((nI_leI (by omega) (by omega)).mpr (Nat.le_refl _)) z⟩
    · rw [en, rF_ne _ _ (by decide), rF_ne _ _ (by decide), g8, show j = n by omega]
    · rw [eb, rF_ne _ _ (by decide), rF_at]
    · rw [ek, rF_at]; rfl
  | succ m ih =>
    intro j s1 hm hj hd g8 he
    have q1 := hd.txt q
    have hc := (q1.2.2 j (by omega)).2
    have go : isBl (f j) = true → eR c (d + 1) m_R_readsOn 0 [some (.ref 2), none] (rF s1 8 (nI (j + 1))) (pV c Q) := fun z => ih (j + 1) _ (by omega) (by omega) (hd.put _ (by omega)) (rF_at _ _ _) (by rw [← he]; exact (rend_s (p := fun j => isBl (f j)) (by omega) z).symm)
    refine w_R_readsOn_0 ?_
    rw [q1.1, g8, ix_nI (by omega), (q1.2.2 j (by omega)).1, nat_L _ hc, nat_D _ hc, nI_1, show (nI (f j) = (32 : Int32)) = (f j = 32) from propext (nI_inj (b := 32) (by omega) (by decide)), show (nI (f j) = (10 : Int32)) = (f j = 10) from propext (nI_inj (b := 10) (by omega) (by decide))]
    refine ⟨fun z => absurd ((nI_leI (by omega) (by omega)).mp z) (by omega), fun _ => ⟨okn (by omega) (by decide), fun z => go (decide_eq_true (Or.inl z)), fun z32 => ⟨okn (by omega) (by decide), fun z10 => ⟨fun _ => ⟨okn (by omega) (by decide), ?_⟩, fun z => absurd ((nI_ltI (by omega) (by omega)).mpr (by omega)) z⟩, fun z => go (decide_eq_true (Or.inr z))⟩⟩⟩
    have eb : bgn f n h = j := by
      rw [← he]
      exact rend_e (p := fun j => isBl (f j)) (fun w => by have := of_decide_eq_true w.2; omega)
    have hd9 : RMV s (rF s1 9 (nI j)) := hd.put _ (by omega)
    have k8 : (rF s1 9 (nI j)).1 8 = nI j := (rF_ne _ _ (by decide)).trans g8
    have k9 : (rF s1 9 (nI j)).1 9 = nI j := rF_at _ _ _
    have kn : ¬ n ≤ j := by omega
    refine ⟨fun zl => ⟨fun zd => ?_, fun zd => ?_⟩, fun zl => ?_⟩
    · have ek : kd f n h = skd (f j) := by unfold kd kdb; rw [eb, if_neg kn, if_neg (by rw [zl]; decide), if_neg (by rw [zd]; decide)]
      have en : nx f n h = j + 1 := by unfold nx ten; rw [eb, if_neg kn, if_neg (by rw [zl]; decide), if_neg (by rw [zd]; decide)]
      have fin : ∀ x : Int32, x = rtk (skd (f j)) → Q (rF (rF (rF s1 9 (nI j)) 10 x) 8 (nI (j + 1))) := fun x ex => by
        subst ex
        refine hq _ ((hd9.put _ (by omega)).put _ (by omega)) ⟨((hd9.put _ (by omega)).put _ (by omega)).txt q, hn, ?_, ?_, ?_, fun z => ?_⟩
        · rw [en, rF_at]
        · rw [eb, rF_ne _ _ (by decide), rF_ne _ _ (by decide), k9]
        · rw [ek, rF_ne _ _ (by decide), rF_at]
        · have := skd_c (f j); omega
      refine s_isSignByte hc ?_
      rw [k8, nI_1]
      refine ⟨fun z => fin 3 ?_, fun z => fin _ ?_⟩
      · have : skd (f j) = 38 := by
          have := of_decide_eq_false z
          exact Classical.byContradiction this
        rw [this]; rfl
      · exact nat_S _ hc (of_decide_eq_true z)
    · have ek : kd f n h = (if dend f n j - j ≤ 3 then 36 else 38) := by unfold kd kdb; rw [eb, if_neg kn, if_neg (by rw [zl]; decide), if_pos zd]
      have en : nx f n h = dend f n j := by unfold nx ten; rw [eb, if_neg kn, if_neg (by rw [zl]; decide), if_pos zd]
      clear ih go
      suffices K : ∀ (m i : Nat) (s2 : RS), i + m = n → j ≤ i → RMV s s2 → s2.1 8 = nI i → s2.1 9 = nI j → s2.1 11 = nI (vlk f j (min 3 (i - j))) → (∀ x, j ≤ x → x < i → isD (f x) = true) → dend f n i = dend f n j → eR c (d + 1) m_R_readsOn 141 [some (.ref 2), some (.int (nI (f j)))] s2 (pV c Q) from K (n - j) j _ (by omega) (Nat.le_refl _) (hd9.put _ (by omega)) ((rF_ne _ _ (by decide)).trans k8) ((rF_ne _ _ (by decide)).trans k9) ((rF_at _ _ _).trans (by rw [Nat.sub_self]; rfl)) (fun x h1 h2 => by omega) rfl
      have stop : ∀ (i : Nat) (s2 : RS), j ≤ i → i ≤ n → RMV s s2 → s2.1 8 = nI i → s2.1 9 = nI j → s2.1 11 = nI (vlk f j (min 3 (i - j))) → i = dend f n j → (((s2.1 8) - (s2.1 9) ≤ (3 : Int32) → Q (rF s2 10 2)) ∧ (¬ (s2.1 8) - (s2.1 9) ≤ (3 : Int32) → Q (rF s2 10 3))) := fun i s2 hji hin hd2 e8 e9 e11 hi => by
        subst hi
        rw [e8, e9, nI_sub hji, show (nI (dend f n j - j) ≤ (3 : Int32)) = (dend f n j - j ≤ 3) from propext (nI_leI (b := 3) (by omega) (by decide))]
        have fin : ∀ x : Int32, x = rtk (if dend f n j - j ≤ 3 then 36 else 38) → Q (rF s2 10 x) := fun x ex => by
          subst ex
          refine hq _ (hd2.put _ (by omega)) ⟨(hd2.put _ (by omega)).txt q, hn, ?_, ?_, ?_, fun z => ?_⟩
          · rw [en, rF_ne _ _ (by decide), e8]
          · rw [eb, rF_ne _ _ (by decide), e9]
          · rw [ek, rF_at]
          · rw [rF_ne _ _ (by decide), e11]
            unfold vl
            rw [eb]
        exact ⟨fun z => fin 2 (by rw [if_pos z]; rfl), fun z => fin 3 (by rw [if_neg z]; rfl)⟩
      intro m
      induction m with
      | zero =>
        intro i s2 hm hji hd2 e8 e9 e11 hD hi
        refine w_R_readsOn_141 _ ?_
        rw [e8]
        refine s_see (hd2.txt q) (by omega) ?_
        rw [if_neg (by omega)]
        exact ⟨fun _ => stop i s2 hji (by omega) hd2 e8 e9 e11 (by rw [← hi]; exact (rend_e (by omega)).symm), fun z => absurd z (by decide)⟩
      | succ m ih =>
        intro i s2 hm hji hd2 e8 e9 e11 hD hi
        have q2 := hd2.txt q
        have hci := (q2.2.2 i (by omega)).2
        refine w_R_readsOn_141 _ ?_
        rw [e8]
        refine s_see q2 (by omega) ?_
        rw [if_pos (by omega), nat_D _ hci]
        refine ⟨fun z => stop i s2 hji (by omega) hd2 e8 e9 e11 (by rw [← hi]; exact (rend_e (p := fun j => isD (f j)) (by simp [z])).symm), fun z => ?_⟩
        have hD' : ∀ x, j ≤ x → x < i + 1 → isD (f x) = true := fun x h1 h2 => by
          rcases Nat.lt_or_ge x i with w | w
          · exact hD x h1 w
          · rw [show x = i by omega]; exact z
        have hi' : dend f n (i + 1) = dend f n j := by
          rw [← hi]
          exact (rend_s (p := fun j => isD (f j)) (by omega) z).symm
        rw [e8, e9, e11, nI_sub hji, show ((3 : Int32) ≤ nI (i - j)) = (3 ≤ i - j) from propext (nI_leI (a := 3) (by decide) (by omega)), nI_1, ix_nI (by omega), (q2.2.2 i (by omega)).1]
        refine ⟨fun y => ih (i + 1) _ (by omega) (by omega) ((hd2.put _ (by omega)).put _ (by omega)) (rF_at _ _ _) ((rF_ne _ _ (by decide)).trans ((rF_ne _ _ (by decide)).trans e9)) ?_ hD' hi', fun y => ⟨okn (by omega) (by decide), ih (i + 1) _ (by omega) (by omega) ((hd2.put _ (by omega)).put _ (by omega)) (rF_at _ _ _) ((rF_ne _ _ (by decide)).trans ((rF_ne _ _ (by decide)).trans e9)) ?_ hD' hi'⟩⟩
        · rw [rF_ne _ _ (by decide), rF_at, show min 3 (i - j) = 3 by omega, show min 3 (i + 1 - j) = 3 by omega]
        · obtain ⟨s1, s2, s3⟩ := sgb_d _ hci z
          rw [rF_ne _ _ (by decide), rF_at, show min 3 (i - j) = i - j by omega, show min 3 (i + 1 - j) = i - j + 1 by omega, vlk, show j + (i - j) = i by omega, show (10 : Int32) * nI (vlk f j (i - j)) = nI (10 * vlk f j (i - j)) from nI_mul 10 _, nI_add, show nI (10 * vlk f j (i - j) + f i) - 48 = nI (10 * vlk f j (i - j) + f i - 48) from nI_sub (b := 48) (by omega)]
          congr 1
          omega
    · have ek : kd f n h = wkd f j (lend f n j) := by unfold kd kdb; rw [eb, if_neg kn, if_pos zl]
      have en : nx f n h = lend f n j := by unfold nx ten; rw [eb, if_neg kn, if_pos zl]
      clear ih go
      suffices K : ∀ (m i : Nat) (s2 : RS), i + m = n → j ≤ i → RMV s s2 → s2.1 8 = nI i → s2.1 9 = nI j → lend f n i = lend f n j → eR c (d + 1) m_R_readsOn 94 [some (.ref 2), some (.int (nI (f j)))] s2 (pV c Q) from K (n - j) j _ (by omega) (Nat.le_refl _) hd9 k8 k9 rfl
      have stop : ∀ (i : Nat) (s2 : RS), RMV s s2 → s2.1 8 = nI i → s2.1 9 = nI j → i = lend f n j → Q (rF s2 10 1) := fun i s2 hd2 e8 e9 hi => by
        have wc := wkd_c f j (lend f n j)
        refine hq _ (hd2.put _ (by omega)) ⟨(hd2.put _ (by omega)).txt q, hn, ?_, ?_, ?_, fun z => by omega⟩
        · rw [en, rF_ne _ _ (by decide), e8, hi]
        · rw [eb, rF_ne _ _ (by decide), e9]
        · rw [ek, rF_at]
          exact ((rtk_is _ (by omega)).2.1.mpr (by omega)).symm
      intro m
      induction m with
      | zero =>
        intro i s2 hm hji hd2 e8 e9 hi
        refine w_R_readsOn_94 _ ?_
        rw [e8]
        refine s_see (hd2.txt q) (by omega) ?_
        rw [if_neg (by omega)]
        exact ⟨fun _ => stop i s2 hd2 e8 e9 (by rw [← hi]; exact (rend_e (by omega)).symm), fun z => absurd z (by decide)⟩
      | succ m ih =>
        intro i s2 hm hji hd2 e8 e9 hi
        have q2 := hd2.txt q
        refine w_R_readsOn_94 _ ?_
        rw [e8]
        refine s_see q2 (by omega) ?_
        rw [if_pos (by omega), nat_L _ (q2.2.2 i (by omega)).2]
        refine ⟨fun z => stop i s2 hd2 e8 e9 (by rw [← hi]; exact (rend_e (p := fun j => isL (f j)) (by simp [z])).symm), fun z => ?_⟩
        rw [e8, nI_1]
        refine ih (i + 1) _ (by omega) (by omega) (hd2.put _ (by omega)) (rF_at _ _ _) ((rF_ne _ _ (by decide)).trans e9) ?_
        rw [← hi]
        exact (rend_s (p := fun j => isL (f j)) (by omega) z).symm
end RK1
