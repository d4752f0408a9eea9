/-! words, signs, numbers of the reference -/
def strW (c : CX) (a k : Nat) : Prop := ∃ g, strAt c a (wet k - wst k) g ∧ ∀ j, j < wet k - wst k → g j = nI (wdB (wst k + j)) ∧ wdB (wst k + j) < 128
theorem sw_0 {c : CX} : strW c 176 0 := ⟨oF o_45, ⟨180, rfl, rfl, rfl, rfl, by decide⟩, by decide⟩
theorem sw_1 {c : CX} : strW c 264 1 := ⟨oF o_67, ⟨268, rfl, rfl, rfl, rfl, by decide⟩, by decide⟩
theorem sw_2 {c : CX} : strW c 272 2 := ⟨oF o_69, ⟨276, rfl, rfl, rfl, rfl, by decide⟩, by decide⟩
theorem sw_3 {c : CX} : strW c 368 3 := ⟨oF o_93, ⟨372, rfl, rfl, rfl, rfl, by decide⟩, by decide⟩
theorem sw_4 {c : CX} : strW c 224 4 := ⟨oF o_57, ⟨228, rfl, rfl, rfl, rfl, by decide⟩, by decide⟩
theorem sw_5 {c : CX} : strW c 184 5 := ⟨oF o_47, ⟨188, rfl, rfl, rfl, rfl, by decide⟩, by decide⟩
theorem sw_6 {c : CX} : strW c 192 6 := ⟨oF o_49, ⟨196, rfl, rfl, rfl, rfl, by decide⟩, by decide⟩
theorem sw_7 {c : CX} : strW c 200 7 := ⟨oF o_51, ⟨204, rfl, rfl, rfl, rfl, by decide⟩, by decide⟩
theorem sw_8 {c : CX} : strW c 208 8 := ⟨oF o_53, ⟨212, rfl, rfl, rfl, rfl, by decide⟩, by decide⟩
theorem sw_9 {c : CX} : strW c 216 9 := ⟨oF o_55, ⟨220, rfl, rfl, rfl, rfl, by decide⟩, by decide⟩
theorem sw_10 {c : CX} : strW c 232 10 := ⟨oF o_59, ⟨236, rfl, rfl, rfl, rfl, by decide⟩, by decide⟩
theorem sw_11 {c : CX} : strW c 240 11 := ⟨oF o_61, ⟨244, rfl, rfl, rfl, rfl, by decide⟩, by decide⟩
theorem sw_12 {c : CX} : strW c 248 12 := ⟨oF o_63, ⟨252, rfl, rfl, rfl, rfl, by decide⟩, by decide⟩
theorem sw_13 {c : CX} : strW c 256 13 := ⟨oF o_65, ⟨260, rfl, rfl, rfl, rfl, by decide⟩, by decide⟩
theorem sw_14 {c : CX} : strW c 360 14 := ⟨oF o_91, ⟨364, rfl, rfl, rfl, rfl, by decide⟩, by decide⟩
theorem sw_15 {c : CX} : strW c 352 15 := ⟨oF o_89, ⟨356, rfl, rfl, rfl, rfl, by decide⟩, by decide⟩
theorem sw_16 {c : CX} : strW c 280 16 := ⟨oF o_71, ⟨284, rfl, rfl, rfl, rfl, by decide⟩, by decide⟩
theorem sw_17 {c : CX} : strW c 288 17 := ⟨oF o_73, ⟨292, rfl, rfl, rfl, rfl, by decide⟩, by decide⟩
theorem sw_18 {c : CX} : strW c 296 18 := ⟨oF o_75, ⟨300, rfl, rfl, rfl, rfl, by decide⟩, by decide⟩
theorem sw_19 {c : CX} : strW c 304 19 := ⟨oF o_77, ⟨308, rfl, rfl, rfl, rfl, by decide⟩, by decide⟩
theorem sw_20 {c : CX} : strW c 312 20 := ⟨oF o_79, ⟨316, rfl, rfl, rfl, rfl, by decide⟩, by decide⟩
theorem sw_21 {c : CX} : strW c 320 21 := ⟨oF o_81, ⟨324, rfl, rfl, rfl, rfl, by decide⟩, by decide⟩
theorem sw_22 {c : CX} : strW c 328 22 := ⟨oF o_83, ⟨332, rfl, rfl, rfl, rfl, by decide⟩, by decide⟩
theorem sw_23 {c : CX} : strW c 336 23 := ⟨oF o_85, ⟨340, rfl, rfl, rfl, rfl, by decide⟩, by decide⟩
theorem sw_24 {c : CX} : strW c 344 24 := ⟨oF o_87, ⟨348, rfl, rfl, rfl, rfl, by decide⟩, by decide⟩
/-- a fault's kind at the token from h on -/
def fkk (f : Nat → Nat) (n h k : Nat) : Nat := if kd f n h = 38 then 1 else k
/-- what reading may change -/
def RFR (s s' : RS) : Prop := (∀ k, (k < 8 ∨ k = 14 ∨ k = 15 ∨ 18 < k) → s'.1 k = s.1 k) ∧ (∀ i, i ≠ 2 → s'.2.1 i = s.2.1 i) ∧ s'.2.2 = s.2.2
def FLT (s s' : RS) (k p : Nat) : Prop := RFR s s' ∧ s'.1 12 = nI k ∧ s'.1 13 = nI p ∧ 1 ≤ k ∧ k ≤ 4
def blm (s : RS) (k p : Nat) : RS := rF (rF s 12 (nI k)) 13 (nI p)
section RW1
variable {c : CX} {d : Nat} {s s' s1 : RS} {f : Nat → Nat} {n h b e k a mm at' L dp : Nat}
theorem RFR.rf : RFR s s := ⟨fun _ _ => rfl, fun _ _ => rfl, rfl⟩
theorem RFR.tr (h : RFR s s') (h' : RFR s' s1) : RFR s s1 := ⟨fun k q => (h'.1 k q).trans (h.1 k q), fun i q => (h'.2.1 i q).trans (h.2.1 i q), h'.2.2.trans h.2.2⟩
theorem RMV.fr (h : RMV s s') : RFR s s' := ⟨fun k q => h.1 k (by omega) (by omega) (by omega) (by omega), fun i _ => by rw [h.2], by rw [h.2]⟩
theorem RFR.put (h : RFR s s') {k : Nat} (x : Int32) (hk : 8 ≤ k ∧ k ≤ 18 ∧ k ≠ 14 ∧ k ≠ 15) : RFR s (rF s' k x) := ⟨fun j q => (if_neg (by omega)).trans (h.1 j q), h.2.1, h.2.2⟩
theorem RFR.tel (h : RFR s s') (j : Nat) (x : Int32) : RFR s (rA s' 2 j x) := ⟨h.1, fun i q => (if_neg q).trans (h.2.1 i q), h.2.2⟩
theorem fkk_b (hk : 1 ≤ k ∧ k ≤ 4) : 1 ≤ fkk f n h k ∧ fkk f n h k ≤ 4 := by unfold fkk; split <;> omega
theorem FLT.of (hr : RFR s s') (p : Nat) (hk : 1 ≤ k ∧ k ≤ 4) : FLT s (blm s' k p) k p := ⟨(hr.put _ (by decide)).put _ (by decide), (rF_ne _ _ (by decide)).trans (rF_at _ _ _), rF_at _ _ _, hk⟩
theorem FLT.af {p : Nat} (h : RFR s s') (h' : FLT s' s1 k p) : FLT s s1 k p := ⟨h.tr h'.1, h'.2⟩
theorem FLT.ne {p : Nat} (h : FLT s s' k p) : ¬ s'.1 12 = 0 := fun z => by
  obtain ⟨_, h1, _, h2, h3⟩ := h
  rw [h1] at z
  have := (nI_inj (b := 0) (by omega) (by decide)).mp z
  omega
theorem FLT.put {p : Nat} (h : FLT s s' k p) {j : Nat} (x : Int32) (hj : j = 16) : FLT s (rF s' j x) k p := ⟨h.1.put _ (by omega), (rF_ne _ _ (by omega)).trans h.2.1, (rF_ne _ _ (by omega)).trans h.2.2.1, h.2.2.2⟩
theorem FLT.tel {p : Nat} (h : FLT s s' k p) (j : Nat) (x : Int32) : FLT s (rA s' 2 j x) k p := ⟨h.1.tel _ _, h.2⟩
theorem kd_word (hk : kd f n h < 25 ∨ kd f n h = 39) : kd f n h = wkd f (bgn f n h) (nx f n h) ∧ bgn f n h < nx f n h ∧ bgn f n h < n := by
  unfold kd kdb at hk
  unfold kd kdb nx ten
  by_cases z : n ≤ bgn f n h
  · rw [if_pos z] at hk; omega
  · rw [if_neg z] at hk ⊢
    rw [if_neg z]
    by_cases y : isL (f (bgn f n h)) = true
    · rw [if_pos y, if_pos y]
      have := rend_s (p := fun j => isL (f j)) (show bgn f n h < n by omega) y
      have h1 := rend_b (p := fun j => isL (f j)) (n := n) (h := bgn f n h + 1) (by omega)
      exact ⟨rfl, by unfold lend; omega, by omega⟩
    · rw [if_neg y] at hk
      by_cases x : isD (f (bgn f n h)) = true
      · rw [if_pos x] at hk
        split at hk <;> omega
      · rw [if_neg x] at hk
        have := skd_c (f (bgn f n h))
        omega
theorem s_isWordX {Q : Bool → RS → Prop} (h0 : ¬ s.1 12 = 0) (hq : Q false s) : RB c (d + 1) m_R_isWord [.ref 2, .ref a] s Q :=
  w_R_isWord _ ⟨fun _ => w_R_isWord_39 _ _ _ ⟨fun _ => hq, fun z => by cases z⟩, fun z => absurd z h0⟩
theorem s_isWord {Q : Bool → RS → Prop} (hs : strW c a k) (hf : fvok c) (hk : k < 25) (q : RTK s f n h) (h0 : s.1 12 = 0) (hq : Q (decide (kd f n h = k)) s) : RB c (d + 4) m_R_isWord [.ref 2, .ref a] s Q := by
  obtain ⟨g, hs, hg⟩ := hs
  obtain ⟨qx, hn, q8, q9, q10, q11⟩ := q
  have h9 := qx.2.1
  have k40 := kd_40 f n h
  have rt := (rtk_is _ k40).2.1
  have no : ∀ l3, Q false s → eR c (d + 4) m_R_isWord 39 [some (.ref 2), some (.ref a), some (.int (bI false)), some (.int l3)] s (pB c Q) := fun l3 hq => w_R_isWord_39 _ _ _ ⟨fun _ => hq, fun z => by cases z⟩
  refine w_R_isWord _ ⟨fun z => absurd h0 z, fun _ => ⟨fun z => no 0 ?_, fun z => ⟨str_rcv hs _ _, js_length (d := d + 2) hs ⟨_, _, rfl, rfl, ?_⟩⟩⟩⟩
  · rw [q10, rt] at z
    rw [decide_eq_false (by omega)] at hq
    exact hq
  rw [q10, rt] at z
  obtain ⟨e1, e2, e3⟩ := kd_word z
  have bn := bgn_b (f := f) hn
  have nb := nx_b (f := f) hn
  rw [q8, q9, nI_sub (by omega), show (nI (nx f n h - bgn f n h) = nI (wet k - wst k)) = (nx f n h - bgn f n h = wet k - wst k) from propext (nI_inj (by omega) (by have := hs; obtain ⟨_, _, _, _, _, h5⟩ := this; exact h5))]
  have er : decide (kd f n h = k) = mtB f (bgn f n h) (nx f n h) k := by
    rw [e1]
    by_cases y : mtB f (bgn f n h) (nx f n h) k = true
    · rw [y, wkd_of hk y, decide_eq_true rfl]
    · rw [Bool.eq_false_iff.mpr y]
      exact decide_eq_false (fun w => y (of_wkd hk w))
  rw [er] at hq
  refine ⟨fun y => no 0 ?_, fun y => ?_⟩
  · rw [show mtB f (bgn f n h) (nx f n h) k = false from decide_eq_false (fun w => y w.1)] at hq
    exact hq
  · suffices H : ∀ (m i : Nat), i + m = wet k - wst k → (∀ j, j < i → f (bgn f n h + j) = wdB (wst k + j)) → eR c (d + 4) m_R_isWord 39 [some (.ref 2), some (.ref a), some (.int (bI true)), some (.int (nI i))] s (pB c Q) from H (wet k - wst k) 0 (by omega) (fun j hj => by omega)
    intro m
    induction m with
    | zero =>
      intro i hi ha
      refine w_R_isWord_39 _ _ _ ⟨fun w => (by cases w), fun _ => ⟨str_rcv hs _ _, js_length (d := d + 2) hs ⟨_, _, rfl, rfl, fun _ => ?_, fun w => absurd ((nI_leI (by omega) (by omega)).mpr (by omega)) w⟩⟩⟩
      rw [show mtB f (bgn f n h) (nx f n h) k = true from decide_eq_true ⟨y, fun j hj => ha j (by omega)⟩] at hq
      exact hq
    | succ m ih =>
      intro i hi ha
      have hx := (qx.2.2 (bgn f n h + i) (by omega))
      have hw := hg i (by omega)
      refine w_R_isWord_39 _ _ _ ⟨fun w => (by cases w), fun _ => ⟨str_rcv hs _ _, js_length (d := d + 2) hs ⟨_, _, rfl, rfl, fun w => absurd ((nI_leI (by omega) (by omega)).mp w) (by omega), fun _ => ?_⟩⟩⟩
      rw [q9, nI_add, ix_nI (by omega), hx.1]
      refine ⟨okn (by omega) (by decide), str_rcv hs _ _, js_charAt (d := d) hs hf (by omega) hw.1 hw.2 ⟨_, _, rfl, rfl, ?_⟩⟩
      dsimp only
      rw [show (nI (f (bgn f n h + i)) = nI (wdB (wst k + i))) = (f (bgn f n h + i) = wdB (wst k + i)) from propext (nI_inj (by omega) (by omega)), nI_1]
      refine ⟨fun w => no _ ?_, fun w => ih (i + 1) (by omega) (fun j hj => ?_)⟩
      · rw [show mtB f (bgn f n h) (nx f n h) k = false from decide_eq_false (fun u => w (u.2 i (by omega)))] at hq
        exact hq
      · rcases Nat.lt_or_ge j i with u | u
        · exact ha j u
        · rw [show j = i by omega]; exact w
theorem s_on {Q : RS → Prop} (q : RTK s f n h) (hq : ∀ s', RMV s s' → RTK s' f n (nx f n h) → Q s') : RV c (d + 1) m_R_readsOn [.ref 2] s Q := s_readsOn q.1 q.2.2.1 (nx_b q.2.1).2 hq
theorem s_took {Q : Bool → RS → Prop} (hs : strW c a k) (hf : fvok c) (hk : k < 25) (q : RTK s f n h) (h0 : s.1 12 = 0) (yes : kd f n h = k → ∀ s', RMV s s' → RTK s' f n (nx f n h) → Q true s') (no : kd f n h ≠ k → Q false s) : RB c (d + 5) m_R_took [.ref 2, .ref a] s Q := by
  refine w_R_took _ (s_isWord (d := d) hs hf hk q h0 ⟨fun z => ?_, fun z => s_on (d := d + 3) q (fun s' h1 h2 => ?_)⟩)
  · rw [z]
    exact no (of_decide_eq_false z)
  · rw [z]
    exact yes (of_decide_eq_true z) s' h1 h2
theorem s_tookX {Q : Bool → RS → Prop} (h0 : ¬ s.1 12 = 0) (hq : Q false s) : RB c (d + 2) m_R_took [.ref 2, .ref a] s Q := w_R_took _ (s_isWordX h0 ⟨fun _ => hq, fun z => by cases z⟩)
theorem s_blames {Q : RS → Prop} (q : RTK s f n h) (h0 : s.1 12 = 0) (hq : Q (blm s (fkk f n h k) (bgn f n h))) : RV c d m_R_blames [.ref 2, .int (nI k)] s Q := by
  have rt := (rtk_is _ (kd_40 f n h)).2.2.2.1
  refine w_R_blames _ ⟨fun _ => ?_, fun z => absurd h0 z⟩
  rw [q.2.2.2.2.1, rt, q.2.2.2.1]
  unfold blm fkk at hq
  exact ⟨fun z => by rwa [if_neg z] at hq, fun z => by rwa [if_pos z] at hq⟩
theorem s_blamesX {Q : RS → Prop} {x : Int32} (h0 : ¬ s.1 12 = 0) (hq : Q s) : RV c d m_R_blames [.ref 2, .int x] s Q := w_R_blames _ ⟨fun z => absurd z h0, fun _ => hq⟩
theorem blm_ne (hk : 1 ≤ k ∧ k ≤ 4) (p : Nat) : ¬ (blm s k p).1 12 = 0 := (FLT.of (s := s) RFR.rf p hk).ne
/-- a sign that must stand -/
theorem s_must {Q : RS → Prop} {sg : Int32} {kk : Nat} (hsg : rtk (kd f n h) = sg ↔ kd f n h = kk) (q : RTK s f n h) (h0 : s.1 12 = 0) (yes : kd f n h = kk → ∀ s', RMV s s' → RTK s' f n (nx f n h) → Q s') (no : kd f n h ≠ kk → Q (blm s (fkk f n h 2) (bgn f n h))) : RV c (d + 2) m_R_mustSign [.ref 2, .int sg] s Q := by
  have bn := blm_ne (s := s) (fkk_b (f := f) (n := n) (h := h) (k := 2) (by decide)) (bgn f n h)
  refine w_R_mustSign _ ?_
  rw [q.2.2.2.2.1, hsg]
  exact ⟨fun z => ⟨fun y => absurd h0 y, fun _ => s_on q (yes z)⟩, fun z => s_blames (k := 2) q h0 ⟨fun _ => no z, fun y => absurd y bn⟩⟩
theorem s_mustX {Q : RS → Prop} {sg : Int32} (h0 : ¬ s.1 12 = 0) (hq : Q s) : RV c (d + 1) m_R_mustSign [.ref 2, .int sg] s Q :=
  w_R_mustSign _ ⟨fun _ => ⟨fun _ => hq, fun z => absurd z h0⟩, fun _ => s_blamesX h0 ⟨fun _ => hq, fun z => absurd z h0⟩⟩
theorem s_number {Q : Int32 → RS → Prop} {lo : Nat} {hi : Int32} (hlo : lo < 1000) (q : RTK s f n h) (h0 : s.1 12 = 0) (yes : kd f n h = 36 → lo ≤ vl f n h → (vl f n h : Int) ≤ hi.toInt → ∀ s', RMV s s' → RTK s' f n (nx f n h) → Q (nI (vl f n h)) s') (no3 : kd f n h = 36 → ¬ (lo ≤ vl f n h ∧ (vl f n h : Int) ≤ hi.toInt) → Q (nI lo) (blm s (fkk f n h 3) (bgn f n h))) (no2 : kd f n h ≠ 36 → Q (nI lo) (blm s (fkk f n h 2) (bgn f n h))) : RI c (d + 2) m_R_number [.ref 2, .int (nI lo), .int hi] s Q := by
  have b2 := blm_ne (s := s) (fkk_b (f := f) (n := n) (h := h) (k := 2) (by decide)) (bgn f n h)
  have b3 := blm_ne (s := s) (fkk_b (f := f) (n := n) (h := h) (k := 3) (by decide)) (bgn f n h)
  have rt := (rtk_is _ (kd_40 f n h)).2.2.1
  have v9 := vl_lt (f := f) q.2.1
  refine w_R_number _ _ ?_
  rw [q.2.2.2.2.1, rt]
  refine ⟨fun z => ?_, fun z => s_blames (k := 2) q h0 ⟨fun _ => ⟨fun _ => no2 z, fun y => absurd y b2⟩, fun y => absurd y b2⟩⟩
  rw [q.2.2.2.2.2 z, wth_t, wth_f, i64_toInt, i64_toInt, i64_toInt, nI_toInt (by omega), nI_toInt (by omega)]
  refine ⟨fun y => ⟨fun w => absurd h0 w, fun _ => s_on q (fun s' h1 h2 => ?_)⟩, fun y => s_blames (k := 3) q h0 ⟨fun _ => ⟨fun _ => no3 z (fun w => y (by omega)), fun w => absurd w b3⟩, fun w => absurd w b3⟩⟩
  have e12 : s'.1 12 = 0 := (h1.1 12 (by decide) (by decide) (by decide) (by decide)).trans h0
  exact ⟨fun w => absurd e12 w, fun _ => yes z (by omega) y.2 s' h1 h2⟩
theorem s_numberX {Q : Int32 → RS → Prop} {lo hi : Int32} (h0 : ¬ s.1 12 = 0) (hq : Q lo s) : RI c (d + 1) m_R_number [.ref 2, .int lo, .int hi] s Q := by
  refine w_R_number _ _ ⟨fun _ => ⟨fun _ => ⟨fun _ => ⟨fun _ => hq, fun z => absurd z h0⟩, fun z => absurd z h0⟩, fun _ => s_blamesX h0 ⟨fun _ => ⟨fun _ => hq, fun z => absurd z h0⟩, fun z => absurd z h0⟩⟩, fun _ => s_blamesX h0 ⟨fun _ => ⟨fun _ => hq, fun z => absurd z h0⟩, fun z => absurd z h0⟩⟩
end RW1
