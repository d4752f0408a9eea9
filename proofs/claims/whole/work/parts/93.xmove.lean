/-! moving over a token -/
def oF (x : mj_C) : Nat → Int32 := match x with
  | .inl (_, _, .inl f) => f
  | _ => fun _ => 0
def TXT (T : XS) (f : Nat → Nat) (n : Nat) : Prop := frx T 13 0 = some 5 ∧ xI T 13 1 = nI n ∧ n ≤ 900 ∧ ∀ j, j < n → xA T 5 j = sgb (f j) ∧ f j < 256
section MV1
variable {c : CX} {d : Nat} {T T' T1 : XS} {f : Nat → Nat} {n h b e : Nat}
theorem str_32 : strAt c 32 122 (oF o_9) := ⟨36, rfl, rfl, rfl, rfl, by decide⟩
theorem str_40 : strAt c 40 11 (oF o_11) := ⟨44, rfl, rfl, rfl, rfl, by decide⟩
theorem wdF : ∀ i, i < 122 → oF o_9 i = nI (wdB i) ∧ wdB i < 128 := by decide +kernel
theorem skF : ∀ x, x < 128 → (if fa_first (fun i => decide (oF o_11 i = nI x)) 11 = 11 then (-1 : Int32) else nI (fa_first (fun i => decide (oF o_11 i = nI x)) 11)) = (if skd x = 38 then -1 else nI (skd x - 25)) := by decide +kernel
theorem MVD.txt (h : MVD T T') (q : TXT T f n) : TXT T' f n := ⟨h.2.1.trans q.1, h.2.2.1.trans q.2.1, q.2.2.1, fun j hj => by rw [h.1.A (by decide)]; exact q.2.2.2 j hj⟩
theorem TXT.at (q : TXT T f n) (hn : h ≤ n) (h2 : xI T 13 2 = nI h) : TKS T f n h := ⟨q.1, q.2.1, h2, hn, q.2.2⟩
theorem TKS.txt (q : TKS T f n h) : TXT T f n := ⟨q.1, q.2.1, q.2.2.2.2⟩
theorem x_charW {Q : Int32 → XS → Prop} (hf : fvok c) {i : Nat} (hi : i < 122) (hq : Q (nI (wdB i)) T) : XI c (d + 3) m_JS_charAt [.ref 32, .int (nI i)] T Q :=
  js_charAt str_32 hf hi (wdF i hi).1 (wdF i hi).2 ⟨_, _, rfl, rfl, hq⟩
theorem x_lenW {Q : Int32 → XS → Prop} (hq : Q 122 T) : XI c (d + 1) m_JS_length [.ref 32] T Q := js_length str_32 ⟨_, _, rfl, rfl, hq⟩
theorem x_isWord {Q : Bool → XS → Prop} (hf : fvok c) (q : TXT T f n) (h2 : xI T 13 2 = nI e) (h3 : xI T 13 3 = nI b) (hbe : b ≤ e) (hen : e ≤ n) {fr to : Nat} (hft : fr ≤ to) (hto : to ≤ 122) (hq : Q (decide (e - b = to - fr ∧ ∀ j, j < to - fr → f (b + j) = wdB (fr + j))) T) : XB c (d + 4) m_Tk_isWord [.ref 13, .int (nI fr), .int (nI to)] T Q := by
  have h9 := q.2.2.1
  refine wx_Tk_isWord _ _ ?_
  rw [h2, h3, nI_sub hft, nI_sub hbe, show (nI (to - fr) = nI (e - b)) = (to - fr = e - b) from propext (nI_inj (by omega) (by omega))]
  refine ⟨fun z => ?_, fun z => ?_⟩
  · suffices H : ∀ (m k : Nat), k + m = to - fr → (∀ j, j < k → f (b + j) = wdB (fr + j)) → eX c (d + 4) m_Tk_isWord 19 [some (.ref 13), some (.int (nI fr)), some (.int (nI to)), some (.int (nI k))] T (yB c Q) from H (to - fr) 0 (by omega) (fun j hj => by omega)
    intro m
    induction m with
    | zero =>
      intro k hk ha
      refine wx_Tk_isWord_19 _ _ _ ?_
      rw [nI_sub hft]
      refine ⟨fun _ => ?_, fun z => absurd ((nI_leI (by omega) (by omega)).mpr (by omega)) z⟩
      rw [decide_eq_true (p := e - b = to - fr ∧ ∀ j, j < to - fr → f (b + j) = wdB (fr + j)) ⟨by omega, fun j hj => ha j (by omega)⟩] at hq
      exact hq
    | succ m ih =>
      intro k hk ha
      refine wx_Tk_isWord_19 _ _ _ ?_
      rw [nI_sub hft, h3, nI_add, nI_add, ix_nI (by omega), (q.2.2.2 (b + k) (by omega)).1]
      refine ⟨fun z => absurd ((nI_leI (by omega) (by omega)).mp z) (by omega), fun _ => ⟨q.1, okn (by omega) (by decide), x_charW (d := d) hf (by omega) ?_⟩⟩
      rw [sgb_w _ (q.2.2.2 (b + k) (by omega)).2 _ (wdF (fr + k) (by omega)).2]
      refine ⟨fun y => ?_, fun y => ?_⟩
      · rw [nI_1]
        refine ih (k + 1) (by omega) (fun j hj => ?_)
        rcases Nat.lt_or_ge j k with w | w
        · exact ha j w
        · rw [show j = k by omega]; exact y
      · rw [decide_eq_false (p := e - b = to - fr ∧ ∀ j, j < to - fr → f (b + j) = wdB (fr + j)) (fun w => y (w.2 k (by omega)))] at hq
        exact hq
  · rw [decide_eq_false (p := e - b = to - fr ∧ ∀ j, j < to - fr → f (b + j) = wdB (fr + j)) (fun w => z w.1.symm)] at hq
    exact hq
theorem wno_s : ∀ i, i < 122 → (¬ wdB i = 32 → wno (i + 1) = wno i ∧ wst (wno i) ≤ i) ∧ (wdB i = 32 → wno (i + 1) = wno i + 1 ∧ i = wet (wno i) ∧ wst (wno i) ≤ i ∧ wno i < 25 ∧ (wno i + 1 < 25 → wst (wno i + 1) = i + 1)) := by decide +kernel
/-- the kind of the word from b to e -/
theorem x_words {Q : XS → Prop} (hf : fvok c) (q : TXT T f n) (h2 : xI T 13 2 = nI e) (h3 : xI T 13 3 = nI b) (h4 : xI T 13 4 = 39) (hbe : b ≤ e) (hen : e ≤ n) (hq : ∀ T', MVD T T' → xI T' 13 2 = nI e → xI T' 13 3 = nI b → xI T' 13 4 = nI (wkd f b e) → Q T') : eX c (d + 5) m_Tk_moveOverWord 51 [some (.ref 13), some (.int 0), some (.int 0), some (.int 0)] T (yV c Q) := by
  suffices H : ∀ (m i : Nat), i + m = 122 → (∀ j, j < wno i → mtB f b e j = false) → eX c (d + 5) m_Tk_moveOverWord 51 [some (.ref 13), some (.int (nI (wno i))), some (.int (nI (if i = 122 then 122 else wst (wno i)))), some (.int (nI i))] T (yV c Q) from H 122 0 (by omega) (fun j hj => absurd hj (Nat.not_lt_zero j))
  intro m
  induction m with
  | zero =>
    intro i hi hn
    have ei : i = 122 := by omega
    subst ei
    refine wx_Tk_moveOverWord_51 _ _ _ (x_lenW (d := d + 3) ⟨fun _ => hq T MVD.rf h2 h3 ?_, fun z => absurd (by decide) z⟩)
    rw [h4]
    unfold wkd
    rw [if_pos (first_no (fun j hj => hn j (by rw [show wno 122 = 25 from by decide]; exact hj)))]
    rfl
  | succ m ih =>
    intro i hi hn
    have hi122 : i < 122 := by omega
    obtain ⟨w1, w2⟩ := wno_s i hi122
    rw [if_neg (show ¬ i = 122 by omega)]
    refine wx_Tk_moveOverWord_51 _ _ _ (x_lenW (d := d + 3) ⟨fun z => absurd ((nI_leI (a := 122) (by decide) (by omega)).mp z) (by omega), fun _ => x_charW (d := d + 1) hf hi122 ?_⟩)
    rw [show (nI (wdB i) = (32 : Int32)) = (wdB i = 32) from propext (nI_inj (b := 32) (by have := (wdF i hi122).2; omega) (by decide)), nI_1, nI_1]
    refine ⟨fun z => ?_, fun z => ?_⟩
    · have ih := ih (i + 1) (by omega)
      rw [(w1 z).1] at ih
      by_cases y : i + 1 = 122
      · exfalso
        have : i = 121 := by omega
        subst this
        exact z (by decide)
      · rw [if_neg y] at ih
        exact ih hn
    · obtain ⟨v1, v2, v3, v4, v5⟩ := w2 z
      refine x_isWord hf q h2 h3 hbe hen v3 (by omega) ?_
      have e1 : decide (e - b = i - wst (wno i) ∧ ∀ j, j < i - wst (wno i) → f (b + j) = wdB (wst (wno i) + j)) = mtB f b e (wno i) := by
        unfold mtB
        rw [← v2]
      rw [e1]
      refine ⟨fun y => ?_, fun y => ?_⟩
      · have ih := ih (i + 1) (by omega)
        rw [v1] at ih
        have ih := ih (fun j hj => by
          rcases Nat.lt_or_ge j (wno i) with w | w
          · exact hn j w
          · rw [show j = wno i by omega]; exact y)
        by_cases x : i + 1 = 122
        · rw [if_pos x] at ih
          rw [show nI (i + 1) = nI 122 by rw [x]]
          rw [x] at ih
          exact ih
        · rw [if_neg x] at ih
          have : wno i + 1 < 25 := by
            refine Classical.byContradiction (fun u => ?_)
            have k24 : wno i = 24 := by omega
            rw [k24] at v2
            have : wet 24 = 121 := by decide
            omega
          rw [v5 this] at ih
          exact ih
      · refine hq _ (MVD.rf.i _ (by decide)) ((xI_nn _ _ _ _ (by decide)).trans h2) ((xI_nn _ _ _ _ (by decide)).trans h3) ?_
        rw [xI_at, wkd_of v4 y]
theorem x_overWord {Q : XS → Prop} (hf : fvok c) (q : TXT T f n) (h2 : xI T 13 2 = nI b) (h3 : xI T 13 3 = nI b) (hb : b ≤ n) (hq : ∀ T', MVD T T' → xI T' 13 2 = nI (lend f n b) → xI T' 13 3 = nI b → xI T' 13 4 = nI (wkd f b (lend f n b)) → Q T') : XV c (d + 5) m_Tk_moveOverWord [.ref 13] T Q := by
  have hB := rend_b (p := fun j => isL (f j)) hb
  refine wx_Tk_moveOverWord ?_
  suffices H : ∀ (m j : Nat) (T1 : XS), j + m = n → b ≤ j → MVD T T1 → xI T1 13 2 = nI j → xI T1 13 3 = nI b → lend f n j = lend f n b → eX c (d + 5) m_Tk_moveOverWord 0 [some (.ref 13), none, none, none] T1 (yV c Q) from H (n - b) b T (by omega) (Nat.le_refl _) MVD.rf h2 h3 rfl
  have stop : ∀ (j : Nat) (T1 : XS), b ≤ j → j ≤ n → MVD T T1 → xI T1 13 2 = nI j → xI T1 13 3 = nI b → j = lend f n b → eX c (d + 5) m_Tk_moveOverWord 51 [some (.ref 13), some (.int 0), some (.int 0), some (.int 0)] (tI T1 13 4 39) (yV c Q) := fun j T1 hbj hjn hd g2 g3 he => by
    subst he
    refine x_words (T := tI T1 13 4 39) hf ((hd.i _ (by decide)).txt q) ((xI_nn _ _ _ _ (by decide)).trans g2) ((xI_nn _ _ _ _ (by decide)).trans g3) (xI_at _ _ _ _) hbj hjn (fun T2 hd2 k2 k3 k4 => hq T2 ((hd.i _ (by decide)).tr hd2) k2 k3 k4)
  intro m
  induction m with
  | zero =>
    intro j T1 hm hbj hd g2 g3 he
    have q1 := hd.txt q
    refine wx_Tk_moveOverWord_0 ?_
    rw [q1.2.1, g2]
    have h9 := q.2.2.1
    exact ⟨fun _ => stop j T1 hbj (by omega) hd g2 g3 (by rw [← he]; exact (rend_e (by omega)).symm), fun z => absurd ((nI_leI (by omega) (by omega)).mpr (by omega)) z⟩
  | succ m ih =>
    intro j T1 hm hbj hd g2 g3 he
    have q1 := hd.txt q
    have h9 := q.2.2.1
    refine wx_Tk_moveOverWord_0 ?_
    rw [q1.2.1, g2, ix_nI (by omega), (q1.2.2.2 j (by omega)).1, sgb_L _ (q1.2.2.2 j (by omega)).2, nI_1]
    refine ⟨fun z => absurd ((nI_leI (by omega) (by omega)).mp z) (by omega), fun _ => ⟨q1.1, okn (by omega) (by decide), fun z => stop j T1 hbj (by omega) hd g2 g3 ?_, fun z => ih (j + 1) _ (by omega) (by omega) (hd.i _ (by decide)) (xI_at _ _ _ _) ((xI_nn _ _ _ _ (by decide)).trans g3) ?_⟩⟩
    · rw [← he]
      exact (rend_e (p := fun j => isL (f j)) (by simp [z])).symm
    · rw [← he]
      exact (rend_s (p := fun j => isL (f j)) (by omega) z).symm
theorem x_overNumber {Q : XS → Prop} (q : TXT T f n) (h2 : xI T 13 2 = nI b) (h3 : xI T 13 3 = nI b) (hb : b ≤ n) (hq : ∀ T', MVD T T' → xI T' 13 2 = nI (dend f n b) → xI T' 13 3 = nI b → xI T' 13 4 = nI (if dend f n b - b ≤ 3 then 36 else 38) → xI T' 13 5 = nI (vlk f b (min 3 (dend f n b - b))) → Q T') : XV c (d + 1) m_Tk_moveOverNumber [.ref 13] T Q := by
  have h9 := q.2.2.1
  refine wx_Tk_moveOverNumber ?_
  suffices H : ∀ (m j : Nat) (T1 : XS), j + m = n → b ≤ j → MVD T T1 → xI T1 13 2 = nI j → xI T1 13 3 = nI b → xI T1 13 5 = nI (vlk f b (min 3 (j - b))) → (∀ i, b ≤ i → i < j → isD (f i) = true) → dend f n j = dend f n b → eX c (d + 1) m_Tk_moveOverNumber 5 [some (.ref 13)] T1 (yV c Q) from H (n - b) b _ (by omega) (Nat.le_refl _) (MVD.rf.i _ (by decide)) ((xI_nn _ _ _ _ (by decide)).trans h2) ((xI_nn _ _ _ _ (by decide)).trans h3) ((xI_at _ _ _ _).trans (by rw [Nat.sub_self]; rfl)) (fun i h1 h2 => by omega) rfl
  have stop : ∀ (j : Nat) (T1 : XS), b ≤ j → j ≤ n → MVD T T1 → xI T1 13 2 = nI j → xI T1 13 3 = nI b → xI T1 13 5 = nI (vlk f b (min 3 (j - b))) → j = dend f n b → ((nI j - nI b ≤ (3 : Int32) → Q (tI T1 13 4 36)) ∧ (¬ nI j - nI b ≤ (3 : Int32) → Q (tI T1 13 4 38))) := fun j T1 hbj hjn hd g2 g3 g5 he => by
    subst he
    rw [nI_sub hbj, show (nI (dend f n b - b) ≤ (3 : Int32)) = (dend f n b - b ≤ 3) from propext (nI_leI (b := 3) (by omega) (by decide))]
    refine ⟨fun z => hq _ (hd.i _ (by decide)) ((xI_nn _ _ _ _ (by decide)).trans g2) ((xI_nn _ _ _ _ (by decide)).trans g3) ?_ ((xI_nn _ _ _ _ (by decide)).trans g5), fun z => hq _ (hd.i _ (by decide)) ((xI_nn _ _ _ _ (by decide)).trans g2) ((xI_nn _ _ _ _ (by decide)).trans g3) ?_ ((xI_nn _ _ _ _ (by decide)).trans g5)⟩
    · rw [xI_at, if_pos z]; rfl
    · rw [xI_at, if_neg z]; rfl
  intro m
  induction m with
  | zero =>
    intro j T1 hm hbj hd g2 g3 g5 hD he
    have q1 := hd.txt q
    refine wx_Tk_moveOverNumber_5 ?_
    rw [q1.2.1, g2, g3]
    exact ⟨fun _ => stop j T1 hbj (by omega) hd g2 g3 g5 (by rw [← he]; exact (rend_e (by omega)).symm), fun z => absurd ((nI_leI (by omega) (by omega)).mpr (by omega)) z⟩
  | succ m ih =>
    intro j T1 hm hbj hd g2 g3 g5 hD he
    have q1 := hd.txt q
    refine wx_Tk_moveOverNumber_5 ?_
    rw [q1.2.1, g2, g3, g5, ix_nI (by omega), (q1.2.2.2 j (by omega)).1, sgb_D _ (q1.2.2.2 j (by omega)).2, nI_1]
    refine ⟨fun z => absurd ((nI_leI (by omega) (by omega)).mp z) (by omega), fun _ => ⟨q1.1, okn (by omega) (by decide), fun z => stop j T1 hbj (by omega) hd g2 g3 g5 ?_, fun z => ?_⟩⟩
    · rw [← he]
      exact (rend_e (p := fun j => isD (f j)) (by simp [z])).symm
    · have hD' : ∀ i, b ≤ i → i < j + 1 → isD (f i) = true := fun i h1 h2 => by
        rcases Nat.lt_or_ge i j with w | w
        · exact hD i h1 w
        · rw [show i = j by omega]; exact z
      have he' : dend f n (j + 1) = dend f n b := by
        rw [← he]
        exact (rend_s (p := fun j => isD (f j)) (by omega) z).symm
      rw [nI_sub hbj, show ((3 : Int32) ≤ nI (j - b)) = (3 ≤ j - b) from propext (nI_leI (a := 3) (by decide) (by omega))]
      refine ⟨fun y => ih (j + 1) _ (by omega) (by omega) (hd.i _ (by decide)) (xI_at _ _ _ _) ((xI_nn _ _ _ _ (by decide)).trans g3) ?_ hD' he', fun y => ⟨okn (by omega) (by decide), ih (j + 1) _ (by omega) (by omega) ((hd.i _ (by decide)).i _ (by decide)) (xI_at _ _ _ _) ((xI_nn _ _ _ _ (by decide)).trans ((xI_nn _ _ _ _ (by decide)).trans g3)) ?_ hD' he'⟩⟩
      · rw [xI_nn _ _ _ _ (by decide), g5, show min 3 (j - b) = 3 by omega, show min 3 (j + 1 - b) = 3 by omega]
      · rw [xI_nn _ _ _ _ (by decide), xI_at, show min 3 (j - b) = j - b by omega, show min 3 (j + 1 - b) = j - b + 1 by omega, vlk, show b + (j - b) = j by omega]
        obtain ⟨s1, s2, s3⟩ := sgb_d _ (q1.2.2.2 j (by omega)).2 z
        rw [s1, show nI (vlk f b (j - b)) * 10 = nI (vlk f b (j - b) * 10) from nI_mul _ 10, nI_add, show nI (vlk f b (j - b) * 10 + f j) - 48 = nI (vlk f b (j - b) * 10 + f j - 48) from nI_sub (b := 48) (by omega)]
        congr 1
        omega
theorem x_move {Q : XS → Prop} (hf : fvok c) (q : TKS T f n h) (hq : ∀ T', MVD T T' → TKA T' f n h → Q T') : XV c (d + 6) m_Tk_move [.ref 13] T Q := by
  have h9 := q.2.2.2.2.1
  have hn := q.2.2.2.1
  refine wx_Tk_move ?_
  have q0 := q.txt
  suffices H : ∀ (m j : Nat) (T1 : XS), j + m = n → h ≤ j → MVD T T1 → xI T1 13 2 = nI j → bgn f n j = bgn f n h → eX c (d + 6) m_Tk_move 0 [some (.ref 13), none] T1 (yV c Q) from H (n - h) h T (by omega) (Nat.le_refl _) MVD.rf q.2.2.1 rfl
  intro m
  induction m with
  | zero =>
    intro j T1 hm hj hd g2 he
    have q1 := hd.txt q0
    have eb : bgn f n h = n := by rw [← he, show j = n by omega]; exact rend_e (by omega)
    have ek : kd f n h = 37 := by unfold kd kdb; rw [eb, if_pos (Nat.le_refl _)]
    have en : nx f n h = n := by unfold nx ten; rw [eb, if_pos (Nat.le_refl _)]
    refine wx_Tk_move_0 ?_
    rw [q1.2.1, g2, show j = n by omega]
    refine ⟨fun _ => ⟨fun z => absurd ((nI_ltI (by omega) (by omega)).mp z) (by omega), fun _ => hq _ ((hd.i _ (by decide)).i _ (by decide)) ⟨?_, hn, ?_, ?_, fun z => by omega⟩⟩, fun z => absurd ((nI_leI (by omega) (by omega)).mpr (Nat.le_refl _)) z⟩
    · rw [en]
      exact (((hd.i _ (by decide)).i _ (by decide)).txt q0).at (Nat.le_refl _) ((xI_nn _ _ _ _ (by decide)).trans ((xI_nn _ _ _ _ (by decide)).trans (by rw [g2, show j = n by omega])))
    · rw [eb]; exact (xI_nn _ _ _ _ (by decide)).trans (xI_at _ _ _ _)
    · rw [ek]; exact xI_at _ _ _ _
  | succ m ih =>
    intro j T1 hm hj hd g2 he
    have q1 := hd.txt q0
    have hc := (q1.2.2.2 j (by omega)).2
    have go : isBl (f j) = true → eX c (d + 6) m_Tk_move 0 [some (.ref 13), none] (tI T1 13 2 (nI (j + 1))) (yV c Q) := fun z => ih (j + 1) _ (by omega) (by omega) (hd.i _ (by decide)) (xI_at _ _ _ _) (by rw [← he]; exact (rend_s (p := fun j => isBl (f j)) (by omega) z).symm)
    refine wx_Tk_move_0 ?_
    rw [q1.2.1, g2, ix_nI (by omega), (q1.2.2.2 j (by omega)).1, sgb_L _ hc, sgb_D _ hc, sgb_10 _ hc, sgb_32 _ hc, nI_1]
    refine ⟨fun z => absurd ((nI_leI (by omega) (by omega)).mp z) (by omega), fun _ => ⟨q1.1, okn (by omega) (by decide), fun z => go (decide_eq_true (Or.inr z)), fun z10 => ⟨okn (by omega) (by decide), fun z32 => ⟨fun _ => ⟨okn (by omega) (by decide), ?_⟩, fun z => absurd ((nI_ltI (by omega) (by omega)).mpr (by omega)) z⟩, fun z => go (decide_eq_true (Or.inl z))⟩⟩⟩
    have eb : bgn f n h = j := by
      rw [← he]
      exact rend_e (p := fun j => isBl (f j)) (fun w => by have := of_decide_eq_true w.2; omega)
    have hd3 : MVD T (tI T1 13 3 (nI j)) := hd.i _ (by decide)
    have q3 := hd3.txt q0
    have k2 : xI (tI T1 13 3 (nI j)) 13 2 = nI j := (xI_nn _ _ _ _ (by decide)).trans g2
    have k3 : xI (tI T1 13 3 (nI j)) 13 3 = nI j := xI_at _ _ _ _
    have kn : ¬ n ≤ j := by omega
    refine ⟨fun zl => ⟨okn (by omega) (by decide), fun zd => ⟨okn (by omega) (by decide), ?_⟩, fun zd => ?_⟩, fun zl => ?_⟩
    · have ek : kd f n h = skd (f j) := by unfold kd kdb; rw [eb, if_neg kn, if_neg (by rw [zl]; decide), if_neg (by rw [zd]; decide)]
      have en : nx f n h = j + 1 := by unfold nx ten; rw [eb, if_neg kn, if_neg (by rw [zl]; decide), if_neg (by rw [zd]; decide)]
      have fin : ∀ (T2 : XS) (x : Int32), T2 = tI T1 13 3 (nI j) → x = nI (skd (f j)) → Q (tI (tI T2 13 4 x) 13 2 (nI (j + 1))) := fun T2 x e1 e2 => by
        subst e1
        subst e2
        refine hq _ ((hd3.i _ (by decide)).i _ (by decide)) ⟨?_, hn, ?_, ?_, fun z => ?_⟩
        · rw [en]
          exact (((hd3.i _ (by decide)).i _ (by decide)).txt q0).at (by omega) (xI_at _ _ _ _)
        · rw [eb]; exact (xI_nn _ _ _ _ (by decide)).trans ((xI_nn _ _ _ _ (by decide)).trans k3)
        · rw [ek]; exact (xI_nn _ _ _ _ (by decide)).trans (xI_at _ _ _ _)
        · have := skd_c (f j); omega
      obtain ⟨s1, s2⟩ := sgb_0 _ hc
      refine ⟨fun z => fin _ 38 rfl (by rw [s1 z]; rfl), fun z => ⟨okn (by omega) (by decide), ?_⟩⟩
      obtain ⟨s3, s4⟩ := s2 z
      rw [s4]
      refine xs_indexOf (d := d + 2) str_40 (by decide) s3 ?_
      rw [skF _ s3, k2, nI_1]
      have sc := skd_c (f j)
      by_cases y : skd (f j) = 38
      · rw [if_pos y]
        exact ⟨fun w => absurd w (by decide), fun _ => fin _ 38 rfl (by rw [y]; rfl)⟩
      · rw [if_neg y]
        refine ⟨fun _ => fin _ _ rfl ?_, fun w => absurd ((nI_leI (a := 0) (by decide) (by omega)).mpr (Nat.zero_le _)) w⟩
        rw [show (25 : Int32) + nI (skd (f j) - 25) = nI (25 + (skd (f j) - 25)) from nI_add 25 _]
        congr 1
        omega
    · have ek : kd f n h = (if dend f n j - j ≤ 3 then 36 else 38) := by unfold kd kdb; rw [eb, if_neg kn, if_neg (by rw [zl]; decide), if_pos zd]
      have en : nx f n h = dend f n j := by unfold nx ten; rw [eb, if_neg kn, if_neg (by rw [zl]; decide), if_pos zd]
      refine x_overNumber (d := d + 4) q3 k2 k3 (by omega) (fun T2 hd2 e2 e3 e4 e5 => hq T2 (hd3.tr hd2) ⟨?_, hn, by rw [eb]; exact e3, by rw [ek]; exact e4, fun _ => ?_⟩)
      · rw [en]
        exact ((hd3.tr hd2).txt q0).at (rend_b (by omega)).2.1 e2
      · unfold vl
        rw [eb]
        exact e5
    · have ek : kd f n h = wkd f j (lend f n j) := by unfold kd kdb; rw [eb, if_neg kn, if_pos zl]
      have en : nx f n h = lend f n j := by unfold nx ten; rw [eb, if_neg kn, if_pos zl]
      refine x_overWord (d := d) hf q3 k2 k3 (by omega) (fun T2 hd2 e2 e3 e4 => hq T2 (hd3.tr hd2) ⟨?_, hn, by rw [eb]; exact e3, by rw [ek]; exact e4, fun z => ?_⟩)
      · rw [en]
        exact ((hd3.tr hd2).txt q0).at (rend_b (by omega)).2.1 e2
      · have := wkd_c f j (lend f n j); omega
end MV1
