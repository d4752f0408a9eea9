/-! weeks, what was seen: of the reference -/
section WR1
variable {c : CX} {d : Nat} {s s' s0 : RS} {v : CV} {a : SD} {q : Nat → Option TY} {p : List SD}
theorem s_draw {Q : Int32 → RS → Prop} {G : Nat} (h0 : 0 < G) (hG : G ≤ 10) (hq : Q (nI (uu (drw (s.1 22)) % G)) (rF s 22 (drw (s.1 22)))) : RI c d m_R_draw [.ref 2, .int (nI G)] s Q := by
  refine w_R_draw _ ⟨fun z => ?_, ?_⟩
  · have := (nI_inj (b := 0) (by omega) (by decide)).mp z
    omega
  · rw [show ((1103515245 * (s.1 22)) + 12345) = drw (s.1 22) from rfl, uu_sh, uu_rem _ h0 hG]
    exact hq
theorem rF_at (s : RS) (k : Nat) (x : Int32) : (rF s k x).1 k = x := if_pos rfl
theorem RD.f22 {s1 : RS} (h : RD s s1 0 v a p) (x : Int32) : RD s (rF s1 22 x) 0 v a p := ⟨h.1, fun j h4 h22 a b c d e => (if_neg h22).trans (h.2.1 j h4 h22 a b c d e), h.2.2.1, h.2.2.2.1, h.2.2.2.2⟩
theorem r_week {Q : Int32 → RS → Prop} (hk : KF (s.2.1 1) v a p) {x n : Int32} (ok : 1 ≤ n.toInt → n.toInt ≤ 30 → 0 < vG v → ∀ s', RD s s' 0 v (wkk v n.toInt.toNat x 0 a p).2.1 (wkk v n.toInt.toNat x 0 a p).2.2 → Q (nI (wkk v n.toInt.toNat x 0 a p).1) s') (bad : ¬ (1 ≤ n.toInt ∧ n.toInt ≤ 30) → ∀ s', SQ s s' 1 → Q 0 s') (bad2 : 1 ≤ n.toInt ∧ n.toInt ≤ 30 → ¬ 0 < vG v → ∀ s', SQ s s' 2 → Q 0 s') : RI c (d + 8) m_R_week [.ref 2, .int x, .int n] s Q := by
  have hG := hk.1.2.2.1.1
  refine w_R_week _ _ ?_
  rw [wth_c.1, wth_c.2, hk.1.1.2.1, show (nI (vG v) = (0 : Int32)) = (vG v = 0) from propext (nI_inj (b := 0) (by omega) (by decide))]
  refine ⟨fun z => ⟨fun h0 => ?_, fun h0 => bad2 z (by omega) _ (SQ.th s 2)⟩, fun z => bad z _ (SQ.th s 1)⟩
  have z1 : 1 ≤ n.toInt := z.1
  have z2 : n.toInt ≤ 30 := z.2
  have h0 : 0 < vG v := by omega
  have ok := ok z1 z2 h0
  have en : n = nI n.toInt.toNat := nI_of_toInt (by omega)
  have hn : n.toInt.toNat ≤ 30 := by omega
  generalize n.toInt.toNat = N at *
  rw [en]
  clear bad bad2 z z1 z2 en
  generalize eRR : wkk v N x 0 a p = R at *
  suffices H : ∀ (m k r : Nat) (b : SD) (p1 : List SD) (s2 : RS), k + m = N → r ≤ k → RD s s2 0 v b p1 → wkk v m (s2.1 22) r b p1 = R → eR c (d + 8) m_R_week 51 [some (.ref 2), some (.int x), some (.int (nI N)), some (.int (nI r)), some (.int (nI k)), none, none] s2 (pI c Q) from H N 0 0 a p _ (by omega) (by omega) ((RD.rf hk).f22 x) eRR
  intro m
  induction m with
  | zero =>
    intro k r b p1 s2 hm hr hd he
    subst he
    exact w_R_week_51 _ _ _ _ ⟨fun _ => ok s2 hd, fun z => absurd ((nI_leI (by omega) (by omega)).mpr (by omega)) z⟩
  | succ m ih =>
    intro k r b p1 s2 hm hr hd he
    rw [wkk] at he
    generalize ey : s2.1 22 = y at *
    have go : ∀ (s3 : RS) (X : Int32), RD s s3 0 v b p1 → s3.1 22 = (wkD (vG v) y).2 → X.toInt = (wkD (vG v) y).1 → RI c (d + 7) m_R_whyTold [.ref 2, .long X.toInt64] s3 (fun v4 s3 => ((v4 = 0 → RV c (d + 7) m_R_keeps [.ref 2] s3 (fun s5 => RV c (d + 7) m_R_does [.ref 2, .int X] s5 (fun s6 => eR c (d + 8) m_R_week 51 [some (.ref 2), some (.int x), some (.int (nI N)), some (.int (nI r + 1)), some (.int (nI k + 1)), none, none] s6 (pI c Q)))) ∧ (¬ v4 = 0 → eR c (d + 8) m_R_week 51 [some (.ref 2), some (.int x), some (.int (nI N)), some (.int (nI r)), some (.int (nI k + 1)), none, none] s3 (pI c Q)))) := fun s3 X h3 e22 hX => by
      refine s_whyTold (d := d) h3.kr (fun s4 hs4 => ?_)
      have h4 : RD s s4 0 v b p1 ∧ s4.1 = s3.1 := by
        rcases hs4 with rfl | ⟨f, rfl⟩
        · exact ⟨h3, rfl⟩
        · exact ⟨h3.six f, rfl⟩
      rw [i64_toInt, hX, nI_1, nI_1]
      have hw2 := whyT_2 v b (wkD (vG v) y).1
      rw [show (nI (whyT v b (wkD (vG v) y).1) = (0 : Int32)) = (whyT v b (wkD (vG v) y).1 = 0) from propext (nI_inj (b := 0) (by omega) (by decide))]
      refine ⟨fun z => ?_, fun z => ?_⟩
      · rw [if_pos z] at he
        refine s_deed (d := d + 1) h4.1 hX z (fun s6 h6 e6 => ih (k + 1) (r + 1) _ _ s6 (by omega) (by omega) h6 ?_)
        rw [e6, h4.2, e22]
        exact he
      · rw [if_neg z] at he
        refine ih (k + 1) r _ _ s4 (by omega) (by omega) h4.1 ?_
        rw [h4.2, e22]
        exact he
    clear ih he
    have a1 : uu (drw (drw y)) % vG v < vG v := Nat.mod_lt _ h0
    have a2 : uu (drw (drw (drw y))) % vG v < vG v := Nat.mod_lt _ h0
    have u3 := Nat.mod_lt (uu (drw y)) (show 0 < 3 by decide)
    have hd1 : RD s (rF s2 22 (drw y)) 0 v b p1 := hd.f22 _
    have g1 : (rF s2 22 (drw y)).2.1 1 1 = nI (vG v) := hd.kr.1.2.1
    have y1 : (rF s2 22 (drw y)).1 22 = drw y := rF_at _ _ _
    refine w_R_week_51 _ _ _ _ ⟨fun z => absurd ((nI_leI (by omega) (by omega)).mp z) (by omega), fun _ => s_draw (G := 3) (by decide) (by decide) ?_⟩
    rw [ey]
    generalize rF s2 22 (drw y) = s3 at *
    unfold wkD at go
    have e0 : ∀ j : Nat, j < 3 → ((nI j ≤ (0 : Int32)) = (j = 0)) ∧ ((nI j = (1 : Int32)) = (j = 1)) ∧ ((nI j = (2 : Int32)) = (j = 2)) := by decide
    obtain ⟨c0, c1, c2⟩ := e0 _ u3
    rw [c0, c1, c2]
    refine ⟨fun z => ⟨fun _ => ⟨fun _ => ?_, fun w => absurd w (by omega)⟩, fun w => absurd w (by omega)⟩, fun z => ?_⟩
    · rw [if_pos z] at go
      exact go s3 (-1) hd1 y1 rfl
    · rw [if_neg z] at go
      rw [g1]
      refine s_draw (G := vG v) h0 hG ?_
      rw [y1]
      have hd2 : RD s (rF s3 22 (drw (drw y))) 0 v b p1 := hd1.f22 _
      have g2 : (rF s3 22 (drw (drw y))).2.1 1 1 = nI (vG v) := hd1.kr.1.2.1
      have y2 : (rF s3 22 (drw (drw y))).1 22 = drw (drw y) := rF_at _ _ _
      generalize rF s3 22 (drw (drw y)) = s4 at *
      refine ⟨fun z1 => ⟨fun w => absurd w (by omega), fun w => ?_⟩, fun z1 => ?_⟩
      · rw [if_neg z1] at go
        rw [show (100 * nI (uu (drw (drw y)) % vG v)) + 99 = nI (100 * (uu (drw (drw y)) % vG v) + 99) by rw [show (100 : Int32) * nI (uu (drw (drw y)) % vG v) = nI (100 * (uu (drw (drw y)) % vG v)) from nI_mul 100 _]; exact nI_add _ 99]
        exact go s4 _ hd2 y2 (nI_toInt (by omega))
      · rw [if_pos z1] at go
        rw [g2]
        refine s_draw (G := vG v) h0 hG ⟨fun w => ?_, fun w => absurd w (by omega)⟩
        rw [y2, show (100 * nI (uu (drw (drw y)) % vG v)) + nI (uu (drw (drw (drw y))) % vG v) = nI (100 * (uu (drw (drw y)) % vG v) + uu (drw (drw (drw y))) % vG v) by rw [show (100 : Int32) * nI (uu (drw (drw y)) % vG v) = nI (100 * (uu (drw (drw y)) % vG v)) from nI_mul 100 _]; exact nI_add _ _]
        exact go _ _ (hd2.f22 _) (rF_at _ _ _) (nI_toInt (by omega))
theorem oI64_n {w : Option Nat} (hw : ∀ k, w = some k → k < 10) : (-1 = (oI w).toInt64 ↔ w = none) ∧ ((oI w).toInt64 = -1 ↔ w = none) ∧ (oI w).toInt64 ≠ 99 := by
  cases w with
  | none => decide
  | some k =>
    have := (by decide : ∀ k, k < 10 → ¬ (-1 = (nI k).toInt64) ∧ ¬ ((nI k).toInt64 = -1) ∧ (nI k).toInt64 ≠ 99) k (hw k rfl)
    exact ⟨⟨fun z => absurd z this.1, fun z => by cases z⟩, ⟨fun z => absurd z this.2.1, fun z => by cases z⟩, this.2.2⟩
theorem s_isAsSeen {Q : Bool → RS → Prop} (hk : KR s v a) {i : Nat} (hi : i < 4) {f : Nat → Int64} (hf : ∀ j, j < 30 → s.2.2 17 (30 * i + j) = f j) (hq : Q (lkB f a.1 (vG v)) s) : RB c (d + 1) m_R_isAsSeen [.ref 2, .int (nI i)] s Q := by
  have hG := hk.2.2.1.1
  refine w_R_isAsSeen _ ?_
  suffices H : ∀ (m k : Nat), k + m = vG v → (∀ g, g < k → f g = -1 ∨ f g = spL (a.1 g)) → eR c (d + 1) m_R_isAsSeen 2 [some (.ref 2), some (.int (nI i)), some (.int (nI k)), none, none] s (pB c Q) from H (vG v) 0 (by omega) (fun g hg => by omega)
  intro m
  induction m with
  | zero =>
    intro k hm ha
    refine w_R_isAsSeen_2 _ _ ⟨fun _ => ?_, fun z => absurd ((hk.gle (by omega)).mpr (by omega)) z⟩
    rw [show lkB f a.1 (vG v) = true from decide_eq_true (fun g hg => ha g (by omega))] at hq
    exact hq
  | succ m ih =>
    intro k hm ha
    refine w_R_isAsSeen_2 _ _ ⟨fun z => absurd ((hk.gle (by omega)).mp z) (by omega), fun _ => ?_⟩
    rw [m30, ix_nI (by omega), hf k (by omega), hk.wh (by omega)]
    obtain ⟨o1, o2, o3⟩ := oI64_n (fun x hx => hk.wb (g := k) hx)
    have go : (f k = -1 ∨ f k = spL (a.1 k)) → eR c (d + 1) m_R_isAsSeen 2 [some (.ref 2), some (.int (nI i)), some (.int (nI k + 1)), none, none] s (pB c Q) := fun z => by
      rw [nI_1]
      refine ih (k + 1) (by omega) (fun g hg => ?_)
      rcases Nat.lt_or_ge g k with y | y
      · exact ha g y
      · rw [show g = k by omega]; exact z
    have no : ¬ (f k = -1 ∨ f k = spL (a.1 k)) → Q false s := fun z => by
      rw [show lkB f a.1 (vG v) = false from decide_eq_false (fun y => z (y k (by omega)))] at hq
      exact hq
    unfold spL at go no
    refine ⟨okn (by omega) (by decide), fun z => go (Or.inl z), fun z => ⟨fun z2 => ⟨okm (by omega), fun z3 => go (Or.inr ?_), fun z3 => no (fun w => ?_)⟩, fun z2 => ⟨okm (by omega), ?_⟩⟩⟩
    · rw [if_neg (fun y => z (by rw [z3]; exact o2.mpr y))]; exact z3
    · rcases w with w | w
      · exact z w
      · by_cases y : a.1 k = none
        · rw [if_pos y] at w; exact z2 w
        · rw [if_neg y] at w; exact z3 w
    · rw [o1]
      refine ⟨fun y => go (Or.inr (by rw [if_pos y]; exact z2)), fun y => no (fun w => ?_)⟩
      rcases w with w | w
      · exact z w
      · rw [if_neg y, z2] at w; exact o3 w.symm
theorem r_seen {Q : Int32 → RS → Prop} (h : TRR s q) (hk : KR s v a) {g : Int32} (ok : ∀ i t, g = nI i → i < 4 → q i = some t → (t.2.1 = vG v ∧ ∀ g, g < vG v → sgO (vG v) (t.2.2 g)) → ∀ s', SQ s s' 0 → Q (snA v t.2.2 a) s') (bad : ¬ (0 ≤ g.toInt ∧ g.toInt ≤ 3) → ∀ s', SQ s s' 1 → Q 0 s') (bad2 : ∀ i, g = nI i → i < 4 → q i = none → ∀ s', SQ s s' 2 → Q 0 s') (bad3 : ∀ i t, g = nI i → i < 4 → q i = some t → ¬ (t.2.1 = vG v ∧ ∀ g, g < vG v → sgO (vG v) (t.2.2 g)) → ∀ s', SQ s s' 3 → Q 0 s') : RI c (d + 7) m_R_seen [.ref 2, .int g] s Q := by
  have hG := hk.2.2.1.1
  have thr : ∀ (s1 : RS) (l1 l2 : Int32), (s1.1 4 = 1 ∨ s1.1 4 = 2 ∨ s1.1 4 = 3) → Q 0 s1 → eR c (d + 7) m_R_seen 36 [some (.ref 2), some (.int l1), some (.int l2), none, none] s1 (pI c Q) := fun s1 l1 l2 h4 hq => by
    refine w_R_seen_36 _ _ ?_
    rcases h4 with h4 | h4 | h4 <;> rw [h4] <;> exact ⟨fun _ => ⟨fun z => absurd z (by decide), fun _ => hq⟩, fun z => absurd z (by decide)⟩
  refine w_R_seen _ (s_trayFault (d := d + 4) h (fun i t eg hi ht => ⟨fun z => absurd rfl z, fun _ => ?_⟩) (fun z => ⟨fun _ => thr _ _ _ (Or.inl rfl) (bad z _ (SQ.th s 1)), fun y => absurd y (by decide)⟩) (fun i eg hi ht => ⟨fun _ => thr _ _ _ (Or.inr (Or.inl rfl)) (bad2 i eg hi ht _ (SQ.th s 2)), fun y => absurd y (by decide)⟩))
  obtain ⟨-, t2, ⟨-, t3⟩, t4⟩ := h.get hi ht
  have ok := ok i t eg hi ht
  have bad3 := bad3 i t eg hi ht
  rw [eg, ix_nI (by omega), t2, hk.1.2.1, show (nI t.2.1 = nI (vG v)) = (t.2.1 = vG v) from propext (nI_inj (by omega) (by omega))]
  refine ⟨okn hi (by decide), fun e => ?_, fun e => thr _ _ _ (Or.inr (Or.inr rfl)) (bad3 (fun y => e y.1) _ (SQ.th2 s 0 3))⟩
  clear bad bad2
  have k0 : KR (rF s 4 0) v a := hk
  have n0 : ∀ j, j < 30 → (rF s 4 0).2.2 17 (30 * i + j) = t.2.2 j := t4
  suffices H : ∀ (m k : Nat), k + m = vG v → (∀ g, g < k → sgO (vG v) (t.2.2 g)) → eR c (d + 7) m_R_seen 36 [some (.ref 2), some (.int (nI i)), some (.int (nI k)), none, none] (rF s 4 0) (pI c Q) from H (vG v) 0 (by omega) (fun g hg => by omega)
  intro m
  induction m with
  | zero =>
    intro k hm ha
    have ok := ok ⟨e, fun g hg => ha g (by omega)⟩
    refine w_R_seen_36 _ _ ⟨fun z => absurd rfl z, fun _ => ⟨fun _ => ⟨fun _ => AS.go hk (fun s1 has1 hk1 => ?_), fun y => absurd (by decide : (0 : Int32) ≤ 0) y⟩, fun z => absurd ((k0.gle (by omega)).mpr (by omega)) z⟩⟩
    have fin : ∀ (k : Nat) (s2 : RS), AS s s2 → snA v t.2.2 a = (if k = 201 then -1 else nI k) → k ≤ 201 → RV c (d + 6) m_R_putsBack [.ref 2] s2 (fun s1 => ((nI k ≤ 200 → Q (nI k) s1) ∧ (¬ nI k ≤ 200 → Q ((-1)) s1))) := fun k s2 h2 he hk => by
      refine h2.end_ (fun s3 hs3 => ?_)
      have ok := ok s3 hs3
      rw [he] at ok
      rw [show (nI k ≤ (200 : Int32)) = (k ≤ 200) from propext (nI_leI (b := 200) (by omega) (by decide))]
      exact ⟨fun z => by rwa [if_neg (by omega)] at ok, fun z => by rwa [if_pos (by omega)] at ok⟩
    suffices K : ∀ (m k : Nat) (s2 : RS), k + m = 201 → AS s s2 → KR s2 v (nit v k a) → (∀ j, j < k → lkB t.2.2 (nit v j a).1 (vG v) = false) → eR c (d + 7) m_R_seen 113 [some (.ref 2), some (.int (nI i)), some (.int (nI k)), none, none] s2 (pI c Q) from K 201 0 s1 (by omega) has1 hk1 (fun j hj => by omega)
    intro m
    induction m with
    | zero =>
      intro k s2 hm h2 hk2 hn
      refine w_R_seen_113 _ _ ⟨fun _ => fin k s2 h2 ?_ (by omega), fun z => absurd ((nI_ltI (a := 200) (by decide) (by omega)).mpr (by omega)) z⟩
      rw [if_pos (by omega)]
      unfold snA
      rw [if_pos (show snN v t.2.2 a = 201 from first_no (fun j hj => hn j (by omega)))]
    | succ m ih =>
      intro k s2 hm h2 hk2 hn
      refine w_R_seen_113 _ _ ⟨fun z => absurd ((nI_ltI (a := 200) (by decide) (by omega)).mp z) (by omega), fun _ => s_isAsSeen (d := d + 5) hk2 hi (f := t.2.2) (fun j hj => ?_) ⟨fun y => fin k s2 h2 ?_ (by omega), fun y => (AS.on (d := d + 1) h2 hk2 (fun s3 h3 _ hk3 => ?_))⟩⟩
      · rw [h2.1.2.2.2 17 (by decide)]; exact t4 j hj
      · unfold snA
        have e : snN v t.2.2 a = k := first_is (by omega) y hn
        rw [e]
      · rw [nI_1]
        refine ih (k + 1) s3 (by omega) h3 hk3 (fun j hj => ?_)
        rcases Nat.lt_or_ge j k with u | u
        · exact hn j u
        · rw [show j = k by omega]; exact y
  | succ m ih =>
    intro k hm ha
    have go : sgO (vG v) (t.2.2 k) → eR c (d + 7) m_R_seen 36 [some (.ref 2), some (.int (nI i)), some (.int (nI k + 1)), none, none] (rF s 4 0) (pI c Q) := fun z => by
      rw [nI_1]
      refine ih (k + 1) (by omega) (fun g hg => ?_)
      rcases Nat.lt_or_ge g k with y | y
      · exact ha g y
      · rw [show g = k by omega]; exact z
    have e1 : (((-1) : Int64).toInt : Int) = -1 := rfl
    have e9 : ((99 : Int64).toInt : Int) = 99 := rfl
    refine w_R_seen_36 _ _ ⟨fun z => absurd rfl z, fun _ => ⟨fun z => absurd ((k0.gle (by omega)).mp z) (by omega), fun _ => ?_⟩⟩
    rw [m30, ix_nI (by omega), n0 k (by omega), k0.1.2.1, fa_eq64, fa_eq64, e1, e9, wth_t, wth_f, g1_int _ (by omega), show ((0 : Int64).toInt : Int) = 0 from rfl]
    unfold sgO at go
    refine ⟨okn (by omega) (by decide), fun z => go (by omega), fun z => ⟨fun z2 => go (by omega), fun z2 => ⟨fun z3 => go (by omega), fun z3 => thr _ _ _ (Or.inr (Or.inr rfl)) (bad3 (fun y => ?_) _ (SQ.th2 s 0 3))⟩⟩⟩
    have := y.2 k (by omega)
    unfold sgO at this
    omega
end WR1
