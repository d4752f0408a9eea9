/-! a law read by the class: what joins -/
section LX3
variable {c : CX} {d : Nat} {T T' T1 T2 : XS} {f : Nat → Nat} {n h k i st dp ro sq : Nat} {E W Pd W0 : List Nat} {cm : Bool}
theorem CJN_st (hc : CJN k st ro sq cm = true) : (k = 26 ∨ k = 27 ∨ k = 28) ∧ st = 2 ∨ (k = 33 ∨ k = 34 ∨ k = 35) ∧ ro = 0 ∧ cm = false ∨ (k = 14 ∨ k = 15) ∧ ro = 0 ∧ cm = true ∨ k = 30 ∧ 0 < ro ∨ k = 32 ∧ ro = 0 ∧ cm = true ∧ 0 < sq := by
  unfold CJN at hc
  by_cases z1 : k = 26 ∨ k = 27 ∨ k = 28
  · rw [if_pos z1] at hc
    exact Or.inl ⟨z1, of_decide_eq_true hc⟩
  rw [if_neg z1] at hc
  by_cases z2 : k = 33 ∨ k = 34 ∨ k = 35
  · rw [if_pos z2, Bool.and_eq_true] at hc
    exact Or.inr (Or.inl ⟨z2, of_decide_eq_true hc.1, by cases cm with
      | false => rfl
      | true => exact absurd hc.2 (by decide)⟩)
  rw [if_neg z2] at hc
  by_cases z3 : k = 14 ∨ k = 15
  · rw [if_pos z3, Bool.and_eq_true] at hc
    exact Or.inr (Or.inr (Or.inl ⟨z3, of_decide_eq_true hc.1, hc.2⟩))
  rw [if_neg z3] at hc
  by_cases z4 : k = 30
  · rw [if_pos z4] at hc
    exact Or.inr (Or.inr (Or.inr (Or.inl ⟨z4, of_decide_eq_true hc⟩)))
  rw [if_neg z4] at hc
  by_cases z5 : k = 32
  · rw [if_pos z5, Bool.and_eq_true, Bool.and_eq_true] at hc
    exact Or.inr (Or.inr (Or.inr (Or.inr ⟨z5, of_decide_eq_true hc.1.1, hc.1.2, of_decide_eq_true hc.2⟩)))
  rw [if_neg z5] at hc
  cases hc
theorem x_joint {Q : Option Nat → XS → Prop} (hf : fvok c) (q : TKS T f n h) (lc : LRC T E (Pd ++ W0) st (dp + nts Pd) ro sq cm) (hst : st = 2 ∨ st = 3) (hi : i ≤ h) (hEW : E.length + (Pd ++ W0).length ≤ h) (hdp : dp + nts Pd ≤ 6) (hro : ro ≤ 6) (hsq : sq ≤ 6)
    (hP : CJN (kd f n h) st ro sq cm = true → ∀ x ∈ Pd, x < 40 ∧ sgN (kd f n h) ≤ sgN x) (hW0 : CJN (kd f n h) st ro sq cm = true → ∀ y l, W0 = y :: l → y < 40 ∧ sgN y < sgN (kd f n h)) (hO : CJN (kd f n h) st ro sq cm = true → (kd f n h = 30 ∨ kd f n h = 32) → W0 ≠ [] ∧ 1 ≤ dp)
    (hL : W0.length < 64)
    (fin : kd f n h = 25 → ro = 0 → cm = true → sq = 0 → ∀ T1, LFR T T1 → TKA T1 f n h → LRC T1 E (Pd ++ W0) st (dp + nts Pd) ro sq cm → XV c (d + 6) m_Lr_unwind [.ref 21, .int 1] T1 (fun T56 => XO c (d + 6) m_JA_copyOf [.ref 25, .int (xI T56 21 1)] T56 (fun v58 T57 => Q v58 T57)))
    (push : CJN (kd f n h) st ro sq cm = true → kd f n h ≠ 30 → kd f n h ≠ 32 → ∀ T', LFR T T' → TKS T' f n (nx f n h) → LRC T' (E ++ cdm Pd) (kd f n h :: W0) (if kd f n h = 14 ∨ kd f n h = 15 then 0 else 1) dp ro sq (if kd f n h = 14 ∨ kd f n h = 15 then false else if 33 ≤ kd f n h ∧ kd f n h ≤ 35 then true else cm) → LHD c (d + 7) (i + 1) T' Q)
    (shut : CJN (kd f n h) st ro sq cm = true → (kd f n h = 30 ∨ kd f n h = 32) → ∀ o W1, W0 = o :: W1 → ∀ T', LFR T T' → TKS T' f n (nx f n h) → LRC T' (E ++ cdm Pd) W1 (if kd f n h = 30 then st else 3) (dp - 1) (if kd f n h = 30 then ro - 1 else ro) (if kd f n h = 30 then sq else sq - 1) cm → LHD c (d + 7) (i + 1) T' Q)
    (bad : CJN (kd f n h) st ro sq cm = false → ¬ (kd f n h = 25 ∧ ro = 0 ∧ cm = true ∧ sq = 0) → ∀ T', LFF T T' (fkk f n h 2) (bgn f n h) → Q none T') : LHD c (d + 7) i T Q := by
  have h9 := q.2.2.2.2.1
  have hn := q.2.2.2.1
  have k40 := kd_40 f n h
  rw [List.length_append] at hEW
  have key : ∀ j : Nat, j < 2 ^ 31 → ((nI (kd f n h) = nI j) = (kd f n h = j)) := fun j hj => propext (nI_inj (by omega) hj)
  refine wx_Lr_read_37 _ ⟨fun z => absurd ((nI_ltI (a := 900) (by decide) (by omega)).mp z) (by omega), fun _ => x_move (d := d) hf q (fun T1 mv ta => ?_)⟩
  have lc1 := mv.lrc lc
  have l1 := mv.l
  have ew : decide (st = 0 ∨ st = 1) = false := decide_eq_false (by omega)
  have go88 : ¬ (kd f n h = 25 ∧ ro = 0 ∧ cm = true ∧ sq = 0) → eX c (d + 7) m_Lr_read 88 [some (.ref 21), some (.ref 13), some (.int (nI i)), none] T1 (yO c Q) := fun nf => by
    refine wx_Lr_read_88 _ (x_wants lc1 (by omega) ?_)
    rw [ew]
    refine ⟨fun _ => ?_, fun z => (by cases z)⟩
    rw [ta.2.2.2.1]
    have ok : ∀ T', LFS T1 T' → (LFR T T' → TKS T' f n (nx f n h) → LHD c (d + 7) (i + 1) T' Q) → eX c (d + 7) m_Lr_read 112 [some (.ref 21), some (.ref 13), some (.int (nI i)), some (.int 0)] T' (yO c Q) := fun T' fs H => by
      refine wx_Lr_read_112 _ _ ⟨fun _ => ?_, fun z => absurd rfl z⟩
      rw [nI_1]
      exact H (l1.tr fs.r) (fs.tka ta).1
    refine wx_Lr_takeJoint _ (x_canJoin (d := d + 3) lc1 hst (by omega) (by omega) k40 ⟨fun hc => ?_, fun hc => ?_⟩)
    · obtain ⟨s1, s2⟩ := sgN_i _ k40
      rw [s1]
      refine wx_Lr_unwind _ (x_unwind (d := d + 4) s2 Pd E T1 lc1 (by omega) (hP hc) (hW0 hc) (by omega) (fun T3 f3 lc3 => ?_))
      have cj := CJN_st hc
      rw [show (nI (kd f n h) = (30 : Int32)) = _ from key 30 (by decide), show (nI (kd f n h) = (32 : Int32)) = _ from key 32 (by decide)]
      have sh : (kd f n h = 30 ∨ kd f n h = 32) → XV c (d + 5) m_Lr_takeShut [.ref 21, .int (nI (kd f n h))] T3 (fun T4 => eX c (d + 7) m_Lr_read 112 [some (.ref 21), some (.ref 13), some (.int (nI i)), some (.int 0)] T4 (yO c Q)) := fun hs => by
        obtain ⟨o1, o2⟩ := hO hc hs
        match W0, o1, lc3, shut, hL with
        | o :: W1, _, lc3, shut, hL =>
          obtain ⟨t1, t2⟩ := top_get lc3
          have lp := lc3.pop
          have l64 := lc3.2.1.2.1
          rw [List.length_cons] at l64
          have shut := shut hc hs o W1 rfl
          refine wx_Lr_takeShut _ ?_
          rw [t1, lc3.2.1.1, List.length_cons, lc3.2.2.2.1, lc3.2.2.2.2.1, lc3.2.2.2.2.2.1, show (nI (kd f n h) = (30 : Int32)) = _ from key 30 (by decide), show nI dp - 1 = nI (dp - 1) from nI_sub (b := 1) (by omega)]
          refine ⟨fun z => absurd ((nI_leI (b := 0) (by omega) (by decide)).mp z) (by omega), fun _ => ⟨fun z => ?_, fun z => ?_⟩⟩
          · refine ok _ ((((f3.pi _ _).pi _ _).pi _ _).pi _ _) (fun a b => shut _ a b ?_)
            rw [if_neg z, if_neg z, if_neg z]
            obtain ⟨a, b, r4, r5, r6, r7, r8⟩ := lp
            refine ⟨a, b, xI_at _ _ _ _, (xI_nn _ _ _ _ (by decide)).trans ((xI_nn _ _ _ _ (by decide)).trans (xI_at _ _ _ _)), r6, ?_, r8⟩
            rw [xI_nn _ _ _ _ (by decide), xI_at]
            exact nI_sub (b := 1) (by omega)
          · refine ok _ (((f3.pi _ _).pi _ _).pi _ _) (fun a b => shut _ a b ?_)
            rw [if_pos z, if_pos z, if_pos z]
            obtain ⟨a, b, r4, r5, r6, r7, r8⟩ := lp
            refine ⟨a, b, r4, (xI_nn _ _ _ _ (by decide)).trans (xI_at _ _ _ _), ?_, r7, r8⟩
            rw [xI_at]
            exact nI_sub (b := 1) (by omega)
      refine ⟨fun z => sh (Or.inl z), fun z30 => ⟨fun z32 => ?_, fun z => sh (Or.inr z)⟩⟩
      refine x_push lc3 hL (fun T5 f5 lc5 => ?_)
      have f5 : LFS T1 T5 := f3.tr f5
      have push := push hc z30 z32
      rw [show (nI (kd f n h) = (15 : Int32)) = _ from key 15 (by decide), show (nI (kd f n h) = (14 : Int32)) = _ from key 14 (by decide), show (nI (kd f n h) = (33 : Int32)) = _ from key 33 (by decide), show (nI (kd f n h) = (34 : Int32)) = _ from key 34 (by decide), show (nI (kd f n h) = (35 : Int32)) = _ from key 35 (by decide)]
      have low : (kd f n h = 14 ∨ kd f n h = 15) → eX c (d + 7) m_Lr_read 112 [some (.ref 21), some (.ref 13), some (.int (nI i)), some (.int 0)] (tI (tI T5 21 8 0) 21 4 0) (yO c Q) := fun z => by
        refine ok _ ((f5.pi _ _).pi _ _) (fun a b => push _ a b ?_)
        rw [if_pos z, if_pos z]
        obtain ⟨a, b, r4, r5, r6, r7, r8⟩ := lc5
        exact ⟨a, b, xI_at _ _ _ _, r5, r6, r7, (xI_nn _ _ _ _ (by decide)).trans (xI_at _ _ _ _)⟩
      have cmp : (kd f n h = 33 ∨ kd f n h = 34 ∨ kd f n h = 35) → eX c (d + 7) m_Lr_read 112 [some (.ref 21), some (.ref 13), some (.int (nI i)), some (.int 0)] (tI (tI T5 21 8 1) 21 4 1) (yO c Q) := fun z => by
        refine ok _ ((f5.pi _ _).pi _ _) (fun a b => push _ a b ?_)
        rw [if_neg (by omega), if_neg (by omega), if_pos (by omega)]
        obtain ⟨a, b, r4, r5, r6, r7, r8⟩ := lc5
        exact ⟨a, b, xI_at _ _ _ _, r5, r6, r7, (xI_nn _ _ _ _ (by decide)).trans (xI_at _ _ _ _)⟩
      refine ⟨fun z => low (Or.inr z), fun z15 => ⟨fun z14 => ⟨fun z => cmp (Or.inl z), fun z33 => ⟨fun z => cmp (Or.inr (Or.inl z)), fun z34 => ⟨fun z35 => ?_, fun z => cmp (Or.inr (Or.inr z))⟩⟩⟩, fun z => low (Or.inl z)⟩⟩
      refine ok _ (f5.pi _ _) (fun a b => push _ a b ?_)
      rw [if_neg (by omega), if_neg (by omega), if_neg (by omega)]
      exact (lc5.set (st' := 1) (ro' := 0)).1
    · refine wx_Lr_read_112 _ _ ⟨fun z => absurd z (by decide), fun _ => x_refuse (k := 2) ta (fun T2 ff _ => bad hc nf T2 ⟨l1.1.tr ff.1, ff.2⟩)⟩
  rw [ta.2.2.2.1, show (nI (kd f n h) = (25 : Int32)) = _ from key 25 (by decide)]
  refine ⟨fun z => go88 (fun w => z w.1), fun z => x_unitEnds (d := d + 5) lc1 (by omega) (by omega) ⟨fun y => go88 (fun w => ?_), fun y => ?_⟩⟩
  · rw [ew, decide_eq_true w.2.1, w.2.2.1] at y
    cases y
  · rw [ew] at y
    have y : (decide (ro = 0) && cm) = true := y
    rw [Bool.and_eq_true] at y
    rw [lc1.2.2.2.2.2.1, show (nI sq = (0 : Int32)) = (sq = 0) from propext (nI_inj (b := 0) (by omega) (by decide))]
    exact ⟨fun w => go88 (fun u => w u.2.2.2), fun w => fin z (of_decide_eq_true y.1) y.2 w T1 l1 ta lc1⟩
end LX3
