/-! a law read by the class: a token more -/
def LFF (T T' : XS) (k p : Nat) : Prop := frm lrS T T' ∧ xI T' 13 6 = nI k ∧ xI T' 13 7 = nI p
def LHD (c : CX) (D i : Nat) (T : XS) (Q : Option Nat → XS → Prop) : Prop := eX c D m_Lr_read 37 [some (.ref 21), some (.ref 13), some (.int (nI i)), none] T (yO c Q)
def CJN (k st ro sq : Nat) (cm : Bool) : Bool := if k = 26 ∨ k = 27 ∨ k = 28 then decide (st = 2) else if k = 33 ∨ k = 34 ∨ k = 35 then decide (ro = 0) && !cm else if k = 14 ∨ k = 15 then decide (ro = 0) && cm else if k = 30 then decide (0 < ro) else if k = 32 then (decide (ro = 0) && cm) && decide (0 < sq) else false
section LX2
variable {c : CX} {d : Nat} {T T' T1 T2 : XS} {f : Nat → Nat} {n h k i st dp ro sq : Nat} {E W Pd W0 : List Nat} {cm : Bool}
theorem x_refuse {Q : Bool → XS → Prop} (q : TKA T f n h) (hq : ∀ T', LFF T T' (fkk f n h k) (bgn f n h) → frm t13 T T' → Q false T') : XB c d m_Tk_refuse [.ref 13, .int (nI k)] T Q := by
  have k40 := kd_40 f n h
  refine wx_Tk_refuse _ ?_
  rw [q.2.2.2.1, q.2.2.1, show (nI (kd f n h) = (38 : Int32)) = (kd f n h = 38) from propext (nI_inj (b := 38) (by omega) (by decide))]
  have fin : ∀ x, x = fkk f n h k → Q false (tI (tI T 13 6 (nI x)) 13 7 (nI (bgn f n h))) := fun x hx => by
    subst hx
    have f1 : frm t13 T (tI (tI T 13 6 (nI (fkk f n h k))) 13 7 (nI (bgn f n h))) := (frm_I (S := t13) (a := 13) rfl _ _).tr (frm_I (S := t13) (a := 13) rfl _ _)
    exact hq _ ⟨f1.mono (fun b hb => Or.inl hb), (xI_nn _ _ _ _ (by decide)).trans (xI_at _ _ _ _), xI_at _ _ _ _⟩ f1
  unfold fkk at fin
  exact ⟨fun z => fin k (by rw [if_neg z]), fun z => fin 1 (by rw [if_pos z])⟩
theorem x_wants {Q : Bool → XS → Prop} (lc : LRC T E W st dp ro sq cm) (hst : st ≤ 3) (hq : Q (decide (st = 0 ∨ st = 1)) T) : XB c d m_Lr_wantsMore [.ref 21] T Q := by
  refine wx_Lr_wantsMore ?_
  rw [lc.2.2.1, show (nI st = (0 : Int32)) = (st = 0) from propext (nI_inj (b := 0) (by omega) (by decide)), show (nI st = (1 : Int32)) = (st = 1) from propext (nI_inj (b := 1) (by omega) (by decide))]
  refine ⟨fun z => ?_, fun z => ⟨fun y => ?_, fun y => ?_⟩⟩
  · rw [decide_eq_true (Or.inl z)] at hq; exact hq
  · rw [decide_eq_false (fun w => w.elim z y)] at hq; exact hq
  · rw [decide_eq_true (Or.inr y)] at hq; exact hq
theorem x_unitEnds {Q : Bool → XS → Prop} (lc : LRC T E W st dp ro sq cm) (hst : st ≤ 3) (hro : ro ≤ 9) (hq : Q (!decide (st = 0 ∨ st = 1) && (decide (ro = 0) && cm)) T) : XB c (d + 1) m_Lr_unitEnds [.ref 21] T Q := by
  refine wx_Lr_unitEnds (x_wants lc hst ⟨fun z => ?_, fun z => ?_⟩)
  · rw [z] at hq; exact hq
  · rw [z] at hq
    rw [lc.2.2.2.2.1, show (nI ro = (0 : Int32)) = (ro = 0) from propext (nI_inj (b := 0) (by omega) (by decide))]
    refine ⟨fun y => ?_, fun y => ⟨cm, lc.2.2.2.2.2.2, fun w => ?_, fun w => ?_⟩⟩
    · rw [decide_eq_false y] at hq; exact hq
    · rw [decide_eq_true y, w] at hq; exact hq
    · rw [decide_eq_true y, w] at hq; exact hq
theorem x_canJoin {Q : Bool → XS → Prop} (lc : LRC T E W st dp ro sq cm) (hst : st = 2 ∨ st = 3) (hro : ro ≤ 9) (hsq : sq ≤ 9) (hk : k < 40) (hq : Q (CJN k st ro sq cm) T) : XB c (d + 2) m_Lr_canJoin [.ref 21, .int (nI k)] T Q := by
  have key : ∀ j : Nat, j < 40 → ((nI k = nI j) = (k = j)) := fun j hj => propext (nI_inj (by omega) (by omega))
  have ew : decide (st = 0 ∨ st = 1) = false := decide_eq_false (by omega)
  have ue : ∀ {Q : Bool → XS → Prop}, Q (decide (ro = 0) && cm) T → XB c (d + 1) m_Lr_unitEnds [.ref 21] T Q := fun hq => x_unitEnds lc (by omega) hro (by rw [ew]; exact hq)
  unfold CJN at hq
  refine wx_Lr_canJoin _ ?_
  rw [show (nI k = (14 : Int32)) = _ from key 14 (by decide), show (nI k = (15 : Int32)) = _ from key 15 (by decide), show (nI k = (26 : Int32)) = _ from key 26 (by decide), show (nI k = (27 : Int32)) = _ from key 27 (by decide), show (nI k = (28 : Int32)) = _ from key 28 (by decide), show (nI k = (30 : Int32)) = _ from key 30 (by decide), show (nI k = (32 : Int32)) = _ from key 32 (by decide), show (nI k = (33 : Int32)) = _ from key 33 (by decide), show (nI k = (34 : Int32)) = _ from key 34 (by decide), show (nI k = (35 : Int32)) = _ from key 35 (by decide)]
  rw [lc.2.2.1, lc.2.2.2.2.1, show (nI st = (2 : Int32)) = (st = 2) from propext (nI_inj (b := 2) (by omega) (by decide)), show (nI ro = (0 : Int32)) = (ro = 0) from propext (nI_inj (b := 0) (by omega) (by decide)), show (nI ro ≤ (0 : Int32)) = (ro ≤ 0) from propext (nI_leI (b := 0) (by omega) (by decide))]
  have c2 : (k = 26 ∨ k = 27 ∨ k = 28) → ((¬ st = 2 → Q false T) ∧ (st = 2 → Q true T)) := fun z => by
    rw [if_pos z] at hq
    exact ⟨fun y => by rwa [decide_eq_false y] at hq, fun y => by rwa [decide_eq_true y] at hq⟩
  have c4 : (k = 33 ∨ k = 34 ∨ k = 35) → ((¬ ro = 0 → Q false T) ∧ (ro = 0 → (∃ q7 : Bool, xI T 21 8 = bI q7 ∧ ((q7 = true → Q false T) ∧ (q7 = false → Q true T))))) := fun z => by
    rw [if_neg (by omega), if_pos z] at hq
    refine ⟨fun y => by rwa [decide_eq_false y] at hq, fun y => ⟨cm, lc.2.2.2.2.2.2, fun w => ?_, fun w => ?_⟩⟩
    · rw [decide_eq_true y, w] at hq; exact hq
    · rw [decide_eq_true y, w] at hq; exact hq
  have c1 : (k = 14 ∨ k = 15) → XB c (d + 1) m_Lr_unitEnds [.ref 21] T (fun v T1 => Q v T1) := fun z => by
    rw [if_neg (by omega), if_neg (by omega), if_pos z] at hq
    exact ue hq
  refine ⟨fun z => c1 (Or.inl z), fun z => c1 (Or.inr z), fun z => c2 (Or.inl z), fun z => c2 (Or.inr (Or.inl z)), fun z => c2 (Or.inr (Or.inr z)), fun z => ?_, fun z => ?_, fun z => c4 (Or.inl z), fun z => c4 (Or.inr (Or.inl z)), fun z => c4 (Or.inr (Or.inr z)), fun z => ?_⟩
  · rw [if_neg (by omega), if_neg (by omega), if_neg (by omega), if_pos z] at hq
    exact ⟨fun y => by rwa [decide_eq_false (by omega)] at hq, fun y => by rwa [decide_eq_true (by omega)] at hq⟩
  · rw [if_neg (by omega), if_neg (by omega), if_neg (by omega), if_neg (by omega), if_pos z] at hq
    refine ue ⟨fun y => ?_, fun y => ?_⟩
    · rw [y] at hq; exact hq
    · rw [y] at hq
      rw [lc.2.2.2.2.2.1, show (nI sq ≤ (0 : Int32)) = (sq ≤ 0) from propext (nI_leI (b := 0) (by omega) (by decide))]
      exact ⟨fun w => by rwa [decide_eq_false (by omega)] at hq, fun w => by rwa [decide_eq_true (by omega)] at hq⟩
  · rw [if_neg (by omega), if_neg (by omega), if_neg (by omega), if_neg (by omega), if_neg (by omega)] at hq
    exact hq
theorem LRC.set (q : LRC T E W st dp ro sq cm) {st' ro' : Nat} : LRC (tI T 21 4 (nI st')) E W st' dp ro sq cm ∧ LRC (tI (tI T 21 6 (nI ro')) 21 4 (nI st')) E W st' dp ro' sq cm := by
  obtain ⟨a, b, r4, r5, r6, r7, r8⟩ := q
  exact ⟨⟨a, b, xI_at _ _ _ _, r5, r6, r7, r8⟩, ⟨a, b, xI_at _ _ _ _, r5, (xI_nn _ _ _ _ (by decide)).trans (xI_at _ _ _ _), r7, r8⟩⟩
theorem x_begin {Q : Option Nat → XS → Prop} (hf : fvok c) (q : TKS T f n h) (lc : LRC T E W st dp ro sq cm) (hst : st = 0 ∨ st = 1) (hi : i ≤ h) (hEW : E.length + W.length ≤ h) (hW : W.length < 64) (hdp : dp ≤ 6) (hro : ro ≤ 6) (hsq : sq ≤ 6)
    (atom : 17 ≤ kd f n h → kd f n h ≤ 24 → ∀ T', LFR T T' → TKS T' f n (nx f n h) → LRC T' (E ++ [1000 + kd f n h]) W 2 dp ro sq cm → LHD c (d + 7) (i + 1) T' Q)
    (num : kd f n h = 36 → ∀ T', LFR T T' → TKS T' f n (nx f n h) → LRC T' (E ++ [vl f n h]) W 2 dp ro sq cm → LHD c (d + 7) (i + 1) T' Q)
    (opn : (kd f n h = 29 ∨ (st = 0 ∧ (kd f n h = 16 ∨ kd f n h = 31))) → dp ≠ 6 → ∀ T', LFR T T' → TKS T' f n (nx f n h) → LRC T' E (kd f n h :: W) (if kd f n h = 29 then 1 else st) (dp + 1) (if kd f n h = 29 then ro + 1 else ro) (if kd f n h = 31 then sq + 1 else sq) cm → LHD c (d + 7) (i + 1) T' Q)
    (bad4 : (kd f n h = 29 ∨ (st = 0 ∧ (kd f n h = 16 ∨ kd f n h = 31))) → dp = 6 → ∀ T', LFF T T' 4 (bgn f n h) → Q none T')
    (bad2 : ¬ (17 ≤ kd f n h ∧ kd f n h ≤ 24) → kd f n h ≠ 36 → ¬ (kd f n h = 29 ∨ (st = 0 ∧ (kd f n h = 16 ∨ kd f n h = 31))) → ∀ T', LFF T T' (fkk f n h 2) (bgn f n h) → Q none T') : LHD c (d + 7) i T Q := by
  have h9 := q.2.2.2.2.1
  have hn := q.2.2.2.1
  have k40 := kd_40 f n h
  have v9 := vl_lt (f := f) hn
  refine wx_Lr_read_37 _ ⟨fun z => absurd ((nI_ltI (a := 900) (by decide) (by omega)).mp z) (by omega), fun _ => x_move (d := d) hf q (fun T1 mv ta => ?_)⟩
  have lc1 := mv.lrc lc
  have l1 := mv.l
  have go88 : eX c (d + 7) m_Lr_read 88 [some (.ref 21), some (.ref 13), some (.int (nI i)), none] T1 (yO c Q) := by
    refine wx_Lr_read_88 _ (x_wants lc1 (by omega) ?_)
    rw [decide_eq_true hst]
    refine ⟨fun z => (by cases z), fun _ => ?_⟩
    have ok : ∀ T', LFS T1 T' → ∀ {P : Prop}, (LFR T T' → TKS T' f n (nx f n h) → LHD c (d + 7) (i + 1) T' Q) → eX c (d + 7) m_Lr_read 112 [some (.ref 21), some (.ref 13), some (.int (nI i)), some (.int 0)] T' (yO c Q) := fun T' fs P H => by
      refine wx_Lr_read_112 _ _ ⟨fun _ => ?_, fun z => absurd rfl z⟩
      rw [nI_1]
      exact H (l1.tr fs.r) (fs.tka ta).1
    have bad : ∀ k, (∀ T', LFF T T' (fkk f n h k) (bgn f n h) → Q none T') → 0 < k → k < 10 → eX c (d + 7) m_Lr_read 112 [some (.ref 21), some (.ref 13), some (.int (nI i)), some (.int (nI k))] T1 (yO c Q) := fun k hq hk0 hk => by
      refine wx_Lr_read_112 _ _ ⟨fun z => ?_, fun _ => x_refuse ta (fun T2 ff _ => hq T2 ⟨l1.1.tr ff.1, ff.2⟩)⟩
      have := (nI_inj (b := 0) (by omega) (by decide)).mp z
      omega
    have key : ∀ j : Nat, j < 2 ^ 31 → ((nI (kd f n h) = nI j) = (kd f n h = j)) := fun j hj => propext (nI_inj (by omega) hj)
    refine wx_Lr_takeBeginning ?_
    rw [ta.2.2.2.1, show (nI (kd f n h) = (36 : Int32)) = _ from key 36 (by decide), show (nI (kd f n h) < (17 : Int32)) = (kd f n h < 17) from propext (nI_ltI (b := 17) (by omega) (by decide)), show ((24 : Int32) < nI (kd f n h)) = (24 < kd f n h) from propext (nI_ltI (a := 24) (by decide) (by omega)), show (1000 : Int32) + nI (kd f n h) = nI (1000 + kd f n h) from nI_add 1000 _]
    have r52 : ¬ (17 ≤ kd f n h ∧ kd f n h ≤ 24) → kd f n h ≠ 36 → eX c (d + 6) m_Lr_takeBeginning 52 [some (.ref 21), some (.ref 13), some (.int (nI (kd f n h))), none] T1 (yI c (fun v56 T55 => eX c (d + 7) m_Lr_read 112 [some (.ref 21), some (.ref 13), some (.int (nI i)), some (.int v56)] T55 (yO c Q))) := fun n1 n2 => by
      have opener : (kd f n h = 29 ∨ (st = 0 ∧ (kd f n h = 16 ∨ kd f n h = 31))) → eX c (d + 6) m_Lr_takeBeginning 89 [some (.ref 21), some (.ref 13), some (.int (nI (kd f n h))), none] T1 (yI c (fun v56 T55 => eX c (d + 7) m_Lr_read 112 [some (.ref 21), some (.ref 13), some (.int (nI i)), some (.int v56)] T55 (yO c Q))) := fun ho => by
        refine wx_Lr_takeBeginning_89 _ ?_
        rw [lc1.2.2.2.1, show (nI dp = (6 : Int32)) = (dp = 6) from propext (nI_inj (b := 6) (by omega) (by decide)), nI_1]
        refine ⟨fun d6 => ?_, fun d6 => ?_⟩
        · have lc2 : LRC (tI T1 21 5 (nI (dp + 1))) E W st (dp + 1) ro sq cm := by
            obtain ⟨a, b, r4, r5, r6, r7, r8⟩ := lc1
            exact ⟨a, b, r4, xI_at _ _ _ _, r6, r7, r8⟩
          refine x_push lc2 hW (fun T2 f2 lc3 => ?_)
          have f2 : LFS T1 T2 := (LFS.rf.pi _ _).tr f2
          have opn := opn ho d6
          rw [show (nI (kd f n h) = (31 : Int32)) = _ from key 31 (by decide)]
          refine ⟨fun z => wx_Lr_takeBeginning_131 _ ?_, fun z => wx_Lr_takeBeginning_131 _ ?_⟩
          · rw [show (nI (kd f n h) = (29 : Int32)) = _ from key 29 (by decide)]
            refine ⟨fun y => ok T2 f2 (P := True) (fun a b => opn T2 a b ?_), fun y => ?_⟩
            · rw [if_neg y, if_neg y, if_neg z]; exact lc3
            · rw [lc3.2.2.2.2.1, nI_1]
              refine ok _ ((f2.pi _ _).pi _ _) (P := True) (fun a b => opn _ a b ?_)
              rw [if_pos y, if_pos y, if_neg z]
              exact (lc3.set (st' := 1) (ro' := ro + 1)).2
          · have lc4 : LRC (tI T2 21 7 (xI T2 21 7 + 1)) E (kd f n h :: W) st (dp + 1) ro (sq + 1) cm := by
              obtain ⟨a, b, r4, r5, r6, r7, r8⟩ := lc3
              refine ⟨a, b, r4, r5, r6, ?_, r8⟩
              rw [xI_at, r7, nI_1]
            rw [show (nI (kd f n h) = (29 : Int32)) = _ from key 29 (by decide)]
            refine ⟨fun y => ok _ (f2.pi _ _) (P := True) (fun a b => opn _ a b ?_), fun y => absurd y (by omega)⟩
            rw [if_neg y, if_neg y, if_pos z]
            exact lc4
        · exact bad 4 (fun T' ff => bad4 ho d6 T' (by rw [show fkk f n h 4 = 4 from if_neg (by omega)] at ff; exact ff)) (by decide) (by decide)
      refine wx_Lr_takeBeginning_52 _ ?_
      rw [lc1.2.2.1, show (nI st = (0 : Int32)) = (st = 0) from propext (nI_inj (b := 0) (by omega) (by decide)), show (nI (kd f n h) = (29 : Int32)) = _ from key 29 (by decide), show (nI (kd f n h) = (16 : Int32)) = _ from key 16 (by decide), show (nI (kd f n h) = (31 : Int32)) = _ from key 31 (by decide)]
      have b2 : ¬ (kd f n h = 29 ∨ (st = 0 ∧ (kd f n h = 16 ∨ kd f n h = 31))) → eX c (d + 7) m_Lr_read 112 [some (.ref 21), some (.ref 13), some (.int (nI i)), some (.int 2)] T1 (yO c Q) := fun w => bad 2 (bad2 n1 n2 w) (by decide) (by decide)
      exact ⟨fun z => ⟨fun y => opener (Or.inl y), fun y => b2 (by omega)⟩, fun z => ⟨fun y => opener (Or.inr ⟨z, Or.inl y⟩), fun y => ⟨fun w => ⟨fun u => opener (Or.inl u), fun u => b2 (by omega)⟩, fun w => opener (Or.inr ⟨z, Or.inr w⟩)⟩⟩⟩
    refine ⟨fun z => ⟨fun y => absurd z y, fun _ => ?_⟩, fun z => ⟨fun y => r52 (by omega) z, fun y => ⟨fun w => r52 (by omega) z, fun w => ⟨fun _ => ?_, fun u => absurd u z⟩⟩⟩⟩
    · have a0 := kd_nx (f := f) hn (show kd f n h ≠ 37 by omega)
      rw [ta.2.2.2.2 z]
      refine x_emit lc1 (by omega) (fun T2 f2 lc2 _ => ok _ (f2.pi _ _) (P := True) (fun a b => num z _ a b (lc2.set (st' := 2) (ro' := 0)).1))
    · have a0 := kd_nx (f := f) hn (show kd f n h ≠ 37 by omega)
      refine x_emit lc1 (by omega) (fun T2 f2 lc2 _ => ok _ (f2.pi _ _) (P := True) (fun a b => atom (by omega) (by omega) _ a b (lc2.set (st' := 2) (ro' := 0)).1))
  refine ⟨fun _ => go88, fun _ => x_unitEnds (d := d + 5) lc1 (by omega) (by omega) ?_⟩
  rw [decide_eq_true hst]
  exact ⟨fun _ => go88, fun z => by cases z⟩
end LX2
