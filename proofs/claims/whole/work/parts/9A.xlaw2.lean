/-! a law read by the class: its steps -/
abbrev lrS (b : Nat) : Prop := b = 13 ∨ b = 21 ∨ b = 25 ∨ b = 29
/-- what a step leaves -/
def LFR (T T' : XS) : Prop := frm lrS T T' ∧ frx T' 13 0 = frx T 13 0 ∧ xI T' 13 1 = xI T 13 1 ∧ xI T' 13 6 = xI T 13 6 ∧ xI T' 13 7 = xI T 13 7
/-- steps of the law reader that leave the tokens -/
def LFS (T T' : XS) : Prop := frm lrS T T' ∧ frx T' 13 0 = frx T 13 0 ∧ ∀ k, xI T' 13 k = xI T 13 k
/-- emitted; waiting, the latest first; state, deep, rounds, squares, compared -/
def LRC (T : XS) (E W : List Nat) (st dp ro sq : Nat) (cm : Bool) : Prop := (xI T 21 1 = nI E.length ∧ E.length ≤ 900 ∧ ∀ i, i < E.length → xA T 25 i = nI (E.getD i 0)) ∧ (xI T 21 3 = nI W.length ∧ W.length ≤ 64 ∧ ∀ i, i < W.length → xA T 29 i = nI (W.reverse.getD i 0)) ∧ xI T 21 4 = nI st ∧ xI T 21 5 = nI dp ∧ xI T 21 6 = nI ro ∧ xI T 21 7 = nI sq ∧ xI T 21 8 = bI cm
def sgN (k : Nat) : Nat := if k = 14 then 1 else if k = 15 then 2 else if k = 16 then 3 else if k = 26 then 5 else if k = 27 then 5 else if k = 28 then 6 else if k = 30 then 1 else if k = 32 then 1 else if k = 33 then 4 else if k = 34 then 4 else if k = 35 then 4 else 0
theorem sgN_i : ∀ k, k < 40 → stg (nI k) = nI (sgN k) ∧ sgN k ≤ 6 := by decide +kernel
def nts (l : List Nat) : Nat := (l.filter (fun k => decide (k = 16))).length
def cdm (l : List Nat) : List Nat := l.map (fun k => 1000 + k)
section LX1
variable {c : CX} {d : Nat} {T T' T1 T2 : XS} {f : Nat → Nat} {n h k i st dp ro sq : Nat} {E W Pd W0 : List Nat} {cm : Bool}
theorem LFR.rf : LFR T T := ⟨frm.rf, rfl, rfl, rfl, rfl⟩
theorem LFR.tr (a : LFR T T1) (b : LFR T1 T2) : LFR T T2 := ⟨a.1.tr b.1, b.2.1.trans a.2.1, b.2.2.1.trans a.2.2.1, b.2.2.2.1.trans a.2.2.2.1, b.2.2.2.2.trans a.2.2.2.2⟩
theorem LFS.rf : LFS T T := ⟨frm.rf, rfl, fun _ => rfl⟩
theorem LFS.tr (a : LFS T T1) (b : LFS T1 T2) : LFS T T2 := ⟨a.1.tr b.1, b.2.1.trans a.2.1, fun k => (b.2.2 k).trans (a.2.2 k)⟩
theorem LFS.r (a : LFS T T1) : LFR T T1 := ⟨a.1, a.2.1, a.2.2 1, a.2.2 6, a.2.2 7⟩
theorem MVD.l (a : MVD T T') : LFR T T' := ⟨a.1.mono (fun b hb => Or.inl hb), a.2⟩
theorem LFS.pi (a : LFS T T1) (k : Nat) (x : Int32) : LFS T (tI T1 21 k x) := a.tr ⟨frm_I (S := lrS) (Or.inr (Or.inl rfl)) _ _, rfl, fun j => xI_nn _ _ _ _ (by omega)⟩
theorem LFS.a (a : LFS T T1) {b : Nat} (hb : b = 25 ∨ b = 29) (j : Nat) (x : Int32) : LFS T (tA T1 b j x) := a.tr ⟨frm_A (S := lrS) (Or.inr (Or.inr hb)) _ _, rfl, fun j => rfl⟩
theorem LFR.txt (a : LFR T T') (q : TXT T f n) : TXT T' f n := ⟨a.2.1.trans q.1, a.2.2.1.trans q.2.1, q.2.2.1, fun j hj => by rw [a.1.A (by decide)]; exact q.2.2.2 j hj⟩
theorem LFS.tka (a : LFS T T') (q : TKA T f n h) : TKA T' f n h := ⟨(a.r.txt q.1.txt).at q.1.2.2.2.1 (by rw [a.2.2]; exact q.1.2.2.1), q.2.1, by rw [a.2.2]; exact q.2.2.1, by rw [a.2.2]; exact q.2.2.2.1, fun z => by rw [a.2.2]; exact q.2.2.2.2 z⟩
theorem MVD.lrc (a : MVD T T') (q : LRC T E W st dp ro sq cm) : LRC T' E W st dp ro sq cm := by
  have e21 : ∀ k, xI T' 21 k = xI T 21 k := fun k => a.1.I (by decide) k
  have e25 : xA T' 25 = xA T 25 := a.1.A (by decide)
  have e29 : xA T' 29 = xA T 29 := a.1.A (by decide)
  unfold LRC
  simp only [e21, e25, e29]
  exact q
theorem getD_app1 {l : List Nat} {x i : Nat} (hi : i < (l ++ [x]).length) : (l ++ [x]).getD i 0 = if i = l.length then x else l.getD i 0 := by
  rw [List.length_append] at hi
  simp only [List.length_cons, List.length_nil] at hi
  by_cases z : i = l.length
  · rw [if_pos z, z, List.getD_eq_getElem?_getD, List.getElem?_append_right (Nat.le_refl _), Nat.sub_self]
    rfl
  · rw [if_neg z, List.getD_eq_getElem?_getD, List.getD_eq_getElem?_getD, List.getElem?_append_left (by omega)]
theorem x_emit {Q : XS → Prop} (q : LRC T E W st dp ro sq cm) (hE : E.length < 900) {x : Nat} (hq : ∀ T', LFS T T' → LRC T' (E ++ [x]) W st dp ro sq cm → xA T' 29 = xA T 29 → Q T') : XV c d m_Lr_emit [.ref 21, .int (nI x)] T Q := by
  obtain ⟨⟨a1, a2, a3⟩, b, r⟩ := q
  refine wx_Lr_emit _ ?_
  rw [a1]
  refine ⟨fun z => absurd ((nI_leI (a := 900) (by decide) (by omega)).mp z) (by omega), fun _ => ⟨okn hE (by decide), ?_⟩⟩
  rw [ix_nI (by omega), nI_1]
  refine hq _ ((LFS.rf.a (Or.inl rfl) _ _).pi _ _) ⟨⟨?_, ?_, fun i hi => ?_⟩, b, r⟩ rfl
  · rw [xI_at, List.length_append]; rfl
  · rw [List.length_append]; exact hE
  · show xA (tA T 25 E.length (nI x)) 25 i = _
    rw [xA_A, if_pos rfl, getD_app1 hi]
    show (if i = E.length then nI x else xA T 25 i) = _
    split
    · rfl
    · rw [List.length_append] at hi
      simp only [List.length_cons, List.length_nil] at hi
      exact a3 i (by omega)
theorem x_push {Q : XS → Prop} (q : LRC T E W st dp ro sq cm) (hW : W.length < 64) {x : Nat} (hq : ∀ T', LFS T T' → LRC T' E (x :: W) st dp ro sq cm → Q T') : XV c d m_Lr_push [.ref 21, .int (nI x)] T Q := by
  obtain ⟨a, ⟨b1, b2, b3⟩, r⟩ := q
  refine wx_Lr_push _ ?_
  rw [b1]
  refine ⟨fun z => absurd ((nI_leI (a := 64) (by decide) (by omega)).mp z) (by omega), fun _ => ⟨okn hW (by decide), ?_⟩⟩
  rw [ix_nI (by omega), nI_1]
  refine hq _ ((LFS.rf.a (Or.inr rfl) _ _).pi _ _) ⟨a, ⟨xI_at _ _ _ _, hW, fun i hi => ?_⟩, r⟩
  show xA (tA T 29 W.length (nI x)) 29 i = _
  have hi' : i < (W.reverse ++ [x]).length := by rw [List.length_append, List.length_reverse]; exact hi
  rw [xA_A, if_pos rfl, List.reverse_cons, getD_app1 hi', List.length_reverse]
  show (if i = W.length then nI x else xA T 29 i) = _
  split
  · rfl
  · rw [List.length_cons] at hi
    exact b3 i (by omega)
theorem top_get {x : Nat} (q : LRC T E (x :: W) st dp ro sq cm) : xI T 21 3 - 1 = nI W.length ∧ xA T 29 W.length = nI x := by
  obtain ⟨a, ⟨b1, b2, b3⟩, r⟩ := q
  refine ⟨?_, ?_⟩
  · rw [b1, List.length_cons]
    exact nI_sub (b := 1) (by omega)
  · rw [b3 W.length (by rw [List.length_cons]; omega), List.reverse_cons, getD_app1 (by rw [List.length_append, List.length_reverse]; exact Nat.lt_succ_self _), if_pos (List.length_reverse).symm]
/-- one is taken from the waiting -/
theorem LRC.pop {x : Nat} (q : LRC T E (x :: W) st dp ro sq cm) : LRC (tI T 21 3 (nI W.length)) E W st dp ro sq cm := by
  obtain ⟨a, ⟨b1, b2, b3⟩, r⟩ := q
  rw [List.length_cons] at b2
  refine ⟨a, ⟨xI_at _ _ _ _, by omega, fun i hi => ?_⟩, r⟩
  show xA T 29 i = _
  rw [b3 i (by rw [List.length_cons]; omega), List.reverse_cons, getD_app1 (by rw [List.length_append, List.length_reverse]; exact Nat.lt_succ_of_lt hi), if_neg (by rw [List.length_reverse]; omega)]
theorem x_unwind {Q : XS → Prop} {kk : Nat} (hk6 : kk ≤ 6) : ∀ (Pd : List Nat) (E : List Nat) (T : XS), LRC T E (Pd ++ W0) st (dp + nts Pd) ro sq cm → dp + nts Pd < 100 → (∀ x ∈ Pd, x < 40 ∧ kk ≤ sgN x) → (∀ y l, W0 = y :: l → y < 40 ∧ sgN y < kk) → E.length + Pd.length ≤ 900 → (∀ T', LFS T T' → LRC T' (E ++ cdm Pd) W0 st dp ro sq cm → Q T') → eX c (d + 1) m_Lr_unwind 0 [some (.ref 21), some (.int (nI kk))] T (yV c Q)
  | [], E, T, q, hdp, hP, hW, hE, hq => by
    have q : LRC T E W0 st dp ro sq cm := q
    refine wx_Lr_unwind_0 _ ?_
    match W0, q, hW, hq with
    | [], q, hW, hq =>
      rw [q.2.1.1]
      refine ⟨fun _ => hq T LFS.rf (by rw [cdm, List.map_nil, List.append_nil]; exact q), fun z => absurd (by decide) z⟩
    | y :: l, q, hW, hq =>
      obtain ⟨t1, t2⟩ := top_get q
      have l64 := q.2.1.2.1
      rw [List.length_cons] at l64
      obtain ⟨y1, y2⟩ := hW y l rfl
      obtain ⟨s1, s2⟩ := sgN_i y y1
      rw [t1, ix_nI (by omega), t2, s1, q.2.1.1, List.length_cons]
      refine ⟨fun z => absurd ((nI_leI (b := 0) (by omega) (by decide)).mp z) (by omega), fun _ => ⟨okn (by omega) (by decide), fun _ => hq T LFS.rf (by rw [cdm, List.map_nil, List.append_nil]; exact q), fun z => absurd ((nI_ltI (by omega) (by omega)).mpr y2) z⟩⟩
  | x :: Pd, E, T, q, hdp, hP, hW, hE, hq => by
    have q : LRC T E (x :: (Pd ++ W0)) st (dp + nts (x :: Pd)) ro sq cm := q
    obtain ⟨t1, t2⟩ := top_get q
    have l64 := q.2.1.2.1
    rw [List.length_cons] at l64
    obtain ⟨x1, x2⟩ := hP x (List.mem_cons_self ..)
    obtain ⟨s1, s2⟩ := sgN_i x x1
    rw [List.length_cons] at hE
    refine wx_Lr_unwind_0 _ ?_
    rw [t1, ix_nI (by omega), t2, s1, q.2.1.1, List.length_cons]
    refine ⟨fun z => absurd ((nI_leI (b := 0) (by omega) (by decide)).mp z) (by omega), fun _ => ⟨okn (by omega) (by decide), fun z => absurd ((nI_ltI (by omega) (by omega)).mp z) (by omega), fun _ => ⟨okn (by omega) (by decide), ?_⟩⟩⟩
    rw [show (1000 : Int32) + nI x = nI (1000 + x) from nI_add 1000 x]
    refine x_emit q.pop (by omega) (fun T2 f2 q2 e29 => ?_)
    have k29 : xA T2 29 (Pd ++ W0).length = nI x := by rw [e29]; exact t2
    have f2 : LFS T T2 := (LFS.rf.pi _ _).tr f2
    rw [q2.2.1.1, ix_nI (by omega), k29, show (nI x = (16 : Int32)) = (x = 16) from propext (nI_inj (b := 16) (by omega) (by decide))]
    have hP' : ∀ z ∈ Pd, z < 40 ∧ kk ≤ sgN z := fun z hz => hP z (List.mem_cons_of_mem _ hz)
    have ea : E ++ [1000 + x] ++ cdm Pd = E ++ cdm (x :: Pd) := by
      rw [List.append_assoc]
      rfl
    have el : (E ++ [1000 + x]).length + Pd.length ≤ 900 := by
      rw [List.length_append]
      simp only [List.length_cons, List.length_nil]
      omega
    refine ⟨okn (by omega) (by decide), fun z => ?_, fun z => ?_⟩
    · have en : nts (x :: Pd) = nts Pd := by
        unfold nts
        rw [List.filter_cons, if_neg (by rw [decide_eq_true_eq]; exact z)]
      rw [en] at q2 hdp
      exact x_unwind hk6 Pd _ T2 q2 hdp hP' hW el (fun T3 f3 q3 => hq T3 (f2.tr f3) (by rw [← ea]; exact q3))
    · have en : nts (x :: Pd) = nts Pd + 1 := by
        unfold nts
        rw [List.filter_cons, if_pos (by rw [decide_eq_true_eq]; exact z)]
        rfl
      rw [en] at q2 hdp
      have q3 : LRC (tI T2 21 5 (xI T2 21 5 - 1)) (E ++ [1000 + x]) (Pd ++ W0) st (dp + nts Pd) ro sq cm := by
        obtain ⟨a, b, r4, r5, r6, r7, r8⟩ := q2
        refine ⟨a, b, r4, ?_, r6, r7, r8⟩
        rw [xI_at, r5, show nI (dp + (nts Pd + 1)) - 1 = nI (dp + (nts Pd + 1) - 1) from nI_sub (b := 1) (by omega)]
        rfl
      exact x_unwind hk6 Pd _ _ q3 (by omega) hP' hW el (fun T3 f3 q3 => hq T3 ((f2.pi _ _).tr f3) (by rw [← ea]; exact q3))
end LX1
