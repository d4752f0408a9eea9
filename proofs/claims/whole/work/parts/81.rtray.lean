/-! trays of the reference -/
theorem sh_k {k i : Nat} (y : BitVec 64) (hk : 0 < k) (hk2 : k ≤ 64) (hi : i < 64) : ((y <<< (64 - k)).sshiftRight (64 - k)).getLsbD i = y.getLsbD (if i < k then i else k - 1) := by
  rw [BitVec.getLsbD_sshiftRight, BitVec.msb_eq_getLsbD_last, BitVec.getLsbD_shiftLeft, BitVec.getLsbD_shiftLeft]
  by_cases z : i < k
  · rw [if_pos z, if_pos (by omega), show 64 - k + i - (64 - k) = i by omega]
    simp only [show decide (64 ≤ i) = false from decide_eq_false (by omega), show decide (64 - k + i < 64) = true from decide_eq_true (by omega), show decide (64 - k + i < 64 - k) = false from decide_eq_false (by omega), Bool.not_false, Bool.true_and]
  · rw [if_neg z, if_neg (by omega), show 64 - 1 - (64 - k) = k - 1 by omega]
    simp only [show decide (64 ≤ i) = false from decide_eq_false (by omega), show decide (64 - 1 < 64) = true from decide_eq_true (by omega), show decide (64 - 1 < 64 - k) = false from decide_eq_false (by omega), Bool.not_false, Bool.true_and]
theorem sx_k {w v i : Nat} (y : BitVec w) (hi : i < v) (hw : 0 < w) : (y.signExtend v).getLsbD i = y.getLsbD (if i < w then i else w - 1) := by
  rw [BitVec.getLsbD_signExtend, BitVec.msb_eq_getLsbD_last, decide_eq_true hi, Bool.true_and]
  split <;> rfl
theorem cut_8 (x : Int64) : (x <<< (56 : Int64)) >>> (56 : Int64) = x.toInt32.toInt8.toInt32.toInt64 := by
  refine Int64.toBitVec_inj.mp (BitVec.eq_of_getLsbD_eq (fun i hi => ?_))
  show ((x.toBitVec <<< (64 - 8)).sshiftRight (64 - 8)).getLsbD i = ((((x.toBitVec.signExtend 32).signExtend 8).signExtend 32).signExtend 64).getLsbD i
  rw [sh_k _ (by decide) (by decide) hi, sx_k _ hi (by decide), sx_k _ (by split <;> omega) (by decide), sx_k _ (by split <;> (split <;> omega)) (by decide), sx_k _ (by (repeat' split) <;> omega) (by decide)]
  congr 1
  repeat' split
  all_goals omega
theorem cut_16 (x : Int64) : (x <<< (48 : Int64)) >>> (48 : Int64) = x.toInt32.toInt16.toInt32.toInt64 := by
  refine Int64.toBitVec_inj.mp (BitVec.eq_of_getLsbD_eq (fun i hi => ?_))
  show ((x.toBitVec <<< (64 - 16)).sshiftRight (64 - 16)).getLsbD i = ((((x.toBitVec.signExtend 32).signExtend 16).signExtend 32).signExtend 64).getLsbD i
  rw [sh_k _ (by decide) (by decide) hi, sx_k _ hi (by decide), sx_k _ (by split <;> omega) (by decide), sx_k _ (by split <;> (split <;> omega)) (by decide), sx_k _ (by (repeat' split) <;> omega) (by decide)]
  congr 1
  repeat' split
  all_goals omega
theorem cut_32 (x : Int64) : (x <<< (32 : Int64)) >>> (32 : Int64) = x.toInt32.toInt64 := by
  refine Int64.toBitVec_inj.mp (BitVec.eq_of_getLsbD_eq (fun i hi => ?_))
  show ((x.toBitVec <<< (64 - 32)).sshiftRight (64 - 32)).getLsbD i = ((x.toBitVec.signExtend 32).signExtend 64).getLsbD i
  rw [sh_k _ (by decide) (by decide) hi, sx_k _ hi (by decide), sx_k _ (by split <;> omega) (by decide)]
  congr 1
  repeat' split
  all_goals omega
theorem cut_64 (x : Int64) : (x <<< (0 : Int64)) >>> (0 : Int64) = x := by
  refine Int64.toBitVec_inj.mp (BitVec.eq_of_getLsbD_eq (fun i hi => ?_))
  show ((x.toBitVec <<< (64 - 64)).sshiftRight (64 - 64)).getLsbD i = x.toBitVec.getLsbD i
  rw [sh_k _ (by decide) (by decide) hi, if_pos hi]
def shA (n : Nat) : Int64 := (64 - ((8 : Int32) <<< (nI n &&& 31))).toInt64 &&& 63
theorem cut_r (x : Int64) {n : Nat} (h : n ≤ 3) : (x <<< shA n) >>> shA n = cutL n x := by
  have : n = 0 ∨ n = 1 ∨ n = 2 ∨ n = 3 := by omega
  rcases this with rfl | rfl | rfl | rfl
  · rw [show shA 0 = 56 by decide]; exact cut_8 x
  · rw [show shA 1 = 48 by decide]; exact cut_16 x
  · rw [show shA 2 = 32 by decide]; exact cut_32 x
  · rw [show shA 3 = 0 by decide]; exact cut_64 x
/-- what a call on trays leaves -/
def RTD (s s' : RS) (t : Int32) (q : Nat → Option TY) : Prop := s'.1 4 = t ∧ (∀ k, k ≠ 4 → s'.1 k = s.1 k) ∧ (∀ i, i ≠ 15 → i ≠ 16 → s'.2.1 i = s.2.1 i) ∧ (∀ i, i ≠ 17 → s'.2.2 i = s.2.2 i) ∧ TRR s' q
section RT1
variable {c : CX} {d : Nat} {s s' : RS} {q : Nat → Option TY} {v : CV} {a : SD} {t : TY}
theorem s_trayFault {Q : Int32 → RS → Prop} (h : TRR s q) {g : Int32} (ok : ∀ i t, g = nI i → i < 4 → q i = some t → Q 0 s) (bad : ¬ (0 ≤ g.toInt ∧ g.toInt ≤ 3) → Q 1 s) (bad2 : ∀ i, g = nI i → i < 4 → q i = none → Q 2 s) : RI c (d + 2) m_R_trayFault [.ref 2, .int g] s Q := by
  refine w_R_trayFault _ (zq_R_isTray ?_)
  rw [wth_c.1, wth_c.2]
  refine ⟨fun z => ?_, bad⟩
  have z1 : 0 ≤ g.toInt := z.1
  have z2 : g.toInt ≤ 3 := z.2
  have eg : g = nI g.toInt.toNat := nI_of_toInt (by omega)
  have hi : g.toInt.toNat < 4 := by omega
  generalize g.toInt.toNat = i at *
  rw [eg, ix_nI (by omega)]
  refine ⟨okn hi (by decide), ?_⟩
  rcases h i hi with w | ⟨t, w1, w2, w3, w4, w5⟩
  · rw [w.2]
    exact ⟨fun y => absurd rfl y, fun _ => bad2 i eg hi w.1⟩
  · have := w4.1
    rw [w2]
    exact ⟨fun _ => ok i t eg hi w1, fun y => absurd y ((by decide : ∀ k, k ≤ 3 → ¬ nI k = -1) t.1 this)⟩
theorem m30 {i j : Nat} : (30 * nI i) + nI j = nI (30 * i + j) := by rw [show (30 : Int32) * nI i = nI (30 * i) from nI_mul 30 i, nI_add]
theorem rL_ne (s : RS) {i i' j : Nat} (x : Int64) (h : i' ≠ i) : (rL s i j x).2.2 i' = s.2.2 i' := if_neg h
theorem s_cut {Q : Int64 → RS → Prop} (h : TRR s q) {i k : Nat} (hi : i < 4) (hq : q i = some t) (hk : k < 30) {x : Int64} (ok : ∀ s', s' = rL s 17 (30 * i + k) (cutL t.1 x) → TRR s' (updT q i (putT t k x)) → Q (cutL t.1 x) s') : RJ c d m_R_cut [.ref 2, .int (nI i), .int (nI k), .long x] s Q := by
  rcases h i hi with w | ⟨t', w1, w2, w3, w4, w5⟩
  · rw [hq] at w; cases w.1
  · have e : t' = t := by rw [hq] at w1; exact (Option.some.inj w1).symm
    subst e
    have eo : okx (nI (30 * i + k)) 120 := okn (by omega) (by decide)
    refine w_R_cut _ _ _ ?_
    rw [m30, ix_nI (by omega), ix_nI (by omega), w2, show (64 - ((8 : Int32) <<< (nI t'.1 &&& 31))).toInt64 &&& 63 = shA t'.1 from rfl, cut_r x w4.1]
    refine ⟨okn (by omega) (by decide), eo, eo, ?_⟩
    rw [rL_at, if_pos rfl]
    refine ok _ rfl (fun j hj => ?_)
    by_cases z : j = i
    · refine Or.inr ⟨putT t' k x, if_pos z, by rw [z]; exact w2, by rw [z]; exact w3, w4, fun p hp => ?_⟩
      rw [rL_at]
      show _ = if p = k then _ else _
      by_cases y : p = k
      · rw [if_pos (by omega), if_pos y]
      · rw [if_neg (by omega), if_neg y, z]; exact w5 p hp
    · rcases h j hj with y | ⟨t2, y1, y2, y3, y4, y5⟩
      · exact Or.inl ⟨(if_neg z).trans y.1, y.2⟩
      · refine Or.inr ⟨t2, (if_neg z).trans y1, y2, y3, y4, fun p hp => ?_⟩
        rw [rL_at, if_neg (by omega)]
        exact y5 p hp
theorem TRR.th (h : TRR s q) (k : Nat) (x : Int32) : TRR (rF s k x) q := h
theorem RTD.th (h : TRR s q) (t : Int32) : RTD s (rF s 4 t) t q := ⟨rfl, fun k hk => if_neg hk, fun _ _ _ => rfl, fun _ _ => rfl, h⟩
theorem RTD.th2 (h : TRR s q) (t u : Int32) : RTD s (rF (rF s 4 t) 4 u) u q := ⟨rfl, fun k hk => (if_neg hk).trans (if_neg hk), fun _ _ _ => rfl, fun _ _ => rfl, h⟩
theorem r_write {Q : Int64 → RS → Prop} (h : TRR s q) {g m : Int32} {x : Int64} (ok : ∀ i t k, g = nI i → i < 4 → q i = some t → m = nI k → k < t.2.1 → ∀ s', RTD s s' 0 (updT q i (putT t k x)) → Q (cutL t.1 x) s') (bad : ¬ (0 ≤ g.toInt ∧ g.toInt ≤ 3) → ∀ s', RTD s s' 1 q → Q 0 s') (bad2 : ∀ i, g = nI i → i < 4 → q i = none → ∀ s', RTD s s' 2 q → Q 0 s') (bad3 : ∀ i t, g = nI i → i < 4 → q i = some t → ¬ (0 ≤ m.toInt ∧ m.toInt < t.2.1) → ∀ s', RTD s s' 3 q → Q 0 s') : RJ c (d + 3) m_R_write [.ref 2, .int g, .int m, .long x] s Q := by
  refine w_R_write _ _ _ (s_trayFault h (fun i t eg hi ht => ⟨fun _ => ?_, fun z => absurd (by decide) z⟩) (fun z => ⟨fun y => absurd y (by decide), fun _ => bad z _ (RTD.th h _)⟩) (fun i eg hi ht => ⟨fun y => absurd y (by decide), fun _ => bad2 i eg hi ht _ (RTD.th h _)⟩))
  rcases h i hi with w | ⟨t', w1, w2, w3, w4, w5⟩
  · rw [ht] at w; cases w.1
  · have e : t' = t := by rw [ht] at w1; exact (Option.some.inj w1).symm
    subst e
    have h30 := w4.2
    have ok := ok i t'
    have bad3 := bad3 i t' eg hi ht
    rw [eg, ix_nI (by omega), w3]
    have e1 : ((nI t'.2.1 - 1).toInt64).toInt = (t'.2.1 : Int) - 1 := (by decide : ∀ k, k ≤ 30 → ((nI k - 1).toInt64).toInt = (k : Int) - 1) t'.2.1 h30
    refine ⟨okn (by omega) (by decide), fun z => ?_, fun z => ?_⟩
    · rw [wth_f, e1, i64_toInt, show ((0 : Int64).toInt : Int) = 0 from rfl] at z
      exact bad3 (by omega) _ (RTD.th2 h _ _)
    · rw [wth_t, e1, i64_toInt, show ((0 : Int64).toInt : Int) = 0 from rfl] at z
      have em : m = nI m.toInt.toNat := nI_of_toInt (by omega)
      have hk : m.toInt.toNat < t'.2.1 := by omega
      have ok := ok _ eg hi ht em hk
      generalize m.toInt.toNat = k at *
      rw [em]
      refine s_cut (s := rF s 4 0) h hi ht (by omega) (fun s' es hs => ok s' ?_)
      subst es
      exact ⟨rfl, fun k hk => if_neg hk, fun _ _ _ => rfl, fun j hj => rL_ne _ _ hj, hs⟩
theorem r_copy {Q : Int32 → RS → Prop} (h : TRR s q) (hk : KR s v a) {g : Int32} (ok : ∀ i t, g = nI i → i < 4 → q i = some t → ∀ s', RTD s s' 0 (updT q i (cpyT t a.1 (min t.2.1 (vG v)))) → Q (nI (min t.2.1 (vG v))) s') (bad : ¬ (0 ≤ g.toInt ∧ g.toInt ≤ 3) → ∀ s', RTD s s' 1 q → Q 0 s') (bad2 : ∀ i, g = nI i → i < 4 → q i = none → ∀ s', RTD s s' 2 q → Q 0 s') : RI c (d + 3) m_R_copy [.ref 2, .int g] s Q := by
  have hG := hk.2.2.1.1
  refine w_R_copy _ (s_trayFault h (fun i t eg hi ht => ⟨fun _ => ?_, fun z => absurd (by decide) z⟩) (fun z => ⟨fun y => absurd y (by decide), fun _ => bad z _ (RTD.th h _)⟩) (fun i eg hi ht => ⟨fun y => absurd y (by decide), fun _ => bad2 i eg hi ht _ (RTD.th h _)⟩))
  rcases h i hi with w | ⟨t', w1, w2, w3, w4, w5⟩
  · rw [ht] at w; cases w.1
  have e : t' = t := by rw [ht] at w1; exact (Option.some.inj w1).symm
  subst e
  have h30 := w4.2
  have ok := ok i t' eg hi ht
  rw [eg, ix_nI (by omega), w3, hk.1.2.1, mnI_nI (by omega) (by omega)]
  refine ⟨okn (by omega) (by decide), ?_⟩
  have hn : min t'.2.1 (vG v) ≤ t'.2.1 ∧ min t'.2.1 (vG v) ≤ vG v := by omega
  generalize min t'.2.1 (vG v) = n at *
  suffices H : ∀ (m k : Nat) (s1 : RS), k + m = n → RTD s s1 0 (updT q i (cpyT t' a.1 k)) → eR c (d + 3) m_R_copy 34 [some (.ref 2), some (.int (nI i)), some (.int (nI n)), some (.int (nI k))] s1 (pI c Q) by
    refine H n 0 (rF s 4 0) (by omega) ?_
    have : updT q i t' = q := by
      funext j
      unfold updT
      split
      · rename_i z; rw [z, ht]
      · rfl
    rw [show cpyT t' a.1 0 = t' from rfl, this]
    exact RTD.th h _
  intro m
  induction m with
  | zero =>
    intro k s1 hkm hs
    rw [show k = n by omega] at hs ⊢
    exact w_R_copy_34 _ _ _ ⟨fun _ => ok s1 hs, fun z => absurd ((nI_leI (by omega) (by omega)).mpr (Nat.le_refl _)) z⟩
  | succ m ih =>
    intro k s1 hkm hs
    have hw : s1.2.1 1 (ix (6 + nI k)) = oI (a.1 k) := by rw [hs.2.2.1 1 (by decide) (by decide)]; exact hk.wh (by omega)
    have go : ∀ s2, s2 = rL s1 17 (30 * i + k) (cutL (cpyT t' a.1 k).1 (spL (a.1 k))) → TRR s2 (updT (updT q i (cpyT t' a.1 k)) i (putT (cpyT t' a.1 k) k (spL (a.1 k)))) → eR c (d + 3) m_R_copy 34 [some (.ref 2), some (.int (nI i)), some (.int (nI n)), some (.int (nI k + 1))] s2 (pI c Q) := fun s2 es h3 => by
      rw [nI_1]
      rw [updT_2] at h3
      subst es
      exact ih (k + 1) _ (by omega) ⟨hs.1, hs.2.1, hs.2.2.1, fun j hj => (rL_ne _ _ hj).trans (hs.2.2.2.1 j hj), h3⟩
    refine w_R_copy_34 _ _ _ ⟨fun z => absurd ((nI_leI (by omega) (by omega)).mp z) (by omega), fun _ => ⟨okm (by omega), ?_⟩⟩
    rw [hw, hk.wn]
    refine ⟨fun z => ⟨okm (by omega), ?_⟩, fun z => ?_⟩
    · refine s_cut hs.2.2.2.2 hi (updT_at _ _ _) (by omega) (fun s2 es h3 => go s2 ?_ ?_)
      · rw [show spL (a.1 k) = (oI (a.1 k)).toInt64 from if_neg z]; exact es
      · rw [show spL (a.1 k) = (oI (a.1 k)).toInt64 from if_neg z]; exact h3
    · refine s_cut hs.2.2.2.2 hi (updT_at _ _ _) (by omega) (fun s2 es h3 => go s2 ?_ ?_)
      · rw [show spL (a.1 k) = 99 from if_pos z]; exact es
      · rw [show spL (a.1 k) = 99 from if_pos z]; exact h3
theorem r_tray {Q : RS → Prop} (h : TRR s q) {g so m : Int32} (ok : ∀ i u n, g = nI i → i < 4 → so = nI u → u ≤ 3 → m = nI n → n ≤ 30 → ∀ s', RTD s s' 0 (updT q i (u, n, fun _ => 0)) → Q s') (bad : ¬ (0 ≤ g.toInt ∧ g.toInt ≤ 3) → ∀ s', RTD s s' 1 q → Q s') (bad2 : 0 ≤ g.toInt ∧ g.toInt ≤ 3 → ¬ ((0 ≤ so.toInt ∧ so.toInt ≤ 3) ∧ (0 ≤ m.toInt ∧ m.toInt ≤ 30)) → ∀ s', RTD s s' 2 q → Q s') : RV c (d + 2) m_R_tray [.ref 2, .int g, .int so, .int m] s Q := by
  refine w_R_tray _ _ _ ?_
  simp only [wth_c.1, wth_c.2]
  refine ⟨fun z => ⟨fun y => bad2 z (fun w => y w.1) _ (RTD.th h _), fun y => ⟨fun w => ?_, fun w => bad2 z (fun w2 => w w2.2) _ (RTD.th h _)⟩⟩, fun z => bad z _ (RTD.th h _)⟩
  have z1 : 0 ≤ g.toInt := z.1
  have z2 : g.toInt ≤ 3 := z.2
  have y1 : 0 ≤ so.toInt := y.1
  have y2 : so.toInt ≤ 3 := y.2
  have w1 : 0 ≤ m.toInt := w.1
  have w2 : m.toInt ≤ 30 := w.2
  have eg : g = nI g.toInt.toNat := nI_of_toInt (by omega)
  have es : so = nI so.toInt.toNat := nI_of_toInt (by omega)
  have em : m = nI m.toInt.toNat := nI_of_toInt (by omega)
  have hi : g.toInt.toNat < 4 := by omega
  have hs : so.toInt.toNat ≤ 3 := by omega
  have hm : m.toInt.toNat ≤ 30 := by omega
  have ok := ok _ _ _ eg hi es hs em hm
  generalize g.toInt.toNat = i at *
  generalize so.toInt.toNat = u at *
  generalize m.toInt.toNat = n at *
  rw [eg, es, em, ix_nI (by omega)]
  refine ⟨okn hi (by decide), okn hi (by decide), ?_⟩
  have a15 : ∀ j, (rA (rA (rF s 4 0) 15 i (nI u)) 16 i (nI n)).2.1 15 j = if j = i then nI u else s.2.1 15 j := fun j => rfl
  have a16 : ∀ j, (rA (rA (rF s 4 0) 15 i (nI u)) 16 i (nI n)).2.1 16 j = if j = i then nI n else s.2.1 16 j := fun j => rfl
  have b1 : ∀ j, j ≠ 15 → j ≠ 16 → (rA (rA (rF s 4 0) 15 i (nI u)) 16 i (nI n)).2.1 j = s.2.1 j := fun j h1 h2 => (if_neg h2).trans (if_neg h1)
  have b2 : (rA (rA (rF s 4 0) 15 i (nI u)) 16 i (nI n)).2.2 = s.2.2 := rfl
  have b3 : (rA (rA (rF s 4 0) 15 i (nI u)) 16 i (nI n)).1 = (rF s 4 0).1 := rfl
  generalize rA (rA (rF s 4 0) 15 i (nI u)) 16 i (nI n) = s1 at *
  suffices H : ∀ (p k : Nat) (s2 : RS), k + p = 30 → s2.1 = s1.1 → s2.2.1 = s1.2.1 → (∀ j, j ≠ 17 → s2.2.2 j = s1.2.2 j) → (∀ j, s2.2.2 17 j = if 30 * i ≤ j ∧ j < 30 * i + k then 0 else s1.2.2 17 j) → eR c (d + 2) m_R_tray 69 [some (.ref 2), some (.int (nI i)), some (.int (nI u)), some (.int (nI n)), some (.int (nI k))] s2 (pV c Q) from H 30 0 s1 (by omega) rfl rfl (fun _ _ => rfl) (fun j => (if_neg (by omega)).symm)
  intro p
  induction p with
  | zero =>
    intro k s2 hk h1 h2 h3 h4
    refine w_R_tray_69 _ _ _ _ ⟨fun _ => ok s2 ⟨by rw [h1, b3]; rfl, fun j hj => by rw [h1, b3]; exact if_neg hj, fun j j1 j2 => by rw [h2]; exact b1 j j1 j2, fun j hj => by rw [h3 j hj, b2], fun j hj => ?_⟩, fun z => absurd ((nI_leI (a := 30) (by decide) (by omega)).mpr (by omega)) z⟩
    by_cases z : j = i
    · refine Or.inr ⟨_, if_pos z, by rw [h2, a15, if_pos z], by rw [h2, a16, if_pos z], ⟨hs, hm⟩, fun r hr => ?_⟩
      rw [h4, if_pos (by omega)]
    · rcases h j hj with y | ⟨t2, y1, y2, y3, y4, y5⟩
      · exact Or.inl ⟨(if_neg z).trans y.1, by rw [h2, a15, if_neg z]; exact y.2⟩
      · refine Or.inr ⟨t2, (if_neg z).trans y1, by rw [h2, a15, if_neg z]; exact y2, by rw [h2, a16, if_neg z]; exact y3, y4, fun r hr => ?_⟩
        rw [h4, if_neg (by omega), b2]
        exact y5 r hr
  | succ p ih =>
    intro k s2 hk h1 h2 h3 h4
    refine w_R_tray_69 _ _ _ _ ⟨fun z => absurd ((nI_leI (a := 30) (by decide) (by omega)).mp z) (by omega), fun _ => ?_⟩
    rw [m30, ix_nI (by omega), nI_1]
    refine ⟨okn (by omega) (by decide), ih (k + 1) _ (by omega) h1 h2 (fun j hj => (rL_ne _ _ hj).trans (h3 j hj)) (fun j => ?_)⟩
    rw [rL_at, h4]
    by_cases z : j = 30 * i + k
    · rw [if_pos z, if_pos (by omega)]
    · rw [if_neg z]
      by_cases y : 30 * i ≤ j ∧ j < 30 * i + k
      · rw [if_pos y, if_pos (by omega)]
      · rw [if_neg y, if_neg (by omega)]
end RT1
