/-! trays of the class -/
/-- cells of trays -/
def tyC (T : XS) (y : Nat) : Prop := y = 113 ∨ ∃ b, TyS T b ∧ b % 4 = 3 ∧ (y = b ∨ y = b + 4)
/-- what a call on trays leaves -/
def TD (T T' : XS) (q : Nat → Option TY) : Prop := grw (tyC T) T T' ∧ gw 2 40 T T' ∧ TRX T' q
def spL (o : Option Nat) : Int64 := if o = none then 99 else (oI o).toInt64
def cpyT (t : TY) (w : Nat → Option Nat) : Nat → TY
  | 0 => t
  | n + 1 => putT (cpyT t w n) n (spL (w n))
theorem cpyT_1 (t : TY) (w : Nat → Option Nat) : ∀ n, (cpyT t w n).1 = t.1 ∧ (cpyT t w n).2.1 = t.2.1
  | 0 => ⟨rfl, rfl⟩
  | n + 1 => cpyT_1 t w n
theorem updT_2 (q : Nat → Option TY) (i : Nat) (t t' : TY) : updT (updT q i t) i t' = updT q i t' := by
  funext j
  unfold updT
  split <;> rfl
theorem updT_at (q : Nat → Option TY) (i : Nat) (t : TY) : updT q i t i = some t := if_pos rfl
section TX2
variable {c : CX} {d : Nat} {T T' : XS} {b ca : Nat} {t : TY} {q : Nat → Option TY} {v : CV} {sd : SD}
theorem x_fillL {Q : XS → Prop} {a n : Nat} {x : Int64} (h : ar T a 22 n) (hn : n < 2 ^ 31) (hq : ∀ T', frm (fun b => b = a) T T' → (∀ j, j < n → xL T' a j = x) → Q T') : XV c d m_JA_fill_2 [.ref a, .long x] T Q := by
  refine wx_JA_fill_2 _ n _ ⟨h, ?_⟩
  suffices H : ∀ (m k : Nat) (T1 : XS), k + m = n → frm (fun b => b = a) T T1 → (∀ j, j < k → xL T1 a j = x) → eX c d m_JA_fill_2 6 [some (.ref a), some (.long x), none, some (.int (nI k)), some (.int (nI n))] T1 (yV c Q) from H n 0 T (by omega) frm.rf (fun j hj => by omega)
  intro m
  induction m with
  | zero =>
    intro k T1 hk hf hx
    exact wx_JA_fill_2_6 _ n _ _ _ ⟨fun _ => hq T1 hf (fun j hj => hx j (by omega)), fun z => absurd ((nI_leI (by omega) (by omega)).mpr (by omega)) z⟩
  | succ m ih =>
    intro k T1 hk hf hx
    refine wx_JA_fill_2_6 _ n _ _ _ ⟨fun z => absurd ((nI_leI (by omega) (by omega)).mp z) (by omega), fun _ => ⟨hf.r h, okn (by omega) hn, ?_⟩⟩
    rw [nI_1, ix_nI (by omega)]
    refine ih (k + 1) _ (by omega) (hf.tr (frm_L (S := fun b => b = a) (a := a) rfl _ _)) (fun j hj => ?_)
    rw [xL_L, if_pos rfl]
    show (if j = k then x else xL T1 a j) = x
    split
    · rfl
    · exact hx j (by omega)
theorem x_lay {Q : XS → Prop} (h : TyS T b) (h3 : b % 4 = 3) {so m : Nat} (hs : so ≤ 3) (hm : m ≤ 30) (hq : ∀ T', frm (fun y => y = b ∨ y = b + 4) T T' → TRY1 T' b (so, m, fun _ => 0) → Q T') : XV c (d + 1) m_Ty_lay [.ref b, .int (nI so), .int (nI m)] T Q := by
  have e1 : mnI 30 (nI m) = nI m := by
    unfold mnI
    split
    · rfl
    · rename_i z
      have : ¬ m < 30 := fun y => z ((nI_ltI (b := 30) (by omega) (by decide)).mpr y)
      rw [show m = 30 by omega]
      rfl
  have e2 : mxI 0 (nI m) = nI m := by
    unfold mxI
    split
    · rfl
    · rename_i z
      have : ¬ 0 < m := fun y => z ((nI_ltI (a := 0) (by decide) (by omega)).mpr y)
      rw [show m = 0 by omega]
      rfl
  refine wx_Ty_lay _ _ _ ⟨h, ?_⟩
  rw [e1, e2]
  have f1 : frm (fun y => y = b ∨ y = b + 4) T (tI T b 1 (nI so)) := frm_I (Or.inl rfl) _ _
  have f2 : frm (fun y => y = b ∨ y = b + 4) (tI T b 1 (nI so)) (tI (tI T b 1 (nI so)) b 2 (nI m)) := frm_I (Or.inl rfl) _ _
  have i1 : xI (tI (tI T b 1 (nI so)) b 2 (nI m)) b 1 = nI so := (if_neg (fun e => by cases e.2)).trans (if_pos ⟨rfl, rfl⟩)
  have i2 : xI (tI (tI T b 1 (nI so)) b 2 (nI m)) b 2 = nI m := if_pos ⟨rfl, rfl⟩
  have f := f1.tr f2
  have z0 : frx (tI (tI T b 1 (nI so)) b 2 (nI m)) b 0 = some (b + 4) := h.fz
  generalize tI (tI T b 1 (nI so)) b 2 (nI m) = T1 at *
  refine x_fillL (f.r h.az) (by decide) (fun T2 hf hx => hq T2 (f.tr (hf.mono (fun y hy => Or.inr hy))) ⟨⟨hf.o (f.o h.1), ?_, hf.r (f.r h.az)⟩, h3, ?_, ?_, ⟨hs, hm⟩, hx⟩)
  · rw [hf.fx (Or.inr (by omega))]; exact z0
  · rw [hf.I (by omega)]; exact i1
  · rw [hf.I (by omega)]; exact i2
/-- a tray made -/
theorem x_Ty_init {Q : XS → Prop} (hR : RL c) {T0 : XS} (hq : ∀ T', grw noc T0 T' → (xn T' = xn T0 + 2 ∧ xk T' = xk T0 + 33) → TyS T' (4 * xn T0 + 3) → Q T') : XV c d m_Ty_init [.ref (4 * xn T0 + 3)] (tN T0 11 0 3) Q := by
  have o1 := new_ob T0 11 0 3
  have g1 : grw noc T0 (tN T0 11 0 3) := grw.rf.N 11 0 3
  have n1 : xn (tN T0 11 0 3) = xn T0 + 1 ∧ xk (tN T0 11 0 3) = xk T0 + 3 := ⟨rfl, rfl⟩
  have hnew : ¬ old T0 (4 * xn T0 + 3) := fun q => by have := q (by omega); omega
  have h3 : (4 * xn T0 + 3) % 4 = 3 := by omega
  generalize ea : 4 * xn T0 + 3 = a at *
  generalize tN T0 11 0 3 = T1 at *
  refine ⟨q_Ty_init, rfl, Nat.le_of_ble_eq_true rfl, ?_⟩
  refine ev_ex 1 (c' := (1, [some (.ref a)], [.ref a], hX c T1)) rfl ?_
  refine ev_obj rfl rfl (Nat.le_of_ble_eq_true rfl) ?_
  refine ev_ex 2 (c' := (7, [some (.ref a)], [.int 30, .ref a], hX c T1)) rfl ?_
  refine xe_nal (n := 30) hR rfl (by decide) ?_
  have e1 : 4 * xn T1 + 3 = a + 4 := by omega
  rw [e1]
  refine xe_pr (ci := 11) (k := 0) (x := some (a + 4)) rfl rfl ((grw.rf.N 22 30 30).o (S := noc) o1) ⟨by decide, by decide⟩ (Nat.le_of_ble_eq_true rfl) (fr_11_0 _ _ _ (frx_put (Or.inl h3))) ?_
  have g2 : grw noc T0 (tR (tN T1 22 30 30) a 0 (some (a + 4))) := (g1.N 22 30 30).R hnew _ _
  have o2 : ob (tR (tN T1 22 30 30) a 0 (some (a + 4))) a 11 := (grw.rf.N 22 30 30).o (S := noc) o1
  have n2 : xn (tR (tN T1 22 30 30) a 0 (some (a + 4))) = xn T1 + 1 ∧ xk (tR (tN T1 22 30 30) a 0 (some (a + 4))) = xk T1 + 30 := ⟨rfl, rfl⟩
  have f1 : frx (tR (tN T1 22 30 30) a 0 (some (a + 4))) a 0 = some (a + 4) := frx_put (Or.inl h3)
  have w1 : ar (tR (tN T1 22 30 30) a 0 (some (a + 4))) (a + 4) 22 30 := by rw [← e1]; exact new_ar T1 22 30 30
  generalize tR (tN T1 22 30 30) a 0 (some (a + 4)) = T2 at *
  exact ev_ret rfl rfl rfl ⟨_, rfl, rfl, hq T2 g2 (by omega) ⟨o2, f1, w1⟩⟩
theorem ty_frm {S : Nat → Prop} (h : grw S T T') (hn : TyS T' b) (hb : b % 4 = 3) {T'' : XS} (hf : frm (fun y => y = b ∨ y = b + 4) T' T'') (ho : TyS T b ∨ ¬ old T b) (hS : ∀ y, S y → tyC T y) : grw (tyC T) T T'' := by
  refine (h.mono hS).fr hf (fun y hy e => ?_)
  rcases ho with ho | ho
  · exact Or.inr ⟨b, ho, hb, e⟩
  · exfalso
    have : ¬ b / 4 < xn T := fun z => ho (fun _ => z)
    have : y % 4 = 3 → y / 4 < xn T := hy
    omega
set_option maxRecDepth 8000 in
theorem x_tray {Q : XS → Prop} {E : Nat → XS → Prop} (hR : RL c) (h : TRX T q) {g so m : Int32} (ok : ∀ i s n, g = nI i → i < 4 → so = nI s → s ≤ 3 → m = nI n → n ≤ 30 → ∀ T', TD T T' (updT q i (s, n, fun _ => 0)) → Q T') (bad : ¬ (0 ≤ g.toInt ∧ g.toInt ≤ 3) → E 2 (tN T 0 0 6)) (bad2 : 0 ≤ g.toInt ∧ g.toInt ≤ 3 → ¬ ((0 ≤ so.toInt ∧ so.toInt ≤ 3) ∧ (0 ≤ m.toInt ∧ m.toInt ≤ 30)) → E 1 (tN T 0 0 6)) : XVt c (d + 2) m_X_tray [.ref 1, .int g, .int so, .int m] T Q E := by
  have e0 : ((0 : Int32).toInt : Int) = 0 := rfl
  have e4 : ((4 : Int32).toInt : Int) = 4 := rfl
  have e3 : ((3 : Int32).toInt : Int) = 3 := rfl
  have e30 : ((30 : Int32).toInt : Int) = 30 := rfl
  refine ⟨q_X_tray, rfl, Nat.le_of_ble_eq_true rfl, ?_⟩
  refine ev_ex 1 (c' := (1, [some (.ref 1), some (.int g), some (.int so), some (.int m), none], [.int g], hX c T)) rfl ?_
  refine ev_if_lt (tgt := 9) rfl rfl (fun z => ?_) (fun z => ?_)
  · rw [fa_lt] at z
    exact xe_thr hR rfl rfl (Nat.le_of_ble_eq_true rfl) (Or.inr ⟨_, _, rfl, rfl, bad (by omega)⟩)
  rw [fa_lt] at z
  refine ev_ex 2 (c' := (6, [some (.ref 1), some (.int g), some (.int so), some (.int m), none], [.int 4, .int g], hX c T)) rfl ?_
  refine ev_icmp_lt (tgt := 20) rfl rfl (fun z2 => ?_) (fun z2 => xe_thr hR rfl rfl (Nat.le_of_ble_eq_true rfl) (Or.inr ⟨_, _, rfl, rfl, bad (by rw [fa_lt] at z2; omega)⟩))
  rw [fa_lt] at z2
  refine ev_ex 3 (c' := (23, [some (.ref 1), some (.int g), some (.int so), some (.int m), none], [.int 3, .int 0, .int so], hX c T)) rfl ?_
  refine xt_V (idx := 113) rfl rfl rfl (Nat.le_of_ble_eq_true rfl) (Nat.le_of_ble_eq_true rfl) rfl rfl rfl rfl rfl (by decide) (x_needWithin (n := so) (lo := 0) (hi := 3) (Q := fun T1 => T1 = T ∧ 0 ≤ so.toInt ∧ so.toInt ≤ 3) hR (fun z3 z4 => ⟨rfl, z3, z4⟩) (fun z3 => bad2 (by omega) (fun y => z3 y.1))) (fun T1 H => ?_)
  obtain ⟨rfl, s1, s2⟩ := H
  refine ev_ex 3 (c' := (30, [some (.ref 1), some (.int g), some (.int so), some (.int m), none], [.int 30, .int 0, .int m], hX c T1)) rfl ?_
  refine xt_V (idx := 113) rfl rfl rfl (Nat.le_of_ble_eq_true rfl) (Nat.le_of_ble_eq_true rfl) rfl rfl rfl rfl rfl (by decide) (x_needWithin (n := m) (lo := 0) (hi := 30) (Q := fun T2 => T2 = T1 ∧ 0 ≤ m.toInt ∧ m.toInt ≤ 30) hR (fun z3 z4 => ⟨rfl, z3, z4⟩) (fun z3 => bad2 (by omega) (fun y => z3 y.2))) (fun T2 H => ?_)
  obtain ⟨rfl, m1, m2⟩ := H
  clear bad bad2
  have eg : g = nI g.toInt.toNat := nI_of_toInt (by omega)
  have es : so = nI so.toInt.toNat := nI_of_toInt (by omega)
  have em : m = nI m.toInt.toNat := nI_of_toInt (by omega)
  have hi : g.toInt.toNat < 4 := by omega
  have hs : so.toInt.toNat ≤ 3 := by omega
  have hm : m.toInt.toNat ≤ 30 := by omega
  have ok := ok _ _ _ eg hi es hs em hm
  generalize g.toInt.toNat = i at *
  generalize so.toInt.toNat = s at *
  generalize m.toInt.toNat = n at *
  rw [eg, es, em]
  clear eg es em z z2 s1 s2 m1 m2
  refine ev_ex 1 (c' := (34, [some (.ref 1), some (.int (nI i)), some (.int (nI s)), some (.int (nI n)), none], [.ref 1], hX c T2)) rfl ?_
  refine xe_gf (ci := 12) (k := 7) rfl rfl (ob_lit (i := 0) rfl (by decide) rfl) ⟨by decide, by decide⟩ (v := .ref 113) rfl ?_
  refine ev_ex 1 (c' := (38, [some (.ref 1), some (.int (nI i)), some (.int (nI s)), some (.int (nI n)), none], [.int (nI i), .ref 113], hX c T2)) rfl ?_
  refine xe_ql rfl (ar_lit (i := 28) rfl (by decide) rfl) (by decide) (okn hi (by decide)) ?_
  rw [ix_nI (by omega)]
  refine xe_aso' (e := xQ T2 113 i) rfl (Nat.le_of_ble_eq_true rfl) ?_
  refine ev_ex 0 (c' := (41, [some (.ref 1), some (.int (nI i)), some (.int (nI s)), some (.int (nI n)), some (va_rf (xQ T2 113 i))], [], hX c T2)) rfl ?_
  refine xe_alo' (e := xQ T2 113 i) rfl rfl ?_
  refine xe_nnl (e := xQ T2 113 i) (tgt := 63) rfl rfl (fun b hb => ?_) (fun hb => ?_)
  · rw [hb]
    have hT : TyS T2 b ∧ b % 4 = 3 := by
      rcases h.1 i hi with w | ⟨b', t, w1, w2, w3⟩
      · rw [hb] at w; cases w.2
      · have : b' = b := by rw [hb] at w2; exact (Option.some.inj w2).symm
        subst this
        exact ⟨w3.1, w3.2.1⟩
    refine ev_ex 3 (c' := (67, [some (.ref 1), some (.int (nI i)), some (.int (nI s)), some (.int (nI n)), some (.ref b)], [.int (nI n), .int (nI s), .ref b], hX c T2)) rfl ?_
    refine xc_V (idx := 360) rfl rfl rfl (Nat.le_of_ble_eq_true rfl) (Nat.le_of_ble_eq_true rfl) (x_rcv (T := T2) hT.1.1 ⟨by decide, by decide⟩ _ _) (x_lay (Q := fun T3 => frm (fun y => y = b ∨ y = b + 4) T2 T3 ∧ TRY1 T3 b (s, n, fun _ => 0)) (d := d) hT.1 hT.2 hs hm (fun T3 hf h1 => ⟨hf, h1⟩)) (fun T3 H => ?_)
    obtain ⟨hf, h1⟩ := H
    exact ev_ret rfl rfl rfl (Or.inl ⟨_, rfl, rfl, ok T3 ⟨ty_frm (S := noc) grw.rf hT.1 hT.2 hf (Or.inl hT.1) (fun y hy => hy.elim), hf.gw _ _, trx_put h hi hb hT.1 hf h1⟩⟩)
  · rw [hb]
    refine ev_ex 0 (c' := (46, [some (.ref 1), some (.int (nI i)), some (.int (nI s)), some (.int (nI n)), some .null], [], hX c T2)) rfl ?_
    refine xe_new (ci := 11) (nf := 3) hR rfl rfl ⟨by decide, by decide⟩ ?_
    refine ev_ex 1 (c' := (50, [some (.ref 1), some (.int (nI i)), some (.int (nI s)), some (.int (nI n)), some .null], [.ref (4 * xn T2 + 3), .ref (4 * xn T2 + 3)], hX c (tN T2 11 0 3))) rfl ?_
    refine xc_V (idx := 359) rfl rfl rfl (Nat.le_of_ble_eq_true rfl) (Nat.le_of_ble_eq_true rfl) rfl (x_Ty_init (Q := fun T3 => grw noc T2 T3 ∧ (xn T3 = xn T2 + 2 ∧ xk T3 = xk T2 + 33) ∧ TyS T3 (4 * xn T2 + 3)) hR (fun T3 a1 a2 a3 => ⟨a1, a2, a3⟩)) (fun T3 H => ?_)
    obtain ⟨g3, n3, hT⟩ := H
    have sg : SDF T2 → SDF T3 := fun q => q.gr g3 (fun a h3 w1 w2 k => by
      rw [n3.1] at w2
      by_cases z : a = 4 * xn T2 + 3
      · rw [z, hT.1.2] at k; cases k
      · rw [show a = 4 * xn T2 + 3 + 4 by omega, hT.az.2] at k; cases k)
    have hnew : ¬ old T2 (4 * xn T2 + 3) := fun q => by have := q (by omega); omega
    have h3 : (4 * xn T2 + 3) % 4 = 3 := by omega
    generalize 4 * xn T2 + 3 = b at *
    refine ev_ex 2 (c' := (56, [some (.ref 1), some (.int (nI i)), some (.int (nI s)), some (.int (nI n)), some (.ref b)], [.ref 1], hX c T3)) rfl ?_
    refine xe_gf (ci := 12) (k := 7) rfl rfl (ob_lit (i := 0) rfl (by decide) rfl) ⟨by decide, by decide⟩ (v := .ref 113) rfl ?_
    refine ev_ex 2 (c' := (62, [some (.ref 1), some (.int (nI i)), some (.int (nI s)), some (.int (nI n)), some (.ref b)], [.ref b, .int (nI i), .ref 113], hX c T3)) rfl ?_
    refine xe_qs (kd := 25) rfl (ar_lit (i := 28) rfl (by decide) rfl) (by decide) (okn hi (by decide)) hT.1 ?_
    rw [ix_nI (by omega)]
    have fq : frm (fun y => y = 113) T3 (tQ T3 113 i (some b)) := frm_Q (S := fun y => y = 113) rfl _ _
    have x4 : TRX (tQ T3 113 i (some b)) (updT q i (0, 0, fun _ => 0)) ∨ True := Or.inr trivial
    have q4 : ∀ j, xQ (tQ T3 113 i (some b)) 113 j = if j = i then some b else xQ T2 113 j := fun j => by
      rw [xQ_tQ, if_pos rfl, g3.Q in113 id]
    have g4 : grw (fun y => y = 113) T2 (tQ T3 113 i (some b)) := (g3.mono (fun _ z => z.elim)).tr fq.grw
    have hT4 : TyS (tQ T3 113 i (some b)) b := ⟨fq.o hT.1, hT.fz, fq.r hT.az⟩
    have w4 := gw.fr (S := fun y => y = 113) (n := 2) (z := 33) (T := T2) ⟨by omega, by omega, sg⟩ fq
    generalize tQ T3 113 i (some b) = T4 at *
    refine ev_ex 3 (c' := (67, [some (.ref 1), some (.int (nI i)), some (.int (nI s)), some (.int (nI n)), some (.ref b)], [.int (nI n), .int (nI s), .ref b], hX c T4)) rfl ?_
    refine xc_V (idx := 360) rfl rfl rfl (Nat.le_of_ble_eq_true rfl) (Nat.le_of_ble_eq_true rfl) (x_rcv (T := T4) hT4.1 ⟨by decide, by decide⟩ _ _) (x_lay (Q := fun T5 => frm (fun y => y = b ∨ y = b + 4) T4 T5 ∧ TRY1 T5 b (s, n, fun _ => 0)) (d := d) hT4 h3 hs hm (fun T3 hf h1 => ⟨hf, h1⟩)) (fun T5 H => ?_)
    obtain ⟨hf, h1⟩ := H
    have e5 : ∀ j, xQ T5 113 j = if j = i then some b else xQ T2 113 j := fun j => by
      rw [hf.Q (by omega)]; exact q4 j
    have gg := ty_frm g4 hT4 h3 hf (Or.inr hnew) (fun y hy => Or.inl hy)
    refine ev_ret rfl rfl rfl (Or.inl ⟨_, rfl, rfl, ok T5 ⟨gg, (w4.fr hf).up (by decide) (by decide), fun j hj => ?_, fun j k y hj hk y1 y2 => ?_⟩⟩)
    · by_cases z : j = i
      · exact Or.inr ⟨b, _, if_pos z, (e5 j).trans (if_pos z), h1⟩
      · rcases h.1 j hj with y | ⟨b2, t2, y1, y2, y3⟩
        · exact Or.inl ⟨(if_neg z).trans y.1, ((e5 j).trans (if_neg z)).trans y.2⟩
        · have ol := y3.1.1.1.ol
          have ol4 := y3.1.az.1.ol
          have hb2 : ¬ b / 4 < xn T2 := fun z => hnew (fun _ => z)
          have b23 : b2 % 4 = 3 := y3.2.1
          have ol' := ol b23
          have ol4' := ol4 (by omega)
          exact Or.inr ⟨b2, t2, (if_neg z).trans y1, ((e5 j).trans (if_neg z)).trans y2, hf.ty1 (g4.ty1 y3 (by omega) (by omega)) (by omega) (by omega)⟩
    · have old2 : ∀ j, j < 4 → xQ T2 113 j ≠ some b := fun j hj z => by
        rcases h.1 j hj with y | ⟨b2, t2, y1, y2, y3⟩
        · rw [y.2] at z; cases z
        · rw [y2] at z
          cases z
          exact hnew y3.1.1.1.ol
      rw [e5] at y1 y2
      by_cases zj : j = i
      · by_cases zk : k = i
        · rw [zj, zk]
        · rw [if_pos zj] at y1
          rw [if_neg zk, ← y1] at y2
          exact absurd y2 (old2 k hk)
      · rw [if_neg zj] at y1
        by_cases zk : k = i
        · rw [if_pos zk] at y2
          rw [← y2] at y1
          exact absurd y1 (old2 j hj)
        · rw [if_neg zk] at y2
          exact h.2 j k y hj hk y1 y2
theorem x_write {Q : Int64 → XS → Prop} {E : Nat → XS → Prop} (hR : RL c) (h : TRX T q) {g m : Int32} {x : Int64} (ok : ∀ i t k, g = nI i → i < 4 → q i = some t → m = nI k → k < t.2.1 → ∀ T', TD T T' (updT q i (putT t k x)) → Q (cutL t.1 x) T') (bad : ¬ (0 ≤ g.toInt ∧ g.toInt ≤ 3) → E 2 (tN T 0 0 6)) (bad2 : ∀ i, g = nI i → i < 4 → q i = none → E 3 (tN T 0 0 6)) (bad3 : ∀ i t, g = nI i → i < 4 → q i = some t → ¬ (0 ≤ m.toInt ∧ m.toInt < t.2.1) → E 4 (tN T 0 0 6)) : XJt c (d + 2) m_X_write [.ref 1, .int g, .int m, .long x] T Q E := by
  have e0 : ((0 : Int32).toInt : Int) = 0 := rfl
  refine wx_X_write hR _ _ _ (x_needTray hR h (fun i b t eg hi ht hb h1 => ⟨b, rfl, ?_⟩) bad bad2)
  obtain ⟨y1, y2, y3, y4, y5, y6⟩ := id h1
  have := y5.2
  have eL : m < xI T b 2 ↔ m.toInt < t.2.1 := by rw [y4, fa_lt, nI_toInt (by omega)]
  rw [eL]
  refine ⟨fun z => bad3 i t eg hi ht (by rw [fa_lt] at z; omega), fun z => ⟨y1, fun z2 => ?_, fun z2 => bad3 i t eg hi ht (by omega)⟩⟩
  rw [fa_lt] at z
  have em : m = nI m.toInt.toNat := nI_of_toInt (by omega)
  have ok := ok i t _ eg hi ht em (by omega)
  have hk : m.toInt.toNat < t.2.1 := by omega
  generalize m.toInt.toNat = k at *
  rw [em]
  exact x_Ty_put (d := d) h1 hk (fun T' hf h2 => ok T' ⟨ty_frm (S := noc) grw.rf y1 y2 hf (Or.inl y1) (fun y hy => hy.elim), hf.gw _ _, trx_put h hi hb y1 hf h2⟩)
theorem mnI_nI {a b : Nat} (ha : a < 2 ^ 31) (hb : b < 2 ^ 31) : mnI (nI a) (nI b) = nI (min a b) := by
  unfold mnI
  by_cases z : b < a
  · rw [if_pos ((nI_ltI hb ha).mpr z), show min a b = b by omega]
  · rw [if_neg (fun w => z ((nI_ltI hb ha).mp w)), show min a b = a by omega]
theorem x_copy {Q : Int32 → XS → Prop} {E : Nat → XS → Prop} (hR : RL c) (h : TRX T q) (h93 : CS T 93 ca v sd) {g : Int32} (ok : ∀ i t, g = nI i → i < 4 → q i = some t → ∀ T', TD T T' (updT q i (cpyT t sd.1 (min t.2.1 (vG v)))) → Q (nI (min t.2.1 (vG v))) T') (bad : ¬ (0 ≤ g.toInt ∧ g.toInt ≤ 3) → E 2 (tN T 0 0 6)) (bad2 : ∀ i, g = nI i → i < 4 → q i = none → E 3 (tN T 0 0 6)) : XIt c (d + 2) m_X_copy [.ref 1, .int g] T Q E := by
  have hG := h93.G
  refine wx_X_copy _ (x_needTray hR h (fun i b t eg hi ht hb h1 => ⟨b, rfl, h1.1, ca, h93.fc, h93.2.1.1, ?_⟩) bad bad2)
  have ok := ok i t eg hi ht
  have h5 := h1.2.2.2.2.1.2
  rw [h1.2.2.2.1, h93.gs, mnI_nI (by omega) (by omega)]
  have hn : min t.2.1 (vG v) ≤ t.2.1 ∧ min t.2.1 (vG v) ≤ vG v := by omega
  generalize min t.2.1 (vG v) = n at *
  have y1 := h1.1
  have y2 := h1.2.1
  suffices H : ∀ (m k : Nat) (T1 : XS), k + m = n → frm (fun y => y = b ∨ y = b + 4) T T1 → TRY1 T1 b (cpyT t sd.1 k) → eX c (d + 2) m_X_copy 33 [some (.ref 1), some (.int g), some (.ref b), some (.ref 93), some (.int (nI n)), some (.int (nI k))] T1 (yt c E (yI c Q)) from H n 0 T (by omega) frm.rf h1
  intro m
  induction m with
  | zero =>
    intro k T1 hk hf h2
    rw [show k = n by omega] at h2 ⊢
    exact wx_X_copy_33 _ _ _ _ ⟨fun _ => ok T1 ⟨ty_frm (S := noc) grw.rf y1 y2 hf (Or.inl y1) (fun y hy => hy.elim), hf.gw _ _, trx_put h hi hb y1 hf h2⟩, fun z => absurd ((nI_leI (by omega) (by omega)).mpr (Nat.le_refl _)) z⟩
  | succ m ih =>
    intro k T1 hk hf h2
    have hw : xA T1 97 k = oI (sd.1 k) := by
      rw [hf.A (by omega)]
      exact h93.wh (by omega)
    have hne : oI (sd.1 k) = -1 ↔ sd.1 k = none := oI_none (fun x hx => by have := h93.w10 hx; omega)
    have go : ∀ T2, frm (fun y => y = b ∨ y = b + 4) T1 T2 → TRY1 T2 b (putT (cpyT t sd.1 k) k (spL (sd.1 k))) → eX c (d + 2) m_X_copy 33 [some (.ref 1), some (.int g), some (.ref b), some (.ref 93), some (.int (nI n)), some (.int (nI k + 1))] T2 (yt c E (yI c Q)) := fun T2 hf2 h3 => by
      rw [nI_1]
      exact ih (k + 1) T2 (by omega) (hf.tr hf2) h3
    have hk2 : k < (cpyT t sd.1 k).2.1 := by rw [(cpyT_1 t sd.1 k).2]; omega
    refine wx_X_copy_33 _ _ _ _ ⟨fun z => absurd ((nI_leI (by omega) (by omega)).mp z) (by omega), fun _ => ⟨okn (by omega) (by decide), ?_⟩⟩
    rw [ix_nI (by omega), hw, hne]
    refine ⟨fun z => ⟨okn (by omega) (by decide), h2.1, ?_⟩, fun z => ⟨h2.1, ?_⟩⟩
    · refine x_Ty_put (d := d) h2 hk2 (fun T2 hf2 h3 => go T2 hf2 ?_)
      rw [show spL (sd.1 k) = (oI (sd.1 k)).toInt64 from if_neg z]
      exact h3
    · refine x_Ty_put (d := d) h2 hk2 (fun T2 hf2 h3 => go T2 hf2 ?_)
      rw [show spL (sd.1 k) = 99 from if_pos z]
      exact h3
end TX2
