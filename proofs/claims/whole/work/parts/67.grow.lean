/-! cells that are new -/
/-- what was there stays, but for S -/
def old (T : XS) (b : Nat) : Prop := b % 4 = 3 → b / 4 < xn T
def grw (S : Nat → Prop) (T T' : XS) : Prop := xn T ≤ xn T' ∧ ∀ b, old T b → xS T' b = xS T b ∧ (∀ k, (k ≠ 0 ∧ b ≠ 9 ∨ ¬ S b) → xR T' b k = xR T b k) ∧ (¬ S b → (∀ k, xI T' b k = xI T b k) ∧ xA T' b = xA T b ∧ xL T' b = xL T b ∧ xQ T' b = xQ T b)
abbrev noc (_ : Nat) : Prop := False
/-- no standing is half made -/
def SDF (T : XS) : Prop := ∀ a, a % 4 = 3 → ob T a 9 → a / 4 + 3 < xn T
/-- so many new cells, so much new room -/
def gw (n z : Nat) (T T' : XS) : Prop := xn T' ≤ xn T + n ∧ xk T' ≤ xk T + z ∧ (SDF T → SDF T')
section GW1
variable {S S' : Nat → Prop} {T T' T'' : XS} {a b ca : Nat} {v : CV} {sd : SD}
theorem inb.ol (h : inb T a) : old T a := fun q => by rcases h with h | h <;> omega
theorem frm.sdf (h : frm S T T') (q : SDF T) : SDF T' := fun a h3 o => by
  have e : shx T' a = shx T a := by unfold shx; rw [h.1]
  rw [h.2.1]
  refine q a h3 ⟨?_, by rw [← e]; exact o.2⟩
  have i := o.1
  unfold inb at i ⊢
  rw [h.2.1] at i
  exact i
theorem frm.gw (h : frm S T T') (n z : Nat) : gw n z T T' := ⟨by rw [h.2.1]; omega, by rw [h.2.2.1]; omega, h.sdf⟩
theorem gw.tr {n z n' z' : Nat} (h : gw n z T T') (h' : gw n' z' T' T'') : gw (n + n') (z + z') T T'' := ⟨by have := h.1; have := h'.1; omega, by have := h.2.1; have := h'.2.1; omega, fun q => h'.2.2 (h.2.2 q)⟩
theorem gw.up {n z n' z' : Nat} (h : gw n z T T') (h1 : n ≤ n') (h2 : z ≤ z') : gw n' z' T T' := ⟨by have := h.1; omega, by have := h.2.1; omega, h.2.2⟩
theorem gw.rf (n z : Nat) : gw n z T T := ⟨by omega, by omega, id⟩
theorem gw.fr {n z : Nat} (h : gw n z T T') (h' : frm S T' T'') : gw n z T T'' := ⟨by rw [h'.2.1]; exact h.1, by rw [h'.2.2.1]; exact h.2.1, fun q => h'.sdf (h.2.2 q)⟩
theorem gw.af {n z : Nat} (h' : frm S T T') (h : gw n z T' T'') : gw n z T T'' := ⟨by rw [← h'.2.1]; exact h.1, by rw [← h'.2.2.1]; exact h.2.1, fun q => h.2.2 (h'.sdf q)⟩
theorem grw.rf : grw S T T := ⟨Nat.le_refl _, fun _ _ => ⟨rfl, fun _ _ => rfl, fun _ => ⟨fun _ => rfl, rfl, rfl, rfl⟩⟩⟩
theorem grw.ol (h : grw S T T') (q : old T b) : old T' b := fun y => by have := q y; have := h.1; omega
theorem grw.tr (h : grw S T T') (h' : grw S T' T'') : grw S T T'' := by
  refine ⟨Nat.le_trans h.1 h'.1, fun b hb => ?_⟩
  obtain ⟨a1, a2, a3⟩ := h.2 b hb
  obtain ⟨b1, b2, b3⟩ := h'.2 b (h.ol hb)
  refine ⟨b1.trans a1, fun k q => (b2 k q).trans (a2 k q), fun q => ?_⟩
  obtain ⟨c1, c2, c3, c4⟩ := a3 q
  obtain ⟨d1, d2, d3, d4⟩ := b3 q
  exact ⟨fun k => (d1 k).trans (c1 k), d2.trans c2, d3.trans c3, d4.trans c4⟩
theorem grw.mono (h : grw S T T') (hs : ∀ b, S b → S' b) : grw S' T T' :=
  ⟨h.1, fun b hb => ⟨(h.2 b hb).1, fun k q => (h.2 b hb).2.1 k (q.elim Or.inl (fun z => Or.inr (fun y => z (hs b y)))), fun q => (h.2 b hb).2.2 (fun y => q (hs b y))⟩⟩
theorem frm.grw (h : frm S T T') : grw S T T' := ⟨Nat.le_of_eq h.2.1.symm, fun b _ => ⟨by rw [h.1], fun k q => h.2.2.2.1 b k (q.imp And.left id), fun q => h.2.2.2.2 b q⟩⟩
/-- what changes only in new cells -/
theorem grw.fr (h : grw S T T') (h' : frm S' T' T'') (hs : ∀ b, old T b → S' b → S b) : grw S T T'' := by
  refine ⟨Nat.le_trans h.1 (Nat.le_of_eq h'.2.1.symm), fun b hb => ?_⟩
  obtain ⟨a1, a2, a3⟩ := h.2 b hb
  refine ⟨by rw [h'.1]; exact a1, fun k q => (h'.2.2.2.1 b k (q.elim (fun z => Or.inl z.1) (fun z => Or.inr (fun y => z (hs b hb y))))).trans (a2 k q), fun q => ?_⟩
  obtain ⟨c1, c2, c3, c4⟩ := a3 q
  obtain ⟨d1, d2, d3, d4⟩ := h'.2.2.2.2 b (fun y => q (hs b hb y))
  exact ⟨fun k => (d1 k).trans (c1 k), d2.trans c2, d3.trans c3, d4.trans c4⟩
theorem grw.N (h : grw S T T') (kd n z : Nat) : grw S T (tN T' kd n z) := by
  refine ⟨Nat.le_trans h.1 (Nat.le_succ _), fun b hb => ?_⟩
  obtain ⟨a1, a2, a3⟩ := h.2 b hb
  have hn : b ≠ 4 * xn T' + 3 := fun e => by have := hb (by omega); have := h.1; omega
  refine ⟨(if_neg hn).trans a1, fun k q => Eq.trans (if_neg hn) (a2 k q), fun q => ?_⟩
  obtain ⟨c1, c2, c3, c4⟩ := a3 q
  exact ⟨fun k => Eq.trans (if_neg hn) (c1 k), Eq.trans (funext fun k => if_neg hn) c2, Eq.trans (funext fun k => if_neg hn) c3, Eq.trans (funext fun k => if_neg hn) c4⟩
theorem grw.R (h : grw S T T') (hn : ¬ old T a) (k : Nat) (x : Option Nat) : grw S T (tR T' a k x) := by
  refine ⟨h.1, fun b hb => ?_⟩
  obtain ⟨a1, a2, a3⟩ := h.2 b hb
  exact ⟨a1, fun j q => Eq.trans (if_neg (fun e => hn (by rw [← e.1]; exact hb))) (a2 j q), a3⟩
theorem grw.ib (h : grw S T T') (q : inb T a) : inb T' a := by
  rcases q with q | q
  · exact Or.inl q
  · exact Or.inr ⟨q.1, Nat.lt_of_lt_of_le q.2 h.1⟩
theorem grw.sh (h : grw S T T') (q : inb T a) : shx T' a = shx T a := by unfold shx; rw [(h.2 a q.ol).1]
theorem SDF.gr (q : SDF T) (h : grw S T T') (w : ∀ a, a % 4 = 3 → xn T ≤ a / 4 → a / 4 < xn T' → (shx T' a).1 = 9 → a / 4 + 3 < xn T') : SDF T' := fun a h3 o => by
  have i2 : a / 4 < xn T' := by rcases o.1 with i | i <;> omega
  by_cases z : xn T ≤ a / 4
  · exact w a h3 z i2 o.2
  · have i1 : inb T a := Or.inr ⟨h3, by omega⟩
    have := q a h3 ⟨i1, by rw [← h.sh i1]; exact o.2⟩
    have := h.1
    omega
theorem grw.o (h : grw S T T') {ci : Nat} (q : ob T a ci) : ob T' a ci := ⟨h.ib q.1, by rw [h.sh q.1]; exact q.2⟩
theorem grw.r (h : grw S T T') {kd n : Nat} (q : ar T a kd n) : ar T' a kd n := ⟨h.ib q.1, by rw [h.sh q.1]; exact q.2⟩
theorem grw.fx (h : grw S T T') {k : Nat} (i : inb T a) (q : k ≠ 0 ∧ a ≠ 9 ∨ ¬ S a) : frx T' a k = frx T a k := by unfold frx; rw [(h.2 a i.ol).2.1 k q]
theorem ob_9 {ci : Nat} (o : ob T a ci) (hc : ci ≠ 7) : a ≠ 9 := fun e => by
  have := o.2
  rw [e] at this
  exact hc this.symm
theorem grw.fxo (h : grw S T T') {k ci : Nat} (o : ob T a ci) (hc : ci ≠ 7) (q : k ≠ 0 ∨ ¬ S a) : frx T' a k = frx T a k := h.fx o.1 (q.imp (fun z => ⟨z, ob_9 o hc⟩) id)
theorem grw.I (h : grw S T T') (i : inb T a) (q : ¬ S a) (k : Nat) : xI T' a k = xI T a k := ((h.2 a i.ol).2.2 q).1 k
theorem grw.A (h : grw S T T') (i : inb T a) (q : ¬ S a) : xA T' a = xA T a := ((h.2 a i.ol).2.2 q).2.1
theorem grw.L (h : grw S T T') (i : inb T a) (q : ¬ S a) : xL T' a = xL T a := ((h.2 a i.ol).2.2 q).2.2.1
theorem grw.Q (h : grw S T T') (i : inb T a) (q : ¬ S a) : xQ T' a = xQ T a := ((h.2 a i.ol).2.2 q).2.2.2
theorem grw.sds (h : grw S T T') (q : SdS T a) : SdS T' a :=
  ⟨h.o q.1, by rw [h.fxo q.1 (by decide) (Or.inl (by decide))]; exact q.fw, by rw [h.fxo q.1 (by decide) (Or.inl (by decide))]; exact q.fm, by rw [h.fxo q.1 (by decide) (Or.inl (by decide))]; exact q.fr, h.r q.aw, h.r q.am, h.r q.ak⟩
theorem grw.ns (h : grw S T T') (q : CvS T a) : nst T' a = nst T a := by show (shx T' (a + 28)).2 = (shx T (a + 28)).2; rw [h.sh q.a7.1]
theorem grw.cvs (h : grw S T T') (q : CvS T a) : CvS T' a :=
  ⟨h.o q.1, ⟨by rw [h.fxo q.1 (by decide) (Or.inl (by decide))]; exact q.f3, by rw [h.fxo q.1 (by decide) (Or.inl (by decide))]; exact q.f9, by rw [h.fxo q.1 (by decide) (Or.inl (by decide))]; exact q.f10, by rw [h.fxo q.1 (by decide) (Or.inl (by decide))]; exact q.f11, by rw [h.fxo q.1 (by decide) (Or.inl (by decide))]; exact q.f12, by rw [h.fxo q.1 (by decide) (Or.inl (by decide))]; exact q.f13, by rw [h.fxo q.1 (by decide) (Or.inl (by decide))]; exact q.f7, by rw [h.fxo q.1 (by decide) (Or.inl (by decide))]; exact q.f8⟩, h.r q.a3, h.r q.a9, h.r q.a10, h.r q.a11, h.r q.a12, h.r q.a13, by rw [h.ns q]; exact h.r q.a7, by rw [h.ns q]; exact h.r q.a8⟩
theorem grw.std (h : grw S T T') (q : STD T a ca sd) (n0 : ¬ S a) (n1 : ¬ S (sW a)) (n2 : ¬ S (sM a)) (n3 : ¬ S (sR a)) : STD T' a ca sd := by
  obtain ⟨q1, q2, q3, q4, q5, q6, q7⟩ := q
  exact ⟨h.sds q1, q2, by rw [h.fx q1.1.1 (Or.inr n0)]; exact q3, fun g hg => by rw [h.A q1.aw.1 n1]; exact q4 g hg, fun g hg => by rw [h.A q1.am.1 n2]; exact q5 g hg, fun g hg => by rw [h.A q1.ak.1 n3]; exact q6 g hg, by rw [h.I q1.1.1 n0]; exact q7⟩
theorem sW_up (a : Nat) (h : a % 4 = 3) : sW a / 4 > a / 4 ∧ sM a / 4 > a / 4 ∧ sR a / 4 > a / 4 := by
  obtain ⟨e1, e2, e3⟩ := sW_3 h
  rw [e1, e2, e3]
  omega
theorem grw.nb (h : grw S T T') (i : inb T b) (h3 : b % 4 = 3) (q : NB T b) : NB T' b := fun x hx => by
  by_cases y : x % 4 = 3 ∧ xn T ≤ x / 4
  · obtain ⟨u1, u2, u3⟩ := sW_up x y.1
    have := i.ol h3
    exact ⟨fun e => by rw [e] at this; omega, fun e => by rw [e] at this; omega, fun e => by rw [e] at this; omega⟩
  · have i2 : inb T x := by
      rcases hx.1 with z | z
      · exact Or.inl z
      · exact Or.inr ⟨z.1, by omega⟩
    exact q x ⟨i2, by rw [← h.sh i2]; exact hx.2⟩
theorem grw.law (h : grw S T T') {o : Option Nat} {l : List Nat} (q : LAWA T o l) (n : ∀ b, b % 4 = 3 → NB T b → ¬ S b) : LAWA T' o l := by
  rcases q with q | ⟨b, q1, q2, q3, q4, q5, q6⟩
  · exact Or.inl q
  · refine Or.inr ⟨b, q1, q2, q3, h.r q4, h.nb q4.1 q3 q5, fun i hi => ?_⟩
    rw [h.A q4.1 (n b q3 q5)]
    exact q6 i hi
theorem grw.car (h : grw S T T') (q : CAR T ca v) (n0 : ¬ S ca) (n1 : ¬ S (ca + 12) ∧ ¬ S (ca + 16) ∧ ¬ S (ca + 20) ∧ ¬ S (ca + 24) ∧ ¬ S (ca + 28) ∧ ¬ S (ca + 32)) (n : ∀ b, b % 4 = 3 → NB T b → ¬ S b) : CAR T' ca v := by
  obtain ⟨q1, q2, ⟨q3, q4, q5⟩, q6, q7, q8, q9, q10, q11⟩ := q
  obtain ⟨m1, m2, m3, m4, m5, m6⟩ := n1
  have i0 := q1.1.1
  refine ⟨h.cvs q1, q2, ⟨by rw [h.I i0 n0]; exact q3, by rw [h.I i0 n0]; exact q4, by rw [h.I i0 n0]; exact q5⟩, ?_, ?_, by rw [h.I i0 n0]; exact q8, fun g hg => ?_, by rw [h.ns q1]; exact q10, fun k hk => ?_⟩
  · rw [h.fx i0 (Or.inr n0)]; exact h.law q6 n
  · rw [h.fx i0 (Or.inr n0)]; exact h.law q7 n
  · rw [h.A q1.a10.1 m1, h.A q1.a11.1 m2, h.A q1.a12.1 m3, h.A q1.a13.1 m4]; exact q9 g hg
  · rw [h.A q1.a7.1 m5, h.A q1.a8.1 m6]; exact q11 k hk
end GW1
section NW1
variable {c : CX} {d : Nat} {T T' : XS} {a b ca : Nat}
theorem x_fill {Q : XS → Prop} {n : Nat} {x : Int32} (h : ar T a 20 n) (hn : n < 2 ^ 31) (hq : ∀ T', frm (fun b => b = a) T T' → (∀ j, j < n → xA T' a j = x) → Q T') : XV c d m_JA_fill [.ref a, .int x] T Q := by
  refine wx_JA_fill _ n _ ⟨h, ?_⟩
  suffices H : ∀ (m k : Nat) (T1 : XS), k + m = n → frm (fun b => b = a) T T1 → (∀ j, j < k → xA T1 a j = x) → eX c d m_JA_fill 5 [some (.ref a), some (.int x), some (.int (nI k)), some (.int (nI n))] T1 (yV c Q) from H n 0 T (by omega) frm.rf (fun j hj => by omega)
  intro m
  induction m with
  | zero =>
    intro k T1 hk hf hx
    exact wx_JA_fill_5 _ n _ _ _ ⟨fun _ => hq T1 hf (fun j hj => hx j (by omega)), fun z => absurd ((nI_leI (by omega) (by omega)).mpr (by omega)) z⟩
  | succ m ih =>
    intro k T1 hk hf hx
    refine wx_JA_fill_5 _ n _ _ _ ⟨fun z => absurd ((nI_leI (by omega) (by omega)).mp z) (by omega), fun _ => ⟨hf.r h, okn (by omega) hn, ?_⟩⟩
    rw [nI_1, ix_nI (by omega)]
    refine ih (k + 1) _ (by omega) (hf.tr (frm_A (S := fun b => b = a) (a := a) rfl _ _)) (fun j hj => ?_)
    rw [xA_A, if_pos rfl]
    unfold upd
    split
    · rfl
    · exact hx j (by omega)
theorem new_ob (T : XS) (kd n z : Nat) : ob (tN T kd n z) (4 * xn T + 3) kd := ⟨Or.inr ⟨by omega, by show (4 * xn T + 3) / 4 < xn T + 1; omega⟩, by rw [tN_sh]⟩
theorem new_ar (T : XS) (kd n z : Nat) : ar (tN T kd n z) (4 * xn T + 3) kd n := ⟨Or.inr ⟨by omega, by show (4 * xn T + 3) / 4 < xn T + 1; omega⟩, tN_sh T kd n z⟩
theorem frx_j {k j : Nat} (h : k ≠ j) (x : Option Nat) : frx (tR T a j x) a k = frx T a k := by
  have : xR (tR T a j x) a k = xR T a k := if_neg (fun e => h e.2)
  unfold frx
  rw [this]
theorem frx_N {k kd n z : Nat} (h : inb T a) : frx (tN T kd n z) a k = frx T a k := (grw.rf (S := noc) (T := T).N kd n z).fx h (Or.inr id)
set_option maxRecDepth 8000 in
theorem x_Sd_init {Q : XS → Prop} (hR : RL c) {T0 : XS} (hq : ∀ T', grw noc T0 T' → (xn T' = xn T0 + 4 ∧ xk T' = xk T0 + 35) → SdS T' (4 * xn T0 + 3) → frx T' (4 * xn T0 + 3) 0 = some ca → Q T') : XV c (d + 1) m_Sd_init [.ref (4 * xn T0 + 3), .ref ca] (tN T0 9 0 5) Q := by
  have o1 := new_ob T0 9 0 5
  have g1 : grw noc T0 (tN T0 9 0 5) := grw.rf.N 9 0 5
  have n1 : xn (tN T0 9 0 5) = xn T0 + 1 ∧ xk (tN T0 9 0 5) = xk T0 + 5 := ⟨rfl, rfl⟩
  have hnew : ¬ old T0 (4 * xn T0 + 3) := fun q => by have := q (by omega); omega
  have h3 : (4 * xn T0 + 3) % 4 = 3 := by omega
  generalize ea : 4 * xn T0 + 3 = a at *
  generalize tN T0 9 0 5 = T1 at *
  refine ⟨q_Sd_init, rfl, Nat.le_of_ble_eq_true rfl, ?_⟩
  refine ev_ex 1 (c' := (1, [some (.ref a), some (.ref ca)], [.ref a], hX c T1)) rfl ?_
  refine ev_obj rfl rfl (Nat.le_of_ble_eq_true rfl) ?_
  refine ev_ex 2 (c' := (7, [some (.ref a), some (.ref ca)], [.int 10, .ref a], hX c T1)) rfl ?_
  refine xe_nai (n := 10) hR rfl (by decide) ?_
  have e1 : 4 * xn T1 + 3 = a + 4 := by omega
  rw [e1]
  refine xe_pr (ci := 9) (k := 1) (x := some (a + 4)) rfl rfl ((grw.rf.N 20 10 10).o (S := noc) o1) ⟨by decide, by decide⟩ (Nat.le_of_ble_eq_true rfl) (fr_9_1 _ _ _ (frx_put (Or.inl h3))) ?_
  have g2 : grw noc T0 (tR (tN T1 20 10 10) a 1 (some (a + 4))) := (g1.N 20 10 10).R hnew _ _
  have o2 : ob (tR (tN T1 20 10 10) a 1 (some (a + 4))) a 9 := (grw.rf.N 20 10 10).o (S := noc) o1
  have n2 : xn (tR (tN T1 20 10 10) a 1 (some (a + 4))) = xn T1 + 1 ∧ xk (tR (tN T1 20 10 10) a 1 (some (a + 4))) = xk T1 + 10 := ⟨rfl, rfl⟩
  have f1 : frx (tR (tN T1 20 10 10) a 1 (some (a + 4))) a 1 = some (a + 4) := frx_put (Or.inl h3)
  have w1 : ar (tR (tN T1 20 10 10) a 1 (some (a + 4))) (a + 4) 20 10 := by rw [← e1]; exact new_ar T1 20 10 10
  generalize tR (tN T1 20 10 10) a 1 (some (a + 4)) = T2 at *
  refine ev_ex 2 (c' := (15, [some (.ref a), some (.ref ca)], [.int 10, .ref a], hX c T2)) rfl ?_
  refine xe_nai (n := 10) hR rfl (by decide) ?_
  have e2 : 4 * xn T2 + 3 = a + 8 := by omega
  rw [e2]
  refine xe_pr (ci := 9) (k := 2) (x := some (a + 8)) rfl rfl ((grw.rf.N 20 10 10).o (S := noc) o2) ⟨by decide, by decide⟩ (Nat.le_of_ble_eq_true rfl) (fr_9_2 _ _ _ (frx_put (Or.inl h3))) ?_
  have g3 : grw noc T0 (tR (tN T2 20 10 10) a 2 (some (a + 8))) := (g2.N 20 10 10).R hnew _ _
  have o3 : ob (tR (tN T2 20 10 10) a 2 (some (a + 8))) a 9 := (grw.rf.N 20 10 10).o (S := noc) o2
  have n3 : xn (tR (tN T2 20 10 10) a 2 (some (a + 8))) = xn T2 + 1 ∧ xk (tR (tN T2 20 10 10) a 2 (some (a + 8))) = xk T2 + 10 := ⟨rfl, rfl⟩
  have f2 : frx (tR (tN T2 20 10 10) a 2 (some (a + 8))) a 2 = some (a + 8) := frx_put (Or.inl h3)
  have w2 : ar (tR (tN T2 20 10 10) a 2 (some (a + 8))) (a + 8) 20 10 := by rw [← e2]; exact new_ar T2 20 10 10
  have f1 : frx (tR (tN T2 20 10 10) a 2 (some (a + 8))) a 1 = some (a + 4) := by rw [frx_j (by decide), frx_N o2.1]; exact f1
  have w1 : ar (tR (tN T2 20 10 10) a 2 (some (a + 8))) (a + 4) 20 10 := (grw.rf.N 20 10 10).r (S := noc) w1
  generalize tR (tN T2 20 10 10) a 2 (some (a + 8)) = T3 at *
  refine ev_ex 2 (c' := (23, [some (.ref a), some (.ref ca)], [.int 10, .ref a], hX c T3)) rfl ?_
  refine xe_nai (n := 10) hR rfl (by decide) ?_
  have e3 : 4 * xn T3 + 3 = a + 12 := by omega
  rw [e3]
  refine xe_pr (ci := 9) (k := 3) (x := some (a + 12)) rfl rfl ((grw.rf.N 20 10 10).o (S := noc) o3) ⟨by decide, by decide⟩ (Nat.le_of_ble_eq_true rfl) (fr_9_3 _ _ _ (frx_put (Or.inl h3))) ?_
  have g4 : grw noc T0 (tR (tN T3 20 10 10) a 3 (some (a + 12))) := (g3.N 20 10 10).R hnew _ _
  have o4 : ob (tR (tN T3 20 10 10) a 3 (some (a + 12))) a 9 := (grw.rf.N 20 10 10).o (S := noc) o3
  have n4 : xn (tR (tN T3 20 10 10) a 3 (some (a + 12))) = xn T3 + 1 ∧ xk (tR (tN T3 20 10 10) a 3 (some (a + 12))) = xk T3 + 10 := ⟨rfl, rfl⟩
  have f3 : frx (tR (tN T3 20 10 10) a 3 (some (a + 12))) a 3 = some (a + 12) := frx_put (Or.inl h3)
  have w3 : ar (tR (tN T3 20 10 10) a 3 (some (a + 12))) (a + 12) 20 10 := by rw [← e3]; exact new_ar T3 20 10 10
  have f1 : frx (tR (tN T3 20 10 10) a 3 (some (a + 12))) a 1 = some (a + 4) := by rw [frx_j (by decide), frx_N o3.1]; exact f1
  have w1 : ar (tR (tN T3 20 10 10) a 3 (some (a + 12))) (a + 4) 20 10 := (grw.rf.N 20 10 10).r (S := noc) w1
  have f2 : frx (tR (tN T3 20 10 10) a 3 (some (a + 12))) a 2 = some (a + 8) := by rw [frx_j (by decide), frx_N o3.1]; exact f2
  have w2 : ar (tR (tN T3 20 10 10) a 3 (some (a + 12))) (a + 8) 20 10 := (grw.rf.N 20 10 10).r (S := noc) w2
  generalize tR (tN T3 20 10 10) a 3 (some (a + 12)) = T4 at *
  refine ev_ex 2 (c' := (30, [some (.ref a), some (.ref ca)], [.ref ca, .ref a], hX c T4)) rfl ?_
  refine xe_pr (ci := 9) (k := 0) (x := some ca) rfl rfl o4 ⟨by decide, by decide⟩ (Nat.le_of_ble_eq_true rfl) (fr_9_0 _ _ _ (frx_put (Or.inl h3))) ?_
  have g5 : grw noc T0 (tR T4 a 0 (some ca)) := g4.R hnew _ _
  have o5 : ob (tR T4 a 0 (some ca)) a 9 := o4
  have n5 : xn (tR T4 a 0 (some ca)) = xn T4 ∧ xk (tR T4 a 0 (some ca)) = xk T4 := ⟨rfl, rfl⟩
  have f0 : frx (tR T4 a 0 (some ca)) a 0 = some ca := frx_put (Or.inl h3)
  have f1 : frx (tR T4 a 0 (some ca)) a 1 = some (a + 4) := (frx_j (by decide) _).trans f1
  have f2 : frx (tR T4 a 0 (some ca)) a 2 = some (a + 8) := (frx_j (by decide) _).trans f2
  have f3 : frx (tR T4 a 0 (some ca)) a 3 = some (a + 12) := (frx_j (by decide) _).trans f3
  have w1 : ar (tR T4 a 0 (some ca)) (a + 4) 20 10 := w1
  have w2 : ar (tR T4 a 0 (some ca)) (a + 8) 20 10 := w2
  have w3 : ar (tR T4 a 0 (some ca)) (a + 12) 20 10 := w3
  generalize tR T4 a 0 (some ca) = T5 at *
  refine ev_ex 1 (c' := (34, [some (.ref a), some (.ref ca)], [.ref a], hX c T5)) rfl ?_
  refine xe_gfr (ci := 9) (k := 1) rfl rfl o5 ⟨by decide, by decide⟩ rfl f1 ?_
  refine ev_ex 1 (c' := (38, [some (.ref a), some (.ref ca)], [.int (-1), .ref (a + 4)], hX c T5)) rfl ?_
  have s5 : SdS T5 a := by
    obtain ⟨e1, e2, e3⟩ := sW_3 h3
    exact ⟨o5, by rw [e1]; exact f1, by rw [e2]; exact f2, by rw [e3]; exact f3, by rw [e1]; exact w1, by rw [e2]; exact w2, by rw [e3]; exact w3⟩
  refine xc_V (idx := 25) rfl rfl rfl (Nat.le_of_ble_eq_true rfl) (Nat.le_of_ble_eq_true rfl) rfl (x_fill (x := -1) w1 (by decide) (fun T6 hf _ => (?_ : (fun T6 => ∃ _ : frm (fun b => b = a + 4) T5 T6, True) T6))) (fun T6 H => ?_)
  · exact ⟨hf, trivial⟩
  · obtain ⟨hf, -⟩ := H
    refine ev_ret rfl rfl rfl ⟨_, rfl, rfl, hq T6 (g5.fr hf (fun b hb e => ?_)) ?_ (hf.sds s5) ?_⟩
    · have := hb (by omega)
      omega
    · rw [hf.2.1, hf.2.2.1]; omega
    · rw [hf.fx (Or.inr (by omega))]; exact f0
end NW1
