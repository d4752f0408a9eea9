/-! a carnival made by the class -/
def cfl (j : Nat) : Nat := [3, 9, 10, 11, 12, 13, 7, 8].getD j 0
def cln (t : TV) (j : Nat) : Nat := if j < 6 then 10 else stp t.1 (vT t.1)
def cvl (T0 : XS) (t : TV) (j x : Nat) : Int32 := if j = 0 then xA T0 37 x else if j < 6 then xA T0 33 ((j - 1) * 10 + x) else if j = 6 then Int32.ofInt (pos dirX t.1 x) else Int32.ofInt (pos dirY t.1 x)
def CVI (T0 : XS) (t : TV) (j e : Nat) (T : XS) : Prop := grw noc T0 T ∧ ob T (4 * xn T0 + 3) 2 ∧ (xn T = xn T0 + 1 + j ∧ xk T ≤ xk T0 + 14 + 241 * j) ∧ SDF T ∧ (xI T (4 * xn T0 + 3) 0 = nI (vL t.1) ∧ xI T (4 * xn T0 + 3) 1 = nI (vG t.1) ∧ xI T (4 * xn T0 + 3) 2 = nI (vT t.1)) ∧ (∀ i, i < j → frx T (4 * xn T0 + 3) (cfl i) = some (4 * xn T0 + 3 + 4 * (i + 1)) ∧ ar T (4 * xn T0 + 3 + 4 * (i + 1)) 20 (cln t i) ∧ ∀ x, x < cln t i → xA T (4 * xn T0 + 3 + 4 * (i + 1)) x = cvl T0 t i x) ∧ (e = 1 → frx T (4 * xn T0 + 3) 4 = frx T0 9 9 ∧ frx T (4 * xn T0 + 3) 5 = frx T0 9 10 ∧ xI T (4 * xn T0 + 3) 6 = bI (decide (107 ∈ vA t.1)))
section XC2
variable {c : CX} {d : Nat} {T T' T0 T1 : XS} {t : TV}
theorem cfl_i : ∀ i, i < 8 → ∀ j, j < 8 → i ≠ j → cfl i ≠ cfl j := by decide
theorem cfl_45 : ∀ i, i < 8 → cfl i ≠ 4 ∧ cfl i ≠ 5 ∧ cfl i ≠ 0 := by decide
theorem i1_ {T : XS} {a : Nat} (h1 : a % 4 = 1) (h2 : a / 4 < 57) : inb T a := Or.inl ⟨h1, h2⟩
theorem CVI.st {j e : Nat} (p : CVI T0 t j e T) (hj : j < 8) (g : grw noc T T') (n : xn T' = xn T + 1 ∧ xk T' = xk T + cln t j) (hl : cln t j ≤ 241) (ha : ar T' (4 * xn T + 3) 20 (cln t j)) (hc : ∀ x, x < cln t j → xA T' (4 * xn T + 3) x = cvl T0 t j x) (hs : SDF T') : CVI T0 t (j + 1) e (tR T' (4 * xn T0 + 3) (cfl j) (some (4 * xn T + 3))) := by
  obtain ⟨p1, p2, p3, p4, p5, p6, p7⟩ := p
  have hnew : ¬ old T0 (4 * xn T0 + 3) := fun q => by have := q (by omega); omega
  have h3 : (4 * xn T0 + 3) % 4 = 3 := by omega
  have ea : 4 * xn T + 3 = 4 * xn T0 + 3 + 4 * (j + 1) := by omega
  have c45 := cfl_45 j hj
  refine ⟨(p1.tr g).R hnew _ _, g.o p2, ⟨by show xn T' = _; omega, by show xk T' ≤ _; omega⟩, hs, ⟨by show xI T' _ _ = _; rw [g.I p2.1 id]; exact p5.1, by show xI T' _ _ = _; rw [g.I p2.1 id]; exact p5.2.1, by show xI T' _ _ = _; rw [g.I p2.1 id]; exact p5.2.2⟩, fun i hi => ?_, fun e1 => ?_⟩
  · by_cases z : i = j
    · subst z
      refine ⟨?_, ?_, ?_⟩
      · rw [frx_put (Or.inl h3), ea]
      · rw [← ea]; exact ha
      · rw [← ea]; exact hc
    · obtain ⟨r1, r2, r3⟩ := p6 i (by omega)
      refine ⟨?_, g.r r2, fun x hx => ?_⟩
      · rw [frx_j (cfl_i i (by omega) j hj z), g.fx p2.1 (Or.inr id)]; exact r1
      · show xA T' _ x = _
        rw [g.A r2.1 id]; exact r3 x hx
  · obtain ⟨r1, r2, r3⟩ := p7 e1
    refine ⟨?_, ?_, ?_⟩
    · rw [frx_j (Ne.symm c45.1), g.fx p2.1 (Or.inr id)]; exact r1
    · rw [frx_j (Ne.symm c45.2.1), g.fx p2.1 (Or.inr id)]; exact r2
    · show xI T' _ _ = _
      rw [g.I p2.1 id]; exact r3
theorem CVI.nwa {j e a s : Nat} (p : CVI T0 t j e T) (hj : j < 6) (h : NWA T T' a s 10) (hc : ∀ x, x < 10 → xA T a (s + x) = cvl T0 t j x) : CVI T0 t (j + 1) e (tR T' (4 * xn T0 + 3) (cfl j) (some (4 * xn T + 3))) := by
  have el : cln t j = 10 := if_pos hj
  exact p.st (by omega) h.1 (by rw [el]; exact h.2.1) (by omega) (by rw [el]; exact h.2.2.1) (fun x hx => by rw [el] at hx; rw [h.2.2.2 x hx]; exact hc x hx) (h.sdf p.2.2.2.1)
theorem NWW.sdf {dr : Nat → Int} {v : CV} (h : NWW dr v T T') (q : SDF T) : SDF T' := q.gr h.1 (fun b h3 w1 w2 k => by
  rw [h.2.1.1] at w2
  rw [show b = 4 * xn T + 3 by omega, h.2.2.1.2] at k
  cases k)
theorem RDX.gr (q : RDX T t) (g : grw noc T T') (s : SDF T') : RDX T' t := by
  obtain ⟨⟨q0, q1, q2⟩, q3, q4, ⟨q5, q6⟩, q7⟩ := q
  refine ⟨⟨by rw [g.I (i1_ rfl (by decide)) id]; exact q0, by rw [g.I (i1_ rfl (by decide)) id]; exact q1, by rw [g.I (i1_ rfl (by decide)) id]; exact q2⟩, fun y hy => by rw [g.A (i1_ rfl (by decide)) id, g.A (i1_ rfl (by decide)) id]; exact q3 y hy, fun i hi => by rw [g.A (i1_ rfl (by decide)) id, g.A (i1_ rfl (by decide)) id]; exact q4 i hi, ⟨?_, ?_⟩, s⟩
  · rw [g.fx (i1_ rfl (by decide)) (Or.inr id)]; exact g.law q5 (fun _ _ _ => id)
  · rw [g.fx (i1_ rfl (by decide)) (Or.inr id)]; exact g.law q6 (fun _ _ _ => id)
theorem x_flag {Q : Option Nat → XS → Prop} (hR : RL c) {k : Nat} (hk : k < 5) (hq : ∀ T', NWA T T' 33 (k * 10) 10 → Q (some (4 * xn T + 3)) T') : XO c (d + 3) m_Cv_flagOfAll [.ref 9, .int (nI k)] T Q := by
  refine wx_Cv_flagOfAll _ ?_
  rw [nI_1, show nI k * (10 : Int32) = nI (k * 10) from nI_mul _ 10, show nI (k + 1) * (10 : Int32) = nI ((k + 1) * 10) from nI_mul _ 10, show (k + 1) * 10 = k * 10 + 10 by omega]
  exact x_copyOfRange (d := d) hR (ar_lit (i := 8) rfl (by decide) rfl) (by decide) (by omega) (by decide) hq
theorem tkS_b {ty ty' : List Bool} {x : Nat} (h : tkS ty x = some ty') : x < 2000 := by
  unfold tkS at h
  by_cases z : 100 ≤ x
  · rw [if_pos z] at h
    by_cases y : ty.length < 60 ∧ (x < 108 ∨ 1000 ≤ x ∧ x < 2000)
    · omega
    · rw [if_neg y] at h; cases h
  · omega
theorem tkL_b : ∀ {l : List Nat} {ty ty' : List Bool}, tkL ty l = some ty' → ∀ x ∈ l, x < 2000
  | [], _, _, _, x, hx => absurd hx List.not_mem_nil
  | y :: l, ty, ty', h, x, hx => by
    rw [tkL] at h
    cases e : tkS ty y with
    | none => rw [e] at h; cases h
    | some t1 =>
      rw [e] at h
      rcases List.mem_cons.mp hx with rfl | hx
      · exact tkS_b e
      · exact tkL_b h x hx
theorem tkC_107 {x : Nat} (hx : x < 2000) : tkC x = 1024 ↔ x = 107 := by
  unfold tkC
  by_cases z : 1000 ≤ x
  · rw [if_pos z]; omega
  rw [if_neg z]
  by_cases y : 100 ≤ x
  · rw [if_pos y]; omega
  rw [if_neg y]
  refine ⟨fun h => ?_, fun h => by omega⟩
  repeat' split at h
  all_goals omega
theorem tkC_b {x : Nat} (hx : x < 2000) : tkC x < 2000 := by
  unfold tkC
  repeat' split
  all_goals omega
set_option maxRecDepth 8000 in
theorem x_tells {Q : Bool → XS → Prop} {o : Option Nat} {l : List Nat} (h : LAWA T o l) (hl : l = [] ∨ lawok l) (hq : Q (decide (107 ∈ l)) T) : XB c d m_Cv_tellsOfNight [va_rf o] T Q := by
  rcases h with ⟨h1, h2⟩ | ⟨b, h1, h2, h3, h4, h5, h6⟩
  · rw [h1]
    rw [h2] at hq
    refine ⟨q_Cv_tellsOfNight, rfl, Nat.le_of_ble_eq_true rfl, ?_⟩
    refine ev_ex 1 (c' := (1, [some .null, none], [.null], hX c T)) rfl ?_
    refine xe_nnl (e := none) (tgt := 6) rfl rfl (fun b w => (by cases w)) (fun _ => ?_)
    refine ev_ex 1 (c' := (5, [some .null, none], [.int 0], hX c T)) rfl ?_
    exact ev_ret rfl rfl rfl ⟨false, _, rfl, rfl, hq⟩
  · rw [h1]
    have hl : lawok l := hl.resolve_left h2
    have l9 := hl.2
    have lb : ∀ i, i < l.length → l.getD i 0 < 2000 := fun i hi => tkL_b hl.1 _ (by rw [List.getD_eq_getElem?_getD, List.getElem?_eq_getElem hi]; exact List.getElem_mem hi)
    refine wx_Cv_tellsOfNight b l.length ?_
    suffices H : ∀ (m k : Nat), k + m = l.length → (∀ i, i < k → l.getD i 0 ≠ 107) → eX c d m_Cv_tellsOfNight 8 [some (.ref b), some (.int (nI k))] T (yB c Q) from H l.length 0 (by omega) (fun i hi => absurd hi (Nat.not_lt_zero i))
    intro m
    induction m with
    | zero =>
      intro k hk hno
      refine wx_Cv_tellsOfNight_8 b l.length _ ⟨h4, fun _ => ?_, fun z => absurd ((nI_leI (by omega) (by omega)).mpr (by omega)) z⟩
      rwa [decide_eq_false (fun hm => by
        obtain ⟨i, hi, e⟩ := List.getElem_of_mem hm
        exact hno i (by omega) (by rw [List.getD_eq_getElem?_getD, List.getElem?_eq_getElem hi]; exact e))] at hq
    | succ m ih =>
      intro k hk hno
      refine wx_Cv_tellsOfNight_8 b l.length _ ⟨h4, fun z => absurd ((nI_leI (by omega) (by omega)).mp z) (by omega), fun _ => ⟨okn (by omega) (by omega), ?_⟩⟩
      have b1 := lb k (by omega)
      have b2 := tkC_b b1
      rw [ix_nI (by omega), h6 k (by omega), show (nI (tkC (l.getD k 0)) = (1024 : Int32)) = (l.getD k 0 = 107) from propext ((nI_inj (b := 1024) (by omega) (by decide)).trans (tkC_107 b1)), nI_1]
      refine ⟨fun z => ih (k + 1) (by omega) (fun i hi => ?_), fun z => ?_⟩
      · by_cases w : i = k
        · rw [w]; exact z
        · exact hno i (by omega)
      · rwa [decide_eq_true (by
          rw [← z, List.getD_eq_getElem?_getD, List.getElem?_eq_getElem (show k < l.length by omega)]
          exact List.getElem_mem _)] at hq
/-- a carnival as told, and whom, and ranks -/
def CVT (T : XS) (a : Nat) (t : TV) : Prop := CAR T a t.1 ∧ ∀ g, g < vG t.1 → xA T (a + 4) g = oI (t.2 g) ∧ xA T (a + 8) g = nI (vF t.1 0 g)
theorem CVI.cvt (rd : RDX T0 t) (tok : TOK t) (p : CVI T0 t 8 1 T) : CVT T (4 * xn T0 + 3) t := by
  obtain ⟨p1, p2, p3, p4, p5, p6, p7⟩ := p
  obtain ⟨r1, r2, r3⟩ := p7 rfl
  obtain ⟨⟨q0, q1, q2⟩, q3, q4, ⟨q5, q6⟩, q7⟩ := rd
  have hG : vG t.1 ≤ 10 := tok.1.1
  obtain ⟨a0, b0, c0⟩ := p6 0 (by decide)
  obtain ⟨a1, b1, c1⟩ := p6 1 (by decide)
  obtain ⟨a2, b2, c2⟩ := p6 2 (by decide)
  obtain ⟨a3, b3, c3⟩ := p6 3 (by decide)
  obtain ⟨a4, b4, c4⟩ := p6 4 (by decide)
  obtain ⟨a5, b5, c5⟩ := p6 5 (by decide)
  obtain ⟨a6, b6, c6⟩ := p6 6 (by decide)
  obtain ⟨a7, b7, c7⟩ := p6 7 (by decide)
  have en : nst T (4 * xn T0 + 3) = stp t.1 (vT t.1) := by
    show (shx T (4 * xn T0 + 3 + 28)).2 = _
    rw [show 4 * xn T0 + 3 + 28 = 4 * xn T0 + 3 + 4 * (6 + 1) from rfl, b6.2]
    rfl
  refine ⟨⟨⟨p2, ⟨a0, a1, a2, a3, a4, a5, a6, a7⟩, b0, b1, b2, b3, b4, b5, by rw [en]; exact b6, by rw [en]; exact b7⟩, Or.inr (by omega), p5, ?_, ?_, r3, fun g hg => ?_, en, fun k hk => ⟨c6 k hk, c7 k hk⟩⟩, fun g hg => ?_⟩
  · rw [r1]; exact p1.law q5 (fun _ _ _ => id)
  · rw [r2]; exact p1.law q6 (fun _ _ _ => id)
  · have f := (q3 g hg).2
    exact ⟨(c2 g (by show g < 10; omega)).trans (f 1 (by decide)), (c3 g (by show g < 10; omega)).trans (f 2 (by decide)), (c4 g (by show g < 10; omega)).trans (f 3 (by decide)), (c5 g (by show g < 10; omega)).trans (f 4 (by decide))⟩
  · exact ⟨(c0 g (by show g < 10; omega)).trans (q3 g hg).1, (c1 g (by show g < 10; omega)).trans ((q3 g hg).2 0 (by decide))⟩
end XC2
