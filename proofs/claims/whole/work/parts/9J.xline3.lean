/-! lines of the text, read by the class: any line -/
section XN3
variable {c : CX} {d n h : Nat} {f : Nat → Nat} {T T' T1 T2 : XS} {t : TV} {r : (Nat × TV) ⊕ (Nat × Nat)} {Q : Bool → XS → Prop}
theorem lawP_len {h' : Nat} {cc : List Nat} (hn : h ≤ n) (q : lawP f n h = some (.inl (h', cc))) : h + cc.length ≤ h' := by
  rcases lawP_cases (f := f) hn with ⟨k, p, e1, e2⟩ | ⟨h1, c1, e1, e2⟩
  · rw [q] at e1; cases e1
  · rw [e2] at q
    obtain ⟨p1, p2, p3⟩ := psP _ _ _ _ _ _ hn e1
    by_cases z : kd f n h1 = 25
    · rw [if_pos z] at q
      cases q
      have := nx_b (f := f) p2
      omega
    · rw [if_neg z] at q
      cases q
theorem grw_R9 (k : Nat) (x : Option Nat) : grw rdS T (tR T 9 k x) :=
  ⟨Nat.le_refl _, fun b hb => ⟨rfl, fun j q => if_neg (fun e => q.elim (fun z => z.2 e.1) (fun z => z (Or.inl e.1))), fun _ => ⟨fun _ => rfl, rfl, rfl, rfl⟩⟩⟩
theorem rfx_R9 (k : Nat) (x : Option Nat) : RKX 0 T (tR T 9 k x) := ⟨⟨grw_R9 k x, ⟨Nat.le_refl _, Nat.le_refl _, id⟩⟩, rfl, rfl⟩
/-- a new array is no part of a standing -/
theorem NWA.nb {a s m : Nat} (h : NWA T T' a s m) (q : SDF T) : NB T' (4 * xn T + 3) := fun b hb => by
  obtain ⟨g1, ⟨n1, -⟩, a1, -⟩ := h
  rcases hb.1 with ⟨i1, i2⟩ | ⟨i1, i2⟩
  · have e : b = 93 ∨ b = 173 := by
      have k := hb.2
      unfold shx at k
      rw [if_pos i1] at k
      have e : ∀ i, i < 57 → (fixS i).1 = 9 → i = 23 ∨ i = 43 := by decide
      have := e _ i2 k
      omega
    rcases e with rfl | rfl
    · exact ⟨fun w => (by have : sW 93 = 97 := rfl; omega), fun w => (by have : sM 93 = 101 := rfl; omega), fun w => (by have : sR 93 = 105 := rfl; omega)⟩
    · exact ⟨fun w => (by have : sW 173 = 213 := rfl; omega), fun w => (by have : sM 173 = 217 := rfl; omega), fun w => (by have : sR 173 = 221 := rfl; omega)⟩
  · obtain ⟨u1, u2, u3⟩ := sW_3 i1
    by_cases z : b / 4 < xn T
    · have ib : inb T b := Or.inr ⟨i1, z⟩
      have := q b i1 ⟨ib, by rw [← g1.sh ib]; exact hb.2⟩
      omega
    · have e : b = 4 * xn T + 3 := by omega
      have k := hb.2
      rw [e, a1.2] at k
      cases k
theorem rdx_law {cc : List Nat} (rd : RDX T t) (l1 : LFR T T1) (nw : NWA T1 T' 25 0 cc.length) (hne : cc ≠ []) (hc : ∀ i, i < cc.length → xA T1 25 i = nI (tkC (cc.getD i 0))) : RDX (tR T' 9 9 (some (4 * xn T1 + 3))) (tvM t cc) ∧ RDX (tR T' 9 10 (some (4 * xn T1 + 3))) (tvA t cc) := by
  have rd1 := rd.lr l1
  obtain ⟨⟨q0, q1, q2⟩, q3, q4, ⟨q5, q6⟩, q7⟩ := rd1
  have g := nw.1
  have i9 : ∀ {a}, a % 4 = 1 → a / 4 < 57 → inb T1 a := fun h1 h2 => Or.inl ⟨h1, h2⟩
  have s7 := nw.sdf q7
  have law : LAWA T' (some (4 * xn T1 + 3)) cc := Or.inr ⟨_, rfl, hne, by omega, nw.2.2.1, nw.nb q7, fun i hi => by rw [nw.2.2.2 i hi, Nat.zero_add]; exact hc i hi⟩
  have p5 : LAWA T' (frx T' 9 9) (vM t.1) := by rw [g.fx (i9 rfl (by decide)) (Or.inr id)]; exact g.law q5 (fun _ _ _ => id)
  have p6 : LAWA T' (frx T' 9 10) (vA t.1) := by rw [g.fx (i9 rfl (by decide)) (Or.inr id)]; exact g.law q6 (fun _ _ _ => id)
  have b0 : xI T' 9 6 = nI (vL t.1) ∧ xI T' 9 7 = nI (vG t.1) ∧ xI T' 9 8 = nI (vT t.1) := ⟨by rw [g.I (i9 rfl (by decide)) id]; exact q0, by rw [g.I (i9 rfl (by decide)) id]; exact q1, by rw [g.I (i9 rfl (by decide)) id]; exact q2⟩
  have b3 : ∀ y, y < vG t.1 → xA T' 37 y = oI (t.2 y) ∧ ∀ k, k < 5 → xA T' 33 (k * 10 + y) = nI (vF t.1 k y) := fun y hy => by rw [g.A (i9 rfl (by decide)) id, g.A (i9 rfl (by decide)) id]; exact q3 y hy
  have b4 : ∀ i, i < vT t.1 → xA T' 41 i = nI (vY t.1 i) ∧ xA T' 45 i = nI (vP t.1 i) := fun i hi => by rw [g.A (i9 rfl (by decide)) id, g.A (i9 rfl (by decide)) id]; exact q4 i hi
  refine ⟨⟨b0, b3, b4, ⟨?_, ?_⟩, s7⟩, ⟨b0, b3, b4, ⟨?_, ?_⟩, s7⟩⟩
  · rw [frx_put (Or.inr rfl)]; exact law
  · rw [frx_j (by decide)]; exact p6
  · rw [frx_j (by decide)]; exact p5
  · rw [frx_put (Or.inr rfl)]; exact law
theorem x_line (hR : RL c) (hf : fvok c) (q : TKA T f n h) (rd : RDX T t) (tok : TOK t) (e : lineP f n h t = some r)
    (ok : ∀ h' t', r = .inl (h', t') → ∀ T', RKX (h' - h) T T' → TKS T' f n h' → RDX T' t' → Q true T') (bad : ∀ k p, r = .inr (k, p) → ∀ T', RBX 0 T T' k p → Q false T') : XB c (d + 8) m_Rd_readLine [.ref 9] T Q := by
  have hn := q.2.1
  have b1 := nx_b (f := f) hn
  have k40 := kd_40 f n h
  have h9 := q.1.2.2.2.2.1
  refine wx_Rd_readLine ?_
  have key : ∀ j : Nat, j < 2 ^ 31 → ((nI (kd f n h) = nI j) = (kd f n h = j)) := fun j hj => propext (nI_inj (by omega) hj)
  rw [q.2.2.2.1, show (nI (kd f n h) = (0 : Int32)) = _ from key 0 (by decide), show (nI (kd f n h) = (1 : Int32)) = _ from key 1 (by decide), show (nI (kd f n h) = (2 : Int32)) = _ from key 2 (by decide), show (nI (kd f n h) = (3 : Int32)) = _ from key 3 (by decide), show (nI (kd f n h) = (4 : Int32)) = _ from key 4 (by decide)]
  have lawC : ∀ (K : List Nat → TV) (kk : Nat), lawT (lawP f n (nx f n h)) K = some r → (∀ (cc : List Nat) T1 T2, LFR T T1 → NWA T1 T2 25 0 cc.length → cc ≠ [] → (∀ i, i < cc.length → xA T1 25 i = nI (tkC (cc.getD i 0))) → RDX (tR T2 9 kk (some (4 * xn T1 + 3))) (K cc)) → XO c (d + 7) m_Lr_read [.ref 21, .ref 13] T (fun v6 T5 => ((v6 = none → Q false (tR T5 9 kk v6)) ∧ (∀ b7, v6 = some b7 → Q true (tR T5 9 kk v6)))) := fun K kk e rl => by
    match e1 : lawP f n (nx f n h) with
    | none => exact absurd e1 (lawP_none b1.2)
    | some rr =>
      rw [e1] at e
      refine x_law (d := d) hR hf q.1 e1 (fun h' cc er T1 T2 l1 nw tk1 hc => ⟨fun w => (by cases w), fun b _ => ?_⟩) (fun k p er T2 ff => ⟨fun _ => ?_, fun b w => (by cases w)⟩)
      · subst er
        obtain ⟨w1, w2, w3, w4⟩ := lawP_ok b1.2 h9 e1
        have wl := lawP_len b1.2 e1
        have rd2 := rl cc T1 T2 l1 nw w2 hc
        have g := nw.1
        have i9 : ∀ {a}, a % 4 = 1 → a / 4 < 57 → inb T1 a := fun h1 h2 => Or.inl ⟨h1, h2⟩
        have k2 : RKX (h' - h) T1 T2 := ⟨⟨g.mono (fun _ z => z.elim), nw.gw.up (by omega) (by omega)⟩, g.I (i9 rfl (by decide)) id 6, g.I (i9 rfl (by decide)) id 7⟩
        have tk2 : TKS T2 f n h' := ⟨by rw [g.fx (i9 rfl (by decide)) (Or.inr id)]; exact tk1.1, by rw [g.I (i9 rfl (by decide)) id]; exact tk1.2.1, by rw [g.I (i9 rfl (by decide)) id]; exact tk1.2.2.1, tk1.2.2.2.1, tk1.2.2.2.2.1, fun j hj => by rw [g.A (i9 rfl (by decide)) id]; exact tk1.2.2.2.2.2 j hj⟩
        exact ok h' (K cc) (Option.some.inj e).symm _ (((l1.k.tr k2).tr (rfx_R9 kk _)).up (by omega)) tk2 rd2
      · subst er
        exact bad k p (Option.some.inj e).symm _ (RBX.up (z := 0) ⟨ff.k.1.tr (rfx_R9 kk none).1, ff.k.2⟩ (by decide))
  have ok0 : ∀ h' t', r = .inl (h', t') → ∀ T', RKX 0 T T' → TKS T' f n h' → RDX T' t' → Q true T' := fun h' t' er T' k tk rd => ok h' t' er T' (k.up (Nat.zero_le _)) tk rd
  refine ⟨fun z => x_guildL (d := d) hf q rd tok z e ok0 bad, fun z => x_mocksL (d := d) hf q rd tok z e ok0 bad, fun z => ?_, fun z => ?_, fun z => x_streetL (d := d) hf q rd tok z e ok0 bad, fun z => ?_⟩
  · unfold lineP at e
    rw [if_neg (by omega), if_neg (by omega), if_pos z] at e
    exact lawC (tvM t) 9 e (fun cc T1 T2 l1 nw ne hc => (rdx_law rd l1 nw ne hc).1)
  · unfold lineP at e
    rw [if_neg (by omega), if_neg (by omega), if_neg (by omega), if_pos z] at e
    exact lawC (tvA t) 10 e (fun cc T1 T2 l1 nw ne hc => (rdx_law rd l1 nw ne hc).2)
  · unfold lineP at e
    rw [if_neg z.1, if_neg z.2.1, if_neg z.2.2.1, if_neg z.2.2.2.1, if_neg z.2.2.2.2] at e
    exact x_ref (k := 2) q (fun T' b => bad _ _ (Option.some.inj e).symm T' b)
end XN3
