/-! lines of the text, read by the class -/
abbrev rdS (b : Nat) : Prop := b = 9 ∨ b = 13 ∨ b = 21 ∨ b = 25 ∨ b = 29 ∨ b = 33 ∨ b = 37 ∨ b = 41 ∨ b = 45
def RFX (z : Nat) (T T' : XS) : Prop := grw rdS T T' ∧ gw z z T T'
def RKX (z : Nat) (T T' : XS) : Prop := RFX z T T' ∧ xI T' 13 6 = xI T 13 6 ∧ xI T' 13 7 = xI T 13 7
def RBX (z : Nat) (T T' : XS) (k p : Nat) : Prop := RFX z T T' ∧ xI T' 13 6 = nI k ∧ xI T' 13 7 = nI p
/-- what is told so far -/
def RDX (T : XS) (t : TV) : Prop := (xI T 9 6 = nI (vL t.1) ∧ xI T 9 7 = nI (vG t.1) ∧ xI T 9 8 = nI (vT t.1)) ∧ (∀ g, g < vG t.1 → xA T 37 g = oI (t.2 g) ∧ ∀ k, k < 5 → xA T 33 (k * 10 + g) = nI (vF t.1 k g)) ∧ (∀ i, i < vT t.1 → xA T 41 i = nI (vY t.1 i) ∧ xA T 45 i = nI (vP t.1 i)) ∧ (LAWA T (frx T 9 9) (vM t.1) ∧ LAWA T (frx T 9 10) (vA t.1)) ∧ SDF T
section XN1
variable {c : CX} {d n h z z' : Nat} {f : Nat → Nat} {T T' T1 T2 : XS} {t : TV}
theorem RFX.tr (a : RFX z T T1) (b : RFX z' T1 T2) : RFX (z + z') T T2 := ⟨a.1.tr b.1, a.2.tr b.2⟩
theorem RFX.up (a : RFX z T T1) (h : z ≤ z') : RFX z' T T1 := ⟨a.1, a.2.up h h⟩
theorem RKX.tr (a : RKX z T T1) (b : RKX z' T1 T2) : RKX (z + z') T T2 := ⟨a.1.tr b.1, b.2.1.trans a.2.1, b.2.2.trans a.2.2⟩
theorem RKX.up (a : RKX z T T1) (h : z ≤ z') : RKX z' T T1 := ⟨a.1.up h, a.2⟩
theorem RKX.bad {k p : Nat} (a : RKX z T T1) (b : RBX z' T1 T2 k p) : RBX (z + z') T T2 k p := ⟨a.1.tr b.1, b.2⟩
theorem RBX.up {k p : Nat} (a : RBX z T T1 k p) (h : z ≤ z') : RBX z' T T1 k p := ⟨a.1.up h, a.2⟩
theorem RKX.rf : RKX z T T := ⟨⟨grw.rf, gw.rf _ _⟩, rfl, rfl⟩
theorem rfx_frm {S : Nat → Prop} (a : frm S T T') (hs : ∀ b, S b → rdS b) : RFX 0 T T' := ⟨(a.mono hs).grw, a.gw _ _⟩
theorem MVD.k (a : MVD T T') : RKX 0 T T' := ⟨rfx_frm a.1 (fun b hb => Or.inr (Or.inl hb)), a.2.2.2.1, a.2.2.2.2⟩
theorem lrS_r : ∀ b, lrS b → rdS b := fun b hb => by rcases hb with h | h | h | h <;> omega
theorem LFR.k (a : LFR T T') : RKX 0 T T' := ⟨rfx_frm a.1 lrS_r, a.2.2.2.1, a.2.2.2.2⟩
theorem LFF.k {k p : Nat} (a : LFF T T' k p) : RBX 0 T T' k p := ⟨rfx_frm a.1 lrS_r, a.2⟩
theorem RDX.fr {S : Nat → Prop} (q : RDX T t) (a : frm S T T') (n9 : ¬ S 9) (n33 : ¬ S 33) (n37 : ¬ S 37) (n41 : ¬ S 41) (n45 : ¬ S 45) (nn : ∀ b, b % 4 = 3 → ¬ S b) : RDX T' t := by
  obtain ⟨⟨q0, q1, q2⟩, q3, q4, ⟨q5, q6⟩, q7⟩ := q
  refine ⟨⟨by rw [a.I n9]; exact q0, by rw [a.I n9]; exact q1, by rw [a.I n9]; exact q2⟩, fun g hg => by rw [a.A n37, a.A n33]; exact q3 g hg, fun i hi => by rw [a.A n41, a.A n45]; exact q4 i hi, ⟨?_, ?_⟩, a.sdf q7⟩
  · rw [a.fx (Or.inr n9)]; exact a.law q5 (fun b h3 _ => nn b h3)
  · rw [a.fx (Or.inr n9)]; exact a.law q6 (fun b h3 _ => nn b h3)
theorem RDX.mv (q : RDX T t) (a : MVD T T') : RDX T' t := q.fr a.1 (by decide) (by decide) (by decide) (by decide) (by decide) (fun b h3 e => by omega)
theorem RDX.lr (q : RDX T t) (a : LFR T T') : RDX T' t := q.fr a.1 (by decide) (by decide) (by decide) (by decide) (by decide) (fun b h3 e => by rcases e with e | e | e | e <;> omega)
theorem tks_frm {S : Nat → Prop} (q : TKS T f n h) (a : frm S T T') (n13 : ¬ S 13) (n5 : ¬ S 5) : TKS T' f n h := ⟨by rw [a.fx (Or.inr n13)]; exact q.1, by rw [a.I n13]; exact q.2.1, by rw [a.I n13]; exact q.2.2.1, q.2.2.2.1, q.2.2.2.2.1, fun j hj => by rw [a.A n5]; exact q.2.2.2.2.2 j hj⟩
theorem x_ref {Q : Bool → XS → Prop} {k : Nat} (q : TKA T f n h) (hq : ∀ T', RBX 0 T T' (fkk f n h k) (bgn f n h) → Q false T') : XB c d m_Tk_refuse [.ref 13, .int (nI k)] T Q := x_refuse q (fun T' ff _ => hq T' ff.k)
theorem x_num {Q : Bool → XS → Prop} {lo hb : Nat} {hi : Int32} {K : Nat → PL} {r : (Nat × TV) ⊕ (Nat × Nat)} (q : TKA T f n h) (hlo : lo < 1000) (hh : ∀ x, x < 1000 → (nI x ≤ hi ↔ x < hb)) (e : numP f n h lo hb K = some r) (yes : kd f n h = 36 → lo ≤ vl f n h → vl f n h < hb → K (vl f n h) = some r → xI T 13 5 = nI (vl f n h) → Q true T) (bad : ∀ k p, r = .inr (k, p) → ∀ T', RBX 0 T T' k p → Q false T') : XB c (d + 1) m_Tk_isNumber [.ref 13, .int (nI lo), .int hi] T Q := by
  have v9 := vl_lt (f := f) q.2.1
  have k40 := kd_40 f n h
  unfold numP at e
  refine wx_Tk_isNumber _ _ ?_
  rw [q.2.2.2.1, show (nI (kd f n h) = (36 : Int32)) = (kd f n h = 36) from propext (nI_inj (b := 36) (by omega) (by decide))]
  refine ⟨fun z => ?_, fun z => ?_⟩
  · rw [if_pos z] at e
    have e5 := q.2.2.2.2 z
    rw [e5, show (nI (vl f n h) < nI lo) = (vl f n h < lo) from propext (nI_ltI (by omega) (by omega)), show (nI (vl f n h) ≤ hi) = (vl f n h < hb) from propext (hh _ v9)]
    have no : ¬ (lo ≤ vl f n h ∧ vl f n h < hb) → XB c d m_Tk_refuse [.ref 13, .int 3] T (fun v2 T1 => (v2 = false → Q false T1) ∧ (v2 = true → Q true T1)) := fun y => by
      rw [if_neg y] at e
      exact x_ref (k := 3) q (fun T' b => ⟨fun _ => bad _ _ (Option.some.inj e).symm T' b, fun w => (by cases w)⟩)
    refine ⟨fun y => no (by omega), fun y => ⟨fun w => ?_, fun w => no (by omega)⟩⟩
    rw [if_pos ⟨by omega, w⟩] at e
    exact yes z (by omega) w e e5
  · rw [if_neg z] at e
    exact x_ref (k := 2) q (fun T' b => bad _ _ (Option.some.inj e).symm T' b)
theorem x_semi {Q : Bool → XS → Prop} {r : (Nat × TV) ⊕ (Nat × Nat)} (q : TKA T f n h) (e : stopP f n h t = some r) (yes : r = .inl (nx f n h, t) → Q true T) (bad : ∀ k p, r = .inr (k, p) → ∀ T', RBX 0 T T' k p → Q false T') : XB c (d + 1) m_Tk_isSemicolon [.ref 13] T Q := by
  have k40 := kd_40 f n h
  unfold stopP at e
  refine wx_Tk_isSemicolon ?_
  rw [q.2.2.2.1, show (nI (kd f n h) = (25 : Int32)) = (kd f n h = 25) from propext (nI_inj (b := 25) (by omega) (by decide))]
  refine ⟨fun z => ?_, fun z => ?_⟩
  · rw [if_pos z] at e
    exact yes (Option.some.inj e).symm
  · rw [if_neg z] at e
    exact x_ref (k := 2) q (fun T' b => ⟨fun _ => bad _ _ (Option.some.inj e).symm T' b, fun w => (by cases w)⟩)
theorem fl_i : ∀ k, k < 5 → ([(0), (1), (0), (0), (1)].getD k 0 : Int32) = nI (flo k) ∧ ([(99), (9), (9), (9), (99)].getD k 0 : Int32) = nI (fhi k) ∧ ([(0), (1), (0), (0), (0)].getD k 0 : Int32) = nI (ffs k) := by decide
theorem RDX.flag {g k x : Nat} (q : RDX T t) (hG : vG t.1 ≤ 10) (hg : g < vG t.1) (hk : k < 5) : RDX (tA T 33 (k * 10 + g) (nI x)) (tvF t (upF (vF t.1) k g x)) := by
  have f1 : frm (fun b => b = 33) T (tA T 33 (k * 10 + g) (nI x)) := frm_A (S := fun b => b = 33) rfl _ _
  obtain ⟨⟨q0, q1, q2⟩, q3, q4, ⟨q5, q6⟩, q7⟩ := q
  refine ⟨⟨q0, q1, q2⟩, fun y hy => ?_, fun i hi => ?_, ⟨?_, ?_⟩, f1.sdf q7⟩
  · have hy : y < vG t.1 := hy
    rw [f1.A (by decide)]
    refine ⟨(q3 y hy).1, fun j hj => ?_⟩
    rw [xA_A, if_pos rfl]
    show (if _ = _ then _ else _) = nI (if _ then _ else _)
    by_cases e : j = k ∧ y = g
    · rw [if_pos e, if_pos (by rw [e.1, e.2])]
    · rw [if_neg e, if_neg (by omega)]
      exact (q3 y hy).2 j hj
  · rw [f1.A (by decide), f1.A (by decide)]; exact q4 i hi
  · rw [f1.fx (Or.inr (by decide))]; exact f1.law q5 (fun b h3 _ => by omega)
  · rw [f1.fx (Or.inr (by decide))]; exact f1.law q6 (fun b h3 _ => by omega)
theorem x_guild_lp {Q : Bool → XS → Prop} {g : Nat} (hf : fvok c) : ∀ (F h : Nat) (t : TV) (r : (Nat × TV) ⊕ (Nat × Nat)), gldP f n g F h t = some r → ∀ (T : XS) (i : Nat), TKS T f n h → RDX T t → vG t.1 ≤ 10 → g < vG t.1 → i ≤ h →
    (∀ h' t', r = .inl (h', t') → ∀ T', RKX 0 T T' → TKS T' f n h' → RDX T' t' → Q true T') → (∀ k p, r = .inr (k, p) → ∀ T', RBX 0 T T' k p → Q false T') → eX c (d + 7) m_Rd_readGuild 71 [some (.ref 9), some (.int (nI g)), some (.int (nI i)), none] T (yB c Q)
  | 0, _, _, _, q => by rw [gldP] at q; cases q
  | F + 1, h, t, r, e => by
    intro T i tk rd hG hg hi ok bad
    have k40 := kd_40 f n h
    have h9 := tk.2.2.2.2.1
    have hn := tk.2.2.2.1
    rw [gldP] at e
    refine wx_Rd_readGuild_71 _ _ ⟨fun z => absurd ((nI_ltI (a := 900) (by decide) (by omega)).mp z) (by omega), fun _ => x_move (d := d) hf tk (fun T1 mv ta => ?_)⟩
    have rd1 := rd.mv mv
    rw [ta.2.2.2.1, show (nI (kd f n h) = (25 : Int32)) = (kd f n h = 25) from propext (nI_inj (b := 25) (by omega) (by decide)), show (nI (kd f n h) < (5 : Int32)) = (kd f n h < 5) from propext (nI_ltI (b := 5) (by omega) (by decide)), show (nI (kd f n h) ≤ (9 : Int32)) = (kd f n h ≤ 9) from propext (nI_leI (b := 9) (by omega) (by decide))]
    refine ⟨fun z => ?_, fun z => ?_⟩
    · rw [if_neg z] at e
      have no : ¬ (5 ≤ kd f n h ∧ kd f n h ≤ 9) → XB c (d + 6) m_Tk_refuse [.ref 13, .int 2] T1 (fun v55 T54 => Q v55 T54) := fun y => by
        rw [if_neg y] at e
        exact x_ref (k := 2) ta (fun T' b => bad _ _ (Option.some.inj e).symm T' (mv.k.bad b))
      refine ⟨fun y => no (by omega), fun y => ⟨fun w => ?_, fun w => no (by omega)⟩⟩
      rw [if_pos ⟨by omega, w⟩] at e
      have a0 := kd_nx (f := f) hn (show kd f n h ≠ 37 by omega)
      refine x_move (d := d) hf ta.1 (fun T2 mv2 ta2 => ?_)
      have rd2 := rd1.mv mv2
      obtain ⟨l1, l2, -⟩ := fl_i (kd f n h - 5) (by omega)
      rw [show nI (kd f n h) - (5 : Int32) = nI (kd f n h - 5) from nI_sub (b := 5) (by omega), ix_nI (by omega), l1, l2, show nI (kd f n h - 5) * (10 : Int32) = nI ((kd f n h - 5) * 10) from nI_mul _ 10, nI_add, ix_nI (by omega)]
      obtain ⟨b1, b2, b3, b4, b5, b6, b7, b8⟩ := flg_b (kd f n h - 5) (by omega)
      refine ⟨okn (by omega) (by decide), okn (by omega) (by decide), x_num (d := d + 5) ta2 (by omega) (fun x hx => ?_) e (fun y1 y2 y3 y4 y5 => ⟨fun _ => ⟨okn (by omega) (by decide), ?_⟩, fun w => (by cases w)⟩) (fun k p er T' b => ⟨fun w => (by cases w), fun _ => bad k p er T' (((mv.k).tr mv2.k).bad b)⟩)⟩
      · rw [nI_leI (by omega) (by omega)]; omega
      · rw [y5, nI_1]
        have f3 : frm (fun b => b = 33) T2 (tA T2 33 ((kd f n h - 5) * 10 + g) (nI (vl f n (nx f n h)))) := frm_A (S := fun b => b = 33) rfl _ _
        have k3 : RKX 0 T2 (tA T2 33 ((kd f n h - 5) * 10 + g) (nI (vl f n (nx f n h)))) := ⟨rfx_frm f3 (fun b hb => by omega), rfl, rfl⟩
        have kk := (mv.k.tr mv2.k).tr k3
        exact x_guild_lp hf F _ _ r y4 _ (i + 1) (tks_frm ta2.1 f3 (by decide) (by decide)) (rd2.flag hG hg (by omega)) hG hg (by have := nx_b (f := f) a0.2; omega) (fun h' t' er T' k4 tk4 rd4 => ok h' t' er T' (kk.tr k4) tk4 rd4) (fun k p er T' b => bad k p er T' (kk.bad b))
    · rw [if_pos z] at e
      exact ok _ _ (Option.some.inj e).symm T1 mv.k ta.1 rd1
end XN1
