/-! rules of runs over the class's cells -/
section XE1
variable {c : CX} {d mi pc : Nat} {L : mj_L} {st r : List Value} {T T' : XS} {Q : PO} {a idx len : Nat}
theorem inb_4 (h : inb T a) : a % 4 ≠ 0 := by rcases h with ⟨h1, -⟩ | ⟨h1, -⟩ <;> omega
theorem xe_gf {ci k w : Nat} {v v0 : Value} (hi : mj_ins (cP c) mi pc = some (.getfield idx, len)) (hl : mj_lnk (cP c) mi idx = some (0, ci, k, w, v0)) (ho : ob T a ci) (hc : 2 ≤ ci ∧ ci ≤ 12) (hk : (flds ci T a)[k]? = some v) (kk : ev (cP c) d mi (pc + len) L (v :: r) (hX c T) Q) : ev (cP c) d mi pc L (.ref a :: r) (hX c T) Q :=
  ev_gf hi hl (by rw [x_get ho.1, ob_cell ho hc]) ⟨fun q => absurd q (inb_4 ho.1), fun q => by omega⟩ hk kk
theorem xe_pi {ci k w : Nat} {x : Int32} {v0 : Value} (hi : mj_ins (cP c) mi pc = some (.putfield idx, len)) (hl : mj_lnk (cP c) mi idx = some (0, ci, k, w, v0)) (ho : ob T a ci) (hc : 2 ≤ ci ∧ ci ≤ 12) (hk : k < (flds ci T a).length) (hf : mj_fit w (.int x) = true) (hs : (flds ci T a).set k (.int x) = flds ci (tI T a k x) a) (kk : ev (cP c) d mi (pc + len) L r (hX c (tI T a k x)) Q) : ev (cP c) d mi pc L (.int x :: .ref a :: r) (hX c T) Q :=
  ev_pf hi hl (by rw [x_get ho.1, ob_cell ho hc]) (inb_4 ho.1) hk hf (x_setI ho hc hs) kk
theorem fit1 (o : Option Nat) : mj_fit 1 (va_rf o) = true := by cases o <;> rfl
theorem xe_pr {ci k : Nat} {x : Option Nat} {v0 : Value} (hi : mj_ins (cP c) mi pc = some (.putfield idx, len)) (hl : mj_lnk (cP c) mi idx = some (0, ci, k, 1, v0)) (ho : ob T a ci) (hc : 2 ≤ ci ∧ ci ≤ 12) (hk : k < (flds ci T a).length) (hs : (flds ci T a).set k (va_rf x) = flds ci (tR T a k x) a) (kk : ev (cP c) d mi (pc + len) L r (hX c (tR T a k x)) Q) : ev (cP c) d mi pc L (va_rf x :: .ref a :: r) (hX c T) Q :=
  ev_pf hi hl (by rw [x_get ho.1, ob_cell ho hc]) (inb_4 ho.1) hk (fit1 x) (x_setR ho hc hs) kk
/-- what may be put at this field stays there -/
theorem frx_put {k : Nat} {x : Option Nat} (h : a % 4 = 3 ∨ fixR (a / 4) k x = x) : frx (tR T a k x) a k = x := by
  unfold frx
  have e : xR (tR T a k x) a k = x := if_pos ⟨rfl, rfl⟩
  rw [e]
  split
  · rcases h with h | h
    · omega
    · exact h
  · rfl
theorem xe_al {n : Nat} {j : Int32} (hi : mj_ins (cP c) mi pc = some (.iaload, len)) (ha : ar T a 20 n) (hj : okx j n) (kk : ev (cP c) d mi (pc + len) L (.int (xA T a (ix j)) :: r) (hX c T) Q) : ev (cP c) d mi pc L (.int j :: .ref a :: r) (hX c T) Q :=
  ev_ald (ty := .int) (A := (n, .inl (xA T a))) hi (Or.inl rfl) (by rw [x_get ha.1, ar_int ha]) hj rfl kk
theorem xe_bl {n : Nat} {j : Int32} (hi : mj_ins (cP c) mi pc = some (.baload, len)) (ha : ar T a 21 n) (hj : okx j n) (kk : ev (cP c) d mi (pc + len) L (.int (xA T a (ix j)) :: r) (hX c T) Q) : ev (cP c) d mi pc L (.int j :: .ref a :: r) (hX c T) Q :=
  ev_ald (ty := .byte) (A := (n, .inl (xA T a))) hi (Or.inr (Or.inl rfl)) (by rw [x_get ha.1, ar_byte ha]) hj rfl kk
theorem xe_ll {n : Nat} {j : Int32} (hi : mj_ins (cP c) mi pc = some (.laload, len)) (ha : ar T a 22 n) (hj : okx j n) (kk : ev (cP c) d mi (pc + len) L (.long (xL T a (ix j)) :: r) (hX c T) Q) : ev (cP c) d mi pc L (.int j :: .ref a :: r) (hX c T) Q :=
  ev_ald (ty := .long) (A := (n, .inr (.inl (xL T a)))) hi (Or.inr (Or.inr (Or.inl rfl))) (by rw [x_get ha.1, ar_long ha]) hj rfl kk
theorem xe_ql {kd n : Nat} {j : Int32} (hi : mj_ins (cP c) mi pc = some (.aaload, len)) (ha : ar T a kd n) (hk : kd = 23 ∨ kd = 24 ∨ kd = 25) (hj : okx j n) (kk : ev (cP c) d mi (pc + len) L (va_rf (xQ T a (ix j)) :: r) (hX c T) Q) : ev (cP c) d mi pc L (.int j :: .ref a :: r) (hX c T) Q :=
  ev_ald (ty := .object (qn kd).1) (A := (n, .inr (.inr (.inr (.inr (xQ T a)))))) hi (Or.inr (Or.inr (Or.inr rfl))) (by rw [x_get ha.1, ar_q ha hk]) hj rfl kk
theorem xe_as {n : Nat} {j x : Int32} (hi : mj_ins (cP c) mi pc = some (.iastore, len)) (ha : ar T a 20 n) (hj : okx j n) (kk : ev (cP c) d mi (pc + len) L r (hX c (tA T a (ix j) x)) Q) : ev (cP c) d mi pc L (.int x :: .int j :: .ref a :: r) (hX c T) Q :=
  ev_ast (ty := .int) (A := (n, .inl (xA T a))) hi (Or.inl rfl) (by rw [x_get ha.1, ar_int ha]) hj (inb_4 ha.1) rfl rfl (x_setA ha) kk
theorem xe_bs {n : Nat} {j x : Int32} (hi : mj_ins (cP c) mi pc = some (.bastore, len)) (ha : ar T a 21 n) (hj : okx j n) (kk : ev (cP c) d mi (pc + len) L r (hX c (tA T a (ix j) (vp_nar .byte x))) Q) : ev (cP c) d mi pc L (.int x :: .int j :: .ref a :: r) (hX c T) Q :=
  ev_ast (ty := .byte) (A := (n, .inl (xA T a))) hi (Or.inr (Or.inl rfl)) (by rw [x_get ha.1, ar_byte ha]) hj (inb_4 ha.1) rfl rfl (x_setB ha) kk
theorem xe_ls {n : Nat} {j : Int32} {x : Int64} (hi : mj_ins (cP c) mi pc = some (.lastore, len)) (ha : ar T a 22 n) (hj : okx j n) (kk : ev (cP c) d mi (pc + len) L r (hX c (tL T a (ix j) x)) Q) : ev (cP c) d mi pc L (.long x :: .int j :: .ref a :: r) (hX c T) Q :=
  ev_ast (ty := .long) (A := (n, .inr (.inl (xL T a)))) hi (Or.inr (Or.inr (Or.inl rfl))) (by rw [x_get ha.1, ar_long ha]) hj (inb_4 ha.1) rfl rfl (x_setL ha) kk
theorem xe_qs {kd n b : Nat} {j : Int32} (hi : mj_ins (cP c) mi pc = some (.aastore, len)) (ha : ar T a kd n) (hk : kd = 23 ∨ kd = 24 ∨ kd = 25) (hj : okx j n) (hb : ob T b (qn kd).2) (kk : ev (cP c) d mi (pc + len) L r (hX c (tQ T a (ix j) (some b))) Q) : ev (cP c) d mi pc L (.ref b :: .int j :: .ref a :: r) (hX c T) Q := by
  refine ev_ast (ty := .object (qn kd).1) (A := (n, .inr (.inr (.inr (.inr (xQ T a)))))) hi (Or.inr (Or.inr (Or.inr rfl))) (by rw [x_get ha.1, ar_q ha hk]) hj (inb_4 ha.1) ?_ rfl (x_setQ ha hk) kk
  unfold mj_asg
  simp only
  rw [x_get hb.1]
  rcases hk with rfl | rfl | rfl
  · rw [ob_cell hb (by decide)]
    exact decide_eq_true ⟨rfl, by decide, inb_4 hb.1⟩
  · rw [ob_cell hb (by decide)]
    exact decide_eq_true ⟨rfl, by decide, inb_4 hb.1⟩
  · rw [ob_cell hb (by decide)]
    exact decide_eq_true ⟨rfl, by decide, inb_4 hb.1⟩
theorem xe_qn {kd n : Nat} {j : Int32} (hi : mj_ins (cP c) mi pc = some (.aastore, len)) (ha : ar T a kd n) (hk : kd = 23 ∨ kd = 24 ∨ kd = 25) (hj : okx j n) (kk : ev (cP c) d mi (pc + len) L r (hX c (tQ T a (ix j) none)) Q) : ev (cP c) d mi pc L (.null :: .int j :: .ref a :: r) (hX c T) Q :=
  ev_ast (ty := .object (qn kd).1) (A := (n, .inr (.inr (.inr (.inr (xQ T a)))))) hi (Or.inr (Or.inr (Or.inr rfl))) (by rw [x_get ha.1, ar_q ha hk]) hj (inb_4 ha.1) rfl rfl (x_setQ ha hk) kk
theorem xe_len {kd n : Nat} (hi : mj_ins (cP c) mi pc = some (.arraylength, len)) (ha : ar T a kd n) (hk : kd = 20 ∨ kd = 21 ∨ kd = 22 ∨ kd = 23 ∨ kd = 24 ∨ kd = 25) (kk : ev (cP c) d mi (pc + len) L (.int (nI n) :: r) (hX c T) Q) : ev (cP c) d mi pc L (.ref a :: r) (hX c T) Q := by
  rcases hk with rfl | rfl | rfl | hk
  · exact ev_len (ty := .int) (A := (n, _)) hi (by rw [x_get ha.1, ar_int ha]) kk
  · exact ev_len (ty := .byte) (A := (n, _)) hi (by rw [x_get ha.1, ar_byte ha]) kk
  · exact ev_len (ty := .long) (A := (n, _)) hi (by rw [x_get ha.1, ar_long ha]) kk
  · exact ev_len (A := (n, _)) hi (by rw [x_get ha.1, ar_q ha hk]) kk
theorem xe_new {ci nf k3 : Nat} {v : Value} (hR : c.2.2.2.1.length = 18) (hi : mj_ins (cP c) mi pc = some (.new idx, len)) (hl : mj_lnk (cP c) mi idx = some (2, ci, nf, k3, v)) (hc : 2 ≤ ci ∧ ci ≤ 12) (kk : ev (cP c) d mi (pc + 3) L (.ref (4 * xn T + 3) :: st) (hX c (tN T ci 0 nf)) Q) : ev (cP c) d mi pc L st (hX c T) Q :=
  ev_new hi hl (x_new hR (tN_ob T ci nf (Or.inl hc))) (x_nx hR) kk
theorem xe_nai {n : Nat} (hR : c.2.2.2.1.length = 18) (hi : mj_ins (cP c) mi pc = some (.newarray .int, len)) (hn : n ≤ 65536) (kk : ev (cP c) d mi (pc + len) L (.ref (4 * xn T + 3) :: r) (hX c (tN T 20 n n)) Q) : ev (cP c) d mi pc L (.int (nI n) :: r) (hX c T) Q := by
  refine ev_step hi rfl ?_ kk
  have e : ¬ (nI n < 0 ∨ 65536 < (nI n).toNatClampNeg) := by
    rw [nI_clamp (by omega)]
    exact fun q => q.elim (fun q => nI_pos (by omega) q) (fun q => by omega)
  simp only [mj_sim]
  rw [if_neg e, nI_clamp (by omega), x_nx hR, x_new hR (tN_int T n n)]
theorem xe_nal {n : Nat} (hR : c.2.2.2.1.length = 18) (hi : mj_ins (cP c) mi pc = some (.newarray .long, len)) (hn : n ≤ 65536) (kk : ev (cP c) d mi (pc + len) L (.ref (4 * xn T + 3) :: r) (hX c (tN T 22 n n)) Q) : ev (cP c) d mi pc L (.int (nI n) :: r) (hX c T) Q := by
  refine ev_step hi rfl ?_ kk
  have e : ¬ (nI n < 0 ∨ 65536 < (nI n).toNatClampNeg) := by
    rw [nI_clamp (by omega)]
    exact fun q => q.elim (fun q => nI_pos (by omega) q) (fun q => by omega)
  simp only [mj_sim]
  rw [if_neg e, nI_clamp (by omega), x_nx hR, x_new hR (tN_long T n n)]
theorem xe_nas {n : Nat} {k0 k3 k4 : Nat} {v : Value} (hR : c.2.2.2.1.length = 18) (hi : mj_ins (cP c) mi pc = some (.anewarray idx, len)) (hl : mj_lnk (cP c) mi idx = some (k0, 9, k3, k4, v)) (hn : n ≤ 65536) (kk : ev (cP c) d mi (pc + len) L (.ref (4 * xn T + 3) :: r) (hX c (tN T 23 n n)) Q) : ev (cP c) d mi pc L (.int (nI n) :: r) (hX c T) Q := by
  refine ev_step hi rfl ?_ kk
  have e : ¬ (nI n < 0 ∨ 65536 < (nI n).toNatClampNeg) := by
    rw [nI_clamp (by omega)]
    exact fun q => q.elim (fun q => nI_pos (by omega) q) (fun q => by omega)
  simp only [mj_sim, hl]
  show (if nI n < 0 ∨ 65536 < (nI n).toNatClampNeg then none else some (pc + len, L, Value.ref (mj_nx (cP c) (hX c T)) :: r, mj_new (cP c) (hX c T) (.inl (.object "InsultRow$Standing", (nI n).toNatClampNeg, .inr (.inr (.inr (.inr (fun _ => none)))))) (nI n).toNatClampNeg)) = _
  rw [if_neg e, nI_clamp (by omega), x_nx hR, show mj_new (cP c) (hX c T) (.inl (.object "InsultRow$Standing", n, .inr (.inr (.inr (.inr (fun _ => none)))))) n = _ from x_new hR (tN_q T (kd := 23) n n (Or.inl rfl))]
theorem xe_thr {x k2 k3 : Nat} {v : Value} (hR : c.2.2.2.1.length = 18) (hi : mj_ins (cP c) mi pc = some (.new idx, len)) (hl : mj_lnk (cP c) mi idx = some (7, x, k2, k3, v)) (hc : mj_cat st ≤ 8) (kk : Q (.inr x) (hX c (tN T 0 0 6))) : ev (cP c) d mi pc L st (hX c T) Q :=
  ev_thr hi hl hc (by rw [show mj_new (cP c) (hX c T) (.inr (0, [])) 6 = _ from x_new hR (tN_ob T 0 6 (Or.inr rfl))]; exact kk)
theorem x_rcv {ci : Nat} (ho : ob T a ci) (hc : 2 ≤ ci ∧ ci ≤ 12) (as : List Value) (idx : Nat) : mj_rcv (cP c) (hX c T) (.invokevirtual idx) ci (.ref a :: as) = true := by
  unfold mj_rcv
  simp only
  rw [x_get ho.1, ob_cell ho hc]
  exact decide_eq_true ⟨rfl, by omega, ⟨fun q => absurd q (inb_4 ho.1), fun q => by omega⟩⟩
theorem xe_nul {e : Option Nat} {off : Int} {tgt : Nat} (hi : mj_ins (cP c) mi pc = some (.ifnull off, len)) (ht : (pc : Int) + off = (tgt : Int)) (kt : e = none → ev (cP c) d mi tgt L r (hX c T) Q) (kf : ∀ b, e = some b → ev (cP c) d mi (pc + 3) L r (hX c T) Q) : ev (cP c) d mi pc L (va_rf e :: r) (hX c T) Q := by
  have e0 : ¬ (pc : Int) + off < 0 := by omega
  have e1 : ((pc : Int) + off).toNat = tgt := by omega
  cases e with
  | none => exact ev_step hi rfl (by simp only [mj_sim, va_rf, mj_to, if_neg e0, e1]) (kt rfl)
  | some b => exact ev_step hi rfl (by simp only [mj_sim, va_rf]) (kf b rfl)
theorem xe_nnl {e : Option Nat} {off : Int} {tgt : Nat} (hi : mj_ins (cP c) mi pc = some (.ifnonnull off, len)) (ht : (pc : Int) + off = (tgt : Int)) (kt : ∀ b, e = some b → ev (cP c) d mi tgt L r (hX c T) Q) (kf : e = none → ev (cP c) d mi (pc + 3) L r (hX c T) Q) : ev (cP c) d mi pc L (va_rf e :: r) (hX c T) Q := by
  have e0 : ¬ (pc : Int) + off < 0 := by omega
  have e1 : ((pc : Int) + off).toNat = tgt := by omega
  cases e with
  | none => exact ev_step hi rfl (by simp only [mj_sim, va_rf]) (kf rfl)
  | some b => exact ev_step hi rfl (by simp only [mj_sim, va_rf, mj_to, if_neg e0, e1]) (kt b rfl)
end XE1
/-! posts and calls -/
def yI (c : CX) (Q : Int32 → XS → Prop) : PO := fun r σ => ∃ x T', r = .inl (some (.int x)) ∧ σ = hX c T' ∧ Q x T'
def yB (c : CX) (Q : Bool → XS → Prop) : PO := fun r σ => ∃ x T', r = .inl (some (.int (bI x))) ∧ σ = hX c T' ∧ Q x T'
def yJ (c : CX) (Q : Int64 → XS → Prop) : PO := fun r σ => ∃ x T', r = .inl (some (.long x)) ∧ σ = hX c T' ∧ Q x T'
def yO (c : CX) (Q : Option Nat → XS → Prop) : PO := fun r σ => ∃ x T', r = .inl (some (va_rf x)) ∧ σ = hX c T' ∧ Q x T'
def yV (c : CX) (Q : XS → Prop) : PO := fun r σ => ∃ T', r = .inl none ∧ σ = hX c T' ∧ Q T'
def yt (c : CX) (E : Nat → XS → Prop) (P : PO) : PO := fun r σ => P r σ ∨ ∃ e T', r = .inr e ∧ σ = hX c T' ∧ E e T'
def XI (c : CX) (d m : Nat) (as : List Value) (T : XS) (Q : Int32 → XS → Prop) : Prop := cal (cP c) d m as (hX c T) (yI c Q)
def XB (c : CX) (d m : Nat) (as : List Value) (T : XS) (Q : Bool → XS → Prop) : Prop := cal (cP c) d m as (hX c T) (yB c Q)
def XJ (c : CX) (d m : Nat) (as : List Value) (T : XS) (Q : Int64 → XS → Prop) : Prop := cal (cP c) d m as (hX c T) (yJ c Q)
def XO (c : CX) (d m : Nat) (as : List Value) (T : XS) (Q : Option Nat → XS → Prop) : Prop := cal (cP c) d m as (hX c T) (yO c Q)
def XV (c : CX) (d m : Nat) (as : List Value) (T : XS) (Q : XS → Prop) : Prop := cal (cP c) d m as (hX c T) (yV c Q)
def XIt (c : CX) (d m : Nat) (as : List Value) (T : XS) (Q : Int32 → XS → Prop) (E : Nat → XS → Prop) : Prop := cal (cP c) d m as (hX c T) (yt c E (yI c Q))
def XBt (c : CX) (d m : Nat) (as : List Value) (T : XS) (Q : Bool → XS → Prop) (E : Nat → XS → Prop) : Prop := cal (cP c) d m as (hX c T) (yt c E (yB c Q))
def XJt (c : CX) (d m : Nat) (as : List Value) (T : XS) (Q : Int64 → XS → Prop) (E : Nat → XS → Prop) : Prop := cal (cP c) d m as (hX c T) (yt c E (yJ c Q))
def XOt (c : CX) (d m : Nat) (as : List Value) (T : XS) (Q : Option Nat → XS → Prop) (E : Nat → XS → Prop) : Prop := cal (cP c) d m as (hX c T) (yt c E (yO c Q))
def XVt (c : CX) (d m : Nat) (as : List Value) (T : XS) (Q : XS → Prop) (E : Nat → XS → Prop) : Prop := cal (cP c) d m as (hX c T) (yt c E (yV c Q))
def eX (c : CX) (d m pc : Nat) (L : mj_L) (T : XS) (Q : PO) : Prop := ev (cP c) d m pc L [] (hX c T) Q
section XC1
variable {c : CX} {d mi pc : Nat} {L : mj_L} {st : List Value} {T : XS} {Q : PO}
theorem xc_I {i : Instr} {len idx mj na ci : Nat} {v : Value} (hi : mj_ins (cP c) mi pc = some (i, len)) (hv : mj_inv i = some idx) (hl : mj_lnk (cP c) mi idx = some (4, mj, na, ci, v)) (hn : na ≤ st.length) (hc : mj_cat (st.drop na) ≤ 8) (hr : mj_rcv (cP c) (hX c T) i ci (st.take na).reverse = true)
    {K : Int32 → XS → Prop} (k : XI c d mj (st.take na).reverse T K) (h : ∀ x T', K x T' → ev (cP c) (d + 1) mi (pc + 3) L (.int x :: st.drop na) (hX c T') Q) : ev (cP c) (d + 1) mi pc L st (hX c T) Q := by
  refine ev_call hi hv hl hn hc hr (cal_mono k ?_)
  rintro r σ' ⟨x, T', rfl, rfl, hq⟩
  exact ⟨_, rfl, h x T' hq⟩
theorem xt_I {i : Instr} {len idx mj na ci : Nat} {v : Value} (hi : mj_ins (cP c) mi pc = some (i, len)) (hv : mj_inv i = some idx) (hl : mj_lnk (cP c) mi idx = some (4, mj, na, ci, v)) (hn : na ≤ st.length) (hc : mj_cat (st.drop na) ≤ 8) (hr : mj_rcv (cP c) (hX c T) i ci (st.take na).reverse = true) {M M' : mj_M} (hM : mj_mth (cP c) mi = some M) (hM' : mj_mth (cP c) mj = some M') (h0 : M.2.2.2.2.1 = []) (h0' : M'.2.2.2.2.1 = []) (hcs : M'.2.2.2.2.2 ≠ [])
    {E : Nat → XS → Prop} {P : PO} {K : Int32 → XS → Prop} (k : XIt c d mj (st.take na).reverse T K E) (h : ∀ x T', K x T' → ev (cP c) (d + 1) mi (pc + 3) L (.int x :: st.drop na) (hX c T') (yt c E P)) : ev (cP c) (d + 1) mi pc L st (hX c T) (yt c E P) := by
  refine ev_callT hi hv hl hn hc hr hM hM' h0 h0' hcs (cal_mono k ?_)
  rintro r σ' (⟨x, T', rfl, rfl, hq⟩ | ⟨e, T', rfl, rfl, hq⟩)
  · exact Or.inl ⟨_, rfl, h x T' hq⟩
  · exact Or.inr ⟨e, rfl, Or.inr ⟨e, T', rfl, rfl, hq⟩⟩
theorem xc_B {i : Instr} {len idx mj na ci : Nat} {v : Value} (hi : mj_ins (cP c) mi pc = some (i, len)) (hv : mj_inv i = some idx) (hl : mj_lnk (cP c) mi idx = some (4, mj, na, ci, v)) (hn : na ≤ st.length) (hc : mj_cat (st.drop na) ≤ 8) (hr : mj_rcv (cP c) (hX c T) i ci (st.take na).reverse = true)
    {K : Bool → XS → Prop} (k : XB c d mj (st.take na).reverse T K) (h : ∀ x T', K x T' → ev (cP c) (d + 1) mi (pc + 3) L (.int (bI x) :: st.drop na) (hX c T') Q) : ev (cP c) (d + 1) mi pc L st (hX c T) Q := by
  refine ev_call hi hv hl hn hc hr (cal_mono k ?_)
  rintro r σ' ⟨x, T', rfl, rfl, hq⟩
  exact ⟨_, rfl, h x T' hq⟩
theorem xt_B {i : Instr} {len idx mj na ci : Nat} {v : Value} (hi : mj_ins (cP c) mi pc = some (i, len)) (hv : mj_inv i = some idx) (hl : mj_lnk (cP c) mi idx = some (4, mj, na, ci, v)) (hn : na ≤ st.length) (hc : mj_cat (st.drop na) ≤ 8) (hr : mj_rcv (cP c) (hX c T) i ci (st.take na).reverse = true) {M M' : mj_M} (hM : mj_mth (cP c) mi = some M) (hM' : mj_mth (cP c) mj = some M') (h0 : M.2.2.2.2.1 = []) (h0' : M'.2.2.2.2.1 = []) (hcs : M'.2.2.2.2.2 ≠ [])
    {E : Nat → XS → Prop} {P : PO} {K : Bool → XS → Prop} (k : XBt c d mj (st.take na).reverse T K E) (h : ∀ x T', K x T' → ev (cP c) (d + 1) mi (pc + 3) L (.int (bI x) :: st.drop na) (hX c T') (yt c E P)) : ev (cP c) (d + 1) mi pc L st (hX c T) (yt c E P) := by
  refine ev_callT hi hv hl hn hc hr hM hM' h0 h0' hcs (cal_mono k ?_)
  rintro r σ' (⟨x, T', rfl, rfl, hq⟩ | ⟨e, T', rfl, rfl, hq⟩)
  · exact Or.inl ⟨_, rfl, h x T' hq⟩
  · exact Or.inr ⟨e, rfl, Or.inr ⟨e, T', rfl, rfl, hq⟩⟩
theorem xc_J {i : Instr} {len idx mj na ci : Nat} {v : Value} (hi : mj_ins (cP c) mi pc = some (i, len)) (hv : mj_inv i = some idx) (hl : mj_lnk (cP c) mi idx = some (4, mj, na, ci, v)) (hn : na ≤ st.length) (hc : mj_cat (st.drop na) ≤ 8) (hr : mj_rcv (cP c) (hX c T) i ci (st.take na).reverse = true)
    {K : Int64 → XS → Prop} (k : XJ c d mj (st.take na).reverse T K) (h : ∀ x T', K x T' → ev (cP c) (d + 1) mi (pc + 3) L (.long x :: st.drop na) (hX c T') Q) : ev (cP c) (d + 1) mi pc L st (hX c T) Q := by
  refine ev_call hi hv hl hn hc hr (cal_mono k ?_)
  rintro r σ' ⟨x, T', rfl, rfl, hq⟩
  exact ⟨_, rfl, h x T' hq⟩
theorem xt_J {i : Instr} {len idx mj na ci : Nat} {v : Value} (hi : mj_ins (cP c) mi pc = some (i, len)) (hv : mj_inv i = some idx) (hl : mj_lnk (cP c) mi idx = some (4, mj, na, ci, v)) (hn : na ≤ st.length) (hc : mj_cat (st.drop na) ≤ 8) (hr : mj_rcv (cP c) (hX c T) i ci (st.take na).reverse = true) {M M' : mj_M} (hM : mj_mth (cP c) mi = some M) (hM' : mj_mth (cP c) mj = some M') (h0 : M.2.2.2.2.1 = []) (h0' : M'.2.2.2.2.1 = []) (hcs : M'.2.2.2.2.2 ≠ [])
    {E : Nat → XS → Prop} {P : PO} {K : Int64 → XS → Prop} (k : XJt c d mj (st.take na).reverse T K E) (h : ∀ x T', K x T' → ev (cP c) (d + 1) mi (pc + 3) L (.long x :: st.drop na) (hX c T') (yt c E P)) : ev (cP c) (d + 1) mi pc L st (hX c T) (yt c E P) := by
  refine ev_callT hi hv hl hn hc hr hM hM' h0 h0' hcs (cal_mono k ?_)
  rintro r σ' (⟨x, T', rfl, rfl, hq⟩ | ⟨e, T', rfl, rfl, hq⟩)
  · exact Or.inl ⟨_, rfl, h x T' hq⟩
  · exact Or.inr ⟨e, rfl, Or.inr ⟨e, T', rfl, rfl, hq⟩⟩
theorem xc_O {i : Instr} {len idx mj na ci : Nat} {v : Value} (hi : mj_ins (cP c) mi pc = some (i, len)) (hv : mj_inv i = some idx) (hl : mj_lnk (cP c) mi idx = some (4, mj, na, ci, v)) (hn : na ≤ st.length) (hc : mj_cat (st.drop na) ≤ 8) (hr : mj_rcv (cP c) (hX c T) i ci (st.take na).reverse = true)
    {K : Option Nat → XS → Prop} (k : XO c d mj (st.take na).reverse T K) (h : ∀ x T', K x T' → ev (cP c) (d + 1) mi (pc + 3) L (va_rf x :: st.drop na) (hX c T') Q) : ev (cP c) (d + 1) mi pc L st (hX c T) Q := by
  refine ev_call hi hv hl hn hc hr (cal_mono k ?_)
  rintro r σ' ⟨x, T', rfl, rfl, hq⟩
  exact ⟨_, rfl, h x T' hq⟩
theorem xt_O {i : Instr} {len idx mj na ci : Nat} {v : Value} (hi : mj_ins (cP c) mi pc = some (i, len)) (hv : mj_inv i = some idx) (hl : mj_lnk (cP c) mi idx = some (4, mj, na, ci, v)) (hn : na ≤ st.length) (hc : mj_cat (st.drop na) ≤ 8) (hr : mj_rcv (cP c) (hX c T) i ci (st.take na).reverse = true) {M M' : mj_M} (hM : mj_mth (cP c) mi = some M) (hM' : mj_mth (cP c) mj = some M') (h0 : M.2.2.2.2.1 = []) (h0' : M'.2.2.2.2.1 = []) (hcs : M'.2.2.2.2.2 ≠ [])
    {E : Nat → XS → Prop} {P : PO} {K : Option Nat → XS → Prop} (k : XOt c d mj (st.take na).reverse T K E) (h : ∀ x T', K x T' → ev (cP c) (d + 1) mi (pc + 3) L (va_rf x :: st.drop na) (hX c T') (yt c E P)) : ev (cP c) (d + 1) mi pc L st (hX c T) (yt c E P) := by
  refine ev_callT hi hv hl hn hc hr hM hM' h0 h0' hcs (cal_mono k ?_)
  rintro r σ' (⟨x, T', rfl, rfl, hq⟩ | ⟨e, T', rfl, rfl, hq⟩)
  · exact Or.inl ⟨_, rfl, h x T' hq⟩
  · exact Or.inr ⟨e, rfl, Or.inr ⟨e, T', rfl, rfl, hq⟩⟩
theorem xc_V {i : Instr} {len idx mj na ci : Nat} {v : Value} (hi : mj_ins (cP c) mi pc = some (i, len)) (hv : mj_inv i = some idx) (hl : mj_lnk (cP c) mi idx = some (4, mj, na, ci, v)) (hn : na ≤ st.length) (hc : mj_cat (st.drop na) ≤ 8) (hr : mj_rcv (cP c) (hX c T) i ci (st.take na).reverse = true)
    {K : XS → Prop} (k : XV c d mj (st.take na).reverse T K) (h : ∀ T', K T' → ev (cP c) (d + 1) mi (pc + 3) L (st.drop na) (hX c T') Q) : ev (cP c) (d + 1) mi pc L st (hX c T) Q := by
  refine ev_call hi hv hl hn hc hr (cal_mono k ?_)
  rintro r σ' ⟨T', rfl, rfl, hq⟩
  exact ⟨_, rfl, h T' hq⟩
theorem xt_V {i : Instr} {len idx mj na ci : Nat} {v : Value} (hi : mj_ins (cP c) mi pc = some (i, len)) (hv : mj_inv i = some idx) (hl : mj_lnk (cP c) mi idx = some (4, mj, na, ci, v)) (hn : na ≤ st.length) (hc : mj_cat (st.drop na) ≤ 8) (hr : mj_rcv (cP c) (hX c T) i ci (st.take na).reverse = true) {M M' : mj_M} (hM : mj_mth (cP c) mi = some M) (hM' : mj_mth (cP c) mj = some M') (h0 : M.2.2.2.2.1 = []) (h0' : M'.2.2.2.2.1 = []) (hcs : M'.2.2.2.2.2 ≠ [])
    {E : Nat → XS → Prop} {P : PO} {K : XS → Prop} (k : XVt c d mj (st.take na).reverse T K E) (h : ∀ T', K T' → ev (cP c) (d + 1) mi (pc + 3) L (st.drop na) (hX c T') (yt c E P)) : ev (cP c) (d + 1) mi pc L st (hX c T) (yt c E P) := by
  refine ev_callT hi hv hl hn hc hr hM hM' h0 h0' hcs (cal_mono k ?_)
  rintro r σ' (⟨T', rfl, rfl, hq⟩ | ⟨e, T', rfl, rfl, hq⟩)
  · exact Or.inl ⟨_, rfl, h T' hq⟩
  · exact Or.inr ⟨e, rfl, Or.inr ⟨e, T', rfl, rfl, hq⟩⟩
end XC1
section XE2
variable {c : CX} {d mi pc : Nat} {L : mj_L} {st r : List Value} {T T' : XS} {Q : PO} {a idx len : Nat}
theorem ev_retO {e : Option Nat} {nm : FieldType} {σ : mj_H} (hi : mj_ins (cP c) mi pc = some (.areturn, len)) (hr : mj_rt (cP c) mi = some nm) (hn : (∃ s, nm = .object s) ∨ ∃ s, nm = .array s) (k : Q (.inl (some (va_rf e))) σ) : ev (cP c) d mi pc L [va_rf e] σ Q := by
  refine ev_ret hi rfl ?_ k
  rw [hr]
  rcases hn with ⟨s, rfl⟩ | ⟨s, rfl⟩ <;> cases e <;> rfl
theorem xe_qo {kd n : Nat} {e : Option Nat} {j : Int32} (hi : mj_ins (cP c) mi pc = some (.aastore, len)) (ha : ar T a kd n) (hk : kd = 23 ∨ kd = 24 ∨ kd = 25) (hj : okx j n) (hb : ∀ b, e = some b → ob T b (qn kd).2) (kk : ev (cP c) d mi (pc + len) L r (hX c (tQ T a (ix j) e)) Q) : ev (cP c) d mi pc L (va_rf e :: .int j :: .ref a :: r) (hX c T) Q := by
  cases e with
  | none => exact xe_qn hi ha hk hj kk
  | some b => exact xe_qs hi ha hk hj (hb b rfl) kk
theorem inb_tN (kd n z : Nat) (h : inb T a) : inb (tN T kd n z) a := by
  rcases h with h | ⟨h1, h2⟩
  · exact Or.inl h
  · exact Or.inr ⟨h1, Nat.lt_succ_of_lt h2⟩
theorem inb_new (h : inb T a) : a ≠ 4 * xn T + 3 := by
  rcases h with ⟨h1, h2⟩ | ⟨h1, h2⟩ <;> omega
theorem shx_tN (kd n z : Nat) (h : inb T a) : shx (tN T kd n z) a = shx T a := by
  have : xS (tN T kd n z) a = xS T a := if_neg (inb_new h)
  unfold shx
  rw [this]
theorem ob_tN {ci : Nat} (kd n z : Nat) (h : ob T a ci) : ob (tN T kd n z) a ci := ⟨inb_tN kd n z h.1, by rw [shx_tN kd n z h.1]; exact h.2⟩
theorem ar_tN {k m : Nat} (kd n z : Nat) (h : ar T a k m) : ar (tN T kd n z) a k m := ⟨inb_tN kd n z h.1, by rw [shx_tN kd n z h.1]; exact h.2⟩
theorem inb_at (T : XS) (kd n z : Nat) : inb (tN T kd n z) (4 * xn T + 3) := Or.inr ⟨by omega, by show (4 * xn T + 3) / 4 < xn T + 1; omega⟩
theorem ob_new (T : XS) (ci z : Nat) : ob (tN T ci 0 z) (4 * xn T + 3) ci := ⟨inb_at T ci 0 z, by rw [tN_sh]⟩
theorem ar_new (T : XS) (kd n z : Nat) : ar (tN T kd n z) (4 * xn T + 3) kd n := ⟨inb_at T kd n z, tN_sh T kd n z⟩
end XE2
