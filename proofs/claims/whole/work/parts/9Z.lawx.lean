/-! the law: a call of each, side by side -/
section LZ1
variable {i : IN} {B d j pc : Nat} {T T' : XS} {s s' : RS} {A A' : AB} {L : mj_L} {st : List Value} {Q : PO}
def EL (i : IN) (d pc : Nat) (L : mj_L) (st : List Value) (T : XS) (s : RS) (Q : PO) : Prop := ev (t_P i.1 i.2.1 i.2.2) d m_L_law pc L st (hX (cX i s) T) Q
theorem lx_I {ins : Instr} {len idx mj na ci : Nat} {v : Value} (hi : mj_ins (t_P i.1 i.2.1 i.2.2) m_L_law pc = some (ins, len)) (hv : mj_inv ins = some idx) (hl : mj_lnk (t_P i.1 i.2.1 i.2.2) m_L_law idx = some (4, mj, na, ci, v)) (hn : na ≤ st.length) (hc : mj_cat (st.drop na) ≤ 8) (hr : mj_rcv (t_P i.1 i.2.1 i.2.2) (hX (cX i s) T) ins ci (st.take na).reverse = true)
    {K : Int32 → XS → Prop} (k : XI (cX i s) d mj (st.take na).reverse T K) (h : ∀ x T', K x T' → EL i (d + 1) (pc + 3) L (.int x :: st.drop na) T' s Q) : EL i (d + 1) pc L st T s Q := xc_I (c := cX i s) hi hv hl hn hc hr k h
theorem lr_I {ins : Instr} {len idx mj na ci : Nat} {v : Value} (hi : mj_ins (t_P i.1 i.2.1 i.2.2) m_L_law pc = some (ins, len)) (hv : mj_inv ins = some idx) (hl : mj_lnk (t_P i.1 i.2.1 i.2.2) m_L_law idx = some (4, mj, na, ci, v)) (hn : na ≤ st.length) (hc : mj_cat (st.drop na) ≤ 8) (hr : mj_rcv (t_P i.1 i.2.1 i.2.2) (cH (cR i T) s) ins ci (st.take na).reverse = true)
    {K : Int32 → RS → Prop} (k : RI (cR i T) d mj (st.take na).reverse s K) (h : ∀ x s', K x s' → EL i (d + 1) (pc + 3) L (.int x :: st.drop na) T s' Q) : EL i (d + 1) pc L st T s Q := rc_I (c := cR i T) hi hv hl hn hc hr k h
theorem lr_B {ins : Instr} {len idx mj na ci : Nat} {v : Value} (hi : mj_ins (t_P i.1 i.2.1 i.2.2) m_L_law pc = some (ins, len)) (hv : mj_inv ins = some idx) (hl : mj_lnk (t_P i.1 i.2.1 i.2.2) m_L_law idx = some (4, mj, na, ci, v)) (hn : na ≤ st.length) (hc : mj_cat (st.drop na) ≤ 8) (hr : mj_rcv (t_P i.1 i.2.1 i.2.2) (cH (cR i T) s) ins ci (st.take na).reverse = true)
    {K : Bool → RS → Prop} (k : RB (cR i T) d mj (st.take na).reverse s K) (h : ∀ x s', K x s' → EL i (d + 1) (pc + 3) L (.int (bI x) :: st.drop na) T s' Q) : EL i (d + 1) pc L st T s Q := rc_B (c := cR i T) hi hv hl hn hc hr k h
theorem lr_J {ins : Instr} {len idx mj na ci : Nat} {v : Value} (hi : mj_ins (t_P i.1 i.2.1 i.2.2) m_L_law pc = some (ins, len)) (hv : mj_inv ins = some idx) (hl : mj_lnk (t_P i.1 i.2.1 i.2.2) m_L_law idx = some (4, mj, na, ci, v)) (hn : na ≤ st.length) (hc : mj_cat (st.drop na) ≤ 8) (hr : mj_rcv (t_P i.1 i.2.1 i.2.2) (cH (cR i T) s) ins ci (st.take na).reverse = true)
    {K : Int64 → RS → Prop} (k : RJ (cR i T) d mj (st.take na).reverse s K) (h : ∀ x s', K x s' → EL i (d + 1) (pc + 3) L (.long x :: st.drop na) T s' Q) : EL i (d + 1) pc L st T s Q := rc_J (c := cR i T) hi hv hl hn hc hr k h
theorem lr_V {ins : Instr} {len idx mj na ci : Nat} {v : Value} (hi : mj_ins (t_P i.1 i.2.1 i.2.2) m_L_law pc = some (ins, len)) (hv : mj_inv ins = some idx) (hl : mj_lnk (t_P i.1 i.2.1 i.2.2) m_L_law idx = some (4, mj, na, ci, v)) (hn : na ≤ st.length) (hc : mj_cat (st.drop na) ≤ 8) (hr : mj_rcv (t_P i.1 i.2.1 i.2.2) (cH (cR i T) s) ins ci (st.take na).reverse = true)
    {K : RS → Prop} (k : RV (cR i T) d mj (st.take na).reverse s K) (h : ∀ s', K s' → EL i (d + 1) (pc + 3) L (st.drop na) T s' Q) : EL i (d + 1) pc L st T s Q := rc_V (c := cR i T) hi hv hl hn hc hr k h
/-- an argument of the call -/
theorem l_A {len k : Nat} {r : List Value} (hi : mj_ins (t_P i.1 i.2.1 i.2.2) m_L_law pc = some (.iaload, len)) (hj : j + k < i.1) (hn : i.1 < 2 ^ 31) (kk : EL i d (pc + len) L (.int (i.2.1 (j + k)) :: r) T s Q) : EL i d pc L (.int (nI j + nI k) :: .ref 0 :: r) T s Q := by
  rw [nI_add]
  exact ev_ald (ty := .int) (A := (i.1, .inl i.2.1)) hi (Or.inl rfl) rfl (okx_nI (n := i.1) hj hn) (v := .int (i.2.1 (j + k))) (by rw [nI_clamp (by omega)]; rfl) kk
/-- the out long -/
theorem l_out {len : Nat} {r : List Value} (hi : mj_ins (t_P i.1 i.2.1 i.2.2) m_L_law pc = some (.laload, len)) (a3 : ar T 3 22 1) (kk : EL i d (pc + len) L (.long (xL T 3 0) :: r) T s Q) : EL i d pc L (.int 0 :: .ref 3 :: r) T s Q := xe_ll (c := cX i s) hi a3 (okn (k := 0) (by decide) (by decide)) kk
def lL (j : Nat) (x y z : Option Value) : mj_L := [some (.ref 0), some (.ref 1), some (.ref 2), some (.ref 3), some (.int (nI j)), x, y, z]
/-- where a call goes on -/
def NX (i : IN) (B d j : Nat) (Q : PO) : Prop := ∀ T s x y z, IVE B T s → EL i d 2695 (lL j x y z) [] T s Q
theorem RI_mn {c : CX} {m : Nat} {as : List Value} {Q Q' : Int32 → RS → Prop} (h : RI c d m as s Q) (hq : ∀ x s', Q x s' → Q' x s') : RI c d m as s Q' := cal_mono h (fun r σ ⟨x, s', a, b, q⟩ => ⟨x, s', a, b, hq x s' q⟩)
theorem RB_mn {c : CX} {m : Nat} {as : List Value} {Q Q' : Bool → RS → Prop} (h : RB c d m as s Q) (hq : ∀ x s', Q x s' → Q' x s') : RB c d m as s Q' := cal_mono h (fun r σ ⟨x, s', a, b, q⟩ => ⟨x, s', a, b, hq x s' q⟩)
theorem RJ_mn {c : CX} {m : Nat} {as : List Value} {Q Q' : Int64 → RS → Prop} (h : RJ c d m as s Q) (hq : ∀ x s', Q x s' → Q' x s') : RJ c d m as s Q' := cal_mono h (fun r σ ⟨x, s', a, b, q⟩ => ⟨x, s', a, b, hq x s' q⟩)
theorem XIt_u {c : CX} {m : Nat} {as : List Value} {Q Q' : Int32 → XS → Prop} {E E' : Nat → XS → Prop} (h : XIt c d m as T Q E) (hq : ∀ x T', Q x T' → sg T T' → Q' x T') (he : ∀ e T', E e T' → sg T T' → E' e T') : XIt c d m as T Q' E' := by
  refine cal_mono (cal_sh h) ?_
  rintro r σ' ⟨⟨x, T', rfl, rfl, q⟩ | ⟨e, T', rfl, rfl, q⟩, hs⟩
  · exact Or.inl ⟨x, T', rfl, rfl, hq x T' q (sg_of hs)⟩
  · exact Or.inr ⟨e, T', rfl, rfl, he e T' q (sg_of hs)⟩
theorem XBt_u {c : CX} {m : Nat} {as : List Value} {Q Q' : Bool → XS → Prop} {E E' : Nat → XS → Prop} (h : XBt c d m as T Q E) (hq : ∀ x T', Q x T' → sg T T' → Q' x T') (he : ∀ e T', E e T' → sg T T' → E' e T') : XBt c d m as T Q' E' := by
  refine cal_mono (cal_sh h) ?_
  rintro r σ' ⟨⟨x, T', rfl, rfl, q⟩ | ⟨e, T', rfl, rfl, q⟩, hs⟩
  · exact Or.inl ⟨x, T', rfl, rfl, hq x T' q (sg_of hs)⟩
  · exact Or.inr ⟨e, T', rfl, rfl, he e T' q (sg_of hs)⟩
theorem XJt_u {c : CX} {m : Nat} {as : List Value} {Q Q' : Int64 → XS → Prop} {E E' : Nat → XS → Prop} (h : XJt c d m as T Q E) (hq : ∀ x T', Q x T' → sg T T' → Q' x T') (he : ∀ e T', E e T' → sg T T' → E' e T') : XJt c d m as T Q' E' := by
  refine cal_mono (cal_sh h) ?_
  rintro r σ' ⟨⟨x, T', rfl, rfl, q⟩ | ⟨e, T', rfl, rfl, q⟩, hs⟩
  · exact Or.inl ⟨x, T', rfl, rfl, hq x T' q (sg_of hs)⟩
  · exact Or.inr ⟨e, T', rfl, rfl, he e T' q (sg_of hs)⟩
theorem XVt_u {c : CX} {m : Nat} {as : List Value} {Q Q' : XS → Prop} {E E' : Nat → XS → Prop} (h : XVt c d m as T Q E) (hq : ∀ T', Q T' → sg T T' → Q' T') (he : ∀ e T', E e T' → sg T T' → E' e T') : XVt c d m as T Q' E' := by
  refine cal_mono (cal_sh h) ?_
  rintro r σ' ⟨⟨T', rfl, rfl, q⟩ | ⟨e, T', rfl, rfl, q⟩, hs⟩
  · exact Or.inl ⟨T', rfl, rfl, hq T' q (sg_of hs)⟩
  · exact Or.inr ⟨e, T', rfl, rfl, he e T' q (sg_of hs)⟩
theorem sg3 (h : sg T T') (a : ar T 3 22 1) : ar T' 3 22 1 := (h 3).2 22 1 (by decide) a
/-- what the wrapper leaves, and the reference then -/
def QL (i : IN) (B dr mr : Nat) (as : List Value) (s : RS) (cd : Int32) (T' : XS) : Prop := RI (cR i T') dr mr as s (fun y s' => s'.1 4 = cd ∧ (cd = 0 → xL T' 3 0 = y.toInt64) ∧ IVE B T' s')
theorem QL_ok {dr mr : Nat} {as : List Value} {x : Int32} (h : okP i B dr mr as s x T') (a3 : ar T' 3 22 1) : QL i B dr mr as s 0 (tL T' 3 0 x.toInt64) :=
  RI_mn (h _) (fun y s' q => ⟨q.2.1, fun _ => by rw [tL_30, q.1], ⟨q.2.2.choose, q.2.2.choose_spec.o3 a3 _⟩, a3⟩)
theorem QL_no {dr mr : Nat} {as : List Value} {cd : Int32} (h : noP i B dr mr as s cd T') (a3 : ar T' 3 22 1) (hc : cd ≠ 0) : QL i B dr mr as s cd T' :=
  RI_mn (h _) (fun y s' q => ⟨q.1, fun z => absurd z hc, q.2, a3⟩)
theorem lg_carnival (hf : ∀ s, fvok (cX i s)) (h : IVE B T s) (a0 : Int32) : XI (cX i s) (d + 65) m_L_carnival [.ref 1, .int a0, .ref 3] T (QL i (B + 1) (d + 65) m_R_carnival [.ref 2, .int a0] s) := by
  obtain ⟨⟨A, h⟩, a3⟩ := h
  exact wl_carnival _ a3 (XIt_u (ag_carnival (d := d) (i := i) (hf s) h (a0 := a0)) (fun x T' q q2 => QL_ok q (sg3 q2 a3)) (fun e T' q q2 => ⟨q.1, QL_no q.2 (sg3 q2 a3) (by decide)⟩))
theorem lg_guild (h : IVE B T s) (g n : Int32) : XI (cX i s) (d + 65) m_L_guild [.ref 1, .int g, .int n, .ref 3] T (QL i (B + 1) (d + 65) m_R_guild [.ref 2, .int g, .int n] s) := by
  obtain ⟨⟨A, h⟩, a3⟩ := h
  exact wl_guild _ _ a3 (XIt_u (ag_guild (d := d) (i := i) h (g := g) (n := n)) (fun x T' q q2 => QL_ok q (sg3 q2 a3)) (fun e T' q q2 => q.imp (fun w => ⟨w.1, QL_no w.2 (sg3 q2 a3) (by decide)⟩) (fun w => ⟨w.1, QL_no w.2 (sg3 q2 a3) (by decide)⟩)))
theorem lg_tomorrow (h : IVE B T s) (g : Int32) : XI (cX i s) (d + 65) m_L_tomorrow [.ref 1, .int g, .ref 3] T (QL i (B + 1) (d + 65) m_R_tomorrow [.ref 2, .int g] s) := by
  obtain ⟨⟨A, h⟩, a3⟩ := h
  exact wl_tomorrow _ a3 (XIt_u (ag_tomorrow (d := d) (i := i) h (g := g)) (fun x T' q q2 => QL_ok q (sg3 q2 a3)) (fun e T' q q2 => ⟨q.1, QL_no q.2 (sg3 q2 a3) (by decide)⟩))
theorem lg_step (h : IVE B T s) (g n : Int32) : XI (cX i s) (d + 65) m_L_step [.ref 1, .int g, .int n, .ref 3] T (QL i (B + 1) (d + 65) m_R_step [.ref 2, .int g, .int n] s) := by
  obtain ⟨⟨A, h⟩, a3⟩ := h
  exact wl_step _ _ a3 (XIt_u (ag_step (d := d) (i := i) h (g := g) (n := n)) (fun x T' q q2 => QL_ok q (sg3 q2 a3)) (fun e T' q q2 => q.imp (fun w => ⟨w.1, QL_no w.2 (sg3 q2 a3) (by decide)⟩) (fun w => ⟨w.1, QL_no w.2 (sg3 q2 a3) (by decide)⟩)))
theorem lg_spare (h : IVE B T s) (g : Int32) : XI (cX i s) (d + 65) m_L_spare [.ref 1, .int g, .ref 3] T (QL i (B + 1) (d + 65) m_R_spare [.ref 2, .int g] s) := by
  obtain ⟨⟨A, h⟩, a3⟩ := h
  exact wl_spare _ a3 (XIt_u (ag_spare (d := d) (i := i) h (g := g)) (fun x T' q q2 => QL_ok q (sg3 q2 a3)) (fun e T' q q2 => ⟨q.1, QL_no q.2 (sg3 q2 a3) (by decide)⟩))
theorem lg_rank (h : IVE B T s) (g n : Int32) : XI (cX i s) (d + 65) m_L_rank [.ref 1, .int g, .int n, .ref 3] T (QL i (B + 1) (d + 65) m_R_rank [.ref 2, .int g, .int n] s) := by
  obtain ⟨⟨A, h⟩, a3⟩ := h
  exact wl_rank _ _ a3 (XIt_u (ag_rank (d := d) (i := i) h (g := g) (n := n)) (fun x T' q q2 => QL_ok q (sg3 q2 a3)) (fun e T' q q2 => q.imp (fun w => ⟨w.1, QL_no w.2 (sg3 q2 a3) (by decide)⟩) (fun w => ⟨w.1, QL_no w.2 (sg3 q2 a3) (by decide)⟩)))
theorem lg_nights (h : IVE B T s) (n : Int32) : XI (cX i s) (d + 65) m_L_nights [.ref 1, .int n, .ref 3] T (QL i (B + 1) (d + 65) m_R_nights [.ref 2, .int n] s) := by
  obtain ⟨⟨A, h⟩, a3⟩ := h
  exact wl_nights _ a3 (XIt_u (ag_nights (d := d) (i := i) h (n := n)) (fun x T' q q2 => QL_ok q (sg3 q2 a3)) (fun e T' q q2 => ⟨q.1, QL_no q.2 (sg3 q2 a3) (by decide)⟩))
theorem lg_undo (h : IVE B T s) (n : Int32) : XI (cX i s) (d + 65) m_L_undo [.ref 1, .int n, .ref 3] T (QL i (B + 1) (d + 65) m_R_undo [.ref 2, .int n] s) := by
  obtain ⟨⟨A, h⟩, a3⟩ := h
  exact wl_undo _ a3 (XIt_u (ag_undo (d := d) (i := i) h (n := n)) (fun x T' q q2 => QL_ok q (sg3 q2 a3)) (fun e T' q q2 => ⟨q.1, QL_no q.2 (sg3 q2 a3) (by decide)⟩))
theorem lg_judge (h : IVE B T s) (g wt : Int32) : XI (cX i s) (d + 65) m_L_judge [.ref 1, .int g, .int wt, .ref 3] T (QL i (B + 1) (d + 65) m_R_judge [.ref 2, .int g, .int wt] s) := by
  obtain ⟨⟨A, h⟩, a3⟩ := h
  exact wl_judge _ _ a3 (XIt_u (ag_judge (d := d) (i := i) h (g := g) (wt := wt)) (fun x T' q q2 => QL_ok q (sg3 q2 a3)) (fun e T' q q2 => q.imp (fun w => ⟨w.1, QL_no w.2 (sg3 q2 a3) (by decide)⟩) (fun q => q.imp (fun w => ⟨w.1, QL_no w.2 (sg3 q2 a3) (by decide)⟩) (fun w => ⟨w.1, QL_no w.2 (sg3 q2 a3) (by decide)⟩))))
theorem lg_perform (h : IVE B T s) (g : Int32) : XI (cX i s) (d + 65) m_L_perform [.ref 1, .int g, .ref 3] T (QL i (B + 1) (d + 65) m_R_perform [.ref 2, .int g] s) := by
  obtain ⟨⟨A, h⟩, a3⟩ := h
  exact wl_perform _ a3 (XIt_u (ag_perform (d := d) (i := i) h (g := g)) (fun x T' q q2 => QL_ok q (sg3 q2 a3)) (fun e T' q q2 => q.imp (fun w => ⟨w.1, QL_no w.2 (sg3 q2 a3) (by decide)⟩) (fun w => ⟨w.1, QL_no w.2 (sg3 q2 a3) (by decide)⟩)))
theorem lg_week (h : IVE B T s) (x n : Int32) : XI (cX i s) (d + 65) m_L_week [.ref 1, .int x, .int n, .ref 3] T (QL i (B + 1) (d + 65) m_R_week [.ref 2, .int x, .int n] s) := by
  obtain ⟨⟨A, h⟩, a3⟩ := h
  exact wl_week _ _ a3 (XIt_u (ag_week (d := d) (i := i) h (x := x) (n := n)) (fun x T' q q2 => QL_ok q (sg3 q2 a3)) (fun e T' q q2 => q.imp (fun w => ⟨w.1, QL_no w.2 (sg3 q2 a3) (by decide)⟩) (fun w => ⟨w.1, QL_no w.2 (sg3 q2 a3) (by decide)⟩)))
theorem lg_walks (h : IVE B T s) (k : Int32) : XI (cX i s) (d + 65) m_L_walks [.ref 1, .int k, .ref 3] T (QL i (B + 1) (d + 65) m_R_walks [.ref 2, .int k] s) := by
  obtain ⟨⟨A, h⟩, a3⟩ := h
  exact wl_walks _ a3 (XIt_u (ag_walks (d := d) (i := i) h (k := k)) (fun x T' q q2 => QL_ok q (sg3 q2 a3)) (fun e T' q q2 => ⟨q.1, QL_no q.2 (sg3 q2 a3) (by decide)⟩))
theorem lg_place (h : IVE B T s) (g : Int32) : XI (cX i s) (d + 65) m_L_place [.ref 1, .int g, .ref 3] T (QL i (B + 1) (d + 65) m_R_place [.ref 2, .int g] s) := by
  obtain ⟨⟨A, h⟩, a3⟩ := h
  exact wl_place _ a3 (XIt_u (ag_place (d := d) (i := i) h (g := g)) (fun x T' q q2 => QL_ok q (sg3 q2 a3)) (fun e T' q q2 => ⟨q.1, QL_no q.2 (sg3 q2 a3) (by decide)⟩))
theorem lg_persuaded (h : IVE B T s) (wt : Int32) : XI (cX i s) (d + 65) m_L_persuaded [.ref 1, .int wt, .ref 3] T (QL i (B + 1) (d + 65) m_R_persuaded [.ref 2, .int wt] s) := by
  obtain ⟨⟨A, h⟩, a3⟩ := h
  exact wl_persuaded _ a3 (XIt_u (ag_persuaded (d := d) (i := i) h (wt := wt)) (fun x T' q q2 => QL_ok q (sg3 q2 a3)) (fun e T' q q2 => ⟨q.1, QL_no q.2 (sg3 q2 a3) (by decide)⟩))
theorem lg_peace (h : IVE B T s) (wt : Int32) : XI (cX i s) (d + 65) m_L_peace [.ref 1, .int wt, .ref 3] T (QL i (B + 1) (d + 65) m_R_peace [.ref 2, .int wt] s) := by
  obtain ⟨⟨A, h⟩, a3⟩ := h
  exact wl_peace _ a3 (XIt_u (ag_peace (d := d) (i := i) h (wt := wt)) (fun x T' q q2 => QL_ok q (sg3 q2 a3)) (fun e T' q q2 => ⟨q.1, QL_no q.2 (sg3 q2 a3) (by decide)⟩))
theorem lg_below (h : IVE B T s) (g : Int32) : XI (cX i s) (d + 65) m_L_below [.ref 1, .int g, .ref 3] T (QL i (B + 1) (d + 65) m_R_below [.ref 2, .int g] s) := by
  obtain ⟨⟨A, h⟩, a3⟩ := h
  exact wl_below _ a3 (XIt_u (ag_below (d := d) (i := i) h (g := g)) (fun x T' q q2 => QL_ok q (sg3 q2 a3)) (fun e T' q q2 => ⟨q.1, QL_no q.2 (sg3 q2 a3) (by decide)⟩))
theorem lg_cakesOf (h : IVE B T s) (g : Int32) : XI (cX i s) (d + 65) m_L_cakesOf [.ref 1, .int g, .ref 3] T (QL i (B + 1) (d + 65) m_R_cakesOf [.ref 2, .int g] s) := by
  obtain ⟨⟨A, h⟩, a3⟩ := h
  exact wl_cakesOf _ a3 (XIt_u (ag_cakesOf (d := d) (i := i) h (g := g)) (fun x T' q q2 => QL_ok q (sg3 q2 a3)) (fun e T' q q2 => ⟨q.1, QL_no q.2 (sg3 q2 a3) (by decide)⟩))
theorem lg_chainOf (h : IVE B T s) (g : Int32) : XI (cX i s) (d + 65) m_L_chainOf [.ref 1, .int g, .ref 3] T (QL i (B + 1) (d + 65) m_R_chainOf [.ref 2, .int g] s) := by
  obtain ⟨⟨A, h⟩, a3⟩ := h
  exact wl_chainOf _ a3 (XIt_u (ag_chainOf (d := d) (i := i) h (g := g)) (fun x T' q q2 => QL_ok q (sg3 q2 a3)) (fun e T' q q2 => ⟨q.1, QL_no q.2 (sg3 q2 a3) (by decide)⟩))
theorem lg_freeFor (h : IVE B T s) (g : Int32) : XI (cX i s) (d + 65) m_L_freeFor [.ref 1, .int g, .ref 3] T (QL i (B + 1) (d + 65) m_R_freeFor [.ref 2, .int g] s) := by
  obtain ⟨⟨A, h⟩, a3⟩ := h
  exact wl_freeFor _ a3 (XIt_u (ag_freeFor (d := d) (i := i) h (g := g)) (fun x T' q q2 => QL_ok q (sg3 q2 a3)) (fun e T' q q2 => ⟨q.1, QL_no q.2 (sg3 q2 a3) (by decide)⟩))
theorem lg_at (h : IVE B T s) (g m : Int32) : XI (cX i s) (d + 65) m_L_at [.ref 1, .int g, .int m, .ref 3] T (QL i (B + 1) (d + 65) m_R_at [.ref 2, .int g, .int m] s) := by
  obtain ⟨⟨A, h⟩, a3⟩ := h
  exact wl_at _ _ a3 (XIt_u (ag_at (d := d) (i := i) h (g := g) (m := m)) (fun x T' q q2 => QL_ok q (sg3 q2 a3)) (fun e T' q q2 => q.imp (fun w => ⟨w.1, QL_no w.2 (sg3 q2 a3) (by decide)⟩) (fun w => ⟨w.1, QL_no w.2 (sg3 q2 a3) (by decide)⟩)))
theorem lg_arrives (h : IVE B T s) (g : Int32) : XI (cX i s) (d + 65) m_L_arrives [.ref 1, .int g, .ref 3] T (QL i (B + 1) (d + 65) m_R_arrives [.ref 2, .int g] s) := by
  obtain ⟨⟨A, h⟩, a3⟩ := h
  exact wl_arrives _ a3 (XIt_u (ag_arrives (d := d) (i := i) h (g := g)) (fun x T' q q2 => QL_ok q (sg3 q2 a3)) (fun e T' q q2 => ⟨q.1, QL_no q.2 (sg3 q2 a3) (by decide)⟩))
theorem lg_meets (h : IVE B T s) (g n : Int32) : XI (cX i s) (d + 65) m_L_meets [.ref 1, .int g, .int n, .ref 3] T (QL i (B + 1) (d + 65) m_R_meets [.ref 2, .int g, .int n] s) := by
  obtain ⟨⟨A, h⟩, a3⟩ := h
  exact wl_meets _ _ a3 (XIt_u (ag_meets (d := d) (i := i) h (g := g) (n := n)) (fun x T' q q2 => QL_ok q (sg3 q2 a3)) (fun e T' q q2 => q.imp (fun w => ⟨w.1, QL_no w.2 (sg3 q2 a3) (by decide)⟩) (fun w => ⟨w.1, QL_no w.2 (sg3 q2 a3) (by decide)⟩)))
theorem lg_melted (h : IVE B T s) (g n : Int32) : XI (cX i s) (d + 65) m_L_melted [.ref 1, .int g, .int n, .ref 3] T (QL i (B + 1) (d + 65) m_R_melted [.ref 2, .int g, .int n] s) := by
  obtain ⟨⟨A, h⟩, a3⟩ := h
  exact wl_melted _ _ a3 (XIt_u (ag_melted (d := d) (i := i) h (g := g) (n := n)) (fun x T' q q2 => QL_ok q (sg3 q2 a3)) (fun e T' q q2 => ⟨q.1, QL_no q.2 (sg3 q2 a3) (by decide)⟩))
theorem lg_quietest (h : IVE B T s) (g n : Int32) : XI (cX i s) (d + 65) m_L_quietest [.ref 1, .int g, .int n, .ref 3] T (QL i (B + 1) (d + 65) m_R_quietest [.ref 2, .int g, .int n] s) := by
  obtain ⟨⟨A, h⟩, a3⟩ := h
  exact wl_quietest _ _ a3 (XIt_u (ag_quietest (d := d) (i := i) h (g := g) (n := n)) (fun x T' q q2 => QL_ok q (sg3 q2 a3)) (fun e T' q q2 => ⟨q.1, QL_no q.2 (sg3 q2 a3) (by decide)⟩))
theorem lg_comesBack (h : IVE B T s) (wt : Int32) : XI (cX i s) (d + 65) m_L_comesBack [.ref 1, .int wt, .ref 3] T (QL i (B + 1) (d + 65) m_R_comesBack [.ref 2, .int wt] s) := by
  obtain ⟨⟨A, h⟩, a3⟩ := h
  exact wl_comesBack _ a3 (XIt_u (ag_comesBack (d := d) (i := i) h (wt := wt)) (fun x T' q q2 => QL_ok q (sg3 q2 a3)) (fun e T' q q2 => ⟨q.1, QL_no q.2 (sg3 q2 a3) (by decide)⟩))
theorem lg_mocksIn (h : IVE B T s) (g n : Int32) : XI (cX i s) (d + 65) m_L_mocksIn [.ref 1, .int g, .int n, .ref 3] T (QL i (B + 1) (d + 65) m_R_mocksIn [.ref 2, .int g, .int n] s) := by
  obtain ⟨⟨A, h⟩, a3⟩ := h
  exact wl_mocksIn _ _ a3 (XIt_u (ag_mocksIn (d := d) (i := i) h (g := g) (n := n)) (fun x T' q q2 => QL_ok q (sg3 q2 a3)) (fun e T' q q2 => q.imp (fun w => ⟨w.1, QL_no w.2 (sg3 q2 a3) (by decide)⟩) (fun w => ⟨w.1, QL_no w.2 (sg3 q2 a3) (by decide)⟩)))
theorem lg_seen (h : IVE B T s) (g : Int32) : XI (cX i s) (d + 65) m_L_seen [.ref 1, .int g, .ref 3] T (QL i (B + 1) (d + 65) m_R_seen [.ref 2, .int g] s) := by
  obtain ⟨⟨A, h⟩, a3⟩ := h
  exact wl_seen _ a3 (XIt_u (ag_seen (d := d) (i := i) h (g := g)) (fun x T' q q2 => QL_ok q (sg3 q2 a3)) (fun e T' q q2 => q.imp (fun w => ⟨w.1, QL_no w.2 (sg3 q2 a3) (by decide)⟩) (fun q => q.imp (fun w => ⟨w.1, QL_no w.2 (sg3 q2 a3) (by decide)⟩) (fun w => ⟨w.1, QL_no w.2 (sg3 q2 a3) (by decide)⟩))))
theorem lg_ever (h : IVE B T s) (g n : Int32) : XI (cX i s) (d + 65) m_L_ever [.ref 1, .int g, .int n, .ref 3] T (QL i (B + 1) (d + 65) m_R_ever [.ref 2, .int g, .int n] s) := by
  obtain ⟨⟨A, h⟩, a3⟩ := h
  exact wl_ever _ _ a3 (XIt_u (ag_ever (d := d) (i := i) h (g := g) (n := n)) (fun x T' q q2 => QL_ok q (sg3 q2 a3)) (fun e T' q q2 => q.imp (fun w => ⟨w.1, QL_no w.2 (sg3 q2 a3) (by decide)⟩) (fun w => ⟨w.1, QL_no w.2 (sg3 q2 a3) (by decide)⟩)))
theorem lg_fewest (h : IVE B T s) (n wt : Int32) : XI (cX i s) (d + 65) m_L_fewest [.ref 1, .int n, .int wt, .ref 3] T (QL i (B + 1) (d + 65) m_R_fewest [.ref 2, .int n, .int wt] s) := by
  obtain ⟨⟨A, h⟩, a3⟩ := h
  exact wl_fewest _ _ a3 (XIt_u (ag_fewest (d := d) (i := i) h (n := n) (wt := wt)) (fun x T' q q2 => QL_ok q (sg3 q2 a3)) (fun e T' q q2 => ⟨q.1, QL_no q.2 (sg3 q2 a3) (by decide)⟩))
theorem lg_copy (h : IVE B T s) (g : Int32) : XI (cX i s) (d + 65) m_L_copy [.ref 1, .int g, .ref 3] T (QL i (B + 1) (d + 65) m_R_copy [.ref 2, .int g] s) := by
  obtain ⟨⟨A, h⟩, a3⟩ := h
  exact wl_copy _ a3 (XIt_u (ag_copy (d := d) (i := i) h (g := g)) (fun x T' q q2 => QL_ok q (sg3 q2 a3)) (fun e T' q q2 => q.imp (fun w => ⟨w.1, QL_no w.2 (sg3 q2 a3) (by decide)⟩) (fun w => ⟨w.1, QL_no w.2 (sg3 q2 a3) (by decide)⟩)))
end LZ1
