/-! the reference's cells, its calls -/
abbrev RS : Type := (Nat → Int32) × (Nat → Nat → Int32) × (Nat → Nat → Int64)
def rr (s : RS) : List mj_C := [.inr (13, [.ref 6, .ref 10, .ref 14, .ref 18, .int (s.1 4), .ref 22, .int (s.1 6), .int (s.1 7), .int (s.1 8), .int (s.1 9), .int (s.1 10), .int (s.1 11), .int (s.1 12), .int (s.1 13), .int (s.1 14), .int (s.1 15), .int (s.1 16), .int (s.1 17), .int (s.1 18), .ref 26, .ref 30, .ref 34, .int (s.1 22), .ref 38, .ref 42, .ref 46, .int (s.1 26), .int (s.1 27), .int (s.1 28), .ref 50, .ref 54, .int (s.1 31), .int (s.1 32), .ref 58, .ref 62, .ref 66, .ref 70]), .inl (.int, 2101, .inl (s.2.1 1)), .inl (.int, 2101, .inl (s.2.1 2)), .inl (.int, 6303, .inl (s.2.1 3)), .inl (.boolean, 3, .inl (s.2.1 4)), .inl (.int, 900, .inl (s.2.1 5)), .inl (.int, 64, .inl (s.2.1 6)), .inl (.int, 10, .inl (s.2.1 7)), .inl (.int, 21, .inl (s.2.1 8)), .inl (.int, 20, .inl (s.2.1 9)), .inl (.int, 21, .inl (s.2.1 10)), .inl (.int, 10, .inl (s.2.1 11)), .inl (.int, 8, .inl (s.2.1 12)), .inl (.int, 8, .inl (s.2.1 13)), .inl (.long, 1001, .inr (.inl (s.2.2 14))), .inl (.int, 4, .inl (s.2.1 15)), .inl (.int, 4, .inl (s.2.1 16)), .inl (.long, 120, .inr (.inl (s.2.2 17)))]
def rF (s : RS) (k : Nat) (v : Int32) : RS := (fun j => if j = k then v else s.1 j, s.2.1, s.2.2)
def rA (s : RS) (i j : Nat) (v : Int32) : RS := (s.1, fun i' => if i' = i then upd (s.2.1 i) j v else s.2.1 i', s.2.2)
def rL (s : RS) (i j : Nat) (v : Int64) : RS := (s.1, s.2.1, fun i' => if i' = i then vp_updL (s.2.2 i) j v else s.2.2 i')
abbrev CX : Type := Nat × (Nat → Int32) × Value × List mj_C × List mj_C × Nat
def cP (c : CX) : mj_P := t_P c.1 c.2.1 c.2.2.1
def cH (c : CX) (s : RS) : mj_H := (c.2.2.2.1, rr s, c.2.2.2.2.1, c.2.2.2.2.2)
def bI (b : Bool) : Int32 := if b then 1 else 0
def okx (j : Int32) (n : Nat) : Prop := mj_okx j n = true
def ix (j : Int32) : Nat := j.toNatClampNeg
abbrev PO : Type := (Option Value ⊕ Nat) → mj_H → Prop
def pI (c : CX) (Q : Int32 → RS → Prop) : PO := fun r σ => ∃ x s', r = .inl (some (.int x)) ∧ σ = cH c s' ∧ Q x s'
def pB (c : CX) (Q : Bool → RS → Prop) : PO := fun r σ => ∃ x s', r = .inl (some (.int (bI x))) ∧ σ = cH c s' ∧ Q x s'
def pJ (c : CX) (Q : Int64 → RS → Prop) : PO := fun r σ => ∃ x s', r = .inl (some (.long x)) ∧ σ = cH c s' ∧ Q x s'
def pV (c : CX) (Q : RS → Prop) : PO := fun r σ => ∃ s', r = .inl none ∧ σ = cH c s' ∧ Q s'
def RI (c : CX) (d m : Nat) (as : List Value) (s : RS) (Q : Int32 → RS → Prop) : Prop := cal (cP c) d m as (cH c s) (pI c Q)
def RB (c : CX) (d m : Nat) (as : List Value) (s : RS) (Q : Bool → RS → Prop) : Prop := cal (cP c) d m as (cH c s) (pB c Q)
def RJ (c : CX) (d m : Nat) (as : List Value) (s : RS) (Q : Int64 → RS → Prop) : Prop := cal (cP c) d m as (cH c s) (pJ c Q)
def RV (c : CX) (d m : Nat) (as : List Value) (s : RS) (Q : RS → Prop) : Prop := cal (cP c) d m as (cH c s) (pV c Q)
def eR (c : CX) (d m pc : Nat) (L : mj_L) (s : RS) (Q : PO) : Prop := ev (cP c) d m pc L [] (cH c s) Q
section RR1
variable {c : CX} {d mi pc : Nat} {L : mj_L} {st : List Value} {s : RS} {Q : PO}
theorem rc_I {i : Instr} {len idx mj na ci : Nat} {v : Value} (hi : mj_ins (cP c) mi pc = some (i, len)) (hv : mj_inv i = some idx) (hl : mj_lnk (cP c) mi idx = some (4, mj, na, ci, v)) (hn : na ≤ st.length) (hc : mj_cat (st.drop na) ≤ 8) (hr : mj_rcv (cP c) (cH c s) i ci (st.take na).reverse = true)
    {K : Int32 → RS → Prop} (k : RI c d mj (st.take na).reverse s K) (h : ∀ x s', K x s' → ev (cP c) (d + 1) mi (pc + 3) L (.int x :: st.drop na) (cH c s') Q) : ev (cP c) (d + 1) mi pc L st (cH c s) Q := by
  refine ev_call hi hv hl hn hc hr (cal_mono k ?_)
  rintro r σ' ⟨x, s', rfl, rfl, hq⟩
  exact ⟨_, rfl, h x s' hq⟩
theorem rc_B {i : Instr} {len idx mj na ci : Nat} {v : Value} (hi : mj_ins (cP c) mi pc = some (i, len)) (hv : mj_inv i = some idx) (hl : mj_lnk (cP c) mi idx = some (4, mj, na, ci, v)) (hn : na ≤ st.length) (hc : mj_cat (st.drop na) ≤ 8) (hr : mj_rcv (cP c) (cH c s) i ci (st.take na).reverse = true)
    {K : Bool → RS → Prop} (k : RB c d mj (st.take na).reverse s K) (h : ∀ x s', K x s' → ev (cP c) (d + 1) mi (pc + 3) L (.int (bI x) :: st.drop na) (cH c s') Q) : ev (cP c) (d + 1) mi pc L st (cH c s) Q := by
  refine ev_call hi hv hl hn hc hr (cal_mono k ?_)
  rintro r σ' ⟨x, s', rfl, rfl, hq⟩
  exact ⟨_, rfl, h x s' hq⟩
theorem rc_J {i : Instr} {len idx mj na ci : Nat} {v : Value} (hi : mj_ins (cP c) mi pc = some (i, len)) (hv : mj_inv i = some idx) (hl : mj_lnk (cP c) mi idx = some (4, mj, na, ci, v)) (hn : na ≤ st.length) (hc : mj_cat (st.drop na) ≤ 8) (hr : mj_rcv (cP c) (cH c s) i ci (st.take na).reverse = true)
    {K : Int64 → RS → Prop} (k : RJ c d mj (st.take na).reverse s K) (h : ∀ x s', K x s' → ev (cP c) (d + 1) mi (pc + 3) L (.long x :: st.drop na) (cH c s') Q) : ev (cP c) (d + 1) mi pc L st (cH c s) Q := by
  refine ev_call hi hv hl hn hc hr (cal_mono k ?_)
  rintro r σ' ⟨x, s', rfl, rfl, hq⟩
  exact ⟨_, rfl, h x s' hq⟩
theorem rc_V {i : Instr} {len idx mj na ci : Nat} {v : Value} (hi : mj_ins (cP c) mi pc = some (i, len)) (hv : mj_inv i = some idx) (hl : mj_lnk (cP c) mi idx = some (4, mj, na, ci, v)) (hn : na ≤ st.length) (hc : mj_cat (st.drop na) ≤ 8) (hr : mj_rcv (cP c) (cH c s) i ci (st.take na).reverse = true)
    {K : RS → Prop} (k : RV c d mj (st.take na).reverse s K) (h : ∀ s', K s' → ev (cP c) (d + 1) mi (pc + 3) L (st.drop na) (cH c s') Q) : ev (cP c) (d + 1) mi pc L st (cH c s) Q := by
  refine ev_call hi hv hl hn hc hr (cal_mono k ?_)
  rintro r σ' ⟨s', rfl, rfl, hq⟩
  exact ⟨_, rfl, h s' hq⟩
end RR1
section RR2
variable {P : mj_P} {d mi pc : Nat} {L : mj_L} {st : List Value} {σ : mj_H} {Q : PO}
theorem ev_if_eqB {x : Bool} {off : Int} {len tgt : Nat} {r : List Value} (hi : mj_ins P mi pc = some (.ifCond .eq off, len)) (ht : (pc : Int) + off = (tgt : Int)) (kt : x = false → ev P d mi tgt L r σ Q) (kf : x = true → ev P d mi (pc + 3) L r σ Q) : ev P d mi pc L (.int (bI x) :: r) σ Q := by
  refine ev_if_eq hi ht (fun h => kt ?_) (fun h => kf ?_)
  · cases x
    · rfl
    · exact absurd h (by decide)
  · cases x
    · exact absurd rfl h
    · rfl
theorem ev_if_neB {x : Bool} {off : Int} {len tgt : Nat} {r : List Value} (hi : mj_ins P mi pc = some (.ifCond .ne off, len)) (ht : (pc : Int) + off = (tgt : Int)) (kt : x = true → ev P d mi tgt L r σ Q) (kf : x = false → ev P d mi (pc + 3) L r σ Q) : ev P d mi pc L (.int (bI x) :: r) σ Q := by
  refine ev_if_ne hi ht (fun h => kt ?_) (fun h => kf ?_)
  · cases x
    · exact absurd rfl h
    · rfl
  · cases x
    · rfl
    · exact absurd h (by decide)
theorem ev_retB {x : Bool} {len : Nat} (hi : mj_ins P mi pc = some (.ireturn, len)) (hr : mj_rt P mi = some .boolean) (k : Q (.inl (some (.int (bI x)))) σ) : ev P d mi pc L [.int (bI x)] σ Q := by
  refine ev_ret hi rfl ?_ k
  rw [hr]
  cases x <;> rfl
/-- locals that are none may be anything -/
def lle (L L' : mj_L) : Prop := L.length = L'.length ∧ ∀ (i : Nat) (v : Value), L[i]? = some (some v) → L'[i]? = some (some v)
end RR2
