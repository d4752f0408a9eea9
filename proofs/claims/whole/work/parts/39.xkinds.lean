/-! kinds of objects that come in any number; small answers of the class's own -/
def sW (a : Nat) : Nat := if a = 173 then 213 else a + 4
def sM (a : Nat) : Nat := if a = 173 then 217 else a + 8
def sR (a : Nat) : Nat := if a = 173 then 221 else a + 12
def fP (f : Nat) : Nat := if f = 49 then 89 else f + 4
def fN (f : Nat) : Nat := if f = 49 then 93 else f + 8
/-- a standing's cells -/
def SdS (T : XS) (a : Nat) : Prop := ob T a 9 ∧ frx T a 1 = some (sW a) ∧ frx T a 2 = some (sM a) ∧ frx T a 3 = some (sR a) ∧ ar T (sW a) 20 10 ∧ ar T (sM a) 20 10 ∧ ar T (sR a) 20 10
def FrS (T : XS) (a : Nat) : Prop := ob T a 4 ∧ frx T a 0 = some (fN a) ∧ frx T a 1 = some (fP a) ∧ ar T (fP a) 23 10
def TyS (T : XS) (a : Nat) : Prop := ob T a 11 ∧ frx T a 0 = some (a + 4) ∧ ar T (a + 4) 22 30
def nst (T : XS) (a : Nat) : Nat := (shx T (a + 28)).2
def CvS (T : XS) (a : Nat) : Prop := ob T a 2 ∧ (frx T a 3 = some (a + 4) ∧ frx T a 9 = some (a + 8) ∧ frx T a 10 = some (a + 12) ∧ frx T a 11 = some (a + 16) ∧ frx T a 12 = some (a + 20) ∧ frx T a 13 = some (a + 24) ∧ frx T a 7 = some (a + 28) ∧ frx T a 8 = some (a + 32)) ∧ ar T (a + 4) 20 10 ∧ ar T (a + 8) 20 10 ∧ ar T (a + 12) 20 10 ∧ ar T (a + 16) 20 10 ∧ ar T (a + 20) 20 10 ∧ ar T (a + 24) 20 10 ∧ ar T (a + 28) 20 (nst T a) ∧ ar T (a + 32) 20 (nst T a)
section SX1
variable {T : XS} {a : Nat}
theorem SdS.fw (h : SdS T a) : frx T a 1 = some (sW a) := h.2.1
theorem SdS.fm (h : SdS T a) : frx T a 2 = some (sM a) := h.2.2.1
theorem SdS.fr (h : SdS T a) : frx T a 3 = some (sR a) := h.2.2.2.1
theorem SdS.aw (h : SdS T a) : ar T (sW a) 20 10 := h.2.2.2.2.1
theorem SdS.am (h : SdS T a) : ar T (sM a) 20 10 := h.2.2.2.2.2.1
theorem SdS.ak (h : SdS T a) : ar T (sR a) 20 10 := h.2.2.2.2.2.2
theorem FrS.fn (h : FrS T a) : frx T a 0 = some (fN a) := h.2.1
theorem FrS.fp (h : FrS T a) : frx T a 1 = some (fP a) := h.2.2.1
theorem FrS.ap (h : FrS T a) : ar T (fP a) 23 10 := h.2.2.2
theorem TyS.fz (h : TyS T a) : frx T a 0 = some (a + 4) := h.2.1
theorem TyS.az (h : TyS T a) : ar T (a + 4) 22 30 := h.2.2
theorem CvS.f3 (h : CvS T a) : frx T a 3 = some (a + 4) := h.2.1.1
theorem CvS.f9 (h : CvS T a) : frx T a 9 = some (a + 8) := h.2.1.2.1
theorem CvS.f10 (h : CvS T a) : frx T a 10 = some (a + 12) := h.2.1.2.2.1
theorem CvS.f11 (h : CvS T a) : frx T a 11 = some (a + 16) := h.2.1.2.2.2.1
theorem CvS.f12 (h : CvS T a) : frx T a 12 = some (a + 20) := h.2.1.2.2.2.2.1
theorem CvS.f13 (h : CvS T a) : frx T a 13 = some (a + 24) := h.2.1.2.2.2.2.2.1
theorem CvS.f7 (h : CvS T a) : frx T a 7 = some (a + 28) := h.2.1.2.2.2.2.2.2.1
theorem CvS.f8 (h : CvS T a) : frx T a 8 = some (a + 32) := h.2.1.2.2.2.2.2.2.2
theorem CvS.a3 (h : CvS T a) : ar T (a + 4) 20 10 := h.2.2.1
theorem CvS.a9 (h : CvS T a) : ar T (a + 8) 20 10 := h.2.2.2.1
theorem CvS.a10 (h : CvS T a) : ar T (a + 12) 20 10 := h.2.2.2.2.1
theorem CvS.a11 (h : CvS T a) : ar T (a + 16) 20 10 := h.2.2.2.2.2.1
theorem CvS.a12 (h : CvS T a) : ar T (a + 20) 20 10 := h.2.2.2.2.2.2.1
theorem CvS.a13 (h : CvS T a) : ar T (a + 24) 20 10 := h.2.2.2.2.2.2.2.1
theorem CvS.a7 (h : CvS T a) : ar T (a + 28) 20 (nst T a) := h.2.2.2.2.2.2.2.2.1
theorem CvS.a8 (h : CvS T a) : ar T (a + 32) 20 (nst T a) := h.2.2.2.2.2.2.2.2.2
theorem frx_ne0 {k : Nat} (hk : k ≠ 0) (b : Nat) (x : Option Nat) : frx (tR T b 0 x) a k = frx T a k := by
  unfold frx
  have : xR (tR T b 0 x) a k = xR T a k := if_neg (fun q => hk q.2)
  rw [this]
theorem SdS.tR0 (h : SdS T a) (b : Nat) (x : Option Nat) : SdS (tR T b 0 x) a :=
  ⟨h.1, by rw [frx_ne0 (by decide)]; exact h.fw, by rw [frx_ne0 (by decide)]; exact h.fm, by rw [frx_ne0 (by decide)]; exact h.fr, h.aw, h.am, h.ak⟩
theorem CvS.tR0 (h : CvS T a) (b : Nat) (x : Option Nat) : CvS (tR T b 0 x) a :=
  ⟨h.1, ⟨by rw [frx_ne0 (by decide)]; exact h.f3, by rw [frx_ne0 (by decide)]; exact h.f9, by rw [frx_ne0 (by decide)]; exact h.f10, by rw [frx_ne0 (by decide)]; exact h.f11, by rw [frx_ne0 (by decide)]; exact h.f12, by rw [frx_ne0 (by decide)]; exact h.f13, by rw [frx_ne0 (by decide)]; exact h.f7, by rw [frx_ne0 (by decide)]; exact h.f8⟩, h.2.2⟩
theorem ob_lit {i ci : Nat} (h : a = 4 * i + 1) (hi : i < 57) (hs : (fixS i).1 = ci) : ob T a ci := by
  subst h
  refine ⟨Or.inl ⟨by omega, by omega⟩, ?_⟩
  unfold shx
  rw [if_pos (by omega), show (4 * i + 1) / 4 = i by omega]
  exact hs
theorem ar_lit {i kd n : Nat} (h : a = 4 * i + 1) (hi : i < 57) (hs : fixS i = (kd, n)) : ar T a kd n := by
  subst h
  refine ⟨Or.inl ⟨by omega, by omega⟩, ?_⟩
  unfold shx
  rw [if_pos (by omega), show (4 * i + 1) / 4 = i by omega]
  exact hs
theorem fit2 (b : Bool) : mj_fit 2 (.int (bI b)) = true := by cases b <;> rfl
/-- a standing's carnival may be put -/
theorem frx_put0 {x : Option Nat} (h : ob T a 9) : frx (tR T a 0 x) a 0 = x := by
  refine frx_put ?_
  obtain ⟨h1 | h1, h2⟩ := h
  · obtain ⟨h3, h4⟩ := h1
    right
    unfold shx at h2
    rw [if_pos h3] at h2
    generalize a / 4 = i at *
    have key : ∀ i, i < 57 → (fixS i).1 = 9 → i = 23 ∨ i = 43 := by decide
    rcases key i h4 h2 with rfl | rfl <;> rfl
  · exact Or.inl h1.1
end SX1
section SX2
variable {P : mj_P} {d mi pc : Nat} {L : mj_L} {st : List Value} {σ : mj_H} {Q : PO}
theorem ev_tswh {len tgt : Nat} {df lo hi : Int} {offs : Array Int} {hs : List Int} {x : Int32} {r : List Value} (hi' : mj_ins P mi pc = some (.tableswitch df lo hi offs, len)) (hx : x.toInt < lo ∨ hi < x.toInt ∨ x.toInt ∈ hs) (hh : ∀ z ∈ hs, lo ≤ z ∧ z ≤ hi ∧ offs[(z - lo).toNat]? = some df) (ht : (pc : Int) + df = (tgt : Int)) (k : ev P d mi tgt L r σ Q) : ev P d mi pc L (.int x :: r) σ Q := by
  have e0 : ¬ (pc : Int) + df < 0 := by omega
  have e1 : ((pc : Int) + df).toNat = tgt := by omega
  by_cases h : x.toInt < lo ∨ hi < x.toInt
  · exact ev_step hi' rfl (by simp only [mj_sim, mj_to, if_pos h, if_neg e0, e1]) k
  · have h3 : x.toInt ∈ hs := by
      rcases hx with q | q | q
      · exact absurd (Or.inl q) h
      · exact absurd (Or.inr q) h
      · exact q
    obtain ⟨-, -, h4⟩ := hh _ h3
    exact ev_step hi' rfl (by simp only [mj_sim, if_neg h, h4, mj_to, if_neg e0, e1]) k
end SX2
section SX3
variable {c : CX} {d mi pc : Nat} {L : mj_L} {st r : List Value} {T : XS} {Q : PO} {a idx len : Nat}
theorem xe_gfr {ci k w b : Nat} {v0 : Value} (hi : mj_ins (cP c) mi pc = some (.getfield idx, len)) (hl : mj_lnk (cP c) mi idx = some (0, ci, k, w, v0)) (ho : ob T a ci) (hc : 2 ≤ ci ∧ ci ≤ 12) (hk : (flds ci T a)[k]? = some (va_rf (frx T a k))) (hb : frx T a k = some b) (kk : ev (cP c) d mi (pc + len) L (.ref b :: r) (hX c T) Q) : ev (cP c) d mi pc L (.ref a :: r) (hX c T) Q :=
  xe_gf hi hl ho hc (by rw [hk, hb]; rfl) kk
theorem xq_I {i : Instr} {len idx mj na ci : Nat} {v : Value} {V : Int32} {S : XS} (hi : mj_ins (cP c) mi pc = some (i, len)) (hv : mj_inv i = some idx) (hl : mj_lnk (cP c) mi idx = some (4, mj, na, ci, v)) (hn : na ≤ st.length) (hc : mj_cat (st.drop na) ≤ 8) (hr : mj_rcv (cP c) (hX c T) i ci (st.take na).reverse = true)
    (k : XI c d mj (st.take na).reverse T (fun x s' => x = V ∧ s' = S)) (h : ev (cP c) (d + 1) mi (pc + 3) L (.int V :: st.drop na) (hX c S) Q) : ev (cP c) (d + 1) mi pc L st (hX c T) Q :=
  xc_I hi hv hl hn hc hr k (fun x s' q => by rw [q.1, q.2]; exact h)
theorem xq_B {i : Instr} {len idx mj na ci : Nat} {v : Value} {V : Bool} {S : XS} (hi : mj_ins (cP c) mi pc = some (i, len)) (hv : mj_inv i = some idx) (hl : mj_lnk (cP c) mi idx = some (4, mj, na, ci, v)) (hn : na ≤ st.length) (hc : mj_cat (st.drop na) ≤ 8) (hr : mj_rcv (cP c) (hX c T) i ci (st.take na).reverse = true)
    (k : XB c d mj (st.take na).reverse T (fun x s' => x = V ∧ s' = S)) (h : ev (cP c) (d + 1) mi (pc + 3) L (.int (bI V) :: st.drop na) (hX c S) Q) : ev (cP c) (d + 1) mi pc L st (hX c T) Q :=
  xc_B hi hv hl hn hc hr k (fun x s' q => by rw [q.1, q.2]; exact h)
/-- a stretch of ints copied -/
theorem xe_cpy {b n0 n1 sp dp n : Nat} {k1 k2 k3 : Nat} {v : Value} (hi : mj_ins (cP c) mi pc = some (.invokestatic idx, len)) (hl : mj_lnk (cP c) mi idx = some (6, k1, k2, k3, v)) (ha : ar T a 20 n0) (hb : ar T b 20 n1) (hab : a ≠ b) (h1 : sp + n ≤ n0) (h2 : dp + n ≤ n1) (h3 : n0 < 2 ^ 31) (h4 : n1 < 2 ^ 31) (hc : mj_cat r ≤ 8) (kk : ev (cP c) d mi (pc + 3) L r (hX c (tW T b (va_cpy (xA T a) (xA T b) sp dp n))) Q) : ev (cP c) d mi pc L (.int (nI n) :: .int (nI dp) :: .ref b :: .int (nI sp) :: .ref a :: r) (hX c T) Q := by
  refine ev_cpy hi hl ?_ kk
  unfold mj_cpy
  simp only [x_get ha.1, x_get hb.1, ar_int ha, ar_int hb]
  rw [if_pos]
  · rw [nI_clamp (by omega), nI_clamp (by omega), nI_clamp (by omega)]
    exact congrArg (fun z => some (r, z)) (x_setA hb)
  · rw [nI_clamp (by omega), nI_clamp (by omega), nI_clamp (by omega)]
    exact ⟨nI_pos (by omega), nI_pos (by omega), nI_pos (by omega), h1, h2, inb_4 ha.1, inb_4 hb.1, hab, hc⟩
end SX3
def one (a : Int32) : Bool := decide (0 ≤ a ∧ a < 10)
def drw (a : Int32) : Int32 := 1103515245 * a + 12345
def ush (x n : Int32) : Int32 := (x.toUInt32 >>> (n.toUInt32 &&& Int32.toUInt32 31)).toInt32
def bc1 (a : Int32) : Int32 := a - (ush a 1 &&& 1431655765)
def bc2 (b : Int32) : Int32 := (b &&& 858993459) + (ush b 2 &&& 858993459)
def bc3 (b : Int32) : Int32 := (b + ush b 4) &&& 252645135
def bc4 (b : Int32) : Int32 := b + ush b 8
def bc5 (b : Int32) : Int32 := b + ush b 16
def bcI (a : Int32) : Int32 := bc5 (bc4 (bc3 (bc2 (bc1 a)))) &&& 63
def stg (a0 : Int32) : Int32 := if a0 = 14 then 1 else if a0 = 15 then 2 else if a0 = 16 then 3 else if a0 = 26 then 5 else if a0 = 27 then 5 else if a0 = 28 then 6 else if a0 = 30 then 1 else if a0 = 32 then 1 else if a0 = 33 then 4 else if a0 = 34 then 4 else if a0 = 35 then 4 else 0
theorem bcI_nI : ∀ n, n < 1024 → bcI (nI n) = nI (pop n) := by1024 (by decide +kernel)
set_option maxRecDepth 8000 in
theorem wx_X_isOne {c : CX} {d : Nat} {T : XS} {Q : Bool → XS → Prop} (a0 : Int32) (H : ((a0 < 0 → Q false T) ∧ (¬ a0 < 0 → ((10 ≤ a0 → Q false T) ∧ (¬ 10 ≤ a0 → Q true T))))) : XB c (d) m_X_isOne [.int a0] T Q := by
  refine ⟨q_X_isOne, rfl, Nat.le_of_ble_eq_true rfl, ?_⟩
  refine ev_ex 0 (c' := (0, [some (.int a0)], [], hX c T)) rfl ?_
  refine ev_ex 1 (c' := (1, [some (.int a0)], [.int a0], hX c T)) rfl ?_
  refine ev_if_lt (tgt := 14) rfl rfl (fun h => ?_) (fun h => ?_)
  · replace H := H.1 (h)
    refine ev_ex 1 (c' := (15, [some (.int a0)], [.int 0], hX c T)) rfl ?_
    exact ev_retB (x := false) rfl rfl ⟨_, _, rfl, rfl, H⟩
  · replace H := H.2 (h)
    refine ev_ex 2 (c' := (7, [some (.int a0)], [.int 10, .int a0], hX c T)) rfl ?_
    refine ev_icmp_ge (tgt := 14) rfl rfl (fun h => ?_) (fun h => ?_)
    · replace H := H.1 (h)
      refine ev_ex 1 (c' := (15, [some (.int a0)], [.int 0], hX c T)) rfl ?_
      exact ev_retB (x := false) rfl rfl ⟨_, _, rfl, rfl, H⟩
    · replace H := H.2 (h)
      refine ev_ex 2 (c' := (15, [some (.int a0)], [.int 1], hX c T)) rfl ?_
      exact ev_retB (x := true) rfl rfl ⟨_, _, rfl, rfl, H⟩
set_option maxRecDepth 8000 in
theorem wx_Tk_isLetter {c : CX} {d : Nat} {T : XS} {Q : Bool → XS → Prop} (a0 : Int32) (H : ((a0 < 97 → Q false T) ∧ (¬ a0 < 97 → ((122 < a0 → Q false T) ∧ (¬ 122 < a0 → Q true T))))) : XB c (d) m_Tk_isLetter [.int a0] T Q := by
  refine ⟨q_Tk_isLetter, rfl, Nat.le_of_ble_eq_true rfl, ?_⟩
  refine ev_ex 0 (c' := (0, [some (.int a0)], [], hX c T)) rfl ?_
  refine ev_ex 2 (c' := (3, [some (.int a0)], [.int 97, .int a0], hX c T)) rfl ?_
  refine ev_icmp_lt (tgt := 16) rfl rfl (fun h => ?_) (fun h => ?_)
  · replace H := H.1 (h)
    refine ev_ex 1 (c' := (17, [some (.int a0)], [.int 0], hX c T)) rfl ?_
    exact ev_retB (x := false) rfl rfl ⟨_, _, rfl, rfl, H⟩
  · replace H := H.2 (h)
    refine ev_ex 2 (c' := (9, [some (.int a0)], [.int 122, .int a0], hX c T)) rfl ?_
    refine ev_icmp_gt (tgt := 16) rfl rfl (fun h => ?_) (fun h => ?_)
    · replace H := H.1 (h)
      refine ev_ex 1 (c' := (17, [some (.int a0)], [.int 0], hX c T)) rfl ?_
      exact ev_retB (x := false) rfl rfl ⟨_, _, rfl, rfl, H⟩
    · replace H := H.2 (h)
      refine ev_ex 2 (c' := (17, [some (.int a0)], [.int 1], hX c T)) rfl ?_
      exact ev_retB (x := true) rfl rfl ⟨_, _, rfl, rfl, H⟩
set_option maxRecDepth 8000 in
theorem wx_Tk_isDigit {c : CX} {d : Nat} {T : XS} {Q : Bool → XS → Prop} (a0 : Int32) (H : ((a0 < 48 → Q false T) ∧ (¬ a0 < 48 → ((57 < a0 → Q false T) ∧ (¬ 57 < a0 → Q true T))))) : XB c (d) m_Tk_isDigit [.int a0] T Q := by
  refine ⟨q_Tk_isDigit, rfl, Nat.le_of_ble_eq_true rfl, ?_⟩
  refine ev_ex 0 (c' := (0, [some (.int a0)], [], hX c T)) rfl ?_
  refine ev_ex 2 (c' := (3, [some (.int a0)], [.int 48, .int a0], hX c T)) rfl ?_
  refine ev_icmp_lt (tgt := 16) rfl rfl (fun h => ?_) (fun h => ?_)
  · replace H := H.1 (h)
    refine ev_ex 1 (c' := (17, [some (.int a0)], [.int 0], hX c T)) rfl ?_
    exact ev_retB (x := false) rfl rfl ⟨_, _, rfl, rfl, H⟩
  · replace H := H.2 (h)
    refine ev_ex 2 (c' := (9, [some (.int a0)], [.int 57, .int a0], hX c T)) rfl ?_
    refine ev_icmp_gt (tgt := 16) rfl rfl (fun h => ?_) (fun h => ?_)
    · replace H := H.1 (h)
      refine ev_ex 1 (c' := (17, [some (.int a0)], [.int 0], hX c T)) rfl ?_
      exact ev_retB (x := false) rfl rfl ⟨_, _, rfl, rfl, H⟩
    · replace H := H.2 (h)
      refine ev_ex 2 (c' := (17, [some (.int a0)], [.int 1], hX c T)) rfl ?_
      exact ev_retB (x := true) rfl rfl ⟨_, _, rfl, rfl, H⟩
set_option maxRecDepth 8000 in
theorem wx_X_drawn {c : CX} {d : Nat} {T : XS} {Q : Int32 → XS → Prop} (a0 : Int32) (H : Q ((1103515245 * a0) + 12345) T) : XI c (d) m_X_drawn [.int a0] T Q := by
  refine ⟨q_X_drawn, rfl, Nat.le_of_ble_eq_true rfl, ?_⟩
  refine ev_ex 0 (c' := (0, [some (.int a0)], [], hX c T)) rfl ?_
  refine ev_ex 5 (c' := (8, [some (.int a0)], [.int ((1103515245 * a0) + 12345)], hX c T)) rfl ?_
  exact ev_ret rfl rfl rfl ⟨_, _, rfl, rfl, H⟩
set_option maxRecDepth 8000 in
theorem wx_JM_max {c : CX} {d : Nat} {T : XS} {Q : Int32 → XS → Prop} (a0 : Int32) (a1 : Int32) (H : ((a0 < a1 → Q a1 T) ∧ (¬ a0 < a1 → Q a0 T))) : XI c (d) m_JM_max [.int a0, .int a1] T Q := by
  refine ⟨q_JM_max, rfl, Nat.le_of_ble_eq_true rfl, ?_⟩
  refine ev_ex 0 (c' := (0, [some (.int a0), some (.int a1)], [], hX c T)) rfl ?_
  refine ev_ex 2 (c' := (2, [some (.int a0), some (.int a1)], [.int a1, .int a0], hX c T)) rfl ?_
  refine ev_icmp_lt (tgt := 9) rfl rfl (fun h => ?_) (fun h => ?_)
  · replace H := H.1 (h)
    refine ev_ex 1 (c' := (10, [some (.int a0), some (.int a1)], [.int a1], hX c T)) rfl ?_
    exact ev_ret rfl rfl rfl ⟨_, _, rfl, rfl, H⟩
  · replace H := H.2 (h)
    refine ev_ex 2 (c' := (10, [some (.int a0), some (.int a1)], [.int a0], hX c T)) rfl ?_
    exact ev_ret rfl rfl rfl ⟨_, _, rfl, rfl, H⟩
set_option maxRecDepth 8000 in
theorem wx_JM_min {c : CX} {d : Nat} {T : XS} {Q : Int32 → XS → Prop} (a0 : Int32) (a1 : Int32) (H : ((a1 < a0 → Q a1 T) ∧ (¬ a1 < a0 → Q a0 T))) : XI c (d) m_JM_min [.int a0, .int a1] T Q := by
  refine ⟨q_JM_min, rfl, Nat.le_of_ble_eq_true rfl, ?_⟩
  refine ev_ex 0 (c' := (0, [some (.int a0), some (.int a1)], [], hX c T)) rfl ?_
  refine ev_ex 2 (c' := (2, [some (.int a0), some (.int a1)], [.int a1, .int a0], hX c T)) rfl ?_
  refine ev_icmp_gt (tgt := 9) rfl rfl (fun h => ?_) (fun h => ?_)
  · replace H := H.1 (h)
    refine ev_ex 1 (c' := (10, [some (.int a0), some (.int a1)], [.int a1], hX c T)) rfl ?_
    exact ev_ret rfl rfl rfl ⟨_, _, rfl, rfl, H⟩
  · replace H := H.2 (h)
    refine ev_ex 2 (c' := (10, [some (.int a0), some (.int a1)], [.int a0], hX c T)) rfl ?_
    exact ev_ret rfl rfl rfl ⟨_, _, rfl, rfl, H⟩
set_option maxRecDepth 8000 in
theorem wx_JM_abs {c : CX} {d : Nat} {T : XS} {Q : Int32 → XS → Prop} (a0 : Int32) (H : ((0 ≤ a0 → Q a0 T) ∧ (¬ 0 ≤ a0 → Q (-a0) T))) : XI c (d) m_JM_abs [.int a0] T Q := by
  refine ⟨q_JM_abs, rfl, Nat.le_of_ble_eq_true rfl, ?_⟩
  refine ev_ex 0 (c' := (0, [some (.int a0)], [], hX c T)) rfl ?_
  refine ev_ex 1 (c' := (1, [some (.int a0)], [.int a0], hX c T)) rfl ?_
  refine ev_if_ge (tgt := 9) rfl rfl (fun h => ?_) (fun h => ?_)
  · replace H := H.1 (h)
    refine ev_ex 1 (c' := (10, [some (.int a0)], [.int a0], hX c T)) rfl ?_
    exact ev_ret rfl rfl rfl ⟨_, _, rfl, rfl, H⟩
  · replace H := H.2 (h)
    refine ev_ex 3 (c' := (10, [some (.int a0)], [.int (-a0)], hX c T)) rfl ?_
    exact ev_ret rfl rfl rfl ⟨_, _, rfl, rfl, H⟩
set_option maxRecDepth 8000 in
theorem wx_JI_bitCount {c : CX} {d : Nat} {T : XS} {Q : Int32 → XS → Prop} (a0 : Int32) (H : Q ((((((((a0 - (((a0.toUInt32 >>> ((1 : Int32).toUInt32 &&& Int32.toUInt32 31)).toInt32) &&& 1431655765)) &&& 858993459) + ((((a0 - (((a0.toUInt32 >>> ((1 : Int32).toUInt32 &&& Int32.toUInt32 31)).toInt32) &&& 1431655765)).toUInt32 >>> ((2 : Int32).toUInt32 &&& Int32.toUInt32 31)).toInt32) &&& 858993459)) + (((((a0 - (((a0.toUInt32 >>> ((1 : Int32).toUInt32 &&& Int32.toUInt32 31)).toInt32) &&& 1431655765)) &&& 858993459) + ((((a0 - (((a0.toUInt32 >>> ((1 : Int32).toUInt32 &&& Int32.toUInt32 31)).toInt32) &&& 1431655765)).toUInt32 >>> ((2 : Int32).toUInt32 &&& Int32.toUInt32 31)).toInt32) &&& 858993459)).toUInt32 >>> ((4 : Int32).toUInt32 &&& Int32.toUInt32 31)).toInt32)) &&& 252645135) + (((((((a0 - (((a0.toUInt32 >>> ((1 : Int32).toUInt32 &&& Int32.toUInt32 31)).toInt32) &&& 1431655765)) &&& 858993459) + ((((a0 - (((a0.toUInt32 >>> ((1 : Int32).toUInt32 &&& Int32.toUInt32 31)).toInt32) &&& 1431655765)).toUInt32 >>> ((2 : Int32).toUInt32 &&& Int32.toUInt32 31)).toInt32) &&& 858993459)) + (((((a0 - (((a0.toUInt32 >>> ((1 : Int32).toUInt32 &&& Int32.toUInt32 31)).toInt32) &&& 1431655765)) &&& 858993459) + ((((a0 - (((a0.toUInt32 >>> ((1 : Int32).toUInt32 &&& Int32.toUInt32 31)).toInt32) &&& 1431655765)).toUInt32 >>> ((2 : Int32).toUInt32 &&& Int32.toUInt32 31)).toInt32) &&& 858993459)).toUInt32 >>> ((4 : Int32).toUInt32 &&& Int32.toUInt32 31)).toInt32)) &&& 252645135).toUInt32 >>> ((8 : Int32).toUInt32 &&& Int32.toUInt32 31)).toInt32)) + ((((((((a0 - (((a0.toUInt32 >>> ((1 : Int32).toUInt32 &&& Int32.toUInt32 31)).toInt32) &&& 1431655765)) &&& 858993459) + ((((a0 - (((a0.toUInt32 >>> ((1 : Int32).toUInt32 &&& Int32.toUInt32 31)).toInt32) &&& 1431655765)).toUInt32 >>> ((2 : Int32).toUInt32 &&& Int32.toUInt32 31)).toInt32) &&& 858993459)) + (((((a0 - (((a0.toUInt32 >>> ((1 : Int32).toUInt32 &&& Int32.toUInt32 31)).toInt32) &&& 1431655765)) &&& 858993459) + ((((a0 - (((a0.toUInt32 >>> ((1 : Int32).toUInt32 &&& Int32.toUInt32 31)).toInt32) &&& 1431655765)).toUInt32 >>> ((2 : Int32).toUInt32 &&& Int32.toUInt32 31)).toInt32) &&& 858993459)).toUInt32 >>> ((4 : Int32).toUInt32 &&& Int32.toUInt32 31)).toInt32)) &&& 252645135) + (((((((a0 - (((a0.toUInt32 >>> ((1 : Int32).toUInt32 &&& Int32.toUInt32 31)).toInt32) &&& 1431655765)) &&& 858993459) + ((((a0 - (((a0.toUInt32 >>> ((1 : Int32).toUInt32 &&& Int32.toUInt32 31)).toInt32) &&& 1431655765)).toUInt32 >>> ((2 : Int32).toUInt32 &&& Int32.toUInt32 31)).toInt32) &&& 858993459)) + (((((a0 - (((a0.toUInt32 >>> ((1 : Int32).toUInt32 &&& Int32.toUInt32 31)).toInt32) &&& 1431655765)) &&& 858993459) + ((((a0 - (((a0.toUInt32 >>> ((1 : Int32).toUInt32 &&& Int32.toUInt32 31)).toInt32) &&& 1431655765)).toUInt32 >>> ((2 : Int32).toUInt32 &&& Int32.toUInt32 31)).toInt32) &&& 858993459)).toUInt32 >>> ((4 : Int32).toUInt32 &&& Int32.toUInt32 31)).toInt32)) &&& 252645135).toUInt32 >>> ((8 : Int32).toUInt32 &&& Int32.toUInt32 31)).toInt32)).toUInt32 >>> ((16 : Int32).toUInt32 &&& Int32.toUInt32 31)).toInt32)) &&& 63) T) : XI c (d) m_JI_bitCount [.int a0] T Q := by
  refine ⟨q_JI_bitCount, rfl, Nat.le_of_ble_eq_true rfl, ?_⟩
  refine ev_ex 0 (c' := (0, [some (.int a0)], [], hX c T)) rfl ?_
  refine ev_ex 41 (c' := (52, [some (.int (((((((a0 - (((a0.toUInt32 >>> ((1 : Int32).toUInt32 &&& Int32.toUInt32 31)).toInt32) &&& 1431655765)) &&& 858993459) + ((((a0 - (((a0.toUInt32 >>> ((1 : Int32).toUInt32 &&& Int32.toUInt32 31)).toInt32) &&& 1431655765)).toUInt32 >>> ((2 : Int32).toUInt32 &&& Int32.toUInt32 31)).toInt32) &&& 858993459)) + (((((a0 - (((a0.toUInt32 >>> ((1 : Int32).toUInt32 &&& Int32.toUInt32 31)).toInt32) &&& 1431655765)) &&& 858993459) + ((((a0 - (((a0.toUInt32 >>> ((1 : Int32).toUInt32 &&& Int32.toUInt32 31)).toInt32) &&& 1431655765)).toUInt32 >>> ((2 : Int32).toUInt32 &&& Int32.toUInt32 31)).toInt32) &&& 858993459)).toUInt32 >>> ((4 : Int32).toUInt32 &&& Int32.toUInt32 31)).toInt32)) &&& 252645135) + (((((((a0 - (((a0.toUInt32 >>> ((1 : Int32).toUInt32 &&& Int32.toUInt32 31)).toInt32) &&& 1431655765)) &&& 858993459) + ((((a0 - (((a0.toUInt32 >>> ((1 : Int32).toUInt32 &&& Int32.toUInt32 31)).toInt32) &&& 1431655765)).toUInt32 >>> ((2 : Int32).toUInt32 &&& Int32.toUInt32 31)).toInt32) &&& 858993459)) + (((((a0 - (((a0.toUInt32 >>> ((1 : Int32).toUInt32 &&& Int32.toUInt32 31)).toInt32) &&& 1431655765)) &&& 858993459) + ((((a0 - (((a0.toUInt32 >>> ((1 : Int32).toUInt32 &&& Int32.toUInt32 31)).toInt32) &&& 1431655765)).toUInt32 >>> ((2 : Int32).toUInt32 &&& Int32.toUInt32 31)).toInt32) &&& 858993459)).toUInt32 >>> ((4 : Int32).toUInt32 &&& Int32.toUInt32 31)).toInt32)) &&& 252645135).toUInt32 >>> ((8 : Int32).toUInt32 &&& Int32.toUInt32 31)).toInt32)) + ((((((((a0 - (((a0.toUInt32 >>> ((1 : Int32).toUInt32 &&& Int32.toUInt32 31)).toInt32) &&& 1431655765)) &&& 858993459) + ((((a0 - (((a0.toUInt32 >>> ((1 : Int32).toUInt32 &&& Int32.toUInt32 31)).toInt32) &&& 1431655765)).toUInt32 >>> ((2 : Int32).toUInt32 &&& Int32.toUInt32 31)).toInt32) &&& 858993459)) + (((((a0 - (((a0.toUInt32 >>> ((1 : Int32).toUInt32 &&& Int32.toUInt32 31)).toInt32) &&& 1431655765)) &&& 858993459) + ((((a0 - (((a0.toUInt32 >>> ((1 : Int32).toUInt32 &&& Int32.toUInt32 31)).toInt32) &&& 1431655765)).toUInt32 >>> ((2 : Int32).toUInt32 &&& Int32.toUInt32 31)).toInt32) &&& 858993459)).toUInt32 >>> ((4 : Int32).toUInt32 &&& Int32.toUInt32 31)).toInt32)) &&& 252645135) + (((((((a0 - (((a0.toUInt32 >>> ((1 : Int32).toUInt32 &&& Int32.toUInt32 31)).toInt32) &&& 1431655765)) &&& 858993459) + ((((a0 - (((a0.toUInt32 >>> ((1 : Int32).toUInt32 &&& Int32.toUInt32 31)).toInt32) &&& 1431655765)).toUInt32 >>> ((2 : Int32).toUInt32 &&& Int32.toUInt32 31)).toInt32) &&& 858993459)) + (((((a0 - (((a0.toUInt32 >>> ((1 : Int32).toUInt32 &&& Int32.toUInt32 31)).toInt32) &&& 1431655765)) &&& 858993459) + ((((a0 - (((a0.toUInt32 >>> ((1 : Int32).toUInt32 &&& Int32.toUInt32 31)).toInt32) &&& 1431655765)).toUInt32 >>> ((2 : Int32).toUInt32 &&& Int32.toUInt32 31)).toInt32) &&& 858993459)).toUInt32 >>> ((4 : Int32).toUInt32 &&& Int32.toUInt32 31)).toInt32)) &&& 252645135).toUInt32 >>> ((8 : Int32).toUInt32 &&& Int32.toUInt32 31)).toInt32)).toUInt32 >>> ((16 : Int32).toUInt32 &&& Int32.toUInt32 31)).toInt32)))], [.int ((((((((a0 - (((a0.toUInt32 >>> ((1 : Int32).toUInt32 &&& Int32.toUInt32 31)).toInt32) &&& 1431655765)) &&& 858993459) + ((((a0 - (((a0.toUInt32 >>> ((1 : Int32).toUInt32 &&& Int32.toUInt32 31)).toInt32) &&& 1431655765)).toUInt32 >>> ((2 : Int32).toUInt32 &&& Int32.toUInt32 31)).toInt32) &&& 858993459)) + (((((a0 - (((a0.toUInt32 >>> ((1 : Int32).toUInt32 &&& Int32.toUInt32 31)).toInt32) &&& 1431655765)) &&& 858993459) + ((((a0 - (((a0.toUInt32 >>> ((1 : Int32).toUInt32 &&& Int32.toUInt32 31)).toInt32) &&& 1431655765)).toUInt32 >>> ((2 : Int32).toUInt32 &&& Int32.toUInt32 31)).toInt32) &&& 858993459)).toUInt32 >>> ((4 : Int32).toUInt32 &&& Int32.toUInt32 31)).toInt32)) &&& 252645135) + (((((((a0 - (((a0.toUInt32 >>> ((1 : Int32).toUInt32 &&& Int32.toUInt32 31)).toInt32) &&& 1431655765)) &&& 858993459) + ((((a0 - (((a0.toUInt32 >>> ((1 : Int32).toUInt32 &&& Int32.toUInt32 31)).toInt32) &&& 1431655765)).toUInt32 >>> ((2 : Int32).toUInt32 &&& Int32.toUInt32 31)).toInt32) &&& 858993459)) + (((((a0 - (((a0.toUInt32 >>> ((1 : Int32).toUInt32 &&& Int32.toUInt32 31)).toInt32) &&& 1431655765)) &&& 858993459) + ((((a0 - (((a0.toUInt32 >>> ((1 : Int32).toUInt32 &&& Int32.toUInt32 31)).toInt32) &&& 1431655765)).toUInt32 >>> ((2 : Int32).toUInt32 &&& Int32.toUInt32 31)).toInt32) &&& 858993459)).toUInt32 >>> ((4 : Int32).toUInt32 &&& Int32.toUInt32 31)).toInt32)) &&& 252645135).toUInt32 >>> ((8 : Int32).toUInt32 &&& Int32.toUInt32 31)).toInt32)) + ((((((((a0 - (((a0.toUInt32 >>> ((1 : Int32).toUInt32 &&& Int32.toUInt32 31)).toInt32) &&& 1431655765)) &&& 858993459) + ((((a0 - (((a0.toUInt32 >>> ((1 : Int32).toUInt32 &&& Int32.toUInt32 31)).toInt32) &&& 1431655765)).toUInt32 >>> ((2 : Int32).toUInt32 &&& Int32.toUInt32 31)).toInt32) &&& 858993459)) + (((((a0 - (((a0.toUInt32 >>> ((1 : Int32).toUInt32 &&& Int32.toUInt32 31)).toInt32) &&& 1431655765)) &&& 858993459) + ((((a0 - (((a0.toUInt32 >>> ((1 : Int32).toUInt32 &&& Int32.toUInt32 31)).toInt32) &&& 1431655765)).toUInt32 >>> ((2 : Int32).toUInt32 &&& Int32.toUInt32 31)).toInt32) &&& 858993459)).toUInt32 >>> ((4 : Int32).toUInt32 &&& Int32.toUInt32 31)).toInt32)) &&& 252645135) + (((((((a0 - (((a0.toUInt32 >>> ((1 : Int32).toUInt32 &&& Int32.toUInt32 31)).toInt32) &&& 1431655765)) &&& 858993459) + ((((a0 - (((a0.toUInt32 >>> ((1 : Int32).toUInt32 &&& Int32.toUInt32 31)).toInt32) &&& 1431655765)).toUInt32 >>> ((2 : Int32).toUInt32 &&& Int32.toUInt32 31)).toInt32) &&& 858993459)) + (((((a0 - (((a0.toUInt32 >>> ((1 : Int32).toUInt32 &&& Int32.toUInt32 31)).toInt32) &&& 1431655765)) &&& 858993459) + ((((a0 - (((a0.toUInt32 >>> ((1 : Int32).toUInt32 &&& Int32.toUInt32 31)).toInt32) &&& 1431655765)).toUInt32 >>> ((2 : Int32).toUInt32 &&& Int32.toUInt32 31)).toInt32) &&& 858993459)).toUInt32 >>> ((4 : Int32).toUInt32 &&& Int32.toUInt32 31)).toInt32)) &&& 252645135).toUInt32 >>> ((8 : Int32).toUInt32 &&& Int32.toUInt32 31)).toInt32)).toUInt32 >>> ((16 : Int32).toUInt32 &&& Int32.toUInt32 31)).toInt32)) &&& 63)], hX c T)) rfl ?_
  exact ev_ret rfl rfl rfl ⟨_, _, rfl, rfl, H⟩
set_option maxRecDepth 8000 in
theorem wx_Lr_strength {c : CX} {d : Nat} {T : XS} {Q : Int32 → XS → Prop} (a0 : Int32) (H : ((a0 = 14 → Q 1 T) ∧ (a0 = 15 → Q 2 T) ∧ (a0 = 16 → Q 3 T) ∧ (a0 = 26 → Q 5 T) ∧ (a0 = 27 → Q 5 T) ∧ (a0 = 28 → Q 6 T) ∧ (a0 = 30 → Q 1 T) ∧ (a0 = 32 → Q 1 T) ∧ (a0 = 33 → Q 4 T) ∧ (a0 = 34 → Q 4 T) ∧ (a0 = 35 → Q 4 T) ∧ (¬ a0 = 14 ∧ ¬ a0 = 15 ∧ ¬ a0 = 16 ∧ ¬ a0 = 26 ∧ ¬ a0 = 27 ∧ ¬ a0 = 28 ∧ ¬ a0 = 30 ∧ ¬ a0 = 32 ∧ ¬ a0 = 33 ∧ ¬ a0 = 34 ∧ ¬ a0 = 35 → Q 0 T))) : XI c (d) m_Lr_strength [.int a0] T Q := by
  refine ⟨q_Lr_strength, rfl, Nat.le_of_ble_eq_true rfl, ?_⟩
  refine ev_ex 0 (c' := (0, [some (.int a0)], [], hX c T)) rfl ?_
  refine ev_ex 1 (c' := (1, [some (.int a0)], [.int a0], hX c T)) rfl ?_
  by_cases h0 : a0 = 14
  · refine ev_sw h0 (tgt := 104) rfl rfl ?_
    replace H := H.1 h0
    refine ev_ex 1 (c' := (105, [some (.int a0)], [.int 1], hX c T)) rfl ?_
    exact ev_ret rfl rfl rfl ⟨_, _, rfl, rfl, H⟩
  by_cases h1 : a0 = 15
  · refine ev_sw h1 (tgt := 106) rfl rfl ?_
    replace H := H.2.1 h1
    refine ev_ex 1 (c' := (107, [some (.int a0)], [.int 2], hX c T)) rfl ?_
    exact ev_ret rfl rfl rfl ⟨_, _, rfl, rfl, H⟩
  by_cases h2 : a0 = 16
  · refine ev_sw h2 (tgt := 108) rfl rfl ?_
    replace H := H.2.2.1 h2
    refine ev_ex 1 (c' := (109, [some (.int a0)], [.int 3], hX c T)) rfl ?_
    exact ev_ret rfl rfl rfl ⟨_, _, rfl, rfl, H⟩
  by_cases h3 : a0 = 26
  · refine ev_sw h3 (tgt := 112) rfl rfl ?_
    replace H := H.2.2.2.1 h3
    refine ev_ex 1 (c' := (113, [some (.int a0)], [.int 5], hX c T)) rfl ?_
    exact ev_ret rfl rfl rfl ⟨_, _, rfl, rfl, H⟩
  by_cases h4 : a0 = 27
  · refine ev_sw h4 (tgt := 112) rfl rfl ?_
    replace H := H.2.2.2.2.1 h4
    refine ev_ex 1 (c' := (113, [some (.int a0)], [.int 5], hX c T)) rfl ?_
    exact ev_ret rfl rfl rfl ⟨_, _, rfl, rfl, H⟩
  by_cases h5 : a0 = 28
  · refine ev_sw h5 (tgt := 114) rfl rfl ?_
    replace H := H.2.2.2.2.2.1 h5
    refine ev_ex 1 (c' := (116, [some (.int a0)], [.int 6], hX c T)) rfl ?_
    exact ev_ret rfl rfl rfl ⟨_, _, rfl, rfl, H⟩
  by_cases h6 : a0 = 30
  · refine ev_sw h6 (tgt := 104) rfl rfl ?_
    replace H := H.2.2.2.2.2.2.1 h6
    refine ev_ex 1 (c' := (105, [some (.int a0)], [.int 1], hX c T)) rfl ?_
    exact ev_ret rfl rfl rfl ⟨_, _, rfl, rfl, H⟩
  by_cases h7 : a0 = 32
  · refine ev_sw h7 (tgt := 104) rfl rfl ?_
    replace H := H.2.2.2.2.2.2.2.1 h7
    refine ev_ex 1 (c' := (105, [some (.int a0)], [.int 1], hX c T)) rfl ?_
    exact ev_ret rfl rfl rfl ⟨_, _, rfl, rfl, H⟩
  by_cases h8 : a0 = 33
  · refine ev_sw h8 (tgt := 110) rfl rfl ?_
    replace H := H.2.2.2.2.2.2.2.2.1 h8
    refine ev_ex 1 (c' := (111, [some (.int a0)], [.int 4], hX c T)) rfl ?_
    exact ev_ret rfl rfl rfl ⟨_, _, rfl, rfl, H⟩
  by_cases h9 : a0 = 34
  · refine ev_sw h9 (tgt := 110) rfl rfl ?_
    replace H := H.2.2.2.2.2.2.2.2.2.1 h9
    refine ev_ex 1 (c' := (111, [some (.int a0)], [.int 4], hX c T)) rfl ?_
    exact ev_ret rfl rfl rfl ⟨_, _, rfl, rfl, H⟩
  by_cases h10 : a0 = 35
  · refine ev_sw h10 (tgt := 110) rfl rfl ?_
    replace H := H.2.2.2.2.2.2.2.2.2.2.1 h10
    refine ev_ex 1 (c' := (111, [some (.int a0)], [.int 4], hX c T)) rfl ?_
    exact ev_ret rfl rfl rfl ⟨_, _, rfl, rfl, H⟩
  replace H := H.2.2.2.2.2.2.2.2.2.2.2 ⟨h0, h1, h2, h3, h4, h5, h6, h7, h8, h9, h10⟩
  refine ev_tswh (tgt := 117) (hs := [17, 18, 19, 20, 21, 22, 23, 24, 25, 29, 31]) rfl (by have e0 := i32_ne h0 (z := 14) rfl; have e1 := i32_ne h1 (z := 15) rfl; have e2 := i32_ne h2 (z := 16) rfl; have e3 := i32_ne h3 (z := 26) rfl; have e4 := i32_ne h4 (z := 27) rfl; have e5 := i32_ne h5 (z := 28) rfl; have e6 := i32_ne h6 (z := 30) rfl; have e7 := i32_ne h7 (z := 32) rfl; have e8 := i32_ne h8 (z := 33) rfl; have e9 := i32_ne h9 (z := 34) rfl; have e10 := i32_ne h10 (z := 35) rfl; simp only [List.mem_cons, List.not_mem_nil, or_false]; omega) (by decide) rfl ?_
  refine ev_ex 1 (c' := (118, [some (.int a0)], [.int 0], hX c T)) rfl ?_
  exact ev_ret rfl rfl rfl ⟨_, _, rfl, rfl, H⟩
section ZX
variable {c : CX} {d : Nat} {T : XS}
theorem zx_X_isOne {Q : Bool → XS → Prop} {a0 : Int32} (h : Q (one a0) T) : XB c d m_X_isOne [.int a0] T Q := by
  refine wx_X_isOne _ ⟨fun q => ?_, fun q => ⟨fun q2 => ?_, fun q2 => ?_⟩⟩
  · have e : one a0 = false := decide_eq_false (fun z => (nlt32.mpr z.1) q)
    rwa [e] at h
  · have e : one a0 = false := decide_eq_false (fun z => (nlt32.mpr q2) z.2)
    rwa [e] at h
  · have e : one a0 = true := decide_eq_true ⟨nlt32.mp q, nle32.mp q2⟩
    rwa [e] at h
theorem zx_Tk_isLetter {Q : Bool → XS → Prop} {a0 : Int32} (h : Q (isLt a0) T) : XB c d m_Tk_isLetter [.int a0] T Q := by
  refine wx_Tk_isLetter _ ⟨fun q => ?_, fun q => ⟨fun q2 => ?_, fun q2 => ?_⟩⟩
  · have e : isLt a0 = false := decide_eq_false (fun z => (nlt32.mpr z.1) q)
    rwa [e] at h
  · have e : isLt a0 = false := decide_eq_false (fun z => (nlt32.mpr z.2) q2)
    rwa [e] at h
  · have e : isLt a0 = true := decide_eq_true ⟨nlt32.mp q, nlt32.mp q2⟩
    rwa [e] at h
theorem zx_Tk_isDigit {Q : Bool → XS → Prop} {a0 : Int32} (h : Q (isDg a0) T) : XB c d m_Tk_isDigit [.int a0] T Q := by
  refine wx_Tk_isDigit _ ⟨fun q => ?_, fun q => ⟨fun q2 => ?_, fun q2 => ?_⟩⟩
  · have e : isDg a0 = false := decide_eq_false (fun z => (nlt32.mpr z.1) q)
    rwa [e] at h
  · have e : isDg a0 = false := decide_eq_false (fun z => (nlt32.mpr z.2) q2)
    rwa [e] at h
  · have e : isDg a0 = true := decide_eq_true ⟨nlt32.mp q, nlt32.mp q2⟩
    rwa [e] at h
theorem zx_X_drawn {Q : Int32 → XS → Prop} {a0 : Int32} (h : Q (drw a0) T) : XI c d m_X_drawn [.int a0] T Q := wx_X_drawn _ h
theorem zx_JI_bitCount {Q : Int32 → XS → Prop} {a0 : Int32} (h : Q (bcI a0) T) : XI c d m_JI_bitCount [.int a0] T Q := wx_JI_bitCount _ h
theorem zx_JM_max {Q : Int32 → XS → Prop} {a0 a1 : Int32} (h : Q (mxI a0 a1) T) : XI c d m_JM_max [.int a0, .int a1] T Q := by
  unfold mxI at h
  exact wx_JM_max _ _ ⟨fun q => by rwa [if_pos q] at h, fun q => by rwa [if_neg q] at h⟩
theorem zx_JM_min {Q : Int32 → XS → Prop} {a0 a1 : Int32} (h : Q (mnI a0 a1) T) : XI c d m_JM_min [.int a0, .int a1] T Q := by
  unfold mnI at h
  exact wx_JM_min _ _ ⟨fun q => by rwa [if_pos q] at h, fun q => by rwa [if_neg q] at h⟩
theorem zx_JM_abs {Q : Int32 → XS → Prop} {a0 : Int32} (h : Q (abI a0) T) : XI c d m_JM_abs [.int a0] T Q := by
  unfold abI at h
  exact wx_JM_abs _ ⟨fun q => by rwa [if_pos q] at h, fun q => by rwa [if_neg q] at h⟩
theorem zx_Lr_strength {Q : Int32 → XS → Prop} {a0 : Int32} (h : Q (stg a0) T) : XI c d m_Lr_strength [.int a0] T Q := by
  unfold stg at h
  refine wx_Lr_strength _ ⟨fun z => ?_, fun z => ?_, fun z => ?_, fun z => ?_, fun z => ?_, fun z => ?_, fun z => ?_, fun z => ?_, fun z => ?_, fun z => ?_, fun z => ?_, fun z => ?_⟩
  iterate 11 (subst z; exact h)
  obtain ⟨z1, z2, z3, z4, z5, z6, z7, z8, z9, z10, z11⟩ := z
  rwa [if_neg z1, if_neg z2, if_neg z3, if_neg z4, if_neg z5, if_neg z6, if_neg z7, if_neg z8, if_neg z9, if_neg z10, if_neg z11] at h
end ZX
section SX4
variable {P : mj_P} {d mi pc : Nat} {L : mj_L} {st r : List Value} {σ : mj_H} {Q : PO} {len : Nat} {e : Option Nat}
theorem xe_aso {k : Fin 4} (hi : mj_ins P mi pc = some (.astore_n k, len)) (hk : (k : Nat) < L.length) (kk : ev P d mi (pc + len) (mj_st1 L k (va_rf e)) r σ Q) : ev P d mi pc L (va_rf e :: r) σ Q := by
  cases e <;> exact ev_step hi rfl (by simp only [mj_sim, va_rf, if_pos hk]) kk
theorem xe_aso' {k : Nat} (hi : mj_ins P mi pc = some (.astore k, len)) (hk : k < L.length) (kk : ev P d mi (pc + len) (mj_st1 L k (va_rf e)) r σ Q) : ev P d mi pc L (va_rf e :: r) σ Q := by
  cases e <;> exact ev_step hi rfl (by simp only [mj_sim, va_rf, if_pos hk]) kk
theorem xe_alo {k : Fin 4} (hi : mj_ins P mi pc = some (.aload_n k, len)) (hL : L[(k : Nat)]? = some (some (va_rf e))) (kk : ev P d mi (pc + len) L (va_rf e :: st) σ Q) : ev P d mi pc L st σ Q := by
  cases e <;> exact ev_step hi rfl (by simp only [mj_sim, hL, va_rf]) kk
theorem xe_alo' {k : Nat} (hi : mj_ins P mi pc = some (.aload k, len)) (hL : L[k]? = some (some (va_rf e))) (kk : ev P d mi (pc + len) L (va_rf e :: st) σ Q) : ev P d mi pc L st σ Q := by
  cases e <;> exact ev_step hi rfl (by simp only [mj_sim, hL, va_rf]) kk
theorem st1_o {k : Nat} {v : Value} (hL : L[k]? = some (some (va_rf e))) : mj_st1 L (k + 1) v = L.set (k + 1) (some v) := by
  unfold mj_st1 mj_kill
  simp only [hL]
  cases e <;> rfl
theorem xe_iso' {k : Nat} {x : Int32} (hi : mj_ins P mi pc = some (.istore (k + 1), len)) (hL : L[k]? = some (some (va_rf e))) (hk : k + 1 < L.length) (kk : ev P d mi (pc + len) (L.set (k + 1) (some (.int x))) r σ Q) : ev P d mi pc L (.int x :: r) σ Q :=
  ev_step hi rfl (by simp only [mj_sim, if_pos hk, st1_o hL]) kk
end SX4
