/-! small answers of the reference, told at once -/
def wth (a b c : Int64) : Bool := decide (b ≤ a ∧ a ≤ c)
def hs (a k : Int32) : Bool := decide (((a >>> (k &&& 31)) &&& 1) = 1)
def mxI (a b : Int32) : Int32 := if a < b then b else a
def mnI (a b : Int32) : Int32 := if b < a then b else a
def abI (a : Int32) : Int32 := if 0 ≤ a then a else -a
def mxL (a b : Int64) : Int64 := if a < b then b else a
def mnL (a b : Int64) : Int64 := if b < a then b else a
theorem nlt64 {a b : Int64} : ¬ a < b ↔ b ≤ a := by rw [fa_lt64, fa_le64]; omega
theorem nlt32 {a b : Int32} : ¬ a < b ↔ b ≤ a := by rw [fa_lt, fa_le]; omega
theorem nle32 {a b : Int32} : ¬ a ≤ b ↔ b < a := by rw [fa_lt, fa_le]; omega
section IN1
variable {c : CX} {d : Nat} {s : RS}
theorem zq_R_within {Q : Bool → RS → Prop} {a0 a1 a2 : Int64} (h : Q (wth a0 a1 a2) s) : RB c d m_R_within [.long a0, .long a1, .long a2] s Q := by
  refine w_R_within _ _ _ ⟨fun q => ?_, fun q => ⟨fun q2 => ?_, fun q2 => ?_⟩⟩
  · have e : wth a0 a1 a2 = false := decide_eq_false (fun z => (nlt64.mpr z.1) q)
    rwa [e] at h
  · have e : wth a0 a1 a2 = false := decide_eq_false (fun z => (nlt64.mpr z.2) q2)
    rwa [e] at h
  · have e : wth a0 a1 a2 = true := decide_eq_true ⟨nlt64.mp q, nlt64.mp q2⟩
    rwa [e] at h
theorem zq_R_has {Q : Bool → RS → Prop} {a0 a1 : Int32} (h : Q (hs a0 a1) s) : RB c d m_R_has [.int a0, .int a1] s Q := by
  refine w_R_has _ _ ⟨fun q => ?_, fun q => ?_⟩
  · have e : hs a0 a1 = false := decide_eq_false q
    rwa [e] at h
  · have e : hs a0 a1 = true := decide_eq_true q
    rwa [e] at h
theorem zq_R_guilds {Q : Int32 → RS → Prop} (h : Q (s.2.1 1 1) s) : RI c d m_R_guilds [.ref 2] s Q := w_R_guilds ⟨rfl, h⟩
theorem zq_R_mocked {Q : Int32 → RS → Prop} {a0 : Int32} (h0 : okx (6 + a0) 2101) (h : Q (s.2.1 1 (ix (6 + a0))) s) : RI c d m_R_mocked [.ref 2, .int a0] s Q := w_R_mocked _ ⟨h0, h⟩
theorem zq_R_isGuild {Q : Bool → RS → Prop} {a0 : Int64} (h : Q (wth a0 0 (s.2.1 1 1 - 1).toInt64) s) : RB c (d + 1) m_R_isGuild [.ref 2, .long a0] s Q := w_R_isGuild _ (zq_R_guilds (zq_R_within h))
theorem zq_R_isTray {Q : Bool → RS → Prop} {a0 : Int32} (h : Q (wth a0.toInt64 0 3) s) : RB c (d + 1) m_R_isTray [.int a0] s Q := w_R_isTray _ (zq_R_within h)
theorem zq_R_fails {Q : Int32 → RS → Prop} {a0 : Int32} (h : Q 0 (rF s 4 a0)) : RI c d m_R_fails [.ref 2, .int a0] s Q := w_R_fails _ h
theorem zq_R_thrown {Q : Int32 → RS → Prop} (h : Q (s.1 4) s) : RI c d m_R_thrown [.ref 2] s Q := w_R_thrown h
def isLt (a : Int32) : Bool := decide (97 ≤ a ∧ a ≤ 122)
def isDg (a : Int32) : Bool := decide (48 ≤ a ∧ a ≤ 57)
theorem zq_R_isLetter {Q : Bool → RS → Prop} {a0 : Int32} (h : Q (isLt a0) s) : RB c d m_R_isLetter [.int a0] s Q := by
  refine w_R_isLetter _ ⟨fun q => ?_, fun q => ⟨fun q2 => ?_, fun q2 => ?_⟩⟩
  · have e : isLt a0 = false := decide_eq_false (fun z => (nlt32.mpr z.1) q)
    rwa [e] at h
  · have e : isLt a0 = false := decide_eq_false (fun z => (nlt32.mpr z.2) q2)
    rwa [e] at h
  · have e : isLt a0 = true := decide_eq_true ⟨nlt32.mp q, nlt32.mp q2⟩
    rwa [e] at h
theorem zq_R_isDigit {Q : Bool → RS → Prop} {a0 : Int32} (h : Q (isDg a0) s) : RB c d m_R_isDigit [.int a0] s Q := by
  refine w_R_isDigit _ ⟨fun q => ?_, fun q => ⟨fun q2 => ?_, fun q2 => ?_⟩⟩
  · have e : isDg a0 = false := decide_eq_false (fun z => (nlt32.mpr z.1) q)
    rwa [e] at h
  · have e : isDg a0 = false := decide_eq_false (fun z => (nlt32.mpr z.2) q2)
    rwa [e] at h
  · have e : isDg a0 = true := decide_eq_true ⟨nlt32.mp q, nlt32.mp q2⟩
    rwa [e] at h
theorem zq_R_isSign {Q : Bool → RS → Prop} {a0 : Int32} (h : Q (decide (s.1 12 = 0 ∧ s.1 10 = a0)) s) : RB c d m_R_isSign [.ref 2, .int a0] s Q := by
  refine w_R_isSign _ ⟨fun q => ?_, fun q => ⟨fun q2 => ?_, fun q2 => ?_⟩⟩
  · rwa [decide_eq_false (fun z => q z.1)] at h
  · rwa [decide_eq_false (fun z => q2 z.2)] at h
  · rwa [decide_eq_true ⟨q, q2⟩] at h
theorem zq_JM_max {Q : Int32 → RS → Prop} {a0 a1 : Int32} (h : Q (mxI a0 a1) s) : RI c d m_JM_max [.int a0, .int a1] s Q := by
  unfold mxI at h
  exact w_JM_max _ _ ⟨fun q => by rwa [if_pos q] at h, fun q => by rwa [if_neg q] at h⟩
theorem zq_JM_min {Q : Int32 → RS → Prop} {a0 a1 : Int32} (h : Q (mnI a0 a1) s) : RI c d m_JM_min [.int a0, .int a1] s Q := by
  unfold mnI at h
  exact w_JM_min _ _ ⟨fun q => by rwa [if_pos q] at h, fun q => by rwa [if_neg q] at h⟩
theorem zq_JM_abs {Q : Int32 → RS → Prop} {a0 : Int32} (h : Q (abI a0) s) : RI c d m_JM_abs [.int a0] s Q := by
  unfold abI at h
  exact w_JM_abs _ ⟨fun q => by rwa [if_pos q] at h, fun q => by rwa [if_neg q] at h⟩
theorem zq_JM_max_2 {Q : Int64 → RS → Prop} {a0 a1 : Int64} (h : Q (mxL a0 a1) s) : RJ c d m_JM_max_2 [.long a0, .long a1] s Q := by
  unfold mxL at h
  exact w_JM_max_2 _ _ ⟨fun q => by rwa [if_pos q] at h, fun q => by rwa [if_neg q] at h⟩
theorem zq_JM_min_2 {Q : Int64 → RS → Prop} {a0 a1 : Int64} (h : Q (mnL a0 a1) s) : RJ c d m_JM_min_2 [.long a0, .long a1] s Q := by
  unfold mnL at h
  exact w_JM_min_2 _ _ ⟨fun q => by rwa [if_pos q] at h, fun q => by rwa [if_neg q] at h⟩
end IN1
/-! numbers -/

theorem nI_inj {a b : Nat} (ha : a < 2 ^ 31) (hb : b < 2 ^ 31) : nI a = nI b ↔ a = b := by
  rw [fa_eq, nI_toInt ha, nI_toInt hb]; omega


theorem ix_nI {a : Nat} (ha : a < 2 ^ 31) : ix (nI a) = a := nI_clamp ha
theorem okx_nI' {i n : Nat} (h : i < n) (hn : n < 2 ^ 31) : okx (nI i) n := okx_nI h hn
theorem nI_sub {a b : Nat} (h : b ≤ a) : nI a - nI b = nI (a - b) := by
  have e : nI a = nI (a - b) + nI b := by rw [nI_add]; congr 1; omega
  rw [e, Int32.add_sub_cancel]
theorem nI_mul (a b : Nat) : nI a * nI b = nI (a * b) := by
  unfold nI
  exact (Int32.ofNat_mul a b).symm
/-- none is -1 -/
def oI (o : Option Nat) : Int32 := match o with
  | none => -1
  | some k => nI k
theorem oI_none {o : Option Nat} (h : ∀ k, o = some k → k < 2 ^ 31) : oI o = -1 ↔ o = none := by
  cases o with
  | none => exact ⟨fun _ => rfl, fun _ => rfl⟩
  | some k =>
    refine ⟨fun q => ?_, fun q => by cases q⟩
    have q2 : (nI k).toInt = (-1 : Int32).toInt := congrArg Int32.toInt q
    rw [nI_toInt (h k rfl)] at q2
    have : ((-1 : Int32).toInt : Int) = -1 := rfl
    omega
theorem oI_some {o : Option Nat} {j : Nat} (h : ∀ k, o = some k → k < 2 ^ 31) (hj : j < 2 ^ 31) : oI o = nI j ↔ o = some j := by
  cases o with
  | none =>
    refine ⟨fun q => ?_, fun q => by cases q⟩
    have q2 : (-1 : Int32).toInt = (nI j).toInt := congrArg Int32.toInt q
    rw [nI_toInt hj] at q2
    have : ((-1 : Int32).toInt : Int) = -1 := rfl
    omega
  | some k =>
    show nI k = nI j ↔ _
    rw [nI_inj (h k rfl) hj]
    exact ⟨fun q => by rw [q], fun q => Option.some.inj q⟩
theorem wth_t {a b c : Int64} : wth a b c = true ↔ b.toInt ≤ a.toInt ∧ a.toInt ≤ c.toInt := by
  unfold wth
  rw [decide_eq_true_iff, fa_le64, fa_le64]
theorem wth_f {a b c : Int64} : wth a b c = false ↔ ¬ (b.toInt ≤ a.toInt ∧ a.toInt ≤ c.toInt) := by
  unfold wth
  rw [decide_eq_false_iff_not, fa_le64, fa_le64]
theorem i64_toInt (x : Int32) : x.toInt64.toInt = x.toInt := Int32.toInt_toInt64 x
theorem nI_of_toInt {x : Int32} {k : Nat} (h : x.toInt = k) : x = nI k := by
  have hk : k < 2 ^ 31 := by have := fb_rng x; omega
  rw [fa_eq, nI_toInt hk, h]
theorem gm1 {G : Nat} (hG : G ≤ 10) : (nI G - 1).toInt64.toInt = (G : Int) - 1 := by
  rw [i64_toInt, fb_subI] <;> rw [nI_toInt (by omega)] <;> (show _; simp; try omega)
/-- a guild's number -/
theorem isg_t {x : Int32} {G : Nat} (hG : G ≤ 10) (h : wth x.toInt64 0 (nI G - 1).toInt64 = true) : ∃ k, k < G ∧ x = nI k := by
  rw [wth_t, gm1 hG, i64_toInt] at h
  have h0 : ((0 : Int64).toInt : Int) = 0 := rfl
  exact ⟨x.toInt.toNat, by omega, nI_of_toInt (by omega)⟩
theorem isg_f {x : Int32} {G : Nat} (hG : G ≤ 10) (h : wth x.toInt64 0 (nI G - 1).toInt64 = false) : ¬ (0 ≤ x.toInt ∧ x.toInt < G) := by
  rw [wth_f, gm1 hG, i64_toInt] at h
  have h0 : ((0 : Int64).toInt : Int) = 0 := rfl
  omega
