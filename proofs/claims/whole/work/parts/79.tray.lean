/-! trays -/
/-- sort, how many, numbers -/
abbrev TY : Type := Nat × Nat × (Nat → Int64)
def tyok (t : TY) : Prop := t.1 ≤ 3 ∧ t.2.1 ≤ 30
def TRY1 (T : XS) (b : Nat) (t : TY) : Prop := TyS T b ∧ b % 4 = 3 ∧ xI T b 1 = nI t.1 ∧ xI T b 2 = nI t.2.1 ∧ tyok t ∧ ∀ j, j < 30 → xL T (b + 4) j = t.2.2 j
def TRX (T : XS) (q : Nat → Option TY) : Prop := (∀ i, i < 4 → (q i = none ∧ xQ T 113 i = none) ∨ ∃ b t, q i = some t ∧ xQ T 113 i = some b ∧ TRY1 T b t) ∧ ∀ i j b, i < 4 → j < 4 → xQ T 113 i = some b → xQ T 113 j = some b → i = j
def TRR (s : RS) (q : Nat → Option TY) : Prop := ∀ i, i < 4 → (q i = none ∧ s.2.1 15 i = -1) ∨ ∃ t, q i = some t ∧ s.2.1 15 i = nI t.1 ∧ s.2.1 16 i = nI t.2.1 ∧ tyok t ∧ ∀ j, j < 30 → s.2.2 17 (30 * i + j) = t.2.2 j
def cutL (so : Nat) (v : Int64) : Int64 := if so = 0 then v.toInt32.toInt8.toInt32.toInt64 else if so = 1 then v.toInt32.toInt16.toInt32.toInt64 else if so = 2 then v.toInt32.toInt64 else v
def putT (t : TY) (k : Nat) (x : Int64) : TY := (t.1, t.2.1, fun j => if j = k then cutL t.1 x else t.2.2 j)
def updT (q : Nat → Option TY) (i : Nat) (t : TY) : Nat → Option TY := fun j => if j = i then some t else q j
section TX1
variable {S : Nat → Prop} {c : CX} {d : Nat} {T T' : XS} {b : Nat} {t : TY} {q : Nat → Option TY}
theorem grw.ty1 (h : grw S T T') (x : TRY1 T b t) (n0 : ¬ S b) (n1 : ¬ S (b + 4)) : TRY1 T' b t := by
  obtain ⟨h1, h2, h3, h4, h5, h6⟩ := x
  refine ⟨⟨h.o h1.1, by rw [h.fx h1.1.1 (Or.inr n0)]; exact h1.fz, h.r h1.az⟩, h2, by rw [h.I h1.1.1 n0]; exact h3, by rw [h.I h1.1.1 n0]; exact h4, h5, fun j hj => ?_⟩
  rw [h.L h1.az.1 n1]; exact h6 j hj
theorem in113 : inb T 113 := Or.inl ⟨rfl, by decide⟩
theorem grw.trx (h : grw S T T') (x : TRX T q) (n0 : ¬ S 113) (n : ∀ b, TyS T b → b % 4 = 3 → ¬ S b ∧ ¬ S (b + 4)) : TRX T' q := by
  have e : xQ T' 113 = xQ T 113 := h.Q in113 n0
  refine ⟨fun i hi => ?_, fun i j b hi hj h1 h2 => ?_⟩
  · rcases x.1 i hi with y | ⟨b, t, y1, y2, y3⟩
    · exact Or.inl ⟨y.1, by rw [e]; exact y.2⟩
    · exact Or.inr ⟨b, t, y1, by rw [e]; exact y2, h.ty1 y3 (n b y3.1 y3.2.1).1 (n b y3.1 y3.2.1).2⟩
  · rw [e] at h1 h2
    exact x.2 i j b hi hj h1 h2
/-- trays lie apart from each other -/
theorem ty_dis {a b : Nat} (ha : TyS T a) (hb : TyS T b) (hne : a ≠ b) : a ≠ b + 4 ∧ a + 4 ≠ b := by
  refine ⟨fun e => ?_, fun e => ?_⟩
  · have := ha.1.2
    rw [e, hb.az.2] at this
    cases this
  · have := hb.1.2
    rw [← e, ha.az.2] at this
    cases this
theorem frm.ty1 (h : frm S T T') (x : TRY1 T b t) (n0 : ¬ S b) (n1 : ¬ S (b + 4)) : TRY1 T' b t := h.grw.ty1 x n0 n1
/-- one tray's cells alone change -/
theorem trx_put (x : TRX T q) {i : Nat} (hi : i < 4) {b : Nat} (hb : xQ T 113 i = some b) (hT : TyS T b) (hf : frm (fun y => y = b ∨ y = b + 4) T T') (h1 : TRY1 T' b t) : TRX T' (updT q i t) := by
  have b3 : b % 4 = 3 := h1.2.1
  have e : xQ T' 113 = xQ T 113 := hf.Q (by omega)
  refine ⟨fun j hj => ?_, fun j k y hj hk y1 y2 => ?_⟩
  · by_cases z : j = i
    · exact Or.inr ⟨b, t, if_pos z, by rw [e, z]; exact hb, h1⟩
    · rcases x.1 j hj with y | ⟨b2, t2, y1, y2, y3⟩
      · exact Or.inl ⟨(if_neg z).trans y.1, by rw [e]; exact y.2⟩
      · have hne : b2 ≠ b := fun w => z (x.2 j i b hj hi (by rw [y2, w]) hb)
        have := ty_dis y3.1 hT hne
        exact Or.inr ⟨b2, t2, (if_neg z).trans y1, by rw [e]; exact y2, hf.ty1 y3 (by omega) (by omega)⟩
  · rw [e] at y1 y2
    exact x.2 j k y hj hk y1 y2
theorem x_needTray {Q : Option Nat → XS → Prop} {E : Nat → XS → Prop} (hR : RL c) (h : TRX T q) {g : Int32} (ok : ∀ i b t, g = nI i → i < 4 → q i = some t → xQ T 113 i = some b → TRY1 T b t → Q (some b) T) (bad : ¬ (0 ≤ g.toInt ∧ g.toInt ≤ 3) → E 2 (tN T 0 0 6)) (bad2 : ∀ i, g = nI i → i < 4 → q i = none → E 3 (tN T 0 0 6)) : XOt c d m_X_needTray [.ref 1, .int g] T Q E := by
  have e0 : ((0 : Int32).toInt : Int) = 0 := rfl
  have e4 : ((4 : Int32).toInt : Int) = 4 := rfl
  refine wx_X_needTray hR _ ⟨fun z => bad (by rw [fa_lt] at z; omega), fun z => ⟨fun z2 => ?_, fun z2 => bad (by rw [fa_lt] at z2; omega)⟩⟩
  rw [fa_lt] at z z2
  have eg : g = nI g.toInt.toNat := nI_of_toInt (by omega)
  have hi : g.toInt.toNat < 4 := by omega
  generalize g.toInt.toNat = i at *
  rw [eg, ix_nI (by omega)]
  refine ⟨okn hi (by decide), fun y => ?_, fun b y => ?_⟩
  · rcases h.1 i hi with w | ⟨b, t, w1, w2, w3⟩
    · exact bad2 i eg hi w.1
    · rw [y] at w2; cases w2
  · rcases h.1 i hi with w | ⟨b', t, w1, w2, w3⟩
    · rw [y] at w; cases w.2
    · have : b' = b := by rw [y] at w2; exact (Option.some.inj w2).symm
      subst this
      exact ok i b' t eg hi w1 y w3
theorem x_numberAt {Q : Int64 → XS → Prop} (h : TRY1 T b t) {k : Nat} (hk : k < t.2.1) (hq : Q (t.2.2 k) T) : XJ c d m_Ty_numberAt [.ref b, .int (nI k)] T Q := by
  obtain ⟨h1, h2, h3, h4, h5, h6⟩ := h
  have := h5.2
  refine wx_Ty_numberAt _ _ ⟨fun z => absurd z (nI_pos (by omega)), fun _ => ⟨h1, ?_⟩⟩
  rw [h4, nI_leI (by omega) (by omega), ix_nI (by omega), h6 k (by omega)]
  exact ⟨fun z => absurd z (by omega), fun _ => ⟨okn (by omega) (by decide), hq⟩⟩
theorem x_Ty_cut {Q : Int64 → XS → Prop} (h : TRY1 T b t) {x : Int64} (hq : Q (cutL t.1 x) T) : XJ c d m_Ty_cut [.ref b, .long x] T Q := by
  obtain ⟨h1, h2, h3, h4, h5, h6⟩ := h
  have h51 := h5.1
  have key : ∀ j : Nat, j < 2 ^ 31 → (nI t.1 = nI j ↔ t.1 = j) := fun j hj => nI_inj (by omega) hj
  refine wx_Ty_cut _ _ ⟨h1, ?_⟩
  rw [h3, show (nI t.1 = (0 : Int32)) = (t.1 = 0) from propext (key 0 (by decide)), show (nI t.1 = (1 : Int32)) = (t.1 = 1) from propext (key 1 (by decide)), show (nI t.1 = (2 : Int32)) = (t.1 = 2) from propext (key 2 (by decide))]
  unfold cutL at hq
  refine ⟨fun z => by rwa [if_pos z] at hq, fun z => by rwa [if_neg (by omega), if_pos z] at hq, fun z => by rwa [if_neg (by omega), if_neg (by omega), if_pos z] at hq, fun z => by rwa [if_neg z.1, if_neg z.2.1, if_neg z.2.2] at hq⟩
theorem xL_L (T : XS) (a j : Nat) (v : Int64) (b : Nat) : xL (tL T a j v) b = if b = a then vp_updL (xL T a) j v else xL T b := rfl
theorem x_Ty_put {Q : Int64 → XS → Prop} (h : TRY1 T b t) {k : Nat} (hk : k < t.2.1) {x : Int64} (hq : ∀ T', frm (fun y => y = b ∨ y = b + 4) T T' → TRY1 T' b (putT t k x) → Q (cutL t.1 x) T') : XJ c (d + 1) m_Ty_put [.ref b, .int (nI k), .long x] T Q := by
  have hh := h
  obtain ⟨h1, h2, h3, h4, h5, h6⟩ := h
  have := h5.2
  refine wx_Ty_put _ _ _ ⟨fun z => absurd z (nI_pos (by omega)), fun _ => ⟨h1, ?_⟩⟩
  rw [h4, nI_ltI (by omega) (by omega), ix_nI (by omega)]
  refine ⟨fun _ => x_Ty_cut hh ⟨h1, okn (by omega) (by decide), okn (by omega) (by decide), ?_⟩, fun z => absurd hk z⟩
  have hf : frm (fun y => y = b ∨ y = b + 4) T (tL T (b + 4) k (cutL t.1 x)) := frm_L (S := fun y => y = b ∨ y = b + 4) (Or.inr rfl) _ _
  have e : ∀ j, xL (tL T (b + 4) k (cutL t.1 x)) (b + 4) j = if j = k then cutL t.1 x else xL T (b + 4) j := fun j => by
    rw [xL_L, if_pos rfl]
    rfl
  rw [e k, if_pos rfl]
  refine hq _ hf ⟨⟨hf.o h1.1, h1.fz, hf.r h1.az⟩, h2, h3, h4, h5, fun j hj => ?_⟩
  rw [e j]
  show _ = if j = k then cutL t.1 x else t.2.2 j
  rw [h6 j hj]
end TX1
