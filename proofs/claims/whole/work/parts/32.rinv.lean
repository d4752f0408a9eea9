/-! a carnival, a standing; what the reference knows of them -/
/-- lines, guilds, streets (how many, ways, paces), laws, flags -/
abbrev CV : Type := Nat × Nat × Nat × (Nat → Nat) × (Nat → Nat) × List Nat × List Nat × (Nat → Nat → Nat)
abbrev vL (v : CV) : Nat := v.1
abbrev vG (v : CV) : Nat := v.2.1
abbrev vT (v : CV) : Nat := v.2.2.1
abbrev vY (v : CV) : Nat → Nat := v.2.2.2.1
abbrev vP (v : CV) : Nat → Nat := v.2.2.2.2.1
abbrev vM (v : CV) : List Nat := v.2.2.2.2.2.1
abbrev vA (v : CV) : List Nat := v.2.2.2.2.2.2.1
abbrev vF (v : CV) : Nat → Nat → Nat := v.2.2.2.2.2.2.2
/-- whom, ranks, nights -/
abbrev SD : Type := (Nat → Option Nat) × (Nat → Nat) × Int32
def rW (s : RS) (i : Nat) (f : Nat → Int32) : RS := (s.1, fun i' => if i' = i then f else s.2.1 i', s.2.2)
theorem rA_W (s : RS) (i j : Nat) (v : Int32) : rA s i j v = rW s i (upd (s.2.1 i) j v) := rfl
theorem rW_W (s : RS) (i : Nat) (f g : Nat → Int32) : rW (rW s i f) i g = rW s i g := by
  unfold rW
  simp only [Prod.mk.injEq, true_and, and_true]
  funext i'
  split <;> rfl
theorem rW_id (s : RS) (i : Nat) : rW s i (s.2.1 i) = s := by
  unfold rW
  have : (fun i' => if i' = i then s.2.1 i else s.2.1 i') = s.2.1 := by
    funext i'
    split
    · rename_i h; rw [h]
    · rfl
  rw [this]
theorem rW_at (s : RS) (i : Nat) (f : Nat → Int32) : (rW s i f).2.1 i = f := if_pos rfl
theorem rW_ne (s : RS) {i j : Nat} (f : Nat → Int32) (h : j ≠ i) : (rW s i f).2.1 j = s.2.1 j := if_neg h
theorem rW_sw (s : RS) {i j : Nat} (f g : Nat → Int32) (h : i ≠ j) : rW (rW s i f) j g = rW (rW s j g) i f := by
  unfold rW
  simp only [Prod.mk.injEq, true_and, and_true]
  funext i'
  by_cases h1 : i' = j
  · subst h1; simp [Ne.symm h]
  · simp [h1]
def KS (k : Nat → Int32) (b : Nat) (a : SD) : Prop := (∀ g, g < 10 → k (b + g) = oI (a.1 g)) ∧ (∀ g, g < 10 → k (b + 10 + g) = nI (a.2.1 g)) ∧ k (b + 20) = a.2.2
def SOK (G : Nat) (a : SD) : Prop := (∀ g h, a.1 g = some h → g < G ∧ h < G ∧ h ≠ g) ∧ ∀ g, g < 10 → a.2.1 g ≤ 99
/-- the kinds of what lies on the stack, behind a step of a law -/
def tkS (ty : List Bool) (x : Nat) : Option (List Bool) :=
  if 100 ≤ x then (if ty.length < 60 ∧ (x < 108 ∨ 1000 ≤ x ∧ x < 2000) then some (false :: ty) else none)
  else if x = 18 then (match ty with
    | true :: r => some (true :: r)
    | _ => none)
  else if 10 ≤ x ∧ x ≤ 12 then (match ty with
    | false :: false :: r => some (false :: r)
    | _ => none)
  else if 13 ≤ x ∧ x ≤ 15 then (match ty with
    | false :: false :: r => some (true :: r)
    | _ => none)
  else if x = 16 ∨ x = 17 then (match ty with
    | true :: true :: r => some (true :: r)
    | _ => none)
  else none
def tkL : List Bool → List Nat → Option (List Bool)
  | ty, [] => some ty
  | ty, x :: r => match tkS ty x with
    | some ty' => tkL ty' r
    | none => none
def lawok (l : List Nat) : Prop := tkL [] l = some [true] ∧ l.length ≤ 900
def COK (v : CV) : Prop := vG v ≤ 10 ∧ vT v ≤ 12 ∧ (∀ i, i < vT v → vY v i < 4 ∧ 1 ≤ vP v i ∧ vP v i ≤ 20) ∧ (vM v = [] ∨ lawok (vM v)) ∧ (vA v = [] ∨ lawok (vA v)) ∧ (∀ g, g < vG v → 1 ≤ vF v 1 g ∧ vF v 1 g ≤ 9 ∧ vF v 2 g ≤ 9 ∧ vF v 3 g ≤ 9 ∧ vF v 4 g ≤ 99) ∧ vL v ≤ 900
def KC (k : Nat → Int32) (v : CV) : Prop := k 0 = nI (vL v) ∧ k 1 = nI (vG v) ∧ k 2 = nI (vT v) ∧ k 3 = nI (vM v).length ∧ k 4 = nI (vA v).length ∧ (∀ g, g < vG v → k (27 + g) = nI (vF v 1 g) ∧ k (37 + g) = nI (vF v 2 g) ∧ k (47 + g) = nI (vF v 3 g) ∧ k (57 + g) = nI (vF v 4 g)) ∧ (∀ i, i < vT v → k (67 + 2 * i) = nI (vY v i) ∧ k (67 + 2 * i + 1) = nI (vP v i)) ∧ (∀ i, i < (vM v).length → k (301 + i) = nI ((vM v).getD i 0)) ∧ ∀ i, i < (vA v).length → k (1201 + i) = nI ((vA v).getD i 0)
def KR (s : RS) (v : CV) (a : SD) : Prop := KC (s.2.1 1) v ∧ KS (s.2.1 1) 6 a ∧ COK v ∧ SOK (vG v) a
theorem okA (m : Nat) {k n : Nat} (h : m + k < n) (hn : n < 2 ^ 31) : okx (nI m + nI k) n := by rw [nI_add]; exact okx_nI' h hn
theorem ixA (m : Nat) {k : Nat} (h : m + k < 2 ^ 31) : ix (nI m + nI k) = m + k := by rw [nI_add]; exact ix_nI h
section KR1
variable {c : CX} {d : Nat} {s : RS} {v : CV} {a : SD}
theorem KR.gle (h : KR s v a) {k : Nat} (hk : k ≤ 10) : s.2.1 1 1 ≤ nI k ↔ vG v ≤ k := by
  rw [h.1.2.1, nI_leI (by have := h.2.2.1.1; omega) (by omega)]
theorem KR.wh (h : KR s v a) {k : Nat} (hk : k < 10) : s.2.1 1 (ix (6 + nI k)) = oI (a.1 k) := by
  rw [show ix (6 + nI k) = 6 + k from ixA 6 (by omega)]
  exact h.2.1.1 k hk
theorem KR.wb (h : KR s v a) {g k : Nat} (hk : a.1 g = some k) : k < 10 := by
  have := h.2.2.2.1 g k hk
  have := h.2.2.1.1
  omega
theorem KR.ws (h : KR s v a) (k : Nat) {j : Nat} (hj : j < 2 ^ 31) : oI (a.1 k) = nI j ↔ a.1 k = some j := oI_some (fun x hx => by have := h.wb hx; omega) hj
theorem KR.wn (h : KR s v a) (k : Nat) : oI (a.1 k) = -1 ↔ a.1 k = none := oI_none (fun x hx => by have := h.wb hx; omega)
theorem okm {k : Nat} (hk : k < 10) : okx (6 + nI k) 2101 := okA 6 (by omega) (by decide)
theorem mockers_lp {Q : Int32 → RS → Prop} (h : KR s v a) {g : Nat} (hg : g < 10) (hq : Q (nI (mkb a.1 g (vG v))) s) : ∀ (m k : Nat), k + m = vG v → eR c (d + 1) m_R_mockers 4 [some (.ref 2), some (.int (nI g)), some (.int (nI (mkb a.1 g k))), some (.int (nI k))] s (pI c Q) := by
  have hG := h.2.2.1.1
  intro m
  induction m with
  | zero =>
    intro k hk
    refine w_R_mockers_4 _ _ _ ⟨fun _ => ?_, fun z => absurd ((h.gle (by omega)).mpr (by omega)) z⟩
    rw [show k = vG v by omega]; exact hq
  | succ m ih =>
    intro k hk
    refine w_R_mockers_4 _ _ _ ⟨fun z => absurd ((h.gle (by omega)).mp z) (by omega), fun _ => ⟨okm (by omega), ?_⟩⟩
    rw [h.wh (by omega), h.ws k (by omega), nI_1]
    have ih := ih (k + 1) (by omega)
    rw [mkb] at ih
    refine ⟨fun z => ?_, fun z => ?_⟩
    · rw [if_neg z] at ih
      rw [show nI (mkb a.1 g k) ||| 0 = nI (mkb a.1 g k) from Int32.or_zero]
      exact ih
    · rw [if_pos z] at ih
      rw [sh1 k (by omega), fa_or]
      exact ih
theorem s_mockers {Q : Int32 → RS → Prop} (h : KR s v a) {g : Nat} (hg : g < 10) (hq : Q (nI (mkb a.1 g (vG v))) s) : RI c (d + 1) m_R_mockers [.ref 2, .int (nI g)] s Q := w_R_mockers _ (mockers_lp h hg hq (vG v) 0 (by omega))
theorem mkb_1024 (h : KR s v a) (g : Nat) : mkb a.1 g (vG v) < 1024 := by
  have h1 := mkb_lt a.1 g (vG v)
  have h2 : 2 ^ (vG v) ≤ 2 ^ 10 := Nat.pow_le_pow_right (by decide) h.2.2.1.1
  omega
end KR1
/-- the words of a law -/
def wen (v : CV) (a : SD) (g b : Nat) (k : Nat) : Int32 :=
  if k = 0 then nI (a.2.1 g) else if k = 1 then nI (a.2.1 b) else if k = 2 then nI (vF v 1 g) else if k = 3 then nI (vF v 1 b) else if k = 4 then nI (pop (mkb a.1 g (vG v))) else if k = 5 then nI (pop (mkb a.1 b (vG v))) else if k = 6 then (if a.1 b = some g then 1 else 0) else a.2.2 - a.2.2 / 1000 * 1000
def bnd (x : Int64) : Int32 := (mxL (-1000000) (mnL 1000000 x)).toInt32
def dn (k : Nat) (x y : Int32) : Int32 :=
  if k = 10 then bnd (x.toInt64 + y.toInt64) else if k = 11 then bnd (x.toInt64 - y.toInt64) else if k = 12 then bnd (x.toInt64 * y.toInt64) else if k = 13 then (if x.toInt64 = y.toInt64 then 1 else 0) else if k = 14 then (if y.toInt64 ≤ x.toInt64 then 0 else 1) else if k = 15 then (if x.toInt64 ≤ y.toInt64 then 0 else 1) else if k = 16 then (if x.toInt64 + y.toInt64 ≤ 1 then 0 else 1) else (if x.toInt64 + y.toInt64 ≤ 0 then 0 else 1)
section KR2
variable {c : CX} {d : Nat} {s : RS} {v : CV} {a : SD}
theorem s_bound {Q : Int32 → RS → Prop} {x : Int64} (hq : Q (bnd x) s) : RI c (d + 1) m_R_bound [.long x] s Q := w_R_bound _ hq
theorem lne {k j : Nat} (hk : k < 2 ^ 31) (hj : j < 2 ^ 31) (h : k ≠ j) : ¬ nI k = nI j := fun q => h ((nI_inj hk hj).mp q)
theorem s_done {Q : Int32 → RS → Prop} {k : Nat} (hk : k < 1000) {x y : Int32} (hq : Q (dn k x y) s) : RI c (d + 2) m_R_done [.int (nI k), .long x.toInt64, .long y.toInt64] s Q := by
  have key : ∀ j : Nat, j < 2 ^ 31 → (nI k = nI j ↔ k = j) := fun j hj => nI_inj (by omega) hj
  unfold dn at hq
  refine w_R_done _ _ _ ⟨fun z => ?_, fun z => ?_, fun z => ?_, fun z => ?_, fun z => ?_, fun z => ?_, fun z => ?_, fun z => ?_⟩
  · cases (key 10 (by decide)).mp z
    exact s_bound hq
  · cases (key 11 (by decide)).mp z
    exact s_bound hq
  · cases (key 12 (by decide)).mp z
    exact s_bound hq
  · cases (key 13 (by decide)).mp z
    simp only [Nat.reduceEqDiff, if_false, if_true] at hq
    exact ⟨fun q => by rwa [if_neg q] at hq, fun q => by rwa [if_pos q] at hq⟩
  · cases (key 14 (by decide)).mp z
    simp only [Nat.reduceEqDiff, if_false, if_true] at hq
    exact ⟨fun q => by rwa [if_pos q] at hq, fun q => by rwa [if_neg q] at hq⟩
  · cases (key 15 (by decide)).mp z
    simp only [Nat.reduceEqDiff, if_false, if_true] at hq
    exact ⟨fun q => by rwa [if_pos q] at hq, fun q => by rwa [if_neg q] at hq⟩
  · cases (key 16 (by decide)).mp z
    simp only [Nat.reduceEqDiff, if_false, if_true] at hq
    exact ⟨fun q => by rwa [if_pos q] at hq, fun q => by rwa [if_neg q] at hq⟩
  · obtain ⟨z0, z1, z2, z3, z4, z5, z6⟩ := z
    rw [if_neg (fun q => z0 (by rw [q]; rfl)), if_neg (fun q => z1 (by rw [q]; rfl)), if_neg (fun q => z2 (by rw [q]; rfl)), if_neg (fun q => z3 (by rw [q]; rfl)), if_neg (fun q => z4 (by rw [q]; rfl)), if_neg (fun q => z5 (by rw [q]; rfl)), if_neg (fun q => z6 (by rw [q]; rfl))] at hq
    exact ⟨fun q => by rwa [if_pos q] at hq, fun q => by rwa [if_neg q] at hq⟩
theorem s_wordOf {Q : Int32 → RS → Prop} (h : KR s v a) {k g b : Nat} (hk : k < 8) (hg : g < vG v) (hb : b < vG v) (hq : Q (wen v a g b k) s) : RI c (d + 2) m_R_wordOf [.ref 2, .int (nI k), .int (nI g), .int (nI b)] s Q := by
  have hG := h.2.2.1.1
  have key : ∀ j : Nat, j < 2 ^ 31 → (nI k = nI j ↔ k = j) := fun j hj => nI_inj (by omega) hj
  have e16 : ∀ g, g < 10 → s.2.1 1 (ix (16 + nI g)) = nI (a.2.1 g) := fun g hg => by
    rw [show ix (16 + nI g) = 16 + g from ixA 16 (by omega)]; exact h.2.1.2.1 g hg
  have e27 : ∀ g, g < vG v → s.2.1 1 (ix (27 + nI g)) = nI (vF v 1 g) := fun g hg => by
    rw [show ix (27 + nI g) = 27 + g from ixA 27 (by omega)]; exact (h.1.2.2.2.2.2.1 g hg).1
  unfold wen at hq
  refine w_R_wordOf _ _ _ ⟨fun z => ⟨okA 16 (by omega) (by decide), ?_⟩, fun z => ⟨okA 16 (by omega) (by decide), ?_⟩, fun z => ⟨okA 27 (by omega) (by decide), ?_⟩, fun z => ⟨okA 27 (by omega) (by decide), ?_⟩, fun z => ?_, fun z => ?_, fun z => ⟨okm (by omega), ?_⟩, fun z => ⟨rfl, ?_⟩⟩
  · cases (key 0 (by decide)).mp z
    rw [e16 g (by omega)]; exact hq
  · cases (key 1 (by decide)).mp z
    rw [e16 b (by omega)]; exact hq
  · cases (key 2 (by decide)).mp z
    rw [e27 g hg]; exact hq
  · cases (key 3 (by decide)).mp z
    rw [e27 b hb]; exact hq
  · cases (key 4 (by decide)).mp z
    exact s_mockers h (by omega) (s_size (mkb_1024 h g) hq)
  · cases (key 5 (by decide)).mp z
    exact s_mockers h (by omega) (s_size (mkb_1024 h b) hq)
  · cases (key 6 (by decide)).mp z
    rw [h.wh (by omega), h.ws b (by omega)]
    simp only [Nat.reduceEqDiff, if_false, if_true] at hq
    exact ⟨fun q => by rwa [if_neg q] at hq, fun q => by rwa [if_pos q] at hq⟩
  · obtain ⟨z0, z1, z2, z3, z4, z5, z6⟩ := z
    rw [if_neg (fun q => z0 (by rw [q]; rfl)), if_neg (fun q => z1 (by rw [q]; rfl)), if_neg (fun q => z2 (by rw [q]; rfl)), if_neg (fun q => z3 (by rw [q]; rfl)), if_neg (fun q => z4 (by rw [q]; rfl)), if_neg (fun q => z5 (by rw [q]; rfl)), if_neg (fun q => z6 (by rw [q]; rfl))] at hq
    rw [show s.2.1 1 (ix 26) = a.2.2 from h.2.1.2.2]
    exact hq
end KR2
