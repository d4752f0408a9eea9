/-! the class's cells: kinds, fields, contents by address -/
abbrev XS : Type := (Nat → Nat × Nat) × (Nat → Nat → Int32) × (Nat → Nat → Option Nat) × (Nat → Nat → Int32) × (Nat → Nat → Int64) × (Nat → Nat → Option Nat) × Nat × Nat
abbrev xS (T : XS) : Nat → Nat × Nat := T.1
abbrev xI (T : XS) : Nat → Nat → Int32 := T.2.1
abbrev xR (T : XS) : Nat → Nat → Option Nat := T.2.2.1
abbrev xA (T : XS) : Nat → Nat → Int32 := T.2.2.2.1
abbrev xL (T : XS) : Nat → Nat → Int64 := T.2.2.2.2.1
abbrev xQ (T : XS) : Nat → Nat → Option Nat := T.2.2.2.2.2.1
abbrev xn (T : XS) : Nat := T.2.2.2.2.2.2.1
abbrev xk (T : XS) : Nat := T.2.2.2.2.2.2.2
/-- the kinds of the cells that the constructor makes -/
def fixS (i : Nat) : Nat × Nat := match i with
  | 0 => (12, 0)
  | 1 => (21, 900)
  | 2 => (7, 0)
  | 3 => (10, 0)
  | 4 => (21, 0)
  | 5 => (5, 0)
  | 6 => (20, 900)
  | 7 => (20, 64)
  | 8 => (20, 50)
  | 9 => (20, 10)
  | 10 => (20, 12)
  | 11 => (20, 12)
  | 12 => (4, 0)
  | 13 => (2, 0)
  | 14 => (20, 10)
  | 15 => (20, 10)
  | 16 => (20, 10)
  | 17 => (20, 10)
  | 18 => (20, 10)
  | 19 => (20, 10)
  | 20 => (20, 1)
  | 21 => (20, 1)
  | 22 => (23, 10)
  | 23 => (9, 0)
  | 24 => (20, 10)
  | 25 => (20, 10)
  | 26 => (20, 10)
  | 27 => (24, 3)
  | 28 => (25, 4)
  | 29 => (3, 0)
  | 30 => (20, 64)
  | 31 => (20, 10)
  | 32 => (8, 0)
  | 33 => (20, 20)
  | 34 => (20, 10)
  | 35 => (20, 10)
  | 36 => (20, 10)
  | 37 => (20, 10)
  | 38 => (20, 10)
  | 39 => (6, 0)
  | 40 => (20, 8)
  | 41 => (20, 8)
  | 42 => (20, 2048)
  | 43 => (9, 0)
  | 44 => (2, 0)
  | 45 => (20, 10)
  | 46 => (20, 10)
  | 47 => (20, 10)
  | 48 => (20, 10)
  | 49 => (20, 10)
  | 50 => (20, 10)
  | 51 => (20, 1)
  | 52 => (20, 1)
  | 53 => (20, 10)
  | 54 => (20, 10)
  | 55 => (20, 10)
  | 56 => (22, 1001)
  | _ => (0, 0)
/-- the references in them that never change -/
def fixR (i k : Nat) (o : Option Nat) : Option Nat := match i, k with
  | 0, 0 => some 5
  | 0, 4 => some 9
  | 0, 5 => some 49
  | 0, 6 => some 109
  | 0, 7 => some 113
  | 0, 8 => some 117
  | 0, 9 => some 129
  | 0, 10 => some 157
  | 0, 11 => some 173
  | 0, 12 => some 225
  | 2, 0 => some 13
  | 2, 1 => some 21
  | 2, 2 => some 33
  | 2, 3 => some 37
  | 2, 4 => some 41
  | 2, 5 => some 45
  | 5, 0 => some 25
  | 5, 2 => some 29
  | 12, 0 => some 93
  | 12, 1 => some 89
  | 13, 3 => some 57
  | 13, 7 => some 81
  | 13, 8 => some 85
  | 13, 9 => some 61
  | 13, 10 => some 65
  | 13, 11 => some 69
  | 13, 12 => some 73
  | 13, 13 => some 77
  | 23, 1 => some 97
  | 23, 2 => some 101
  | 23, 3 => some 105
  | 29, 0 => some 121
  | 29, 1 => some 125
  | 32, 5 => some 133
  | 32, 6 => some 137
  | 32, 7 => some 141
  | 32, 8 => some 145
  | 32, 9 => some 149
  | 32, 10 => some 153
  | 39, 0 => some 161
  | 39, 1 => some 165
  | 39, 2 => some 169
  | 43, 1 => some 213
  | 43, 2 => some 217
  | 43, 3 => some 221
  | 44, 3 => some 181
  | 44, 7 => some 205
  | 44, 8 => some 209
  | 44, 9 => some 185
  | 44, 10 => some 189
  | 44, 11 => some 193
  | 44, 12 => some 197
  | 44, 13 => some 201
  | 13, 4 => none
  | 13, 5 => none
  | 44, 4 => none
  | 44, 5 => none
  | _, _ => o
def shx (T : XS) (a : Nat) : Nat × Nat := if a % 4 = 1 then fixS (a / 4) else xS T a
def frx (T : XS) (a k : Nat) : Option Nat := if a % 4 = 1 then fixR (a / 4) k (xR T a k) else xR T a k
def flds (ci : Nat) (T : XS) (a : Nat) : List Value := match ci with
  | 2 => [.int (xI T a 0), .int (xI T a 1), .int (xI T a 2), va_rf (frx T a 3), va_rf (frx T a 4), va_rf (frx T a 5), .int (xI T a 6), va_rf (frx T a 7), va_rf (frx T a 8), va_rf (frx T a 9), va_rf (frx T a 10), va_rf (frx T a 11), va_rf (frx T a 12), va_rf (frx T a 13)]
  | 3 => [va_rf (frx T a 0), va_rf (frx T a 1)]
  | 4 => [va_rf (frx T a 0), va_rf (frx T a 1), .int (xI T a 2)]
  | 5 => [va_rf (frx T a 0), .int (xI T a 1), va_rf (frx T a 2), .int (xI T a 3), .int (xI T a 4), .int (xI T a 5), .int (xI T a 6), .int (xI T a 7), .int (xI T a 8)]
  | 6 => [va_rf (frx T a 0), va_rf (frx T a 1), va_rf (frx T a 2), .int (xI T a 3), .int (xI T a 4)]
  | 7 => [va_rf (frx T a 0), va_rf (frx T a 1), va_rf (frx T a 2), va_rf (frx T a 3), va_rf (frx T a 4), va_rf (frx T a 5), .int (xI T a 6), .int (xI T a 7), .int (xI T a 8), va_rf (frx T a 9), va_rf (frx T a 10)]
  | 8 => [.int (xI T a 0), .int (xI T a 1), .int (xI T a 2), .int (xI T a 3), .int (xI T a 4), va_rf (frx T a 5), va_rf (frx T a 6), va_rf (frx T a 7), va_rf (frx T a 8), va_rf (frx T a 9), va_rf (frx T a 10)]
  | 9 => [va_rf (frx T a 0), va_rf (frx T a 1), va_rf (frx T a 2), va_rf (frx T a 3), .int (xI T a 4)]
  | 10 => [va_rf (frx T a 0), .int (xI T a 1), .int (xI T a 2), .int (xI T a 3), .int (xI T a 4), .int (xI T a 5), .int (xI T a 6), .int (xI T a 7)]
  | 11 => [va_rf (frx T a 0), .int (xI T a 1), .int (xI T a 2)]
  | 12 => [va_rf (frx T a 0), .int (xI T a 1), .int (xI T a 2), .int (xI T a 3), va_rf (frx T a 4), va_rf (frx T a 5), va_rf (frx T a 6), va_rf (frx T a 7), va_rf (frx T a 8), va_rf (frx T a 9), va_rf (frx T a 10), va_rf (frx T a 11), va_rf (frx T a 12)]
  | _ => []
def cellX (T : XS) (a : Nat) : mj_C := match shx T a with
  | (20, n) => .inl (.int, n, .inl (xA T a))
  | (21, n) => .inl (.byte, n, .inl (xA T a))
  | (22, n) => .inl (.long, n, .inr (.inl (xL T a)))
  | (23, n) => .inl (.object "InsultRow$Standing", n, .inr (.inr (.inr (.inr (xQ T a)))))
  | (24, n) => .inl (.object "InsultRow$Fair", n, .inr (.inr (.inr (.inr (xQ T a)))))
  | (25, n) => .inl (.object "InsultRow$Tray", n, .inr (.inr (.inr (.inr (xQ T a)))))
  | (ci, _) => .inr (ci, flds ci T a)
def hX (c : CX) (T : XS) : mj_H := ((List.range 57).map (fun i => cellX T (4 * i + 1)), c.2.2.2.1, (List.range (xn T)).map (fun i => cellX T (4 * i + 3)), xk T)
def inb (T : XS) (a : Nat) : Prop := (a % 4 = 1 ∧ a / 4 < 57) ∨ (a % 4 = 3 ∧ a / 4 < xn T)
/-- an object of a class, an array of a kind and length -/
def ob (T : XS) (a ci : Nat) : Prop := inb T a ∧ (shx T a).1 = ci
def ar (T : XS) (a kd n : Nat) : Prop := inb T a ∧ shx T a = (kd, n)
def tI (T : XS) (a k : Nat) (v : Int32) : XS := (xS T, fun a' k' => if a' = a ∧ k' = k then v else xI T a' k', xR T, xA T, xL T, xQ T, xn T, xk T)
def tR (T : XS) (a k : Nat) (o : Option Nat) : XS := (xS T, xI T, fun a' k' => if a' = a ∧ k' = k then o else xR T a' k', xA T, xL T, xQ T, xn T, xk T)
def tW (T : XS) (a : Nat) (f : Nat → Int32) : XS := (xS T, xI T, xR T, fun a' => if a' = a then f else xA T a', xL T, xQ T, xn T, xk T)
def tA (T : XS) (a j : Nat) (v : Int32) : XS := tW T a (upd (xA T a) j v)
def tL (T : XS) (a j : Nat) (v : Int64) : XS := (xS T, xI T, xR T, xA T, fun a' => if a' = a then vp_updL (xL T a) j v else xL T a', xQ T, xn T, xk T)
def tQ (T : XS) (a j : Nat) (o : Option Nat) : XS := (xS T, xI T, xR T, xA T, xL T, fun a' => if a' = a then va_up (xQ T a) j o else xQ T a', xn T, xk T)
/-- a new cell -/
def tN (T : XS) (kd n z : Nat) : XS := (fun a' => if a' = 4 * xn T + 3 then (kd, n) else xS T a', fun a' k => if a' = 4 * xn T + 3 then 0 else xI T a' k, fun a' k => if a' = 4 * xn T + 3 then none else xR T a' k, fun a' k => if a' = 4 * xn T + 3 then 0 else xA T a' k, fun a' k => if a' = 4 * xn T + 3 then 0 else xL T a' k, fun a' k => if a' = 4 * xn T + 3 then none else xQ T a' k, xn T + 1, xk T + z)
section XX1
variable {P : mj_P} {c : CX} {T T' : XS} {a b : Nat}
theorem x_get (h : inb T a) : mj_get P (hX c T) a = some (cellX T a) := by
  rcases h with ⟨h1, h2⟩ | ⟨h1, h2⟩
  · rw [mj_get1 h1]
    show ((List.range 57).map (fun i => cellX T (4 * i + 1)))[a / 4]? = _
    rw [List.getElem?_map, List.getElem?_range h2]
    show some (cellX T (4 * (a / 4) + 1)) = _
    rw [show 4 * (a / 4) + 1 = a by omega]
  · rw [mj_get3 h1]
    show ((List.range (xn T)).map (fun i => cellX T (4 * i + 3)))[a / 4]? = _
    rw [List.getElem?_map, List.getElem?_range h2]
    show some (cellX T (4 * (a / 4) + 3)) = _
    rw [show 4 * (a / 4) + 3 = a by omega]
theorem set_map {α : Type} {f g : Nat → α} {n i : Nat} {x : α} (hi : g i = x) (hne : ∀ j, j ≠ i → g j = f j) : ((List.range n).map f).set i x = (List.range n).map g := by
  apply List.ext_getElem?
  intro j
  rw [List.getElem?_set, List.length_map, List.length_range, List.getElem?_map, List.getElem?_map]
  by_cases hj : i = j
  · subst hj
    rw [if_pos rfl]
    by_cases hl : i < n
    · rw [if_pos hl, List.getElem?_range hl]
      simp [hi]
    · rw [if_neg hl, List.getElem?_eq_none (by simp; omega)]
      rfl
  · rw [if_neg hj]
    by_cases hl : j < n
    · rw [List.getElem?_range hl]
      simp [hne j (Ne.symm hj)]
    · rw [List.getElem?_eq_none (by simp; omega)]
      rfl
theorem x_set {x : mj_C} (h : inb T a) (hn : xn T' = xn T) (hk : xk T' = xk T) (hx : cellX T' a = x) (hne : ∀ b, b ≠ a → cellX T' b = cellX T b) : mj_set (hX c T) a x = hX c T' := by
  rcases h with ⟨h1, h2⟩ | ⟨h1, h2⟩
  · rw [mj_set1 h1]
    unfold hX
    rw [set_map (g := fun i => cellX T' (4 * i + 1)) (by rw [show 4 * (a / 4) + 1 = a by omega]; exact hx) (fun j hj => hne _ (by omega)), hn, hk]
    congr 1; congr 1; congr 1
    exact List.map_congr_left (fun j _ => (hne _ (by omega)).symm)
  · rw [mj_set3 h1]
    unfold hX
    simp only
    rw [set_map (g := fun i => cellX T' (4 * i + 3)) (by rw [show 4 * (a / 4) + 3 = a by omega]; exact hx) (fun j hj => hne _ (by omega)), hn, hk]
    congr 1
    exact List.map_congr_left (fun j _ => (hne _ (by omega)).symm)
theorem ob_cell {ci : Nat} (h : ob T a ci) (hc : 2 ≤ ci ∧ ci ≤ 12) : cellX T a = .inr (ci, flds ci T a) := by
  obtain ⟨-, h2⟩ := h
  unfold cellX
  split <;> rename_i e <;> first | (rw [e] at h2; simp at h2; omega) | skip
  rw [e] at h2
  simp at h2
  rw [h2]
theorem ar_int {n : Nat} (h : ar T a 20 n) : cellX T a = .inl (.int, n, .inl (xA T a)) := by unfold cellX; rw [h.2]; rfl
theorem ar_byte {n : Nat} (h : ar T a 21 n) : cellX T a = .inl (.byte, n, .inl (xA T a)) := by unfold cellX; rw [h.2]; rfl
theorem ar_long {n : Nat} (h : ar T a 22 n) : cellX T a = .inl (.long, n, .inr (.inl (xL T a))) := by unfold cellX; rw [h.2]; rfl
theorem flds_ne {ci : Nat} (hI : ∀ k, xI T' a k = xI T a k) (hR : ∀ k, frx T' a k = frx T a k) : flds ci T' a = flds ci T a := by
  unfold flds
  simp only [hI, hR]
theorem cell_ne (hs : shx T' a = shx T a) (hI : ∀ k, xI T' a k = xI T a k) (hR : ∀ k, frx T' a k = frx T a k) (hA : xA T' a = xA T a) (hL : xL T' a = xL T a) (hQ : xQ T' a = xQ T a) : cellX T' a = cellX T a := by
  unfold cellX
  rw [hs, hA, hL, hQ]
  split <;> first | rfl | rw [flds_ne hI hR]
end XX1
