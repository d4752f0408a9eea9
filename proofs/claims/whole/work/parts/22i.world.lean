/-! the world at the law's start: words out of the Statement's premise, by their paths -/
def pick : List Bool → Cond → Cond
  | [], c => c
  | b :: r, c => match c with
    | .and x y => pick r (if b = true then y else x)
    | c => c
theorem pick_ok {args : Array Value} {s : State} : ∀ (p : List Bool) (c : Cond), c.before args s = true → (pick p c).before args s = true
  | [], _, h => h
  | b :: r, c, h => by
    unfold pick
    split
    · rename_i x y
      refine pick_ok r _ ?_
      rw [Cond.before_and, Bool.and_eq_true] at h
      cases b
      · exact h.1
      · exact h.2
    · exact h
abbrev NN : Cond := Cond.and given_1 narrow_1
/-- the text of a String constant -/
abbrev sV (own : String) (k : Nat) : Term := .field (.string own k) "java/lang/String" "value" "[B"
def ckS (own : String) (k len : Nat) (bs : List Int32) (p1 p2 p3 p4 : List Bool) (ps : List (List Bool)) : Bool := decide (pick p1 NN = .exactly (.string own k) "java/lang/String") && (decide (pick p2 NN = .eq (.field (.string own k) "java/lang/String" "coder" "B") (.int 0)) && (decide (pick p3 NN = .arrayOf (sV own k) .byte) && (decide (pick p4 NN = .eq (.length (sV own k)) (.int (Int32.ofNat len))) && (List.range len).all (fun j => decide (pick (ps.getD j []) NN = .eq (.elem (sV own k) (.int (Int32.ofNat j))) (.int (bs.getD j 0)))))))
def ckA (C n : String) (len : Nat) (bs : List Int32) (p1 p2 : List Bool) (ps : List (List Bool)) : Bool := decide (pick p1 NN = .arrayOf (.static C n "[I") .int) && (decide (pick p2 NN = .eq (.length (.static C n "[I")) (.int (Int32.ofNat len))) && (List.range len).all (fun j => decide (pick (ps.getD j []) NN = .eq (.elem (.static C n "[I") (.int (Int32.ofNat j))) (.int (bs.getD j 0)))))
section WD1
variable {args : Array Value} {s : State} {A : Nat → Prop}
theorem pick_at (hn : NN.before args s = true) {p : List Bool} {w : Cond} (e : pick p NN = w) : w.before args s = true := e ▸ pick_ok p NN hn
/-- what is known of a String constant -/
def strP (own : String) (k len : Nat) (bs : List Int32) (A : Nat → Prop) (s : State) (args : Array Value) (q : Nat × Nat) : Prop := (Term.string own k).eval args s none [] s = some (.ref q.1) ∧ va_O "java/lang/String" q.1 A s s.heap ∧ va_OF "java/lang/String" "coder" "B" (.int 0) q.1 A s s.heap ∧ va_OF "java/lang/String" "value" "[B" (.ref q.2) q.1 A s s.heap ∧ va_T .byte q.2 len (fun j => .int (bs.getD j 0)) A s s.heap
theorem strOf {own : String} {k len : Nat} {bs : List Int32} {p1 p2 p3 p4 : List Bool} {ps : List (List Bool)} (hN : len < 2 ^ 31) (hn : NN.before args s = true) (hA : ∀ a : Nat, a < s.heap.size → ¬ A a) (hc : ckS own k len bs p1 p2 p3 p4 ps = true) : ∃ q, strP own k len bs A s args q := by
  unfold ckS at hc
  simp only [Bool.and_eq_true, decide_eq_true_eq, List.all_eq_true, List.mem_range] at hc
  obtain ⟨c1, c2, c3, c4, c5⟩ := hc
  obtain ⟨a, c, cA, kA, q1, q2, q3, q4, q5, q6, -⟩ := Cond.exactly_spec (args := args) (first := s) (o := none) (s := s) (idx := []) (t := .string own k) (cls := "java/lang/String") (pick_at hn c1)
  obtain ⟨t, ht, hT⟩ := va_Tof (f := fun j => .int (bs.getD j 0)) (A := A) hN (pick_at hn c3) (va_eqt (pick_at hn c4)) (fun j hj => va_eqt (pick_at hn (c5 j hj))) hA
  exact ⟨(a, t), q1, ⟨cA, q3, q5, by rw [q6]; exact q2, hA a (Array.getElem?_eq_some_iff.mp q3).1⟩, vk_OFof q1 (va_eqt (pick_at hn c2)) hA, vk_OFof q1 ht hA, hT⟩
theorem arrOf {C n : String} {len : Nat} {bs : List Int32} {p1 p2 : List Bool} {ps : List (List Bool)} (hN : len < 2 ^ 31) (hn : NN.before args s = true) (hA : ∀ a : Nat, a < s.heap.size → ¬ A a) (hl : (Cond.laysStatic C n "[I").before args s = true) (hi : (Cond.initialized C).before args s = true) (hc : ckA C n len bs p1 p2 ps = true) : ∃ t : Nat, va_Z C n "[I" (.ref t) A s s.heap ∧ va_T .int t len (fun j => .int (bs.getD j 0)) A s s.heap := by
  unfold ckA at hc
  simp only [Bool.and_eq_true, decide_eq_true_eq, List.all_eq_true, List.mem_range] at hc
  obtain ⟨c3, c4, c5⟩ := hc
  obtain ⟨t, ht, hT⟩ := va_Tof (f := fun j => .int (bs.getD j 0)) (A := A) hN (pick_at hn c3) (va_eqt (pick_at hn c4)) (fun j hj => va_eqt (pick_at hn (c5 j hj))) hA
  exact ⟨t, va_Zof hl hi ht hA, hT⟩
theorem arr_prim {ty : FieldType} (hp : ty = .int ∨ ty = .long ∨ ty = .byte ∨ ty = .boolean) (h : (Cond.arrayClass ty).before args s = true) : ∃ cA : ClassId, ArrOfT s cA ty ∧ va_RA s cA ty := by
  obtain ⟨c, k, comp, h1, h2, h3⟩ := Cond.arrayClass_spec h
  refine ⟨c, fun n z => ⟨fun k e => (by cases e), k, h2, comp, h3⟩, ?_⟩
  rcases hp with rfl | rfl | rfl | rfl <;> exact h1
theorem arr_obj {C : String} (h : (Cond.arrayOver (.object C)).before args s = true) : ∃ cA : ClassId, ArrOfT s cA (.object C) ∧ va_RA s cA (.object C) := by
  obtain ⟨comp, c, k, h1, h2, h3, h4, h5⟩ := Cond.arrayOver_spec h
  exact ⟨c, fun n z => ⟨fun k e => (by cases e), k, h3, comp, h4⟩, k, comp, h3, h4, h1, h5⟩
end WD1
section WD2
variable {G : mj_G} {n : Nat} {xs : Nat → Int32} {fv : Value} {U : State}
theorem lokU_of {own : String} {i : Instr} {K : mj_K} (hS : ∀ q ∈ sStatF fv, va_Z q.1 q.2.1 q.2.2.1 (mj_tr (mj_ad G (t_P n xs fv)) q.2.2.2) (mj_A G) U U.heap) (hR : ∀ q ∈ sStr, ∃ tx, vk_R q.1 q.2.1 tx (mj_ad G (t_P n xs fv) q.2.2) U) (hQ : ∀ C, isQ C = true → va_AO C U) (h : okU sStr fv own i K) : mj_lokU G (t_P n xs fv) tg nw U own i K := by
  obtain ⟨k0, ci, k, w, v⟩ := K
  unfold mj_lokU
  split
  · rename_i e
    cases e
    obtain ⟨q, hq, e, hl⟩ := h
    exact ⟨q.1, q.2.1, q.2.2.1, e ▸ hS q hq, hl⟩
  · rename_i e
    cases e
    obtain ⟨q, hq, e1, e2, e3⟩ := h
    obtain ⟨tx, hv⟩ := hR q hq
    exact ⟨q.2.2, tx, e3, e1 ▸ e2 ▸ hv⟩
  · rename_i e
    cases e
    obtain ⟨C, T, N, h1, h2⟩ := h
    exact ⟨C, T, N, h1, hQ C h2⟩
  · rename_i e
    cases e
    obtain ⟨q, hq, e1, e2, e3⟩ := h
    obtain ⟨tx, hv⟩ := hR q hq
    exact ⟨q.2.2, tx, e3, e1 ▸ e2 ▸ hv⟩
  · trivial
theorem isNW_on {w : Cond} (h : isNW w = true) : w.onTables = true := by
  unfold isNW at h
  split at h <;> first | rfl | cases h
theorem tg_tbl {w : Cond} (h : w ∈ tg) : w ∈ lw_tbl := (List.mem_filter.mp h).1
theorem nw_tbl {w : Cond} (h : w ∈ nw) : w ∈ lw_tbl := (List.mem_filter.mp h).1
def strO (sd : String × Nat × Nat × List Int32) (A : Nat → Prop) (s : State) (args : Array Value) (q : Nat × Nat) : Prop := strP sd.1 sd.2.1 sd.2.2.1 sd.2.2.2 A s args q
theorem O_str {own : String} {k len a x : Nat} {bs : List Int32} {args : Array Value} {q : Nat × Nat} (h : strP own k len bs (mj_A G) U args q) (ea : mj_ad G (t_P n xs fv) a = q.2) (ex : x = q.1) : mj_O G (t_P n xs fv) (.inr (1, [.ref a, .int 0])) x U := by
  subst ex
  exact ⟨rfl, a, rfl, h.2.1, by rw [ea]; exact h.2.2.2.1, h.2.2.1⟩
theorem O_byt {own : String} {k len x : Nat} {bs : List Int32} {args : Array Value} {q : Nat × Nat} (h : strP own k len bs (mj_A G) U args q) (ex : x = q.2) : mj_O G (t_P n xs fv) (.inl (.byte, len, .inl (fun j => bs.getD j 0))) x U := by
  subst ex
  exact ⟨_, h.2.2.2.2, fun _ => rfl, Or.inr rfl⟩
theorem O_arr {len t x : Nat} {bs : List Int32} (h : va_T .int t len (fun j => .int (bs.getD j 0)) (mj_A G) U U.heap) (ex : x = t) : mj_O G (t_P n xs fv) (.inl (.int, len, .inl (fun j => bs.getD j 0))) x U := by
  subst ex
  exact ⟨_, h, fun _ => rfl, Or.inl rfl⟩
theorem O_scr {b L : Nat} (h : va_X b L xs U U.heap) (hA : ¬ mj_A G b) : mj_O G (t_P n xs fv) (.inl (.int, L, .inl xs)) b U := by
  obtain ⟨scr, h1, h2, h3, h4, h5⟩ := h
  exact ⟨fun j => .int (xs j), ⟨scr, h1, h2, h3, Nat.le_of_eq h4.symm, by rw [h4], h5, hA⟩, fun _ => rfl, Or.inl rfl⟩
end WD2
/-- where the cells lie that were there before, the classes, the array classes -/
def g1 (b t1 t2 t3 t4 t5 fa : Nat) (ad : Nat → Nat × Nat) (k : Nat) : Nat := if k = 0 then b else if k = 1 then t1 else if k = 2 then t2 else if k = 3 then t3 else if k = 4 then t4 else if k = 5 then t5 else if k < 94 then (if k % 2 = 0 then (ad ((k - 6) / 2)).1 else (ad ((k - 6) / 2)).2) else fa
def G0 (s : State) (b t1 t2 t3 t4 t5 fa : Nat) (ad : Nat → Nat × Nat) (D : Nat → ClassId × (Nat → Nat)) (cA : FieldType → ClassId) : mj_G := (g1 b t1 t2 t3 t4 t5 fa ad, s.heap.size, s.heap, (fun c => (D c).1, fun c => (D c).2), cA)
