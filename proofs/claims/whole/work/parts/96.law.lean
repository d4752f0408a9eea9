/-! a law read: what both come to -/
abbrev PR : Type := Option ((Nat × List Nat) ⊕ (Nat × Nat))
def bd (r : PR) (k : Nat → List Nat → PR) : PR := match r with
  | none => none
  | some (.inr e) => some (.inr e)
  | some (.inl (h, c)) => k h c
def ok1 (h : Nat) (c : List Nat) : PR := some (.inl (h, c))
def flt (f : Nat → Nat) (n h k : Nat) : PR := some (.inr (fkk f n h k, bgn f n h))
/-- 0 TRUTH, 2 BOTH, 4 UNIT, 5 SUM, 7 TERM, 9 ATOM; 1, 3, 6, 8: what follows in them; dp of not [ ( are open -/
def ps (f : Nat → Nat) (n : Nat) : Nat → Nat → Nat → Nat → PR
  | 0, _, _, _ => none
  | F + 1, m, dp, h => match m with
    | 0 => bd (ps f n F 2 dp h) (fun h1 c1 => bd (ps f n F 1 dp h1) (fun h2 c2 => ok1 h2 (c1 ++ c2)))
    | 1 => if kd f n h = 14 then bd (ps f n F 2 dp (nx f n h)) (fun h1 c1 => bd (ps f n F 1 dp h1) (fun h2 c2 => ok1 h2 (c1 ++ 17 :: c2))) else ok1 h []
    | 2 => bd (ps f n F 4 dp h) (fun h1 c1 => bd (ps f n F 3 dp h1) (fun h2 c2 => ok1 h2 (c1 ++ c2)))
    | 3 => if kd f n h = 15 then bd (ps f n F 4 dp (nx f n h)) (fun h1 c1 => bd (ps f n F 3 dp h1) (fun h2 c2 => ok1 h2 (c1 ++ 16 :: c2))) else ok1 h []
    | 4 => if kd f n h = 16 then (if dp = 6 then flt f n h 4 else bd (ps f n F 4 (dp + 1) (nx f n h)) (fun h1 c1 => ok1 h1 (c1 ++ [18])))
      else if kd f n h = 31 then (if dp = 6 then flt f n h 4 else bd (ps f n F 0 (dp + 1) (nx f n h)) (fun h1 c1 => if kd f n h1 = 32 then ok1 (nx f n h1) c1 else flt f n h1 2))
      else bd (ps f n F 5 dp h) (fun h1 c1 => if 33 ≤ kd f n h1 ∧ kd f n h1 ≤ 35 then bd (ps f n F 5 dp (nx f n h1)) (fun h2 c2 => ok1 h2 (c1 ++ (c2 ++ [kd f n h1 - 20]))) else flt f n h1 2)
    | 5 => bd (ps f n F 7 dp h) (fun h1 c1 => bd (ps f n F 6 dp h1) (fun h2 c2 => ok1 h2 (c1 ++ c2)))
    | 6 => if kd f n h = 26 ∨ kd f n h = 27 then bd (ps f n F 7 dp (nx f n h)) (fun h1 c1 => bd (ps f n F 6 dp h1) (fun h2 c2 => ok1 h2 (c1 ++ (kd f n h - 16) :: c2))) else ok1 h []
    | 7 => bd (ps f n F 9 dp h) (fun h1 c1 => bd (ps f n F 8 dp h1) (fun h2 c2 => ok1 h2 (c1 ++ c2)))
    | 8 => if kd f n h = 28 then bd (ps f n F 9 dp (nx f n h)) (fun h1 c1 => bd (ps f n F 8 dp h1) (fun h2 c2 => ok1 h2 (c1 ++ 12 :: c2))) else ok1 h []
    | _ => if 17 ≤ kd f n h ∧ kd f n h ≤ 24 then ok1 (nx f n h) [kd f n h + 83]
      else if kd f n h = 29 then (if dp = 6 then flt f n h 4 else bd (ps f n F 5 (dp + 1) (nx f n h)) (fun h1 c1 => if kd f n h1 = 30 then ok1 (nx f n h1) c1 else flt f n h1 2))
      else if kd f n h = 36 then ok1 (nx f n h) [1000 + vl f n h] else flt f n h 2
section PS1
variable {f : Nat → Nat} {n F m dp h h' : Nat} {c : List Nat} {r : PR} {k : Nat → List Nat → PR}
theorem ps_9 : ps f n (F + 1) (m + 9) dp h = (if 17 ≤ kd f n h ∧ kd f n h ≤ 24 then ok1 (nx f n h) [kd f n h + 83] else if kd f n h = 29 then (if dp = 6 then flt f n h 4 else bd (ps f n F 5 (dp + 1) (nx f n h)) (fun h1 c1 => if kd f n h1 = 30 then ok1 (nx f n h1) c1 else flt f n h1 2)) else if kd f n h = 36 then ok1 (nx f n h) [1000 + vl f n h] else flt f n h 2) := rfl
theorem bd_ok (q : bd r k = some (.inl (h', c))) : ∃ h1 c1, r = some (.inl (h1, c1)) ∧ k h1 c1 = some (.inl (h', c)) := by
  match r, q with
  | some (.inl (h1, c1)), q => exact ⟨h1, c1, rfl, q⟩
theorem bd_none (hr : r ≠ none) (hk : ∀ h1 c1, r = some (.inl (h1, c1)) → k h1 c1 ≠ none) : bd r k ≠ none := by
  match r, hr, hk with
  | some (.inl (h1, c1)), _, hk => exact hk h1 c1 rfl
  | some (.inr e), _, _ => exact fun z => by cases z
theorem ok1_i {a : Nat} {l : List Nat} (q : ok1 a l = some (.inl (h', c))) : h' = a ∧ c = l := by
  unfold ok1 at q
  have := Sum.inl.inj (Option.some.inj q)
  exact ⟨(congrArg Prod.fst this).symm, (congrArg Prod.snd this).symm⟩
theorem flt_i {a b : Nat} (q : flt f n a b = some (.inl (h', c))) : False := by
  unfold flt at q
  cases q
def lpm (m : Nat) : Bool := decide (m = 1 ∨ m = 3 ∨ m = 6 ∨ m = 8)
/-- places and lengths -/
theorem psP : ∀ (F m dp h h' : Nat) (c : List Nat), h ≤ n → ps f n F m dp h = some (.inl (h', c)) → h + c.length ≤ h' ∧ h' ≤ n ∧ (lpm m = false → h < h')
  | 0, m, dp, h, h', c, hn, q => by rw [ps] at q; cases q
  | F + 1, m, dp, h, h', c, hn, q => by
    have ih := psP F
    have seq : ∀ (m1 m2 : Nat), lpm m1 = false → bd (ps f n F m1 dp h) (fun h1 c1 => bd (ps f n F m2 dp h1) (fun h2 c2 => ok1 h2 (c1 ++ c2))) = some (.inl (h', c)) → h + c.length ≤ h' ∧ h' ≤ n ∧ h < h' := fun m1 m2 hl q => by
      obtain ⟨h1, c1, q1, q⟩ := bd_ok q
      obtain ⟨h2, c2, q2, q⟩ := bd_ok q
      obtain ⟨rfl, rfl⟩ := ok1_i q
      have a1 := ih _ _ _ _ _ hn q1
      have a2 := ih _ _ _ _ _ a1.2.1 q2
      have := a1.2.2 hl
      rw [List.length_append]
      omega
    have lop : ∀ (m1 m2 x : Nat), kd f n h ≠ 37 → bd (ps f n F m1 dp (nx f n h)) (fun h1 c1 => bd (ps f n F m2 dp h1) (fun h2 c2 => ok1 h2 (c1 ++ x :: c2))) = some (.inl (h', c)) → h + c.length ≤ h' ∧ h' ≤ n := fun m1 m2 x hk q => by
      obtain ⟨h1, c1, q1, q⟩ := bd_ok q
      obtain ⟨h2, c2, q2, q⟩ := bd_ok q
      obtain ⟨rfl, rfl⟩ := ok1_i q
      have a0 := kd_nx (f := f) hn hk
      have a1 := ih _ _ _ _ _ a0.2 q1
      have a2 := ih _ _ _ _ _ a1.2.1 q2
      rw [List.length_append, List.length_cons]
      omega
    have stp : ok1 h [] = some (.inl (h', c)) → h + c.length ≤ h' ∧ h' ≤ n := fun q => by
      obtain ⟨rfl, rfl⟩ := ok1_i q
      exact ⟨Nat.le_refl _, hn⟩
    have shut : ∀ (m1 d1 x : Nat), kd f n h ≠ 37 → x ≠ 37 → bd (ps f n F m1 d1 (nx f n h)) (fun h1 c1 => if kd f n h1 = x then ok1 (nx f n h1) c1 else flt f n h1 2) = some (.inl (h', c)) → h + c.length ≤ h' ∧ h' ≤ n ∧ h < h' := fun m1 d1 x hk hx q => by
      obtain ⟨h1, c1, q1, q⟩ := bd_ok q
      have a0 := kd_nx (f := f) hn hk
      have a1 := ih _ _ _ _ _ a0.2 q1
      split at q
      · rename_i z
        obtain ⟨rfl, rfl⟩ := ok1_i q
        have a2 := kd_nx (f := f) a1.2.1 (by rw [z]; exact hx)
        omega
      · exact absurd q (fun z => flt_i z)
    match m, q with
    | 0, q => exact ⟨(seq 2 1 rfl q).1, (seq 2 1 rfl q).2.1, fun _ => (seq 2 1 rfl q).2.2⟩
    | 1, q =>
      rw [ps] at q
      split at q
      · rename_i z; exact ⟨(lop 2 1 17 (by omega) q).1, (lop 2 1 17 (by omega) q).2, fun w => absurd w (by decide)⟩
      · exact ⟨(stp q).1, (stp q).2, fun w => absurd w (by decide)⟩
    | 2, q => exact ⟨(seq 4 3 rfl q).1, (seq 4 3 rfl q).2.1, fun _ => (seq 4 3 rfl q).2.2⟩
    | 3, q =>
      rw [ps] at q
      split at q
      · rename_i z; exact ⟨(lop 4 3 16 (by omega) q).1, (lop 4 3 16 (by omega) q).2, fun w => absurd w (by decide)⟩
      · exact ⟨(stp q).1, (stp q).2, fun w => absurd w (by decide)⟩
    | 4, q =>
      rw [ps] at q
      split at q
      · rename_i z
        split at q
        · exact absurd q (fun z => flt_i z)
        · obtain ⟨h1, c1, q1, q⟩ := bd_ok q
          obtain ⟨rfl, rfl⟩ := ok1_i q
          have a0 := kd_nx (f := f) hn (show kd f n h ≠ 37 by omega)
          have a1 := ih _ _ _ _ _ a0.2 q1
          rw [List.length_append]
          simp only [List.length_cons, List.length_nil]
          exact ⟨by omega, by omega, fun _ => by omega⟩
      · split at q
        · split at q
          · exact absurd q (fun z => flt_i z)
          · have := shut 0 (dp + 1) 32 (by omega) (by decide) q
            exact ⟨this.1, this.2.1, fun _ => this.2.2⟩
        · obtain ⟨h1, c1, q1, q⟩ := bd_ok q
          have a1 := ih _ _ _ _ _ hn q1
          split at q
          · rename_i z
            obtain ⟨h2, c2, q2, q⟩ := bd_ok q
            obtain ⟨rfl, rfl⟩ := ok1_i q
            have a0 := kd_nx (f := f) a1.2.1 (show kd f n h1 ≠ 37 by omega)
            have a2 := ih _ _ _ _ _ a0.2 q2
            rw [List.length_append, List.length_append]
            simp only [List.length_cons, List.length_nil]
            exact ⟨by omega, by omega, fun _ => by omega⟩
          · exact absurd q (fun z => flt_i z)
    | 5, q => exact ⟨(seq 7 6 rfl q).1, (seq 7 6 rfl q).2.1, fun _ => (seq 7 6 rfl q).2.2⟩
    | 6, q =>
      rw [ps] at q
      split at q
      · rename_i z; exact ⟨(lop 7 6 _ (by omega) q).1, (lop 7 6 _ (by omega) q).2, fun w => absurd w (by decide)⟩
      · exact ⟨(stp q).1, (stp q).2, fun w => absurd w (by decide)⟩
    | 7, q => exact ⟨(seq 9 8 rfl q).1, (seq 9 8 rfl q).2.1, fun _ => (seq 9 8 rfl q).2.2⟩
    | 8, q =>
      rw [ps] at q
      split at q
      · rename_i z; exact ⟨(lop 9 8 12 (by omega) q).1, (lop 9 8 12 (by omega) q).2, fun w => absurd w (by decide)⟩
      · exact ⟨(stp q).1, (stp q).2, fun w => absurd w (by decide)⟩
    | m + 9, q =>
      rw [ps_9] at q
      split at q
      · rename_i z
        obtain ⟨rfl, rfl⟩ := ok1_i q
        have a0 := kd_nx (f := f) hn (show kd f n h ≠ 37 by omega)
        simp only [List.length_cons, List.length_nil]
        exact ⟨by omega, by omega, fun _ => by omega⟩
      · split at q
        · split at q
          · exact absurd q (fun z => flt_i z)
          · have := shut 5 (dp + 1) 30 (by omega) (by decide) q
            exact ⟨this.1, this.2.1, fun _ => this.2.2⟩
        · split at q
          · rename_i z
            obtain ⟨rfl, rfl⟩ := ok1_i q
            have a0 := kd_nx (f := f) hn (show kd f n h ≠ 37 by omega)
            simp only [List.length_cons, List.length_nil]
            exact ⟨by omega, by omega, fun _ => by omega⟩
          · exact absurd q (fun z => flt_i z)
def rkm (m : Nat) : Nat := if m = 0 then 6 else if m = 2 then 5 else if m = 4 then 4 else if m = 5 then 3 else if m = 7 then 2 else 1
/-- with steps enough it comes to an end -/
theorem psT : ∀ (F m dp h : Nat), h ≤ n → 8 * (n - h) + rkm m ≤ F → ps f n F m dp h ≠ none
  | 0, m, dp, h, hn, hF => by
    have : 1 ≤ rkm m := by unfold rkm; repeat' split
                           all_goals omega
    omega
  | F + 1, m, dp, h, hn, hF => by
    have ih := psT F
    have rk6 : ∀ m, rkm m ≤ 6 := fun m => by
      unfold rkm
      repeat' split
      all_goals omega
    have far : ∀ (m1 d1 h1 : Nat), h < h1 → h1 ≤ n → ps f n F m1 d1 h1 ≠ none := fun m1 d1 h1 a b => ih _ _ _ b (by have := rk6 m1; omega)
    have nofl : ∀ a b, flt f n a b ≠ none := fun a b z => by cases z
    have nook : ∀ a b, ok1 a b ≠ none := fun a b z => by cases z
    have seq : ∀ (m1 m2 : Nat), lpm m1 = false → rkm m1 < rkm m → bd (ps f n F m1 dp h) (fun h1 c1 => bd (ps f n F m2 dp h1) (fun h2 c2 => ok1 h2 (c1 ++ c2))) ≠ none := fun m1 m2 hl hr =>
      bd_none (ih _ _ _ hn (by omega)) (fun h1 c1 q1 => by
        have a1 := psP F m1 dp h h1 c1 hn q1
        exact bd_none (far _ _ _ (a1.2.2 hl) a1.2.1) (fun h2 c2 _ => nook _ _))
    have lop : ∀ (m1 m2 x : Nat), kd f n h ≠ 37 → bd (ps f n F m1 dp (nx f n h)) (fun h1 c1 => bd (ps f n F m2 dp h1) (fun h2 c2 => ok1 h2 (c1 ++ x :: c2))) ≠ none := fun m1 m2 x hk => by
      have a0 := kd_nx (f := f) hn hk
      refine bd_none (far _ _ _ a0.1 a0.2) (fun h1 c1 q1 => ?_)
      have a1 := psP F m1 dp _ h1 c1 a0.2 q1
      exact bd_none (far _ _ _ (by omega) a1.2.1) (fun h2 c2 _ => nook _ _)
    have shut : ∀ (m1 d1 x : Nat), kd f n h ≠ 37 → bd (ps f n F m1 d1 (nx f n h)) (fun h1 c1 => if kd f n h1 = x then ok1 (nx f n h1) c1 else flt f n h1 2) ≠ none := fun m1 d1 x hk => by
      have a0 := kd_nx (f := f) hn hk
      refine bd_none (far _ _ _ a0.1 a0.2) (fun h1 c1 q1 => ?_)
      split
      · exact nook _ _
      · exact nofl _ _
    match m, hF, seq with
    | 0, hF, seq => exact seq 2 1 rfl (by decide)
    | 1, hF, _ =>
      rw [ps]
      split
      · exact lop 2 1 17 (by omega)
      · exact nook _ _
    | 2, hF, seq => exact seq 4 3 rfl (by decide)
    | 3, hF, _ =>
      rw [ps]
      split
      · exact lop 4 3 16 (by omega)
      · exact nook _ _
    | 4, hF, _ =>
      rw [ps]
      split
      · split
        · exact nofl _ _
        · have a0 := kd_nx (f := f) hn (show kd f n h ≠ 37 by omega)
          exact bd_none (far _ _ _ a0.1 a0.2) (fun h1 c1 _ => nook _ _)
      · split
        · split
          · exact nofl _ _
          · exact shut 0 (dp + 1) 32 (by omega)
        · refine bd_none (ih _ _ _ hn (by have : rkm 5 = 3 := rfl; have : rkm 4 = 4 := rfl; omega)) (fun h1 c1 q1 => ?_)
          have a1 := psP F 5 dp h h1 c1 hn q1
          have := a1.2.2 rfl
          split
          · rename_i z
            have a0 := kd_nx (f := f) a1.2.1 (show kd f n h1 ≠ 37 by omega)
            exact bd_none (far _ _ _ (by omega) a0.2) (fun h2 c2 _ => nook _ _)
          · exact nofl _ _
    | 5, hF, seq => exact seq 7 6 rfl (by decide)
    | 6, hF, _ =>
      rw [ps]
      split
      · exact lop 7 6 _ (by omega)
      · exact nook _ _
    | 7, hF, seq => exact seq 9 8 rfl (by decide)
    | 8, hF, _ =>
      rw [ps]
      split
      · exact lop 9 8 12 (by omega)
      · exact nook _ _
    | m + 9, hF, _ =>
      rw [ps_9]
      split
      · exact nook _ _
      · split
        · split
          · exact nofl _ _
          · exact shut 5 (dp + 1) 30 (by omega)
        · split
          · exact nook _ _
          · exact nofl _ _
end PS1
