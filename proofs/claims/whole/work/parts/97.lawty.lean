/-! laws that are read are well made -/
def qmm (m : Nat) : Nat := if m ≤ 1 then 6 else if m ≤ 3 then 5 else if m = 4 then 4 else if m ≤ 6 then 3 else if m ≤ 8 then 2 else 1
def bmm (m : Nat) : Bool := decide (m ≤ 4)
theorem tkL_app : ∀ (a b : List Nat) (ty ty' : List Bool), tkL ty a = some ty' → tkL ty (a ++ b) = tkL ty' b
  | [], b, ty, ty', h => by rw [tkL] at h; cases h; rfl
  | x :: a, b, ty, ty', h => by
    rw [tkL] at h
    rw [List.cons_append, tkL]
    split at h
    · rename_i t2 ht
      first
        | exact tkL_app a b t2 ty' h
        | (rw [ht]; exact tkL_app a b t2 ty' h)
    · cases h
theorem tkL_1 {x : Nat} {l : List Nat} {ty ty' : List Bool} (h : tkS ty x = some ty') : tkL ty (x :: l) = tkL ty' l := by rw [tkL, h]
theorem tkS_a {ty : List Bool} {x : Nat} (h : ty.length < 60) (hx : 100 ≤ x) (hx2 : x < 108 ∨ 1000 ≤ x ∧ x < 2000) : tkS ty x = some (false :: ty) := by
  unfold tkS
  rw [if_pos hx, if_pos ⟨h, hx2⟩]
section PY1
variable {f : Nat → Nat} {n : Nat}
theorem psY : ∀ (F m dp h h' : Nat) (c : List Nat), h ≤ n → dp ≤ 6 → m ≤ 9 → ps f n F m dp h = some (.inl (h', c)) → ∀ ty : List Bool, ty.length + 6 * (6 - dp) + qmm m ≤ 60 → tkL (if lpm m = true then bmm m :: ty else ty) c = some (bmm m :: ty)
  | 0, m, dp, h, h', c, hn, hd, hm, q, ty, hy => by rw [ps] at q; cases q
  | F + 1, m, dp, h, h', c, hn, hd, hm, q, ty, hy => by
    have ih := psY F
    have seq : ∀ (m1 m2 : Nat), lpm m1 = false → lpm m2 = true → m1 ≤ 9 → m2 ≤ 9 → qmm m1 ≤ qmm m → qmm m2 ≤ qmm m → bmm m1 = bmm m → bmm m2 = bmm m → bd (ps f n F m1 dp h) (fun h1 c1 => bd (ps f n F m2 dp h1) (fun h2 c2 => ok1 h2 (c1 ++ c2))) = some (.inl (h', c)) → tkL ty c = some (bmm m :: ty) := fun m1 m2 l1 l2 x1 x2 k1 k2 b1 b2 q => by
      obtain ⟨h1, c1, q1, q⟩ := bd_ok q
      obtain ⟨h2, c2, q2, q⟩ := bd_ok q
      obtain ⟨rfl, rfl⟩ := ok1_i q
      have a1 := psP F m1 dp h h1 c1 hn q1
      have y1 := ih _ _ _ _ _ hn hd x1 q1 ty (by omega)
      rw [if_neg (by rw [l1]; decide), b1] at y1
      have y2 := ih _ _ _ _ _ a1.2.1 hd x2 q2 ty (by omega)
      rw [if_pos l2, b2] at y2
      rw [tkL_app _ _ _ _ y1]
      exact y2
    have lop : ∀ (m1 x : Nat), lpm m = true → lpm m1 = false → m1 ≤ 9 → qmm m1 + 1 ≤ qmm m → bmm m1 = bmm m → kd f n h ≠ 37 → (∀ ty, tkS (bmm m :: bmm m :: ty) x = some (bmm m :: ty)) → bd (ps f n F m1 dp (nx f n h)) (fun h1 c1 => bd (ps f n F m dp h1) (fun h2 c2 => ok1 h2 (c1 ++ x :: c2))) = some (.inl (h', c)) → tkL (bmm m :: ty) c = some (bmm m :: ty) := fun m1 x l0 l1 x1 k1 b1 hk hx q => by
      obtain ⟨h1, c1, q1, q⟩ := bd_ok q
      obtain ⟨h2, c2, q2, q⟩ := bd_ok q
      obtain ⟨rfl, rfl⟩ := ok1_i q
      have a0 := kd_nx (f := f) hn hk
      have a1 := psP F m1 dp _ h1 c1 a0.2 q1
      have y1 := ih _ _ _ _ _ a0.2 hd x1 q1 (bmm m :: ty) (by rw [List.length_cons]; omega)
      rw [if_neg (by rw [l1]; decide), b1] at y1
      have y2 := ih _ _ _ _ _ a1.2.1 hd hm q2 ty hy
      rw [if_pos l0] at y2
      rw [tkL_app _ _ _ _ y1, tkL_1 (hx ty)]
      exact y2
    have stp : ok1 h [] = some (.inl (h', c)) → tkL (bmm m :: ty) c = some (bmm m :: ty) := fun q => by
      obtain ⟨rfl, rfl⟩ := ok1_i q
      rfl
    have shut : ∀ (m1 x : Nat), lpm m1 = false → m1 ≤ 9 → dp ≠ 6 → qmm m1 ≤ qmm m + 6 → bmm m1 = bmm m → kd f n h ≠ 37 → bd (ps f n F m1 (dp + 1) (nx f n h)) (fun h1 c1 => if kd f n h1 = x then ok1 (nx f n h1) c1 else flt f n h1 2) = some (.inl (h', c)) → tkL ty c = some (bmm m :: ty) := fun m1 x l1 x1 d6 k1 b1 hk q => by
      obtain ⟨h1, c1, q1, q⟩ := bd_ok q
      have a0 := kd_nx (f := f) hn hk
      split at q
      · obtain ⟨rfl, rfl⟩ := ok1_i q
        have y1 := ih _ _ _ _ _ a0.2 (by omega) x1 q1 ty (by omega)
        rw [if_neg (by rw [l1]; decide), b1] at y1
        exact y1
      · exact absurd q (fun z => flt_i z)
    match m, hm, hy, q, seq, lop, stp, shut with
    | 0, hm, hy, q, seq, lop, stp, shut => exact seq 2 1 rfl rfl (by decide) (by decide) (by decide) (by decide) rfl rfl q
    | 1, hm, hy, q, seq, lop, stp, shut =>
      rw [ps] at q
      split at q
      · exact lop 2 17 rfl rfl (by decide) (by decide) rfl (by omega) (fun ty => rfl) q
      · exact stp q
    | 2, hm, hy, q, seq, lop, stp, shut => exact seq 4 3 rfl rfl (by decide) (by decide) (by decide) (by decide) rfl rfl q
    | 3, hm, hy, q, seq, lop, stp, shut =>
      rw [ps] at q
      split at q
      · exact lop 4 16 rfl rfl (by decide) (by decide) rfl (by omega) (fun ty => rfl) q
      · exact stp q
    | 4, hm, hy, q, seq, lop, stp, shut =>
      have e4 : qmm 4 = 4 := rfl
      have e5 : qmm 5 = 3 := rfl
      show tkL ty c = some (true :: ty)
      rw [ps] at q
      split at q
      · split at q
        · exact absurd q (fun z => flt_i z)
        · obtain ⟨h1, c1, q1, q⟩ := bd_ok q
          obtain ⟨rfl, rfl⟩ := ok1_i q
          have a0 := kd_nx (f := f) hn (show kd f n h ≠ 37 by omega)
          have y1 : tkL ty c1 = some (true :: ty) := ih _ _ _ _ _ a0.2 (by omega) (by decide) q1 ty (by omega)
          rw [tkL_app _ _ _ _ y1]
          rfl
      · split at q
        · split at q
          · exact absurd q (fun z => flt_i z)
          · exact shut 0 32 rfl (by decide) (by assumption) (by decide) rfl (by omega) q
        · obtain ⟨h1, c1, q1, q⟩ := bd_ok q
          have a1 := psP F 5 dp h h1 c1 hn q1
          split at q
          · rename_i z
            obtain ⟨h2, c2, q2, q⟩ := bd_ok q
            obtain ⟨rfl, rfl⟩ := ok1_i q
            have a0 := kd_nx (f := f) a1.2.1 (show kd f n h1 ≠ 37 by omega)
            have y1 : tkL ty c1 = some (false :: ty) := ih _ _ _ _ _ hn hd (by decide) q1 ty (by omega)
            have y2 : tkL (false :: ty) c2 = some (false :: false :: ty) := ih _ _ _ _ _ a0.2 hd (by decide) q2 (false :: ty) (by rw [List.length_cons]; omega)
            rw [tkL_app _ _ _ _ y1, tkL_app _ _ _ _ y2]
            have : kd f n h1 = 33 ∨ kd f n h1 = 34 ∨ kd f n h1 = 35 := by omega
            rcases this with e | e | e <;> rw [e] <;> rfl
          · exact absurd q (fun z => flt_i z)
    | 5, hm, hy, q, seq, lop, stp, shut => exact seq 7 6 rfl rfl (by decide) (by decide) (by decide) (by decide) rfl rfl q
    | 6, hm, hy, q, seq, lop, stp, shut =>
      rw [ps] at q
      split at q
      · rename_i z
        refine lop 7 _ rfl rfl (by decide) (by decide) rfl (by omega) (fun ty => ?_) q
        rcases z with e | e <;> rw [e] <;> rfl
      · exact stp q
    | 7, hm, hy, q, seq, lop, stp, shut => exact seq 9 8 rfl rfl (by decide) (by decide) (by decide) (by decide) rfl rfl q
    | 8, hm, hy, q, seq, lop, stp, shut =>
      rw [ps] at q
      split at q
      · exact lop 9 12 rfl rfl (by decide) (by decide) rfl (by omega) (fun ty => rfl) q
      · exact stp q
    | 9, hm, hy, q, seq, lop, stp, shut =>
      have e9 : qmm 9 = 1 := rfl
      have v9 := vl_lt (f := f) hn
      show tkL ty c = some (false :: ty)
      rw [ps_9 (m := 0)] at q
      split at q
      · obtain ⟨rfl, rfl⟩ := ok1_i q
        rw [tkL_1 (tkS_a (by omega) (by omega) (by omega))]
        rfl
      · split at q
        · split at q
          · exact absurd q (fun z => flt_i z)
          · exact shut 5 30 rfl (by decide) (by assumption) (by decide) rfl (by omega) q
        · split at q
          · obtain ⟨rfl, rfl⟩ := ok1_i q
            rw [tkL_1 (tkS_a (by omega) (by omega) (by omega))]
            rfl
          · exact absurd q (fun z => flt_i z)
theorem psLaw {F h h' : Nat} {c : List Nat} (hn : h ≤ n) (h9 : n ≤ 900) (q : ps f n F 0 0 h = some (.inl (h', c))) : lawok c := by
  have a := psP F 0 0 h h' c hn q
  exact ⟨psY F 0 0 h h' c hn (by decide) (by decide) q [] (by decide), by omega⟩
end PY1
