/-! the row -/
/-- does a chain begin with it -/
def ldB (w b : Nat → Option Nat) (g : Nat) : Bool := match w g with
  | none => true
  | some m => decide (b m ≠ some g)
def clen (b : Nat → Option Nat) (g : Nat) : Nat := fa_first (fun i => decide (10 ≤ fi (fo b) i g)) 11
def cpre (b : Nat → Option Nat) (g i : Nat) : List Nat := (List.range i).map (fun j => fi (fo b) j g)
def cak (w : Nat → Option Nat) (g : Nat) : List Nat := match w g with
  | none => []
  | some m => [100 + m]
def rowK (w b : Nat → Option Nat) : Nat → List Nat
  | 0 => []
  | k + 1 => rowK w b k ++ (if ldB w b k = true then cak w k ++ cpre b k (clen b k) else [])
/-- who walks behind is one who mocks -/
def BH (w b : Nat → Option Nat) (G : Nat) : Prop := G ≤ 10 ∧ (∀ x k, w x = some k → x < G ∧ k < G) ∧ ∀ x k, b x = some k → w k = some x
theorem cpre_s (b : Nat → Option Nat) (g i : Nat) : cpre b g (i + 1) = cpre b g i ++ [fi (fo b) i g] := by unfold cpre; rw [List.range_succ, List.map_append]; rfl
section RW1
variable {w b : Nat → Option Nat} {G : Nat}
theorem BH.W (h : BH w b G) : W10 w := fun x k q => by have := h.2.1 x k q; have := h.1; omega
theorem BH.B (h : BH w b G) : W10 b := fun x k q => by have := h.2.1 k x (h.2.2 x k q); have := h.1; omega
/-- one step up the chain -/
theorem BH.up (h : BH w b G) {g i : Nat} (hi : fi (fo b) (i + 1) g < 10) : w (fi (fo b) (i + 1) g) = some (fi (fo b) i g) := by
  rw [fi_1] at hi ⊢
  exact h.2.2 _ _ ((fo_eq h.B hi).mp rfl)
theorem BH.lt (h : BH w b G) {g i : Nat} (hi : fi (fo b) (i + 1) g < 10) : fi (fo b) i g < 10 := (h.W _ _ (h.up hi)).2
theorem BH.lts (h : BH w b G) {g : Nat} : ∀ {i j : Nat}, i ≤ j → fi (fo b) j g < 10 → fi (fo b) i g < 10 := by
  intro i j
  induction j with
  | zero => intro hij hj; rw [show i = 0 by omega]; exact hj
  | succ j ih =>
    intro hij hj
    rcases Nat.lt_or_ge i (j + 1) with q | q
    · exact ih (by omega) (h.lt hj)
    · rw [show i = j + 1 by omega]; exact hj
theorem BH.ltG (h : BH w b G) {g i : Nat} (hg : g < G) (hi : fi (fo b) i g < 10) : fi (fo b) i g < G := by
  cases i with
  | zero => exact hg
  | succ i => exact (h.2.1 _ _ (h.up hi)).1
theorem ld_no (h : BH w b G) {g : Nat} (hl : ldB w b g = true) {x i : Nat} (he : fi (fo b) (i + 1) x = g) (hg : g < 10) : False := by
  have hu := h.up (g := x) (i := i) (by rw [he]; exact hg)
  have hb : b (fi (fo b) i x) = some g := (fo_eq h.B hg).mp (by rw [← fi_1 (fo b) i x]; exact he)
  rw [he] at hu
  unfold ldB at hl
  rw [hu] at hl
  simp only at hl
  exact of_decide_eq_true hl hb
/-- chains of two don't touch -/
theorem ld_uni (h : BH w b G) {g1 g2 : Nat} (h1 : ldB w b g1 = true) (h2 : ldB w b g2 = true) : ∀ {i j : Nat}, fi (fo b) i g1 = fi (fo b) j g2 → fi (fo b) i g1 < 10 → g1 = g2 ∧ i = j := by
  intro i
  induction i with
  | zero =>
    intro j he hl
    cases j with
    | zero => exact ⟨he, rfl⟩
    | succ j => exact (ld_no h h1 he.symm hl).elim
  | succ i ih =>
    intro j he hl
    cases j with
    | zero => exact (ld_no h h2 he (show fi (fo b) 0 g2 < 10 by rw [← he]; exact hl)).elim
    | succ j =>
      have e1 := h.up (g := g1) hl
      have e2 := h.up (g := g2) (i := j) (by rw [← he]; exact hl)
      rw [he, e2] at e1
      obtain ⟨q1, q2⟩ := ih (Option.some.inj e1).symm (h.lt hl)
      exact ⟨q1, by omega⟩
theorem clen_lt {g i : Nat} (hi : i < clen b g) : fi (fo b) i g < 10 := by
  have := fa_first_no _ _ _ hi
  have := of_decide_eq_false this
  omega
theorem clen_end (h : BH w b G) {g : Nat} (hg : g < G) (hl : ldB w b g = true) : fi (fo b) (clen b g) g = 10 ∧ clen b g ≤ 10 := by
  have h10 := h.1
  have hc : clen b g ≤ 10 := vis_10 (f := fo b) (x := g) (fun i hi => clen_lt hi) (fun i j hij hj e => by
    have := (ld_uni h hl hl e (clen_lt (by omega))).2
    omega)
  refine ⟨?_, hc⟩
  have := fa_first_yes (fun i => decide (10 ≤ fi (fo b) i g)) 11 (by show clen b g < 11; omega)
  have h1 : 10 ≤ fi (fo b) (clen b g) g := of_decide_eq_true this
  have h2 : fi (fo b) (clen b g) g ≤ 10 := by
    cases e : clen b g with
    | zero => show g ≤ 10; omega
    | succ k => rw [fi_1]; exact fo_le h.B _
  omega
theorem pop_G : ∀ n, n < 1024 → ∀ G, G < 11 → n < 2 ^ G → pop n ≤ G := by1024 (by decide +kernel)
theorem vis_G {f : Nat → Nat} {x G : Nat} : ∀ n, (∀ i, i < n → fi f i x < G) → vis f x n < 2 ^ G
  | 0, _ => Nat.two_pow_pos G
  | n + 1, h => Nat.or_lt_two_pow (vis_G n (fun i hi => h i (by omega))) (Nat.pow_lt_pow_right (by decide) (h n (by omega)))
theorem clen_G (h : BH w b G) {g : Nat} (hg : g < G) (hl : ldB w b g = true) : clen b g ≤ G := by
  have h10 := h.1
  have e := vis_pop (f := fo b) (x := g) (clen b g) (fun i hi => clen_lt hi) (fun i j hij hj e => by
    have := (ld_uni h hl hl e (clen_lt (by omega))).2
    omega)
  rw [← e]
  exact pop_G _ (vis_lt _ (fun i hi => clen_lt hi)) G (by omega) (vis_G _ (fun i hi => h.ltG hg (clen_lt hi)))
theorem cpre_mem {g n x : Nat} : x ∈ cpre b g n ↔ ∃ i, i < n ∧ fi (fo b) i g = x := by
  unfold cpre
  rw [List.mem_map]
  exact ⟨fun ⟨i, h1, h2⟩ => ⟨i, List.mem_range.mp h1, h2⟩, fun ⟨i, h1, h2⟩ => ⟨i, List.mem_range.mpr h1, h2⟩⟩
theorem cak_mem {g x : Nat} (h : x ∈ cak w g) : 100 ≤ x := by
  unfold cak at h
  split at h
  · cases h
  · have := List.mem_singleton.mp h; omega
theorem rowK_mem : ∀ {k x : Nat}, x < 100 → (x ∈ rowK w b k ↔ ∃ g, g < k ∧ ldB w b g = true ∧ ∃ i, i < clen b g ∧ fi (fo b) i g = x)
  | 0, x, _ => ⟨fun h => (List.not_mem_nil h).elim, fun ⟨g, h, _⟩ => absurd h (by omega)⟩
  | k + 1, x, hx => by
    rw [rowK, List.mem_append, rowK_mem hx]
    constructor
    · rintro (⟨g, h1, h2⟩ | h)
      · exact ⟨g, by omega, h2⟩
      · split at h
        · rename_i hl
          rcases List.mem_append.mp h with q | q
          · have := cak_mem q; omega
          · exact ⟨k, by omega, hl, cpre_mem.mp q⟩
        · cases h
    · rintro ⟨g, h1, h2, h3⟩
      rcases Nat.lt_or_ge g k with q | q
      · exact Or.inl ⟨g, q, h2, h3⟩
      · have e : g = k := by omega
        subst e
        rw [if_pos h2]
        exact Or.inr (List.mem_append_right _ (cpre_mem.mpr h3))
/-- the next of a chain doesn't walk yet -/
theorem row_new (h : BH w b G) {g i : Nat} (hg : g < G) (hl : ldB w b g = true) (hi : i < clen b g) : fi (fo b) i g ∉ rowK w b g ++ cak w g ++ cpre b g i := by
  have hx := clen_lt hi
  intro hm
  rcases List.mem_append.mp hm with hm | hm
  · rcases List.mem_append.mp hm with hm | hm
    · obtain ⟨g', h1, h2, j, h3, h4⟩ := (rowK_mem (by omega)).mp hm
      have := (ld_uni h hl h2 h4.symm hx).1
      omega
    · have := cak_mem hm; omega
  · obtain ⟨j, h3, h4⟩ := cpre_mem.mp hm
    have := (ld_uni h hl hl h4 (by rw [h4]; exact hx)).2
    omega
theorem row_new0 (h : BH w b G) {g : Nat} (hg : g < G) (hl : ldB w b g = true) : g ∉ rowK w b g := by
  have h10 := h.1
  intro hm
  obtain ⟨g', h1, h2, j, h3, h4⟩ := (rowK_mem (by omega)).mp hm
  have := (ld_uni h (i := 0) hl h2 h4.symm (show g < 10 by omega)).1
  omega
/-- the guilds of a list, as bits -/
def gsB : List Nat → Nat
  | [] => 0
  | x :: r => if x < 10 then gsB r ||| 2 ^ x else gsB r
theorem gsB_lt : ∀ l, gsB l < 1024
  | [] => by decide
  | x :: r => by
    rw [gsB]
    split
    · exact or_lt (gsB_lt r) (by assumption)
    · exact gsB_lt r
theorem gsB_bit : ∀ (l : List Nat) (x : Nat), x < 10 → ((gsB l).testBit x = true ↔ x ∈ l)
  | [], x, _ => by rw [gsB, Nat.zero_testBit]; exact ⟨fun h => absurd h (by decide), fun h => by cases h⟩
  | y :: r, x, hx => by
    rw [gsB, List.mem_cons]
    split
    · rw [Nat.testBit_or, Bool.or_eq_true, gsB_bit r x hx, Nat.testBit_two_pow, decide_eq_true_iff]
      exact ⟨fun h => h.elim Or.inr (fun z => Or.inl z.symm), fun h => h.elim (fun z => Or.inr z.symm) Or.inl⟩
    · rw [gsB_bit r x hx]
      exact ⟨Or.inr, fun h => h.elim (fun z => by omega) id⟩
theorem gsB_app (l : List Nat) {x : Nat} (hx : x < 10) (hn : x ∉ l) : pop (gsB (l ++ [x])) = pop (gsB l) + 1 := by
  have e : gsB (l ++ [x]) = gsB l ||| 2 ^ x := by
    refine bits10 (gsB_lt _) (or_lt (gsB_lt _) hx) (fun i hi => ?_)
    rw [Nat.testBit_or, Nat.testBit_two_pow]
    have h1 := gsB_bit (l ++ [x]) i hi
    have h2 := gsB_bit l i hi
    rw [List.mem_append, List.mem_singleton] at h1
    rcases Bool.eq_false_or_eq_true ((gsB (l ++ [x])).testBit i) with q | q
    · rw [q]
      rcases h1.mp q with z | z
      · rw [h2.mpr z]; rfl
      · rw [decide_eq_true z.symm, Bool.or_true]
    · rw [q]
      have z : ¬ (i ∈ l ∨ i = x) := fun z => by rw [h1.mpr z] at q; cases q
      have z1 : (gsB l).testBit i = false := by
        cases e : (gsB l).testBit i with
        | false => rfl
        | true => exact absurd (Or.inl (h2.mp e)) z
      rw [z1, decide_eq_false (fun y => z (Or.inr y.symm))]
      rfl
  rw [e]
  refine pop_or _ (gsB_lt l) x hx ?_
  cases e2 : (gsB l).testBit x with
  | false => rfl
  | true => exact absurd ((gsB_bit l x hx).mp e2) hn
theorem gsB_cak (l : List Nat) {x : Nat} (hx : 10 ≤ x) : gsB (l ++ [x]) = gsB l := by
  induction l with
  | nil => show (if x < 10 then _ else _) = _; rw [if_neg (by omega)]
  | cons y r ih =>
    show (if y < 10 then gsB (r ++ [x]) ||| 2 ^ y else gsB (r ++ [x])) = (if y < 10 then _ else _)
    rw [ih]
theorem gsB_new {l : List Nat} {x : Nat} (hx : x < 10) (hn : x ∉ l) : pop (gsB l) ≤ 9 := by
  have h1 := gsB_app l hx hn
  have h2 := pop_le _ (gsB_lt (l ++ [x]))
  omega
theorem cpre_len (g n : Nat) : (cpre b g n).length = n := by unfold cpre; rw [List.length_map, List.length_range]
theorem cak_len (g : Nat) : (cak w g).length ≤ 1 := by unfold cak; split <;> simp
theorem gsB_cak' (l : List Nat) (g : Nat) : gsB (l ++ cak w g) = gsB l := by
  unfold cak
  split
  · rw [List.append_nil]
  · exact gsB_cak l (by omega)
theorem row_pre (h : BH w b G) {g : Nat} (hg : g < G) (hl : ldB w b g = true) : ∀ i, i ≤ clen b g → pop (gsB (rowK w b g ++ cak w g ++ cpre b g i)) = pop (gsB (rowK w b g)) + i
  | 0, _ => by rw [show cpre b g 0 = [] from rfl, List.append_nil, gsB_cak']; rfl
  | i + 1, hi => by
    rw [cpre_s, ← List.append_assoc, gsB_app _ (clen_lt (by omega)) (row_new h hg hl (by omega)), row_pre h hg hl i (by omega)]
    rfl
theorem row_len (h : BH w b G) : ∀ k, k ≤ G → (rowK w b k).length ≤ pop (gsB (rowK w b k)) + k
  | 0, _ => by simp [rowK]
  | k + 1, hk => by
    have ih := row_len h k (by omega)
    rw [rowK]
    split
    · rename_i hl
      have e := row_pre h (show k < G by omega) hl (clen b k) (Nat.le_refl _)
      rw [List.append_assoc] at e
      rw [e, List.length_append, List.length_append, cpre_len]
      have := cak_len (w := w) k
      omega
    · rw [List.append_nil]
      omega
/-- there is room for the next -/
theorem row_room (h : BH w b G) {g i : Nat} (hg : g < G) (hl : ldB w b g = true) (hi : i < clen b g) : (rowK w b g ++ cak w g ++ cpre b g i).length < 20 := by
  have h10 := h.1
  have h1 := gsB_new (clen_lt hi) (row_new h hg hl hi)
  rw [row_pre h hg hl i (by omega)] at h1
  have h2 := row_len h g (by omega)
  have := cak_len (w := w) g
  rw [List.length_append, List.length_append, cpre_len]
  omega
theorem row_room0 (h : BH w b G) {g : Nat} (hg : g < G) (hl : ldB w b g = true) : (rowK w b g).length < 20 := by
  have h10 := h.1
  have h1 := gsB_new (show g < 10 by omega) (row_new0 h hg hl)
  have h2 := row_len h g (by omega)
  omega
theorem row_20 (h : BH w b G) {k : Nat} (hk : k ≤ G) : (rowK w b k).length ≤ 20 := by
  have h10 := h.1
  have h2 := row_len h k hk
  have := pop_le _ (gsB_lt (rowK w b k))
  omega
end RW1
theorem bhd_BH {w : Nat → Option Nat} {G : Nat} (hG : G ≤ 10) (h : ∀ x k, w x = some k → x < G ∧ k < G) : BH w (bhd w G) G :=
  ⟨hG, h, fun x k hk => (bhd_mk (fun x k q => by have := h x k q; omega) hk).1⟩
/-- in a ring one isn't followed by one of it -/
theorem ring_gap {w : Nat → Option Nat} {G x : Nat} (hG : G ≤ 10) (h : ∀ x k, w x = some k → x < G ∧ k < G) (hx : x < 10) (hr : ring w x ≠ 0) : ∃ y, (ring w x).testBit y = true ∧ ∀ k, bhd w G y = some k → (ring w x).testBit k = false := by
  have hW : W10 w := fun x k q => by have := h x k q; omega
  cases e : opn w (ring w x) G with
  | none =>
    obtain ⟨l1, l2⟩ := lob_lt _ (ring_lt hW hx) hr
    refine ⟨lob (ring w x), l2, fun k hk => ?_⟩
    obtain ⟨s1, s2⟩ := ring_same hW hx l2
    unfold bhd at hk
    rw [s1, if_neg hr, e] at hk
    simp only [if_true] at hk
    cases hk
  | some o =>
    obtain ⟨o1, o2, o3⟩ := opn_is e
    unfold opp at o2
    rw [Bool.and_eq_true, decide_eq_true_iff] at o2
    refine ⟨o, o2.1, fun k hk => ?_⟩
    obtain ⟨s1, s2⟩ := ring_same hW hx o2.1
    unfold bhd at hk
    rw [s1, if_neg hr, e] at hk
    simp only [if_true] at hk
    obtain ⟨b1, b2⟩ := lbo_bit (and_lt _ (mkb_t w o)) hk
    rw [cpl_bit b1, Bool.and_eq_true] at b2
    have := b2.2
    cases e2 : (ring w x).testBit k with
    | false => rfl
    | true => rw [e2] at this; cases this
/-- all walk -/
theorem row_all {w : Nat → Option Nat} {G x : Nat} (hG : G ≤ 10) (h : ∀ x k, w x = some k → x < G ∧ k < G) (hx : x < G) : ∃ g, g < G ∧ ldB w (bhd w G) g = true ∧ ∃ i, fi (fo (bhd w G)) i g = x := by
  have hB := bhd_BH hG h
  have hW := hB.W
  -- upwards: each is no leader
  have key : ∀ n, (∃ g, g < G ∧ ldB w (bhd w G) g = true ∧ ∃ i, fi (fo (bhd w G)) i g = x) ∨ ∀ i, i ≤ n → fi (fo w) i x < G ∧ ldB w (bhd w G) (fi (fo w) i x) = false ∧ fi (fo (bhd w G)) i (fi (fo w) i x) = x := by
    intro n
    induction n with
    | zero =>
      cases e : ldB w (bhd w G) x with
      | true => exact Or.inl ⟨x, hx, e, 0, rfl⟩
      | false => exact Or.inr (fun i hi => by rw [show i = 0 by omega]; exact ⟨hx, e, rfl⟩)
    | succ n ih =>
      rcases ih with q | ih
      · exact Or.inl q
      · obtain ⟨i1, i2, i3⟩ := ih n (Nat.le_refl _)
        have i2' := i2
        unfold ldB at i2
        split at i2
        · cases i2
        · rename_i m hm
          have hb : bhd w G m = some (fi (fo w) n x) := by
            have := of_decide_eq_false i2
            exact Classical.byContradiction this
          obtain ⟨-, m2⟩ := h _ _ hm
          have e1 : fi (fo w) (n + 1) x = m := by rw [fi_1]; exact (fo_eq hW (by omega)).mpr hm
          have e2 : fi (fo (bhd w G)) (n + 1) m = x := by
            show fi (fo (bhd w G)) n (fo (bhd w G) m) = x
            rw [(fo_eq hB.B (show fi (fo w) n x < 10 by omega)).mpr hb]
            exact i3
          cases e : ldB w (bhd w G) m with
          | true => exact Or.inl ⟨m, m2, e, n + 1, e2⟩
          | false =>
            refine Or.inr (fun i hi => ?_)
            rcases Nat.lt_or_ge i (n + 1) with z | z
            · exact ih i (by omega)
            · rw [show i = n + 1 by omega, e1]; exact ⟨m2, e, e2⟩
  rcases key 20 with q | q
  · exact q
  · exfalso
    -- a repetition: a ring all of whom are followed by one of it
    have hrep : ∃ i j, i < j ∧ j < 11 ∧ fi (fo w) i x = fi (fo w) j x := by
      refine Classical.byContradiction (fun z => ?_)
      have := vis_10 (f := fo w) (x := x) (n := 11) (fun i hi => by have := (q i (by omega)).1; omega) (fun i j hij hj e => z ⟨i, j, hij, hj, e⟩)
      omega
    obtain ⟨i, j, hij, hj, he⟩ := hrep
    generalize hy : fi (fo w) i x = y at he
    have hcy : fi (fo w) (j - i) y = y := by rw [← hy, ← fi_add, show j - i + i = j by omega, ← he, hy]
    have hc : cyc (fo w) y := ⟨j - i - 1, by rw [show j - i - 1 + 1 = j - i by omega]; exact hcy⟩
    have hy10 : y < 10 := by have := (q i (by omega)).1; rw [hy] at this; omega
    obtain ⟨z, z1, z2⟩ := ring_gap hG h hy10 ((ring_0 hW hy10).mpr hc)
    obtain ⟨-, n, hn⟩ := (ring_bit hW hy10 z).mp z1
    -- z is behind-followed by its mocker on the walk
    have hp : ∃ t, i ≤ t ∧ t < j ∧ fi (fo w) (t + 1) x = z := by
      refine ⟨i + (n + (j - i) - 1) % (j - i), by omega, by have := Nat.mod_lt (n + (j - i) - 1) (show 0 < j - i by omega); omega, ?_⟩
      have e1 : fi (fo w) ((n + (j - i) - 1) % (j - i) + 1) y = fi (fo w) (n + (j - i)) y := by
        have e2 : n + (j - i) = ((n + (j - i) - 1) % (j - i) + 1) + (n + (j - i) - 1) / (j - i) * (j - i) := by
          have := Nat.mod_add_div (n + (j - i) - 1) (j - i)
          rw [Nat.mul_comm] at this
          omega
        conv => rhs; rw [e2, fi_add, fi_mul hcy]
      rw [show i + (n + (j - i) - 1) % (j - i) + 1 = ((n + (j - i) - 1) % (j - i) + 1) + i by omega, fi_add, hy, e1, fi_add, hcy]
      exact hn
    obtain ⟨t, t1, t2, t3⟩ := hp
    obtain ⟨u1, u2, u3⟩ := q t (by omega)
    have hbz : bhd w G z = some (fi (fo w) t x) := by
      unfold ldB at u2
      split at u2
      · cases u2
      · rename_i m hm
        have e1 : fi (fo w) (t + 1) x = m := by rw [fi_1]; exact (fo_eq hW (by have := (h _ _ hm).2; omega)).mpr hm
        rw [← t3, e1]
        exact Classical.byContradiction (of_decide_eq_false u2)
    have := z2 _ hbz
    rw [show fi (fo w) t x = fi (fo w) (t - i) y by rw [← hy, ← fi_add, show t - i + i = t by omega]] at this
    rw [(ring_bit hW hy10 _).mpr ⟨hc, t - i, rfl⟩] at this
    cases this
