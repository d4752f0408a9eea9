/-! noise; who is mocked in turn -/
def sm (f : Nat → Nat) : Nat → Nat
  | 0 => 0
  | n + 1 => sm f n + f n
theorem sm_cong {f g : Nat → Nat} : ∀ {n : Nat}, (∀ k, k < n → f k = g k) → sm f n = sm g n
  | 0, _ => rfl
  | n + 1, h => by rw [sm, sm, sm_cong (fun k hk => h k (by omega)), h n (by omega)]
theorem sm_add (f g : Nat → Nat) : ∀ n, sm (fun k => f k + g k) n = sm f n + sm g n
  | 0 => rfl
  | n + 1 => by rw [sm, sm, sm, sm_add f g n]; omega
theorem sm_one {x y : Nat} : ∀ {n : Nat}, x < n → sm (fun k => if k = x then y else 0) n = y
  | 0, h => by omega
  | n + 1, h => by
    rw [sm]
    rcases Nat.lt_or_ge x n with q | q
    · rw [sm_one q, if_neg (by omega)]; rfl
    · have e : sm (fun k => if k = x then y else 0) n = 0 := by
        have : ∀ m, m ≤ n → sm (fun k => if k = x then y else 0) m = 0 := by
          intro m
          induction m with
          | zero => intro _; rfl
          | succ m ih => intro hm; rw [sm, ih (by omega), if_neg (by omega)]
        exact this n (Nat.le_refl _)
      rw [e, if_pos (by omega)]
      omega
theorem sm_0 : ∀ n, sm (fun _ => 0) n = 0
  | 0 => rfl
  | n + 1 => by rw [sm, sm_0 n]
/-- over a list, by those in it -/
def sl (h : Nat → Nat) : List Nat → Nat
  | [] => 0
  | x :: r => h x + sl h r
theorem sl_app (h : Nat → Nat) (x : Nat) : ∀ l, sl h (l ++ [x]) = sl h l + h x
  | [] => by show h x + 0 = 0 + h x; omega
  | y :: r => by show h y + sl h (r ++ [x]) = h y + sl h r + h x; rw [sl_app h x r]; omega
theorem sl_cnt {h : Nat → Nat} (h10 : ∀ x, 10 ≤ x → h x = 0) : ∀ l : List Nat, sl h l = sm (fun x => l.count x * h x) 10
  | [] => by
    have : sm (fun x => ([] : List Nat).count x * h x) 10 = sm (fun _ => 0) 10 := sm_cong (fun k _ => by simp)
    rw [this, sm_0]; rfl
  | y :: r => by
    rw [sl, sl_cnt h10 r]
    by_cases q : y < 10
    · have : sm (fun x => (y :: r).count x * h x) 10 = sm (fun x => (if x = y then h y else 0) + r.count x * h x) 10 := sm_cong (fun k _ => by
        rw [List.count_cons]
        by_cases e : k = y
        · subst e; simp; rw [Nat.add_mul, Nat.one_mul, Nat.add_comm]
        · have : (y == k) = false := by simp; omega
          rw [this, if_neg e]; simp)
      rw [this, sm_add, sm_one q]
    · have : sm (fun x => (y :: r).count x * h x) 10 = sm (fun x => r.count x * h x) 10 := sm_cong (fun k hk => by
        rw [List.count_cons]
        have : (y == k) = false := by simp; omega
        rw [this]; simp)
      rw [this, h10 y (by omega)]
      omega
section NZ1
variable {v : CV} {sd : SD}
theorem cnt_pre (h : SO v sd) {g x : Nat} (hx : x < 10) (hg : g < vG v) (hl : ldB sd.1 (bhd sd.1 (vG v)) g = true) (h0 : (rowK sd.1 (bhd sd.1 (vG v)) g).count x ≤ 1) : ∀ i, i ≤ clen (bhd sd.1 (vG v)) g → (rowK sd.1 (bhd sd.1 (vG v)) g ++ cak sd.1 g ++ cpre (bhd sd.1 (vG v)) g i).count x ≤ 1
  | 0, _ => by
    rw [show cpre (bhd sd.1 (vG v)) g 0 = [] from rfl, List.append_nil, List.count_append]
    have : (cak sd.1 g).count x = 0 := List.count_eq_zero.mpr (fun q => by have := cak_mem q; omega)
    omega
  | i + 1, hi => by
    have ih := cnt_pre h hx hg hl h0 i (by omega)
    rw [cpre_s, ← List.append_assoc, List.count_append]
    by_cases q : fi (fo (bhd sd.1 (vG v))) i g = x
    · have hn := row_new h.B hg hl (i := i) (by omega)
      rw [q] at hn ⊢
      rw [List.count_eq_zero.mpr hn]
      simp
    · have : List.count x [fi (fo (bhd sd.1 (vG v))) i g] = 0 := List.count_eq_zero.mpr (by simp; omega)
      omega
theorem cnt_row (h : SO v sd) {x : Nat} (hx : x < 10) : ∀ k, k ≤ vG v → (rowK sd.1 (bhd sd.1 (vG v)) k).count x ≤ 1
  | 0, _ => by show List.count x [] ≤ 1; simp
  | k + 1, hk => by
    have ih := cnt_row h hx k (by omega)
    rw [rowK]
    split
    · rename_i hl
      rw [← List.append_assoc]
      exact cnt_pre h hx (by omega) hl ih _ (Nat.le_refl _)
    · rw [List.append_nil]; exact ih
theorem SO.cnt (h : SO v sd) {x : Nat} (hx : x < vG v) : (rowL v sd).count x = 1 := by
  have := h.1
  have h1 := cnt_row h (show x < 10 by omega) (vG v) (Nat.le_refl _)
  have h2 := List.count_pos_iff.mpr (h.mem hx)
  unfold rowL at h2 ⊢
  omega
/-- noise of one and the one behind it -/
def nzF (v : CV) (sd : SD) (g : Nat) : Nat := match bhd sd.1 (vG v) g with
  | none => 0
  | some k => vF v 2 g * vF v 3 k
def noiS (v : CV) (sd : SD) : Nat := sm (nzF v sd) (vG v)
def nzH (v : CV) (sd : SD) (x : Nat) : Nat := if x < 10 then nzF v sd x else 0
theorem bhd_none (h : SO v sd) {g : Nat} (hg : vG v ≤ g) : bhd sd.1 (vG v) g = none := by
  cases e : bhd sd.1 (vG v) g with
  | none => rfl
  | some k => have := (h.2.1 k g (h.B.2.2 g k e)).2.1; omega
theorem noi_list (h : SO v sd) : sl (nzH v sd) (rowL v sd) = noiS v sd := by
  have h10 := h.1
  rw [sl_cnt (h := nzH v sd) (fun x hx => if_neg (show ¬ x < 10 by omega))]
  have e1 : sm (fun x => (rowL v sd).count x * nzH v sd x) 10 = sm (fun x => if x < vG v then nzF v sd x else 0) 10 := sm_cong (fun k hk => by
    unfold nzH
    rw [if_pos hk]
    by_cases q : k < vG v
    · rw [if_pos q, h.cnt q, Nat.one_mul]
    · rw [if_neg q]
      unfold nzF
      rw [bhd_none h (by omega)]
      simp)
  rw [e1]
  have e2 : ∀ n, vG v ≤ n → sm (fun x => if x < vG v then nzF v sd x else 0) n = sm (fun x => if x < vG v then nzF v sd x else 0) (vG v) := by
    intro n
    induction n with
    | zero => intro hn; rw [show vG v = 0 by omega]
    | succ n ih =>
      intro hn
      rcases Nat.lt_or_ge n (vG v) with q | q
      · rw [show vG v = n + 1 by omega]
      · rw [sm, ih q, if_neg (by omega)]; rfl
  rw [e2 10 h10]
  exact sm_cong (fun k hk => if_pos hk)
/-- by places in the row -/
theorem nz_at (h : SO v sd) {j x : Nat} (hx : (rowL v sd)[j]? = some x) : nzH v sd x = if gO v sd (j + 1) = true then vF v 2 x * vF v 3 ((rowL v sd).getD (j + 1) 0) else 0 := by
  have h10 := h.1
  have hm := List.mem_of_getElem? hx
  rcases h.elt hm with q | q
  · obtain ⟨g, i, h1, h2, h3, h4⟩ := h.root q
    have e1 : (rowL v sd)[bas sd.1 (bhd sd.1 (vG v)) g + i]? = some x := by rw [← h4]; exact row_at h.B h1 h2 h3
    have ej : j = bas sd.1 (bhd sd.1 (vG v)) g + i := by
      -- places of one are one
      have c1 := h.cnt q
      refine Classical.byContradiction (fun z => ?_)
      have key : ∀ (l : List Nat) (a b : Nat), a < b → l[a]? = some x → l[b]? = some x → 2 ≤ l.count x := by
        intro l
        induction l with
        | nil => intro a b _ q; cases q
        | cons y r ih =>
          intro a b hab ha hb
          cases a with
          | zero =>
            cases b with
            | zero => omega
            | succ b =>
              have : y = x := Option.some.inj ha
              subst this
              have : y ∈ r := List.mem_of_getElem? hb
              have := List.count_pos_iff.mpr this
              rw [List.count_cons_self]
              omega
          | succ a =>
            cases b with
            | zero => omega
            | succ b =>
              have := ih a b (by omega) ha hb
              rw [List.count_cons]
              omega
      rcases Nat.lt_or_ge j (bas sd.1 (bhd sd.1 (vG v)) g + i) with y | y
      · have := key _ _ _ y hx e1; omega
      · have := key _ _ _ (show bas sd.1 (bhd sd.1 (vG v)) g + i < j by omega) e1 hx; omega
    unfold nzH nzF
    rw [if_pos (by omega)]
    rcases Nat.lt_or_ge (i + 1) (clen (bhd sd.1 (vG v)) g) with y | y
    · have e2 := gO_in h h1 h2 y
      have e3 := row_at h.B h1 h2 y
      have e4 : bhd sd.1 (vG v) x = some (fi (fo (bhd sd.1 (vG v))) (i + 1) g) := (fo_eq h.B.B (clen_lt y)).mp (by rw [fi_1, h4])
      rw [ej, Nat.add_assoc, e2, if_pos rfl, e4, List.getD_eq_getElem?_getD]
      unfold rowL
      rw [e3]
      rfl
    · have e2 := gO_last h h1 h2
      have e3 := (clen_end h.B h1 h2).1
      have e0 : i + 1 = clen (bhd sd.1 (vG v)) g := by omega
      rw [← e0] at e2 e3
      have e4 : bhd sd.1 (vG v) x = none := by
        rw [fi_1, h4] at e3
        unfold fo at e3
        cases e : bhd sd.1 (vG v) x with
        | none => rfl
        | some k => rw [e] at e3; have := (h.B.B x k e).2; simp at e3; omega
      rw [ej, Nat.add_assoc, e2, e4]
      rfl
  · unfold nzH
    rw [if_neg (by omega), if_neg]
    intro z
    have z : (match (rowL v sd)[j + 1]?, (rowL v sd)[j]? with
      | some x, some y => decide (x < 100 ∧ y < 100 ∧ sd.1 x = some y)
      | _, _ => false) = true := z
    rw [hx] at z
    cases e : (rowL v sd)[j + 1]? with
    | none => rw [e] at z; cases z
    | some y =>
      rw [e] at z
      have := of_decide_eq_true z
      omega
theorem nz_b (h : COK v) (hs : SO v sd) {g : Nat} (hg : g < vG v) : nzF v sd g ≤ 81 := by
  unfold nzF
  cases e : bhd sd.1 (vG v) g with
  | none => simp
  | some k =>
    have hk := (hs.2.1 k g (hs.B.2.2 g k e)).1
    have h1 := (h.2.2.2.2.2.1 g hg).2.2.1
    have h2 := (h.2.2.2.2.2.1 k hk).2.2.2.1
    have := Nat.mul_le_mul h1 h2
    show vF v 2 g * vF v 3 k ≤ 81
    omega
end NZ1
section NZ2
variable {c : CX} {d : Nat} {T T' : XS} {ca : Nat} {v : CV} {sd : SD}
theorem x_noise {Q : Int32 → XS → Prop} (h : CS T 93 ca v sd) (hq : ∀ T', frm scr T T' → Q (nI (noiS v sd)) T') : XI c (d + 4) m_X_noise [.ref 1] T Q := by
  have hG := h.G
  refine wx_X_noise ⟨ca, h.fc, x_rowNow h (fun T1 hf hr => ⟨rfl, ?_⟩)⟩
  have hq := hq T1 (rw_scr hf)
  have h1 := hf.CSr h
  suffices H : ∀ (m k : Nat), k + m = vG v → eX c (d + 4) m_X_noise 21 [some (.ref 1), some (.ref ca), some (.ref 129), some (.int (nI (sm (nzF v sd) k))), some (.int (nI k))] T1 (yI c Q) from H (vG v) 0 (by omega)
  intro m
  induction m with
  | zero =>
    intro k hk
    refine wx_X_noise_21 _ _ _ ⟨fun _ => by rw [show k = vG v by omega]; exact hq, fun z => absurd ((gle hr.1.1.1 hG (by omega)).mpr (by omega)) z⟩
  | succ m ih =>
    intro k hk
    have ok : okx (nI k) 10 := okn (by omega) (by decide)
    have ih := ih (k + 1) (by omega)
    rw [sm] at ih
    refine wx_X_noise_21 _ _ _ ⟨fun z => absurd ((gle hr.1.1.1 hG (by omega)).mp z) (by omega), fun _ => ⟨ok, h1.2.1.1, ?_⟩⟩
    rw [ix_nI (by omega), (hr.1.2.2.1 k (by omega)).2, nI_1]
    have ob := one_oI (o := bhd sd.1 (vG v) k) (fun j hj => (h.so.B.B k j hj).2)
    refine wx_Cv_noiseOf _ _ _ ⟨fun z => absurd ((one_nI (show k < 10 by omega)).symm.trans z) (by decide), fun _ => ?_⟩
    rw [ob]
    unfold nzF at ih
    cases e : bhd sd.1 (vG v) k with
    | none =>
      rw [e] at ih
      refine ⟨fun _ => ?_, fun z => absurd z (by decide)⟩
      rw [Int32.add_zero]
      exact ih
    | some j =>
      rw [e] at ih
      have hj := (h.so.2.1 j k (h.so.B.2.2 k j e)).1
      refine ⟨fun z => absurd z (by simp), fun _ => ⟨h1.2.1.1, ok, okn (show j < 10 by omega) (by decide), ?_⟩⟩
      have e2 := h1.2.1.2.2.2.2.2.2.1 k (by omega)
      have e3 := h1.2.1.2.2.2.2.2.2.1 j (by omega)
      rw [show ix (oI (some j)) = j from ix_nI (by omega), ix_nI (by omega), e2.2.1, e3.2.2.1, nI_mul, nI_add]
      exact ih
end NZ2
section NZ3
variable {c : CX} {d : Nat} {s s' : RS} {v : CV} {a : SD}
theorem s_noiseOf {Q : Int32 → RS → Prop} (h : KR s v a) {g k : Nat} (hg : g < vG v) (hk : k < vG v) (hq : Q (nI (vF v 2 g * vF v 3 k)) s) : RI c d m_R_noiseOf [.ref 2, .int (nI g), .int (nI k)] s Q := by
  have hG := h.2.2.1.1
  refine w_R_noiseOf _ _ ⟨okA 37 (by omega) (by decide), okA 47 (by omega) (by decide), ?_⟩
  rw [show ix (37 + nI g) = 37 + g from ixA 37 (by omega), show ix (47 + nI k) = 47 + k from ixA 47 (by omega), (h.1.2.2.2.2.2.1 g hg).2.1, (h.1.2.2.2.2.2.1 k hk).2.2.1, nI_mul]
  exact hq
theorem r_noise {Q : Int32 → RS → Prop} (h : KR s v a) (hq : ∀ s', SQ s s' 0 → Q (nI (noiS v a)) s') : RI c (d + 5) m_R_noise [.ref 2] s Q := by
  have hG := h.2.2.1.1
  have hl := h.so.len
  refine w_R_noise (r_lays h (fun s' hs h1 hr => ?_))
  have hq := hq s' hs
  rw [← noi_list h.so] at hq
  suffices H : ∀ (m k : Nat), k + m = (rowL v a).length → eR c (d + 5) m_R_noise 13 [some (.ref 2), some (.int (nI (sl (nzH v a) ((rowL v a).take k)))), some (.int (nI (k + 1)))] s' (pI c Q) from H (rowL v a).length 0 (by omega)
  have fin : ∀ k, k < 100 → (rowL v a).length ≤ k + 1 → eR c (d + 5) m_R_noise 13 [some (.ref 2), some (.int (nI (sl (nzH v a) ((rowL v a).take k)))), some (.int (nI (k + 1)))] s' (pI c Q) := by
    intro k hk100 hk
    refine w_R_noise_13 _ _ ⟨fun _ => ?_, fun z => absurd (by rw [hr.1.1, nI_leI (by omega) (by omega)]; omega) z⟩
    rcases Nat.lt_or_ge k (rowL v a).length with q | q
    · obtain ⟨x, hx⟩ : ∃ x, (rowL v a)[k]? = some x := ⟨_, List.getElem?_eq_getElem q⟩
      have e1 := nz_at h.so hx
      have e2 : gO v a (k + 1) = false := by
        show (match (rowL v a)[k + 1]?, (rowL v a)[k]? with
          | some x, some y => decide (x < 100 ∧ y < 100 ∧ a.1 x = some y)
          | _, _ => false) = false
        rw [List.getElem?_eq_none (by omega)]
      rw [e2, if_neg (by decide)] at e1
      have e3 : rowL v a = (rowL v a).take k ++ [x] := by
        have := List.take_succ (l := rowL v a) (i := k)
        rw [hx, List.take_of_length_le (by omega)] at this
        exact this
      have e4 : sl (nzH v a) (rowL v a) = sl (nzH v a) ((rowL v a).take k) := by
        conv => lhs; rw [e3]
        rw [sl_app, e1]; rfl
      rw [← e4]; exact hq
    · rw [List.take_of_length_le (by omega)]
      exact hq
  intro m
  induction m with
  | zero => intro k hk; exact fin k (by omega) (by omega)
  | succ m ih =>
    intro k hk
    rcases Nat.lt_or_ge (k + 1) (rowL v a).length with q | q
    · obtain ⟨x, hx⟩ : ∃ x, (rowL v a)[k]? = some x := ⟨_, List.getElem?_eq_getElem (by omega)⟩
      obtain ⟨y, hy⟩ : ∃ y, (rowL v a)[k + 1]? = some y := ⟨_, List.getElem?_eq_getElem q⟩
      have bx := h.so.elt (List.mem_of_getElem? hx)
      have bY := h.so.elt (List.mem_of_getElem? hy)
      have ih := ih (k + 1) (by omega)
      have e1 := nz_at h.so hx
      have e2 : gO v a (k + 1) = decide (y < 100 ∧ x < 100 ∧ a.1 y = some x) := by
        show (match (rowL v a)[k + 1]?, (rowL v a)[k]? with
          | some x, some y => decide (x < 100 ∧ y < 100 ∧ a.1 x = some y)
          | _, _ => false) = _
        rw [hx, hy]
      have e3 : (rowL v a).getD (k + 1) 0 = y := by rw [List.getD_eq_getElem?_getD, hy]; rfl
      rw [e2, e3] at e1
      rw [List.take_succ, hx, show (some x).toList = [x] from rfl, sl_app, e1] at ih
      have l1 : (100 : Int32) ≤ nI y ↔ 100 ≤ y := nI_leI (a := 100) (by decide) (by omega)
      have l2 : (100 : Int32) ≤ nI x ↔ 100 ≤ x := nI_leI (a := 100) (by decide) (by omega)
      have o1 : okx (nI (k + 1)) 20 := okn (by omega) (by decide)
      have o2 : okx (nI k) 20 := okn (by omega) (by decide)
      refine w_R_noise_13 _ _ ⟨fun z => absurd z (by rw [hr.1.1, nI_leI (by omega) (by omega)]; omega), fun _ => ⟨o1, ?_⟩⟩
      rw [show nI (k + 1) - 1 = nI k from nI_sub (a := k + 1) (b := 1) (by omega), ix_nI (by omega), ix_nI (by omega), hr.2.1 _ x hx, hr.2.1 _ y hy, l1, l2, nI_1, Int32.add_zero]
      refine ⟨fun z => ?_, fun z => ⟨o2, fun z2 => ?_, fun z2 => ⟨o1, okm (by omega), o2, ?_⟩⟩⟩
      · rw [decide_eq_false (by omega)] at ih
        exact ih
      · rw [decide_eq_false (by omega)] at ih
        exact ih
      · rw [h1.wh (by omega), h1.ws y (by omega)]
        refine ⟨fun z3 => ?_, fun z3 => ⟨o2, o1, s_noiseOf h1 (by omega) (by omega) ?_⟩⟩
        · rw [decide_eq_false (fun w => z3 w.2.2)] at ih
          exact ih
        · rw [decide_eq_true ⟨by omega, by omega, z3⟩, if_pos rfl] at ih
          rw [nI_add]
          exact ih
    · exact fin k (by omega) (by omega)
end NZ3
/-! who is mocked in turn -/
def visB (f : Nat → Nat) (x : Nat) : Nat → Nat
  | 0 => 0
  | n + 1 => if fi f n x < 10 then visB f x n ||| 2 ^ fi f n x else visB f x n
theorem visB_lt (f : Nat → Nat) (x : Nat) : ∀ n, visB f x n < 1024
  | 0 => by show 0 < 1024; omega
  | n + 1 => by
    rw [visB]
    split
    · exact or_lt (visB_lt f x n) (by assumption)
    · exact visB_lt f x n
theorem visB_bit (f : Nat → Nat) (x : Nat) {y : Nat} (hy : y < 10) : ∀ n, (visB f x n).testBit y = true ↔ ∃ i, i < n ∧ fi f i x = y
  | 0 => by
    rw [visB, Nat.zero_testBit]
    exact ⟨fun h => absurd h (by decide), fun ⟨i, h, _⟩ => absurd h (by omega)⟩
  | n + 1 => by
    have ih := visB_bit f x hy n
    have key : (∃ i, i < n + 1 ∧ fi f i x = y) ↔ ((∃ i, i < n ∧ fi f i x = y) ∨ fi f n x = y) := by
      refine ⟨fun ⟨i, h, e⟩ => ?_, fun h => ?_⟩
      · rcases Nat.lt_or_ge i n with q | q
        · exact Or.inl ⟨i, q, e⟩
        · rw [show i = n by omega] at e; exact Or.inr e
      · rcases h with ⟨i, h, e⟩ | h
        · exact ⟨i, by omega, e⟩
        · exact ⟨n, by omega, h⟩
    rw [visB, key]
    split
    · rw [Nat.testBit_or, Bool.or_eq_true, ih, Nat.testBit_two_pow, decide_eq_true_iff]
    · rw [ih]
      exact ⟨Or.inl, fun h => h.elim id (fun e => by omega)⟩
/-- what is reached is reached soon -/
theorem rch_10 {f : Nat → Nat} (h10 : f 10 = 10) (hb : ∀ y, f y ≤ 10) {x y : Nat} (hx : x < 10) (hy : y < 10) (h : rch f x y) : ∃ i, i < 10 ∧ fi f i x = y := by
  obtain ⟨n, hn⟩ := h
  have st : ∀ m, fi f m 10 = 10 := fun m => by
    induction m with
    | zero => rfl
    | succ m ih => show fi f m (f 10) = 10; rw [h10]; exact ih
  have hle : ∀ k, fi f k x ≤ 10 := fun k => by
    cases k with
    | zero => show x ≤ 10; omega
    | succ k => rw [fi_1]; exact hb _
  have key : ∀ N n, n ≤ N → fi f n x = y → ∃ i, i < 10 ∧ fi f i x = y := by
    intro N
    induction N with
    | zero => intro n hn e; exact ⟨n, by omega, e⟩
    | succ N ih =>
      intro n hnN e
      by_cases hd : ∃ i j, i < j ∧ j ≤ n ∧ fi f i x = fi f j x
      · obtain ⟨i, j, hij, hj, he⟩ := hd
        refine ih (n - j + i) (by omega) ?_
        rw [fi_add, he, ← fi_add, show n - j + j = n by omega]
        exact e
      · have hlt : ∀ i, i < n + 1 → fi f i x < 10 := fun i hi => by
          refine Classical.byContradiction (fun q => ?_)
          have e1 : fi f i x = 10 := by have := hle i; omega
          have : fi f n x = 10 := by rw [show n = n - i + i by omega, fi_add, e1, st]
          omega
        have := vis_10 hlt (fun i j hij hj he => hd ⟨i, j, hij, by omega, he⟩)
        exact ⟨n, by omega, e⟩
  exact key n n (Nat.le_refl _) hn
theorem pop_clr : ∀ n, n < 1024 → ∀ g, g < 10 → n.testBit g = true → pop (clrb n g) + 1 = pop n := by1024 (by decide +kernel)
def belS (w : Nat → Option Nat) (g : Nat) : Nat := pop (clrb (visB (fo w) g 10) g)
section BL1
variable {c : CX} {d : Nat} {T T' : XS} {ca : Nat} {v : CV} {sd : SD}
theorem x_below {Q : Int32 → XS → Prop} {E : Nat → XS → Prop} (hR : RL c) (h : CS T 93 ca v sd) {g : Int32} (ok : ∀ k, g = nI k → k < vG v → Q (nI (belS sd.1 k)) T) (bad : ¬ (0 ≤ g.toInt ∧ g.toInt < vG v) → E 2 (tN T 0 0 6)) : XIt c (d + 4) m_X_below [.ref 1, .int g] T Q E := by
  have hG := h.G
  have hW := h.W
  refine wx_X_below _ (x_needGuild hR h (fun g' e hk => ?_) bad)
  have ok := ok g' e hk
  rw [e]
  have hg10 : g' < 10 := by omega
  -- the bits of those reached by 1 to k steps
  have fin : ∀ (k B : Nat), B < 1024 → (∀ y, y < 10 → (B.testBit y = true ↔ ∃ i, 1 ≤ i ∧ i ≤ k ∧ fi (fo sd.1) i g' = y)) → (k = 10 ∨ fi (fo sd.1) k g' = 10) → Q (bcI (nI B &&& (((1 : Int32) <<< (nI g' &&& 31)) ^^^ (-1)))) T := by
    intro k B hB hb hk
    rw [clr_i B hB g' hg10, bcI_nI _ (clr_lt hB)]
    have : clrb B g' = clrb (visB (fo sd.1) g' 10) g' := by
      refine bits10 (clr_lt hB) (clr_lt (visB_lt _ _ _)) (fun y hy => ?_)
      rw [clr_bit hy, clr_bit hy]
      by_cases q : y = g'
      · rw [decide_eq_false (by omega), Bool.and_false, Bool.and_false]
      · congr 1
        have e1 := hb y hy
        have e2 := visB_bit (fo sd.1) g' hy 10
        have : B.testBit y = true ↔ (visB (fo sd.1) g' 10).testBit y = true := by
          rw [e1, e2]
          constructor
          · rintro ⟨i, -, -, q⟩
            exact rch_10 (fo_10 hW) (fo_le hW) hg10 hy ⟨i, q⟩
          · rintro ⟨i, h1, h2⟩
            have hi0 : i ≠ 0 := fun q2 => q (by rw [q2] at h2; exact h2.symm)
            rcases hk with hk | hk
            · exact ⟨i, by omega, by omega, h2⟩
            · refine ⟨i, by omega, ?_, h2⟩
              refine Classical.byContradiction (fun q3 => ?_)
              have st : ∀ m, fi (fo sd.1) m 10 = 10 := fun m => by
                induction m with
                | zero => rfl
                | succ m ih => show fi (fo sd.1) m (fo sd.1 10) = 10; rw [fo_10 hW]; exact ih
              have : fi (fo sd.1) i g' = 10 := by rw [show i = i - k + k by omega, fi_add, hk, st]
              omega
        cases e3 : B.testBit y with
        | true => exact (this.mp e3).symm
        | false => cases e4 : (visB (fo sd.1) g' 10).testBit y with
          | false => rfl
          | true => rw [this.mpr e4] at e3; cases e3
    rw [this]
    exact ok
  suffices H : ∀ (m k B : Nat), k + m = 10 → B < 1024 → (∀ y, y < 10 → (B.testBit y = true ↔ ∃ i, 1 ≤ i ∧ i ≤ k ∧ fi (fo sd.1) i g' = y)) → eX c (d + 4) m_X_below 12 [some (.ref 1), some (.int (nI g')), some (.int (nI B)), some (.int (if fi (fo sd.1) k g' < 10 then nI (fi (fo sd.1) k g') else -1)), some (.int (nI k))] T (yt c E (yI c Q)) by
    have := H 10 0 0 (by omega) (by decide) (fun y hy => by rw [Nat.zero_testBit]; exact ⟨fun q => absurd q (by decide), fun ⟨i, h1, h2, _⟩ => by omega⟩)
    rw [show fi (fo sd.1) 0 g' = g' from rfl, if_pos hg10] at this
    exact this
  intro m
  induction m with
  | zero =>
    intro k B hk hB hb
    refine wx_X_below_12 _ _ _ _ ⟨fun _ => fin k B hB hb (Or.inl (by omega)), fun z => absurd (nI_leI (a := 10) (by decide) (by omega) |>.mpr (by omega)) z⟩
  | succ m ih =>
    intro k B hk hB hb
    refine wx_X_below_12 _ _ _ _ ⟨fun z => absurd ((nI_leI (a := 10) (by decide) (by omega)).mp z) (by omega), fun _ => ?_⟩
    by_cases h10 : fi (fo sd.1) k g' < 10
    · rw [if_pos h10]
      have e1 : xA T 97 (fi (fo sd.1) k g') = oI (sd.1 (fi (fo sd.1) k g')) := h.wh h10
      refine ⟨fun z => absurd ((one_nI h10).symm.trans z) (by decide), fun _ => ⟨okn h10 (by decide), ?_⟩⟩
      rw [ix_nI (by omega), e1, one_oI (fun j hj => h.w10 hj), nI_1]
      have ih := ih (k + 1)
      rw [fi_1, aI_b hW] at ih
      have eb : ∀ y, (∃ i, 1 ≤ i ∧ i ≤ k + 1 ∧ fi (fo sd.1) i g' = y) ↔ ((∃ i, 1 ≤ i ∧ i ≤ k ∧ fi (fo sd.1) i g' = y) ∨ fo sd.1 (fi (fo sd.1) k g') = y) := fun y => by
        refine ⟨fun ⟨i, h1, h2, h3⟩ => ?_, fun q => ?_⟩
        · rcases Nat.lt_or_ge i (k + 1) with q | q
          · exact Or.inl ⟨i, h1, by omega, h3⟩
          · rw [show i = k + 1 by omega, fi_1] at h3; exact Or.inr h3
        · rcases q with ⟨i, h1, h2, h3⟩ | q
          · exact ⟨i, h1, by omega, h3⟩
          · exact ⟨k + 1, by omega, by omega, by rw [fi_1]; exact q⟩
      cases e2 : sd.1 (fi (fo sd.1) k g') with
      | none =>
        rw [e2] at ih
        refine ⟨fun _ => ih B (by omega) hB (fun y hy => ?_), fun z => absurd z (by decide)⟩
        rw [eb, hb y hy]
        refine ⟨Or.inl, fun q => q.elim id (fun q => ?_)⟩
        have : fo sd.1 (fi (fo sd.1) k g') = 10 := by
          generalize fi (fo sd.1) k g' = z at e2
          unfold fo
          rw [e2]
        omega
      | some j =>
        have hj := h.w10 e2
        rw [e2] at ih
        refine ⟨fun z => absurd z (by simp), fun _ => ?_⟩
        rw [show oI (some j) = nI j from rfl, sh1 j hj, fa_or]
        refine ih (B ||| 2 ^ j) (by omega) (or_lt hB hj) (fun y hy => ?_)
        rw [eb, Nat.testBit_or, Bool.or_eq_true, hb y hy, Nat.testBit_two_pow, decide_eq_true_iff, (fo_eq hW hj).mpr e2]
    · rw [if_neg h10]
      have e10 : fi (fo sd.1) k g' = 10 := by
        have : fi (fo sd.1) k g' ≤ 10 := by
          cases k with
          | zero => show g' ≤ 10; omega
          | succ k => rw [fi_1]; exact fo_le hW _
        omega
      exact ⟨fun _ => fin k B hB hb (Or.inr e10), fun z => absurd z (by decide)⟩
end BL1
section BL2
variable {c : CX} {d : Nat} {s s' : RS} {v : CV} {a : SD}
theorem r_below {Q : Int32 → RS → Prop} (h : KR s v a) {g : Int32} (ok : ∀ k, g = nI k → k < vG v → ∀ s', SQ s s' 0 → Q (nI (belS a.1 k)) s') (bad : ¬ (0 ≤ g.toInt ∧ g.toInt < vG v) → ∀ s', SQ s s' 1 → Q 0 s') : RI c (d + 5) m_R_below [.ref 2, .int g] s Q := by
  have hG := h.2.2.1.1
  have hW := h.W
  have h1 := (SQ.th s 0).kr h
  refine w_R_below _ (h.isg (fun g' e hk => ?_) (fun q => bad q _ (SQ.th2 s 0 1)))
  have ok := ok g' e hk _ (SQ.th s 0)
  rw [e]
  have hg10 : g' < 10 := by omega
  have f10 := fo_10 hW
  have hle : ∀ k, fi (fo a.1) k g' ≤ 10 := fun k => by
    cases k with
    | zero => show g' ≤ 10; omega
    | succ k => rw [fi_1]; exact fo_le hW _
  -- all reached
  have fin : ∀ k, 1 ≤ k → (∀ i, i < k → fi (fo a.1) i g' < 10) → (fi (fo a.1) k g' = 10 ∨ (vis (fo a.1) g' k).testBit (fi (fo a.1) k g') = true) → RI c (d + 4) m_R_size [.int (nI (vis (fo a.1) g' k))] (rF s 4 0) (fun v2 s1 => Q (v2 - 1) s1) := by
    intro k k1 hlt hend
    have hv := vis_lt k hlt
    have hcl : ∀ i, fi (fo a.1) i g' = 10 ∨ (vis (fo a.1) g' k).testBit (fi (fo a.1) i g') = true := by
      intro i
      induction i with
      | zero => exact Or.inr ((vis_bit _ _ _ k).mpr ⟨0, by omega, rfl⟩)
      | succ i ih =>
        rcases ih with ih | ih
        · exact Or.inl (by rw [fi_1, ih, f10])
        · obtain ⟨j, hj, he⟩ := (vis_bit _ _ _ k).mp ih
          rw [fi_1, ← he, ← fi_1 (fo a.1) j g']
          rcases Nat.lt_or_ge (j + 1) k with q | q
          · exact Or.inr ((vis_bit _ _ _ k).mpr ⟨j + 1, q, rfl⟩)
          · rw [show j + 1 = k by omega]
            exact hend
    have e1 : vis (fo a.1) g' k = visB (fo a.1) g' 10 := by
      refine bits10 hv (visB_lt _ _ _) (fun y hy => ?_)
      have : (vis (fo a.1) g' k).testBit y = true ↔ (visB (fo a.1) g' 10).testBit y = true := by
        rw [visB_bit _ _ hy]
        constructor
        · intro q
          obtain ⟨i, -, q⟩ := (vis_bit _ _ _ k).mp q
          exact rch_10 f10 (fo_le hW) hg10 hy ⟨i, q⟩
        · rintro ⟨i, -, q⟩
          rcases hcl i with z | z
          · omega
          · rw [q] at z; exact z
      cases e3 : (vis (fo a.1) g' k).testBit y with
      | true => exact (this.mp e3).symm
      | false => cases e4 : (visB (fo a.1) g' 10).testBit y with
        | false => rfl
        | true => rw [this.mpr e4] at e3; cases e3
    refine s_size hv ?_
    rw [e1]
    have hb : (visB (fo a.1) g' 10).testBit g' = true := (visB_bit _ _ hg10 10).mpr ⟨0, by omega, rfl⟩
    have e2 := pop_clr _ (visB_lt (fo a.1) g' 10) g' hg10 hb
    rw [← e2, show nI (pop (clrb (visB (fo a.1) g' 10) g') + 1) - 1 = nI (pop (clrb (visB (fo a.1) g' 10) g')) from nI_sub (a := pop (clrb (visB (fo a.1) g' 10) g') + 1) (b := 1) (by omega)]
    exact ok
  suffices H : ∀ (m k : Nat), k + m = 10 → 1 ≤ k → (∀ i, i < k → fi (fo a.1) i g' < 10) → (∀ i j, i < j → j < k → fi (fo a.1) i g' ≠ fi (fo a.1) j g') → eR c (d + 5) m_R_below 30 [some (.ref 2), some (.int (nI g')), some (.int (nI (vis (fo a.1) g' k))), some (.int (if fi (fo a.1) k g' < 10 then nI (fi (fo a.1) k g') else -1))] (rF s 4 0) (pI c Q) by
    have := H 9 1 (by omega) (by omega) (fun i hi => by rw [show i = 0 by omega]; exact hg10) (fun i j hij hj => by omega)
    rw [show fi (fo a.1) 1 g' = fo a.1 g' from rfl, aI_b hW, show vis (fo a.1) g' 1 = 0 ||| 2 ^ g' from rfl, Nat.zero_or] at this
    rw [h.wh hg10, sh1 g' hg10]
    exact ⟨okm hg10, this⟩
  intro m
  induction m with
  | zero =>
    intro k hk k1 h2 h3
    by_cases h10 : fi (fo a.1) k g' < 10
    · have hb : (vis (fo a.1) g' k).testBit (fi (fo a.1) k g') = true := by
        refine Classical.byContradiction (fun q => ?_)
        have q : ∀ i, i < k → fi (fo a.1) i g' ≠ fi (fo a.1) k g' := fun i hi e => q ((vis_bit _ _ _ k).mpr ⟨i, hi, e⟩)
        have := vis_10 (f := fo a.1) (x := g') (n := k + 1) (fun i hi => by
          rcases Nat.lt_or_ge i k with z | z
          · exact h2 i z
          · rw [show i = k by omega]; exact h10) (fun i j hij hj => by
          rcases Nat.lt_or_ge j k with z | z
          · exact h3 i j hij z
          · rw [show j = k by omega]; exact q i (by omega))
        omega
      rw [if_pos h10]
      refine w_R_below_30 _ _ _ ⟨fun z => ?_, fun _ => ⟨fun _ => fin k k1 h2 (Or.inr hb), fun z => ?_⟩⟩
      · have := (oI_none (o := some (fi (fo a.1) k g')) (fun j hj => by have := Option.some.inj hj; omega)).mp z
        cases this
      · rw [hs_nI _ (vis_lt k h2) _ h10, hb] at z
        cases z
    · rw [if_neg h10]
      exact w_R_below_30 _ _ _ ⟨fun _ => fin k k1 h2 (Or.inl (by have := hle k; omega)), fun z => absurd rfl z⟩
  | succ m ih =>
    intro k hk k1 h2 h3
    by_cases h10 : fi (fo a.1) k g' < 10
    · rw [if_pos h10]
      refine w_R_below_30 _ _ _ ⟨fun z => ?_, fun _ => ?_⟩
      · have := (oI_none (o := some (fi (fo a.1) k g')) (fun j hj => by have := Option.some.inj hj; omega)).mp z
        cases this
      · rw [hs_nI _ (vis_lt k h2) _ h10]
        refine ⟨fun hb => fin k k1 h2 (Or.inr hb), fun hb => ⟨okm h10, ?_⟩⟩
        have ih := ih (k + 1) (by omega) (by omega) (fun i hi => by
          rcases Nat.lt_or_ge i k with z | z
          · exact h2 i z
          · rw [show i = k by omega]; exact h10) (fun i j hij hj => by
          rcases Nat.lt_or_ge j k with z | z
          · exact h3 i j hij z
          · rw [show j = k by omega]
            intro e
            have := (vis_bit (fo a.1) g' _ k).mpr ⟨i, by omega, e⟩
            rw [hb] at this
            cases this)
        rw [fi_1, aI_b hW] at ih
        rw [sh1 _ h10, fa_or, h1.wh h10]
        exact ih
    · rw [if_neg h10]
      exact w_R_below_30 _ _ _ ⟨fun _ => fin k k1 h2 (Or.inl (by have := hle k; omega)), fun z => absurd rfl z⟩
end BL2
