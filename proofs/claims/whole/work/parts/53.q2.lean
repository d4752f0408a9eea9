/-! chains, cakes of one, who is mocked in turn -/
def gO (v : CV) (sd : SD) : Nat → Bool
  | 0 => false
  | k + 1 => match (rowL v sd)[k + 1]?, (rowL v sd)[k]? with
    | some x, some y => decide (x < 100 ∧ y < 100 ∧ sd.1 x = some y)
    | _, _ => false
section GO1
variable {v : CV} {sd : SD}
theorem gO_in (h : SO v sd) {g j : Nat} (hg : g < vG v) (hl : ldB sd.1 (bhd sd.1 (vG v)) g = true) (hj : j + 1 < clen (bhd sd.1 (vG v)) g) : gO v sd (bas sd.1 (bhd sd.1 (vG v)) g + (j + 1)) = true := by
  have h1 := row_at h.B hg hl (i := j + 1) hj
  have h2 := row_at h.B hg hl (i := j) (by omega)
  have l1 := clen_lt hj
  have l2 := clen_lt (show j < clen (bhd sd.1 (vG v)) g by omega)
  show (match (rowL v sd)[bas sd.1 (bhd sd.1 (vG v)) g + j + 1]?, (rowL v sd)[bas sd.1 (bhd sd.1 (vG v)) g + j]? with
    | some x, some y => decide (x < 100 ∧ y < 100 ∧ sd.1 x = some y)
    | _, _ => false) = true
  unfold rowL
  rw [Nat.add_assoc, h1, h2]
  exact decide_eq_true ⟨by omega, by omega, h.B.up l1⟩
theorem gO_first (h : SO v sd) {g : Nat} (hg : g < vG v) (hl : ldB sd.1 (bhd sd.1 (vG v)) g = true) : gO v sd (bas sd.1 (bhd sd.1 (vG v)) g) = false := by
  have hp := clen_pos h.B hg hl
  have h1 := row_at h.B hg hl (i := 0) hp
  rw [Nat.add_zero] at h1
  obtain ⟨B, hB, -⟩ := row_split h.B hg hl
  cases e : bas sd.1 (bhd sd.1 (vG v)) g with
  | zero => rfl
  | succ k =>
    rw [e] at h1
    show (match (rowL v sd)[k + 1]?, (rowL v sd)[k]? with
      | some x, some y => decide (x < 100 ∧ y < 100 ∧ sd.1 x = some y)
      | _, _ => false) = false
    unfold rowL
    rw [h1]
    cases e2 : (rowK sd.1 (bhd sd.1 (vG v)) (vG v))[k]? with
    | none => rfl
    | some y =>
      refine decide_eq_false (fun q => ?_)
      rcases cak_w (w := sd.1) (g := g) with ⟨q1, q2⟩ | ⟨m, q1, q2⟩
      · have := q.2.2
        rw [show fi (fo (bhd sd.1 (vG v))) 0 g = g from rfl, q1] at this
        cases this
      · -- the one ahead is a cake
        unfold bas at e
        rw [q2] at hB e
        rw [hB, List.append_assoc, List.getElem?_append_left (by omega), List.getElem?_append_right (by simp at e; omega)] at e2
        simp at e
        rw [show k - (rowK sd.1 (bhd sd.1 (vG v)) g).length = 0 by omega] at e2
        have := Option.some.inj e2
        omega
theorem gO_last (h : SO v sd) {g : Nat} (hg : g < vG v) (hl : ldB sd.1 (bhd sd.1 (vG v)) g = true) : gO v sd (bas sd.1 (bhd sd.1 (vG v)) g + clen (bhd sd.1 (vG v)) g) = false := by
  have hp := clen_pos h.B hg hl
  obtain ⟨B, hB, hB2⟩ := row_split h.B hg hl
  have h1 := fun i hi => row_at h.B hg hl (i := i) hi
  have hlen : ∀ n, (rowK sd.1 (bhd sd.1 (vG v)) g ++ cak sd.1 g ++ cpre (bhd sd.1 (vG v)) g n).length = bas sd.1 (bhd sd.1 (vG v)) g + n := fun n => by
    rw [List.length_append, cpre_len]
    rfl
  generalize clen (bhd sd.1 (vG v)) g = n at *
  obtain ⟨n, rfl⟩ : ∃ k, n = k + 1 := ⟨n - 1, by omega⟩
  have h1 := h1 n (by omega)
  have e1 : (rowK sd.1 (bhd sd.1 (vG v)) (vG v))[bas sd.1 (bhd sd.1 (vG v)) g + (n + 1)]? = B[0]? := by
    rw [hB, List.getElem?_append_right (by rw [hlen]; omega), hlen, Nat.sub_self]
  show (match (rowL v sd)[bas sd.1 (bhd sd.1 (vG v)) g + n + 1]?, (rowL v sd)[bas sd.1 (bhd sd.1 (vG v)) g + n]? with
    | some x, some y => decide (x < 100 ∧ y < 100 ∧ sd.1 x = some y)
    | _, _ => false) = false
  unfold rowL
  rw [Nat.add_assoc, e1, h1]
  cases e2 : B[0]? with
  | none => rfl
  | some y =>
    refine decide_eq_false (fun q => ?_)
    rcases hB2 y e2 with z | z
    · omega
    · rw [z.2] at q; cases q.2.2
end GO1
section GO2
variable {c : CX} {d : Nat} {s s' : RS} {v : CV} {a : SD}
theorem s_goesOn {Q : Bool → RS → Prop} (h : KR s v a) (hr : ROWR s v a) {k : Nat} (hk : k < 100) (hq : Q (gO v a k) s) : RB c (d + 1) m_R_goesOn [.ref 2, .int (nI k)] s Q := by
  have hl := h.so.len
  have hG := h.2.2.1.1
  refine w_R_goesOn _ ⟨fun z => ?_, fun z => ?_⟩
  · have z : k ≤ 0 := (nI_leI (b := 0) (by omega) (by decide)).mp z
    rw [show k = 0 by omega] at hq
    exact hq
  · have z : ¬ k ≤ 0 := fun q => z (nI_leI (b := 0) (by omega) (by decide) |>.mpr q)
    obtain ⟨n, rfl⟩ : ∃ n, k = n + 1 := ⟨k - 1, by omega⟩
    have hq : Q (match (rowL v a)[n + 1]?, (rowL v a)[n]? with
      | some x, some y => decide (x < 100 ∧ y < 100 ∧ a.1 x = some y)
      | _, _ => false) s := hq
    rw [hr.1.1, nI_leI (by omega) (by omega), show nI (n + 1) - 1 = nI n from nI_sub (a := n + 1) (b := 1) (by omega), ix_nI (by omega), ix_nI (by omega)]
    refine ⟨fun z2 => ?_, fun z2 => ⟨okn (by omega) (by decide), ?_⟩⟩
    · rw [List.getElem?_eq_none z2] at hq
      exact hq
    · obtain ⟨x, hx⟩ : ∃ x, (rowL v a)[n + 1]? = some x := ⟨_, List.getElem?_eq_getElem (by omega)⟩
      obtain ⟨y, hy⟩ : ∃ y, (rowL v a)[n]? = some y := ⟨_, List.getElem?_eq_getElem (by omega)⟩
      have bx := h.so.elt (List.mem_of_getElem? hx)
      have bY := h.so.elt (List.mem_of_getElem? hy)
      rw [hx, hy] at hq
      simp only at hq
      have l1 : (100 : Int32) ≤ nI x ↔ 100 ≤ x := nI_leI (a := 100) (by decide) (by omega)
      have l2 : (100 : Int32) ≤ nI y ↔ 100 ≤ y := nI_leI (a := 100) (by decide) (by omega)
      rw [hr.2.1 _ x hx, hr.2.1 _ y hy, l1, l2]
      refine ⟨fun z3 => ?_, fun z3 => ⟨okn (by omega) (by decide), fun z4 => ?_, fun z4 => ⟨okn (by omega) (by decide), okm (by omega), okn (by omega) (by decide), ?_⟩⟩⟩
      · rwa [decide_eq_false (by omega)] at hq
      · rwa [decide_eq_false (by omega)] at hq
      · rw [h.wh (by omega), h.ws x (by omega)]
        exact ⟨fun z5 => by rwa [decide_eq_false (fun q => z5 q.2.2)] at hq, fun z5 => by rwa [decide_eq_true ⟨by omega, by omega, z5⟩] at hq⟩
theorem s_chainAt {Q : Int32 → RS → Prop} (h : KR s v a) (hr : ROWR s v a) {x : Nat} (hx : x < vG v) (hq : Q (nI (chl a.1 (bhd a.1 (vG v)) (vG v) x)) s) : RI c (d + 2) m_R_chainAt [.ref 2, .int (nI ((rowL v a).idxOf x))] s Q := by
  have hG := h.2.2.1.1
  have hl := h.so.len
  obtain ⟨g, i, h1, h2, h3, h4⟩ := h.so.root hx
  have e1 : (rowL v a).idxOf x = bas a.1 (bhd a.1 (vG v)) g + i := by rw [← h4]; exact row_idx h.so.B h1 h2 h3
  have e2 : chl a.1 (bhd a.1 (vG v)) (vG v) x = clen (bhd a.1 (vG v)) g := by unfold chl; rw [← h4, rt_is h.so.B h1 h2 h3]
  have hbl : bas a.1 (bhd a.1 (vG v)) g + clen (bhd a.1 (vG v)) g ≤ 20 := by
    obtain ⟨B, hB, -⟩ := row_split h.so.B h1 h2
    have : (rowL v a).length ≤ 20 := hl
    unfold rowL at this
    rw [hB, List.length_append, List.length_append (bs := cpre (bhd a.1 (vG v)) g (clen (bhd a.1 (vG v)) g)), cpre_len] at this
    unfold bas
    omega
  rw [e2] at hq
  rw [e1]
  have f1 := gO_first h.so h1 h2
  have f2 := gO_last h.so h1 h2
  have f3 := fun j hj => gO_in h.so h1 h2 (j := j) hj
  have hp := clen_pos h.so.B h1 h2
  generalize bas a.1 (bhd a.1 (vG v)) g = b0 at *
  generalize clen (bhd a.1 (vG v)) g = n at *
  refine w_R_chainAt _ ?_
  have L2 : ∀ (m k : Nat) (p : Int32), k + m = n → 1 ≤ k → eR c (d + 2) m_R_chainAt 18 [some (.ref 2), some (.int p), some (.int (nI b0)), some (.int (nI k))] s (pI c Q) := by
    intro m
    induction m with
    | zero =>
      intro k p hk h1k
      refine w_R_chainAt_18 _ _ _ ?_
      rw [nI_add]
      refine s_goesOn h hr (by omega) ?_
      rw [show k = n by omega, f2]
      exact ⟨fun _ => hq, fun z => by cases z⟩
    | succ m ih =>
      intro k p hk h1k
      refine w_R_chainAt_18 _ _ _ ?_
      rw [nI_add, nI_1]
      refine s_goesOn h hr (by omega) ?_
      have := f3 (k - 1) (by omega)
      rw [show k - 1 + 1 = k by omega] at this
      rw [this]
      exact ⟨fun z => absurd z (by decide), fun _ => ih (k + 1) p (by omega) (by omega)⟩
  have L1 : ∀ (j : Nat) (p : Int32), j < n → eR c (d + 2) m_R_chainAt 2 [some (.ref 2), some (.int p), some (.int (nI (b0 + j))), none] s (pI c Q) := by
    intro j
    induction j with
    | zero =>
      intro p hj
      refine w_R_chainAt_2 _ _ (s_goesOn h hr (by omega) ?_)
      rw [Nat.add_zero, f1]
      exact ⟨fun _ => L2 (n - 1) 1 p (by omega) (by omega), fun z => by cases z⟩
    | succ j ih =>
      intro p hj
      refine w_R_chainAt_2 _ _ (s_goesOn h hr (by omega) ?_)
      rw [f3 j hj, nI_m1 (by omega), show b0 + (j + 1) - 1 = b0 + j by omega]
      exact ⟨fun z => absurd z (by decide), fun _ => ih p (by omega)⟩
  exact L1 i _ h3
theorem r_chainOf {Q : Int32 → RS → Prop} (h : KR s v a) {g : Int32} (ok : ∀ k, g = nI k → k < vG v → ∀ s', SQ s s' 0 → Q (nI (chl a.1 (bhd a.1 (vG v)) (vG v) k)) s') (bad : ¬ (0 ≤ g.toInt ∧ g.toInt < vG v) → ∀ s', SQ s s' 1 → Q 0 s') : RI c (d + 5) m_R_chainOf [.ref 2, .int g] s Q := by
  have hG := h.2.2.1.1
  refine w_R_chainOf _ (h.isg (fun k e hk => r_lays h (fun s' hs hk' hr => ?_)) (fun q => bad q _ (SQ.th2 s 0 1)))
  rw [e, ix_nI (by omega), hr.2.2.2 k (h.so.mem hk) (by omega)]
  exact ⟨okn (by omega) (by decide), s_chainAt hk' hr hk (ok k e hk s' hs)⟩
theorem r_longest {Q : Int32 → RS → Prop} (h : KR s v a) (hq : ∀ s', SQ s s' 0 → Q (nI (lgF v a (vG v))) s') : RI c (d + 5) m_R_longest [.ref 2] s Q := by
  have hG := h.2.2.1.1
  refine w_R_longest (r_lays h (fun s' hs h1 hr => ?_))
  have hq := hq s' hs
  suffices H : ∀ (m k : Nat), k + m = vG v → eR c (d + 5) m_R_longest 13 [some (.ref 2), some (.int (nI (lgF v a k))), some (.int (nI k))] s' (pI c Q) from H (vG v) 0 (by omega)
  intro m
  induction m with
  | zero =>
    intro k hk
    refine w_R_longest_13 _ _ ⟨fun _ => by rw [show k = vG v by omega]; exact hq, fun z => absurd ((h1.gle (by omega)).mpr (by omega)) z⟩
  | succ m ih =>
    intro k hk
    refine w_R_longest_13 _ _ ⟨fun z => absurd ((h1.gle (by omega)).mp z) (by omega), fun _ => ⟨okn (by omega) (by decide), ?_⟩⟩
    rw [ix_nI (by omega), hr.2.2.2 k (h.so.mem (by omega)) (by omega)]
    refine s_chainAt h1 hr (by omega) ?_
    rw [mx_nI (by have := lgF_b v a k; omega) (by have : chl a.1 (bhd a.1 (vG v)) (vG v) k ≤ 11 := clen_le _ _; omega), nI_1]
    exact ih (k + 1) (by omega)
end GO2
/-! cakes of one -/
def ckoC (v : CV) (sd : SD) (g x : Nat) : Bool := ldB sd.1 (bhd sd.1 (vG v)) x && decide (sd.1 x = some g)
def ckoF (v : CV) (sd : SD) (g : Nat) : Nat := fa_cnt (ckoC v sd g) (vG v)
theorem count_row {v : CV} {sd : SD} (h : SO v sd) (g : Nat) : ∀ k, k ≤ vG v → (rowK sd.1 (bhd sd.1 (vG v)) k).count (100 + g) = fa_cnt (ckoC v sd g) k
  | 0, _ => rfl
  | k + 1, hk => by
    have ih := count_row h g k (by omega)
    rw [rowK, List.count_append, ih]
    cases hl : ldB sd.1 (bhd sd.1 (vG v)) k with
    | false =>
      rw [fa_cnt_no (by unfold ckoC; rw [hl]; rfl)]
      simp
    | true =>
      rw [if_pos rfl, List.count_append]
      have e1 : (cpre (bhd sd.1 (vG v)) k (clen (bhd sd.1 (vG v)) k)).count (100 + g) = 0 := by
        rw [List.count_eq_zero]
        intro hm
        obtain ⟨i, h1, h2⟩ := cpre_mem.mp hm
        have := clen_lt h1
        omega
      rw [e1]
      rcases cak_w (w := sd.1) (g := k) with ⟨q1, q2⟩ | ⟨m, q1, q2⟩
      · rw [q2, fa_cnt_no (by unfold ckoC; rw [hl, q1]; rfl)]
        rfl
      · rw [q2]
        by_cases q : m = g
        · subst q
          rw [fa_cnt_yes (by unfold ckoC; rw [hl, q1]; simp)]
          simp
        · rw [fa_cnt_no (by unfold ckoC; rw [hl, q1]; simp [q])]
          have : List.count (100 + g) [100 + m] = 0 := List.count_eq_zero.mpr (by simp; omega)
          rw [this]
          omega
theorem cnt_one {p q : Nat → Bool} {y : Nat} : ∀ {n : Nat}, y < n → p y = true → q y = false → (∀ x, x ≠ y → p x = q x) → fa_cnt q n + 1 = fa_cnt p n
  | 0, h, _, _, _ => by omega
  | n + 1, h, h1, h2, h3 => by
    rcases Nat.lt_or_ge y n with z | z
    · have ih := cnt_one z h1 h2 h3
      cases e : p n with
      | true => rw [fa_cnt_yes e, fa_cnt_yes (by rw [← h3 n (by omega)]; exact e)]; omega
      | false => rw [fa_cnt_no e, fa_cnt_no (by rw [← h3 n (by omega)]; exact e)]; exact ih
    · have : y = n := by omega
      subst this
      rw [fa_cnt_yes h1, fa_cnt_no h2, fa_cnt_cong (fun x hx => (h3 x (by omega)).symm)]
theorem cnt_ext {p : Nat → Bool} {m : Nat} (h : ∀ x, m ≤ x → p x = false) : ∀ {n : Nat}, m ≤ n → fa_cnt p n = fa_cnt p m
  | 0, hn => by rw [show m = 0 by omega]
  | n + 1, hn => by
    rcases Nat.lt_or_ge n m with z | z
    · rw [show m = n + 1 by omega]
    · rw [fa_cnt_no (h n z), cnt_ext h z]
/-- a cake for each that walks not behind it itself -/
theorem cko_is {v : CV} {sd : SD} (h : SO v sd) {g : Nat} : pop (mkb sd.1 g 10) = ckoF v sd g + (if bhd sd.1 (vG v) g = none then 0 else 1) := by
  have e0 : pop (mkb sd.1 g 10) = fa_cnt (fun x => decide (sd.1 x = some g)) (vG v) := by
    unfold pop
    rw [fa_cnt_cong (q := fun x => decide (sd.1 x = some g)) (fun k hk => mkb_b hk)]
    exact cnt_ext (fun x hx => decide_eq_false (fun q => by have := (h.2.1 x g q).1; omega)) h.1
  rw [e0]
  unfold ckoF
  have key : ∀ x, sd.1 x = some g → (ldB sd.1 (bhd sd.1 (vG v)) x = true ↔ bhd sd.1 (vG v) g ≠ some x) := fun x hx => by
    unfold ldB
    rw [hx]
    exact decide_eq_true_iff
  cases e : bhd sd.1 (vG v) g with
  | none =>
    rw [if_pos rfl, Nat.add_zero]
    refine fa_cnt_cong (fun x _ => ?_)
    unfold ckoC
    by_cases q : sd.1 x = some g
    · rw [(key x q).mpr (by rw [e]; simp), decide_eq_true q]; rfl
    · rw [decide_eq_false q, Bool.and_false]
  | some y =>
    rw [if_neg (by simp)]
    have hy := h.B.2.2 g y e
    have hyG := (h.2.1 y g hy).1
    refine (cnt_one (p := fun x => decide (sd.1 x = some g)) (q := ckoC v sd g) hyG (decide_eq_true hy) ?_ (fun x hx => ?_)).symm
    · unfold ckoC
      have : ¬ ldB sd.1 (bhd sd.1 (vG v)) y = true := fun q => (key y hy).mp q e
      cases e2 : ldB sd.1 (bhd sd.1 (vG v)) y with
      | true => exact absurd e2 this
      | false => rfl
    · unfold ckoC
      by_cases q : sd.1 x = some g
      · rw [(key x q).mpr (by rw [e]; simp; omega), decide_eq_true q]; rfl
      · rw [decide_eq_false q, Bool.and_false]
section CKO
variable {c : CX} {d : Nat} {T T' : XS} {ca : Nat} {v : CV} {sd : SD}
theorem x_cakesOf {Q : Int32 → XS → Prop} {E : Nat → XS → Prop} (hR : RL c) (h : CS T 93 ca v sd) {g : Int32} (ok : ∀ k, g = nI k → k < vG v → ∀ T', frm scr T T' → Q (nI (ckoF v sd k)) T') (bad : ¬ (0 ≤ g.toInt ∧ g.toInt < vG v) → E 2 (tN T 0 0 6)) : XIt c (d + 4) m_X_cakesOf [.ref 1, .int g] T Q E := by
  have hG := h.G
  refine wx_X_cakesOf _ (x_needGuild hR h (fun k e hk => ⟨by rw [e]; exact okn (by omega) (by decide), x_rowNow h (fun T1 hf hr => ⟨rfl, ?_⟩)⟩) bad)
  have ok := ok k e hk T1 (rw_scr hf)
  have e1 : xA T 101 k = nI (mkb sd.1 k 10) := h.mk (by omega)
  have hB := h.so.B
  rw [e, ix_nI (by omega), e1, bcI_nI _ (mkb_t _ _), (hr.1.2.2.1 k hk).2, oI_none (fun j hj => by have := (hB.B k j hj).2; omega), cko_is h.so]
  refine ⟨okn (by omega) (by decide), fun q => ?_, fun q => ?_⟩
  · rw [if_neg q, show nI (ckoF v sd k + 1) - 1 = nI (ckoF v sd k) from nI_sub (a := ckoF v sd k + 1) (b := 1) (by omega)]
    exact ok
  · rw [if_pos q]
    exact ok
end CKO
section CKR
variable {c : CX} {d : Nat} {s s' : RS} {v : CV} {a : SD}
theorem r_cakesOf {Q : Int32 → RS → Prop} (h : KR s v a) {g : Int32} (ok : ∀ k, g = nI k → k < vG v → ∀ s', SQ s s' 0 → Q (nI (ckoF v a k)) s') (bad : ¬ (0 ≤ g.toInt ∧ g.toInt < vG v) → ∀ s', SQ s s' 1 → Q 0 s') : RI c (d + 5) m_R_cakesOf [.ref 2, .int g] s Q := by
  have hG := h.2.2.1.1
  have hl := h.so.len
  refine w_R_cakesOf _ (h.isg (fun g' e hk => r_lays h (fun s' hs h1 hr => ?_)) (fun q => bad q _ (SQ.th2 s 0 1)))
  have ok := ok g' e hk s' hs
  rw [show ckoF v a g' = (rowL v a).count (100 + g') from (count_row h.so g' (vG v) (Nat.le_refl _)).symm] at ok
  rw [e]
  suffices H : ∀ (m k : Nat), k + m = (rowL v a).length → eR c (d + 5) m_R_cakesOf 28 [some (.ref 2), some (.int (nI g')), some (.int (nI (((rowL v a).take k).count (100 + g')))), some (.int (nI k))] s' (pI c Q) from H (rowL v a).length 0 (by omega)
  intro m
  induction m with
  | zero =>
    intro k hk2
    refine w_R_cakesOf_28 _ _ _ ⟨fun _ => ?_, fun z => absurd (by rw [hr.1.1, nI_leI (by omega) (by omega)]; omega) z⟩
    rw [List.take_of_length_le (by omega)]
    exact ok
  | succ m ih =>
    intro k hk2
    obtain ⟨x, hx⟩ : ∃ x, (rowL v a)[k]? = some x := ⟨_, List.getElem?_eq_getElem (by omega)⟩
    have bx := h.so.elt (List.mem_of_getElem? hx)
    refine w_R_cakesOf_28 _ _ _ ⟨fun z => absurd z (by rw [hr.1.1, nI_leI (by omega) (by omega)]; omega), fun _ => ⟨okn (by omega) (by decide), ?_⟩⟩
    have ih := ih (k + 1) (by omega)
    rw [List.take_succ, hx, List.count_append] at ih
    rw [ix_nI (by omega), hr.2.1 k x hx, show (100 : Int32) + nI g' = nI (100 + g') from nI_add 100 g', nI_inj (by omega) (by omega), nI_1, nI_1, show ∀ y : Int32, y + 0 = y from fun y => Int32.add_zero y]
    refine ⟨fun z => ?_, fun z => ?_⟩
    · have : List.count (100 + g') (some x).toList = 0 := List.count_eq_zero.mpr (by simp; omega)
      rw [this] at ih
      exact ih
    · have : List.count (100 + g') (some x).toList = 1 := by simp [z]
      rw [this] at ih
      exact ih
end CKR
