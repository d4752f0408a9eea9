/-! on the way -/
def stN (v : CV) : Nat := stp v (vT v)
def pX (v : CV) (k : Nat) : Int32 := Int32.ofInt (pos dirX v k)
def pY (v : CV) (k : Nat) : Int32 := Int32.ofInt (pos dirY v k)
/-- lengths ahead of one -/
def ahd (v : CV) (sd : SD) (g : Nat) : Nat := slen v ((rowL v sd).take ((rowL v sd).idxOf g))
theorem stp_le {v : CV} (h : COK v) : ∀ k, k ≤ vT v → stp v k ≤ 1 + 20 * k
  | 0, _ => Nat.le_refl _
  | k + 1, hk => by
    have ih := stp_le h k (by omega)
    have := (h.2.2.1 k (by omega)).2.2
    show stp v k + vP v k ≤ _
    omega
theorem stN_b {v : CV} (h : COK v) : stN v ≤ 241 := by
  have := stp_le h (vT v) (Nat.le_refl _)
  have := h.2.1
  unfold stN
  omega
theorem stp_1 (v : CV) : ∀ k, 1 ≤ stp v k
  | 0 => Nat.le_refl _
  | k + 1 => by have := stp_1 v k; show 1 ≤ stp v k + vP v k; omega
theorem slen_le {v : CV} (h : COK v) : ∀ (l : List Nat), (∀ x ∈ l, x < 100 → x < vG v) → slen v l ≤ 9 * l.length
  | [], _ => by simp [slen]
  | x :: r, hl => by
    have ih := slen_le h r (fun y hy => hl y (List.mem_cons_of_mem _ hy))
    show (if x < 100 then vF v 1 x else 1) + slen v r ≤ 9 * (r.length + 1)
    split
    · rename_i q
      have := (h.2.2.2.2.2.1 x (hl x List.mem_cons_self q)).2.1
      omega
    · omega
theorem slen_take (v : CV) : ∀ (l : List Nat) (k : Nat), slen v (l.take k) ≤ slen v l
  | [], k => by simp
  | x :: r, 0 => by show 0 ≤ _; omega
  | x :: r, k + 1 => by
    have := slen_take v r k
    show (if x < 100 then vF v 1 x else 1) + slen v (r.take k) ≤ (if x < 100 then vF v 1 x else 1) + slen v r
    omega
theorem slen_b2 {v : CV} {sd : SD} (h : COK v) (hs : SO v sd) : slen v (rowL v sd) ≤ 180 := by
  have h1 := slen_le h (rowL v sd) (fun x hx hx2 => by have := hs.elt hx; omega)
  have h2 := hs.len
  omega
theorem ahd_b {v : CV} {sd : SD} (h : COK v) (hs : SO v sd) (g : Nat) : ahd v sd g ≤ slen v (rowL v sd) := slen_take _ _ _
/-- the step of one's head -/
def stA (v : CV) (sd : SD) (g : Nat) (m : Nat) : Option Nat := if ahd v sd g ≤ m ∧ m - ahd v sd g < stN v then some (m - ahd v sd g) else none
def mtg (v : CV) (sd : SD) (g h m : Nat) : Bool := match stA v sd g m, stA v sd h m with
  | some i, some j => decide (3 ≤ abI (nI i - nI j)) && decide (¬ 1 < abI (pX v i - pX v j) + abI (pY v i - pY v j))
  | _, _ => false
def endM (v : CV) (sd : SD) : Nat := slen v (rowL v sd) + stN v
theorem mtg_end {v : CV} {sd : SD} (h : COK v) (hs : SO v sd) (g g' : Nat) {m : Nat} (hm : endM v sd ≤ m) : mtg v sd g g' m = false := by
  have := ahd_b h hs g
  unfold endM at hm
  unfold mtg stA
  rw [if_neg (by omega)]
theorem ofI_nat (n : Nat) : Int32.ofInt (n : Int) = nI n := by
  unfold nI
  first | rfl | exact Int32.ofInt_natCast n | simp
theorem mn_nI {x y : Nat} (hx : x < 2 ^ 31) (hy : y < 2 ^ 31) : mnI (nI x) (nI y) = nI (Nat.min x y) := by
  unfold mnI
  simp only [nI_ltI hy hx]
  split
  · rw [show Nat.min x y = y from Nat.min_eq_right (by omega)]
  · rw [show Nat.min x y = x from Nat.min_eq_left (by omega)]
theorem sub_toInt {x y : Nat} (hx : x < 2 ^ 31) (hy : y < 2 ^ 31) : (nI x - nI y).toInt = (x : Int) - y := by
  rw [fb_subI] <;> rw [nI_toInt hx, nI_toInt hy] <;> omega
section WY1
variable {c : CX} {d : Nat} {s s' : RS} {v : CV} {a : SD}
theorem s_steps {Q : Int32 → RS → Prop} (h : KR s v a) (hq : Q (nI (stN v)) s) : RI c d m_R_steps [.ref 2] s Q := by
  have hT := h.2.2.1.2.1
  refine w_R_steps ?_
  suffices H : ∀ (m k : Nat), k + m = vT v → eR c d m_R_steps 4 [some (.ref 2), some (.int (nI (stp v k))), some (.int (nI k))] s (pI c Q) from H (vT v) 0 (by omega)
  have e2 : s.2.1 1 (ix 2) = nI (vT v) := h.1.2.2.1
  intro m
  induction m with
  | zero =>
    intro k hk
    refine w_R_steps_4 _ _ ⟨rfl, fun _ => by rw [show k = vT v by omega]; exact hq, fun z => absurd (by rw [e2, nI_leI (by omega) (by omega)]; omega) z⟩
  | succ m ih =>
    intro k hk
    refine w_R_steps_4 _ _ ⟨rfl, fun z => absurd z (by rw [e2, nI_leI (by omega) (by omega)]; omega), fun _ => ?_⟩
    have e3 : (67 : Int32) + 2 * nI k + 1 = nI (67 + 2 * k + 1) := by
      rw [show (2 : Int32) * nI k = nI (2 * k) from nI_mul 2 k, show (67 : Int32) + nI (2 * k) = nI (67 + 2 * k) from nI_add 67 _, nI_1]
    rw [e3, ix_nI (by omega), (h.1.2.2.2.2.2.2.1 k (by omega)).2, nI_add, nI_1]
    exact ⟨okn (by omega) (by decide), ih (k + 1) (by omega)⟩
theorem s_whereOf {Q : Int32 → RS → Prop} (h : KR s v a) {k : Nat} (hk : k < 1000) {wt : Int32} {dr : Nat → Int} (hd : (wt = 0 ∧ dr = dirX) ∨ (¬ wt = 0 ∧ dr = dirY)) (hq : Q (Int32.ofInt (pos dr v k)) s) : RI c (d + 1) m_R_whereOf [.ref 2, .int (nI k), .int wt] s Q := by
  have hT := h.2.2.1.2.1
  have e2 : s.2.1 1 (ix 2) = nI (vT v) := h.1.2.2.1
  refine w_R_whereOf _ _ ?_
  have whr0 : ∀ m i, whr dr v m i 0 = 0 := by
    intro m
    induction m with
    | zero => intro i; rfl
    | succ m ih => intro i; rw [whr, show Nat.min 0 (vP v i) = 0 from Nat.zero_min _]; simp [ih]
  suffices H : ∀ (m i left : Nat) (z : Int), i + m = vT v → left < 1000 → Q (Int32.ofInt (z + whr dr v m i left)) s → eR c (d + 1) m_R_whereOf 8 [some (.ref 2), some (.int (nI k)), some (.int wt), some (.int (nI left)), some (.int (Int32.ofInt z)), some (.int (nI i)), none, none] s (pI c Q) by
    have := H (vT v) 0 k 0 (by omega) hk (by rw [Int.zero_add]; exact hq)
    exact this
  intro m
  induction m with
  | zero =>
    intro i left z hi hl hq
    refine w_R_whereOf_8 _ _ _ _ _ ⟨rfl, fun _ => ?_, fun y => absurd (by rw [e2, nI_leI (by omega) (by omega)]; omega) y⟩
    rw [whr, Int.add_zero] at hq
    exact hq
  | succ m ih =>
    intro i left z hi hl hq
    refine w_R_whereOf_8 _ _ _ _ _ ⟨rfl, fun y => absurd y (by rw [e2, nI_leI (by omega) (by omega)]; omega), fun _ => ?_⟩
    have l0 : nI left ≤ 0 ↔ left ≤ 0 := nI_leI (b := 0) (by omega) (by decide)
    obtain ⟨c1, c2, c3⟩ := h.2.2.1.2.2.1 i (by omega)
    have e3 : (67 : Int32) + 2 * nI i = nI (67 + 2 * i) := by
      rw [show (2 : Int32) * nI i = nI (2 * i) from nI_mul 2 i]; exact nI_add 67 _
    rw [l0, e3, nI_1, ix_nI (by omega), ix_nI (by omega), (h.1.2.2.2.2.2.2.1 i (by omega)).1, (h.1.2.2.2.2.2.2.1 i (by omega)).2, mn_nI (by omega) (by omega), nI_sub (a := left) (b := Nat.min left (vP v i)) (Nat.min_le_left _ _), nI_1]
    refine ⟨fun y => ?_, fun y => ⟨okn (by omega) (by decide), okn (by omega) (by decide), ?_⟩⟩
    · rw [show left = 0 by omega, whr0, Int.add_zero] at hq
      exact hq
    · rw [whr, ← Int.add_assoc] at hq
      have hmn : Nat.min left (vP v i) ≤ 20 := Nat.le_trans (Nat.min_le_right _ _) c3
      generalize hgo : Nat.min left (vP v i) = go at *
      have ih := ih (i + 1) (left - go)
      have go1 : ∀ y : Int, y = dr (vY v i) * (go : Int) → eR c (d + 1) m_R_whereOf 8 [some (.ref 2), some (.int (nI k)), some (.int wt), some (.int (nI (left - go))), some (.int (Int32.ofInt (z + y))), some (.int (nI (i + 1))), none, none] s (pI c Q) := fun y hy => ih (z + y) (by omega) (by omega) (by rw [hy]; exact hq)
      have p0 : ∀ x : Int32, x + 0 = x := fun x => Int32.add_zero x
      have pp : Int32.ofInt z + nI go = Int32.ofInt (z + go) := by rw [← ofI_nat, Int32.ofInt_add]
      have pm : Int32.ofInt z + -nI go = Int32.ofInt (z + -(go : Int)) := by rw [← ofI_nat, Int32.ofInt_add, Int32.ofInt_neg]
      have wy : ∀ j, j < 4 → (nI (vY v i) = nI j ↔ vY v i = j) := fun j hj => nI_inj (by omega) (by omega)
      rw [p0, pp, pm]
      refine ⟨fun w0 => ?_, fun w0 => ?_⟩
      · rcases hd with ⟨q, -⟩ | ⟨-, rfl⟩
        · exact absurd q w0
        · refine ⟨fun y1 => ⟨fun y2 => ?_, fun y2 => ?_⟩, fun y1 => ?_⟩
          · have y1 : vY v i ≠ 0 := fun q => y1 (by rw [q]; rfl)
            have y2 : vY v i ≠ 2 := fun q => y2 (by rw [q]; rfl)
            have := go1 0 (by unfold dirY; rw [if_neg y1, if_neg y2]; simp)
            rw [Int.add_zero] at this
            exact this
          · have y2 : vY v i = 2 := (wy 2 (by decide)).mp y2
            exact go1 (-(go : Int)) (by unfold dirY; rw [y2]; simp)
          · have y1 : vY v i = 0 := (wy 0 (by decide)).mp y1
            exact go1 go (by unfold dirY; rw [y1]; simp)
      · rcases hd with ⟨-, rfl⟩ | ⟨q, -⟩
        · refine ⟨fun y1 => ⟨fun y2 => ?_, fun y2 => ?_⟩, fun y1 => ?_⟩
          · have y1 : vY v i ≠ 1 := fun q => y1 (by rw [q]; rfl)
            have y2 : vY v i ≠ 3 := fun q => y2 (by rw [q]; rfl)
            have := go1 0 (by unfold dirX; rw [if_neg y1, if_neg y2]; simp)
            rw [Int.add_zero] at this
            exact this
          · have y2 : vY v i = 3 := (wy 3 (by decide)).mp y2
            exact go1 (-(go : Int)) (by unfold dirX; rw [y2]; simp)
          · have y1 : vY v i = 1 := (wy 1 (by decide)).mp y1
            exact go1 go (by unfold dirX; rw [y1]; simp)
        · exact absurd w0 q
theorem s_stepAt {Q : Int32 → RS → Prop} (h : KR s v a) (hr : ROWR s v a) {g m : Nat} (hg : g < vG v) (hm : m < 2 ^ 31) (hq : Q (oI (stA v a g m)) s) : RI c (d + 1) m_R_stepAt [.ref 2, .int (nI g), .int (nI m)] s Q := by
  have hG := h.2.2.1.1
  have hl := h.so.len
  have hst := stN_b h.2.2.1
  have ha := ahd_b h.2.2.1 h.so g
  have ha2 := slen_b2 h.2.2.1 h.so
  have hi : (rowL v a).idxOf g < (rowL v a).length := List.idxOf_lt_length_of_mem (h.so.mem hg)
  have e1 : s.2.1 10 ((rowL v a).idxOf g) = nI (ahd v a g) := hr.2.2.1 _ (by omega)
  refine w_R_stepAt _ _ ?_
  rw [ix_nI (by omega), hr.2.2.2 g (h.so.mem hg) (by omega), ix_nI (by omega), e1]
  refine ⟨okn (by omega) (by decide), okn (by omega) (by decide), s_steps h ?_⟩
  have es : (nI (stN v) - 1).toInt64.toInt = (stN v : Int) - 1 := by
    rw [i64_toInt, show nI (stN v) - 1 = nI (stN v) - nI 1 from rfl, sub_toInt (by omega) (by decide)]; rfl
  have e0 : ((0 : Int64).toInt : Int) = 0 := rfl
  rw [wth_t, wth_f, i64_toInt, sub_toInt hm (by omega), es, e0]
  unfold stA at hq
  refine ⟨fun z => ?_, fun z => ?_⟩
  · rw [if_neg (by omega)] at hq
    exact hq
  · rw [if_pos (by omega)] at hq
    rw [nI_sub (by omega)]
    exact hq
theorem lt12 (x : Int32) : (2 : Int32) ≤ x ↔ 1 < x := by
  rw [fa_le, fa_lt]
  have e2 : ((2 : Int32).toInt : Int) = 2 := rfl
  have e1 : ((1 : Int32).toInt : Int) = 1 := rfl
  omega
theorem stA_b {v : CV} {sd : SD} (h : COK v) {g m i : Nat} (hi : stA v sd g m = some i) : i < stN v := by
  unfold stA at hi
  split at hi
  · have := Option.some.inj hi; omega
  · cases hi
theorem s_areMeeting {Q : Bool → RS → Prop} (h : KR s v a) (hr : ROWR s v a) {g g' m : Nat} (hg : g < vG v) (hg' : g' < vG v) (hm : m < 2 ^ 31) (hq : Q (mtg v a g g' m) s) : RB c (d + 2) m_R_areMeeting [.ref 2, .int (nI g), .int (nI g'), .int (nI m)] s Q := by
  have hst := stN_b h.2.2.1
  refine w_R_areMeeting _ _ _ (s_stepAt h hr hg hm (s_stepAt h hr hg' hm ?_))
  unfold mtg pX pY at hq
  rw [oI_none (fun k hk => by have := stA_b h.2.2.1 hk; omega), oI_none (fun k hk => by have := stA_b h.2.2.1 hk; omega)]
  refine ⟨fun z => by rw [z] at hq; exact hq, fun z => ⟨fun z2 => ?_, fun z2 => ?_⟩⟩
  · rw [z2] at hq
    cases e : stA v a g m with
    | none => exact absurd e z
    | some i => rw [e] at hq; exact hq
  · obtain ⟨i, hi⟩ : ∃ i, stA v a g m = some i := by
      cases e : stA v a g m with
      | none => exact absurd e z
      | some i => exact ⟨i, rfl⟩
    obtain ⟨j, hj⟩ : ∃ j, stA v a g' m = some j := by
      cases e : stA v a g' m with
      | none => exact absurd e z2
      | some i => exact ⟨i, rfl⟩
    have bi := stA_b h.2.2.1 hi
    have bj := stA_b h.2.2.1 hj
    rw [hi, hj] at hq ⊢
    simp only at hq
    rw [show oI (some i) = nI i from rfl, show oI (some j) = nI j from rfl]
    refine ⟨fun z3 => ?_, fun z3 => by rwa [decide_eq_false z3, Bool.false_and] at hq⟩
    rw [decide_eq_true z3, Bool.true_and] at hq
    refine s_whereOf h (by omega) (Or.inl ⟨rfl, rfl⟩) (s_whereOf h (by omega) (Or.inl ⟨rfl, rfl⟩) (s_whereOf h (by omega) (Or.inr ⟨by decide, rfl⟩) (s_whereOf h (by omega) (Or.inr ⟨by decide, rfl⟩) ?_)))
    rw [lt12]
    exact ⟨fun z4 => by rwa [decide_eq_false (fun q => q z4)] at hq, fun z4 => by rwa [decide_eq_true z4] at hq⟩
end WY1
section WY2
variable {c : CX} {d : Nat} {T T' : XS} {a ca : Nat} {v : CV} {sd : SD}
theorem x_steps {Q : Int32 → XS → Prop} (h : CAR T ca v) (hq : Q (nI (stN v)) T) : XI c d m_Cv_steps [.ref ca] T Q := wx_Cv_steps _ ⟨h.1, by rw [h.2.2.2.2.2.2.2.1]; exact hq⟩
theorem x_stepAt {Q : Int32 → XS → Prop} (h : CS T a ca v sd) (hr : ROWX T v sd) {g m : Nat} (hg : g < vG v) (hm : m < 2 ^ 31) (hq : Q (oI (stA v sd g m)) T) : XI c (d + 1) m_Rw_stepAt [.ref 129, .ref ca, .int (nI g), .int (nI m)] T Q := by
  have hG := h.G
  have hst := stN_b h.2.2.1
  have ha := ahd_b h.2.2.1 h.so g
  have ha2 := slen_b2 h.2.2.1 h.so
  have e1 : xA T 149 g = nI (ahd v sd g) := (hr.1.2.2.2 g (h.so.mem hg) (by omega)).2
  refine wx_Rw_stepAt _ _ _ ?_
  rw [ix_nI (by omega), e1]
  have e0 : ((0 : Int32).toInt : Int) = 0 := rfl
  unfold stA at hq
  refine ⟨okn (by omega) (by decide), fun z => ?_, fun z => ⟨h.2.1.1, x_steps h.2.1 ?_⟩⟩
  · rw [fa_lt, sub_toInt hm (by omega)] at z
    rw [if_neg (by omega)] at hq
    exact hq
  · rw [fa_lt, sub_toInt hm (by omega)] at z
    have hle : ahd v sd g ≤ m := by omega
    rw [nI_sub hle, nI_leI (by omega) (by omega)]
    refine ⟨fun z2 => ?_, fun z2 => ?_⟩
    · rw [if_neg (by omega)] at hq
      exact hq
    · rw [if_pos (by omega)] at hq
      exact hq
theorem x_meeting {Q : Bool → XS → Prop} (h : CS T a ca v sd) (hr : ROWX T v sd) {g g' m : Nat} (hg : g < vG v) (hg' : g' < vG v) (hm : m < 2 ^ 31) (hq : Q (mtg v sd g g' m) T) : XB c (d + 2) m_Rw_meeting [.ref 129, .ref ca, .int (nI g), .int (nI g'), .int (nI m)] T Q := by
  have hst := stN_b h.2.2.1
  refine wx_Rw_meeting _ _ _ _ (x_stepAt h hr hg hm (x_stepAt h hr hg' hm ?_))
  unfold mtg pX pY at hq
  rw [oI_none (fun k hk => by have := stA_b h.2.2.1 hk; omega), oI_none (fun k hk => by have := stA_b h.2.2.1 hk; omega)]
  refine ⟨fun z => by rw [z] at hq; exact hq, fun z => ⟨fun z2 => ?_, fun z2 => ?_⟩⟩
  · rw [z2] at hq
    cases e : stA v sd g m with
    | none => exact absurd e z
    | some i => rw [e] at hq; exact hq
  · obtain ⟨i, hi⟩ : ∃ i, stA v sd g m = some i := by
      cases e : stA v sd g m with
      | none => exact absurd e z
      | some i => exact ⟨i, rfl⟩
    obtain ⟨j, hj⟩ : ∃ j, stA v sd g' m = some j := by
      cases e : stA v sd g' m with
      | none => exact absurd e z2
      | some i => exact ⟨i, rfl⟩
    have bi := stA_b h.2.2.1 hi
    have bj := stA_b h.2.2.1 hj
    rw [hi, hj] at hq ⊢
    simp only at hq
    rw [show oI (some i) = nI i from rfl, show oI (some j) = nI j from rfl]
    have en : nst T ca = stN v := h.2.1.2.2.2.2.2.2.2.1
    have ei : ix (nI i) = i := ix_nI (by omega)
    have ej : ix (nI j) = j := ix_nI (by omega)
    refine ⟨fun z3 => ⟨h.2.1.1, ?_⟩, fun z3 => by rwa [decide_eq_false z3, Bool.false_and] at hq⟩
    rw [decide_eq_true z3, Bool.true_and] at hq
    obtain ⟨p1, p2⟩ := h.2.1.2.2.2.2.2.2.2.2 i bi
    obtain ⟨p3, p4⟩ := h.2.1.2.2.2.2.2.2.2.2 j bj
    rw [en, ei, ej, p1, p2, p3, p4]
    exact ⟨okn bi (by omega), okn bj (by omega), okn bi (by omega), okn bj (by omega), fun z4 => by rwa [decide_eq_false (fun q => q z4)] at hq, fun z4 => by rwa [decide_eq_true z4] at hq⟩
/-! questions of the way -/
theorem x_at {Q : Int32 → XS → Prop} {E : Nat → XS → Prop} (hR : RL c) (h : CS T 93 ca v sd) {g m : Int32} (ok : ∀ k, g = nI k → k < vG v → 0 ≤ m.toInt → ∀ T', frm scr T T' → Q (oI (stA v sd k m.toInt.toNat)) T') (bad1 : ¬ (0 ≤ g.toInt ∧ g.toInt < vG v) → E 2 (tN T 0 0 6)) (bad2 : (0 ≤ g.toInt ∧ g.toInt < vG v) → m.toInt < 0 → E 1 (tN T 0 0 6)) : XIt c (d + 4) m_X_at [.ref 1, .int g, .int m] T Q E := by
  have hG := h.G
  have e0 : ((0 : Int32).toInt : Int) = 0 := rfl
  refine wx_X_at hR _ _ (x_needGuild hR h (fun k e hk => ⟨fun z => x_rowNow h (fun T1 hf hr => ⟨rfl, ca, (hf.CSr h).fc, ?_⟩), fun z => bad2 ?_ (by rw [fa_le] at z; omega)⟩) bad1)
  · rw [fa_le] at z
    have ok := ok k e hk (by omega) T1 (rw_scr hf)
    have em : m = nI m.toInt.toNat := nI_of_toInt (by omega)
    have hb := (fb_rng m).2
    have hn : m.toInt.toNat < 2 ^ 31 := by omega
    generalize m.toInt.toNat = n at *
    rw [e, em]
    exact x_stepAt (hf.CSr h) hr hk hn ok
  · rw [e, nI_toInt (by omega)]; omega
theorem x_arrives {Q : Int32 → XS → Prop} {E : Nat → XS → Prop} (hR : RL c) (h : CS T 93 ca v sd) {g : Int32} (ok : ∀ k, g = nI k → k < vG v → ∀ T', frm scr T T' → Q (nI (ahd v sd k + stN v)) T') (bad : ¬ (0 ≤ g.toInt ∧ g.toInt < vG v) → E 2 (tN T 0 0 6)) : XIt c (d + 4) m_X_arrives [.ref 1, .int g] T Q E := by
  have hG := h.G
  refine wx_X_arrives _ (x_needGuild hR h (fun k e hk => x_rowNow h (fun T1 hf hr => ⟨rfl, ?_⟩)) bad)
  have h1 := hf.CSr h
  have e1 : xA T1 149 k = nI (ahd v sd k) := (hr.1.2.2.2 k (h.so.mem hk) (by omega)).2
  rw [e]
  refine ⟨okn (by omega) (by decide), ca, h1.fc, h1.2.1.1, x_steps h1.2.1 ?_⟩
  rw [ix_nI (by omega), e1, nI_add]
  exact ok k e hk T1 (rw_scr hf)
theorem x_needTwo {Q : XS → Prop} {E : Nat → XS → Prop} (hR : RL c) (h : CS T 93 ca v sd) {g g' : Int32} (ok : ∀ k k', g = nI k → k < vG v → g' = nI k' → k' < vG v → k ≠ k' → Q T) (bad1 : ¬ ((0 ≤ g.toInt ∧ g.toInt < vG v) ∧ (0 ≤ g'.toInt ∧ g'.toInt < vG v)) → E 2 (tN T 0 0 6)) (bad2 : ((0 ≤ g.toInt ∧ g.toInt < vG v) ∧ (0 ≤ g'.toInt ∧ g'.toInt < vG v)) → g = g' → E 1 (tN T 0 0 6)) : XVt c (d + 1) m_X_needTwoGuilds [.ref 1, .int g, .int g'] T Q E := by
  have hG := h.G
  refine wx_X_needTwoGuilds hR _ _ (x_needGuild hR h (fun k e hk => x_needGuild hR h (fun k' e' hk' => ⟨fun z => ?_, fun z => ?_⟩) (fun q => bad1 (fun y => q y.2))) (fun q => bad1 (fun y => q y.1)))
  · exact ok k k' e hk e' hk' (fun q => z (by rw [e, e', q]))
  · refine bad2 ⟨?_, ?_⟩ z
    · rw [e, nI_toInt (by omega)]; omega
    · rw [e', nI_toInt (by omega)]; omega
/-- the first minute of meeting -/
def mtF (v : CV) (sd : SD) (g g' : Nat) : Option Nat := if fa_first (mtg v sd g g') (endM v sd) < endM v sd then some (fa_first (mtg v sd g g') (endM v sd)) else none
theorem mtF_none {g g' : Nat} (h : ∀ m, m < endM v sd → mtg v sd g g' m = false) : mtF v sd g g' = none := by
  unfold mtF
  rw [if_neg]
  intro q
  have := fa_first_yes _ _ q
  rw [h _ q] at this
  cases this
theorem mtF_some {g g' m : Nat} (hm : m < endM v sd) (h : ∀ j, j < m → mtg v sd g g' j = false) (hp : mtg v sd g g' m = true) : mtF v sd g g' = some m := by
  unfold mtF
  rw [fa_first_is hm hp h, if_pos hm]
theorem endM_b (h : CS T a ca v sd) : endM v sd ≤ 421 := by
  have := slen_b2 h.2.2.1 h.so
  have := stN_b h.2.2.1
  unfold endM
  omega
theorem x_meets {Q : Int32 → XS → Prop} {E : Nat → XS → Prop} (hR : RL c) (h : CS T 93 ca v sd) {g g' : Int32} (ok : ∀ k k', g = nI k → k < vG v → g' = nI k' → k' < vG v → k ≠ k' → ∀ T', frm scr T T' → Q (oI (mtF v sd k k')) T') (bad1 : ¬ ((0 ≤ g.toInt ∧ g.toInt < vG v) ∧ (0 ≤ g'.toInt ∧ g'.toInt < vG v)) → E 2 (tN T 0 0 6)) (bad2 : ((0 ≤ g.toInt ∧ g.toInt < vG v) ∧ (0 ≤ g'.toInt ∧ g'.toInt < vG v)) → g = g' → E 1 (tN T 0 0 6)) : XIt c (d + 4) m_X_meets [.ref 1, .int g, .int g'] T Q E := by
  have hG := h.G
  have hE := endM_b h
  refine wx_X_meets _ _ (x_needTwo hR h (fun k k' e hk e' hk' hne => ⟨ca, h.fc, x_rowNow h (fun T1 hf hr => ⟨rfl, (hf.CSr h).2.1.1, x_steps (hf.CSr h).2.1 ?_⟩)⟩) bad1 bad2)
  have ok := ok k k' e hk e' hk' hne T1 (rw_scr hf)
  have h1 := hf.CSr h
  rw [hr.1.1.2.2.1, nI_add, show slen v (rowL v sd) + stN v = endM v sd from rfl, e, e']
  suffices H : ∀ (m j : Nat), j + m = endM v sd → (∀ i, i < j → mtg v sd k k' i = false) → eX c (d + 4) m_X_meets 38 [some (.ref 1), some (.int (nI k)), some (.int (nI k')), some (.ref ca), some (.ref 129), some (.int (nI (endM v sd))), some (.int (nI j))] T1 (yt c E (yI c Q)) from H (endM v sd) 0 (by omega) (fun i hi => by omega)
  intro m
  induction m with
  | zero =>
    intro j hj hi
    refine wx_X_meets_38 _ _ _ _ _ ⟨fun _ => ?_, fun z => absurd (nI_leI (by omega) (by omega) |>.mpr (by omega)) z⟩
    rw [mtF_none (fun m hm => hi m (by omega))] at ok
    exact ok
  | succ m ih =>
    intro j hj hi
    refine wx_X_meets_38 _ _ _ _ _ ⟨fun z => absurd ((nI_leI (by omega) (by omega)).mp z) (by omega), fun _ => x_meeting h1 hr hk hk' (by omega) ⟨fun z => ?_, fun z => ?_⟩⟩
    · rw [nI_1]
      refine ih (j + 1) (by omega) (fun i hi2 => ?_)
      rcases Nat.lt_or_ge i j with q | q
      · exact hi i q
      · rw [show i = j by omega]; exact z
    · rw [mtF_some (by omega) hi z] at ok
      exact ok
/-- does anybody meet -/
def anyM (v : CV) (sd : SD) (m : Nat) : Bool := (List.range (vG v)).any (fun g => (List.range g).any (fun h => mtg v sd g h m))
theorem anyM_t {m g h : Nat} (hg : g < vG v) (hh : h < g) (hm : mtg v sd g h m = true) : anyM v sd m = true := by
  unfold anyM
  rw [List.any_eq_true]
  exact ⟨g, List.mem_range.mpr hg, List.any_eq_true.mpr ⟨h, List.mem_range.mpr hh, hm⟩⟩
theorem anyM_f {m : Nat} (hm : ∀ g h, g < vG v → h < g → mtg v sd g h m = false) : anyM v sd m = false := by
  cases e : anyM v sd m with
  | false => rfl
  | true =>
    unfold anyM at e
    rw [List.any_eq_true] at e
    obtain ⟨g, h1, h2⟩ := e
    rw [List.any_eq_true] at h2
    obtain ⟨h, h3, h4⟩ := h2
    rw [hm g h (List.mem_range.mp h1) (List.mem_range.mp h3)] at h4
    cases h4
def bowF (v : CV) (sd : SD) : Nat := fa_cnt (anyM v sd) (endM v sd)
theorem x_anyMeeting {Q : Bool → XS → Prop} (h : CS T a ca v sd) (hr : ROWX T v sd) {m : Nat} (hm : m < 2 ^ 31) (hq : Q (anyM v sd m) T) : XB c (d + 3) m_Rw_anyMeeting [.ref 129, .ref ca, .int (nI m)] T Q := by
  have hG := h.G
  refine wx_Rw_anyMeeting _ _ ?_
  suffices H : ∀ (n k : Nat), k + n = vG v → (∀ g h, g < k → h < g → mtg v sd g h m = false) → eX c (d + 3) m_Rw_anyMeeting 2 [some (.ref 129), some (.ref ca), some (.int (nI m)), some (.int (nI k)), none] T (yB c Q) from H (vG v) 0 (by omega) (fun g h hg => by omega)
  intro n
  induction n with
  | zero =>
    intro k hk hi
    refine wx_Rw_anyMeeting_2 _ _ _ ⟨fun _ => ?_, fun z => absurd ((gle hr.1.1.1 hG (by omega)).mpr (by omega)) z⟩
    rw [anyM_f (fun g h hg hh => hi g h (by omega) hh)] at hq
    exact hq
  | succ n ih =>
    intro k hk hi
    refine wx_Rw_anyMeeting_2 _ _ _ ⟨fun z => absurd ((gle hr.1.1.1 hG (by omega)).mp z) (by omega), fun _ => ?_⟩
    suffices H2 : ∀ (n2 j : Nat), j + n2 = k → (∀ i, i < j → mtg v sd k i m = false) → eX c (d + 3) m_Rw_anyMeeting 13 [some (.ref 129), some (.ref ca), some (.int (nI m)), some (.int (nI k)), some (.int (nI j))] T (yB c Q) from H2 k 0 (by omega) (fun i hi => by omega)
    intro n2
    induction n2 with
    | zero =>
      intro j hj hi2
      refine wx_Rw_anyMeeting_13 _ _ _ _ ⟨fun _ => ?_, fun z => absurd (nI_leI (by omega) (by omega) |>.mpr (by omega)) z⟩
      rw [nI_1]
      refine ih (k + 1) (by omega) (fun g h hg hh => ?_)
      rcases Nat.lt_or_ge g k with q | q
      · exact hi g h q hh
      · rw [show g = k by omega]; exact hi2 h (by omega)
    | succ n2 ih2 =>
      intro j hj hi2
      refine wx_Rw_anyMeeting_13 _ _ _ _ ⟨fun z => absurd ((nI_leI (by omega) (by omega)).mp z) (by omega), fun _ => x_meeting h hr (by omega) (by omega) hm ⟨fun z => ?_, fun z => ?_⟩⟩
      · rw [nI_1]
        refine ih2 (j + 1) (by omega) (fun i hi3 => ?_)
        rcases Nat.lt_or_ge i j with q | q
        · exact hi2 i q
        · rw [show i = j by omega]; exact z
      · rw [anyM_t (by omega) (by omega) z] at hq
        exact hq
theorem x_bows {Q : Int32 → XS → Prop} (h : CS T 93 ca v sd) (hq : ∀ T', frm scr T T' → Q (nI (bowF v sd)) T') : XI c (d + 4) m_X_bows [.ref 1] T Q := by
  have hE := endM_b h
  refine wx_X_bows ⟨ca, h.fc, x_rowNow h (fun T1 hf hr => ⟨rfl, (hf.CSr h).2.1.1, x_steps (hf.CSr h).2.1 ?_⟩)⟩
  have hq := hq T1 (rw_scr hf)
  have h1 := hf.CSr h
  rw [hr.1.1.2.2.1, nI_add, show slen v (rowL v sd) + stN v = endM v sd from rfl]
  suffices H : ∀ (m j : Nat), j + m = endM v sd → eX c (d + 4) m_X_bows 32 [some (.ref 1), some (.ref ca), some (.ref 129), some (.int (nI (endM v sd))), some (.int (nI (fa_cnt (anyM v sd) j))), some (.int (nI j))] T1 (yI c Q) from H (endM v sd) 0 (by omega)
  intro m
  induction m with
  | zero =>
    intro j hj
    refine wx_X_bows_32 _ _ _ _ ⟨fun _ => by rw [show j = endM v sd by omega]; exact hq, fun z => absurd (nI_leI (by omega) (by omega) |>.mpr (by omega)) z⟩
  | succ m ih =>
    intro j hj
    have ih := ih (j + 1) (by omega)
    refine wx_X_bows_32 _ _ _ _ ⟨fun z => absurd ((nI_leI (by omega) (by omega)).mp z) (by omega), fun _ => x_anyMeeting h1 hr (by omega) ⟨fun z => ?_, fun z => ?_⟩⟩
    · rw [nI_1]
      rw [fa_cnt_no z] at ih
      exact ih
    · rw [nI_1, nI_1]
      rw [fa_cnt_yes z] at ih
      exact ih
/-- does one melt -/
def mltC (v : CV) (sd : SD) (m n : Int32) (g : Nat) : Bool := decide (¬ nI (vF v 4 g) ≤ 0) && decide (¬ (mnI (m + n) (nI (ahd v sd g) + nI (stN v)) - mxI m (nI (ahd v sd g))) < nI (vF v 4 g))
theorem mltC_t {m n : Int32} {g : Nat} : mltC v sd m n g = true ↔ ((¬ nI (vF v 4 g) ≤ 0) ∧ ¬ (mnI (m + n) (nI (ahd v sd g) + nI (stN v)) - mxI m (nI (ahd v sd g))) < nI (vF v 4 g)) := by
  unfold mltC
  rw [Bool.and_eq_true, decide_eq_true_iff, decide_eq_true_iff]
def bits (p : Nat → Bool) (k : Nat) : Nat := fld (fun g acc => if p g = true then acc ||| 2 ^ g else acc) 0 k
theorem x_melted {Q : Int32 → XS → Prop} {E : Nat → XS → Prop} (hR : RL c) (h : CS T 93 ca v sd) {m n : Int32} (ok : (0 ≤ m.toInt ∧ m.toInt ≤ 999) → (0 ≤ n.toInt ∧ n.toInt ≤ 999) → ∀ T', frm scr T T' → Q (nI (bits (mltC v sd m n) (vG v))) T') (bad : ¬ ((0 ≤ m.toInt ∧ m.toInt ≤ 999) ∧ (0 ≤ n.toInt ∧ n.toInt ≤ 999)) → E 1 (tN T 0 0 6)) : XIt c (d + 4) m_X_melted [.ref 1, .int m, .int n] T Q E := by
  have hG := h.G
  have e0 : ((0 : Int32).toInt : Int) = 0 := rfl
  have e9 : ((999 : Int32).toInt : Int) = 999 := rfl
  refine wx_X_melted _ _ (x_needWithin hR (fun m1 m2 => x_needWithin hR (fun n1 n2 => ⟨ca, h.fc, x_rowNow h (fun T1 hf hr => ⟨rfl, ?_⟩)⟩) (fun q => bad (by omega))) (fun q => bad (by omega)))
  have ok := ok (by omega) (by omega) T1 (rw_scr hf)
  have h1 := hf.CSr h
  suffices H : ∀ (j k : Nat), k + j = vG v → eX c (d + 4) m_X_melted 39 [some (.ref 1), some (.int m), some (.int n), some (.ref ca), some (.ref 129), some (.int (nI (bits (mltC v sd m n) k))), some (.int (nI k)), none, none, none] T1 (yt c E (yI c Q)) from H (vG v) 0 (by omega)
  have hgl : ∀ k, k ≤ 10 → (xI T1 ca 1 ≤ nI k ↔ vG v ≤ k) := fun k hk => by rw [h1.gs, nI_leI (by omega) (by omega)]
  intro j
  induction j with
  | zero =>
    intro k hk
    refine wx_X_melted_39 _ _ _ _ _ ⟨h1.2.1.1, fun _ => by rw [show k = vG v by omega]; exact ok, fun z => absurd ((hgl k (by omega)).mpr (by omega)) z⟩
  | succ j ih =>
    intro k hk
    have o10 : okx (nI k) 10 := okn (by omega) (by decide)
    have e1 : xA T1 149 k = nI (ahd v sd k) := (hr.1.2.2.2 k (h.so.mem (by omega)) (by omega)).2
    have e2 : xA T1 (ca + 24) k = nI (vF v 4 k) := (h1.2.1.2.2.2.2.2.2.1 k (by omega)).2.2.2
    refine wx_X_melted_39 _ _ _ _ _ ⟨h1.2.1.1, fun z => absurd ((hgl k (by omega)).mp z) (by omega), fun _ => ⟨o10, o10, x_steps h1.2.1 ⟨h1.2.1.1, o10, ?_⟩⟩⟩
    have ih := ih (k + 1) (by omega)
    have e3 : bits (mltC v sd m n) (k + 1) = if mltC v sd m n k = true then bits (mltC v sd m n) k ||| 2 ^ k else bits (mltC v sd m n) k := rfl
    rw [e3] at ih
    rw [ix_nI (by omega), e1, e2, sh1 k (by omega), fa_or, nI_1]
    refine ⟨fun z => ?_, fun z => ⟨fun z2 => ?_, fun z2 => ?_⟩⟩
    · rw [if_neg (fun q => (mltC_t.mp q).1 z)] at ih
      exact ih
    · rw [if_neg (fun q => (mltC_t.mp q).2 z2)] at ih
      exact ih
    · rw [if_pos (mltC_t.mpr ⟨z, z2⟩)] at ih
      exact ih
theorem x_step {Q : Int32 → XS → Prop} {E : Nat → XS → Prop} (hR : RL c) (h : CS T 93 ca v sd) {k wt : Int32} (ok : ∀ j, k = nI j → j < stN v → (wt = 0 ∨ wt = 1) → Q (if wt = 0 then pX v j else pY v j) T) (bad1 : ¬ (0 ≤ k.toInt ∧ k.toInt < stN v) → E 2 (tN T 0 0 6)) (bad2 : (0 ≤ k.toInt ∧ k.toInt < stN v) → ¬ (wt = 0 ∨ wt = 1) → E 1 (tN T 0 0 6)) : XIt c (d + 4) m_X_step [.ref 1, .int k, .int wt] T Q E := by
  have e0 : ((0 : Int32).toInt : Int) = 0 := rfl
  have hst := stN_b h.2.2.1
  have en : nst T ca = stN v := h.2.1.2.2.2.2.2.2.2.1
  refine wx_X_step hR _ _ ⟨ca, h.fc, fun z => bad1 (by rw [fa_lt] at z; omega), fun z => ⟨h.2.1.1, x_steps h.2.1 ?_⟩⟩
  rw [fa_lt, e0] at z
  rw [fa_lt, nI_toInt (by omega)]
  refine ⟨fun z2 => ?_, fun z2 => bad1 (by omega)⟩
  have ek : k = nI k.toInt.toNat := nI_of_toInt (by omega)
  have hk : k.toInt.toNat < stN v := by omega
  have hkb : 0 ≤ k.toInt ∧ k.toInt < stN v := by omega
  have ok := ok _ ek hk
  obtain ⟨p1, p2⟩ := h.2.1.2.2.2.2.2.2.2.2 _ hk
  have ei : ix k = k.toInt.toNat := by
    have := ix_nI (a := k.toInt.toNat) (by have := (fb_rng k).2; omega)
    rwa [← ek] at this
  have okk : okx k (nst T ca) := by
    rw [en]
    have := okn hk (show stN v < 2 ^ 31 by omega)
    rwa [← ek] at this
  rw [ei, p1, p2]
  refine ⟨fun y => ⟨fun q => absurd y q, fun _ => ⟨h.2.1.1, okk, ?_⟩⟩, fun y => ⟨fun y2 => ⟨fun _ => ⟨h.2.1.1, okk, ?_⟩, fun q => absurd q y⟩, fun y2 => bad2 hkb (fun q => q.elim y y2)⟩⟩
  · have := ok (Or.inl y); rwa [if_pos y] at this
  · have := ok (Or.inr y2); rwa [if_neg y] at this
end WY2
section WY3
variable {c : CX} {d : Nat} {s s' : RS} {v : CV} {a : SD}
theorem SQ.same (h : SQ s s' 0) (hk : KR s v a) : KR s' v a := h.kr hk
theorem r_at {Q : Int32 → RS → Prop} (h : KR s v a) {g m : Int32} (ok : ∀ k, g = nI k → k < vG v → 0 ≤ m.toInt → ∀ s', SQ s s' 0 → Q (oI (stA v a k m.toInt.toNat)) s') (bad1 : ¬ (0 ≤ g.toInt ∧ g.toInt < vG v) → ∀ s', SQ s s' 1 → Q 0 s') (bad2 : (0 ≤ g.toInt ∧ g.toInt < vG v) → m.toInt < 0 → ∀ s', SQ s s' 2 → Q 0 s') : RI c (d + 5) m_R_at [.ref 2, .int g, .int m] s Q := by
  have hG := h.2.2.1.1
  have e0 : ((0 : Int32).toInt : Int) = 0 := rfl
  refine w_R_at _ _ (h.isg (fun k e hk => ⟨fun z => r_lays h (fun s' hs h1 hr => ?_), fun z => bad2 (by rw [e, nI_toInt (by omega)]; omega) (by rw [fa_le] at z; omega) _ (SQ.th s 2)⟩) (fun q => bad1 q _ (SQ.th s 1)))
  rw [fa_le] at z
  have ok := ok k e hk (by omega) s' hs
  have em : m = nI m.toInt.toNat := nI_of_toInt (by omega)
  have hb := (fb_rng m).2
  have hn : m.toInt.toNat < 2 ^ 31 := by omega
  generalize m.toInt.toNat = n at *
  rw [e, em]
  exact s_stepAt h1 hr hk hn ok
theorem r_arrives {Q : Int32 → RS → Prop} (h : KR s v a) {g : Int32} (ok : ∀ k, g = nI k → k < vG v → ∀ s', SQ s s' 0 → Q (nI (ahd v a k + stN v)) s') (bad : ¬ (0 ≤ g.toInt ∧ g.toInt < vG v) → ∀ s', SQ s s' 1 → Q 0 s') : RI c (d + 5) m_R_arrives [.ref 2, .int g] s Q := by
  have hG := h.2.2.1.1
  have hl := h.so.len
  refine w_R_arrives _ (h.isg (fun k e hk => r_lays h (fun s' hs h1 hr => ?_)) (fun q => bad q _ (SQ.th2 s 0 1)))
  have hi : (rowL v a).idxOf k < (rowL v a).length := List.idxOf_lt_length_of_mem (h.so.mem hk)
  have e1 : s'.2.1 10 ((rowL v a).idxOf k) = nI (ahd v a k) := hr.2.2.1 _ (by omega)
  rw [e, ix_nI (by omega), hr.2.2.2 k (h.so.mem hk) (by omega), ix_nI (by omega), e1]
  refine ⟨okn (by omega) (by decide), okn (by omega) (by decide), s_steps h1 ?_⟩
  rw [nI_add]
  exact ok k e hk s' hs
theorem KR.endb (h : KR s v a) : endM v a ≤ 421 := by
  have := slen_b2 h.2.2.1 h.so
  have := stN_b h.2.2.1
  unfold endM
  omega
theorem s_lastMinute {Q : Int32 → RS → Prop} (h : KR s v a) (hr : ROWR s v a) (hq : Q (nI (endM v a)) s) : RI c (d + 1) m_R_lastMinute [.ref 2] s Q := by
  have hl := h.so.len
  refine w_R_lastMinute ?_
  rw [hr.1.1, ix_nI (by omega), hr.2.2.1 _ (Nat.le_refl _), List.take_length]
  refine ⟨okn (by omega) (by decide), s_steps h ?_⟩
  rw [nI_add]
  exact hq
theorem r_meets {Q : Int32 → RS → Prop} (h : KR s v a) {g g' : Int32} (ok : ∀ k k', g = nI k → k < vG v → g' = nI k' → k' < vG v → k ≠ k' → ∀ s', SQ s s' 0 → Q (oI (mtF v a k k')) s') (bad1 : ¬ ((0 ≤ g.toInt ∧ g.toInt < vG v) ∧ (0 ≤ g'.toInt ∧ g'.toInt < vG v)) → ∀ s', SQ s s' 1 → Q 0 s') (bad2 : ((0 ≤ g.toInt ∧ g.toInt < vG v) ∧ (0 ≤ g'.toInt ∧ g'.toInt < vG v)) → g = g' → ∀ s', SQ s s' 2 → Q 0 s') : RI c (d + 5) m_R_meets [.ref 2, .int g, .int g'] s Q := by
  have hG := h.2.2.1.1
  have hE := h.endb
  have t1 := h.isg (g := g) (P := ((wth g'.toInt64 0 (s.2.1 1 1 - 1).toInt64) = true → ((¬ g = g' → RV c (d + 4) m_R_laysRow [.ref 2] (rF s 4 0) (fun s1 => eR c (d + 5) m_R_meets 51 [some (.ref 2), some (.int g), some (.int g'), some (.int 0)] s1 (pI c Q))) ∧ (g = g' → Q 0 (rF s 4 2)))) ∧ ((wth g'.toInt64 0 (s.2.1 1 1 - 1).toInt64) = false → Q 0 (rF s 4 1))) (Q := Q 0 (rF s 4 1)) (fun k e hk => h.isg (fun k' e' hk' => ⟨fun z => r_lays h (fun s' hs h1 hr => ?_), fun z => bad2 ⟨by rw [e, nI_toInt (by omega)]; omega, by rw [e', nI_toInt (by omega)]; omega⟩ z _ (SQ.th s 2)⟩) (fun q => bad1 (fun y => q y.2) _ (SQ.th s 1))) (fun q => bad1 (fun y => q y.1) _ (SQ.th s 1))
  · exact w_R_meets _ _ ⟨t1.2, t1.1⟩
  · have ok := ok k k' e hk e' hk' (fun q => z (by rw [e, e', q])) s' hs
    rw [e, e']
    suffices H : ∀ (m j : Nat), j + m = endM v a + 1 → (∀ i, i < j → mtg v a k k' i = false) → eR c (d + 5) m_R_meets 51 [some (.ref 2), some (.int (nI k)), some (.int (nI k')), some (.int (nI j))] s' (pI c Q) from H (endM v a + 1) 0 (by omega) (fun i hi => by omega)
    intro m
    induction m with
    | zero =>
      intro j hj hi
      refine w_R_meets_51 _ _ _ (s_lastMinute h1 hr ?_)
      rw [nI_ltI (by omega) (by omega)]
      refine ⟨fun _ => ?_, fun z => absurd (by omega) z⟩
      rw [mtF_none (fun m hm => hi m (by omega))] at ok
      exact ok
    | succ m ih =>
      intro j hj hi
      refine w_R_meets_51 _ _ _ (s_lastMinute h1 hr ?_)
      rw [nI_ltI (by omega) (by omega)]
      refine ⟨fun z => absurd z (by omega), fun _ => s_areMeeting h1 hr hk hk' (by omega) ⟨fun z => ?_, fun z => ?_⟩⟩
      · rw [nI_1]
        refine ih (j + 1) (by omega) (fun i hi2 => ?_)
        rcases Nat.lt_or_ge i j with q | q
        · exact hi i q
        · rw [show i = j by omega]; exact z
      · have hj2 : j < endM v a := by
          refine Classical.byContradiction (fun q => ?_)
          rw [mtg_end h.2.2.1 h.so k k' (by omega)] at z
          cases z
        rw [mtF_some hj2 hi z] at ok
        exact ok
theorem s_anyMeet {Q : Bool → RS → Prop} (h : KR s v a) (hr : ROWR s v a) {m : Nat} (hm : m < 2 ^ 31) (hq : Q (anyM v a m) s) : RB c (d + 3) m_R_anyMeet [.ref 2, .int (nI m)] s Q := by
  have hG := h.2.2.1.1
  refine w_R_anyMeet _ ?_
  suffices H : ∀ (n k : Nat), k + n = vG v → (∀ g h, g < k → h < g → mtg v a g h m = false) → eR c (d + 3) m_R_anyMeet 2 [some (.ref 2), some (.int (nI m)), some (.int (nI k)), none] s (pB c Q) from H (vG v) 0 (by omega) (fun g h hg => by omega)
  intro n
  induction n with
  | zero =>
    intro k hk hi
    refine w_R_anyMeet_2 _ _ ⟨fun _ => ?_, fun z => absurd ((h.gle (by omega)).mpr (by omega)) z⟩
    rw [anyM_f (fun g h hg hh => hi g h (by omega) hh)] at hq
    exact hq
  | succ n ih =>
    intro k hk hi
    refine w_R_anyMeet_2 _ _ ⟨fun z => absurd ((h.gle (by omega)).mp z) (by omega), fun _ => ?_⟩
    suffices H2 : ∀ (n2 j : Nat), j + n2 = k → (∀ i, i < j → mtg v a k i m = false) → eR c (d + 3) m_R_anyMeet 12 [some (.ref 2), some (.int (nI m)), some (.int (nI k)), some (.int (nI j))] s (pB c Q) from H2 k 0 (by omega) (fun i hi => by omega)
    intro n2
    induction n2 with
    | zero =>
      intro j hj hi2
      refine w_R_anyMeet_12 _ _ _ ⟨fun _ => ?_, fun z => absurd (nI_leI (by omega) (by omega) |>.mpr (by omega)) z⟩
      rw [nI_1]
      refine ih (k + 1) (by omega) (fun g h hg hh => ?_)
      rcases Nat.lt_or_ge g k with q | q
      · exact hi g h q hh
      · rw [show g = k by omega]; exact hi2 h (by omega)
    | succ n2 ih2 =>
      intro j hj hi2
      refine w_R_anyMeet_12 _ _ _ ⟨fun z => absurd ((nI_leI (by omega) (by omega)).mp z) (by omega), fun _ => s_areMeeting h hr (by omega) (by omega) hm ⟨fun z => ?_, fun z => ?_⟩⟩
      · rw [nI_1]
        refine ih2 (j + 1) (by omega) (fun i hi3 => ?_)
        rcases Nat.lt_or_ge i j with q | q
        · exact hi2 i q
        · rw [show i = j by omega]; exact z
      · rw [anyM_t (by omega) (by omega) z] at hq
        exact hq
theorem r_bows {Q : Int32 → RS → Prop} (h : KR s v a) (hq : ∀ s', SQ s s' 0 → Q (nI (bowF v a)) s') : RI c (d + 5) m_R_bows [.ref 2] s Q := by
  have hE := h.endb
  refine w_R_bows (r_lays h (fun s' hs h1 hr => ?_))
  have hq := hq s' hs
  have hend : anyM v a (endM v a) = false := anyM_f (fun g h' _ _ => mtg_end h.2.2.1 h.so g h' (Nat.le_refl _))
  rw [show bowF v a = fa_cnt (anyM v a) (endM v a + 1) from (fa_cnt_no hend).symm] at hq
  suffices H : ∀ (m j : Nat), j + m = endM v a + 1 → eR c (d + 5) m_R_bows 13 [some (.ref 2), some (.int (nI (fa_cnt (anyM v a) j))), some (.int (nI j))] s' (pI c Q) from H (endM v a + 1) 0 (by omega)
  intro m
  induction m with
  | zero =>
    intro j hj
    refine w_R_bows_13 _ _ (s_lastMinute h1 hr ?_)
    rw [nI_ltI (by omega) (by omega)]
    exact ⟨fun _ => by rw [show j = endM v a + 1 by omega]; exact hq, fun z => absurd (by omega) z⟩
  | succ m ih =>
    intro j hj
    have ih := ih (j + 1) (by omega)
    refine w_R_bows_13 _ _ (s_lastMinute h1 hr ?_)
    rw [nI_ltI (by omega) (by omega)]
    refine ⟨fun z => absurd z (by omega), fun _ => s_anyMeet h1 hr (by omega) ⟨fun z => ?_, fun z => ?_⟩⟩
    · rw [nI_1, show ∀ y : Int32, y + 0 = y from fun y => Int32.add_zero y]
      rw [fa_cnt_no z] at ih
      exact ih
    · rw [nI_1, nI_1]
      rw [fa_cnt_yes z] at ih
      exact ih
theorem wth_c {x : Int32} {lo hi : Int64} : (wth x.toInt64 lo hi = true ↔ (lo.toInt ≤ x.toInt ∧ x.toInt ≤ hi.toInt)) ∧ (wth x.toInt64 lo hi = false ↔ ¬ (lo.toInt ≤ x.toInt ∧ x.toInt ≤ hi.toInt)) := by
  rw [wth_t, wth_f, i64_toInt]
  exact ⟨Iff.rfl, Iff.rfl⟩
theorem r_melted {Q : Int32 → RS → Prop} (h : KR s v a) {m n : Int32} (ok : (0 ≤ m.toInt ∧ m.toInt ≤ 999) → (0 ≤ n.toInt ∧ n.toInt ≤ 999) → ∀ s', SQ s s' 0 → Q (nI (bits (mltC v a m n) (vG v))) s') (bad : ¬ ((0 ≤ m.toInt ∧ m.toInt ≤ 999) ∧ (0 ≤ n.toInt ∧ n.toInt ≤ 999)) → ∀ s', SQ s s' 1 → Q 0 s') : RI c (d + 5) m_R_melted [.ref 2, .int m, .int n] s Q := by
  have hG := h.2.2.1.1
  have hl := h.so.len
  have e0 : ((0 : Int64).toInt : Int) = 0 := rfl
  have e9 : ((999 : Int64).toInt : Int) = 999 := rfl
  have bad := fun q => bad q _ (SQ.th2 s 0 1)
  refine w_R_melted _ _ ?_
  rw [wth_c.1, wth_c.2, wth_c.1, wth_c.2]
  refine ⟨fun q => bad (by omega), fun q => ⟨fun q2 => r_lays h (fun s' hs h1 hr => ?_), fun q2 => bad (by omega)⟩⟩
  have ok := ok (by omega) (by omega) s' hs
  suffices H : ∀ (j k : Nat), k + j = vG v → eR c (d + 5) m_R_melted 44 [some (.ref 2), some (.int m), some (.int n), some (.int (nI (bits (mltC v a m n) k))), some (.int (nI k)), none, none] s' (pI c Q) from H (vG v) 0 (by omega)
  intro j
  induction j with
  | zero =>
    intro k hk
    refine w_R_melted_44 _ _ _ _ ⟨fun _ => by rw [show k = vG v by omega]; exact ok, fun z => absurd ((h1.gle (by omega)).mpr (by omega)) z⟩
  | succ j ih =>
    intro k hk
    have hkm := h.so.mem (show k < vG v by omega)
    have hi : (rowL v a).idxOf k < (rowL v a).length := List.idxOf_lt_length_of_mem hkm
    have e1 : s'.2.1 10 ((rowL v a).idxOf k) = nI (ahd v a k) := hr.2.2.1 _ (by omega)
    have e2 : s'.2.1 1 (ix (57 + nI k)) = nI (vF v 4 k) := by rw [show ix (57 + nI k) = 57 + k from ixA 57 (by omega)]; exact (h1.1.2.2.2.2.2.1 k (by omega)).2.2.2
    have o10 : okx (nI k) 10 := okn (by omega) (by decide)
    have o21 : okx (nI ((rowL v a).idxOf k)) 21 := okn (by omega) (by decide)
    have o57 : okx (57 + nI k) 2101 := okA 57 (by omega) (by decide)
    refine w_R_melted_44 _ _ _ _ ⟨fun z => absurd ((h1.gle (by omega)).mp z) (by omega), fun _ => ?_⟩
    have ih := ih (k + 1) (by omega)
    have e3 : bits (mltC v a m n) (k + 1) = if mltC v a m n k = true then bits (mltC v a m n) k ||| 2 ^ k else bits (mltC v a m n) k := rfl
    rw [e3] at ih
    rw [show ix (nI k) = k from ix_nI (by omega), hr.2.2.2 k hkm (by omega), show ix (nI ((rowL v a).idxOf k)) = (rowL v a).idxOf k from ix_nI (by omega), e1]
    refine ⟨o10, o21, o10, o21, s_steps h1 ⟨o57, ?_⟩⟩
    rw [e2, sh1 k (by omega), fa_or, nI_1, show ∀ y : Int32, y ||| 0 = y from fun y => Int32.or_zero]
    refine ⟨fun z => ?_, fun z => ⟨o57, fun z2 => ?_, fun z2 => ?_⟩⟩
    · rw [if_neg (fun q => (mltC_t.mp q).1 z)] at ih
      exact ih
    · rw [if_neg (fun q => (mltC_t.mp q).2 z2)] at ih
      exact ih
    · rw [if_pos (mltC_t.mpr ⟨z, z2⟩)] at ih
      exact ih
theorem r_step {Q : Int32 → RS → Prop} (h : KR s v a) {k wt : Int32} (ok : ∀ j, k = nI j → j < stN v → (wt = 0 ∨ wt = 1) → ∀ s', SQ s s' 0 → Q (if wt = 0 then pX v j else pY v j) s') (bad1 : ¬ (0 ≤ k.toInt ∧ k.toInt < stN v) → ∀ s', SQ s s' 1 → Q 0 s') (bad2 : (0 ≤ k.toInt ∧ k.toInt < stN v) → ¬ (wt = 0 ∨ wt = 1) → ∀ s', SQ s s' 2 → Q 0 s') : RI c (d + 5) m_R_step [.ref 2, .int k, .int wt] s Q := by
  have hst := stN_b h.2.2.1
  have e0 : ((0 : Int64).toInt : Int) = 0 := rfl
  have e1 : ((1 : Int64).toInt : Int) = 1 := rfl
  refine w_R_step _ _ (s_steps h ?_)
  have es : (nI (stN v) - 1).toInt64.toInt = (stN v : Int) - 1 := by
    rw [i64_toInt, show nI (stN v) - 1 = nI (stN v) - nI 1 from rfl, sub_toInt (by omega) (by decide)]; rfl
  rw [wth_c.1, wth_c.2, wth_c.1, wth_c.2, es, e0, e1]
  have w01 : (0 ≤ wt.toInt ∧ wt.toInt ≤ 1) ↔ (wt = 0 ∨ wt = 1) := by
    rw [fa_eq, fa_eq, show ((0 : Int32).toInt : Int) = 0 from rfl, show ((1 : Int32).toInt : Int) = 1 from rfl]
    omega
  rw [w01]
  refine ⟨fun q => ⟨fun q2 => bad2 (by omega) q2 _ (SQ.th s 2), fun q2 => ?_⟩, fun q => bad1 (by omega) _ (SQ.th s 1)⟩
  have ek : k = nI k.toInt.toNat := nI_of_toInt (by omega)
  have hk : k.toInt.toNat < stN v := by omega
  have ok := ok _ ek hk q2 _ (SQ.th s 0)
  generalize k.toInt.toNat = j at *
  rw [ek]
  by_cases y : wt = 0
  · rw [if_pos y] at ok
    exact s_whereOf ((SQ.th s 0).kr h) (by omega) (Or.inl ⟨y, rfl⟩) ok
  · rw [if_neg y] at ok
    exact s_whereOf ((SQ.th s 0).kr h) (by omega) (Or.inr ⟨y, rfl⟩) ok
end WY3
