/-! the reference: rings, who walks behind whom -/
theorem cyc_lt {f : Nat → Nat} {x : Nat} (h10 : f 10 = 10) (hb : ∀ y, f y ≤ 10) (hx : x < 10) (h : cyc f x) (i : Nat) : fi f i x < 10 := by
  obtain ⟨m, hm⟩ := cyc_back h i
  refine Classical.byContradiction (fun q => ?_)
  have hle : fi f i x ≤ 10 := by
    cases i with
    | zero => show x ≤ 10; omega
    | succ i => rw [fi_1]; exact hb _
  have e : fi f i x = 10 := by omega
  have st : ∀ m, fi f m 10 = 10 := fun m => by
    induction m with
    | zero => rfl
    | succ m ih => show fi f m (f 10) = 10; rw [h10]; exact ih
  rw [e, st] at hm
  omega
section RB1
variable {c : CX} {d : Nat} {s : RS} {v : CV} {a : SD}
theorem KR.W (h : KR s v a) : W10 a.1 := fun x k hk => by
  have := h.2.2.2.1 x k hk
  have := h.2.2.1.1
  omega
theorem KR.mkG (h : KR s v a) (g : Nat) : mkb a.1 g (vG v) = mkb a.1 g 10 := (mkb_ext (fun x k q => (h.2.2.2.1 x k q).1) h.2.2.1.1).symm
theorem s_mk {Q : Int32 → RS → Prop} (h : KR s v a) {g : Nat} (hg : g < 10) (hq : Q (nI (mkb a.1 g 10)) s) : RI c (d + 1) m_R_mockers [.ref 2, .int (nI g)] s Q := s_mockers h hg (by rw [h.mkG]; exact hq)
theorem s_ringOf {Q : Int32 → RS → Prop} (h : KR s v a) {g : Nat} (hg : g < 10) (hq : Q (nI (ring a.1 g)) s) : RI c (d + 1) m_R_ringOf [.ref 2, .int (nI g)] s Q := by
  have hW := h.W
  have f10 := fo_10 hW
  have fle := fo_le hW
  refine w_R_ringOf _ ?_
  suffices H : ∀ (m k : Nat), k + m = 10 → (∀ i, i < k → fi (fo a.1) i g < 10) → (∀ i j, i < j → j < k → fi (fo a.1) i g ≠ fi (fo a.1) j g) → eR c (d + 1) m_R_ringOf 4 [some (.ref 2), some (.int (nI g)), some (.int (nI (vis (fo a.1) g k))), some (.int (if fi (fo a.1) k g < 10 then nI (fi (fo a.1) k g) else -1))] s (pI c Q) by
    have := H 10 0 (by omega) (fun i hi => by omega) (fun i j _ hj => by omega)
    rw [show fi (fo a.1) 0 g = g from rfl, if_pos hg] at this
    exact this
  have hle : ∀ k, fi (fo a.1) k g ≤ 10 := fun k => by
    cases k with
    | zero => show g ≤ 10; omega
    | succ k => rw [fi_1]; exact fle _
  intro m
  induction m with
  | zero =>
    intro k hk h1 h2
    -- all ten are seen: the next is one of them, or none
    by_cases h10 : fi (fo a.1) k g < 10
    · have hb : (vis (fo a.1) g k).testBit (fi (fo a.1) k g) = true := by
        refine Classical.byContradiction (fun q => ?_)
        have q : ∀ i, i < k → fi (fo a.1) i g ≠ fi (fo a.1) k g := fun i hi e => q ((vis_bit _ _ _ k).mpr ⟨i, hi, e⟩)
        have := vis_10 (f := fo a.1) (x := g) (n := k + 1) (fun i hi => by
          rcases Nat.lt_or_ge i k with z | z
          · exact h1 i z
          · rw [show i = k by omega]; exact h10) (fun i j hij hj => by
          rcases Nat.lt_or_ge j k with z | z
          · exact h2 i j hij z
          · rw [show j = k by omega]; exact q i (by omega))
        omega
      have hv := vis_lt k h1
      rw [if_pos h10]
      refine w_R_ringOf_4 _ _ _ ⟨fun z => absurd z (by intro z; have := (oI_none (o := some (fi (fo a.1) k g)) (fun j hj => by have := Option.some.inj hj; omega)).mp z; cases this), fun _ => ⟨fun _ => ⟨fun z => ?_, fun z => ?_⟩, fun z => absurd z (by rw [hs_nI _ hv _ h10, hb]; decide)⟩⟩
      · have z : fi (fo a.1) k g ≠ g := fun q => z (by rw [q])
        obtain ⟨i, hi, he⟩ := (vis_bit _ _ _ k).mp hb
        have : ring a.1 g = 0 := rgX_no (fun hc => by
          have e := cyc_rep hc (by omega) he
          rcases Nat.eq_zero_or_pos i with q | q
          · subst q; exact z he.symm
          · exact h2 0 (k - i) (by omega) (by omega) e.symm) 10 0
        rw [this] at hq
        exact hq
      · have z : fi (fo a.1) k g = g := (nI_inj (by omega) (by omega)).mp z
        have : ring a.1 g = vis (fo a.1) g k := by
          have := rgX_yes (f := fo a.1) (x := g) (n := k - 1) (by rw [show k - 1 + 1 = k by omega]; exact z) (fun i hi => h1 i (by omega)) (fun i hi hi2 e => h2 0 i hi (by omega) e.symm) (k - 1) 0 (by omega) 10 (by omega)
          rw [show k - 1 + 1 = k by omega] at this
          exact this
        rw [this] at hq
        exact hq
    · rw [if_neg h10]
      have : ring a.1 g = 0 := rgX_no (fun hc => h10 (cyc_lt f10 fle hg hc k)) 10 0
      rw [this] at hq
      refine w_R_ringOf_4 _ _ _ ⟨fun _ => ⟨fun _ => hq, fun z => ?_⟩, fun z => absurd rfl z⟩
      have := (oI_none (o := some g) (fun j hj => by have := Option.some.inj hj; omega)).mp z.symm
      cases this
  | succ m ih =>
    intro k hk h1 h2
    by_cases h10 : fi (fo a.1) k g < 10
    · have hv := vis_lt k h1
      rw [if_pos h10]
      refine w_R_ringOf_4 _ _ _ ⟨fun z => absurd z (by intro z; have := (oI_none (o := some (fi (fo a.1) k g)) (fun j hj => by have := Option.some.inj hj; omega)).mp z; cases this), fun _ => ?_⟩
      rw [hs_nI _ hv _ h10]
      refine ⟨fun hb => ⟨fun z => ?_, fun z => ?_⟩, fun hb => ⟨okm h10, ?_⟩⟩
      · have z : fi (fo a.1) k g ≠ g := fun q => z (by rw [q])
        obtain ⟨i, hi, he⟩ := (vis_bit _ _ _ k).mp hb
        have : ring a.1 g = 0 := rgX_no (fun hc => by
          have e := cyc_rep hc (by omega) he
          rcases Nat.eq_zero_or_pos i with q | q
          · subst q; exact z he.symm
          · exact h2 0 (k - i) (by omega) (by omega) e.symm) 10 0
        rw [this] at hq
        exact hq
      · have z : fi (fo a.1) k g = g := (nI_inj (by omega) (by omega)).mp z
        have k1 : 1 ≤ k := by
          refine Classical.byContradiction (fun q => ?_)
          rw [show k = 0 by omega, show vis (fo a.1) g 0 = 0 from rfl, Nat.zero_testBit] at hb
          cases hb
        have : ring a.1 g = vis (fo a.1) g k := by
          have := rgX_yes (f := fo a.1) (x := g) (n := k - 1) (by rw [show k - 1 + 1 = k by omega]; exact z) (fun i hi => h1 i (by omega)) (fun i hi hi2 e => h2 0 i hi (by omega) e.symm) (k - 1) 0 (by omega) 10 (by omega)
          rw [show k - 1 + 1 = k by omega] at this
          exact this
        rw [this] at hq
        exact hq
      · have := ih (k + 1) (by omega) (fun i hi => by
          rcases Nat.lt_or_ge i k with z | z
          · exact h1 i z
          · rw [show i = k by omega]; exact h10) (fun i j hij hj => by
          rcases Nat.lt_or_ge j k with z | z
          · exact h2 i j hij z
          · rw [show j = k by omega]
            intro e
            have := (vis_bit (fo a.1) g _ k).mpr ⟨i, by omega, e⟩
            rw [hb] at this
            cases this)
        rw [sh1 _ h10, fa_or, h.wh h10]
        have e : (if fi (fo a.1) (k + 1) g < 10 then nI (fi (fo a.1) (k + 1) g) else -1) = oI (a.1 (fi (fo a.1) k g)) := by
          rw [fi_1]
          generalize fi (fo a.1) k g = y
          unfold fo
          cases e : a.1 y with
          | none => rfl
          | some j => have := (hW y j e).2; simp only; rw [if_pos this]; rfl
        rw [e] at this
        exact this
    · rw [if_neg h10]
      have : ring a.1 g = 0 := rgX_no (fun hc => h10 (cyc_lt f10 fle hg hc k)) 10 0
      rw [this] at hq
      refine w_R_ringOf_4 _ _ _ ⟨fun _ => ⟨fun _ => hq, fun z => ?_⟩, fun z => absurd rfl z⟩
      have := (oI_none (o := some g) (fun j hj => by have := Option.some.inj hj; omega)).mp z.symm
      cases this
theorem s_isShut {Q : Bool → RS → Prop} (h : KR s v a) {x : Nat} (hx : x < 10) (hq : Q (decide (opn a.1 (ring a.1 x) (vG v) = none)) s) : RB c (d + 2) m_R_isShut [.ref 2, .int (nI (ring a.1 x))] s Q := by
  have hW := h.W
  have h10 := h.2.2.1.1
  have rl := ring_lt hW hx
  refine w_R_isShut _ ?_
  suffices H : ∀ (m k : Nat), k + m = vG v → (∀ j, j < k → opp a.1 (ring a.1 x) j = false) → eR c (d + 2) m_R_isShut 2 [some (.ref 2), some (.int (nI (ring a.1 x))), some (.int (nI k))] s (pB c Q) from H (vG v) 0 (by omega) (fun j hj => by omega)
  intro m
  induction m with
  | zero =>
    intro k hk hj
    refine w_R_isShut_2 _ _ ⟨fun _ => ?_, fun z => absurd ((h.gle (by omega)).mpr (by omega)) z⟩
    rw [decide_eq_true (opn_none (fun j hj' => hj j (by omega)))] at hq
    exact hq
  | succ m ih =>
    intro k hk hj
    refine w_R_isShut_2 _ _ ⟨fun z => absurd ((h.gle (by omega)).mp z) (by omega), fun _ => ?_⟩
    rw [hs_nI _ rl _ (by omega), nI_1]
    have go : opp a.1 (ring a.1 x) k = false → eR c (d + 2) m_R_isShut 2 [some (.ref 2), some (.int (nI (ring a.1 x))), some (.int (nI (k + 1)))] s (pB c Q) := fun q => ih (k + 1) (by omega) (fun j hj' => by
      rcases Nat.lt_or_ge j k with z | z
      · exact hj j z
      · rw [show j = k by omega]; exact q)
    refine ⟨fun z => go (by unfold opp; rw [z]; rfl), fun z => s_mk h (by omega) (s_size (mkb_t _ _) ?_)⟩
    have e := shut_eq hW hx z
    have hp := pop_le _ (mkb_t a.1 k)
    refine ⟨fun q => go ?_, fun q => ?_⟩
    · have q := e.mp ((nI_inj (b := 1) (by omega) (by decide)).mp q)
      unfold opp
      rw [decide_eq_false (fun y => y q), Bool.and_false]
    · have q : ¬ pop (mkb a.1 k 10) = 1 := fun y => q (by rw [y]; rfl)
      rw [e] at q
      rw [opn_some (by omega) (by unfold opp; rw [z, decide_eq_true q]; rfl) hj] at hq
      exact hq
theorem s_first {Q : Int32 → RS → Prop} {n : Nat} (hn : n < 1024) (h0 : n ≠ 0) (hq : Q (oI (lbo n)) s) : RI c (d + 1) m_R_firstOf [.int (nI n)] s Q := s_firstOf hn h0 (by rw [oI_lbo h0] at hq; exact hq)
theorem s_behind {Q : Int32 → RS → Prop} (h : KR s v a) {g : Nat} (hg : g < 10) (hq : Q (oI (bhd a.1 (vG v) g)) s) : RI c (d + 3) m_R_behind [.ref 2, .int (nI g)] s Q := by
  have hW := h.W
  have h10 := h.2.2.1.1
  have rl := ring_lt hW hg
  refine w_R_behind _ (s_mk h hg ?_)
  unfold bhd at hq
  refine ⟨fun z => s_ringOf h hg ⟨fun z2 => s_isShut h hg ⟨fun z3 => ?_, fun z3 => ?_⟩, fun z2 => ?_⟩, fun z => ?_⟩
  · have z2 : ring a.1 g ≠ 0 := fun q => z2 (by rw [q]; rfl)
    rw [if_neg z2] at hq
    obtain ⟨o, ho⟩ : ∃ o, opn a.1 (ring a.1 g) (vG v) = some o := by
      cases e : opn a.1 (ring a.1 g) (vG v) with
      | none => rw [e] at z3; cases z3
      | some o => exact ⟨o, rfl⟩
    rw [ho] at hq
    simp only at hq
    obtain ⟨o1, o2, o3⟩ := opn_is ho
    have o2' := o2
    unfold opp at o2'
    rw [Bool.and_eq_true, decide_eq_true_iff] at o2'
    refine s_firstOf rl z2 ?_
    have hlo : lob (ring a.1 g) ≤ o := by
      refine Classical.byContradiction (fun q => ?_)
      have := lob_no (n := ring a.1 g) (k := o) (by omega)
      rw [this] at o2'
      cases o2'.1
    suffices H : ∀ (m k : Nat), k + m = o → eR c (d + 3) m_R_behind 58 [some (.ref 2), some (.int (nI g)), some (.int (nI (mkb a.1 g 10))), some (.int (nI (ring a.1 g))), some (.int (nI k))] s (pI c Q) from H (o - lob (ring a.1 g)) _ (by omega)
    intro m
    induction m with
    | zero =>
      intro k hk
      have hk : k = o := by omega
      subst hk
      refine w_R_behind_58 _ _ _ _ ?_
      rw [hs_nI _ rl _ (by omega)]
      refine ⟨fun q => absurd (o2'.1.symm.trans q) (by decide), fun _ => s_mk h (by omega) ?_⟩
      rw [cpl (mkb_t _ _), nI_z (by have := and_lt (1023 ^^^ ring a.1 g) (mkb_t a.1 k); omega), cpl (mkb_t _ _), fa_and]
      refine ⟨fun _ => ⟨fun q => ?_, fun q => ?_⟩, fun q => absurd q o2'.2⟩
      · have q : g ≠ k := fun e => q (by rw [e])
        rw [if_neg q] at hq
        refine s_first (and_lt _ (mkb_t _ _)) ?_ hq
        -- one in the ring mocks it
        obtain ⟨p, p1, p2, -⟩ := ring_prev hW hg (ring_self hW hg z2)
        intro e
        have : (mkb a.1 g 10 &&& ring a.1 g).testBit p = true := by rw [Nat.testBit_and, mkb_b (hW p g p1).1, decide_eq_true p1, p2]; rfl
        rw [e, Nat.zero_testBit] at this
        cases this
      · have q : g = k := ((nI_inj (by omega) (by omega)).mp q).symm
        rw [if_pos q] at hq
        refine s_first (and_lt _ (mkb_t _ _)) ?_ hq
        have := o2'.2
        rw [← q] at this
        exact this
    | succ m ih =>
      intro k hk
      refine w_R_behind_58 _ _ _ _ ?_
      rw [hs_nI _ rl _ (by omega), nI_1]
      refine ⟨fun _ => ih (k + 1) (by omega), fun q => s_mk h (by omega) ?_⟩
      rw [cpl (mkb_t _ _), nI_z (by have := and_lt (1023 ^^^ ring a.1 g) (mkb_t a.1 k); omega)]
      refine ⟨fun q2 => ?_, fun _ => ih (k + 1) (by omega)⟩
      have := o3 k (by omega)
      unfold opp at this
      rw [q, decide_eq_true q2] at this
      cases this
  · have z2 : ring a.1 g ≠ 0 := fun q => z2 (by rw [q]; rfl)
    rw [if_neg z2, of_decide_eq_true z3] at hq
    simp only at hq
    have z : mkb a.1 g 10 ≠ 0 := fun q => z (by rw [q]; rfl)
    refine s_firstOf rl z2 ⟨fun q => ?_, fun q => ?_⟩
    · rw [if_neg (fun e => q (by rw [← e]))] at hq
      exact s_first (mkb_t _ _) z hq
    · rw [if_pos ((nI_inj lob_10 (by omega)).mp q).symm] at hq
      exact hq
  · have z : mkb a.1 g 10 ≠ 0 := fun q => z (by rw [q]; rfl)
    rw [if_pos ((nI_z (by omega)).mp z2)] at hq
    exact s_first (mkb_t _ _) z hq
  · have z := (nI_z (by have := mkb_t a.1 g; omega)).mp z
    have hr : ring a.1 g = 0 := by
      refine Classical.byContradiction (fun q => ?_)
      obtain ⟨p, p1, p2, -⟩ := ring_prev hW hg (ring_self hW hg q)
      have : (mkb a.1 g 10).testBit p = true := by rw [mkb_b (hW p g p1).1]; exact decide_eq_true p1
      rw [z, Nat.zero_testBit] at this
      cases this
    rw [if_pos hr, z] at hq
    exact hq
end RB1
