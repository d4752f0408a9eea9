/-! rows of class and reference -/
def bh (v : CV) (sd : SD) : Nat → Option Nat := bhd sd.1 (vG v)
/-- the row, its chains, its cakes -/
def rowL (v : CV) (sd : SD) : List Nat := rowK sd.1 (bhd sd.1 (vG v)) (vG v)
def chnS (v : CV) (sd : SD) : Nat := chnN sd.1 (bhd sd.1 (vG v)) (vG v)
def cakS (v : CV) (sd : SD) : Nat := cakN sd.1 (bhd sd.1 (vG v)) (vG v)
def ROWX (T : XS) (v : CV) (sd : SD) : Prop := RW0 T v sd.1 (bhd sd.1 (vG v)) (rowL v sd) (chnS v sd) (cakS v sd) ∧ CHL T v sd.1 (bhd sd.1 (vG v)) (rowL v sd)
section BD1
variable {c : CX} {d : Nat} {T T' : XS} {a ca : Nat} {v : CV} {sd : SD}
theorem build_3 {Q : Option Nat → XS → Prop} (h : CS T a ca v sd) (hq : ∀ T', frm rwS T T' → ROWX T' v sd → Q (some 129) T') : ∀ (m k : Nat) (T1 : XS), k + m = vG v → frm rwS T T1 → RW0 T1 v sd.1 (bhd sd.1 (vG v)) (rowK sd.1 (bhd sd.1 (vG v)) k) (chnN sd.1 (bhd sd.1 (vG v)) k) (cakN sd.1 (bhd sd.1 (vG v)) k) → CHL T1 v sd.1 (bhd sd.1 (vG v)) (rowK sd.1 (bhd sd.1 (vG v)) k) → eX c (d + 2) m_Rw_build 88 [some (.ref 129), some (.ref a), some (.int (nI k)), none] T1 (yO c Q) := by
  have hG := h.G
  intro m
  induction m with
  | zero =>
    intro k T1 hk hf hr hc
    have e : k = vG v := by omega
    subst e
    exact wx_Rw_build_88 _ _ ⟨fun _ => hq T1 hf ⟨hr, hc⟩, fun z => absurd (by rw [hr.1.1, nI_leI (by omega) (by omega)]; omega) z⟩
  | succ m ih =>
    intro k T1 hk hf hr hc
    have h1 := hf.CSr h
    have ok : okx (nI k) 10 := okn (by omega) (by decide)
    refine wx_Rw_build_88 _ _ ⟨fun z => absurd z (by rw [hr.1.1, nI_leI (by omega) (by omega)]; omega), fun _ => ⟨h1.1.1, ok, ?_⟩⟩
    rw [ix_nI (by omega), h1.wh (by omega), one_oI (fun j hj => h1.w10 hj)]
    have line : ldB sd.1 (bhd sd.1 (vG v)) k = true → XV c (d + 1) m_Rw_lineUp [.ref 129, .ref a, .int (nI k)] T1 (fun T52 => eX c (d + 2) m_Rw_build 88 [some (.ref 129), some (.ref a), some (.int (nI k + 1)), none] T52 (yO c Q)) := fun hl =>
      x_lineUp h1 (by omega) hl hr hc (fun T2 hf2 hr2 hc2 => by
        rw [nI_1]
        exact ih (k + 1) T2 (by omega) (hf.tr hf2) hr2 hc2)
    refine ⟨fun z => line ?_, fun z => ?_⟩
    · unfold ldB
      cases e : sd.1 k with
      | none => rfl
      | some j => rw [e] at z; cases z
    · obtain ⟨m', hm'⟩ : ∃ j, sd.1 k = some j := by
        cases e : sd.1 k with
        | none => rw [e] at z; cases z
        | some j => exact ⟨j, rfl⟩
      have hmb := h.wb hm'
      have hB := bhd_BH hG (w := sd.1) (fun x k q => ⟨(h.wb q).1, (h.wb q).2.1⟩)
      have e1 : ix (oI (some m')) = m' := ix_nI (by omega)
      rw [hm', e1, (hr.2.2.1 m' (by omega)).2]
      refine ⟨okn (by omega) (by decide), fun q => ?_, fun q => line ?_⟩
      · have q := (oI_some (fun j hj => by have := (hB.B m' j hj).2; omega) (by omega)).mp q
        have hl : ldB sd.1 (bhd sd.1 (vG v)) k = false := by
          unfold ldB
          rw [hm']
          exact decide_eq_false (fun y => y q)
        rw [nI_1]
        have := ih (k + 1) T1 (by omega) hf
        rw [rowK, chnN, cakN, hl] at this
        simp only [Bool.false_eq_true, if_false, List.append_nil, Nat.add_zero] at this
        exact this hr hc
      · unfold ldB
        rw [hm']
        exact decide_eq_true (fun y => q (by rw [y]; rfl))
/-- ints of the row as it begins -/
def RB0 (T : XS) (v : CV) : Prop := xI T 129 0 = nI (vG v) ∧ xI T 129 1 = 0 ∧ xI T 129 2 = 0 ∧ xI T 129 3 = 0 ∧ xI T 129 4 = 0
theorem build_2 {Q : Option Nat → XS → Prop} (h : CS T a ca v sd) (hq : ∀ T', frm rwS T T' → ROWX T' v sd → Q (some 129) T') : ∀ (m k : Nat) (T1 : XS), k + m = vG v → frm rwS T T1 → RB0 T1 v → (∀ j, j < vG v → xA T1 137 j = nI (ring sd.1 j)) → (∀ j, j < k → xA T1 141 j = oI (bhd sd.1 (vG v) j)) → eX c (d + 2) m_Rw_build 60 [some (.ref 129), some (.ref a), some (.int (nI k)), none] T1 (yO c Q) := by
  have hG := h.G
  intro m
  induction m with
  | zero =>
    intro k T1 hk hf hb h1 h2
    refine wx_Rw_build_60 _ _ ⟨fun _ => build_3 h hq (vG v) 0 T1 (by omega) hf ⟨hb, fun i x q => (by cases q), fun g hg => ⟨h1 g hg, h2 g (by omega)⟩, fun x q => (by cases q)⟩ (fun x q => (by cases q)), fun z => absurd (by rw [hb.1, nI_leI (by omega) (by omega)]; omega) z⟩
  | succ m ih =>
    intro k T1 hk hf hb h1 h2
    refine wx_Rw_build_60 _ _ ⟨fun z => absurd z (by rw [hb.1, nI_leI (by omega) (by omega)]; omega), fun _ => x_behind (hf.CSr h) hb.1 (by omega) (h1 k (by omega)) ⟨okn (by omega) (by decide), ?_⟩⟩
    rw [nI_1, ix_nI (by omega)]
    refine ih (k + 1) _ (by omega) (hf.tr (frm_A (by decide) _ _)) hb h1 (fun j hj => ?_)
    show upd (xA T1 141) k _ j = _
    by_cases q : j = k
    · rw [q, upd_at]
    · rw [upd_ne _ _ q]; exact h2 j (by omega)
theorem build_1 {Q : Option Nat → XS → Prop} (h : CS T a ca v sd) (hq : ∀ T', frm rwS T T' → ROWX T' v sd → Q (some 129) T') : ∀ (m k : Nat) (T1 : XS), k + m = vG v → frm rwS T T1 → RB0 T1 v → (∀ j, j < k → xA T1 137 j = nI (ring sd.1 j)) → eX c (d + 2) m_Rw_build 33 [some (.ref 129), some (.ref a), some (.int (nI k)), none] T1 (yO c Q) := by
  have hG := h.G
  intro m
  induction m with
  | zero =>
    intro k T1 hk hf hb h1
    refine wx_Rw_build_33 _ _ ⟨fun _ => build_2 h hq (vG v) 0 T1 (by omega) hf hb (fun j hj => h1 j (by omega)) (fun j hj => by omega), fun z => absurd (by rw [hb.1, nI_leI (by omega) (by omega)]; omega) z⟩
  | succ m ih =>
    intro k T1 hk hf hb h1
    refine wx_Rw_build_33 _ _ ⟨fun z => absurd z (by rw [hb.1, nI_leI (by omega) (by omega)]; omega), fun _ => x_ringOf (hf.CSr h) (by omega) ⟨okn (by omega) (by decide), ?_⟩⟩
    rw [nI_1, ix_nI (by omega)]
    refine ih (k + 1) _ (by omega) (hf.tr (frm_A (by decide) _ _)) hb (fun j hj => ?_)
    show upd (xA T1 137) k _ j = _
    by_cases q : j = k
    · rw [q, upd_at]
    · rw [upd_ne _ _ q]; exact h1 j (by omega)
theorem x_build {Q : Option Nat → XS → Prop} (h : CS T a ca v sd) (hq : ∀ T', frm rwS T T' → ROWX T' v sd → Q (some 129) T') : XO c (d + 2) m_Rw_build [.ref 129, .ref a] T Q := by
  refine wx_Rw_build _ ⟨h.1.1, ca, h.fc, h.2.1.1, ?_⟩
  rw [h.gs]
  exact build_1 h hq (vG v) 0 _ (by omega) (((((frm_I (by decide) _ _).tr (frm_I (by decide) _ _)).tr (frm_I (by decide) _ _)).tr (frm_I (by decide) _ _)).tr (frm_I (by decide) _ _)) ⟨rfl, rfl, rfl, rfl, rfl⟩ (fun j hj => by omega)
theorem x_rowNow {Q : Option Nat → XS → Prop} (h : CS T 93 ca v sd) (hq : ∀ T', frm rwS T T' → ROWX T' v sd → Q (some 129) T') : XO c (d + 3) m_X_rowNow [.ref 1] T Q :=
  wx_X_rowNow (x_build h (fun T' hf hr => ⟨rfl, hq T' hf hr⟩))
end BD1
/-! the reference's row -/
def frR (s s' : RS) : Prop := (∀ k, k ≠ 26 → k ≠ 27 → k ≠ 28 → s'.1 k = s.1 k) ∧ (∀ i, i ≠ 9 → i ≠ 10 → i ≠ 11 → s'.2.1 i = s.2.1 i) ∧ s'.2.2 = s.2.2
section LR1
variable {c : CX} {d : Nat} {s s' : RS} {v : CV} {a : SD}
theorem frR.rf (s : RS) : frR s s := ⟨fun _ _ _ _ => rfl, fun _ _ _ _ => rfl, rfl⟩
theorem frR.tr {s t u : RS} (h : frR s t) (h' : frR t u) : frR s u := ⟨fun k a b c => (h'.1 k a b c).trans (h.1 k a b c), fun i a b c => (h'.2.1 i a b c).trans (h.2.1 i a b c), h'.2.2.trans h.2.2⟩
theorem frR_F (s : RS) {k : Nat} (x : Int32) (hk : k = 26 ∨ k = 27 ∨ k = 28) : frR s (rF s k x) := ⟨fun j a b c => if_neg (by omega), fun _ _ _ _ => rfl, rfl⟩
theorem frR_A (s : RS) {i : Nat} (j : Nat) (x : Int32) (hi : i = 9 ∨ i = 10 ∨ i = 11) : frR s (rA s i j x) := ⟨fun _ _ _ _ => rfl, fun k a b c => if_neg (by omega), rfl⟩
theorem frR.KR (h : frR s s') (q : KR s v a) : KR s' v a := by
  unfold _root_.Jvm.Pilot.CInsultRowLaw_law_r5875_08aed1.KR at q ⊢
  rw [h.2.1 1 (by decide) (by decide) (by decide)]
  exact q
def RR0 (s : RS) (v : CV) (L : List Nat) (nch nck : Nat) : Prop := (s.1 26 = nI L.length ∧ s.1 27 = nI nck ∧ s.1 28 = nI nch) ∧ (∀ i x, L[i]? = some x → s.2.1 9 i = nI x) ∧ (∀ i, i ≤ L.length → s.2.1 10 i = nI (slen v (L.take i))) ∧ ∀ x, x ∈ L → x < 10 → s.2.1 11 x = nI (L.idxOf x)
def ROWR (s : RS) (v : CV) (a : SD) : Prop := RR0 s v (rowL v a) (chnS v a) (cakS v a)
theorem s_walksOn {Q : RS → Prop} (h : KR s v a) {L : List Nat} {nch nck x : Nat} (hr : RR0 s v L nch nck) (hL : L.length < 20) (hx : x < vG v ∨ (100 ≤ x ∧ x < 200)) (hq : Q (rF (rA (rA s 9 L.length (nI x)) 10 (L.length + 1) (nI (slen v (L ++ [x])))) 26 (nI (L.length + 1)))) : RV c d m_R_walksOn [.ref 2, .int (nI x)] s Q := by
  have h10 := h.2.2.1.1
  have e1 : s.2.1 10 L.length = nI (slen v L) := by have := hr.2.2.1 L.length (Nat.le_refl _); rwa [List.take_length] at this
  refine w_R_walksOn _ ?_
  rw [hr.1.1, ix_nI (by omega)]
  refine ⟨okn hL (by decide), w_R_walksOn_10 _ ?_⟩
  show okx (s.1 26) 21 ∧ ((nI x < 100 → (okx (27 + nI x) 2101 ∧ (okx (s.1 26 + 1) 21 ∧ Q (rF (rA (rA s 9 L.length (nI x)) 10 (ix (s.1 26 + 1)) (s.2.1 10 (ix (s.1 26)) + s.2.1 1 (ix (27 + nI x)))) 26 (s.1 26 + 1))))) ∧ (¬ nI x < 100 → (okx (s.1 26 + 1) 21 ∧ Q (rF (rA (rA s 9 L.length (nI x)) 10 (ix (s.1 26 + 1)) (s.2.1 10 (ix (s.1 26)) + 1)) 26 (s.1 26 + 1)))))
  rw [hr.1.1, nI_1, ix_nI (by omega), ix_nI (by omega), e1]
  rw [slen_app] at hq
  refine ⟨okn (by omega) (by decide), fun z => ⟨okA 27 (by
    rcases hx with q | q
    · omega
    · have := (nI_ltI (b := 100) (by omega) (by decide)).mp z; omega) (by decide), okn (by omega) (by decide), ?_⟩, fun z => ⟨okn (by omega) (by decide), ?_⟩⟩
  · have z := (nI_ltI (b := 100) (by omega) (by decide)).mp z
    have hx : x < vG v := by omega
    rw [if_pos z] at hq
    rw [show ix (27 + nI x) = 27 + x from ixA 27 (by omega), (h.1.2.2.2.2.2.1 x hx).1, nI_add]
    exact hq
  · have z : ¬ x < 100 := fun q => z (nI_ltI (b := 100) (by omega) (by decide) |>.mpr q)
    rw [if_neg z] at hq
    rw [nI_1]
    exact hq
/-- one more in the reference's row -/
theorem RR0.more {L : List Nat} {nch nck x : Nat} (h : RR0 s v L nch nck) (hx : x < 10 → x ∉ L ∧ s.2.1 11 x = nI L.length) : RR0 (rF (rA (rA s 9 L.length (nI x)) 10 (L.length + 1) (nI (slen v (L ++ [x])))) 26 (nI (L.length + 1))) v (L ++ [x]) nch nck := by
  obtain ⟨⟨h1, h2, h3⟩, h4, h5, h6⟩ := h
  refine ⟨⟨?_, h2, h3⟩, ?_, ?_, ?_⟩
  · rw [List.length_append]; rfl
  · exact upd_push h4
  · intro i hi
    rw [List.length_append] at hi
    simp only [List.length_singleton] at hi
    show upd (s.2.1 10) (L.length + 1) _ i = _
    by_cases q : i = L.length + 1
    · rw [q, upd_at]
      congr 2
      rw [List.take_of_length_le (by rw [List.length_append]; simp)]
    · rw [upd_ne _ _ q, h5 i (by omega), List.take_append_of_le_length (by omega)]
  · intro y hy hy10
    show s.2.1 11 y = _
    by_cases e : y ∈ L
    · rw [List.idxOf_append, if_pos e]
      exact h6 y e hy10
    · have e2 : y = x := by
        rcases List.mem_append.mp hy with q | q
        · exact absurd q e
        · exact List.mem_singleton.mp q
      subst e2
      rw [(hx hy10).2, List.idxOf_append, if_neg e]
      simp
theorem lays_2 {Q : RS → Prop} (h : KR s v a) {g : Nat} (hg : g < vG v) (hl : ldB a.1 (bhd a.1 (vG v)) g = true) {nch nck : Nat}
    (hq : ∀ s1, frR s s1 → RR0 s1 v (rowK a.1 (bhd a.1 (vG v)) g ++ cak a.1 g ++ cpre (bhd a.1 (vG v)) g (clen (bhd a.1 (vG v)) g)) nch nck → eR c (d + 4) m_R_laysRow 24 [some (.ref 2), some (.int (nI g + 1)), none] s1 (pV c Q)) :
    ∀ (m i : Nat) (s1 : RS), i + m = clen (bhd a.1 (vG v)) g → frR s s1 → RR0 s1 v (rowK a.1 (bhd a.1 (vG v)) g ++ cak a.1 g ++ cpre (bhd a.1 (vG v)) g i) nch nck → eR c (d + 4) m_R_laysRow 100 [some (.ref 2), some (.int (nI g)), some (.int (if fi (fo (bhd a.1 (vG v))) i g < 10 then nI (fi (fo (bhd a.1 (vG v))) i g) else -1))] s1 (pV c Q) := by
  have hG := h.2.2.1.1
  have hB := bhd_BH hG (w := a.1) (fun x k q => ⟨(h.2.2.2.1 x k q).1, (h.2.2.2.1 x k q).2.1⟩)
  have hce := clen_end hB hg hl
  intro m
  induction m with
  | zero =>
    intro i s1 hi hf hr
    rw [show i = clen (bhd a.1 (vG v)) g by omega] at hr ⊢
    rw [hce.1, if_neg (Nat.lt_irrefl 10)]
    exact w_R_laysRow_100 _ _ ⟨fun _ => hq s1 hf hr, fun z => absurd rfl z⟩
  | succ m ih =>
    intro i s1 hi hf hr
    have hx := clen_lt (b := bhd a.1 (vG v)) (g := g) (i := i) (by omega)
    have hxG := hB.ltG hg hx
    have hnew := row_new hB hg hl (i := i) (by omega)
    have hroom := row_room hB hg hl (i := i) (by omega)
    rw [if_pos hx]
    have ih := ih (i + 1)
    rw [fi_1, aI_b hB.B, cpre_s, ← List.append_assoc] at ih
    generalize fi (fo (bhd a.1 (vG v))) i g = x at *
    generalize hL : rowK a.1 (bhd a.1 (vG v)) g ++ cak a.1 g ++ cpre (bhd a.1 (vG v)) g i = L at *
    refine w_R_laysRow_100 _ _ ⟨fun z => ?_, fun _ => ⟨okn hx (by decide), ?_⟩⟩
    · have := (oI_none (o := some x) (fun k hk => by have := Option.some.inj hk; omega)).mp z
      cases this
    · rw [ix_nI (by omega), hr.1.1]
      have hf2 : frR s1 (rA s1 11 x (nI L.length)) := frR_A _ _ _ (by omega)
      have hr2 : RR0 (rA s1 11 x (nI L.length)) v L nch nck := by
        obtain ⟨h1, h4, h5, h6⟩ := hr
        refine ⟨h1, h4, h5, fun y hy hy10 => ?_⟩
        show upd (s1.2.1 11) x (nI L.length) y = _
        rw [upd_ne _ _ (fun e => hnew (by rw [← e]; exact hy))]
        exact h6 y hy hy10
      refine s_walksOn ((hf.tr hf2).KR h) hr2 hroom (Or.inl hxG) ?_
      have hf3 := (hf2.tr (frR_A _ L.length (nI x) (i := 9) (by omega))).tr ((frR_A _ (L.length + 1) (nI (slen v (L ++ [x]))) (i := 10) (by omega)).tr (frR_F _ (nI (L.length + 1)) (k := 26) (by omega)))
      refine s_behind (d := d) ((hf.tr hf3).KR h) (by omega) (ih _ (by omega) (hf.tr hf3) (hr2.more (fun _ => ⟨hnew, ?_⟩)))
      exact upd_at _ _ _
theorem lays_1 {Q : RS → Prop} (h : KR s v a) (hq : ∀ s', frR s s' → ROWR s' v a → Q s') : ∀ (m k : Nat) (s1 : RS), k + m = vG v → frR s s1 → RR0 s1 v (rowK a.1 (bhd a.1 (vG v)) k) (chnN a.1 (bhd a.1 (vG v)) k) (cakN a.1 (bhd a.1 (vG v)) k) → eR c (d + 4) m_R_laysRow 24 [some (.ref 2), some (.int (nI k)), none] s1 (pV c Q) := by
  have hG := h.2.2.1.1
  have hB := bhd_BH hG (w := a.1) (fun x k q => ⟨(h.2.2.2.1 x k q).1, (h.2.2.2.1 x k q).2.1⟩)
  intro m
  induction m with
  | zero =>
    intro k s1 hk hf hr
    have e : k = vG v := by omega
    subst e
    exact w_R_laysRow_24 _ ⟨fun _ => hq s1 hf hr, fun z => absurd (((hf.KR h).gle (by omega)).mpr (by omega)) z⟩
  | succ m ih =>
    intro k s1 hk hf hr
    have h1 := hf.KR h
    have ok : okx (6 + nI k) 2101 := okm (by omega)
    -- a leader
    have line : ∀ s2, frR s s2 → ldB a.1 (bhd a.1 (vG v)) k = true → RR0 s2 v (rowK a.1 (bhd a.1 (vG v)) k) (chnN a.1 (bhd a.1 (vG v)) k) (cakN a.1 (bhd a.1 (vG v)) k) → (okx (6 + nI k) 2101 ∧ ((s2.2.1 1 (ix (6 + nI k)) = -1 → eR c (d + 4) m_R_laysRow 100 [some (.ref 2), some (.int (nI k)), some (.int (nI k))] (rF s2 28 (s2.1 28 + 1)) (pV c Q)) ∧ (¬ s2.2.1 1 (ix (6 + nI k)) = -1 → (okx (6 + nI k) 2101 ∧ RV c (d + 3) m_R_walksOn [.ref 2, .int (100 + s2.2.1 1 (ix (6 + nI k)))] (rF s2 28 (s2.1 28 + 1)) (fun s4 => eR c (d + 4) m_R_laysRow 100 [some (.ref 2), some (.int (nI k)), some (.int (nI k))] (rF s4 27 (s4.1 27 + 1)) (pV c Q)))))) := by
      intro s2 hf2 hl hr2
      have h2 := hf2.KR h
      have go : ∀ s3, frR s s3 → RR0 s3 v (rowK a.1 (bhd a.1 (vG v)) k ++ cak a.1 k) (chnN a.1 (bhd a.1 (vG v)) k + 1) (cakN a.1 (bhd a.1 (vG v)) k + (cak a.1 k).length) → eR c (d + 4) m_R_laysRow 100 [some (.ref 2), some (.int (nI k)), some (.int (nI k))] s3 (pV c Q) := by
        intro s3 hf3 hr3
        have := lays_2 (c := c) (d := d) (Q := Q) (s := s3) (nch := chnN a.1 (bhd a.1 (vG v)) k + 1) (nck := cakN a.1 (bhd a.1 (vG v)) k + (cak a.1 k).length) (hf3.KR h) (g := k) (by omega) hl (fun s4 hf4 hr4 => by
          rw [nI_1]
          refine ih (k + 1) s4 (by omega) (hf3.tr hf4) ?_
          rw [rowK, chnN, cakN, if_pos hl, if_pos hl, if_pos hl, ← List.append_assoc]
          exact hr4) (clen (bhd a.1 (vG v)) k) 0 s3 (by omega) (frR.rf _) (by rw [show cpre (bhd a.1 (vG v)) k 0 = [] from rfl, List.append_nil]; exact hr3)
        rw [show fi (fo (bhd a.1 (vG v))) 0 k = k from rfl, if_pos (show k < 10 by omega)] at this
        exact this
      have hr3 : RR0 (rF s2 28 (nI (chnN a.1 (bhd a.1 (vG v)) k + 1))) v (rowK a.1 (bhd a.1 (vG v)) k) (chnN a.1 (bhd a.1 (vG v)) k + 1) (cakN a.1 (bhd a.1 (vG v)) k) := by
        obtain ⟨⟨q1, q2, q3⟩, q4, q5, q6⟩ := hr2
        exact ⟨⟨q1, q2, rfl⟩, q4, q5, q6⟩
      have hf3 := hf2.tr (frR_F s2 (k := 28) (nI (chnN a.1 (bhd a.1 (vG v)) k + 1)) (by omega))
      rw [h2.wh (by omega), hr2.1.2.2, nI_1]
      rcases cak_w (w := a.1) (g := k) with ⟨q1, q2⟩ | ⟨m', q1, q2⟩
      · rw [q1]
        refine ⟨ok, fun _ => go _ hf3 ?_, fun z => absurd rfl z⟩
        rw [q2, List.append_nil]
        exact hr3
      · have hm := h.wb q1
        rw [q1]
        refine ⟨ok, fun z => ?_, fun _ => ⟨ok, ?_⟩⟩
        · have := (oI_none (o := some m') (fun k hk => by have := Option.some.inj hk; omega)).mp z
          cases this
        · rw [show (100 : Int32) + oI (some m') = nI (100 + m') from nI_add 100 m']
          refine s_walksOn (hf3.KR h) hr3 (row_room0 hB (by omega) hl) (Or.inr (by omega)) ?_
          have hr4 := hr3.more (x := 100 + m') (fun q => by omega)
          have hf4 := hf3.tr ((frR_A _ (rowK a.1 (bhd a.1 (vG v)) k).length (nI (100 + m')) (i := 9) (by omega)).tr ((frR_A _ ((rowK a.1 (bhd a.1 (vG v)) k).length + 1) (nI (slen v (rowK a.1 (bhd a.1 (vG v)) k ++ [100 + m']))) (i := 10) (by omega)).tr (frR_F _ (nI ((rowK a.1 (bhd a.1 (vG v)) k).length + 1)) (k := 26) (by omega))))
          rw [hr4.1.2.1, nI_1]
          refine go _ (hf4.tr (frR_F _ _ (by omega))) ?_
          rw [q2]
          obtain ⟨⟨q1, q2, q3⟩, q4, q5, q6⟩ := hr4
          exact ⟨⟨q1, rfl, q3⟩, q4, q5, q6⟩
    refine w_R_laysRow_24 _ ⟨fun z => absurd ((h1.gle (by omega)).mp z) (by omega), fun _ => ⟨ok, ?_⟩⟩
    rw [h1.wh (by omega)]
    cases e : a.1 k with
    | none =>
      have := line s1 hf (by unfold ldB; rw [e]) hr
      rw [h1.wh (by omega), e] at this
      exact ⟨fun _ => this, fun z => absurd rfl z⟩
    | some m' =>
      have hmb := h.wb e
      refine ⟨fun z => ?_, fun _ => ⟨ok, s_behind (d := d) h1 hmb ⟨fun q => ?_, fun q => ?_⟩⟩⟩
      · have := (oI_none (o := some m') (fun k hk => by have := Option.some.inj hk; omega)).mp z
        cases this
      · have := line s1 hf (by
          unfold ldB
          rw [e]
          exact decide_eq_true (fun y => q (by rw [y]; rfl))) hr
        exact this
      · have q := (oI_some (fun j hj => by have := (hB.B m' j hj).2; omega) (by omega)).mp q
        have hl : ldB a.1 (bhd a.1 (vG v)) k = false := by
          unfold ldB
          rw [e]
          exact decide_eq_false (fun y => y q)
        rw [nI_1]
        have := ih (k + 1) s1 (by omega) hf
        rw [rowK, chnN, cakN, hl] at this
        simp only [Bool.false_eq_true, if_false, List.append_nil, Nat.add_zero] at this
        exact this hr
theorem s_laysRow {Q : RS → Prop} (h : KR s v a) (hq : ∀ s', frR s s' → ROWR s' v a → Q s') : RV c (d + 4) m_R_laysRow [.ref 2] s Q := by
  refine w_R_laysRow ⟨rfl, ?_⟩
  refine lays_1 h hq (vG v) 0 _ (by omega) ((((frR_F _ _ (by omega)).tr (frR_F _ _ (by omega))).tr (frR_F _ _ (by omega))).tr (frR_A _ _ _ (by omega))) ⟨⟨rfl, rfl, rfl⟩, fun i x q => (by cases q), fun i hi => ?_, fun x q => (by cases q)⟩
  have : i = 0 := by simpa [rowK] using hi
  subst this
  rfl
end LR1
