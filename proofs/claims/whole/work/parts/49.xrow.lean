/-! the class's row -/
def slen (v : CV) : List Nat → Nat
  | [] => 0
  | x :: r => (if x < 100 then vF v 1 x else 1) + slen v r
theorem slen_app (v : CV) (x : Nat) : ∀ l, slen v (l ++ [x]) = slen v l + (if x < 100 then vF v 1 x else 1)
  | [] => by show _ + 0 = 0 + _; omega
  | y :: r => by show _ + slen v (r ++ [x]) = _ + slen v r + _; rw [slen_app v x r]; omega
def chnN (w b : Nat → Option Nat) : Nat → Nat
  | 0 => 0
  | k + 1 => chnN w b k + (if ldB w b k = true then 1 else 0)
def cakN (w b : Nat → Option Nat) : Nat → Nat
  | 0 => 0
  | k + 1 => cakN w b k + (if ldB w b k = true then (cak w k).length else 0)
theorem chnN_le (w b : Nat → Option Nat) : ∀ k, chnN w b k ≤ k
  | 0 => Nat.le_refl _
  | k + 1 => by have := chnN_le w b k; rw [chnN]; split <;> omega
theorem cakN_le (w b : Nat → Option Nat) : ∀ k, cakN w b k ≤ k
  | 0 => Nat.le_refl _
  | k + 1 => by have := cakN_le w b k; have := cak_len (w := w) k; rw [cakN]; split <;> omega
/-- whose chain one walks in, how many walk there -/
def rt (w b : Nat → Option Nat) (G x : Nat) : Nat := fa_first (fun g => ldB w b g && decide (x ∈ cpre b g (clen b g))) G
def chl (w b : Nat → Option Nat) (G x : Nat) : Nat := clen b (rt w b G x)
theorem rt_is {w b : Nat → Option Nat} {G g i : Nat} (h : BH w b G) (hg : g < G) (hl : ldB w b g = true) (hi : i < clen b g) : rt w b G (fi (fo b) i g) = g := by
  refine fa_first_is hg ?_ (fun j hj => ?_)
  · rw [hl, decide_eq_true (cpre_mem.mpr ⟨i, hi, rfl⟩)]
    rfl
  · cases e : ldB w b j with
    | false => rfl
    | true =>
      rw [Bool.true_and]
      refine decide_eq_false (fun q => ?_)
      obtain ⟨k, -, hk⟩ := cpre_mem.mp q
      have := (ld_uni h hl e hk.symm (clen_lt hi)).1
      omega
abbrev rwS (b : Nat) : Prop := b ∈ [129, 133, 137, 141, 145, 149, 153]
theorem rwS_scr {b : Nat} (h : rwS b) : scr b := by
  have : ∀ b ∈ [129, 133, 137, 141, 145, 149, 153], scr b := by decide
  exact this b h
theorem rwS_1 {b : Nat} (h : b % 4 = 3) : ¬ rwS b := fun q => scr_no h (rwS_scr q)
section XR1
variable {S : Nat → Prop} {c : CX} {d : Nat} {T T' : XS} {a ca : Nat} {v : CV} {sd : SD}
theorem oks_rw (h : oks a) : ¬ rwS a ∧ ¬ rwS (sW a) ∧ ¬ rwS (sM a) ∧ ¬ rwS (sR a) := by
  rcases h with rfl | rfl | z
  · decide
  · decide
  · obtain ⟨e1, e2, e3⟩ := sW_3 z
    rw [e1, e2, e3]
    exact ⟨rwS_1 z, rwS_1 (by omega), rwS_1 (by omega), rwS_1 (by omega)⟩
theorem frm.CSr (h : frm rwS T T') (q : CS T a ca v sd) : CS T' a ca v sd := by
  obtain ⟨n0, n1, n2, n3⟩ := oks_rw q.1.2.1
  exact ⟨h.std q.1 n0 n1 n2 n3, (h.mono (fun _ => rwS_scr)).CARs q.2.1, q.2.2⟩
def RW0 (T : XS) (v : CV) (w b : Nat → Option Nat) (L : List Nat) (nch nck : Nat) : Prop :=
  (xI T 129 0 = nI (vG v) ∧ xI T 129 1 = nI L.length ∧ xI T 129 2 = nI (slen v L) ∧ xI T 129 3 = nI nck ∧ xI T 129 4 = nI nch) ∧ (∀ i x, L[i]? = some x → xA T 133 i = nI x) ∧ (∀ g, g < vG v → xA T 137 g = nI (ring w g) ∧ xA T 141 g = oI (b g)) ∧ ∀ x, x ∈ L → x < 10 → xA T 145 x = nI (L.idxOf x) ∧ xA T 149 x = nI (slen v (L.take (L.idxOf x)))
theorem x_put {Q : XS → Prop} {n : Nat} {x : Int32} (h1 : xI T 129 1 = nI n) (hn : n < 20) (hq : Q (tI (tA T 133 n x) 129 1 (nI (n + 1)))) : XV c d m_Rw_put [.ref 129, .int x] T Q := by
  refine wx_Rw_put _ ?_
  rw [h1, ix_nI (by omega), nI_1]
  exact ⟨fun z => absurd ((nI_leI (a := 20) (by decide) (by omega)).mp z) (by omega), fun _ => ⟨okn hn (by decide), hq⟩⟩
theorem xA_I (T : XS) (a k : Nat) (x : Int32) (b : Nat) : xA (tI T a k x) b = xA T b := rfl
theorem xI_A (T : XS) (a j : Nat) (x : Int32) (b k : Nat) : xI (tA T a j x) b k = xI T b k := rfl
theorem get_app {α : Type} {l : List α} {x y : α} {i : Nat} (h : (l ++ [x])[i]? = some y) : l[i]? = some y ∨ (i = l.length ∧ y = x) := by
  rcases Nat.lt_or_ge i l.length with q | q
  · rw [List.getElem?_append_left q] at h; exact Or.inl h
  · rw [List.getElem?_append_right q] at h
    have hi := (List.getElem?_eq_some_iff.mp h).1
    simp at hi
    have e : i - l.length = 0 := by omega
    rw [e] at h
    exact Or.inr ⟨by omega, (Option.some.inj h).symm⟩
theorem upd_at (f : Nat → Int32) (k : Nat) (x : Int32) : upd f k x k = x := if_pos rfl
theorem upd_ne (f : Nat → Int32) {k j : Nat} (x : Int32) (h : j ≠ k) : upd f k x j = f j := if_neg h
theorem upd_push {l : List Nat} {f : Nat → Int32} {x : Nat} (h : ∀ i y, l[i]? = some y → f i = nI y) : ∀ i y, (l ++ [x])[i]? = some y → upd f l.length (nI x) i = nI y := fun i y q => by
  rcases get_app q with q | ⟨q1, q2⟩
  · have := (List.getElem?_eq_some_iff.mp q).1
    rw [upd_ne _ _ (by omega)]; exact h i y q
  · rw [q1, q2, upd_at]
/-- a cake comes -/
theorem RW0.cake {w b : Nat → Option Nat} {L : List Nat} {nch nck : Nat} (h : RW0 T v w b L nch nck) {x : Nat} (hx : 100 ≤ x) : RW0 (tI (tI (tI (tA T 133 L.length (nI x)) 129 1 (nI (L.length + 1))) 129 3 (nI (nck + 1))) 129 2 (nI (slen v L + 1))) v w b (L ++ [x]) nch (nck + 1) := by
  obtain ⟨⟨h0, h1, h2, h3, h4⟩, h5, h6, h7⟩ := h
  refine ⟨⟨?_, ?_, ?_, ?_, ?_⟩, ?_, ?_, ?_⟩
  · exact h0
  · rw [List.length_append]; rfl
  · rw [slen_app, if_neg (by omega)]; rfl
  · rfl
  · exact h4
  · exact upd_push h5
  · exact h6
  · intro y hy hy10
    have hm : y ∈ L := by
      rcases List.mem_append.mp hy with q | q
      · exact q
      · have := List.mem_singleton.mp q; omega
    obtain ⟨q1, q2⟩ := h7 y hm hy10
    rw [List.idxOf_append, if_pos hm]
    have hi := List.idxOf_lt_length_of_mem hm
    refine ⟨q1, ?_⟩
    rw [List.take_append_of_le_length (by omega)]
    exact q2
/-- a guild comes -/
theorem RW0.guild {w b : Nat → Option Nat} {L : List Nat} {nch nck : Nat} (h : RW0 T v w b L nch nck) {x : Nat} (hx : x < 10) (hn : x ∉ L) : RW0 (tI (tI (tA (tA (tA T 145 x (nI L.length)) 149 x (nI (slen v L))) 133 L.length (nI x)) 129 1 (nI (L.length + 1))) 129 2 (nI (slen v L + vF v 1 x))) v w b (L ++ [x]) nch nck := by
  obtain ⟨⟨h0, h1, h2, h3, h4⟩, h5, h6, h7⟩ := h
  refine ⟨⟨?_, ?_, ?_, ?_, ?_⟩, ?_, ?_, ?_⟩
  · exact h0
  · rw [List.length_append]; rfl
  · rw [slen_app, if_pos (by omega)]; rfl
  · exact h3
  · exact h4
  · exact upd_push h5
  · exact h6
  · intro y hy hy10
    show upd (xA T 145) x (nI L.length) y = _ ∧ upd (xA T 149) x (nI (slen v L)) y = _
    by_cases e : y = x
    · subst e
      rw [upd_at, upd_at, List.idxOf_append, if_neg hn]
      simp
    · have hm : y ∈ L := by
        rcases List.mem_append.mp hy with q | q
        · exact q
        · exact absurd (List.mem_singleton.mp q) e
      obtain ⟨q1, q2⟩ := h7 y hm hy10
      have hi := List.idxOf_lt_length_of_mem hm
      rw [upd_ne _ _ e, upd_ne _ _ e, List.idxOf_append, if_pos hm, List.take_append_of_le_length (by omega)]
      exact ⟨q1, q2⟩
theorem RW0.chn {w b : Nat → Option Nat} {L : List Nat} {nch nck : Nat} (h : RW0 T v w b L nch nck) : RW0 (tI T 129 4 (nI (nch + 1))) v w b L (nch + 1) nck := by
  obtain ⟨⟨h0, h1, h2, h3, h4⟩, h5, h6, h7⟩ := h
  exact ⟨⟨h0, h1, h2, h3, rfl⟩, h5, h6, h7⟩
theorem RW0.a153 {w b : Nat → Option Nat} {L : List Nat} {nch nck : Nat} (h : RW0 T v w b L nch nck) (j : Nat) (x : Int32) : RW0 (tA T 153 j x) v w b L nch nck := h
end XR1
section XR2
variable {c : CX} {d : Nat} {T T' : XS} {a ca : Nat} {v : CV} {sd : SD}
/-- chain lengths of those who walk -/
def CHL (T : XS) (v : CV) (w b : Nat → Option Nat) (L : List Nat) : Prop := ∀ x, x ∈ L → x < 10 → xA T 153 x = nI (chl w b (vG v) x)
theorem slen_b (h : CS T a ca v sd) : ∀ (l : List Nat), (∀ x ∈ l, x < 100 → x < vG v) → slen v l ≤ 9 * l.length
  | [], _ => by simp [slen]
  | x :: r, hl => by
    have ih := slen_b h r (fun y hy => hl y (List.mem_cons_of_mem _ hy))
    show (if x < 100 then vF v 1 x else 1) + slen v r ≤ 9 * (r.length + 1)
    split
    · rename_i q
      have := (h.2.2.1.2.2.2.2.2.1 x (hl x List.mem_cons_self q)).2.1
      omega
    · omega
theorem line_2 {Q : XS → Prop} {w b : Nat → Option Nat} (hG : vG v ≤ 10) {g n : Nat} {m : Nat} (hm : m < 1024) (hn : pop m = n) {L : List Nat} {nch nck : Nat} (hq : ∀ T', frm rwS T T' → RW0 T' v w b L nch nck → (∀ x, x < vG v → m.testBit x = true → xA T' 153 x = nI n) → (∀ x, ¬ (x < vG v ∧ m.testBit x = true) → xA T' 153 x = xA T 153 x) → Q T') {cur : Int32} :
    ∀ (k j : Nat) (T1 : XS), j + k = vG v → frm rwS T T1 → RW0 T1 v w b L nch nck → (∀ x, x < j → m.testBit x = true → xA T1 153 x = nI n) → (∀ x, ¬ (x < j ∧ m.testBit x = true) → xA T1 153 x = xA T 153 x) → eX c (d + 1) m_Rw_lineUp 150 [some (.ref 129), some (.ref a), some (.int (nI g)), some (.int (nI m)), some (.int cur), some (.int (nI j))] T1 (yV c Q) := by
  intro k
  induction k with
  | zero =>
    intro j T1 hj hf hr h1 h2
    have e : j = vG v := by omega
    subst e
    refine wx_Rw_lineUp_150 _ _ _ _ _ ⟨fun _ => hq T1 hf hr h1 h2, fun z => absurd (by rw [hr.1.1, nI_leI (by omega) (by omega)]; omega) z⟩
  | succ k ih =>
    intro j T1 hj hf hr h1 h2
    refine wx_Rw_lineUp_150 _ _ _ _ _ ⟨fun z => absurd z (by rw [hr.1.1, nI_leI (by omega) (by omega)]; omega), fun _ => ?_⟩
    rw [bit_i (by omega), nI_1]
    refine ⟨fun z => ih (j + 1) T1 (by omega) hf hr (fun x hx hb => ?_) (fun x hx => ?_), fun z => ⟨okn (by omega) (by decide), ?_⟩⟩
    · rcases Nat.lt_or_ge x j with q | q
      · exact h1 x q hb
      · rw [show x = j by omega, z] at hb; cases hb
    · exact h2 x (fun q => hx ⟨by omega, q.2⟩)
    · have z : m.testBit j = true := by cases e : m.testBit j <;> simp_all
      rw [bcI_nI m hm, hn, ix_nI (by omega)]
      refine ih (j + 1) _ (by omega) (hf.tr (frm_A (by decide) _ _)) (hr.a153 _ _) (fun x hx hb => ?_) (fun x hx => ?_)
      · rw [xA_A, if_pos rfl]
        by_cases q : x = j
        · rw [q, upd_at]
        · rw [upd_ne _ _ q]; exact h1 x (by omega) hb
      · rw [xA_A, if_pos rfl]
        by_cases q : x = j
        · exact absurd ⟨by omega, by rw [q]; exact z⟩ hx
        · rw [upd_ne _ _ q]; exact h2 x (fun y => hx ⟨by omega, y.2⟩)
theorem aI_b {b : Nat → Option Nat} (hB : W10 b) (y : Nat) : (if fo b y < 10 then nI (fo b y) else -1) = oI (b y) := by
  unfold fo
  cases e : b y with
  | none => rfl
  | some j => have := (hB y j e).2; simp only; rw [if_pos this]; rfl
theorem line_1 {Q : XS → Prop} (h : CS T a ca v sd) {g : Nat} (hg : g < vG v) (hl : ldB sd.1 (bhd sd.1 (vG v)) g = true) {nch nck : Nat}
    (hq : ∀ T1, frm rwS T T1 → RW0 T1 v sd.1 (bhd sd.1 (vG v)) (rowK sd.1 (bhd sd.1 (vG v)) g ++ cak sd.1 g ++ cpre (bhd sd.1 (vG v)) g (clen (bhd sd.1 (vG v)) g)) nch nck → xA T1 153 = xA T 153 → ∀ cur, eX c (d + 1) m_Rw_lineUp 150 [some (.ref 129), some (.ref a), some (.int (nI g)), some (.int (nI (vis (fo (bhd sd.1 (vG v))) g (clen (bhd sd.1 (vG v)) g)))), some (.int cur), some (.int (nI 0))] T1 (yV c Q)) :
    ∀ (m i : Nat) (T1 : XS), i + m = clen (bhd sd.1 (vG v)) g → frm rwS T T1 → RW0 T1 v sd.1 (bhd sd.1 (vG v)) (rowK sd.1 (bhd sd.1 (vG v)) g ++ cak sd.1 g ++ cpre (bhd sd.1 (vG v)) g i) nch nck → xA T1 153 = xA T 153 → eX c (d + 1) m_Rw_lineUp 61 [some (.ref 129), some (.ref a), some (.int (nI g)), some (.int (nI (vis (fo (bhd sd.1 (vG v))) g i))), some (.int (if fi (fo (bhd sd.1 (vG v))) i g < 10 then nI (fi (fo (bhd sd.1 (vG v))) i g) else -1)), some (.int (nI i))] T1 (yV c Q) := by
  have hG := h.G
  have hB := bhd_BH hG (w := sd.1) (fun x k q => ⟨(h.wb q).1, (h.wb q).2.1⟩)
  have hce := clen_end hB hg hl
  have hcG := clen_G hB hg hl
  generalize bhd sd.1 (vG v) = b at *
  intro m
  induction m with
  | zero =>
    intro i T1 hi hf hr h153
    rw [show i = clen b g by omega] at hr ⊢
    rw [hce.1, if_neg (Nat.lt_irrefl 10)]
    have hq2 := hq T1 hf hr h153 (-1)
    exact wx_Rw_lineUp_61 _ _ _ _ _ ⟨fun _ => hq2, fun _ => ⟨fun _ => hq2, fun z => absurd z (by decide)⟩⟩
  | succ m ih =>
    intro i T1 hi hf hr h153
    have hx := clen_lt (b := b) (g := g) (i := i) (by omega)
    have hxG := hB.ltG hg hx
    have hnew := row_new hB hg hl (i := i) (by omega)
    have hroom := row_room hB hg hl (i := i) (by omega)
    have hcp := cpre_s b g i
    have hvs : vis (fo b) g (i + 1) = vis (fo b) g i ||| 2 ^ fi (fo b) i g := rfl
    have hnx : fi (fo b) (i + 1) g = fo b (fi (fo b) i g) := fi_1 _ _ _
    rw [if_pos hx]
    have ih := ih (i + 1)
    rw [hnx, aI_b hB.B, hvs, hcp, ← List.append_assoc] at ih
    generalize fi (fo b) i g = x at *
    generalize hL : rowK sd.1 b g ++ cak sd.1 g ++ cpre b g i = L at *
    have ex : ix (nI x) = x := ix_nI (by omega)
    have ok : okx (nI x) 10 := okn hx (by decide)
    refine wx_Rw_lineUp_61 _ _ _ _ _ ⟨fun z => absurd z (by rw [hr.1.1, nI_leI (by omega) (by omega)]; omega), fun _ => ⟨fun z => absurd ((one_nI hx).symm.trans z) (by decide), fun _ => ⟨ok, ok, ?_⟩⟩⟩
    rw [ex, hr.1.2.1, hr.1.2.2.1]
    refine x_put (n := L.length) hr.1.2.1 hroom ?_
    have hf2 : frm rwS T1 (tI (tA (tA (tA T1 145 x (nI L.length)) 149 x (nI (slen v L))) 133 L.length (nI x)) 129 1 (nI (L.length + 1))) := ((((frm_A (by decide) _ _).tr (frm_A (by decide) _ _)).tr (frm_A (by decide) _ _)).tr (frm_I (by decide) _ _))
    have h2 := (hf.tr hf2).CSr h
    refine ⟨h2.1.1, ca, h2.fc, h2.2.1.1, ok, ok, ?_⟩
    have e2 : xI (tI (tA (tA (tA T1 145 x (nI L.length)) 149 x (nI (slen v L))) 133 L.length (nI x)) 129 1 (nI (L.length + 1))) 129 2 = nI (slen v L) := hr.1.2.2.1
    have e3 : xA (tI (tA (tA (tA T1 145 x (nI L.length)) 149 x (nI (slen v L))) 133 L.length (nI x)) 129 1 (nI (L.length + 1))) (ca + 12) x = nI (vF v 1 x) := (h2.2.1.2.2.2.2.2.2.1 x hxG).1
    have e4 : xA (tI (tA (tA (tA T1 145 x (nI L.length)) 149 x (nI (slen v L))) 133 L.length (nI x)) 129 1 (nI (L.length + 1))) 141 x = oI (b x) := (hr.2.2.1 x hxG).2
    rw [e2, e3, e4, nI_add, sh1 x hx, fa_or, nI_1]
    exact ih _ (by omega) ((hf.tr hf2).tr (frm_I (by decide) _ _)) (hr.guild hx hnew) h153
theorem cak_w {w : Nat → Option Nat} {g : Nat} : (w g = none ∧ cak w g = []) ∨ ∃ m, w g = some m ∧ cak w g = [100 + m] := by
  unfold cak
  cases e : w g with
  | none => exact Or.inl ⟨rfl, rfl⟩
  | some m => exact Or.inr ⟨m, rfl, rfl⟩
theorem x_lineUp {Q : XS → Prop} (h : CS T a ca v sd) {g : Nat} (hg : g < vG v) (hl : ldB sd.1 (bhd sd.1 (vG v)) g = true) (hr : RW0 T v sd.1 (bhd sd.1 (vG v)) (rowK sd.1 (bhd sd.1 (vG v)) g) (chnN sd.1 (bhd sd.1 (vG v)) g) (cakN sd.1 (bhd sd.1 (vG v)) g)) (hc : CHL T v sd.1 (bhd sd.1 (vG v)) (rowK sd.1 (bhd sd.1 (vG v)) g))
    (hq : ∀ T', frm rwS T T' → RW0 T' v sd.1 (bhd sd.1 (vG v)) (rowK sd.1 (bhd sd.1 (vG v)) (g + 1)) (chnN sd.1 (bhd sd.1 (vG v)) (g + 1)) (cakN sd.1 (bhd sd.1 (vG v)) (g + 1)) → CHL T' v sd.1 (bhd sd.1 (vG v)) (rowK sd.1 (bhd sd.1 (vG v)) (g + 1)) → Q T') : XV c (d + 1) m_Rw_lineUp [.ref 129, .ref a, .int (nI g)] T Q := by
  have hG := h.G
  have hB := bhd_BH hG (w := sd.1) (fun x k q => ⟨(h.wb q).1, (h.wb q).2.1⟩)
  have hce := clen_end hB hg hl
  have hr1 := hr.chn
  have e1 : ∀ T1 : XS, RW0 T1 v sd.1 (bhd sd.1 (vG v)) (rowK sd.1 (bhd sd.1 (vG v)) g ++ cak sd.1 g) (chnN sd.1 (bhd sd.1 (vG v)) g + 1) (cakN sd.1 (bhd sd.1 (vG v)) g + (cak sd.1 g).length) → frm rwS T T1 → xA T1 153 = xA T 153 → eX c (d + 1) m_Rw_lineUp 61 [some (.ref 129), some (.ref a), some (.int (nI g)), some (.int 0), some (.int (nI g)), some (.int 0)] T1 (yV c Q) := by
    intro T1 hr1 hf h153
    have := line_1 (c := c) (d := d) (Q := Q) (nch := chnN sd.1 (bhd sd.1 (vG v)) g + 1) (nck := cakN sd.1 (bhd sd.1 (vG v)) g + (cak sd.1 g).length) h hg hl ?_ (clen (bhd sd.1 (vG v)) g) 0 T1 (by omega) hf (by rw [show cpre (bhd sd.1 (vG v)) g 0 = [] from rfl, List.append_nil]; exact hr1) h153
    · rw [show fi (fo (bhd sd.1 (vG v))) 0 g = g from rfl, if_pos (show g < 10 by omega)] at this
      exact this
    · intro T2 hf2 hr2 h153b cur
      have hrow : rowK sd.1 (bhd sd.1 (vG v)) (g + 1) = rowK sd.1 (bhd sd.1 (vG v)) g ++ cak sd.1 g ++ cpre (bhd sd.1 (vG v)) g (clen (bhd sd.1 (vG v)) g) := by rw [rowK, if_pos hl, List.append_assoc]
      refine line_2 (w := sd.1) (b := bhd sd.1 (vG v)) (n := clen (bhd sd.1 (vG v)) g) (L := rowK sd.1 (bhd sd.1 (vG v)) (g + 1)) (nch := chnN sd.1 (bhd sd.1 (vG v)) (g + 1)) (nck := cakN sd.1 (bhd sd.1 (vG v)) (g + 1)) hG (vis_lt _ (fun i hi => clen_lt hi)) (vis_pop _ (fun i hi => clen_lt hi) (fun i j hij hj e => by
          have := (ld_uni hB hl hl e (clen_lt (by omega))).2
          omega)) (fun T3 hf3 hr3 h1 h2 => hq T3 (hf2.tr hf3) hr3 ?_) (vG v) 0 T2 (by omega) frm.rf ?_ (fun x hx => by omega) (fun x hx => rfl)
      · intro x hx hx10
        rw [hrow] at hx
        by_cases hc2 : x ∈ cpre (bhd sd.1 (vG v)) g (clen (bhd sd.1 (vG v)) g)
        · obtain ⟨i, hi, he⟩ := cpre_mem.mp hc2
          rw [h1 x (by rw [← he]; exact hB.ltG hg (clen_lt hi)) ((vis_bit _ _ _ _).mpr ⟨i, hi, he⟩)]
          unfold chl
          rw [← he, rt_is hB hg hl hi]
        · have hxr : x ∈ rowK sd.1 (bhd sd.1 (vG v)) g := by
            rcases List.mem_append.mp hx with q | q
            · rcases List.mem_append.mp q with q | q
              · exact q
              · have := cak_mem q; omega
            · exact absurd q hc2
          rw [h2 x (fun q => hc2 (by
            obtain ⟨i, hi, he⟩ := (vis_bit _ _ _ _).mp q.2
            exact cpre_mem.mpr ⟨i, hi, he⟩)), h153b]
          exact hc x hxr hx10
      · rw [hrow, show chnN sd.1 (bhd sd.1 (vG v)) (g + 1) = chnN sd.1 (bhd sd.1 (vG v)) g + 1 by rw [chnN, if_pos hl], show cakN sd.1 (bhd sd.1 (vG v)) (g + 1) = cakN sd.1 (bhd sd.1 (vG v)) g + (cak sd.1 g).length by rw [cakN, if_pos hl]]
        exact hr2
  have ok : okx (nI g) 10 := okn (by omega) (by decide)
  refine wx_Rw_lineUp _ _ ⟨h.1.1, ok, ?_⟩
  rw [ix_nI (by omega), h.wh (by omega), hr.1.2.2.2.2, nI_1]
  rcases cak_w (w := sd.1) (g := g) with ⟨q1, q2⟩ | ⟨m, q1, q2⟩
  · rw [q1]
    refine ⟨fun _ => e1 _ ?_ (frm_I (by decide) _ _) rfl, fun z => absurd rfl z⟩
    rw [q2, List.append_nil]
    exact hr1
  · have hm := h.w10 q1
    rw [q1]
    refine ⟨fun z => ?_, fun _ => ⟨ok, ?_⟩⟩
    · have := (oI_none (o := some m) (fun k hk => by have := Option.some.inj hk; omega)).mp z
      cases this
    · have e5 : (100 : Int32) + oI (some m) = nI (100 + m) := nI_add 100 m
      rw [e5]
      refine x_put (n := (rowK sd.1 (bhd sd.1 (vG v)) g).length) hr1.1.2.1 (row_room0 hB hg hl) ?_
      have e6 : xI (tI (tA (tI T 129 4 (nI (chnN sd.1 (bhd sd.1 (vG v)) g + 1))) 133 (rowK sd.1 (bhd sd.1 (vG v)) g).length (nI (100 + m))) 129 1 (nI ((rowK sd.1 (bhd sd.1 (vG v)) g).length + 1))) 129 3 = nI (cakN sd.1 (bhd sd.1 (vG v)) g) := hr.1.2.2.2.1
      have e7 : xI (tI (tA (tI T 129 4 (nI (chnN sd.1 (bhd sd.1 (vG v)) g + 1))) 133 (rowK sd.1 (bhd sd.1 (vG v)) g).length (nI (100 + m))) 129 1 (nI ((rowK sd.1 (bhd sd.1 (vG v)) g).length + 1))) 129 2 = nI (slen v (rowK sd.1 (bhd sd.1 (vG v)) g)) := hr.1.2.2.1
      rw [e6, e7, nI_1, nI_1]
      refine e1 _ ?_ (((((frm_I (by decide) _ _).tr (frm_A (by decide) _ _)).tr (frm_I (by decide) _ _)).tr (frm_I (by decide) _ _)).tr (frm_I (by decide) _ _)) rfl
      rw [q2]
      exact hr1.cake (by omega)
end XR2
