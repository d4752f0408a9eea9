/-! facts of the row; what calls need -/
section RF1
variable {w b : Nat → Option Nat} {G : Nat}
theorem fi_end (h : BH w b G) {g i : Nat} (hg : g < G) (hl : ldB w b g = true) (hi : fi (fo b) i g < 10) : i < clen b g := by
  refine Classical.byContradiction (fun q => ?_)
  have := h.lts (i := clen b g) (j := i) (by omega) hi
  rw [(clen_end h hg hl).1] at this
  omega
theorem clen_pos (h : BH w b G) {g : Nat} (hg : g < G) (hl : ldB w b g = true) : 0 < clen b g := by
  have := h.1
  exact fi_end h hg hl (i := 0) (show g < 10 by omega)
theorem row_tail (h : BH w b G) : ∀ (m k : Nat), k + m = G → ∃ B, rowK w b G = rowK w b k ++ B ∧ ∀ y, B[0]? = some y → 100 ≤ y ∨ (y < 10 ∧ w y = none) := by
  have h10 := h.1
  intro m
  induction m with
  | zero => intro k hk; exact ⟨[], by rw [show k = G by omega, List.append_nil], fun y q => by cases q⟩
  | succ m ih =>
    intro k hk
    obtain ⟨B, h1, h2⟩ := ih (k + 1) (by omega)
    rw [rowK] at h1
    cases hl : ldB w b k with
    | false =>
      rw [hl] at h1
      simp only [Bool.false_eq_true, if_false, List.append_nil] at h1
      exact ⟨B, h1, h2⟩
    | true =>
      rw [hl, if_pos rfl, List.append_assoc] at h1
      refine ⟨cak w k ++ cpre b k (clen b k) ++ B, h1, fun y hy => ?_⟩
      rcases cak_w (w := w) (g := k) with ⟨q1, q2⟩ | ⟨j, q1, q2⟩
      · rw [q2, List.nil_append] at hy
        obtain ⟨n, hn⟩ : ∃ n, clen b k = n + 1 := ⟨clen b k - 1, by have := clen_pos h (show k < G by omega) hl; omega⟩
        rw [hn, show cpre b k (n + 1) = k :: (List.range n).map (fun j => fi (fo b) (j + 1) k) by
          unfold cpre; rw [List.range_succ_eq_map]; simp [Function.comp_def]; rfl] at hy
        have : y = k := (Option.some.inj hy).symm
        subst this
        exact Or.inr ⟨by omega, q1⟩
      · rw [q2] at hy
        have : y = 100 + j := (Option.some.inj hy).symm
        exact Or.inl (by omega)
/-- where a chain stands -/
theorem row_split (h : BH w b G) {g : Nat} (hg : g < G) (hl : ldB w b g = true) : ∃ B, rowK w b G = rowK w b g ++ cak w g ++ cpre b g (clen b g) ++ B ∧ ∀ y, B[0]? = some y → 100 ≤ y ∨ (y < 10 ∧ w y = none) := by
  obtain ⟨B, h1, h2⟩ := row_tail h (G - (g + 1)) (g + 1) (by omega)
  refine ⟨B, ?_, h2⟩
  rw [h1, rowK, if_pos hl]
  simp only [List.append_assoc]
theorem cpre_get {g n i : Nat} (hi : i < n) : (cpre b g n)[i]? = some (fi (fo b) i g) := by
  unfold cpre
  rw [List.getElem?_map, List.getElem?_range hi]
  rfl
/-- the place of one in the row -/
def bas (w b : Nat → Option Nat) (g : Nat) : Nat := (rowK w b g ++ cak w g).length
theorem row_at (h : BH w b G) {g i : Nat} (hg : g < G) (hl : ldB w b g = true) (hi : i < clen b g) : (rowK w b G)[bas w b g + i]? = some (fi (fo b) i g) := by
  obtain ⟨B, h1, -⟩ := row_split h hg hl
  rw [h1, List.append_assoc, List.getElem?_append_right (by unfold bas; omega), show bas w b g + i - (rowK w b g ++ cak w g).length = i by unfold bas; omega, List.getElem?_append_left (by rw [cpre_len]; exact hi), cpre_get hi]
theorem cpre_cut {g : Nat} : ∀ {n i : Nat}, i < n → ∃ C, cpre b g n = cpre b g i ++ fi (fo b) i g :: C
  | 0, i, h => by omega
  | n + 1, i, h => by
    rw [cpre_s]
    rcases Nat.lt_or_ge i n with q | q
    · obtain ⟨C, hC⟩ := cpre_cut (g := g) q
      exact ⟨C ++ [fi (fo b) n g], by rw [hC, List.append_assoc]; rfl⟩
    · rw [show i = n by omega]
      exact ⟨[], rfl⟩
theorem row_idx (h : BH w b G) {g i : Nat} (hg : g < G) (hl : ldB w b g = true) (hi : i < clen b g) : (rowK w b G).idxOf (fi (fo b) i g) = bas w b g + i := by
  obtain ⟨B, h1, -⟩ := row_split h hg hl
  have hn := row_new h hg hl hi
  obtain ⟨C, hC⟩ := cpre_cut (b := b) (g := g) hi
  have e : rowK w b G = (rowK w b g ++ cak w g ++ cpre b g i) ++ (fi (fo b) i g :: (C ++ B)) := by
    rw [h1, hC]
    simp only [List.append_assoc, List.cons_append]
  rw [e, List.idxOf_append, if_neg hn, List.idxOf_cons_self]
  unfold bas
  rw [List.length_append (as := rowK w b g ++ cak w g), cpre_len]
  omega
end RF1
section RF2
variable {v : CV} {sd : SD}
def SO (v : CV) (sd : SD) : Prop := vG v ≤ 10 ∧ SOK (vG v) sd
theorem SO.B (h : SO v sd) : BH sd.1 (bhd sd.1 (vG v)) (vG v) := bhd_BH h.1 (fun x k q => ⟨(h.2.1 x k q).1, (h.2.1 x k q).2.1⟩)
/-- each walks in a chain -/
theorem SO.root (h : SO v sd) {x : Nat} (hx : x < vG v) : ∃ g i, g < vG v ∧ ldB sd.1 (bhd sd.1 (vG v)) g = true ∧ i < clen (bhd sd.1 (vG v)) g ∧ fi (fo (bhd sd.1 (vG v))) i g = x := by
  obtain ⟨g, h1, h2, i, h3⟩ := row_all h.1 (fun x k q => ⟨(h.2.1 x k q).1, (h.2.1 x k q).2.1⟩) hx
  have := h.1
  exact ⟨g, i, h1, h2, fi_end h.B h1 h2 (by rw [h3]; omega), h3⟩
theorem SO.mem (h : SO v sd) {x : Nat} (hx : x < vG v) : x ∈ rowL v sd := by
  have := h.1
  obtain ⟨g, i, h1, h2, h3, h4⟩ := h.root hx
  exact (rowK_mem (by omega)).mpr ⟨g, h1, h2, i, h3, h4⟩
theorem SO.len (h : SO v sd) : (rowL v sd).length ≤ 20 := row_20 h.B (Nat.le_refl _)
theorem SO.elt (h : SO v sd) {x : Nat} (hx : x ∈ rowL v sd) : x < vG v ∨ (100 ≤ x ∧ x < 110) := by
  have key : ∀ k, x ∈ rowK sd.1 (bhd sd.1 (vG v)) k → k ≤ vG v → x < vG v ∨ (100 ≤ x ∧ x < 110) := by
    intro k
    induction k with
    | zero => intro q; cases q
    | succ k ih =>
      intro q hk
      rw [rowK] at q
      rcases List.mem_append.mp q with q | q
      · exact ih q (by omega)
      · split at q
        · rename_i hl
          rcases List.mem_append.mp q with q | q
          · rcases cak_w (w := sd.1) (g := k) with ⟨q1, q2⟩ | ⟨j, q1, q2⟩
            · rw [q2] at q; cases q
            · rw [q2] at q
              have := List.mem_singleton.mp q
              have := h.2.1 k j q1
              have := h.1
              omega
          · obtain ⟨i, h1, h2⟩ := cpre_mem.mp q
            rw [← h2]
            exact Or.inl (h.B.ltG (by omega) (clen_lt h1))
        · cases q
  exact key _ hx (Nat.le_refl _)
end RF2
theorem CS.so {T : XS} {a ca : Nat} {v : CV} {sd : SD} (h : CS T a ca v sd) : SO v sd := ⟨h.G, h.2.2.2⟩
theorem KR.so {s : RS} {v : CV} {a : SD} (h : KR s v a) : SO v a := ⟨h.2.2.1.1, h.2.2.2⟩
section ND
variable {c : CX} {d : Nat} {T T' : XS} {ca : Nat} {v : CV} {sd : SD}
abbrev RL (c : CX) : Prop := c.2.2.2.1.length = 18
theorem x_needGuild {Q : XS → Prop} {E : Nat → XS → Prop} (hR : RL c) (h : CS T 93 ca v sd) {g : Int32} (ok : ∀ k, g = nI k → k < vG v → Q T) (bad : ¬ (0 ≤ g.toInt ∧ g.toInt < vG v) → E 2 (tN T 0 0 6)) : XVt c d m_X_needGuild [.ref 1, .int g] T Q E := by
  have hG := h.G
  have e0 : ((0 : Int32).toInt : Int) = 0 := rfl
  refine wx_X_needGuild hR _ ⟨fun z => bad (by rw [fa_lt] at z; omega), fun z => ⟨ca, h.fc, h.2.1.1, ?_⟩⟩
  rw [h.gs, fa_lt, nI_toInt (by omega)]
  rw [fa_lt] at z
  exact ⟨fun z2 => ok g.toInt.toNat (nI_of_toInt (by omega)) (by omega), fun z2 => bad (by omega)⟩
theorem x_needWithin {Q : XS → Prop} {E : Nat → XS → Prop} (hR : RL c) {n lo hi : Int32} (ok : lo.toInt ≤ n.toInt → n.toInt ≤ hi.toInt → Q T) (bad : ¬ (lo.toInt ≤ n.toInt ∧ n.toInt ≤ hi.toInt) → E 1 (tN T 0 0 6)) : XVt c d m_X_needWithin [.int n, .int lo, .int hi] T Q E := by
  refine wx_X_needWithin hR _ _ _ ⟨fun z => bad (by rw [fa_lt] at z; omega), fun z => ⟨fun z2 => ok ?_ ?_, fun z2 => bad (by rw [fa_le] at z2; omega)⟩⟩
  · rw [fa_lt] at z; omega
  · rw [fa_le] at z2; exact z2
end ND
/-- what a question of the reference leaves -/
def SQ (s s' : RS) (t : Int32) : Prop := s'.1 4 = t ∧ (∀ k, k ≠ 4 → k ≠ 22 → k ≠ 26 → k ≠ 27 → k ≠ 28 → k ≠ 31 → k ≠ 32 → s'.1 k = s.1 k) ∧ (∀ i, i < 6 ∨ 13 < i → s'.2.1 i = s.2.1 i) ∧ ∀ i, i ≠ 14 → s'.2.2 i = s.2.2 i
section SQ1
variable {s s' s'' : RS} {t : Int32} {v : CV} {a : SD}
theorem SQ.th (s : RS) (t : Int32) : SQ s (rF s 4 t) t := ⟨rfl, fun k h1 _ _ _ _ _ _ => if_neg h1, fun _ _ => rfl, fun _ _ => rfl⟩
theorem SQ.row (h : SQ s s' t) (hf : frR s' s'') : SQ s s'' t :=
  ⟨(hf.1 4 (by decide) (by decide) (by decide)).trans h.1, fun k a b c d e f g => (hf.1 k c d e).trans (h.2.1 k a b c d e f g), fun i hi => (hf.2.1 i (by omega) (by omega) (by omega)).trans (h.2.2.1 i hi), fun i hi => by rw [hf.2.2]; exact h.2.2.2 i hi⟩
theorem SQ.W (h : SQ s s' t) {i : Nat} (f : Nat → Int32) (hi : 6 ≤ i ∧ i ≤ 13) : SQ s (rW s' i f) t :=
  ⟨h.1, h.2.1, fun j hj => by rw [rW_ne _ _ (by omega)]; exact h.2.2.1 j hj, h.2.2.2⟩
theorem SQ.kr (h : SQ s s' t) (q : KR s v a) : KR s' v a := by
  unfold KR at q ⊢
  rw [h.2.2.1 1 (by omega)]
  exact q
theorem SQ.th2 (s : RS) (t u : Int32) : SQ s (rF (rF s 4 t) 4 u) u := ⟨rfl, fun k h1 _ _ _ _ _ _ => by show (if k = 4 then _ else if k = 4 then _ else _) = _; rw [if_neg h1, if_neg h1], fun _ _ => rfl, fun _ _ => rfl⟩
end SQ1
