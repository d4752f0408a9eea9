/-! the heaps of the two machines -/
/-- array types in use -/
def mj_ty (P : mj_P) (ty : FieldType) : Prop := ty = .int ∨ ty = .long ∨ ty = .byte ∨ ty = .boolean ∨ ∃ (ci : Nat) (C : String) (T : u_T) (N : Nat), (mj_cl P)[ci]? = some (C, T, N) ∧ ty = .object C ∧ (C = "InsultRow$Standing" ∨ C = "InsultRow$Fair" ∨ C = "InsultRow$Tray")
abbrev mj_G : Type := (Nat → Nat) × Nat × Heap × va_G × (FieldType → ClassId)
def mj_ad (G : mj_G) (P : mj_P) (a : Nat) : Nat := match a % 4 with
  | 0 => G.1 (a / 4)
  | 1 => G.2.1 + a / 4
  | 2 => G.2.1 + mj_n1 P + a / 4
  | _ => G.2.1 + mj_n1 P + mj_n2 P + a / 4
def mj_trA (ad : Nat → Nat) (A : vp_A) : vp_A := match A.2 with
  | .inr (.inr (.inr (.inr f))) => (A.1, .inr (.inr (.inr (.inr (fun j => (f j).map ad)))))
  | .inr (.inr (.inr (.inl f))) => (A.1, .inr (.inr (.inr (.inl f))))
  | .inr (.inr (.inl f)) => (A.1, .inr (.inr (.inl f)))
  | .inr (.inl f) => (A.1, .inr (.inl f))
  | .inl f => (A.1, .inl f)
def mj_cR (G : mj_G) (P : mj_P) (c : mj_C) (q : Nat) (H : Heap) : Prop := match c with
  | .inl (ty, A) => mj_ty P ty ∧ H[q]? = some (vp_cell (G.2.2.2.2 ty) (mj_trA (mj_ad G P) A))
  | .inr (ci, fs) => ci = 0 ∨ ∃ r : vw_C, (mj_cl P)[ci]? = some r ∧ fs.length = r.2.2 ∧ t_OB q (G.2.2.2.1.1 ci) r.2.2 (G.2.2.2.1.2 ci) H (vp_V (fs.map (mj_tr (mj_ad G P))))
def mj_HR (G : mj_G) (P : mj_P) (σ : mj_H) (H : Heap) : Prop :=
  H.size = G.2.1 + mj_tot σ ∧ (σ.1.length ≤ mj_n1 P ∧ σ.2.1.length ≤ mj_n2 P ∧ (0 < σ.2.1.length → σ.1.length = mj_n1 P) ∧ (0 < σ.2.2.1.length → σ.1.length = mj_n1 P ∧ σ.2.1.length = mj_n2 P)) ∧
  (∀ (a : Nat) (c : mj_C), a % 4 ≠ 0 → mj_get P σ a = some c → mj_cR G P c (mj_ad G P a) H) ∧ ∀ q : Nat, q < G.2.1 → H[q]? = G.2.2.1[q]?
theorem mj_cR.kept {G : mj_G} {P : mj_P} {c : mj_C} {q : Nat} {H H' : Heap} (h : mj_cR G P c q H) (hq : H'[q]? = H[q]?) : mj_cR G P c q H' := by
  cases c with
  | inl x => exact ⟨h.1, hq.trans h.2⟩
  | inr x =>
    rcases h with h | ⟨r, h1, h2, h3⟩
    · exact Or.inl h
    · exact Or.inr ⟨r, h1, h2, h3.kept hq⟩
theorem mj_seg (a : Nat) : a % 4 = 0 ∨ a % 4 = 1 ∨ a % 4 = 2 ∨ a % 4 = 3 := by omega
section MJ2
variable {G : mj_G} {P : mj_P} {σ : mj_H} {H H' : Heap} {a b : Nat} {c c' : mj_C}
theorem mj_get1 (h : a % 4 = 1) : mj_get P σ a = σ.1[a / 4]? := by unfold mj_get; simp only [h]
theorem mj_get2 (h : a % 4 = 2) : mj_get P σ a = σ.2.1[a / 4]? := by unfold mj_get; simp only [h]
theorem mj_get3 (h : a % 4 = 3) : mj_get P σ a = σ.2.2.1[a / 4]? := by unfold mj_get; simp only [h]
theorem mj_ad0 (h : a % 4 = 0) : mj_ad G P a = G.1 (a / 4) := by unfold mj_ad; simp only [h]
theorem mj_ad1 (h : a % 4 = 1) : mj_ad G P a = G.2.1 + a / 4 := by unfold mj_ad; simp only [h]
theorem mj_ad2 (h : a % 4 = 2) : mj_ad G P a = G.2.1 + mj_n1 P + a / 4 := by unfold mj_ad; simp only [h]
theorem mj_ad3 (h : a % 4 = 3) : mj_ad G P a = G.2.1 + mj_n1 P + mj_n2 P + a / 4 := by unfold mj_ad; simp only [h]
theorem mj_set1 (h : a % 4 = 1) : mj_set σ a c = (σ.1.set (a / 4) c, σ.2.1, σ.2.2.1, σ.2.2.2) := by unfold mj_set; simp only [h]
theorem mj_set2 (h : a % 4 = 2) : mj_set σ a c = (σ.1, σ.2.1.set (a / 4) c, σ.2.2.1, σ.2.2.2) := by unfold mj_set; simp only [h]
theorem mj_set3 (h : a % 4 = 3) : mj_set σ a c = (σ.1, σ.2.1, σ.2.2.1.set (a / 4) c, σ.2.2.2) := by unfold mj_set; simp only [h]
theorem mj_HR.lt (h : mj_HR G P σ H) (ha : a % 4 ≠ 0) (hg : mj_get P σ a = some c) : G.2.1 ≤ mj_ad G P a ∧ mj_ad G P a < H.size := by
  obtain ⟨h1, ⟨h2, h3, h4, h5⟩, -⟩ := h
  rw [h1]
  unfold mj_tot
  rcases mj_seg a with q | q | q | q
  · exact absurd q ha
  · rw [mj_get1 q] at hg
    have := (List.getElem?_eq_some_iff.mp hg).1
    rw [mj_ad1 q]; omega
  · rw [mj_get2 q] at hg
    have := (List.getElem?_eq_some_iff.mp hg).1
    have := h4 (by omega)
    rw [mj_ad2 q]; omega
  · rw [mj_get3 q] at hg
    have := (List.getElem?_eq_some_iff.mp hg).1
    have := h5 (by omega)
    rw [mj_ad3 q]; omega
theorem mj_HR.inj (h : mj_HR G P σ H) (ha : a % 4 ≠ 0) (hg : mj_get P σ a = some c) (hb : b % 4 ≠ 0) (hg' : mj_get P σ b = some c') (he : mj_ad G P a = mj_ad G P b) : a = b := by
  obtain ⟨h1, ⟨h2, h3, h4, h5⟩, -⟩ := h
  rcases mj_seg a with q | q | q | q <;> rcases mj_seg b with r | r | r | r <;> first | exact absurd q ha | exact absurd r hb | skip
  all_goals
    first | rw [mj_get1 q] at hg | rw [mj_get2 q] at hg | rw [mj_get3 q] at hg
    first | rw [mj_get1 r] at hg' | rw [mj_get2 r] at hg' | rw [mj_get3 r] at hg'
    have i1 := (List.getElem?_eq_some_iff.mp hg).1
    have i2 := (List.getElem?_eq_some_iff.mp hg').1
    first | rw [mj_ad1 q] at he | rw [mj_ad2 q] at he | rw [mj_ad3 q] at he
    first | rw [mj_ad1 r] at he | rw [mj_ad2 r] at he | rw [mj_ad3 r] at he
  · omega
  · omega
  · omega
  · omega
  · omega
  · omega
  · omega
  · omega
  · omega
theorem mj_set_len (ha : a % 4 ≠ 0) : (mj_set σ a c).1.length = σ.1.length ∧ (mj_set σ a c).2.1.length = σ.2.1.length ∧ (mj_set σ a c).2.2.1.length = σ.2.2.1.length ∧ (mj_set σ a c).2.2.2 = σ.2.2.2 := by
  rcases mj_seg a with q | q | q | q
  · exact absurd q ha
  · rw [mj_set1 q]; simp
  · rw [mj_set2 q]; simp
  · rw [mj_set3 q]; simp
theorem mj_get0 (h : a % 4 = 0) : mj_get P σ a = (mj_old P)[a / 4]? := by unfold mj_get; simp only [h]
theorem mj_get_set_ne (ha : a % 4 ≠ 0) (hne : b ≠ a) : mj_get P (mj_set σ a c) b = mj_get P σ b := by
  rcases mj_seg a with q | q | q | q
  · exact absurd q ha
  all_goals
    first | rw [mj_set1 q] | rw [mj_set2 q] | rw [mj_set3 q]
    rcases mj_seg b with r | r | r | r
    · rw [mj_get0 r, mj_get0 r]
    · rw [mj_get1 r, mj_get1 r]
      try exact List.getElem?_set_ne (fun z => hne (by omega))
    · rw [mj_get2 r, mj_get2 r]
      try exact List.getElem?_set_ne (fun z => hne (by omega))
    · rw [mj_get3 r, mj_get3 r]
      try exact List.getElem?_set_ne (fun z => hne (by omega))
theorem mj_get_set_self (ha : a % 4 ≠ 0) (hg : mj_get P σ a = some c) : mj_get P (mj_set σ a c') a = some c' := by
  rcases mj_seg a with q | q | q | q
  · exact absurd q ha
  · rw [mj_get1 q] at hg ⊢; rw [mj_set1 q]
    exact List.getElem?_set_self (List.getElem?_eq_some_iff.mp hg).1
  · rw [mj_get2 q] at hg ⊢; rw [mj_set2 q]
    exact List.getElem?_set_self (List.getElem?_eq_some_iff.mp hg).1
  · rw [mj_get3 q] at hg ⊢; rw [mj_set3 q]
    exact List.getElem?_set_self (List.getElem?_eq_some_iff.mp hg).1
theorem mj_HR.set (h : mj_HR G P σ H) (ha : a % 4 ≠ 0) (hg : mj_get P σ a = some c) (hc : mj_cR G P c' (mj_ad G P a) H') (hz : H'.size = H.size) (ho : ∀ q, q ≠ mj_ad G P a → H'[q]? = H[q]?) : mj_HR G P (mj_set σ a c') H' := by
  have hlt := h.lt ha hg
  have hinj := fun (b : Nat) (c2 : mj_C) (hb : b % 4 ≠ 0) (hg2 : mj_get P σ b = some c2) => h.inj (a := b) (b := a) hb hg2 ha hg
  obtain ⟨h1, h2, h3, h4⟩ := h
  obtain ⟨l1, l2, l3, l4⟩ := mj_set_len (σ := σ) (c := c') ha
  refine ⟨by rw [hz, h1]; unfold mj_tot; rw [l1, l2, l3], by rw [l1, l2, l3]; exact h2, fun b c2 hb hg2 => ?_, fun q hq => by rw [ho q (by omega)]; exact h4 q hq⟩
  by_cases hba : b = a
  · subst hba
    rw [mj_get_set_self ha hg] at hg2
    cases hg2
    exact hc
  · rw [mj_get_set_ne ha hba] at hg2
    exact (h3 b c2 hb hg2).kept (ho _ (fun z => hba (hinj b c2 hb hg2 z)))
theorem mj_nx_ad (h : mj_HR G P σ H) : mj_ad G P (mj_nx P σ) = H.size := by
  obtain ⟨h1, ⟨h2, h3, h4, h5⟩, -⟩ := h
  rw [h1]
  unfold mj_tot mj_nx
  by_cases q1 : σ.1.length < mj_n1 P
  · rw [if_pos q1, mj_ad1 (by omega)]
    omega
  · rw [if_neg q1]
    by_cases q2 : σ.2.1.length < mj_n2 P
    · rw [if_pos q2, mj_ad2 (by omega)]
      omega
    · rw [if_neg q2, mj_ad3 (by omega)]
      omega
theorem mj_new_tot (n : Nat) : mj_tot (mj_new P σ c n) = mj_tot σ + 1 ∧ (mj_new P σ c n).2.2.2 = σ.2.2.2 + n := by
  unfold mj_new mj_tot
  split
  · simp; omega
  · split
    · simp; omega
    · simp; omega
theorem mj_set_tot (ha : a % 4 ≠ 0) : mj_tot (mj_set σ a c) = mj_tot σ ∧ (mj_set σ a c).2.2.2 = σ.2.2.2 := by
  obtain ⟨l1, l2, l3, l4⟩ := mj_set_len (σ := σ) (c := c) ha
  unfold mj_tot
  rw [l1, l2, l3]
  exact ⟨rfl, l4⟩
theorem mj_get_new {n : Nat} (hg : mj_get P (mj_new P σ c n) a = some c') : mj_get P σ a = some c' ∨ (a = mj_nx P σ ∧ c' = c) := by
  have app : ∀ (l : List mj_C) (k : Nat), (l ++ [c])[k]? = some c' → l[k]? = some c' ∨ (k = l.length ∧ c' = c) := by
    intro l k hk
    rcases Nat.lt_or_ge k l.length with q | q
    · rw [List.getElem?_append_left q] at hk; exact Or.inl hk
    · rw [List.getElem?_append_right q] at hk
      have hz : k - l.length < 1 := (List.getElem?_eq_some_iff.mp hk).1
      have hk0 : k - l.length = 0 := by omega
      rw [hk0] at hk
      exact Or.inr ⟨by omega, by cases hk; rfl⟩
  unfold mj_new at hg
  unfold mj_nx
  by_cases q1 : σ.1.length < mj_n1 P
  · rw [if_pos q1] at hg ⊢
    rcases mj_seg a with q | q | q | q
    · left; unfold mj_get at hg ⊢; rw [q] at hg ⊢; exact hg
    · rw [mj_get1 q] at hg ⊢
      rcases app _ _ hg with z | ⟨z, z2⟩
      · exact Or.inl z
      · exact Or.inr ⟨by omega, z2⟩
    · left; rw [mj_get2 q] at hg ⊢; exact hg
    · left; rw [mj_get3 q] at hg ⊢; exact hg
  · rw [if_neg q1] at hg ⊢
    by_cases q2 : σ.2.1.length < mj_n2 P
    · rw [if_pos q2] at hg ⊢
      rcases mj_seg a with q | q | q | q
      · left; unfold mj_get at hg ⊢; rw [q] at hg ⊢; exact hg
      · left; rw [mj_get1 q] at hg ⊢; exact hg
      · rw [mj_get2 q] at hg ⊢
        rcases app _ _ hg with z | ⟨z, z2⟩
        · exact Or.inl z
        · exact Or.inr ⟨by omega, z2⟩
      · left; rw [mj_get3 q] at hg ⊢; exact hg
    · rw [if_neg q2] at hg ⊢
      rcases mj_seg a with q | q | q | q
      · left; unfold mj_get at hg ⊢; rw [q] at hg ⊢; exact hg
      · left; rw [mj_get1 q] at hg ⊢; exact hg
      · left; rw [mj_get2 q] at hg ⊢; exact hg
      · rw [mj_get3 q] at hg ⊢
        rcases app _ _ hg with z | ⟨z, z2⟩
        · exact Or.inl z
        · exact Or.inr ⟨by omega, z2⟩
theorem mj_HR.new {n : Nat} (h : mj_HR G P σ H) (hc : mj_cR G P c H.size H') (hz : H'.size = H.size + 1) (ho : ∀ q, q < H.size → H'[q]? = H[q]?) : mj_HR G P (mj_new P σ c n) H' := by
  have hnx := mj_nx_ad h
  have hlt := fun (b : Nat) (c2 : mj_C) (hb : b % 4 ≠ 0) (hg2 : mj_get P σ b = some c2) => (h.lt (a := b) hb hg2).2
  obtain ⟨h1, h2, h3, h4⟩ := h
  refine ⟨by rw [hz, h1, (mj_new_tot n).1]; omega, ?_, fun b c2 hb hg2 => ?_, fun q hq => by rw [ho q (by rw [h1]; omega)]; exact h4 q hq⟩
  · obtain ⟨g1, g2, g3, g4⟩ := h2
    unfold mj_new
    split
    · simp only [List.length_append, List.length_singleton]; exact ⟨by omega, g2, fun z => by have := g3 z; omega, fun z => by have := (g4 z).1; omega⟩
    · split
      · simp only [List.length_append, List.length_singleton]; exact ⟨g1, by omega, fun z => by omega, fun z => by have := (g4 z).2; omega⟩
      · simp only [List.length_append, List.length_singleton]; exact ⟨g1, g2, fun z => by omega, fun z => ⟨by omega, by omega⟩⟩
  · rcases mj_get_new hg2 with z | ⟨z, z2⟩
    · exact (h3 b c2 hb z).kept (ho _ (hlt b c2 hb z))
    · subst z; subst z2
      rw [hnx]
      exact hc
end MJ2
