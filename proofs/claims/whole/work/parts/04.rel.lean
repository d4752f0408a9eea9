/-! the small machine beside the big one: addresses, values, locals, cells -/
section MJ1
variable {ad : Nat → Nat}
def mj_tr (ad : Nat → Nat) (v : Value) : Value := match v with
  | .ref a => .ref (ad a)
  | .int x => .int x
  | .long x => .long x
  | .float x => .float x
  | .double x => .double x
  | .null => .null
  | .retAddr x => .retAddr x
theorem mj_tr_cat (v : Value) : (mj_tr ad v).category = v.category := by cases v <;> rfl
theorem mj_cat_tr (st : List Value) : ((st.map (mj_tr ad)).map fun v => v.category).sum = mj_cat st := by
  unfold mj_cat
  rw [List.map_map]
  congr 1
  exact List.map_congr_left (fun v _ => mj_tr_cat v)
def mj_LR (ad : Nat → Nat) (L : mj_L) (ls : Array Slot) (nL : Nat) : Prop := L.length = nL ∧ ls.size = nL ∧ lv_wf ls ∧ ∀ (i : Nat) (v : Value), L[i]? = some (some v) → ls[i]? = some (.val (mj_tr ad v))
def mj_as (ad : Nat → Nat) (L : mj_L) : List (Nat × Value) := (List.range L.length).filterMap (fun i => match L[i]? with
  | some (some v) => some (i, mj_tr ad v)
  | _ => none)
theorem mj_as_mem {L : mj_L} {i : Nat} {w : Value} : (i, w) ∈ mj_as ad L ↔ ∃ v, L[i]? = some (some v) ∧ w = mj_tr ad v := by
  unfold mj_as
  rw [List.mem_filterMap]
  constructor
  · rintro ⟨j, -, h⟩
    split at h
    · rename_i v hv
      cases h
      exact ⟨v, hv, rfl⟩
    · cases h
  · rintro ⟨v, hv, rfl⟩
    have hl : i < L.length := (List.getElem?_eq_some_iff.mp hv).1
    exact ⟨i, List.mem_range.mpr hl, by rw [hv]⟩
theorem mj_LR.has {L : mj_L} {ls : Array Slot} {nL : Nat} (h : mj_LR ad L ls nL) : lv_has ls nL (mj_as ad L) := by
  obtain ⟨h1, h2, h3, h4⟩ := h
  refine ⟨h2, h3, ?_⟩
  rintro ⟨i, w⟩ hq
  obtain ⟨v, hv, rfl⟩ := mj_as_mem.mp hq
  exact h4 i v hv
theorem mj_kill_len (L : mj_L) (i : Nat) : (mj_kill L i).length = L.length := by
  unfold mj_kill
  split
  · rfl
  · split
    · split
      · simp
      · rfl
    · rfl
theorem mj_kill_at {L : mj_L} {i j : Nat} {w : Value} (h : (mj_kill L i)[j]? = some (some w)) : L[j]? = some (some w) ∧ ¬ (j + 1 = i ∧ w.category = 2) := by
  unfold mj_kill at h
  split at h
  · exact ⟨h, fun q => by omega⟩
  · rename_i k
    split at h
    · rename_i v hv
      split at h
      · rename_i hc
        by_cases hj : k = j
        · subst hj
          have hl : k < L.length := (List.getElem?_eq_some_iff.mp hv).1
          rw [List.getElem?_set_self hl] at h
          cases h
        · rw [List.getElem?_set_ne hj] at h
          exact ⟨h, fun q => hj (by omega)⟩
      · rename_i hc
        refine ⟨h, fun q => ?_⟩
        have hj : j = k := by omega
        subst hj
        rw [h] at hv
        cases hv
        exact hc q.2
    · rename_i hv
      refine ⟨h, fun q => ?_⟩
      have hj : j = k := by omega
      subst hj
      exact hv _ h
theorem mj_LR.st1 {L : mj_L} {ls ls' : Array Slot} {nL i : Nat} {v : Value} (h : mj_LR ad L ls nL) (h' : lv_has ls' nL ((i, mj_tr ad v) :: (mj_as ad L).filter (fun q => !(q.1 == i) && !(q.1 + 1 == i && q.2.category == 2)))) : mj_LR ad (mj_st1 L i v) ls' nL := by
  refine ⟨by rw [mj_st1, List.length_set, mj_kill_len]; exact h.1, h'.1, h'.2.1, fun j w hj => ?_⟩
  apply h'.2.2 (j, mj_tr ad w)
  by_cases hij : i = j
  · subst hij
    rw [mj_st1] at hj
    have hl : i < (mj_kill L i).length := by
      have := (List.getElem?_eq_some_iff.mp hj).1
      simpa using this
    rw [List.getElem?_set_self hl] at hj
    cases hj
    exact List.mem_cons_self
  · rw [mj_st1, List.getElem?_set_ne hij] at hj
    obtain ⟨h1, h2⟩ := mj_kill_at hj
    refine List.mem_cons_of_mem _ (List.mem_filter.mpr ⟨mj_as_mem.mpr ⟨w, h1, rfl⟩, ?_⟩)
    simp only [mj_tr_cat, Bool.and_eq_true, Bool.not_eq_true', beq_eq_false_iff_ne, ne_eq, Bool.and_eq_false_iff]
    refine ⟨fun q => hij q.symm, ?_⟩
    by_cases hz : j + 1 = i
    · right; exact fun q => h2 ⟨hz, q⟩
    · left; exact hz
theorem mj_LR.st2 {L : mj_L} {ls ls' : Array Slot} {nL i : Nat} {v : Value} (h : mj_LR ad L ls nL) (h' : lv_has ls' nL ((i, mj_tr ad v) :: (mj_as ad L).filter (fun q => !(q.1 == i) && (!(q.1 == i + 1) && !(q.1 + 1 == i && q.2.category == 2))))) : mj_LR ad (mj_st2 L i v) ls' nL := by
  refine ⟨by rw [mj_st2, List.length_set, List.length_set, mj_kill_len]; exact h.1, h'.1, h'.2.1, fun j w hj => ?_⟩
  apply h'.2.2 (j, mj_tr ad w)
  rw [mj_st2] at hj
  have hne : i + 1 ≠ j := by
    intro q
    subst q
    have hl := (List.getElem?_eq_some_iff.mp hj).1
    rw [List.getElem?_set_self (by simpa using hl)] at hj
    cases hj
  rw [List.getElem?_set_ne hne] at hj
  by_cases hij : i = j
  · subst hij
    have hl : i < (mj_kill L i).length := by
      have := (List.getElem?_eq_some_iff.mp hj).1
      simpa using this
    rw [List.getElem?_set_self hl] at hj
    cases hj
    exact List.mem_cons_self
  · rw [List.getElem?_set_ne hij] at hj
    obtain ⟨h1, h2⟩ := mj_kill_at hj
    refine List.mem_cons_of_mem _ (List.mem_filter.mpr ⟨mj_as_mem.mpr ⟨w, h1, rfl⟩, ?_⟩)
    simp only [mj_tr_cat, Bool.and_eq_true, Bool.not_eq_true', beq_eq_false_iff_ne, ne_eq, Bool.and_eq_false_iff]
    refine ⟨fun q => hij q.symm, fun q => hne q.symm, ?_⟩
    by_cases hz : j + 1 = i
    · right; exact fun q => h2 ⟨hz, q⟩
    · left; exact hz
/-- a local that nobody reads any more -/
theorem mj_LR.st0 {L : mj_L} {ls ls' : Array Slot} {nL i : Nat} {w0 : Value} (h : mj_LR ad L ls nL) (h' : lv_has ls' nL ((i, w0) :: (mj_as ad L).filter (fun q => !(q.1 == i) && !(q.1 + 1 == i && q.2.category == 2)))) : mj_LR ad ((mj_kill L i).set i none) ls' nL := by
  refine ⟨by rw [List.length_set, mj_kill_len]; exact h.1, h'.1, h'.2.1, fun j w hj => ?_⟩
  apply h'.2.2 (j, mj_tr ad w)
  have hij : i ≠ j := by
    intro q
    subst q
    have hl := (List.getElem?_eq_some_iff.mp hj).1
    rw [List.getElem?_set_self (by simpa using hl)] at hj
    cases hj
  rw [List.getElem?_set_ne hij] at hj
  obtain ⟨h1, h2⟩ := mj_kill_at hj
  refine List.mem_cons_of_mem _ (List.mem_filter.mpr ⟨mj_as_mem.mpr ⟨w, h1, rfl⟩, ?_⟩)
  simp only [mj_tr_cat, Bool.and_eq_true, Bool.not_eq_true', beq_eq_false_iff_ne, ne_eq, Bool.and_eq_false_iff]
  refine ⟨fun q => hij q.symm, ?_⟩
  by_cases hz : j + 1 = i
  · right; exact fun q => h2 ⟨hz, q⟩
  · left; exact hz
end MJ1
