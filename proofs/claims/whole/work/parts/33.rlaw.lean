/-! laws, nights -/
def evS (e : Nat → Int32) (p : (Nat → Int32) × Nat) (x : Nat) : (Nat → Int32) × Nat :=
  if 100 ≤ x then (upd p.1 p.2 (if 1000 ≤ x then nI (x - 1000) else e (x - 100)), p.2 + 1)
  else if x = 18 then (upd p.1 (p.2 - 1) (1 - p.1 (p.2 - 1)), p.2)
  else (upd p.1 (p.2 - 2) (dn x (p.1 (p.2 - 2)) (p.1 (p.2 - 1))), p.2 - 1)
def evF (e : Nat → Int32) (p : (Nat → Int32) × Nat) : List Nat → (Nat → Int32) × Nat
  | [] => p
  | x :: r => evF e (evS e p x) r
def hld (p : (Nat → Int32) × Nat) : Bool := decide (0 < p.2 ∧ p.1 0 = 1)
theorem nI_m1 {n : Nat} (h : 1 ≤ n) : nI n + (-1) = nI (n - 1) := by
  rw [← Int32.sub_eq_add_neg]
  exact nI_sub (b := 1) h
theorem tkS_cases {ty ty' : List Bool} {x : Nat} (h : tkS ty x = some ty') : (100 ≤ x ∧ ty.length < 60 ∧ (x < 108 ∨ 1000 ≤ x ∧ x < 2000) ∧ ty' = false :: ty) ∨ (x = 18 ∧ ∃ r, ty = true :: r ∧ ty' = true :: r) ∨ (x < 100 ∧ x ≠ 18 ∧ ∃ b r, (10 ≤ x ∧ x ≤ 17) ∧ ty' = b :: r ∧ ((x ≤ 12 ∧ b = false ∧ ty = false :: false :: r) ∨ (13 ≤ x ∧ x ≤ 15 ∧ b = true ∧ ty = false :: false :: r) ∨ (16 ≤ x ∧ b = true ∧ ty = true :: true :: r))) := by
  unfold tkS at h
  split at h
  · rename_i h1
    split at h
    · rename_i h2
      cases h
      exact Or.inl ⟨h1, h2.1, h2.2, rfl⟩
    · cases h
  · rename_i h1
    split at h
    · rename_i h2
      split at h
      · cases h
        exact Or.inr (Or.inl ⟨h2, _, rfl, rfl⟩)
      · cases h
    · rename_i h2
      split at h
      · rename_i h3
        split at h
        · cases h
          exact Or.inr (Or.inr ⟨by omega, h2, _, _, by omega, rfl, Or.inl ⟨h3.2, rfl, rfl⟩⟩)
        · cases h
      · rename_i h3
        split at h
        · rename_i h4
          split at h
          · cases h
            exact Or.inr (Or.inr ⟨by omega, h2, _, _, by omega, rfl, Or.inr (Or.inl ⟨h4.1, h4.2, rfl, rfl⟩)⟩)
          · cases h
        · rename_i h4
          split at h
          · rename_i h5
            split at h
            · cases h
              exact Or.inr (Or.inr ⟨by omega, h2, _, _, by omega, rfl, Or.inr (Or.inr ⟨by omega, rfl, rfl⟩)⟩)
            · cases h
          · cases h
section RL1
variable {c : CX} {d : Nat} {s : RS} {v : CV} {a : SD}
theorem KR.put (h : KR s v a) {i : Nat} (f : Nat → Int32) (hi : i ≠ 1) : KR (rW s i f) v a := by
  unfold KR at h ⊢
  rw [rW_ne s f (Ne.symm hi)]
  exact h
theorem holds_lp {Q : Bool → RS → Prop} (h : KR s v a) {g b m at' : Nat} {l : List Nat} (hg : g < vG v) (hb : b < vG v) (hm : m < 10) (hml : s.2.1 1 m = nI l.length) (hl : ∀ i, i < l.length → s.2.1 1 (at' + i) = nI (l.getD i 0)) (hla : at' + l.length ≤ 2101) :
    ∀ (rest : List Nat) (k n : Nat) (f : Nat → Int32) (ty tz : List Bool), l.drop k = rest → k ≤ l.length → tkL ty rest = some tz → ty.length = n → n ≤ 60 → (∀ p, p = evF (wen v a g b) (f, n) rest → Q (hld p) (rW s 6 p.1)) → eR c (d + 3) m_R_holds 6 [some (.ref 2), some (.int (nI m)), some (.int (nI at')), some (.int (nI g)), some (.int (nI b)), some (.int (nI n)), some (.int (nI k)), none] (rW s 6 f) (pB c Q) := by
  have hG := h.2.2.1.1
  have em : ∀ f, (rW s 6 f).2.1 1 (ix (nI m)) = nI l.length := fun f => by rw [ix_nI (by omega), rW_ne s f (by decide)]; exact hml
  intro rest
  induction rest with
  | nil =>
    intro k n f ty tz hd hk ht hty hn hq
    have hkl : l.length ≤ k := by
      have := congrArg List.length hd
      rw [List.length_drop, List.length_nil] at this
      omega
    refine w_R_holds_6 _ _ _ _ _ _ ⟨okx_nI' (by omega) (by decide), fun _ => ?_, fun z => absurd (by rw [em f, nI_leI (by omega) (by omega)]; exact hkl) z⟩
    have hq := hq _ rfl
    rw [evF] at hq
    unfold hld at hq
    refine ⟨fun z => ?_, fun z => ⟨rfl, ?_⟩⟩
    · have z : n ≤ 0 := (nI_leI (by omega) (by decide)).mp z
      rwa [decide_eq_false (by simp; omega)] at hq
    · have z : ¬ n ≤ 0 := fun q => z (nI_leI (b := 0) (by omega) (by decide) |>.mpr q)
      rw [show (rW s 6 f).2.1 6 (ix 0) = f 0 by rw [rW_at]; rfl]
      refine ⟨fun q => ?_, fun q => ?_⟩
      · rwa [decide_eq_false (fun t => q t.2)] at hq
      · rwa [decide_eq_true ⟨by omega, q⟩] at hq
  | cons x rest ih =>
    intro k n f ty tz hd hk ht hty hn hq
    have hkl : k < l.length := by
      have := congrArg List.length hd
      rw [List.length_drop, List.length_cons] at this
      omega
    have hx : l.getD k 0 = x := by
      have e : (l.drop k)[0]? = some x := by rw [hd]; rfl
      rw [List.getElem?_drop, Nat.add_zero] at e
      rw [List.getD_eq_getElem?_getD, e]
      rfl
    have hd' : l.drop (k + 1) = rest := by
      have e : (l.drop k).drop 1 = rest := by rw [hd]; rfl
      rwa [List.drop_drop] at e
    have ex : ∀ f, (rW s 6 f).2.1 1 (ix (nI at' + nI k)) = nI x := fun f => by
      rw [ixA at' (by omega), rW_ne s f (by decide), hl k hkl, hx]
    rw [tkL] at ht
    split at ht
    · rename_i ty' hts
      have hq : ∀ p, p = evF (wen v a g b) (evS (wen v a g b) (f, n) x) rest → Q (hld p) (rW s 6 p.1) := hq
      refine w_R_holds_6 _ _ _ _ _ _ ⟨okx_nI' (by omega) (by decide), fun z => absurd z (by rw [em f, nI_leI (by omega) (by omega)]; omega), fun _ => ⟨okA at' (by omega) (by decide), ?_⟩⟩
      rw [ex f]
      rcases tkS_cases hts with ⟨h1, h2, h3, h4⟩ | ⟨h1, r, h2, h3⟩ | ⟨h1, h1', bb, r, h2, h3, h4⟩
      · refine ⟨fun z => absurd ((nI_ltI (b := 100) (by omega) (by decide)).mp z) (by omega), fun _ => ⟨fun z => ?_, fun z => ?_⟩⟩
        · have z : x < 1000 := (nI_ltI (b := 1000) (by omega) (by decide)).mp z
          rw [show nI x - 100 = nI (x - 100) from nI_sub (b := 100) h1]
          refine s_wordOf (h.put f (by decide)) (by omega) hg hb ⟨okx_nI' (by omega) (by decide), ?_⟩
          rw [nI_1, nI_1, ix_nI (by omega), rA_W, rW_W, rW_at]
          refine ih (k + 1) (n + 1) _ ty' tz hd' (by omega) ht (by rw [h4]; simp [hty]) (by omega) ?_
          intro p hp
          refine hq p ?_
          rw [hp, evS, if_pos h1, if_neg (by omega)]
        · have z : ¬ x < 1000 := fun q => z (nI_ltI (b := 1000) (by omega) (by decide) |>.mpr q)
          refine ⟨okx_nI' (by omega) (by decide), ?_⟩
          rw [nI_1, nI_1, ix_nI (by omega), rA_W, rW_W, rW_at, show nI x - 1000 = nI (x - 1000) from nI_sub (b := 1000) (by omega)]
          refine ih (k + 1) (n + 1) _ ty' tz hd' (by omega) ht (by rw [h4]; simp [hty]) (by omega) ?_
          intro p hp
          refine hq p ?_
          rw [hp, evS, if_pos h1, if_pos (by omega)]
      · subst h1
        have hn1 : 1 ≤ n := by rw [← hty, h2]; simp
        refine ⟨fun _ => ⟨fun z => absurd rfl z, fun _ => ?_⟩, fun z => absurd (nI_ltI (a := 18) (b := 100) (by decide) (by decide) |>.mpr (by decide)) z⟩
        rw [show nI n - 1 = nI (n - 1) from nI_sub (b := 1) hn1, ix_nI (by omega), rW_at, rA_W, rW_W, rW_at, nI_1]
        refine ⟨okx_nI' (by omega) (by decide), okx_nI' (by omega) (by decide), ?_⟩
        refine ih (k + 1) n _ ty' tz hd' (by omega) ht (by rw [h3, ← hty, h2]) (by omega) ?_
        intro p hp
        refine hq p ?_
        rw [hp, evS, if_neg (by decide), if_pos rfl]
      · have hn2 : 2 ≤ n ∧ ty'.length = n - 1 := by
          rcases h4 with ⟨_, _, q⟩ | ⟨_, _, _, q⟩ | ⟨_, _, q⟩ <;> rw [← hty, q, h3] <;> simp
        refine ⟨fun _ => ⟨fun _ => ?_, fun z => absurd ((nI_inj (a := x) (b := 18) (by omega) (by decide)).mp z) h1'⟩, fun z => absurd (nI_ltI (b := 100) (by omega) (by decide) |>.mpr h1) z⟩
        rw [nI_m1 (by omega), show nI (n - 1) - 1 = nI (n - 1 - 1) from nI_sub (b := 1) (by omega), show n - 1 - 1 = n - 2 by omega, ix_nI (by omega), ix_nI (by omega), rW_at, nI_1]
        refine ⟨okx_nI' (by omega) (by decide), okx_nI' (by omega) (by decide), s_done (by omega) ⟨okx_nI' (by omega) (by decide), ?_⟩⟩
        rw [rA_W, rW_W, rW_at]
        refine ih (k + 1) (n - 1) _ ty' tz hd' (by omega) ht hn2.2 (by omega) ?_
        intro p hp
        refine hq p ?_
        rw [hp, evS, if_neg (by omega), if_neg h1']
    · cases ht
/-- what a law says of two -/
def holdB (v : CV) (a : SD) (l : List Nat) (g b : Nat) : Bool := hld (evF (wen v a g b) ((fun _ => 0), 0) l)
/-- what lies above the top doesn't matter -/
theorem evS_ag {e : Nat → Int32} {f f' : Nat → Int32} {n : Nat} {ty ty' : List Bool} {x : Nat} (hag : ∀ i, i < n → f i = f' i) (hty : ty.length = n) (ht : tkS ty x = some ty') : (evS e (f, n) x).2 = ty'.length ∧ (evS e (f', n) x).2 = ty'.length ∧ ∀ i, i < ty'.length → (evS e (f, n) x).1 i = (evS e (f', n) x).1 i := by
  rcases tkS_cases ht with ⟨h1, h2, h3, h4⟩ | ⟨h1, r, h2, h3⟩ | ⟨h1, h1', bb, r, h2, h3, h4⟩
  · subst h4
    simp only [evS, if_pos h1, List.length_cons, hty, true_and]
    intro i hi
    unfold upd
    split
    · rfl
    · exact hag i (by omega)
  · subst h1; subst h3; subst h2
    simp only [List.length_cons] at hty
    simp only [evS, List.length_cons, hty]
    refine ⟨rfl, rfl, fun i hi => ?_⟩
    simp only [show ¬ 100 ≤ 18 by decide, if_false, if_true]
    unfold upd
    split
    · rw [hag (n - 1) (by omega)]
    · exact hag i (by omega)
  · have hn2 : 2 ≤ n ∧ ty'.length = n - 1 := by
      rcases h4 with ⟨_, _, q⟩ | ⟨_, _, _, q⟩ | ⟨_, _, q⟩ <;> rw [← hty, q, h3] <;> simp
    simp only [evS, if_neg (show ¬ 100 ≤ x by omega), if_neg h1', hn2.2, true_and]
    intro i hi
    unfold upd
    split
    · rw [hag (n - 1) (by omega), hag (n - 2) (by omega)]
    · exact hag i (by omega)
theorem evF_ag {e : Nat → Int32} : ∀ (l : List Nat) (f f' : Nat → Int32) (n : Nat) (ty tz : List Bool), (∀ i, i < n → f i = f' i) → ty.length = n → tkL ty l = some tz → (evF e (f, n) l).2 = tz.length ∧ (evF e (f', n) l).2 = tz.length ∧ ∀ i, i < tz.length → (evF e (f, n) l).1 i = (evF e (f', n) l).1 i
  | [], f, f', n, ty, tz, hag, hty, ht => by
    cases ht
    exact ⟨hty.symm, hty.symm, fun i hi => hag i (by omega)⟩
  | x :: l, f, f', n, ty, tz, hag, hty, ht => by
    rw [tkL] at ht
    split at ht
    · rename_i ty' hts
      obtain ⟨e1, e2, e3⟩ := evS_ag (e := e) hag hty hts
      rw [evF, evF]
      have h := evF_ag (e := e) l (evS e (f, n) x).1 (evS e (f', n) x).1 ty'.length ty' tz e3 rfl ht
      rwa [show ((evS e (f, n) x).1, ty'.length) = evS e (f, n) x by rw [← e1], show ((evS e (f', n) x).1, ty'.length) = evS e (f', n) x by rw [← e2]] at h
    · cases ht
theorem hld_any {e : Nat → Int32} {l : List Nat} (hl : lawok l) (f : Nat → Int32) : hld (evF e (f, 0) l) = hld (evF e ((fun _ => 0), 0) l) := by
  obtain ⟨e1, e2, e3⟩ := evF_ag (e := e) l f (fun _ => 0) 0 [] [true] (fun i hi => by omega) rfl hl.1
  unfold hld
  rw [e1, e2, e3 0 (by decide)]
theorem s_holds {Q : Bool → RS → Prop} (h : KR s v a) {g b m at' : Nat} {l : List Nat} (hg : g < vG v) (hb : b < vG v) (hm : m < 10) (hml : s.2.1 1 m = nI l.length) (hl : ∀ i, i < l.length → s.2.1 1 (at' + i) = nI (l.getD i 0)) (hla : at' ≤ 1201) (hok : l = [] ∨ lawok l) (hq : ∀ f, Q (holdB v a l g b) (rW s 6 f)) : RB c (d + 3) m_R_holds [.ref 2, .int (nI m), .int (nI at'), .int (nI g), .int (nI b)] s Q := by
  refine w_R_holds _ _ _ _ ?_
  have h0 : ∃ tz, tkL [] l = some tz := by
    rcases hok with rfl | q
    · exact ⟨[], rfl⟩
    · exact ⟨_, q.1⟩
  have hle : l.length ≤ 900 := by
    rcases hok with rfl | q
    · simp
    · exact q.2
  obtain ⟨tz, htz⟩ := h0
  have e := holds_lp (c := c) (d := d) (Q := Q) h hg hb hm hml hl (by omega) l 0 0 (s.2.1 6) [] tz rfl (by omega) htz rfl (by omega) ?_
  · rw [rW_id] at e
    exact e
  · intro p hp
    have e2 : hld p = holdB v a l g b := by
      rw [hp]
      rcases hok with rfl | q
      · rfl
      · exact hld_any q _
    rw [e2]
    exact hq _
/-- may one mock another -/
def mayB (v : CV) (a : SD) (g b : Nat) : Bool := decide (vM v = []) || holdB v a (vM v) g b
theorem s_mayMock {Q : Bool → RS → Prop} (h : KR s v a) {g b : Nat} (hg : g < vG v) (hb : b < vG v) (hq : ∀ f, Q (mayB v a g b) (rW s 6 f)) : RB c (d + 4) m_R_mayMock [.ref 2, .int (nI g), .int (nI b)] s Q := by
  have hM := h.2.2.1.2.2.2.1
  refine w_R_mayMock _ _ ⟨rfl, ?_⟩
  rw [show s.2.1 1 (ix 3) = nI (vM v).length from h.1.2.2.2.1]
  unfold mayB at hq
  have hlen : (vM v).length ≤ 900 := by
    rcases hM with q | q
    · rw [q]; simp
    · exact q.2
  refine ⟨fun z => ?_, fun z => ?_⟩
  · have z : vM v = [] := List.length_eq_zero_iff.mp ((nI_inj (b := 0) (by omega) (by decide)).mp z)
    have := hq (s.2.1 6)
    rwa [z, rW_id] at this
  · have z : vM v ≠ [] := fun q => z (by rw [q]; rfl)
    refine s_holds h hg hb (by decide) (m := 3) (at' := 301) h.1.2.2.2.1 h.1.2.2.2.2.2.2.2.1 (by decide) hM (fun f => ?_)
    have := hq f
    rw [decide_eq_false z, Bool.false_or] at this
    exact ⟨fun q => by rwa [q] at this, fun q => by rwa [q] at this⟩
/-- whom one would mock behind a night -/
def thenW (v : CV) (a : SD) (g : Nat) : Option Nat := if mkb a.1 g (vG v) = 0 then a.1 g else if holdB v a (vA v) g (lob (mkb a.1 g (vG v))) = true then some (lob (mkb a.1 g (vG v))) else a.1 g
theorem mkb_lob (h : KR s v a) {g : Nat} (h0 : mkb a.1 g (vG v) ≠ 0) : lob (mkb a.1 g (vG v)) < vG v ∧ a.1 (lob (mkb a.1 g (vG v))) = some g := by
  have h1 := (lob_lt _ (mkb_1024 h g) h0).2
  rw [mkb_bit] at h1
  exact of_decide_eq_true h1
theorem s_then {Q : Int32 → RS → Prop} (h : KR s v a) {g : Nat} (hg : g < vG v) (hq : ∀ f, Q (oI (thenW v a g)) (rW s 6 f)) : RI c (d + 4) m_R_then [.ref 2, .int (nI g)] s Q := by
  have hG := h.2.2.1.1
  refine w_R_then _ (s_mockers h (by omega) ?_)
  have h1 := mkb_1024 h g
  unfold thenW at hq
  refine ⟨fun z => ?_, fun z => ?_⟩
  · have z : mkb a.1 g (vG v) ≠ 0 := fun q => z (by rw [q]; rfl)
    rw [if_neg z] at hq
    obtain ⟨l1, l2⟩ := mkb_lob h z
    refine s_firstOf h1 z (s_holds h hg l1 (by decide) (m := 4) (at' := 1201) h.1.2.2.2.2.1 h.1.2.2.2.2.2.2.2.2 (by decide) h.2.2.1.2.2.2.2.1 (fun f => ?_))
    have := hq f
    refine ⟨fun q => ⟨okm (by omega), ?_⟩, fun q => ?_⟩
    · rw [if_neg (by rw [q]; decide)] at this
      rw [(h.put f (by decide)).wh (by omega)]
      exact this
    · rw [if_pos q] at this
      exact this
  · have z : mkb a.1 g (vG v) = 0 := (nI_inj (b := 0) (by omega) (by decide)).mp z
    rw [if_pos z] at hq
    refine ⟨okm (by omega), ?_⟩
    rw [h.wh (by omega)]
    have := hq (s.2.1 6)
    rwa [rW_id] at this
end RL1
