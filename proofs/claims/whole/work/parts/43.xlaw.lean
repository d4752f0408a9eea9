/-! laws and nights of the class -/
theorem mkb_lob' {G : Nat} {w : Nat → Option Nat} {g : Nat} (hG : G ≤ 10) (h0 : mkb w g G ≠ 0) : lob (mkb w g G) < G ∧ w (lob (mkb w g G)) = some g := by
  have h2 := mkb_lt w g G
  have h3 : 2 ^ G ≤ 2 ^ 10 := Nat.pow_le_pow_right (by decide) hG
  have h1 := (lob_lt _ (by omega) h0).2
  rw [mkb_bit] at h1
  exact of_decide_eq_true h1
theorem thenW_ok {v : CV} {a : SD} (hG : vG v ≤ 10) (h : SOK (vG v) a) {g x : Nat} (hx : thenW v a g = some x) : g < vG v ∧ x < vG v ∧ x ≠ g := by
  unfold thenW at hx
  split at hx
  · exact h.1 g x hx
  · rename_i h0
    split at hx
    · have hx := Option.some.inj hx
      subst hx
      obtain ⟨l1, l2⟩ := mkb_lob' hG h0
      have := h.1 _ _ l2
      exact ⟨this.2.1, l1, fun q => this.2.2 q.symm⟩
    · exact h.1 g x hx
theorem nightS_sok {v : CV} {a : SD} (hG : vG v ≤ 10) (h : SOK (vG v) a) : SOK (vG v) (nightS v a) := ⟨fun _ _ hx => thenW_ok hG h hx, h.2⟩
theorem thenW_none {v : CV} {a : SD} (hG : vG v ≤ 10) (h : SOK (vG v) a) {g : Nat} (hg : vG v ≤ g) : thenW v a g = none := by
  cases e : thenW v a g with
  | none => rfl
  | some x => have := (thenW_ok hG h e).1; omega
theorem sok_none {G : Nat} {a : SD} (h : SOK G a) {g : Nat} (hg : G ≤ g) : a.1 g = none := by
  cases e : a.1 g with
  | none => rfl
  | some x => have := (h.1 g x e).1; omega
theorem mkb_lt' {w : Nat → Option Nat} {g G : Nat} (hG : G ≤ 10) : mkb w g G < 1024 := by
  have h2 := mkb_lt w g G
  have h3 : 2 ^ G ≤ 2 ^ 10 := Nat.pow_le_pow_right (by decide) hG
  omega
abbrev ctr (b : Nat) : Prop := b = 121 ∨ b = 125
abbrev ct1 (b : Nat) : Prop := b = 121
theorem ct1_ctr {b : Nat} (h : ct1 b) : ctr b := Or.inl h
theorem ctr_scr {b : Nat} (h : ctr b) : scr b := by rcases h with rfl | rfl <;> decide
theorem ctr_3 {b : Nat} (h : b % 4 = 3) : ¬ ctr b := fun q => by rcases q with rfl | rfl <;> omega
section CT2
variable {S : Nat → Prop} {c : CX} {d : Nat} {T T' : XS} {a ca : Nat} {v : CV} {sd : SD}
theorem oks_ctr (h : oks a) : ¬ ctr a ∧ ¬ ctr (sW a) ∧ ¬ ctr (sM a) ∧ ¬ ctr (sR a) := by
  rcases h with rfl | rfl | z
  · decide
  · decide
  · obtain ⟨e1, e2, e3⟩ := sW_3 z
    rw [e1, e2, e3]
    exact ⟨ctr_3 z, ctr_3 (by omega), ctr_3 (by omega), ctr_3 (by omega)⟩
theorem frm.stdc (h : frm ctr T T') (q : STD T a ca sd) : STD T' a ca sd := by
  obtain ⟨n0, n1, n2, n3⟩ := oks_ctr q.2.1
  exact h.std q n0 n1 n2 n3
theorem frm.CSc (h : frm ctr T T') (q : CS T a ca v sd) : CS T' a ca v sd := ⟨h.stdc q.1, (h.mono (fun _ => ctr_scr)).CARs q.2.1, q.2.2⟩
theorem okn {k n : Nat} (h : k < n) (hn : n < 2 ^ 31) : okx (nI k) n := okx_nI' h hn
theorem x_atom {Q : Int32 → XS → Prop} (h : CS T a ca v sd) {k g b : Nat} (hk : k < 8) (hg : g < vG v) (hb : b < vG v) (hq : Q (wen v sd g b k) T) : XI c (d + 1) m_Ct_atom [.int (nI (17 + k)), .ref a, .int (nI g), .int (nI b)] T Q := by
  have hG := h.G
  have key : ∀ j : Nat, j < 2 ^ 31 → (nI (17 + k) = nI j ↔ 17 + k = j) := fun j hj => nI_inj (by omega) hj
  have eg : ix (nI g) = g := ix_nI (by omega)
  have eb : ix (nI b) = b := ix_nI (by omega)
  have s := h.1.1
  unfold wen at hq
  refine wx_Ct_atom _ _ _ _ ⟨fun z => ⟨s, okn (by omega) (by decide), ?_⟩, fun z => ⟨s, okn (by omega) (by decide), ?_⟩, fun z => ⟨s, ca, h.fc, h.2.1.1, okn (by omega) (by decide), ?_⟩, fun z => ⟨s, ca, h.fc, h.2.1.1, okn (by omega) (by decide), ?_⟩, fun z => ⟨s, okn (by omega) (by decide), ?_⟩, fun z => ⟨s, okn (by omega) (by decide), ?_⟩, fun z => ⟨s, okn (by omega) (by decide), ?_⟩, fun z => ⟨s, ?_⟩⟩
  · cases (show k = 0 by have := (key 17 (by decide)).mp z; omega)
    rw [eg, h.rk (by omega)]; exact hq
  · cases (show k = 1 by have := (key 18 (by decide)).mp z; omega)
    rw [eb, h.rk (by omega)]; exact hq
  · cases (show k = 2 by have := (key 19 (by decide)).mp z; omega)
    rw [eg, (h.2.1.2.2.2.2.2.2.1 g hg).1]; exact hq
  · cases (show k = 3 by have := (key 20 (by decide)).mp z; omega)
    rw [eb, (h.2.1.2.2.2.2.2.2.1 b hb).1]; exact hq
  · cases (show k = 4 by have := (key 21 (by decide)).mp z; omega)
    rw [eg, h.mk (by omega), bcI_nI _ (mkb_t _ _), h.mkG]; exact hq
  · cases (show k = 5 by have := (key 22 (by decide)).mp z; omega)
    rw [eb, h.mk (by omega), bcI_nI _ (mkb_t _ _), h.mkG]; exact hq
  · cases (show k = 6 by have := (key 23 (by decide)).mp z; omega)
    rw [eb, h.wh (by omega), oI_some (fun x hx => by have := h.w10 hx; omega) (by omega)]
    simp only [Nat.reduceEqDiff, if_false, if_true] at hq
    exact ⟨fun q => by rwa [if_neg q] at hq, fun q => by rwa [if_pos q] at hq⟩
  · obtain ⟨z0, z1, z2, z3, z4, z5, z6⟩ := z
    rw [if_neg (fun q => z0 (by rw [q]; rfl)), if_neg (fun q => z1 (by rw [q]; rfl)), if_neg (fun q => z2 (by rw [q]; rfl)), if_neg (fun q => z3 (by rw [q]; rfl)), if_neg (fun q => z4 (by rw [q]; rfl)), if_neg (fun q => z5 (by rw [q]; rfl)), if_neg (fun q => z6 (by rw [q]; rfl))] at hq
    rw [h.1.2.2.2.2.2.2]
    exact hq
theorem bnd_cl (s : Int64) : bnd s = if s ≤ 1000000 then (if (-1000000) ≤ s then s.toInt32 else -1000000) else 1000000 := by
  have e1 : ((1000000 : Int64).toInt : Int) = 1000000 := rfl
  have e2 : ((-1000000 : Int64).toInt : Int) = -1000000 := rfl
  have l1 : ∀ x y : Int64, x < y ↔ x.toInt < y.toInt := fa_lt64
  have l2 : ∀ x y : Int64, x ≤ y ↔ x.toInt ≤ y.toInt := fa_le64
  unfold bnd mxL mnL
  by_cases h1 : s < 1000000
  · have h1' : s ≤ 1000000 := by rw [l1] at h1; rw [l2]; omega
    rw [if_pos h1, if_pos h1']
    by_cases h2 : (-1000000) < s
    · have h2' : (-1000000) ≤ s := by rw [l1] at h2; rw [l2]; omega
      rw [if_pos h2, if_pos h2']
    · rw [if_neg h2]
      by_cases h3 : (-1000000) ≤ s
      · have : s = -1000000 := by rw [fa_eq64]; rw [l1] at h2; rw [l2] at h3; omega
        rw [if_pos h3, this]
      · rw [if_neg h3]; rfl
  · rw [if_neg h1, if_pos (by decide)]
    by_cases h2 : s ≤ 1000000
    · have : s = 1000000 := by rw [fa_eq64]; rw [l1] at h1; rw [l2] at h2; omega
      rw [if_pos h2, this]
      decide
    · rw [if_neg h2]; rfl
theorem x_joined {Q : Int32 → XS → Prop} {k : Nat} (hk : 10 ≤ k ∧ k ≤ 17) {x y : Int32} (hb : 16 ≤ k → (x = 0 ∨ x = 1) ∧ (y = 0 ∨ y = 1)) (hq : Q (dn k x y) T) : XI c d m_Ct_joined [.int (nI (tkC k - 1000)), .int x, .int y] T Q := by
  have clamp : ∀ s : Int64, Q (bnd s) T → ((s ≤ 1000000 → ((((-1000000)) ≤ s → Q s.toInt32 T) ∧ (¬ ((-1000000)) ≤ s → Q ((-1000000)) T))) ∧ (¬ s ≤ 1000000 → Q 1000000 T)) := fun s hs => by
    rw [bnd_cl] at hs
    refine ⟨fun q => ⟨fun q2 => ?_, fun q2 => ?_⟩, fun q => ?_⟩
    · rwa [if_pos q, if_pos q2] at hs
    · rwa [if_pos q, if_neg q2] at hs
    · rwa [if_neg q] at hs
  have : k = 10 ∨ k = 11 ∨ k = 12 ∨ k = 13 ∨ k = 14 ∨ k = 15 ∨ k = 16 ∨ k = 17 := by omega
  unfold dn at hq
  rcases this with rfl | rfl | rfl | rfl | rfl | rfl | rfl | rfl <;> simp only [Nat.reduceEqDiff, if_false, if_true] at hq
  · exact wx_Ct_joined _ _ _ ⟨fun z => absurd z (by decide), fun _ => clamp _ hq, fun z => absurd z (by decide), fun z => absurd z (by decide), fun z => absurd z (by decide), fun z => absurd z (by decide), fun z => absurd z (by decide), fun z => absurd rfl z.2.1⟩
  · exact wx_Ct_joined _ _ _ ⟨fun z => absurd z (by decide), fun z => absurd z (by decide), fun _ => clamp _ hq, fun z => absurd z (by decide), fun z => absurd z (by decide), fun z => absurd z (by decide), fun z => absurd z (by decide), fun z => absurd rfl z.2.2.1⟩
  · exact wx_Ct_joined _ _ _ ⟨fun z => absurd z (by decide), fun z => absurd z (by decide), fun z => absurd z (by decide), fun _ => clamp _ hq, fun z => absurd z (by decide), fun z => absurd z (by decide), fun z => absurd z (by decide), fun z => absurd rfl z.2.2.2.1⟩
  · simp only [fa_wide_eq] at hq
    exact wx_Ct_joined _ _ _ ⟨fun z => absurd z (by decide), fun z => absurd z (by decide), fun z => absurd z (by decide), fun z => absurd z (by decide), fun _ => ⟨fun q => by rwa [if_neg q] at hq, fun q => by rwa [if_pos q] at hq⟩, fun z => absurd z (by decide), fun z => absurd z (by decide), fun z => absurd rfl z.2.2.2.2.1⟩
  · simp only [fa_wide_le] at hq
    exact wx_Ct_joined _ _ _ ⟨fun z => absurd z (by decide), fun z => absurd z (by decide), fun z => absurd z (by decide), fun z => absurd z (by decide), fun z => absurd z (by decide), fun _ => ⟨fun q => by rwa [if_pos q] at hq, fun q => by rwa [if_neg q] at hq⟩, fun z => absurd z (by decide), fun z => absurd rfl z.2.2.2.2.2.1⟩
  · simp only [fa_wide_le] at hq
    exact wx_Ct_joined _ _ _ ⟨fun z => absurd z (by decide), fun z => absurd z (by decide), fun z => absurd z (by decide), fun z => absurd z (by decide), fun z => absurd z (by decide), fun z => absurd z (by decide), fun _ => ⟨fun q => by rwa [if_pos q] at hq, fun q => by rwa [if_neg q] at hq⟩, fun z => absurd rfl z.2.2.2.2.2.2⟩
  · refine wx_Ct_joined _ _ _ ⟨fun _ => ?_, fun z => absurd z (by decide), fun z => absurd z (by decide), fun z => absurd z (by decide), fun z => absurd z (by decide), fun z => absurd z (by decide), fun z => absurd z (by decide), fun z => absurd rfl z.1⟩
    obtain ⟨rfl | rfl, rfl | rfl⟩ := hb (by decide) <;> exact hq
  · refine wx_Ct_joined _ _ _ ⟨fun z => absurd z (by decide), fun z => absurd z (by decide), fun z => absurd z (by decide), fun z => absurd z (by decide), fun z => absurd z (by decide), fun z => absurd z (by decide), fun z => absurd z (by decide), fun _ => ?_⟩
    obtain ⟨rfl | rfl, rfl | rfl⟩ := hb (by decide) <;> exact hq
/-- what is told to be a truth is 0 or 1 -/
def bok (ty : List Bool) (f : Nat → Int32) : Prop := ∀ i, ty[i]? = some true → f (ty.length - 1 - i) = 0 ∨ f (ty.length - 1 - i) = 1
theorem dn_b {x : Nat} (hx : 13 ≤ x) (u w : Int32) : dn x u w = 0 ∨ dn x u w = 1 := by
  unfold dn
  rw [if_neg (by omega), if_neg (by omega), if_neg (by omega)]
  repeat' split
  all_goals first | exact Or.inl rfl | exact Or.inr rfl
theorem bok_step {e : Nat → Int32} {ty ty' : List Bool} {f : Nat → Int32} {n x : Nat} (ht : tkS ty x = some ty') (hty : ty.length = n) (h : bok ty f) : bok ty' (evS e (f, n) x).1 := by
  intro i hi
  have hil := (List.getElem?_eq_some_iff.mp hi).1
  rcases tkS_cases ht with ⟨h1, h2, h3, h4⟩ | ⟨h1, r, h2, h3⟩ | ⟨h1, h1', bb, r, h2, h3, h4⟩
  · subst h4
    match i, hi with
    | i + 1, hi =>
      have hi2 : ty[i]? = some true := hi
      have hil2 := (List.getElem?_eq_some_iff.mp hi2).1
      have := h i hi2
      simp only [evS, if_pos h1, List.length_cons, upd]
      rw [if_neg (by omega), show ty.length + 1 - 1 - (i + 1) = ty.length - 1 - i by omega]
      exact this
  · subst h1; subst h2; subst h3
    have := h i hi
    simp only [List.length_cons] at hty hil this ⊢
    simp only [evS, upd, show ¬ 100 ≤ 18 by decide, if_false, if_true]
    split
    · rename_i q
      have e0 : r.length + 1 - 1 - i = n - 1 := by omega
      rw [e0] at this
      rcases this with z | z <;> rw [z]
      · exact Or.inr (by decide)
      · exact Or.inl (by decide)
    · exact this
  · have hl : ty.length = r.length + 2 := by rcases h4 with ⟨_, _, q⟩ | ⟨_, _, _, q⟩ | ⟨_, _, q⟩ <;> rw [q] <;> rfl
    subst h3
    match i, hi with
    | 0, hi =>
      have hbb : bb = true := Option.some.inj hi
      have hx : 13 ≤ x := by
        rcases h4 with ⟨_, q, _⟩ | ⟨q, _, _, _⟩ | ⟨q, _, _⟩
        · rw [hbb] at q; cases q
        · exact q
        · omega
      simp only [evS, if_neg (show ¬ 100 ≤ x by omega), if_neg h1', List.length_cons, upd]
      rw [if_pos (by omega)]
      exact dn_b hx _ _
    | i + 1, hi =>
      have hi2 : r[i]? = some true := hi
      have hil2 := (List.getElem?_eq_some_iff.mp hi2).1
      have hi3 : ty[i + 2]? = some true := by rcases h4 with ⟨_, _, q⟩ | ⟨_, _, _, q⟩ | ⟨_, _, q⟩ <;> rw [q] <;> exact hi2
      have := h (i + 2) hi3
      simp only [evS, if_neg (show ¬ 100 ≤ x by omega), if_neg h1', List.length_cons, upd]
      rw [if_neg (by omega), show r.length + 1 - 1 - (i + 1) = ty.length - 1 - (i + 2) by omega]
      exact this
theorem evS_n {e : Nat → Int32} {ty ty' : List Bool} {f : Nat → Int32} {n x : Nat} (ht : tkS ty x = some ty') (hty : ty.length = n) : evS e (f, n) x = ((evS e (f, n) x).1, ty'.length) := by
  have := (evS_ag (e := e) (f := f) (f' := f) (fun _ _ => rfl) hty ht).1
  rw [← this]
theorem tkC_lt {x : Nat} (h : x < 2000) : tkC x < 2000 := by
  unfold tkC
  repeat' split
  all_goals omega
theorem holdB_nil (v : CV) (a : SD) (g b : Nat) : holdB v a [] g b = false := rfl
theorem xholds_lp {Q : Bool → XS → Prop} (h : CS T a ca v sd) {g b lb : Nat} {l : List Nat} (hg : g < vG v) (hb : b < vG v) (hlb : lb ≠ 121) (har : ar T lb 20 l.length) (hl : ∀ i, i < l.length → xA T lb i = nI (tkC (l.getD i 0))) (hll : l.length ≤ 900) :
    ∀ (rest : List Nat) (k n : Nat) (f : Nat → Int32) (ty : List Bool), l.drop k = rest → k ≤ l.length → tkL ty rest = some [true] → ty.length = n → n ≤ 60 → bok ty f → (∀ p, p = evF (wen v sd g b) (f, n) rest → Q (hld p) (tW T 121 p.1)) → eX c (d + 2) m_Ct_holds 6 [some (.ref 117), some (.ref lb), some (.ref a), some (.int (nI g)), some (.int (nI b)), some (.int (nI n)), some (.int (nI k)), none, none] (tW T 121 f) (yB c Q) := by
  have hG := h.G
  have hC : ∀ f, CS (tW T 121 f) a ca v sd := fun f => frm.CSc (frm_W (Or.inl rfl) f) h
  intro rest
  induction rest with
  | nil =>
    intro k n f ty hd hk ht hty hn hbk hq
    have hkl : l.length ≤ k := by
      have := congrArg List.length hd
      rw [List.length_drop, List.length_nil] at this
      omega
    refine wx_Ct_holds_6 lb l.length a _ _ _ _ ⟨har, fun _ => ?_, fun z => absurd (nI_leI (by omega) (by omega) |>.mpr hkl) z⟩
    have hq := hq _ rfl
    cases ht
    rw [evF] at hq
    unfold hld at hq
    have h1 : n = 1 := hty.symm
    subst h1
    have h0 := hbk 0 rfl
    refine ⟨fun z => absurd rfl z, fun _ => ⟨rfl, ?_⟩⟩
    rw [show xA (tW T 121 f) 121 (ix 0) = f 0 by rw [tW_at]; rfl]
    refine ⟨fun q => ?_, fun q => ?_⟩
    · rwa [decide_eq_false (by rintro ⟨-, z⟩; have z : f 0 = 1 := z; rw [q] at z; cases z)] at hq
    · rcases h0 with z | z
      · exact absurd z q
      · rwa [decide_eq_true ⟨by omega, z⟩] at hq
  | cons x rest ih =>
    intro k n f ty hd hk ht hty hn hbk hq
    have hkl : k < l.length := by
      have := congrArg List.length hd
      rw [List.length_drop, List.length_cons] at this
      omega
    have hx : l.getD k 0 = x := by
      have e : (l.drop k)[0]? = some x := by rw [hd]; rfl
      rw [List.getElem?_drop, Nat.add_zero] at e
      rw [List.getD_eq_getElem?_getD, e]
      rfl
    have hd' : l.drop (k + 1) = rest := by
      have e : (l.drop k).drop 1 = rest := by rw [hd]; rfl
      rwa [List.drop_drop] at e
    have ex : xA (tW T 121 f) lb (ix (nI k)) = nI (tkC x) := by
      rw [ix_nI (by omega), tW_ne T f hlb, hl k hkl, hx]
    rw [tkL] at ht
    split at ht
    · rename_i ty' hts
      have hq : ∀ p, p = evF (wen v sd g b) (evS (wen v sd g b) (f, n) x) rest → Q (hld p) (tW T 121 p.1) := hq
      have go : ty'.length ≤ 60 → ∀ n' f', n' = ty'.length → f' = (evS (wen v sd g b) (f, n) x).1 → eX c (d + 2) m_Ct_holds 6 [some (.ref 117), some (.ref lb), some (.ref a), some (.int (nI g)), some (.int (nI b)), some (.int (nI n')), some (.int (nI (k + 1))), none, none] (tW T 121 f') (yB c Q) := by
        intro h60 n' f' e1 e2
        subst e1; subst e2
        refine ih (k + 1) _ _ ty' hd' (by omega) ht rfl h60 (bok_step hts hty hbk) (fun p hp => hq p ?_)
        rw [hp, ← evS_n hts hty]
      have hx2 : x < 2000 := by
        rcases tkS_cases hts with ⟨h1, h2, h3, h4⟩ | ⟨h1, r, h2, h3⟩ | ⟨h1, h1', bb, r, h2, h3, h4⟩ <;> omega
      refine wx_Ct_holds_6 lb l.length a _ _ _ _ ⟨har, fun z => absurd ((nI_leI (by omega) (by omega)).mp z) (by omega), fun _ => ⟨okn hkl (by omega), ?_⟩⟩
      rw [ex]
      have hC2 := tkC_lt hx2
      rcases tkS_cases hts with ⟨h1, h2, h3, h4⟩ | ⟨h1, r, h2, h3⟩ | ⟨h1, h1', bb, r, h2, h3, h4⟩
      · have hn' : ty'.length = n + 1 := by rw [h4]; simp [hty]
        rcases h3 with h3 | h3
        · -- a word
          have e1 : tkC x = 1017 + (x - 100) := by unfold tkC; rw [if_neg (by omega), if_pos (by omega)]; omega
          have e3 : nI (1017 + (x - 100)) - 1000 = nI (17 + (x - 100)) := (nI_sub (a := 1017 + (x - 100)) (b := 1000) (by omega)).trans (congrArg nI (by omega))
          rw [e1, e3]
          refine ⟨fun z => absurd ((nI_ltI (b := 1000) (by omega) (by decide)).mp z) (by omega), fun _ => ⟨fun z => absurd ((nI_ltI (b := 17) (by omega) (by decide)).mp z) (by omega), fun _ => ⟨fun z => absurd ((nI_ltI (a := 24) (by decide) (by omega)).mp z) (by omega), fun _ => ?_⟩⟩⟩
          refine wx_Ct_holds_49 lb l.length a _ _ _ _ _ _ ⟨fun _ => ⟨fun _ => ?_, fun z => absurd (nI_leI (a := 1000) (by decide) (by omega) |>.mpr (by omega)) z⟩, fun z => absurd (nI_ltI (b := 64) (by omega) (by decide) |>.mpr (by omega)) z⟩
          refine x_atom (hC f) (by omega) hg hb ⟨okn (by omega) (by decide), ?_⟩
          rw [nI_1, nI_1, ix_nI (by omega), tA_W]
          refine go (by omega) _ _ hn'.symm ?_
          rw [evS, if_pos h1, if_neg (by omega)]
        · -- a number
          have e1 : tkC x = x - 1000 := by unfold tkC; rw [if_pos (by omega)]
          rw [e1]
          refine ⟨fun _ => ?_, fun z => absurd (nI_ltI (b := 1000) (by omega) (by decide) |>.mpr (by omega)) z⟩
          refine wx_Ct_holds_49 lb l.length a _ _ _ _ _ _ ⟨fun _ => ⟨fun z => absurd ((nI_leI (a := 1000) (by decide) (by omega)).mp z) (by omega), fun _ => ⟨okn (by omega) (by decide), ?_⟩⟩, fun z => absurd (nI_ltI (b := 64) (by omega) (by decide) |>.mpr (by omega)) z⟩
          rw [nI_1, nI_1, ix_nI (by omega), tA_W]
          refine go (by omega) _ _ hn'.symm ?_
          rw [evS, if_pos h1, if_pos (by omega)]
      · subst h1
        have hn1 : 1 ≤ n := by rw [← hty, h2]; simp
        have hn' : ty'.length = n := by rw [h3, ← hty, h2]
        refine ⟨fun z => absurd z (by decide), fun _ => ⟨fun _ => ?_, fun z => absurd (by decide) z⟩⟩
        refine wx_Ct_holds_96 lb l.length a _ _ _ _ _ _ ⟨fun z => absurd rfl z, fun _ => ⟨fun _ => ?_, fun z => absurd (nI_leI (a := 1) (by decide) (by omega) |>.mpr hn1) z⟩⟩
        rw [show nI n - 1 = nI (n - 1) from nI_sub (b := 1) hn1, ix_nI (by omega), tW_at, tA_W, nI_1]
        refine ⟨okn (by omega) (by decide), okn (by omega) (by decide), ?_⟩
        refine go (by omega) _ _ hn'.symm ?_
        rw [evS, if_neg (by decide), if_pos rfl]
      · have hn2 : 2 ≤ n ∧ ty'.length = n - 1 := by
          rcases h4 with ⟨_, _, q⟩ | ⟨_, _, _, q⟩ | ⟨_, _, q⟩ <;> rw [← hty, q, h3] <;> simp
        have e96 : eX c (d + 2) m_Ct_holds 96 [some (.ref 117), some (.ref lb), some (.ref a), some (.int (nI g)), some (.int (nI b)), some (.int (nI n)), some (.int (nI k)), some (.int (nI (tkC x))), some (.int (nI (tkC x - 1000)))] (tW T 121 f) (yB c Q) := by
          refine wx_Ct_holds_96 lb l.length a _ _ _ _ _ _ ⟨fun _ => ⟨fun _ => ?_, fun z => absurd (nI_leI (a := 2) (by decide) (by omega) |>.mpr hn2.1) z⟩, fun z => ?_⟩
          · rw [nI_m1 (by omega), show nI (n - 1) - 1 = nI (n - 1 - 1) from nI_sub (b := 1) (by omega), show n - 1 - 1 = n - 2 by omega, ix_nI (by omega), ix_nI (by omega), tW_at, nI_1]
            refine ⟨okn (by omega) (by decide), okn (by omega) (by decide), x_joined h2 (fun h16 => ?_) ⟨okn (by omega) (by decide), ?_⟩⟩
            · have ht2 : ty = true :: true :: r := by
                rcases h4 with ⟨q, _, _⟩ | ⟨_, q, _, _⟩ | ⟨_, _, q⟩
                · omega
                · omega
                · exact q
              have b0 := hbk 0 (by rw [ht2]; rfl)
              have b1 := hbk 1 (by rw [ht2]; rfl)
              rw [hty] at b0 b1
              rw [show n - 1 - 1 = n - 2 by omega] at b1
              exact ⟨b1, by simpa using b0⟩
            · rw [tA_W]
              refine go (by omega) _ _ hn2.2.symm ?_
              rw [evS, if_neg (by omega), if_neg h1']
          · have z := (nI_inj (b := 16) (by omega) (by decide)).mp z
            have : ∀ x, x < 18 → 10 ≤ x → ¬ tkC x - 1000 = 16 := by decide
            exact absurd z (this x (by omega) h2.1)
        have hge : ∀ x, x < 18 → 10 ≤ x → 1000 ≤ tkC x ∧ (tkC x - 1000 < 17 ∨ 24 < tkC x - 1000) := by decide
        obtain ⟨g1, g2⟩ := hge x (by omega) h2.1
        rw [show nI (tkC x) - 1000 = nI (tkC x - 1000) from nI_sub (b := 1000) g1]
        refine ⟨fun z => absurd ((nI_ltI (b := 1000) (by omega) (by decide)).mp z) (by omega), fun _ => ⟨fun _ => e96, fun z => ⟨fun _ => e96, fun z2 => ?_⟩⟩⟩
        rcases g2 with q | q
        · exact absurd (nI_ltI (b := 17) (by omega) (by decide) |>.mpr q) z
        · exact absurd (nI_ltI (a := 24) (by decide) (by omega) |>.mpr q) z2
    · cases ht
theorem x_holds {Q : Bool → XS → Prop} (h : CS T a ca v sd) {g b lb : Nat} {l : List Nat} (hg : g < vG v) (hb : b < vG v) (hlb : lb ≠ 121) (har : ar T lb 20 l.length) (hl : ∀ i, i < l.length → xA T lb i = nI (tkC (l.getD i 0))) (hok : lawok l) (hq : ∀ T', frm ct1 T T' → Q (holdB v sd l g b) T') : XB c (d + 2) m_Ct_holds [.ref 117, .ref lb, .ref a, .int (nI g), .int (nI b)] T Q := by
  refine wx_Ct_holds lb l.length a _ _ ?_
  have e := xholds_lp (c := c) (d := d) (Q := Q) h hg hb hlb har hl hok.2 l 0 0 (xA T 121) [] rfl (by omega) hok.1 rfl (by omega) (fun i hi => by simp at hi) ?_
  · rw [tW_id] at e
    exact e
  · intro p hp
    have e2 : hld p = holdB v sd l g b := by rw [hp]; exact hld_any hok _
    rw [e2]
    exact hq _ (frm_W (S := ct1) rfl _)
theorem x_allows {Q : Bool → XS → Prop} (h : CS T a ca v sd) {g b : Nat} (hg : g < vG v) (hb : b < vG v) (hq : ∀ T', frm ct1 T T' → Q (mayB v sd g b) T') : XB c (d + 3) m_Ct_allows [.ref 117, .ref a, .int (nI g), .int (nI b)] T Q := by
  refine wx_Ct_allows _ _ _ ⟨h.1.1, ca, h.fc, h.2.1.1, fun z => ?_, fun lb z => ?_⟩
  · rcases h.2.1.2.2.2.1 with ⟨q1, q2⟩ | ⟨b', q1, -⟩
    · have := hq T frm.rf
      unfold mayB at this
      rwa [q2] at this
    · rw [z] at q1; cases q1
  · rcases h.2.1.2.2.2.1 with ⟨q1, q2⟩ | ⟨b', q1, q2, q3, q4, q5, q6⟩
    · rw [z] at q1; cases q1
    · rw [z] at q1
      cases q1
      have hok : lawok (vM v) := by
        rcases h.2.2.1.2.2.2.1 with q | q
        · exact absurd q q2
        · exact q
      refine x_holds h hg hb (by omega) q4 q6 hok (fun T' hf => ?_)
      have := hq T' hf
      unfold mayB at this
      rw [decide_eq_false q2, Bool.false_or] at this
      exact ⟨fun q => by rwa [q] at this, fun q => by rwa [q] at this⟩
theorem oI_m1 {o : Option Nat} (h : ∀ k, o = some k → k < 2 ^ 31) : oI o = -1 ↔ o = none := oI_none h
theorem x_answer {Q : Int32 → XS → Prop} (h : CS T a ca v sd) {g : Nat} (hg : g < vG v) (hq : ∀ T', frm ct1 T T' → Q (oI (thenW v sd g)) T') : XI c (d + 3) m_Ct_answer [.ref 117, .ref a, .int (nI g)] T Q := by
  have hG := h.G
  have eg : ix (nI g) = g := ix_nI (by omega)
  have ok : okx (nI g) 10 := okn (by omega) (by decide)
  refine wx_Ct_answer _ _ ⟨h.1.1, ca, h.fc, h.2.1.1, ok, ?_⟩
  rw [eg, h.mk (by omega), h.mkG]
  refine x_leastOf (mkb_lt' hG) ?_
  have stay : ∀ T', frm ct1 T T' → thenW v sd g = sd.1 g → (SdS T' a ∧ okx (nI g) 10 ∧ Q (xA T' (sW a) g) T') := fun T' hf e => by
    refine ⟨hf.sds h.1.1, ok, ?_⟩
    rw [((hf.mono (fun _ => ct1_ctr)).CSc h).wh (by omega), ← e]
    exact hq T' hf
  refine ⟨fun z => ?_, fun lb z => ?_⟩
  · refine stay T frm.rf ?_
    rcases h.2.1.2.2.2.2.1 with ⟨q1, q2⟩ | ⟨b', q1, -⟩
    · unfold thenW
      split
      · rfl
      · rw [if_neg (by rw [q2, holdB_nil]; decide)]
    · rw [z] at q1; cases q1
  · rcases h.2.1.2.2.2.2.1 with ⟨q1, q2⟩ | ⟨b', q1, q2, q3, q4, q5, q6⟩
    · rw [z] at q1; cases q1
    · rw [z] at q1
      cases q1
      have hok : lawok (vA v) := by
        rcases h.2.2.1.2.2.2.2.1 with q | q
        · exact absurd q q2
        · exact q
      by_cases h0 : mkb sd.1 g (vG v) = 0
      · rw [show lbo (mkb sd.1 g (vG v)) = none by unfold lbo; rw [if_pos h0]]
        refine ⟨fun _ => stay T frm.rf (by unfold thenW; rw [if_pos h0]), fun z => absurd rfl z⟩
      · obtain ⟨l1, l2⟩ := mkb_lob' hG h0
        have et : thenW v sd g = if holdB v sd (vA v) g (lob (mkb sd.1 g (vG v))) = true then some (lob (mkb sd.1 g (vG v))) else sd.1 g := by unfold thenW; rw [if_neg h0]
        rw [show lbo (mkb sd.1 g (vG v)) = some (lob (mkb sd.1 g (vG v))) by unfold lbo; rw [if_neg h0]]
        generalize lob (mkb sd.1 g (vG v)) = m at l1 l2 et ⊢
        refine ⟨fun q => ?_, fun _ => x_holds h hg l1 (by omega) q4 q6 hok (fun T' hf => ⟨fun q => stay T' hf ?_, fun q => ?_⟩)⟩
        · have q := (oI_none (o := some m) (fun k hk => by have := Option.some.inj hk; omega)).mp q
          cases q
        · rw [et, if_neg (by rw [q]; decide)]
        · have := hq T' hf
          rw [et, if_pos q] at this
          exact this
end CT2
