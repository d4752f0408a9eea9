/-! tokens of the class -/
section XI0
variable {c : CX} {d w len b : Nat} {f : Nat → Int32} {T : XS}
theorem xl_indexOfChar {Q : Int32 → XS → Prop} {g : Nat} (hb : mj_get (cP c) (hX c T) b = some (.inl (.byte, len, .inl f))) (hl : len < 2 ^ 31) (hg : g < 128) (hq : Q (if fa_first (fun i => decide (f i = nI g)) len = len then -1 else nI (fa_first (fun i => decide (f i = nI g)) len)) T) : XI c d m_JL_indexOfChar [.ref b, .int (nI g), .int 0, .int (nI len)] T Q := by
  have e8 : (nI g).toInt8.toInt32 = nI g := fa_byte_small hg
  refine ⟨q_JL_indexOfChar, rfl, Nat.le_of_ble_eq_true rfl, ?_⟩
  refine ev_ex 5 (c' := (7, [some (.ref b), some (.int (nI g)), some (.int 0), some (.int (nI len)), some (.int (nI g).toInt8.toInt32), some (.int 0)], [], hX c T)) rfl ?_
  rw [e8]
  suffices H : ∀ (m i : Nat), i + m = len → (∀ j, j < i → decide (f j = nI g) = false) → eX c d m_JL_indexOfChar 7 [some (.ref b), some (.int (nI g)), some (.int 0), some (.int (nI len)), some (.int (nI g)), some (.int (nI i))] T (yI c Q) from H len 0 (by omega) (fun j hj => by omega)
  intro m
  induction m with
  | zero =>
    intro i hi hn
    have ei : i = len := by omega
    subst ei
    refine ev_ex 2 (c' := (10, [some (.ref b), some (.int (nI g)), some (.int 0), some (.int (nI i)), some (.int (nI g)), some (.int (nI i))], [.int (nI i), .int (nI i)], hX c T)) rfl ?_
    refine ev_icmp_ge (tgt := 31) rfl rfl (fun _ => ?_) (fun z => absurd ((nI_leI hl hl).mpr (Nat.le_refl _)) z)
    refine ev_ex 1 (c' := (32, [some (.ref b), some (.int (nI g)), some (.int 0), some (.int (nI i)), some (.int (nI g)), some (.int (nI i))], [.int (-1)], hX c T)) rfl ?_
    rw [if_pos (first_no hn)] at hq
    exact ev_ret rfl rfl rfl ⟨_, _, rfl, rfl, hq⟩
  | succ m ih =>
    intro i hi hn
    refine ev_ex 2 (c' := (10, [some (.ref b), some (.int (nI g)), some (.int 0), some (.int (nI len)), some (.int (nI g)), some (.int (nI i))], [.int (nI len), .int (nI i)], hX c T)) rfl ?_
    refine ev_icmp_ge (tgt := 31) rfl rfl (fun z => absurd ((nI_leI (by omega) (by omega)).mp z) (by omega)) (fun _ => ?_)
    refine ev_ex 2 (c' := (16, [some (.ref b), some (.int (nI g)), some (.int 0), some (.int (nI len)), some (.int (nI g)), some (.int (nI i))], [.int (nI i), .ref b], hX c T)) rfl ?_
    refine ev_ald (i := .baload) rfl (Or.inr (Or.inl rfl)) hb (okx_nI (by omega) hl) (v := .int (f i)) (by rw [show (nI i).toNatClampNeg = i from nI_clamp (by omega)]; rfl) ?_
    refine ev_ex 1 (c' := (19, [some (.ref b), some (.int (nI g)), some (.int 0), some (.int (nI len)), some (.int (nI g)), some (.int (nI i))], [.int (nI g), .int (f i)], hX c T)) rfl ?_
    refine ev_icmp_ne (tgt := 25) rfl rfl (fun z => ?_) (fun z => ?_)
    · refine ev_ex 2 (c' := (7, [some (.ref b), some (.int (nI g)), some (.int 0), some (.int (nI len)), some (.int (nI g)), some (.int (nI i + 1))], [], hX c T)) rfl ?_
      rw [nI_1]
      refine ih (i + 1) (by omega) (fun j hj => ?_)
      rcases Nat.lt_or_ge j i with y | y
      · exact hn j y
      · rw [show j = i by omega]; exact decide_eq_false z
    · refine ev_ex 1 (c' := (24, [some (.ref b), some (.int (nI g)), some (.int 0), some (.int (nI len)), some (.int (nI g)), some (.int (nI i))], [.int (nI i)], hX c T)) rfl ?_
      have e : fa_first (fun i => decide (f i = nI g)) len = i := first_is (by omega) (decide_eq_true z) hn
      rw [e, if_neg (by omega)] at hq
      exact ev_ret rfl rfl rfl ⟨_, _, rfl, rfl, hq⟩
theorem xl_canEncode {Q : Bool → XS → Prop} {g : Nat} (hg : g < 128) (hq : Q true T) : XB c d m_JL_canEncode [.int (nI g)] T Q := by
  refine ⟨q_JL_canEncode, rfl, Nat.le_of_ble_eq_true rfl, ?_⟩
  refine ev_ex 1 (c' := (1, [some (.int (nI g))], [.int (nI g)], hX c T)) rfl ?_
  refine ev_if_lt (tgt := 15) rfl rfl (fun z => absurd z (nI_pos (by omega))) (fun _ => ?_)
  refine ev_ex 2 (c' := (8, [some (.int (nI g))], [.int 255, .int (nI g)], hX c T)) rfl ?_
  refine ev_icmp_gt (tgt := 15) rfl rfl (fun z => absurd ((nI_ltI (a := 255) (by decide) (by omega)).mp z) (by omega)) (fun _ => ?_)
  refine ev_ex 2 (c' := (16, [some (.int (nI g))], [.int 1], hX c T)) rfl ?_
  exact ev_retB (x := true) rfl rfl ⟨_, _, rfl, rfl, hq⟩
theorem xl_indexOf {Q : Int32 → XS → Prop} {g : Nat} (hb : mj_get (cP c) (hX c T) b = some (.inl (.byte, len, .inl f))) (hl : len < 2 ^ 31) (h0 : 0 < len) (hg : g < 128) (hq : Q (if fa_first (fun i => decide (f i = nI g)) len = len then -1 else nI (fa_first (fun i => decide (f i = nI g)) len)) T) : XI c (d + 1) m_JL_indexOf [.ref b, .int (nI g), .int 0, .int (nI len)] T Q := by
  refine ⟨q_JL_indexOf, rfl, Nat.le_of_ble_eq_true rfl, ?_⟩
  refine ev_ex 1 (c' := (1, [some (.ref b), some (.int (nI g)), some (.int 0), some (.int (nI len))], [.int (nI g)], hX c T)) rfl ?_
  refine xq_B (V := true) (S := T) (idx := 88) rfl rfl rfl (Nat.le_of_ble_eq_true rfl) (Nat.le_of_ble_eq_true rfl) rfl (xl_canEncode hg ⟨rfl, rfl⟩) ?_
  refine ev_if_neB (x := true) (tgt := 9) rfl rfl (fun _ => ?_) (fun z => by cases z)
  refine ev_ex 2 (c' := (11, [some (.ref b), some (.int (nI g)), some (.int 0), some (.int (nI len))], [.int 0, .int 0], hX c T)) rfl ?_
  refine xq_I (V := 0) (S := T) (idx := 92) rfl rfl rfl (Nat.le_of_ble_eq_true rfl) (Nat.le_of_ble_eq_true rfl) rfl (wx_JM_max _ _ ⟨fun z => absurd z (by decide), fun _ => ⟨rfl, rfl⟩⟩) ?_
  refine ev_ex 3 (c' := (17, [some (.ref b), some (.int (nI g)), some (.int 0), some (.int (nI len))], [.ref b, .int (nI len)], hX c T)) rfl ?_
  refine ev_len rfl hb ?_
  refine xq_I (V := nI len) (S := T) (idx := 38) rfl rfl rfl (Nat.le_of_ble_eq_true rfl) (Nat.le_of_ble_eq_true rfl) rfl (wx_JM_min _ _ ⟨fun z => ⟨rfl, rfl⟩, fun _ => ⟨rfl, rfl⟩⟩) ?_
  refine ev_ex 3 (c' := (24, [some (.ref b), some (.int (nI g)), some (.int 0), some (.int (nI len))], [.int (nI len), .int 0], hX c T)) rfl ?_
  refine ev_icmp_lt (tgt := 29) rfl rfl (fun _ => ?_) (fun z => absurd ((nI_ltI (a := 0) (by decide) hl).mpr h0) z)
  refine ev_ex 4 (c' := (33, [some (.ref b), some (.int (nI g)), some (.int 0), some (.int (nI len))], [.int (nI len), .int 0, .int (nI g), .ref b], hX c T)) rfl ?_
  refine xc_I (idx := 95) rfl rfl rfl (Nat.le_of_ble_eq_true rfl) (Nat.le_of_ble_eq_true rfl) rfl (xl_indexOfChar hb hl hg hq) (fun x T1 H => ?_)
  exact ev_ret rfl rfl rfl ⟨_, _, rfl, rfl, H⟩
theorem xs_indexOf {Q : Int32 → XS → Prop} {g : Nat} (h : strAt c w len f) (h0 : 0 < len) (hg : g < 128) (hq : Q (if fa_first (fun i => decide (f i = nI g)) len = len then -1 else nI (fa_first (fun i => decide (f i = nI g)) len)) T) : XI c (d + 3) m_JS_indexOf [.ref w, .int (nI g)] T Q := by
  obtain ⟨b, h1, h2, h3⟩ := str_get (σ := hX c T) h
  have h9 := h
  obtain ⟨-, h4, -, -, -, h5⟩ := h
  refine ⟨q_JS_indexOf, rfl, Nat.le_of_ble_eq_true rfl, ?_⟩
  refine ev_ex 3 (c' := (3, [some (.ref w), some (.int (nI g))], [.int 0, .int (nI g), .ref w], hX c T)) rfl ?_
  have inner : XI c (d + 2) m_JS_indexOf_2 [.ref w, .int (nI g), .int 0] T Q := by
    refine ⟨q_JS_indexOf_2, rfl, Nat.le_of_ble_eq_true rfl, ?_⟩
    refine ev_ex 1 (c' := (1, [some (.ref w), some (.int (nI g)), some (.int 0)], [.ref w], hX c T)) rfl ?_
    refine ev_call (idx := 492) rfl rfl rfl (Nat.le_of_ble_eq_true rfl) (Nat.le_of_ble_eq_true rfl) (str_rcv h9 _ _) (js_isLatin1 h9 ⟨_, rfl, ?_⟩)
    refine ev_ex 2 (c' := (8, [some (.ref w), some (.int (nI g)), some (.int 0)], [.ref w], hX c T)) rfl ?_
    refine ev_gf (v := .ref b) rfl rfl h2 ⟨fun _ => rfl, fun _ => h4⟩ rfl ?_
    refine ev_ex 3 (c' := (14, [some (.ref w), some (.int (nI g)), some (.int 0)], [.ref w, .int 0, .int (nI g), .ref b], hX c T)) rfl ?_
    refine ev_call (idx := 505) rfl rfl rfl (Nat.le_of_ble_eq_true rfl) (Nat.le_of_ble_eq_true rfl) (str_rcv h9 _ _) (js_length (d := d) h9 ⟨_, rfl, ?_⟩)
    refine ev_ex 0 (c' := (17, [some (.ref w), some (.int (nI g)), some (.int 0)], [.int (nI len), .int 0, .int (nI g), .ref b], hX c T)) rfl ?_
    refine xc_I (idx := 637) rfl rfl rfl (Nat.le_of_ble_eq_true rfl) (Nat.le_of_ble_eq_true rfl) rfl (xl_indexOf h3 h5 h0 hg hq) (fun x T1 H => ?_)
    refine ev_ex 1 (c' := (36, [some (.ref w), some (.int (nI g)), some (.int 0)], [.int x], hX c T1)) rfl ?_
    exact ev_ret rfl rfl rfl ⟨_, _, rfl, rfl, H⟩
  refine xc_I (idx := 633) rfl rfl rfl (Nat.le_of_ble_eq_true rfl) (Nat.le_of_ble_eq_true rfl) (str_rcv h9 _ _) inner (fun x T1 H => ?_)
  exact ev_ret rfl rfl rfl ⟨_, _, rfl, rfl, H⟩
end XI0
/-- the tokens' cells: the text, its length, the place -/
def TKS (T : XS) (f : Nat → Nat) (n h : Nat) : Prop := frx T 13 0 = some 5 ∧ xI T 13 1 = nI n ∧ xI T 13 2 = nI h ∧ h ≤ n ∧ n ≤ 900 ∧ ∀ j, j < n → xA T 5 j = sgb (f j) ∧ f j < 256
/-- the token that was moved over, from h on -/
def TKA (T : XS) (f : Nat → Nat) (n h : Nat) : Prop := TKS T f n (nx f n h) ∧ h ≤ n ∧ xI T 13 3 = nI (bgn f n h) ∧ xI T 13 4 = nI (kd f n h) ∧ (kd f n h = 36 → xI T 13 5 = nI (vl f n h))
abbrev t13 (b : Nat) : Prop := b = 13
/-- what moving leaves -/
def MVD (T T' : XS) : Prop := frm t13 T T' ∧ frx T' 13 0 = frx T 13 0 ∧ xI T' 13 1 = xI T 13 1 ∧ xI T' 13 6 = xI T 13 6 ∧ xI T' 13 7 = xI T 13 7
theorem MVD.rf {T : XS} : MVD T T := ⟨frm.rf, rfl, rfl, rfl, rfl⟩
theorem MVD.tr {T T' T'' : XS} (h : MVD T T') (h' : MVD T' T'') : MVD T T'' := ⟨h.1.tr h'.1, h'.2.1.trans h.2.1, h'.2.2.1.trans h.2.2.1, h'.2.2.2.1.trans h.2.2.2.1, h'.2.2.2.2.trans h.2.2.2.2⟩
theorem xI_nn (T : XS) (a k : Nat) (x : Int32) {a' k' : Nat} (h : ¬ (a' = a ∧ k' = k)) : xI (tI T a k x) a' k' = xI T a' k' := if_neg h
theorem MVD.i {T T' : XS} (h : MVD T T') {k : Nat} (x : Int32) (hk : k ≠ 1 ∧ k ≠ 6 ∧ k ≠ 7) : MVD T (tI T' 13 k x) :=
  h.tr ⟨frm_I (S := t13) (a := 13) rfl _ _, rfl, xI_nn _ _ _ _ (by omega), xI_nn _ _ _ _ (by omega), xI_nn _ _ _ _ (by omega)⟩
theorem sgb_L : ∀ x, x < 256 → isLt (sgb x) = isL x := by decide +kernel
theorem sgb_D : ∀ x, x < 256 → isDg (sgb x) = isD x := by decide +kernel
theorem sgb_10 : ∀ x, x < 256 → (sgb x = 10 ↔ x = 10) := by decide +kernel
theorem sgb_32 : ∀ x, x < 256 → (sgb x = 32 ↔ x = 32) := by decide +kernel
theorem sgb_w : ∀ x, x < 256 → ∀ w, w < 128 → (sgb x = nI w ↔ x = w) := by decide +kernel
theorem sgb_0 : ∀ x, x < 256 → (sgb x ≤ 0 → skd x = 38) ∧ (¬ sgb x ≤ 0 → x < 128 ∧ ((sgb x).toUInt32 % 65536).toInt32 = nI x) := by decide +kernel
theorem sgb_d : ∀ x, x < 256 → isD x = true → sgb x = nI x ∧ 48 ≤ x ∧ x ≤ 57 := by decide +kernel
