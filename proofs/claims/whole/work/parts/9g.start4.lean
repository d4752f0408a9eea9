/-! the law's start: both are as new -/
section SU4
variable {c : CX} {i : IN} {d : Nat} {s s' : RS}
/-- only what is known changes -/
def KNO (s s' : RS) : Prop := s'.1 = s.1 ∧ (∀ i, i ≠ 1 → s'.2.1 i = s.2.1 i) ∧ s'.2.2 = s.2.2
theorem KNO.kn (h : KNO s s') (j : Nat) (x : Int32) : KNO s (rA s' 1 j x) := ⟨h.1, fun i q => (if_neg q).trans (h.2.1 i q), h.2.2⟩
theorem rA_k (s : RS) (j : Nat) (x : Int32) : (rA s 1 j x).2.1 1 = upd (s.2.1 1) j x := rfl
theorem s_tells1 {Q : RS → Prop} (hq : ∀ s', KNO s s' → (∀ x, x < 2101 → s'.2.1 1 x = if 6 ≤ x ∧ x < 16 then -1 else if 27 ≤ x ∧ x < 37 then 1 else 0) → Q s') : RV c d m_R_tellsNothing [.ref 6] s Q := by
  have ph2 : ∀ (m i : Nat) (s1 : RS), i + m = 10 → KNO s s1 → (∀ x, x < 2101 → s1.2.1 1 x = if 6 ≤ x ∧ x < 6 + i then -1 else if 27 ≤ x ∧ x < 27 + i then 1 else 0) → eR c d m_R_tellsNothing 21 [some (.ref 6), some (.int (nI i))] s1 (pV c Q) := by
    intro m
    induction m with
    | zero =>
      intro i s1 hi tn hx
      have e : i = 10 := by omega
      subst e
      exact w_R_tellsNothing_6_21 _ ⟨fun _ => hq s1 tn hx, fun z => absurd ((nI_leI (a := 10) (by decide) (by omega)).mpr (by omega)) z⟩
    | succ m ih =>
      intro i s1 hi tn hx
      refine w_R_tellsNothing_6_21 _ ⟨fun z => absurd ((nI_leI (a := 10) (by decide) (by omega)).mp z) (by omega), fun _ => ⟨okA 6 (by omega) (by decide), w_R_tellsNothing_6_34 _ ⟨okA 27 (by omega) (by decide), ?_⟩⟩⟩
      rw [show ix (6 + nI i) = 6 + i from ixA 6 (by omega), show ix (27 + nI i) = 27 + i from ixA 27 (by omega), nI_1]
      refine ih (i + 1) _ (by omega) ((tn.kn _ _).kn _ _) (fun x h1 => ?_)
      rw [rA_k, rA_k]
      by_cases z : x = 27 + i
      · rw [z, upd_at, if_neg (by omega), if_pos (by omega)]
      · rw [upd_ne _ _ z]
        by_cases y : x = 6 + i
        · rw [y, upd_at, if_pos (by omega)]
        · rw [upd_ne _ _ y, hx x h1]
          exact ite_congr (propext (by omega)) (fun _ => rfl) (fun _ => ite_congr (propext (by omega)) (fun _ => rfl) (fun _ => rfl))
  refine w_R_tellsNothing_6 ?_
  suffices H : ∀ (m i : Nat) (s1 : RS), i + m = 2101 → KNO s s1 → (∀ x, x < i → s1.2.1 1 x = 0) → eR c d m_R_tellsNothing 2 [some (.ref 6), some (.int (nI i))] s1 (pV c Q) from H 2101 0 s (by omega) ⟨rfl, fun _ _ => rfl, rfl⟩ (fun x hx => absurd hx (Nat.not_lt_zero x))
  intro m
  induction m with
  | zero =>
    intro i s1 hi tn hx
    refine w_R_tellsNothing_6_2 _ ⟨fun _ => ph2 10 0 s1 (by omega) tn (fun x h1 => ?_), fun z => absurd ((nI_leI (a := 2101) (by decide) (by omega)).mpr (by omega)) z⟩
    rw [if_neg (by omega), if_neg (by omega)]
    exact hx x (by omega)
  | succ m ih =>
    intro i s1 hi tn hx
    refine w_R_tellsNothing_6_2 _ ⟨fun z => absurd ((nI_leI (a := 2101) (by decide) (by omega)).mp z) (by omega), fun _ => ⟨okn (by omega) (by decide), ?_⟩⟩
    rw [ix_nI (by omega), nI_1]
    refine ih (i + 1) _ (by omega) (tn.kn _ _) (fun x h1 => ?_)
    rw [rA_k]
    by_cases z : x = i
    · rw [z, upd_at]
    · rw [upd_ne _ _ z]; exact hx x (by omega)
def um : Nat → Int32 := upd (upd (upd (upd (upd (upd (upd (upd (upd (upd (fun _ => 0) 0 (-1)) 1 (-1)) 2 (-1)) 3 (-1)) 4 (-1)) 5 (-1)) 6 (-1)) 7 (-1)) 8 (-1)) 9 (-1)
def um4 : Nat → Int32 := upd (upd (upd (upd (fun _ => 0) 0 (-1)) 1 (-1)) 2 (-1)) 3 (-1)
/-- the class as it is made -/
def T0 : XS := (fun _ => (0, 0), fun a k => if (a = 1 ∧ k = 3) ∨ (a = 13 ∧ k = 7) then -1 else 0, fun a k => if a = 93 ∧ k = 0 then some 53 else if a = 173 ∧ k = 0 then some 177 else if a = 13 ∧ k = 0 then some 17 else none, fun a => if a = 97 ∨ a = 213 then um else fun _ => 0, fun _ _ => 0, fun _ _ => none, 0, 18194)
def s0 : RS := (fun k => if k = 15 then -1 else 0, fun a => if a = 15 then um4 else fun _ => 0, fun _ _ => 0)
set_option maxRecDepth 20000 in
set_option maxHeartbeats 4000000 in
theorem hZ_eq : hZ = (List.range 57).map (fun j => cellX T0 (4 * j + 1)) := rfl
def v00 : CV := (0, 0, 0, fun _ => 0, fun _ => 0, [], [], fun _ _ => 0)
def sd0 : SD := (fun _ => none, fun _ => 0, 0)
def A0 : AB := ((0, fun _ => 0), (0, -1), (v00, sd0, []), fun _ => none, fun _ => none)
def T1 : XS := tN T0 22 1 1
theorem COK0 : COK v00 := ⟨Nat.zero_le _, Nat.zero_le _, fun i hi => absurd hi (Nat.not_lt_zero i), Or.inl rfl, Or.inl rfl, fun i hi => absurd hi (Nat.not_lt_zero i), Nat.zero_le _⟩
theorem SOK0 : SOK (vG v00) sd0 := ⟨fun g h e => (by cases e), fun g _ => Nat.zero_le _⟩
theorem in1_ {T : XS} {a : Nat} (h : a % 4 = 1 ∧ a / 4 < 57) : inb T a := Or.inl h
theorem RINV0 (h : KNO s0 s') (hx : ∀ x, x < 2101 → s'.2.1 1 x = if 6 ≤ x ∧ x < 16 then -1 else if 27 ≤ x ∧ x < 37 then 1 else 0) : RINV s' A0 := by
  have e0 : ∀ x, x < 2101 → ¬ (6 ≤ x ∧ x < 16) → ¬ (27 ≤ x ∧ x < 37) → s'.2.1 1 x = 0 := fun x h1 h2 h3 => by rw [hx x h1, if_neg h2, if_neg h3]
  refine ⟨⟨by rw [h.1]; rfl, Nat.zero_le _, fun j hj => absurd hj (Nat.not_lt_zero j)⟩, ⟨by rw [h.1]; rfl, by rw [h.1]; rfl⟩, ⟨⟨⟨e0 0 (by omega) (by omega) (by omega), e0 1 (by omega) (by omega) (by omega), e0 2 (by omega) (by omega) (by omega), e0 3 (by omega) (by omega) (by omega), e0 4 (by omega) (by omega) (by omega), fun g hg => absurd hg (Nat.not_lt_zero g), fun g hg => absurd hg (Nat.not_lt_zero g), fun g hg => absurd hg (Nat.not_lt_zero g), fun g hg => absurd hg (Nat.not_lt_zero g)⟩, ⟨fun g hg => ?_, fun g hg => ?_, e0 26 (by omega) (by omega) (by omega)⟩, COK0, SOK0⟩, e0 5 (by omega) (by omega) (by omega), Nat.zero_le _, fun i a e => by cases e⟩, fun i hi => Or.inl ⟨rfl, by rw [h.2.1 4 (by decide)]; rfl⟩, fun i hi => Or.inl ⟨rfl, ?_⟩⟩
  · rw [hx _ (by omega), if_pos (by omega)]; rfl
  · rw [e0 _ (by omega) (by omega) (by omega)]; rfl
  · rw [h.2.1 15 (by decide)]
    exact (by decide : ∀ i, i < 4 → um4 i = -1) i hi
end SU4
section SU5
theorem T1_SdS : SdS T1 93 := ⟨⟨in1_ (by decide), rfl⟩, rfl, rfl, rfl, ⟨in1_ (by decide), rfl⟩, ⟨in1_ (by decide), rfl⟩, ⟨in1_ (by decide), rfl⟩⟩
theorem T1_STD : STD T1 93 53 sd0 := ⟨T1_SdS, Or.inl rfl, rfl, fun g hg => (by decide : ∀ g, g < 10 → um g = -1) g hg, fun g hg => (by decide : ∀ g, g < 10 → (0 : Int32) = nI (mkb (fun _ => none) g 10)) g hg, fun _ _ => rfl, rfl⟩
theorem T1_CvS : CvS T1 53 := ⟨⟨in1_ (by decide), rfl⟩, ⟨rfl, rfl, rfl, rfl, rfl, rfl, rfl, rfl⟩, ⟨in1_ (by decide), rfl⟩, ⟨in1_ (by decide), rfl⟩, ⟨in1_ (by decide), rfl⟩, ⟨in1_ (by decide), rfl⟩, ⟨in1_ (by decide), rfl⟩, ⟨in1_ (by decide), rfl⟩, ⟨in1_ (by decide), rfl⟩, ⟨in1_ (by decide), rfl⟩⟩
theorem T1_CAR : CAR T1 53 v00 := ⟨T1_CvS, Or.inl rfl, ⟨rfl, rfl, rfl⟩, Or.inl ⟨rfl, rfl⟩, Or.inl ⟨rfl, rfl⟩, rfl, fun g hg => absurd hg (Nat.not_lt_zero g), rfl, fun k hk => by
  have hk : k < 1 := hk
  have e : k = 0 := by omega
  subst e
  exact ⟨rfl, rfl⟩⟩
theorem T1_FAIR : FAIR T1 49 53 v00 sd0 [] := ⟨⟨⟨in1_ (by decide), rfl⟩, rfl, rfl, ⟨in1_ (by decide), rfl⟩⟩, ⟨T1_STD, T1_CAR, COK0, SOK0⟩, ⟨rfl, Nat.zero_le _⟩, fun i b _ e => (by cases (show (none : Option Nat) = some b from e)), fun i j b _ _ e => (by cases (show (none : Option Nat) = some b from e)), fun i s e => by cases e⟩
theorem T1_isF {f : Nat} (h : isF T1 f) : f = 49 := by
  rcases h with h | ⟨i, _, e⟩
  · exact h
  · cases (show (none : Option Nat) = some f from e)
theorem T1_XINV : XINV T1 A0 := ⟨⟨rfl, Nat.zero_le _, fun j hj => absurd hj (Nat.not_lt_zero j)⟩, ⟨rfl, rfl⟩, ⟨53, T1_FAIR⟩, ⟨fun i _ => Or.inl ⟨rfl, rfl⟩, fun i j f _ _ e => (by cases (show (none : Option Nat) = some f from e)), fun f f' h h' ne => absurd ((T1_isF h).trans (T1_isF h').symm) ne⟩, fun i _ => Or.inl ⟨rfl, rfl⟩, fun i j b _ _ e => (by cases (show (none : Option Nat) = some b from e))⟩
theorem T1_SDF : SDF T1 := fun a h3 h => by
  exfalso
  have e : (shx T1 a).1 = 9 := h.2
  unfold shx at e
  rw [if_neg (by omega)] at e
  have e : (if a = 4 * xn T0 + 3 then ((22, 1) : Nat × Nat) else (0, 0)).1 = 9 := e
  split at e <;> cases e
theorem IVE0 {s' : RS} (h : KNO s0 s') (hx : ∀ x, x < 2101 → s'.2.1 1 x = if 6 ≤ x ∧ x < 16 then -1 else if 27 ≤ x ∧ x < 37 then 1 else 0) : IVE 0 T1 s' := ⟨⟨A0, T1_XINV, RINV0 h hx, T1_SDF, (by decide : (1 : Nat) ≤ 909 * 0 + 1), (by decide : (18195 : Nat) ≤ 2900 * 0 + 100000)⟩, Or.inr ⟨rfl, (by decide : 0 < 1)⟩, rfl⟩
end SU5
section SU6
variable {i : IN} {d : Nat}
set_option maxRecDepth 20000 in
set_option maxHeartbeats 4000000 in
theorem law_start (hf : ∀ s, fvok (cX i s)) (hN : i.1 ≤ 100000) : ev (tP i) (d + 66) m_L_law 0 [some (.ref 0), none, none, none, none, none, none, none] [] ([], [], [], 0) (QF i) := by
  refine st_x ?_
  refine ev_new (idx := 129) (σ' := (hZ, [.inr (13, [.null, .null, .null, .null, .int 0, .null, .int 0, .int 0, .int 0, .int 0, .int 0, .int 0, .int 0, .int 0, .int 0, .int 0, .int 0, .int 0, .int 0, .null, .null, .null, .int 0, .null, .null, .null, .int 0, .int 0, .int 0, .null, .null, .int 0, .int 0, .null, .null, .null, .null])], [], 5495)) (a := 2) rfl rfl rfl rfl ?_
  refine ev_ex 1 (c' := (12, [some (.ref 0), some (.ref 1), none, none, none, none, none, none], [.ref 2, .ref 2], (hZ, [.inr (13, [.null, .null, .null, .null, .int 0, .null, .int 0, .int 0, .int 0, .int 0, .int 0, .int 0, .int 0, .int 0, .int 0, .int 0, .int 0, .int 0, .int 0, .null, .null, .null, .int 0, .null, .null, .null, .int 0, .int 0, .int 0, .null, .null, .int 0, .int 0, .null, .null, .null, .null])], [], 5495))) rfl ?_
  refine ev_call (idx := 131) rfl rfl rfl (Nat.le_of_ble_eq_true rfl) (Nat.le_of_ble_eq_true rfl) rfl ⟨q_R_init, rfl, (Nat.le_of_ble_eq_true rfl), ?_⟩
  refine st_r ?_
  refine ev_call (d := d + 64) (idx := 67) rfl rfl rfl (Nat.le_of_ble_eq_true rfl) (Nat.le_of_ble_eq_true rfl) rfl ?_
  refine cal_mono (show RV (cR i T0) (d + 64) m_R_tellsNothing [.ref 6] s0 (fun s' => KNO s0 s' ∧ ∀ x, x < 2101 → s'.2.1 1 x = if 6 ≤ x ∧ x < 16 then -1 else if 27 ≤ x ∧ x < 37 then 1 else 0) from s_tells1 (fun s' h hx => ⟨h, hx⟩)) ?_
  rintro r σ' ⟨s', rfl, rfl, hk, hx⟩
  refine ⟨none, rfl, ?_⟩
  refine ev_ret rfl rfl rfl ⟨_, rfl, ?_⟩
  show ev (tP i) (d + 66) m_L_law 15 [some (.ref 0), some (.ref 1), none, none, none, none, none, none] [.ref 2] (hX (cX i s') T0) (QF i)
  refine ev_ex 2 (c' := (17, [some (.ref 0), some (.ref 1), some (.ref 2), none, none, none, none, none], [.int 1], hX (cX i s') T0)) rfl ?_
  refine xe_nal (c := cX i s') (T := T0) (n := 1) (RL_X i s') rfl (by decide) ?_
  refine ev_ex 3 (c' := (23, lL 0 none none none, [], hX (cX i s') T1)) rfl ?_
  exact law_lp hf hN i.1 0 T1 s' none none none (by omega) (by omega) (IVE0 hk hx)
end SU6
