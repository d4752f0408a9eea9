/-! one instruction, one method -/
/-- statics: the last, of which only 'a reference or null' is said, is carried along -/
def sStatF (fv : Value) : List (String × String × String × Value) := sStat ++ [("jdk/internal/util/Preconditions", "SIOOBE_FORMATTER", "Ljava/util/function/BiFunction;", fv)]
def ckU (S : List (String × Nat × Nat)) (own : String) (i : Instr) (K : mj_K) (p : Nat) : Bool := match i, K with
  | .getstatic idx, (1, _, _, _, v) => ckG own idx v p
  | .ldc idx, (9, _, _, _, v) => S.any (fun q => decide (q.1 = own) && (decide (q.2.1 = idx) && decide (v = .ref q.2.2)))
  | .ldc_w idx, (9, _, _, _, v) => S.any (fun q => decide (q.1 = own) && (decide (q.2.1 = idx) && decide (v = .ref q.2.2)))
  | _, _ => true
def okU (S : List (String × Nat × Nat)) (fv : Value) (own : String) (i : Instr) (K : mj_K) : Prop := match i, K with
  | .getstatic idx, (1, _, _, _, v) => ∃ q ∈ sStatF fv, q.2.2.2 = v ∧ (Cond.fieldLink own idx q.1 q.2.1 q.2.2.1 ∈ tg ∨ ∃ host, Cond.fieldLinkNest own idx q.1 q.2.1 q.2.2.1 host ∈ nw)
  | .ldc idx, (9, _, _, _, v) => ∃ q ∈ S, q.1 = own ∧ q.2.1 = idx ∧ v = .ref q.2.2
  | .ldc_w idx, (9, _, _, _, v) => ∃ q ∈ S, q.1 = own ∧ q.2.1 = idx ∧ v = .ref q.2.2
  | .anewarray _, (_, ci, _, _, _) => ∃ (C : String) (T : u_T) (N : Nat), t_cl[ci]? = some (C, T, N) ∧ isQ C = true
  | _, _ => True
theorem ckG_ok {fv : Value} {own : String} {idx p : Nat} {v : Value} (h : ckG own idx v p = true) : ∃ q ∈ sStatF fv, q.2.2.2 = v ∧ (Cond.fieldLink own idx q.1 q.2.1 q.2.2.1 ∈ tg ∨ ∃ host, Cond.fieldLinkNest own idx q.1 q.2.1 q.2.2.1 host ∈ nw) := by
  unfold ckG at h
  obtain ⟨q, hq, h⟩ := List.any_eq_true.mp h
  rw [Bool.and_eq_true, Bool.or_eq_true] at h
  refine ⟨q, List.mem_append_left _ hq, of_decide_eq_true h.1, ?_⟩
  rcases h.2 with h2 | h2
  · exact Or.inl (aG_in h2)
  · split at h2
    · exact Or.inr ⟨_, aN_in h2⟩
    · cases h2
theorem ckU_ok {S : List (String × Nat × Nat)} {fv : Value} {M : mj_M} {i : Instr} {K : mj_K} {p : Nat} (hl : ckL M i K p = true) (h : ckU S M.1.cls i K p = true) : okU S fv M.1.cls i K := by
  obtain ⟨k0, ci, k, w, v⟩ := K
  unfold okU
  split
  · rename_i e
    cases e
    exact ckG_ok h
  · rename_i e
    cases e
    obtain ⟨q, hq, h⟩ := List.any_eq_true.mp h
    simp only [Bool.and_eq_true, decide_eq_true_eq] at h
    exact ⟨q, hq, h⟩
  · rename_i e
    cases e
    obtain ⟨q, hq, h⟩ := List.any_eq_true.mp h
    simp only [Bool.and_eq_true, decide_eq_true_eq] at h
    exact ⟨q, hq, h⟩
  · rename_i e
    cases e
    simp only [ckL, Bool.and_eq_true] at hl
    have h2 := hl.2
    split at h2
    · rename_i C T N hc
      rw [Bool.and_eq_true] at h2
      exact ⟨C, T, N, hc, h2.1⟩
    · cases h2
  · trivial
/-- throws and calls -/
def ckJ (kd : Nat → Nat × Nat) (M : mj_M) (f : Nat → Option (Instr × Nat)) (g : Nat → Option mj_K) (hp : List (Nat × Nat)) (pc : Nat) (i : Instr) (idx : Nat) (K : mj_K) (p : Nat) : Bool := match K with
  | (k0, a, b, c, _) => (!decide (k0 = 7) || (match i with
      | .new _ => ckT M f g hp pc idx a p
      | _ => true)) && (!decide (k0 = 4) || ((mj_inv i).isNone || (decide (a ≠ 0) && match t_mth a with
      | some M' => ckC M.1.cls i M' b c (kd a).1 (kd a).2 p
      | none => true)))
def ckI (S : List (String × Nat × Nat)) (kd : Nat → Nat × Nat) (M : mj_M) (f : Nat → Option (Instr × Nat)) (g : Nat → Option mj_K) (hp : List (Nat × Nat)) (pc : Nat) : Bool := match f pc with
  | none => true
  | some (i, len) => decide (decode M.2.1 pc = .ok (i, len)) && (mj_ln i len && match mj_idx i with
    | none => true
    | some idx => match g idx with
      | none => true
      | some K => ckL M i K ((hp.lookup idx).getD 9999) && (ckU S M.1.cls i K ((hp.lookup idx).getD 9999) && ckJ kd M f g hp pc i idx K ((hp.lookup idx).getD 9999)))
/-- what is said of a method's instructions -/
def okI (S : List (String × Nat × Nat)) (n : Nat) (xs : Nat → Int32) (fv : Value) (mi : Nat) (M : mj_M) : Prop := ∀ (pc : Nat) (i : Instr) (len : Nat), t_ins mi pc = some (i, len) → decode M.2.1 pc = .ok (i, len) ∧ mj_ln i len = true ∧ ∀ (idx : Nat) (K : mj_K), mj_idx i = some idx → t_lnk fv mi idx = some K →
  (mj_lok (t_P n xs fv) tg nw M.1.cls i K ∧ mj_lx (t_P n xs fv) M i K) ∧ (∀ (e is ic : Nat) (v : Value), i = .new idx → K = (7, e, is, ic, v) → mj_thr (t_P n xs fv) tg nw mi M pc idx e) ∧ (∀ (mj na ci : Nat) (v : Value) (M' : mj_M), mj_inv i = some idx → K = (4, mj, na, ci, v) → t_mth mj = some M' → mj_cw (t_P n xs fv) tg nw M.1.cls i M' na ci) ∧ okU S fv M.1.cls i K
def okKd (kd : Nat → Nat × Nat) : Prop := ∀ (mj : Nat) (M' : mj_M), mj ≠ 0 → t_mth mj = some M' → okM M' (kd mj).1 (kd mj).2
theorem ckI_ok {S : List (String × Nat × Nat)} {kd : Nat → Nat × Nat} {n : Nat} {xs : Nat → Int32} {fv : Value} {mi : Nat} {M : mj_M} {f : Nat → Option (Instr × Nat)} {g : Nat → Option mj_K} (hp : List (Nat × Nat)) (N : Nat) (ho : ckO) (hE : ∀ e, 1 ≤ e → e ≤ 4 → okE e) (hm : okKd kd) (hf : ∀ pc, t_ins mi pc = f pc) (hg : ∀ x, t_lnk fv mi x = g x) (hN : ∀ pc, N ≤ pc → f pc = none) (hc : ∀ pc, pc < N → ckI S kd M f g hp pc = true) : okI S n xs fv mi M := by
  intro pc i len h
  have hf2 : t_ins mi = f := funext hf
  have hg2 : t_lnk fv mi = g := funext hg
  rw [hf] at h
  have hlt : pc < N := Nat.not_le.mp (fun z => by rw [hN pc z] at h; cases h)
  have hq := hc pc hlt
  unfold ckI at hq
  rw [h] at hq
  simp only [Bool.and_eq_true] at hq
  obtain ⟨q1, q2, q3⟩ := hq
  refine ⟨of_decide_eq_true q1, q2, fun idx K h1 h2 => ?_⟩
  rw [hg] at h2
  rw [h1] at q3
  simp only [h2, Bool.and_eq_true] at q3
  obtain ⟨q4, q5, q6⟩ := q3
  refine ⟨ckL_ok ho q4, fun e is ic v e1 e2 => ?_, fun mj na ci v M' e1 e2 e3 => ?_, ckU_ok q4 q5⟩
  · subst e1
    subst e2
    simp only [ckJ, Bool.and_eq_true, Bool.or_eq_true, Bool.not_eq_true', decide_eq_false_iff_not] at q6
    exact ckT_ok hE hf2 hg2 (q6.1.resolve_left (fun z => z trivial))
  · subst e2
    simp only [ckJ, Bool.and_eq_true, Bool.or_eq_true, Bool.not_eq_true', decide_eq_false_iff_not, decide_eq_true_eq, Option.isNone_iff_eq_none] at q6
    rcases q6.2.resolve_left (fun z => z trivial) with z | ⟨z1, z2⟩
    · rw [e1] at z; cases z
    · rw [e3] at z2
      exact ckC_ok (hm mj M' z1 e3) z2
theorem ck_rng {N : Nat} {p : Nat → Bool} (h : (List.range N).all p = true) : ∀ pc, pc < N → p pc = true := fun pc hp => List.all_eq_true.mp h pc (List.mem_range.mpr hp)
theorem dsp {P : mj_M → Prop} {o : Option mj_M} {q M : mj_M} (e : o = some q) (h : o = some M) (hq : P q) : P M := by rw [e] at h; cases h; exact hq
/-- the classes' blank fields -/
def ckD (ci : Nat) (T : u_T) (N : Nat) : Bool := (List.range N).all (fun j => match parseFieldDescriptor (T j).2.2.1 with
  | some t => decide ((t_df ci)[j]? = some (defaultValue t))
  | none => false)
theorem ckD_ok {ci N : Nat} {T : u_T} (h : ckD ci T N = true) : ∀ ty : Nat → FieldType, (∀ k, k < N → parseFieldDescriptor (T k).2.2.1 = some (ty k)) → ∀ j, j < N → (t_df ci)[j]? = some (defaultValue (ty j)) := by
  intro ty hty j hj
  have h1 := ck_rng h j hj
  rw [hty j hj] at h1
  exact of_decide_eq_true h1
