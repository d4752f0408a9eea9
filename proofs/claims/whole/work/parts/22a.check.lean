/-! the tables' words; what is checked of a method, and what follows -/
def tg : List Cond := lw_tbl.filter goodWord
def isNW (w : Cond) : Bool := match w with
  | .fieldLinkNest _ _ _ _ _ _ => true
  | .methodLinkNest _ _ _ _ => true
  | .castable _ _ => true
  | .declares _ => true
  | _ => false
def nw : List Cond := lw_tbl.filter isNW
/-- a word by its place -/
def tbl (k : Nat) : Option Cond := if k < 100 then (k2_sels lw_privs)[k]? else if k < 820 then (if k < 340 then tables_1_1[k - 100]? else if k < 580 then tables_1_2[k - 340]? else tables_1_3[k - 580]?) else if k < 1540 then (if k < 1060 then tables_1_4[k - 820]? else if k < 1300 then tables_1_5[k - 1060]? else tables_1_6[k - 1300]?) else if k < 2020 then (if k < 1780 then tables_1_7[k - 1540]? else tables_1_8[k - 1780]?) else if k < 2260 then tables_1_9[k - 2020]? else tables_1_10[k - 2260]?
theorem tbl_in {k : Nat} {w : Cond} (h : tbl k = some w) : w ∈ lw_tbl := by
  show w ∈ k2_sels lw_privs ++ (tables_1_1 ++ (tables_1_2 ++ (tables_1_3 ++ (tables_1_4 ++ (tables_1_5 ++ (tables_1_6 ++ (tables_1_7 ++ (tables_1_8 ++ (tables_1_9 ++ tables_1_10)))))))))
  simp only [List.mem_append]
  unfold tbl at h
  repeat' split at h
  all_goals
    have hm := List.mem_of_getElem? h
    simp only [hm, true_or, or_true]
def aG (k : Nat) (w : Cond) : Bool := decide (tbl k = some w) && goodWord w
def aN (k : Nat) (w : Cond) : Bool := decide (tbl k = some w) && isNW w
def iG (w : Cond) : Bool := decide (w ∈ lw_tbl) && goodWord w
def iN (w : Cond) : Bool := decide (w ∈ lw_tbl) && isNW w
section CK1
variable {k : Nat} {w : Cond}
theorem aG_in (h : aG k w = true) : w ∈ tg := by
  unfold aG at h
  rw [Bool.and_eq_true] at h
  exact List.mem_filter.mpr ⟨tbl_in (of_decide_eq_true h.1), h.2⟩
theorem aN_in (h : aN k w = true) : w ∈ nw := by
  unfold aN at h
  rw [Bool.and_eq_true] at h
  exact List.mem_filter.mpr ⟨tbl_in (of_decide_eq_true h.1), h.2⟩
theorem iG_in (h : iG w = true) : w ∈ tg := by
  unfold iG at h
  rw [Bool.and_eq_true] at h
  exact List.mem_filter.mpr ⟨of_decide_eq_true h.1, h.2⟩
theorem iN_in (h : iN w = true) : w ∈ nw := by
  unfold iN at h
  rw [Bool.and_eq_true] at h
  exact List.mem_filter.mpr ⟨of_decide_eq_true h.1, h.2⟩
theorem tg_at (h : tbl k = some w) (hg : goodWord w = true) : w ∈ tg := List.mem_filter.mpr ⟨tbl_in h, hg⟩
end CK1
/-- a class; its fields' words at ps -/
def ckK (C : String) (T : u_T) (N : Nat) (ps : List Nat) : Bool := (List.range N).all (fun k => aG (ps.getD k 9999) (u_lay C T k)) && ((List.range N).all (fun a => (List.range a).all (fun b => decide ((T a).2.1 ≠ (T b).2.1))) && ((List.range N).all (fun k => (parseFieldDescriptor (T k).2.2.1).isSome) && (List.range N).all (fun k => decide ((T k).1 = C))))
theorem ckK_ok {C : String} {T : u_T} {N : Nat} {ps : List Nat} (h : ckK C T N ps = true) : mj_cok tg C T N := by
  unfold ckK at h
  simp only [Bool.and_eq_true, List.all_eq_true, List.mem_range, decide_eq_true_eq] at h
  obtain ⟨h1, h2, h3, h4⟩ := h
  refine ⟨fun w hw => ?_, fun a ha b hb hab => ?_, ⟨fun k => (parseFieldDescriptor (T k).2.2.1).getD .int, fun k hk => ?_⟩, h4⟩
  · obtain ⟨k, hk, rfl⟩ := List.mem_map.mp hw
    exact aG_in (h1 k (List.mem_range.mp hk))
  · rcases Nat.lt_or_gt_of_ne hab with q | q
    · exact fun e => h2 b hb a q e.symm
    · exact h2 a ha b q
  · have := h3 k hk
    cases e : parseFieldDescriptor (T k).2.2.1 with
    | none => rw [e] at this; cases this
    | some ty => simp only [e, Option.getD_some]
/-- a field's link, its word at p -/
def ckF (own : String) (idx ci k w : Nat) (wr : Bool) (p : Nat) : Bool := decide (1 < ci) && match t_cl[ci]? with
  | some (C, T, N) => decide (k < N) && (decide ((parseFieldDescriptor (T k).2.2.1).map mj_kd = some w) && ((aG p (.fieldLink own idx C (T k).2.1 (T k).2.2.1) || ((!(T k).2.2.2 || !wr) && match tbl p with
      | some (.fieldLinkNest a b c d e h) => aN p (.fieldLinkNest own idx C (T k).2.1 (T k).2.2.1 h)
      | _ => false)) && (!wr || !(T k).2.2.2 || decide (own = C))))
  | none => false
/-- what is checked once for all -/
def ckO : Prop := (∀ ci C T N, 1 < ci → t_cl[ci]? = some (C, T, N) → mj_cok tg C T N ∧ Cond.instantiable C N ∈ tg ∧ Cond.initialized C ∈ tg ∧ (t_df ci).length = N ∧ ∀ ty : Nat → FieldType, (∀ k, k < N → parseFieldDescriptor (T k).2.2.1 = some (ty k)) → ∀ j, j < N → (t_df ci)[j]? = some (defaultValue (ty j))) ∧
  (Cond.instanceMethod Lib.objectInit ∈ tg ∧ Cond.code Lib.objectInit ⟨#[0xb1]⟩ 1 none ∈ tg) ∧ (Cond.sameMethod "[I" "java/lang/Object" "clone" "()Ljava/lang/Object;" ∈ tg ∧ Cond.native ⟨"java/lang/Object", "clone", "()Ljava/lang/Object;"⟩ ∈ tg ∧ Cond.instanceMethod ⟨"java/lang/Object", "clone", "()Ljava/lang/Object;"⟩ ∈ tg ∧ Cond.selects "[I" ⟨"[I", "clone", "()Ljava/lang/Object;"⟩ ⟨"java/lang/Object", "clone", "()Ljava/lang/Object;"⟩ ∈ tg ∧ Cond.castable "[I" "java/lang/Cloneable" ∈ nw) ∧
  (Cond.native arraycopyName ∈ tg ∧ Cond.static arraycopyName ∈ tg ∧ Cond.initialized "java/lang/System" ∈ tg)
def isQ (C : String) : Bool := decide (C = "InsultRow$Standing") || (decide (C = "InsultRow$Fair") || decide (C = "InsultRow$Tray"))
/-- a link that is no call, its word at p -/
def ckL (M : mj_M) (i : Instr) (K : mj_K) (p : Nat) : Bool := match i, K with
  | .getfield idx, (0, ci, k, w, _) => (decide (ci = 1) && ((decide (k = 0) && aG p (.fieldLink M.1.cls idx "java/lang/String" "value" "[B")) || (decide (k = 1) && aG p (.fieldLink M.1.cls idx "java/lang/String" "coder" "B")))) || ckF M.1.cls idx ci k w false p
  | .putfield idx, (0, ci, k, w, _) => ckF M.1.cls idx ci k w true p && (match t_cl[ci]? with
    | some (_, T, _) => !(T k).2.2.2 || decide (M.1.name = "<init>")
    | none => false)
  | .ldc idx, (8, _, _, _, .int x) => aG p (.constant M.1.cls idx x)
  | .ldc _, (8, _, _, _, _) => false
  | .ldc_w idx, (8, _, _, _, .int x) => aG p (.constant M.1.cls idx x)
  | .ldc_w _, (8, _, _, _, _) => false
  | .ldc2_w idx, (10, _, _, _, .long x) => aG p (.constantLong M.1.cls idx x)
  | .ldc2_w _, (10, _, _, _, _) => false
  | .new idx, (2, ci, nf, _, _) => decide (1 < ci) && match t_cl[ci]? with
    | some (C, _, N) => decide (N = nf) && aG p (.classLink M.1.cls idx C)
    | none => false
  | .anewarray idx, (_, ci, _, _, _) => decide (1 < ci) && match t_cl[ci]? with
    | some (C, _, _) => isQ C && aG p (.classLink M.1.cls idx C)
    | none => false
  | .invokespecial idx, (5, _, _, _, _) => aG p (.methodLink M.1.cls idx Lib.objectInit)
  | .checkcast idx, (12, _, _, _, _) => aG p (.classLink M.1.cls idx "[I")
  | .invokevirtual idx, (11, _, _, _, _) => aG p (.methodLink M.1.cls idx ⟨"[I", "clone", "()Ljava/lang/Object;"⟩)
  | .invokestatic idx, (6, _, _, _, _) => aG p (.methodLink M.1.cls idx arraycopyName)
  | _, _ => true
section CK2
variable {n : Nat} {xs : Nat → Int32} {fv : Value} {M : mj_M} {i : Instr} {K : mj_K} {p : Nat}
theorem ckF_ok {own : String} {idx ci k w : Nat} {wr : Bool} (ho : ckO) (h : ckF own idx ci k w wr p = true) : 1 < ci ∧ mj_fok (t_P n xs fv) tg nw own idx ci k w wr := by
  unfold ckF at h
  rw [Bool.and_eq_true] at h
  obtain ⟨h1, h2⟩ := h
  have h1 := of_decide_eq_true h1
  refine ⟨h1, by omega, ?_⟩
  split at h2
  · rename_i C T N hc
    simp only [Bool.and_eq_true, Bool.or_eq_true, decide_eq_true_eq, Bool.not_eq_true'] at h2
    obtain ⟨h3, h4, h5, h6⟩ := h2
    obtain ⟨ty, t1, t2⟩ := Option.map_eq_some_iff.mp h4
    refine ⟨C, T, N, ty, hc, h3, (ho.1 ci C T N h1 hc).1, t1, t2, ?_, fun e1 e2 => ?_⟩
    · rcases h5 with h5 | ⟨h5, h7⟩
      · exact Or.inl (aG_in h5)
      · split at h7
        · exact Or.inr ⟨h5, _, aN_in h7⟩
        · cases h7
    · rcases h6 with (h6 | h6) | h6
      · rw [e1] at h6; cases h6
      · rw [e2] at h6; cases h6
      · exact h6
  · cases h2
theorem isQ_ok {C : String} (h : isQ C = true) : C = "InsultRow$Standing" ∨ C = "InsultRow$Fair" ∨ C = "InsultRow$Tray" := by
  unfold isQ at h
  simp only [Bool.or_eq_true, decide_eq_true_eq] at h
  exact h
theorem ckL_ok (ho : ckO) (h : ckL M i K p = true) : mj_lok (t_P n xs fv) tg nw M.1.cls i K ∧ mj_lx (t_P n xs fv) M i K := by
  obtain ⟨k0, ci, k, w, v⟩ := K
  constructor
  · unfold mj_lok
    split
    · rename_i idx _ _ _ _ e
      cases e
      simp only [ckL, Bool.or_eq_true, Bool.and_eq_true, decide_eq_true_eq] at h
      rcases h with ⟨h1, h2⟩ | h
      · refine Or.inl ⟨h1, ?_⟩
        rcases h2 with ⟨h2, h3⟩ | ⟨h2, h3⟩
        · exact Or.inl ⟨h2, aG_in h3⟩
        · exact Or.inr ⟨h2, aG_in h3⟩
      · exact Or.inr (ckF_ok ho h)
    · rename_i idx _ _ _ _ e
      cases e
      simp only [ckL, Bool.and_eq_true] at h
      exact ckF_ok ho h.1
    · rename_i idx _ _ _ _ e
      cases e
      cases v <;> simp only [ckL] at h <;> first | cases h | exact ⟨_, rfl, aG_in h⟩
    · rename_i idx _ _ _ _ e
      cases e
      cases v <;> simp only [ckL] at h <;> first | cases h | exact ⟨_, rfl, aG_in h⟩
    · rename_i idx _ _ _ _ e
      cases e
      cases v <;> simp only [ckL] at h <;> first | cases h | exact ⟨_, rfl, aG_in h⟩
    · rename_i idx _ _ _ _ e
      cases e
      simp only [ckL, Bool.and_eq_true, decide_eq_true_eq] at h
      obtain ⟨h1, h2⟩ := h
      refine ⟨h1, ?_⟩
      split at h2
      · rename_i C T N hc
        simp only [Bool.and_eq_true, decide_eq_true_eq] at h2
        obtain ⟨h2, h3⟩ := h2
        subst h2
        obtain ⟨a1, a2, a3, a4, a5⟩ := ho.1 ci C T N h1 hc
        exact ⟨C, T, hc, a1, aG_in h3, a2, a3, a4, a5⟩
      · cases h2
    · rename_i idx _ _ _ _ _ e
      cases e
      simp only [ckL, Bool.and_eq_true, decide_eq_true_eq] at h
      obtain ⟨h1, h2⟩ := h
      refine ⟨h1, ?_⟩
      split at h2
      · rename_i C T N hc
        simp only [Bool.and_eq_true] at h2
        exact ⟨C, T, N, hc, aG_in h2.2⟩
      · cases h2
    · rename_i idx _ _ _ _ e
      cases e
      simp only [ckL] at h
      exact ⟨aG_in h, ho.2.1⟩
    · rename_i idx _ _ _ _ e
      cases e
      simp only [ckL] at h
      exact aG_in h
    · rename_i idx _ _ _ _ e
      cases e
      simp only [ckL] at h
      exact ⟨aG_in h, ho.2.2.1⟩
    · rename_i idx _ _ _ _ e
      cases e
      simp only [ckL] at h
      exact ⟨aG_in h, ho.2.2.2⟩
    · trivial
  · unfold mj_lx
    split
    · rename_i _ _ _ _ _ e
      cases e
      simp only [ckL, Bool.and_eq_true] at h
      rintro ⟨C, T, N, hc, hT⟩
      have h2 := h.2
      rw [show t_cl[ci]? = some (C, T, N) from hc] at h2
      simp only [Bool.or_eq_true, Bool.not_eq_true', decide_eq_true_eq] at h2
      rcases h2 with h2 | h2
      · rw [hT] at h2; cases h2
      · exact h2
    · rename_i _ _ _ _ _ _ e
      cases e
      simp only [ckL, Bool.and_eq_true, decide_eq_true_eq] at h
      intro C T N hc
      have h2 := h.2
      rw [show t_cl[ci]? = some (C, T, N) from hc] at h2
      simp only [Bool.and_eq_true] at h2
      exact Or.inr (Or.inr (Or.inr (Or.inr ⟨ci, C, T, N, hc, rfl, isQ_ok h2.1⟩)))
    · trivial
end CK2
