/-! calls, throws, handlers, statics, texts: what is checked of a method -/
def okM (M : mj_M) (kd np : Nat) : Prop := plainFor M.1 = true ∧ (M.2.2.2.2.1 = [] → Cond.code M.1 M.2.1 M.2.2.1 M.2.2.2.1 ∈ tg) ∧ (M.2.2.2.2.1 ≠ [] → Cond.codeWith M.1 M.2.1 M.2.2.1 M.2.2.2.1 M.2.2.2.2.1 ∈ tg ∧ plainName M.1.cls = true) ∧ Cond.initialized M.1.cls ∈ tg ∧ (M.1.cls ≠ "java/lang/invoke/MethodHandle" ∧ M.1.cls ≠ "java/lang/invoke/VarHandle") ∧ M.2.2.1 ≤ 40 ∧ (M.2.2.2.2.2 ≠ [] → plainName M.1.cls = true) ∧ (parseMethodDescriptor M.1.desc).map (fun d => d.parameters.length) = some np ∧
  (kd = 0 → Cond.static M.1 ∈ tg) ∧ (1 ≤ kd → Cond.instanceMethod M.1 ∈ tg) ∧ (kd = 1 → Cond.selects M.1.cls M.1 M.1 ∈ tg)
def ckM (M : mj_M) (kd np pi ps pv : Nat) : Bool := plainFor M.1 && ((M.2.2.2.2.1.isEmpty || plainName M.1.cls) && (aG pi (.initialized M.1.cls) && (decide (M.1.cls ≠ "java/lang/invoke/MethodHandle") && (decide (M.1.cls ≠ "java/lang/invoke/VarHandle") && (decide (M.2.2.1 ≤ 40) && ((M.2.2.2.2.2.isEmpty || plainName M.1.cls) && (decide ((parseMethodDescriptor M.1.desc).map (fun d => d.parameters.length) = some np) &&
  ((!decide (kd = 0) || aG ps (.static M.1)) && ((!decide (1 ≤ kd) || aG ps (.instanceMethod M.1)) && (!decide (kd = 1) || aG pv (.selects M.1.cls M.1 M.1)))))))))))
theorem ckM_ok {M : mj_M} {kd np pi ps pv : Nat} (hc : M.2.2.2.2.1 = [] → Cond.code M.1 M.2.1 M.2.2.1 M.2.2.2.1 ∈ tg) (hw : M.2.2.2.2.1 ≠ [] → Cond.codeWith M.1 M.2.1 M.2.2.1 M.2.2.2.1 M.2.2.2.2.1 ∈ tg) (h : ckM M kd np pi ps pv = true) : okM M kd np := by
  unfold ckM at h
  simp only [Bool.and_eq_true, Bool.or_eq_true, Bool.not_eq_true', decide_eq_true_eq, decide_eq_false_iff_not, List.isEmpty_iff] at h
  obtain ⟨h1, h2, h3, h4, h5, h6, h7, h8, h9, ha, hb⟩ := h
  refine ⟨h1, hc, fun z => ⟨hw z, h2.resolve_left z⟩, aG_in h3, ⟨h4, h5⟩, h6, fun z => h7.resolve_left z, h8, fun z => aG_in (h9.resolve_left (fun q => q z)), fun z => aG_in (ha.resolve_left (fun q => q z)), fun z => aG_in (hb.resolve_left (fun q => q z))⟩
theorem ckM_0 {M : mj_M} {kd np pi ps pv : Nat} (pc : Nat) (e : M.2.2.2.2.1 = []) (hc : tbl pc = some (Cond.code M.1 M.2.1 M.2.2.1 M.2.2.2.1)) (h : ckM M kd np pi ps pv = true) : okM M kd np := ckM_ok (fun _ => tg_at hc rfl) (fun z => absurd e z) h
theorem ckM_1 {M : mj_M} {kd np pi ps pv : Nat} (pc : Nat) (e : M.2.2.2.2.1 ≠ []) (hc : tbl pc = some (Cond.codeWith M.1 M.2.1 M.2.2.1 M.2.2.2.1 M.2.2.2.2.1)) (h : ckM M kd np pi ps pv = true) : okM M kd np := ckM_ok (fun z => absurd z e) (fun _ => tg_at hc rfl) h
def ckN (p : Nat) (own : String) (idx : Nat) (y : MethodName) : Bool := match tbl p with
  | some (.methodLinkNest _ _ _ h) => aN p (.methodLinkNest own idx y h)
  | _ => false
theorem ckN_ok {p : Nat} {own : String} {idx : Nat} {y : MethodName} (h : ckN p own idx y = true) : ∃ host, Cond.methodLinkNest own idx y host ∈ nw := by
  unfold ckN at h
  split at h
  · exact ⟨_, aN_in h⟩
  · cases h
/-- a call, its link's word at p -/
def ckC (own : String) (i : Instr) (M' : mj_M) (na ci kd np p : Nat) : Bool := match i with
  | .invokestatic idx => decide (kd = 0) && (decide (np = na) && (aG p (.methodLink own idx M'.1) || (M'.2.2.2.2.1.isEmpty && (M'.2.2.2.2.2.isEmpty && ckN p own idx M'.1))))
  | .invokevirtual idx => decide (kd = 1) && (decide (na = np + 1) && (M'.2.2.2.2.1.isEmpty && (aG p (.methodLink own idx M'.1) && ((decide (ci = 1) && decide (M'.1.cls = "java/lang/String")) || (decide (1 < ci) && match t_cl[ci]? with
    | some (C, _, _) => decide (C = M'.1.cls)
    | none => false)))))
  | .invokespecial idx => decide (kd = 2) && (decide (na = np + 1) && (M'.2.2.2.2.1.isEmpty && (M'.2.2.2.2.2.isEmpty && (M'.2.2.2.1.isNone && (decide (M'.1.name = "<init>") && (aG p (.methodLink own idx M'.1) || ckN p own idx M'.1))))))
  | _ => false
theorem ckC_ok {n : Nat} {xs : Nat → Int32} {fv : Value} {own : String} {i : Instr} {M' : mj_M} {na ci kd np p : Nat} (ho : okM M' kd np) (h : ckC own i M' na ci kd np p = true) : mj_cw (t_P n xs fv) tg nw own i M' na ci := by
  obtain ⟨o1, o2, o3, o4, o5, o6, o7, o8, o9, oa, ob⟩ := ho
  unfold ckC at h
  split at h
  · rename_i idx
    simp only [Bool.and_eq_true, Bool.or_eq_true, decide_eq_true_eq, List.isEmpty_iff] at h
    obtain ⟨h1, h2, h3⟩ := h
    subst h2
    refine ⟨o1, o2, o3, o4, o5, o6, fun z1 _ => ⟨o7 z1, fun j e => (by cases e), fun j e => ?_⟩, o9 h1, o8, ?_⟩
    · cases e
      rcases h3 with h3 | ⟨_, h3, _⟩
      · exact aG_in h3
      · exact absurd h3 z1
    · rcases h3 with h3 | ⟨h3, _, h4⟩
      · exact Or.inl (aG_in h3)
      · exact Or.inr ⟨h3, ckN_ok h4⟩
  · rename_i idx
    simp only [Bool.and_eq_true, Bool.or_eq_true, decide_eq_true_eq, List.isEmpty_iff] at h
    obtain ⟨h1, h2, h3, h4, h5⟩ := h
    refine ⟨o1, o2, o3, o4, o5, o6, fun z1 _ => ⟨o7 z1, fun j e => (by cases e), fun j e => (by cases e)⟩, h3, oa (by omega), ob h1, ⟨np, h2, o8⟩, aG_in h4, ?_⟩
    rcases h5 with h5 | ⟨h5, h6⟩
    · exact Or.inl h5
    · refine Or.inr ⟨h5, ?_⟩
      split at h6
      · rename_i C T N hc
        have e := of_decide_eq_true h6
        subst e
        exact ⟨T, N, hc⟩
      · cases h6
  · rename_i idx
    simp only [Bool.and_eq_true, Bool.or_eq_true, decide_eq_true_eq, List.isEmpty_iff, Option.isNone_iff_eq_none] at h
    obtain ⟨h1, h2, h3, h4, h5, h6, h7⟩ := h
    refine ⟨o1, o2, o3, o4, o5, o6, fun z1 _ => absurd h4 z1, h3, h5, h6, oa (by omega), ⟨np, h2, o8⟩, ?_⟩
    rcases h7 with h7 | h7
    · exact Or.inl (aG_in h7)
    · exact Or.inr (ckN_ok h7)
  · cases h
/-- a throw -/
def ckT2 (own : String) (hp : List (Nat × Nat)) (g : Nat → Option mj_K) (is e : Nat) (d1 d2 : Except DecodeError (Instr × Nat)) : Bool := (match d1 with
  | .ok (.invokespecial ic, 3) => aG ((hp.lookup ic).getD 9999) (.methodLink own ic (Bundle.initS (mj_en e)))
  | _ => false) && (decide (d2 = .ok (.athrow, 1)) && (match g is with
  | some (9, 0, 0, 0, .ref _) => true
  | _ => false))
def ckT (M : mj_M) (f : Nat → Option (Instr × Nat)) (g : Nat → Option mj_K) (hp : List (Nat × Nat)) (pc idx e p : Nat) : Bool := decide (1 ≤ e) && (decide (e ≤ 4) && (M.2.2.2.2.1.isEmpty && (aG p (.classLink M.1.cls idx (mj_en e)) && (decide (decode M.2.1 (pc + 3) = .ok (.dup, 1)) && (match f (pc + 4) with
  | some (.ldc is, 2) => ckT2 M.1.cls hp g is e (decode M.2.1 (pc + 6)) (decode M.2.1 (pc + 9))
  | some (.ldc_w is, 3) => ckT2 M.1.cls hp g is e (decode M.2.1 (pc + 7)) (decode M.2.1 (pc + 10))
  | _ => false)))))
/-- the words of a throw but its constructor's link -/
def atB (x : Nat) : List Cond := ((Bundle.ownAtomsX "" 0 (mj_en x) (mj_ix x) (mj_rx x) mj_sup).take 43 ++ (Bundle.ownAtomsX "" 0 (mj_en x) (mj_ix x) (mj_rx x) mj_sup).drop 44).filter vx_no
theorem atB_of {own : String} {x ic : Nat} {w : Cond} (h : w ∈ mj_at own ic x) : w = .methodLink own ic (Bundle.initS (mj_en x)) ∨ w ∈ atB x := by
  unfold mj_at at h
  obtain ⟨h1, h2⟩ := List.mem_filter.mp h
  have e : Bundle.ownAtomsX own ic (mj_en x) (mj_ix x) (mj_rx x) mj_sup = (Bundle.ownAtomsX "" 0 (mj_en x) (mj_ix x) (mj_rx x) mj_sup).take 43 ++ (Cond.methodLink own ic (Bundle.initS (mj_en x)) :: (Bundle.ownAtomsX "" 0 (mj_en x) (mj_ix x) (mj_rx x) mj_sup).drop 44) := rfl
  rw [e] at h1
  rcases List.mem_append.mp h1 with h3 | h3
  · exact Or.inr (List.mem_filter.mpr ⟨List.mem_append_left _ h3, h2⟩)
  · rcases List.mem_cons.mp h3 with h4 | h4
    · exact Or.inl h4
    · exact Or.inr (List.mem_filter.mpr ⟨List.mem_append_right _ h4, h2⟩)
def okE (e : Nat) : Prop := Cond.initialized (mj_en e) ∈ tg ∧ Bundle.fit (mj_en e) = true ∧ ∀ w ∈ atB e, (w ∈ tg ∨ w ∈ nw) ∧ vx_ot w = true
def ckE (L : List Nat) (e : Nat) : Bool := L.any (fun k => aG k (.initialized (mj_en e))) && (Bundle.fit (mj_en e) && (atB e).all (fun w => L.any (fun k => aG k w || aN k w) && vx_ot w))
theorem ckE_ok {L : List Nat} {e : Nat} (h : ckE L e = true) : okE e := by
  unfold ckE at h
  simp only [Bool.and_eq_true, Bool.or_eq_true, List.all_eq_true, List.any_eq_true] at h
  obtain ⟨⟨_, _, h1⟩, h2, h3⟩ := h
  refine ⟨aG_in h1, h2, fun w hw => ⟨?_, (h3 w hw).2⟩⟩
  obtain ⟨_, _, h4⟩ := (h3 w hw).1
  exact h4.imp aG_in aN_in
section CK3
variable {n : Nat} {xs : Nat → Int32} {fv : Value} {M : mj_M} {f : Nat → Option (Instr × Nat)} {g : Nat → Option mj_K} {hp : List (Nat × Nat)} {mi pc idx e p is : Nat}
theorem ckT2_ok {d1 d2 : Except DecodeError (Instr × Nat)} {own : String} (h : ckT2 own hp g is e d1 d2 = true) : ∃ ic a, d1 = .ok (.invokespecial ic, 3) ∧ d2 = .ok (.athrow, 1) ∧ Cond.methodLink own ic (Bundle.initS (mj_en e)) ∈ tg ∧ g is = some (9, 0, 0, 0, .ref a) := by
  unfold ckT2 at h
  simp only [Bool.and_eq_true, decide_eq_true_eq] at h
  obtain ⟨h1, h2, h3⟩ := h
  split at h1
  · split at h3
    · rename_i hg
      exact ⟨_, _, rfl, h2, aG_in h1, hg⟩
    · cases h3
  · cases h1
theorem ckT_ok (hE : ∀ e, 1 ≤ e → e ≤ 4 → okE e) (hf : t_ins mi = f) (hg : t_lnk fv mi = g) (h : ckT M f g hp pc idx e p = true) : mj_thr (t_P n xs fv) tg nw mi M pc idx e := by
  unfold ckT at h
  simp only [Bool.and_eq_true, decide_eq_true_eq, List.isEmpty_iff] at h
  obtain ⟨h1, h2, h3, h4, h5, h6⟩ := h
  obtain ⟨e1, e2, e3⟩ := hE e h1 h2
  have key : ∀ ic, Cond.methodLink M.1.cls ic (Bundle.initS (mj_en e)) ∈ tg → (∀ w ∈ mj_at M.1.cls ic e, w ∈ tg ∨ w ∈ nw) ∧ ∀ w ∈ mj_at M.1.cls ic e, vx_ot w = true := fun ic hm => by
    refine ⟨fun w hw => ?_, fun w hw => ?_⟩
    · rcases atB_of hw with rfl | q
      · exact Or.inl hm
      · exact (e3 w q).1
    · rcases atB_of hw with rfl | q
      · rfl
      · exact (e3 w q).2
  split at h6
  · rename_i is hfi
    obtain ⟨ic, a, a1, a2, a3, a4⟩ := ckT2_ok h6
    exact ⟨is, ic, a, ⟨h5, Or.inl ⟨(congrFun hf _).trans hfi, a1, a2⟩⟩, aG_in h4, e1, e2, (key ic a3).1, (key ic a3).2, h3, (congrFun hg _).trans a4⟩
  · rename_i is hfi
    obtain ⟨ic, a, a1, a2, a3, a4⟩ := ckT2_ok h6
    exact ⟨is, ic, a, ⟨h5, Or.inr ⟨(congrFun hf _).trans hfi, a1, a2⟩⟩, aG_in h4, e1, e2, (key ic a3).1, (key ic a3).2, h3, (congrFun hg _).trans a4⟩
  · cases h6
end CK3
/-- the handlers, their classes' links at ps, the casts at cp -/
def ckH (own : String) (cp : Nat → Nat) : List Nat → List (Nat × Nat × Nat × Nat) → List Nat → List Nat → Bool
  | p :: ps, (_, _, _, t) :: r, x :: cs, pre => decide (t ≠ 0) && (aG p (.classLink own t (mj_en x)) && (aN (cp x) (.castable (mj_en x) (mj_en x)) && (pre.all (fun y => decide ((x, y) ∈ mj_nc)) && ckH own cp ps r cs (pre ++ [x]))))
  | [], [], [], _ => true
  | _, _, _, _ => false
theorem ckH_ok {own : String} {cp : Nat → Nat} : ∀ (ps : List Nat) (hh : List (Nat × Nat × Nat × Nat)) (cs pre : List Nat), ckH own cp ps hh cs pre = true → mj_hok tg nw own hh cs pre
  | _ :: ps, (_, _, _, t) :: r, x :: cs, pre, h => by
    simp only [ckH, Bool.and_eq_true, decide_eq_true_eq, List.all_eq_true] at h
    exact ⟨h.1, aG_in h.2.1, aN_in h.2.2.1, h.2.2.2.1, ckH_ok ps r cs (pre ++ [x]) h.2.2.2.2⟩
  | _, [], [], _, _ => trivial
  | _, (_ :: _), [], _, h => by simp [ckH] at h
  | _, [], (_ :: _), _, h => by simp [ckH] at h
  | [], (_ :: _), (_ :: _), _, h => by simp [ckH] at h
/-- texts and statics by their places among what was there before -/
def sStat : List (String × String × String × Value) := [("InsultRow", "FLAG_LEAST", "[I", .ref 4), ("InsultRow", "FLAG_MOST", "[I", .ref 8), ("InsultRow", "FLAG_FIRST", "[I", .ref 12), ("InsultRow", "STEP_X", "[I", .ref 16), ("InsultRow", "STEP_Y", "[I", .ref 20), ("java/lang/String", "COMPACT_STRINGS", "Z", .int 1)]
def ckG (own : String) (idx : Nat) (v : Value) (p : Nat) : Bool := sStat.any (fun q => decide (q.2.2.2 = v) && (aG p (.fieldLink own idx q.1 q.2.1 q.2.2.1) || match tbl p with
  | some (.fieldLinkNest _ _ _ _ _ h) => aN p (.fieldLinkNest own idx q.1 q.2.1 q.2.2.1 h)
  | _ => false))
