/-! what the tables say of an instruction's link, and of the world at a method's entry -/
def mj_idx (i : Instr) : Option Nat := match i with
  | .getfield x => some x
  | .putfield x => some x
  | .getstatic x => some x
  | .ldc x => some x
  | .ldc_w x => some x
  | .ldc2_w x => some x
  | .new x => some x
  | .checkcast x => some x
  | .anewarray x => some x
  | .invokevirtual x => some x
  | .invokestatic x => some x
  | .invokespecial x => some x
  | _ => none
/-- the kind of a field's type: 0 int, 1 reference, 2 boolean -/
def mj_kd (ty : FieldType) : Nat := match ty with
  | .int => 0
  | .object _ => 1
  | .array _ => 1
  | .boolean => 2
  | _ => 9
/-- a class of ours in the tables: its field words, their types, names apart -/
def mj_cok (Tg : List Cond) (C : String) (T : u_T) (N : Nat) : Prop :=
  (∀ w ∈ u_ws C T N, w ∈ Tg) ∧ (∀ a, a < N → ∀ b, b < N → a ≠ b → (T a).2.1 ≠ (T b).2.1) ∧ (∃ ty : Nat → FieldType, ∀ k, k < N → parseFieldDescriptor (T k).2.2.1 = some (ty k)) ∧ ∀ k, k < N → (T k).1 = C
/-- a field's link -/
def mj_fok (P : mj_P) (Tg NW : List Cond) (own : String) (idx ci k w : Nat) (wr : Bool) : Prop :=
  ci ≠ 0 ∧ ∃ (C : String) (T : u_T) (N : Nat) (ty : FieldType), (mj_cl P)[ci]? = some (C, T, N) ∧ k < N ∧ mj_cok Tg C T N ∧ parseFieldDescriptor (T k).2.2.1 = some ty ∧ mj_kd ty = w ∧
    (Cond.fieldLink own idx C (T k).2.1 (T k).2.2.1 ∈ Tg ∨ (((T k).2.2.2 = false ∨ wr = false) ∧ ∃ host, Cond.fieldLinkNest own idx C (T k).2.1 (T k).2.2.1 host ∈ NW)) ∧ (wr = true → (T k).2.2.2 = true → own = C)
/-- the world of the machine's statics and of what was there before -/
def mj_A (G : mj_G) : Nat → Prop := fun q => G.2.1 ≤ q
def mj_O (G : mj_G) (P : mj_P) (c : mj_C) (q : Nat) (U : State) : Prop := match c with
  | .inl (ty, A) => ∃ f : Nat → Value, va_T ty q A.1 f (mj_A G) U U.heap ∧ (match A.2 with
    | .inl g => (∀ j, f j = .int (g j)) ∧ (ty = .int ∨ ty = .byte)
    | _ => False)
  | .inr (ci, fs) => ci = 1 ∧ ∃ (a : Nat), fs = [.ref a, .int 0] ∧ va_O "java/lang/String" q (mj_A G) U U.heap ∧ va_OF "java/lang/String" "value" "[B" (.ref (mj_ad G P a)) q (mj_A G) U U.heap ∧ va_OF "java/lang/String" "coder" "B" (.int 0) q (mj_A G) U U.heap
/-- links that need no world -/
def mj_lok (P : mj_P) (Tg NW : List Cond) (own : String) (i : Instr) (K : mj_K) : Prop := match i, K with
  | .getfield idx, (0, ci, k, w, _) => (ci = 1 ∧ ((k = 0 ∧ Cond.fieldLink own idx "java/lang/String" "value" "[B" ∈ Tg) ∨ (k = 1 ∧ Cond.fieldLink own idx "java/lang/String" "coder" "B" ∈ Tg))) ∨ (1 < ci ∧ mj_fok P Tg NW own idx ci k w false)
  | .putfield idx, (0, ci, k, w, _) => 1 < ci ∧ mj_fok P Tg NW own idx ci k w true
  | .ldc idx, (8, _, _, _, v) => ∃ x, v = .int x ∧ Cond.constant own idx x ∈ Tg
  | .ldc_w idx, (8, _, _, _, v) => ∃ x, v = .int x ∧ Cond.constant own idx x ∈ Tg
  | .ldc2_w idx, (10, _, _, _, v) => ∃ x, v = .long x ∧ Cond.constantLong own idx x ∈ Tg
  | .new idx, (2, ci, nf, _, _) => 1 < ci ∧ ∃ (C : String) (T : u_T), (mj_cl P)[ci]? = some (C, T, nf) ∧ mj_cok Tg C T nf ∧ Cond.classLink own idx C ∈ Tg ∧ Cond.instantiable C nf ∈ Tg ∧ Cond.initialized C ∈ Tg ∧ (mj_df P ci).length = nf ∧ ∀ ty : Nat → FieldType, (∀ k, k < nf → parseFieldDescriptor (T k).2.2.1 = some (ty k)) → ∀ j, j < nf → (mj_df P ci)[j]? = some (defaultValue (ty j))
  | .anewarray idx, (_, ci, _, _, _) => 1 < ci ∧ ∃ (C : String) (T : u_T) (N : Nat), (mj_cl P)[ci]? = some (C, T, N) ∧ Cond.classLink own idx C ∈ Tg
  | .invokespecial idx, (5, _, _, _, _) => Cond.methodLink own idx Lib.objectInit ∈ Tg ∧ Cond.instanceMethod Lib.objectInit ∈ Tg ∧ Cond.code Lib.objectInit ⟨#[0xb1]⟩ 1 none ∈ Tg
  | .checkcast idx, (12, _, _, _, _) => Cond.classLink own idx "[I" ∈ Tg
  | .invokevirtual idx, (11, _, _, _, _) => Cond.methodLink own idx ⟨"[I", "clone", "()Ljava/lang/Object;"⟩ ∈ Tg ∧ Cond.sameMethod "[I" "java/lang/Object" "clone" "()Ljava/lang/Object;" ∈ Tg ∧ Cond.native ⟨"java/lang/Object", "clone", "()Ljava/lang/Object;"⟩ ∈ Tg ∧ Cond.instanceMethod ⟨"java/lang/Object", "clone", "()Ljava/lang/Object;"⟩ ∈ Tg ∧ Cond.selects "[I" ⟨"[I", "clone", "()Ljava/lang/Object;"⟩ ⟨"java/lang/Object", "clone", "()Ljava/lang/Object;"⟩ ∈ Tg ∧ Cond.castable "[I" "java/lang/Cloneable" ∈ NW
  | .invokestatic idx, (6, _, _, _, _) => Cond.methodLink own idx arraycopyName ∈ Tg ∧ Cond.native arraycopyName ∈ Tg ∧ Cond.static arraycopyName ∈ Tg ∧ Cond.initialized "java/lang/System" ∈ Tg
  | _, _ => True
/-- links that speak of the world -/
def mj_lokU (G : mj_G) (P : mj_P) (Tg NW : List Cond) (U : State) (own : String) (i : Instr) (K : mj_K) : Prop := match i, K with
  | .getstatic idx, (1, _, _, _, v) => ∃ C n d, va_Z C n d (mj_tr (mj_ad G P) v) (mj_A G) U U.heap ∧ (Cond.fieldLink own idx C n d ∈ Tg ∨ ∃ host, Cond.fieldLinkNest own idx C n d host ∈ NW)
  | .ldc idx, (9, _, _, _, v) => ∃ a tx, v = .ref a ∧ vk_R own idx tx (mj_ad G P a) U
  | .anewarray _, (_, ci, _, _, _) => ∃ (C : String) (T : u_T) (N : Nat), (mj_cl P)[ci]? = some (C, T, N) ∧ va_AO C U
  | .ldc_w idx, (9, _, _, _, v) => ∃ a tx, v = .ref a ∧ vk_R own idx tx (mj_ad G P a) U
  | _, _ => True
/-- the exceptions of the class by their numbers; which of them isn't one of which -/
def mj_en (x : Nat) : String := if x = 1 then "java/lang/IllegalArgumentException" else if x = 2 then "java/util/NoSuchElementException" else if x = 3 then "java/lang/IllegalStateException" else "java/lang/IndexOutOfBoundsException"
def mj_nc : List (Nat × Nat) := [(1, 2), (3, 2), (1, 3), (3, 1), (4, 2), (4, 3)]
def mj_sup : List String := ["java/lang/RuntimeException", "java/lang/Exception"]
/-- the exceptions' constructors: the place of the next one's link, their bytes -/
def mj_ix (x : Nat) : Nat := if x = 2 then 13 else 7
def mj_rx (x : Nat) : ByteArray := if x = 2 then ⟨#[0x2a, 0x2b, 0xb7, 0x00, 0x0d, 0xb1]⟩ else ⟨#[0x2a, 0x2b, 0xb7, 0x00, 0x07, 0xb1]⟩
def mj_at (own : String) (ic : Nat) (x : Nat) : List Cond := (Bundle.ownAtomsX own ic (mj_en x) (mj_ix x) (mj_rx x) mj_sup).filter vx_no
/-- a throw at pc -/
def mj_thr (P : mj_P) (Tg NW : List Cond) (mi : Nat) (M : mj_M) (pc idx e : Nat) : Prop := ∃ is ic a : Nat,
  (decode M.2.1 (pc + 3) = .ok (.dup, 1) ∧ ((mj_ins P mi (pc + 4) = some (.ldc is, 2) ∧ decode M.2.1 (pc + 6) = .ok (.invokespecial ic, 3) ∧ decode M.2.1 (pc + 9) = .ok (.athrow, 1)) ∨ (mj_ins P mi (pc + 4) = some (.ldc_w is, 3) ∧ decode M.2.1 (pc + 7) = .ok (.invokespecial ic, 3) ∧ decode M.2.1 (pc + 10) = .ok (.athrow, 1)))) ∧
  Cond.classLink M.1.cls idx (mj_en e) ∈ Tg ∧ Cond.initialized (mj_en e) ∈ Tg ∧ Bundle.fit (mj_en e) = true ∧ (∀ w ∈ mj_at M.1.cls ic e, w ∈ Tg ∨ w ∈ NW) ∧ (∀ w ∈ mj_at M.1.cls ic e, vx_ot w = true) ∧ M.2.2.2.2.1 = [] ∧ mj_lnk P mi is = some (9, 0, 0, 0, .ref a)
/-- the handlers of a method, by the numbers of what they take -/
def mj_hok (Tg NW : List Cond) (own : String) : List (Nat × Nat × Nat × Nat) → List Nat → List Nat → Prop
  | (_, _, _, t) :: r, x :: cs, pre => t ≠ 0 ∧ Cond.classLink own t (mj_en x) ∈ Tg ∧ Cond.castable (mj_en x) (mj_en x) ∈ NW ∧ (∀ y ∈ pre, (x, y) ∈ mj_nc) ∧ mj_hok Tg NW own r cs (pre ++ [x])
  | [], [], _ => True
  | _, _, _ => False
def mj_Wd (G : mj_G) (P : mj_P) (Tg NW : List Cond) (U : State) : Prop :=
  (∀ w ∈ NW, va_Nw w U) ∧ (∀ (ci : Nat) (q : vw_C), 1 < ci → (mj_cl P)[ci]? = some q → u_Kn U q.1 q.2.1 q.2.2 (G.2.2.2.1.1 ci) (G.2.2.2.1.2 ci)) ∧ (∀ ty, mj_ty P ty → ArrOfT U (G.2.2.2.2 ty) ty ∧ va_RA U (G.2.2.2.2 ty) ty) ∧
  (∀ (mi pc idx : Nat) (M : mj_M) (i : Instr) (len : Nat) (K : mj_K), mj_mth P mi = some M → mj_ins P mi pc = some (i, len) → mj_idx i = some idx → mj_lnk P mi idx = some K → mj_lokU G P Tg NW U M.1.cls i K) ∧
  (∀ (k : Nat) (c : mj_C), (mj_old P)[k]? = some c → mj_O G P c (G.1 k) U) ∧
  vx_Zq Bundle.tN "UNASSIGNED_STACK" Bundle.steD (mj_A G) U U.heap ∧ vx_Zq Bundle.tN "SUPPRESSED_SENTINEL" Bundle.listD (mj_A G) U U.heap ∧ ∀ q ∈ mj_nc, va_Nc (mj_en q.1) (mj_en q.2) U
/-- more of a link: a final field is put by a constructor, an array of objects is of a known class -/
def mj_lx (P : mj_P) (M : mj_M) (i : Instr) (K : mj_K) : Prop := match i, K with
  | .putfield _, (0, ci, k, _, _) => (∃ C T N, (mj_cl P)[ci]? = some (C, T, N) ∧ (T k).2.2.2 = true) → M.1.name = "<init>"
  | .anewarray _, (_, ci, _, _, _) => ∀ C T N, (mj_cl P)[ci]? = some (C, T, N) → mj_ty P (.object C)
  | _, _ => True
/-- the static facts of a program -/
def mj_Pk (P : mj_P) (Tg NW : List Cond) : Prop :=
  (∀ w ∈ NW, (∃ a i b n d h, w = Cond.fieldLinkNest a i b n d h) ∨ (∃ a i x h, w = Cond.methodLinkNest a i x h) ∨ (∃ C T, w = Cond.castable C T) ∨ ∃ x, w = Cond.declares x) ∧ (∀ w ∈ Tg, goodWord w = true) ∧ (Cond.arrayClass .int ∈ Tg ∧ Cond.arrayClass .long ∈ Tg ∧ Cond.arrayClass .byte ∈ Tg ∧ Cond.arrayClass .boolean ∈ Tg) ∧
  ∀ (mi pc : Nat) (M : mj_M) (i : Instr) (len : Nat), mj_mth P mi = some M → mj_ins P mi pc = some (i, len) → decode M.2.1 pc = .ok (i, len) ∧ mj_ln i len = true ∧ ∀ (idx : Nat) (K : mj_K), mj_idx i = some idx → mj_lnk P mi idx = some K → mj_lok P Tg NW M.1.cls i K ∧ mj_lx P M i K
/-- and of its throws and handlers -/
def mj_Px (P : mj_P) (Tg NW : List Cond) : Prop :=
  (∀ (mi pc idx len e is ic : Nat) (M : mj_M) (v : Value), mj_mth P mi = some M → mj_ins P mi pc = some (.new idx, len) → mj_lnk P mi idx = some (7, e, is, ic, v) → mj_thr P Tg NW mi M pc idx e) ∧
  ∀ (mi : Nat) (M : mj_M), mj_mth P mi = some M → M.2.2.2.2.1 ≠ [] → mj_hok Tg NW M.1.cls M.2.2.2.2.1 M.2.2.2.2.2 []
theorem mj_lokU.move {G : mj_G} {P : mj_P} {Tg NW : List Cond} {U V : State} {own : String} {i : Instr} {K : mj_K} (h : mj_lokU G P Tg NW U own i K) (hW : U.WarmedH V.vm) (hH : ∀ q : Nat, q < U.heap.size → ¬ mj_A G q → V.heap[q]? = U.heap[q]?) : mj_lokU G P Tg NW V own i K := by
  unfold mj_lokU at h ⊢
  split at h
  · obtain ⟨C, n, d, h1, h2⟩ := h
    exact ⟨C, n, d, va_Z.moved hW.alike (h1.kept hH), h2⟩
  · obtain ⟨a, tx, h1, h2⟩ := h
    exact ⟨a, tx, h1, vk_R.warm hW h2⟩
  · obtain ⟨C, T, N, h1, h2⟩ := h
    exact ⟨C, T, N, h1, va_AO.moved hW.alike h2⟩
  · obtain ⟨a, tx, h1, h2⟩ := h
    exact ⟨a, tx, h1, vk_R.warm hW h2⟩
  · trivial
theorem mj_O.move {G : mj_G} {P : mj_P} {U V : State} {c : mj_C} {q : Nat} (h : mj_O G P c q U) (hW : U.WarmedH V.vm) (hH : ∀ q : Nat, q < U.heap.size → ¬ mj_A G q → V.heap[q]? = U.heap[q]?) : mj_O G P c q V := by
  obtain ⟨ty, A⟩ | ⟨ci, fs⟩ := c
  · obtain ⟨f, h1, h2⟩ := h
    exact ⟨f, va_T.moved hW.alike (h1.kept hH), h2⟩
  · obtain ⟨h1, a, h2, h3, h4, h5⟩ := h
    exact ⟨h1, a, h2, va_O.moved hW.alike (h3.kept hH), va_OF.moved hW.alike (h4.kept hH), va_OF.moved hW.alike (h5.kept hH)⟩
theorem mj_Wd.move {G : mj_G} {P : mj_P} {Tg NW : List Cond} {U V : State} (hk : mj_Pk P Tg NW) (h : mj_Wd G P Tg NW U) (hW : U.WarmedH V.vm) (hH : ∀ q : Nat, q < U.heap.size → ¬ mj_A G q → V.heap[q]? = U.heap[q]?) : mj_Wd G P Tg NW V := by
  obtain ⟨h1, h2, h3, h4, h5, h6, h7, h8⟩ := h
  refine ⟨fun w hw => ?_, fun ci q hc hq => u_Kn_moved hW.alike (h2 ci q hc hq), fun ty ht => ⟨arrOfT_moved hW.alike (h3 ty ht).1, (h3 ty ht).2.moved hW.alike⟩, fun mi pc idx M i len K q1 q2 q3 q4 => (h4 mi pc idx M i len K q1 q2 q3 q4).move hW hH, fun k c hc => (h5 k c hc).move hW hH, vx_Zq.moved hW.alike (h6.kept hH), vx_Zq.moved hW.alike (h7.kept hH), fun q hq => va_Nc.moved hW.alike (h8 q hq)⟩
  rcases hk.1 w hw with ⟨a, i, b, n, d, z, rfl⟩ | ⟨a, i, x, z, rfl⟩ | ⟨C, T, rfl⟩ | ⟨x, rfl⟩
  · exact va_Nw.warmF hW (h1 _ hw)
  · exact va_Nw.warmM hW (h1 _ hw)
  · exact va_Nw.warmC hW (h1 _ hw)
  · exact va_Nw.warmD hW (h1 _ hw)
