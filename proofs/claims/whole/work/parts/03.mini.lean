/-! A small machine of my own over decoded methods: values as the big machine's, addresses numbered by segment (a % 4: 0 what was there before the law, 1 the class's cells, 2 the reference's, 3 what comes later). -/
abbrev mj_C : Type := (FieldType × vp_A) ⊕ (Nat × List Value)
abbrev mj_H : Type := List mj_C × List mj_C × List mj_C × Nat
abbrev mj_K : Type := Nat × Nat × Nat × Nat × Value
abbrev mj_L : Type := List (Option Value)
abbrev mj_M : Type := MethodName × ByteArray × Nat × Option FieldType × List (Nat × Nat × Nat × Nat) × List Nat
/-- instructions, links, methods, old cells, sizes of the two first segments, blank fields of a class, the classes -/
abbrev mj_P : Type := (Nat → Nat → Option (Instr × Nat)) × (Nat → Nat → Option mj_K) × (Nat → Option mj_M) × List mj_C × Nat × Nat × (Nat → List Value) × List vw_C
abbrev mj_ins (P : mj_P) : Nat → Nat → Option (Instr × Nat) := P.1
abbrev mj_lnk (P : mj_P) : Nat → Nat → Option mj_K := P.2.1
abbrev mj_mth (P : mj_P) : Nat → Option mj_M := P.2.2.1
abbrev mj_old (P : mj_P) : List mj_C := P.2.2.2.1
abbrev mj_n1 (P : mj_P) : Nat := P.2.2.2.2.1
abbrev mj_n2 (P : mj_P) : Nat := P.2.2.2.2.2.1
abbrev mj_df (P : mj_P) : Nat → List Value := P.2.2.2.2.2.2.1
abbrev mj_cl (P : mj_P) : List vw_C := P.2.2.2.2.2.2.2
/-- may a field of this kind hold it: 0 int, 1 reference, 2 boolean -/
def mj_fit (w : Nat) (v : Value) : Bool := match w, v with
  | 0, .int _ => true
  | 1, .ref _ => true
  | 1, .null => true
  | 2, .int x => decide (x = 0) || decide (x = 1)
  | _, _ => false
def mj_get (P : mj_P) (σ : mj_H) (a : Nat) : Option mj_C := match a % 4 with
  | 0 => (mj_old P)[a / 4]?
  | 1 => σ.1[a / 4]?
  | 2 => σ.2.1[a / 4]?
  | _ => σ.2.2.1[a / 4]?
def mj_set (σ : mj_H) (a : Nat) (c : mj_C) : mj_H := match a % 4 with
  | 0 => σ
  | 1 => (σ.1.set (a / 4) c, σ.2.1, σ.2.2.1, σ.2.2.2)
  | 2 => (σ.1, σ.2.1.set (a / 4) c, σ.2.2.1, σ.2.2.2)
  | _ => (σ.1, σ.2.1, σ.2.2.1.set (a / 4) c, σ.2.2.2)
/-- where the next cell comes -/
def mj_nx (P : mj_P) (σ : mj_H) : Nat := if σ.1.length < mj_n1 P then 4 * σ.1.length + 1 else if σ.2.1.length < mj_n2 P then 4 * σ.2.1.length + 2 else 4 * σ.2.2.1.length + 3
def mj_new (P : mj_P) (σ : mj_H) (c : mj_C) (n : Nat) : mj_H := if σ.1.length < mj_n1 P then (σ.1 ++ [c], σ.2.1, σ.2.2.1, σ.2.2.2 + n) else if σ.2.1.length < mj_n2 P then (σ.1, σ.2.1 ++ [c], σ.2.2.1, σ.2.2.2 + n) else (σ.1, σ.2.1, σ.2.2.1 ++ [c], σ.2.2.2 + n)
def mj_tot (σ : mj_H) : Nat := σ.1.length + σ.2.1.length + σ.2.2.1.length
def mj_cat (st : List Value) : Nat := (st.map fun v => v.category).sum
def mj_kill (L : mj_L) (i : Nat) : mj_L := match i with
  | 0 => L
  | j + 1 => match L[j]? with
    | some (some v) => if v.category = 2 then L.set j none else L
    | _ => L
def mj_st1 (L : mj_L) (i : Nat) (v : Value) : mj_L := (mj_kill L i).set i (some v)
def mj_st2 (L : mj_L) (i : Nat) (v : Value) : mj_L := ((mj_kill L i).set i (some v)).set (i + 1) none
def mj_args : List Value → mj_L
  | [] => []
  | v :: r => if v.category = 2 then some v :: none :: mj_args r else some v :: mj_args r
def mj_ent (args : List Value) (n : Nat) : mj_L := mj_args args ++ List.replicate (n - (mj_args args).length) none
abbrev mj_R : Type := Option (Nat × mj_L × List Value × mj_H)
/-- a jump -/
def mj_to (pc : Nat) (off : Int) (L : mj_L) (st : List Value) (σ : mj_H) : mj_R := if (pc : Int) + off < 0 then none else some (((pc : Int) + off).toNat, L, st, σ)
def mj_if (b : Bool) (pc : Nat) (off : Int) (L : mj_L) (st : List Value) (σ : mj_H) : mj_R := if (pc : Int) + off < 0 then none else if b = true then some (((pc : Int) + off).toNat, L, st, σ) else some (pc + 3, L, st, σ)
def mj_cmp (c : Instr) (x y : Int32) : Option (Bool × Int) := match c with
  | .if_icmp .eq o => some (decide (x = y), o)
  | .if_icmp .ne o => some (decide (¬ x = y), o)
  | .if_icmp .lt o => some (decide (x < y), o)
  | .if_icmp .ge o => some (decide (y ≤ x), o)
  | .if_icmp .gt o => some (decide (y < x), o)
  | .if_icmp .le o => some (decide (x ≤ y), o)
  | _ => none
def mj_cm0 (c : Instr) (x : Int32) : Option (Bool × Int) := match c with
  | .ifCond .eq o => some (decide (x = 0), o)
  | .ifCond .ne o => some (decide (¬ x = 0), o)
  | .ifCond .lt o => some (decide (x < 0), o)
  | .ifCond .ge o => some (decide (0 ≤ x), o)
  | .ifCond .gt o => some (decide (0 < x), o)
  | .ifCond .le o => some (decide (x ≤ 0), o)
  | _ => none
/-- two ints to one -/
def mj_b32 (c : Instr) (x y : Int32) : Option Int32 := match c with
  | .iadd => some (x + y)
  | .isub => some (x - y)
  | .imul => some (x * y)
  | .iand => some (x &&& y)
  | .ior => some (x ||| y)
  | .ixor => some (x ^^^ y)
  | .ishl => some (x <<< (y &&& 31))
  | .ishr => some (x >>> (y &&& 31))
  | .iushr => some ((x.toUInt32 >>> (y.toUInt32 &&& Int32.toUInt32 31)).toInt32)
  | .idiv => if y = 0 then none else some (x / y)
  | .irem => if y = 0 then none else some (x - x / y * y)
  | _ => none
def mj_b64 (c : Instr) (x y : Int64) : Option Int64 := match c with
  | .ladd => some (x + y)
  | .lsub => some (x - y)
  | .lmul => some (x * y)
  | .land => some (x &&& y)
  | .lor => some (x ||| y)
  | .ldiv => if y = 0 then none else some (x / y)
  | .lrem => if y = 0 then none else some (x - x / y * y)
  | _ => none
def mj_u32 (c : Instr) (x : Int32) : Option Value := match c with
  | .ineg => some (.int (-x))
  | .i2l => some (.long x.toInt64)
  | .i2b => some (.int x.toInt8.toInt32)
  | .i2s => some (.int x.toInt16.toInt32)
  | .i2c => some (.int (x.toUInt32 % 65536).toInt32)
  | _ => none
/-- reading an array cell -/
def mj_ald (c : Instr) (ty : FieldType) (A : vp_A) (j : Nat) : Option Value := match c, ty, A.2 with
  | .iaload, .int, .inl f => some (.int (f j))
  | .baload, .byte, .inl f => some (.int (f j))
  | .baload, .boolean, .inl f => some (.int (f j))
  | .laload, .long, .inr (.inl f) => some (.long (f j))
  | .aaload, .object _, .inr (.inr (.inr (.inr f))) => some (va_rf (f j))
  | _, _, _ => none
def mj_okx (i : Int32) (n : Nat) : Bool := decide (¬ (i < 0 ∨ n ≤ i.toNatClampNeg))
/-- writing an array cell -/
def mj_ast (c : Instr) (ty : FieldType) (A : vp_A) (j : Nat) (v : Value) : Option vp_A := match c, ty, A.2, v with
  | .iastore, .int, .inl f, .int x => some (A.1, .inl (upd f j x))
  | .bastore, .byte, .inl f, .int x => some (A.1, .inl (upd f j (vp_nar .byte x)))
  | .bastore, .boolean, .inl f, .int x => some (A.1, .inl (upd f j (vp_nar .boolean x)))
  | .lastore, .long, .inr (.inl f), .long x => some (A.1, .inr (.inl (vp_updL f j x)))
  | .aastore, .object _, .inr (.inr (.inr (.inr f))), .ref a => some (A.1, .inr (.inr (.inr (.inr (va_up f j (some a))))))
  | .aastore, .object _, .inr (.inr (.inr (.inr f))), .null => some (A.1, .inr (.inr (.inr (.inr (va_up f j none)))))
  | _, _, _, _ => none
/-- may an array of this type hold it: an object of its very class, or null -/
def mj_asg (P : mj_P) (σ : mj_H) (ty : FieldType) (v : Value) : Bool := match ty, v with
  | .object C, .ref b => match mj_get P σ b with
    | some (.inr (ci, _)) => match (mj_cl P)[ci]? with
      | some (C', _, _) => decide (C' = C ∧ 1 < ci ∧ b % 4 ≠ 0)
      | none => false
    | _ => false
  | _, _ => true
/-- a simple instruction -/
def mj_sim (P : mj_P) (mi : Nat) (i : Instr) (len pc : Nat) (L : mj_L) (st : List Value) (σ : mj_H) : mj_R := match i with
  | .iconst n => some (pc + len, L, .int (Int32.ofInt n) :: st, σ)
  | .bipush n => some (pc + len, L, .int (Int8.ofInt n).toInt32 :: st, σ)
  | .sipush n => some (pc + len, L, .int (Int16.ofInt n).toInt32 :: st, σ)
  | .lconst n => some (pc + len, L, .long (Int64.ofNat (n : Nat)) :: st, σ)
  | .aconst_null => some (pc + len, L, .null :: st, σ)
  | .iload_n k => match L[(k : Nat)]? with
    | some (some (.int x)) => some (pc + len, L, .int x :: st, σ)
    | _ => none
  | .iload k => match L[k]? with
    | some (some (.int x)) => some (pc + len, L, .int x :: st, σ)
    | _ => none
  | .lload_n k => match L[(k : Nat)]? with
    | some (some (.long x)) => some (pc + len, L, .long x :: st, σ)
    | _ => none
  | .lload k => match L[k]? with
    | some (some (.long x)) => some (pc + len, L, .long x :: st, σ)
    | _ => none
  | .aload_n k => match L[(k : Nat)]? with
    | some (some (.ref x)) => some (pc + len, L, .ref x :: st, σ)
    | some (some .null) => some (pc + len, L, .null :: st, σ)
    | _ => none
  | .aload k => match L[k]? with
    | some (some (.ref x)) => some (pc + len, L, .ref x :: st, σ)
    | some (some .null) => some (pc + len, L, .null :: st, σ)
    | _ => none
  | .istore_n k => match st with
    | .int x :: r => if (k : Nat) < L.length then some (pc + len, mj_st1 L k (.int x), r, σ) else none
    | _ => none
  | .istore k => match st with
    | .int x :: r => if k < L.length then some (pc + len, mj_st1 L k (.int x), r, σ) else none
    | _ => none
  | .lstore_n k => match st with
    | .long x :: r => if (k : Nat) + 1 < L.length then some (pc + len, mj_st2 L k (.long x), r, σ) else none
    | _ => none
  | .lstore k => match st with
    | .long x :: r => if k + 1 < L.length then some (pc + len, mj_st2 L k (.long x), r, σ) else none
    | _ => none
  | .astore_n k => match st with
    | .ref x :: r => if (k : Nat) < L.length then some (pc + len, mj_st1 L k (.ref x), r, σ) else none
    | .null :: r => if (k : Nat) < L.length then some (pc + len, mj_st1 L k .null, r, σ) else none
    | _ => none
  | .astore k => match st with
    | .ref x :: r => if k < L.length then some (pc + len, mj_st1 L k (.ref x), r, σ) else none
    | .null :: r => if k < L.length then some (pc + len, mj_st1 L k .null, r, σ) else none
    | _ => none
  | .iinc k n => match L[k]? with
    | some (some (.int x)) => some (pc + len, mj_st1 L k (.int (x + Int32.ofInt n)), st, σ)
    | _ => none
  | .dup => match st with
    | v :: r => if v.category = 1 then some (pc + len, L, v :: v :: r, σ) else none
    | _ => none
  | .dup2 => match st with
    | v :: w :: r => if v.category = 1 ∧ w.category = 1 then some (pc + len, L, v :: w :: v :: w :: r, σ) else if v.category = 2 then some (pc + len, L, v :: v :: w :: r, σ) else none
    | v :: r => if v.category = 2 then some (pc + len, L, v :: v :: r, σ) else none
    | _ => none
  | .pop => match st with
    | v :: r => if v.category = 1 then some (pc + len, L, r, σ) else none
    | _ => none
  | .pop2 => match st with
    | v :: r => if v.category = 2 then some (pc + len, L, r, σ) else none
    | _ => none
  | .goto off => mj_to pc off L st σ
  | .ifnull off => match st with
    | .ref _ :: r => some (pc + 3, L, r, σ)
    | .null :: r => mj_to pc off L r σ
    | _ => none
  | .ifnonnull off => match st with
    | .null :: r => some (pc + 3, L, r, σ)
    | .ref _ :: r => mj_to pc off L r σ
    | _ => none
  | .tableswitch df lo hi offs => match st with
    | .int x :: r => if x.toInt < lo ∨ hi < x.toInt then mj_to pc df L r σ else match offs[(x.toInt - lo).toNat]? with
      | some o => mj_to pc o L r σ
      | none => none
    | _ => none
  | .lookupswitch df ps => match st with
    | .int x :: r => if (ps.toList.zip (ps.toList.drop 1)).all (fun (a, next) => a.1 < next.1) = true then mj_to pc (Op.lookupswitch.offset ps.toList df x.toInt) L r σ else none
    | _ => none
  | .lcmp => match st with
    | .long y :: .long x :: r => some (pc + len, L, .int (lg_cmp x y) :: r, σ)
    | _ => none
  | .l2i => match st with
    | .long x :: r => some (pc + len, L, .int x.toInt32 :: r, σ)
    | _ => none
  | .lshl => match st with
    | .int y :: .long x :: r => some (pc + len, L, .long (x <<< (y.toInt64 &&& 63)) :: r, σ)
    | _ => none
  | .lshr => match st with
    | .int y :: .long x :: r => some (pc + len, L, .long (x >>> (y.toInt64 &&& 63)) :: r, σ)
    | _ => none
  | .getfield idx => match st, mj_lnk P mi idx with
    | .ref a :: r, some (0, ci, k, _, _) => match mj_get P σ a with
      | some (.inr (cj, fs)) => if cj = ci ∧ (a % 4 = 0 ↔ ci = 1) then match fs[k]? with
          | some v => some (pc + len, L, v :: r, σ)
          | none => none
        else none
      | _ => none
    | _, _ => none
  | .putfield idx => match st, mj_lnk P mi idx with
    | v :: .ref a :: r, some (0, ci, k, w, _) => match mj_get P σ a with
      | some (.inr (cj, fs)) => if cj = ci ∧ a % 4 ≠ 0 ∧ k < fs.length ∧ mj_fit w v = true then some (pc + len, L, r, mj_set σ a (.inr (cj, fs.set k v))) else none
      | _ => none
    | _, _ => none
  | .checkcast idx => match st, mj_lnk P mi idx with
    | .ref a :: r, some (12, _, _, _, _) => match mj_get P σ a with
      | some (.inl (.int, _)) => if a % 4 ≠ 0 then some (pc + len, L, .ref a :: r, σ) else none
      | _ => none
    | _, _ => none
  | .getstatic idx => match mj_lnk P mi idx with
    | some (1, _, _, _, v) => some (pc + len, L, v :: st, σ)
    | _ => none
  | .ldc idx => match mj_lnk P mi idx with
    | some (8, _, _, _, v) => some (pc + len, L, v :: st, σ)
    | some (9, _, _, _, v) => some (pc + len, L, v :: st, σ)
    | _ => none
  | .ldc_w idx => match mj_lnk P mi idx with
    | some (8, _, _, _, v) => some (pc + len, L, v :: st, σ)
    | _ => none
  | .ldc2_w idx => match mj_lnk P mi idx with
    | some (10, _, _, _, v) => some (pc + len, L, v :: st, σ)
    | _ => none
  | .arraylength => match st with
    | .ref a :: r => match mj_get P σ a with
      | some (.inl (_, A)) => some (pc + len, L, .int (Int32.ofNat A.1) :: r, σ)
      | _ => none
    | _ => none
  | .newarray t => match st with
    | .int n :: r => if n < 0 ∨ 65536 < n.toNatClampNeg then none else match t with
      | .int => some (pc + len, L, .ref (mj_nx P σ) :: r, mj_new P σ (.inl (.int, n.toNatClampNeg, .inl (fun _ => 0))) n.toNatClampNeg)
      | .byte => some (pc + len, L, .ref (mj_nx P σ) :: r, mj_new P σ (.inl (.byte, n.toNatClampNeg, .inl (fun _ => 0))) n.toNatClampNeg)
      | .boolean => some (pc + len, L, .ref (mj_nx P σ) :: r, mj_new P σ (.inl (.boolean, n.toNatClampNeg, .inl (fun _ => 0))) n.toNatClampNeg)
      | .long => some (pc + len, L, .ref (mj_nx P σ) :: r, mj_new P σ (.inl (.long, n.toNatClampNeg, .inr (.inl (fun _ => 0)))) n.toNatClampNeg)
      | _ => none
    | _ => none
  | .anewarray idx => match st, mj_lnk P mi idx with
    | .int n :: r, some (_, ci, _, _, _) => match (mj_cl P)[ci]? with
      | some (C, _, _) => if n < 0 ∨ 65536 < n.toNatClampNeg then none else some (pc + len, L, .ref (mj_nx P σ) :: r, mj_new P σ (.inl (.object C, n.toNatClampNeg, .inr (.inr (.inr (.inr (fun _ => none)))))) n.toNatClampNeg)
      | none => none
    | _, _ => none
  | .iadd | .isub | .imul | .iand | .ior | .ixor | .ishl | .ishr | .iushr | .idiv | .irem => match st with
    | .int y :: .int x :: r => match mj_b32 i x y with
      | some z => some (pc + len, L, .int z :: r, σ)
      | none => none
    | _ => none
  | .ladd | .lsub | .lmul | .land | .lor | .ldiv | .lrem => match st with
    | .long y :: .long x :: r => match mj_b64 i x y with
      | some z => some (pc + len, L, .long z :: r, σ)
      | none => none
    | _ => none
  | .ineg | .i2l | .i2b | .i2s | .i2c => match st with
    | .int x :: r => match mj_u32 i x with
      | some z => some (pc + len, L, z :: r, σ)
      | none => none
    | _ => none
  | .if_icmp _ _ => match st with
    | .int y :: .int x :: r => match mj_cmp i x y with
      | some (b, o) => mj_if b pc o L r σ
      | none => none
    | _ => none
  | .ifCond _ _ => match st with
    | .int x :: r => match mj_cm0 i x with
      | some (b, o) => mj_if b pc o L r σ
      | none => none
    | _ => none
  | .iaload | .baload | .laload | .aaload => match st with
    | .int j :: .ref a :: r => match mj_get P σ a with
      | some (.inl (ty, A)) => if mj_okx j A.1 = true then match mj_ald i ty A j.toNatClampNeg with
          | some v => some (pc + len, L, v :: r, σ)
          | none => none
        else none
      | _ => none
    | _ => none
  | .iastore | .bastore | .lastore | .aastore => match st with
    | v :: .int j :: .ref a :: r => match mj_get P σ a with
      | some (.inl (ty, A)) => if mj_okx j A.1 = true ∧ a % 4 ≠ 0 ∧ mj_asg P σ ty v = true then match mj_ast i ty A j.toNatClampNeg v with
          | some A' => some (pc + len, L, r, mj_set σ a (.inl (ty, A')))
          | none => none
        else none
      | _ => none
    | _ => none
  | _ => none
/-- arraycopy of ints -/
def mj_cpy (P : mj_P) (st : List Value) (σ : mj_H) : Option (List Value × mj_H) := match st with
  | .int n :: .int dp :: .ref b :: .int sp :: .ref a :: r => match mj_get P σ a, mj_get P σ b with
    | some (.inl (.int, n0, .inl f)), some (.inl (.int, n1, .inl g)) =>
      if ¬ sp < 0 ∧ ¬ dp < 0 ∧ ¬ n < 0 ∧ sp.toNatClampNeg + n.toNatClampNeg ≤ n0 ∧ dp.toNatClampNeg + n.toNatClampNeg ≤ n1 ∧ a % 4 ≠ 0 ∧ b % 4 ≠ 0 ∧ a ≠ b ∧ mj_cat r ≤ 8 then
        some (r, mj_set σ b (.inl (.int, n1, .inl (va_cpy f g sp.toNatClampNeg dp.toNatClampNeg n.toNatClampNeg))))
      else none
    | _, _ => none
  | _ => none
/-- clone of an array of ints -/
def mj_cln (P : mj_P) (st : List Value) (σ : mj_H) : Option (List Value × mj_H) := match st with
  | .ref a :: r => match mj_get P σ a with
    | some (.inl (.int, n0, .inl f)) => if a % 4 ≠ 0 ∧ mj_cat r ≤ 8 then some (.ref (mj_nx P σ) :: r, mj_new P σ (.inl (.int, n0, .inl f)) n0) else none
    | _ => none
  | _ => none
/-- the handler of an exception e thrown by the call at pc: where it goes on, which local it takes -/
def mj_hnd : List (Nat × Nat × Nat × Nat) → List Nat → Nat → Nat → Option Nat
  | (a, b, h, _) :: r, c :: cs, pc, e => if a ≤ pc ∧ pc < b ∧ c = e then some h else mj_hnd r cs pc e
  | _, _, _, _ => none
/-- whom a call by this link meets: the receiver's class -/
def mj_rcv (P : mj_P) (σ : mj_H) (i : Instr) (ci : Nat) (as : List Value) : Bool := match i with
  | .invokevirtual _ => match as with
    | .ref b :: _ => match mj_get P σ b with
      | some (.inr (cj, _)) => decide (cj = ci ∧ ci ≠ 0 ∧ (b % 4 = 0 ↔ ci = 1))
      | _ => false
    | _ => false
  | .invokespecial _ => match as with
    | .ref _ :: _ => true
    | _ => false
  | _ => true
abbrev mj_Q : Type := (Option Value ⊕ Nat) × mj_H
def mj_inv (i : Instr) : Option Nat := match i with
  | .invokevirtual x => some x
  | .invokestatic x => some x
  | .invokespecial x => some x
  | _ => none
def mj_ret (i : Instr) (st : List Value) (ret : Option FieldType) : Option (Option Value) := match i, st, ret with
  | .ireturn, [.int v], some .int => some (some (.int v))
  | .ireturn, [.int v], some ty => if narrow ty (.int v) = .int v then some (some (.int v)) else none
  | .lreturn, [.long v], some .long => some (some (.long v))
  | .areturn, [.ref a], some (.object _) => some (some (.ref a))
  | .areturn, [.null], some (.object _) => some (some .null)
  | .areturn, [.ref a], some (.array _) => some (some (.ref a))
  | .areturn, [.null], some (.array _) => some (some .null)
  | .return_, [], none => some none
  | _, _, _ => none
def mj_rt (P : mj_P) (mi : Nat) : Option FieldType := match mj_mth P mi with
  | some M => M.2.2.2.1
  | none => none
/-- the lengths that the rows take -/
def mj_ln (i : Instr) (len : Nat) : Bool := match i with
  | .bipush _ | .iload _ | .lload _ | .aload _ | .istore _ | .lstore _ | .astore _ | .ldc _ | .newarray _ => decide (len = 2)
  | .sipush _ | .iinc _ _ | .goto _ | .ifnull _ | .ifnonnull _ | .if_icmp _ _ | .ifCond _ _ | .getfield _ | .putfield _ | .getstatic _ | .ldc_w _ | .ldc2_w _ | .new _ | .checkcast _ | .anewarray _ | .invokevirtual _ | .invokestatic _ | .invokespecial _ => decide (len = 3)
  | .tableswitch _ _ _ _ | .lookupswitch _ _ => true
  | _ => decide (len = 1)
def mj_run (P : mj_P) : Nat → Nat → Nat → Nat → mj_L → List Value → mj_H → Option mj_Q
  | 0, _, _, _, _, _, _ => none
  | n + 1, d, mi, pc, L, st, σ => match mj_ins P mi pc with
    | none => none
    | some (i, len) => match mj_inv i with
      | some idx => match mj_lnk P mi idx with
        | some (5, _, _, _, _) => match i, st with
          | .invokespecial _, .ref _ :: r => if mj_cat r ≤ 8 then mj_run P n d mi (pc + 3) L r σ else none
          | _, _ => none
        | some (6, _, _, _, _) => match i, mj_cpy P st σ with
          | .invokestatic _, some (r, σ') => mj_run P n d mi (pc + 3) L r σ'
          | _, _ => none
        | some (11, _, _, _, _) => match i, mj_cln P st σ with
          | .invokevirtual _, some (st', σ') => mj_run P n d mi (pc + 3) L st' σ'
          | _, _ => none
        | some (4, mj, na, ci, _) => match d, mj_mth P mj with
          | d' + 1, some (_, _, nl, _, hh', cs') =>
            if na ≤ st.length ∧ (mj_args (st.take na).reverse).length ≤ nl ∧ mj_cat (st.drop na) ≤ 8 ∧ mj_rcv P σ i ci (st.take na).reverse = true then
              match mj_run P n d' mj 0 (mj_ent (st.take na).reverse nl) [] σ with
              | none => none
              | some (.inl v, σ1) => mj_run P n d mi (pc + 3) L (v.toList ++ st.drop na) σ1
              | some (.inr e, σ1) => if cs' = [] ∨ hh' ≠ [] then none else match mj_mth P mi with
                | some (_, _, _, _, [], _) => some (.inr e, σ1)
                | some (_, _, _, _, hh, cs) => match mj_hnd hh cs pc e with
                  | some h => match mj_ins P mi h with
                    | some (.astore_n k, _) => if (k : Nat) < L.length then mj_run P n d mi (h + 1) ((mj_kill L k).set k none) [] σ1 else none
                    | some (.astore k, _) => if k < L.length then mj_run P n d mi (h + 2) ((mj_kill L k).set k none) [] σ1 else none
                    | _ => none
                  | none => none
                | none => none
            else none
          | _, _ => none
        | _ => none
      | none => match mj_ret i st (mj_rt P mi) with
        | some v => some (.inl v, σ)
        | none => match i with
          | .new idx => match mj_lnk P mi idx with
            | some (7, e, _, _, _) => if mj_cat st ≤ 8 then some (.inr e, mj_new P σ (.inr (0, [])) 6) else none
            | some (2, ci, nf, _, _) => mj_run P n d mi (pc + 3) L (.ref (mj_nx P σ) :: st) (mj_new P σ (.inr (ci, mj_df P ci)) nf)
            | _ => none
          | _ => match mj_sim P mi i len pc L st σ with
            | some (pc', L', st', σ') => mj_run P n d mi pc' L' st' σ'
            | none => none
