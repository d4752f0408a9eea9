/-! a simple instruction, whichever -/
section MJ8
variable {p : Program} {l : Launch} {e : Env} {R : Room} {s : State} {m : MethodId} {args : Array Value} {below : List Frame} {meth : Method} {c : Code} {H : Heap} {locs : List Loc} {cells slots : Nat} {Q : State → Prop}
variable {G : mj_G} {P : mj_P} {Tg NW : List Cond} {mi pc len pc' : Nat} {L L' : mj_L} {st st' : List Value} {σ σ' : mj_H} {ls : Array Slot}
/-- a method's frame in the big machine: its code, its words, its world -/
def mj_Cx (G : mj_G) (P : mj_P) (Tg NW : List Cond) (M : mj_M) (p : Program) (s : State) (m : MethodId) (args : Array Value) (meth : Method) (c : Code) : Prop :=
  p.tables.exec = Jvm.exec ∧ c.code = M.2.1 ∧ meth.sig.returnType = M.2.2.2.1 ∧ c.maxLocals = M.2.2.1 ∧ s.vm.findClass M.1.cls = some m.cls ∧ (∀ w ∈ Tg, w.before args s = true) ∧ meth.locks = false ∧ meth.name = M.1.name ∧ c.exceptionTable.toList = tableOf M.2.2.2.2.1 ∧ mj_Wd G P Tg NW s ∧ ∀ q : Nat, q < G.2.1 → s.heap[q]? = G.2.2.1[q]?
set_option maxHeartbeats 4000000 in
theorem mj_sim_ok {M : mj_M} {i : Instr} (hk : mj_Pk P Tg NW) (hM : mj_mth P mi = some M) (hi : mj_ins P mi pc = some (i, len)) (C : mj_Cx G P Tg NW M p s m args meth c) (hR : mj_HR G P σ H) (hL : mj_LR (mj_ad G P) L ls M.2.2.1) (hS : ∀ q ∈ locs, G.2.1 ≤ q.base) (hz : s.heap.size ≤ H.size)
    (hc : cells + mj_tot σ' ≤ R.cells + mj_tot σ) (hsl : slots + σ'.2.2.2 ≤ R.slots + σ.2.2.2)
    (h : mj_sim P mi i len pc L st σ = some (pc', L', st', σ')) (kk : mj_kk G P p l e R s m args below meth c cells slots Q M.2.2.1 σ pc' L' st' σ') : W p l e R s m args below meth c H locs cells slots Q (F0 m pc ls (st.map (mj_tr (mj_ad G P)))) := by
  obtain ⟨hx, hb, -, -, hown, hts, -, hnm, -, hW, hs⟩ := C
  obtain ⟨hdg, hln, hKs⟩ := hk.2.2.2 mi pc M i len hM hi
  have hU := fun idx K (q1 : mj_idx i = some idx) (q2 : mj_lnk P mi idx = some K) => hW.2.2.2.1 mi pc idx M i len K hM hi q1 q2
  cases i
  case iconst => exact mk_iconst hx hb hdg hR hL hS (of_decide_eq_true hln) h kk
  case bipush => exact mk_bipush hx hb hdg hR hL hS (of_decide_eq_true hln) h kk
  case sipush => exact mk_sipush hx hb hdg hR hL hS (of_decide_eq_true hln) h kk
  case lconst => exact mk_lconst hx hb hdg hR hL hS (of_decide_eq_true hln) h kk
  case aconst_null => exact mk_aconst_null hx hb hdg hR hL hS (of_decide_eq_true hln) h kk
  case iload_n => exact mk_iload_n hx hb hdg hR hL hS (of_decide_eq_true hln) h kk
  case iload => exact mk_iload hx hb hdg hR hL hS (of_decide_eq_true hln) h kk
  case lload_n => exact mk_lload_n hx hb hdg hR hL hS (of_decide_eq_true hln) h kk
  case lload => exact mk_lload hx hb hdg hR hL hS (of_decide_eq_true hln) h kk
  case aload_n => exact mk_aload_n hx hb hdg hR hL hS (of_decide_eq_true hln) h kk
  case aload => exact mk_aload hx hb hdg hR hL hS (of_decide_eq_true hln) h kk
  case istore_n => exact mk_istore_n hx hb hdg hR hL hS (of_decide_eq_true hln) h kk
  case istore => exact mk_istore hx hb hdg hR hL hS (of_decide_eq_true hln) h kk
  case lstore_n => exact mk_lstore_n hx hb hdg hR hL hS (of_decide_eq_true hln) h kk
  case lstore => exact mk_lstore hx hb hdg hR hL hS (of_decide_eq_true hln) h kk
  case astore_n => exact mk_astore_n hx hb hdg hR hL hS (of_decide_eq_true hln) h kk
  case astore => exact mk_astore hx hb hdg hR hL hS (of_decide_eq_true hln) h kk
  case iinc => exact mk_iinc hx hb hdg hR hL hS (of_decide_eq_true hln) h kk
  case dup => exact mk_dup hx hb hdg hR hL hS (of_decide_eq_true hln) h kk
  case dup2 => exact mk_dup2 hx hb hdg hR hL hS (of_decide_eq_true hln) h kk
  case pop => exact mk_pop hx hb hdg hR hL hS (of_decide_eq_true hln) h kk
  case pop2 => exact mk_pop2 hx hb hdg hR hL hS (of_decide_eq_true hln) h kk
  case goto => exact mk_goto hx hb hdg hR hL hS (of_decide_eq_true hln) h kk
  case ifnull => exact mk_ifnull hx hb hdg hR hL hS (of_decide_eq_true hln) h kk
  case ifnonnull => exact mk_ifnonnull hx hb hdg hR hL hS (of_decide_eq_true hln) h kk
  case if_icmp cd off =>
    cases cd
    · exact mk_icmp_eq hx hb hdg hR hL hS (of_decide_eq_true hln) h kk
    · exact mk_icmp_ne hx hb hdg hR hL hS (of_decide_eq_true hln) h kk
    · exact mk_icmp_lt hx hb hdg hR hL hS (of_decide_eq_true hln) h kk
    · exact mk_icmp_ge hx hb hdg hR hL hS (of_decide_eq_true hln) h kk
    · exact mk_icmp_gt hx hb hdg hR hL hS (of_decide_eq_true hln) h kk
    · exact mk_icmp_le hx hb hdg hR hL hS (of_decide_eq_true hln) h kk
  case ifCond cd off =>
    cases cd
    · exact mk_ifc_eq hx hb hdg hR hL hS (of_decide_eq_true hln) h kk
    · exact mk_ifc_ne hx hb hdg hR hL hS (of_decide_eq_true hln) h kk
    · exact mk_ifc_lt hx hb hdg hR hL hS (of_decide_eq_true hln) h kk
    · exact mk_ifc_ge hx hb hdg hR hL hS (of_decide_eq_true hln) h kk
    · exact mk_ifc_gt hx hb hdg hR hL hS (of_decide_eq_true hln) h kk
    · exact mk_ifc_le hx hb hdg hR hL hS (of_decide_eq_true hln) h kk
  case tableswitch => exact mk_tableswitch hx hb hdg hR hL hS h kk
  case lookupswitch => exact mk_lookupswitch hx hb hdg hR hL hS h kk
  case lcmp => exact mk_lcmp hx hb hdg hR hL hS (of_decide_eq_true hln) h kk
  case l2i => exact mk_l2i hx hb hdg hR hL hS (of_decide_eq_true hln) h kk
  case lshl => exact mk_lshl hx hb hdg hR hL hS (of_decide_eq_true hln) h kk
  case lshr => exact mk_lshr hx hb hdg hR hL hS (of_decide_eq_true hln) h kk
  case ladd => exact mk_ladd hx hb hdg hR hL hS (of_decide_eq_true hln) h kk
  case lsub => exact mk_lsub hx hb hdg hR hL hS (of_decide_eq_true hln) h kk
  case lmul => exact mk_lmul hx hb hdg hR hL hS (of_decide_eq_true hln) h kk
  case land => exact mk_land hx hb hdg hR hL hS (of_decide_eq_true hln) h kk
  case lor => exact mk_lor hx hb hdg hR hL hS (of_decide_eq_true hln) h kk
  case ldiv => exact mk_ldiv hx hb hdg hR hL hS (of_decide_eq_true hln) h kk
  case lrem => exact mk_lrem hx hb hdg hR hL hS (of_decide_eq_true hln) h kk
  case ineg => exact mk_ineg hx hb hdg hR hL hS (of_decide_eq_true hln) h kk
  case i2l => exact mk_i2l hx hb hdg hR hL hS (of_decide_eq_true hln) h kk
  case i2b => exact mk_i2b hx hb hdg hR hL hS (of_decide_eq_true hln) h kk
  case i2s => exact mk_i2s hx hb hdg hR hL hS (of_decide_eq_true hln) h kk
  case i2c => exact mk_i2c hx hb hdg hR hL hS (of_decide_eq_true hln) h kk
  case iadd => exact mj_sim_ok1 hx hb hdg hR hL hS (by simp) (of_decide_eq_true hln) h kk
  case isub => exact mj_sim_ok1 hx hb hdg hR hL hS (by simp) (of_decide_eq_true hln) h kk
  case imul => exact mj_sim_ok1 hx hb hdg hR hL hS (by simp) (of_decide_eq_true hln) h kk
  case iand => exact mj_sim_ok1 hx hb hdg hR hL hS (by simp) (of_decide_eq_true hln) h kk
  case ior => exact mj_sim_ok1 hx hb hdg hR hL hS (by simp) (of_decide_eq_true hln) h kk
  case ixor => exact mj_sim_ok1 hx hb hdg hR hL hS (by simp) (of_decide_eq_true hln) h kk
  case ishl => exact mj_sim_ok1 hx hb hdg hR hL hS (by simp) (of_decide_eq_true hln) h kk
  case ishr => exact mj_sim_ok1 hx hb hdg hR hL hS (by simp) (of_decide_eq_true hln) h kk
  case iushr => exact mj_sim_ok1 hx hb hdg hR hL hS (by simp) (of_decide_eq_true hln) h kk
  case idiv => exact mj_sim_ok1 hx hb hdg hR hL hS (by simp) (of_decide_eq_true hln) h kk
  case irem => exact mj_sim_ok1 hx hb hdg hR hL hS (by simp) (of_decide_eq_true hln) h kk
  case getfield idx => exact mk_getfield hx hb hdg hR hL hS (of_decide_eq_true hln) hts hW hown hs hz (fun K q => ⟨(hKs idx K rfl q).1, hU idx K rfl q⟩) h kk
  case putfield idx => exact mk_putfield hx hb hdg hR hL hS (of_decide_eq_true hln) hts hW hown (fun ci k w v q1 q2 => hnm.trans ((hKs idx _ rfl q1).2 q2)) (fun K q => ⟨(hKs idx K rfl q).1, hU idx K rfl q⟩) h kk
  case getstatic idx => exact mk_getstatic hx hb hdg hR hL hS (of_decide_eq_true hln) hts hW hown hs hz (fun K q => ⟨(hKs idx K rfl q).1, hU idx K rfl q⟩) h kk
  case ldc idx => exact mk_ldc hx hb hdg hR hL hS (of_decide_eq_true hln) hts hW hown hs hz (fun K q => ⟨(hKs idx K rfl q).1, hU idx K rfl q⟩) h kk
  case ldc_w idx => exact mk_ldc_w hx hb hdg hR hL hS (of_decide_eq_true hln) hts hW hown hs hz (fun K q => ⟨(hKs idx K rfl q).1, hU idx K rfl q⟩) h kk
  case ldc2_w idx => exact mk_ldc2_w hx hb hdg hR hL hS (of_decide_eq_true hln) hts hW hown hs hz (fun K q => ⟨(hKs idx K rfl q).1, hU idx K rfl q⟩) h kk
  case arraylength => exact mk_arraylength hx hb hdg hR hL hS (of_decide_eq_true hln) hW hs h kk
  case iaload => exact mk_iaload hx hb hdg hR hL hS (of_decide_eq_true hln) hW hs h kk
  case baload => exact mk_baload hx hb hdg hR hL hS (of_decide_eq_true hln) hW hs h kk
  case laload => exact mk_laload hx hb hdg hR hL hS (of_decide_eq_true hln) hW hs h kk
  case aaload => exact mk_aaload hx hb hdg hR hL hS (of_decide_eq_true hln) hW hs h kk
  case iastore => exact mk_iastore hx hb hdg hR hL hS (of_decide_eq_true hln) hW hs h kk
  case lastore => exact mk_lastore hx hb hdg hR hL hS (of_decide_eq_true hln) hW hs h kk
  case bastore => exact mk_bastore hx hb hdg hR hL hS (of_decide_eq_true hln) hW hs h kk
  case aastore => exact mk_aastore hx hb hdg hR hL hS (of_decide_eq_true hln) hW hs h kk
  case newarray => exact mk_newarray hx hb hdg hR hL hS (of_decide_eq_true hln) hts hW hk.2.2.1 hc hsl h kk
  case anewarray idx => exact mk_anewarray hx hb hdg hR hL hS (of_decide_eq_true hln) hts hW hown (fun K q => ⟨(hKs idx K rfl q).1, hU idx K rfl q⟩) (fun k0 ci C T N w v u q1 q2 => (hKs idx _ rfl q1).2 C T N q2) hc hsl h kk
  case checkcast idx => exact mk_checkcast hx hb hdg hR hL hS (of_decide_eq_true hln) hts hW hown (fun K q => ⟨(hKs idx K rfl q).1, hU idx K rfl q⟩) h kk
  all_goals exact absurd h (by simp [mj_sim])
end MJ8
