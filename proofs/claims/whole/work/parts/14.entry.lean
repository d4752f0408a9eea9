/-! a method's entry and its contract -/
section MJ9
variable {ad : Nat → Nat}
theorem mj_args_len (as : List Value) : (lg_sl (as.map (mj_tr ad))).length = (mj_args as).length := by
  induction as with
  | nil => rfl
  | cons v r ih =>
    unfold lg_sl at ih ⊢
    rw [List.map_cons, List.flatMap_cons, List.length_append, ih, mj_args, mj_tr_cat]
    split
    · simp; omega
    · simp; omega
theorem mj_args_at : ∀ (as : List Value) (k i : Nat) (v : Value), (mj_args as)[i]? = some (some v) → (k + i, mj_tr ad v) ∈ lv_args k (as.map (mj_tr ad))
  | [], k, i, v, h => by simp [mj_args] at h
  | w :: r, k, i, v, h => by
    rw [mj_args] at h
    rw [List.map_cons, lv_args, mj_tr_cat]
    split at h
    · rename_i hc
      rw [if_pos hc]
      match i, h with
      | 0, h => cases h; exact List.mem_cons_self
      | 1, h => cases h
      | j + 2, h =>
        have h2 := mj_args_at r (k + 2) j v h
        rw [show k + (j + 2) = k + 2 + j by omega]
        exact List.mem_cons_of_mem _ h2
    · rename_i hc
      rw [if_neg hc]
      match i, h with
      | 0, h => cases h; exact List.mem_cons_self
      | j + 1, h =>
        have h2 := mj_args_at r (k + 1) j v h
        rw [show k + (j + 1) = k + 1 + j by omega]
        exact List.mem_cons_of_mem _ h2
theorem mj_ent_LR {as : List Value} {n : Nat} (h : (mj_args as).length ≤ n) : mj_LR ad (mj_ent as n) ((lg_sl (as.map (mj_tr ad)) ++ List.replicate (n - (lg_sl (as.map (mj_tr ad))).length) Slot.unset).toArray) n := by
  obtain ⟨h1, h2, h3⟩ := lv_entry (as.map (mj_tr ad)) (n := n) (by rw [mj_args_len]; exact h)
  refine ⟨by unfold mj_ent; simp; omega, h1, h2, fun i v hi => ?_⟩
  have hi2 : (mj_args as)[i]? = some (some v) := by
    unfold mj_ent at hi
    rcases Nat.lt_or_ge i (mj_args as).length with q | q
    · rwa [List.getElem?_append_left q] at hi
    · rw [List.getElem?_append_right q] at hi
      rw [List.getElem?_replicate] at hi
      split at hi
      · cases hi
      · cases hi
  have h4 := mj_args_at (ad := ad) as 0 i v hi2
  rw [Nat.zero_add] at h4
  exact h3 _ h4
end MJ9
section MJ10
variable {G : mj_G} {P : mj_P} {Tg NW : List Cond} {l : Launch}
def mj_rm (d mc ms : Nat) : Room := { frames := 8 + d, cells := mc, slots := ms, locals := 200 + 64 * d }
def mj_fr (G : mj_G) : Addr → Prop := fun q => G.2.1 ≤ q
def mj_Pc (G : mj_G) (P : mj_P) (Tg NW : List Cond) (as : List Value) (σ : mj_H) : Array Value → State → Prop := fun v U => v = (as.map (mj_tr (mj_ad G P))).toArray ∧ mj_Wd G P Tg NW U ∧ mj_HR G P σ U.heap
def mj_Qr (G : mj_G) (P : mj_P) (v : Option Value) (σ' : mj_H) : Array Value → State → Outcome → State → Prop := fun _ _ o t => o = .returned (v.map (mj_tr (mj_ad G P))) ∧ mj_HR G P σ' t.heap
def mj_XC (G : mj_G) (P : mj_P) (x : Nat) (σ' : mj_H) : String → State → State → Prop := fun E _ t => E = mj_en x ∧ mj_HR G P σ' t.heap
def mj_Fin (G : mj_G) (P : mj_P) (below : List Frame) (res : Option Value ⊕ Nat) (σ' : mj_H) (args : Array Value) (s : State) (mc ms : Nat) : State → Prop := match res with
  | .inl v => MQ below (mj_Qr G P v σ') args s mc ms (mj_fr G)
  | .inr x => vx_MQ below (fun _ _ _ _ => False) (mj_XC G P x σ') args s mc ms (mj_fr G)
/-- what a run of n steps of the small machine says of the big one -/
def mj_Snd (G : mj_G) (P : mj_P) (Tg NW : List Cond) (l : Launch) (n : Nat) : Prop :=
  ∀ (d mi : Nat) (M : mj_M) (pc : Nat) (L : mj_L) (st : List Value) (σ σ' : mj_H) (res : Option Value ⊕ Nat), mj_mth P mi = some M → mj_run P n d mi pc L st σ = some (res, σ') →
  ∀ (p : Program) (e : Env) (R : Room) (s : State) (m : MethodId) (args : Array Value) (below : List Frame) (meth : Method) (c : Code) (H : Heap) (locs : List Loc) (cells slots : Nat) (ls : Array Slot) (mc ms : Nat),
    mj_Cx G P Tg NW M p s m args meth c → mj_HR G P σ H → mj_LR (mj_ad G P) L ls M.2.2.1 → (∀ q ∈ locs, G.2.1 ≤ q.base) → s.heap.size ≤ H.size → 8 + d ≤ R.frames → 200 + 64 * d ≤ R.locals → R.cells = mc → R.slots = ms →
    cells + mj_tot σ' = mc + mj_tot σ → slots + σ'.2.2.2 = ms + σ.2.2.2 → W p l e R s m args below meth c H locs cells slots (mj_Fin G P below res σ' args s mc ms) (F0 m pc ls (st.map (mj_tr (mj_ad G P))))
theorem mj_Pc_blind (hk : mj_Pk P Tg NW) (as : List Value) (σ : mj_H) : FrameBlind (mj_Pc G P Tg NW as σ) := by
  rintro a U g mk ⟨h1, h2, h3⟩
  exact ⟨h1, h2.move hk (State.WarmedH.refl U) (fun _ _ _ => rfl), h3⟩
theorem mj_cx {M : mj_M} {ws' : List Cond} {rm : Room} {p : Program} {e : Env} {s s₁ : State} {m : MethodId} {args : Array Value} {below : List Frame} {meth : Method} {c : Code} {as : List Value} {σ : mj_H} {w0 : Cond}
    (B : BodyLoose p l M.1 (headSpec (w0 :: Tg) rm) M.2.1 M.2.2.1 M.2.2.2.1 e s m args below meth c s₁) (hml : c.maxLocals = M.2.2.1) (hex : c.exceptionTable.toList = tableOf M.2.2.2.2.1) (hPc : mj_Pc G P Tg NW as σ args s) : mj_Cx G P Tg NW M p s m args meth c :=
  ⟨B.exec, B.bytes, B.returns, hml, findClass_of_methodNamed B.named, fun w hw => atoms_spec (ws := w0 :: Tg) B.pre w (List.mem_cons_of_mem _ hw), B.notSynchronized, (name_of_methodNamed B.named B.method).1, hex, hPc.2.1, hPc.2.2.2.2.2⟩
theorem mj_go {n d mi : Nat} {M : mj_M} {as : List Value} {σ σ' : mj_H} {res : Option Value ⊕ Nat} {w0 : Cond} {p : Program} {e : Env} {s s₁ : State} {m : MethodId} {args : Array Value} {below : List Frame} {meth : Method} {c : Code}
    (hI : mj_Snd G P Tg NW l n) (hM : mj_mth P mi = some M) (hrun : mj_run P n d mi 0 (mj_ent as M.2.2.1) [] σ = some (res, σ')) (hlen : (mj_args as).length ≤ M.2.2.1)
    (B : BodyLoose p l M.1 (headSpec (w0 :: Tg) (mj_rm d (mj_tot σ' - mj_tot σ) (σ'.2.2.2 - σ.2.2.2))) M.2.1 M.2.2.1 M.2.2.2.1 e s m args below meth c s₁) (hml : c.maxLocals = M.2.2.1) (hex : c.exceptionTable.toList = tableOf M.2.2.2.2.1) (hPc : mj_Pc G P Tg NW as σ args s) :
    W p l e (headSpec (w0 :: Tg) (mj_rm d (mj_tot σ' - mj_tot σ) (σ'.2.2.2 - σ.2.2.2))).room s m args below meth c s.heap [] 0 0 (mj_Fin G P below res σ' args s (mj_tot σ' - mj_tot σ) (σ'.2.2.2 - σ.2.2.2)) (entryFrame m args M.2.2.1) := by
  have hC := mj_cx (ws' := []) B hml hex hPc
  obtain ⟨hle1, hle2⟩ := mj_run_le P _ _ _ _ _ _ _ _ _ hrun
  obtain ⟨rfl, -, hR⟩ := hPc
  rw [lg_entry_eq]
  exact hI d mi M 0 _ [] σ σ' res hM hrun p e _ s m _ below meth c s.heap [] 0 0 _ _ _ hC hR (mj_ent_LR hlen) (fun q hq => by cases hq) (Nat.le_refl _) (Nat.le_refl _) (Nat.le_refl _) rfl rfl (by omega) (by omega)
theorem mj_tbl0 {M : mj_M} {rm : Room} {p : Program} {e : Env} {s s₁ : State} {m : MethodId} {args : Array Value} {below : List Frame} {meth : Method} {c : Code} (h0 : M.2.2.2.2.1 = [])
    (B : BodyLoose p l M.1 (headSpec (Cond.code M.1 M.2.1 M.2.2.1 M.2.2.2.1 :: Tg) rm) M.2.1 M.2.2.1 M.2.2.2.1 e s m args below meth c s₁) : c.exceptionTable.toList = tableOf M.2.2.2.2.1 := by
  obtain ⟨meth9, c9, h1, h2, -, -, -, -, h7, -⟩ := Cond.code_spec B.named (atoms_spec (ws := Cond.code M.1 M.2.1 M.2.2.1 M.2.2.2.1 :: Tg) B.pre _ List.mem_cons_self)
  cases Option.some.inj (h1.symm.trans B.method)
  cases Option.some.inj (h2.symm.trans (Stand.of_body B).code)
  rw [h0, Array.isEmpty_iff.mp h7]
  rfl
/-- a callee that returns -/
theorem mj_met {n d mi : Nat} {M : mj_M} {as : List Value} {σ σ' : mj_H} {v : Option Value} (hI : mj_Snd G P Tg NW l n) (hM : mj_mth P mi = some M) (h0 : M.2.2.2.2.1 = []) (hp : plainFor M.1 = true) (hrun : mj_run P n d mi 0 (mj_ent as M.2.2.1) [] σ = some (.inl v, σ')) (hlen : (mj_args as).length ≤ M.2.2.1) :
    Met l M.1 (Cond.code M.1 M.2.1 M.2.2.1 M.2.2.2.1 :: Tg) (mj_rm d (mj_tot σ' - mj_tot σ) (σ'.2.2.2 - σ.2.2.2)) (mj_Pc G P Tg NW as σ) (mj_Qr G P v σ') (mj_tot σ' - mj_tot σ) (σ'.2.2.2 - σ.2.2.2) (mj_fr G) :=
  va_MetF hp rfl (fun p e s m args below meth c s₁ B hml hPc => mj_go hI hM hrun hlen B hml (mj_tbl0 h0 B) hPc)
/-- a callee with handlers that returns -/
theorem mj_metW {n d mi : Nat} {M : mj_M} {as : List Value} {σ σ' : mj_H} {v : Option Value} (hI : mj_Snd G P Tg NW l n) (hM : mj_mth P mi = some M) (hp : plainName M.1.cls = true) (hrun : mj_run P n d mi 0 (mj_ent as M.2.2.1) [] σ = some (.inl v, σ')) (hlen : (mj_args as).length ≤ M.2.2.1) :
    Met l M.1 (Cond.codeWith M.1 M.2.1 M.2.2.1 M.2.2.2.1 M.2.2.2.2.1 :: Tg) (mj_rm d (mj_tot σ' - mj_tot σ) (σ'.2.2.2 - σ.2.2.2)) (mj_Pc G P Tg NW as σ) (mj_Qr G P v σ') (mj_tot σ' - mj_tot σ) (σ'.2.2.2 - σ.2.2.2) (mj_fr G) :=
  va_MetW hp rfl (fun p e s m args below meth c s₁ B hml hPc => mj_go hI hM hrun hlen B hml (vx_table (x := M.1) B (atoms_spec (ws := Cond.codeWith M.1 M.2.1 M.2.2.1 M.2.2.2.1 M.2.2.2.2.1 :: Tg) B.pre _ List.mem_cons_self)) hPc)
/-- a callee that throws -/
theorem mj_metX {n d mi x : Nat} {M : mj_M} {as : List Value} {σ σ' : mj_H} (hI : mj_Snd G P Tg NW l n) (hM : mj_mth P mi = some M) (h0 : M.2.2.2.2.1 = []) (hp : plainName M.1.cls = true) (hrun : mj_run P n d mi 0 (mj_ent as M.2.2.1) [] σ = some (.inr x, σ')) (hlen : (mj_args as).length ≤ M.2.2.1) :
    vx_Met l M.1 (Cond.code M.1 M.2.1 M.2.2.1 M.2.2.2.1 :: Tg) (mj_rm d (mj_tot σ' - mj_tot σ) (σ'.2.2.2 - σ.2.2.2)) (mj_Pc G P Tg NW as σ) (fun _ _ _ _ => False) (mj_XC G P x σ') (mj_tot σ' - mj_tot σ) (σ'.2.2.2 - σ.2.2.2) (mj_fr G) :=
  vx_ofW hp rfl (fun p e s m args below meth c s₁ B hml _ hPc => mj_go hI hM hrun hlen B hml (mj_tbl0 h0 B) hPc)
end MJ10
