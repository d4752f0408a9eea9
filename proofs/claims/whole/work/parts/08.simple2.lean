/-! a simple instruction, the others -/
section MJ4
variable {p : Program} {l : Launch} {e : Env} {R : Room} {s : State} {m : MethodId} {args : Array Value} {below : List Frame} {meth : Method} {c : Code} {H : Heap} {locs : List Loc} {cells slots : Nat} {Q : State → Prop}
variable {G : mj_G} {P : mj_P} {Tg NW : List Cond} {cc : ByteArray} {own : String} {nL mi pc len pc' : Nat} {L L' : mj_L} {st st' : List Value} {σ σ' : mj_H} {ls : Array Slot}
theorem mk_iconst {n : Int} (hx : p.tables.exec = Jvm.exec) (hb : c.code = cc) (hdg : decode cc pc = .ok ((.iconst n), len)) (hR : mj_HR G P σ H) (hL : mj_LR (mj_ad G P) L ls nL) (hS : ∀ q ∈ locs, G.2.1 ≤ q.base) (hlen : len = 1) 
    (h : mj_sim P mi (.iconst n) len pc L st σ = some (pc', L', st', σ')) (kk : mj_kk G P p l e R s m args below meth c cells slots Q nL σ pc' L' st' σ') : W p l e R s m args below meth c H locs cells slots Q (F0 m pc ls (st.map (mj_tr (mj_ad G P)))) := by
  subst hlen
  simp only [mj_sim] at h
  cases h
  exact lv_iconst hx hb hdg rfl (kk H locs ls cells slots hR hL hS rfl rfl)
theorem mk_bipush {n : Int} (hx : p.tables.exec = Jvm.exec) (hb : c.code = cc) (hdg : decode cc pc = .ok ((.bipush n), len)) (hR : mj_HR G P σ H) (hL : mj_LR (mj_ad G P) L ls nL) (hS : ∀ q ∈ locs, G.2.1 ≤ q.base) (hlen : len = 2) 
    (h : mj_sim P mi (.bipush n) len pc L st σ = some (pc', L', st', σ')) (kk : mj_kk G P p l e R s m args below meth c cells slots Q nL σ pc' L' st' σ') : W p l e R s m args below meth c H locs cells slots Q (F0 m pc ls (st.map (mj_tr (mj_ad G P)))) := by
  subst hlen
  simp only [mj_sim] at h
  cases h
  exact lv_bipush hx hb hdg rfl (kk H locs ls cells slots hR hL hS rfl rfl)
theorem mk_sipush {n : Int} (hx : p.tables.exec = Jvm.exec) (hb : c.code = cc) (hdg : decode cc pc = .ok ((.sipush n), len)) (hR : mj_HR G P σ H) (hL : mj_LR (mj_ad G P) L ls nL) (hS : ∀ q ∈ locs, G.2.1 ≤ q.base) (hlen : len = 3) 
    (h : mj_sim P mi (.sipush n) len pc L st σ = some (pc', L', st', σ')) (kk : mj_kk G P p l e R s m args below meth c cells slots Q nL σ pc' L' st' σ') : W p l e R s m args below meth c H locs cells slots Q (F0 m pc ls (st.map (mj_tr (mj_ad G P)))) := by
  subst hlen
  simp only [mj_sim] at h
  cases h
  exact lv_sipush hx hb hdg rfl (kk H locs ls cells slots hR hL hS rfl rfl)
theorem mk_lconst {n : Fin 2} (hx : p.tables.exec = Jvm.exec) (hb : c.code = cc) (hdg : decode cc pc = .ok ((.lconst n), len)) (hR : mj_HR G P σ H) (hL : mj_LR (mj_ad G P) L ls nL) (hS : ∀ q ∈ locs, G.2.1 ≤ q.base) (hlen : len = 1) 
    (h : mj_sim P mi (.lconst n) len pc L st σ = some (pc', L', st', σ')) (kk : mj_kk G P p l e R s m args below meth c cells slots Q nL σ pc' L' st' σ') : W p l e R s m args below meth c H locs cells slots Q (F0 m pc ls (st.map (mj_tr (mj_ad G P)))) := by
  subst hlen
  simp only [mj_sim] at h
  cases h
  exact lv_lconst hx hb hdg rfl (kk H locs ls cells slots hR hL hS rfl rfl)
theorem mk_aconst_null  (hx : p.tables.exec = Jvm.exec) (hb : c.code = cc) (hdg : decode cc pc = .ok (Instr.aconst_null, len)) (hR : mj_HR G P σ H) (hL : mj_LR (mj_ad G P) L ls nL) (hS : ∀ q ∈ locs, G.2.1 ≤ q.base) (hlen : len = 1) 
    (h : mj_sim P mi Instr.aconst_null len pc L st σ = some (pc', L', st', σ')) (kk : mj_kk G P p l e R s m args below meth c cells slots Q nL σ pc' L' st' σ') : W p l e R s m args below meth c H locs cells slots Q (F0 m pc ls (st.map (mj_tr (mj_ad G P)))) := by
  subst hlen
  simp only [mj_sim] at h
  cases h
  exact lv_null hx hb hdg (kk H locs ls cells slots hR hL hS rfl rfl)
theorem mk_iload_n {k : Fin 4} (hx : p.tables.exec = Jvm.exec) (hb : c.code = cc) (hdg : decode cc pc = .ok ((.iload_n k), len)) (hR : mj_HR G P σ H) (hL : mj_LR (mj_ad G P) L ls nL) (hS : ∀ q ∈ locs, G.2.1 ≤ q.base) (hlen : len = 1) 
    (h : mj_sim P mi (.iload_n k) len pc L st σ = some (pc', L', st', σ')) (kk : mj_kk G P p l e R s m args below meth c cells slots Q nL σ pc' L' st' σ') : W p l e R s m args below meth c H locs cells slots Q (F0 m pc ls (st.map (mj_tr (mj_ad G P)))) := by
  subst hlen
  simp only [mj_sim] at h
  split at h
  · rename_i z hz
    cases h
    exact lv_iload_n hx hb hdg rfl (hL.2.2.2 _ _ hz) (kk H locs ls cells slots hR hL hS rfl rfl)
  · cases h
theorem mk_iload {k : Nat} (hx : p.tables.exec = Jvm.exec) (hb : c.code = cc) (hdg : decode cc pc = .ok ((.iload k), len)) (hR : mj_HR G P σ H) (hL : mj_LR (mj_ad G P) L ls nL) (hS : ∀ q ∈ locs, G.2.1 ≤ q.base) (hlen : len = 2) 
    (h : mj_sim P mi (.iload k) len pc L st σ = some (pc', L', st', σ')) (kk : mj_kk G P p l e R s m args below meth c cells slots Q nL σ pc' L' st' σ') : W p l e R s m args below meth c H locs cells slots Q (F0 m pc ls (st.map (mj_tr (mj_ad G P)))) := by
  subst hlen
  simp only [mj_sim] at h
  split at h
  · rename_i z hz
    cases h
    exact lv_iload hx hb hdg (hL.2.2.2 _ _ hz) (kk H locs ls cells slots hR hL hS rfl rfl)
  · cases h
theorem mk_lload_n {k : Fin 4} (hx : p.tables.exec = Jvm.exec) (hb : c.code = cc) (hdg : decode cc pc = .ok ((.lload_n k), len)) (hR : mj_HR G P σ H) (hL : mj_LR (mj_ad G P) L ls nL) (hS : ∀ q ∈ locs, G.2.1 ≤ q.base) (hlen : len = 1) 
    (h : mj_sim P mi (.lload_n k) len pc L st σ = some (pc', L', st', σ')) (kk : mj_kk G P p l e R s m args below meth c cells slots Q nL σ pc' L' st' σ') : W p l e R s m args below meth c H locs cells slots Q (F0 m pc ls (st.map (mj_tr (mj_ad G P)))) := by
  subst hlen
  simp only [mj_sim] at h
  split at h
  · rename_i z hz
    cases h
    exact lv_lload_n hx hb hdg rfl (hL.2.2.2 _ _ hz) (kk H locs ls cells slots hR hL hS rfl rfl)
  · cases h
theorem mk_lload {k : Nat} (hx : p.tables.exec = Jvm.exec) (hb : c.code = cc) (hdg : decode cc pc = .ok ((.lload k), len)) (hR : mj_HR G P σ H) (hL : mj_LR (mj_ad G P) L ls nL) (hS : ∀ q ∈ locs, G.2.1 ≤ q.base) (hlen : len = 2) 
    (h : mj_sim P mi (.lload k) len pc L st σ = some (pc', L', st', σ')) (kk : mj_kk G P p l e R s m args below meth c cells slots Q nL σ pc' L' st' σ') : W p l e R s m args below meth c H locs cells slots Q (F0 m pc ls (st.map (mj_tr (mj_ad G P)))) := by
  subst hlen
  simp only [mj_sim] at h
  split at h
  · rename_i z hz
    cases h
    exact lv_lload hx hb hdg (hL.2.2.2 _ _ hz) (kk H locs ls cells slots hR hL hS rfl rfl)
  · cases h
theorem mk_aload_n {k : Fin 4} (hx : p.tables.exec = Jvm.exec) (hb : c.code = cc) (hdg : decode cc pc = .ok ((.aload_n k), len)) (hR : mj_HR G P σ H) (hL : mj_LR (mj_ad G P) L ls nL) (hS : ∀ q ∈ locs, G.2.1 ≤ q.base) (hlen : len = 1) 
    (h : mj_sim P mi (.aload_n k) len pc L st σ = some (pc', L', st', σ')) (kk : mj_kk G P p l e R s m args below meth c cells slots Q nL σ pc' L' st' σ') : W p l e R s m args below meth c H locs cells slots Q (F0 m pc ls (st.map (mj_tr (mj_ad G P)))) := by
  subst hlen
  simp only [mj_sim] at h
  split at h
  · rename_i z hz
    cases h
    exact lv_aload_n hx hb hdg rfl (hL.2.2.2 _ _ hz) (kk H locs ls cells slots hR hL hS rfl rfl)
  · rename_i hz
    cases h
    exact lv_aload_nN hx hb hdg rfl (hL.2.2.2 _ _ hz) (kk H locs ls cells slots hR hL hS rfl rfl)
  · cases h
theorem mk_aload {k : Nat} (hx : p.tables.exec = Jvm.exec) (hb : c.code = cc) (hdg : decode cc pc = .ok ((.aload k), len)) (hR : mj_HR G P σ H) (hL : mj_LR (mj_ad G P) L ls nL) (hS : ∀ q ∈ locs, G.2.1 ≤ q.base) (hlen : len = 2) 
    (h : mj_sim P mi (.aload k) len pc L st σ = some (pc', L', st', σ')) (kk : mj_kk G P p l e R s m args below meth c cells slots Q nL σ pc' L' st' σ') : W p l e R s m args below meth c H locs cells slots Q (F0 m pc ls (st.map (mj_tr (mj_ad G P)))) := by
  subst hlen
  simp only [mj_sim] at h
  split at h
  · rename_i z hz
    cases h
    exact lv_aload hx hb hdg (hL.2.2.2 _ _ hz) (kk H locs ls cells slots hR hL hS rfl rfl)
  · rename_i hz
    cases h
    exact lv_aloadN hx hb hdg (hL.2.2.2 _ _ hz) (kk H locs ls cells slots hR hL hS rfl rfl)
  · cases h
theorem mk_istore_n {k : Fin 4} (hx : p.tables.exec = Jvm.exec) (hb : c.code = cc) (hdg : decode cc pc = .ok ((.istore_n k), len)) (hR : mj_HR G P σ H) (hL : mj_LR (mj_ad G P) L ls nL) (hS : ∀ q ∈ locs, G.2.1 ≤ q.base) (hlen : len = 1) 
    (h : mj_sim P mi (.istore_n k) len pc L st σ = some (pc', L', st', σ')) (kk : mj_kk G P p l e R s m args below meth c cells slots Q nL σ pc' L' st' σ') : W p l e R s m args below meth c H locs cells slots Q (F0 m pc ls (st.map (mj_tr (mj_ad G P)))) := by
  subst hlen
  simp only [mj_sim] at h
  split at h
  · rename_i x r
    split at h
    · rename_i hk
      cases h
      refine lv_istore_n hx hb hdg rfl hL.has (by have := hL.1; omega) rfl (fun ls' hl' => ?_)
      exact kk H locs ls' cells slots hR (hL.st1 hl') hS rfl rfl
    · cases h
  · cases h
theorem mk_istore {k : Nat} (hx : p.tables.exec = Jvm.exec) (hb : c.code = cc) (hdg : decode cc pc = .ok ((.istore k), len)) (hR : mj_HR G P σ H) (hL : mj_LR (mj_ad G P) L ls nL) (hS : ∀ q ∈ locs, G.2.1 ≤ q.base) (hlen : len = 2) 
    (h : mj_sim P mi (.istore k) len pc L st σ = some (pc', L', st', σ')) (kk : mj_kk G P p l e R s m args below meth c cells slots Q nL σ pc' L' st' σ') : W p l e R s m args below meth c H locs cells slots Q (F0 m pc ls (st.map (mj_tr (mj_ad G P)))) := by
  subst hlen
  simp only [mj_sim] at h
  split at h
  · rename_i x r
    split at h
    · rename_i hk
      cases h
      refine lv_istore hx hb hdg hL.has (by have := hL.1; omega) rfl (fun ls' hl' => ?_)
      exact kk H locs ls' cells slots hR (hL.st1 hl') hS rfl rfl
    · cases h
  · cases h
theorem mk_lstore_n {k : Fin 4} (hx : p.tables.exec = Jvm.exec) (hb : c.code = cc) (hdg : decode cc pc = .ok ((.lstore_n k), len)) (hR : mj_HR G P σ H) (hL : mj_LR (mj_ad G P) L ls nL) (hS : ∀ q ∈ locs, G.2.1 ≤ q.base) (hlen : len = 1) 
    (h : mj_sim P mi (.lstore_n k) len pc L st σ = some (pc', L', st', σ')) (kk : mj_kk G P p l e R s m args below meth c cells slots Q nL σ pc' L' st' σ') : W p l e R s m args below meth c H locs cells slots Q (F0 m pc ls (st.map (mj_tr (mj_ad G P)))) := by
  subst hlen
  simp only [mj_sim] at h
  split at h
  · rename_i x r
    split at h
    · rename_i hk
      cases h
      refine lv_lstore_n hx hb hdg rfl hL.has (by have := hL.1; omega) rfl (fun ls' hl' => ?_)
      exact kk H locs ls' cells slots hR (hL.st2 hl') hS rfl rfl
    · cases h
  · cases h
theorem mk_lstore {k : Nat} (hx : p.tables.exec = Jvm.exec) (hb : c.code = cc) (hdg : decode cc pc = .ok ((.lstore k), len)) (hR : mj_HR G P σ H) (hL : mj_LR (mj_ad G P) L ls nL) (hS : ∀ q ∈ locs, G.2.1 ≤ q.base) (hlen : len = 2) 
    (h : mj_sim P mi (.lstore k) len pc L st σ = some (pc', L', st', σ')) (kk : mj_kk G P p l e R s m args below meth c cells slots Q nL σ pc' L' st' σ') : W p l e R s m args below meth c H locs cells slots Q (F0 m pc ls (st.map (mj_tr (mj_ad G P)))) := by
  subst hlen
  simp only [mj_sim] at h
  split at h
  · rename_i x r
    split at h
    · rename_i hk
      cases h
      refine lv_lstore hx hb hdg hL.has (by have := hL.1; omega) rfl (fun ls' hl' => ?_)
      exact kk H locs ls' cells slots hR (hL.st2 hl') hS rfl rfl
    · cases h
  · cases h
theorem mk_astore_n {k : Fin 4} (hx : p.tables.exec = Jvm.exec) (hb : c.code = cc) (hdg : decode cc pc = .ok ((.astore_n k), len)) (hR : mj_HR G P σ H) (hL : mj_LR (mj_ad G P) L ls nL) (hS : ∀ q ∈ locs, G.2.1 ≤ q.base) (hlen : len = 1) 
    (h : mj_sim P mi (.astore_n k) len pc L st σ = some (pc', L', st', σ')) (kk : mj_kk G P p l e R s m args below meth c cells slots Q nL σ pc' L' st' σ') : W p l e R s m args below meth c H locs cells slots Q (F0 m pc ls (st.map (mj_tr (mj_ad G P)))) := by
  subst hlen
  simp only [mj_sim] at h
  split at h
  · rename_i x r
    split at h
    · rename_i hk
      cases h
      refine lv_astore_n hx hb hdg rfl hL.has (by have := hL.1; omega) rfl (fun ls' hl' => ?_)
      exact kk H locs ls' cells slots hR (hL.st1 hl') hS rfl rfl
    · cases h
  · rename_i r
    split at h
    · rename_i hk
      cases h
      refine lv_astore_nN hx hb hdg rfl hL.has (by have := hL.1; omega) rfl (fun ls' hl' => ?_)
      exact kk H locs ls' cells slots hR (hL.st1 hl') hS rfl rfl
    · cases h
  · cases h
theorem mk_astore {k : Nat} (hx : p.tables.exec = Jvm.exec) (hb : c.code = cc) (hdg : decode cc pc = .ok ((.astore k), len)) (hR : mj_HR G P σ H) (hL : mj_LR (mj_ad G P) L ls nL) (hS : ∀ q ∈ locs, G.2.1 ≤ q.base) (hlen : len = 2) 
    (h : mj_sim P mi (.astore k) len pc L st σ = some (pc', L', st', σ')) (kk : mj_kk G P p l e R s m args below meth c cells slots Q nL σ pc' L' st' σ') : W p l e R s m args below meth c H locs cells slots Q (F0 m pc ls (st.map (mj_tr (mj_ad G P)))) := by
  subst hlen
  simp only [mj_sim] at h
  split at h
  · rename_i x r
    split at h
    · rename_i hk
      cases h
      refine lv_astore hx hb hdg hL.has (by have := hL.1; omega) rfl (fun ls' hl' => ?_)
      exact kk H locs ls' cells slots hR (hL.st1 hl') hS rfl rfl
    · cases h
  · rename_i r
    split at h
    · rename_i hk
      cases h
      refine lv_astoreN hx hb hdg hL.has (by have := hL.1; omega) rfl (fun ls' hl' => ?_)
      exact kk H locs ls' cells slots hR (hL.st1 hl') hS rfl rfl
    · cases h
  · cases h
theorem mk_iinc {k : Nat} {n : Int} (hx : p.tables.exec = Jvm.exec) (hb : c.code = cc) (hdg : decode cc pc = .ok ((.iinc k n), len)) (hR : mj_HR G P σ H) (hL : mj_LR (mj_ad G P) L ls nL) (hS : ∀ q ∈ locs, G.2.1 ≤ q.base) (hlen : len = 3) 
    (h : mj_sim P mi (.iinc k n) len pc L st σ = some (pc', L', st', σ')) (kk : mj_kk G P p l e R s m args below meth c cells slots Q nL σ pc' L' st' σ') : W p l e R s m args below meth c H locs cells slots Q (F0 m pc ls (st.map (mj_tr (mj_ad G P)))) := by
  subst hlen
  simp only [mj_sim] at h
  split at h
  · rename_i x hz
    cases h
    obtain ⟨j, hj⟩ := List.getElem?_of_mem (mj_as_mem (ad := mj_ad G P).mpr ⟨_, hz, rfl⟩)
    refine lv_iinc hx hb hdg hL.has (k := j) hj rfl (by have h1 := hL.1; have h2 := (List.getElem?_eq_some_iff.mp hz).1; omega) rfl (fun ls' hl' => ?_)
    exact kk H locs ls' cells slots hR (mj_LR.st1 (v := .int _) hL hl') hS rfl rfl
  · cases h
theorem mk_dup  (hx : p.tables.exec = Jvm.exec) (hb : c.code = cc) (hdg : decode cc pc = .ok (Instr.dup, len)) (hR : mj_HR G P σ H) (hL : mj_LR (mj_ad G P) L ls nL) (hS : ∀ q ∈ locs, G.2.1 ≤ q.base) (hlen : len = 1) 
    (h : mj_sim P mi Instr.dup len pc L st σ = some (pc', L', st', σ')) (kk : mj_kk G P p l e R s m args below meth c cells slots Q nL σ pc' L' st' σ') : W p l e R s m args below meth c H locs cells slots Q (F0 m pc ls (st.map (mj_tr (mj_ad G P)))) := by
  subst hlen
  simp only [mj_sim] at h
  split at h
  · rename_i v r
    split at h
    · rename_i hv
      cases h
      exact lv_dup hx hb hdg (by rw [mj_tr_cat]; exact hv) (kk H locs ls cells slots hR hL hS rfl rfl)
    · cases h
  · cases h
theorem mk_pop  (hx : p.tables.exec = Jvm.exec) (hb : c.code = cc) (hdg : decode cc pc = .ok (Instr.pop, len)) (hR : mj_HR G P σ H) (hL : mj_LR (mj_ad G P) L ls nL) (hS : ∀ q ∈ locs, G.2.1 ≤ q.base) (hlen : len = 1) 
    (h : mj_sim P mi Instr.pop len pc L st σ = some (pc', L', st', σ')) (kk : mj_kk G P p l e R s m args below meth c cells slots Q nL σ pc' L' st' σ') : W p l e R s m args below meth c H locs cells slots Q (F0 m pc ls (st.map (mj_tr (mj_ad G P)))) := by
  subst hlen
  simp only [mj_sim] at h
  split at h
  · rename_i v r
    split at h
    · rename_i hv
      cases h
      exact lv_pop hx hb hdg (by rw [mj_tr_cat]; exact hv) (kk H locs ls cells slots hR hL hS rfl rfl)
    · cases h
  · cases h
theorem mk_pop2  (hx : p.tables.exec = Jvm.exec) (hb : c.code = cc) (hdg : decode cc pc = .ok (Instr.pop2, len)) (hR : mj_HR G P σ H) (hL : mj_LR (mj_ad G P) L ls nL) (hS : ∀ q ∈ locs, G.2.1 ≤ q.base) (hlen : len = 1) 
    (h : mj_sim P mi Instr.pop2 len pc L st σ = some (pc', L', st', σ')) (kk : mj_kk G P p l e R s m args below meth c cells slots Q nL σ pc' L' st' σ') : W p l e R s m args below meth c H locs cells slots Q (F0 m pc ls (st.map (mj_tr (mj_ad G P)))) := by
  subst hlen
  simp only [mj_sim] at h
  split at h
  · rename_i v r
    split at h
    · rename_i hv
      cases h
      exact lv_pop2_2 hx hb hdg (by rw [mj_tr_cat]; exact hv) (kk H locs ls cells slots hR hL hS rfl rfl)
    · cases h
  · cases h
theorem mk_dup2  (hx : p.tables.exec = Jvm.exec) (hb : c.code = cc) (hdg : decode cc pc = .ok (Instr.dup2, len)) (hR : mj_HR G P σ H) (hL : mj_LR (mj_ad G P) L ls nL) (hS : ∀ q ∈ locs, G.2.1 ≤ q.base) (hlen : len = 1) 
    (h : mj_sim P mi Instr.dup2 len pc L st σ = some (pc', L', st', σ')) (kk : mj_kk G P p l e R s m args below meth c cells slots Q nL σ pc' L' st' σ') : W p l e R s m args below meth c H locs cells slots Q (F0 m pc ls (st.map (mj_tr (mj_ad G P)))) := by
  subst hlen
  simp only [mj_sim] at h
  split at h
  · rename_i v w r
    split at h
    · rename_i hv
      cases h
      exact lv_dup2_11 hx hb hdg (by rw [mj_tr_cat]; exact hv.1) (by rw [mj_tr_cat]; exact hv.2) (kk H locs ls cells slots hR hL hS rfl rfl)
    · split at h
      · rename_i hv
        cases h
        exact lv_dup2_2 hx hb hdg (by rw [mj_tr_cat]; exact hv) (kk H locs ls cells slots hR hL hS rfl rfl)
      · cases h
  · rename_i v r _
    split at h
    · rename_i hv
      cases h
      exact lv_dup2_2 hx hb hdg (by rw [mj_tr_cat]; exact hv) (kk H locs ls cells slots hR hL hS rfl rfl)
    · cases h
  · cases h
theorem mk_goto {off : Int} (hx : p.tables.exec = Jvm.exec) (hb : c.code = cc) (hdg : decode cc pc = .ok ((.goto off), len)) (hR : mj_HR G P σ H) (hL : mj_LR (mj_ad G P) L ls nL) (hS : ∀ q ∈ locs, G.2.1 ≤ q.base) (hlen : len = 3) 
    (h : mj_sim P mi (.goto off) len pc L st σ = some (pc', L', st', σ')) (kk : mj_kk G P p l e R s m args below meth c cells slots Q nL σ pc' L' st' σ') : W p l e R s m args below meth c H locs cells slots Q (F0 m pc ls (st.map (mj_tr (mj_ad G P)))) := by
  subst hlen
  simp only [mj_sim] at h
  obtain ⟨e1, rfl, rfl, rfl⟩ := mj_to_eq h
  exact lv_goto hx hb hdg e1 (kk H locs ls cells slots hR hL hS rfl rfl)
theorem mk_ifnull {off : Int} (hx : p.tables.exec = Jvm.exec) (hb : c.code = cc) (hdg : decode cc pc = .ok ((.ifnull off), len)) (hR : mj_HR G P σ H) (hL : mj_LR (mj_ad G P) L ls nL) (hS : ∀ q ∈ locs, G.2.1 ≤ q.base) (hlen : len = 3) 
    (h : mj_sim P mi (.ifnull off) len pc L st σ = some (pc', L', st', σ')) (kk : mj_kk G P p l e R s m args below meth c cells slots Q nL σ pc' L' st' σ') : W p l e R s m args below meth c H locs cells slots Q (F0 m pc ls (st.map (mj_tr (mj_ad G P)))) := by
  subst hlen
  simp only [mj_sim] at h
  split at h
  · cases h
    exact lv_ifnull hx hb hdg (kk H locs ls cells slots hR hL hS rfl rfl)
  · obtain ⟨e1, rfl, rfl, rfl⟩ := mj_to_eq h
    exact lv_ifnullN hx hb hdg e1 (kk H locs ls cells slots hR hL hS rfl rfl)
  · cases h
theorem mk_ifnonnull {off : Int} (hx : p.tables.exec = Jvm.exec) (hb : c.code = cc) (hdg : decode cc pc = .ok ((.ifnonnull off), len)) (hR : mj_HR G P σ H) (hL : mj_LR (mj_ad G P) L ls nL) (hS : ∀ q ∈ locs, G.2.1 ≤ q.base) (hlen : len = 3) 
    (h : mj_sim P mi (.ifnonnull off) len pc L st σ = some (pc', L', st', σ')) (kk : mj_kk G P p l e R s m args below meth c cells slots Q nL σ pc' L' st' σ') : W p l e R s m args below meth c H locs cells slots Q (F0 m pc ls (st.map (mj_tr (mj_ad G P)))) := by
  subst hlen
  simp only [mj_sim] at h
  split at h
  · cases h
    exact lv_ifnonnullN hx hb hdg (kk H locs ls cells slots hR hL hS rfl rfl)
  · obtain ⟨e1, rfl, rfl, rfl⟩ := mj_to_eq h
    exact lv_ifnonnull hx hb hdg e1 (kk H locs ls cells slots hR hL hS rfl rfl)
  · cases h
theorem mk_icmp_eq {off : Int} (hx : p.tables.exec = Jvm.exec) (hb : c.code = cc) (hdg : decode cc pc = .ok ((.if_icmp .eq off), len)) (hR : mj_HR G P σ H) (hL : mj_LR (mj_ad G P) L ls nL) (hS : ∀ q ∈ locs, G.2.1 ≤ q.base) (hlen : len = 3) 
    (h : mj_sim P mi (.if_icmp .eq off) len pc L st σ = some (pc', L', st', σ')) (kk : mj_kk G P p l e R s m args below meth c cells slots Q nL σ pc' L' st' σ') : W p l e R s m args below meth c H locs cells slots Q (F0 m pc ls (st.map (mj_tr (mj_ad G P)))) := by
  subst hlen
  simp only [mj_sim] at h
  split at h
  · rename_i y x r
    simp only [mj_cmp] at h
    refine mj_bool h (fun hb1 e1 e2 e3 e4 => ?_) (fun hb1 e0 e1 e2 e3 e4 => ?_)
    · subst e2; subst e3; subst e4
      have hq := of_decide_eq_true hb1
      exact lv_icmp_eq hx hb hdg e1 (fun _ => (kk H locs ls cells slots hR hL hS rfl rfl)) (fun z => absurd hq z)
    · subst e1; subst e2; subst e3; subst e4
      have hq := of_decide_eq_false hb1
      exact lv_icmp_eq (tgt := ((pc : Int) + off).toNat) hx hb hdg e0 (fun z => absurd z hq) (fun _ => (kk H locs ls cells slots hR hL hS rfl rfl))
  · cases h
theorem mk_ifc_eq {off : Int} (hx : p.tables.exec = Jvm.exec) (hb : c.code = cc) (hdg : decode cc pc = .ok ((.ifCond .eq off), len)) (hR : mj_HR G P σ H) (hL : mj_LR (mj_ad G P) L ls nL) (hS : ∀ q ∈ locs, G.2.1 ≤ q.base) (hlen : len = 3) 
    (h : mj_sim P mi (.ifCond .eq off) len pc L st σ = some (pc', L', st', σ')) (kk : mj_kk G P p l e R s m args below meth c cells slots Q nL σ pc' L' st' σ') : W p l e R s m args below meth c H locs cells slots Q (F0 m pc ls (st.map (mj_tr (mj_ad G P)))) := by
  subst hlen
  simp only [mj_sim] at h
  split at h
  · rename_i x r
    simp only [mj_cm0] at h
    refine mj_bool h (fun hb1 e1 e2 e3 e4 => ?_) (fun hb1 e0 e1 e2 e3 e4 => ?_)
    · subst e2; subst e3; subst e4
      have hq := of_decide_eq_true hb1
      exact lv_if_eq hx hb hdg e1 (fun _ => (kk H locs ls cells slots hR hL hS rfl rfl)) (fun z => absurd hq z)
    · subst e1; subst e2; subst e3; subst e4
      have hq := of_decide_eq_false hb1
      exact lv_if_eq (tgt := ((pc : Int) + off).toNat) hx hb hdg e0 (fun z => absurd z hq) (fun _ => (kk H locs ls cells slots hR hL hS rfl rfl))
  · cases h
theorem mk_icmp_ne {off : Int} (hx : p.tables.exec = Jvm.exec) (hb : c.code = cc) (hdg : decode cc pc = .ok ((.if_icmp .ne off), len)) (hR : mj_HR G P σ H) (hL : mj_LR (mj_ad G P) L ls nL) (hS : ∀ q ∈ locs, G.2.1 ≤ q.base) (hlen : len = 3) 
    (h : mj_sim P mi (.if_icmp .ne off) len pc L st σ = some (pc', L', st', σ')) (kk : mj_kk G P p l e R s m args below meth c cells slots Q nL σ pc' L' st' σ') : W p l e R s m args below meth c H locs cells slots Q (F0 m pc ls (st.map (mj_tr (mj_ad G P)))) := by
  subst hlen
  simp only [mj_sim] at h
  split at h
  · rename_i y x r
    simp only [mj_cmp] at h
    refine mj_bool h (fun hb1 e1 e2 e3 e4 => ?_) (fun hb1 e0 e1 e2 e3 e4 => ?_)
    · subst e2; subst e3; subst e4
      have hq := of_decide_eq_true hb1
      exact lv_icmp_ne hx hb hdg e1 (fun _ => (kk H locs ls cells slots hR hL hS rfl rfl)) (fun z => absurd z hq)
    · subst e1; subst e2; subst e3; subst e4
      have hq := of_decide_eq_false hb1
      exact lv_icmp_ne (tgt := ((pc : Int) + off).toNat) hx hb hdg e0 (fun z => absurd z hq) (fun _ => (kk H locs ls cells slots hR hL hS rfl rfl))
  · cases h
theorem mk_ifc_ne {off : Int} (hx : p.tables.exec = Jvm.exec) (hb : c.code = cc) (hdg : decode cc pc = .ok ((.ifCond .ne off), len)) (hR : mj_HR G P σ H) (hL : mj_LR (mj_ad G P) L ls nL) (hS : ∀ q ∈ locs, G.2.1 ≤ q.base) (hlen : len = 3) 
    (h : mj_sim P mi (.ifCond .ne off) len pc L st σ = some (pc', L', st', σ')) (kk : mj_kk G P p l e R s m args below meth c cells slots Q nL σ pc' L' st' σ') : W p l e R s m args below meth c H locs cells slots Q (F0 m pc ls (st.map (mj_tr (mj_ad G P)))) := by
  subst hlen
  simp only [mj_sim] at h
  split at h
  · rename_i x r
    simp only [mj_cm0] at h
    refine mj_bool h (fun hb1 e1 e2 e3 e4 => ?_) (fun hb1 e0 e1 e2 e3 e4 => ?_)
    · subst e2; subst e3; subst e4
      have hq := of_decide_eq_true hb1
      exact lv_if_ne hx hb hdg e1 (fun _ => (kk H locs ls cells slots hR hL hS rfl rfl)) (fun z => absurd z hq)
    · subst e1; subst e2; subst e3; subst e4
      have hq := of_decide_eq_false hb1
      exact lv_if_ne (tgt := ((pc : Int) + off).toNat) hx hb hdg e0 (fun z => absurd z hq) (fun _ => (kk H locs ls cells slots hR hL hS rfl rfl))
  · cases h
theorem mk_icmp_lt {off : Int} (hx : p.tables.exec = Jvm.exec) (hb : c.code = cc) (hdg : decode cc pc = .ok ((.if_icmp .lt off), len)) (hR : mj_HR G P σ H) (hL : mj_LR (mj_ad G P) L ls nL) (hS : ∀ q ∈ locs, G.2.1 ≤ q.base) (hlen : len = 3) 
    (h : mj_sim P mi (.if_icmp .lt off) len pc L st σ = some (pc', L', st', σ')) (kk : mj_kk G P p l e R s m args below meth c cells slots Q nL σ pc' L' st' σ') : W p l e R s m args below meth c H locs cells slots Q (F0 m pc ls (st.map (mj_tr (mj_ad G P)))) := by
  subst hlen
  simp only [mj_sim] at h
  split at h
  · rename_i y x r
    simp only [mj_cmp] at h
    refine mj_bool h (fun hb1 e1 e2 e3 e4 => ?_) (fun hb1 e0 e1 e2 e3 e4 => ?_)
    · subst e2; subst e3; subst e4
      have hq := of_decide_eq_true hb1
      exact lv_icmp_lt hx hb hdg e1 (fun _ => (kk H locs ls cells slots hR hL hS rfl rfl)) (fun z => absurd hq z)
    · subst e1; subst e2; subst e3; subst e4
      have hq := of_decide_eq_false hb1
      exact lv_icmp_lt (tgt := ((pc : Int) + off).toNat) hx hb hdg e0 (fun z => absurd z hq) (fun _ => (kk H locs ls cells slots hR hL hS rfl rfl))
  · cases h
theorem mk_ifc_lt {off : Int} (hx : p.tables.exec = Jvm.exec) (hb : c.code = cc) (hdg : decode cc pc = .ok ((.ifCond .lt off), len)) (hR : mj_HR G P σ H) (hL : mj_LR (mj_ad G P) L ls nL) (hS : ∀ q ∈ locs, G.2.1 ≤ q.base) (hlen : len = 3) 
    (h : mj_sim P mi (.ifCond .lt off) len pc L st σ = some (pc', L', st', σ')) (kk : mj_kk G P p l e R s m args below meth c cells slots Q nL σ pc' L' st' σ') : W p l e R s m args below meth c H locs cells slots Q (F0 m pc ls (st.map (mj_tr (mj_ad G P)))) := by
  subst hlen
  simp only [mj_sim] at h
  split at h
  · rename_i x r
    simp only [mj_cm0] at h
    refine mj_bool h (fun hb1 e1 e2 e3 e4 => ?_) (fun hb1 e0 e1 e2 e3 e4 => ?_)
    · subst e2; subst e3; subst e4
      have hq := of_decide_eq_true hb1
      exact lv_if_lt hx hb hdg e1 (fun _ => (kk H locs ls cells slots hR hL hS rfl rfl)) (fun z => absurd hq z)
    · subst e1; subst e2; subst e3; subst e4
      have hq := of_decide_eq_false hb1
      exact lv_if_lt (tgt := ((pc : Int) + off).toNat) hx hb hdg e0 (fun z => absurd z hq) (fun _ => (kk H locs ls cells slots hR hL hS rfl rfl))
  · cases h
theorem mk_icmp_ge {off : Int} (hx : p.tables.exec = Jvm.exec) (hb : c.code = cc) (hdg : decode cc pc = .ok ((.if_icmp .ge off), len)) (hR : mj_HR G P σ H) (hL : mj_LR (mj_ad G P) L ls nL) (hS : ∀ q ∈ locs, G.2.1 ≤ q.base) (hlen : len = 3) 
    (h : mj_sim P mi (.if_icmp .ge off) len pc L st σ = some (pc', L', st', σ')) (kk : mj_kk G P p l e R s m args below meth c cells slots Q nL σ pc' L' st' σ') : W p l e R s m args below meth c H locs cells slots Q (F0 m pc ls (st.map (mj_tr (mj_ad G P)))) := by
  subst hlen
  simp only [mj_sim] at h
  split at h
  · rename_i y x r
    simp only [mj_cmp] at h
    refine mj_bool h (fun hb1 e1 e2 e3 e4 => ?_) (fun hb1 e0 e1 e2 e3 e4 => ?_)
    · subst e2; subst e3; subst e4
      have hq := of_decide_eq_true hb1
      exact lv_icmp_ge hx hb hdg e1 (fun _ => (kk H locs ls cells slots hR hL hS rfl rfl)) (fun z => absurd hq z)
    · subst e1; subst e2; subst e3; subst e4
      have hq := of_decide_eq_false hb1
      exact lv_icmp_ge (tgt := ((pc : Int) + off).toNat) hx hb hdg e0 (fun z => absurd z hq) (fun _ => (kk H locs ls cells slots hR hL hS rfl rfl))
  · cases h
theorem mk_ifc_ge {off : Int} (hx : p.tables.exec = Jvm.exec) (hb : c.code = cc) (hdg : decode cc pc = .ok ((.ifCond .ge off), len)) (hR : mj_HR G P σ H) (hL : mj_LR (mj_ad G P) L ls nL) (hS : ∀ q ∈ locs, G.2.1 ≤ q.base) (hlen : len = 3) 
    (h : mj_sim P mi (.ifCond .ge off) len pc L st σ = some (pc', L', st', σ')) (kk : mj_kk G P p l e R s m args below meth c cells slots Q nL σ pc' L' st' σ') : W p l e R s m args below meth c H locs cells slots Q (F0 m pc ls (st.map (mj_tr (mj_ad G P)))) := by
  subst hlen
  simp only [mj_sim] at h
  split at h
  · rename_i x r
    simp only [mj_cm0] at h
    refine mj_bool h (fun hb1 e1 e2 e3 e4 => ?_) (fun hb1 e0 e1 e2 e3 e4 => ?_)
    · subst e2; subst e3; subst e4
      have hq := of_decide_eq_true hb1
      exact lv_if_ge hx hb hdg e1 (fun _ => (kk H locs ls cells slots hR hL hS rfl rfl)) (fun z => absurd hq z)
    · subst e1; subst e2; subst e3; subst e4
      have hq := of_decide_eq_false hb1
      exact lv_if_ge (tgt := ((pc : Int) + off).toNat) hx hb hdg e0 (fun z => absurd z hq) (fun _ => (kk H locs ls cells slots hR hL hS rfl rfl))
  · cases h
theorem mk_icmp_gt {off : Int} (hx : p.tables.exec = Jvm.exec) (hb : c.code = cc) (hdg : decode cc pc = .ok ((.if_icmp .gt off), len)) (hR : mj_HR G P σ H) (hL : mj_LR (mj_ad G P) L ls nL) (hS : ∀ q ∈ locs, G.2.1 ≤ q.base) (hlen : len = 3) 
    (h : mj_sim P mi (.if_icmp .gt off) len pc L st σ = some (pc', L', st', σ')) (kk : mj_kk G P p l e R s m args below meth c cells slots Q nL σ pc' L' st' σ') : W p l e R s m args below meth c H locs cells slots Q (F0 m pc ls (st.map (mj_tr (mj_ad G P)))) := by
  subst hlen
  simp only [mj_sim] at h
  split at h
  · rename_i y x r
    simp only [mj_cmp] at h
    refine mj_bool h (fun hb1 e1 e2 e3 e4 => ?_) (fun hb1 e0 e1 e2 e3 e4 => ?_)
    · subst e2; subst e3; subst e4
      have hq := of_decide_eq_true hb1
      exact lv_icmp_gt hx hb hdg e1 (fun _ => (kk H locs ls cells slots hR hL hS rfl rfl)) (fun z => absurd hq z)
    · subst e1; subst e2; subst e3; subst e4
      have hq := of_decide_eq_false hb1
      exact lv_icmp_gt (tgt := ((pc : Int) + off).toNat) hx hb hdg e0 (fun z => absurd z hq) (fun _ => (kk H locs ls cells slots hR hL hS rfl rfl))
  · cases h
theorem mk_ifc_gt {off : Int} (hx : p.tables.exec = Jvm.exec) (hb : c.code = cc) (hdg : decode cc pc = .ok ((.ifCond .gt off), len)) (hR : mj_HR G P σ H) (hL : mj_LR (mj_ad G P) L ls nL) (hS : ∀ q ∈ locs, G.2.1 ≤ q.base) (hlen : len = 3) 
    (h : mj_sim P mi (.ifCond .gt off) len pc L st σ = some (pc', L', st', σ')) (kk : mj_kk G P p l e R s m args below meth c cells slots Q nL σ pc' L' st' σ') : W p l e R s m args below meth c H locs cells slots Q (F0 m pc ls (st.map (mj_tr (mj_ad G P)))) := by
  subst hlen
  simp only [mj_sim] at h
  split at h
  · rename_i x r
    simp only [mj_cm0] at h
    refine mj_bool h (fun hb1 e1 e2 e3 e4 => ?_) (fun hb1 e0 e1 e2 e3 e4 => ?_)
    · subst e2; subst e3; subst e4
      have hq := of_decide_eq_true hb1
      exact lv_if_gt hx hb hdg e1 (fun _ => (kk H locs ls cells slots hR hL hS rfl rfl)) (fun z => absurd hq z)
    · subst e1; subst e2; subst e3; subst e4
      have hq := of_decide_eq_false hb1
      exact lv_if_gt (tgt := ((pc : Int) + off).toNat) hx hb hdg e0 (fun z => absurd z hq) (fun _ => (kk H locs ls cells slots hR hL hS rfl rfl))
  · cases h
theorem mk_icmp_le {off : Int} (hx : p.tables.exec = Jvm.exec) (hb : c.code = cc) (hdg : decode cc pc = .ok ((.if_icmp .le off), len)) (hR : mj_HR G P σ H) (hL : mj_LR (mj_ad G P) L ls nL) (hS : ∀ q ∈ locs, G.2.1 ≤ q.base) (hlen : len = 3) 
    (h : mj_sim P mi (.if_icmp .le off) len pc L st σ = some (pc', L', st', σ')) (kk : mj_kk G P p l e R s m args below meth c cells slots Q nL σ pc' L' st' σ') : W p l e R s m args below meth c H locs cells slots Q (F0 m pc ls (st.map (mj_tr (mj_ad G P)))) := by
  subst hlen
  simp only [mj_sim] at h
  split at h
  · rename_i y x r
    simp only [mj_cmp] at h
    refine mj_bool h (fun hb1 e1 e2 e3 e4 => ?_) (fun hb1 e0 e1 e2 e3 e4 => ?_)
    · subst e2; subst e3; subst e4
      have hq := of_decide_eq_true hb1
      exact lv_icmp_le hx hb hdg e1 (fun _ => (kk H locs ls cells slots hR hL hS rfl rfl)) (fun z => absurd hq z)
    · subst e1; subst e2; subst e3; subst e4
      have hq := of_decide_eq_false hb1
      exact lv_icmp_le (tgt := ((pc : Int) + off).toNat) hx hb hdg e0 (fun z => absurd z hq) (fun _ => (kk H locs ls cells slots hR hL hS rfl rfl))
  · cases h
theorem mk_ifc_le {off : Int} (hx : p.tables.exec = Jvm.exec) (hb : c.code = cc) (hdg : decode cc pc = .ok ((.ifCond .le off), len)) (hR : mj_HR G P σ H) (hL : mj_LR (mj_ad G P) L ls nL) (hS : ∀ q ∈ locs, G.2.1 ≤ q.base) (hlen : len = 3) 
    (h : mj_sim P mi (.ifCond .le off) len pc L st σ = some (pc', L', st', σ')) (kk : mj_kk G P p l e R s m args below meth c cells slots Q nL σ pc' L' st' σ') : W p l e R s m args below meth c H locs cells slots Q (F0 m pc ls (st.map (mj_tr (mj_ad G P)))) := by
  subst hlen
  simp only [mj_sim] at h
  split at h
  · rename_i x r
    simp only [mj_cm0] at h
    refine mj_bool h (fun hb1 e1 e2 e3 e4 => ?_) (fun hb1 e0 e1 e2 e3 e4 => ?_)
    · subst e2; subst e3; subst e4
      have hq := of_decide_eq_true hb1
      exact lv_if_le hx hb hdg e1 (fun _ => (kk H locs ls cells slots hR hL hS rfl rfl)) (fun z => absurd hq z)
    · subst e1; subst e2; subst e3; subst e4
      have hq := of_decide_eq_false hb1
      exact lv_if_le (tgt := ((pc : Int) + off).toNat) hx hb hdg e0 (fun z => absurd z hq) (fun _ => (kk H locs ls cells slots hR hL hS rfl rfl))
  · cases h
theorem mk_ladd  (hx : p.tables.exec = Jvm.exec) (hb : c.code = cc) (hdg : decode cc pc = .ok (Instr.ladd, len)) (hR : mj_HR G P σ H) (hL : mj_LR (mj_ad G P) L ls nL) (hS : ∀ q ∈ locs, G.2.1 ≤ q.base) (hlen : len = 1) 
    (h : mj_sim P mi Instr.ladd len pc L st σ = some (pc', L', st', σ')) (kk : mj_kk G P p l e R s m args below meth c cells slots Q nL σ pc' L' st' σ') : W p l e R s m args below meth c H locs cells slots Q (F0 m pc ls (st.map (mj_tr (mj_ad G P)))) := by
  subst hlen
  simp only [mj_sim] at h
  split at h
  · simp only [mj_b64] at h
    cases h
    exact lv_ladd hx hb hdg (kk H locs ls cells slots hR hL hS rfl rfl)
  · cases h
theorem mk_lsub  (hx : p.tables.exec = Jvm.exec) (hb : c.code = cc) (hdg : decode cc pc = .ok (Instr.lsub, len)) (hR : mj_HR G P σ H) (hL : mj_LR (mj_ad G P) L ls nL) (hS : ∀ q ∈ locs, G.2.1 ≤ q.base) (hlen : len = 1) 
    (h : mj_sim P mi Instr.lsub len pc L st σ = some (pc', L', st', σ')) (kk : mj_kk G P p l e R s m args below meth c cells slots Q nL σ pc' L' st' σ') : W p l e R s m args below meth c H locs cells slots Q (F0 m pc ls (st.map (mj_tr (mj_ad G P)))) := by
  subst hlen
  simp only [mj_sim] at h
  split at h
  · simp only [mj_b64] at h
    cases h
    exact lv_lsub hx hb hdg (kk H locs ls cells slots hR hL hS rfl rfl)
  · cases h
theorem mk_lmul  (hx : p.tables.exec = Jvm.exec) (hb : c.code = cc) (hdg : decode cc pc = .ok (Instr.lmul, len)) (hR : mj_HR G P σ H) (hL : mj_LR (mj_ad G P) L ls nL) (hS : ∀ q ∈ locs, G.2.1 ≤ q.base) (hlen : len = 1) 
    (h : mj_sim P mi Instr.lmul len pc L st σ = some (pc', L', st', σ')) (kk : mj_kk G P p l e R s m args below meth c cells slots Q nL σ pc' L' st' σ') : W p l e R s m args below meth c H locs cells slots Q (F0 m pc ls (st.map (mj_tr (mj_ad G P)))) := by
  subst hlen
  simp only [mj_sim] at h
  split at h
  · simp only [mj_b64] at h
    cases h
    exact lv_lmul hx hb hdg (kk H locs ls cells slots hR hL hS rfl rfl)
  · cases h
theorem mk_land  (hx : p.tables.exec = Jvm.exec) (hb : c.code = cc) (hdg : decode cc pc = .ok (Instr.land, len)) (hR : mj_HR G P σ H) (hL : mj_LR (mj_ad G P) L ls nL) (hS : ∀ q ∈ locs, G.2.1 ≤ q.base) (hlen : len = 1) 
    (h : mj_sim P mi Instr.land len pc L st σ = some (pc', L', st', σ')) (kk : mj_kk G P p l e R s m args below meth c cells slots Q nL σ pc' L' st' σ') : W p l e R s m args below meth c H locs cells slots Q (F0 m pc ls (st.map (mj_tr (mj_ad G P)))) := by
  subst hlen
  simp only [mj_sim] at h
  split at h
  · simp only [mj_b64] at h
    cases h
    exact lv_land hx hb hdg (kk H locs ls cells slots hR hL hS rfl rfl)
  · cases h
theorem mk_lor  (hx : p.tables.exec = Jvm.exec) (hb : c.code = cc) (hdg : decode cc pc = .ok (Instr.lor, len)) (hR : mj_HR G P σ H) (hL : mj_LR (mj_ad G P) L ls nL) (hS : ∀ q ∈ locs, G.2.1 ≤ q.base) (hlen : len = 1) 
    (h : mj_sim P mi Instr.lor len pc L st σ = some (pc', L', st', σ')) (kk : mj_kk G P p l e R s m args below meth c cells slots Q nL σ pc' L' st' σ') : W p l e R s m args below meth c H locs cells slots Q (F0 m pc ls (st.map (mj_tr (mj_ad G P)))) := by
  subst hlen
  simp only [mj_sim] at h
  split at h
  · simp only [mj_b64] at h
    cases h
    exact lv_lor hx hb hdg (kk H locs ls cells slots hR hL hS rfl rfl)
  · cases h
theorem mk_ldiv  (hx : p.tables.exec = Jvm.exec) (hb : c.code = cc) (hdg : decode cc pc = .ok (Instr.ldiv, len)) (hR : mj_HR G P σ H) (hL : mj_LR (mj_ad G P) L ls nL) (hS : ∀ q ∈ locs, G.2.1 ≤ q.base) (hlen : len = 1) 
    (h : mj_sim P mi Instr.ldiv len pc L st σ = some (pc', L', st', σ')) (kk : mj_kk G P p l e R s m args below meth c cells slots Q nL σ pc' L' st' σ') : W p l e R s m args below meth c H locs cells slots Q (F0 m pc ls (st.map (mj_tr (mj_ad G P)))) := by
  subst hlen
  simp only [mj_sim] at h
  split at h
  · simp only [mj_b64] at h
    split at h
    · rename_i z hz
      split at hz
      · cases hz
      · rename_i hy
        cases hz
        cases h
        exact lv_ldiv hx hb hdg hy (kk H locs ls cells slots hR hL hS rfl rfl)
    · cases h
  · cases h
theorem mk_lrem  (hx : p.tables.exec = Jvm.exec) (hb : c.code = cc) (hdg : decode cc pc = .ok (Instr.lrem, len)) (hR : mj_HR G P σ H) (hL : mj_LR (mj_ad G P) L ls nL) (hS : ∀ q ∈ locs, G.2.1 ≤ q.base) (hlen : len = 1) 
    (h : mj_sim P mi Instr.lrem len pc L st σ = some (pc', L', st', σ')) (kk : mj_kk G P p l e R s m args below meth c cells slots Q nL σ pc' L' st' σ') : W p l e R s m args below meth c H locs cells slots Q (F0 m pc ls (st.map (mj_tr (mj_ad G P)))) := by
  subst hlen
  simp only [mj_sim] at h
  split at h
  · simp only [mj_b64] at h
    split at h
    · rename_i z hz
      split at hz
      · cases hz
      · rename_i hy
        cases hz
        cases h
        exact lv_lrem hx hb hdg hy (kk H locs ls cells slots hR hL hS rfl rfl)
    · cases h
  · cases h
theorem mk_ineg  (hx : p.tables.exec = Jvm.exec) (hb : c.code = cc) (hdg : decode cc pc = .ok (Instr.ineg, len)) (hR : mj_HR G P σ H) (hL : mj_LR (mj_ad G P) L ls nL) (hS : ∀ q ∈ locs, G.2.1 ≤ q.base) (hlen : len = 1) 
    (h : mj_sim P mi Instr.ineg len pc L st σ = some (pc', L', st', σ')) (kk : mj_kk G P p l e R s m args below meth c cells slots Q nL σ pc' L' st' σ') : W p l e R s m args below meth c H locs cells slots Q (F0 m pc ls (st.map (mj_tr (mj_ad G P)))) := by
  subst hlen
  simp only [mj_sim] at h
  split at h
  · simp only [mj_u32] at h
    cases h
    exact lv_ineg hx hb hdg (kk H locs ls cells slots hR hL hS rfl rfl)
  · cases h
theorem mk_i2l  (hx : p.tables.exec = Jvm.exec) (hb : c.code = cc) (hdg : decode cc pc = .ok (Instr.i2l, len)) (hR : mj_HR G P σ H) (hL : mj_LR (mj_ad G P) L ls nL) (hS : ∀ q ∈ locs, G.2.1 ≤ q.base) (hlen : len = 1) 
    (h : mj_sim P mi Instr.i2l len pc L st σ = some (pc', L', st', σ')) (kk : mj_kk G P p l e R s m args below meth c cells slots Q nL σ pc' L' st' σ') : W p l e R s m args below meth c H locs cells slots Q (F0 m pc ls (st.map (mj_tr (mj_ad G P)))) := by
  subst hlen
  simp only [mj_sim] at h
  split at h
  · simp only [mj_u32] at h
    cases h
    exact lv_i2l hx hb hdg rfl (kk H locs ls cells slots hR hL hS rfl rfl)
  · cases h
theorem mk_i2b  (hx : p.tables.exec = Jvm.exec) (hb : c.code = cc) (hdg : decode cc pc = .ok (Instr.i2b, len)) (hR : mj_HR G P σ H) (hL : mj_LR (mj_ad G P) L ls nL) (hS : ∀ q ∈ locs, G.2.1 ≤ q.base) (hlen : len = 1) 
    (h : mj_sim P mi Instr.i2b len pc L st σ = some (pc', L', st', σ')) (kk : mj_kk G P p l e R s m args below meth c cells slots Q nL σ pc' L' st' σ') : W p l e R s m args below meth c H locs cells slots Q (F0 m pc ls (st.map (mj_tr (mj_ad G P)))) := by
  subst hlen
  simp only [mj_sim] at h
  split at h
  · simp only [mj_u32] at h
    cases h
    exact lv_i2b hx hb hdg rfl (kk H locs ls cells slots hR hL hS rfl rfl)
  · cases h
theorem mk_i2s  (hx : p.tables.exec = Jvm.exec) (hb : c.code = cc) (hdg : decode cc pc = .ok (Instr.i2s, len)) (hR : mj_HR G P σ H) (hL : mj_LR (mj_ad G P) L ls nL) (hS : ∀ q ∈ locs, G.2.1 ≤ q.base) (hlen : len = 1) 
    (h : mj_sim P mi Instr.i2s len pc L st σ = some (pc', L', st', σ')) (kk : mj_kk G P p l e R s m args below meth c cells slots Q nL σ pc' L' st' σ') : W p l e R s m args below meth c H locs cells slots Q (F0 m pc ls (st.map (mj_tr (mj_ad G P)))) := by
  subst hlen
  simp only [mj_sim] at h
  split at h
  · simp only [mj_u32] at h
    cases h
    exact lv_i2s hx hb hdg rfl (kk H locs ls cells slots hR hL hS rfl rfl)
  · cases h
theorem mk_i2c  (hx : p.tables.exec = Jvm.exec) (hb : c.code = cc) (hdg : decode cc pc = .ok (Instr.i2c, len)) (hR : mj_HR G P σ H) (hL : mj_LR (mj_ad G P) L ls nL) (hS : ∀ q ∈ locs, G.2.1 ≤ q.base) (hlen : len = 1) 
    (h : mj_sim P mi Instr.i2c len pc L st σ = some (pc', L', st', σ')) (kk : mj_kk G P p l e R s m args below meth c cells slots Q nL σ pc' L' st' σ') : W p l e R s m args below meth c H locs cells slots Q (F0 m pc ls (st.map (mj_tr (mj_ad G P)))) := by
  subst hlen
  simp only [mj_sim] at h
  split at h
  · simp only [mj_u32] at h
    cases h
    exact lv_i2c hx hb hdg rfl (kk H locs ls cells slots hR hL hS rfl rfl)
  · cases h
theorem mk_lcmp  (hx : p.tables.exec = Jvm.exec) (hb : c.code = cc) (hdg : decode cc pc = .ok (Instr.lcmp, len)) (hR : mj_HR G P σ H) (hL : mj_LR (mj_ad G P) L ls nL) (hS : ∀ q ∈ locs, G.2.1 ≤ q.base) (hlen : len = 1) 
    (h : mj_sim P mi Instr.lcmp len pc L st σ = some (pc', L', st', σ')) (kk : mj_kk G P p l e R s m args below meth c cells slots Q nL σ pc' L' st' σ') : W p l e R s m args below meth c H locs cells slots Q (F0 m pc ls (st.map (mj_tr (mj_ad G P)))) := by
  subst hlen
  simp only [mj_sim] at h
  split at h
  · cases h
    exact W.lcmp hx hb hdg (kk H locs ls cells slots hR hL hS rfl rfl)
  · cases h
theorem mk_l2i  (hx : p.tables.exec = Jvm.exec) (hb : c.code = cc) (hdg : decode cc pc = .ok (Instr.l2i, len)) (hR : mj_HR G P σ H) (hL : mj_LR (mj_ad G P) L ls nL) (hS : ∀ q ∈ locs, G.2.1 ≤ q.base) (hlen : len = 1) 
    (h : mj_sim P mi Instr.l2i len pc L st σ = some (pc', L', st', σ')) (kk : mj_kk G P p l e R s m args below meth c cells slots Q nL σ pc' L' st' σ') : W p l e R s m args below meth c H locs cells slots Q (F0 m pc ls (st.map (mj_tr (mj_ad G P)))) := by
  subst hlen
  simp only [mj_sim] at h
  split at h
  · cases h
    exact lv_l2i hx hb hdg rfl (kk H locs ls cells slots hR hL hS rfl rfl)
  · cases h
theorem mk_lshl  (hx : p.tables.exec = Jvm.exec) (hb : c.code = cc) (hdg : decode cc pc = .ok (Instr.lshl, len)) (hR : mj_HR G P σ H) (hL : mj_LR (mj_ad G P) L ls nL) (hS : ∀ q ∈ locs, G.2.1 ≤ q.base) (hlen : len = 1) 
    (h : mj_sim P mi Instr.lshl len pc L st σ = some (pc', L', st', σ')) (kk : mj_kk G P p l e R s m args below meth c cells slots Q nL σ pc' L' st' σ') : W p l e R s m args below meth c H locs cells slots Q (F0 m pc ls (st.map (mj_tr (mj_ad G P)))) := by
  subst hlen
  simp only [mj_sim] at h
  split at h
  · cases h
    exact lv_lshl hx hb hdg rfl (kk H locs ls cells slots hR hL hS rfl rfl)
  · cases h
theorem mk_lshr  (hx : p.tables.exec = Jvm.exec) (hb : c.code = cc) (hdg : decode cc pc = .ok (Instr.lshr, len)) (hR : mj_HR G P σ H) (hL : mj_LR (mj_ad G P) L ls nL) (hS : ∀ q ∈ locs, G.2.1 ≤ q.base) (hlen : len = 1) 
    (h : mj_sim P mi Instr.lshr len pc L st σ = some (pc', L', st', σ')) (kk : mj_kk G P p l e R s m args below meth c cells slots Q nL σ pc' L' st' σ') : W p l e R s m args below meth c H locs cells slots Q (F0 m pc ls (st.map (mj_tr (mj_ad G P)))) := by
  subst hlen
  simp only [mj_sim] at h
  split at h
  · cases h
    exact lv_lshr hx hb hdg rfl (kk H locs ls cells slots hR hL hS rfl rfl)
  · cases h
theorem mk_tableswitch {df lo hi : Int} {offs : Array Int} (hx : p.tables.exec = Jvm.exec) (hb : c.code = cc) (hdg : decode cc pc = .ok ((.tableswitch df lo hi offs), len)) (hR : mj_HR G P σ H) (hL : mj_LR (mj_ad G P) L ls nL) (hS : ∀ q ∈ locs, G.2.1 ≤ q.base)
    (h : mj_sim P mi (.tableswitch df lo hi offs) len pc L st σ = some (pc', L', st', σ')) (kk : mj_kk G P p l e R s m args below meth c cells slots Q nL σ pc' L' st' σ') : W p l e R s m args below meth c H locs cells slots Q (F0 m pc ls (st.map (mj_tr (mj_ad G P)))) := by
  simp only [mj_sim] at h
  split at h
  · rename_i x r
    split at h
    · rename_i ho
      obtain ⟨e1, rfl, rfl, rfl⟩ := mj_to_eq h
      exact lv_tableOut hx hb hdg ho e1 (kk H locs ls cells slots hR hL hS rfl rfl)
    · rename_i ho
      split at h
      · rename_i o hz
        obtain ⟨e1, rfl, rfl, rfl⟩ := mj_to_eq h
        exact lv_tableIn hx hb hdg (fun z => ho (Or.inl z)) (fun z => ho (Or.inr z)) hz e1 (kk H locs ls cells slots hR hL hS rfl rfl)
      · cases h
  · cases h
theorem mk_lookupswitch {df : Int} {ps : Array (Int × Int)} (hx : p.tables.exec = Jvm.exec) (hb : c.code = cc) (hdg : decode cc pc = .ok ((.lookupswitch df ps), len)) (hR : mj_HR G P σ H) (hL : mj_LR (mj_ad G P) L ls nL) (hS : ∀ q ∈ locs, G.2.1 ≤ q.base)
    (h : mj_sim P mi (.lookupswitch df ps) len pc L st σ = some (pc', L', st', σ')) (kk : mj_kk G P p l e R s m args below meth c cells slots Q nL σ pc' L' st' σ') : W p l e R s m args below meth c H locs cells slots Q (F0 m pc ls (st.map (mj_tr (mj_ad G P)))) := by
  simp only [mj_sim] at h
  split at h
  · rename_i x r
    split at h
    · rename_i ho
      obtain ⟨e1, rfl, rfl, rfl⟩ := mj_to_eq h
      exact lv_lookup hx hb hdg ho rfl e1 (kk H locs ls cells slots hR hL hS rfl rfl)
    · cases h
  · cases h
theorem mk_ldc {idx : Nat} (hx : p.tables.exec = Jvm.exec) (hb : c.code = cc) (hdg : decode cc pc = .ok ((.ldc idx), len)) (hR : mj_HR G P σ H) (hL : mj_LR (mj_ad G P) L ls nL) (hS : ∀ q ∈ locs, G.2.1 ≤ q.base) (hlen : len = 2) (hts : ∀ w ∈ Tg, w.before args s = true) (hW : mj_Wd G P Tg NW s) (hown : s.vm.findClass own = some m.cls) (hs : ∀ q : Nat, q < G.2.1 → s.heap[q]? = G.2.2.1[q]?) (hz : s.heap.size ≤ H.size) (hK : ∀ K, mj_lnk P mi idx = some K → mj_lok P Tg NW own (.ldc idx) K ∧ mj_lokU G P Tg NW s own (.ldc idx) K)
    (h : mj_sim P mi (.ldc idx) len pc L st σ = some (pc', L', st', σ')) (kk : mj_kk G P p l e R s m args below meth c cells slots Q nL σ pc' L' st' σ') : W p l e R s m args below meth c H locs cells slots Q (F0 m pc ls (st.map (mj_tr (mj_ad G P)))) := by
  subst hlen
  simp only [mj_sim] at h
  split at h
  · rename_i hk
    cases h
    obtain ⟨⟨x, rfl, hc⟩, -⟩ := hK _ hk
    exact lv_ldc hx hb hown (hts _ hc) hdg (kk H locs ls cells slots hR hL hS rfl rfl)
  · rename_i hk
    cases h
    obtain ⟨-, a, tx, rfl, hc⟩ := hK _ hk
    exact va_ldcS hx hb hown hc hdg (kk H locs ls cells slots hR hL hS rfl rfl)
  · cases h
theorem mk_ldc_w {idx : Nat} (hx : p.tables.exec = Jvm.exec) (hb : c.code = cc) (hdg : decode cc pc = .ok ((.ldc_w idx), len)) (hR : mj_HR G P σ H) (hL : mj_LR (mj_ad G P) L ls nL) (hS : ∀ q ∈ locs, G.2.1 ≤ q.base) (hlen : len = 3) (hts : ∀ w ∈ Tg, w.before args s = true) (hW : mj_Wd G P Tg NW s) (hown : s.vm.findClass own = some m.cls) (hs : ∀ q : Nat, q < G.2.1 → s.heap[q]? = G.2.2.1[q]?) (hz : s.heap.size ≤ H.size) (hK : ∀ K, mj_lnk P mi idx = some K → mj_lok P Tg NW own (.ldc_w idx) K ∧ mj_lokU G P Tg NW s own (.ldc_w idx) K)
    (h : mj_sim P mi (.ldc_w idx) len pc L st σ = some (pc', L', st', σ')) (kk : mj_kk G P p l e R s m args below meth c cells slots Q nL σ pc' L' st' σ') : W p l e R s m args below meth c H locs cells slots Q (F0 m pc ls (st.map (mj_tr (mj_ad G P)))) := by
  subst hlen
  simp only [mj_sim] at h
  split at h
  · rename_i hk
    cases h
    obtain ⟨⟨x, rfl, hc⟩, -⟩ := hK _ hk
    exact lv_ldcw hx hb hown (hts _ hc) hdg (kk H locs ls cells slots hR hL hS rfl rfl)
  · cases h
theorem mk_ldc2_w {idx : Nat} (hx : p.tables.exec = Jvm.exec) (hb : c.code = cc) (hdg : decode cc pc = .ok ((.ldc2_w idx), len)) (hR : mj_HR G P σ H) (hL : mj_LR (mj_ad G P) L ls nL) (hS : ∀ q ∈ locs, G.2.1 ≤ q.base) (hlen : len = 3) (hts : ∀ w ∈ Tg, w.before args s = true) (hW : mj_Wd G P Tg NW s) (hown : s.vm.findClass own = some m.cls) (hs : ∀ q : Nat, q < G.2.1 → s.heap[q]? = G.2.2.1[q]?) (hz : s.heap.size ≤ H.size) (hK : ∀ K, mj_lnk P mi idx = some K → mj_lok P Tg NW own (.ldc2_w idx) K ∧ mj_lokU G P Tg NW s own (.ldc2_w idx) K)
    (h : mj_sim P mi (.ldc2_w idx) len pc L st σ = some (pc', L', st', σ')) (kk : mj_kk G P p l e R s m args below meth c cells slots Q nL σ pc' L' st' σ') : W p l e R s m args below meth c H locs cells slots Q (F0 m pc ls (st.map (mj_tr (mj_ad G P)))) := by
  subst hlen
  simp only [mj_sim] at h
  split at h
  · rename_i hk
    cases h
    obtain ⟨⟨x, rfl, hc⟩, -⟩ := hK _ hk
    exact lv_ldc2 hx hb hown (hts _ hc) hdg (kk H locs ls cells slots hR hL hS rfl rfl)
  · cases h
theorem mk_getstatic {idx : Nat} (hx : p.tables.exec = Jvm.exec) (hb : c.code = cc) (hdg : decode cc pc = .ok ((.getstatic idx), len)) (hR : mj_HR G P σ H) (hL : mj_LR (mj_ad G P) L ls nL) (hS : ∀ q ∈ locs, G.2.1 ≤ q.base) (hlen : len = 3) (hts : ∀ w ∈ Tg, w.before args s = true) (hW : mj_Wd G P Tg NW s) (hown : s.vm.findClass own = some m.cls) (hs : ∀ q : Nat, q < G.2.1 → s.heap[q]? = G.2.2.1[q]?) (hz : s.heap.size ≤ H.size) (hK : ∀ K, mj_lnk P mi idx = some K → mj_lok P Tg NW own (.getstatic idx) K ∧ mj_lokU G P Tg NW s own (.getstatic idx) K)
    (h : mj_sim P mi (.getstatic idx) len pc L st σ = some (pc', L', st', σ')) (kk : mj_kk G P p l e R s m args below meth c cells slots Q nL σ pc' L' st' σ') : W p l e R s m args below meth c H locs cells slots Q (F0 m pc ls (st.map (mj_tr (mj_ad G P)))) := by
  subst hlen
  simp only [mj_sim] at h
  split at h
  · rename_i hk
    cases h
    obtain ⟨-, C, n, d, hZ, hc⟩ := hK _ hk
    have hSS : va_S (mj_A G) s.heap H locs := mj_SS hR hs hS hz
    rcases hc with hc | ⟨host, hc⟩
    · exact va_gets hx hb hZ hSS hown (hts _ hc) (fun _ z => z) hdg (kk H locs ls cells slots hR hL hS rfl rfl)
    · exact va_getsN hx hb hZ hSS hown (va_Nw.use rfl (hW.1 _ hc)) (fun _ z => z) hdg (kk H locs ls cells slots hR hL hS rfl rfl)
  · cases h
end MJ4
