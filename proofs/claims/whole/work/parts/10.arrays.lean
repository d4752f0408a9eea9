/-! arrays -/
section MJ6
variable {p : Program} {l : Launch} {e : Env} {R : Room} {s : State} {m : MethodId} {args : Array Value} {below : List Frame} {meth : Method} {c : Code} {H : Heap} {locs : List Loc} {cells slots : Nat} {Q : State → Prop}
variable {G : mj_G} {P : mj_P} {Tg NW : List Cond} {cc : ByteArray} {own : String} {nL mi pc len pc' : Nat} {L L' : mj_L} {st st' : List Value} {σ σ' : mj_H} {ls : Array Slot}
theorem mj_trA_len (ad : Nat → Nat) (A : vp_A) : (mj_trA ad A).1 = A.1 := by
  obtain ⟨n, f | f | f | f | f⟩ := A <;> rfl
theorem mj_okx_in {i : Int32} {n : Nat} (h : mj_okx i n = true) : ¬ (i < 0 ∨ n ≤ i.toNatClampNeg) := of_decide_eq_true h
theorem mk_arraylength (hx : p.tables.exec = Jvm.exec) (hb : c.code = cc) (hdg : decode cc pc = .ok (.arraylength, len)) (hR : mj_HR G P σ H) (hL : mj_LR (mj_ad G P) L ls nL) (hS : ∀ q ∈ locs, G.2.1 ≤ q.base) (hlen : len = 1) (hW : mj_Wd G P Tg NW s) (hs : ∀ q : Nat, q < G.2.1 → s.heap[q]? = G.2.2.1[q]?)
    (h : mj_sim P mi .arraylength len pc L st σ = some (pc', L', st', σ')) (kk : mj_kk G P p l e R s m args below meth c cells slots Q nL σ pc' L' st' σ') : W p l e R s m args below meth c H locs cells slots Q (F0 m pc ls (st.map (mj_tr (mj_ad G P)))) := by
  subst hlen
  simp only [mj_sim] at h
  split at h
  · rename_i a r
    split at h
    · rename_i ty A hg
      cases h
      obtain ⟨cell, g1, g2, g3, g4, g5, g6, g7, g8⟩ := mj_arr hW hR hs hg
      exact W.alen hx hb g1 g2 g5 rfl rfl hdg (kk H locs ls cells slots hR hL hS rfl rfl)
    · cases h
  · cases h
theorem mj_bnd {j : Int32} {n : Nat} {cell : Cell} (h : mj_okx j n = true) (hn : n ≤ cell.slots.size) : ¬ (j < 0 ∨ cell.slots.size ≤ j.toNatClampNeg) ∧ j.toNatClampNeg < n := by
  have h1 := mj_okx_in h
  have h2 : j.toNatClampNeg < n := Nat.lt_of_not_le (fun z => h1 (Or.inr z))
  exact ⟨fun z => by
    rcases z with z | z
    · exact h1 (Or.inl z)
    · omega, h2⟩
theorem mk_iaload (hx : p.tables.exec = Jvm.exec) (hb : c.code = cc) (hdg : decode cc pc = .ok (.iaload, len)) (hR : mj_HR G P σ H) (hL : mj_LR (mj_ad G P) L ls nL) (hS : ∀ q ∈ locs, G.2.1 ≤ q.base) (hlen : len = 1) (hW : mj_Wd G P Tg NW s) (hs : ∀ q : Nat, q < G.2.1 → s.heap[q]? = G.2.2.1[q]?)
    (h : mj_sim P mi .iaload len pc L st σ = some (pc', L', st', σ')) (kk : mj_kk G P p l e R s m args below meth c cells slots Q nL σ pc' L' st' σ') : W p l e R s m args below meth c H locs cells slots Q (F0 m pc ls (st.map (mj_tr (mj_ad G P)))) := by
  subst hlen
  simp only [mj_sim] at h
  split at h
  · rename_i j a r
    split at h
    · rename_i ty A hg
      split at h
      · rename_i hok
        split at h
        · rename_i v hv
          cases h
          obtain ⟨cell, g1, g2, g3, g4, g5, g6, g7, g8⟩ := mj_arr hW hR hs hg
          obtain ⟨b1, b2⟩ := mj_bnd hok g4
          unfold mj_ald at hv
          split at hv <;> try contradiction
          · rename_i f hf
            cases hv
            exact W.iald hx hb g1 g2 g3 b1 (g6 _ hf _ b2) rfl rfl hdg (kk H locs ls cells slots hR hL hS rfl rfl)
        · cases h
      · cases h
    · cases h
  · cases h
theorem mk_baload (hx : p.tables.exec = Jvm.exec) (hb : c.code = cc) (hdg : decode cc pc = .ok (.baload, len)) (hR : mj_HR G P σ H) (hL : mj_LR (mj_ad G P) L ls nL) (hS : ∀ q ∈ locs, G.2.1 ≤ q.base) (hlen : len = 1) (hW : mj_Wd G P Tg NW s) (hs : ∀ q : Nat, q < G.2.1 → s.heap[q]? = G.2.2.1[q]?)
    (h : mj_sim P mi .baload len pc L st σ = some (pc', L', st', σ')) (kk : mj_kk G P p l e R s m args below meth c cells slots Q nL σ pc' L' st' σ') : W p l e R s m args below meth c H locs cells slots Q (F0 m pc ls (st.map (mj_tr (mj_ad G P)))) := by
  subst hlen
  simp only [mj_sim] at h
  split at h
  · rename_i j a r
    split at h
    · rename_i ty A hg
      split at h
      · rename_i hok
        split at h
        · rename_i v hv
          cases h
          obtain ⟨cell, g1, g2, g3, g4, g5, g6, g7, g8⟩ := mj_arr hW hR hs hg
          obtain ⟨b1, b2⟩ := mj_bnd hok g4
          unfold mj_ald at hv
          split at hv <;> try contradiction
          · rename_i f hf
            cases hv
            exact W.bald hx hb g1 g2 g3 b1 (g6 _ hf _ b2) rfl rfl hdg (kk H locs ls cells slots hR hL hS rfl rfl)
          · rename_i f hf
            cases hv
            exact W.zald hx hb g1 g2 g3 b1 (g6 _ hf _ b2) rfl rfl hdg (kk H locs ls cells slots hR hL hS rfl rfl)
        · cases h
      · cases h
    · cases h
  · cases h
theorem mk_laload (hx : p.tables.exec = Jvm.exec) (hb : c.code = cc) (hdg : decode cc pc = .ok (.laload, len)) (hR : mj_HR G P σ H) (hL : mj_LR (mj_ad G P) L ls nL) (hS : ∀ q ∈ locs, G.2.1 ≤ q.base) (hlen : len = 1) (hW : mj_Wd G P Tg NW s) (hs : ∀ q : Nat, q < G.2.1 → s.heap[q]? = G.2.2.1[q]?)
    (h : mj_sim P mi .laload len pc L st σ = some (pc', L', st', σ')) (kk : mj_kk G P p l e R s m args below meth c cells slots Q nL σ pc' L' st' σ') : W p l e R s m args below meth c H locs cells slots Q (F0 m pc ls (st.map (mj_tr (mj_ad G P)))) := by
  subst hlen
  simp only [mj_sim] at h
  split at h
  · rename_i j a r
    split at h
    · rename_i ty A hg
      split at h
      · rename_i hok
        split at h
        · rename_i v hv
          cases h
          obtain ⟨cell, g1, g2, g3, g4, g5, g6, g7, g8⟩ := mj_arr hW hR hs hg
          obtain ⟨b1, b2⟩ := mj_bnd hok g4
          unfold mj_ald at hv
          split at hv <;> try contradiction
          · rename_i f hf
            cases hv
            have h0 : a % 4 ≠ 0 := fun z => by rcases g8 z with q | q <;> cases q
            have hcell := g7 h0
            obtain ⟨n, A2⟩ := A
            simp only at hf
            subst hf
            exact W.lald hx hb g1 g2 g3 b1 (by rw [hcell]; exact arrV_read _ _ b2) rfl rfl hdg (kk H locs ls cells slots hR hL hS rfl rfl)
        · cases h
      · cases h
    · cases h
  · cases h
theorem mj_tr_rf (ad : Nat → Nat) (r : Option Nat) : mj_tr ad (va_rf r) = va_rf (r.map ad) := by cases r <;> rfl
theorem mk_aaload (hx : p.tables.exec = Jvm.exec) (hb : c.code = cc) (hdg : decode cc pc = .ok (.aaload, len)) (hR : mj_HR G P σ H) (hL : mj_LR (mj_ad G P) L ls nL) (hS : ∀ q ∈ locs, G.2.1 ≤ q.base) (hlen : len = 1) (hW : mj_Wd G P Tg NW s) (hs : ∀ q : Nat, q < G.2.1 → s.heap[q]? = G.2.2.1[q]?)
    (h : mj_sim P mi .aaload len pc L st σ = some (pc', L', st', σ')) (kk : mj_kk G P p l e R s m args below meth c cells slots Q nL σ pc' L' st' σ') : W p l e R s m args below meth c H locs cells slots Q (F0 m pc ls (st.map (mj_tr (mj_ad G P)))) := by
  subst hlen
  simp only [mj_sim] at h
  split at h
  · rename_i j a r
    split at h
    · rename_i ty A hg
      split at h
      · rename_i hok
        split at h
        · rename_i v hv
          cases h
          obtain ⟨cell, g1, g2, g3, g4, g5, g6, g7, g8⟩ := mj_arr hW hR hs hg
          obtain ⟨b1, b2⟩ := mj_bnd hok g4
          unfold mj_ald at hv
          split at hv <;> try contradiction
          · rename_i hf
            cases hv
            have h0 : a % 4 ≠ 0 := fun z => by rcases g8 z with q | q <;> cases q
            have hcell := g7 h0
            obtain ⟨n, A2⟩ := A
            simp only at hf
            subst hf
            have hkk := kk H locs ls cells slots hR hL hS rfl rfl
            rw [List.map_cons, mj_tr_rf] at hkk
            exact W.aald (ty := .object _) hx hb g1 g2 rfl g3 b1 (by rw [hcell]; exact arrV_read _ _ b2) rfl rfl hdg hkk
        · cases h
      · cases h
    · cases h
  · cases h
/-- a cell of an array written -/
theorem mj_wr {a j : Nat} {ty : FieldType} {A A' : vp_A} {H' : Heap} (hR : mj_HR G P σ H) (hL : mj_LR (mj_ad G P) L ls nL) (hS : ∀ q ∈ locs, G.2.1 ≤ q.base) (h0 : a % 4 ≠ 0) (hg : mj_get P σ a = some (.inl (ty, A))) (e1 : H'[mj_ad G P a]? = some (vp_cell (G.2.2.2.2 ty) (mj_trA (mj_ad G P) A'))) (e2 : H'.size = H.size) (e3 : ∀ q, q ≠ mj_ad G P a → H'[q]? = H[q]?)
    (kk : mj_kk G P p l e R s m args below meth c cells slots Q nL σ pc' L st' (mj_set σ a (.inl (ty, A')))) : W p l e R s m args below meth c H' (locs ++ [⟨mj_ad G P a, j⟩]) cells slots Q (F0 m pc' ls (st'.map (mj_tr (mj_ad G P)))) := by
  have hlt := (hR.lt h0 hg).1
  have ht := (hR.2.2.1 a _ h0 hg).1
  refine kk H' _ ls cells slots (hR.set h0 hg ⟨ht, e1⟩ e2 e3) hL (fun q hq => ?_) (by rw [(mj_set_tot h0).1]) (by rw [(mj_set_tot h0).2])
  rcases List.mem_append.mp hq with z | z
  · exact hS q z
  · rw [List.mem_singleton.mp z]; exact hlt
theorem mj_vc_i (ad : Nat → Nat) (cA : ClassId) (n : Nat) (f : Nat → Int32) : vp_cell cA (mj_trA ad (n, .inl f)) = arrV cA n (fun j => .int (f j)) := rfl
theorem mj_vc_l (ad : Nat → Nat) (cA : ClassId) (n : Nat) (f : Nat → Int64) : vp_cell cA (mj_trA ad (n, .inr (.inl f))) = arrV cA n (fun j => .long (f j)) := rfl
theorem mj_vc_q (ad : Nat → Nat) (cA : ClassId) (n : Nat) (f : Nat → Option Nat) : vp_cell cA (mj_trA ad (n, .inr (.inr (.inr (.inr f))))) = arrV cA n (fun j => va_rf ((f j).map ad)) := rfl
theorem mj_nar_b (x : Int32) : narrow .byte (.int x) = .int (vp_nar .byte x) := rfl
theorem mj_nar_z (x : Int32) : narrow .boolean (.int x) = .int (vp_nar .boolean x) := rfl
theorem mj_rf_s (ad : Nat → Nat) (a : Nat) : Value.ref (ad a) = va_rf ((some a).map ad) := rfl
theorem mj_rf_n (ad : Nat → Nat) : Value.null = va_rf ((none : Option Nat).map ad) := rfl
theorem mj_updV_i (f : Nat → Int32) (k : Nat) (x : Int32) : updV (fun j => Value.int (f j)) k (.int x) = fun j => Value.int (upd f k x j) := by
  funext q
  by_cases hq : q = k
  · subst hq; simp [updV, upd]
  · simp [updV, upd, hq]
theorem mj_updV_l (f : Nat → Int64) (k : Nat) (x : Int64) : updV (fun j => Value.long (f j)) k (.long x) = fun j => Value.long (vp_updL f k x j) := by
  funext q
  by_cases hq : q = k
  · subst hq; simp [updV, vp_updL]
  · simp [updV, vp_updL, hq]
theorem mj_updV_q (ad : Nat → Nat) (f : Nat → Option Nat) (k : Nat) (x : Option Nat) : updV (fun j => va_rf ((f j).map ad)) k (va_rf (x.map ad)) = fun j => va_rf ((va_up f k x j).map ad) := by
  funext q
  by_cases hq : q = k
  · subst hq; simp [updV, va_up]
  · simp [updV, va_up, hq]
theorem mk_iastore (hx : p.tables.exec = Jvm.exec) (hb : c.code = cc) (hdg : decode cc pc = .ok (.iastore, len)) (hR : mj_HR G P σ H) (hL : mj_LR (mj_ad G P) L ls nL) (hS : ∀ q ∈ locs, G.2.1 ≤ q.base) (hlen : len = 1) (hW : mj_Wd G P Tg NW s) (hs : ∀ q : Nat, q < G.2.1 → s.heap[q]? = G.2.2.1[q]?)
    (h : mj_sim P mi .iastore len pc L st σ = some (pc', L', st', σ')) (kk : mj_kk G P p l e R s m args below meth c cells slots Q nL σ pc' L' st' σ') : W p l e R s m args below meth c H locs cells slots Q (F0 m pc ls (st.map (mj_tr (mj_ad G P)))) := by
  subst hlen
  simp only [mj_sim] at h
  split at h
  · rename_i v j a r
    split at h
    · rename_i ty A hg
      split at h
      · rename_i hok
        split at h
        · rename_i A' hv
          cases h
          obtain ⟨cell, g1, g2, g3, g4, g5, g6, g7, g8⟩ := mj_arr hW hR hs hg
          obtain ⟨b1, b2⟩ := mj_bnd hok.1 g4
          have hcell := g7 hok.2.1
          unfold mj_ast at hv
          split at hv <;> try contradiction
          · rename_i hf
            cases hv
            obtain ⟨n, A2⟩ := A
            simp only at hf
            subst hf
            refine W.iast hx hb g1 g2 g3 b1 rfl rfl hdg (fun H' e1 e2 e3 => ?_)
            refine mj_wr hR hL hS hok.2.1 hg ?_ e2 e3 kk
            rw [e1, hcell, mj_vc_i, mj_vc_i, arrV_store, mj_updV_i]
        · cases h
      · cases h
    · cases h
  · cases h
theorem mk_lastore (hx : p.tables.exec = Jvm.exec) (hb : c.code = cc) (hdg : decode cc pc = .ok (.lastore, len)) (hR : mj_HR G P σ H) (hL : mj_LR (mj_ad G P) L ls nL) (hS : ∀ q ∈ locs, G.2.1 ≤ q.base) (hlen : len = 1) (hW : mj_Wd G P Tg NW s) (hs : ∀ q : Nat, q < G.2.1 → s.heap[q]? = G.2.2.1[q]?)
    (h : mj_sim P mi .lastore len pc L st σ = some (pc', L', st', σ')) (kk : mj_kk G P p l e R s m args below meth c cells slots Q nL σ pc' L' st' σ') : W p l e R s m args below meth c H locs cells slots Q (F0 m pc ls (st.map (mj_tr (mj_ad G P)))) := by
  subst hlen
  simp only [mj_sim] at h
  split at h
  · rename_i v j a r
    split at h
    · rename_i ty A hg
      split at h
      · rename_i hok
        split at h
        · rename_i A' hv
          cases h
          obtain ⟨cell, g1, g2, g3, g4, g5, g6, g7, g8⟩ := mj_arr hW hR hs hg
          obtain ⟨b1, b2⟩ := mj_bnd hok.1 g4
          have hcell := g7 hok.2.1
          unfold mj_ast at hv
          split at hv <;> try contradiction
          · rename_i hf
            cases hv
            obtain ⟨n, A2⟩ := A
            simp only at hf
            subst hf
            refine W.last hx hb g1 g2 g3 b1 rfl rfl hdg (fun H' e1 e2 e3 => ?_)
            refine mj_wr hR hL hS hok.2.1 hg ?_ e2 e3 kk
            rw [e1, hcell, mj_vc_l, mj_vc_l, arrV_store, mj_updV_l]
        · cases h
      · cases h
    · cases h
  · cases h
theorem mk_bastore (hx : p.tables.exec = Jvm.exec) (hb : c.code = cc) (hdg : decode cc pc = .ok (.bastore, len)) (hR : mj_HR G P σ H) (hL : mj_LR (mj_ad G P) L ls nL) (hS : ∀ q ∈ locs, G.2.1 ≤ q.base) (hlen : len = 1) (hW : mj_Wd G P Tg NW s) (hs : ∀ q : Nat, q < G.2.1 → s.heap[q]? = G.2.2.1[q]?)
    (h : mj_sim P mi .bastore len pc L st σ = some (pc', L', st', σ')) (kk : mj_kk G P p l e R s m args below meth c cells slots Q nL σ pc' L' st' σ') : W p l e R s m args below meth c H locs cells slots Q (F0 m pc ls (st.map (mj_tr (mj_ad G P)))) := by
  subst hlen
  simp only [mj_sim] at h
  split at h
  · rename_i v j a r
    split at h
    · rename_i ty A hg
      split at h
      · rename_i hok
        split at h
        · rename_i A' hv
          cases h
          obtain ⟨cell, g1, g2, g3, g4, g5, g6, g7, g8⟩ := mj_arr hW hR hs hg
          obtain ⟨b1, b2⟩ := mj_bnd hok.1 g4
          have hcell := g7 hok.2.1
          unfold mj_ast at hv
          split at hv <;> try contradiction
          · rename_i hf
            cases hv
            obtain ⟨n, A2⟩ := A
            simp only at hf
            subst hf
            refine W.bast hx hb g1 g2 g3 b1 rfl rfl hdg (fun H' e1 e2 e3 => ?_)
            refine mj_wr hR hL hS hok.2.1 hg ?_ e2 e3 kk
            rw [e1, hcell, mj_vc_i, mj_vc_i, mj_nar_b, arrV_store, mj_updV_i]
          · rename_i hf
            cases hv
            obtain ⟨n, A2⟩ := A
            simp only at hf
            subst hf
            refine W.zast hx hb g1 g2 g3 b1 rfl rfl hdg (fun H' e1 e2 e3 => ?_)
            refine mj_wr hR hL hS hok.2.1 hg ?_ e2 e3 kk
            rw [e1, hcell, mj_vc_i, mj_vc_i, mj_nar_z, arrV_store, mj_updV_i]
        · cases h
      · cases h
    · cases h
  · cases h
theorem mk_aastore (hx : p.tables.exec = Jvm.exec) (hb : c.code = cc) (hdg : decode cc pc = .ok (.aastore, len)) (hR : mj_HR G P σ H) (hL : mj_LR (mj_ad G P) L ls nL) (hS : ∀ q ∈ locs, G.2.1 ≤ q.base) (hlen : len = 1) (hW : mj_Wd G P Tg NW s) (hs : ∀ q : Nat, q < G.2.1 → s.heap[q]? = G.2.2.1[q]?)
    (h : mj_sim P mi .aastore len pc L st σ = some (pc', L', st', σ')) (kk : mj_kk G P p l e R s m args below meth c cells slots Q nL σ pc' L' st' σ') : W p l e R s m args below meth c H locs cells slots Q (F0 m pc ls (st.map (mj_tr (mj_ad G P)))) := by
  subst hlen
  simp only [mj_sim] at h
  split at h
  · rename_i v j a r
    split at h
    · rename_i ty A hg
      split at h
      · rename_i hok
        split at h
        · rename_i A' hv
          cases h
          obtain ⟨cell, g1, g2, g3, g4, g5, g6, g7, g8⟩ := mj_arr hW hR hs hg
          obtain ⟨b1, b2⟩ := mj_bnd hok.1 g4
          have hcell := g7 hok.2.1
          have htA := (hR.2.2.1 a _ hok.2.1 hg).1
          unfold mj_ast at hv
          split at hv <;> try contradiction
          · rename_i hf
            cases hv
            obtain ⟨n, A2⟩ := A
            simp only at hf
            subst hf
            have has := hok.2.2
            unfold mj_asg at has
            split at has
            · rename_i C2 b2' hC2 hb2
              cases hC2
              cases hb2
              split at has
              · rename_i ci fsb hgb
                split at has
                · rename_i C3 T3 N3 hc3
                  obtain ⟨rfl, h1c, hb4⟩ := of_decide_eq_true has
                  obtain ⟨-, cellV, k1, k2, k3, -⟩ := mj_obj hR hb4 hgb (by omega) hc3
                  obtain ⟨kA, comp, a1, a2, a3, -⟩ := (hW.2.2.1 _ htA).2
                  obtain ⟨-, hcl⟩ := hW.2.1 ci _ h1c hc3
                  have hcomp : comp = G.2.2.2.1.1 ci := Option.some.inj (a3.symm.trans hcl.1)
                  subst hcomp
                  obtain ⟨kC, hkC, hkk2⟩ := id hcl.2
                  refine W.aast hx hb g1 (fun q z => by rw [hcell] at z; cases z) g3 (by rw [hcell]; exact a1) a2 rfl hkC ⟨fun z => b1 (Or.inl z), Nat.lt_of_lt_of_le b2 g4⟩ k1 (fun q z => by rw [k3] at z; cases z) (by rw [k2]; exact hkC) (by rw [k2]; exact va_assign hcl) rfl rfl hdg (fun H' e1 e2 e3 => ?_)
                  refine mj_wr hR hL hS hok.2.1 hg ?_ e2 e3 kk
                  rw [e1, hcell, mj_vc_q, mj_vc_q, mj_rf_s, arrV_store, mj_updV_q]
                · cases has
              · cases has
            · rename_i hno
              exact absurd rfl (hno _ _ rfl)
          · rename_i hf
            cases hv
            obtain ⟨n, A2⟩ := A
            simp only at hf
            subst hf
            refine va_WaastN hx hb g1 g2 g3 b1 rfl rfl hdg (fun H' e1 e2 e3 => ?_)
            refine mj_wr hR hL hS hok.2.1 hg ?_ e2 e3 kk
            rw [e1, hcell, mj_vc_q, mj_vc_q, mj_rf_n (mj_ad G P), arrV_store, mj_updV_q]
        · cases h
      · cases h
    · cases h
  · cases h
end MJ6
