/-! a simple instruction of the small machine is one of the big one -/
section MJ3
variable {p : Program} {l : Launch} {e : Env} {R : Room} {s : State} {m : MethodId} {args : Array Value} {below : List Frame} {meth : Method} {c : Code} {H : Heap} {locs : List Loc} {cells slots : Nat} {Q : State → Prop}
variable {G : mj_G} {P : mj_P} {Tg NW : List Cond} {cc : ByteArray} {own : String} {nL mi pc len pc' : Nat} {L L' : mj_L} {st st' : List Value} {σ σ' : mj_H} {ls : Array Slot}
/-- what is left to do behind a step -/
def mj_kk (G : mj_G) (P : mj_P) (p : Program) (l : Launch) (e : Env) (R : Room) (s : State) (m : MethodId) (args : Array Value) (below : List Frame) (meth : Method) (c : Code) (cells slots : Nat) (Q : State → Prop) (nL : Nat) (σ : mj_H) (pc' : Nat) (L' : mj_L) (st' : List Value) (σ' : mj_H) : Prop :=
  ∀ (H' : Heap) (locs' : List Loc) (ls' : Array Slot) (cells' slots' : Nat), mj_HR G P σ' H' → mj_LR (mj_ad G P) L' ls' nL → (∀ q ∈ locs', G.2.1 ≤ q.base) → cells' + mj_tot σ = cells + mj_tot σ' → slots' + σ.2.2.2 = slots + σ'.2.2.2 → W p l e R s m args below meth c H' locs' cells' slots' Q (F0 m pc' ls' (st'.map (mj_tr (mj_ad G P))))
/-- an array cell, old or new, as the machine sees it -/
theorem mj_arr {a : Nat} {ty : FieldType} {A : vp_A} (hW : mj_Wd G P Tg NW s) (hR : mj_HR G P σ H) (hs : ∀ q : Nat, q < G.2.1 → s.heap[q]? = G.2.2.1[q]?) (hg : mj_get P σ a = some (.inl (ty, A))) : ∃ cell : Cell, H[mj_ad G P a]? = some cell ∧ s.isArrayOf cell ty ∧ cell.vm ≠ .unknown ∧ A.1 ≤ cell.slots.size ∧ cell.slots.size.toInt32 = Int32.ofNat A.1 ∧
    (∀ f, A.2 = .inl f → ∀ j, j < A.1 → cell.slots[j]? = some (.int (f j))) ∧ (a % 4 ≠ 0 → cell = vp_cell (G.2.2.2.2 ty) (mj_trA (mj_ad G P) A)) ∧ (a % 4 = 0 → ty = .int ∨ ty = .byte) := by
  by_cases h0 : a % 4 = 0
  · rw [mj_get0 h0] at hg
    obtain ⟨f, hT, hf⟩ := hW.2.2.2.2.1 _ _ hg
    obtain ⟨cell, g1, g2, g3, g4, g5, g6, g7⟩ := hT
    have hlt : G.1 (a / 4) < G.2.1 := Nat.lt_of_not_le g7
    refine ⟨cell, by rw [mj_ad0 h0, hR.2.2.2 _ hlt, ← hs _ hlt]; exact g1, g2, g3, g4, g5, fun g hA j hj => ?_, fun z => absurd h0 z, fun _ => ?_⟩
    · rw [hA] at hf
      rw [g6 j hj, hf.1 j]
    · revert hf
      cases A.2 with
      | inl g => exact fun q => q.2
      | inr g => exact fun q => q.elim
  · obtain ⟨ht, hc⟩ := hR.2.2.1 a _ h0 hg
    have hA := (hW.2.2.1 ty ht).1
    obtain ⟨n, f⟩ := A
    refine ⟨_, hc, ?_, ?_, ?_, ?_, ?_, fun _ => rfl, fun z => absurd z h0⟩
    · rcases f with f | f | f | f | f <;> exact hA _ _
    · rcases f with f | f | f | f | f <;> exact fun q => by cases q
    · rcases f with f | f | f | f | f <;> exact Nat.le_of_eq (arrV_size _ _ _).symm
    · rcases f with f | f | f | f | f <;> exact congrArg Nat.toInt32 (arrV_size _ _ _)
    · intro g hg2 j hj
      simp only at hg2
      subst hg2
      exact arrV_read _ _ hj
theorem mj_SS (hR : mj_HR G P σ H) (hs : ∀ q : Nat, q < G.2.1 → s.heap[q]? = G.2.2.1[q]?) (hS : ∀ q ∈ locs, G.2.1 ≤ q.base) (hz : s.heap.size ≤ H.size) : va_S (mj_A G) s.heap H locs :=
  ⟨hz, fun q _ h2 => by rw [hR.2.2.2 q (Nat.lt_of_not_le h2), hs q (Nat.lt_of_not_le h2)], hS⟩
theorem mj_to_eq {off : Int} (h : mj_to pc off L st σ = some (pc', L', st', σ')) : (pc : Int) + off = (pc' : Int) ∧ L' = L ∧ st' = st ∧ σ' = σ := by
  unfold mj_to at h
  split at h
  · cases h
  · cases h
    exact ⟨by omega, rfl, rfl, rfl⟩
theorem mj_fit_ok {w : Nat} {v : Value} {ty : FieldType} {ad : Nat → Nat} (h : mj_fit w v = true) (hk : mj_kd ty = w) : narrow ty (mj_tr ad v) = mj_tr ad v ∧ fits ty (mj_tr ad v) = true := by
  subst hk
  cases ty <;> cases v <;> first | (simp [mj_kd, mj_fit] at h; done) | exact ⟨rfl, rfl⟩ | skip
  rename_i x
  simp only [mj_kd, mj_fit, Bool.or_eq_true, decide_eq_true_eq] at h
  have e0 : narrow .boolean (.int 0) = .int 0 ∧ fits .boolean (.int 0) = true := ⟨by decide, by decide⟩
  have e1 : narrow .boolean (.int 1) = .int 1 ∧ fits .boolean (.int 1) = true := ⟨by decide, by decide⟩
  rcases h with rfl | rfl
  · exact e0
  · exact e1
theorem mj_bool {b : Bool} {off : Int} {P1 : Prop} (h : mj_if b pc off L st σ = some (pc', L', st', σ')) (h1 : b = true → (pc : Int) + off = (pc' : Int) → L' = L → st' = st → σ' = σ → P1) (h2 : b = false → (pc : Int) + off = ((((pc : Int) + off).toNat : Nat) : Int) → pc' = pc + 3 → L' = L → st' = st → σ' = σ → P1) : P1 := by
  unfold mj_if at h
  split at h
  · cases h
  · rename_i h0
    split at h
    · rename_i hb
      cases h
      exact h1 hb (by omega) rfl rfl rfl
    · rename_i hb
      cases h
      exact h2 (by simpa using hb) (by omega) rfl rfl rfl rfl
set_option maxHeartbeats 4000000 in
theorem mj_sim_ok1 {i : Instr} (hx : p.tables.exec = Jvm.exec) (hb : c.code = cc) (hdg : decode cc pc = .ok (i, len)) (hR : mj_HR G P σ H) (hL : mj_LR (mj_ad G P) L ls nL) (hS : ∀ q ∈ locs, G.2.1 ≤ q.base)
    (hi : i = .iadd ∨ i = .isub ∨ i = .imul ∨ i = .iand ∨ i = .ior ∨ i = .ixor ∨ i = .ishl ∨ i = .ishr ∨ i = .iushr ∨ i = .idiv ∨ i = .irem) (hlen : len = 1)
    (h : mj_sim P mi i len pc L st σ = some (pc', L', st', σ')) (kk : mj_kk G P p l e R s m args below meth c cells slots Q nL σ pc' L' st' σ') : W p l e R s m args below meth c H locs cells slots Q (F0 m pc ls (st.map (mj_tr (mj_ad G P)))) := by
  subst hlen
  rcases hi with rfl | rfl | rfl | rfl | rfl | rfl | rfl | rfl | rfl | rfl | rfl
  all_goals
    simp only [mj_sim] at h
    split at h
    · rename_i y x r
      simp only [mj_b32] at h
      first
        | (cases h
           first
            | exact lv_iadd hx hb hdg (kk H locs ls cells slots hR hL hS rfl rfl)
            | exact lv_isub hx hb hdg (kk H locs ls cells slots hR hL hS rfl rfl)
            | exact lv_imul hx hb hdg (kk H locs ls cells slots hR hL hS rfl rfl)
            | exact lv_iand hx hb hdg (kk H locs ls cells slots hR hL hS rfl rfl)
            | exact lv_ior hx hb hdg (kk H locs ls cells slots hR hL hS rfl rfl)
            | exact lv_ixor hx hb hdg (kk H locs ls cells slots hR hL hS rfl rfl)
            | exact lv_ishl hx hb hdg (kk H locs ls cells slots hR hL hS rfl rfl)
            | exact lv_ishr hx hb hdg (kk H locs ls cells slots hR hL hS rfl rfl)
            | exact lv_iushr hx hb hdg rfl (kk H locs ls cells slots hR hL hS rfl rfl))
        | (split at h
           · rename_i z hz
             split at hz
             · cases hz
             · rename_i hy
               cases hz
               cases h
               first
                | exact lv_idiv hx hb hdg hy (kk H locs ls cells slots hR hL hS rfl rfl)
                | exact lv_irem hx hb hdg hy (kk H locs ls cells slots hR hL hS rfl rfl)
           · cases h)
    · cases h
end MJ3
