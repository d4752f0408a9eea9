/-! calls -/
section MJ11
variable {p : Program} {l : Launch} {e : Env} {R : Room} {s : State} {m : MethodId} {args : Array Value} {below : List Frame} {meth : Method} {c : Code} {H : Heap} {locs : List Loc} {cells slots : Nat} {Q : State → Prop}
variable {G : mj_G} {P : mj_P} {Tg NW : List Cond} {mi pc len pc' nL : Nat} {L L' : mj_L} {st st' : List Value} {σ σ' : mj_H} {ls : Array Slot}
/-- the tables' words for a call by this link -/
def mj_cw (P : mj_P) (Tg NW : List Cond) (own : String) (i : Instr) (M' : mj_M) (na ci : Nat) : Prop :=
  plainFor M'.1 = true ∧ (M'.2.2.2.2.1 = [] → Cond.code M'.1 M'.2.1 M'.2.2.1 M'.2.2.2.1 ∈ Tg) ∧ (M'.2.2.2.2.1 ≠ [] → Cond.codeWith M'.1 M'.2.1 M'.2.2.1 M'.2.2.2.1 M'.2.2.2.2.1 ∈ Tg ∧ plainName M'.1.cls = true) ∧ Cond.initialized M'.1.cls ∈ Tg ∧ (M'.1.cls ≠ "java/lang/invoke/MethodHandle" ∧ M'.1.cls ≠ "java/lang/invoke/VarHandle") ∧ M'.2.2.1 ≤ 40 ∧ (M'.2.2.2.2.2 ≠ [] → M'.2.2.2.2.1 = [] → plainName M'.1.cls = true ∧ (∀ j, i ≠ .invokespecial j) ∧ ∀ j, i = .invokestatic j → Cond.methodLink own j M'.1 ∈ Tg) ∧
  match i with
  | .invokestatic idx => Cond.static M'.1 ∈ Tg ∧ (parseMethodDescriptor M'.1.desc).map (fun d => d.parameters.length) = some na ∧ (Cond.methodLink own idx M'.1 ∈ Tg ∨ (M'.2.2.2.2.1 = [] ∧ ∃ host, Cond.methodLinkNest own idx M'.1 host ∈ NW))
  | .invokevirtual idx => M'.2.2.2.2.1 = [] ∧ Cond.instanceMethod M'.1 ∈ Tg ∧ Cond.selects M'.1.cls M'.1 M'.1 ∈ Tg ∧ (∃ nn, na = nn + 1 ∧ (parseMethodDescriptor M'.1.desc).map (fun d => d.parameters.length) = some nn) ∧ Cond.methodLink own idx M'.1 ∈ Tg ∧ ((ci = 1 ∧ M'.1.cls = "java/lang/String") ∨ (1 < ci ∧ ∃ T N, (mj_cl P)[ci]? = some (M'.1.cls, T, N)))
  | .invokespecial idx => M'.2.2.2.2.1 = [] ∧ M'.2.2.2.1 = none ∧ M'.1.name = "<init>" ∧ Cond.instanceMethod M'.1 ∈ Tg ∧ (∃ nn, na = nn + 1 ∧ (parseMethodDescriptor M'.1.desc).map (fun d => d.parameters.length) = some nn) ∧ (Cond.methodLink own idx M'.1 ∈ Tg ∨ ∃ host, Cond.methodLinkNest own idx M'.1 host ∈ NW)
  | _ => False
theorem mj_vtr (ad : Nat → Nat) (v : Option Value) (rest : List Value) : (v.map (mj_tr ad)).toList ++ rest.map (mj_tr ad) = (v.toList ++ rest).map (mj_tr ad) := by cases v <;> rfl
/-- behind a call that returned -/
theorem mj_callR {v : Option Value} {rest : List Value} {st0 : List Value} {a : Array Value} {mc ms : Nat} (hr : va_Run p l e R s m args below meth c H locs cells slots mc ms (F0 m pc ls st0) (rest.map (mj_tr (mj_ad G P))) (mj_Qr G P v σ' a) (mj_fr G)) (hL : mj_LR (mj_ad G P) L ls nL) (hS : ∀ q ∈ locs, G.2.1 ≤ q.base) (hmc : mc = mj_tot σ' - mj_tot σ) (hms : ms = σ'.2.2.2 - σ.2.2.2) (hle : mj_le σ σ')
    (kk : mj_kk G P p l e R s m args below meth c cells slots Q nL σ (pc + 3) L (v.toList ++ rest) σ') : W p l e R s m args below meth c H locs cells slots Q (F0 m pc ls st0) := by
  intro T hT X
  obtain ⟨v', st₀, t, T', L1, h0, X', hL1, e1, e2, ⟨hv, hR'⟩, hst⟩ := hr T hT X
  cases hv
  have hS' : ∀ q ∈ locs ++ L1, G.2.1 ≤ q.base := fun q hq => by
    rcases List.mem_append.mp hq with z | z
    · exact hS q z
    · exact hL1 q z
  obtain ⟨t2, a1, b1⟩ := kk T'.heap (locs ++ L1) ls (cells + mc) (slots + ms) (by rw [e1]; exact hR') hL hS' (by have := hle.1; omega) (by have := hle.2; omega) T' rfl X'
  refine ⟨t2, hst t2 ?_, b1⟩
  rw [← mj_vtr] at a1
  exact a1
theorem mj_pre (hk : mj_Pk P Tg NW) (hW : mj_Wd G P Tg NW s) (hs : ∀ q : Nat, q < G.2.1 → s.heap[q]? = G.2.2.1[q]?) (hR : mj_HR G P σ H) (as : List Value) : PreS s H (mj_Pc G P Tg NW as σ) (as.map (mj_tr (mj_ad G P))) :=
  ⟨mj_Pc_blind hk as σ, fun U hU hWU => ⟨rfl, hW.move hk hWU (fun q _ hq => by
    have hq : q < G.2.1 := Nat.lt_of_not_le hq
    rw [hU, hR.2.2.2 q hq, hs q hq]), by rw [hU]; exact hR⟩⟩
theorem mj_good (hk : mj_Pk P Tg NW) {w0 : Cond} (h0 : w0 ∈ Tg) : GoodIn Tg (w0 :: Tg) := by
  intro w hw
  rcases List.mem_cons.mp hw with rfl | hw
  · exact ⟨h0, good_of_word (hk.2.1 _ h0)⟩
  · exact ⟨hw, good_of_word (hk.2.1 _ hw)⟩
/-- the receiver -/
theorem mj_recv {a ci : Nat} {fs : List Value} {C : String} (hW : mj_Wd G P Tg NW s) (hs : ∀ q : Nat, q < G.2.1 → s.heap[q]? = G.2.2.1[q]?) (hR : mj_HR G P σ H) (hg : mj_get P σ a = some (.inr (ci, fs))) (h01 : a % 4 = 0 ↔ ci = 1) (hC : (ci = 1 ∧ C = "java/lang/String") ∨ (1 < ci ∧ ∃ T N, (mj_cl P)[ci]? = some (C, T, N))) : ∃ cellB : Cell, H[mj_ad G P a]? = some cellB ∧ cellB.vm.isStatics = false ∧ s.vm.findClass C = some cellB.cls := by
  rcases hC with ⟨rfl, rfl⟩ | ⟨h1, T, N, hc⟩
  · have h0 := h01.mpr rfl
    rw [mj_get0 h0] at hg
    obtain ⟨-, a2, -, ⟨cell, g1, g2, g3, g4⟩, -, -⟩ := hW.2.2.2.2.1 _ _ hg
    have hlt : G.1 (a / 4) < G.2.1 := Nat.lt_of_not_le g4
    exact ⟨cell, by rw [mj_ad0 h0, hR.2.2.2 _ hlt, ← hs _ hlt]; exact g1, g2, g3⟩
  · have h0 : a % 4 ≠ 0 := fun z => by have := h01.mp z; omega
    obtain ⟨-, cell, g1, g2, g3, -⟩ := mj_obj hR h0 hg (by omega) hc
    exact ⟨cell, g1, by rw [g3]; rfl, by rw [g2]; exact (hW.2.1 ci _ h1 hc).2.1⟩
end MJ11
