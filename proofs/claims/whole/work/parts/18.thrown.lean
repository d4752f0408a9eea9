/-! calls whose callee throws -/
section MJ14
variable {p : Program} {l : Launch} {e : Env} {R : Room} {s : State} {m : MethodId} {args : Array Value} {below : List Frame} {meth : Method} {c : Code} {H : Heap} {locs : List Loc} {cells slots : Nat} {Q : State → Prop}
variable {G : mj_G} {P : mj_P} {Tg NW : List Cond} {mi pc len pc' : Nat} {L L' : mj_L} {st st' : List Value} {σ σ' : mj_H} {ls : Array Slot}
def mj_Catch (l : Launch) : Prop := ∀ (p : Program) (e : Env) (R : Room) (s : State) (m : MethodId) (args : Array Value) (below : List Frame) (meth : Method) (c : Code) (H : Heap) (locs : List Loc) (cells slots : Nat) (Q : State → Prop) (pc : Nat) (ls : Array Slot) (rest : List Value) (own name E : String) (ce : Cell) (q : Addr), s.vm.findClass own = some m.cls → ∀ (pre : List ExceptionTableEntry) (x : ExceptionTableEntry) (suf : List ExceptionTableEntry), c.exceptionTable.toList = pre ++ x :: suf →
  (∀ z ∈ pre, covers z pc = false ∨ (z.catchType ≠ 0 ∧ ∃ nm : String, (Cond.classLink own z.catchType nm).before args s = true ∧ va_Nc E nm s)) → covers x pc = true → x.catchType ≠ 0 → (Cond.classLink own x.catchType name).before args s = true → (Cond.castable E name).before args s = true → H[q]? = some ce → ce.vm = .none → s.vm.findClass E = some ce.cls →
  W p l e R s m args below meth c H locs cells slots Q (F0 m x.handlerPc ls [.ref q]) → vx_W p l e R s m args below meth c H locs cells slots Q (F0 m pc ls rest) q
theorem mj_hfind {own : String} {x : Nat} : ∀ (hh : List (Nat × Nat × Nat × Nat)) (cs acc : List Nat) (preT : List ExceptionTableEntry) (h : Nat), (∀ z ∈ preT, covers z pc = false ∨ (z.catchType ≠ 0 ∧ ∃ y ∈ acc, Cond.classLink own z.catchType (mj_en y) ∈ Tg)) → mj_hok Tg NW own hh cs acc → mj_hnd hh cs pc x = some h →
    ∃ (pre : List ExceptionTableEntry) (z0 : ExceptionTableEntry) (suf : List ExceptionTableEntry), preT ++ tableOf hh = pre ++ z0 :: suf ∧ (∀ z ∈ pre, covers z pc = false ∨ (z.catchType ≠ 0 ∧ ∃ y, Cond.classLink own z.catchType (mj_en y) ∈ Tg ∧ (x, y) ∈ mj_nc)) ∧ covers z0 pc = true ∧ z0.handlerPc = h ∧ z0.catchType ≠ 0 ∧ Cond.classLink own z0.catchType (mj_en x) ∈ Tg ∧ Cond.castable (mj_en x) (mj_en x) ∈ NW
  | [], cs, acc, preT, h, _, _, hf => by simp [mj_hnd] at hf
  | (a, b, g, t) :: r, [], acc, preT, h, _, hok, _ => hok.elim
  | (a, b, g, t) :: r, y :: cs, acc, preT, h, hp, hok, hf => by
    obtain ⟨k1, k2, k3, k4, k5⟩ := hok
    rw [mj_hnd] at hf
    split at hf
    · rename_i hq
      obtain ⟨q1, q2, rfl⟩ := hq
      cases hf
      refine ⟨preT, ⟨a, b, g, t⟩, tableOf r, rfl, fun z hz => ?_, by simp [covers, q1, q2], rfl, k1, k2, k3⟩
      rcases hp z hz with w | ⟨w1, y', hy', w2⟩
      · exact Or.inl w
      · exact Or.inr ⟨w1, y', w2, k4 y' hy'⟩
    · rename_i hq
      have h2 := mj_hfind r cs (acc ++ [y]) (preT ++ [⟨a, b, g, t⟩]) h (fun z hz => by
        rcases List.mem_append.mp hz with hz | hz
        · rcases hp z hz with w | ⟨w1, y', hy', w2⟩
          · exact Or.inl w
          · exact Or.inr ⟨w1, y', List.mem_append_left _ hy', w2⟩
        · rw [List.mem_singleton.mp hz]
          exact Or.inr ⟨k1, y, List.mem_append_right _ List.mem_cons_self, k2⟩) k5 hf
      obtain ⟨pre, z0, suf, e1, e2⟩ := h2
      refine ⟨pre, z0, suf, ?_, e2⟩
      rw [← e1]
      simp [tableOf]
theorem mj_callX {x : Nat} {rest st0 : List Value} {a : Array Value} {mc ms : Nat} (hr : vx_Run p l e R s m args below meth c H locs cells slots mc ms (F0 m pc ls st0) rest (fun _ _ _ => False) (mj_XC G P x σ') (mj_fr G)) (hS : ∀ q ∈ locs, G.2.1 ≤ q.base)
    (kx : ∀ (q9 : Addr) (ce : Cell) (H1 : Heap) (locs1 : List Loc), mj_HR G P σ' H1 → (∀ q ∈ locs1, G.2.1 ≤ q.base) → H1[q9]? = some ce → ce.vm = .none → s.vm.findClass (mj_en x) = some ce.cls → vx_W p l e R s m args below meth c H1 locs1 (cells + mc) (slots + ms) Q (F0 m pc ls rest) q9) : W p l e R s m args below meth c H locs cells slots Q (F0 m pc ls st0) := by
  intro T hT X
  rcases hr T hT X with ⟨v', st₀, t, T', L1, h0, X', hL1, e1, e2, hF, hst⟩ | ⟨q, st₀, t, T', L1, E, ce, h0, X', hL1, e1, e2, ⟨rfl, hR'⟩, hce, hcv, hcl, hst⟩
  · exact hF.elim
  · obtain ⟨t2, a1, b1⟩ := kx q ce T'.heap (locs ++ L1) (by rw [e1]; exact hR') (fun z hz => by
      rcases List.mem_append.mp hz with w | w
      · exact hS z w
      · exact hL1 z w) (by rw [e1]; exact hce) hcv hcl T' rfl X'
    exact ⟨t2, hst.trans a1, b1⟩
/-- a call whose callee throws: what the caller then owes -/
theorem mj_inv_thr {M M' : mj_M} {i : Instr} {idx na ci mj n d' x : Nat} (hI : mj_Snd G P Tg NW l n) (hk : mj_Pk P Tg NW) (C : mj_Cx G P Tg NW M p s m args meth c) (hdg : decode M.2.1 pc = .ok (i, 3)) (hM' : mj_mth P mj = some M') (hcw : mj_cw P Tg NW M.1.cls i M' na ci) (hinv : mj_inv i = some idx) (hcs : M'.2.2.2.2.2 ≠ []) (hh0 : M'.2.2.2.2.1 = [])
    (hna : na ≤ st.length) (hlen : (mj_args (st.take na).reverse).length ≤ M'.2.2.1) (hcat : mj_cat (st.drop na) ≤ 8) (hrcv : mj_rcv P σ i ci (st.take na).reverse = true) (hrun : mj_run P n d' mj 0 (mj_ent (st.take na).reverse M'.2.2.1) [] σ = some (.inr x, σ'))
    (hR : mj_HR G P σ H) (hL : mj_LR (mj_ad G P) L ls M.2.2.1) (hS : ∀ q ∈ locs, G.2.1 ≤ q.base) (hRf : 8 + (d' + 1) ≤ R.frames) (hRl : 200 + 64 * (d' + 1) ≤ R.locals) (hc : cells + (mj_tot σ' - mj_tot σ) ≤ R.cells) (hsl : slots + (σ'.2.2.2 - σ.2.2.2) ≤ R.slots)
    (kx : ∀ (q9 : Addr) (ce : Cell) (H1 : Heap) (locs1 : List Loc), mj_HR G P σ' H1 → (∀ q ∈ locs1, G.2.1 ≤ q.base) → H1[q9]? = some ce → ce.vm = .none → s.vm.findClass (mj_en x) = some ce.cls → vx_W p l e R s m args below meth c H1 locs1 (cells + (mj_tot σ' - mj_tot σ)) (slots + (σ'.2.2.2 - σ.2.2.2)) Q (F0 m pc ls ((st.drop na).map (mj_tr (mj_ad G P)))) q9) : W p l e R s m args below meth c H locs cells slots Q (F0 m pc ls (st.map (mj_tr (mj_ad G P)))) := by
  obtain ⟨hx, hb, -, hml, hown, hts, -, -, -, hW, hs⟩ := C
  obtain ⟨hp, hcd, hcdW, hini, hnh, hmx, hpn, hrest⟩ := hcw
  have hrm := mj_rmF hRf hRl (mj_tot σ' - mj_tot σ) (σ'.2.2.2 - σ.2.2.2) M'.2.2.1 hmx
  have hsum : (((st.drop na).map (mj_tr (mj_ad G P))).map (fun v => v.category)).sum ≤ 8 := by rw [mj_cat_tr]; exact hcat
  have hpre := mj_pre hk hW hs hR (st.take na).reverse
  have hal : ((st.take na).reverse.map (mj_tr (mj_ad G P))).length = na := by simp; omega
  obtain ⟨hpl, hnoI, hnoN⟩ := hpn hcs hh0
  have hMet := mj_metX hI hM' hh0 hpl hrun hlen
  rw [mj_split (mj_ad G P) st na]
  cases i <;> try contradiction
  case invokestatic idx =>
    obtain ⟨hst, hpd, -⟩ := hrest
    exact mj_callX (a := #[]) (vx_runS (As := (st.take na).reverse.map (mj_tr (mj_ad G P))) (rest := (st.drop na).map (mj_tr (mj_ad G P))) ⟨hx, hb, hml, hown, hts⟩ hMet ⟨callB_of na hts (mj_good hk (hcd hh0)) rfl rfl rfl (hts _ hini) (hts _ (hnoN _ rfl)) ⟨hnh.1, hnh.2, hpd⟩ hrm, hts _ hst⟩ hpre rfl hal hL.2.1 rfl (lv_room hsum) hdg ⟨hc, hsl⟩) hS kx
  case invokevirtual idx =>
    obtain ⟨h0, hin, hsel, ⟨nn, rfl, hpd⟩, hlk, hC⟩ := hrest
    generalize has : (st.take (nn + 1)).reverse = as at *
    simp only [mj_rcv] at hrcv
    split at hrcv
    · rename_i b as'
      split at hrcv
      · rename_i cj fs hg
        obtain ⟨rfl, hne, h01⟩ := of_decide_eq_true hrcv
        have hrv := mj_recv hW hs hR hg h01 hC
        have e1 : ((Value.ref b :: as').map (mj_tr (mj_ad G P))).reverse ++ (st.drop (nn + 1)).map (mj_tr (mj_ad G P)) = (as'.map (mj_tr (mj_ad G P))).reverse ++ .ref (mj_ad G P b) :: (st.drop (nn + 1)).map (mj_tr (mj_ad G P)) := by
          simp [mj_tr]
        rw [e1]
        have hal2 : (as'.map (mj_tr (mj_ad G P))).length = nn := by simpa using hal
        exact mj_callX (a := #[]) (vx_runV (As := as'.map (mj_tr (mj_ad G P))) (rest := (st.drop (nn + 1)).map (mj_tr (mj_ad G P))) ⟨hx, hb, hml, hown, hts⟩ hMet ⟨callB_of nn hts (mj_good hk (hcd hh0)) rfl rfl rfl (hts _ hini) (hts _ hlk) ⟨hnh.1, hnh.2, hpd⟩ hrm, hts _ hin, hts _ hsel⟩ ⟨hpre.1, hrv, hpre.2⟩ rfl hal2 hL.2.1 rfl (lv_room hsum) hdg ⟨hc, hsl⟩) hS kx
      · cases hrcv
    · cases hrcv
  case invokespecial idx => exact absurd rfl (hnoI idx)
end MJ14
