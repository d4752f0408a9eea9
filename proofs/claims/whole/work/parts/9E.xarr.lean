/-! arrays of the class copied -/
section AR1
variable {c : CX} {d : Nat} {T T' : XS} {a n m : Nat}
/-- a new array at the end, like a stretch of another -/
def NWA (T T' : XS) (a s m : Nat) : Prop := grw noc T T' ∧ (xn T' = xn T + 1 ∧ xk T' = xk T + m) ∧ ar T' (4 * xn T + 3) 20 m ∧ ∀ i, i < m → xA T' (4 * xn T + 3) i = xA T a (s + i)
theorem NWA.sdf {s : Nat} (h : NWA T T' a s m) (q : SDF T) : SDF T' := q.gr h.1 (fun b h3 w1 w2 k => by
  rw [h.2.1.1] at w2
  rw [show b = 4 * xn T + 3 by omega, h.2.2.1.2] at k
  cases k)
theorem NWA.gw {s : Nat} (h : NWA T T' a s m) : gw 1 m T T' := ⟨by rw [h.2.1.1]; omega, by rw [h.2.1.2]; omega, h.sdf⟩
theorem nwa_W {g : Nat → Int32} {s : Nat} (hg : ∀ i, i < m → g i = xA T a (s + i)) : NWA T (tW (tN T 20 m m) (4 * xn T + 3) g) a s m := by
  have hnew : ∀ b, old T b → b ≠ 4 * xn T + 3 := fun b q e => by have := q (by omega); omega
  have g1 : grw noc T (tN T 20 m m) := grw.rf.N 20 m m
  have f2 : frm (fun b => b = 4 * xn T + 3) (tN T 20 m m) (tW (tN T 20 m m) (4 * xn T + 3) g) := frm_W (S := fun b => b = 4 * xn T + 3) rfl g
  refine ⟨g1.fr f2 (fun b hb e => absurd e (hnew b hb)), ⟨rfl, rfl⟩, f2.r (ar_new T 20 m m), fun i hi => ?_⟩
  show (if _ = _ then g else _) i = _
  rw [if_pos rfl]
  exact hg i hi
set_option maxRecDepth 8000 in
theorem x_copyOf {Q : Option Nat → XS → Prop} (hR : RL c) (ha : ar T a 20 n) (hn : n < 65536) (hm : m < n) (hq : ∀ T', NWA T T' a 0 m → Q (some (4 * xn T + 3)) T') : XO c (d + 1) m_JA_copyOf [.ref a, .int (nI m)] T Q := by
  refine ⟨q_JA_copyOf, rfl, Nat.le_of_ble_eq_true rfl, ?_⟩
  refine ev_ex 2 (c' := (2, [some (.ref a), some (.int (nI m)), none], [.ref a, .int (nI m)], hX c T)) rfl ?_
  refine xe_len rfl ha (Or.inl rfl) ?_
  refine ev_icmp_ne (tgt := 14) rfl rfl (fun _ => ?_) (fun z => ?_)
  · refine ev_ex 1 (c' := (15, [some (.ref a), some (.int (nI m)), none], [.int (nI m)], hX c T)) rfl ?_
    refine xe_nai hR rfl (by omega) ?_
    have g1 : grw noc T (tN T 20 m m) := grw.rf.N 20 m m
    refine ev_ex 6 (c' := (23, [some (.ref a), some (.int (nI m)), some (.ref (4 * xn T + 3))], [.ref a, .int 0, .ref (4 * xn T + 3), .int 0, .ref a], hX c (tN T 20 m m))) rfl ?_
    refine xe_len rfl (g1.r ha) (Or.inl rfl) ?_
    refine ev_ex 1 (c' := (25, [some (.ref a), some (.int (nI m)), some (.ref (4 * xn T + 3))], [.int (nI m), .int (nI n), .int 0, .ref (4 * xn T + 3), .int 0, .ref a], hX c (tN T 20 m m))) rfl ?_
    refine xc_I (idx := 304) rfl rfl rfl (Nat.le_of_ble_eq_true rfl) (Nat.le_of_ble_eq_true rfl) rfl (zx_JM_min (Q := fun x T' => x = nI m ∧ T' = tN T 20 m m) ⟨by rw [mnI_nI (by omega) (by omega), show min n m = m by omega], rfl⟩) (fun x T1 H => ?_)
    obtain ⟨rfl, rfl⟩ := H
    refine xe_cpy (n := m) (sp := 0) (dp := 0) (n0 := n) (n1 := m) rfl rfl (g1.r ha) (ar_new T 20 m m) (inb_new ha.1) (by omega) (by omega) (by omega) (by omega) (Nat.le_of_ble_eq_true rfl) ?_
    refine ev_ex 1 (c' := (32, [some (.ref a), some (.int (nI m)), some (.ref (4 * xn T + 3))], [.ref (4 * xn T + 3)], hX c (tW (tN T 20 m m) (4 * xn T + 3) (va_cpy (xA (tN T 20 m m) a) (xA (tN T 20 m m) (4 * xn T + 3)) 0 0 m)))) rfl ?_
    refine ev_retO (e := some (4 * xn T + 3)) rfl rfl (Or.inr ⟨_, rfl⟩) ⟨_, _, rfl, rfl, hq _ (nwa_W (fun i hi => ?_))⟩
    unfold va_cpy
    rw [if_pos ⟨by omega, by omega⟩, g1.A ha.1 id]
    exact congrArg (xA T a) (by omega)
  · exact absurd z (fun e => by have := (nI_inj (by omega) (by omega)).mp e; omega)
theorem x_newG {x : mj_C} {z : Nat} (hR : c.2.2.2.1.length = 18) (hn : xn T' = xn T + 1) (hk : xk T' = xk T + z) (hx : cellX T' (4 * xn T + 3) = x) (hne : ∀ b, b ≠ 4 * xn T + 3 → cellX T' b = cellX T b) : mj_new (cP c) (hX c T) x z = hX c T' := by
  unfold mj_new hX
  simp only [List.length_map, List.length_range, hR]
  rw [if_neg (show ¬ 57 < mj_n1 (cP c) by exact Nat.lt_irrefl 57), if_neg (show ¬ 18 < mj_n2 (cP c) by exact Nat.lt_irrefl 18)]
  have e1 : (List.range 57).map (fun i => cellX T (4 * i + 1)) = (List.range 57).map (fun i => cellX T' (4 * i + 1)) := List.map_congr_left (fun j _ => (hne _ (by omega)).symm)
  have e2 : (List.range (xn T)).map (fun i => cellX T (4 * i + 3)) ++ [x] = (List.range (xn T')).map (fun i => cellX T' (4 * i + 3)) := by
    rw [hn, List.range_succ, List.map_append, ← hx]
    congr 1
    exact List.map_congr_left (fun j hj => (hne _ (by have := List.mem_range.mp hj; omega)).symm)
  rw [e1, e2, hk]
set_option maxRecDepth 8000 in
theorem x_copyAll {Q : Option Nat → XS → Prop} (hR : RL c) (ha : ar T a 20 n) (hn : n < 65536) (hq : ∀ T', NWA T T' a 0 n → Q (some (4 * xn T + 3)) T') : XO c d m_JA_copyOf [.ref a, .int (nI n)] T Q := by
  refine ⟨q_JA_copyOf, rfl, Nat.le_of_ble_eq_true rfl, ?_⟩
  refine ev_ex 2 (c' := (2, [some (.ref a), some (.int (nI n)), none], [.ref a, .int (nI n)], hX c T)) rfl ?_
  refine xe_len rfl ha (Or.inl rfl) ?_
  refine ev_icmp_ne (tgt := 14) rfl rfl (fun z => absurd rfl z) (fun _ => ?_)
  refine ev_ex 1 (c' := (7, [some (.ref a), some (.int (nI n)), none], [.ref a], hX c T)) rfl ?_
  have q := nwa_W (T := T) (a := a) (m := n) (s := 0) (g := xA T a) (fun i _ => congrArg (xA T a) (by omega))
  have o : ar (tW (tN T 20 n n) (4 * xn T + 3) (xA T a)) (4 * xn T + 3) 20 n := q.2.2.1
  have hc : mj_cln (cP c) [.ref a] (hX c T) = some ([.ref (4 * xn T + 3)], hX c (tW (tN T 20 n n) (4 * xn T + 3) (xA T a))) := by
    unfold mj_cln
    simp only [x_get ha.1, ar_int ha]
    rw [if_pos ⟨inb_4 ha.1, Nat.le_of_ble_eq_true rfl⟩, x_nx hR, x_newG (T' := tW (tN T 20 n n) (4 * xn T + 3) (xA T a)) hR rfl rfl (by rw [ar_int o, tW_at]) (fun b hb => ?_)]
    rw [← tN_cell (T := T) (kd := 20) (n := n) (z := n) hb]
    exact cell_ne rfl (fun j => rfl) (fun j => rfl) (tW_ne _ _ hb) rfl rfl
  refine ev_cln (idx := 316) rfl rfl hc ?_
  refine ev_step (i := .checkcast 317) (len := 3) (pc' := 13) (L' := [some (.ref a), some (.int (nI n)), none]) (st' := [.ref (4 * xn T + 3)]) (σ' := hX c (tW (tN T 20 n n) (4 * xn T + 3) (xA T a))) rfl rfl ?_ ?_
  · simp only [mj_sim]
    rw [show mj_lnk (cP c) m_JA_copyOf 317 = some (12, 0, 0, 0, .null) from rfl]
    simp only [x_get o.1, ar_int o]
    rw [if_pos (inb_4 o.1)]
  · exact ev_retO (e := some (4 * xn T + 3)) rfl rfl (Or.inr ⟨_, rfl⟩) ⟨_, _, rfl, rfl, hq _ q⟩
set_option maxRecDepth 8000 in
theorem x_checkLength {Q : XS → Prop} {x y : Int32} (h : x ≤ y) (hq : Q T) : XV c d m_JA_checkLength [.int x, .int y] T Q := by
  refine ⟨q_JA_checkLength, rfl, Nat.le_of_ble_eq_true rfl, ?_⟩
  refine ev_ex 2 (c' := (2, [some (.int x), some (.int y)], [.int x, .int y], hX c T)) rfl ?_
  refine ev_icmp_ge (tgt := 37) rfl rfl (fun _ => ?_) (fun z => absurd h z)
  exact ev_ret rfl rfl rfl ⟨_, rfl, rfl, hq⟩
set_option maxRecDepth 8000 in
theorem x_copyOfRangeInt {Q : Option Nat → XS → Prop} (hR : RL c) {s : Nat} (ha : ar T a 20 n) (hn : n < 65536) (hm : s + m ≤ n) (hq : ∀ T', NWA T T' a s m → Q (some (4 * xn T + 3)) T') : XO c (d + 1) m_JA_copyOfRangeInt [.ref a, .int (nI s), .int (nI (s + m))] T Q := by
  refine ⟨q_JA_copyOfRangeInt, rfl, Nat.le_of_ble_eq_true rfl, ?_⟩
  refine ev_ex 2 (c' := (2, [some (.ref a), some (.int (nI s)), some (.int (nI (s + m))), none, none], [.int (nI (s + m)), .int (nI s)], hX c T)) rfl ?_
  refine xc_V (idx := 343) rfl rfl rfl (Nat.le_of_ble_eq_true rfl) (Nat.le_of_ble_eq_true rfl) rfl (x_checkLength (Q := fun T' => T' = T) ((nI_leI (by omega) (by omega)).mpr (by omega)) rfl) (fun T1 H => ?_)
  rw [H]
  refine ev_ex 5 (c' := (10, [some (.ref a), some (.int (nI s)), some (.int (nI (s + m))), some (.int (nI m)), none], [.int (nI m)], hX c T)) ?_ ?_
  · rw [show nI m = nI (s + m) - nI s by rw [nI_sub (by omega)]; exact congrArg nI (by omega)]
    rfl
  refine xe_nai hR rfl (by omega) ?_
  have g1 : grw noc T (tN T 20 m m) := grw.rf.N 20 m m
  refine ev_ex 6 (c' := (20, [some (.ref a), some (.int (nI s)), some (.int (nI (s + m))), some (.int (nI m)), some (.ref (4 * xn T + 3))], [.ref a, .int 0, .ref (4 * xn T + 3), .int (nI s), .ref a], hX c (tN T 20 m m))) rfl ?_
  refine xe_len rfl (g1.r ha) (Or.inl rfl) ?_
  refine ev_ex 3 (c' := (24, [some (.ref a), some (.int (nI s)), some (.int (nI (s + m))), some (.int (nI m)), some (.ref (4 * xn T + 3))], [.int (nI m), .int (nI (n - s)), .int 0, .ref (4 * xn T + 3), .int (nI s), .ref a], hX c (tN T 20 m m))) ?_ ?_
  · rw [show nI (n - s) = nI n - nI s by rw [nI_sub (by omega)]]
    rfl
  refine xc_I (idx := 304) rfl rfl rfl (Nat.le_of_ble_eq_true rfl) (Nat.le_of_ble_eq_true rfl) rfl (zx_JM_min (Q := fun x T' => x = nI m ∧ T' = tN T 20 m m) ⟨by rw [mnI_nI (by omega) (by omega), show min (n - s) m = m by omega], rfl⟩) (fun x T1 H => ?_)
  obtain ⟨rfl, rfl⟩ := H
  refine xe_cpy (n := m) (sp := s) (dp := 0) (n0 := n) (n1 := m) rfl rfl (g1.r ha) (ar_new T 20 m m) (inb_new ha.1) (by omega) (by omega) (by omega) (by omega) (Nat.le_of_ble_eq_true rfl) ?_
  refine ev_ex 1 (c' := (32, [some (.ref a), some (.int (nI s)), some (.int (nI (s + m))), some (.int (nI m)), some (.ref (4 * xn T + 3))], [.ref (4 * xn T + 3)], hX c (tW (tN T 20 m m) (4 * xn T + 3) (va_cpy (xA (tN T 20 m m) a) (xA (tN T 20 m m) (4 * xn T + 3)) s 0 m)))) rfl ?_
  refine ev_retO (e := some (4 * xn T + 3)) rfl rfl (Or.inr ⟨_, rfl⟩) ⟨_, _, rfl, rfl, hq _ (nwa_W (fun i hi => ?_))⟩
  unfold va_cpy
  rw [if_pos ⟨by omega, by omega⟩, g1.A ha.1 id]
  exact congrArg (xA T a) (by omega)
set_option maxRecDepth 8000 in
theorem x_copyOfRange {Q : Option Nat → XS → Prop} (hR : RL c) {s : Nat} (ha : ar T a 20 n) (hn : n < 65536) (hm : s + m ≤ n) (hm' : m < n) (hq : ∀ T', NWA T T' a s m → Q (some (4 * xn T + 3)) T') : XO c (d + 2) m_JA_copyOfRange [.ref a, .int (nI s), .int (nI (s + m))] T Q := by
  have key : ev (cP c) (d + 2) m_JA_copyOfRange 10 [some (.ref a), some (.int (nI s)), some (.int (nI (s + m)))] [] (hX c T) (yO c Q) := by
    refine ev_ex 3 (c' := (13, [some (.ref a), some (.int (nI s)), some (.int (nI (s + m)))], [.int (nI (s + m)), .int (nI s), .ref a], hX c T)) rfl ?_
    refine xc_O (idx := 351) rfl rfl rfl (Nat.le_of_ble_eq_true rfl) (Nat.le_of_ble_eq_true rfl) rfl (x_copyOfRangeInt (d := d) (Q := Q) hR ha hn hm hq) (fun x T1 H => ?_)
    exact ev_retO (e := x) rfl rfl (Or.inr ⟨_, rfl⟩) ⟨_, _, rfl, rfl, H⟩
  refine ⟨q_JA_copyOfRange, rfl, Nat.le_of_ble_eq_true rfl, ?_⟩
  refine ev_ex 1 (c' := (1, [some (.ref a), some (.int (nI s)), some (.int (nI (s + m)))], [.int (nI s)], hX c T)) rfl ?_
  refine ev_if_ne (tgt := 10) rfl rfl (fun _ => key) (fun z => ?_)
  refine ev_ex 2 (c' := (6, [some (.ref a), some (.int (nI s)), some (.int (nI (s + m)))], [.ref a, .int (nI (s + m))], hX c T)) rfl ?_
  refine xe_len rfl ha (Or.inl rfl) ?_
  refine ev_icmp_eq (tgt := 17) rfl rfl (fun y => ?_) (fun _ => key)
  have := (nI_inj (by omega) (by omega)).mp y
  have : s = 0 := (nI_inj (b := 0) (by omega) (by decide)).mp z
  omega
end AR1
