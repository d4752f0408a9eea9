/-! the way, by the class -/
def bsW (dr : Nat → Int) (v : CV) : Nat → Int
  | 0 => 0
  | k + 1 => bsW dr v k + dr (vY v k) * (vP v k : Int)
theorem whr_0 (dr : Nat → Int) (v : CV) : ∀ m k, whr dr v m k 0 = 0
  | 0, k => rfl
  | m + 1, k => by
    show dr (vY v k) * ((Nat.min 0 (vP v k) : Nat) : Int) + whr dr v m (k + 1) (0 - Nat.min 0 (vP v k)) = 0
    rw [show Nat.min 0 (vP v k) = 0 from Nat.zero_min _, whr_0 dr v m (k + 1)]
    simp
theorem stp_mono (v : CV) {i : Nat} : ∀ m, stp v i ≤ stp v (i + m)
  | 0 => Nat.le_refl _
  | m + 1 => by have := stp_mono v (i := i) m; show _ ≤ stp v (i + m) + vP v (i + m); omega
theorem whr_at (dr : Nat → Int) (v : CV) {i p : Nat} (hp : p ≤ vP v i) : ∀ m k, k ≤ i → i < k + m → whr dr v m k (stp v i - stp v k + p) = bsW dr v i - bsW dr v k + dr (vY v i) * (p : Int)
  | 0, k, h1, h2 => by omega
  | m + 1, k, h1, h2 => by
    show dr (vY v k) * ((Nat.min _ (vP v k) : Nat) : Int) + whr dr v m (k + 1) (_ - Nat.min _ (vP v k)) = _
    by_cases z : k = i
    · subst z
      rw [show Nat.min (stp v k - stp v k + p) (vP v k) = p from by rw [Nat.sub_self, Nat.zero_add]; exact Nat.min_eq_left hp, show stp v k - stp v k + p - p = 0 by omega, whr_0]
      omega
    · have e1 : stp v (k + 1) = stp v k + vP v k := rfl
      have e2 : stp v (k + 1) ≤ stp v i := by
        have := stp_mono v (i := k + 1) (i - (k + 1))
        rwa [show k + 1 + (i - (k + 1)) = i by omega] at this
      rw [show Nat.min (stp v i - stp v k + p) (vP v k) = vP v k from Nat.min_eq_right (by omega), show stp v i - stp v k + p - vP v k = stp v i - stp v (k + 1) + p by omega, whr_at dr v hp m (k + 1) (by omega) (by omega)]
      have e3 : bsW dr v (k + 1) = bsW dr v k + dr (vY v k) * (vP v k : Int) := rfl
      omega
theorem pos_at (dr : Nat → Int) (v : CV) {i p : Nat} (hi : i < vT v) (hp : p ≤ vP v i) : pos dr v (stp v i - 1 + p) = bsW dr v i + dr (vY v i) * (p : Int) := by
  have := whr_at dr v hp (vT v) 0 (by omega) (by omega)
  rw [show stp v 0 = 1 from rfl, show bsW dr v 0 = 0 from rfl] at this
  unfold pos
  omega
section XW1
variable {c : CX} {d n h st : Nat} {T T' : XS} {t : TV} {dr : Nat → Int} {F : Nat → Int32}
/-- a new way at the end -/
def NWW (dr : Nat → Int) (v : CV) (T T' : XS) : Prop := grw noc T T' ∧ (xn T' = xn T + 1 ∧ xk T' = xk T + stp v (vT v)) ∧ ar T' (4 * xn T + 3) 20 (stp v (vT v)) ∧ ∀ i, i < stp v (vT v) → xA T' (4 * xn T + 3) i = Int32.ofInt (pos dr v i)
set_option maxRecDepth 8000 in
theorem x_wayOf {Q : Option Nat → XS → Prop} (hR : RL c) (rd : RDX T t) (tok : TOK t) (hs : ∀ σ : mj_H, mj_get (cP c) σ st = some (.inl (.int, 4, .inl F))) (hF : ∀ w, w < 4 → F w = Int32.ofInt (dr w)) (hq : ∀ T', NWW dr t.1 T T' → Q (some (4 * xn T + 3)) T') : XO c d m_Cv_wayOf [.ref 9, .ref st] T Q := by
  obtain ⟨v, w⟩ := t
  have hT : vT v ≤ 12 := tok.1.2.1
  have hP : ∀ i, i < vT v → vY v i < 4 ∧ 1 ≤ vP v i ∧ vP v i ≤ 20 := tok.1.2.2.1
  have e8 : xI T 9 8 = nI (vT v) := rd.1.2.2
  have e4 : ∀ i, i < vT v → xA T 41 i = nI (vY v i) ∧ xA T 45 i = nI (vP v i) := rd.2.2.1
  have sl : stp v (vT v) ≤ 241 := stN_b tok.1
  have hle : ∀ k, k ≤ vT v → stp v k ≤ stp v (vT v) := fun k hk => by
    have := stp_mono v (i := k) (vT v - k)
    rwa [show k + (vT v - k) = vT v by omega] at this
  refine ⟨q_Cv_wayOf, rfl, Nat.le_of_ble_eq_true rfl, ?_⟩
  refine ev_ex 4 (c' := (4, [some (.ref 9), some (.ref st), some (.int 0), some (.int 0), none, none, none, none], [], hX c T)) rfl ?_
  suffices H : ∀ (m k : Nat), k + m = vT v → ev (cP c) d m_Cv_wayOf 4 [some (.ref 9), some (.ref st), some (.int (nI (stp v k - 1))), some (.int (nI k)), none, none, none, none] [] (hX c T) (yO c Q) from H (vT v) 0 (by omega)
  intro m
  induction m with
  | succ m ih =>
    intro k hk
    have s1 := stp_1 v k
    have s2 := hle (k + 1) (by omega)
    have e1 : stp v (k + 1) = stp v k + vP v k := rfl
    refine ev_ex 2 (c' := (6, [some (.ref 9), some (.ref st), some (.int (nI (stp v k - 1))), some (.int (nI k)), none, none, none, none], [.ref 9, .int (nI k)], hX c T)) rfl ?_
    refine xe_gf (ci := 7) (k := 8) rfl rfl (ob_lit (i := 2) rfl (by decide) rfl) ⟨by decide, by decide⟩ (v := .int (xI T 9 8)) rfl ?_
    rw [e8]
    refine ev_icmp_ge (tgt := 27) rfl rfl (fun z => absurd ((nI_leI (by omega) (by omega)).mp z) (by omega)) (fun _ => ?_)
    refine ev_ex 2 (c' := (14, [some (.ref 9), some (.ref st), some (.int (nI (stp v k - 1))), some (.int (nI k)), none, none, none, none], [.ref 9, .int (nI (stp v k - 1))], hX c T)) rfl ?_
    refine xe_gf (ci := 7) (k := 5) rfl rfl (ob_lit (i := 2) rfl (by decide) rfl) ⟨by decide, by decide⟩ (v := .ref 45) rfl ?_
    refine ev_ex 1 (c' := (18, [some (.ref 9), some (.ref st), some (.int (nI (stp v k - 1))), some (.int (nI k)), none, none, none, none], [.int (nI k), .ref 45, .int (nI (stp v k - 1))], hX c T)) rfl ?_
    refine xe_al rfl (ar_lit (i := 11) rfl (by decide) rfl) (okn (by omega) (by decide)) ?_
    rw [ix_nI (by omega), (e4 k (by omega)).2]
    refine ev_ex 4 (c' := (4, [some (.ref 9), some (.ref st), some (.int (nI (stp v k - 1) + nI (vP v k))), some (.int (nI k + 1)), none, none, none, none], [], hX c T)) rfl ?_
    rw [nI_add, nI_1, show stp v k - 1 + vP v k = stp v (k + 1) - 1 by omega]
    exact ih (k + 1) (by omega)
  | zero =>
    intro k hk
    have ek : k = vT v := by omega
    have s1 := stp_1 v k
    rw [ek] at s1 ⊢
    refine ev_ex 2 (c' := (6, [some (.ref 9), some (.ref st), some (.int (nI (stp v (vT v) - 1))), some (.int (nI (vT v))), none, none, none, none], [.ref 9, .int (nI (vT v))], hX c T)) rfl ?_
    refine xe_gf (ci := 7) (k := 8) rfl rfl (ob_lit (i := 2) rfl (by decide) rfl) ⟨by decide, by decide⟩ (v := .int (xI T 9 8)) rfl ?_
    rw [e8]
    refine ev_icmp_ge (tgt := 27) rfl rfl (fun _ => ?_) (fun z => absurd ((nI_leI (by omega) (by omega)).mpr (Nat.le_refl _)) z)
    refine ev_ex 3 (c' := (30, [some (.ref 9), some (.ref st), some (.int (nI (stp v (vT v) - 1))), some (.int (nI (vT v))), none, none, none, none], [.int (nI (stp v (vT v) - 1) + 1)], hX c T)) rfl ?_
    rw [nI_1, show stp v (vT v) - 1 + 1 = stp v (vT v) by omega]
    refine xe_nai hR rfl (by omega) ?_
    have g1 : grw noc T (tN T 20 (stp v (vT v)) (stp v (vT v))) := grw.rf.N 20 _ _
    have a1 : ar (tN T 20 (stp v (vT v)) (stp v (vT v))) (4 * xn T + 3) 20 (stp v (vT v)) := ar_new T 20 _ _
    have n1 : xn (tN T 20 (stp v (vT v)) (stp v (vT v))) = xn T + 1 ∧ xk (tN T 20 (stp v (vT v)) (stp v (vT v))) = xk T + stp v (vT v) := ⟨rfl, rfl⟩
    have z1 : xA (tN T 20 (stp v (vT v)) (stp v (vT v))) (4 * xn T + 3) 0 = 0 := if_pos rfl
    have hnew : ∀ b, old T b → b ≠ 4 * xn T + 3 := fun b q e => by have := q (by omega); omega
    have hb3 : (4 * xn T + 3) % 4 = 3 := by omega
    generalize eb : 4 * xn T + 3 = b at *
    generalize tN T 20 (stp v (vT v)) (stp v (vT v)) = T1 at *
    refine ev_ex 5 (c' := (39, [some (.ref 9), some (.ref st), some (.int (nI (stp v (vT v) - 1))), some (.ref b), some (.int 0), some (.int 0), none, none], [], hX c T1)) rfl ?_
    have i9 : ∀ {a}, a % 4 = 1 → a / 4 < 57 → inb T a := fun h1 h2 => Or.inl ⟨h1, h2⟩
    have keep : ∀ T2, frm (fun y => y = b) T1 T2 → xI T2 9 8 = nI (vT v) ∧ (∀ i, i < vT v → xA T2 41 i = nI (vY v i) ∧ xA T2 45 i = nI (vP v i)) ∧ ar T2 b 20 (stp v (vT v)) := fun T2 f2 => by
      refine ⟨?_, fun i hi => ?_, f2.r a1⟩
      · rw [f2.I (by omega), g1.I (i9 rfl (by decide)) id]; exact e8
      · rw [f2.A (by omega), f2.A (by omega), g1.A (i9 rfl (by decide)) id, g1.A (i9 rfl (by decide)) id]; exact e4 i hi
    suffices H : ∀ (m i : Nat) (T2 : XS) (L6 L7 : Option Value), i + m = vT v → frm (fun y => y = b) T1 T2 → (∀ j, j < stp v i → xA T2 b j = Int32.ofInt (pos dr v j)) → ev (cP c) d m_Cv_wayOf 39 [some (.ref 9), some (.ref st), some (.int (nI (stp v (vT v) - 1))), some (.ref b), some (.int (nI (stp v i - 1))), some (.int (nI i)), L6, L7] [] (hX c T2) (yO c Q) from H (vT v) 0 T1 none none (by omega) frm.rf (fun j hj => by
      have hj : j < 1 := hj
      rw [show j = 0 by omega, z1]
      unfold pos
      rw [whr_0]
      rfl)
    intro m
    induction m with
    | zero =>
      intro i T2 L6 L7 hi f2 b2
      obtain ⟨k8, k4, ka⟩ := keep T2 f2
      have ei : i = vT v := by omega
      rw [ei] at b2 ⊢
      refine ev_ex 2 (c' := (42, [some (.ref 9), some (.ref st), some (.int (nI (stp v (vT v) - 1))), some (.ref b), some (.int (nI (stp v (vT v) - 1))), some (.int (nI (vT v))), L6, L7], [.ref 9, .int (nI (vT v))], hX c T2)) rfl ?_
      refine xe_gf (ci := 7) (k := 8) rfl rfl (ob_lit (i := 2) rfl (by decide) rfl) ⟨by decide, by decide⟩ (v := .int (xI T2 9 8)) rfl ?_
      rw [k8]
      refine ev_icmp_ge (tgt := 111) rfl rfl (fun _ => ?_) (fun z => absurd ((nI_leI (by omega) (by omega)).mpr (Nat.le_refl _)) z)
      refine ev_ex 1 (c' := (112, [some (.ref 9), some (.ref st), some (.int (nI (stp v (vT v) - 1))), some (.ref b), some (.int (nI (stp v (vT v) - 1))), some (.int (nI (vT v))), L6, L7], [.ref b], hX c T2)) rfl ?_
      refine ev_retO (e := some b) rfl rfl (Or.inr ⟨_, rfl⟩) ⟨_, _, rfl, rfl, ?_⟩
      refine hq T2 ⟨g1.fr f2 (fun y hy e => absurd e (hnew y hy)), ⟨by rw [f2.2.1]; exact n1.1, by rw [f2.2.2.1]; exact n1.2⟩, ?_, fun j hj => ?_⟩
      · rw [eb]; exact ka
      · rw [eb]; exact b2 j hj
    | succ m ih =>
      intro i T2 L6 L7 hi f2 b2
      obtain ⟨k8, k4, ka⟩ := keep T2 f2
      obtain ⟨p1, p2, p3⟩ := hP i (by omega)
      have si := stp_1 v i
      have e1 : stp v (i + 1) = stp v i + vP v i := rfl
      have s2 := hle (i + 1) (by omega)
      refine ev_ex 2 (c' := (42, [some (.ref 9), some (.ref st), some (.int (nI (stp v (vT v) - 1))), some (.ref b), some (.int (nI (stp v i - 1))), some (.int (nI i)), L6, L7], [.ref 9, .int (nI i)], hX c T2)) rfl ?_
      refine xe_gf (ci := 7) (k := 8) rfl rfl (ob_lit (i := 2) rfl (by decide) rfl) ⟨by decide, by decide⟩ (v := .int (xI T2 9 8)) rfl ?_
      rw [k8]
      refine ev_icmp_ge (tgt := 111) rfl rfl (fun z => absurd ((nI_leI (by omega) (by omega)).mp z) (by omega)) (fun _ => ?_)
      refine ev_ex 2 (c' := (50, [some (.ref 9), some (.ref st), some (.int (nI (stp v (vT v) - 1))), some (.ref b), some (.int (nI (stp v i - 1))), some (.int (nI i)), L6, L7], [.ref 9, .ref st], hX c T2)) rfl ?_
      refine xe_gf (ci := 7) (k := 4) rfl rfl (ob_lit (i := 2) rfl (by decide) rfl) ⟨by decide, by decide⟩ (v := .ref 41) rfl ?_
      refine ev_ex 1 (c' := (55, [some (.ref 9), some (.ref st), some (.int (nI (stp v (vT v) - 1))), some (.ref b), some (.int (nI (stp v i - 1))), some (.int (nI i)), L6, L7], [.int (nI i), .ref 41, .ref st], hX c T2)) rfl ?_
      refine xe_al rfl (ar_lit (i := 10) rfl (by decide) rfl) (okn (by omega) (by decide)) ?_
      rw [ix_nI (by omega), (k4 i (by omega)).1]
      refine ev_ald (i := .iaload) (ty := .int) (A := (4, .inl F)) rfl (Or.inl rfl) (hs _) (okx_nI (n := 4) (by omega) (by decide)) (v := .int (F (vY v i))) (by rw [nI_clamp (by omega)]; rfl) ?_
      rw [hF _ p1]
      refine ev_ex 3 (c' := (62, [some (.ref 9), some (.ref st), some (.int (nI (stp v (vT v) - 1))), some (.ref b), some (.int (nI (stp v i - 1))), some (.int (nI i)), some (.int (Int32.ofInt (dr (vY v i)))), some (.int 0)], [], hX c T2)) rfl ?_
      suffices H2 : ∀ (m2 p : Nat) (T3 : XS), p + m2 = vP v i → frm (fun y => y = b) T1 T3 → (∀ j, j < stp v i + p → xA T3 b j = Int32.ofInt (pos dr v j)) → ev (cP c) d m_Cv_wayOf 62 [some (.ref 9), some (.ref st), some (.int (nI (stp v (vT v) - 1))), some (.ref b), some (.int (nI (stp v i - 1 + p))), some (.int (nI i)), some (.int (Int32.ofInt (dr (vY v i)))), some (.int (nI p))] [] (hX c T3) (yO c Q) from H2 (vP v i) 0 T2 (by omega) f2 b2
      intro m2
      induction m2 with
      | zero =>
        intro p T3 hp f3 b3
        obtain ⟨l8, l4, la⟩ := keep T3 f3
        refine ev_ex 2 (c' := (65, [some (.ref 9), some (.ref st), some (.int (nI (stp v (vT v) - 1))), some (.ref b), some (.int (nI (stp v i - 1 + p))), some (.int (nI i)), some (.int (Int32.ofInt (dr (vY v i)))), some (.int (nI p))], [.ref 9, .int (nI p)], hX c T3)) rfl ?_
        refine xe_gf (ci := 7) (k := 5) rfl rfl (ob_lit (i := 2) rfl (by decide) rfl) ⟨by decide, by decide⟩ (v := .ref 45) rfl ?_
        refine ev_ex 1 (c' := (70, [some (.ref 9), some (.ref st), some (.int (nI (stp v (vT v) - 1))), some (.ref b), some (.int (nI (stp v i - 1 + p))), some (.int (nI i)), some (.int (Int32.ofInt (dr (vY v i)))), some (.int (nI p))], [.int (nI i), .ref 45, .int (nI p)], hX c T3)) rfl ?_
        refine xe_al rfl (ar_lit (i := 11) rfl (by decide) rfl) (okn (by omega) (by decide)) ?_
        rw [ix_nI (by omega), (l4 i (by omega)).2]
        refine ev_icmp_ge (tgt := 105) rfl rfl (fun _ => ?_) (fun z => absurd ((nI_leI (by omega) (by omega)).mpr (by omega)) z)
        refine ev_ex 2 (c' := (39, [some (.ref 9), some (.ref st), some (.int (nI (stp v (vT v) - 1))), some (.ref b), some (.int (nI (stp v i - 1 + p))), some (.int (nI i + 1)), some (.int (Int32.ofInt (dr (vY v i)))), some (.int (nI p))], [], hX c T3)) rfl ?_
        rw [nI_1, show stp v i - 1 + p = stp v (i + 1) - 1 by omega]
        exact ih (i + 1) T3 _ _ (by omega) f3 (fun j hj => b3 j (by omega))
      | succ m2 ih2 =>
        intro p T3 hp f3 b3
        obtain ⟨l8, l4, la⟩ := keep T3 f3
        refine ev_ex 2 (c' := (65, [some (.ref 9), some (.ref st), some (.int (nI (stp v (vT v) - 1))), some (.ref b), some (.int (nI (stp v i - 1 + p))), some (.int (nI i)), some (.int (Int32.ofInt (dr (vY v i)))), some (.int (nI p))], [.ref 9, .int (nI p)], hX c T3)) rfl ?_
        refine xe_gf (ci := 7) (k := 5) rfl rfl (ob_lit (i := 2) rfl (by decide) rfl) ⟨by decide, by decide⟩ (v := .ref 45) rfl ?_
        refine ev_ex 1 (c' := (70, [some (.ref 9), some (.ref st), some (.int (nI (stp v (vT v) - 1))), some (.ref b), some (.int (nI (stp v i - 1 + p))), some (.int (nI i)), some (.int (Int32.ofInt (dr (vY v i)))), some (.int (nI p))], [.int (nI i), .ref 45, .int (nI p)], hX c T3)) rfl ?_
        refine xe_al rfl (ar_lit (i := 11) rfl (by decide) rfl) (okn (by omega) (by decide)) ?_
        rw [ix_nI (by omega), (l4 i (by omega)).2]
        refine ev_icmp_ge (tgt := 105) rfl rfl (fun z => absurd ((nI_leI (by omega) (by omega)).mp z) (by omega)) (fun _ => ?_)
        refine ev_ex 4 (c' := (79, [some (.ref 9), some (.ref st), some (.int (nI (stp v (vT v) - 1))), some (.ref b), some (.int (nI (stp v i - 1 + p))), some (.int (nI i)), some (.int (Int32.ofInt (dr (vY v i)))), some (.int (nI p))], [.ref b, .int (nI (stp v i - 1 + p) + 1)], hX c T3)) rfl ?_
        refine xe_len rfl la (Or.inl rfl) ?_
        rw [nI_1]
        refine ev_icmp_ge (tgt := 105) rfl rfl (fun z => absurd ((nI_leI (by omega) (by omega)).mp z) (by omega)) (fun _ => ?_)
        refine ev_ex 6 (c' := (91, [some (.ref 9), some (.ref st), some (.int (nI (stp v (vT v) - 1))), some (.ref b), some (.int (nI (stp v i - 1 + p))), some (.int (nI i)), some (.int (Int32.ofInt (dr (vY v i)))), some (.int (nI p))], [.int (nI (stp v i - 1 + p)), .ref b, .int (nI (stp v i - 1 + p) + 1), .ref b], hX c T3)) rfl ?_
        refine xe_al rfl la (okn (by omega) (by omega)) ?_
        rw [ix_nI (by omega), b3 _ (by omega), nI_1]
        refine ev_ex 2 (c' := (95, [some (.ref 9), some (.ref st), some (.int (nI (stp v (vT v) - 1))), some (.ref b), some (.int (nI (stp v i - 1 + p))), some (.int (nI i)), some (.int (Int32.ofInt (dr (vY v i)))), some (.int (nI p))], [.int (Int32.ofInt (pos dr v (stp v i - 1 + p)) + Int32.ofInt (dr (vY v i))), .int (nI (stp v i - 1 + p + 1)), .ref b], hX c T3)) rfl ?_
        refine xe_as rfl la (okn (by omega) (by omega)) ?_
        rw [ix_nI (by omega), ← Int32.ofInt_add, show pos dr v (stp v i - 1 + p) + dr (vY v i) = pos dr v (stp v i - 1 + (p + 1)) from by
          rw [pos_at dr v (by omega) (by omega), pos_at dr v (by omega) (by omega), show ((p + 1 : Nat) : Int) = (p : Int) + 1 from rfl, Int.mul_add, Int.mul_one]; omega]
        refine ev_ex 3 (c' := (62, [some (.ref 9), some (.ref st), some (.int (nI (stp v (vT v) - 1))), some (.ref b), some (.int (nI (stp v i - 1 + p) + 1)), some (.int (nI i)), some (.int (Int32.ofInt (dr (vY v i)))), some (.int (nI p + 1))], [], hX c (tA T3 b (stp v i - 1 + p + 1) (Int32.ofInt (pos dr v (stp v i - 1 + (p + 1))))))) rfl ?_
        rw [nI_1, nI_1]
        refine ih2 (p + 1) _ (by omega) (f3.tr (frm_A (S := fun y => y = b) rfl _ _)) (fun j hj => ?_)
        rw [xA_A, if_pos rfl]
        show (if _ = _ then _ else _) = _
        by_cases z : j = stp v i - 1 + p + 1
        · rw [if_pos z, z]; rfl
        · rw [if_neg z]; exact b3 j (by omega)
end XW1
