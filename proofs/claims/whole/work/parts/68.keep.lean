/-! a standing kept -/
def updQ (q : Nat → Option Nat) (i : Nat) (x : Option Nat) : Nat → Option Nat := fun j => if j = i then x else q j
section KP1
variable {c : CX} {d : Nat} {T T' : XS} {a b f ca : Nat} {v : CV} {sd : SD}
theorem xQ_tQ (T : XS) (a j : Nat) (x : Option Nat) (b k : Nat) : xQ (tQ T a j x) b k = if b = a then (if k = j then x else xQ T a k) else xQ T b k := by
  show (if b = a then _ else xQ T b) k = _
  split <;> rfl
/-- what keeping one leaves -/
def KPT (T : XS) (f i b' : Nat) (T' : XS) : Prop := (xQ T (fP f) i = some b' ∧ frm (sdC b') T T') ∨ (xQ T (fP f) i = none ∧ ¬ old T b' ∧ b' % 4 = 3 ∧ grw (fun x => x = fP f) T T' ∧ xQ T' (fP f) = updQ (xQ T (fP f)) i (some b') ∧ (∀ k, xI T' (fP f) k = xI T (fP f) k))
theorem sdf_sd {S : Nat → Prop} (h : grw S T T') (hn : xn T' = xn T + 4) (s : SdS T' (4 * xn T + 3)) (q : SDF T) : SDF T' := q.gr h (fun a h3 w1 w2 k => by
  obtain ⟨u1, u2, u3⟩ := sW_3 (show (4 * xn T + 3) % 4 = 3 by omega)
  rw [hn] at w2 ⊢
  by_cases z : a = 4 * xn T + 3
  · omega
  by_cases z : a = 4 * xn T + 3 + 4
  · rw [show a = sW (4 * xn T + 3) by omega, s.aw.2] at k; cases k
  by_cases z : a = 4 * xn T + 3 + 8
  · rw [show a = sM (4 * xn T + 3) by omega, s.am.2] at k; cases k
  · rw [show a = sR (4 * xn T + 3) by omega, s.ak.2] at k; cases k)
theorem fP_inb (h : FrS T f) : inb T (fP f) := h.ap.1
set_option maxRecDepth 8000 in
theorem x_keep {Q : XS → Prop} (hR : RL c) (hF : FrS T f) {b0 i : Nat} (h : STD T b0 ca sd) (hi : i < 10) (hold : ∀ b, xQ T (fP f) i = some b → SdS T b ∧ oks b ∧ b0 ≠ b) (hq : ∀ T' b', KPT T f i b' T' → gw 4 35 T T' → xQ T' (fP f) i = some b' → STD T' b' ca sd → Q T') : XV c (d + 2) m_Fr_keep [.ref f, .int (nI i), .ref b0] T Q := by
  refine ⟨q_Fr_keep, rfl, Nat.le_of_ble_eq_true rfl, ?_⟩
  refine ev_ex 1 (c' := (1, [some (.ref f), some (.int (nI i)), some (.ref b0), none], [.int (nI i)], hX c T)) rfl ?_
  refine ev_if_lt (tgt := 14) rfl rfl (fun z => absurd ((nI_ltI (b := 0) (by omega) (by decide)).mp z) (by omega)) (fun _ => ?_)
  refine ev_ex 2 (c' := (7, [some (.ref f), some (.int (nI i)), some (.ref b0), none], [.int 10, .int (nI i)], hX c T)) rfl ?_
  refine ev_icmp_ge (tgt := 14) rfl rfl (fun z => absurd ((nI_leI (a := 10) (by decide) (by omega)).mp z) (by omega)) (fun _ => ?_)
  refine ev_ex 1 (c' := (11, [some (.ref f), some (.int (nI i)), some (.ref b0), none], [.ref b0], hX c T)) rfl ?_
  refine xe_nnl (e := some b0) (tgt := 15) rfl rfl (fun _ _ => ?_) (fun z => by cases z)
  refine ev_ex 1 (c' := (16, [some (.ref f), some (.int (nI i)), some (.ref b0), none], [.ref f], hX c T)) rfl ?_
  refine xe_gfr (ci := 4) (k := 1) rfl rfl hF.1 ⟨by decide, by decide⟩ rfl hF.fp ?_
  refine ev_ex 1 (c' := (20, [some (.ref f), some (.int (nI i)), some (.ref b0), none], [.int (nI i), .ref (fP f)], hX c T)) rfl ?_
  refine xe_ql rfl hF.ap (by decide) (okn hi (by decide)) ?_
  refine xe_aso (e := xQ T (fP f) (ix (nI i))) rfl (Nat.le_of_ble_eq_true rfl) ?_
  refine ev_ex 0 (c' := (22, [some (.ref f), some (.int (nI i)), some (.ref b0), some (va_rf (xQ T (fP f) (ix (nI i))))], [], hX c T)) rfl ?_
  refine xe_alo (e := xQ T (fP f) (ix (nI i))) rfl rfl ?_
  rw [ix_nI (by omega)]
  refine xe_nnl (e := xQ T (fP f) i) (tgt := 45) rfl rfl (fun b hb => ?_) (fun hb => ?_)
  · rw [hb]
    obtain ⟨s1, s2, s3⟩ := hold b hb
    refine ev_ex 2 (c' := (47, [some (.ref f), some (.int (nI i)), some (.ref b0), some (.ref b)], [.ref b0, .ref b], hX c T)) rfl ?_
    refine xc_V (idx := 42) rfl rfl rfl (Nat.le_of_ble_eq_true rfl) (Nat.le_of_ble_eq_true rfl) (x_rcv (T := T) s1.1 ⟨by decide, by decide⟩ _ _) (x_copyFrom (d := d + 1) h s1 s2 s3 (fun T2 hf hs => (⟨hf, hs⟩ : (fun T2 => frm (sdC b) T T2 ∧ STD T2 b ca sd) T2))) (fun T2 H => ?_)
    refine ev_ret rfl rfl rfl ⟨_, rfl, rfl, hq T2 b (Or.inl ⟨hb, H.1⟩) (H.1.gw _ _) ?_ H.2⟩
    rw [H.1.Q (fun e => ?_)]
    · exact hb
    · have n1 := hF.ap.2
      rcases e with e | e | e | e
      · rw [e] at n1; have := s1.1.2; rw [n1] at this; cases this
      · rw [e, s1.aw.2] at n1; cases n1
      · rw [e, s1.am.2] at n1; cases n1
      · rw [e, s1.ak.2] at n1; cases n1
  · rw [hb]
    refine ev_ex 0 (c' := (26, [some (.ref f), some (.int (nI i)), some (.ref b0), some (.null)], [], hX c T)) rfl ?_
    refine xe_new (ci := 9) (nf := 5) hR rfl rfl ⟨by decide, by decide⟩ ?_
    have gN : grw noc T (tN T 9 0 5) := grw.rf.N 9 0 5
    refine ev_ex 2 (c' := (31, [some (.ref f), some (.int (nI i)), some (.ref b0), some (.null)], [.ref b0, .ref (4 * xn T + 3), .ref (4 * xn T + 3)], hX c (tN T 9 0 5))) rfl ?_
    refine xe_gfr (ci := 9) (k := 0) (b := ca) rfl rfl (gN.o h.1.1) ⟨by decide, by decide⟩ rfl (by rw [gN.fx h.1.1.1 (Or.inr id)]; exact h.2.2.1) ?_
    refine xc_V (idx := 17) rfl rfl rfl (Nat.le_of_ble_eq_true rfl) (Nat.le_of_ble_eq_true rfl) rfl (x_Sd_init (d := d) hR (fun T1 a1 a2 a3 a4 => (⟨a1, a2, a3, a4⟩ : (fun T1 => grw noc T T1 ∧ (xn T1 = xn T + 4 ∧ xk T1 = xk T + 35) ∧ SdS T1 (4 * xn T + 3) ∧ frx T1 (4 * xn T + 3) 0 = some ca) T1))) (fun T1 H => ?_)
    obtain ⟨g1, n1, s1, f1⟩ := H
    have sg := sdf_sd g1 n1.1 s1
    have hnew : ¬ old T (4 * xn T + 3) := fun q => by have := q (by omega); omega
    have h3 : (4 * xn T + 3) % 4 = 3 := by omega
    generalize eb : 4 * xn T + 3 = b at *
    have hp3 : old T (fP f) := hF.ap.1.ol
    have hf1 : frx T1 f 1 = some (fP f) := by rw [g1.fxo hF.1 (by decide) (Or.inl (by decide))]; exact hF.fp
    refine ev_ex 2 (c' := (39, [some (.ref f), some (.int (nI i)), some (.ref b0), some (.ref b)], [.ref f], hX c T1)) rfl ?_
    refine xe_gfr (ci := 4) (k := 1) rfl rfl (g1.o hF.1) ⟨by decide, by decide⟩ rfl hf1 ?_
    refine ev_ex 2 (c' := (44, [some (.ref f), some (.int (nI i)), some (.ref b0), some (.ref b)], [.ref b, .int (nI i), .ref (fP f)], hX c T1)) rfl ?_
    refine xe_qs (kd := 23) rfl (g1.r hF.ap) (by decide) (okn hi (by decide)) s1.1 ?_
    rw [ix_nI (by omega)]
    refine ev_ex 2 (c' := (47, [some (.ref f), some (.int (nI i)), some (.ref b0), some (.ref b)], [.ref b0, .ref b], hX c (tQ T1 (fP f) i (some b)))) rfl ?_
    have fq : frm (fun x => x = fP f) T1 (tQ T1 (fP f) i (some b)) := frm_Q (S := fun x => x = fP f) (a := fP f) rfl _ _
    have g2 : grw (fun x => x = fP f) T (tQ T1 (fP f) i (some b)) := (g1.mono (fun _ q => q.elim)).tr fq.grw
    have s2 : SdS (tQ T1 (fP f) i (some b)) b := fq.sds s1
    have sep : ∀ x, SdS T x → sdC x (fP f) → False := fun x hx e => by
      have m1 := hF.ap.2
      rcases e with e | e | e | e
      · rw [e] at m1; have := hx.1.2; rw [m1] at this; cases this
      · rw [e, hx.aw.2] at m1; cases m1
      · rw [e, hx.am.2] at m1; cases m1
      · rw [e, hx.ak.2] at m1; cases m1
    have h2 : STD (tQ T1 (fP f) i (some b)) b0 ca sd := g2.std h (fun e => sep b0 h.1 (Or.inl e.symm)) (fun e => sep b0 h.1 (Or.inr (Or.inl e.symm))) (fun e => sep b0 h.1 (Or.inr (Or.inr (Or.inl e.symm)))) (fun e => sep b0 h.1 (Or.inr (Or.inr (Or.inr e.symm))))
    have hnb : ∀ x, old T x → ¬ sdC b x := fun x hx e => by
      obtain ⟨u1, u2, u3⟩ := sW_3 h3
      have : x % 4 = 3 → x / 4 < xn T := hx
      unfold sdC at e
      omega
    refine xc_V (idx := 42) rfl rfl rfl (Nat.le_of_ble_eq_true rfl) (Nat.le_of_ble_eq_true rfl) (x_rcv (T := tQ T1 (fP f) i (some b)) s2.1 ⟨by decide, by decide⟩ _ _) (x_copyFrom (d := d + 1) h2 s2 (Or.inr (Or.inr h3)) (fun e => hnew (by rw [← e]; exact h.1.1.1.ol)) (fun T3 hf hs => (⟨hf, hs⟩ : (fun T3 => frm (sdC b) (tQ T1 (fP f) i (some b)) T3 ∧ STD T3 b ca sd) T3))) (fun T3 H => ?_)
    have eQ : xQ T3 (fP f) = updQ (xQ T (fP f)) i (some b) := by
      rw [H.1.Q (hnb _ hp3)]
      funext j
      rw [xQ_tQ, if_pos rfl, g1.Q hF.ap.1 id]
      rfl
    refine ev_ret rfl rfl rfl ⟨_, rfl, rfl, hq T3 b (Or.inr ⟨hb, hnew, h3, g2.fr H.1 (fun x hx e => absurd e (hnb x hx)), eQ, fun k => ?_⟩) (gw.fr (gw.fr (S := fun x => x = fP f) ⟨by omega, by omega, sg⟩ fq) H.1) ?_ H.2⟩
    · rw [H.1.I (hnb _ hp3)]
      exact g1.I hF.ap.1 id k
    · rw [eQ]
      exact if_pos rfl
end KP1
