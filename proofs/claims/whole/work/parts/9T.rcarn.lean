/-! a carnival told to the reference -/
section RC1
variable {c : CX} {d n h G g : Nat} {f : Nat → Nat} {s s' s1 : RS} {t : TV} {r : (Nat × TV) ⊕ (Nat × Nat)} {k : Nat → Int32} {A : AB}
/-- only what is told changes -/
def TNO (s s' : RS) : Prop := s'.1 = s.1 ∧ (∀ i, i ≠ 2 → s'.2.1 i = s.2.1 i) ∧ s'.2.2 = s.2.2
theorem TNO.tel (h : TNO s s') (j : Nat) (x : Int32) : TNO s (rA s' 2 j x) := ⟨h.1, fun i q => (if_neg q).trans (h.2.1 i q), h.2.2⟩
theorem rA_2 (s : RS) (j : Nat) (x : Int32) : (rA s 2 j x).2.1 2 = upd (s.2.1 2) j x := rfl
theorem s_tells {Q : RS → Prop} (hq : ∀ s', TNO s s' → TLR (s'.2.1 2) 0 tv0 → Q s') : RV c d m_R_tellsNothing [.ref 10] s Q := by
  have ph2 : ∀ (m i : Nat) (s1 : RS), i + m = 10 → TNO s s1 → (∀ x, x < 2101 → s1.2.1 2 x = if 6 ≤ x ∧ x < 6 + i then -1 else if 27 ≤ x ∧ x < 27 + i then 1 else 0) → eR c d m_R_tellsNothing 21 [some (.ref 10), some (.int (nI i))] s1 (pV c Q) := by
    intro m
    induction m with
    | zero =>
      intro i s1 hi tn hx
      refine w_R_tellsNothing_10_21 _ ⟨fun _ => hq s1 tn ?_, fun z => absurd ((nI_leI (a := 10) (by decide) (by omega)).mpr (by omega)) z⟩
      have e0 : ∀ x, x < 2101 → ¬ (6 ≤ x ∧ x < 16) → ¬ (27 ≤ x ∧ x < 37) → s1.2.1 2 x = 0 := fun x h1 h2 h3 => by rw [hx x h1, if_neg (by omega), if_neg (by omega)]
      refine ⟨⟨e0 0 (by omega) (by omega) (by omega), e0 1 (by omega) (by omega) (by omega), e0 2 (by omega) (by omega) (by omega), e0 3 (by omega) (by omega) (by omega), e0 4 (by omega) (by omega) (by omega), e0 5 (by omega) (by omega) (by omega), e0 26 (by omega) (by omega) (by omega)⟩, fun g hg => ?_, fun j g hj hg => ?_, fun i hi => absurd hi (Nat.not_lt_zero i), fun i hi => absurd hi (Nat.not_lt_zero i), fun i hi => absurd hi (Nat.not_lt_zero i)⟩
      · rw [hx _ (by omega), if_pos (by omega)]; rfl
      · show _ = nI (ffs j)
        rcases off_v j hj with ⟨rfl, e⟩ | ⟨rfl, e⟩ | ⟨rfl, e⟩ | ⟨rfl, e⟩ | ⟨rfl, e⟩
        · rw [e, e0 _ (by omega) (by omega) (by omega)]; rfl
        · rw [e, hx _ (by omega), if_neg (by omega), if_pos (by omega)]; rfl
        · rw [e, e0 _ (by omega) (by omega) (by omega)]; rfl
        · rw [e, e0 _ (by omega) (by omega) (by omega)]; rfl
        · rw [e, e0 _ (by omega) (by omega) (by omega)]; rfl
    | succ m ih =>
      intro i s1 hi tn hx
      refine w_R_tellsNothing_10_21 _ ⟨fun z => absurd ((nI_leI (a := 10) (by decide) (by omega)).mp z) (by omega), fun _ => ⟨okA 6 (by omega) (by decide), w_R_tellsNothing_10_34 _ ⟨okA 27 (by omega) (by decide), ?_⟩⟩⟩
      rw [show ix (6 + nI i) = 6 + i from ixA 6 (by omega), show ix (27 + nI i) = 27 + i from ixA 27 (by omega), nI_1]
      refine ih (i + 1) _ (by omega) ((tn.tel _ _).tel _ _) (fun x h1 => ?_)
      rw [rA_2, rA_2]
      by_cases z : x = 27 + i
      · rw [z, upd_at, if_neg (by omega), if_pos (by omega)]
      · rw [upd_ne _ _ z]
        by_cases y : x = 6 + i
        · rw [y, upd_at, if_pos (by omega)]
        · rw [upd_ne _ _ y, hx x h1]
          exact ite_congr (propext (by omega)) (fun _ => rfl) (fun _ => ite_congr (propext (by omega)) (fun _ => rfl) (fun _ => rfl))
  refine w_R_tellsNothing_10 ?_
  suffices H : ∀ (m i : Nat) (s1 : RS), i + m = 2101 → TNO s s1 → (∀ x, x < i → s1.2.1 2 x = 0) → eR c d m_R_tellsNothing 2 [some (.ref 10), some (.int (nI i))] s1 (pV c Q) from H 2101 0 s (by omega) ⟨rfl, fun _ _ => rfl, rfl⟩ (fun x hx => absurd hx (Nat.not_lt_zero x))
  intro m
  induction m with
  | zero =>
    intro i s1 hi tn hx
    refine w_R_tellsNothing_10_2 _ ⟨fun _ => ph2 10 0 s1 (by omega) tn (fun x h1 => ?_), fun z => absurd ((nI_leI (a := 2101) (by decide) (by omega)).mpr (by omega)) z⟩
    rw [if_neg (by omega), if_neg (by omega)]
    exact hx x (by omega)
  | succ m ih =>
    intro i s1 hi tn hx
    refine w_R_tellsNothing_10_2 _ ⟨fun z => absurd ((nI_leI (a := 2101) (by decide) (by omega)).mp z) (by omega), fun _ => ⟨okn (by omega) (by decide), ?_⟩⟩
    rw [ix_nI (by omega), nI_1]
    refine ih (i + 1) _ (by omega) (tn.tel _ _) (fun x h1 => ?_)
    rw [rA_2]
    by_cases z : x = i
    · rw [z, upd_at]
    · rw [upd_ne _ _ z]; exact hx x (by omega)
theorem r_carn_lp {Q : Int32 → RS → Prop} (hf : fvok c) (h9 : n ≤ 900) : ∀ (F h : Nat) (t : TV) (r : (Nat × TV) ⊕ (Nat × Nat)), carnP f n F h t = some r → ∀ s, RST s f n h (vG t.1) t → TOK t → vL t.1 ≤ h →
    (∀ h' t', r = .inl (h', t') → TOK t' → ∀ s', RFR s s' → TLR (s'.2.1 2) (vG t'.1) t' → eR c (d + 63) m_R_carnival 126 [some (.ref 2), some (.int (nI n)), some (.int 0)] (rF (rF s' 14 0) 15 (-1)) (pI c Q)) →
    (∀ k p, r = .inr (k, p) → ∀ s', FLT s s' k p → Q (-10 - nI k) (rF (rF s' 14 (nI k)) 15 (nI p))) → eR c (d + 63) m_R_carnival 61 [some (.ref 2), some (.int (nI n)), none] s (pI c Q)
  | 0, _, _, _, e => by rw [carnP] at e; cases e
  | F + 1, h, t, r, e => by
    intro s q tok hL ok bad
    have hn := q.1.2.1
    rw [carnP] at e
    refine w_R_carnival_61 _ ⟨fun y => absurd q.2.1 y, fun _ => ?_⟩
    rw [q.1.2.2.2.2.1, show (rtk (kd f n h) = (0 : Int32)) = (kd f n h = 37) from propext (rtk_is _ (kd_40 _ _ _)).1]
    refine ⟨fun z => ⟨fun y => absurd q.2.1 y, fun _ => ⟨fun _ => ?_, fun y => absurd q.2.1 y⟩⟩, fun z => ?_⟩
    · rw [if_pos z] at e
      rw [q.2.1]
      exact ok h t (Option.some.inj e).symm tok s RFR.rf q.2.2.2
    · rw [if_neg z] at e
      match e1 : lineP f n h t with
      | none => exact absurd e1 (lineP_none hn)
      | some rr =>
        rw [e1] at e
        refine r_line (d := d) hf q tok h9 e1 (fun h' t' er s1 r1 q1 => ?_) (fun k p er s1 fl => ?_)
        · subst er
          obtain ⟨w1, w2, w3, w4⟩ := lineP_ok hn h9 tok e1
          exact r_carn_lp hf h9 F h' _ r e s1 q1 (TOK_L w3 (by omega)) (by show vL t'.1 + 1 ≤ h'; omega) (fun h2 t2 er tk s2 r2 tl => ok h2 t2 er tk s2 (r1.tr r2) tl) (fun k p er s2 fl => bad k p er s2 (FLT.af r1 fl))
        · subst er
          have b := bad k p (Option.some.inj e).symm s1 fl
          refine w_R_carnival_61 _ ⟨fun _ => ⟨fun _ => ⟨fun y => absurd y fl.ne, fun _ => ?_⟩, fun y => absurd y fl.ne⟩, fun y => absurd y fl.ne⟩
          rw [fl.2.1, fl.2.2.1]
          exact b
theorem TLR.kf (q : TLR k (vG t.1) t) (tok : TOK t) : KF k t.1 (sdT t) [] := by
  obtain ⟨⟨q0, q1, q2, q3, q4, q5, q6⟩, w, fl, st, m, a⟩ := q
  have hG : vG t.1 ≤ 10 := tok.1.1
  refine ⟨⟨⟨q0, q1, q2, q3, q4, fun g hg => ⟨fl 1 g (by decide) (by omega), fl 2 g (by decide) (by omega), fl 3 g (by decide) (by omega), fl 4 g (by decide) (by omega)⟩, st, m, a⟩, ⟨w, fun g hg => ?_, q6⟩, tok.1, tok.sok⟩, q5, by decide, fun i a e => (by cases e)⟩
  have := fl 0 g (by decide) hg
  rw [show 6 + 10 + g = off 0 + g by show 6 + 10 + g = 16 + g; omega, this]
  show _ = nI (if g < vG t.1 then vF t.1 0 g else 0)
  split
  · rfl
  · rw [tok.2.2.2 0 g (by omega)]; rfl
theorem r_carnival {Q : Int32 → RS → Prop} (hf : fvok c) (h : RINV s A) {a0 : Int32} (thr : ¬ (0 ≤ a0.toInt ∧ a0.toInt ≤ A.1.1) → Q 0 (rF (rF s 4 0) 4 1)) (ok : ∀ m, a0 = nI m → m ≤ A.1.1 → (∀ h' t, tld A m = some (.inl (h', t)) → ∀ s', s'.1 4 = 0 → RINV s' (aOk A t) → Q (nI (vL t.1)) s') ∧ ∀ k p, tld A m = some (.inr (k, p)) → ∀ s', s'.1 4 = 0 → RINV s' (aBad A k p) → Q (-10 - nI k) s') : RI c (d + 63) m_R_carnival [.ref 2, .int a0] s Q := by
  obtain ⟨⟨h1, h2, h3⟩, h4, h5, h6, h7⟩ := id h
  refine w_R_carnival _ ?_
  rw [wth_c.1, wth_c.2, h1, show (nI A.1.1).toInt64.toInt = (A.1.1 : Int) from by rw [Int32.toInt_toInt64, nI_toInt (by omega)], show (0 : Int64).toInt = 0 from rfl]
  refine ⟨fun z => ?_, thr⟩
  have eg : a0 = nI a0.toInt.toNat := nI_of_toInt (by omega)
  have hm : a0.toInt.toNat ≤ A.1.1 := by omega
  have ok := ok _ eg hm
  generalize a0.toInt.toNat = m at *
  rw [eg]
  have b6 : (rF (rF (rF (rF (rF (rF s 4 0) 7 (nI m)) 6 0) 8 0) 12 0) 16 0).1 6 = 0 := rfl
  have b4 : (rF (rF (rF (rF (rF (rF s 4 0) 7 (nI m)) 6 0) 8 0) 12 0) 16 0).1 4 = 0 := rfl
  have b7 : (rF (rF (rF (rF (rF (rF s 4 0) 7 (nI m)) 6 0) 8 0) 12 0) 16 0).1 7 = nI m := rfl
  have b8 : (rF (rF (rF (rF (rF (rF s 4 0) 7 (nI m)) 6 0) 8 0) 12 0) 16 0).1 8 = nI 0 := rfl
  have b12 : (rF (rF (rF (rF (rF (rF s 4 0) 7 (nI m)) 6 0) 8 0) 12 0) 16 0).1 12 = 0 := rfl
  have b16 : (rF (rF (rF (rF (rF (rF s 4 0) 7 (nI m)) 6 0) 8 0) 12 0) 16 0).1 16 = 0 := rfl
  have ba : (rF (rF (rF (rF (rF (rF s 4 0) 7 (nI m)) 6 0) 8 0) 12 0) 16 0).2 = s.2 := rfl
  generalize rF (rF (rF (rF (rF (rF s 4 0) 7 (nI m)) 6 0) 8 0) 12 0) 16 0 = s0 at *
  have keep : ∀ s2, RFR s0 s2 → (s2.1 4 = 0 ∧ s2.1 6 = 0) ∧ IMR s2 A.2.2.2.1 ∧ TRR s2 A.2.2.2.2 ∧ s2.2.1 1 = s.2.1 1 := fun s2 r2 => by
    refine ⟨⟨by rw [r2.1 4 (by decide)]; exact b4, by rw [r2.1 6 (by decide)]; exact b6⟩, h6.eq ?_ ?_, h7.eq ?_ ?_ ?_, ?_⟩
    · rw [r2.2.1 4 (by decide), ba]
    · rw [r2.2.1 3 (by decide), ba]
    · rw [r2.2.1 15 (by decide), ba]
    · rw [r2.2.1 16 (by decide), ba]
    · rw [r2.2.2, ba]
    · rw [r2.2.1 1 (by decide), ba]
  refine s_tells (fun s1 tn tl => ?_)
  have tr : RFR s0 s1 := ⟨fun k _ => by rw [tn.1], tn.2.1, tn.2.2⟩
  have rx : RTX s1 A.1.2 m := ⟨by rw [tn.1]; exact b7, by omega, fun j hj => by rw [tn.2.1 5 (by decide), ba]; exact h3 j (by omega)⟩
  refine s_readsOn (d := d + 61) rx (h := 0) (by rw [tn.1]; exact b8) (Nat.zero_le _) (fun s2 m2 tk2 => ?_)
  have q2 : RST s2 A.1.2 m 0 (vG tv0.1) tv0 := by
    refine ⟨tk2, ?_, ?_, by rw [m2.2]; exact tl⟩
    · rw [m2.1 12 (by decide) (by decide) (by decide) (by decide), tn.1]; exact b12
    · rw [m2.1 16 (by decide) (by decide) (by decide) (by decide), tn.1]; exact b16
  have r2 := tr.tr m2.fr
  match e : carnP A.1.2 m (m + 1) 0 tv0 with
  | none => exact absurd e (carnP_none _ _ _ (Nat.zero_le _) (by omega) TOK_0 (Nat.le_refl _) (by omega))
  | some r =>
    refine r_carn_lp (d := d) hf (by omega) (m + 1) 0 tv0 r e s2 q2 TOK_0 (Nat.le_refl _) (fun h' t' er tok' s3 r3 tl3 => ?_) (fun k p er s3 fl => ?_)
    · obtain ⟨⟨k4, k6⟩, ki, kt, k1⟩ := keep s3 (r2.tr r3)
      have okk := ok.1 h' t' (by unfold tld; rw [e, er])
      suffices H : ∀ (m2 i : Nat) (s4 : RS), i + m2 = 2101 → s4.1 = (rF (rF s3 14 0) 15 (-1)).1 → (∀ j, j ≠ 1 → s4.2.1 j = s3.2.1 j) → s4.2.2 = s3.2.2 → (∀ x, x < i → s4.2.1 1 x = s3.2.1 2 x) → eR c (d + 63) m_R_carnival 126 [some (.ref 2), some (.int (nI m)), some (.int (nI i))] s4 (pI c Q) from H 2101 0 _ (by omega) rfl (fun _ _ => rfl) rfl (fun x hx => absurd hx (Nat.not_lt_zero x))
      intro m2
      induction m2 with
      | zero =>
        intro i s4 hi a1 a2 a3 a4
        refine w_R_carnival_126 _ _ ⟨fun _ => ⟨okn (k := 0) (by decide) (by decide), ?_⟩, fun z => absurd ((nI_leI (a := 2101) (by decide) (by omega)).mpr (by omega)) z⟩
        have kf : KF (s4.2.1 1) t'.1 (sdT t') [] := (tl3.kf tok').cong (fun x hx => a4 x (by omega))
        rw [show s4.2.1 1 (ix 0) = nI (vL t'.1) from (a4 0 (by omega)).trans tl3.1.1]
        refine okk s4 (by rw [a1]; exact k4) ⟨⟨by rw [a1]; exact k6, Nat.zero_le _, fun j hj => absurd hj (Nat.not_lt_zero j)⟩, ⟨by rw [a1]; rfl, by rw [a1]; rfl⟩, kf, ki.eq (a2 4 (by decide)) (a2 3 (by decide)), kt.eq (a2 15 (by decide)) (a2 16 (by decide)) (by rw [a3])⟩
      | succ m2 ih =>
        intro i s4 hi a1 a2 a3 a4
        refine w_R_carnival_126 _ _ ⟨fun z => absurd ((nI_leI (a := 2101) (by decide) (by omega)).mp z) (by omega), fun _ => ⟨okn (by omega) (by decide), okn (by omega) (by decide), ?_⟩⟩
        rw [ix_nI (by omega), nI_1]
        refine ih (i + 1) _ (by omega) a1 (fun j hj => (if_neg hj).trans (a2 j hj)) a3 (fun x hx => ?_)
        show upd (s4.2.1 1) i (s4.2.1 2 i) x = _
        by_cases z : x = i
        · rw [z, upd_at, a2 2 (by decide)]
        · rw [upd_ne _ _ z]; exact a4 x (by omega)
    · obtain ⟨⟨k4, k6⟩, ki, kt, k1⟩ := keep s3 (r2.tr fl.1)
      refine ok.2 k p (by unfold tld; rw [e, er]) _ k4 ⟨⟨k6, Nat.zero_le _, fun j hj => absurd hj (Nat.not_lt_zero j)⟩, ⟨rfl, rfl⟩, ?_, ki, kt⟩
      show KF (s3.2.1 1) _ _ _
      rw [k1]; exact h5
end RC1
