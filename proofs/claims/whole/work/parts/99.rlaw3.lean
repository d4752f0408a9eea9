/-! a law read by the reference: whole -/
section RQ3
variable {c : CX} {f : Nat → Nat} {n mm at' : Nat}
theorem RV.mn {d m : Nat} {as : List Value} {s : RS} {Q Q' : RS → Prop} (h : RV c d m as s Q) (hq : ∀ s', Q s' → Q' s') : RV c d m as s Q' := cal_mono h (fun r σ ⟨s', a, b, q⟩ => ⟨s', a, b, hq s' q⟩)
theorem s_lawWord {Q : Int32 → RS → Prop} {d h : Nat} {s : RS} (hf : fvok c) (q : RTK s f n h) (h0 : s.1 12 = 0) (yes : ∀ k, k < 8 → kd f n h = 17 + k → ∀ s', RMV s s' → RTK s' f n (nx f n h) → Q (nI k) s') (no : ¬ (17 ≤ kd f n h ∧ kd f n h ≤ 24) → Q (-1) s) : RI c (d + 6) m_R_lawWord [.ref 2] s Q := by
  refine w_R_lawWord (s_took (d := d) sw_17 hf (by decide) q h0 (fun z s' a b => ⟨fun y => (by cases y), fun _ => yes 0 (by decide) z s' a b⟩) (fun z0 => ⟨fun _ => ?_, fun y => by cases y⟩))
  refine s_took (d := d) sw_18 hf (by decide) q h0 (fun z s' a b => ⟨fun y => (by cases y), fun _ => yes 1 (by decide) z s' a b⟩) (fun z1 => ⟨fun _ => ?_, fun y => by cases y⟩)
  refine s_took (d := d) sw_19 hf (by decide) q h0 (fun z s' a b => ⟨fun y => (by cases y), fun _ => yes 2 (by decide) z s' a b⟩) (fun z2 => ⟨fun _ => ?_, fun y => by cases y⟩)
  refine s_took (d := d) sw_20 hf (by decide) q h0 (fun z s' a b => ⟨fun y => (by cases y), fun _ => yes 3 (by decide) z s' a b⟩) (fun z3 => ⟨fun _ => ?_, fun y => by cases y⟩)
  refine s_took (d := d) sw_21 hf (by decide) q h0 (fun z s' a b => ⟨fun y => (by cases y), fun _ => yes 4 (by decide) z s' a b⟩) (fun z4 => ⟨fun _ => ?_, fun y => by cases y⟩)
  refine s_took (d := d) sw_22 hf (by decide) q h0 (fun z s' a b => ⟨fun y => (by cases y), fun _ => yes 5 (by decide) z s' a b⟩) (fun z5 => ⟨fun _ => ?_, fun y => by cases y⟩)
  refine s_took (d := d) sw_23 hf (by decide) q h0 (fun z s' a b => ⟨fun y => (by cases y), fun _ => yes 6 (by decide) z s' a b⟩) (fun z6 => ⟨fun _ => ?_, fun y => by cases y⟩)
  exact s_took (d := d) sw_24 hf (by decide) q h0 (fun z s' a b => ⟨fun y => (by cases y), fun _ => yes 7 (by decide) z s' a b⟩) (fun z7 => ⟨fun _ => no (by omega), fun y => by cases y⟩)
theorem r_ps (hf : fvok c) (hm : mmok mm at') (h9 : n ≤ 900) : ∀ (F m dp h : Nat) (r : (Nat × List Nat) ⊕ (Nat × Nat)), ps f n F m dp h = some r → m ≤ 9 → dp ≤ 6 → ∀ D, 8 * (6 - dp) + rdm m ≤ D → ∀ (s : RS) (L : Nat) (Q : RS → Prop), CPR s f n h dp mm at' → s.2.1 2 mm = nI L → L ≤ h → (∀ h' cc, r = .inl (h', cc) → ∀ s', CPR s' f n h' dp mm at' → TLD s s' mm at' L cc → Q s') → (∀ k p, r = .inr (k, p) → ∀ s', FLT s s' k p → Q s') → RCC c m D s Q
  | 0, m, dp, h, r, q, _, _ => by rw [ps] at q; cases q
  | F + 1, m, dp, h, r, q, hm9, hd => by
    intro D hD s L Q cp tL hL ok no
    have ih := r_ps hf hm h9 F
    have hn : h ≤ n := cp.1.2.1
    have k40 := kd_40 f n h
    have rt := rtk_is _ k40
    have D7 : 7 ≤ D := by
      unfold rdm at hD
      repeat' split at hD
      all_goals omega
    have seq : ∀ (m1 m2 : Nat), (∀ d s Q, RCC c m1 d s (fun s1 => RCC c m2 (d + 1) s1 Q) → RCC c m (d + 1) s Q) → m1 ≤ 9 → m2 ≤ 9 → rdm m1 < rdm m → rdm m2 ≤ rdm m → bd (ps f n F m1 dp h) (fun h1 c1 => bd (ps f n F m2 dp h1) (fun h2 c2 => ok1 h2 (c1 ++ c2))) = some r → RCC c m D s Q := fun m1 m2 hs x1 x2 y1 y2 q => by
      obtain ⟨d, rfl⟩ : ∃ d, D = d + 1 := ⟨D - 1, by omega⟩
      refine hs d s Q ?_
      cases e1 : ps f n F m1 dp h with
      | none => rw [e1] at q; cases q
      | some r1 =>
        rw [e1] at q
        refine ih m1 dp h r1 e1 x1 hd d (by omega) s L _ cp tL hL (fun h1 c1 er s1 cp1 t1 => ?_) (fun k p er s1 fl => ?_)
        · subst er
          have a1 := psP F m1 dp h h1 c1 hn e1
          have q : bd (ps f n F m2 dp h1) (fun h2 c2 => ok1 h2 (c1 ++ c2)) = some r := q
          cases e2 : ps f n F m2 dp h1 with
          | none => rw [e2] at q; cases q
          | some r2 =>
            rw [e2] at q
            refine ih m2 dp h1 r2 e2 x2 hd (d + 1) (by omega) s1 (L + c1.length) Q cp1 t1.2.1 (by omega) (fun h2 c2 er s2 cp2 t2 => ?_) (fun k p er s2 fl => ?_)
            · subst er
              exact ok h2 (c1 ++ c2) (Option.some.inj q).symm s2 cp2 (TLD.tr hm t1 t2)
            · subst er
              exact no k p (Option.some.inj q).symm s2 (FLT.af t1.1 fl)
        · subst er
          exact r_psX fl.ne (no k p (Option.some.inj q).symm s1 fl) m2 (d + 1) x2 (by omega)
    have lop : ∀ (m1 x d : Nat) (s1 : RS), m1 ≤ 9 → rdm m1 < rdm m → D = d + 1 → kd f n h ≠ 37 → SMT s s1 → CPR s1 f n (nx f n h) dp mm at' → bd (ps f n F m1 dp (nx f n h)) (fun h1 c1 => bd (ps f n F m dp h1) (fun h2 c2 => ok1 h2 (c1 ++ x :: c2))) = some r → RCC c m1 d s1 (fun s3 => RV c d m_R_laysStep [.ref 2, .int (nI x)] s3 (fun s4 => RCC c m (d + 1) s4 Q)) := fun m1 x d s1 x1 y1 eD hk sm cp1 q => by
      have a0 := kd_nx (f := f) hn hk
      have tL1 : s1.2.1 2 mm = nI L := by rw [sm.2]; exact tL
      cases e1 : ps f n F m1 dp (nx f n h) with
      | none => rw [e1] at q; cases q
      | some r1 =>
        rw [e1] at q
        refine ih m1 dp (nx f n h) r1 e1 x1 hd d (by omega) s1 L _ cp1 tL1 (by omega) (fun h1 c1 er s3 cp3 t3 => ?_) (fun k p er s3 fl => ?_)
        · subst er
          have a1 := psP F m1 dp _ h1 c1 a0.2 e1
          have q : bd (ps f n F m dp h1) (fun h2 c2 => ok1 h2 (c1 ++ x :: c2)) = some r := q
          refine s_lay hm cp3 t3.2.1 (by omega) (fun s4 cp4 t4 => ?_)
          cases e2 : ps f n F m dp h1 with
          | none => rw [e2] at q; cases q
          | some r2 =>
            rw [e2] at q
            refine ih m dp h1 r2 e2 hm9 hd (d + 1) (by omega) s4 (L + c1.length + 1) Q cp4 t4.2.1 (by omega) (fun h2 c2 er s5 cp5 t5 => ?_) (fun k p er s5 fl => ?_)
            · subst er
              refine ok h2 (c1 ++ x :: c2) (Option.some.inj q).symm s5 cp5 (TLD.vm sm ?_)
              have t34 := TLD.tr hm t3 t4
              have t5' : TLD s4 s5 mm at' (L + (c1 ++ [x]).length) c2 := by
                rw [List.length_append]
                exact t5
              have := TLD.tr hm t34 t5'
              rw [List.append_assoc] at this
              exact this
            · subst er
              exact no k p (Option.some.inj q).symm s5 (FLT.af (sm.1.tr (t3.1.tr t4.1)) fl)
        · subst er
          exact s_layX fl.ne (r_psX fl.ne (no k p (Option.some.inj q).symm s3 (FLT.af sm.1 fl)) m (d + 1) hm9 (by omega))
    have stp : ok1 h [] = some r → Q s := fun q => ok h [] (Option.some.inj q).symm s cp (TLD.nil SMT.rf tL)
    have blame : ∀ (s1 : RS) (h1 k : Nat), 1 ≤ k ∧ k ≤ 4 → RFR s s1 → flt f n h1 k = some r → Q (blm s1 (fkk f n h1 k) (bgn f n h1)) := fun s1 h1 k hk hr q => no _ _ (Option.some.inj q).symm _ (FLT.of hr _ (fkk_b hk))
    match m, hm9, hD, q, seq, lop with
    | 0, hm9, hD, q, seq, lop => exact seq 2 1 (fun d s Q H => w_R_readTruth H) (by decide) (by decide) (by decide) (by decide) q
    | 1, hm9, hD, q, seq, lop =>
      have e12 : rdm 1 = 12 := rfl
      obtain ⟨d, rfl⟩ : ∃ d, D = d + 6 := ⟨D - 6, by omega⟩
      rw [ps] at q
      refine w_R_readTruth_4 (s_took (d := d) sw_14 hf (by decide) cp.1 cp.2.1 (fun z s' h1 h2 => ⟨fun y => (by cases y), fun _ => ?_⟩) (fun z => ⟨fun _ => ?_, fun y => by cases y⟩))
      · rw [if_pos z] at q
        exact lop 2 17 (d + 5) s' (by decide) (by decide) rfl (by omega) h1.sm (cp.on h1 h2) q
      · rw [if_neg z] at q
        exact stp q
    | 2, hm9, hD, q, seq, lop => exact seq 4 3 (fun d s Q H => w_R_readBoth H) (by decide) (by decide) (by decide) (by decide) q
    | 3, hm9, hD, q, seq, lop =>
      have e12 : rdm 3 = 11 := rfl
      obtain ⟨d, rfl⟩ : ∃ d, D = d + 6 := ⟨D - 6, by omega⟩
      rw [ps] at q
      refine w_R_readBoth_4 (s_took (d := d) sw_15 hf (by decide) cp.1 cp.2.1 (fun z s' h1 h2 => ⟨fun y => (by cases y), fun _ => ?_⟩) (fun z => ⟨fun _ => ?_, fun y => by cases y⟩))
      · rw [if_pos z] at q
        exact lop 4 16 (d + 5) s' (by decide) (by decide) rfl (by omega) h1.sm (cp.on h1 h2) q
      · rw [if_neg z] at q
        exact stp q
    | 4, hm9, hD, q, seq, lop =>
      have e4 : rdm 4 = 10 := rfl
      obtain ⟨d, rfl⟩ : ∃ d, D = d + 5 := ⟨D - 5, by omega⟩
      rw [ps] at q
      refine w_R_readUnit ⟨fun _ => s_isWord (d := d) sw_16 hf (by decide) cp.1 cp.2.1 ⟨fun z => ?_, fun z => ?_⟩, fun z => absurd cp.2.1 z⟩
      · have z := of_decide_eq_false z
        rw [if_neg z] at q
        have e91 : decide (s.1 12 = 0 ∧ s.1 10 = 91) = decide (kd f n h = 31) := by
          rw [cp.1.2.2.2.2.1]
          exact decide_eq_decide.mpr ⟨fun y => rt.2.2.2.2.2.2.2.2.2.2.1.mp y.2, fun y => ⟨cp.2.1, rt.2.2.2.2.2.2.2.2.2.2.1.mpr y⟩⟩
        rw [e91]
        refine ⟨fun y => ?_, fun y => ?_⟩
        · have y := of_decide_eq_false y
          rw [if_neg y] at q
          cases e1 : ps f n F 5 dp h with
          | none => rw [e1] at q; cases q
          | some r1 =>
            rw [e1] at q
            refine ih 5 dp h r1 e1 (by decide) hd (d + 4) (by have : rdm 5 = 9 := rfl; omega) s L _ cp tL hL (fun h1 c1 er s3 cp3 t3 => ?_) (fun k p er s3 fl => ?_)
            · subst er
              have a1 := psP F 5 dp h h1 c1 hn e1
              have q : (if 33 ≤ kd f n h1 ∧ kd f n h1 ≤ 35 then bd (ps f n F 5 dp (nx f n h1)) (fun h2 c2 => ok1 h2 (c1 ++ (c2 ++ [kd f n h1 - 20]))) else flt f n h1 2) = some r := q
              have r1 := rtk_is _ (kd_40 f n h1)
              rw [cp3.1.2.2.2.2.1, r1.2.2.2.2.2.2.2.2.2.2.2.2.1, r1.2.2.2.2.2.2.2.2.2.2.2.2.2.1, r1.2.2.2.2.2.2.2.2.2.2.2.2.2.2]
              have e12 := cp3.2.1
              have go : 33 ≤ kd f n h1 ∧ kd f n h1 ≤ 35 → RV c (d + 4) m_R_readsOn [.ref 2] s3 (fun s8 => RV c (d + 4) m_R_readSum [.ref 2] s8 (fun s9 => ((¬ kd f n h1 = 33 → ((¬ kd f n h1 = 34 → RV c (d + 4) m_R_laysStep [.ref 2, .int 15] s9 (fun s10 => Q s10)) ∧ (kd f n h1 = 34 → RV c (d + 4) m_R_laysStep [.ref 2, .int 14] s9 (fun s11 => Q s11)))) ∧ (kd f n h1 = 33 → RV c (d + 4) m_R_laysStep [.ref 2, .int 13] s9 (fun s12 => Q s12))))) := fun w => by
                rw [if_pos w] at q
                have a0 := kd_nx (f := f) a1.2.1 (show kd f n h1 ≠ 37 by omega)
                refine s_on (d := d + 3) cp3.1 (fun s8 h1' h2' => ?_)
                have cp8 := cp3.on h1' h2'
                cases e2 : ps f n F 5 dp (nx f n h1) with
                | none => rw [e2] at q; cases q
                | some r2 =>
                  rw [e2] at q
                  refine ih 5 dp _ r2 e2 (by decide) hd (d + 4) (by have : rdm 5 = 9 := rfl; omega) s8 (L + c1.length) _ cp8 (by rw [h1'.sm.2]; exact t3.2.1) (by omega) (fun h2 c2 er s9 cp9 t9 => ?_) (fun k p er s9 fl => ?_)
                  · subst er
                    have a2 := psP F 5 dp _ h2 c2 a0.2 e2
                    have lay : ∀ x, kd f n h1 - 20 = x → RV c (d + 4) m_R_laysStep [.ref 2, .int (nI x)] s9 (fun s10 => Q s10) := fun x hx => by
                      refine s_lay hm cp9 t9.2.1 (by omega) (fun s10 cp10 t10 => ?_)
                      refine ok h2 _ (Option.some.inj q).symm s10 cp10 ?_
                      rw [hx]
                      exact TLD.tr hm t3 (TLD.tr hm (TLD.vm h1'.sm t9) t10)
                    exact ⟨fun u => ⟨fun v => lay 15 (by omega), fun v => lay 14 (by omega)⟩, fun u => lay 13 (by omega)⟩
                  · subst er
                    have lay : ∀ x : Int32, RV c (d + 4) m_R_laysStep [.ref 2, .int x] s9 (fun s10 => Q s10) := fun x => s_layX fl.ne (no k p (Option.some.inj q).symm s9 (FLT.af (t3.1.tr h1'.fr) fl))
                    exact ⟨fun _ => ⟨fun _ => lay _, fun _ => lay _⟩, fun _ => lay _⟩
              refine ⟨fun w => ⟨fun u => absurd e12 u, fun _ => go (by omega)⟩, fun w1 => ⟨fun w => ⟨fun u => absurd e12 u, fun _ => go (by omega)⟩, fun w2 => ⟨fun w => ⟨fun u => absurd e12 u, fun _ => go (by omega)⟩, fun w3 => ?_⟩⟩⟩
              rw [if_neg (by omega)] at q
              have bn := blm_ne (s := s3) (fkk_b (f := f) (n := n) (h := h1) (k := 2) (by decide)) (bgn f n h1)
              have hQ := blame s3 h1 2 (by decide) t3.1 q
              have lay : ∀ x : Int32, RV c (d + 4) m_R_laysStep [.ref 2, .int x] (blm s3 (fkk f n h1 2) (bgn f n h1)) (fun s10 => Q s10) := fun x => s_layX bn hQ
              refine s_blames (k := 2) cp3.1 e12 ⟨fun _ => ?_, fun u => absurd u bn⟩
              exact r_psX bn (Q := fun s9 => ((¬ kd f n h1 = 33 → ((¬ kd f n h1 = 34 → RV c (d + 4) m_R_laysStep [.ref 2, .int 15] s9 (fun s10 => Q s10)) ∧ (kd f n h1 = 34 → RV c (d + 4) m_R_laysStep [.ref 2, .int 14] s9 (fun s11 => Q s11)))) ∧ (kd f n h1 = 33 → RV c (d + 4) m_R_laysStep [.ref 2, .int 13] s9 (fun s12 => Q s12)))) ⟨fun _ => ⟨fun _ => lay _, fun _ => lay _⟩, fun _ => lay _⟩ 5 (d + 4) (by decide) (by have : rdm 5 = 9 := rfl; omega)
            · subst er
              have hQ := no k p (Option.some.inj q).symm s3 fl
              have lay : ∀ x : Int32, RV c (d + 4) m_R_laysStep [.ref 2, .int x] s3 (fun s10 => Q s10) := fun x => s_layX fl.ne hQ
              have sm : RV c (d + 4) m_R_readSum [.ref 2] s3 (fun s9 => ((¬ s3.1 10 = 61 → ((¬ s3.1 10 = 60 → RV c (d + 4) m_R_laysStep [.ref 2, .int 15] s9 (fun s10 => Q s10)) ∧ (s3.1 10 = 60 → RV c (d + 4) m_R_laysStep [.ref 2, .int 14] s9 (fun s11 => Q s11)))) ∧ (s3.1 10 = 61 → RV c (d + 4) m_R_laysStep [.ref 2, .int 13] s9 (fun s12 => Q s12)))) := r_psX fl.ne ⟨fun _ => ⟨fun _ => lay _, fun _ => lay _⟩, fun _ => lay _⟩ 5 (d + 4) (by decide) (by have : rdm 5 = 9 := rfl; omega)
              exact ⟨fun _ => ⟨fun _ => sm, fun u => absurd u fl.ne⟩, fun _ => ⟨fun _ => ⟨fun _ => sm, fun u => absurd u fl.ne⟩, fun _ => ⟨fun _ => ⟨fun _ => sm, fun u => absurd u fl.ne⟩, fun _ => s_blamesX fl.ne ⟨fun _ => sm, fun u => absurd u fl.ne⟩⟩⟩⟩
        · have y := of_decide_eq_true y
          rw [if_pos y] at q
          refine s_goesIn (d := d + 2) cp hd (by omega) (fun d6 s1 sm1 cp1 => ?_) (fun d6 s1 fl => ?_)
          · rw [if_neg d6] at q
            have a0 := kd_nx (f := f) hn (show kd f n h ≠ 37 by omega)
            cases e1 : ps f n F 0 (dp + 1) (nx f n h) with
            | none => rw [e1] at q; cases q
            | some r1 =>
              rw [e1] at q
              refine ih 0 (dp + 1) (nx f n h) r1 e1 (by decide) (by omega) (d + 4) (by have : rdm 0 = 12 := rfl; omega) s1 L _ cp1 (by rw [sm1.2]; exact tL) (by omega) (fun h1 c1 er s2 cp2 t2 => ?_) (fun k p er s2 fl => ?_)
              · subst er
                have q : (if kd f n h1 = 32 then ok1 (nx f n h1) c1 else flt f n h1 2) = some r := q
                have r1 := rtk_is _ (kd_40 f n h1)
                refine s_must (d := d + 2) r1.2.2.2.2.2.2.2.2.2.2.2.1 cp2.1 cp2.2.1 (fun w s3 m1 m2 => ?_) (fun w => ?_)
                · rw [if_pos w] at q
                  have cp3 := cp2.on m1 m2
                  rw [cp3.2.2.1, show nI (dp + 1) - 1 = nI dp from nI_sub (b := 1) (by omega)]
                  exact ok (nx f n h1) c1 (Option.some.inj q).symm _ ⟨cp3.1, cp3.2.1, rF_at _ _ _, cp3.2.2.2.1, cp3.2.2.2.2⟩ (TLD.mv (TLD.vm sm1 t2) (m1.sm.put _ (by decide)))
                · rw [if_neg w] at q
                  exact no _ _ (Option.some.inj q).symm _ ((FLT.of (sm1.1.tr t2.1) _ (fkk_b (by decide))).put _ rfl)
              · subst er
                exact s_mustX fl.ne (no k p (Option.some.inj q).symm _ ((FLT.af sm1.1 fl).put _ rfl))
          · rw [if_pos d6] at q
            have ek : fkk f n h 4 = 4 := if_neg (by omega)
            unfold flt at q
            rw [ek] at q
            refine r_psX fl.ne ?_ 0 (d + 4) (by decide) (by omega)
            exact s_mustX fl.ne (no _ _ (Option.some.inj q).symm _ (fl.put _ rfl))
      · have z := of_decide_eq_true z
        rw [if_pos z] at q
        refine s_goesIn (d := d + 2) cp hd (by omega) (fun d6 s1 sm1 cp1 => ?_) (fun d6 s1 fl => ?_)
        · rw [if_neg d6] at q
          have a0 := kd_nx (f := f) hn (show kd f n h ≠ 37 by omega)
          cases e1 : ps f n F 4 (dp + 1) (nx f n h) with
          | none => rw [e1] at q; cases q
          | some r1 =>
            rw [e1] at q
            refine ih 4 (dp + 1) (nx f n h) r1 e1 (by decide) (by omega) (d + 4) (by omega) s1 L _ cp1 (by rw [sm1.2]; exact tL) (by omega) (fun h1 c1 er s2 cp2 t2 => ?_) (fun k p er s2 fl => ?_)
            · subst er
              have a1 := psP F 4 (dp + 1) _ h1 c1 a0.2 e1
              refine s_lay (x := 18) hm cp2 t2.2.1 (by omega) (fun s3 cp3 t3 => ?_)
              rw [cp3.2.2.1, show nI (dp + 1) - 1 = nI dp from nI_sub (b := 1) (by omega)]
              exact ok h1 (c1 ++ [18]) (Option.some.inj q).symm _ ⟨cp3.1, cp3.2.1, rF_at _ _ _, cp3.2.2.2.1, cp3.2.2.2.2⟩ (TLD.mv (TLD.vm sm1 (TLD.tr hm t2 t3)) (SMT.rf.put _ (by decide)))
            · subst er
              exact s_layX fl.ne (no k p (Option.some.inj q).symm _ ((FLT.af sm1.1 fl).put _ rfl))
        · rw [if_pos d6] at q
          have ek : fkk f n h 4 = 4 := if_neg (by omega)
          unfold flt at q
          rw [ek] at q
          refine r_psX fl.ne ?_ 4 (d + 4) (by decide) (by omega)
          exact s_layX fl.ne (no _ _ (Option.some.inj q).symm _ (fl.put _ rfl))
    | 5, hm9, hD, q, seq, lop => exact seq 7 6 (fun d s Q H => w_R_readSum H) (by decide) (by decide) (by decide) (by decide) q
    | 6, hm9, hD, q, seq, lop =>
      have e12 : rdm 6 = 9 := rfl
      obtain ⟨d, rfl⟩ : ∃ d, D = d + 2 := ⟨D - 2, by omega⟩
      rw [ps] at q
      have e43 : decide (s.1 12 = 0 ∧ s.1 10 = 43) = decide (kd f n h = 26) := by
        rw [cp.1.2.2.2.2.1]
        exact decide_eq_decide.mpr ⟨fun y => rt.2.2.2.2.2.1.mp y.2, fun y => ⟨cp.2.1, rt.2.2.2.2.2.1.mpr y⟩⟩
      have e45 : decide (s.1 12 = 0 ∧ s.1 10 = 45) = decide (kd f n h = 27) := by
        rw [cp.1.2.2.2.2.1]
        exact decide_eq_decide.mpr ⟨fun y => rt.2.2.2.2.2.2.1.mp y.2, fun y => ⟨cp.2.1, rt.2.2.2.2.2.2.1.mpr y⟩⟩
      refine w_R_readSum_4 ?_
      rw [e43, e45, cp.1.2.2.2.2.1, rt.2.2.2.2.2.1]
      refine ⟨fun z => ?_, fun z => ⟨fun y => ?_, fun y => ?_⟩⟩
      · have z := of_decide_eq_true z
        rw [if_pos (Or.inl z), z] at q
        refine s_on (d := d) cp.1 (fun s' h1 h2 => ?_)
        exact RV.mn (lop 7 10 (d + 1) s' (by decide) (by decide) rfl (by omega) h1.sm (cp.on h1 h2) q) (fun s3 H => ⟨fun w => absurd z w, fun _ => H⟩)
      · have z := of_decide_eq_false z
        have y := of_decide_eq_false y
        rw [if_neg (fun w => w.elim z y)] at q
        exact stp q
      · have z := of_decide_eq_false z
        have y := of_decide_eq_true y
        rw [if_pos (Or.inr y), y] at q
        refine s_on (d := d) cp.1 (fun s' h1 h2 => ?_)
        exact RV.mn (lop 7 11 (d + 1) s' (by decide) (by decide) rfl (by omega) h1.sm (cp.on h1 h2) q) (fun s3 H => ⟨fun _ => H, fun w => absurd w z⟩)
    | 7, hm9, hD, q, seq, lop => exact seq 9 8 (fun d s Q H => w_R_readTerm H) (by decide) (by decide) (by decide) (by decide) q
    | 8, hm9, hD, q, seq, lop =>
      have e12 : rdm 8 = 8 := rfl
      obtain ⟨d, rfl⟩ : ∃ d, D = d + 2 := ⟨D - 2, by omega⟩
      rw [ps] at q
      have e42 : decide (s.1 12 = 0 ∧ s.1 10 = 42) = decide (kd f n h = 28) := by
        rw [cp.1.2.2.2.2.1]
        exact decide_eq_decide.mpr ⟨fun y => rt.2.2.2.2.2.2.2.1.mp y.2, fun y => ⟨cp.2.1, rt.2.2.2.2.2.2.2.1.mpr y⟩⟩
      refine w_R_readTerm_4 ?_
      rw [e42]
      refine ⟨fun z => ?_, fun z => s_on (d := d) cp.1 (fun s' h1 h2 => ?_)⟩
      · rw [if_neg (of_decide_eq_false z)] at q
        exact stp q
      · have z := of_decide_eq_true z
        rw [if_pos z] at q
        exact lop 9 12 (d + 1) s' (by decide) (by decide) rfl (by omega) h1.sm (cp.on h1 h2) q
    | 9, hm9, hD, q, seq, lop =>
      have e9 : rdm 9 = 7 := rfl
      have v9 := vl_lt (f := f) hn
      obtain ⟨d, rfl⟩ : ∃ d, D = d + 7 := ⟨D - 7, by omega⟩
      rw [ps_9 (m := 0)] at q
      refine w_R_readAtom ⟨fun _ => s_lawWord (d := d) hf cp.1 cp.2.1 (fun k hk z s' m1 m2 => ⟨fun y => ?_, fun _ => ?_⟩) (fun z => ⟨fun _ => ?_, fun y => absurd rfl y⟩), fun z => absurd cp.2.1 z⟩
      · exfalso
        exact (by decide : ∀ k, k < 8 → ¬ nI k = -1) k hk y
      · have a0 := kd_nx (f := f) hn (show kd f n h ≠ 37 by omega)
        rw [if_pos (by omega)] at q
        rw [show (100 : Int32) + nI k = nI (100 + k) from nI_add 100 k]
        refine s_lay hm (cp.on m1 m2) (by rw [m1.sm.2]; exact tL) (by omega) (fun s3 cp3 t3 => ok _ _ (Option.some.inj q).symm s3 cp3 (TLD.vm m1.sm ?_))
        rw [show kd f n h + 83 = 100 + k by omega]
        exact t3
      · rw [if_neg z] at q
        have e40 : decide (s.1 12 = 0 ∧ s.1 10 = 40) = decide (kd f n h = 29) := by
          rw [cp.1.2.2.2.2.1]
          exact decide_eq_decide.mpr ⟨fun y => rt.2.2.2.2.2.2.2.2.1.mp y.2, fun y => ⟨cp.2.1, rt.2.2.2.2.2.2.2.2.1.mpr y⟩⟩
        rw [e40]
        refine ⟨fun y => ?_, fun y => ?_⟩
        · have y := of_decide_eq_false y
          rw [if_neg y] at q
          refine s_number (lo := 0) (d := d + 4) (by decide) cp.1 cp.2.1 (fun w _ _ s3 m1 m2 => ?_) (fun w u => absurd ⟨Nat.zero_le _, (by show (vl f n h : Int) ≤ 999; omega)⟩ u) (fun w => ?_)
          · rw [if_pos w] at q
            have a0 := kd_nx (f := f) hn (show kd f n h ≠ 37 by omega)
            rw [show (1000 : Int32) + nI (vl f n h) = nI (1000 + vl f n h) from nI_add 1000 _]
            exact s_lay hm (cp.on m1 m2) (by rw [m1.sm.2]; exact tL) (by omega) (fun s4 cp4 t4 => ok _ _ (Option.some.inj q).symm s4 cp4 (TLD.vm m1.sm t4))
          · rw [if_neg w] at q
            have bn := blm_ne (s := s) (fkk_b (f := f) (n := n) (h := h) (k := 2) (by decide)) (bgn f n h)
            exact s_layX bn (blame s h 2 (by decide) RFR.rf q)
        · have y := of_decide_eq_true y
          rw [if_pos y] at q
          refine s_goesIn (d := d + 4) cp hd (by omega) (fun d6 s1 sm1 cp1 => ?_) (fun d6 s1 fl => ?_)
          · rw [if_neg d6] at q
            have a0 := kd_nx (f := f) hn (show kd f n h ≠ 37 by omega)
            cases e1 : ps f n F 5 (dp + 1) (nx f n h) with
            | none => rw [e1] at q; cases q
            | some r1 =>
              rw [e1] at q
              refine ih 5 (dp + 1) (nx f n h) r1 e1 (by decide) (by omega) (d + 6) (by have : rdm 5 = 9 := rfl; omega) s1 L _ cp1 (by rw [sm1.2]; exact tL) (by omega) (fun h1 c1 er s2 cp2 t2 => ?_) (fun k p er s2 fl => ?_)
              · subst er
                have q : (if kd f n h1 = 30 then ok1 (nx f n h1) c1 else flt f n h1 2) = some r := q
                have r1 := rtk_is _ (kd_40 f n h1)
                refine s_must (d := d + 4) r1.2.2.2.2.2.2.2.2.2.1 cp2.1 cp2.2.1 (fun w s3 m1 m2 => ?_) (fun w => ?_)
                · rw [if_pos w] at q
                  have cp3 := cp2.on m1 m2
                  rw [cp3.2.2.1, show nI (dp + 1) - 1 = nI dp from nI_sub (b := 1) (by omega)]
                  exact ok (nx f n h1) c1 (Option.some.inj q).symm _ ⟨cp3.1, cp3.2.1, rF_at _ _ _, cp3.2.2.2.1, cp3.2.2.2.2⟩ (TLD.mv (TLD.vm sm1 t2) (m1.sm.put _ (by decide)))
                · rw [if_neg w] at q
                  exact no _ _ (Option.some.inj q).symm _ ((FLT.of (sm1.1.tr t2.1) _ (fkk_b (by decide))).put _ rfl)
              · subst er
                exact s_mustX fl.ne (no k p (Option.some.inj q).symm _ ((FLT.af sm1.1 fl).put _ rfl))
          · rw [if_pos d6] at q
            have ek : fkk f n h 4 = 4 := if_neg (by omega)
            unfold flt at q
            rw [ek] at q
            refine r_psX fl.ne ?_ 5 (d + 6) (by decide) (by omega)
            exact s_mustX fl.ne (no _ _ (Option.some.inj q).symm _ (fl.put _ rfl))
end RQ3
