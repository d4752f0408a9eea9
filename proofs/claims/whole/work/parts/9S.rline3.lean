/-! lines of the text, read by the reference: any line -/
section RL3
variable {c : CX} {d n h G g : Nat} {f : Nat → Nat} {s s' s1 : RS} {t : TV} {r : (Nat × TV) ⊕ (Nat × Nat)} {Q : RS → Prop} {k : Nat → Int32}
theorem r_streetL (hf : fvok c) (q : RST s f n h (vG t.1) t) (tok : TOK t) (hk : kd f n h = 4) (e : lineP f n h t = some r) (stop : STP f n s t r Q) (bad : ∀ k p, r = .inr (k, p) → ∀ s', FLT s s' k p → Q s') : RV c (d + 6) m_R_readStreet [.ref 2] s Q := by
  have hT : vT t.1 ≤ 12 := tok.1.2.1
  unfold lineP at e
  rw [if_neg (by omega), if_neg (by omega), if_neg (by omega), if_neg (by omega), if_pos hk] at e
  refine w_R_readStreet (s_begins (d := d + 3) (i := 2) (m := 12) (v := vT t.1) q q.2.2.2.1.2.2.1 (by decide) ⟨hT, by decide⟩ (fun z s1 m1 q1 => ⟨fun _ => ?_, fun y => by cases y⟩) (fun z => ⟨fun y => (by cases y), fun _ => ?_⟩))
  · rw [if_pos (by omega)] at e
    have hT' : vT t.1 < 12 := by omega
    have go : ∀ j, j < 4 → kd f n (nx f n h) = 10 + j → ∀ s2, RMV s1 s2 → RTK s2 f n (nx f n (nx f n h)) → eR c (d + 6) m_R_readStreet 74 [some (.ref 2), some (.int (nI j)), none] s2 (pV c Q) := fun j hj zj s2 m2 m2' => by
      rw [if_pos (by omega), show kd f n (nx f n h) - 10 = j by omega] at e
      have q2 := q1.mv m2 m2'
      have r2 := m1.fr.tr m2.fr
      refine w_R_readStreet_74 _ (s_num (d := d + 3) (lo := 1) (hi := 20) (by decide) q2 (fun x hx => by rw [show (20 : Int32).toInt = 20 from rfl]; omega) e (fun y1 y2 y3 y4 s3 m3 q3 => ⟨fun _ => ?_, fun y => absurd q3.2.1 y⟩) (fun k p er s3 fl => ⟨fun y => absurd y fl.ne, fun _ => bad k p er s3 (FLT.af r2 fl)⟩))
      have y4 : stopP f n (nx f n (nx f n (nx f n h))) (tvS t j (vl f n (nx f n (nx f n h)))) = some r := y4
      have k2 : s3.2.1 2 (ix 2) = nI (vT t.1) := q3.2.2.2.1.2.2.1
      have e67 : (67 + 2 * nI (vT t.1) : Int32) = nI (67 + 2 * vT t.1) := by rw [show (2 : Int32) * nI (vT t.1) = nI (2 * vT t.1) from nI_mul 2 _]; exact nI_add 67 _
      rw [k2, e67, ix_nI (by omega)]
      refine ⟨okn (k := 2) (by decide) (by decide), okn (by omega) (by decide), w_R_readStreet_107 _ _ ?_⟩
      have k3 : (rA s3 2 (67 + 2 * vT t.1) (nI j)).2.1 2 (ix 2) = nI (vT t.1) := by
        show upd (s3.2.1 2) (67 + 2 * vT t.1) (nI j) (ix 2) = _
        rw [show ix 2 = 2 from rfl, upd_ne _ _ (by omega)]; exact k2
      rw [k3, e67, nI_1, ix_nI (by omega)]
      refine ⟨okn (k := 2) (by decide) (by decide), okn (by omega) (by decide), w_R_readStreet_126 _ _ ?_⟩
      have k4 : (rA (rA s3 2 (67 + 2 * vT t.1) (nI j)) 2 (67 + 2 * vT t.1 + 1) (nI (vl f n (nx f n (nx f n h))))).2.1 2 (ix 2) = nI (vT t.1) := by
        show upd ((rA s3 2 (67 + 2 * vT t.1) (nI j)).2.1 2) (67 + 2 * vT t.1 + 1) _ (ix 2) = _
        rw [show ix 2 = 2 from rfl, upd_ne _ _ (by omega)]; exact k3
      rw [k4, nI_1]
      refine ⟨okn (k := 2) (by decide) (by decide), okn (k := 2) (by decide) (by decide), ?_⟩
      refine stop _ _ y4 rfl _ ((((r2.tr m3.fr).tel _ _).tel _ _).tel _ _) ⟨q3.1, q3.2.1, q3.2.2.1, ?_⟩
      exact q3.2.2.2.street hT'
    have b7 : ¬ (10 ≤ kd f n (nx f n h) ∧ kd f n (nx f n h) ≤ 13) → RV c (d + 5) m_R_blames [.ref 2, .int 2] s1 (fun s11 => eR c (d + 6) m_R_readStreet 74 [some (.ref 2), some (.int ((-1))), none] s11 (pV c Q)) := fun y => by
      rw [if_neg y] at e
      refine s_blames (k := 2) q1.1 q1.2.1 ?_
      have fl : FLT s (blm s1 (fkk f n (nx f n h) 2) (bgn f n (nx f n h))) (fkk f n (nx f n h) 2) (bgn f n (nx f n h)) := FLT.of m1.fr _ (fkk_b (by decide))
      exact w_R_readStreet_74 _ (s_numberX (d := d + 4) fl.ne ⟨fun y => absurd y fl.ne, fun _ => bad _ _ (Option.some.inj e).symm _ fl⟩)
    refine s_took (d := d) sw_10 hf (by decide) q1.1 q1.2.1 (fun z s2 m2 m3 => ⟨fun y => (by cases y), fun _ => go 0 (by decide) z s2 m2 m3⟩) (fun z0 => ⟨fun _ => ?_, fun y => by cases y⟩)
    refine s_took (d := d) sw_11 hf (by decide) q1.1 q1.2.1 (fun z s2 m2 m3 => ⟨fun y => (by cases y), fun _ => go 1 (by decide) z s2 m2 m3⟩) (fun z1 => ⟨fun _ => ?_, fun y => by cases y⟩)
    refine s_took (d := d) sw_12 hf (by decide) q1.1 q1.2.1 (fun z s2 m2 m3 => ⟨fun y => (by cases y), fun _ => go 2 (by decide) z s2 m2 m3⟩) (fun z2 => ⟨fun _ => ?_, fun y => by cases y⟩)
    exact s_took (d := d) sw_13 hf (by decide) q1.1 q1.2.1 (fun z s2 m2 m3 => ⟨fun y => (by cases y), fun _ => go 3 (by decide) z s2 m2 m3⟩) (fun z3 => ⟨fun _ => b7 (by omega), fun y => by cases y⟩)
  · rw [if_neg (by omega)] at e
    exact bad _ _ (Option.some.inj e).symm _ (FLT.of RFR.rf _ (fkk_b (by decide)))
/-- a law told -/
def tvX (mm : Nat) (t : TV) (l : List Nat) : TV := if mm = 3 then tvM t l else tvA t l
theorem TLR.law {mm at' : Nat} {l : List Nat} {k' : Nat → Int32} (hm : mmok mm at') (q : TLR k G t) (tok : TOK t) (h9 : l.length ≤ 900) (a2 : k' mm = nI l.length) (a3 : ∀ i, i < l.length → k' (at' + i) = nI (l.getD i 0)) (a4 : ∀ x, x ≠ mm → (x < at' ∨ at' + l.length ≤ x) → k' x = k x) : TLR k' G (tvX mm t l) := by
  obtain ⟨⟨q0, q1, q2, q3, q4, q5, q6⟩, w, fl, st, m, a⟩ := q
  have hT : vT t.1 ≤ 12 := tok.1.2.1
  have m9 := law_900 tok.1.2.2.2.1
  have s67 : ∀ i, i < vT t.1 → k' (67 + 2 * i) = nI (vY t.1 i) ∧ k' (67 + 2 * i + 1) = nI (vP t.1 i) := fun i hi => by
    rcases hm with ⟨rfl, rfl⟩ | ⟨rfl, rfl⟩
    · rw [a4 _ (by omega) (by omega), a4 _ (by omega) (by omega)]; exact st i hi
    · rw [a4 _ (by omega) (by omega), a4 _ (by omega) (by omega)]; exact st i hi
  have s6 : ∀ g, g < 10 → k' (6 + g) = oI (t.2 g) := fun g hg => by
    rcases hm with ⟨rfl, rfl⟩ | ⟨rfl, rfl⟩
    · rw [a4 _ (by omega) (by omega)]; exact w g hg
    · rw [a4 _ (by omega) (by omega)]; exact w g hg
  have sf : ∀ j g, j < 5 → g < 10 → k' (off j + g) = nI (vF t.1 j g) := fun j g hj hg => by
    have := off_v j hj
    rcases hm with ⟨rfl, rfl⟩ | ⟨rfl, rfl⟩
    · rw [a4 _ (by omega) (by omega)]; exact fl j g hj hg
    · rw [a4 _ (by omega) (by omega)]; exact fl j g hj hg
  rcases hm with ⟨rfl, rfl⟩ | ⟨rfl, rfl⟩
  · refine ⟨⟨?_, ?_, ?_, a2, ?_, ?_, ?_⟩, s6, sf, s67, a3, fun i hi => ?_⟩
    · rw [a4 _ (by omega) (by omega)]; exact q0
    · rw [a4 _ (by omega) (by omega)]; exact q1
    · rw [a4 _ (by omega) (by omega)]; exact q2
    · rw [a4 _ (by omega) (by omega)]; exact q4
    · rw [a4 _ (by omega) (by omega)]; exact q5
    · rw [a4 _ (by omega) (by omega)]; exact q6
    · rw [a4 _ (by omega) (by omega)]; exact a i hi
  · refine ⟨⟨?_, ?_, ?_, ?_, a2, ?_, ?_⟩, s6, sf, s67, fun i hi => ?_, a3⟩
    · rw [a4 _ (by omega) (by omega)]; exact q0
    · rw [a4 _ (by omega) (by omega)]; exact q1
    · rw [a4 _ (by omega) (by omega)]; exact q2
    · rw [a4 _ (by omega) (by omega)]; exact q3
    · rw [a4 _ (by omega) (by omega)]; exact q5
    · rw [a4 _ (by omega) (by omega)]; exact q6
    · have hi : i < (vM t.1).length := hi
      rw [a4 _ (by omega) (by omega)]; exact m i hi
theorem r_lawL {mm at' : Nat} (hf : fvok c) (h9 : n ≤ 900) (hm : mmok mm at') (q : RST s f n h (vG t.1) t) (tok : TOK t) (e : lawT (lawP f n h) (tvX mm t) = some r) (stop : STP f n s t r Q) (bad : ∀ k p, r = .inr (k, p) → ∀ s', FLT s s' k p → Q s') : RV c (d + 61) m_R_readLaw [.ref 2, .int (nI mm), .int (nI at')] s Q := by
  have hmm : mm ≤ 4 ∧ at' ≤ 1201 ∧ mm < at' := by unfold mmok at hm; omega
  have hn := q.1.2.1
  refine w_R_readLaw _ _ ⟨okn (by omega) (by decide), ?_⟩
  rw [ix_nI (by omega)]
  have cp : CPR (rA (rF (rF s 17 (nI mm)) 18 (nI at')) 2 mm 0) f n h 0 mm at' := ⟨q.1, q.2.1, q.2.2.1, rfl, rfl⟩
  have r0 : RFR s (rA (rF (rF s 17 (nI mm)) 18 (nI at')) 2 mm 0) := ((RFR.rf.put (k := 17) _ (by decide)).put (k := 18) _ (by decide)).tel _ _
  have l0 : (rA (rF (rF s 17 (nI mm)) 18 (nI at')) 2 mm 0).2.1 2 mm = nI 0 := upd_at _ _ _
  have o0 : ∀ x, x ≠ mm → (rA (rF (rF s 17 (nI mm)) 18 (nI at')) 2 mm 0).2.1 2 x = s.2.1 2 x := fun x hx => upd_ne _ _ hx
  generalize rA (rF (rF s 17 (nI mm)) 18 (nI at')) 2 mm 0 = s0 at *
  have main : ∀ rr, ps f n (8 * (n - h) + 8) 0 0 h = some rr → (∀ h1 cc, rr = .inl (h1, cc) → stopP f n h1 (tvX mm t cc) = some r) → (∀ k p, rr = .inr (k, p) → r = .inr (k, p)) → RCC c 0 (d + 60) s0 Q := fun rr e1 a1 a2 => by
    refine r_ps hf hm h9 _ 0 0 h rr e1 (by decide) (by decide) (d + 60) (by have : rdm 0 = 12 := rfl; omega) s0 0 Q cp l0 (Nat.zero_le _) (fun h1 cc er s2 cp2 td => ?_) (fun k p er s2 fl => bad k p (a2 k p er) s2 (FLT.af r0 fl))
    subst er
    have lk := psLaw hn h9 e1
    obtain ⟨t1, t2, t3, t4⟩ := td
    rw [Nat.zero_add] at t2
    have tl := TLR.law hm q.2.2.2 tok lk.2 t2 (fun i hi => by have := t3 i hi; rwa [Nat.add_zero] at this) (fun x hx hr => by rw [t4 x hx (by omega)]; exact o0 x hx)
    refine stop h1 (tvX mm t cc) (a1 h1 cc rfl) ?_ s2 (r0.tr t1) ⟨cp2.1, cp2.2.1, cp2.2.2.1, ?_⟩
    · unfold tvX; split <;> rfl
    · have eg : vG (tvX mm t cc).1 = vG t.1 := by unfold tvX; split <;> rfl
      rw [eg]; exact tl
  rcases lawP_cases (f := f) hn with ⟨k, p, e1, e2⟩ | ⟨h1, c1, e1, e2⟩
  · rw [e1] at e
    exact main _ e2 (fun h1 cc w => (by cases w)) (fun k p w => (by cases w; exact (Option.some.inj e).symm))
  · rw [e2] at e
    refine main _ e1 (fun h1 cc w => ?_) (fun k p w => (by cases w))
    cases w
    unfold stopP
    by_cases z : kd f n h1 = 25
    · rw [if_pos z] at e ⊢; exact e
    · rw [if_neg z] at e ⊢; exact e
theorem r_line (hf : fvok c) (q : RST s f n h (vG t.1) t) (tok : TOK t) (h9 : n ≤ 900) (e : lineP f n h t = some r) (ok : ∀ h' t', r = .inl (h', t') → ∀ s', RFR s s' → RST s' f n h' (vG t'.1) (tvL t' (vL t'.1 + 1)) → Q s') (bad : ∀ k p, r = .inr (k, p) → ∀ s', FLT s s' k p → Q s') : RV c (d + 62) m_R_readLine [.ref 2] s Q := by
  have hL : vL t.1 ≤ 900 := tok.1.2.2.2.2.2.2
  have st : ∀ s0, RFR s s0 → STP f n s0 t r (fun s' => RV c (d + 61) m_R_readStop [.ref 2] s' Q) := fun s0 r0 h1 t1 e1 l1 s1 r1 q1 => by
    refine s_stop (d := d + 58) q1 e1 (by omega) (fun er s2 r2 q2 => ok _ _ er s2 ((r0.tr r1).tr r2) q2) (fun k p er s2 fl => bad k p er s2 (FLT.af (r0.tr r1) fl))
  have bd : ∀ s0, RFR s s0 → ∀ k p, r = .inr (k, p) → ∀ s', FLT s0 s' k p → RV c (d + 61) m_R_readStop [.ref 2] s' Q := fun s0 r0 k p er s1 fl => s_stopX (d := d + 58) fl.ne (bad k p er s1 (FLT.af r0 fl))
  refine w_R_readLine (s_isWord (d := d + 57) sw_0 hf (by decide) q.1 q.2.1 ⟨fun z0 => ?_, fun z => ?_⟩)
  · have z0 : kd f n h ≠ 0 := of_decide_eq_false z0
    refine s_isWord (d := d + 57) sw_4 hf (by decide) q.1 q.2.1 ⟨fun z4 => ?_, fun z => ?_⟩
    · have z4 : kd f n h ≠ 4 := of_decide_eq_false z4
      refine s_took (d := d + 56) sw_1 hf (by decide) q.1 q.2.1 (fun z s1 m1 m2 => ⟨fun y => (by cases y), fun _ => ?_⟩) (fun z1 => ⟨fun _ => ?_, fun y => by cases y⟩)
      · exact r_mocksL (d := d + 58) (q.mv m1 m2) tok z e (st s1 m1.fr) (bd s1 m1.fr)
      · refine s_took (d := d + 56) sw_2 hf (by decide) q.1 q.2.1 (fun z s1 m1 m2 => ⟨fun y => (by cases y), fun _ => ?_⟩) (fun z2 => ⟨fun _ => ?_, fun y => by cases y⟩)
        · unfold lineP at e
          rw [if_neg (by omega), if_neg (by omega), if_pos z] at e
          exact r_lawL (d := d) (mm := 3) (at' := 301) hf h9 (Or.inl ⟨rfl, rfl⟩) (q.mv m1 m2) tok e (st s1 m1.fr) (bd s1 m1.fr)
        · refine s_took (d := d + 56) sw_3 hf (by decide) q.1 q.2.1 (fun z s1 m1 m2 => ⟨fun y => (by cases y), fun _ => ?_⟩) (fun z3 => ⟨fun _ => ?_, fun y => by cases y⟩)
          · unfold lineP at e
            rw [if_neg (by omega), if_neg (by omega), if_neg (by omega), if_pos z] at e
            exact r_lawL (d := d) (mm := 4) (at' := 1201) hf h9 (Or.inr ⟨rfl, rfl⟩) (q.mv m1 m2) tok e (st s1 m1.fr) (bd s1 m1.fr)
          · unfold lineP at e
            rw [if_neg z0, if_neg z1, if_neg z2, if_neg z3, if_neg z4] at e
            refine s_blames (k := 2) q.1 q.2.1 ?_
            exact bd s RFR.rf _ _ (Option.some.inj e).symm _ (FLT.of RFR.rf _ (fkk_b (by decide)))
    · exact r_streetL (d := d + 55) hf q tok (of_decide_eq_true z) e (st s RFR.rf) (bd s RFR.rf)
  · exact r_guildL (d := d + 55) hf q tok (of_decide_eq_true z) e (st s RFR.rf) (bd s RFR.rf)
end RL3
