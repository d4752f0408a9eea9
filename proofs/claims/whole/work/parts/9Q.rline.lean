/-! lines of the text, read by the reference -/
def off (j : Nat) : Nat := [16, 27, 37, 47, 57].getD j 0
theorem off_v : ∀ j, j < 5 → (j = 0 ∧ off j = 16) ∨ (j = 1 ∧ off j = 27) ∨ (j = 2 ∧ off j = 37) ∨ (j = 3 ∧ off j = 47) ∨ (j = 4 ∧ off j = 57) := by decide
/-- what is told so far, as the reference keeps it -/
def TLR (k : Nat → Int32) (G : Nat) (t : TV) : Prop := (k 0 = nI (vL t.1) ∧ k 1 = nI G ∧ k 2 = nI (vT t.1) ∧ k 3 = nI (vM t.1).length ∧ k 4 = nI (vA t.1).length ∧ k 5 = 0 ∧ k 26 = 0) ∧ (∀ g, g < 10 → k (6 + g) = oI (t.2 g)) ∧ (∀ j g, j < 5 → g < 10 → k (off j + g) = nI (vF t.1 j g)) ∧ (∀ i, i < vT t.1 → k (67 + 2 * i) = nI (vY t.1 i) ∧ k (67 + 2 * i + 1) = nI (vP t.1 i)) ∧ (∀ i, i < (vM t.1).length → k (301 + i) = nI ((vM t.1).getD i 0)) ∧ ∀ i, i < (vA t.1).length → k (1201 + i) = nI ((vA t.1).getD i 0)
def RST (s : RS) (f : Nat → Nat) (n h G : Nat) (t : TV) : Prop := RTK s f n h ∧ s.1 12 = 0 ∧ s.1 16 = 0 ∧ TLR (s.2.1 2) G t
section RL1
variable {c : CX} {d n h G : Nat} {f : Nat → Nat} {s s' s1 : RS} {t : TV} {r : (Nat × TV) ⊕ (Nat × Nat)} {k : Nat → Int32}
theorem RST.mv {h' : Nat} (q : RST s f n h G t) (m : RMV s s') (r : RTK s' f n h') : RST s' f n h' G t := by
  obtain ⟨q1, q2, q3, q4⟩ := q
  exact ⟨r, by rw [m.1 12 (by decide) (by decide) (by decide) (by decide)]; exact q2, by rw [m.1 16 (by decide) (by decide) (by decide) (by decide)]; exact q3, by rw [m.2]; exact q4⟩
theorem RST.tel {G' : Nat} {t' : TV} {j : Nat} {x : Int32} (q : RST s f n h G t) (w : TLR (upd (s.2.1 2) j x) G' t') : RST (rA s 2 j x) f n h G' t' := ⟨q.1, q.2.1, q.2.2.1, by show TLR ((fun i' => if i' = 2 then upd (s.2.1 2) j x else s.2.1 i') 2) G' t'; exact w⟩
theorem TLR.lines (q : TLR k G t) (L : Nat) : TLR (upd k 0 (nI L)) G (tvL t L) := by
  obtain ⟨⟨q0, q1, q2, q3, q4, q5, q6⟩, w, fl, st, m, a⟩ := q
  refine ⟨⟨upd_at _ _ _, ?_, ?_, ?_, ?_, ?_, ?_⟩, fun g hg => ?_, fun j g hj hg => ?_, fun i hi => ⟨?_, ?_⟩, fun i hi => ?_, fun i hi => ?_⟩
  · rw [upd_ne _ _ (by decide)]; exact q1
  · rw [upd_ne _ _ (by decide)]; exact q2
  · rw [upd_ne _ _ (by decide)]; exact q3
  · rw [upd_ne _ _ (by decide)]; exact q4
  · rw [upd_ne _ _ (by decide)]; exact q5
  · rw [upd_ne _ _ (by decide)]; exact q6
  · rw [upd_ne _ _ (by omega)]; exact w g hg
  · rw [upd_ne _ _ (by have := off_v j hj; omega)]; exact fl j g hj hg
  · rw [upd_ne _ _ (by omega)]; exact (st i hi).1
  · rw [upd_ne _ _ (by omega)]; exact (st i hi).2
  · rw [upd_ne _ _ (by omega)]; exact m i hi
  · rw [upd_ne _ _ (by omega)]; exact a i hi
theorem TLR.guild (q : TLR k G t) (G' : Nat) : TLR (upd k 1 (nI G')) G' t := by
  obtain ⟨⟨q0, q1, q2, q3, q4, q5, q6⟩, w, fl, st, m, a⟩ := q
  refine ⟨⟨?_, upd_at _ _ _, ?_, ?_, ?_, ?_, ?_⟩, fun g hg => ?_, fun j g hj hg => ?_, fun i hi => ⟨?_, ?_⟩, fun i hi => ?_, fun i hi => ?_⟩
  · rw [upd_ne _ _ (by decide)]; exact q0
  · rw [upd_ne _ _ (by decide)]; exact q2
  · rw [upd_ne _ _ (by decide)]; exact q3
  · rw [upd_ne _ _ (by decide)]; exact q4
  · rw [upd_ne _ _ (by decide)]; exact q5
  · rw [upd_ne _ _ (by decide)]; exact q6
  · rw [upd_ne _ _ (by omega)]; exact w g hg
  · rw [upd_ne _ _ (by have := off_v j hj; omega)]; exact fl j g hj hg
  · rw [upd_ne _ _ (by omega)]; exact (st i hi).1
  · rw [upd_ne _ _ (by omega)]; exact (st i hi).2
  · rw [upd_ne _ _ (by omega)]; exact m i hi
  · rw [upd_ne _ _ (by omega)]; exact a i hi
theorem TLR.flag (q : TLR k G t) {j g x : Nat} (hj : j < 5) (hg : g < 10) : TLR (upd k (off j + g) (nI x)) G (tvF t (upF (vF t.1) j g x)) := by
  have ov := off_v j hj
  obtain ⟨⟨q0, q1, q2, q3, q4, q5, q6⟩, w, fl, st, m, a⟩ := q
  refine ⟨⟨?_, ?_, ?_, ?_, ?_, ?_, ?_⟩, fun y hy => ?_, fun j' y hj' hy => ?_, fun i hi => ⟨?_, ?_⟩, fun i hi => ?_, fun i hi => ?_⟩
  · rw [upd_ne _ _ (by omega)]; exact q0
  · rw [upd_ne _ _ (by omega)]; exact q1
  · rw [upd_ne _ _ (by omega)]; exact q2
  · rw [upd_ne _ _ (by omega)]; exact q3
  · rw [upd_ne _ _ (by omega)]; exact q4
  · rw [upd_ne _ _ (by omega)]; exact q5
  · rw [upd_ne _ _ (by omega)]; exact q6
  · rw [upd_ne _ _ (by omega)]; exact w y hy
  · have ov' := off_v j' hj'
    show _ = nI (if j' = j ∧ y = g then x else vF t.1 j' y)
    by_cases z : j' = j ∧ y = g
    · rw [if_pos z, z.1, z.2, upd_at]
    · rw [if_neg z, upd_ne _ _ (by omega)]; exact fl j' y hj' hy
  · rw [upd_ne _ _ (by omega)]; exact (st i hi).1
  · rw [upd_ne _ _ (by omega)]; exact (st i hi).2
  · rw [upd_ne _ _ (by omega)]; exact m i hi
  · rw [upd_ne _ _ (by omega)]; exact a i hi
theorem TLR.whom (q : TLR k G t) {x y : Nat} (hx : x < 10) : TLR (upd k (6 + x) (nI y)) G (tvW t x y) := by
  obtain ⟨⟨q0, q1, q2, q3, q4, q5, q6⟩, w, fl, st, m, a⟩ := q
  refine ⟨⟨?_, ?_, ?_, ?_, ?_, ?_, ?_⟩, fun g hg => ?_, fun j g hj hg => ?_, fun i hi => ⟨?_, ?_⟩, fun i hi => ?_, fun i hi => ?_⟩
  · rw [upd_ne _ _ (by omega)]; exact q0
  · rw [upd_ne _ _ (by omega)]; exact q1
  · rw [upd_ne _ _ (by omega)]; exact q2
  · rw [upd_ne _ _ (by omega)]; exact q3
  · rw [upd_ne _ _ (by omega)]; exact q4
  · rw [upd_ne _ _ (by omega)]; exact q5
  · rw [upd_ne _ _ (by omega)]; exact q6
  · show _ = oI (if g = x then some y else t.2 g)
    by_cases z : g = x
    · rw [if_pos z, z, upd_at]; rfl
    · rw [if_neg z, upd_ne _ _ (by omega)]; exact w g hg
  · rw [upd_ne _ _ (by have := off_v j hj; omega)]; exact fl j g hj hg
  · rw [upd_ne _ _ (by omega)]; exact (st i hi).1
  · rw [upd_ne _ _ (by omega)]; exact (st i hi).2
  · rw [upd_ne _ _ (by omega)]; exact m i hi
  · rw [upd_ne _ _ (by omega)]; exact a i hi
theorem TLR.street (q : TLR k G t) {y p : Nat} (hT : vT t.1 < 12) : TLR (upd (upd (upd k (67 + 2 * vT t.1) (nI y)) (67 + 2 * vT t.1 + 1) (nI p)) 2 (nI (vT t.1 + 1))) G (tvS t y p) := by
  obtain ⟨⟨q0, q1, q2, q3, q4, q5, q6⟩, w, fl, st, m, a⟩ := q
  have key : ∀ i, i ≠ 2 → i ≠ 67 + 2 * vT t.1 → i ≠ 67 + 2 * vT t.1 + 1 → (upd (upd (upd k (67 + 2 * vT t.1) (nI y)) (67 + 2 * vT t.1 + 1) (nI p)) 2 (nI (vT t.1 + 1))) i = k i := fun i h1 h2 h3 => by
    rw [upd_ne _ _ h1, upd_ne _ _ h3, upd_ne _ _ h2]
  refine ⟨⟨?_, ?_, upd_at _ _ _, ?_, ?_, ?_, ?_⟩, fun g hg => ?_, fun j g hj hg => ?_, fun i hi => ?_, fun i hi => ?_, fun i hi => ?_⟩
  · rw [key _ (by omega) (by omega) (by omega)]; exact q0
  · rw [key _ (by omega) (by omega) (by omega)]; exact q1
  · rw [key _ (by omega) (by omega) (by omega)]; exact q3
  · rw [key _ (by omega) (by omega) (by omega)]; exact q4
  · rw [key _ (by omega) (by omega) (by omega)]; exact q5
  · rw [key _ (by omega) (by omega) (by omega)]; exact q6
  · rw [key _ (by omega) (by omega) (by omega)]; exact w g hg
  · have := off_v j hj
    rw [key _ (by omega) (by omega) (by omega)]; exact fl j g hj hg
  · have hi : i < vT t.1 + 1 := hi
    show _ = nI (if i = vT t.1 then y else vY t.1 i) ∧ _ = nI (if i = vT t.1 then p else vP t.1 i)
    by_cases z : i = vT t.1
    · rw [if_pos z, if_pos z, z]
      refine ⟨?_, ?_⟩
      · rw [upd_ne _ _ (by omega), upd_ne _ _ (by omega), upd_at]
      · rw [upd_ne _ _ (by omega), upd_at]
    · rw [if_neg z, if_neg z, key _ (by omega) (by omega) (by omega), key _ (by omega) (by omega) (by omega)]
      exact st i (by omega)
  · rw [key _ (by omega) (by omega) (by omega)]; exact m i hi
  · rw [key _ (by omega) (by omega) (by omega)]; exact a i hi
theorem s_num {Q : Int32 → RS → Prop} {lo hb : Nat} {hi : Int32} {K : Nat → PL} (hlo : lo < 1000) (q : RST s f n h G t) (hh : ∀ x : Nat, x < 1000 → ((x : Int) ≤ hi.toInt ↔ x < hb)) (e : numP f n h lo hb K = some r) (yes : kd f n h = 36 → lo ≤ vl f n h → vl f n h < hb → K (vl f n h) = some r → ∀ s', RMV s s' → RST s' f n (nx f n h) G t → Q (nI (vl f n h)) s') (bad : ∀ k p, r = .inr (k, p) → ∀ s', FLT s s' k p → Q (nI lo) s') : RI c (d + 2) m_R_number [.ref 2, .int (nI lo), .int hi] s Q := by
  have v9 := vl_lt (f := f) q.1.2.1
  unfold numP at e
  refine s_number (d := d) hlo q.1 q.2.1 (fun z y1 y2 s' m1 m2 => ?_) (fun z y => ?_) (fun z => ?_)
  · have y3 := (hh _ v9).mp y2
    rw [if_pos z, if_pos ⟨y1, y3⟩] at e
    exact yes z y1 y3 e s' m1 (q.mv m1 m2)
  · rw [if_pos z, if_neg (fun w => y ⟨w.1, (hh _ v9).mpr w.2⟩)] at e
    exact bad _ _ (Option.some.inj e).symm _ (FLT.of RFR.rf _ (fkk_b (by decide)))
  · rw [if_neg z] at e
    exact bad _ _ (Option.some.inj e).symm _ (FLT.of RFR.rf _ (fkk_b (by decide)))
theorem rtk_59 : ∀ k, k < 40 → (rtk k = 59 ↔ k = 25) := by decide
theorem s_stop {Q : RS → Prop} (q : RST s f n h G t) (e : stopP f n h t = some r) (hL : vL t.1 ≤ 900) (ok : r = .inl (nx f n h, t) → ∀ s', RFR s s' → RST s' f n (nx f n h) G (tvL t (vL t.1 + 1)) → Q s') (bad : ∀ k p, r = .inr (k, p) → ∀ s', FLT s s' k p → Q s') : RV c (d + 3) m_R_readStop [.ref 2] s Q := by
  unfold stopP at e
  refine w_R_readStop (s_must (d := d) (kk := 25) (rtk_59 _ (kd_40 f n h)) q.1 q.2.1 (fun z s1 m1 m2 => ?_) (fun z => ?_))
  · rw [if_pos z] at e
    have q1 := q.mv m1 m2
    refine ⟨fun y => absurd q1.2.1 y, fun _ => ⟨okn (k := 0) (by decide) (by decide), okn (k := 0) (by decide) (by decide), ?_⟩⟩
    refine ok (Option.some.inj e).symm _ (m1.fr.tel _ _) (q1.tel ?_)
    have k0 : s1.2.1 2 (ix 0) = nI (vL t.1) := q1.2.2.2.1.1
    rw [k0, nI_1]
    exact q1.2.2.2.lines _
  · rw [if_neg z] at e
    have fl : FLT s (blm s (fkk f n h 2) (bgn f n h)) (fkk f n h 2) (bgn f n h) := FLT.of RFR.rf _ (fkk_b (by decide))
    exact ⟨fun _ => bad _ _ (Option.some.inj e).symm _ fl, fun y => absurd y fl.ne⟩
theorem s_stopX {Q : RS → Prop} (h0 : ¬ s.1 12 = 0) (hq : Q s) : RV c (d + 3) m_R_readStop [.ref 2] s Q :=
  w_R_readStop (s_mustX (d := d + 1) h0 ⟨fun _ => hq, fun y => absurd y h0⟩)
end RL1
