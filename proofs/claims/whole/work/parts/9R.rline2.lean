/-! lines of the text, read by the reference: each kind -/
section RL2
variable {c : CX} {d n h G g : Nat} {f : Nat → Nat} {s s' s1 : RS} {t : TV} {r : (Nat × TV) ⊕ (Nat × Nat)} {Q : RS → Prop}
theorem s_begins {Q : Bool → RS → Prop} {i m v : Nat} (q : RST s f n h G t) (hv : s.2.1 2 i = nI v) (hi : i < 2101) (hm : v ≤ m ∧ m ≤ 100) (no : v ≠ m → ∀ s', RMV s s' → RST s' f n (nx f n h) G t → Q true s') (full : v = m → Q false (blm s (fkk f n h 4) (bgn f n h))) : RB c (d + 2) m_R_begins [.ref 2, .int (nI i), .int (nI m)] s Q := by
  refine w_R_begins _ _ ⟨okn hi (by decide), ?_⟩
  rw [ix_nI (by omega), hv, show (nI v = nI m) = (v = m) from propext (nI_inj (by omega) (by omega))]
  refine ⟨fun z => ⟨fun y => absurd q.2.1 y, fun _ => s_on (d := d) q.1 (fun s' m1 m2 => ?_)⟩, fun z => s_blames (k := 4) q.1 q.2.1 ?_⟩
  · have q1 := q.mv m1 m2
    exact ⟨fun y => absurd q1.2.1 y, fun _ => no z s' m1 q1⟩
  · have fl : FLT s (blm s (fkk f n h 4) (bgn f n h)) (fkk f n h 4) (bgn f n h) := FLT.of RFR.rf _ (fkk_b (by decide))
    exact ⟨fun _ => ⟨fun _ => full z, fun y => absurd y fl.ne⟩, fun y => absurd y fl.ne⟩
theorem r_guild_lp (hf : fvok c) (hg : g < 10) : ∀ (F h : Nat) (t : TV) (r : (Nat × TV) ⊕ (Nat × Nat)), gldP f n g F h t = some r → ∀ s, RST s f n h g t → (∀ h1 t1, stopP f n h1 t1 = some r → vL t1.1 = vL t.1 → vG t1.1 = vG t.1 → ∀ s', RFR s s' → RST s' f n h1 (g + 1) t1 → Q s') → (∀ k p, r = .inr (k, p) → ∀ s', FLT s s' k p → Q s') → eR c (d + 6) m_R_readGuild 20 [some (.ref 2), some (.int (nI g)), some (.int 1)] s (pV c Q)
  | 0, _, _, _, e => by rw [gldP] at e; cases e
  | F + 1, h, t, r, e => by
    intro s q stop bad
    rw [gldP] at e
    have taken : ∀ j, j < 5 → kd f n h = 5 + j → ∀ s1, RMV s s1 → RTK s1 f n (nx f n h) → RI c (d + 5) m_R_number [.ref 2, .int (nI (flo j)), .int (nI (fhi j))] s1 (fun v s2 => okx (nI (off j) + nI g) 2101 ∧ eR c (d + 6) m_R_readGuild 20 [some (.ref 2), some (.int (nI g)), some (.int 1)] (rA s2 2 (ix (nI (off j) + nI g)) v) (pV c Q)) := fun j hj z s1 m1 m2 => by
      rw [if_neg (by omega), if_pos (by omega), show kd f n h - 5 = j by omega] at e
      obtain ⟨b1, b2, b3, b4, b5, b6, b7, b8⟩ := flg_b j hj
      have ov := off_v j hj
      have okk : okx (nI (off j) + nI g) 2101 := by rw [nI_add]; exact okn (by omega) (by decide)
      have q1 := q.mv m1 m2
      rw [nI_add, ix_nI (by omega)] at *
      refine s_num (d := d + 3) (by omega) q1 (fun x hx => by rw [nI_toInt (by omega)]; omega) e (fun y1 y2 y3 y4 s2 m3 q2 => ⟨okk, ?_⟩) (fun k p er s2 fl => ⟨okk, ?_⟩)
      · have q3 := q2.tel (q2.2.2.2.flag (x := vl f n (nx f n h)) hj hg)
        have rf : RFR s (rA s2 2 (off j + g) (nI (vl f n (nx f n h)))) := (m1.fr.tr m3.fr).tel _ _
        exact r_guild_lp hf hg F _ _ r y4 _ q3 (fun h1 t1 e1 l1 l2 s' r1 q' => stop h1 t1 e1 l1 l2 s' (rf.tr r1) q') (fun k p er s' fl => bad k p er s' (FLT.af rf fl))
      · have fl2 := (FLT.af m1.fr fl).tel (off j + g) (nI (flo j))
        refine w_R_readGuild_20 _ _ ⟨fun y => absurd y (by decide), fun _ => ⟨fun _ => ⟨fun _ => bad k p er _ fl2, fun y => absurd y fl2.ne⟩, fun y => absurd y fl2.ne⟩⟩
    have fin : ¬ (5 ≤ kd f n h ∧ kd f n h ≤ 9) → eR c (d + 6) m_R_readGuild 20 [some (.ref 2), some (.int (nI g)), some (.int 0)] s (pV c Q) := fun z => by
      have e' : stopP f n h t = some r := by
        unfold stopP
        by_cases y : kd f n h = 25
        · rw [if_pos y] at e ⊢; exact e
        · rw [if_neg y, if_neg z] at e; rw [if_neg y]; exact e
      refine w_R_readGuild_20 _ _ ⟨fun _ => ⟨fun y => absurd q.2.1 y, fun _ => ⟨okn (k := 1) (by decide) (by decide), okn (k := 1) (by decide) (by decide), ?_⟩⟩, fun y => absurd rfl y⟩
      have k1 : s.2.1 2 (ix 1) = nI g := q.2.2.2.1.2.1
      rw [k1, nI_1]
      exact stop h t e' rfl rfl _ (RFR.rf.tel _ _) (q.tel (q.2.2.2.guild (g + 1)))
    refine w_R_readGuild_20 _ _ ⟨fun y => absurd y (by decide), fun _ => ⟨fun y => absurd q.2.1 y, fun _ => ?_⟩⟩
    refine s_took (d := d) sw_5 hf (by decide) q.1 q.2.1 (fun z s1 m1 m2 => ⟨fun y => (by cases y), fun _ => taken 0 (by decide) z s1 m1 m2⟩) (fun z5 => ⟨fun _ => ?_, fun y => by cases y⟩)
    refine s_took (d := d) sw_6 hf (by decide) q.1 q.2.1 (fun z s1 m1 m2 => ⟨fun y => (by cases y), fun _ => taken 1 (by decide) z s1 m1 m2⟩) (fun z6 => ⟨fun _ => ?_, fun y => by cases y⟩)
    refine s_took (d := d) sw_7 hf (by decide) q.1 q.2.1 (fun z s1 m1 m2 => ⟨fun y => (by cases y), fun _ => taken 2 (by decide) z s1 m1 m2⟩) (fun z7 => ⟨fun _ => ?_, fun y => by cases y⟩)
    refine s_took (d := d) sw_8 hf (by decide) q.1 q.2.1 (fun z s1 m1 m2 => ⟨fun y => (by cases y), fun _ => taken 3 (by decide) z s1 m1 m2⟩) (fun z8 => ⟨fun _ => ?_, fun y => by cases y⟩)
    exact s_took (d := d) sw_9 hf (by decide) q.1 q.2.1 (fun z s1 m1 m2 => ⟨fun y => (by cases y), fun _ => taken 4 (by decide) z s1 m1 m2⟩) (fun z9 => ⟨fun _ => fin (by omega), fun y => by cases y⟩)
/-- where the semicolon must stand -/
def STP (f : Nat → Nat) (n : Nat) (s : RS) (t : TV) (r : (Nat × TV) ⊕ (Nat × Nat)) (Q : RS → Prop) : Prop := ∀ h1 t1, stopP f n h1 t1 = some r → vL t1.1 = vL t.1 → ∀ s', RFR s s' → RST s' f n h1 (vG t1.1) t1 → Q s'
theorem r_guildL (hf : fvok c) (q : RST s f n h (vG t.1) t) (tok : TOK t) (hk : kd f n h = 0) (e : lineP f n h t = some r) (stop : STP f n s t r Q) (bad : ∀ k p, r = .inr (k, p) → ∀ s', FLT s s' k p → Q s') : RV c (d + 6) m_R_readGuild [.ref 2] s Q := by
  have hG : vG t.1 ≤ 10 := tok.1.1
  unfold lineP at e
  rw [if_pos hk] at e
  refine w_R_readGuild (s_begins (d := d + 3) (i := 1) (m := 10) (v := vG t.1) q q.2.2.2.1.2.1 (by decide) ⟨hG, by decide⟩ (fun z s1 m1 q1 => ⟨fun _ => ⟨okn (k := 1) (by decide) (by decide), ?_⟩, fun y => by cases y⟩) (fun z => ⟨fun y => (by cases y), fun _ => ?_⟩))
  · rw [if_pos (by omega)] at e
    have k1 : s1.2.1 2 (ix 1) = nI (vG t.1) := q1.2.2.2.1.2.1
    rw [k1]
    exact r_guild_lp hf (by omega) _ _ _ r e s1 ⟨q1.1, q1.2.1, q1.2.2.1, q1.2.2.2⟩ (fun h1 t1 e1 l1 l2 s' r1 q' => stop h1 t1 e1 l1 s' (m1.fr.tr r1) (by rw [l2]; exact q')) (fun k p er s' fl => bad k p er s' (FLT.af m1.fr fl))
  · rw [if_neg (by omega)] at e
    exact bad _ _ (Option.some.inj e).symm _ (FLT.of RFR.rf _ (fkk_b (by decide)))
theorem hiG {G : Nat} (hG : G ≤ 10) (x : Nat) (_ : x < 1000) : ((x : Int) ≤ (nI G - 1 : Int32).toInt ↔ x < G) := by
  rw [show (nI G - 1 : Int32).toInt = (G : Int) - 1 from sub_toInt (y := 1) (by omega) (by decide)]
  omega
theorem rtk_2 : ∀ k, k < 40 → (rtk k = 2 ↔ k = 36) := by decide
theorem r_mocksL (q : RST s f n (nx f n h) (vG t.1) t) (tok : TOK t) (hk : kd f n h = 1) (e : lineP f n h t = some r) (stop : STP f n s t r Q) (bad : ∀ k p, r = .inr (k, p) → ∀ s', FLT s s' k p → Q s') : RV c (d + 3) m_R_readMocks [.ref 2] s Q := by
  have hG : vG t.1 ≤ 10 := tok.1.1
  unfold lineP at e
  rw [if_neg (by omega), if_pos hk] at e
  have k1 : s.2.1 2 (ix 1) = nI (vG t.1) := q.2.2.2.1.2.1
  refine w_R_readMocks ⟨okn (k := 1) (by decide) (by decide), ?_⟩
  rw [k1]
  refine s_num (d := d) (lo := 0) (by decide) q (hiG hG) e (fun y1 y2 y3 y4 s1 m1 q1 => ?_) (fun k p er s1 fl => ⟨fun _ => ⟨okn (k := 1) (by decide) (by decide), s_numberX (d := d + 1) fl.ne ⟨fun _ => bad k p er s1 fl, fun y => absurd y fl.ne⟩⟩, fun y => absurd y fl.ne⟩)
  refine ⟨fun y => absurd q1.2.1 y, fun _ => ?_⟩
  have y4 : numP f n (nx f n (nx f n h)) 0 (vG t.1) (fun b => if vl f n (nx f n h) = b then ft f n (nx f n (nx f n h)) 3 else stopP f n (nx f n (nx f n (nx f n h))) (tvW t (vl f n (nx f n h)) b)) = some r := y4
  have k2 : s1.2.1 2 (ix 1) = nI (vG t.1) := q1.2.2.2.1.2.1
  have v9 := vl_lt (f := f) q1.1.2.1
  rw [k2, q1.1.2.2.2.2.1, show (rtk (kd f n (nx f n (nx f n h))) = (2 : Int32)) = (kd f n (nx f n (nx f n h)) = 36) from propext (rtk_2 _ (kd_40 _ _ _))]
  have cont : (kd f n (nx f n (nx f n h)) = 36 → vl f n (nx f n h) ≠ vl f n (nx f n (nx f n h))) → okx 1 2101 ∧ RI c (d + 2) m_R_number [.ref 2, .int 0, .int (nI (vG t.1) - 1)] s1 (fun v4 s3 => ((¬ (s3.1 12) = 0 → Q s3) ∧ ((s3.1 12) = 0 → (okx (6 + nI (vl f n (nx f n h))) 2101 ∧ Q (rA s3 2 (ix (6 + nI (vl f n (nx f n h)))) v4))))) := fun hne => by
    refine ⟨okn (k := 1) (by decide) (by decide), s_num (d := d) (lo := 0) (by decide) q1 (hiG hG) y4 (fun x1 x2 x3 x4 s3 m3 q3 => ⟨fun y => absurd q3.2.1 y, fun _ => ⟨okA 6 (by omega) (by decide), ?_⟩⟩) (fun k p er s3 fl => ⟨fun _ => bad k p er s3 (FLT.af m1.fr fl), fun y => absurd y fl.ne⟩)⟩
    have x4 : (if vl f n (nx f n h) = vl f n (nx f n (nx f n h)) then ft f n (nx f n (nx f n h)) 3 else stopP f n (nx f n (nx f n (nx f n h))) (tvW t (vl f n (nx f n h)) (vl f n (nx f n (nx f n h))))) = some r := x4
    rw [if_neg (hne x1)] at x4
    rw [show ix (6 + nI (vl f n (nx f n h))) = 6 + vl f n (nx f n h) from ixA 6 (by omega)]
    exact stop _ _ x4 rfl _ ((m1.fr.tr m3.fr).tel _ _) (q3.tel (q3.2.2.2.whom (by omega)))
  refine ⟨fun z => cont (fun w => absurd w z), fun z => ?_⟩
  rw [q1.1.2.2.2.2.2 z, show (nI (vl f n (nx f n (nx f n h))) = nI (vl f n (nx f n h))) = (vl f n (nx f n (nx f n h)) = vl f n (nx f n h)) from propext (nI_inj (by omega) (by omega))]
  refine ⟨fun y => cont (fun _ w => y w.symm), fun y => ?_⟩
  have er : ft f n (nx f n (nx f n h)) 3 = some r := by
    unfold numP at y4
    rw [if_pos z, if_pos ⟨Nat.zero_le _, by omega⟩] at y4
    dsimp only at y4
    rw [if_pos y.symm] at y4
    exact y4
  refine s_blames (k := 3) q1.1 q1.2.1 ?_
  have fl : FLT s (blm s1 (fkk f n (nx f n (nx f n h)) 3) (bgn f n (nx f n (nx f n h)))) (fkk f n (nx f n (nx f n h)) 3) (bgn f n (nx f n (nx f n h))) := FLT.of m1.fr _ (fkk_b (by decide))
  exact ⟨okn (k := 1) (by decide) (by decide), s_numberX (d := d + 1) fl.ne ⟨fun _ => bad _ _ (Option.some.inj er).symm _ fl, fun y => absurd y fl.ne⟩⟩
end RL2
