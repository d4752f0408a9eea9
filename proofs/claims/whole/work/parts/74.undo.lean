/-! undo; nights of the reference -/
section UN1
variable {c : CX} {d : Nat} {T T4 T' : XS} {ca : Nat} {v : CV} {sd : SD} {p : List SD}
theorem sdC_nw {b : Nat} (h : sdC 93 b) : nwS b := by
  rcases h with h | h | h | h
  · exact Or.inl (by rw [h]; decide)
  · exact Or.inl (by rw [h]; decide)
  · exact Or.inl (by rw [h]; decide)
  · exact Or.inl (by rw [h]; decide)
theorem FAIR.cut (h : FAIR T4 49 ca v sd p) (m : Nat) (hm : m ≤ p.length) : FAIR (tI T4 49 2 (nI m)) 49 ca v sd (p.take m) := by
  obtain ⟨hF, hC, ⟨hd, hl⟩, ho, hi, hP⟩ := h
  have hf : frm (fun b => b = 49) T4 (tI T4 49 2 (nI m)) := frm_I (S := fun b => b = 49) (a := 49) rfl _ _
  have st : ∀ x s, STD T4 x ca s → STD (tI T4 49 2 (nI m)) x ca s := fun x s hx => by
    have := (fr_sd hF hx.1).1
    exact hf.std hx (fun e => this (Or.inl e.symm)) (fun e => this (Or.inr (Or.inl e.symm))) (fun e => this (Or.inr (Or.inr (Or.inl e.symm)))) (fun e => this (Or.inr (Or.inr (Or.inr e.symm))))
  refine ⟨hf.frs0 rfl hF, ⟨st _ _ hC.1, hf.grw.carC hC.2.1 ((rem_cv hC.2.1 hF (fun i b hi10 hb => ⟨(ho i b hi10 hb).1, (ho i b hi10 hb).2.1⟩)).mono (fun y hy => Or.inl hy)), hC.2.2⟩, ⟨by rw [xI_at, List.length_take, Nat.min_eq_left hm], by rw [List.length_take]; omega⟩, fun i b hi10 hb => ?_, hi, fun i s hs => ?_⟩
  · obtain ⟨o1, o2⟩ := ho i b hi10 hb
    exact ⟨hf.sds o1, o2⟩
  · have hs : p[i]? = some s := by
      rw [List.getElem?_take] at hs
      split at hs
      · exact hs
      · cases hs
    obtain ⟨b, h1, h2, h3⟩ := hP i s hs
    exact ⟨b, h1, st b s h2, h3⟩
theorem x_undo {Q : Int32 → XS → Prop} {E : Nat → XS → Prop} (hR : RL c) (h : FAIR T 49 ca v sd p) {n : Int32} (ok : 1 ≤ n.toInt → n.toInt ≤ p.length → ∀ s, p[p.length - n.toInt.toNat]? = some s → ∀ T', DD T T' ca v s (p.take (p.length - n.toInt.toNat)) → Q (nI (p.length - n.toInt.toNat)) T') (bad : ¬ (1 ≤ n.toInt ∧ n.toInt ≤ p.length) → E 1 (tN T 0 0 6)) : XIt c (d + 2) m_X_undo [.ref 1, .int n] T Q E := by
  have hh := h
  obtain ⟨hF, hC, ⟨hd, hl⟩, ho, hi, hP⟩ := h
  refine wx_X_undo _ ?_
  rw [hd]
  refine x_needWithin hR (fun z1 z2 => ?_) (fun z => bad (fun q => z (by rw [nI_toInt (by omega)]; exact q)))
  have z1 : 1 ≤ n.toInt := z1
  rw [nI_toInt (by omega)] at z2
  obtain ⟨s, hs⟩ : ∃ s, p[p.length - n.toInt.toNat]? = some s := ⟨_, List.getElem?_eq_getElem (by omega)⟩
  have ok := ok z1 z2 s hs
  have en : n = nI n.toInt.toNat := nI_of_toInt (by omega)
  have hn : 1 ≤ n.toInt.toNat ∧ n.toInt.toNat ≤ p.length := by omega
  generalize n.toInt.toNat = m at *
  rw [en]
  have em : nI p.length - nI m = nI (p.length - m) := nI_sub hn.2
  refine wx_Fr_takeBack _ _ ⟨fun z => absurd ((nI_ltI (b := 1) (by omega) (by decide)).mp z) (by omega), fun _ => ⟨hF, ?_⟩⟩
  rw [hd, nI_leI (by omega) (by omega), em, ix_nI (by omega)]
  refine ⟨fun _ => ⟨okn (by omega) (by decide), fun z => ?_, fun b hb => ⟨hC.1.1, ?_⟩⟩, fun z => absurd hn.2 z⟩
  · obtain ⟨b, h1, _⟩ := hP _ s hs
    rw [h1] at z; cases z
  · obtain ⟨b', h1, h2, h3⟩ := hP _ s hs
    have e : b = b' := by rw [h1] at hb; exact (Option.some.inj hb).symm
    subst e
    obtain ⟨o1, o2, o3⟩ := ho _ b (by omega) h1
    refine x_copyFrom h2 hC.1.1 (Or.inl rfl) o3 (fun T4 hf4 hs4 => ?_)
    have hf4 := hf4.mono (S' := nwS) (fun y hy => sdC_nw hy)
    have f4 := hh.now hf4 hs4 h3
    have i4 : xI T4 49 2 = nI p.length := f4.2.2.1.1
    refine ⟨f4.1, ?_⟩
    rw [i4, em, xI_at]
    have fI : frm (dS T) T4 (tI T4 49 2 (nI (p.length - m))) := frm_I (Or.inl (Or.inl rfl)) _ _
    refine ok _ ⟨(hf4.mono (S' := dS T) (fun y hy => Or.inr hy)).grw.tr fI.grw, f4.cut _ (by omega), fun i x hi10 hx => Or.inl ⟨i, hi10, ?_⟩, (hf4.gw _ _).fr fI⟩
    have e : xQ T4 (fP 49) = xQ T (fP 49) := hf4.Q (nwS_d (by decide) (by decide))
    rw [← e]
    exact hx
end UN1
section UN2
variable {c : CX} {d : Nat} {s s' : RS} {v : CV} {a : SD} {p : List SD}
theorem r_nights {Q : Int32 → RS → Prop} (h : KF (s.2.1 1) v a p) {n : Int32} (ok : 1 ≤ n.toInt → n.toInt ≤ 60 → ∀ s', RD s s' 0 v (nit v n.toInt.toNat a) (push10 p a) → Q (nI (fa_cnt (chgC a (nit v n.toInt.toNat a)) 10)) s') (bad : ¬ (1 ≤ n.toInt ∧ n.toInt ≤ 60) → ∀ s', SQ s s' 1 → Q 0 s') : RI c (d + 6) m_R_nights [.ref 2, .int n] s Q := by
  have hG := h.1.2.2.1.1
  have hk : KR (rF s 4 0) v a := h.1
  refine w_R_nights _ ?_
  rw [wth_c.1, wth_c.2]
  refine ⟨fun q => ?_, fun q => bad q _ (SQ.th2 s 0 1)⟩
  have z1 : 1 ≤ n.toInt := q.1
  have z2 : n.toInt ≤ 60 := q.2
  have en : n = nI n.toInt.toNat := nI_of_toInt (by omega)
  have ok := ok z1 z2
  have hn : n.toInt.toNat ≤ 60 := by omega
  generalize n.toInt.toNat = N at *
  rw [en]
  refine s_keeps hk (p := p) h.2 (fun k hkp hkx hkr => s_putsAside ?_)
  have h8 : ∀ x, x < 10 → (rW (rW (rF s 4 0) 1 k) 8 (fb_put ((rW (rF s 4 0) 1 k).2.1 8) (fun j => (rW (rF s 4 0) 1 k).2.1 1 (6 + j)) 0 21)).2.1 8 x = oI (a.1 x) := fun x hx => by
    rw [rW_at, fb_put_in (by omega) (by omega)]
    show (rW (rF s 4 0) 1 k).2.1 1 (6 + (x - 0)) = _
    rw [Nat.sub_zero]
    exact hkr.2.1.1 x hx
  have k2 : KR (rW (rW (rF s 4 0) 1 k) 8 (fb_put ((rW (rF s 4 0) 1 k).2.1 8) (fun j => (rW (rF s 4 0) 1 k).2.1 1 (6 + j)) 0 21)) v a := hkr.put _ (by decide)
  have p2 : KP ((rW (rW (rF s 4 0) 1 k) 8 (fb_put ((rW (rF s 4 0) 1 k).2.1 8) (fun j => (rW (rF s 4 0) 1 k).2.1 1 (6 + j)) 0 21)).2.1 1) (vG v) (push10 p a) := by
    rw [rW_ne _ _ (by decide), rW_at]; exact hkp
  have b2 : ∀ s3, SR (rW (rW (rF s 4 0) 1 k) 8 (fb_put ((rW (rF s 4 0) 1 k).2.1 8) (fun j => (rW (rF s 4 0) 1 k).2.1 1 (6 + j)) 0 21)) s3 → KF (s3.2.1 1) v (nit v N a) (push10 p a) → RD s s3 0 v (nit v N a) (push10 p a) := fun s3 hs hkf =>
    ⟨hs.1 4 (by decide) (by decide) (by decide) (by decide) (by decide) (by decide), fun j h4 a b c d e f => (hs.1 j a b c d e f).trans (if_neg h4), fun i h1 hi => (hs.2.1 i h1 hi).trans (by rw [rW_ne _ _ (by omega), rW_ne _ _ h1]; rfl), fun i hi => hs.2.2.2 i hi, hkf⟩
  generalize rW (rW (rF s 4 0) 1 k) 8 (fb_put ((rW (rF s 4 0) 1 k).2.1 8) (fun j => (rW (rF s 4 0) 1 k).2.1 1 (6 + j)) 0 21) = s2 at *
  suffices H : ∀ (m i : Nat) (s3 : RS), i + m = N → SR s2 s3 → s3.2.1 8 = s2.2.1 8 → KR s3 v (nit v i a) → eR c (d + 6) m_R_nights 33 [some (.ref 2), some (.int (nI N)), some (.int (nI i)), none] s3 (pI c Q) from H N 0 s2 (by omega) (SR.rf s2) rfl k2
  intro m
  induction m with
  | zero =>
    intro i s3 hm hsr h83 k3
    have ei : i = N := by omega
    subst ei
    refine w_R_nights_33 _ _ ⟨fun _ => ?_, fun z => absurd ((nI_leI (by omega) (by omega)).mpr (Nat.le_refl _)) z⟩
    have ok := ok s3 (b2 s3 hsr ⟨k3, p2.keep (fun x hx => hsr.2.2.1 x (by omega))⟩)
    rw [cnt_cut (p := chgC a (nit v i a)) (G := vG v) (fun x hx => decide_eq_false (fun q => q (by rw [sok_none h.1.2.2.2 hx, sok_none k3.2.2.2 hx]))) 10 hG] at ok
    suffices K : ∀ (q g : Nat), g + q = vG v → eR c (d + 6) m_R_nights 52 [some (.ref 2), some (.int (nI i)), some (.int (nI (fa_cnt (chgC a (nit v i a)) g))), some (.int (nI g))] s3 (pI c Q) from K (vG v) 0 (by omega)
    intro q
    induction q with
    | zero =>
      intro g hg
      exact w_R_nights_52 _ _ _ ⟨fun _ => by rw [show g = vG v by omega]; exact ok, fun z => absurd ((k3.gle (by omega)).mpr (by omega)) z⟩
    | succ q ihq =>
      intro g hg
      have e0 : (0 : Int32) + nI g = nI g := Int32.zero_add _
      refine w_R_nights_52 _ _ _ ⟨fun z => absurd ((k3.gle (by omega)).mp z) (by omega), fun _ => ⟨okm (by omega), by rw [e0]; exact okn (by omega) (by decide), ?_⟩⟩
      have ihq := ihq (g + 1) (by omega)
      rw [fa_cnt] at ihq
      rw [e0, ix_nI (by omega), k3.wh (by omega), h83, h8 g (by omega), oI_inj (fun x hx => by have := k3.wb hx; omega) (fun x hx => by have := k2.wb hx; omega), nI_1]
      refine ⟨fun z => ?_, fun z => ?_⟩
      · rw [show chgC a (nit v i a) g = true from decide_eq_true (fun y => z y.symm)] at ihq
        rw [nI_1]
        exact ihq
      · rw [show chgC a (nit v i a) g = false from decide_eq_false (fun y => y z.symm)] at ihq
        rw [show nI (fa_cnt (chgC a (nit v i a)) g) + 0 = nI (fa_cnt (chgC a (nit v i a)) g) from Int32.add_zero _, nI_1]
        exact ihq
  | succ m ih =>
    intro i s3 hm hsr h83 k3
    refine w_R_nights_33 _ _ ⟨fun z => absurd ((nI_leI (by omega) (by omega)).mp z) (by omega), fun _ => s_night8 (d := d) k3 (fun s4 h1 h2 h3 h4 => ?_)⟩
    rw [nI_1]
    exact ih (i + 1) s4 (by omega) (hsr.tr h1) (h2.trans h83) h4
end UN2
