/-! undo of the reference -/
section UR1
variable {c : CX} {d : Nat} {s s' : RS} {v : CV} {a : SD} {p : List SD}
theorem KP.cut {k k' : Nat → Int32} {G m : Nat} (h : KP k G p) (hm : m ≤ p.length) (h5 : k' 5 = nI m) (hx : ∀ x, 91 ≤ x ∧ x < 301 → k' x = k x) : KP k' G (p.take m) := by
  refine ⟨by rw [h5, List.length_take, Nat.min_eq_left hm], by rw [List.length_take]; have := h.2.1; omega, fun i b hb => ?_⟩
  have hb : p[i]? = some b := by
    rw [List.getElem?_take] at hb
    split at hb
    · exact hb
    · cases hb
  obtain ⟨h1, h2⟩ := h.2.2 i b hb
  have hlt := (List.getElem?_eq_some_iff.mp hb).1
  have := h.2.1
  exact ⟨h1.keep (fun x hx' => hx _ (by omega)), h2⟩
theorem r_undo {Q : Int32 → RS → Prop} (h : KF (s.2.1 1) v a p) {n : Int32} (ok : 1 ≤ n.toInt → n.toInt ≤ p.length → ∀ t, p[p.length - n.toInt.toNat]? = some t → ∀ s', RD s s' 0 v t (p.take (p.length - n.toInt.toNat)) → Q (nI (p.length - n.toInt.toNat)) s') (bad : ¬ (1 ≤ n.toInt ∧ n.toInt ≤ p.length) → ∀ s', SQ s s' 1 → Q 0 s') : RI c (d + 1) m_R_undo [.ref 2, .int n] s Q := by
  have hl := h.2.2.1
  have h5 : s.2.1 1 5 = nI p.length := h.2.1
  refine w_R_undo _ ?_
  rw [wth_c.1, wth_c.2, show s.2.1 1 (ix 5) = nI p.length from h5, fa_le, nI_toInt (by omega), show ((1 : Int64).toInt : Int) = 1 from rfl, show ((10 : Int64).toInt : Int) = 10 from rfl]
  refine ⟨fun q => bad (fun y => q (by omega)) _ (SQ.th2 s 0 1), fun q => ⟨rfl, fun z => ⟨rfl, rfl, ?_⟩, fun z => bad (fun y => z y.2) _ (SQ.th2 s 0 1)⟩⟩
  obtain ⟨t, ht⟩ : ∃ t, p[p.length - n.toInt.toNat]? = some t := ⟨_, List.getElem?_eq_getElem (by omega)⟩
  have ok := ok q.1 z t ht
  have en : n = nI n.toInt.toNat := nI_of_toInt (by omega)
  have hn : 1 ≤ n.toInt.toNat ∧ n.toInt.toNat ≤ p.length := by omega
  generalize n.toInt.toNat = m at *
  have em : nI p.length - nI m = nI (p.length - m) := nI_sub hn.2
  rw [en, em, show ix 5 = 5 from rfl, rA_W]
  generalize eM : p.length - m = M at *
  have hM : M < 10 := by omega
  have e1 : (rF s 4 0).2.1 1 = s.2.1 1 := rfl
  rw [e1]
  suffices H : ∀ (q i : Nat), i + q = 21 → eR c (d + 1) m_R_undo 45 [some (.ref 2), some (.int (nI m)), some (.int (nI i))] (rW (rF s 4 0) 1 (fb_put (upd (s.2.1 1) 5 (nI M)) (fun j => s.2.1 1 (91 + 21 * M + j)) 6 i)) (pI c Q) by
    have := H 21 0 (by omega)
    rw [fb_put_0] at this
    exact this
  have e5 : ∀ i, i ≤ 21 → (rW (rF s 4 0) 1 (fb_put (upd (s.2.1 1) 5 (nI M)) (fun j => s.2.1 1 (91 + 21 * M + j)) 6 i)).2.1 1 (ix 5) = nI M := fun i hi => by
    rw [rW_at, show ix 5 = 5 from rfl, fb_put_out (by omega)]
    exact if_pos rfl
  intro q
  induction q with
  | zero =>
    intro i hi
    have ei : i = 21 := by omega
    subst ei
    refine w_R_undo_45 _ _ ⟨fun _ => ⟨rfl, ?_⟩, fun z => absurd (by decide) z⟩
    rw [e5 21 (by omega)]
    obtain ⟨t1, t2⟩ := h.2.2.2 M t ht
    refine ok _ (RD.of rfl (fun j hj => if_neg hj) (fun i' q1 _ => rW_ne _ _ q1) rfl ?_)
    rw [rW_at]
    refine ⟨⟨h.1.1.keep h.1.2.2.1 (fun x hx => ?_), ?_, h.1.2.2.1, t2⟩, h.2.cut (by omega) ?_ (fun x hx => ?_)⟩
    · rw [fb_put_out (by omega)]; exact if_neg (by omega)
    · refine t1.keep (fun x hx => ?_)
      rw [fb_put_in (by omega) (by omega)]
      show s.2.1 1 (91 + 21 * M + (6 + x - 6)) = _
      rw [show 6 + x - 6 = x by omega]
    · rw [fb_put_out (by omega)]; exact if_pos rfl
    · rw [fb_put_out (by omega)]; exact if_neg (by omega)
  | succ q ih =>
    intro i hi
    have ei : 91 + 21 * nI M + nI i = nI (91 + 21 * M + i) := by
      rw [show (91 : Int32) + 21 * nI M = nI (91 + 21 * M) by rw [show (21 : Int32) * nI M = nI (21 * M) from nI_mul 21 M]; exact nI_add 91 _, nI_add]
    refine w_R_undo_45 _ _ ⟨fun z => absurd ((nI_leI (a := 21) (by decide) (by omega)).mp z) (by omega), fun _ => ⟨rfl, ?_⟩⟩
    rw [e5 i (by omega), ei, ix_nI (by omega), show ix (6 + nI i) = 6 + i from ixA 6 (by omega), nI_1]
    refine ⟨okn (by omega) (by decide), okA 6 (by omega) (by decide), ?_⟩
    rw [rA_W, rW_W, rW_at, fb_put_out (k := 91 + 21 * M + i) (by omega), show upd (s.2.1 1) 5 (nI M) (91 + 21 * M + i) = s.2.1 1 (91 + 21 * M + i) from if_neg (by omega)]
    rw [fb_put_succ (upd (s.2.1 1) 5 (nI M)) (fun j => s.2.1 1 (91 + 21 * M + j)) 6 i]
    exact ih (i + 1) (by omega)
end UR1
