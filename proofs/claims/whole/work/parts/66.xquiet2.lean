/-! .. the orders laid out -/
section QX2
variable {c : CX} {d : Nat} {T T' : XS} {ca : Nat} {v : CV} {sd : SD} {st : Nat}
theorem arr_1 {Q : XS → Prop} (h : CS T 93 ca v sd) (h8 : pop st ≤ 8) (hst : st < 2 ^ vG v) (hk : ∀ T1, frm qtS T T1 → MB T1 st → eX c (d + 1) m_Qt_arrange 67 [some (.ref 157), some (.ref ca), some (.int (nI st)), some (.int (nI (2 ^ pop st - 1))), none, none] T1 (yV c Q)) : ∀ (m k : Nat) (T1 : XS), k + m = vG v → frm qtS T T1 → xI T1 157 3 = nI (memL st k).length → (∀ j x, (memL st k)[j]? = some x → xA T1 161 j = nI x) → eX c (d + 1) m_Qt_arrange 7 [some (.ref 157), some (.ref ca), some (.int (nI st)), some (.int (nI k)), none, none] T1 (yV c Q) := by
  have hG := h.G
  have h1024 : st < 1024 := Nat.lt_of_lt_of_le hst (show 2 ^ vG v ≤ 2 ^ 10 from Nat.pow_le_pow_right (by decide) hG)
  intro m
  induction m with
  | zero =>
    intro k T1 hkm hf h3 hA
    have h1 := (hf.mono (fun b hb => qtS_scr hb)).CSs h (by decide)
    refine wx_Qt_arrange_7 _ _ _ ⟨h1.2.1.1, fun _ => ?_, fun z => absurd (by rw [h1.gs]; exact (nI_leI (by omega) (by omega)).mpr (by omega)) z⟩
    have ek : memL st k = memL st 10 := by rw [show k = vG v by omega]; exact memL_10 hG hst
    rw [ek] at h3 hA
    have hl : (memL st 10).length = pop st := memL_len st 10
    have e1 : (1 : Int32) <<< (xI T1 157 3 &&& 31) - 1 = nI (2 ^ pop st - 1) := by
      rw [h3, hl, sh1 _ (by omega)]
      exact nI_sub (b := 1) (Nat.pow_pos (by decide))
    rw [e1]
    exact hk T1 hf ⟨by rw [h3, hl], fun j hj => hA j _ (mbr_get hj)⟩
  | succ m ih =>
    intro k T1 hkm hf h3 hA
    have h1 := (hf.mono (fun b hb => qtS_scr hb)).CSs h (by decide)
    have hs := memL_s st k
    have hlen : (memL st (k + 1)).length ≤ 8 := by
      have h1 := memL_len st (k + 1)
      have h2 : fa_cnt st.testBit (k + 1) ≤ fa_cnt st.testBit 10 := by
        have key : ∀ n, fa_cnt st.testBit (k + 1) ≤ fa_cnt st.testBit (k + 1 + n) := by
          intro n
          induction n with
          | zero => exact Nat.le_refl _
          | succ n ih => exact Nat.le_trans ih (by show _ ≤ fa_cnt st.testBit (k + 1 + n + 1); rw [fa_cnt]; omega)
        have := key (10 - (k + 1))
        rwa [show k + 1 + (10 - (k + 1)) = 10 by omega] at this
      have : fa_cnt st.testBit 10 = pop st := rfl
      omega
    refine wx_Qt_arrange_7 _ _ _ ⟨h1.2.1.1, fun z => absurd (by rw [h1.gs] at z; exact (nI_leI (by omega) (by omega)).mp z) (by omega), fun _ => ?_⟩
    rw [bit_i (by omega), nI_1]
    refine ⟨fun z => ih (k + 1) T1 (by omega) hf ?_ ?_, fun z => ?_⟩
    · rw [hs, if_neg (by rw [z]; decide), List.append_nil]; exact h3
    · rw [hs, if_neg (by rw [z]; decide), List.append_nil]; exact hA
    · have z : st.testBit k = true := (Bool.not_eq_false _).mp z
      rw [if_pos z] at hs
      have hl1 : (memL st (k + 1)).length = (memL st k).length + 1 := by rw [hs, List.length_append]; rfl
      have e8 : (8 : Int32) ≤ nI (memL st k).length ↔ 8 ≤ (memL st k).length := nI_leI (a := 8) (by decide) (by omega)
      rw [h3, e8]
      refine ⟨fun y => absurd y (by omega), fun _ => ⟨okn (by omega) (by decide), ?_⟩⟩
      rw [ix_nI (by omega), nI_1]
      refine ih (k + 1) _ (by omega) (hf.tr ((frm_A (by decide) _ _).tr (frm_I (by decide) _ _))) ?_ (fun j x hx => ?_)
      · rw [xI_at, hl1]
      · show xA (tA T1 161 _ _) 161 j = _
        rw [xA_A, if_pos rfl]
        rw [hs] at hx
        unfold upd
        rcases Nat.lt_trichotomy j (memL st k).length with y | y | y
        · rw [if_neg (by omega)]
          rw [List.getElem?_append_left y] at hx
          exact hA j x hx
        · rw [if_pos y]
          rw [List.getElem?_append_right (by omega), show j - (memL st k).length = 0 by omega] at hx
          have : k = x := Option.some.inj hx
          rw [this]
        · rw [List.getElem?_eq_none (by simp; omega)] at hx
          cases hx
theorem x_arrange {Q : XS → Prop} (h : CS T 93 ca v sd) (h8 : pop st ≤ 8) (hst : st < 2 ^ vG v) (hq : ∀ T', frm scr T T' → xI T' 157 3 = nI (pop st) → xI T' 157 4 = nI (qtN v st) → (∀ i x, (qtO v st)[i]? = some x → xA T' 165 i = nI x) → Q T') : XV c (d + 5) m_Qt_arrange [.ref 157, .ref ca, .int (nI st)] T Q := by
  have hG := h.G
  have h256 := p256 h8
  have hpos : 0 < 2 ^ pop st := Nat.pow_pos (by decide)
  refine wx_Qt_arrange _ _ ?_
  refine arr_1 h h8 hst (fun T1 hf1 hb1 => ?_) (vG v) 0 _ (by omega) (frm_I (by decide) _ _) rfl (fun j x hx => by cases hx)
  have hf1 := hf1.mono (S' := scr) (fun b hb => qtS_scr hb)
  suffices H : ∀ (M : Nat) (T2 : XS), M < 2 ^ pop st → frm scr T T2 → MB T2 st → TB T2 v st M → eX c (d + 5) m_Qt_arrange 67 [some (.ref 157), some (.ref ca), some (.int (nI st)), some (.int (nI M)), none, none] T2 (yV c Q) from H (2 ^ pop st - 1) T1 (by omega) hf1 hb1 (fun M' q1 q2 => by omega)
  intro M
  induction M with
  | zero =>
    intro T2 hM hf hb ht
    refine wx_Qt_arrange_67 _ _ _ ⟨fun _ => x_follow (hf.CSs h (by decide)) hb h8 hst ht (fun T3 f3 a3 a4 a5 => hq T3 (hf.tr f3) a3 a4 a5), fun z => absurd (by decide) z⟩
  | succ M ih =>
    intro T2 hM hf hb ht
    refine wx_Qt_arrange_67 _ _ _ ⟨fun z => absurd ((nI_leI (b := 0) (by omega) (by decide)).mp z) (by omega), fun _ => ?_⟩
    suffices K : ∀ (p l : Nat) (T3 : XS), l + p = pop st → frm scr T T3 → MB T3 st → TB T3 v st (M + 1) → (∀ j, j < l → (M + 1).testBit j = true → xA T3 169 ((M + 1) * 8 + j) = nI (tv v st (M + 1) j)) → eX c (d + 5) m_Qt_arrange 74 [some (.ref 157), some (.ref ca), some (.int (nI st)), some (.int (nI (M + 1))), some (.int (nI l)), none] T3 (yV c Q) from K (pop st) 0 T2 (by omega) hf hb ht (fun j hj => by omega)
    intro p
    induction p with
    | zero =>
      intro l T3 hl hf hb ht hrow
      refine wx_Qt_arrange_74 _ _ _ _ ?_
      rw [hb.1, show nI (M + 1) + (-1) = nI M from nI_m1 (by omega)]
      refine ⟨fun _ => ih T3 (by omega) hf hb (fun M' q1 q2 j hj hMj => ?_), fun z => absurd ((nI_leI (by omega) (by omega)).mpr (by omega)) z⟩
      rcases Nat.lt_or_ge (M + 1) M' with y | y
      · exact ht M' y q2 j hj hMj
      · have : M' = M + 1 := by omega
        subst this
        exact hrow j (by omega) hMj
    | succ p ihp =>
      intro l T3 hl hf hb ht hrow
      have h3 := hf.CSs h (by decide)
      refine wx_Qt_arrange_74 _ _ _ _ ?_
      have ei : nI (M + 1) * 8 + nI l = nI ((M + 1) * 8 + l) := by rw [show nI (M + 1) * 8 = nI ((M + 1) * 8) from nI_mul _ 8, nI_add]
      rw [hb.1, bit_i (by omega), ei, nI_1, show ix (nI ((M + 1) * 8 + l)) = (M + 1) * 8 + l from ix_nI (by omega)]
      have oi : okx (nI ((M + 1) * 8 + l)) 2048 := okn (by omega) (by decide)
      have put : (M + 1).testBit l = true → eX c (d + 5) m_Qt_arrange 74 [some (.ref 157), some (.ref ca), some (.int (nI st)), some (.int (nI (M + 1))), some (.int (nI (l + 1))), none] (tA T3 169 ((M + 1) * 8 + l) (nI (tv v st (M + 1) l))) (yV c Q) := fun hMl => by
        have ne : ∀ k, k ≠ (M + 1) * 8 + l → xA (tA T3 169 ((M + 1) * 8 + l) (nI (tv v st (M + 1) l))) 169 k = xA T3 169 k := fun k hk => by
          rw [xA_A, if_pos rfl]; exact if_neg hk
        refine ihp (l + 1) _ (by omega) (hf.tr (frm_A (by decide) _ _)) ⟨hb.1, fun j hj => by rw [xA_A, if_neg (by decide)]; exact hb.2 j hj⟩ (fun M' q1 q2 j hj hMj => by rw [ne _ (by omega)]; exact ht M' q1 q2 j hj hMj) (fun j hj hMj => ?_)
        rcases Nat.lt_or_ge j l with y | y
        · rw [ne _ (by omega)]; exact hrow j y hMj
        · rw [show j = l by omega, xA_A, if_pos rfl]
          exact if_pos rfl
      refine ⟨fun z => absurd ((nI_leI (by omega) (by omega)).mp z) (by omega), fun _ => ⟨fun z => ?_, fun z => ?_⟩⟩
      · refine ihp (l + 1) T3 (by omega) hf hb ht (fun j hj hMj => ?_)
        rcases Nat.lt_or_ge j l with y | y
        · exact hrow j y hMj
        · rw [show j = l by omega, z] at hMj; cases hMj
      · have z : (M + 1).testBit l = true := (Bool.not_eq_false _).mp z
        have put := put z
        have ho : ∀ x, some l = some x → x < pop st := fun x hx => by have := Option.some.inj hx; omega
        have eo : nI l = oI (some l) := rfl
        rw [eo]
        cases hc : fa_cnt (cm (M + 1)) (pop st) with
        | zero =>
          refine x_bestBehind (n := 0) (o := some l) (d := d + 1) h3 hb h8 hst ht hM ho (Or.inr hc) ?_
          have hno : lst (cm (M + 1)) (bhF (eI v st) (pop st) 0 (some l) (cm (M + 1))) (pop st) = none := by
            rcases lst_spec (cm (M + 1)) (bhF (eI v st) (pop st) 0 (some l) (cm (M + 1))) (pop st) with ⟨q, _⟩ | ⟨b, _, q2, q3, _⟩
            · exact q
            · have := cnt_rm q3 (pop st) q2; omega
          rw [hno]
          have e0 : tv v st (M + 1) l = 0 := by unfold tv; rw [hc]; rfl
          rw [e0] at put
          exact ⟨fun y => absurd rfl y, fun _ => ⟨oi, put⟩⟩
        | succ n =>
          refine x_bestBehind (n := n) (o := some l) (d := d + 1) h3 hb h8 hst ht hM ho (Or.inl hc) ?_
          obtain ⟨b, l1, l2, l3, l4⟩ := lst_cnt (f := bhF (eI v st) (pop st) n (some l) (cm (M + 1))) hc
          have hbM : (M + 1).testBit b = false := by unfold cm at l3; simpa using l3
          rw [l1]
          refine ⟨fun _ => x_with (o := some l) (d := d + 2) h3 hb h8 hst ht hM ho l2 hbM hc ⟨oi, ?_⟩, fun y => ?_⟩
          · have et : tv v st (M + 1) l = bhF (eI v st) (pop st) n (some l) (cm (M + 1)) b := by unfold tv; rw [hc]; exact mcG_s l1
            rw [et] at put
            exact put
          · have := (oI_m1 (o := some b) (fun k hk => by have := Option.some.inj hk; omega)).mp y
            cases this
theorem x_quietest {Q : Int32 → XS → Prop} {E : Nat → XS → Prop} (hR : RL c) (h : CS T 93 ca v sd) {st wt : Int32} (ok : qtA v st wt → ∀ T', frm scr T T' → Q (qtV v st.toInt.toNat wt) T') (bad : ¬ qtA v st wt → E 1 (tN T 0 0 6)) : XIt c (d + 6) m_X_quietest [.ref 1, .int st, .int wt] T Q E := by
  have hG := h.G
  have h4 : ((2 ^ vG v : Nat) : Int) = (2 : Int) ^ vG v := by simp
  have h10 : (2 : Nat) ^ vG v ≤ 2 ^ 10 := Nat.pow_le_pow_right (by decide) hG
  have h10 : (2 : Nat) ^ vG v ≤ 1024 := h10
  refine wx_X_quietest hR _ _ ⟨ca, h.fc, fun z => bad (fun q => ?_), fun z => ⟨h.2.1.1, ?_⟩⟩
  · have := q.1.1
    rw [fa_lt, show ((0 : Int32).toInt : Int) = 0 from rfl] at z
    omega
  rw [h.gs, sh10 _ (by omega), fa_le, nI_toInt (by omega)]
  refine ⟨fun y => bad (fun q => ?_), fun y => ?_⟩
  · have := q.1.2
    rw [← h4] at this
    omega
  rw [fa_lt, show ((0 : Int32).toInt : Int) = 0 from rfl] at z
  have hz : 0 ≤ st.toInt ∧ st.toInt < 2 ^ vG v := by rw [← h4]; omega
  obtain ⟨e, h1024, hlt⟩ := st_of hG hz
  have hqa : qtA v st wt ↔ pop st.toInt.toNat ≤ 8 ∧ (wt = 0 ∨ (10 ≤ wt.toInt ∧ wt.toInt ≤ 17)) := ⟨fun q => q.2, fun q => ⟨hz, q⟩⟩
  rw [hqa] at ok bad
  clear z y hz hqa
  generalize st.toInt.toNat = n at *
  have hp := pop_le n h1024
  have e8 : nI (pop n) ≤ (8 : Int32) ↔ pop n ≤ 8 := nI_leI (b := 8) (by omega) (by decide)
  rw [e, bcI_nI n h1024, e8]
  refine ⟨fun y => ?_, fun y => bad (fun q => y q.1)⟩
  have hlen := qtO_len v n
  have fin : ∀ T4, (wt = 0 ∨ (10 ≤ wt.toInt ∧ wt.toInt ≤ 17)) → frm scr T T4 → xI T4 157 3 = nI (pop n) → xI T4 157 4 = nI (qtN v n) → (∀ i x, (qtO v n)[i]? = some x → xA T4 165 i = nI x) → ((¬ wt = 0 → XI c (d + 5) m_Qt_walksAt [.ref 157, .int (wt - 10)] T4 (fun v6 T5 => Q v6 T5)) ∧ (wt = 0 → Q (xI T4 157 4) T4)) := fun T4 hw f4 a3 a4 a5 => by
    have ok := ok ⟨y, hw⟩ T4 f4
    unfold qtV at ok
    refine ⟨fun y => ?_, fun y => by rw [if_pos y] at ok; rw [a4]; exact ok⟩
    rw [if_neg y] at ok
    have hw : 10 ≤ wt.toInt ∧ wt.toInt ≤ 17 := hw.elim (fun t => absurd t y) id
    have ew : wt - 10 = nI (wt.toInt.toNat - 10) := by
      have : wt = nI wt.toInt.toNat := nI_of_toInt (by omega)
      rw [show wt - 10 = nI wt.toInt.toNat - nI 10 by rw [← this]; rfl]
      exact nI_sub (by omega)
    have hk : wt.toInt.toNat - 10 < 8 := by omega
    generalize wt.toInt.toNat - 10 = k at *
    rw [ew]
    refine wx_Qt_walksAt _ ⟨fun q => absurd ((nI_ltI (b := 0) (by omega) (by decide)).mp q) (by omega), fun _ => ?_⟩
    rw [a3, nI_leI (by omega) (by omega), ix_nI (by omega)]
    refine ⟨fun z => ?_, fun z => ⟨okn (by omega) (by decide), ?_⟩⟩
    · rw [List.getElem?_eq_none (by omega)] at ok
      exact ok
    · obtain ⟨x, hx⟩ : ∃ x, (qtO v n)[k]? = some x := ⟨_, List.getElem?_eq_getElem (by omega)⟩
      rw [hx] at ok
      rw [a5 k x hx]
      exact ok
  refine ⟨fun w => x_arrange h y hlt (fun T4 f4 a3 a4 a5 => fin T4 (Or.inl w) f4 a3 a4 a5), fun w => ?_⟩
  rw [fa_lt, fa_le, show ((10 : Int32).toInt : Int) = 10 from rfl, show ((17 : Int32).toInt : Int) = 17 from rfl]
  exact ⟨fun q => bad (fun t => t.2.elim w (fun u => by omega)), fun q => ⟨fun q2 => x_arrange h y hlt (fun T4 f4 a3 a4 a5 => fin T4 (Or.inr ⟨by omega, q2⟩) f4 a3 a4 a5), fun q2 => bad (fun t => t.2.elim w (fun u => by omega))⟩⟩
end QX2
