/-! told deeds on trays, weeks, what was seen: of the reference -/
section JR0
variable {c : CX} {d : Nat} {s s' s0 : RS} {v : CV} {a : SD}
theorem s_night9 {Q : RS → Prop} (h : KR s v a) (hq : ∀ s', SR s s' → s'.2.1 8 = s.2.1 8 → (s'.1 = s.1 ∧ s'.2.2 = s.2.2) → KR s' v (nightS v a) → Q s') : RV c (d + 5) m_R_night [.ref 2] s Q := by
  have hG := h.2.2.1.1
  refine w_R_night ?_
  have e := night_lp1 (c := c) (d := d) (Q := Q) h ?_ (vG v) 0 (s.2.1 6) (s.2.1 7) (by omega) (fun j hj => by omega)
  · rw [rW_id, rW_id] at e
    exact e
  · intro f n hn
    have hh := (h.put f (show 6 ≠ 1 by decide)).put n (show 7 ≠ 1 by decide)
    have e := night_lp2 (c := c) (d := d + 4) (Q := Q) hh (n := n) (rW_at _ _ _) (vG v) 0 (by omega) ?_
    · rw [fb_put_0, rW_id] at e
      exact e
    · rw [rW_ne _ n (by decide), rW_ne _ f (by decide)]
      have hs : SR s (rW (rW (rW s 6 f) 7 n) 1 (upd (fb_put (s.2.1 1) n 6 (vG v)) 26 (s.2.1 1 26 + 1))) := by
        refine ((SR.w s f (by decide)).tr (SR.w _ n (by decide))).tr (SR.w1 _ _ (fun x hx => ?_))
        rw [rW_ne _ n (by decide), rW_ne _ f (by decide)]
        unfold upd
        rw [if_neg (by omega), fb_put_out (by omega)]
      refine hq _ hs (by rw [rW_ne _ _ (by decide), rW_ne _ _ (by decide), rW_ne _ _ (by decide)]) ⟨rfl, rfl⟩ (h.sr hs ?_ (nightS_ok h))
      rw [rW_at]
      refine ⟨fun g hg => ?_, fun g hg => ?_, ?_⟩
      · unfold upd
        rw [if_neg (by omega)]
        by_cases q : g < vG v
        · rw [fb_put_in (by omega) (by omega), show 6 + g - 6 = g by omega, hn g q]
          rfl
        · rw [fb_put_out (by omega), h.2.1.1 g hg]
          show _ = oI (thenW v a g)
          rw [thenW_big h (by omega)]
          cases e : a.1 g with
          | none => rfl
          | some x => have := h.2.2.2.1 g x e; omega
      · unfold upd
        rw [if_neg (by omega), fb_put_out (by omega), h.2.1.2.1 g hg]
        rfl
      · show upd _ 26 _ 26 = _
        unfold upd
        rw [if_pos rfl, show s.2.1 1 26 = a.2.2 from h.2.1.2.2]
        rfl
theorem s_does9 {Q : RS → Prop} (h : KR s v a) {x : Int32} {z : Int} (hx : x.toInt = z) (hz : whyT v a z = 0) (hq : ∀ s', SR s s' → s'.2.1 8 = s.2.1 8 → (s'.1 = s.1 ∧ s'.2.2 = s.2.2) → KR s' v (doS v a z) → Q s') : RV c (d + 6) m_R_does [.ref 2, .int x] s Q := by
  have hG := h.2.2.1.1
  have hok := doS_sok hG h.2.2.2 hz
  have em : ((-1 : Int32).toInt : Int) = -1 := rfl
  refine w_R_does _ ⟨fun q => ?_, fun q => ?_⟩
  · rw [fa_eq, em, hx] at q
    have hd : doS v a z = turnS a (z / 100).toNat (if z % 100 = 99 then none else some (z % 100).toNat) := by unfold doS; rw [if_neg q]
    rcases whyT_0 hz with q1 | ⟨q2, q3, q4⟩
    · exact absurd q1 q
    · have ex : x = nI z.toNat := by rw [← hx]; exact nI_of_toInt (by omega)
      have hn : z.toNat < 1024 := by omega
      have i1 : z / 100 = ((z.toNat / 100 : Nat) : Int) := by omega
      have i2 : z % 100 = ((z.toNat % 100 : Nat) : Int) := by omega
      have hi : z.toNat / 100 < 10 := by omega
      rw [i1, i2] at hd
      generalize z.toNat = n at *
      have e6 : ix (6 + nI (n / 100)) = 6 + n / 100 := ixA 6 (by omega)
      have fin : ∀ o : Option Nat, doS v a z = turnS a (n / 100) o → Q (rA s 1 (6 + n / 100) (oI o)) := fun o ho => by
        refine hq _ (SR.turn s _ (by omega)) rfl ⟨rfl, rfl⟩ (h.sr (SR.turn s _ (by omega)) ?_ hok)
        rw [ho, rA_W, rW_at]
        exact h.2.1.turn hi o
      rw [ex, (i_div n hn).2, (i_div n hn).1, e6]
      refine ⟨fun q5 => ⟨okm hi, ?_⟩, fun q5 => ⟨okm hi, ?_⟩⟩
      · have q5 : n % 100 ≠ 99 := fun y => q5 (by rw [y]; rfl)
        refine fin (some (n % 100)) ?_
        rw [hd, if_neg (by omega)]
        rfl
      · have q5 : n % 100 = 99 := (nI_inj (b := 99) (by omega) (by decide)).mp q5
        refine fin none ?_
        rw [hd, if_pos (by omega)]
        rfl
  · rw [fa_eq, em, hx] at q
    have hd : doS v a z = nightS v a := by unfold doS; rw [if_pos q]
    exact s_night9 (d := d) h (fun s' h1 h2 h3 h4 => hq s' h1 h2 h3 (by rw [hd]; exact h4))
theorem AS.W6 (h : AS s0 s) (f : Nat → Int32) : AS s0 (rW s 6 f) := ⟨h.1.tr (SR.w _ _ (by decide)), fun x hx => by rw [rW_ne _ _ (by decide)]; exact h.2 x hx⟩
theorem t32 {x : Int64} {v : CV} {a : SD} (hG : vG v ≤ 10) (h : whyT v a x.toInt = 0) : x.toInt32.toInt = x.toInt := by
  rw [Int64.toInt_toInt32]
  rcases whyT_0 h with q | ⟨q1, q2, _⟩
  · exact fb_bmod (by omega) (by omega)
  · exact fb_bmod (by omega) (by omega)
theorem SQ.aw (s : RS) (t : Int32) (f : Nat → Int32) : SQ s (rW (rF s 4 t) 6 f) t := (SQ.th s t).W f (by decide)
end JR0
section JR1
variable {c : CX} {d : Nat} {s s' s0 : RS} {v : CV} {a : SD} {q : Nat → Option TY} {p : List SD}
theorem TRR.get (h : TRR s q) {i : Nat} {t : TY} (hi : i < 4) (ht : q i = some t) : s.2.1 15 i = nI t.1 ∧ s.2.1 16 i = nI t.2.1 ∧ tyok t ∧ ∀ j, j < 30 → s.2.2 17 (30 * i + j) = t.2.2 j := by
  rcases h i hi with w | ⟨t', w1, w2⟩
  · rw [ht] at w; cases w.1
  · have e : t' = t := by rw [ht] at w1; exact (Option.some.inj w1).symm
    subst e
    exact w2
theorem r_judge {Q : Int32 → RS → Prop} (h : TRR s q) (hk : KR s v a) {g wt : Int32} (ok : ∀ i t, g = nI i → i < 4 → q i = some t → 0 ≤ wt.toInt → wt.toInt ≤ 3 → ∀ s', SQ s s' 0 → Q (jdA v (jdg v t.2.2 t.2.1 0 a) wt) s') (bad : ¬ (0 ≤ g.toInt ∧ g.toInt ≤ 3) → ∀ s', SQ s s' 1 → Q 0 s') (bad2 : ∀ i, g = nI i → i < 4 → q i = none → ∀ s', SQ s s' 2 → Q 0 s') (bad3 : ∀ i t, g = nI i → i < 4 → q i = some t → ¬ (0 ≤ wt.toInt ∧ wt.toInt ≤ 3) → ∀ s', SQ s s' 3 → Q 0 s') : RI c (d + 8) m_R_judge [.ref 2, .int g, .int wt] s Q := by
  have hG := hk.2.2.1.1
  refine w_R_judge _ _ (s_trayFault (d := d + 5) h (fun i t eg hi ht => ⟨fun z => absurd rfl z, fun _ => ?_⟩) (fun z => ⟨fun _ => ⟨fun y => absurd y (by decide), fun _ => bad z _ (SQ.th s 1)⟩, fun y => absurd y (by decide)⟩) (fun i eg hi ht => ⟨fun _ => ⟨fun y => absurd y (by decide), fun _ => bad2 i eg hi ht _ (SQ.th s 2)⟩, fun y => absurd y (by decide)⟩))
  rw [wth_c.1, wth_c.2]
  refine ⟨fun z => ⟨fun _ => AS.go hk (fun s1 has1 hk1 => ?_), fun y => absurd (by decide) y⟩, fun z => bad3 i t eg hi ht z _ (SQ.th2 s 0 3)⟩
  have ok := ok i t eg hi ht z.1 z.2
  clear bad bad2 bad3 z
  obtain ⟨-, t2, ⟨-, t3⟩, t4⟩ := h.get hi ht
  rw [eg]
  generalize eRR : jdg v t.2.2 t.2.1 0 a = R at *
  have m16 : ∀ s2, AS s s2 → s2.2.1 16 i = nI t.2.1 := fun s2 h2 => by rw [h2.1.2.1 16 (by decide) (by decide)]; exact t2
  have n17 : ∀ s2 k, AS s s2 → k < 30 → s2.2.2 17 (30 * i + k) = t.2.2 k := fun s2 k h2 hk => by rw [h2.1.2.2.2 17 (by decide)]; exact t4 k hk
  have fin : ∀ (k w : Nat) (l3 : Int32) (b : SD) (s2 : RS), AS s s2 → KR s2 v b → (k, w, b) = R → (l3 = if w = 0 then -1 else nI k) → RI c (d + 7) m_R_mocking [.ref 2] s2 (fun v2 s1 => RV c (d + 7) m_R_laysRow [.ref 2] s1 (fun s3 => RV c (d + 7) m_R_putsBack [.ref 2] s3 (fun s4 => ((¬ wt = 0 → ((¬ wt = 1 → ((¬ wt = 2 → Q (s3.1 27) s4) ∧ (wt = 2 → Q v2 s4))) ∧ (wt = 1 → Q (nI w) s4))) ∧ (wt = 0 → Q l3 s4))))) := fun k w l3 b s2 has hkb hr hl => by
    subst hr
    refine s_mocking hkb (s_laysRow (d := d + 3) hkb (fun s3 hf3 hr3 => (has.row hf3).end_ (fun s4 hs4 => ?_)))
    have ok := ok s4 hs4
    unfold jdA at ok
    rw [show s3.1 27 = nI (cakS v b) from hr3.1.2.1, hl]
    refine ⟨fun q0 => ⟨fun q1 => ⟨fun q2 => ?_, fun q2 => ?_⟩, fun q1 => ?_⟩, fun q0 => ?_⟩
    · rwa [if_neg q0, if_neg q1, if_neg q2] at ok
    · rwa [if_neg q0, if_neg q1, if_pos q2] at ok
    · rwa [if_neg q0, if_pos q1] at ok
    · rwa [if_pos q0] at ok
  suffices H : ∀ (m k : Nat) (b : SD) (s2 : RS), k + m = t.2.1 → AS s s2 → KR s2 v b → jdg v t.2.2 m k b = R → eR c (d + 8) m_R_judge 54 [some (.ref 2), some (.int (nI i)), some (.int wt), some (.int ((-1))), some (.int 0), some (.int (nI k)), none] s2 (pI c Q) from H t.2.1 0 a s1 (by omega) has1 hk1 eRR
  intro m
  induction m with
  | zero =>
    intro k b s2 hm has hkb hr
    refine w_R_judge_54 _ _ _ _ _ ⟨okn hi (by decide), ?_⟩
    rw [ix_nI (by omega), m16 s2 has]
    exact ⟨fun _ => fin k 0 (-1) b s2 has hkb hr rfl, fun z => absurd ((nI_leI (by omega) (by omega)).mpr (by omega)) z⟩
  | succ m ih =>
    intro k b s2 hm has hkb hr
    have eo : okx (nI (30 * i + k)) 120 := okn (by omega) (by decide)
    refine w_R_judge_54 _ _ _ _ _ ⟨okn hi (by decide), ?_⟩
    rw [ix_nI (by omega), m16 s2 has, m30, ix_nI (by omega), n17 s2 k has (by omega)]
    refine ⟨fun z => absurd ((nI_leI (by omega) (by omega)).mp z) (by omega), fun _ => ⟨fun z => absurd rfl z, fun _ => ⟨eo, s_whyTold (d := d) hkb (fun s3 hs3 => ?_)⟩⟩⟩
    have hw2 := whyT_2 v b (t.2.2 k).toInt
    have h3 : AS s s3 ∧ KR s3 v b := by
      rcases hs3 with rfl | ⟨f, rfl⟩
      · exact ⟨has, hkb⟩
      · exact ⟨has.W6 f, hkb.put f (by decide)⟩
    have ew : (nI (whyT v b (t.2.2 k).toInt) = (0 : Int32)) = (whyT v b (t.2.2 k).toInt = 0) := propext (nI_inj (b := 0) (by omega) (by decide))
    rw [jdg] at hr
    refine ⟨fun z => ?_, fun z => ⟨eo, ?_⟩⟩
    · rw [ew] at z
      rw [if_neg z] at hr
      have fin := fin k _ (nI k) b s3 h3.1 h3.2 hr (if_neg z).symm
      refine w_R_judge_54 _ _ _ _ _ ⟨okn hi (by decide), fun _ => fin, fun _ => ⟨fun _ => fin, fun y => ?_⟩⟩
      exfalso
      rw [fa_eq, nI_toInt (by omega)] at y
      have : (k : Int) = -1 := y
      omega
    · rw [ew] at z
      rw [if_pos z] at hr
      rw [n17 s3 k h3.1 (by omega), nI_1, z]
      exact s_does (d := d + 1) h3.2 (t32 hG z) z (fun s4 h4 e8 _ hk4 => ih (k + 1) _ s4 (by omega) ⟨h3.1.1.tr h4, fun x hx => by rw [e8]; exact h3.1.2 x hx⟩ hk4 hr)
/-- deeds after deeds -/
theorem RD.rf (h : KF (s.2.1 1) v a p) : RD s (rF s 4 0) 0 v a p := RD.of rfl (fun j hj => if_neg hj) (fun _ _ _ => rfl) rfl h
theorem RD.six {s1 : RS} (h : RD s s1 0 v a p) (f : Nat → Int32) : RD s (rW s1 6 f) 0 v a p := ⟨h.1, h.2.1, fun i h1 hi => (rW_ne _ _ (by omega)).trans (h.2.2.1 i h1 hi), h.2.2.2.1, by rw [rW_ne _ _ (by decide)]; exact h.2.2.2.2⟩
theorem RD.kr {s1 : RS} (h : RD s s1 0 v a p) : KR s1 v a := h.2.2.2.2.1
theorem RD.w1 {s1 : RS} {k : Nat → Int32} {p' : List SD} (h : RD s s1 0 v a p) (hk : KR (rW s1 1 k) v a) (hp : KP k (vG v) p') : RD s (rW s1 1 k) 0 v a p' := ⟨h.1, h.2.1, fun i h1 hi => (rW_ne _ _ h1).trans (h.2.2.1 i h1 hi), h.2.2.2.1, hk, by rw [rW_at]; exact hp⟩
theorem RD.sr {s1 s2 : RS} {a' : SD} (h : RD s s1 0 v a p) (hs : SR s1 s2) (hk : KR s2 v a') : RD s s2 0 v a' p := ⟨(hs.1 4 (by decide) (by decide) (by decide) (by decide) (by decide) (by decide)).trans h.1, fun j h4 a b c d e f => (hs.1 j a b c d e f).trans (h.2.1 j h4 a b c d e f), fun i h1 hi => (hs.2.1 i h1 hi).trans (h.2.2.1 i h1 hi), fun i hi => (hs.2.2.2 i hi).trans (h.2.2.2.1 i hi), hk, h.2.2.2.2.2.keep (fun x hx => hs.2.2.1 x (by omega))⟩
/-- one deed, if it can be -/
theorem s_deed {Q : RS → Prop} {s1 : RS} (h : RD s s1 0 v a p) {x : Int32} {z : Int} (hx : x.toInt = z) (hz : whyT v a z = 0) (hq : ∀ s2, RD s s2 0 v (doS v a z) (push10 p a) → s2.1 = s1.1 → Q s2) : RV c (d + 6) m_R_keeps [.ref 2] s1 (fun s3 => RV c (d + 6) m_R_does [.ref 2, .int x] s3 Q) :=
  s_keeps h.kr (p := p) h.2.2.2.2.2 (fun k hkp hkx hkr => s_does9 (d := d) hkr hx hz (fun s2 h2 _ h4 hk2 => hq s2 ((h.w1 hkr hkp).sr h2 hk2) h4.1))
theorem r_perform {Q : Int32 → RS → Prop} (h : TRR s q) (hk : KF (s.2.1 1) v a p) {g : Int32} (ok : ∀ i t, g = nI i → i < 4 → q i = some t → ∀ s', RD s s' 0 v (prf v t.2.2 t.2.1 0 a p).2.1 (prf v t.2.2 t.2.1 0 a p).2.2 → Q (nI (prf v t.2.2 t.2.1 0 a p).1) s') (bad : ¬ (0 ≤ g.toInt ∧ g.toInt ≤ 3) → ∀ s', SQ s s' 1 → Q 0 s') (bad2 : ∀ i, g = nI i → i < 4 → q i = none → ∀ s', SQ s s' 2 → Q 0 s') : RI c (d + 8) m_R_perform [.ref 2, .int g] s Q := by
  have hG := hk.1.2.2.1.1
  refine w_R_perform _ (s_trayFault (d := d + 5) h (fun i t eg hi ht => ⟨fun _ => ?_, fun y => absurd (by decide) y⟩) (fun z => ⟨fun y => absurd y (by decide), fun _ => bad z _ (SQ.th s 1)⟩) (fun i eg hi ht => ⟨fun y => absurd y (by decide), fun _ => bad2 i eg hi ht _ (SQ.th s 2)⟩))
  have ok := ok i t eg hi ht
  clear bad bad2
  obtain ⟨-, t2, ⟨-, t3⟩, t4⟩ := h.get hi ht
  rw [eg]
  generalize eRR : prf v t.2.2 t.2.1 0 a p = R at *
  suffices H : ∀ (m k : Nat) (b : SD) (p1 : List SD) (s2 : RS), k + m = t.2.1 → RD s s2 0 v b p1 → prf v t.2.2 m k b p1 = R → eR c (d + 8) m_R_perform 20 [some (.ref 2), some (.int (nI i)), some (.int (nI k))] s2 (pI c Q) from H t.2.1 0 a p _ (by omega) (RD.rf hk) eRR
  have m16 : ∀ s2 b p1, RD s s2 0 v b p1 → s2.2.1 16 i = nI t.2.1 := fun s2 b p1 h2 => by rw [h2.2.2.1 16 (by decide) (by decide)]; exact t2
  have n17 : ∀ s2 b p1 k, RD s s2 0 v b p1 → k < 30 → s2.2.2 17 (30 * i + k) = t.2.2 k := fun s2 b p1 k h2 hk => by rw [h2.2.2.2.1 17 (by decide)]; exact t4 k hk
  intro m
  induction m with
  | zero =>
    intro k b p1 s2 hm hd hr
    refine w_R_perform_20 _ _ ⟨okn hi (by decide), ?_⟩
    rw [ix_nI (by omega), m16 s2 _ _ hd]
    subst hr
    exact ⟨fun _ => ok s2 hd, fun z => absurd ((nI_leI (by omega) (by omega)).mpr (by omega)) z⟩
  | succ m ih =>
    intro k b p1 s2 hm hd hr
    have eo : okx (nI (30 * i + k)) 120 := okn (by omega) (by decide)
    refine w_R_perform_20 _ _ ⟨okn hi (by decide), ?_⟩
    rw [ix_nI (by omega), m16 s2 _ _ hd, m30, ix_nI (by omega), n17 s2 _ _ k hd (by omega)]
    refine ⟨fun z => absurd ((nI_leI (by omega) (by omega)).mp z) (by omega), fun _ => ⟨eo, s_whyTold (d := d) hd.kr (fun s3 hs3 => ?_)⟩⟩
    have hw2 := whyT_2 v b (t.2.2 k).toInt
    have h3 : RD s s3 0 v b p1 := by
      rcases hs3 with rfl | ⟨f, rfl⟩
      · exact hd
      · exact hd.six f
    have ew : (nI (whyT v b (t.2.2 k).toInt) = (0 : Int32)) = (whyT v b (t.2.2 k).toInt = 0) := propext (nI_inj (b := 0) (by omega) (by decide))
    rw [prf] at hr
    refine ⟨fun z => ?_, fun z => ?_⟩
    · rw [ew] at z
      rw [if_neg z] at hr
      subst hr
      exact ok s3 h3
    · rw [ew] at z
      rw [if_pos z] at hr
      refine s_keeps h3.kr (p := p1) h3.2.2.2.2.2 (fun kk hkp hkx hkr => ⟨eo, ?_⟩)
      rw [n17 _ _ _ k (h3.w1 hkr hkp) (by omega), nI_1]
      exact s_does9 (d := d + 1) hkr (t32 hG z) z (fun s4 h4 _ _ hk4 => ih (k + 1) _ _ s4 (by omega) ((h3.w1 hkr hkp).sr h4 hk4) hr)
end JR1
