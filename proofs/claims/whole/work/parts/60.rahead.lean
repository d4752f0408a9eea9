/-! questions of nights to come, of the reference -/
/-- nights go by, what was known is put aside -/
def AS (s0 s : RS) : Prop := SR (rF s0 4 0) s ∧ ∀ x, x < 21 → s.2.1 8 x = s0.2.1 1 (6 + x)
section AS1
variable {c : CX} {d : Nat} {s s' s0 : RS} {v : CV} {a : SD}
theorem s_night8 {Q : RS → Prop} (h : KR s v a) (hq : ∀ s', SR s s' → s'.2.1 8 = s.2.1 8 → s'.2.2 = s.2.2 → KR s' v (nightS v a) → Q s') : RV c (d + 5) m_R_night [.ref 2] s Q := by
  have hG := h.2.2.1.1
  refine w_R_night ?_
  have e := night_lp1 (c := c) (d := d) (Q := Q) h ?_ (vG v) 0 (s.2.1 6) (s.2.1 7) (by omega) (fun j hj => by omega)
  · rw [rW_id, rW_id] at e
    exact e
  · intro f n hn
    have hh := (h.put f (show 6 ≠ 1 by decide)).put n (show 7 ≠ 1 by decide)
    have e := night_lp2 (c := c) (d := d + 4) (Q := Q) hh (n := n) (rW_at _ _ _) (vG v) 0 (by omega) ?_
    · rw [fb_put_0, rW_id] at e
      exact e
    · rw [rW_ne _ n (by decide), rW_ne _ f (by decide)]
      have hs : SR s (rW (rW (rW s 6 f) 7 n) 1 (upd (fb_put (s.2.1 1) n 6 (vG v)) 26 (s.2.1 1 26 + 1))) := by
        refine ((SR.w s f (by decide)).tr (SR.w _ n (by decide))).tr (SR.w1 _ _ (fun x hx => ?_))
        rw [rW_ne _ n (by decide), rW_ne _ f (by decide)]
        unfold upd
        rw [if_neg (by omega), fb_put_out (by omega)]
      refine hq _ hs (by rw [rW_ne _ _ (by decide), rW_ne _ _ (by decide), rW_ne _ _ (by decide)]) rfl (h.sr hs ?_ (nightS_ok h))
      rw [rW_at]
      refine ⟨fun g hg => ?_, fun g hg => ?_, ?_⟩
      · unfold upd
        rw [if_neg (by omega)]
        by_cases q : g < vG v
        · rw [fb_put_in (by omega) (by omega), show 6 + g - 6 = g by omega, hn g q]
          rfl
        · rw [fb_put_out (by omega), h.2.1.1 g hg]
          show _ = oI (thenW v a g)
          rw [thenW_big h (by omega)]
          cases e : a.1 g with
          | none => rfl
          | some x => have := h.2.2.2.1 g x e; omega
      · unfold upd
        rw [if_neg (by omega), fb_put_out (by omega), h.2.1.2.1 g hg]
        rfl
      · show upd _ 26 _ 26 = _
        unfold upd
        rw [if_pos rfl, show s.2.1 1 26 = a.2.2 from h.2.1.2.2]
        rfl
theorem AS.go {Q : RS → Prop} (h : KR s v a) (hq : ∀ s', AS s s' → KR s' v a → Q s') : RV c d m_R_putsAside [.ref 2] (rF s 4 0) Q :=
  s_putsAside (hq _ ⟨SR.w _ _ (by decide), fun x hx => by rw [rW_at, fb_put_in (by omega) (by omega)]; congr 1⟩ (KR.put (s := rF s 4 0) h _ (by decide)))
theorem AS.end_ {Q : RS → Prop} (h : AS s0 s) (hq : ∀ s', SQ s0 s' 0 → Q s') : RV c d m_R_putsBack [.ref 2] s Q := by
  refine s_putsBack (hq _ ⟨h.1.1 4 (by decide) (by decide) (by decide) (by decide) (by decide) (by decide), fun k h4 a b c d e f => (h.1.1 k a b c d e f).trans (if_neg h4), fun i hi => ?_, fun i hi => h.1.2.2.2 i hi⟩)
  by_cases q : i = 1
  · subst q
    rw [rW_at]
    funext x
    by_cases q : 6 ≤ x ∧ x < 27
    · rw [fb_put_in (by omega) (by omega), h.2 (x - 6) (by omega), show 6 + (x - 6) = x by omega]
    · rw [fb_put_out (by omega)]
      exact h.1.2.2.1 x (by omega)
  · rw [rW_ne _ _ q]
    exact h.1.2.1 i q hi
theorem AS.on {Q : RS → Prop} (h : AS s0 s) (hk : KR s v a) (hq : ∀ s', AS s0 s' → s'.2.2 = s.2.2 → KR s' v (nightS v a) → Q s') : RV c (d + 5) m_R_night [.ref 2] s Q :=
  s_night8 hk (fun s' h1 h2 h3 h4 => hq s' ⟨h.1.tr h1, fun x hx => by rw [h2]; exact h.2 x hx⟩ h3 h4)
theorem AS.row (h : AS s0 s) (hf : frR s s') : AS s0 s' :=
  ⟨h.1.tr ⟨fun k _ b c d _ _ => hf.1 k b c d, fun i _ hi => hf.2.1 i (by omega) (by omega) (by omega), fun x _ => by rw [hf.2.1 1 (by decide) (by decide) (by decide)], fun i _ => by rw [hf.2.2]⟩, fun x hx => by rw [hf.2.1 8 (by decide) (by decide) (by decide)]; exact h.2 x hx⟩
theorem AS.L (h : AS s0 s) (j : Nat) (x : Int64) : AS s0 (rL s 14 j x) :=
  ⟨h.1.tr ⟨fun _ _ _ _ _ _ _ => rfl, fun _ _ _ => rfl, fun _ _ => rfl, fun i hi => if_neg hi⟩, h.2⟩
theorem r_mocksIn {Q : Int32 → RS → Prop} (h : KR s v a) {g n : Int32} (ok : ∀ k, g = nI k → k < vG v → 0 ≤ n.toInt → n.toInt ≤ 1000 → ∀ s', SQ s s' 0 → Q (oI ((nit v n.toInt.toNat a).1 k)) s') (bad : ¬ (0 ≤ g.toInt ∧ g.toInt < vG v) → ∀ s', SQ s s' 1 → Q 0 s') (bad2 : 0 ≤ g.toInt ∧ g.toInt < vG v → ¬ (0 ≤ n.toInt ∧ n.toInt ≤ 1000) → ∀ s', SQ s s' 2 → Q 0 s') : RI c (d + 7) m_R_mocksIn [.ref 2, .int g, .int n] s Q := by
  have hG := h.2.2.1.1
  refine w_R_mocksIn _ _ (h.isg (fun k e hk => ?_) (fun q => bad q _ (SQ.th s 1)))
  rw [wth_c.1, wth_c.2]
  refine ⟨fun q => bad2 (by rw [e, nI_toInt (by omega)]; omega) q _ (SQ.th s 2), fun q => ?_⟩
  obtain ⟨en, hn⟩ := n_within (n := n) (m := 1000) (by decide) q.1 q.2
  have ok := ok k e hk q.1 q.2
  generalize n.toInt.toNat = N at *
  rw [e, en]
  refine AS.go h (fun s1 ha1 hk1 => ?_)
  suffices H : ∀ (m i : Nat) (s2 : RS), i + m = N → AS s s2 → KR s2 v (nit v i a) → eR c (d + 7) m_R_mocksIn 49 [some (.ref 2), some (.int (nI k)), some (.int (nI N)), some (.int (nI i))] s2 (pI c Q) from H N 0 s1 (by omega) ha1 hk1
  intro m
  induction m with
  | zero =>
    intro i s2 hm h2 k2
    refine w_R_mocksIn_49 _ _ _ ⟨fun _ => ⟨okm (by omega), h2.end_ (fun s' hs => ?_)⟩, fun z => absurd ((nI_leI (by omega) (by omega)).mpr (by omega)) z⟩
    rw [k2.wh (by omega), show i = N by omega]
    exact ok s' hs
  | succ m ih =>
    intro i s2 hm h2 k2
    refine w_R_mocksIn_49 _ _ _ ⟨fun z => absurd ((nI_leI (by omega) (by omega)).mp z) (by omega), fun _ => h2.on (d := d + 1) k2 (fun s3 h3 _ k3 => ?_)⟩
    rw [nI_1]
    exact ih (i + 1) s3 (by omega) h3 k3
theorem r_ever {Q : Int32 → RS → Prop} (h : KR s v a) {g n : Int32} (ok : ∀ k, g = nI k → k < vG v → 0 ≤ n.toInt → n.toInt ≤ 1000 → ∀ s', SQ s s' 0 → Q (nI (evr v a k n.toInt.toNat)) s') (bad : ¬ (0 ≤ g.toInt ∧ g.toInt < vG v) → ∀ s', SQ s s' 1 → Q 0 s') (bad2 : 0 ≤ g.toInt ∧ g.toInt < vG v → ¬ (0 ≤ n.toInt ∧ n.toInt ≤ 1000) → ∀ s', SQ s s' 2 → Q 0 s') : RI c (d + 7) m_R_ever [.ref 2, .int g, .int n] s Q := by
  have hG := h.2.2.1.1
  refine w_R_ever _ _ (h.isg (fun k e hk => ?_) (fun q => bad q _ (SQ.th s 1)))
  rw [wth_c.1, wth_c.2]
  refine ⟨fun q => bad2 (by rw [e, nI_toInt (by omega)]; omega) q _ (SQ.th s 2), fun q => ?_⟩
  obtain ⟨en, hn⟩ := n_within (n := n) (m := 1000) (by decide) q.1 q.2
  have ok := ok k e hk q.1 q.2
  generalize n.toInt.toNat = N at *
  rw [e, en]
  refine AS.go h (fun s1 ha1 hk1 => ?_)
  have first : ∀ i, (if i = 0 then 0 else evr v a k (i - 1)) ||| mkb (nit v i a).1 k 10 = evr v a k i := fun i => by
    cases i with
    | zero => show 0 ||| _ = _; rw [Nat.zero_or]; rfl
    | succ i => rw [if_neg (by omega), evr_s]; rfl
  suffices H : ∀ (m i : Nat) (s2 : RS), i + m = N + 1 → AS s s2 → KR s2 v (nit v i a) → eR c (d + 7) m_R_ever 52 [some (.ref 2), some (.int (nI k)), some (.int (nI N)), some (.int (nI (if i = 0 then 0 else evr v a k (i - 1)))), some (.int (nI i))] s2 (pI c Q) from H (N + 1) 0 s1 (by omega) ha1 hk1
  intro m
  induction m with
  | zero =>
    intro i s2 hm h2 k2
    refine w_R_ever_52 _ _ _ _ ⟨fun _ => h2.end_ (fun s' hs => ?_), fun z => absurd ((nI_ltI (by omega) (by omega)).mpr (by omega)) z⟩
    rw [if_neg (by omega), show i - 1 = N by omega]
    exact ok s' hs
  | succ m ih =>
    intro i s2 hm h2 k2
    refine w_R_ever_52 _ _ _ _ ⟨fun z => absurd ((nI_ltI (by omega) (by omega)).mp z) (by omega), fun _ => s_mk (d := d + 5) k2 (by omega) (h2.on (d := d + 1) k2 (fun s3 h3 _ k3 => ?_))⟩
    rw [nI_1, fa_or, first]
    have := ih (i + 1) s3 (by omega) h3 k3
    rwa [if_neg (by omega)] at this
theorem w01R (wt : Int32) : (wt = 0 ∨ wt = 1) ↔ ((0 : Int64).toInt ≤ wt.toInt ∧ wt.toInt ≤ (1 : Int64).toInt) := w01 wt
theorem r_fewestIn {Q : Int32 → RS → Prop} (h : KR s v a) {n wt : Int32} (ok : 0 ≤ n.toInt → n.toInt ≤ 200 → (wt = 0 ∨ wt = 1) → ∀ s', SQ s s' 0 → Q (if wt = 0 then nI (few v a n.toInt.toNat).1 else nI (few v a n.toInt.toNat).2) s') (bad : ¬ ((0 ≤ n.toInt ∧ n.toInt ≤ 200) ∧ (wt = 0 ∨ wt = 1)) → ∀ s', SQ s s' 1 → Q 0 s') : RI c (d + 6) m_R_fewest [.ref 2, .int n, .int wt] s Q := by
  have hG := h.2.2.1.1
  refine w_R_fewest _ _ ?_
  rw [wth_c.1, wth_c.2, wth_c.1, wth_c.2, ← w01R]
  refine ⟨fun q => bad (fun z => q z.1) _ (SQ.th2 s 0 1), fun q => ⟨fun q2 => ?_, fun q2 => bad (fun z => q2 z.2) _ (SQ.th2 s 0 1)⟩⟩
  obtain ⟨en, hn⟩ := n_within (n := n) (m := 200) (by decide) q.1 q.2
  have hn : n.toInt.toNat ≤ 200 := by have : n.toInt ≤ 200 := q.2; omega
  have ok := ok q.1 q.2 q2
  generalize n.toInt.toNat = N at *
  rw [en]
  refine AS.go h (fun s1 ha1 hk1 => ?_)
  have hc := cak_10 hG
  suffices H : ∀ (m i : Nat) (s2 : RS) (p : Nat × Nat), i + m = N + 1 → AS s s2 → KR s2 v (nit v i a) → p = (if i = 0 then (0, 0) else few v a (i - 1)) → eR c (d + 6) m_R_fewest 45 [some (.ref 2), some (.int (nI N)), some (.int wt), some (.int (nI p.2)), some (.int (nI p.1)), some (.int (nI i))] s2 (pI c Q) from H (N + 1) 0 s1 (0, 0) (by omega) ha1 hk1 rfl
  intro m
  induction m with
  | zero =>
    intro i s2 p hm h2 k2 hp
    refine w_R_fewest_45 _ _ _ _ _ ⟨fun _ => h2.end_ (fun s' hs => ?_), fun z => absurd ((nI_ltI (by omega) (by omega)).mpr (by omega)) z⟩
    rw [hp, if_neg (by omega), show i - 1 = N by omega]
    have := ok s' hs
    exact ⟨fun q => by rwa [if_neg q] at this, fun q => by rwa [if_pos q] at this⟩
  | succ m ih =>
    intro i s2 p hm h2 k2 hp
    refine w_R_fewest_45 _ _ _ _ _ ⟨fun z => absurd ((nI_ltI (by omega) (by omega)).mp z) (by omega), fun _ => s_laysRow (d := d + 1) k2 (fun s3 hf3 hr => ?_)⟩
    have h3 := h2.row hf3
    have k3 := hf3.KR k2
    have hc1 := hc (nit v i a)
    rw [show s3.1 27 = nI (cakS v (nit v i a)) from hr.1.2.1, nI_1]
    have key : ∀ q : Nat × Nat, q = few v a i → RV c (d + 5) m_R_night [.ref 2] s3 (fun s4 => eR c (d + 6) m_R_fewest 45 [some (.ref 2), some (.int (nI N)), some (.int wt), some (.int (nI q.2)), some (.int (nI q.1)), some (.int (nI (i + 1)))] s4 (pI c Q)) := fun q hq =>
      h3.on k3 (fun s4 h4 _ k4 => ih (i + 1) s4 q (by omega) h4 k4 (by rw [if_neg (by omega)]; exact hq))
    refine ⟨fun z => ?_, fun z => ?_⟩
    · have z : i = 0 := (nI_inj (b := 0) (by omega) (by decide)).mp z
      subst z
      exact key (cakS v a, 0) rfl
    · have z : i ≠ 0 := fun q => z (by rw [q]; rfl)
      obtain ⟨j, rfl⟩ : ∃ j, i = j + 1 := ⟨i - 1, by omega⟩
      have hp : p = few v a j := by rw [hp, if_neg z]; rfl
      have := few_10 hG a j
      rw [hp, nI_leI (by omega) (by omega)]
      refine ⟨fun q => key (few v a j) (by rw [few_s, if_neg (by omega)]), fun q => key (cakS v (nit v (j + 1) a), j + 1) (by rw [few_s, if_pos (by omega)])⟩
end AS1
