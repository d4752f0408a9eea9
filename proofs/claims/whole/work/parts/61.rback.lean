/-! standings that come back, freed guilds, of the reference -/
def dI : Nat → Int32
  | 0 => -1
  | k + 1 => nI k
theorem dI_m1 (k : Nat) : nI k + (-1) = dI k := by
  cases k with
  | zero => rfl
  | succ k => rw [nI_m1 (by omega)]; rfl
theorem rL_at (s : RS) (i j : Nat) (x : Int64) (k : Nat) : (rL s i j x).2.2 i k = if k = j then x else s.2.2 i k := by
  unfold rL
  simp only [if_true]
  rfl
section RB1
variable {c : CX} {d : Nat} {s s' s0 : RS} {v : CV} {a : SD}
theorem s_allMocked {Q : Int64 → RS → Prop} (h : KR s v a) (hq : Q (lN (pkd 11 a.1 (vG v))) s) : RJ c (d + 1) m_R_allMocked [.ref 2] s Q := by
  have hG := h.2.2.1.1
  refine w_R_allMocked ?_
  suffices H : ∀ (m k : Nat), k + m = vG v → eR c (d + 1) m_R_allMocked 4 [some (.ref 2), some (.long (lN (pkd 11 a.1 k))), none, some (.int (nI k))] s (pJ c Q) from H (vG v) 0 (by omega)
  intro m
  induction m with
  | zero =>
    intro k hk
    refine w_R_allMocked_4 _ _ ⟨fun _ => by rw [show k = vG v by omega]; exact hq, fun z => absurd ((h.gle (by omega)).mpr (by omega)) z⟩
  | succ m ih =>
    intro k hk
    refine w_R_allMocked_4 _ _ ⟨fun z => absurd ((h.gle (by omega)).mp z) (by omega), fun _ => ⟨okm (by omega), ?_⟩⟩
    rw [h.wh (by omega), nI_1, Int64.add_assoc, oN_64 (fun x hx => h.wb hx), show 11 * lN (pkd 11 a.1 k) = lN (11 * pkd 11 a.1 k) from lN_mul 11 _, lN_add, ← pkd_s]
    exact ih (k + 1) (by omega)
theorem r_comesBack {Q : Int32 → RS → Prop} (h : KR s v a) {wt : Int32} (ok : (wt = 0 ∨ wt = 1) → ∀ s', SQ s s' 0 → Q (cbR v a wt) s') (bad : ¬ (wt = 0 ∨ wt = 1) → ∀ s', SQ s s' 1 → Q 0 s') : RI c (d + 6) m_R_comesBack [.ref 2, .int wt] s Q := by
  have hG := h.2.2.1.1
  have hv := h.2.2.1
  have hs := h.2.2.2
  refine w_R_comesBack _ ?_
  rw [wth_c.1, wth_c.2, ← w01R]
  refine ⟨fun q => AS.go h (fun s1 ha1 hk1 => s_allMocked (d := d + 4) hk1 ⟨rfl, ?_⟩), fun q => bad q _ (SQ.th2 s 0 1)⟩
  have ok := ok q
  have wb : ∀ n x k, (nit v n a).1 x = some k → k < 10 := fun n x k q => by have := (nit_sok hv hs n).1 x k q; omega
  have hm : ∀ i j, lN (pkd 11 (nit v i a).1 (vG v)) = lN (pkd 11 (nit v j a).1 (vG v)) ↔ pkd 16 (nit v i a).1 10 = pkd 16 (nit v j a).1 10 := fun i j => by
    have p11 : (11 : Nat) ^ vG v ≤ 11 ^ 10 := Nat.pow_le_pow_right (by decide) hG
    have p62 : (11 : Nat) ^ 10 < 2 ^ 62 := by decide
    rw [lN_inj (Nat.lt_of_lt_of_le (pkd_lt (by decide) (wb i) _) (by omega)) (Nat.lt_of_lt_of_le (pkd_lt (by decide) (wb j) _) (by omega)), pkd_inj (by decide) (wb i) (wb j), pkd_inj (by decide) (wb i) (wb j)]
    refine ⟨fun q g hg => ?_, fun q g hg => q g (by omega)⟩
    rcases Nat.lt_or_ge g (vG v) with z | z
    · exact q g z
    · rw [sok_none (nit_sok hv hs i) z, sok_none (nit_sok hv hs j) z]
  suffices H : ∀ (m i : Nat) (s2 : RS), i + m = 1000 → AS s s2 → KR s2 v (nit v i a) → (∀ j, j ≤ i → s2.2.2 14 j = lN (pkd 11 (nit v j a).1 (vG v))) → (∀ j, j < i → ¬ cbk v a (j + 1) < j + 1) → eR c (d + 6) m_R_comesBack 39 [some (.ref 2), some (.int wt), some (.int ((-1))), some (.int (nI i)), none] s2 (pI c Q) by
    refine H 1000 0 _ (by omega) (ha1.L _ _) hk1 (fun j hj => ?_) (fun j hj => by omega)
    rw [rL_at, show j = 0 by omega, show ix 0 = 0 from rfl, if_pos rfl]
    rfl
  intro m
  induction m with
  | zero =>
    intro i s2 hmi h2 k2 hx hno
    refine w_R_comesBack_39 _ _ _ ⟨fun z => absurd rfl z, fun _ => ⟨fun _ => h2.end_ (fun s' hs' => ⟨fun _ => ?_, fun z => absurd rfl z⟩), fun z => absurd ((nI_leI (a := 1000) (by decide) (by omega)).mpr (by omega)) z⟩⟩
    have := ok s' hs'
    rwa [cbR_0 (fun j hj => hno j (by omega))] at this
  | succ m ih =>
    intro i s2 hmi h2 k2 hx hno
    refine w_R_comesBack_39 _ _ _ ⟨fun z => absurd rfl z, fun _ => ⟨fun z => absurd ((nI_leI (a := 1000) (by decide) (by omega)).mp z) (by omega), fun _ => h2.on (d := d) k2 (fun s3 h3 e3 k3 => s_allMocked (d := d + 4) k3 ?_)⟩⟩
    rw [nI_1, show nI (i + 1) - 1 = nI i from nI_sub (a := i + 1) (b := 1) (by omega), ix_nI (by omega)]
    refine ⟨okn (by omega) (by decide), ?_⟩
    have k4 : KR (rL s3 14 (i + 1) (lN (pkd 11 (nightS v (nit v i a)).1 (vG v)))) v (nit v (i + 1) a) := k3
    have h4 := h3.L (i + 1) (lN (pkd 11 (nightS v (nit v i a)).1 (vG v)))
    have hx4 : ∀ j, j ≤ i + 1 → (rL s3 14 (i + 1) (lN (pkd 11 (nightS v (nit v i a)).1 (vG v)))).2.2 14 j = lN (pkd 11 (nit v j a).1 (vG v)) := fun j hj => by
      rw [rL_at]
      split
      · rename_i e; rw [e]; rfl
      · rw [e3]; exact hx j (by omega)
    generalize rL s3 14 (i + 1) (lN (pkd 11 (nightS v (nit v i a)).1 (vG v))) = s4 at *
    suffices K : ∀ (k : Nat) (o : Option Nat), k ≤ i + 1 → ((o = none ∧ ∀ j, k ≤ j → j ≤ i → pkd 16 (nit v j a).1 10 ≠ pkd 16 (nit v (i + 1) a).1 10) ∨ ∃ x, o = some x ∧ k ≤ x ∧ x ≤ i ∧ pkd 16 (nit v x a).1 10 = pkd 16 (nit v (i + 1) a).1 10 ∧ ∀ j, k ≤ j → j < x → pkd 16 (nit v j a).1 10 ≠ pkd 16 (nit v (i + 1) a).1 10) → eR c (d + 6) m_R_comesBack 73 [some (.ref 2), some (.int wt), some (.int (oI o)), some (.int (nI (i + 1))), some (.int (dI k))] s4 (pI c Q) from K (i + 1) none (Nat.le_refl _) (Or.inl ⟨rfl, fun j _ _ => by omega⟩)
    intro k
    induction k with
    | zero =>
      intro o _ ho
      refine w_R_comesBack_73 _ _ _ _ ⟨fun _ => ?_, fun z => absurd (by decide) z⟩
      rcases ho with ⟨rfl, ho⟩ | ⟨x, rfl, _, hx1, hx2, hx3⟩
      · have : cbk v a (i + 1) = i + 1 := by unfold cbk; exact first_no (fun j hj => decide_eq_false (ho j (by omega) (by omega)))
        refine ih (i + 1) s4 (by omega) h4 k4 hx4 (fun j hj => ?_)
        rcases Nat.lt_or_ge j i with z | z
        · exact hno j z
        · rw [show j = i by omega]; omega
      · have ek : cbk v a (i + 1) = x := by unfold cbk; exact first_is (by omega) (decide_eq_true hx2) (fun j hj => decide_eq_false (hx3 j (by omega) hj))
        have hne : ¬ oI (some x) = -1 := fun z => by
          have := (oI_m1 (o := some x) (fun k hk => by have := Option.some.inj hk; omega)).mp z
          cases this
        refine w_R_comesBack_39 _ _ _ ⟨fun _ => h4.end_ (fun s' hs' => ⟨fun z => absurd z hne, fun _ => ?_⟩), fun z => absurd z hne⟩
        have := ok s' hs'
        rw [cbR_n (by omega) hno ek (by omega)] at this
        refine ⟨fun q => ?_, fun q => ?_⟩
        · rw [if_neg q] at this
          rw [show nI (i + 1) - oI (some x) = nI (i + 1 - x) from nI_sub (by omega)]
          exact this
        · rwa [if_pos q] at this
    | succ k ihk =>
      intro o hk ho
      refine w_R_comesBack_73 _ _ _ _ ⟨fun z => absurd z (by rw [show dI (k + 1) = nI k from rfl]; exact fun q => absurd ((nI_ltI (b := 0) (by omega) (by decide)).mp q) (by omega)), fun _ => ?_⟩
      rw [show dI (k + 1) = nI k from rfl, ix_nI (by omega), ix_nI (by omega), hx4 k (by omega), hx4 (i + 1) (by omega), hm, dI_m1]
      refine ⟨okn (by omega) (by decide), okn (by omega) (by decide), fun z => ihk o (by omega) ?_, fun z => ihk (some k) (by omega) ?_⟩
      · rcases ho with ⟨h1, ho⟩ | ⟨x, h1, hx0, hx1, hx2, hx3⟩
        · refine Or.inl ⟨h1, fun j hj hji => ?_⟩
          rcases Nat.lt_or_ge k j with y | y
          · exact ho j y hji
          · rw [show j = k by omega]; exact z
        · refine Or.inr ⟨x, h1, by omega, hx1, hx2, fun j hj hji => ?_⟩
          rcases Nat.lt_or_ge k j with y | y
          · exact hx3 j y hji
          · rw [show j = k by omega]; exact z
      · exact Or.inr ⟨k, rfl, Nat.le_refl _, by omega, z, fun j hj hji => by omega⟩
theorem r_freeFor {Q : Int32 → RS → Prop} (h : KR s v a) {g : Int32} (ok : ∀ k, g = nI k → k < vG v → ∀ s', SQ s s' 0 → Q (nI (bits (frC v a k) (vG v))) s') (bad : ¬ (0 ≤ g.toInt ∧ g.toInt < vG v) → ∀ s', SQ s s' 1 → Q 0 s') : RI c (d + 6) m_R_freeFor [.ref 2, .int g] s Q := by
  have hG := h.2.2.1.1
  refine w_R_freeFor _ (h.isg (fun k e hk => r_lays (d := d + 1) h (fun s1 hs1 k1 hr => ?_)) (fun q => bad q _ (SQ.th2 s 0 1)))
  have ok := ok k e hk
  have hc := cak_10 hG
  rw [e, k1.wh (by omega), show s1.1 27 = nI (cakS v a) from hr.1.2.1]
  refine ⟨okm (by omega), ?_⟩
  clear hr
  suffices H : ∀ (m b : Nat) (s2 : RS), b + m = vG v → SQ s s2 0 → eR c (d + 6) m_R_freeFor 41 [some (.ref 2), some (.int (nI k)), some (.int (nI (cakS v a))), some (.int (oI (a.1 k))), some (.int (nI (bits (frC v a k) b))), some (.int (nI b))] s2 (pI c Q) from H (vG v) 0 s1 (by omega) hs1
  intro m
  induction m with
  | zero =>
    intro b s2 hm h2
    have k2 := h2.kr h
    refine w_R_freeFor_41 _ _ _ _ _ ⟨fun _ => by rw [show b = vG v by omega]; exact ok s2 h2, fun z => absurd ((k2.gle (by omega)).mpr (by omega)) z⟩
  | succ m ih =>
    intro b s2 hm h2
    have k2 := h2.kr h
    have eb : bits (frC v a k) (b + 1) = if frC v a k b = true then bits (frC v a k) b ||| 2 ^ b else bits (frC v a k) b := rfl
    have no : frC v a k b = false → ∀ s3, SQ s s3 0 → eR c (d + 6) m_R_freeFor 41 [some (.ref 2), some (.int (nI k)), some (.int (nI (cakS v a))), some (.int (oI (a.1 k))), some (.int (nI (bits (frC v a k) b))), some (.int (nI (b + 1)))] s3 (pI c Q) := fun q s3 hs3 => by
      have := ih (b + 1) s3 (by omega) hs3
      rwa [eb, if_neg (by rw [q]; decide)] at this
    refine w_R_freeFor_41 _ _ _ _ _ ⟨fun z => absurd ((k2.gle (by omega)).mp z) (by omega), fun _ => ?_⟩
    rw [nI_1, nI_inj (by omega) (by omega)]
    refine ⟨fun z => no (by simp [frC, z]) s2 h2, fun z => s_mayMock (d := d + 1) k2 hk (by omega) (fun f => ⟨fun q => ⟨okm (by omega), ?_⟩, fun q => no (by simp [frC, q]) _ (h2.W f (by decide))⟩)⟩
    have h3 := h2.W f (i := 6) (by decide)
    have k3 := h3.kr h
    rw [show ix (6 + nI k) = 6 + k from ixA 6 (by omega)]
    generalize rW s2 6 f = s3 at *
    have k4 : KR (rA s3 1 (6 + k) (nI b)) v (turnS a k (some b)) := by
      refine ⟨k3.1.keep k3.2.2.1 (fun x hx => ?_), ⟨fun x hx => ?_, fun x hx => ?_, ?_⟩, k3.2.2.1, turn_sok k3.2.2.2 hk (by omega) z⟩
      · rw [rA_W, rW_at]; unfold upd; rw [if_neg (by omega)]
      · rw [rA_W, rW_at]; unfold upd
        simp only [turnS]
        by_cases y : x = k
        · rw [if_pos (by omega), if_pos y]; rfl
        · rw [if_neg (by omega), if_neg y]; exact k3.2.1.1 x hx
      · rw [rA_W, rW_at]; unfold upd; rw [if_neg (by omega)]; exact k3.2.1.2.1 x hx
      · rw [rA_W, rW_at]; unfold upd; rw [if_neg (by omega)]; exact k3.2.1.2.2
    refine s_laysRow (d := d + 1) k4 (fun s5 hf5 hr => ?_)
    have h6 : SQ s (rA s5 1 (6 + k) (oI (a.1 k))) 0 := by
      have e1 : s5.2.1 1 = upd (s3.2.1 1) (6 + k) (nI b) := by rw [hf5.2.1 1 (by decide) (by decide) (by decide), rA_W, rW_at]
      have h5 : SQ (rA s 1 (6 + k) (nI b)) (rA s3 1 (6 + k) (nI b)) 0 := by
        refine ⟨h3.1, h3.2.1, fun i hi => ?_, h3.2.2.2⟩
        show (if i = 1 then _ else _) = (if i = 1 then _ else _)
        rw [h3.2.2.1 1 (by omega), h3.2.2.1 i hi]
      have h6 := h5.row hf5
      refine ⟨h6.1, h6.2.1, fun i hi => ?_, h6.2.2.2⟩
      rw [rA_W]
      by_cases y : i = 1
      · subst y
        rw [rW_at, e1]
        funext x
        unfold upd
        by_cases y : x = 6 + k
        · rw [if_pos y, y, ← k3.2.1.1 k (by omega), h3.2.2.1 1 (by omega)]
        · rw [if_neg y, if_neg y, h3.2.2.1 1 (by omega)]
      · rw [rW_ne _ _ y, h6.2.2.1 i hi, rA_W, rW_ne _ _ y]
    have := hc a
    have := hc (turnS a k (some b))
    rw [show s5.1 27 = nI (cakS v (turnS a k (some b))) from hr.1.2.1, nI_ltI (by omega) (by omega)]
    refine ⟨fun y => ⟨okm (by omega), ?_⟩, fun y => ⟨okm (by omega), ?_⟩⟩
    · rw [show nI (bits (frC v a k) b) ||| 0 = nI (bits (frC v a k) b) from Int32.or_zero]
      exact no (by simp [frC]; omega) _ h6
    · have := ih (b + 1) _ (by omega) h6
      rw [eb, if_pos (by simp [frC, q, z]; omega)] at this
      rw [sh1 b (by omega), fa_or]
      exact this
end RB1
