/-! standings that come back; freed guilds -/
def oN : Option Nat → Nat
  | none => 0
  | some k => k + 1
def pkd (B : Nat) (w : Nat → Option Nat) (k : Nat) : Nat := fld (fun g acc => B * acc + oN (w g)) 0 k
theorem pkd_s (B : Nat) (w : Nat → Option Nat) (k : Nat) : pkd B w (k + 1) = B * pkd B w k + oN (w k) := rfl
theorem oN_lt {o : Option Nat} (h : ∀ k, o = some k → k < 10) : oN o < 11 := by
  cases o with
  | none => exact (by decide : 0 < 11)
  | some k => have := h k rfl; show k + 1 < 11; omega
theorem oN_inj {o p : Option Nat} : oN o = oN p ↔ o = p := by
  cases o <;> cases p <;> simp [oN]
theorem dig_inj {B x y a b : Nat} (ha : a < B) (hb : b < B) : B * x + a = B * y + b ↔ x = y ∧ a = b := by
  constructor
  · intro h
    have h1 : (B * x + a) / B = (B * y + b) / B := by rw [h]
    have h2 : (B * x + a) % B = (B * y + b) % B := by rw [h]
    rw [Nat.mul_add_div (by omega), Nat.mul_add_div (by omega), Nat.div_eq_of_lt ha, Nat.div_eq_of_lt hb] at h1
    rw [Nat.mul_add_mod, Nat.mul_add_mod, Nat.mod_eq_of_lt ha, Nat.mod_eq_of_lt hb] at h2
    exact ⟨h1, h2⟩
  · rintro ⟨rfl, rfl⟩; rfl
theorem pkd_inj {B : Nat} (hB : 11 ≤ B) {w w' : Nat → Option Nat} (h : ∀ x k, w x = some k → k < 10) (h' : ∀ x k, w' x = some k → k < 10) : ∀ n, pkd B w n = pkd B w' n ↔ ∀ g, g < n → w g = w' g
  | 0 => ⟨fun _ g hg => by omega, fun _ => rfl⟩
  | n + 1 => by
    have h1 := oN_lt (h n)
    have h2 := oN_lt (h' n)
    rw [pkd_s, pkd_s, dig_inj (by omega) (by omega), pkd_inj hB h h' n, oN_inj]
    constructor
    · rintro ⟨q1, q2⟩ g hg
      rcases Nat.lt_or_ge g n with q | q
      · exact q1 g q
      · rw [show g = n by omega]; exact q2
    · exact fun q => ⟨fun g hg => q g (by omega), q n (by omega)⟩
theorem pkd_lt {B : Nat} (hB : 11 ≤ B) {w : Nat → Option Nat} (h : ∀ x k, w x = some k → k < 10) : ∀ n, pkd B w n < B ^ n
  | 0 => by show 0 < 1; decide
  | n + 1 => by
    have h1 := oN_lt (h n)
    have h2 := pkd_lt hB h n
    rw [pkd_s, Nat.pow_succ]
    have : B * pkd B w n + B ≤ B * B ^ n := by
      have := Nat.mul_le_mul_left B h2
      rw [Nat.succ_eq_add_one, Nat.mul_add, Nat.mul_one] at this
      exact this
    rw [Nat.mul_comm (B ^ n)]
    omega
theorem lN_inj {a b : Nat} (ha : a < 2 ^ 62) (hb : b < 2 ^ 62) : lN a = lN b ↔ a = b := by
  rw [fa_eq64, show (lN a).toInt = (a : Int) from lg_ofNat_toInt (by omega), show (lN b).toInt = (b : Int) from lg_ofNat_toInt (by omega)]
  omega
theorem oN_64 {o : Option Nat} (h : ∀ k, o = some k → k < 10) : (oI o).toInt64 + 1 = lN (oN o) := by
  cases o with
  | none => rfl
  | some k =>
    have := h k rfl
    show (nI k).toInt64 + 1 = lN (k + 1)
    rw [← lN_add, show (nI k).toInt64 = lN k from lN_of (by omega) (by rw [i64_toInt, nI_toInt (by omega)])]
    rfl
/-- the earliest night of the same standing, n if none -/
def cbk (v : CV) (sd : SD) (n : Nat) : Nat := fa_first (fun i => decide (pkd 16 (nit v i sd).1 10 = pkd 16 (nit v n sd).1 10)) n
/-- how many nights go by before the one that brings a standing back, 1000 if none -/
def cbA (v : CV) (sd : SD) : Nat := fa_first (fun i => decide (cbk v sd (i + 1) < i + 1)) 1000
def cbR (v : CV) (sd : SD) (wt : Int32) : Int32 := if cbA v sd = 1000 then -1 else if wt = 0 then nI (cbk v sd (cbA v sd + 1)) else nI (cbA v sd + 1 - cbk v sd (cbA v sd + 1))
theorem first_is {p : Nat → Bool} {n i : Nat} (hi : i < n) (hp : p i = true) (h : ∀ j, j < i → p j = false) : fa_first p n = i := by
  have h1 : fa_first p n ≤ i := by
    refine Nat.le_of_not_lt (fun q => ?_)
    rw [fa_first_no p n i q] at hp
    cases hp
  have h2 := fa_first_yes p n (by omega)
  rcases Nat.lt_or_ge (fa_first p n) i with q | q
  · rw [h _ q] at h2; cases h2
  · omega
theorem first_no {p : Nat → Bool} {n : Nat} (h : ∀ j, j < n → p j = false) : fa_first p n = n := by
  have h1 := fa_first_le p n
  rcases Nat.lt_or_ge (fa_first p n) n with q | q
  · have h2 := fa_first_yes p n q
    rw [h _ q] at h2; cases h2
  · omega
theorem cbR_0 {v : CV} {sd : SD} (h : ∀ j, j < 1000 → ¬ cbk v sd (j + 1) < j + 1) (wt : Int32) : cbR v sd wt = -1 := by
  unfold cbR
  rw [if_pos (by unfold cbA; exact first_no (fun j hj => decide_eq_false (h j hj)))]
theorem cbR_n {v : CV} {sd : SD} {i k : Nat} (hi : i < 1000) (h : ∀ j, j < i → ¬ cbk v sd (j + 1) < j + 1) (hk : cbk v sd (i + 1) = k) (hk1 : k < i + 1) (wt : Int32) : cbR v sd wt = if wt = 0 then nI k else nI (i + 1 - k) := by
  unfold cbR
  have : cbA v sd = i := by unfold cbA; exact first_is hi (decide_eq_true (by omega)) (fun j hj => decide_eq_false (h j hj))
  rw [this, if_neg (by omega), hk]
section CB1
variable {c : CX} {d : Nat} {T T' : XS} {a ca : Nat} {v : CV} {sd : SD}
theorem x_packed {Q : Int64 → XS → Prop} (h : CS T a ca v sd) (hq : Q (lN (pkd 16 sd.1 10)) T) : XJ c d m_Sd_packed [.ref a] T Q := by
  refine wx_Sd_packed _ ?_
  suffices H : ∀ (m k : Nat), k + m = 10 → eX c d m_Sd_packed 4 [some (.ref a), some (.long (lN (pkd 16 sd.1 k))), none, some (.int (nI k))] T (yJ c Q) from H 10 0 (by omega)
  intro m
  induction m with
  | zero =>
    intro k hk
    refine wx_Sd_packed_4 _ _ _ ⟨fun _ => by rw [show k = 10 by omega]; exact hq, fun z => absurd ((nI_leI (a := 10) (by decide) (by omega)).mpr (by omega)) z⟩
  | succ m ih =>
    intro k hk
    refine wx_Sd_packed_4 _ _ _ ⟨fun z => absurd ((nI_leI (a := 10) (by decide) (by omega)).mp z) (by omega), fun _ => ⟨h.1.1, okn (by omega) (by decide), ?_⟩⟩
    rw [ix_nI (by omega), h.wh (by omega), nI_1, Int64.add_assoc, oN_64 (fun x hx => h.w10 hx), show lN (pkd 16 sd.1 k) * 16 = lN (pkd 16 sd.1 k * 16) from lN_mul _ 16, lN_add, Nat.mul_comm, ← pkd_s]
    exact ih (k + 1) (by omega)
theorem x_comesBack {Q : Int32 → XS → Prop} {E : Nat → XS → Prop} (hR : RL c) (h : CS T 93 ca v sd) {wt : Int32} (ok : (wt = 0 ∨ wt = 1) → ∀ T', frm scr T T' → Q (cbR v sd wt) T') (bad : ¬ (wt = 0 ∨ wt = 1) → E 1 (tN T 0 0 6)) : XIt c (d + 5) m_X_comesBack [.ref 1, .int wt] T Q E := by
  have hG := h.G
  refine wx_X_comesBack _ (x_needWithin hR (fun z3 z4 => x_trial h (fun T1 hf1 h1 => x_packed h1 ⟨rfl, ?_⟩)) (fun z => bad (fun q => z ((w01 wt).mp q))))
  have ok := ok ((w01 wt).mpr ⟨z3, z4⟩)
  have h225 : ∀ (T2 : XS) (sd' : SD) (j : Nat) (x : Int64), CS T2 173 ca v sd' → CS (tL T2 225 j x) 173 ca v sd' := fun T2 sd' j x q => by
    have f := frm_L (S := fun b => b = 225) (T := T2) rfl j x
    exact ⟨f.std q.1 (by decide) (by decide) (by decide) (by decide), (f.mono (S' := scr) (fun b hb => by rw [hb]; decide)).CARs q.2.1, q.2.2⟩
  have wb : ∀ n x k, (nit v n sd).1 x = some k → k < 10 := fun n x k q => nit_10 h q
  have c16 : ∀ i j, lN (pkd 16 (nit v i sd).1 10) = lN (pkd 16 (nit v j sd).1 10) ↔ pkd 16 (nit v i sd).1 10 = pkd 16 (nit v j sd).1 10 := fun i j =>
    lN_inj (Nat.lt_trans (pkd_lt (by decide) (wb i) 10) (by decide)) (Nat.lt_trans (pkd_lt (by decide) (wb j) 10) (by decide))
  suffices H : ∀ (m i : Nat) (T2 : XS), i + m = 1000 → frm scr T T2 → CS T2 173 ca v (nit v i sd) → (∀ j, j ≤ i → xL T2 225 j = lN (pkd 16 (nit v j sd).1 10)) → (∀ j, j < i → ¬ cbk v sd (j + 1) < j + 1) → eX c (d + 5) m_X_comesBack 35 [some (.ref 1), some (.int wt), some (.int (nI (i + 1))), none, none, none] T2 (yt c E (yI c Q)) by
    refine H 1000 0 _ (by omega) (hf1.tr (frm_L (by decide) _ _)) (h225 _ _ _ _ h1) (fun j hj => ?_) (fun j hj => by omega)
    rw [tL_at]
    show (if j = 0 then _ else _) = _
    rw [show j = 0 by omega, if_pos rfl]
    rfl
  intro m
  induction m with
  | zero =>
    intro i T2 hm hf h2 hx hno
    refine wx_X_comesBack_35 _ _ ⟨fun _ => ?_, fun z => absurd ((nI_ltI (a := 1000) (by decide) (by omega)).mpr (by omega)) z⟩
    have := ok T2 hf
    rwa [cbR_0 (fun j hj => hno j (by omega))] at this
  | succ m ih =>
    intro i T2 hm hf h2 hx hno
    refine wx_X_comesBack_35 _ _ ⟨fun z => absurd ((nI_ltI (a := 1000) (by decide) (by omega)).mp z) (by omega), fun _ => x_night h2 (Or.inr rfl) (fun T3 hf3 h3 => x_packed h3 ?_)⟩
    have hx3 : ∀ j, j ≤ i → xL T3 225 j = lN (pkd 16 (nit v j sd).1 10) := fun j hj => by
      rw [hf3.L (by rintro ((q | q) | q | q | q) <;> exact absurd q (by decide))]
      exact hx j hj
    have hf3 := hf.tr (hf3.mono (S' := scr) (fun b hb => frN_scr hb))
    have h3 : CS T3 173 ca v (nit v (i + 1) sd) := h3
    clear hx h2 hf
    suffices K : ∀ (p k : Nat), k + p = i + 1 → (∀ j, j < k → pkd 16 (nit v j sd).1 10 ≠ pkd 16 (nit v (i + 1) sd).1 10) → eX c (d + 5) m_X_comesBack 65 [some (.ref 1), some (.int wt), some (.int (nI (i + 1))), some (.long (lN (pkd 16 (nit v (i + 1) sd).1 10))), none, some (.int (nI k))] T3 (yt c E (yI c Q)) from K (i + 1) 0 (by omega) (fun j hj => by omega)
    intro p
    induction p with
    | zero =>
      intro k hk hne
      refine wx_X_comesBack_65 _ _ _ _ ⟨fun _ => ⟨okn (by omega) (by decide), ?_⟩, fun z => absurd ((nI_leI (by omega) (by omega)).mpr (by omega)) z⟩
      rw [nI_1, ix_nI (by omega)]
      refine ih (i + 1) _ (by omega) (hf3.tr (frm_L (by decide) _ _)) (h225 _ _ _ _ h3) (fun j hj => ?_) (fun j hj => ?_)
      · rw [tL_at]
        show (if j = i + 1 then _ else _) = _
        split
        · rename_i e; rw [e]
        · exact hx3 j (by omega)
      · rcases Nat.lt_or_ge j i with q | q
        · exact hno j q
        · rw [show j = i by omega]
          have : cbk v sd (i + 1) = i + 1 := by unfold cbk; exact first_no (fun j hj => decide_eq_false (hne j (by omega)))
          omega
    | succ p ihp =>
      intro k hk hne
      refine wx_X_comesBack_65 _ _ _ _ ⟨fun z => absurd ((nI_leI (by omega) (by omega)).mp z) (by omega), fun _ => ⟨okn (by omega) (by decide), ?_⟩⟩
      rw [ix_nI (by omega), hx3 k (by omega), c16, nI_1]
      refine ⟨fun z => ihp (k + 1) (by omega) (fun j hj => ?_), fun z => ?_⟩
      · rcases Nat.lt_or_ge j k with q | q
        · exact hne j q
        · rw [show j = k by omega]; exact z
      · have ek : cbk v sd (i + 1) = k := by unfold cbk; exact first_is (by omega) (decide_eq_true z) (fun j hj => decide_eq_false (hne j hj))
        have := ok T3 hf3
        rw [cbR_n (by omega) hno ek (by omega)] at this
        refine ⟨fun q => ?_, fun q => ?_⟩
        · rw [if_neg q] at this
          rw [nI_sub (by omega)]
          exact this
        · rwa [if_pos q] at this
/-- whom one may turn to with no more cakes -/
def frC (v : CV) (sd : SD) (g b : Nat) : Bool := decide (b ≠ g) && mayB v sd g b && decide (cakS v (turnS sd g (some b)) ≤ cakS v sd)
theorem turn_sok {G : Nat} (hs : SOK G sd) {g b : Nat} (hg : g < G) (hb : b < G) (hn : b ≠ g) : SOK G (turnS sd g (some b)) := by
  refine ⟨fun x k hk => ?_, hs.2⟩
  simp only [turnS] at hk
  split at hk
  · rename_i e
    have := Option.some.inj hk
    omega
  · exact hs.1 x k hk
theorem x_freeFor {Q : Int32 → XS → Prop} {E : Nat → XS → Prop} (hR : RL c) (h : CS T 93 ca v sd) {g : Int32} (ok : ∀ k, g = nI k → k < vG v → ∀ T', frm scr T T' → Q (nI (bits (frC v sd k) (vG v))) T') (bad : ¬ (0 ≤ g.toInt ∧ g.toInt < vG v) → E 2 (tN T 0 0 6)) : XIt c (d + 4) m_X_freeFor [.ref 1, .int g] T Q E := by
  have hG := h.G
  refine wx_X_freeFor _ (x_needGuild hR h (fun k hk hkG => x_rowNow h (fun T1 hf1 hr => ⟨rfl, ?_⟩)) bad)
  have ok := ok k hk hkG
  have hc := cak_10 hG
  rw [hk, hr.1.1.2.2.2.1]
  have hf1 := rw_scr hf1
  clear hr
  suffices H : ∀ (m b : Nat) (T2 : XS), b + m = vG v → frm scr T T2 → eX c (d + 4) m_X_freeFor 18 [some (.ref 1), some (.int (nI k)), some (.int (nI (cakS v sd))), some (.int (nI (bits (frC v sd k) b))), some (.int (nI b))] T2 (yt c E (yI c Q)) from H (vG v) 0 T1 (by omega) hf1
  intro m
  induction m with
  | zero =>
    intro b T2 hm hf
    have h2 := hf.CSs h (by decide)
    refine wx_X_freeFor_18 _ _ _ _ ⟨ca, h2.fc, h2.2.1.1, ?_⟩
    rw [h2.gs]
    refine ⟨fun _ => by rw [show b = vG v by omega]; exact ok T2 hf, fun z => absurd ((nI_leI (by omega) (by omega)).mpr (by omega)) z⟩
  | succ m ih =>
    intro b T2 hm hf
    have h2 := hf.CSs h (by decide)
    refine wx_X_freeFor_18 _ _ _ _ ⟨ca, h2.fc, h2.2.1.1, ?_⟩
    have eb : bits (frC v sd k) (b + 1) = if frC v sd k b = true then bits (frC v sd k) b ||| 2 ^ b else bits (frC v sd k) b := rfl
    have no : frC v sd k b = false → ∀ T3, frm scr T T3 → eX c (d + 4) m_X_freeFor 18 [some (.ref 1), some (.int (nI k)), some (.int (nI (cakS v sd))), some (.int (nI (bits (frC v sd k) b))), some (.int (nI (b + 1)))] T3 (yt c E (yI c Q)) := fun q T3 hf3 => by
      have := ih (b + 1) T3 (by omega) hf3
      rwa [eb, if_neg (by rw [q]; decide)] at this
    rw [h2.gs, nI_1, nI_inj (by omega) (by omega)]
    refine ⟨fun z => absurd ((nI_leI (by omega) (by omega)).mp z) (by omega), fun _ => ⟨fun z => no (by simp [frC, z]) T2 hf, fun z => x_allows (d := d) h2 hkG (by omega) (fun T3 hf3 => ⟨fun q => no (by simp [frC, q]) T3 ?_, fun q => ?_⟩)⟩⟩
    · exact hf.tr (hf3.mono (fun b hb => ctr_scr (ct1_ctr hb)))
    · have hf3 := hf.tr (hf3.mono (S' := scr) (fun b hb => ctr_scr (ct1_ctr hb)))
      refine x_trial (hf3.CSs h (by decide)) (fun T4 hf4 h4 => x_turn h4.1 (by omega) (fun x k hk => h4.w10 hk) (h := some b) (fun x hx => by have := Option.some.inj hx; omega) (fun T5 hf5 hs5 => ?_))
      have hf5 := hf5.mono (S' := scr) (fun b hb => sdC_scr (by rcases hb with q | q; exact Or.inr (Or.inl q); exact Or.inr (Or.inr (Or.inl q))))
      have h5 : CS T5 173 ca v (turnS sd k (some b)) := ⟨hs5, hf5.CARs h4.2.1, h4.2.2.1, turn_sok h4.2.2.2 hkG (by omega) z⟩
      refine x_build (d := d + 1) h5 (fun T6 hf6 hr => ⟨rfl, ?_⟩)
      have hf6 := ((hf3.tr hf4).tr hf5).tr (rw_scr hf6)
      have := hc sd
      have := hc (turnS sd k (some b))
      rw [hr.1.1.2.2.2.1, nI_ltI (by omega) (by omega)]
      refine ⟨fun y => no (by simp [frC]; omega) T6 hf6, fun y => ?_⟩
      have := ih (b + 1) T6 (by omega) hf6
      rw [eb, if_pos (by simp [frC, q, z]; omega)] at this
      rw [sh1 b (by omega), fa_or]
      exact this
end CB1
