/-! the quietest order -/
/-- the first of the least -/
def lst (p : Nat → Bool) (f : Nat → Nat) : Nat → Option Nat
  | 0 => none
  | n + 1 => match lst p f n with
    | none => if p n = true then some n else none
    | some b => if p n = true ∧ f n < f b then some n else some b
theorem lst_spec (p : Nat → Bool) (f : Nat → Nat) : ∀ n, (lst p f n = none ∧ ∀ k, k < n → p k = false) ∨ ∃ b, lst p f n = some b ∧ b < n ∧ p b = true ∧ ∀ k, k < n → p k = true → f b < f k ∨ (f b = f k ∧ b ≤ k)
  | 0 => Or.inl ⟨rfl, fun k hk => by omega⟩
  | n + 1 => by
    rcases lst_spec p f n with ⟨h1, h2⟩ | ⟨b, h1, h2, h3, h4⟩
    · cases hp : p n with
      | false =>
        refine Or.inl ⟨by rw [lst, h1]; simp [hp], fun k hk => ?_⟩
        rcases Nat.lt_or_ge k n with q | q
        · exact h2 k q
        · rw [show k = n by omega]; exact hp
      | true =>
        refine Or.inr ⟨n, by rw [lst, h1]; simp [hp], by omega, hp, fun k hk hpk => ?_⟩
        rcases Nat.lt_or_ge k n with q | q
        · rw [h2 k q] at hpk; cases hpk
        · exact Or.inr ⟨by rw [show k = n by omega], by omega⟩
    · by_cases hq : p n = true ∧ f n < f b
      · refine Or.inr ⟨n, by rw [lst, h1]; simp only [if_pos hq], by omega, hq.1, fun k hk hpk => ?_⟩
        rcases Nat.lt_or_ge k n with q | q
        · have := h4 k q hpk; left; omega
        · exact Or.inr ⟨by rw [show k = n by omega], by omega⟩
      · refine Or.inr ⟨b, by rw [lst, h1]; simp only [if_neg hq], by omega, h3, fun k hk hpk => ?_⟩
        rcases Nat.lt_or_ge k n with q | q
        · exact h4 k q hpk
        · have : k = n := by omega
          subst this
          have : ¬ f k < f b := fun y => hq ⟨hpk, y⟩
          omega
theorem lst_is {p : Nat → Bool} {f : Nat → Nat} {n b : Nat} (hb : b < n) (hp : p b = true) (h : ∀ k, k < n → p k = true → f b < f k ∨ (f b = f k ∧ b ≤ k)) : lst p f n = some b := by
  rcases lst_spec p f n with ⟨_, h2⟩ | ⟨b', h1, h2, h3, h4⟩
  · rw [h2 b hb] at hp; cases hp
  · have := h b' h2 h3
    have := h4 b hb hp
    rw [h1, show b' = b by omega]
theorem lst_no {p : Nat → Bool} {f : Nat → Nat} {n : Nat} (h : ∀ k, k < n → p k = false) : lst p f n = none := by
  rcases lst_spec p f n with ⟨h1, _⟩ | ⟨b', h1, h2, h3, h4⟩
  · exact h1
  · rw [h b' h2] at h3; cases h3
theorem lst_cut {p : Nat → Bool} {f : Nat → Nat} {n N : Nat} (h : ∀ k, n ≤ k → p k = false) (hN : n ≤ N) : lst p f N = lst p f n := by
  rcases lst_spec p f n with ⟨h1, h2⟩ | ⟨b, h1, h2, h3, h4⟩
  · rw [h1]
    exact lst_no (fun k _ => (Nat.lt_or_ge k n).elim (h2 k) (h k))
  · rw [h1]
    refine lst_is (by omega) h3 (fun k _ hk => ?_)
    rcases Nat.lt_or_ge k n with q | q
    · exact h4 k q hk
    · rw [h k q] at hk; cases hk
theorem lst_map {p q : Nat → Bool} {f f' : Nat → Nat} {N m : Nat} {mem : Nat → Nat} (hmono : ∀ i j, i < j → j < m → mem i < mem j) (hN : ∀ j, j < m → mem j < N) (hp : ∀ j, j < m → p (mem j) = q j) (hs : ∀ g, g < N → p g = true → ∃ j, j < m ∧ mem j = g) (hf : ∀ j, j < m → q j = true → f (mem j) = f' j) : lst p f N = (lst q f' m).map mem := by
  rcases lst_spec q f' m with ⟨h1, h2⟩ | ⟨b, h1, h2, h3, h4⟩
  · rw [h1]
    refine lst_no (fun k hk => ?_)
    cases e : p k with
    | false => rfl
    | true =>
      obtain ⟨j, hj, rfl⟩ := hs k hk e
      rw [hp j hj, h2 j hj] at e
      cases e
  · rw [h1]
    refine lst_is (hN b h2) (by rw [hp b h2]; exact h3) (fun k hk e => ?_)
    obtain ⟨j, hj, rfl⟩ := hs k hk e
    rw [hp j hj] at e
    rw [hf b h2 h3, hf j hj e]
    have := h4 j hj e
    rcases Nat.lt_trichotomy b j with y | y | y
    · have := hmono b j y hj; omega
    · rw [y]; exact Or.inr ⟨rfl, Nat.le_refl _⟩
    · omega
def rm (p : Nat → Bool) (g : Nat) : Nat → Bool := fun x => p x && decide (x ≠ g)
/-- least noise of n still to go, behind one -/
def mcG (e : Option Nat → Nat → Nat) (N : Nat) : Nat → Option Nat → (Nat → Bool) → Nat
  | 0, _, _ => 0
  | n + 1, o, p => match lst p (fun g => e o g + mcG e N n (some g) (rm p g)) N with
    | none => 0
    | some g => e o g + mcG e N n (some g) (rm p g)
def boG (e : Option Nat → Nat → Nat) (N : Nat) : Nat → Option Nat → (Nat → Bool) → List Nat
  | 0, _, _ => []
  | n + 1, o, p => match lst p (fun g => e o g + mcG e N n (some g) (rm p g)) N with
    | none => []
    | some g => g :: boG e N n (some g) (rm p g)
def bhF (e : Option Nat → Nat → Nat) (N n : Nat) (o : Option Nat) (p : Nat → Bool) (g : Nat) : Nat := e o g + mcG e N n (some g) (rm p g)
theorem mcG_s {e : Option Nat → Nat → Nat} {N n : Nat} {o : Option Nat} {p : Nat → Bool} {g : Nat} (h : lst p (bhF e N n o p) N = some g) : mcG e N (n + 1) o p = bhF e N n o p g := by
  unfold bhF at h ⊢
  rw [mcG, h]
theorem boG_s {e : Option Nat → Nat → Nat} {N n : Nat} {o : Option Nat} {p : Nat → Bool} {g : Nat} (h : lst p (bhF e N n o p) N = some g) : boG e N (n + 1) o p = g :: boG e N n (some g) (rm p g) := by
  unfold bhF at h
  rw [boG, h]
theorem mcG_le {e : Option Nat → Nat → Nat} {N M : Nat} (he : ∀ o g, e o g ≤ M) : ∀ n o p, mcG e N n o p ≤ M * n
  | 0, _, _ => Nat.zero_le _
  | n + 1, o, p => by
    rw [mcG]
    split
    · exact Nat.zero_le _
    · rename_i g _
      have := mcG_le (N := N) he n (some g) (rm p g)
      have := he o g
      rw [Nat.mul_add]
      omega
def edV (v : CV) (o : Option Nat) (g : Nat) : Nat := match o with
  | none => 0
  | some l => if l < vG v ∧ g < vG v then vF v 2 l * vF v 3 g else 0
theorem edV_le {v : CV} (hv : COK v) (o : Option Nat) (g : Nat) : edV v o g ≤ 81 := by
  unfold edV
  split
  · omega
  · split
    · rename_i l q
      have h1 := (hv.2.2.2.2.2.1 l q.1).2.2.1
      have h2 := (hv.2.2.2.2.2.1 g q.2).2.2.2.1
      exact Nat.mul_le_mul h1 h2
    · omega
/-- a record, and what another order makes of it -/
def updR (r : Option (Nat × List Nat)) (x : Nat) (L : List Nat) : Option (Nat × List Nat) := match r with
  | none => some (x, L)
  | some p => if x < p.1 then some (x, L) else some p
theorem updR_lt {r : Option (Nat × List Nat)} {x y : Nat} {L M : List Nat} (h : y < x) : updR (updR r x L) y M = updR r y M := by
  cases r with
  | none => simp [updR, h]
  | some p =>
    unfold updR
    by_cases q : x < p.1
    · simp only [if_pos q, if_pos h, if_pos (Nat.lt_trans h q)]
    · simp only [if_neg q]
theorem updR_ge {r : Option (Nat × List Nat)} {x y : Nat} {L M : List Nat} (h : x ≤ y) : updR (updR r x L) y M = updR r x L := by
  cases r with
  | none => simp only [updR, if_neg (Nat.not_lt.mpr h)]
  | some p =>
    unfold updR
    by_cases q : x < p.1
    · simp only [if_pos q, if_neg (Nat.not_lt.mpr h)]
    · have : ¬ y < p.1 := by omega
      simp only [if_neg q, if_neg this]
def RC (s : RS) (r : Option (Nat × List Nat)) : Prop := (r = none ∧ s.1 32 = 0) ∨ ∃ b L, r = some (b, L) ∧ ¬ s.1 32 = 0 ∧ s.1 31 = nI b ∧ b < 10000 ∧ ∀ i x, L[i]? = some x → s.2.1 13 i = nI x
def frQ (k : Nat) (s s' : RS) : Prop := (∀ j, j ≠ 31 → j ≠ 32 → s'.1 j = s.1 j) ∧ (∀ i, i ≠ 12 → i ≠ 13 → s'.2.1 i = s.2.1 i) ∧ s'.2.2 = s.2.2 ∧ ∀ x, x < k → s'.2.1 12 x = s.2.1 12 x
section QR1
variable {c : CX} {d : Nat} {s s' : RS} {v : CV} {a : SD}
theorem frQ.rf (k : Nat) (s : RS) : frQ k s s := ⟨fun _ _ _ => rfl, fun _ _ _ => rfl, rfl, fun _ _ => rfl⟩
theorem frQ.tr {k : Nat} {s t u : RS} (h : frQ k s t) (h' : frQ k t u) : frQ k s u := ⟨fun j a b => (h'.1 j a b).trans (h.1 j a b), fun i a b => (h'.2.1 i a b).trans (h.2.1 i a b), h'.2.2.1.trans h.2.2.1, fun x hx => (h'.2.2.2 x hx).trans (h.2.2.2 x hx)⟩
theorem frQ.KR {k : Nat} (h : frQ k s s') (q : KR s v a) : KR s' v a := by
  unfold Jvm.Pilot.CInsultRowLaw_law_r5875_08aed1.KR at q ⊢
  rw [h.2.1 1 (by decide) (by decide)]
  exact q
theorem go_rec {Q : RS → Prop} {k noise : Nat} {pre : List Nat} {l2 : Int32} (hk : pre.length = k) (h8 : k ≤ 8) (hn : noise < 10000) (hq : ∀ s', frQ k s s' → RC s' (some (noise, pre)) → Q s') : (∀ i x, pre[i]? = some x → s.2.1 12 i = nI x) → eR c (d + 1) m_R_goesOrders 33 [some (.ref 2), some (.int (nI k)), some (.int l2), some (.int (nI noise)), some (.int 0)] (rF (rF s 32 1) 31 (nI noise)) (pV c Q) := by
  intro hp
  suffices H : ∀ (m i : Nat) (s1 : RS), i + m = k → frQ k s s1 → s1.1 32 = 1 → s1.1 31 = nI noise → (∀ j x, j < i → pre[j]? = some x → s1.2.1 13 j = nI x) → eR c (d + 1) m_R_goesOrders 33 [some (.ref 2), some (.int (nI k)), some (.int l2), some (.int (nI noise)), some (.int (nI i))] s1 (pV c Q) by
    refine H k 0 _ (by omega) ⟨fun j a b => ?_, fun _ _ _ => rfl, rfl, fun _ _ => rfl⟩ rfl rfl (fun j x hj => by omega)
    show (if j = 31 then _ else if j = 32 then _ else _) = _
    rw [if_neg a, if_neg b]
  intro m
  induction m with
  | zero =>
    intro i s1 hi hf h32 h31 h13
    refine w_R_goesOrders_33 _ _ _ _ ⟨fun _ => hq s1 hf (Or.inr ⟨noise, pre, rfl, by rw [h32]; decide, h31, hn, fun j x hx => h13 j x ?_ hx⟩), fun z => absurd ((nI_leI (by omega) (by omega)).mpr (by omega)) z⟩
    have := (List.getElem?_eq_some_iff.mp hx).1
    omega
  | succ m ih =>
    intro i s1 hi hf h32 h31 h13
    refine w_R_goesOrders_33 _ _ _ _ ⟨fun z => absurd ((nI_leI (by omega) (by omega)).mp z) (by omega), fun _ => ⟨okn (by omega) (by decide), okn (by omega) (by decide), ?_⟩⟩
    rw [nI_1, ix_nI (by omega)]
    refine ih (i + 1) _ (by omega) (hf.tr ⟨fun _ _ _ => rfl, fun j _ b => if_neg b, rfl, fun _ _ => rfl⟩) h32 h31 (fun j x hj hx => ?_)
    rw [rA_W, rW_at]
    unfold upd
    by_cases q : j = i
    · rw [if_pos q, hf.2.2.2 i (by omega), ← q]; exact hp j x hx
    · rw [if_neg q]; exact h13 j x (by omega) hx
theorem tb_clr {left g : Nat} (hl : left < 1024) : (clrb left g).testBit = rm left.testBit g := by
  funext x
  rcases Nat.lt_or_ge x 10 with q | q
  · exact clr_bit q
  · have h1 : left.testBit x = false := Nat.testBit_lt_two_pow (Nat.lt_of_lt_of_le hl (Nat.pow_le_pow_right (n := 2) (by decide) q))
    have h2 : (clrb left g).testBit x = false := Nat.testBit_lt_two_pow (Nat.lt_of_lt_of_le (clr_lt hl) (Nat.pow_le_pow_right (n := 2) (by decide) q))
    rw [h2]
    unfold rm
    rw [h1]
    rfl
theorem last_get {pre : List Nat} {k : Nat} (hk : pre.length = k + 1) : ∃ l, pre.getLast? = some l ∧ pre[k]? = some l := by
  obtain ⟨l, hl⟩ : ∃ l, pre[k]? = some l := ⟨_, List.getElem?_eq_getElem (by omega)⟩
  refine ⟨l, ?_, hl⟩
  rw [List.getLast?_eq_getElem?, hk]
  exact hl
theorem go_spec : ∀ (n k left noise : Nat) (pre : List Nat) (r : Option (Nat × List Nat)) (s : RS) (Q : RS → Prop), KR s v a → left < 1024 → (∀ g, left.testBit g = true → g < vG v) → pop left = n → pre.length = k → k + n ≤ 8 → (∀ i x, pre[i]? = some x → s.2.1 12 i = nI x ∧ x < vG v) → RC s r → noise ≤ 81 * k → (∀ s', frQ k s s' → RC s' (updR r (noise + mcG (edV v) 10 n pre.getLast? left.testBit) (pre ++ boG (edV v) 10 n pre.getLast? left.testBit)) → Q s') → RV c (d + n + 1) m_R_goesOrders [.ref 2, .int (nI k), .int (nI left), .int (nI noise)] s Q := by
  intro n
  induction n with
  | zero =>
    intro k left noise pre r s Q h hl hb hp hk h8 hpre hr hno hq
    have h0 : left = 0 := no_bits hl (fun j hj => by
      cases e : left.testBit j with
      | false => rfl
      | true => have := pop_pos hl hj e; omega)
    have go : (¬ nI left = 0 → eR c (d + 1) m_R_goesOrders 63 [some (.ref 2), some (.int (nI k)), some (.int (nI left)), some (.int (nI noise)), some (.int 0)] s (pV c Q)) ∧ ((∀ s', frQ k s s' → RC s' (some (noise, pre)) → Q s') → nI left = 0 → eR c (d + 1) m_R_goesOrders 33 [some (.ref 2), some (.int (nI k)), some (.int (nI left)), some (.int (nI noise)), some (.int 0)] (rF (rF s 32 1) 31 (nI noise)) (pV c Q)) :=
      ⟨fun z => absurd (by rw [h0]; rfl) z, fun hq _ => go_rec hk (by omega) (by omega) hq (fun i x hx => (hpre i x hx).1)⟩
    refine w_R_goesOrders _ _ _ ?_
    have e1 : mcG (edV v) 10 0 pre.getLast? left.testBit = 0 := rfl
    have e2 : boG (edV v) 10 0 pre.getLast? left.testBit = [] := rfl
    rw [e1, e2, List.append_nil, Nat.add_zero] at hq
    rcases hr with ⟨rfl, h32⟩ | ⟨b, L, rfl, h32, h31, hb1, hL⟩
    · exact ⟨fun _ => ⟨go.1, go.2 hq⟩, fun z => absurd h32 z⟩
    · refine ⟨fun z => absurd z h32, fun _ => ?_⟩
      rw [h31, nI_ltI (by omega) (by omega)]
      refine ⟨fun z => ⟨go.1, go.2 (fun s' hf hr => hq s' hf (by simpa [updR, z] using hr))⟩, fun z => hq s (frQ.rf k s) ?_⟩
      have : updR (some (b, L)) noise pre = some (b, L) := by simp only [updR, if_neg z]
      rw [this]
      exact Or.inr ⟨b, L, rfl, h32, h31, hb1, hL⟩
  | succ n ihn =>
    intro k left noise pre r s Q h hl hb hp hk h8 hpre hr hno hq
    have hG := h.2.2.1.1
    have he := edV_le h.2.2.1
    have h0 : left ≠ 0 := fun e => by rw [e, pop_0] at hp; omega
    have hz : ¬ nI left = 0 := fun q => h0 ((nI_inj (b := 0) (by omega) (by decide)).mp q)
    have hmc := mcG_le (N := 10) he (n + 1) pre.getLast? left.testBit
    have hcut : ∀ x, vG v ≤ x → left.testBit x = false := fun x hx => by
      cases e : left.testBit x with
      | false => rfl
      | true => have := hb x e; omega
    have loop : eR c (d + n + 2) m_R_goesOrders 63 [some (.ref 2), some (.int (nI k)), some (.int (nI left)), some (.int (nI noise)), some (.int 0)] s (pV c Q) := by
      suffices H : ∀ (m g : Nat) (s1 : RS), g + m = vG v → frQ k s s1 → RC s1 (match lst left.testBit (bhF (edV v) 10 n pre.getLast? left.testBit) g with
          | none => r
          | some b => updR r (noise + bhF (edV v) 10 n pre.getLast? left.testBit b) (pre ++ b :: boG (edV v) 10 n (some b) (rm left.testBit b))) → eR c (d + n + 2) m_R_goesOrders 63 [some (.ref 2), some (.int (nI k)), some (.int (nI left)), some (.int (nI noise)), some (.int (nI g))] s1 (pV c Q) from H (vG v) 0 s (by omega) (frQ.rf k s) hr
      intro m
      induction m with
      | zero =>
        intro g s1 hg hf hr1
        refine w_R_goesOrders_63 _ _ _ _ ⟨fun _ => hq s1 hf ?_, fun z => absurd (((hf.KR h).gle (by omega)).mpr (by omega)) z⟩
        rw [show g = vG v by omega, ← lst_cut hcut hG] at hr1
        rcases lst_spec left.testBit (bhF (edV v) 10 n pre.getLast? left.testBit) 10 with ⟨q1, q2⟩ | ⟨b, q1, q2, q3, q4⟩
        · exact absurd (no_bits hl q2) h0
        · rw [q1] at hr1
          rw [mcG_s q1, boG_s q1]
          exact hr1
      | succ m ih =>
        intro g s1 hg hf hr1
        have k1 := hf.KR h
        refine w_R_goesOrders_63 _ _ _ _ ⟨fun z => absurd ((k1.gle (by omega)).mp z) (by omega), fun _ => ?_⟩
        rw [hs_nI left hl g (by omega), nI_1, nI_1]
        have hst : lst left.testBit (bhF (edV v) 10 n pre.getLast? left.testBit) (g + 1) = match lst left.testBit (bhF (edV v) 10 n pre.getLast? left.testBit) g with
          | none => if left.testBit g = true then some g else none
          | some b => if left.testBit g = true ∧ bhF (edV v) 10 n pre.getLast? left.testBit g < bhF (edV v) 10 n pre.getLast? left.testBit b then some g else some b := rfl
        refine ⟨fun z => ⟨okn (by omega) (by decide), ?_⟩, fun z => ih (g + 1) s1 (by omega) hf ?_⟩
        · have key : ∀ s2, s2 = rA s1 12 k (nI g) → RV c (d + n + 1) m_R_goesOrders [.ref 2, .int (nI (k + 1)), .int (nI (clrb left g)), .int (nI (noise + edV v pre.getLast? g))] s2 (fun s3 => eR c (d + n + 2) m_R_goesOrders 63 [some (.ref 2), some (.int (nI k)), some (.int (nI left)), some (.int (nI noise)), some (.int (nI (g + 1)))] s3 (pV c Q)) := fun s2 e2 => by
            have e12 : s2.2.1 12 = upd (s1.2.1 12) k (nI g) := by rw [e2, rA_W, rW_at]
            have hf2 : frQ k s1 s2 := by
              rw [e2]
              refine ⟨fun _ _ _ => rfl, fun i a _ => if_neg a, rfl, fun x hx => ?_⟩
              rw [rA_W, rW_at]
              unfold upd
              exact if_neg (by omega)
            have hr2 : RC s2 (match lst left.testBit (bhF (edV v) 10 n pre.getLast? left.testBit) g with
              | none => r
              | some b => updR r (noise + bhF (edV v) 10 n pre.getLast? left.testBit b) (pre ++ b :: boG (edV v) 10 n (some b) (rm left.testBit b))) := by
              rw [e2]; exact hr1
            refine ihn (k + 1) (clrb left g) (noise + edV v pre.getLast? g) (pre ++ [g]) _ s2 _ (hf2.KR k1) (clr_lt hl) (fun x hx => hb x ?_) (by have := pop_clr left hl g (by omega) z; omega) (by simp [hk]) (by omega) (fun i x hx => ?_) hr2 (by have := he pre.getLast? g; omega) (fun s3 hf3 hr3 => ?_)
            · rw [tb_clr hl] at hx
              exact (Bool.and_eq_true_iff.mp hx).1
            · rw [e12]
              unfold upd
              rcases Nat.lt_trichotomy i k with y | y | y
              · rw [if_neg (by omega), hf.2.2.2 i y]
                rw [List.getElem?_append_left (by omega)] at hx
                exact hpre i x hx
              · rw [if_pos y]
                rw [List.getElem?_append_right (by omega), show i - pre.length = 0 by omega] at hx
                have : g = x := Option.some.inj hx
                exact ⟨by rw [this], by omega⟩
              · rw [List.getElem?_eq_none (by simp; omega)] at hx
                cases hx
            · refine ih (g + 1) s3 (by omega) ((hf.tr hf2).tr ⟨hf3.1, hf3.2.1, hf3.2.2.1, fun x hx => hf3.2.2.2 x (by omega)⟩) ?_
              rw [tb_clr hl, List.getLast?_concat, List.append_assoc, Nat.add_assoc] at hr3
              rw [hst]
              have eb : bhF (edV v) 10 n pre.getLast? left.testBit g = edV v pre.getLast? g + mcG (edV v) 10 n (some g) (rm left.testBit g) := rfl
              rw [← eb] at hr3
              cases ec : lst left.testBit (bhF (edV v) 10 n pre.getLast? left.testBit) g with
              | none =>
                rw [ec] at hr3
                simp only [z, if_true]
                exact hr3
              | some b =>
                rw [ec] at hr3
                simp only [z, true_and]
                by_cases y : bhF (edV v) 10 n pre.getLast? left.testBit g < bhF (edV v) 10 n pre.getLast? left.testBit b
                · rw [if_pos y]
                  simp only at hr3
                  rw [updR_lt (by omega)] at hr3
                  exact hr3
                · rw [if_neg y]
                  simp only at hr3
                  rw [updR_ge (by omega)] at hr3
                  exact hr3
          rw [clr_i left hl g (by omega), ix_nI (by omega)]
          refine ⟨fun z2 => ?_, fun z2 => ?_⟩
          · obtain ⟨k', rfl⟩ : ∃ k', k = k' + 1 := ⟨k - 1, by have : k ≠ 0 := fun q => z2 (by rw [q]; rfl); omega⟩
            obtain ⟨l, hl1, hl2⟩ := last_get hk
            have hlG := (hpre k' l hl2).2
            rw [show nI (k' + 1) - 1 = nI k' from nI_sub (a := k' + 1) (b := 1) (by omega), ix_nI (by omega)]
            refine ⟨okn (by omega) (by decide), ?_⟩
            have e12 : (rA s1 12 (k' + 1) (nI g)).2.1 12 k' = nI l := by
              rw [rA_W, rW_at]
              unfold upd
              rw [if_neg (by omega), hf.2.2.2 k' (by omega)]
              exact (hpre k' l hl2).1
            rw [e12]
            refine s_noiseOf (a := a) (v := v) (KR.put k1 _ (by decide)) hlG (by omega) ?_
            rw [nI_add]
            have ee : edV v pre.getLast? g = vF v 2 l * vF v 3 g := by rw [hl1]; exact if_pos ⟨hlG, by omega⟩
            rw [← ee]
            exact key _ rfl
          · have z2 : k = 0 := (nI_inj (b := 0) (by omega) (by decide)).mp z2
            subst z2
            have : pre = [] := List.length_eq_zero_iff.mp hk
            have ee : edV v pre.getLast? g = 0 := by rw [this]; rfl
            have key := key _ rfl
            rw [ee, Nat.add_zero] at key
            rw [show nI noise + 0 = nI noise from Int32.add_zero _]
            exact key
        · rw [hst]
          cases ec : lst left.testBit (bhF (edV v) 10 n pre.getLast? left.testBit) g with
          | none =>
            rw [ec] at hr1
            simp only [z, Bool.false_eq_true, if_false]
            exact hr1
          | some b =>
            rw [ec] at hr1
            simp only [z, Bool.false_eq_true, false_and, if_false]
            exact hr1
    refine w_R_goesOrders _ _ _ ?_
    rcases hr with ⟨rfl, h32⟩ | ⟨b, L, rfl, h32, h31, hb1, hL⟩
    · exact ⟨fun _ => ⟨fun _ => loop, fun z => absurd z hz⟩, fun z => absurd h32 z⟩
    · refine ⟨fun z => absurd z h32, fun _ => ?_⟩
      rw [h31, nI_ltI (by omega) (by omega)]
      refine ⟨fun z => ⟨fun _ => loop, fun z => absurd z hz⟩, fun z => hq s (frQ.rf k s) ?_⟩
      have : ∀ x M, updR (some (b, L)) (noise + x) M = some (b, L) := fun x M => by
        have : ¬ noise + x < b := by omega
        simp only [updR, if_neg this]
      rw [this]
      exact Or.inr ⟨b, L, rfl, h32, h31, hb1, hL⟩
end QR1
