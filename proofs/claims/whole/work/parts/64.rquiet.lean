/-! the quietest order, asked of the reference -/
theorem cnt_rm {p : Nat → Bool} {g : Nat} (hp : p g = true) : ∀ N, g < N → fa_cnt (rm p g) N + 1 = fa_cnt p N
  | 0, h => by omega
  | N + 1, h => by
    rcases Nat.lt_or_ge g N with q | q
    · have := cnt_rm hp N q
      have e : rm p g N = p N := by unfold rm; rw [decide_eq_true (by omega), Bool.and_true]
      rw [fa_cnt, fa_cnt, e]
      omega
    · have e : g = N := by omega
      subst e
      have e1 : fa_cnt (rm p g) g = fa_cnt p g := fa_cnt_cong (fun k hk => by unfold rm; rw [decide_eq_true (by omega), Bool.and_true])
      have e2 : rm p g g = false := by unfold rm; simp
      rw [fa_cnt, fa_cnt, e1, e2, hp]
      rfl
theorem cnt_0 {p : Nat → Bool} {N : Nat} (h : ∀ k, k < N → p k = false) : fa_cnt p N = 0 := by
  induction N with
  | zero => rfl
  | succ N ih => rw [fa_cnt, ih (fun k hk => h k (by omega)), h N (by omega)]; rfl
theorem lst_cnt {p : Nat → Bool} {f : Nat → Nat} {N n : Nat} (h : fa_cnt p N = n + 1) : ∃ b, lst p f N = some b ∧ b < N ∧ p b = true ∧ fa_cnt (rm p b) N = n := by
  rcases lst_spec p f N with ⟨_, h2⟩ | ⟨b, h1, h2, h3, _⟩
  · rw [cnt_0 h2] at h; omega
  · have := cnt_rm h3 N h2
    exact ⟨b, h1, h2, h3, by omega⟩
theorem boG_len (e : Option Nat → Nat → Nat) (N : Nat) : ∀ n o p, fa_cnt p N = n → (boG e N n o p).length = n
  | 0, _, _, _ => rfl
  | n + 1, o, p, h => by
    obtain ⟨b, h1, h2, h3, h4⟩ := lst_cnt (f := bhF e N n o p) h
    rw [boG_s h1, List.length_cons, boG_len e N n (some b) (rm p b) h4]
def qtN (v : CV) (st : Nat) : Nat := mcG (edV v) 10 (pop st) none st.testBit
def qtO (v : CV) (st : Nat) : List Nat := boG (edV v) 10 (pop st) none st.testBit
theorem qtO_len (v : CV) (st : Nat) : (qtO v st).length = pop st := boG_len _ _ _ _ _ rfl
def qtV (v : CV) (st : Nat) (wt : Int32) : Int32 := if wt = 0 then nI (qtN v st) else oI ((qtO v st)[wt.toInt.toNat - 10]?)
/-- what may be asked -/
def qtA (v : CV) (st wt : Int32) : Prop := (0 ≤ st.toInt ∧ st.toInt < 2 ^ vG v) ∧ pop st.toInt.toNat ≤ 8 ∧ (wt = 0 ∨ (10 ≤ wt.toInt ∧ wt.toInt ≤ 17))
theorem nand_hi {X G : Nat} (hG : G ≤ 10) (hX : X < 2 ^ 32) : X &&& (2 ^ 32 - 2 ^ G) = 0 ↔ X < 2 ^ G := by
  have e : 2 ^ 32 - 2 ^ G = 2 ^ G * (2 ^ (32 - G) - 1) := by
    rw [Nat.mul_sub, ← Nat.pow_add, show G + (32 - G) = 32 by omega, Nat.mul_one]
  have hb : ∀ i, (2 ^ 32 - 2 ^ G).testBit i = (decide (G ≤ i) && decide (i - G < 32 - G)) := fun i => by
    rw [e, Nat.testBit_two_pow_mul, Nat.testBit_two_pow_sub_one]
  constructor
  · intro h
    refine Nat.lt_of_not_le (fun q => ?_)
    obtain ⟨i, hi, hx⟩ := Nat.exists_ge_and_testBit_of_ge_two_pow q
    have h32 : i < 32 := by
      refine Nat.lt_of_not_le (fun y => ?_)
      rw [Nat.testBit_lt_two_pow (Nat.lt_of_lt_of_le hX (Nat.pow_le_pow_right (n := 2) (by decide) y))] at hx
      cases hx
    have := congrArg (fun z => Nat.testBit z i) h
    simp only [Nat.testBit_and, hb, hx, Nat.zero_testBit, decide_eq_true hi, decide_eq_true (show i - G < 32 - G by omega)] at this
    cases this
  · intro h
    refine Nat.eq_of_testBit_eq (fun i => ?_)
    rw [Nat.testBit_and, hb, Nat.zero_testBit]
    rcases Nat.lt_or_ge i G with q | q
    · rw [decide_eq_false (by omega : ¬ G ≤ i)]; simp
    · rw [Nat.testBit_lt_two_pow (Nat.lt_of_lt_of_le h (Nat.pow_le_pow_right (n := 2) (by decide) q))]; rfl
theorem neg_hi : ∀ G, G < 11 → (-(nI (2 ^ G))).toBitVec.toNat = 2 ^ 32 - 2 ^ G := by decide +kernel
theorem and_hi {x : Int32} {G : Nat} (hG : G ≤ 10) : (x &&& (-((1 : Int32) <<< (nI G &&& 31)))) = 0 ↔ (0 ≤ x.toInt ∧ x.toInt < 2 ^ G) := by
  rw [sh10 G (by omega), ← Int32.toBitVec_inj, Int32.toBitVec_and, ← BitVec.toNat_inj, BitVec.toNat_and, neg_hi G (by omega), show (0 : Int32).toBitVec.toNat = 0 from rfl, nand_hi hG x.toBitVec.isLt]
  have h1 : x.toInt = if 2 * x.toBitVec.toNat < 2 ^ 32 then (x.toBitVec.toNat : Int) else (x.toBitVec.toNat : Int) - ((2 ^ 32 : Nat) : Int) := BitVec.toInt_eq_toNat_cond x.toBitVec
  have h2 : (2 : Nat) ^ G ≤ 2 ^ 10 := Nat.pow_le_pow_right (by decide) hG
  have h3 := x.toBitVec.isLt
  have h4 : ((2 ^ G : Nat) : Int) = (2 : Int) ^ G := by simp
  rw [h1, ← h4]
  generalize x.toBitVec.toNat = X at *
  generalize (2 : Nat) ^ G = Y at *
  split <;> omega
section QR2
variable {c : CX} {d : Nat} {s s' : RS} {v : CV} {a : SD}
theorem st_of {x : Int32} {G : Nat} (hG : G ≤ 10) (h : 0 ≤ x.toInt ∧ x.toInt < 2 ^ G) : x = nI x.toInt.toNat ∧ x.toInt.toNat < 1024 ∧ x.toInt.toNat < 2 ^ G := by
  have h2 : (2 : Nat) ^ G ≤ 2 ^ 10 := Nat.pow_le_pow_right (by decide) hG
  have h4 : ((2 ^ G : Nat) : Int) = (2 : Int) ^ G := by simp
  rw [← h4] at h
  generalize (2 : Nat) ^ G = Y at *
  exact ⟨nI_of_toInt (by omega), by omega, by omega⟩
theorem tb_G {n G g : Nat} (hn : n < 2 ^ G) (h : n.testBit g = true) : g < G := by
  refine Nat.lt_of_not_le (fun q => ?_)
  rw [Nat.testBit_lt_two_pow (Nat.lt_of_lt_of_le hn (Nat.pow_le_pow_right (n := 2) (by decide) q))] at h
  cases h
theorem r_quietest {Q : Int32 → RS → Prop} (h : KR s v a) {st wt : Int32} (ok : qtA v st wt → ∀ s', SQ s s' 0 → Q (qtV v st.toInt.toNat wt) s') (bad : ¬ qtA v st wt → ∀ s', SQ s s' 1 → Q 0 s') : RI c (d + 11) m_R_quietest [.ref 2, .int st, .int wt] s Q := by
  have hG := h.2.2.1.1
  refine w_R_quietest _ _ ?_
  rw [h.1.2.1, and_hi hG]
  refine ⟨fun z => bad (fun q => z q.1) _ (SQ.th2 s 0 1), fun z => ?_⟩
  obtain ⟨e, h1024, hlt⟩ := st_of hG z
  have hqa : qtA v st wt ↔ pop st.toInt.toNat ≤ 8 ∧ (wt = 0 ∨ (10 ≤ wt.toInt ∧ wt.toInt ≤ 17)) := ⟨fun q => q.2, fun q => ⟨z, q⟩⟩
  rw [hqa] at ok bad
  generalize st.toInt.toNat = n at *
  have hp := pop_le n h1024
  rw [e]
  refine s_size (s := rF s 4 0) h1024 ?_
  have e8 : (8 : Int32) < nI (pop n) ↔ 8 < pop n := nI_ltI (a := 8) (by decide) (by omega)
  rw [e8]
  refine ⟨fun y => bad (fun q => by omega) _ (SQ.th2 s 0 1), fun y => ?_⟩
  have go : (wt = 0 ∨ (10 ≤ wt.toInt ∧ wt.toInt ≤ 17)) → RV c (d + 10) m_R_goesOrders [.ref 2, .int 0, .int (nI n), .int 0] (rF (rF s 4 0) 32 0) (fun s3 => ((¬ wt = 0 → RI c (d + 10) m_R_size [.int (nI n)] s3 (fun v5 s4 => ((v5 ≤ (wt - 10) → Q ((-1)) s4) ∧ (¬ v5 ≤ (wt - 10) → (okx (wt - 10) 8 ∧ Q (s4.2.1 13 (ix (wt - 10))) s4))))) ∧ (wt = 0 → Q (s3.1 31) s3))) := fun hw => by
    obtain ⟨d', hd⟩ : ∃ d', d + 10 = d' + pop n + 1 := ⟨d + 9 - pop n, by omega⟩
    have ok := ok ⟨by omega, hw⟩
    have := go_spec (c := c) (d := d') (a := a) (v := v) (pop n) 0 n 0 [] none (rF (rF s 4 0) 32 0) (fun s3 => ((¬ wt = 0 → RI c (d + 10) m_R_size [.int (nI n)] s3 (fun v5 s4 => ((v5 ≤ (wt - 10) → Q ((-1)) s4) ∧ (¬ v5 ≤ (wt - 10) → (okx (wt - 10) 8 ∧ Q (s4.2.1 13 (ix (wt - 10))) s4))))) ∧ (wt = 0 → Q (s3.1 31) s3))) h h1024 (fun g hg => tb_G hlt hg) rfl rfl (by omega) (fun i x hx => by cases hx) (Or.inl ⟨rfl, rfl⟩) (Nat.le_refl _) ?_
    · rw [← hd] at this
      exact this
    · intro s3 hf hr
      have hs : SQ s s3 0 := ⟨(hf.1 4 (by decide) (by decide)).trans rfl, fun k h4 h22 h26 h27 h28 h31 h32 => (hf.1 k h31 h32).trans (by show (if k = 32 then _ else if k = 4 then _ else _) = _; rw [if_neg h32, if_neg h4]), fun i hi => hf.2.1 i (by omega) (by omega), fun i hi => by rw [hf.2.2.1]; rfl⟩
      have ok := ok s3 hs
      unfold qtV at ok
      rw [Nat.zero_add, List.nil_append] at hr
      rcases hr with ⟨q, _⟩ | ⟨b, L, q, -, h31, -, hL⟩
      · cases q
      · have q : (qtN v n, qtO v n) = (b, L) := Option.some.inj q
        have q1 : qtN v n = b := congrArg Prod.fst q
        have q2 : qtO v n = L := congrArg Prod.snd q
        refine ⟨fun y => ?_, fun y => ?_⟩
        · rw [if_neg y] at ok
          have hw : 10 ≤ wt.toInt ∧ wt.toInt ≤ 17 := hw.elim (fun t => absurd t y) id
          have ew : wt - 10 = nI (wt.toInt.toNat - 10) := by
            have : wt = nI wt.toInt.toNat := nI_of_toInt (by omega)
            rw [show wt - 10 = nI wt.toInt.toNat - nI 10 by rw [← this]; rfl]
            exact nI_sub (by omega)
          have hk : wt.toInt.toNat - 10 < 8 := by omega
          generalize wt.toInt.toNat - 10 = k at *
          rw [ew]
          refine s_size h1024 ?_
          rw [nI_leI (by omega) (by omega), ix_nI (by omega)]
          have hlen := qtO_len v n
          refine ⟨fun z => ?_, fun z => ⟨okn (by omega) (by decide), ?_⟩⟩
          · rw [List.getElem?_eq_none (by omega)] at ok
            exact ok
          · obtain ⟨x, hx⟩ : ∃ x, (qtO v n)[k]? = some x := ⟨_, List.getElem?_eq_getElem (by omega)⟩
            rw [hx] at ok
            rw [hL k x (by rw [← q2]; exact hx)]
            exact ok
        · rw [if_pos y] at ok
          rw [h31, ← q1]
          exact ok
  refine ⟨fun w => go (Or.inl w), fun w => ?_⟩
  rw [wth_c.1, wth_c.2]
  exact ⟨fun q => go (Or.inr q), fun q => bad (fun t => t.2.elim (fun u => w u) (fun u => q u)) _ (SQ.th2 s 0 1)⟩
end QR2
