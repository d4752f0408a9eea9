/-! the tape -/
/-- the k-th byte of an int, the highest first -/
def byt (a : Int32) (k : Nat) : Nat := a.toUInt32.toNat / 2 ^ (24 - 8 * k) % 256
theorem byt_lt (a : Int32) (k : Nat) : byt a k < 256 := Nat.mod_lt _ (by decide)
def sgb (b : Nat) : Int32 := (nI b).toInt8.toInt32
def sh8 (k : Nat) : Int32 := 24 - 8 * nI k
theorem byt_r (a : Int32) {k : Nat} (hk : k < 4) : ((a.toUInt32 >>> ((sh8 k).toUInt32 &&& Int32.toUInt32 31)).toInt32) &&& 255 = nI (byt a k) := by
  have e : (a.toUInt32 >>> ((sh8 k).toUInt32 &&& Int32.toUInt32 31)).toNat = a.toUInt32.toNat / 2 ^ (24 - 8 * k) := by
    rw [UInt32.toNat_shiftRight, (by decide : ∀ k, k < 4 → ((sh8 k).toUInt32 &&& Int32.toUInt32 31).toNat % 32 = 24 - 8 * k) k hk, Nat.shiftRight_eq_div_pow]
  have hl := UInt32.toNat_lt (a.toUInt32 >>> ((sh8 k).toUInt32 &&& Int32.toUInt32 31))
  have e2 : (a.toUInt32 >>> ((sh8 k).toUInt32 &&& Int32.toUInt32 31)).toInt32 = nI (a.toUInt32.toNat / 2 ^ (24 - 8 * k)) := by
    refine Int32.toBitVec_inj.mp (BitVec.eq_of_toNat_eq ?_)
    show (a.toUInt32 >>> ((sh8 k).toUInt32 &&& Int32.toUInt32 31)).toNat = (BitVec.ofNat 32 _).toNat
    rw [BitVec.toNat_ofNat, ← e, Nat.mod_eq_of_lt hl]
  rw [e2, show (255 : Int32) = nI (2 ^ 8 - 1) from rfl, fa_mask]
  rfl
theorem i8_ext {x y : Int32} (h : ∀ i, i < 8 → bt x i = bt y i) : x.toInt8 = y.toInt8 := by
  refine Int8.toBitVec_inj.mp (BitVec.eq_of_getLsbD_eq (fun i hi => ?_))
  show (x.toBitVec.signExtend 8).getLsbD i = (y.toBitVec.signExtend 8).getLsbD i
  rw [sx_k _ hi (by decide), sx_k _ hi (by decide), if_pos (by omega)]
  exact h i hi
theorem byt_x (a : Int32) {k : Nat} (hk : k < 4) : vp_nar .byte ((a >>> (sh8 k &&& 31)).toInt8.toInt32) = sgb (byt a k) := by
  show (a >>> (sh8 k &&& 31)).toInt8.toInt32.toInt8.toInt32 = _
  rw [fb_byte_twice]
  unfold sgb
  rw [← byt_r a hk, fa_byte_low]
  congr 1
  refine i8_ext (fun i hi => ?_)
  have e : sh8 k = nI (24 - 8 * k) := (by decide : ∀ k, k < 4 → sh8 k = nI (24 - 8 * k)) k hk
  rw [e, b_sshr _ (by omega) _ (by omega), b_ushr _ (by omega), if_pos (by omega)]
def TPX (T : XS) (n : Nat) (f : Nat → Nat) : Prop := xI T 1 1 = nI n ∧ n ≤ 900 ∧ ∀ j, j < n → xA T 5 j = sgb (f j) ∧ f j < 256
def TPR (s : RS) (n : Nat) (f : Nat → Nat) : Prop := s.1 6 = nI n ∧ n ≤ 900 ∧ ∀ j, j < n → s.2.1 5 j = nI (f j) ∧ f j < 256
def fp4 (f : Nat → Nat) (n : Nat) (a : Int32) : Nat → Nat := fun j => if n ≤ j ∧ j < n + 4 then byt a (j - n) else f j
def pk5 (a b c d e : Int32) (k : Nat) : Int32 := if 4 ≤ k then (if 8 ≤ k then (if 12 ≤ k then (if 16 ≤ k then e else d) else c) else b) else a
def fd20 (f : Nat → Nat) (n : Nat) (a b c d e : Int32) : Nat → Nat := fun j => if n ≤ j ∧ j < n + 20 then byt (pk5 a b c d e (j - n)) ((j - n) % 4) else f j
abbrev tpS (b : Nat) : Prop := b = 1 ∨ b = 5
section FD1
variable {c : CX} {d n : Nat} {T T' : XS} {f g : Nat → Nat} {s s' : RS}
theorem TPX.cong (h : TPX T n f) (hg : ∀ j, j < n → f j = g j) : TPX T n g := ⟨h.1, h.2.1, fun j hj => by rw [← hg j hj]; exact h.2.2 j hj⟩
/-- what feeding leaves -/
def FDX (T T' : XS) : Prop := frm tpS T T' ∧ ∀ k, k ≠ 1 → xI T' 1 k = xI T 1 k
theorem FDX.rf : FDX T T := ⟨frm.rf, fun _ _ => rfl⟩
theorem FDX.tr {T'' : XS} (h : FDX T T') (h' : FDX T' T'') : FDX T T'' := ⟨h.1.tr h'.1, fun k hk => (h'.2 k hk).trans (h.2 k hk)⟩
theorem x_putBytes {Q : XS → Prop} (h : TPX T n f) (hn : n + 4 ≤ 900) {a : Int32} (hq : ∀ T', FDX T T' → TPX T' (n + 4) (fp4 f n a) → Q T') : XV c d m_X_putBytes [.ref 1, .int a] T Q := by
  refine wx_X_putBytes _ ?_
  suffices H : ∀ (m k : Nat) (T1 : XS), k + m = 4 → FDX T T1 → TPX T1 (n + k) (fp4 f n a) → eX c d m_X_putBytes 3 [some (.ref 1), some (.int a), some (.int (sh8 k))] T1 (yV c Q) from H 4 0 T (by omega) FDX.rf (h.cong (fun j hj => (if_neg (by omega)).symm))
  intro m
  induction m with
  | zero =>
    intro k T1 hk hf ht
    have ek : k = 4 := by omega
    subst ek
    exact wx_X_putBytes_3 _ _ ⟨fun _ => hq T1 hf ht, fun z => absurd (by decide) z⟩
  | succ m ih =>
    intro k T1 hk hf ht
    have hk4 : k < 4 := by omega
    obtain ⟨h1, h2, h3⟩ := ht
    refine wx_X_putBytes_3 _ _ ⟨fun z => absurd z ((by decide : ∀ k, k < 4 → ¬ sh8 k < 0) k hk4), fun _ => ?_⟩
    rw [h1]
    refine ⟨fun z => absurd ((nI_leI (a := 900) (by decide) (by omega)).mp z) (by omega), fun _ => ⟨okn (by omega) (by decide), ?_⟩⟩
    rw [(by decide : ∀ k, k < 4 → sh8 k + (-8) = sh8 (k + 1)) k hk4, byt_x a hk4, nI_1, ix_nI (by omega)]
    have f1 : frm tpS T1 (tA T1 5 (n + k) (sgb (byt a k))) := frm_A (Or.inr rfl) _ _
    have f2 : frm tpS (tA T1 5 (n + k) (sgb (byt a k))) (tI (tA T1 5 (n + k) (sgb (byt a k))) 1 1 (nI (n + k + 1))) := frm_I (Or.inl rfl) _ _
    refine ih (k + 1) _ (by omega) (hf.tr ⟨f1.tr f2, fun j hj => if_neg (fun e => hj e.2)⟩) ⟨xI_at _ _ _ _, by omega, fun j hj => ?_⟩
    have e : xA (tI (tA T1 5 (n + k) (sgb (byt a k))) 1 1 (nI (n + k + 1))) 5 j = if j = n + k then sgb (byt a k) else xA T1 5 j := by
      show xA (tA T1 5 (n + k) (sgb (byt a k))) 5 j = _
      rw [xA_A, if_pos rfl]
      rfl
    rw [e]
    by_cases y : j = n + k
    · rw [if_pos y]
      unfold fp4
      rw [if_pos (by omega), show j - n = k by omega]
      exact ⟨rfl, byt_lt a k⟩
    · rw [if_neg y]
      exact h3 j (by omega)
theorem x_feed {Q : Int32 → XS → Prop} (h : TPX T n f) {a0 a1 a2 a3 a4 : Int32} (ok : n + 20 ≤ 900 → ∀ T', FDX T T' → TPX T' (n + 20) (fd20 f n a0 a1 a2 a3 a4) → Q (nI (n + 20)) T') (full : ¬ n + 20 ≤ 900 → Q (-1) T) : XI c (d + 1) m_X_feed [.ref 1, .int a0, .int a1, .int a2, .int a3, .int a4] T Q := by
  have h2 := h.2.1
  refine wx_X_feed _ _ _ _ _ ?_
  rw [h.1, show (nI n ≤ (880 : Int32)) = (n ≤ 880) from propext (nI_leI (b := 880) (by omega) (by decide))]
  refine ⟨fun z => ?_, fun z => full (by omega)⟩
  refine x_putBytes h (by omega) (fun T1 g1 t1 => x_putBytes t1 (by omega) (fun T2 g2 t2 => x_putBytes t2 (by omega) (fun T3 g3 t3 => x_putBytes t3 (by omega) (fun T4 g4 t4 => x_putBytes t4 (by omega) (fun T5 g5 t5 => ?_)))))
  rw [t5.1]
  refine ok (by omega) T5 ((((g1.tr g2).tr g3).tr g4).tr g5) (t5.cong (fun j hj => ?_))
  unfold fp4 fd20 pk5
  by_cases y : j < n
  · rw [if_neg (by omega), if_neg (by omega), if_neg (by omega), if_neg (by omega), if_neg (by omega), if_neg (by omega)]
  · rw [if_pos (show n ≤ j ∧ j < n + 20 by omega)]
    by_cases y4 : j < n + 4
    · rw [if_neg (by omega), if_neg (by omega), if_neg (by omega), if_neg (by omega), if_pos (by omega), if_neg (show ¬ 4 ≤ j - n by omega), show (j - n) % 4 = j - n by omega]
    · by_cases y8 : j < n + 8
      · rw [if_neg (by omega), if_neg (by omega), if_neg (by omega), if_pos (by omega), if_pos (show 4 ≤ j - n by omega), if_neg (show ¬ 8 ≤ j - n by omega), show (j - n) % 4 = j - (n + 4) by omega]
      · by_cases y12 : j < n + 12
        · rw [if_neg (by omega), if_neg (by omega), if_pos (by omega), if_pos (show 4 ≤ j - n by omega), if_pos (show 8 ≤ j - n by omega), if_neg (show ¬ 12 ≤ j - n by omega), show (j - n) % 4 = j - (n + 4 + 4) by omega]
        · by_cases y16 : j < n + 16
          · rw [if_neg (by omega), if_pos (by omega), if_pos (show 4 ≤ j - n by omega), if_pos (show 8 ≤ j - n by omega), if_pos (show 12 ≤ j - n by omega), if_neg (show ¬ 16 ≤ j - n by omega), show (j - n) % 4 = j - (n + 4 + 4 + 4) by omega]
          · rw [if_pos (by omega), if_pos (show 4 ≤ j - n by omega), if_pos (show 8 ≤ j - n by omega), if_pos (show 12 ≤ j - n by omega), if_pos (show 16 ≤ j - n by omega), show (j - n) % 4 = j - (n + 4 + 4 + 4 + 4) by omega]
def FDR (s s' : RS) : Prop := s'.1 4 = 0 ∧ (∀ k, k ≠ 4 → k ≠ 6 → s'.1 k = s.1 k) ∧ (∀ i, i ≠ 5 → s'.2.1 i = s.2.1 i) ∧ s'.2.2 = s.2.2
theorem r_feed {Q : Int32 → RS → Prop} (h : TPR s n f) {a0 a1 a2 a3 a4 : Int32} (ok : n + 20 ≤ 900 → ∀ s', FDR s s' → TPR s' (n + 20) (fd20 f n a0 a1 a2 a3 a4) → Q (nI (n + 20)) s') (full : ¬ n + 20 ≤ 900 → Q (-1) (rF s 4 0)) : RI c d m_R_feed [.ref 2, .int a0, .int a1, .int a2, .int a3, .int a4] s Q := by
  have h2 := h.2.1
  refine w_R_feed _ _ _ _ _ ?_
  rw [h.1, show nI n + 20 = nI (n + 20) from nI_add n 20, show (nI (n + 20) ≤ (900 : Int32)) = (n + 20 ≤ 900) from propext (nI_leI (b := 900) (by omega) (by decide))]
  refine ⟨fun z => ?_, full⟩
  have ok := ok z
  suffices H : ∀ (m k : Nat) (s1 : RS), k + m = 20 → FDR s s1 → TPR s1 (n + k) (fd20 f n a0 a1 a2 a3 a4) → eR c d m_R_feed 23 [some (.ref 2), some (.int a0), some (.int a1), some (.int a2), some (.int a3), some (.int a4), some (.int (nI k)), none] s1 (pI c Q) from H 20 0 _ (by omega) ⟨rfl, fun k h4 _ => if_neg h4, fun _ _ => rfl, rfl⟩ ⟨h.1, h.2.1, fun j hj => by rw [show fd20 f n a0 a1 a2 a3 a4 j = f j from if_neg (by omega)]; exact h.2.2 j hj⟩
  intro m
  induction m with
  | zero =>
    intro k s1 hk hd ht
    have ek : k = 20 := by omega
    subst ek
    refine w_R_feed_23 _ _ _ _ _ _ ⟨fun _ => ?_, fun z => absurd (by decide) z⟩
    rw [ht.1]
    exact ok s1 hd ht
  | succ m ih =>
    intro k s1 hk hd ht
    have k20 : k < 20 := by omega
    obtain ⟨t1, t2, t3⟩ := ht
    have go : ∀ w, w = pk5 a0 a1 a2 a3 a4 k → (okx (s1.1 6) 900 ∧ eR c d m_R_feed 23 [some (.ref 2), some (.int a0), some (.int a1), some (.int a2), some (.int a3), some (.int a4), some (.int (nI k + 1)), none] (rF (rA s1 5 (ix (s1.1 6)) (((w.toUInt32 >>> ((24 - (8 * (nI k &&& 3))).toUInt32 &&& Int32.toUInt32 31)).toInt32) &&& 255)) 6 ((s1.1 6) + 1)) (pI c Q)) := fun w hw => by
      rw [t1, nI_1, nI_1, (by decide : ∀ k, k < 20 → 24 - (8 * (nI k &&& 3)) = sh8 (k % 4)) k k20, byt_r w (Nat.mod_lt _ (by decide)), ix_nI (by omega)]
      refine ⟨okn (by omega) (by decide), ih (k + 1) _ (by omega) ⟨hd.1, fun j h4 h6 => (if_neg h6).trans (hd.2.1 j h4 h6), fun j hj => (if_neg hj).trans (hd.2.2.1 j hj), hd.2.2.2⟩ ⟨rF_at _ _ _, by omega, fun j hj => ?_⟩⟩
      have e : (rF (rA s1 5 (n + k) (nI (byt w (k % 4)))) 6 (nI (n + k + 1))).2.1 5 j = if j = n + k then nI (byt w (k % 4)) else s1.2.1 5 j := rfl
      rw [e]
      by_cases y : j = n + k
      · rw [if_pos y]
        unfold fd20
        rw [if_pos (by omega), show j - n = k by omega, hw]
        exact ⟨rfl, byt_lt _ _⟩
      · rw [if_neg y]
        exact t3 j (by omega)
    have lt : ∀ j : Nat, j < 2 ^ 31 → (nI j ≤ nI k ↔ j ≤ k) := fun j hj => nI_leI hj (by omega)
    unfold pk5 at go
    refine w_R_feed_23 _ _ _ _ _ _ ⟨fun z => absurd ((nI_leI (a := 20) (by decide) (by omega)).mp z) (by omega), fun _ => ⟨fun y4 => ?_, fun y4 => ?_⟩⟩
    · have y4 := (lt 4 (by decide)).mp y4
      rw [if_pos y4] at go
      refine ⟨fun y8 => ?_, fun y8 => ?_⟩
      · have y8 := (lt 8 (by decide)).mp y8
        rw [if_pos y8] at go
        refine ⟨fun y12 => ?_, fun y12 => ?_⟩
        · have y12 := (lt 12 (by decide)).mp y12
          rw [if_pos y12] at go
          refine ⟨fun y16 => ?_, fun y16 => ?_⟩
          · rw [if_pos ((lt 16 (by decide)).mp y16)] at go
            exact go _ rfl
          · rw [if_neg (fun w => y16 ((lt 16 (by decide)).mpr w))] at go
            exact go _ rfl
        · rw [if_neg (fun w => y12 ((lt 12 (by decide)).mpr w))] at go
          exact go _ rfl
      · rw [if_neg (fun w => y8 ((lt 8 (by decide)).mpr w))] at go
        exact go _ rfl
    · rw [if_neg (fun w => y4 ((lt 4 (by decide)).mpr w))] at go
      exact go _ rfl
end FD1
