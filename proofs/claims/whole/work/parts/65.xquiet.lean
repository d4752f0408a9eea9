/-! the quietest order, asked of the class -/
section MP1
variable {e : Option Nat → Nat → Nat} {N m : Nat} {mem : Nat → Nat}
theorem mcG_map (hmono : ∀ i j, i < j → j < m → mem i < mem j) (hN : ∀ j, j < m → mem j < N) : ∀ (n : Nat) (o : Option Nat) (p q : Nat → Bool), (∀ j, j < m → p (mem j) = q j) → (∀ g, g < N → p g = true → ∃ j, j < m ∧ mem j = g) → mcG e N n (o.map mem) p = mcG (fun o j => e (o.map mem) (mem j)) m n o q ∧ boG e N n (o.map mem) p = (boG (fun o j => e (o.map mem) (mem j)) m n o q).map mem
  | 0, _, _, _, _, _ => ⟨rfl, rfl⟩
  | n + 1, o, p, q, hp, hs => by
    have rec_ : ∀ b, b < m → mcG e N n (some (mem b)) (rm p (mem b)) = mcG (fun o j => e (o.map mem) (mem j)) m n (some b) (rm q b) ∧ boG e N n (some (mem b)) (rm p (mem b)) = (boG (fun o j => e (o.map mem) (mem j)) m n (some b) (rm q b)).map mem := fun b hb =>
      mcG_map hmono hN n (some b) (rm p (mem b)) (rm q b) (fun j hj => by
        unfold rm
        rw [hp j hj]
        congr 1
        rcases Nat.lt_trichotomy j b with y | y | y
        · have := hmono j b y hb
          rw [decide_eq_true (by omega), decide_eq_true (by omega)]
        · rw [y]; simp
        · have := hmono b j y hj
          rw [decide_eq_true (by omega), decide_eq_true (by omega)]) (fun g hg h => hs g hg (Bool.and_eq_true_iff.mp h).1)
    have hl : lst p (bhF e N n (o.map mem) p) N = (lst q (bhF (fun o j => e (o.map mem) (mem j)) m n o q) m).map mem :=
      lst_map hmono hN hp hs (fun j hj _ => by unfold bhF; rw [(rec_ j hj).1])
    rcases lst_spec q (bhF (fun o j => e (o.map mem) (mem j)) m n o q) m with ⟨h1, _⟩ | ⟨b, h1, h2, _⟩
    · rw [h1] at hl
      have hl : lst p (bhF e N n (o.map mem) p) N = none := hl
      unfold bhF at h1 hl
      rw [mcG, mcG, boG, boG, h1, hl]
      exact ⟨rfl, rfl⟩
    · rw [h1] at hl
      have hl : lst p (bhF e N n (o.map mem) p) N = some (mem b) := hl
      rw [mcG_s h1, boG_s h1, mcG_s hl, boG_s hl, (rec_ b h2).2]
      unfold bhF
      rw [(rec_ b h2).1]
      exact ⟨rfl, rfl⟩
end MP1
/-- members of a set, in their order -/
def memL (st k : Nat) : List Nat := (List.range k).filter st.testBit
theorem memL_s (st k : Nat) : memL st (k + 1) = memL st k ++ (if st.testBit k = true then [k] else []) := by
  unfold memL
  rw [List.range_succ, List.filter_append]
  congr 1
  by_cases h : st.testBit k = true <;> simp [h]
theorem memL_len (st : Nat) : ∀ k, (memL st k).length = fa_cnt st.testBit k
  | 0 => rfl
  | k + 1 => by
    rw [memL_s, List.length_append, memL_len st k, fa_cnt]
    split <;> rfl
def mbr (st : Nat) (j : Nat) : Nat := (memL st 10).getD j 0
theorem memL_10 {st G : Nat} (hG : G ≤ 10) (h : st < 2 ^ G) : memL st G = memL st 10 := by
  have key : ∀ k, memL st (G + k) = memL st G := by
    intro k
    induction k with
    | zero => rfl
    | succ k ih =>
      show memL st (G + k + 1) = _
      rw [memL_s, ih, if_neg (fun q => by have := tb_G h q; omega), List.append_nil]
  have := key (10 - G)
  rw [← this]
  congr 1
  omega
theorem mbr_get {st j : Nat} (hj : j < pop st) : (memL st 10)[j]? = some (mbr st j) := by
  have : j < (memL st 10).length := by rw [memL_len]; exact hj
  rw [List.getElem?_eq_getElem this]
  unfold mbr
  rw [List.getD_eq_getElem?_getD, List.getElem?_eq_getElem this]
  rfl
theorem mbr_mono {st : Nat} : ∀ i j, i < j → j < pop st → mbr st i < mbr st j := by
  intro i j hij hj
  have hp : (memL st 10).Pairwise (· < ·) := List.Pairwise.sublist List.filter_sublist List.pairwise_lt_range
  have h1 := mbr_get hj
  have h2 := mbr_get (st := st) (j := i) (by omega)
  obtain ⟨l1, e1⟩ := List.getElem?_eq_some_iff.mp h1
  obtain ⟨l2, e2⟩ := List.getElem?_eq_some_iff.mp h2
  rw [← e1, ← e2]
  exact List.pairwise_iff_getElem.mp hp i j l2 l1 hij
theorem mbr_in {st j : Nat} (hj : j < pop st) : mbr st j < 10 ∧ st.testBit (mbr st j) = true := by
  have := List.mem_of_getElem? (mbr_get hj)
  unfold memL at this
  rw [List.mem_filter, List.mem_range] at this
  exact this
theorem mbr_all {st g : Nat} (hg : g < 10) (h : st.testBit g = true) : ∃ j, j < pop st ∧ mbr st j = g := by
  have : g ∈ memL st 10 := by unfold memL; rw [List.mem_filter, List.mem_range]; exact ⟨hg, h⟩
  obtain ⟨j, hj⟩ := List.mem_iff_getElem?.mp this
  have hl := (List.getElem?_eq_some_iff.mp hj).1
  rw [memL_len] at hl
  refine ⟨j, hl, ?_⟩
  rw [mbr_get hl] at hj
  exact Option.some.inj hj
/-- members of a set that don't walk yet -/
def cm (M : Nat) : Nat → Bool := fun j => !M.testBit j
theorem cm_or (M j : Nat) : cm (M ||| 2 ^ j) = rm (cm M) j := by
  funext x
  unfold cm rm
  rw [Nat.testBit_or, Nat.testBit_two_pow, Bool.not_or]
  congr 1
  by_cases h : j = x
  · simp [h]
  · simp [h]; exact fun q => h q.symm
def eI (v : CV) (st : Nat) (o : Option Nat) (j : Nat) : Nat := edV v (o.map (mbr st)) (mbr st j)
def tv (v : CV) (st M l : Nat) : Nat := mcG (eI v st) (pop st) (fa_cnt (cm M) (pop st)) (some l) (cm M)
theorem qt_eq (v : CV) (st : Nat) : qtN v st = mcG (eI v st) (pop st) (pop st) none (cm 0) ∧ qtO v st = (boG (eI v st) (pop st) (pop st) none (cm 0)).map (mbr st) :=
  mcG_map (e := edV v) (mem := mbr st) mbr_mono (fun j hj => (mbr_in hj).1) (pop st) none st.testBit (cm 0) (fun j hj => by rw [(mbr_in hj).2]; unfold cm; simp) (fun g hg h => mbr_all hg h)
theorem cnt_c0 (n : Nat) : fa_cnt (cm 0) n = n := by
  induction n with
  | zero => rfl
  | succ n ih => rw [fa_cnt, ih, show cm 0 n = true by unfold cm; simp]; rfl
abbrev qtS (b : Nat) : Prop := b ∈ [157, 161, 165, 169]
theorem qtS_scr {b : Nat} (h : qtS b) : scr b := by
  have : ∀ b ∈ [157, 161, 165, 169], scr b := by decide
  exact this b h
theorem xI_at (T : XS) (a k : Nat) (x : Int32) : xI (tI T a k x) a k = x := if_pos ⟨rfl, rfl⟩
theorem xI_ne (T : XS) (a k : Nat) (x : Int32) {b j : Nat} (h : ¬ (b = a ∧ j = k)) : xI (tI T a k x) b j = xI T b j := if_neg h
section QX1
variable {c : CX} {d : Nat} {T T' : XS} {ca : Nat} {v : CV} {sd : SD} {st : Nat}
/-- members laid out -/
def MB (T : XS) (st : Nat) : Prop := xI T 157 3 = nI (pop st) ∧ ∀ j, j < pop st → xA T 161 j = nI (mbr st j)
def TB (T : XS) (v : CV) (st M0 : Nat) : Prop := ∀ M, M0 < M → M < 2 ^ pop st → ∀ l, l < pop st → M.testBit l = true → xA T 169 (M * 8 + l) = nI (tv v st M l)
theorem or_up {M j m : Nat} (hM : M < 2 ^ m) (hj : j < m) (h : M.testBit j = false) : M < M ||| 2 ^ j ∧ M ||| 2 ^ j < 2 ^ m := by
  refine ⟨?_, Nat.or_lt_two_pow hM (Nat.pow_lt_pow_right (by decide) hj)⟩
  refine Nat.lt_of_le_of_ne Nat.left_le_or (fun e => ?_)
  have := congrArg (fun z => Nat.testBit z j) e
  simp only [Nat.testBit_or, Nat.testBit_two_pow_self, Bool.or_true, h] at this
  cases this
theorem p256 (h8 : pop st ≤ 8) : 2 ^ pop st ≤ 256 := show 2 ^ pop st ≤ 2 ^ 8 from Nat.pow_le_pow_right (by decide) h8
theorem x_with {Q : Int32 → XS → Prop} (h : CS T 93 ca v sd) (hb : MB T st) (h8 : pop st ≤ 8) (hst : st < 2 ^ vG v) {M : Nat} (ht : TB T v st M) (hM : M < 2 ^ pop st) {o : Option Nat} (ho : ∀ l, o = some l → l < pop st) {j n : Nat} (hj : j < pop st) (hjM : M.testBit j = false) (hn : fa_cnt (cm M) (pop st) = n + 1) (hq : Q (nI (bhF (eI v st) (pop st) n o (cm M) j)) T) : XI c (d + 2) m_Qt_with [.ref 157, .ref ca, .int (nI M), .int (oI o), .int (nI j)] T Q := by
  have hG := h.G
  have h256 := p256 h8
  obtain ⟨u1, u2⟩ := or_up hM hj hjM
  have ei : ((nI M ||| ((1 : Int32) <<< (nI j &&& 31))) * 8) + nI j = nI ((M ||| 2 ^ j) * 8 + j) := by
    rw [sh1 j (by omega), fa_or, show nI (M ||| 2 ^ j) * 8 = nI ((M ||| 2 ^ j) * 8) from nI_mul _ 8, nI_add]
  have et : xA T 169 ((M ||| 2 ^ j) * 8 + j) = nI (mcG (eI v st) (pop st) n (some j) (rm (cm M) j)) := by
    rw [ht (M ||| 2 ^ j) u1 u2 j hj (by simp)]
    unfold tv
    have : fa_cnt (rm (cm M) j) (pop st) = n := by
      have := cnt_rm (p := cm M) (g := j) (by unfold cm; rw [hjM]; rfl) (pop st) hj
      omega
    rw [cm_or, this]
  have hmj := (mbr_in hj)
  have hmG := tb_G hst hmj.2
  refine wx_Qt_with _ _ _ _ ?_
  rw [ei, show ix (nI ((M ||| 2 ^ j) * 8 + j)) = (M ||| 2 ^ j) * 8 + j from ix_nI (by omega), et]
  refine ⟨okn (by omega) (by decide), fun z => ?_, fun z => ?_⟩
  · obtain ⟨l, rfl⟩ : ∃ l, o = some l := by
      cases o with
      | none => exact absurd rfl z
      | some l => exact ⟨l, rfl⟩
    have hl := ho l rfl
    have hml := mbr_in hl
    have hlG := tb_G hst hml.2
    show okx (nI l) 8 ∧ _
    have hF := h.2.1.2.2.2.2.2.2.1
    have e1 : (one (nI (mbr st l))) = true := one_nI hml.1
    have e2 : (one (nI (mbr st j))) = true := one_nI hmj.1
    refine ⟨okn (by omega) (by decide), okn (by omega) (by decide), h.2.1.1, ?_⟩
    rw [show ix (oI (some l)) = l from ix_nI (by omega), ix_nI (by omega), hb.2 l hl, hb.2 j hj]
    refine wx_Cv_noiseOf _ _ _ ⟨fun y => absurd (e1.symm.trans y) (by decide), fun _ => ⟨fun y => absurd (e2.symm.trans y) (by decide), fun _ => ⟨h.2.1.1, okn hml.1 (by decide), okn hmj.1 (by decide), ?_⟩⟩⟩
    rw [ix_nI (by omega), ix_nI (by omega), (hF _ hlG).2.1, (hF _ hmG).2.2.1, nI_mul, nI_add]
    have ee : vF v 2 (mbr st l) * vF v 3 (mbr st j) = eI v st (some l) j := (if_pos ⟨hlG, hmG⟩).symm
    unfold bhF at hq
    rw [ee, Nat.add_comm]
    exact hq
  · have : o = none := (oI_m1 (fun k hk => by have := ho k hk; omega)).mp z
    subst this
    unfold bhF at hq
    rw [show eI v st none j = 0 from rfl, Nat.zero_add] at hq
    exact hq
theorem x_bestBehind {Q : Int32 → XS → Prop} (h : CS T 93 ca v sd) (hb : MB T st) (h8 : pop st ≤ 8) (hst : st < 2 ^ vG v) {M : Nat} (ht : TB T v st M) (hM : M < 2 ^ pop st) {o : Option Nat} (ho : ∀ l, o = some l → l < pop st) {n : Nat} (hn : fa_cnt (cm M) (pop st) = n + 1 ∨ (fa_cnt (cm M) (pop st) = 0)) (hq : Q (oI (lst (cm M) (bhF (eI v st) (pop st) n o (cm M)) (pop st))) T) : XI c (d + 3) m_Qt_bestBehind [.ref 157, .ref ca, .int (nI M), .int (oI o)] T Q := by
  have h256 := p256 h8
  refine wx_Qt_bestBehind _ _ _ ?_
  suffices H : ∀ (m j : Nat), j + m = pop st → eX c (d + 3) m_Qt_bestBehind 6 [some (.ref 157), some (.ref ca), some (.int (nI M)), some (.int (oI o)), some (.int (oI (lst (cm M) (bhF (eI v st) (pop st) n o (cm M)) j))), some (.int (nI j)), none] T (yI c Q) from H (pop st) 0 (by omega)
  intro m
  induction m with
  | zero =>
    intro j hj
    refine wx_Qt_bestBehind_6 _ _ _ _ _ ?_
    rw [hb.1]
    exact ⟨fun _ => by rw [show j = pop st by omega]; exact hq, fun z => absurd ((nI_leI (by omega) (by omega)).mpr (by omega)) z⟩
  | succ m ih =>
    intro j hj
    refine wx_Qt_bestBehind_6 _ _ _ _ _ ?_
    rw [hb.1, bit_i (by omega), nI_1]
    have ih := ih (j + 1) (by omega)
    rw [lst] at ih
    refine ⟨fun z => absurd ((nI_leI (by omega) (by omega)).mp z) (by omega), fun _ => ⟨fun z => ?_, fun z => ?_⟩⟩
    · have z : cm M j = false := by unfold cm; rw [(Bool.not_eq_false _).mp z]; rfl
      cases el : lst (cm M) (bhF (eI v st) (pop st) n o (cm M)) j with
      | none => rw [el] at ih; simpa [z] using ih
      | some b => rw [el] at ih; simpa [z] using ih
    · have zc : cm M j = true := by unfold cm; rw [z]; rfl
      have hn : fa_cnt (cm M) (pop st) = n + 1 := by
        rcases hn with q | q
        · exact q
        · have := cnt_rm zc (pop st) (by omega); omega
      rcases lst_spec (cm M) (bhF (eI v st) (pop st) n o (cm M)) j with ⟨el, _⟩ | ⟨b, el, hbj, hbm, _⟩
      · rw [el] at ih ⊢
        refine ⟨fun _ => by simp only [zc, if_true] at ih; exact ih, fun y => absurd rfl y⟩
      · rw [el] at ih ⊢
        have hbM : M.testBit b = false := by unfold cm at hbm; simpa using hbm
        refine ⟨fun y => ?_, fun _ => x_with h hb h8 hst ht hM ho (by omega) z hn (x_with h hb h8 hst ht hM ho (by omega) hbM hn ?_)⟩
        · have := (oI_m1 (o := some b) (fun k hk => by have := Option.some.inj hk; omega)).mp y
          cases this
        · have hle : ∀ x, bhF (eI v st) (pop st) n o (cm M) x < 2 ^ 31 := fun x => by
            have h1 := mcG_le (e := eI v st) (N := pop st) (M := 81) (fun o g => edV_le h.2.2.1 _ _) n (some x) (rm (cm M) x)
            have h2 : eI v st o x ≤ 81 := edV_le h.2.2.1 _ _
            have h3 := fa_cnt_le (cm M) (pop st)
            unfold bhF
            omega
          rw [nI_leI (hle _) (hle _)]
          refine ⟨fun y => ?_, fun y => ?_⟩
          · have y : ¬ bhF (eI v st) (pop st) n o (cm M) j < bhF (eI v st) (pop st) n o (cm M) b := by omega
            simp only [zc, true_and, if_neg y] at ih
            exact ih
          · have y : bhF (eI v st) (pop st) n o (cm M) j < bhF (eI v st) (pop st) n o (cm M) b := by omega
            simp only [zc, true_and, if_pos y] at ih
            exact ih
theorem MB.fr (hb : MB T st) (hf : frm (fun b => b = 165 ∨ b = 169) T T') (h3 : xI T' 157 3 = xI T 157 3) : MB T' st := ⟨h3.trans hb.1, fun j hj => by rw [hf.A (by decide)]; exact hb.2 j hj⟩
theorem x_follow {Q : XS → Prop} (h : CS T 93 ca v sd) (hb : MB T st) (h8 : pop st ≤ 8) (hst : st < 2 ^ vG v) (ht : TB T v st 0) (hq : ∀ T', frm scr T T' → xI T' 157 3 = nI (pop st) → xI T' 157 4 = nI (qtN v st) → (∀ i x, (qtO v st)[i]? = some x → xA T' 165 i = nI x) → Q T') : XV c (d + 4) m_Qt_follow [.ref 157, .ref ca] T Q := by
  have h256 := p256 h8
  have hq' : ∀ T', frm scr T T' → xI T' 157 3 = nI (pop st) → xI T' 157 4 = nI (mcG (eI v st) (pop st) (pop st) none (cm 0)) → (∀ i x, (boG (eI v st) (pop st) (pop st) none (cm 0))[i]? = some x → xA T' 165 i = nI (mbr st x)) → Q T' := fun T' h1 h2 h3 h4 => hq T' h1 h2 (by rw [(qt_eq v st).1]; exact h3) (fun i x hx => by
    rw [(qt_eq v st).2, List.getElem?_map] at hx
    obtain ⟨y, hy, rfl⟩ := Option.map_eq_some_iff.mp hx
    exact h4 i y hy)
  have hlen := boG_len (eI v st) (pop st) (pop st) none (cm 0) (cnt_c0 _)
  refine wx_Qt_follow _ ?_
  suffices H : ∀ (m i M : Nat) (pre : List Nat) (T1 : XS), i + m = pop st → pre.length = i → frm scr T T1 → (∀ b, b ≠ 157 → b ≠ 165 → xA T1 b = xA T b) → xI T1 157 3 = nI (pop st) → xI T1 157 4 = (if i = 0 then 0 else nI (mcG (eI v st) (pop st) (pop st) none (cm 0))) → M < 2 ^ pop st → fa_cnt (cm M) (pop st) = m → (i = 0 → M = 0) → (∀ x, x ∈ pre → x < pop st) → boG (eI v st) (pop st) (pop st) none (cm 0) = pre ++ boG (eI v st) (pop st) m pre.getLast? (cm M) → (∀ j x, pre[j]? = some x → xA T1 165 j = nI (mbr st x)) → eX c (d + 4) m_Qt_follow 12 [some (.ref 157), some (.ref ca), some (.int (nI M)), some (.int (oI pre.getLast?)), some (.int (nI i)), none] T1 (yV c Q) by
    refine H (pop st) 0 0 [] (tI T 157 4 0) (by omega) rfl (frm_I (by decide) _ _) (fun _ _ _ => rfl) ?_ ?_ (Nat.pow_pos (by decide)) (cnt_c0 _) (fun _ => rfl) (fun x hx => by cases hx) rfl (fun j x hx => by cases hx)
    · exact hb.1
    · rfl
  intro m
  induction m with
  | zero =>
    intro i M pre T1 hi hp hf hA h3 h4 hM hc hi0 hmem hbo h165
    refine wx_Qt_follow_12 _ _ _ _ ?_
    rw [h3]
    refine ⟨fun _ => hq' T1 hf h3 ?_ (fun j x hx => h165 j x ?_), fun z => absurd ((nI_leI (by omega) (by omega)).mpr (by omega)) z⟩
    · rw [h4]
      split
      · rename_i q
        rw [show pop st = 0 by omega]
        rfl
      · rfl
    · rw [hbo] at hx
      simpa [boG] using hx
  | succ m ih =>
    intro i M pre T1 hi hp hf hA h3 h4 hM hc hi0 hmem hbo h165
    have h1 := hf.CSs h (by decide)
    have hb1 : MB T1 st := ⟨h3, fun j hj => by rw [hA 161 (by decide) (by decide)]; exact hb.2 j hj⟩
    have ht1 : ∀ M', TB T1 v st M' := fun M' M2 q1 q2 l hl hM2 => by
      rw [hA 169 (by decide) (by decide)]
      exact ht M2 (by omega) q2 l hl hM2
    have ho : ∀ l, pre.getLast? = some l → l < pop st := fun l hl => hmem l (List.mem_of_getLast? hl)
    obtain ⟨b, l1, l2, l3, l4⟩ := lst_cnt (f := bhF (eI v st) (pop st) m pre.getLast? (cm M)) hc
    have hbM : M.testBit b = false := by unfold cm at l3; simpa using l3
    obtain ⟨u1, u2⟩ := or_up hM l2 hbM
    refine wx_Qt_follow_12 _ _ _ _ ?_
    rw [h3, nI_1]
    refine ⟨fun z => absurd ((nI_leI (by omega) (by omega)).mp z) (by omega), fun _ => x_bestBehind h1 hb1 h8 hst (ht1 M) hM ho (Or.inl hc) ?_⟩
    rw [l1]
    have hne : ¬ oI (some b) = -1 := fun z => by
      have := (oI_m1 (o := some b) (fun k hk => by have := Option.some.inj hk; omega)).mp z
      cases this
    have eo : oI (some b) = nI b := rfl
    have nxt : ∀ T2, frm scr T T2 → (∀ x, x ≠ 157 → x ≠ 165 → xA T2 x = xA T x) → xI T2 157 3 = nI (pop st) → xI T2 157 4 = nI (mcG (eI v st) (pop st) (pop st) none (cm 0)) → xA T2 165 = xA T1 165 → eX c (d + 4) m_Qt_follow 12 [some (.ref 157), some (.ref ca), some (.int (nI (M ||| 2 ^ b))), some (.int (oI (some b))), some (.int (nI (i + 1))), none] (tA T2 165 i (nI (mbr st b))) (yV c Q) := fun T2 f2 A2 i3 i4 e165 => by
      have := ih (i + 1) (M ||| 2 ^ b) (pre ++ [b]) (tA T2 165 i (nI (mbr st b))) (by omega) (by simp [hp]) (f2.tr (frm_A (by decide) _ _)) (fun x h157 hx => by rw [xA_A, if_neg hx]; exact A2 x h157 hx) i3 (by rw [if_neg (by omega)]; exact i4) u2 (by rw [cm_or]; exact l4) (fun q => by omega) (fun x hx => ?_) ?_ (fun j x hx => ?_)
      · rw [List.getLast?_concat] at this
        exact this
      · rcases List.mem_append.mp hx with q | q
        · exact hmem x q
        · rw [List.mem_singleton.mp q]; exact l2
      · rw [hbo, boG_s l1, List.getLast?_concat, cm_or, List.append_assoc]
        rfl
      · rw [xA_A, if_pos rfl]
        unfold upd
        rcases Nat.lt_trichotomy j i with y | y | y
        · rw [if_neg (by omega), e165]
          rw [List.getElem?_append_left (by omega)] at hx
          exact h165 j x hx
        · rw [if_pos y]
          rw [List.getElem?_append_right (by omega), show j - pre.length = 0 by omega] at hx
          have : b = x := Option.some.inj hx
          rw [this]
        · rw [List.getElem?_eq_none (by simp; omega)] at hx
          cases hx
    have ei : nI M ||| ((1 : Int32) <<< (oI (some b) &&& 31)) = nI (M ||| 2 ^ b) := by rw [eo, sh1 b (by omega), fa_or]
    have eb : ix (oI (some b)) = b := ix_nI (by omega)
    refine ⟨fun _ => ?_, fun z => absurd z hne⟩
    rw [ei, eb, ix_nI (by omega), hb1.2 b l2]
    refine ⟨fun z => ⟨okn (by omega) (by decide), okn (by omega) (by decide), ?_⟩, fun z => ?_⟩
    · have z : i ≠ 0 := fun q => z (by rw [q]; rfl)
      rw [if_neg z] at h4
      exact nxt T1 hf hA h3 h4 rfl
    · have z : i = 0 := (nI_inj (b := 0) (by omega) (by decide)).mp z
      refine x_with h1 hb1 h8 hst (ht1 M) hM ho l2 hbM hc ⟨okn (by omega) (by decide), okn (by omega) (by decide), ?_⟩
      rw [hb1.2 b l2]
      refine nxt (tI T1 157 4 (nI (bhF (eI v st) (pop st) m pre.getLast? (cm M) b))) (hf.tr (frm_I (by decide) _ _)) hA ((xI_ne T1 157 4 _ (by decide)).trans h3) ?_ rfl
      have hM0 := hi0 z
      have hp0 : pre = [] := List.length_eq_zero_iff.mp (by omega)
      subst hM0 hp0
      rw [xI_at, show pop st = m + 1 by omega]
      rw [show pop st = m + 1 by omega] at l1
      exact congrArg nI (mcG_s (o := none) l1).symm
end QX1
