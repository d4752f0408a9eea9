/-! a law read by the class: whole -/
def plm (m : Nat) : Nat := if m ≤ 1 then 1 else if m ≤ 3 then 2 else if m = 4 then 3 else if m ≤ 6 then 5 else if m ≤ 8 then 6 else 7
def bsm (m : Nat) : Nat := if m ≤ 1 then 1 else if m ≤ 3 then 2 else if m = 4 then 4 else if m ≤ 6 then 5 else if m ≤ 8 then 6 else 7
def rwm (m : Nat) : Nat := if m ≤ 1 then 0 else if m ≤ 3 then 1 else if m = 4 then 2 else if m ≤ 6 then 3 else if m ≤ 8 then 4 else 5
def PDO (l : Nat) (Pd : List Nat) : Prop := ∀ x ∈ Pd, x < 40 ∧ l ≤ sgN x
def BSO (l : Nat) (W0 : List Nat) : Prop := ∀ y t, W0 = y :: t → y < 40 ∧ sgN y < l
def CFG (T : XS) (f : Nat → Nat) (n h i dp ro sq st : Nat) (cm : Bool) (E Pd W0 : List Nat) : Prop := TKS T f n h ∧ LRC T E (Pd ++ W0) st (dp + nts Pd) ro sq cm ∧ i ≤ h ∧ E.length + (Pd ++ W0).length ≤ h ∧ dp + nts Pd ≤ 6
/-- the token that comes then -/
def NXT (m st k : Nat) : Prop := (m ≤ 1 → k ≠ 14) ∧ (m ≤ 3 → k ≠ 15) ∧ (m ≤ 4 → st = 2 → k ≠ 26 ∧ k ≠ 27 ∧ k ≠ 28) ∧ (m = 5 ∨ m = 6 → k ≠ 26 ∧ k ≠ 27 ∧ k ≠ 28) ∧ (m = 7 ∨ m = 8 → k ≠ 28)
def MCD (m st ro : Nat) (cm : Bool) (Pd : List Nat) (k : Nat) : Prop := (m = 0 ∨ m = 2 ∨ m = 4 → st = 0 ∧ ro = 0 ∧ cm = false ∧ Pd = []) ∧ (m = 5 ∨ m = 7 ∨ m = 9 → Pd = [] ∧ (st = 0 ∧ k ≠ 16 ∧ k ≠ 31 ∨ st = 1)) ∧ (m = 1 → (st = 2 ∨ st = 3) ∧ ro = 0 ∧ cm = true ∧ NXT 2 st k) ∧ (m = 3 → (st = 2 ∨ st = 3) ∧ ro = 0 ∧ cm = true ∧ NXT 4 st k) ∧ (m = 6 → st = 2 ∧ NXT 7 st k) ∧ (m = 8 → st = 2)
def PST (m st' : Nat) (cm' cm : Bool) : Prop := (m ≤ 4 → (st' = 2 ∨ st' = 3) ∧ cm' = true) ∧ (5 ≤ m → st' = 2 ∧ cm' = cm)
section LX4
variable {c : CX} {d n : Nat} {f : Nat → Nat}
theorem PDO.mono {l l' : Nat} {Pd : List Nat} (h : PDO l Pd) (hl : l' ≤ l) : PDO l' Pd := fun x hx => ⟨(h x hx).1, by have := (h x hx).2; omega⟩
theorem PDO.app {l : Nat} {Pd : List Nat} (h : PDO l Pd) {k : Nat} (hk : k < 40) (hl : l ≤ sgN k) : PDO l (Pd ++ [k]) := fun x hx => by
  rcases List.mem_append.mp hx with q | q
  · exact h x q
  · rw [List.mem_singleton.mp q]; exact ⟨hk, hl⟩
theorem BSO.mono {l l' : Nat} {W : List Nat} (h : BSO l W) (hl : l ≤ l') : BSO l' W := fun y t e => ⟨(h y t e).1, by have := (h y t e).2; omega⟩
theorem BSO.cons {l k : Nat} {W : List Nat} (hk : k < 40) (hl : sgN k < l) : BSO l (k :: W) := fun y t e => by cases e; exact ⟨hk, hl⟩
theorem nts_app {Pd : List Nat} {k : Nat} : nts (Pd ++ [k]) = nts Pd + (if k = 16 then 1 else 0) := by
  unfold nts
  rw [List.filter_append, List.length_append]
  by_cases z : k = 16
  · rw [if_pos z, List.filter_cons, if_pos (by rw [decide_eq_true_eq]; exact z)]; rfl
  · rw [if_neg z, List.filter_cons, if_neg (by rw [decide_eq_true_eq]; exact z)]; rfl
theorem cdm_app (a b : List Nat) : cdm (a ++ b) = cdm a ++ cdm b := List.map_append
theorem sgN_6 : ∀ k, sgN k ≤ 6 := fun k => by
  unfold sgN
  repeat' split
  all_goals omega
theorem LFF.af {T T1 T2 : XS} {k p : Nat} (a : LFR T T1) (b : LFF T1 T2 k p) : LFF T T2 k p := ⟨a.1.tr b.1, b.2⟩
theorem CJN_1 {k st sq : Nat} (h : k = 14 ∨ k = 15) : CJN k st 0 sq true = true := by rcases h with rfl | rfl <;> rfl
theorem CJN_5 {k ro sq : Nat} {cm : Bool} (h : k = 26 ∨ k = 27 ∨ k = 28) : CJN k 2 ro sq cm = true := by rcases h with rfl | rfl | rfl <;> rfl
theorem CJN_4 {k st sq : Nat} (h : k = 33 ∨ k = 34 ∨ k = 35) : CJN k st 0 sq false = true := by rcases h with rfl | rfl | rfl <;> rfl
theorem CJN_30 {st ro sq : Nat} {cm : Bool} (h : 0 < ro) : CJN 30 st ro sq cm = true := decide_eq_true h
theorem CJN_32 {st sq : Nat} (h : 0 < sq) : CJN 32 st 0 sq true = true := decide_eq_true h
theorem ab {p q : Prop} [Decidable p] (h : decide p = false) (w : p) : q := absurd w (of_decide_eq_false h)
set_option maxHeartbeats 1000000 in
theorem x_ps (hf : fvok c) (Q : Option Nat → XS → Prop) : ∀ (F m dp h : Nat) (r : (Nat × List Nat) ⊕ (Nat × Nat)), ps f n F m dp h = some r → m ≤ 9 → dp ≤ 6 → ∀ (T : XS) (i ro sq st : Nat) (cm : Bool) (E Pd W0 : List Nat), CFG T f n h i dp ro sq st cm E Pd W0 → W0.length ≤ 6 * dp + rwm m → ro ≤ dp → sq ≤ dp → BSO (bsm m) W0 → PDO (plm m) Pd → MCD m st ro cm Pd (kd f n h) →
    (∀ h' cc, r = .inl (h', cc) → ∀ (T' : XS) (i' st' : Nat) (cm' : Bool) (E' Pd' : List Nat), LFR T T' → CFG T' f n h' i' dp ro sq st' cm' E' Pd' W0 → PDO (plm m) Pd' → E' ++ cdm Pd' = E ++ cdm Pd ++ cc.map tkC → PST m st' cm' cm → NXT m st' (kd f n h') → LHD c (d + 7) i' T' Q) →
    (∀ k p, r = .inr (k, p) → ∀ T', LFF T T' k p → Q none T') → LHD c (d + 7) i T Q
  | 0, m, dp, h, r, q, _, _ => by rw [ps] at q; cases q
  | F + 1, m, dp, h, r, q, hm9, hd => by
    intro T i ro sq st cm E Pd W0 cf hW hro hsq hB hPd hM ok no
    have ih := x_ps hf Q F
    obtain ⟨tk, lc, hi, hEW, hdn⟩ := id cf
    have hn : h ≤ n := tk.2.2.2.1
    have k40 := kd_40 f n h
    have seq : ∀ (m1 m2 : Nat), m1 ≤ 9 → m2 ≤ 9 → rwm m ≤ rwm m1 → rwm m ≤ rwm m2 → bsm m ≤ bsm m1 → bsm m ≤ bsm m2 → plm m2 ≤ plm m1 → plm m = plm m2 → MCD m1 st ro cm Pd (kd f n h) → (∀ st' cm' Pd' k, PST m1 st' cm' cm → NXT m1 st' k → MCD m2 st' ro cm' Pd' k) → (∀ st1 cm1 st2 cm2, PST m1 st1 cm1 cm → PST m2 st2 cm2 cm1 → PST m st2 cm2 cm) → (∀ st' k, NXT m2 st' k → NXT m st' k) → PDO (plm m1) Pd → bd (ps f n F m1 dp h) (fun h1 c1 => bd (ps f n F m2 dp h1) (fun h2 c2 => ok1 h2 (c1 ++ c2))) = some r → LHD c (d + 7) i T Q := fun m1 m2 x1 x2 r1 r2 b1 b2 p1 p2 hM1 hM2 hS hN hP1 q => by
      cases e1 : ps f n F m1 dp h with
      | none => rw [e1] at q; cases q
      | some rr =>
        rw [e1] at q
        refine ih m1 dp h rr e1 x1 hd T i ro sq st cm E Pd W0 cf (by omega) hro hsq (hB.mono b1) hP1 hM1 (fun h1 c1 er T1 i1 st1 cm1 E1 Pd1 l1 cf1 pd1 e1' s1 n1 => ?_) (fun k p er T1 ff => ?_)
        · subst er
          have q : bd (ps f n F m2 dp h1) (fun h2 c2 => ok1 h2 (c1 ++ c2)) = some r := q
          cases e2 : ps f n F m2 dp h1 with
          | none => rw [e2] at q; cases q
          | some r2 =>
            rw [e2] at q
            refine ih m2 dp h1 r2 e2 x2 hd T1 i1 ro sq st1 cm1 E1 Pd1 W0 cf1 (by omega) hro hsq (hB.mono b2) (pd1.mono p1) (hM2 st1 cm1 Pd1 _ s1 n1) (fun h2 c2 er T2 i2 st2 cm2 E2 Pd2 l2 cf2 pd2 e2' s2 n2 => ?_) (fun k p er T2 ff => ?_)
            · subst er
              refine ok h2 (c1 ++ c2) (Option.some.inj q).symm T2 i2 st2 cm2 E2 Pd2 (l1.tr l2) cf2 (by rw [p2]; exact pd2) ?_ (hS _ _ _ _ s1 s2) (hN _ _ n2)
              rw [e2', e1', List.map_append]
              simp only [List.append_assoc]
            · subst er
              exact no k p (Option.some.inj q).symm T2 (LFF.af l1 ff)
        · subst er
          exact no k p (Option.some.inj q).symm T1 ff
    have stp : ok1 h [] = some r → PST m st cm cm → NXT m st (kd f n h) → LHD c (d + 7) i T Q := fun q hS hN => ok h [] (Option.some.inj q).symm T i st cm E Pd LFR.rf cf hPd (by rw [List.map_nil, List.append_nil]) hS hN
    have l64 : W0.length < 64 := by have : rwm m ≤ 5 := by unfold rwm; repeat' split
                                                           all_goals omega
                                    omega
    have lop : ∀ (m1 x : Nat), m1 ≤ 9 → (st = 2 ∨ st = 3) → rwm m + 1 ≤ rwm m1 → kd f n h ≠ 37 → kd f n h ≠ 30 → kd f n h ≠ 32 → kd f n h ≠ 25 → kd f n h ≠ 16 → CJN (kd f n h) st ro sq cm = true → sgN (kd f n h) = plm m → sgN (kd f n h) = bsm m → sgN (kd f n h) < bsm m1 → plm m ≤ plm m1 → tkC x = 1000 + kd f n h →
        (∀ k, MCD m1 (if kd f n h = 14 ∨ kd f n h = 15 then 0 else 1) ro (if kd f n h = 14 ∨ kd f n h = 15 then false else if 33 ≤ kd f n h ∧ kd f n h ≤ 35 then true else cm) [] k) →
        (∀ st' cm' k Pd', PST m1 st' cm' (if kd f n h = 14 ∨ kd f n h = 15 then false else if 33 ≤ kd f n h ∧ kd f n h ≤ 35 then true else cm) → NXT m1 st' k → MCD m st' ro cm' Pd' k) →
        (∀ st1 cm1 st2 cm2, PST m1 st1 cm1 (if kd f n h = 14 ∨ kd f n h = 15 then false else if 33 ≤ kd f n h ∧ kd f n h ≤ 35 then true else cm) → PST m st2 cm2 cm1 → PST m st2 cm2 cm) →
        bd (ps f n F m1 dp (nx f n h)) (fun h1 c1 => bd (ps f n F m dp h1) (fun h2 c2 => ok1 h2 (c1 ++ x :: c2))) = some r → LHD c (d + 7) i T Q := fun m1 x x1 hst hr k37 k30 k32 k25 k16 hcj sg1 sg2 sg3 pl1 htk hM1 hM2 hS q => by
      have a0 := kd_nx (f := f) hn k37
      have hEW' := hEW
      rw [List.length_append] at hEW'
      refine x_joint (d := d) hf tk lc hst hi hEW hdn (by omega) (by omega) (fun _ y hy => by rw [sg1]; exact hPd y hy) (fun _ y t e => by rw [sg2]; exact hB y t e) (fun _ w => by omega) l64 (fun w => absurd w k25) (fun _ _ _ T1 l1 tk1 lc1 => ?_) (fun _ w => by omega) (fun w => by rw [hcj] at w; cases w)
      generalize (if kd f n h = 14 ∨ kd f n h = 15 then (0 : Nat) else 1) = st1 at *
      generalize (if kd f n h = 14 ∨ kd f n h = 15 then false else if 33 ≤ kd f n h ∧ kd f n h ≤ 35 then true else cm) = cm1 at *
      have lE : (E ++ cdm Pd).length = E.length + Pd.length := by rw [List.length_append]; unfold cdm; rw [List.length_map]
      have cf1 : CFG T1 f n (nx f n h) (i + 1) dp ro sq st1 cm1 (E ++ cdm Pd) [] (kd f n h :: W0) := ⟨tk1, lc1, by omega, by rw [lE, List.nil_append, List.length_cons]; omega, by show dp + 0 ≤ 6; omega⟩
      cases e1 : ps f n F m1 dp (nx f n h) with
      | none => rw [e1] at q; cases q
      | some rr =>
        rw [e1] at q
        refine ih m1 dp (nx f n h) rr e1 x1 hd T1 (i + 1) ro sq st1 cm1 (E ++ cdm Pd) [] (kd f n h :: W0) cf1 (by rw [List.length_cons]; omega) hro hsq (BSO.cons k40 sg3) (fun y hy => absurd hy (List.not_mem_nil)) (hM1 _) (fun h1 c1 er T2 i2 st2 cm2 E2 Pd2 l2 cf2 pd2 e2' s2 n2 => ?_) (fun k p er T2 ff => ?_)
        · subst er
          have q : bd (ps f n F m dp h1) (fun h2 c2 => ok1 h2 (c1 ++ x :: c2)) = some r := q
          have en : nts (Pd2 ++ [kd f n h]) = nts Pd2 := by rw [nts_app, if_neg k16]; rfl
          have cf3 : CFG T2 f n h1 i2 dp ro sq st2 cm2 E2 (Pd2 ++ [kd f n h]) W0 := by
            obtain ⟨g1, g2, g3, g4, g5⟩ := cf2
            unfold CFG
            rw [en, List.append_assoc]
            exact ⟨g1, g2, g3, g4, g5⟩
          cases e2 : ps f n F m dp h1 with
          | none => rw [e2] at q; cases q
          | some r2 =>
            rw [e2] at q
            refine ih m dp h1 r2 e2 hm9 hd T2 i2 ro sq st2 cm2 E2 (Pd2 ++ [kd f n h]) W0 cf3 hW hro hsq hB ((pd2.mono pl1).app k40 (by omega)) (hM2 _ _ _ _ s2 n2) (fun h2 c2 er T3 i3 st3 cm3 E3 Pd3 l3 cf4 pd3 e3' s3 n3 => ?_) (fun k p er T3 ff => ?_)
            · subst er
              refine ok h2 (c1 ++ x :: c2) (Option.some.inj q).symm T3 i3 st3 cm3 E3 Pd3 ((l1.tr l2).tr l3) cf4 pd3 ?_ (hS _ _ _ _ s2 s3) n3
              rw [e3', cdm_app, ← List.append_assoc, e2', List.map_append, List.map_cons, htk]
              simp only [cdm, List.map_nil, List.map_cons, List.append_nil, List.append_assoc, List.cons_append, List.nil_append]
            · subst er
              exact no k p (Option.some.inj q).symm T3 (LFF.af (l1.tr l2) ff)
        · subst er
          exact no k p (Option.some.inj q).symm T2 (LFF.af l1 ff)
    match m, hm9, q, hW, hB, hPd, hM, ok, seq, stp, lop with
    | 0, hm9, q, hW, hB, hPd, hM, ok, seq, stp, lop =>
      obtain ⟨m1, m2, m3, m4⟩ := hM.1 (Or.inl rfl)
      exact seq 2 1 (by decide) (by decide) (by decide) (by decide) (by decide) (by decide) (by decide) rfl ⟨fun _ => ⟨m1, m2, m3, m4⟩, fun w => ab rfl w, fun w => ab rfl w, fun w => ab rfl w, fun w => ab rfl w, fun w => ab rfl w⟩ (fun st' cm' Pd' k hs hx => ⟨fun w => ab rfl w, fun w => ab rfl w, fun _ => ⟨(hs.1 (by decide)).1, m2, (hs.1 (by decide)).2, hx⟩, fun w => ab rfl w, fun w => ab rfl w, fun w => ab rfl w⟩) (fun st1 cm1 st2 cm2 s1 s2 => ⟨fun _ => s2.1 (by decide), fun w => ab rfl w⟩) (fun st' k hx => ⟨fun _ => hx.1 (by decide), fun _ => hx.2.1 (by decide), fun _ => hx.2.2.1 (by decide), fun w => ab rfl w, fun w => ab rfl w⟩) (by rw [m4]; exact fun y hy => absurd hy (List.not_mem_nil)) q
    | 1, hm9, q, hW, hB, hPd, hM, ok, seq, stp, lop =>
      obtain ⟨m1, m2, m3, m4⟩ := hM.2.2.1 rfl
      rw [ps] at q
      split at q
      · rename_i z
        have hl : kd f n h = 14 ∨ kd f n h = 15 := Or.inl z
        exact lop 2 17 (by decide) m1 (by decide) (by omega) (by omega) (by omega) (by omega) (by omega) (by rw [m2, m3]; exact CJN_1 hl) (by rw [z]; rfl) (by rw [z]; rfl) (by rw [z]; decide) (by decide) (by rw [z]; rfl) (fun k => by rw [if_pos hl, if_pos hl]; exact ⟨fun _ => ⟨rfl, m2, rfl, rfl⟩, fun w => ab rfl w, fun w => ab rfl w, fun w => ab rfl w, fun w => ab rfl w, fun w => ab rfl w⟩) (fun st' cm' k Pd' hs hx => ⟨fun w => ab rfl w, fun w => ab rfl w, fun _ => ⟨(hs.1 (by decide)).1, m2, (hs.1 (by decide)).2, hx⟩, fun w => ab rfl w, fun w => ab rfl w, fun w => ab rfl w⟩) (fun st1 cm1 st2 cm2 s1 s2 => ⟨fun _ => s2.1 (by decide), fun w => ab rfl w⟩) q
      · rename_i z
        exact stp q ⟨fun _ => ⟨m1, m3⟩, fun w => ab rfl w⟩ ⟨fun _ => z, fun _ => m4.2.1 (by decide), fun _ => m4.2.2.1 (by decide), fun w => ab rfl w, fun w => ab rfl w⟩
    | 2, hm9, q, hW, hB, hPd, hM, ok, seq, stp, lop =>
      obtain ⟨m1, m2, m3, m4⟩ := hM.1 (Or.inr (Or.inl rfl))
      exact seq 4 3 (by decide) (by decide) (by decide) (by decide) (by decide) (by decide) (by decide) rfl ⟨fun _ => ⟨m1, m2, m3, m4⟩, fun w => ab rfl w, fun w => ab rfl w, fun w => ab rfl w, fun w => ab rfl w, fun w => ab rfl w⟩ (fun st' cm' Pd' k hs hx => ⟨fun w => ab rfl w, fun w => ab rfl w, fun w => ab rfl w, fun _ => ⟨(hs.1 (by decide)).1, m2, (hs.1 (by decide)).2, hx⟩, fun w => ab rfl w, fun w => ab rfl w⟩) (fun st1 cm1 st2 cm2 s1 s2 => ⟨fun _ => s2.1 (by decide), fun w => ab rfl w⟩) (fun st' k hx => ⟨fun w => ab rfl w, fun _ => hx.2.1 (by decide), fun _ => hx.2.2.1 (by decide), fun w => ab rfl w, fun w => ab rfl w⟩) (by rw [m4]; exact fun y hy => absurd hy (List.not_mem_nil)) q
    | 3, hm9, q, hW, hB, hPd, hM, ok, seq, stp, lop =>
      obtain ⟨m1, m2, m3, m4⟩ := hM.2.2.2.1 rfl
      rw [ps] at q
      split at q
      · rename_i z
        have hl : kd f n h = 14 ∨ kd f n h = 15 := Or.inr z
        exact lop 4 16 (by decide) m1 (by decide) (by omega) (by omega) (by omega) (by omega) (by omega) (by rw [m2, m3]; exact CJN_1 hl) (by rw [z]; rfl) (by rw [z]; rfl) (by rw [z]; decide) (by decide) (by rw [z]; rfl) (fun k => by rw [if_pos hl, if_pos hl]; exact ⟨fun _ => ⟨rfl, m2, rfl, rfl⟩, fun w => ab rfl w, fun w => ab rfl w, fun w => ab rfl w, fun w => ab rfl w, fun w => ab rfl w⟩) (fun st' cm' k Pd' hs hx => ⟨fun w => ab rfl w, fun w => ab rfl w, fun w => ab rfl w, fun _ => ⟨(hs.1 (by decide)).1, m2, (hs.1 (by decide)).2, hx⟩, fun w => ab rfl w, fun w => ab rfl w⟩) (fun st1 cm1 st2 cm2 s1 s2 => ⟨fun _ => s2.1 (by decide), fun w => ab rfl w⟩) q
      · rename_i z
        exact stp q ⟨fun _ => ⟨m1, m3⟩, fun w => ab rfl w⟩ ⟨fun w => ab rfl w, fun _ => z, fun _ => m4.2.2.1 (by decide), fun w => ab rfl w, fun w => ab rfl w⟩
    | 4, hm9, q, hW, hB, hPd, hM, ok, seq, stp, lop =>
      obtain ⟨m1, m2, m3, m4⟩ := hM.1 (Or.inr (Or.inr rfl))
      subst m1
      subst m2
      subst m3
      subst m4
      have e4 : rwm 4 = 2 := rfl
      have hEW' : E.length + W0.length ≤ h := hEW
      have lc : LRC T E W0 0 dp 0 sq false := lc
      rw [ps] at q
      by_cases z : kd f n h = 16
      · rw [if_pos z] at q
        have a0 := kd_nx (f := f) hn (show kd f n h ≠ 37 by omega)
        refine x_begin (d := d) hf tk lc (Or.inl rfl) hi hEW' l64 hd (by omega) (by omega) (fun z1 z2 => by omega) (fun z1 => by omega) (fun ho d6 T1 l1 tk1 lc1 => ?_) (fun ho d6 T' ff => ?_) (fun n1 n2 n3 => by omega)
        · rw [if_neg d6] at q
          rw [z] at lc1
          have lc1 : LRC T1 E (16 :: W0) 0 (dp + 1) 0 sq false := lc1
          have cf1 : CFG T1 f n (nx f n h) (i + 1) (dp + 1) 0 sq 0 false E [] (16 :: W0) := ⟨tk1, lc1, by omega, by rw [List.nil_append, List.length_cons]; omega, by show dp + 1 + 0 ≤ 6; omega⟩
          cases e1 : ps f n F 4 (dp + 1) (nx f n h) with
          | none => rw [e1] at q; cases q
          | some rr =>
            rw [e1] at q
            refine ih 4 (dp + 1) (nx f n h) rr e1 (by decide) (by omega) T1 (i + 1) 0 sq 0 false E [] (16 :: W0) cf1 (by rw [List.length_cons]; omega) (by omega) (by omega) (BSO.cons (by decide) (by decide)) (fun y hy => absurd hy (List.not_mem_nil)) ⟨fun _ => ⟨rfl, rfl, rfl, rfl⟩, fun w => ab rfl w, fun w => ab rfl w, fun w => ab rfl w, fun w => ab rfl w, fun w => ab rfl w⟩ (fun h1 c1 er T2 i2 st2 cm2 E2 Pd2 l2 cf2 pd2 e2' s2 n2 => ?_) (fun k p er T2 ff => ?_)
            · subst er
              have en : dp + nts (Pd2 ++ [16]) = dp + 1 + nts Pd2 := by rw [nts_app, if_pos rfl]; omega
              refine ok h1 (c1 ++ [18]) (Option.some.inj q).symm T2 i2 st2 cm2 E2 (Pd2 ++ [16]) (l1.tr l2) ?_ (pd2.app (by decide) (by decide)) ?_ s2 n2
              · obtain ⟨g1, g2, g3, g4, g5⟩ := cf2
                unfold CFG
                rw [en, List.append_assoc]
                exact ⟨g1, g2, g3, g4, g5⟩
              · rw [cdm_app, ← List.append_assoc, e2', List.map_append, ← List.append_assoc]
                rfl
            · subst er
              exact no k p (Option.some.inj q).symm T2 (LFF.af l1 ff)
        · rw [if_pos d6] at q
          unfold flt at q
          rw [show fkk f n h 4 = 4 from if_neg (by omega)] at q
          exact no _ _ (Option.some.inj q).symm T' ff
      rw [if_neg z] at q
      by_cases y : kd f n h = 31
      · rw [if_pos y] at q
        have a0 := kd_nx (f := f) hn (show kd f n h ≠ 37 by omega)
        refine x_begin (d := d) hf tk lc (Or.inl rfl) hi hEW' l64 hd (by omega) (by omega) (fun z1 z2 => by omega) (fun z1 => by omega) (fun ho d6 T1 l1 tk1 lc1 => ?_) (fun ho d6 T' ff => ?_) (fun n1 n2 n3 => by omega)
        · rw [if_neg d6] at q
          rw [y] at lc1
          have lc1 : LRC T1 E (31 :: W0) 0 (dp + 1) 0 (sq + 1) false := lc1
          have cf1 : CFG T1 f n (nx f n h) (i + 1) (dp + 1) 0 (sq + 1) 0 false E [] (31 :: W0) := ⟨tk1, lc1, by omega, by rw [List.nil_append, List.length_cons]; omega, by show dp + 1 + 0 ≤ 6; omega⟩
          cases e1 : ps f n F 0 (dp + 1) (nx f n h) with
          | none => rw [e1] at q; cases q
          | some rr =>
            rw [e1] at q
            refine ih 0 (dp + 1) (nx f n h) rr e1 (by decide) (by omega) T1 (i + 1) 0 (sq + 1) 0 false E [] (31 :: W0) cf1 (by rw [List.length_cons]; have : rwm 0 = 0 := rfl; omega) (by omega) (by omega) (BSO.cons (by decide) (by decide)) (fun y hy => absurd hy (List.not_mem_nil)) ⟨fun _ => ⟨rfl, rfl, rfl, rfl⟩, fun w => ab rfl w, fun w => ab rfl w, fun w => ab rfl w, fun w => ab rfl w, fun w => ab rfl w⟩ (fun h1 c1 er T2 i2 st2 cm2 E2 Pd2 l2 cf2 pd2 e2' s2 n2 => ?_) (fun k p er T2 ff => ?_)
            · subst er
              obtain ⟨g1, g2, g3, g4, g5⟩ := cf2
              obtain ⟨t1, t2⟩ := s2.1 (by decide)
              subst t2
              have q : (if kd f n h1 = 32 then ok1 (nx f n h1) c1 else flt f n h1 2) = some r := q
              have g4' := g4
              rw [List.length_append, List.length_cons] at g4'
              have x1 := n2.1 (by decide)
              have x2 := n2.2.1 (by decide)
              have x3 := n2.2.2.1 (by decide)
              have cj : CJN (kd f n h1) st2 0 (sq + 1) true = true → kd f n h1 = 32 := fun hc => by
                rcases CJN_st hc with w | w | w | w | w
                · have := x3 w.2; omega
                · cases w.2.2
                · omega
                · omega
                · exact w.1
              have hN1 : h1 ≤ n := g1.2.2.2.1
              refine x_joint (d := d) hf g1 g2 t1 g3 g4 g5 (by omega) (by omega) (fun hc y hy => ⟨(pd2 y hy).1, ?_⟩) (fun hc y t e => ?_) (fun hc w => ⟨fun u => (by cases u), by omega⟩) (by rw [List.length_cons]; omega) (fun _ _ _ w => by omega) (fun hc w1 w2 => absurd (cj hc) w2) (fun hc w o W1 e T3 l3 tk3 lc3 => ?_) (fun hc w T3 ff => ?_)
              · rw [cj hc]
                exact (pd2 y hy).2
              · cases e
                rw [cj hc]
                exact ⟨by decide, by decide⟩
              · cases e
                have k32 := cj hc
                have a1 := kd_nx (f := f) hN1 (show kd f n h1 ≠ 37 by omega)
                rw [if_pos k32] at q
                rw [if_neg (by omega), if_neg (by omega), if_neg (by omega)] at lc3
                have lE : (E2 ++ cdm Pd2).length = E2.length + Pd2.length := by rw [List.length_append]; unfold cdm; rw [List.length_map]
                refine ok (nx f n h1) c1 (Option.some.inj q).symm T3 (i2 + 1) 3 true (E2 ++ cdm Pd2) [] ((l1.tr l2).tr l3) ⟨tk3, lc3, by omega, by rw [lE, List.nil_append]; omega, hdn⟩ (fun y hy => absurd hy (List.not_mem_nil)) ?_ ⟨fun _ => ⟨Or.inr rfl, rfl⟩, fun w => ab rfl w⟩ ⟨fun w => ab rfl w, fun w => ab rfl w, fun _ w => ab rfl w, fun w => ab rfl w, fun w => ab rfl w⟩
                rw [e2']
                simp only [cdm, List.map_nil, List.append_nil]
              · rw [if_neg (fun u => by rw [u, CJN_32 (by omega)] at hc; cases hc)] at q
                exact no _ _ (Option.some.inj q).symm T3 (LFF.af (l1.tr l2) ff)
            · subst er
              exact no k p (Option.some.inj q).symm T2 (LFF.af l1 ff)
        · rw [if_pos d6] at q
          unfold flt at q
          rw [show fkk f n h 4 = 4 from if_neg (by omega)] at q
          exact no _ _ (Option.some.inj q).symm T' ff
      rw [if_neg y] at q
      cases e1 : ps f n F 5 dp h with
      | none => rw [e1] at q; cases q
      | some rr =>
        rw [e1] at q
        have e5 : rwm 5 = 3 := rfl
        refine ih 5 dp h rr e1 (by decide) hd T i 0 sq 0 false E [] W0 cf (by omega) hro hsq (hB.mono (by decide)) (fun y hy => absurd hy (List.not_mem_nil)) ⟨fun w => ab rfl w, fun _ => ⟨rfl, Or.inl ⟨rfl, z, y⟩⟩, fun w => ab rfl w, fun w => ab rfl w, fun w => ab rfl w, fun w => ab rfl w⟩ (fun h1 c1 er T2 i2 st2 cm2 E2 Pd2 l2 cf2 pd2 e2' s2 n2 => ?_) (fun k p er T2 ff => ?_)
        · subst er
          obtain ⟨g1, g2, g3, g4, g5⟩ := cf2
          obtain ⟨t1, t2⟩ := s2.2 (by decide)
          subst t2
          subst t1
          have n2 := n2.2.2.2.1 (by decide)
          have q : (if 33 ≤ kd f n h1 ∧ kd f n h1 ≤ 35 then bd (ps f n F 5 dp (nx f n h1)) (fun h2 c2 => ok1 h2 (c1 ++ (c2 ++ [kd f n h1 - 20]))) else flt f n h1 2) = some r := q
          have g4' := g4
          rw [List.length_append] at g4'
          have k41 := kd_40 f n h1
          have cj : CJN (kd f n h1) 2 0 sq false = true → 33 ≤ kd f n h1 ∧ kd f n h1 ≤ 35 := fun hc => by
            rcases CJN_st hc with w | w | w | w | w
            · omega
            · omega
            · cases w.2.2
            · omega
            · cases w.2.2.1
          have hN1 : h1 ≤ n := g1.2.2.2.1
          have sg4 : 33 ≤ kd f n h1 ∧ kd f n h1 ≤ 35 → sgN (kd f n h1) = 4 := fun w => by
            have : kd f n h1 = 33 ∨ kd f n h1 = 34 ∨ kd f n h1 = 35 := by omega
            rcases this with u | u | u <;> rw [u] <;> rfl
          refine x_joint (d := d) hf g1 g2 (Or.inl rfl) g3 g4 g5 (by omega) (by omega) (fun hc y hy => ⟨(pd2 y hy).1, ?_⟩) (fun hc y t e => ?_) (fun hc w => by have := cj hc; omega) l64 (fun _ _ w => by cases w) (fun hc w1 w2 T3 l3 tk3 lc3 => ?_) (fun hc w => by have := cj hc; omega) (fun hc w T3 ff => ?_)
          · rw [sg4 (cj hc)]
            have := (pd2 y hy).2
            have e5 : plm 5 = 5 := rfl
            omega
          · rw [sg4 (cj hc)]
            exact hB y t e
          · have hw := cj hc
            have s4 := sg4 hw
            have a1 := kd_nx (f := f) hN1 (show kd f n h1 ≠ 37 by omega)
            rw [if_pos hw] at q
            rw [if_neg (by omega), if_neg (by omega), if_pos hw] at lc3
            have lE : (E2 ++ cdm Pd2).length = E2.length + Pd2.length := by rw [List.length_append]; unfold cdm; rw [List.length_map]
            have cf3 : CFG T3 f n (nx f n h1) (i2 + 1) dp 0 sq 1 true (E2 ++ cdm Pd2) [] (kd f n h1 :: W0) := ⟨tk3, lc3, by omega, by rw [lE, List.nil_append, List.length_cons]; omega, by show dp + 0 ≤ 6; omega⟩
            cases e3 : ps f n F 5 dp (nx f n h1) with
            | none => rw [e3] at q; cases q
            | some r3 =>
              rw [e3] at q
              refine ih 5 dp (nx f n h1) r3 e3 (by decide) hd T3 (i2 + 1) 0 sq 1 true (E2 ++ cdm Pd2) [] (kd f n h1 :: W0) cf3 (by rw [List.length_cons]; omega) hro hsq (BSO.cons k41 (by rw [s4]; decide)) (fun y hy => absurd hy (List.not_mem_nil)) ⟨fun w => ab rfl w, fun _ => ⟨rfl, Or.inr rfl⟩, fun w => ab rfl w, fun w => ab rfl w, fun w => ab rfl w, fun w => ab rfl w⟩ (fun h2 c2 er T4 i4 st4 cm4 E4 Pd4 l4 cf4 pd4 e4' s4' n4 => ?_) (fun k p er T4 ff => ?_)
              · subst er
                obtain ⟨u1, u2⟩ := s4'.2 (by decide)
                have en : nts (Pd4 ++ [kd f n h1]) = nts Pd4 := by rw [nts_app, if_neg (by omega)]; rfl
                refine ok h2 _ (Option.some.inj q).symm T4 i4 st4 cm4 E4 (Pd4 ++ [kd f n h1]) ((l2.tr l3).tr l4) ?_ ((pd4.mono (by decide)).app k41 (by rw [s4]; decide)) ?_ ⟨fun _ => ⟨Or.inl u1, u2⟩, fun w => ab rfl w⟩ ⟨fun w => ab rfl w, fun w => ab rfl w, fun _ _ => n4.2.2.2.1 (by decide), fun w => ab rfl w, fun w => ab rfl w⟩
                · obtain ⟨v1, v2, v3, v4, v5⟩ := cf4
                  unfold CFG
                  rw [en, List.append_assoc]
                  exact ⟨v1, v2, v3, v4, v5⟩
                · have htk : tkC (kd f n h1 - 20) = 1000 + kd f n h1 := by
                    have : kd f n h1 = 33 ∨ kd f n h1 = 34 ∨ kd f n h1 = 35 := by omega
                    rcases this with u | u | u <;> rw [u] <;> rfl
                  rw [cdm_app, ← List.append_assoc, e4', e2', List.map_append, List.map_append, List.map_cons, List.map_nil, htk]
                  simp only [cdm, List.map_nil, List.map_cons, List.append_nil, List.append_assoc]
              · subst er
                exact no k p (Option.some.inj q).symm T4 (LFF.af (l2.tr l3) ff)
          · rw [if_neg (fun u => by
              have : kd f n h1 = 33 ∨ kd f n h1 = 34 ∨ kd f n h1 = 35 := by omega
              rw [CJN_4 this] at hc
              cases hc)] at q
            exact no _ _ (Option.some.inj q).symm T3 (LFF.af l2 ff)
        · subst er
          exact no k p (Option.some.inj q).symm T2 ff
    | 5, hm9, q, hW, hB, hPd, hM, ok, seq, stp, lop =>
      obtain ⟨m1, m2⟩ := hM.2.1 (Or.inl rfl)
      exact seq 7 6 (by decide) (by decide) (by decide) (by decide) (by decide) (by decide) (by decide) rfl ⟨fun w => ab rfl w, fun _ => ⟨m1, m2⟩, fun w => ab rfl w, fun w => ab rfl w, fun w => ab rfl w, fun w => ab rfl w⟩ (fun st' cm' Pd' k hs hx => ⟨fun w => ab rfl w, fun w => ab rfl w, fun w => ab rfl w, fun w => ab rfl w, fun _ => ⟨(hs.2 (by decide)).1, hx⟩, fun w => ab rfl w⟩) (fun st1 cm1 st2 cm2 s1 s2 => ⟨fun w => ab rfl w, fun _ => ⟨(s2.2 (by decide)).1, (s2.2 (by decide)).2.trans (s1.2 (by decide)).2⟩⟩) (fun st' k hx => ⟨fun w => ab rfl w, fun w => ab rfl w, fun w => ab rfl w, fun _ => hx.2.2.2.1 (by decide), fun w => ab rfl w⟩) (by rw [m1]; exact fun y hy => absurd hy (List.not_mem_nil)) q
    | 6, hm9, q, hW, hB, hPd, hM, ok, seq, stp, lop =>
      obtain ⟨m1, m2⟩ := hM.2.2.2.2.1 rfl
      rw [ps] at q
      split at q
      · rename_i z
        have hl : ¬ (kd f n h = 14 ∨ kd f n h = 15) := by omega
        have hl2 : ¬ (33 ≤ kd f n h ∧ kd f n h ≤ 35) := by omega
        exact lop 7 _ (by decide) (Or.inl m1) (by decide) (by omega) (by omega) (by omega) (by omega) (by omega) (by rw [m1]; exact CJN_5 (by omega)) (by rcases z with z | z <;> rw [z] <;> rfl) (by rcases z with z | z <;> rw [z] <;> rfl) (by rcases z with z | z <;> rw [z] <;> decide) (by decide) (by rcases z with z | z <;> rw [z] <;> rfl) (fun k => by rw [if_neg hl, if_neg hl, if_neg hl2]; exact ⟨fun w => ab rfl w, fun _ => ⟨rfl, Or.inr rfl⟩, fun w => ab rfl w, fun w => ab rfl w, fun w => ab rfl w, fun w => ab rfl w⟩) (fun st' cm' k Pd' hs hx => ⟨fun w => ab rfl w, fun w => ab rfl w, fun w => ab rfl w, fun w => ab rfl w, fun _ => ⟨(hs.2 (by decide)).1, hx⟩, fun w => ab rfl w⟩) (fun st1 cm1 st2 cm2 s1 s2 => ⟨fun w => ab rfl w, fun _ => ⟨(s2.2 (by decide)).1, (s2.2 (by decide)).2.trans (by have := (s1.2 (by decide)).2; rw [if_neg hl, if_neg hl2] at this; exact this)⟩⟩) q
      · rename_i z
        have := m2.2.2.2.2 (by decide)
        exact stp q ⟨fun w => ab rfl w, fun _ => ⟨m1, rfl⟩⟩ ⟨fun w => ab rfl w, fun w => ab rfl w, fun w => ab rfl w, fun _ => by omega, fun w => ab rfl w⟩
    | 7, hm9, q, hW, hB, hPd, hM, ok, seq, stp, lop =>
      obtain ⟨m1, m2⟩ := hM.2.1 (Or.inr (Or.inl rfl))
      exact seq 9 8 (by decide) (by decide) (by decide) (by decide) (by decide) (by decide) (by decide) rfl ⟨fun w => ab rfl w, fun _ => ⟨m1, m2⟩, fun w => ab rfl w, fun w => ab rfl w, fun w => ab rfl w, fun w => ab rfl w⟩ (fun st' cm' Pd' k hs hx => ⟨fun w => ab rfl w, fun w => ab rfl w, fun w => ab rfl w, fun w => ab rfl w, fun w => ab rfl w, fun _ => (hs.2 (by decide)).1⟩) (fun st1 cm1 st2 cm2 s1 s2 => ⟨fun w => ab rfl w, fun _ => ⟨(s2.2 (by decide)).1, (s2.2 (by decide)).2.trans (s1.2 (by decide)).2⟩⟩) (fun st' k hx => ⟨fun w => ab rfl w, fun w => ab rfl w, fun w => ab rfl w, fun w => ab rfl w, fun _ => hx.2.2.2.2 (by decide)⟩) (by rw [m1]; exact fun y hy => absurd hy (List.not_mem_nil)) q
    | 8, hm9, q, hW, hB, hPd, hM, ok, seq, stp, lop =>
      have m1 := hM.2.2.2.2.2 rfl
      rw [ps] at q
      split at q
      · rename_i z
        have hl : ¬ (kd f n h = 14 ∨ kd f n h = 15) := by omega
        have hl2 : ¬ (33 ≤ kd f n h ∧ kd f n h ≤ 35) := by omega
        exact lop 9 12 (by decide) (Or.inl m1) (by decide) (by omega) (by omega) (by omega) (by omega) (by omega) (by rw [m1]; exact CJN_5 (by omega)) (by rw [z]; rfl) (by rw [z]; rfl) (by rw [z]; decide) (by decide) (by rw [z]; rfl) (fun k => by rw [if_neg hl, if_neg hl, if_neg hl2]; exact ⟨fun w => ab rfl w, fun _ => ⟨rfl, Or.inr rfl⟩, fun w => ab rfl w, fun w => ab rfl w, fun w => ab rfl w, fun w => ab rfl w⟩) (fun st' cm' k Pd' hs hx => ⟨fun w => ab rfl w, fun w => ab rfl w, fun w => ab rfl w, fun w => ab rfl w, fun w => ab rfl w, fun _ => (hs.2 (by decide)).1⟩) (fun st1 cm1 st2 cm2 s1 s2 => ⟨fun w => ab rfl w, fun _ => ⟨(s2.2 (by decide)).1, (s2.2 (by decide)).2.trans (by have := (s1.2 (by decide)).2; rw [if_neg hl, if_neg hl2] at this; exact this)⟩⟩) q
      · rename_i z
        exact stp q ⟨fun w => ab rfl w, fun _ => ⟨m1, rfl⟩⟩ ⟨fun w => ab rfl w, fun w => ab rfl w, fun w => ab rfl w, fun w => ab rfl w, fun _ => z⟩
    | 9, hm9, q, hW, hB, hPd, hM, ok, seq, stp, lop =>
      obtain ⟨m1, m2⟩ := hM.2.1 (Or.inr (Or.inr rfl))
      subst m1
      have e9 : rwm 9 = 5 := rfl
      have v9 := vl_lt (f := f) hn
      have hEW' : E.length + W0.length ≤ h := hEW
      have lc : LRC T E W0 st dp ro sq cm := lc
      have nil7 : PDO (plm 9) [] := fun y hy => absurd hy (List.not_mem_nil)
      have fin9 : ∀ x T' y, kd f n h ≠ 37 → tkC x = y → LFR T T' → TKS T' f n (nx f n h) → LRC T' (E ++ [y]) W0 2 dp ro sq cm → ok1 (nx f n h) [x] = some r → LHD c (d + 7) (i + 1) T' Q := fun x T' y hk hx l1 tk1 lc1 q => by
        have a0 := kd_nx (f := f) hn hk
        refine ok (nx f n h) [x] (Option.some.inj q).symm T' (i + 1) 2 cm (E ++ [y]) [] l1 ⟨tk1, lc1, by omega, ?_, hdn⟩ nil7 ?_ ⟨fun w => ab rfl w, fun _ => ⟨rfl, rfl⟩⟩ ⟨fun w => ab rfl w, fun w => ab rfl w, fun w => ab rfl w, fun w => ab rfl w, fun w => ab rfl w⟩
        · rw [List.length_append, List.nil_append]
          simp only [List.length_cons, List.length_nil]
          omega
        · rw [List.map_cons, List.map_nil, hx]
          simp only [cdm, List.map_nil, List.append_nil]
      rw [ps_9 (m := 0)] at q
      refine x_begin (d := d) hf tk lc (by omega) hi hEW' l64 hd (by omega) (by omega) (fun z1 z2 T' l1 tk1 lc1 => ?_) (fun z T' l1 tk1 lc1 => ?_) (fun ho d6 T1 l1 tk1 lc1 => ?_) (fun ho d6 T' ff => ?_) (fun n1 n2 n3 T' ff => ?_)
      · rw [if_pos ⟨z1, z2⟩] at q
        refine fin9 _ T' _ (by omega) ?_ l1 tk1 lc1 q
        unfold tkC
        rw [if_neg (by omega), if_pos (by omega)]
        omega
      · rw [if_neg (by omega), if_neg (by omega), if_pos z] at q
        refine fin9 _ T' _ (by omega) ?_ l1 tk1 lc1 q
        unfold tkC
        rw [if_pos (by omega)]
        omega
      · have z : kd f n h = 29 := by omega
        have a0 := kd_nx (f := f) hn (show kd f n h ≠ 37 by omega)
        rw [if_neg (by omega), if_pos z, if_neg d6] at q
        rw [z] at lc1
        have lc1 : LRC T1 E (29 :: W0) 1 (dp + 1) (ro + 1) sq cm := lc1
        have cf1 : CFG T1 f n (nx f n h) (i + 1) (dp + 1) (ro + 1) sq 1 cm E [] (29 :: W0) := ⟨tk1, lc1, by omega, by rw [List.nil_append, List.length_cons]; omega, by show dp + 1 + 0 ≤ 6; omega⟩
        cases e1 : ps f n F 5 (dp + 1) (nx f n h) with
        | none => rw [e1] at q; cases q
        | some rr =>
          rw [e1] at q
          refine ih 5 (dp + 1) (nx f n h) rr e1 (by decide) (by omega) T1 (i + 1) (ro + 1) sq 1 cm E [] (29 :: W0) cf1 (by rw [List.length_cons]; have : rwm 5 = 3 := rfl; omega) (by omega) (by omega) (BSO.cons (by decide) (by decide)) (fun y hy => absurd hy (List.not_mem_nil)) ⟨fun w => ab rfl w, fun _ => ⟨rfl, Or.inr rfl⟩, fun w => ab rfl w, fun w => ab rfl w, fun w => ab rfl w, fun w => ab rfl w⟩ (fun h1 c1 er T2 i2 st2 cm2 E2 Pd2 l2 cf2 pd2 e2' s2 n2 => ?_) (fun k p er T2 ff => ?_)
          · subst er
            obtain ⟨g1, g2, g3, g4, g5⟩ := cf2
            obtain ⟨t1, t2⟩ := s2.2 (by decide)
            have n2 := n2.2.2.2.1 (by decide)
            have q : (if kd f n h1 = 30 then ok1 (nx f n h1) c1 else flt f n h1 2) = some r := q
            have g4' := g4
            rw [List.length_append, List.length_cons] at g4'
            have cj : CJN (kd f n h1) st2 (ro + 1) sq cm2 = true → kd f n h1 = 30 := fun hc => by
              have := CJN_st hc
              omega
            have hN1 : h1 ≤ n := g1.2.2.2.1
            refine x_joint (d := d) hf g1 g2 (Or.inl t1) g3 g4 g5 (by omega) (by omega) (fun hc y hy => ⟨(pd2 y hy).1, ?_⟩) (fun hc y t e => ?_) (fun hc w => ⟨fun u => (by cases u), by omega⟩) (by rw [List.length_cons]; omega) (fun _ w => by omega) (fun hc w1 w2 => absurd (cj hc) w1) (fun hc w o W1 e T3 l3 tk3 lc3 => ?_) (fun hc w T3 ff => ?_)
            · rw [cj hc]
              have := (pd2 y hy).2
              have e5 : plm 5 = 5 := rfl
              have e30 : sgN 30 = 1 := rfl
              omega
            · cases e
              rw [cj hc]
              exact ⟨by decide, by decide⟩
            · cases e
              have k30 := cj hc
              have a1 := kd_nx (f := f) hN1 (show kd f n h1 ≠ 37 by omega)
              rw [if_pos k30] at q
              rw [if_pos k30, if_pos k30, if_pos k30, t1, t2] at lc3
              have lE : (E2 ++ cdm Pd2).length = E2.length + Pd2.length := by rw [List.length_append]; unfold cdm; rw [List.length_map]
              refine ok (nx f n h1) c1 (Option.some.inj q).symm T3 (i2 + 1) 2 cm (E2 ++ cdm Pd2) [] ((l1.tr l2).tr l3) ⟨tk3, lc3, by omega, by rw [lE, List.nil_append]; omega, hdn⟩ nil7 ?_ ⟨fun w => ab rfl w, fun _ => ⟨rfl, rfl⟩⟩ ⟨fun w => ab rfl w, fun w => ab rfl w, fun w => ab rfl w, fun w => ab rfl w, fun w => ab rfl w⟩
              rw [e2']
              simp only [cdm, List.map_nil, List.append_nil]
            · rw [if_neg (fun u => by rw [u, CJN_30 (by omega)] at hc; cases hc)] at q
              exact no _ _ (Option.some.inj q).symm T3 (LFF.af (l1.tr l2) ff)
          · subst er
            exact no k p (Option.some.inj q).symm T2 (LFF.af l1 ff)
      · have z : kd f n h = 29 := by omega
        rw [if_neg (by omega), if_pos z, if_pos d6] at q
        unfold flt at q
        rw [show fkk f n h 4 = 4 from if_neg (by omega)] at q
        exact no _ _ (Option.some.inj q).symm T' ff
      · rw [if_neg n1, if_neg (by omega), if_neg n2] at q
        exact no _ _ (Option.some.inj q).symm T' ff
end LX4
