/-! a law of the text -/
def lawP (f : Nat → Nat) (n h : Nat) : PR := bd (ps f n (8 * (n - h) + 8) 0 0 h) (fun h1 cc => if kd f n h1 = 25 then ok1 (nx f n h1) cc else flt f n h1 2)
section LX6
variable {c : CX} {d n h : Nat} {f : Nat → Nat} {T T' : XS}
theorem lawP_cases (hn : h ≤ n) : (∃ k p, lawP f n h = some (.inr (k, p)) ∧ ps f n (8 * (n - h) + 8) 0 0 h = some (.inr (k, p))) ∨ ∃ h1 cc, ps f n (8 * (n - h) + 8) 0 0 h = some (.inl (h1, cc)) ∧ lawP f n h = if kd f n h1 = 25 then ok1 (nx f n h1) cc else flt f n h1 2 := by
  have e := psT (f := f) (n := n) (8 * (n - h) + 8) 0 0 h hn (by have : rkm 0 = 6 := rfl; omega)
  unfold lawP
  match q : ps f n (8 * (n - h) + 8) 0 0 h with
  | none => exact absurd q e
  | some (.inr (k, p)) => exact Or.inl ⟨k, p, rfl, rfl⟩
  | some (.inl (h1, cc)) => exact Or.inr ⟨h1, cc, rfl, rfl⟩
theorem lawP_ok {h' : Nat} {cc : List Nat} (hn : h ≤ n) (h9 : n ≤ 900) (q : lawP f n h = some (.inl (h', cc))) : lawok cc ∧ cc ≠ [] ∧ h < h' ∧ h' ≤ n := by
  rcases lawP_cases (f := f) hn with ⟨k, p, e1, e2⟩ | ⟨h1, c1, e1, e2⟩
  · rw [q] at e1; cases e1
  · rw [e2] at q
    obtain ⟨p1, p2, p3⟩ := psP _ _ _ _ _ _ hn e1
    have l1 := psLaw hn h9 e1
    by_cases z : kd f n h1 = 25
    · rw [if_pos z] at q
      cases q
      have := kd_nx (f := f) p2 (show kd f n h1 ≠ 37 by omega)
      have := p3 rfl
      refine ⟨l1, fun e => ?_, by omega, by omega⟩
      rw [e] at l1
      exact absurd l1.1 (by decide)
    · rw [if_neg z] at q
      cases q
theorem x_law {Q : Option Nat → XS → Prop} (hR : RL c) (hf : fvok c) (q : TKS T f n h) {r : (Nat × List Nat) ⊕ (Nat × Nat)} (hr : lawP f n h = some r)
    (ok : ∀ h' cc, r = .inl (h', cc) → ∀ T1 T', LFR T T1 → NWA T1 T' 25 0 cc.length → TKS T1 f n h' → (∀ i, i < cc.length → xA T1 25 i = nI (tkC (cc.getD i 0))) → Q (some (4 * xn T1 + 3)) T')
    (bad : ∀ k p, r = .inr (k, p) → ∀ T', LFF T T' k p → Q none T') : XO c (d + 7) m_Lr_read [.ref 21, .ref 13] T Q := by
  refine wx_Lr_read ?_
  have fs : LFS T (tI (tI (tI (tI (tI (tI (tI T 21 1 0) 21 3 0) 21 4 0) 21 5 0) 21 6 0) 21 7 0) 21 8 0) := ((((((LFS.rf.pi 1 0).pi 3 0).pi 4 0).pi 5 0).pi 6 0).pi 7 0).pi 8 0
  have lc0 : LRC (tI (tI (tI (tI (tI (tI (tI T 21 1 0) 21 3 0) 21 4 0) 21 5 0) 21 6 0) 21 7 0) 21 8 0) [] [] 0 0 0 0 false := ⟨⟨rfl, by decide, fun i hi => absurd hi (Nat.not_lt_zero i)⟩, ⟨rfl, by decide, fun i hi => absurd hi (Nat.not_lt_zero i)⟩, rfl, rfl, rfl, rfl, rfl⟩
  generalize (tI (tI (tI (tI (tI (tI (tI T 21 1 0) 21 3 0) 21 4 0) 21 5 0) 21 6 0) 21 7 0) 21 8 0) = T0 at *
  have q0 : TKS T0 f n h := (fs.r.txt q.txt).at q.2.2.2.1 (by rw [fs.2.2]; exact q.2.2.1)
  have hn := q.2.2.2.1
  have h9 := q.2.2.2.2.1
  have nil1 : PDO 1 [] := fun y hy => absurd hy List.not_mem_nil
  have main : ∀ rr, ps f n (8 * (n - h) + 8) 0 0 h = some rr → (∀ h1 cc, rr = .inl (h1, cc) → (if kd f n h1 = 25 then ok1 (nx f n h1) cc else flt f n h1 2) = some r) → (∀ k p, rr = .inr (k, p) → r = .inr (k, p)) → LHD c (d + 7) 0 T0 Q := fun rr e a1 a2 => by
    refine x_ps (d := d) hf Q (8 * (n - h) + 8) 0 0 h rr e (by decide) (by decide) T0 0 0 0 0 false [] [] [] ⟨q0, lc0, by omega, by show 0 ≤ h; omega, by decide⟩ (by decide) (by decide) (by decide) (fun y t e => by cases e) nil1 ⟨fun _ => ⟨rfl, rfl, rfl, rfl⟩, fun w => ab rfl w, fun w => ab rfl w, fun w => ab rfl w, fun w => ab rfl w, fun w => ab rfl w⟩ (fun h1 cc er T1 i1 st1 cm1 E1 Pd1 l1 cf1 pd1 e1 s1 n1 => ?_) (fun k p er T1 ff => bad k p (a2 k p er) T1 (LFF.af fs.r ff))
    have hr1 := a1 h1 cc er
    obtain ⟨t1, lc1, i1', g4, g5⟩ := cf1
    obtain ⟨s2, s3⟩ := s1.1 (by decide)
    obtain ⟨m1, m2, m3, -, -⟩ := n1
    have m1 := m1 (by decide)
    have m2 := m2 (by decide)
    have m3 := m3 (by decide)
    have cj : CJN (kd f n h1) st1 0 0 cm1 = false := by
      unfold CJN
      rw [s3]
      by_cases z : kd f n h1 = 26 ∨ kd f n h1 = 27 ∨ kd f n h1 = 28
      · rw [if_pos z]
        exact decide_eq_false (fun y => by have := m3 y; omega)
      rw [if_neg z]
      by_cases z : kd f n h1 = 33 ∨ kd f n h1 = 34 ∨ kd f n h1 = 35
      · rw [if_pos z]; rfl
      rw [if_neg z, if_neg (by omega)]
      by_cases z : kd f n h1 = 30
      · rw [if_pos z]; rfl
      rw [if_neg z]
      by_cases z : kd f n h1 = 32
      · rw [if_pos z]; rfl
      rw [if_neg z]
    have no : ∀ {P : Prop}, CJN (kd f n h1) st1 0 0 cm1 = true → P := fun w => by rw [cj] at w; cases w
    have g4' := g4
    rw [List.append_nil] at g4'
    have hN1 := t1.2.2.2.1
    refine x_joint (d := d) hf t1 lc1 s2 i1' g4 g5 (by decide) (by decide) (fun w => no w) (fun w => no w) (fun w => no w) (by decide) (fun hk _ _ _ T2 l2 ta2 lc2 => ?_) (fun w => no w) (fun w => no w) (fun _ w T2 ff => ?_)
    · rw [if_pos hk] at hr1
      have kn := kd_nx (f := f) hN1 (show kd f n h1 ≠ 37 by omega)
      refine wx_Lr_unwind _ (x_unwind (d := d + 5) (kk := 1) (by decide) Pd1 E1 T2 lc2 (by omega) (fun x hx => pd1 x hx) (fun y l e => by cases e) (by omega) (fun T3 f3 lc3 => ?_))
      have e1 : E1 ++ cdm Pd1 = cc.map tkC := e1
      rw [e1] at lc3
      obtain ⟨⟨b1, b2, b3⟩, -⟩ := lc3
      have eL : (cc.map tkC).length = cc.length := List.length_map _
      have eL2 : (cc.map tkC).length = E1.length + Pd1.length := by rw [← e1, List.length_append]; unfold cdm; rw [List.length_map]
      rw [b1, eL]
      refine x_copyOf (d := d + 5) hR (ar_lit (i := 6) rfl (by decide) rfl) (by decide) (by omega) (fun T4 nw => ok (nx f n h1) cc (Option.some.inj hr1).symm T3 T4 (((fs.r.tr l1).tr l2).tr f3.r) nw (f3.tka ta2).1 (fun i hi => ?_))
      rw [b3 i (by omega), List.getD_eq_getElem?_getD, List.getElem?_map, List.getD_eq_getElem?_getD, List.getElem?_eq_getElem hi]
      rfl
    · rw [if_neg (fun y => w ⟨y, rfl, s3, rfl⟩)] at hr1
      exact bad _ _ (Option.some.inj hr1).symm T2 (LFF.af (fs.r.tr l1) ff)
  rcases lawP_cases (f := f) hn with ⟨k, p, e1, e2⟩ | ⟨h1, c1, e1, e2⟩
  · exact main _ e2 (fun h1 cc w => (by cases w)) (fun k p w => (by cases w; rw [e1] at hr; exact (Option.some.inj hr).symm))
  · exact main _ e1 (fun h1 cc w => (by cases w; rw [← e2]; exact hr)) (fun k p w => (by cases w))
end LX6
