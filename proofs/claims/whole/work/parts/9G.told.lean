/-! the text of a carnival, as it tells -/
/-- the carnival, who mocks whom -/
abbrev TV : Type := CV × (Nat → Option Nat)
abbrev PL : Type := Option ((Nat × TV) ⊕ (Nat × Nat))
def ft (f : Nat → Nat) (n h k : Nat) : PL := some (.inr (fkk f n h k, bgn f n h))
def upF (F : Nat → Nat → Nat) (k g x : Nat) : Nat → Nat → Nat := fun k' g' => if k' = k ∧ g' = g then x else F k' g'
def up1 (F : Nat → Nat) (k x : Nat) : Nat → Nat := fun k' => if k' = k then x else F k'
def tvL (t : TV) (L : Nat) : TV := ((L, t.1.2), t.2)
def tvG (t : TV) (G : Nat) : TV := ((vL t.1, G, t.1.2.2), t.2)
def tvF (t : TV) (F : Nat → Nat → Nat) : TV := ((vL t.1, vG t.1, vT t.1, vY t.1, vP t.1, vM t.1, vA t.1, F), t.2)
def tvM (t : TV) (l : List Nat) : TV := ((vL t.1, vG t.1, vT t.1, vY t.1, vP t.1, l, vA t.1, vF t.1), t.2)
def tvA (t : TV) (l : List Nat) : TV := ((vL t.1, vG t.1, vT t.1, vY t.1, vP t.1, vM t.1, l, vF t.1), t.2)
def tvS (t : TV) (y p : Nat) : TV := ((vL t.1, vG t.1, vT t.1 + 1, up1 (vY t.1) (vT t.1) y, up1 (vP t.1) (vT t.1) p, vM t.1, vA t.1, vF t.1), t.2)
def tvW (t : TV) (a b : Nat) : TV := (t.1, fun g => if g = a then some b else t.2 g)
def flo (k : Nat) : Nat := [0, 1, 0, 0, 1].getD k 0
def fhi (k : Nat) : Nat := [99, 9, 9, 9, 99].getD k 0
def ffs (k : Nat) : Nat := [0, 1, 0, 0, 0].getD k 0
def tv0 : TV := ((0, 0, 0, fun _ => 0, fun _ => 0, [], [], fun k _ => ffs k), fun _ => none)
def numP (f : Nat → Nat) (n h lo hb : Nat) (k : Nat → PL) : PL := if kd f n h = 36 then (if lo ≤ vl f n h ∧ vl f n h < hb then k (vl f n h) else ft f n h 3) else ft f n h 2
def stopP (f : Nat → Nat) (n h : Nat) (t : TV) : PL := if kd f n h = 25 then some (.inl (nx f n h, t)) else ft f n h 2
def gldP (f : Nat → Nat) (n g : Nat) : Nat → Nat → TV → PL
  | 0, _, _ => none
  | F + 1, h, t => if kd f n h = 25 then some (.inl (nx f n h, t)) else if 5 ≤ kd f n h ∧ kd f n h ≤ 9 then numP f n (nx f n h) (flo (kd f n h - 5)) (fhi (kd f n h - 5) + 1) (fun x => gldP f n g F (nx f n (nx f n h)) (tvF t (upF (vF t.1) (kd f n h - 5) g x))) else ft f n h 2
def lawT (r : PR) (k : List Nat → TV) : PL := match r with
  | some (.inl (h', cc)) => some (.inl (h', k cc))
  | some (.inr r) => some (.inr r)
  | none => none
def lineP (f : Nat → Nat) (n h : Nat) (t : TV) : PL :=
  if kd f n h = 0 then (if vG t.1 < 10 then gldP f n (vG t.1) (n - h + 1) (nx f n h) (tvG t (vG t.1 + 1)) else ft f n h 4)
  else if kd f n h = 1 then numP f n (nx f n h) 0 (vG t.1) (fun a => numP f n (nx f n (nx f n h)) 0 (vG t.1) (fun b => if a = b then ft f n (nx f n (nx f n h)) 3 else stopP f n (nx f n (nx f n (nx f n h))) (tvW t a b)))
  else if kd f n h = 2 then lawT (lawP f n (nx f n h)) (tvM t)
  else if kd f n h = 3 then lawT (lawP f n (nx f n h)) (tvA t)
  else if kd f n h = 4 then (if vT t.1 < 12 then (if 10 ≤ kd f n (nx f n h) ∧ kd f n (nx f n h) ≤ 13 then numP f n (nx f n (nx f n h)) 1 21 (fun p => stopP f n (nx f n (nx f n (nx f n h))) (tvS t (kd f n (nx f n h) - 10) p)) else ft f n (nx f n h) 2) else ft f n h 4)
  else ft f n h 2
def carnP (f : Nat → Nat) (n : Nat) : Nat → Nat → TV → PL
  | 0, _, _ => none
  | F + 1, h, t => if kd f n h = 37 then some (.inl (h, t)) else match lineP f n h t with
    | some (.inl (h', t')) => carnP f n F h' (tvL t' (vL t'.1 + 1))
    | some (.inr r) => some (.inr r)
    | none => none
def TOK (t : TV) : Prop := COK t.1 ∧ (∀ g h, t.2 g = some h → g < vG t.1 ∧ h < vG t.1 ∧ h ≠ g) ∧ (∀ g, vF t.1 0 g ≤ 99) ∧ ∀ k g, vG t.1 ≤ g → vF t.1 k g = ffs k
section TD1
variable {f : Nat → Nat} {n h : Nat} {t : TV}
theorem numP_none {lo hb : Nat} {k : Nat → PL} (hk : kd f n h = 36 → k (vl f n h) ≠ none) : numP f n h lo hb k ≠ none := by
  unfold numP
  by_cases z : kd f n h = 36
  · rw [if_pos z]
    by_cases y : lo ≤ vl f n h ∧ vl f n h < hb
    · rw [if_pos y]; exact hk z
    · rw [if_neg y]; exact fun e => by cases e
  · rw [if_neg z]; exact fun e => by cases e
theorem numP_ok {lo hb h' : Nat} {k : Nat → PL} {t' : TV} (q : numP f n h lo hb k = some (.inl (h', t'))) : kd f n h = 36 ∧ lo ≤ vl f n h ∧ vl f n h < hb ∧ k (vl f n h) = some (.inl (h', t')) := by
  unfold numP at q
  by_cases z : kd f n h = 36
  · rw [if_pos z] at q
    by_cases y : lo ≤ vl f n h ∧ vl f n h < hb
    · rw [if_pos y] at q; exact ⟨z, y.1, y.2, q⟩
    · rw [if_neg y] at q; cases q
  · rw [if_neg z] at q; cases q
theorem stopP_none : stopP f n h t ≠ none := by
  unfold stopP
  split <;> exact fun e => by cases e
theorem stopP_ok {h' : Nat} {t' : TV} (q : stopP f n h t = some (.inl (h', t'))) : kd f n h = 25 ∧ h' = nx f n h ∧ t' = t := by
  unfold stopP at q
  by_cases z : kd f n h = 25
  · rw [if_pos z] at q; cases q; exact ⟨z, rfl, rfl⟩
  · rw [if_neg z] at q; cases q
theorem flg_b : ∀ k, k < 5 → (k = 1 → flo k = 1) ∧ (k = 0 → fhi k = 99) ∧ (k = 1 → fhi k = 9) ∧ (k = 2 → fhi k = 9) ∧ (k = 3 → fhi k = 9) ∧ (k = 4 → fhi k = 99) ∧ flo k ≤ 1 ∧ fhi k ≤ 99 := by decide
theorem TOK.flag {g k x : Nat} (h : TOK t) (hg : g < vG t.1) (hk : k < 5) (h1 : flo k ≤ x) (h2 : x ≤ fhi k) : TOK (tvF t (upF (vF t.1) k g x)) := by
  obtain ⟨⟨c1, c2, c3, c4, c5, c6, c7⟩, w, r, b⟩ := h
  obtain ⟨b1, b2, b3, b4, b5, b6, b7, b8⟩ := flg_b k hk
  refine ⟨⟨c1, c2, c3, c4, c5, fun y hy => ?_, c7⟩, w, fun y => ?_, fun j y hy => ?_⟩
  · have := c6 y hy
    show 1 ≤ upF _ k g x 1 y ∧ upF _ k g x 1 y ≤ 9 ∧ upF _ k g x 2 y ≤ 9 ∧ upF _ k g x 3 y ≤ 9 ∧ upF _ k g x 4 y ≤ 99
    unfold upF
    refine ⟨?_, ?_, ?_, ?_, ?_⟩ <;> split <;> omega
  · show upF _ k g x 0 y ≤ 99
    have := r y
    unfold upF
    split <;> omega
  · show upF _ k g x j y = _
    unfold upF
    rw [if_neg (fun e => by have : vG t.1 ≤ y := hy; omega)]
    exact b j y hy
theorem gldP_none {g : Nat} : ∀ (F h : Nat) (t : TV), h ≤ n → n - h < F → gldP f n g F h t ≠ none
  | 0, _, _, _, q => by omega
  | F + 1, h, t, hn, q => by
    rw [gldP]
    by_cases z : kd f n h = 25
    · rw [if_pos z]; exact fun e => by cases e
    rw [if_neg z]
    by_cases y : 5 ≤ kd f n h ∧ kd f n h ≤ 9
    · rw [if_pos y]
      have a := kd_nx (f := f) hn (show kd f n h ≠ 37 by omega)
      have b := nx_b (f := f) a.2
      exact numP_none (fun _ => gldP_none F _ _ b.2 (by omega))
    · rw [if_neg y]; exact fun e => by cases e
theorem gldP_ok {g : Nat} : ∀ (F h : Nat) (t : TV) (h' : Nat) (t' : TV), h ≤ n → TOK t → g < vG t.1 → gldP f n g F h t = some (.inl (h', t')) → h < h' ∧ h' ≤ n ∧ TOK t' ∧ vL t'.1 = vL t.1 ∧ vG t'.1 = vG t.1
  | 0, _, _, _, _, _, _, _, q => by rw [gldP] at q; cases q
  | F + 1, h, t, h', t', hn, ok, hg, q => by
    rw [gldP] at q
    by_cases z : kd f n h = 25
    · rw [if_pos z] at q
      cases q
      have a := kd_nx (f := f) hn (show kd f n h ≠ 37 by omega)
      exact ⟨a.1, a.2, ok, rfl, rfl⟩
    rw [if_neg z] at q
    by_cases y : 5 ≤ kd f n h ∧ kd f n h ≤ 9
    · rw [if_pos y] at q
      have a := kd_nx (f := f) hn (show kd f n h ≠ 37 by omega)
      obtain ⟨n1, n2, n3, n4⟩ := numP_ok q
      have b := kd_nx (f := f) a.2 (show kd f n (nx f n h) ≠ 37 by omega)
      obtain ⟨r1, r2, r3, r4, r5⟩ := gldP_ok F _ _ h' t' b.2 (ok.flag (k := kd f n h - 5) hg (by omega) n2 (by omega)) hg n4
      exact ⟨by omega, r2, r3, r4, r5⟩
    · rw [if_neg y] at q; cases q
theorem lawT_none {r : PR} {k : List Nat → TV} (hr : r ≠ none) : lawT r k ≠ none := by
  unfold lawT
  match r, hr with
  | some (.inl (a, b)), _ => exact fun e => by cases e
  | some (.inr a), _ => exact fun e => by cases e
theorem lawT_ok {r : PR} {k : List Nat → TV} {h' : Nat} {t' : TV} (q : lawT r k = some (.inl (h', t'))) : ∃ cc, r = some (.inl (h', cc)) ∧ t' = k cc := by
  unfold lawT at q
  match r, q with
  | some (.inl (a, b)), q => cases q; exact ⟨b, rfl, rfl⟩
  | some (.inr a), q => cases q
theorem lawP_none (hn : h ≤ n) : lawP f n h ≠ none := by
  rcases lawP_cases (f := f) hn with ⟨k, p, e1, e2⟩ | ⟨h1, c1, e1, e2⟩
  · rw [e1]; exact fun e => by cases e
  · rw [e2]; split <;> exact fun e => by cases e
theorem lineP_none (hn : h ≤ n) : lineP f n h t ≠ none := by
  have b1 := nx_b (f := f) hn
  have b2 := nx_b (f := f) b1.2
  unfold lineP
  repeat' split
  all_goals first | exact (fun e => by cases e) | exact lawT_none (lawP_none b1.2) | skip
  · rename_i z _
    have a := kd_nx (f := f) hn (show kd f n h ≠ 37 by omega)
    exact gldP_none _ _ _ a.2 (by omega)
  · refine numP_none (fun _ => numP_none (fun _ => ?_))
    split
    · exact fun e => by cases e
    · exact stopP_none
  · exact numP_none (fun _ => stopP_none)
theorem lineP_ok {h' : Nat} {t' : TV} (hn : h ≤ n) (h9 : n ≤ 900) (ok : TOK t) (q : lineP f n h t = some (.inl (h', t'))) : h < h' ∧ h' ≤ n ∧ TOK t' ∧ vL t'.1 = vL t.1 := by
  have b1 := nx_b (f := f) hn
  have b2 := nx_b (f := f) b1.2
  have b3 := nx_b (f := f) b2.2
  unfold lineP at q
  obtain ⟨⟨c1, c2, c3, c4, c5, c6, c7⟩, w, r, b⟩ := id ok
  by_cases z : kd f n h = 0
  · rw [if_pos z] at q
    have a := kd_nx (f := f) hn (show kd f n h ≠ 37 by omega)
    by_cases y : vG t.1 < 10
    · rw [if_pos y] at q
      have ok1 : TOK (tvG t (vG t.1 + 1)) := by
        refine ⟨⟨y, c2, c3, c4, c5, fun g hg => ?_, c7⟩, fun g h e => ?_, r, fun k g hg => b k g (by have : vG t.1 + 1 ≤ g := hg; omega)⟩
        · have hg : g < vG t.1 + 1 := hg
          by_cases u : g < vG t.1
          · exact c6 g u
          · have e := fun k => b k g (by omega)
            show 1 ≤ vF t.1 1 g ∧ vF t.1 1 g ≤ 9 ∧ vF t.1 2 g ≤ 9 ∧ vF t.1 3 g ≤ 9 ∧ vF t.1 4 g ≤ 99
            rw [e 1, e 2, e 3, e 4]
            decide
        · have := w g h e
          exact ⟨by show g < vG t.1 + 1; omega, by show h < vG t.1 + 1; omega, this.2.2⟩
      obtain ⟨r1, r2, r3, r4, r5⟩ := gldP_ok _ _ _ _ _ a.2 ok1 (by show vG t.1 < vG t.1 + 1; omega) q
      exact ⟨by omega, r2, r3, r4⟩
    · rw [if_neg y] at q; cases q
  rw [if_neg z] at q
  by_cases z : kd f n h = 1
  · rw [if_pos z] at q
    have a := kd_nx (f := f) hn (show kd f n h ≠ 37 by omega)
    obtain ⟨n1, n2, n3, n4⟩ := numP_ok q
    obtain ⟨m1, m2, m3, m4⟩ := numP_ok n4
    by_cases y : vl f n (nx f n h) = vl f n (nx f n (nx f n h))
    · rw [if_pos y] at m4; cases m4
    · rw [if_neg y] at m4
      obtain ⟨s1, s2, s3⟩ := stopP_ok m4
      have b4 := nx_b (f := f) b3.2
      refine ⟨by omega, by omega, ?_, by rw [s3]; rfl⟩
      rw [s3]
      refine ⟨⟨c1, c2, c3, c4, c5, c6, c7⟩, fun g j e => ?_, r, b⟩
      have e : (if g = vl f n (nx f n h) then some (vl f n (nx f n (nx f n h))) else t.2 g) = some j := e
      split at e
      · rename_i u
        cases e
        rw [u]
        exact ⟨n3, m3, fun w => y w.symm⟩
      · exact w g j e
  rw [if_neg z] at q
  by_cases z : kd f n h = 2
  · rw [if_pos z] at q
    obtain ⟨cc, q1, q2⟩ := lawT_ok q
    obtain ⟨l1, l2, l3, l4⟩ := lawP_ok b1.2 h9 q1
    refine ⟨by omega, l4, ?_, by rw [q2]; rfl⟩
    rw [q2]
    exact ⟨⟨c1, c2, c3, Or.inr l1, c5, c6, c7⟩, w, r, b⟩
  rw [if_neg z] at q
  by_cases z : kd f n h = 3
  · rw [if_pos z] at q
    obtain ⟨cc, q1, q2⟩ := lawT_ok q
    obtain ⟨l1, l2, l3, l4⟩ := lawP_ok b1.2 h9 q1
    refine ⟨by omega, l4, ?_, by rw [q2]; rfl⟩
    rw [q2]
    exact ⟨⟨c1, c2, c3, c4, Or.inr l1, c6, c7⟩, w, r, b⟩
  rw [if_neg z] at q
  by_cases z : kd f n h = 4
  · rw [if_pos z] at q
    have a := kd_nx (f := f) hn (show kd f n h ≠ 37 by omega)
    by_cases y : vT t.1 < 12
    · rw [if_pos y] at q
      by_cases u : 10 ≤ kd f n (nx f n h) ∧ kd f n (nx f n h) ≤ 13
      · rw [if_pos u] at q
        obtain ⟨n1, n2, n3, n4⟩ := numP_ok q
        obtain ⟨s1, s2, s3⟩ := stopP_ok n4
        have b4 := nx_b (f := f) b3.2
        refine ⟨by omega, by omega, ?_, by rw [s3]; rfl⟩
        rw [s3]
        refine ⟨⟨c1, y, fun i hi => ?_, c4, c5, c6, c7⟩, w, r, b⟩
        have hi : i < vT t.1 + 1 := hi
        show up1 _ _ _ i < 4 ∧ 1 ≤ up1 _ _ _ i ∧ up1 _ _ _ i ≤ 20
        unfold up1
        by_cases v : i = vT t.1
        · rw [if_pos v, if_pos v]; omega
        · rw [if_neg v, if_neg v]; exact c3 i (by omega)
      · rw [if_neg u] at q; cases q
    · rw [if_neg y] at q; cases q
  · rw [if_neg z] at q; cases q
theorem TOK_L (h : TOK t) {L : Nat} (hL : L ≤ 900) : TOK (tvL t L) := by
  obtain ⟨⟨c1, c2, c3, c4, c5, c6, c7⟩, w, r, b⟩ := h
  exact ⟨⟨c1, c2, c3, c4, c5, c6, hL⟩, w, r, b⟩
theorem TOK_0 : TOK tv0 := ⟨⟨by decide, by decide, fun i hi => absurd hi (Nat.not_lt_zero i), Or.inl rfl, Or.inl rfl, fun i hi => absurd hi (Nat.not_lt_zero i), by decide⟩, fun g h e => (by cases e), fun g => Nat.zero_le 99, fun k g _ => rfl⟩
theorem carnP_none : ∀ (F h : Nat) (t : TV), h ≤ n → n ≤ 900 → TOK t → vL t.1 ≤ h → n - h < F → carnP f n F h t ≠ none
  | 0, _, _, _, _, _, _, q => by omega
  | F + 1, h, t, hn, h9, ok, hL, q => by
    rw [carnP]
    by_cases z : kd f n h = 37
    · rw [if_pos z]; exact fun e => by cases e
    rw [if_neg z]
    match e : lineP f n h t with
    | none => exact absurd e (lineP_none hn)
    | some (.inr r) => exact fun e => by cases e
    | some (.inl (h', t')) =>
      obtain ⟨a1, a2, a3, a4⟩ := lineP_ok hn h9 ok e
      exact carnP_none F h' _ a2 h9 (TOK_L a3 (by omega)) (by show vL t'.1 + 1 ≤ h'; omega) (by omega)
end TD1
