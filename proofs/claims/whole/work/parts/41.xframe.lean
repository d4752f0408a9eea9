/-! what stays; a standing and a carnival in the class's cells -/
/-- nothing outside S has changed (of references only the 0th field in S), no cell is new -/
def frm (S : Nat → Prop) (T T' : XS) : Prop := xS T' = xS T ∧ xn T' = xn T ∧ xk T' = xk T ∧ (∀ b k, (k ≠ 0 ∨ ¬ S b) → xR T' b k = xR T b k) ∧ ∀ b, ¬ S b → (∀ k, xI T' b k = xI T b k) ∧ xA T' b = xA T b ∧ xL T' b = xL T b ∧ xQ T' b = xQ T b
section FM1
variable {S S' : Nat → Prop} {T T' T'' : XS} {a b : Nat}
theorem frm.rf : frm S T T := ⟨rfl, rfl, rfl, fun _ _ _ => rfl, fun _ _ => ⟨fun _ => rfl, rfl, rfl, rfl⟩⟩
theorem frm.tr (h : frm S T T') (h' : frm S T' T'') : frm S T T'' := by
  obtain ⟨h1, h2, h3, h4, h5⟩ := h
  obtain ⟨g1, g2, g3, g4, g5⟩ := h'
  refine ⟨g1.trans h1, g2.trans h2, g3.trans h3, fun b k q => (g4 b k q).trans (h4 b k q), fun b q => ?_⟩
  obtain ⟨a1, a2, a3, a4⟩ := h5 b q
  obtain ⟨b1, b2, b3, b4⟩ := g5 b q
  exact ⟨fun k => (b1 k).trans (a1 k), b2.trans a2, b3.trans a3, b4.trans a4⟩
theorem frm.mono (h : frm S T T') (hs : ∀ b, S b → S' b) : frm S' T T' := by
  obtain ⟨h1, h2, h3, h4, h5⟩ := h
  exact ⟨h1, h2, h3, fun b k q => h4 b k (q.elim Or.inl (fun z => Or.inr (fun y => z (hs b y)))), fun b q => h5 b (fun y => q (hs b y))⟩
theorem frm_I (ha : S a) (k : Nat) (v : Int32) : frm S T (tI T a k v) := by
  refine ⟨rfl, rfl, rfl, fun _ _ _ => rfl, fun b hb => ⟨fun j => ?_, rfl, rfl, rfl⟩⟩
  exact if_neg (fun q => hb (by rw [q.1]; exact ha))
theorem frm_W (ha : S a) (f : Nat → Int32) : frm S T (tW T a f) :=
  ⟨rfl, rfl, rfl, fun _ _ _ => rfl, fun b hb => ⟨fun j => rfl, if_neg (fun q => hb (by rw [q]; exact ha)), rfl, rfl⟩⟩
theorem frm_A (ha : S a) (j : Nat) (v : Int32) : frm S T (tA T a j v) := frm_W ha _
theorem frm_L (ha : S a) (j : Nat) (v : Int64) : frm S T (tL T a j v) :=
  ⟨rfl, rfl, rfl, fun _ _ _ => rfl, fun b hb => ⟨fun j => rfl, rfl, if_neg (fun q => hb (by rw [q]; exact ha)), rfl⟩⟩
theorem frm_Q (ha : S a) (j : Nat) (v : Option Nat) : frm S T (tQ T a j v) :=
  ⟨rfl, rfl, rfl, fun _ _ _ => rfl, fun b hb => ⟨fun j => rfl, rfl, rfl, if_neg (fun q => hb (by rw [q]; exact ha))⟩⟩
theorem frm_R (ha : S a) (v : Option Nat) : frm S T (tR T a 0 v) :=
  ⟨rfl, rfl, rfl, fun b k hb => if_neg (fun q => by
    rcases hb with z | z
    · exact z q.2
    · exact z (by rw [q.1]; exact ha)), fun b hb => ⟨fun j => rfl, rfl, rfl, rfl⟩⟩
theorem frm.sh (h : frm S T T') (a : Nat) : shx T' a = shx T a := by unfold shx; rw [h.1]
theorem frm.ib (h : frm S T T') : inb T' a ↔ inb T a := by unfold inb; rw [h.2.1]
theorem frm.o (h : frm S T T') {ci : Nat} (q : ob T a ci) : ob T' a ci := ⟨h.ib.mpr q.1, by rw [h.sh]; exact q.2⟩
theorem frm.r (h : frm S T T') {kd n : Nat} (q : ar T a kd n) : ar T' a kd n := ⟨h.ib.mpr q.1, by rw [h.sh]; exact q.2⟩
theorem frm.fx (h : frm S T T') {k : Nat} (q : k ≠ 0 ∨ ¬ S a) : frx T' a k = frx T a k := by unfold frx; rw [h.2.2.2.1 a k q]
theorem frm.I (h : frm S T T') (q : ¬ S a) (k : Nat) : xI T' a k = xI T a k := (h.2.2.2.2 a q).1 k
theorem frm.A (h : frm S T T') (q : ¬ S a) : xA T' a = xA T a := (h.2.2.2.2 a q).2.1
theorem frm.L (h : frm S T T') (q : ¬ S a) : xL T' a = xL T a := (h.2.2.2.2 a q).2.2.1
theorem frm.Q (h : frm S T T') (q : ¬ S a) : xQ T' a = xQ T a := (h.2.2.2.2 a q).2.2.2
theorem frm.sds (h : frm S T T') (q : SdS T a) : SdS T' a :=
  ⟨h.o q.1, by rw [h.fx (Or.inl (by decide))]; exact q.fw, by rw [h.fx (Or.inl (by decide))]; exact q.fm, by rw [h.fx (Or.inl (by decide))]; exact q.fr, h.r q.aw, h.r q.am, h.r q.ak⟩
theorem frm.ns (h : frm S T T') (a : Nat) : nst T' a = nst T a := by show (shx T' (a + 28)).2 = (shx T (a + 28)).2; rw [h.sh]
theorem frm.cvs (h : frm S T T') (q : CvS T a) : CvS T' a :=
  ⟨h.o q.1, ⟨by rw [h.fx (Or.inl (by decide))]; exact q.f3, by rw [h.fx (Or.inl (by decide))]; exact q.f9, by rw [h.fx (Or.inl (by decide))]; exact q.f10, by rw [h.fx (Or.inl (by decide))]; exact q.f11, by rw [h.fx (Or.inl (by decide))]; exact q.f12, by rw [h.fx (Or.inl (by decide))]; exact q.f13, by rw [h.fx (Or.inl (by decide))]; exact q.f7, by rw [h.fx (Or.inl (by decide))]; exact q.f8⟩, h.r q.a3, h.r q.a9, h.r q.a10, h.r q.a11, h.r q.a12, h.r q.a13, by rw [h.ns]; exact h.r q.a7, by rw [h.ns]; exact h.r q.a8⟩
theorem frm.frs (h : frm S T T') (n : ¬ S a) (q : FrS T a) : FrS T' a := ⟨h.o q.1, by rw [h.fx (Or.inr n)]; exact q.fn, by rw [h.fx (Or.inr n)]; exact q.fp, h.r q.ap⟩
theorem frm.tys (h : frm S T T') (n : ¬ S a) (q : TyS T a) : TyS T' a := ⟨h.o q.1, by rw [h.fx (Or.inr n)]; exact q.fz, h.r q.az⟩
theorem xA_A (T : XS) (a j : Nat) (v : Int32) (b : Nat) : xA (tA T a j v) b = if b = a then upd (xA T a) j v else xA T b := rfl
theorem xA_W (T : XS) (a : Nat) (f : Nat → Int32) (b : Nat) : xA (tW T a f) b = if b = a then f else xA T b := rfl
theorem tA_W (T : XS) (a j : Nat) (f : Nat → Int32) (v : Int32) : tA (tW T a f) a j v = tW T a (upd f j v) := by
  unfold tA
  rw [tW_at]
  unfold tW
  simp only [Prod.mk.injEq, true_and, and_true]
  funext b
  split
  · rfl
  · rename_i hb; exact if_neg hb
theorem tW_id (T : XS) (a : Nat) : tW T a (xA T a) = T := by
  unfold tW
  have : (fun a' => if a' = a then xA T a else xA T a') = xA T := by
    funext b
    split
    · rename_i hb; rw [hb]
    · rfl
  rw [this]
end FM1
theorem sWM (a : Nat) : sW a ≠ sM a := by unfold sW sM; split <;> omega
theorem sWR (a : Nat) : sW a ≠ sR a := by unfold sW sR; split <;> omega
theorem sMR (a : Nat) : sM a ≠ sR a := by unfold sM sR; split <;> omega
/-- where standings, carnivals may lie -/
def oks (a : Nat) : Prop := a = 93 ∨ a = 173 ∨ a % 4 = 3
def okc (a : Nat) : Prop := a = 53 ∨ a % 4 = 3
def STD (T : XS) (a ca : Nat) (sd : SD) : Prop := SdS T a ∧ oks a ∧ frx T a 0 = some ca ∧ (∀ g, g < 10 → xA T (sW a) g = oI (sd.1 g)) ∧ (∀ g, g < 10 → xA T (sM a) g = nI (mkb sd.1 g 10)) ∧ (∀ g, g < 10 → xA T (sR a) g = nI (sd.2.1 g)) ∧ xI T a 4 = sd.2.2
/-- a law's step in the class's words -/
def tkC (x : Nat) : Nat := if 1000 ≤ x then x - 1000 else if 100 ≤ x then 917 + x else if x = 10 then 1026 else if x = 11 then 1027 else if x = 12 then 1028 else if x = 13 then 1033 else if x = 14 then 1034 else if x = 15 then 1035 else if x = 16 then 1015 else if x = 17 then 1014 else 1016
/-- no standing's own array -/
def NB (T : XS) (b : Nat) : Prop := ∀ a, ob T a 9 → b ≠ sW a ∧ b ≠ sM a ∧ b ≠ sR a
def LAWA (T : XS) (o : Option Nat) (l : List Nat) : Prop := (o = none ∧ l = []) ∨ ∃ b, o = some b ∧ l ≠ [] ∧ b % 4 = 3 ∧ ar T b 20 l.length ∧ NB T b ∧ ∀ i, i < l.length → xA T b i = nI (tkC (l.getD i 0))
/-- steps of the way, places of them -/
def stp (v : CV) : Nat → Nat
  | 0 => 1
  | k + 1 => stp v k + vP v k
def dirX (w : Nat) : Int := if w = 1 then 1 else if w = 3 then -1 else 0
def dirY (w : Nat) : Int := if w = 0 then 1 else if w = 2 then -1 else 0
/-- where one is behind k streets, left steps of the way still to go -/
def whr (d : Nat → Int) (v : CV) : Nat → Nat → Nat → Int
  | 0, _, _ => 0
  | m + 1, k, left => d (vY v k) * ((Nat.min left (vP v k) : Nat) : Int) + whr d v m (k + 1) (left - Nat.min left (vP v k))
def pos (d : Nat → Int) (v : CV) (step : Nat) : Int := whr d v (vT v) 0 step
def CAR (T : XS) (ca : Nat) (v : CV) : Prop := CvS T ca ∧ okc ca ∧ (xI T ca 0 = nI (vL v) ∧ xI T ca 1 = nI (vG v) ∧ xI T ca 2 = nI (vT v)) ∧ LAWA T (frx T ca 4) (vM v) ∧ LAWA T (frx T ca 5) (vA v) ∧ xI T ca 6 = bI (decide (107 ∈ vA v)) ∧ (∀ g, g < vG v → xA T (ca + 12) g = nI (vF v 1 g) ∧ xA T (ca + 16) g = nI (vF v 2 g) ∧ xA T (ca + 20) g = nI (vF v 3 g) ∧ xA T (ca + 24) g = nI (vF v 4 g)) ∧ nst T ca = stp v (vT v) ∧ (∀ k, k < stp v (vT v) → xA T (ca + 28) k = Int32.ofInt (pos dirX v k) ∧ xA T (ca + 32) k = Int32.ofInt (pos dirY v k))
/-- a standing of a carnival, both as told -/
def CS (T : XS) (a ca : Nat) (v : CV) (sd : SD) : Prop := STD T a ca sd ∧ CAR T ca v ∧ COK v ∧ SOK (vG v) sd
section FM2
variable {S : Nat → Prop} {T T' : XS} {a ca : Nat} {sd : SD} {v : CV}
theorem frm.std (h : frm S T T') (q : STD T a ca sd) (n0 : ¬ S a) (n1 : ¬ S (sW a)) (n2 : ¬ S (sM a)) (n3 : ¬ S (sR a)) : STD T' a ca sd := by
  obtain ⟨q1, q2, q3, q4, q5, q6, q7⟩ := q
  exact ⟨h.sds q1, q2, by rw [h.fx (Or.inr n0)]; exact q3, fun g hg => by rw [h.A n1]; exact q4 g hg, fun g hg => by rw [h.A n2]; exact q5 g hg, fun g hg => by rw [h.A n3]; exact q6 g hg, by rw [h.I n0]; exact q7⟩
theorem frm.law (h : frm S T T') {o : Option Nat} {l : List Nat} (q : LAWA T o l) (n : ∀ b, b % 4 = 3 → NB T b → ¬ S b) : LAWA T' o l := by
  rcases q with q | ⟨b, q1, q2, q3, q4, q5, q6⟩
  · exact Or.inl q
  · refine Or.inr ⟨b, q1, q2, q3, h.r q4, fun x hx => q5 x ⟨h.ib.mp hx.1, by rw [← h.sh]; exact hx.2⟩, fun i hi => ?_⟩
    rw [h.A (n b q3 q5)]
    exact q6 i hi
theorem frm.car (h : frm S T T') (q : CAR T ca v) (n0 : ¬ S ca) (n1 : ¬ S (ca + 12) ∧ ¬ S (ca + 16) ∧ ¬ S (ca + 20) ∧ ¬ S (ca + 24) ∧ ¬ S (ca + 28) ∧ ¬ S (ca + 32)) (n : ∀ b, b % 4 = 3 → NB T b → ¬ S b) : CAR T' ca v := by
  obtain ⟨q1, q2, ⟨q3, q4, q5⟩, q6, q7, q8, q9, q10, q11⟩ := q
  obtain ⟨m1, m2, m3, m4, m5, m6⟩ := n1
  refine ⟨h.cvs q1, q2, ⟨by rw [h.I n0]; exact q3, by rw [h.I n0]; exact q4, by rw [h.I n0]; exact q5⟩, ?_, ?_, by rw [h.I n0]; exact q8, fun g hg => ?_, by rw [h.ns]; exact q10, fun k hk => ?_⟩
  · rw [h.fx (Or.inr n0)]; exact h.law q6 n
  · rw [h.fx (Or.inr n0)]; exact h.law q7 n
  · rw [h.A m1, h.A m2, h.A m3, h.A m4]; exact q9 g hg
  · rw [h.A m5, h.A m6]; exact q11 k hk
end FM2
/-- cells for a call's own use -/
def scrL : List Nat := [129, 133, 137, 141, 145, 149, 153, 121, 125, 157, 161, 165, 169, 173, 213, 217, 221, 225]
abbrev scr (b : Nat) : Prop := b ∈ scrL
theorem scr_1 {b : Nat} (h : scr b) : b % 4 = 1 := by
  unfold scr at h
  have : ∀ b ∈ scrL, b % 4 = 1 := by decide
  exact this b h
theorem scr_no {b : Nat} (h : b % 4 = 3) : ¬ scr b := fun q => by have := scr_1 q; omega
section FM3
variable {S : Nat → Prop} {T T' : XS} {a ca : Nat} {sd : SD} {v : CV}
theorem sW_3 {a : Nat} (h : a % 4 = 3) : sW a = a + 4 ∧ sM a = a + 8 ∧ sR a = a + 12 := by
  have : a ≠ 173 := by omega
  unfold sW sM sR
  exact ⟨if_neg this, if_neg this, if_neg this⟩
/-- what is in no cell of a call's own use -/
theorem frm.STDs (h : frm scr T T') (q : STD T a ca sd) (ha : a ≠ 173) : STD T' a ca sd := by
  rcases q.2.1 with rfl | z | z
  · exact h.std q (by decide) (by decide) (by decide) (by decide)
  · exact absurd z ha
  · obtain ⟨e1, e2, e3⟩ := sW_3 z
    exact h.std q (scr_no z) (by rw [e1]; exact scr_no (by omega)) (by rw [e2]; exact scr_no (by omega)) (by rw [e3]; exact scr_no (by omega))
theorem frm.CARs (h : frm scr T T') (q : CAR T ca v) : CAR T' ca v := by
  rcases q.2.1 with rfl | z
  · exact h.car q (by decide) (by decide) (fun b hb _ => scr_no hb)
  · exact h.car q (scr_no z) ⟨scr_no (by omega), scr_no (by omega), scr_no (by omega), scr_no (by omega), scr_no (by omega), scr_no (by omega)⟩ (fun b hb _ => scr_no hb)
theorem frm.CSs (h : frm scr T T') (q : CS T a ca v sd) (ha : a ≠ 173) : CS T' a ca v sd := ⟨h.STDs q.1 ha, h.CARs q.2.1, q.2.2⟩
theorem CS.gs (h : CS T a ca v sd) : xI T ca 1 = nI (vG v) := h.2.1.2.2.1.2.1
theorem CS.G (h : CS T a ca v sd) : vG v ≤ 10 := h.2.2.1.1
theorem CS.fc (h : CS T a ca v sd) : frx T a 0 = some ca := h.1.2.2.1
theorem CS.wh (h : CS T a ca v sd) {g : Nat} (hg : g < 10) : xA T (sW a) g = oI (sd.1 g) := h.1.2.2.2.1 g hg
theorem CS.mk (h : CS T a ca v sd) {g : Nat} (hg : g < 10) : xA T (sM a) g = nI (mkb sd.1 g 10) := h.1.2.2.2.2.1 g hg
theorem CS.rk (h : CS T a ca v sd) {g : Nat} (hg : g < 10) : xA T (sR a) g = nI (sd.2.1 g) := h.1.2.2.2.2.2.1 g hg
theorem CS.wb (h : CS T a ca v sd) {g k : Nat} (hk : sd.1 g = some k) : g < vG v ∧ k < vG v ∧ k ≠ g := h.2.2.2.1 g k hk
theorem CS.w10 (h : CS T a ca v sd) {g k : Nat} (hk : sd.1 g = some k) : k < 10 := by
  have := (h.wb hk).2.1
  have := h.G
  omega
end FM3
/-- bits beyond the guilds are none -/
theorem mkb_ext {w : Nat → Option Nat} {g G n : Nat} (h : ∀ x k, w x = some k → x < G) (hn : G ≤ n) : mkb w g n = mkb w g G := by
  refine Nat.eq_of_testBit_eq (fun i => ?_)
  rw [mkb_bit, mkb_bit]
  by_cases q : w i = some g
  · have := h i g q
    rw [decide_eq_true ⟨by omega, q⟩, decide_eq_true ⟨this, q⟩]
  · rw [decide_eq_false (fun z => q z.2), decide_eq_false (fun z => q z.2)]
theorem CS.mkG {T : XS} {a ca : Nat} {v : CV} {sd : SD} (h : CS T a ca v sd) (g : Nat) : mkb sd.1 g 10 = mkb sd.1 g (vG v) := mkb_ext (fun x k q => (h.wb q).1) h.G
theorem mkb_t (w : Nat → Option Nat) (g : Nat) : mkb w g 10 < 1024 := mkb_lt w g 10
