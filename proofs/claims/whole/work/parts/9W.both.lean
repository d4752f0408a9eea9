/-! class and reference side by side -/
abbrev IN : Type := Nat × (Nat → Int32) × Value
def cX (i : IN) (s : RS) : CX := (i.1, i.2.1, i.2.2, rr s, [], 0)
def cR (i : IN) (T : XS) : CX := (i.1, i.2.1, i.2.2, (List.range 57).map (fun j => cellX T (4 * j + 1)), (List.range (xn T)).map (fun j => cellX T (4 * j + 3)), xk T)
theorem cXR (i : IN) (T : XS) (s : RS) : hX (cX i s) T = cH (cR i T) s := rfl
theorem RL_X (i : IN) (s : RS) : RL (cX i s) := rfl
/-- both keep the same; so much room was taken -/
def IV (B : Nat) (T : XS) (s : RS) (A : AB) : Prop := XINV T A ∧ RINV s A ∧ SDF T ∧ xn T ≤ 909 * B + 1 ∧ xk T ≤ 2900 * B + 100000
def IVE (B : Nat) (T : XS) (s : RS) : Prop := (∃ A, IV B T s A) ∧ ar T 3 22 1
section BO1
variable {i : IN} {B d : Nat} {T T' : XS} {s s' : RS} {A A' : AB} {tt : Int32}
theorem IV.nx (h : IV B T s A) (x : XINV T' A') (r : RINV s' A') (g : gw 909 2900 T T') : IV (B + 1) T' s' A' := ⟨x, r, g.2.2 h.2.2.1, by have := g.1; have := h.2.2.2.1; omega, by have := g.2.1; have := h.2.2.2.2; omega⟩
theorem IV.q (h : IV B T s A) (f : frm scr T T') (q : SQ s s' tt) : IV (B + 1) T' s' A := h.nx (h.1.scr f) (h.2.1.sq q) (f.gw _ _)
theorem IV.q0 (h : IV B T s A) (q : SQ s s' tt) : IV (B + 1) T s' A := h.q frm.rf q
theorem gw_thr : gw 909 2900 T (tN T 0 0 6) := ⟨by show xn T + 1 ≤ _; omega, by show xk T + 6 ≤ _; omega, fun q => q.gr (grw.rf.N (S := noc) 0 0 6) (fun b h3 w1 w2 k => by
  have w2 : b / 4 < xn T + 1 := w2
  rw [show b = 4 * xn T + 3 by omega, tN_sh] at k
  cases k)⟩
theorem IV.th (h : IV B T s A) (q : SQ s s' tt) : IV (B + 1) (tN T 0 0 6) s' A := h.nx h.1.thr (h.2.1.sq q) gw_thr
theorem IV.cs (h : IV B T s A) : ∃ ca, FAIR T 49 ca A.2.2.1.1 A.2.2.1.2.1 A.2.2.1.2.2 := h.1.2.2.1
theorem IV.kf (h : IV B T s A) : KF (s.2.1 1) A.2.2.1.1 A.2.2.1.2.1 A.2.2.1.2.2 := h.2.1.2.2.1
theorem IV.kr (h : IV B T s A) : KR s A.2.2.1.1 A.2.2.1.2.1 := h.kf.1
theorem IV.G (h : IV B T s A) : vG A.2.2.1.1 ≤ 10 := h.kf.1.2.2.1.1
/-- the long that the wrappers write -/
theorem XINV.o3 (h : XINV T A) (a3 : ar T 3 22 1) (x : Int64) : XINV (tL T 3 0 x) A := by
  have f : frm (fun y => y = 3) T (tL T 3 0 x) := by
    refine ⟨rfl, rfl, rfl, fun _ _ _ => rfl, fun b hb => ⟨fun _ => rfl, rfl, ?_, rfl⟩⟩
    show (if b = 3 then _ else _) = _
    rw [if_neg hb]
  have k3 := a3.2
  have s49 := h.sh
  obtain ⟨h1, h2, ⟨ca, h3⟩, h4, h5⟩ := h
  have g := f.grw
  have sdn : ∀ z, SdS T z → ¬ sdC z 3 := fun z hz e => by
    rcases e with e | e | e | e
    · have := hz.1.2; rw [← e, k3] at this; cases this
    · rw [e, hz.aw.2] at k3; cases k3
    · rw [e, hz.am.2] at k3; cases k3
    · rw [e, hz.ak.2] at k3; cases k3
  have own3 : ∀ f, FSH T f → ∀ y, own T f y → ¬ y = 3 := fun f hf y hy e => by
    subst e
    rcases hy with e | e | e | ⟨j, z, hj, hz, e⟩
    · have := hf.1.1.2; rw [← e, k3] at this; cases this
    · rw [e, hf.1.ap.2] at k3; cases k3
    · exact sdn _ hf.2.2.1 e
    · exact sdn _ (hf.2.2.2.1 j z hj hz).1 e
  have cv : ∀ ca v, CAR T ca v → cvN (fun y => y = 3) T ca := fun ca v q => by
    refine ⟨fun e => ?_, ⟨fun e => ?_, fun e => ?_, fun e => ?_, fun e => ?_, fun e => ?_, fun e => ?_⟩, fun b m _ hb _ e => ?_⟩
    · have := q.1.1.2; rw [e, k3] at this; cases this
    · have := q.1.a10.2; rw [e, k3] at this; cases this
    · have := q.1.a11.2; rw [e, k3] at this; cases this
    · have := q.1.a12.2; rw [e, k3] at this; cases this
    · have := q.1.a13.2; rw [e, k3] at this; cases this
    · have := q.1.a7.2; rw [e, k3] at this; cases this
    · have := q.1.a8.2; rw [e, k3] at this; cases this
    · have := hb.2; rw [e, k3] at this; cases this
  have f3 := h3.gr g (own3 49 s49) (cv _ _ h3.2.1.2.1)
  exact ⟨h1.gr g (by decide) (by decide), ⟨h2.1, h2.2⟩, ⟨ca, f3.1⟩, h4.gr g (by decide) (fun i f hi hf => own3 f (h4.get hi hf).2.1) cv (fun y _ hy => by rw [own_eq f3.2] at hy; exact hy), h5.gr' g (by decide) (fun b hb _ => ⟨fun e => (by have := hb.1.2; rw [e, k3] at this; cases this), fun e => (by have := hb.az.2; rw [e, k3] at this; cases this)⟩)⟩
theorem IV.o3 (h : IV B T s A) (a3 : ar T 3 22 1) (x : Int64) : IV B (tL T 3 0 x) s A := ⟨h.1.o3 a3 x, h.2.1, h.2.2.1, h.2.2.2⟩
theorem tL_30 (T : XS) (x : Int64) : xL (tL T 3 0 x) 3 0 = x := by
  rw [tL_at]
  exact if_pos rfl
/-- what both answer: no throw -/
def AG (i : IN) (B dx dr mx mr : Nat) (ax as : List Value) (T : XS) (s : RS) : Prop := XI (cX i s) dx mx ax T (fun x T' => RI (cR i T') dr mr as s (fun y s' => y = x ∧ IVE B T' s'))
/-- what both answer, by the wrapper -/
def LG (i : IN) (B dx dr mx mr : Nat) (ax as : List Value) (T : XS) (s : RS) : Prop := XI (cX i s) dx mx ax T (fun cd T' => RI (cR i T') dr mr as s (fun y s' => s'.1 4 = cd ∧ (cd = 0 → xL T' 3 0 = y.toInt64) ∧ IVE B T' s'))
/-- the same, before the wrapper -/
def okP (i : IN) (B dr mr : Nat) (as : List Value) (s : RS) (x : Int32) (T' : XS) : Prop := ∀ U, RI (cR i U) dr mr as s (fun y s' => y = x ∧ s'.1 4 = 0 ∧ ∃ A, IV B T' s' A)
def noP (i : IN) (B dr mr : Nat) (as : List Value) (s : RS) (cd : Int32) (T' : XS) : Prop := ∀ U, RI (cR i U) dr mr as s (fun _ s' => s'.1 4 = cd ∧ ∃ A, IV B T' s' A)
theorem gN {g : Int32} {G k : Nat} (hG : G ≤ 10) (e : g = nI k) (hk : k < G) : 0 ≤ g.toInt ∧ g.toInt < G := by
  rw [e, nI_toInt (by omega)]; omega
theorem nI_ii {a b : Nat} (ha : a < 2 ^ 31) (hb : b < 2 ^ 31) {g : Int32} (e1 : g = nI a) (e2 : g = nI b) : a = b := (nI_inj ha hb).mp (e1.symm.trans e2)
theorem ag_ringed (h : IV B T s A) : XI (cX i s) (d + 64) m_X_ringed [.ref 1] T (fun x T' => RI (cR i T') (d + 64) m_R_ringed [.ref 2] s (fun y s' => y = x ∧ ∃ A, IV (B + 1) T' s' A)) := by
  obtain ⟨ca, hF⟩ := h.cs
  exact x_ringed (d := d + 60) hF.2.1 (fun T' f => r_ringed (d := d + 62) h.kr (fun s' q => ⟨rfl, _, h.q f q⟩))
theorem ag_place (h : IV B T s A) {g : Int32} : XIt (cX i s) (d + 64) m_X_place [.ref 1, .int g] T (okP i (B + 1) (d + 65) m_R_place [.ref 2, .int g] s) (fun e T' => e = 2 ∧ noP i (B + 1) (d + 65) m_R_place [.ref 2, .int g] s 1 T') := by
  obtain ⟨ca, hF⟩ := h.cs
  have hG := h.G
  refine x_place (d := d + 60) (RL_X i s) hF.2.1 (fun k e hk T' f => ?_) (fun z => ⟨rfl, ?_⟩)
  · exact fun U => r_place (d := d + 60) h.kr (fun k' e' hk' s' q => ⟨by rw [nI_ii (by omega) (by omega) e e'], q.1, _, h.q f q⟩) (fun z => absurd (gN hG e hk) z)
  · exact fun U => r_place (d := d + 60) h.kr (fun k' e' hk' => absurd (gN hG e' hk') z) (fun _ s' q => ⟨q.1, _, h.th q⟩)
end BO1
