/-! what both answer, call by call: the rest -/
section BO3
variable {i : IN} {B d : Nat} {T T' : XS} {s s' : RS} {A A' : AB} {tu : Int32}
theorem ag_fewest (h : IV B T s A) {n wt : Int32} : XIt (cX i s) (d + 64) m_X_fewest [.ref 1, .int n, .int wt] T (okP i (B + 1) (d + 65) m_R_fewest [.ref 2, .int n, .int wt] s) (fun e T' => (e = 1 ∧ noP i (B + 1) (d + 65) m_R_fewest [.ref 2, .int n, .int wt] s 1 T')) := by
  obtain ⟨ca, hF⟩ := h.cs
  refine x_fewestIn (d := d + 59) (RL_X i s) hF.2.1 (fun z1 z2 z3 T' f => ?_) (fun z => ⟨rfl, ?_⟩)
  · exact fun U => r_fewestIn (d := d + 59) h.kr (fun _ _ _ s' q => ⟨rfl, q.1, _, h.q f q⟩) (fun y => absurd ⟨⟨z1, z2⟩, z3⟩ y)
  · exact fun U => r_fewestIn (d := d + 59) h.kr (fun y1 y2 y3 => absurd ⟨⟨y1, y2⟩, y3⟩ z) (fun _ s' q => ⟨q.1, _, h.th q⟩)
theorem ag_judge (h : IV B T s A) {g wt : Int32} : XIt (cX i s) (d + 64) m_X_judge [.ref 1, .int g, .int wt] T (okP i (B + 1) (d + 65) m_R_judge [.ref 2, .int g, .int wt] s) (fun e T' => (e = 2 ∧ noP i (B + 1) (d + 65) m_R_judge [.ref 2, .int g, .int wt] s 1 T') ∨ (e = 3 ∧ noP i (B + 1) (d + 65) m_R_judge [.ref 2, .int g, .int wt] s 2 T') ∨ (e = 1 ∧ noP i (B + 1) (d + 65) m_R_judge [.ref 2, .int g, .int wt] s 3 T')) := by
  obtain ⟨ca, hF⟩ := h.cs
  refine x_judge (d := d + 58) (RL_X i s) h.tr hF.2.1 (fun k t e hk et z1 z2 T' f => ?_) (fun z => Or.inl ⟨rfl, ?_⟩) (fun k e hk et => Or.inr (Or.inl ⟨rfl, ?_⟩)) (fun k t e hk et z => Or.inr (Or.inr ⟨rfl, ?_⟩))
  · intro U; refine r_judge (d := d + 57) h.rr h.kr (fun k' t' e' hk' et' _ _ s' q => ?_) (fun z => absurd (i3N (m := 3) (by decide) e (by omega)) z) (fun k' e' hk' et' => ?_) (fun k' t' e' hk' et' z => absurd ⟨z1, z2⟩ z)
    · obtain rfl := nI_ii (by omega) (by omega) e e'
      cases et.symm.trans et'
      exact ⟨rfl, q.1, _, h.q f q⟩
    · obtain rfl := nI_ii (by omega) (by omega) e e'
      cases et.symm.trans et'
  · exact fun U => r_judge (d := d + 57) h.rr h.kr (fun k' t' e' hk' => absurd (i3N (m := 3) (by decide) e' (by omega)) z) (fun _ s' q => ⟨q.1, _, h.th q⟩) (fun k' e' hk' => absurd (i3N (m := 3) (by decide) e' (by omega)) z) (fun k' t' e' hk' => absurd (i3N (m := 3) (by decide) e' (by omega)) z)
  · intro U; refine r_judge (d := d + 57) h.rr h.kr (fun k' t' e' hk' et' => ?_) (fun z => absurd (i3N (m := 3) (by decide) e (by omega)) z) (fun _ _ _ _ s' q => ⟨q.1, _, h.th q⟩) (fun k' t' e' hk' et' => ?_)
    · obtain rfl := nI_ii (by omega) (by omega) e e'
      cases et.symm.trans et'
    · obtain rfl := nI_ii (by omega) (by omega) e e'
      cases et.symm.trans et'
  · intro U; refine r_judge (d := d + 57) h.rr h.kr (fun k' t' e' hk' et' y1 y2 => absurd ⟨y1, y2⟩ z) (fun z => absurd (i3N (m := 3) (by decide) e (by omega)) z) (fun k' e' hk' et' => ?_) (fun _ _ _ _ _ _ s' q => ⟨q.1, _, h.th q⟩)
    obtain rfl := nI_ii (by omega) (by omega) e e'
    cases et.symm.trans et'
theorem ag_seen (h : IV B T s A) {g : Int32} : XIt (cX i s) (d + 64) m_X_seen [.ref 1, .int g] T (okP i (B + 1) (d + 65) m_R_seen [.ref 2, .int g] s) (fun e T' => (e = 2 ∧ noP i (B + 1) (d + 65) m_R_seen [.ref 2, .int g] s 1 T') ∨ (e = 3 ∧ noP i (B + 1) (d + 65) m_R_seen [.ref 2, .int g] s 2 T') ∨ (e = 1 ∧ noP i (B + 1) (d + 65) m_R_seen [.ref 2, .int g] s 3 T')) := by
  obtain ⟨ca, hF⟩ := h.cs
  refine x_seen (d := d + 59) (RL_X i s) h.tr hF.2.1 (fun k t e hk et z1 T' f => ?_) (fun z => Or.inl ⟨rfl, ?_⟩) (fun k e hk et => Or.inr (Or.inl ⟨rfl, ?_⟩)) (fun k t e hk et z => Or.inr (Or.inr ⟨rfl, ?_⟩))
  · intro U; refine r_seen (d := d + 58) h.rr h.kr (fun k' t' e' hk' et' _ s' q => ?_) (fun z => absurd (i3N (m := 3) (by decide) e (by omega)) z) (fun k' e' hk' et' => ?_) (fun k' t' e' hk' et' z => ?_)
    · obtain rfl := nI_ii (by omega) (by omega) e e'
      cases et.symm.trans et'
      exact ⟨rfl, q.1, _, h.q f q⟩
    · obtain rfl := nI_ii (by omega) (by omega) e e'
      cases et.symm.trans et'
    · obtain rfl := nI_ii (by omega) (by omega) e e'
      cases et.symm.trans et'
      exact absurd z1 z
  · exact fun U => r_seen (d := d + 58) h.rr h.kr (fun k' t' e' hk' => absurd (i3N (m := 3) (by decide) e' (by omega)) z) (fun _ s' q => ⟨q.1, _, h.th q⟩) (fun k' e' hk' => absurd (i3N (m := 3) (by decide) e' (by omega)) z) (fun k' t' e' hk' => absurd (i3N (m := 3) (by decide) e' (by omega)) z)
  · intro U; refine r_seen (d := d + 58) h.rr h.kr (fun k' t' e' hk' et' => ?_) (fun z => absurd (i3N (m := 3) (by decide) e (by omega)) z) (fun _ _ _ _ s' q => ⟨q.1, _, h.th q⟩) (fun k' t' e' hk' et' => ?_)
    · obtain rfl := nI_ii (by omega) (by omega) e e'
      cases et.symm.trans et'
    · obtain rfl := nI_ii (by omega) (by omega) e e'
      cases et.symm.trans et'
  · intro U; refine r_seen (d := d + 58) h.rr h.kr (fun k' t' e' hk' et' y => ?_) (fun z => absurd (i3N (m := 3) (by decide) e (by omega)) z) (fun k' e' hk' et' => ?_) (fun _ _ _ _ _ _ s' q => ⟨q.1, _, h.th q⟩)
    · obtain rfl := nI_ii (by omega) (by omega) e e'
      cases et.symm.trans et'
      exact absurd y z
    · obtain rfl := nI_ii (by omega) (by omega) e e'
      cases et.symm.trans et'
theorem ag_copy (h : IV B T s A) {g : Int32} : XIt (cX i s) (d + 64) m_X_copy [.ref 1, .int g] T (okP i (B + 1) (d + 65) m_R_copy [.ref 2, .int g] s) (fun e T' => (e = 2 ∧ noP i (B + 1) (d + 65) m_R_copy [.ref 2, .int g] s 1 T') ∨ (e = 3 ∧ noP i (B + 1) (d + 65) m_R_copy [.ref 2, .int g] s 2 T')) := by
  obtain ⟨ca, hF⟩ := h.cs
  refine x_copy (d := d + 62) (RL_X i s) h.tr hF.2.1 (fun k t e hk et T' td => ?_) (fun z => Or.inl ⟨rfl, ?_⟩) (fun k e hk et => Or.inr ⟨rfl, ?_⟩)
  · intro U; refine r_copy (d := d + 62) h.rr h.kr (fun k' t' e' hk' et' s' q => ?_) (fun z => absurd (i3N (m := 3) (by decide) e (by omega)) z) (fun k' e' hk' et' => ?_)
    · obtain rfl := nI_ii (by omega) (by omega) e e'
      cases et.symm.trans et'
      exact ⟨rfl, q.1, _, h.ty td q⟩
    · obtain rfl := nI_ii (by omega) (by omega) e e'
      cases et.symm.trans et'
  · exact fun U => r_copy (d := d + 62) h.rr h.kr (fun k' t' e' hk' => absurd (i3N (m := 3) (by decide) e' (by omega)) z) (fun _ s' q => ⟨q.1, _, h.tx q⟩) (fun k' e' hk' => absurd (i3N (m := 3) (by decide) e' (by omega)) z)
  · intro U; refine r_copy (d := d + 62) h.rr h.kr (fun k' t' e' hk' et' => ?_) (fun z => absurd (i3N (m := 3) (by decide) e (by omega)) z) (fun _ _ _ _ s' q => ⟨q.1, _, h.tx q⟩)
    obtain rfl := nI_ii (by omega) (by omega) e e'
    cases et.symm.trans et'
theorem ag_write (h : IV B T s A) {g m : Int32} {x : Int64} : XJt (cX i s) (d + 64) m_X_write [.ref 1, .int g, .int m, .long x] T (fun u T' => ∀ U, RJ (cR i U) (d + 65) m_R_write [.ref 2, .int g, .int m, .long x] s (fun y s' => y = u ∧ s'.1 4 = 0 ∧ ∃ A, IV (B + 1) T' s' A)) (fun e T' => (e = 2 ∧ ∀ U, RJ (cR i U) (d + 65) m_R_write [.ref 2, .int g, .int m, .long x] s (fun _ s' => s'.1 4 = 1 ∧ ∃ A, IV (B + 1) T' s' A)) ∨ (e = 3 ∧ ∀ U, RJ (cR i U) (d + 65) m_R_write [.ref 2, .int g, .int m, .long x] s (fun _ s' => s'.1 4 = 2 ∧ ∃ A, IV (B + 1) T' s' A)) ∨ (e = 4 ∧ ∀ U, RJ (cR i U) (d + 65) m_R_write [.ref 2, .int g, .int m, .long x] s (fun _ s' => s'.1 4 = 3 ∧ ∃ A, IV (B + 1) T' s' A))) := by
  have tb : ∀ k t, A.2.2.2.2 k = some t → k < 4 → t.2.1 ≤ 30 := fun k t et hk => by
    rcases h.tr.1 k hk with w | ⟨b, t', w1, w2, w3⟩
    · rw [et] at w; cases w.1
    · cases et.symm.trans w1
      exact w3.2.2.2.2.1.2
  have mN : ∀ {k : Nat} {t : TY}, t.2.1 ≤ 30 → m = nI k → k < t.2.1 → 0 ≤ m.toInt ∧ m.toInt < t.2.1 := fun ht e hk => by rw [e, nI_toInt (by omega)]; omega
  refine x_write (d := d + 62) (RL_X i s) h.tr (fun k t l e hk et em hl T' td => ?_) (fun z => Or.inl ⟨rfl, ?_⟩) (fun k e hk et => Or.inr (Or.inl ⟨rfl, ?_⟩)) (fun k t e hk et z => Or.inr (Or.inr ⟨rfl, ?_⟩))
  · intro U; refine r_write (d := d + 62) h.rr (fun k' t' l' e' hk' et' em' hl' s' q => ?_) (fun z => absurd (i3N (m := 3) (by decide) e (by omega)) z) (fun k' e' hk' et' => ?_) (fun k' t' e' hk' et' z => ?_)
    · obtain rfl := nI_ii (by omega) (by omega) e e'
      cases et.symm.trans et'
      have := tb k t et hk
      obtain rfl := nI_ii (by omega) (by omega) em em'
      exact ⟨rfl, q.1, _, h.ty td q⟩
    · obtain rfl := nI_ii (by omega) (by omega) e e'
      cases et.symm.trans et'
    · obtain rfl := nI_ii (by omega) (by omega) e e'
      cases et.symm.trans et'
      exact absurd (mN (tb k t et hk) em hl) z
  · exact fun U => r_write (d := d + 62) h.rr (fun k' t' l' e' hk' => absurd (i3N (m := 3) (by decide) e' (by omega)) z) (fun _ s' q => ⟨q.1, _, h.tx q⟩) (fun k' e' hk' => absurd (i3N (m := 3) (by decide) e' (by omega)) z) (fun k' t' e' hk' => absurd (i3N (m := 3) (by decide) e' (by omega)) z)
  · intro U; refine r_write (d := d + 62) h.rr (fun k' t' l' e' hk' et' => ?_) (fun z => absurd (i3N (m := 3) (by decide) e (by omega)) z) (fun _ _ _ _ s' q => ⟨q.1, _, h.tx q⟩) (fun k' t' e' hk' et' => ?_)
    · obtain rfl := nI_ii (by omega) (by omega) e e'
      cases et.symm.trans et'
    · obtain rfl := nI_ii (by omega) (by omega) e e'
      cases et.symm.trans et'
  · intro U; refine r_write (d := d + 62) h.rr (fun k' t' l' e' hk' et' em' hl' => ?_) (fun z => absurd (i3N (m := 3) (by decide) e (by omega)) z) (fun k' e' hk' et' => ?_) (fun _ _ _ _ _ _ s' q => ⟨q.1, _, h.tx q⟩)
    · obtain rfl := nI_ii (by omega) (by omega) e e'
      cases et.symm.trans et'
      exact absurd (mN (tb k t et hk) em' hl') z
    · obtain rfl := nI_ii (by omega) (by omega) e e'
      cases et.symm.trans et'
theorem ag_tray (h : IV B T s A) {g so m : Int32} : XVt (cX i s) (d + 64) m_X_tray [.ref 1, .int g, .int so, .int m] T (fun T' => ∀ U, RV (cR i U) (d + 65) m_R_tray [.ref 2, .int g, .int so, .int m] s (fun s' => s'.1 4 = 0 ∧ ∃ A, IV (B + 1) T' s' A)) (fun e T' => (e = 2 ∧ ∀ U, RV (cR i U) (d + 65) m_R_tray [.ref 2, .int g, .int so, .int m] s (fun s' => s'.1 4 = 1 ∧ ∃ A, IV (B + 1) T' s' A)) ∨ (e = 1 ∧ ∀ U, RV (cR i U) (d + 65) m_R_tray [.ref 2, .int g, .int so, .int m] s (fun s' => s'.1 4 = 2 ∧ ∃ A, IV (B + 1) T' s' A))) := by
  refine x_tray (d := d + 62) (RL_X i s) h.tr (fun k u l e hk eu hu el hl T' td => ?_) (fun z => Or.inl ⟨rfl, ?_⟩) (fun z1 z2 => Or.inr ⟨rfl, ?_⟩)
  · intro U; refine r_tray (d := d + 63) h.rr (fun k' u' l' e' hk' eu' hu' el' hl' s' q => ?_) (fun z => absurd (i3N (m := 3) (by decide) e (by omega)) z) (fun _ z => absurd ⟨i3N (m := 3) (by decide) eu (by omega), i3N (m := 30) (by decide) el (by omega)⟩ z)
    obtain rfl := nI_ii (by omega) (by omega) e e'
    obtain rfl := nI_ii (by omega) (by omega) eu eu'
    obtain rfl := nI_ii (by omega) (by omega) el el'
    exact ⟨q.1, _, h.ty td q⟩
  · exact fun U => r_tray (d := d + 63) h.rr (fun k' u' l' e' hk' => absurd (i3N (m := 3) (by decide) e' (by omega)) z) (fun _ s' q => ⟨q.1, _, h.tx q⟩) (fun y => absurd y z)
  · exact fun U => r_tray (d := d + 63) h.rr (fun k' u' l' e' hk' eu' hu' el' hl' => absurd ⟨i3N (m := 3) (by decide) eu' (by omega), i3N (m := 30) (by decide) el' (by omega)⟩ z2) (fun y => absurd z1 y) (fun _ _ s' q => ⟨q.1, _, h.tx q⟩)
theorem IV.rth (h : IV B T s A) (x : Int32) : IV (B + 1) (tN T 0 0 6) (rF s 4 x) A := h.nx h.1.thr (h.2.1.th x) gw_thr
theorem ag_image (h : IV B T s A) {g : Int32} : XVt (cX i s) (d + 64) m_X_image [.ref 1, .int g] T (fun T' => ∀ U, RV (cR i U) (d + 65) m_R_image [.ref 2, .int g] s (fun s' => s'.1 4 = 0 ∧ ∃ A, IV (B + 1) T' s' A)) (fun e T' => (e = 2 ∧ ∀ U, RV (cR i U) (d + 65) m_R_image [.ref 2, .int g] s (fun s' => s'.1 4 = 1 ∧ ∃ A, IV (B + 1) T' s' A))) := by
  refine x_image (d := d + 60) (RL_X i s) h.1 (fun k e hk T' xi w => ?_) (fun z => ⟨rfl, ?_⟩)
  · intro U; refine r_image (d := d + 64) h.2.1 (fun k' e' hk' s' q4 ri => ?_) (fun z => absurd (i3N (m := 2) (by decide) e (by omega)) z)
    obtain rfl := nI_ii (by omega) (by omega) e e'
    exact ⟨q4, _, h.nx xi ri (w.up (by decide) (by decide))⟩
  · exact fun U => r_image (d := d + 64) h.2.1 (fun k' e' hk' => absurd (i3N (m := 2) (by decide) e' (by omega)) z) (fun _ => ⟨rfl, _, h.rth 1⟩)
theorem ag_restore (h : IV B T s A) {g : Int32} : XVt (cX i s) (d + 64) m_X_restore [.ref 1, .int g] T (fun T' => ∀ U, RV (cR i U) (d + 65) m_R_restore [.ref 2, .int g] s (fun s' => s'.1 4 = 0 ∧ ∃ A, IV (B + 1) T' s' A)) (fun e T' => (e = 2 ∧ ∀ U, RV (cR i U) (d + 65) m_R_restore [.ref 2, .int g] s (fun s' => s'.1 4 = 1 ∧ ∃ A, IV (B + 1) T' s' A)) ∨ (e = 3 ∧ ∀ U, RV (cR i U) (d + 65) m_R_restore [.ref 2, .int g] s (fun s' => s'.1 4 = 2 ∧ ∃ A, IV (B + 1) T' s' A))) := by
  refine x_restore (d := d + 60) (RL_X i s) h.1 (fun k a e hk ea T' xi w => ?_) (fun z => Or.inl ⟨rfl, ?_⟩) (fun k e hk ea => Or.inr ⟨rfl, ?_⟩)
  · intro U; refine r_restore (d := d + 64) h.2.1 (fun k' a' e' hk' ea' s' q4 ri => ?_) (fun z => absurd (i3N (m := 2) (by decide) e (by omega)) z) (fun k' e' hk' ea' => ?_)
    · obtain rfl := nI_ii (by omega) (by omega) e e'
      cases ea.symm.trans ea'
      exact ⟨q4, _, h.nx xi ri (w.up (by decide) (by decide))⟩
    · obtain rfl := nI_ii (by omega) (by omega) e e'
      cases ea.symm.trans ea'
  · exact fun U => r_restore (d := d + 64) h.2.1 (fun k' a' e' hk' => absurd (i3N (m := 2) (by decide) e' (by omega)) z) (fun _ => ⟨rfl, _, h.rth 1⟩) (fun k' e' hk' => absurd (i3N (m := 2) (by decide) e' (by omega)) z)
  · intro U; refine r_restore (d := d + 64) h.2.1 (fun k' a' e' hk' ea' => ?_) (fun z => absurd (i3N (m := 2) (by decide) e (by omega)) z) (fun _ _ _ _ => ⟨rfl, _, h.rth 2⟩)
    obtain rfl := nI_ii (by omega) (by omega) e e'
    cases ea.symm.trans ea'
theorem ag_may (h : IV B T s A) {g n : Int32} : XBt (cX i s) (d + 64) m_X_may [.ref 1, .int g, .int n] T (fun x T' => ∀ U, RB (cR i U) (d + 65) m_R_may [.ref 2, .int g, .int n] s (fun y s' => y = x ∧ s'.1 4 = 0 ∧ ∃ A, IV (B + 1) T' s' A)) (fun e T' => (e = 2 ∧ ∀ U, RB (cR i U) (d + 65) m_R_may [.ref 2, .int g, .int n] s (fun _ s' => s'.1 4 = 1 ∧ ∃ A, IV (B + 1) T' s' A)) ∨ (e = 1 ∧ ∀ U, RB (cR i U) (d + 65) m_R_may [.ref 2, .int g, .int n] s (fun _ s' => s'.1 4 = 2 ∧ ∃ A, IV (B + 1) T' s' A))) := by
  obtain ⟨ca, hF⟩ := h.cs
  have hG := h.G
  refine x_may (d := d + 60) (RL_X i s) hF.2.1 (fun k k2 e hk e2 hk2 ne T' f => ?_) (fun z => Or.inl ⟨rfl, ?_⟩) (fun z1 z2 => Or.inr ⟨rfl, ?_⟩)
  · exact fun U => r_may (d := d + 60) h.kr (fun k' k2' e' hk' e2' hk2' _ s' q => ⟨by rw [nI_ii (by omega) (by omega) e e', nI_ii (by omega) (by omega) e2 e2'], q.1, _, h.q f q⟩) (fun z => absurd ⟨gN hG e hk, gN hG e2 hk2⟩ z) (fun _ y => absurd (nI_ii (by omega) (by omega) (y.symm.trans e) e2) ne)
  · exact fun U => r_may (d := d + 60) h.kr (fun k' k2' e' hk' e2' hk2' => absurd ⟨gN hG e' hk', gN hG e2' hk2'⟩ z) (fun _ s' q => ⟨q.1, _, h.th q⟩) (fun y => absurd y z)
  · exact fun U => r_may (d := d + 60) h.kr (fun k' k2' e' hk' e2' hk2' ne => absurd (nI_ii (by omega) (by omega) (z2.symm.trans e') e2') ne) (fun y => absurd z1 y) (fun _ _ s' q => ⟨q.1, _, h.th q⟩)
theorem ag_carnival (hf : fvok (cX i s)) (h : IV B T s A) {a0 : Int32} : XIt (cX i s) (d + 64) m_X_carnival [.ref 1, .int a0] T (okP i (B + 1) (d + 65) m_R_carnival [.ref 2, .int a0] s) (fun e T' => (e = 1 ∧ noP i (B + 1) (d + 65) m_R_carnival [.ref 2, .int a0] s 1 T')) := by
  have hf' : ∀ T', fvok (cR i T') := fun T' => hf
  have hN := h.1.1.2.1
  have cv : (0 ≤ a0 ∧ a0 ≤ nI A.1.1) ↔ (0 ≤ a0.toInt ∧ a0.toInt ≤ A.1.1) := by
    rw [Int32.le_iff_toInt_le, Int32.le_iff_toInt_le, nI_toInt (by omega)]; rfl
  have mN : ∀ {k : Nat}, a0 = nI k → k ≤ A.1.1 → 0 ≤ a0.toInt ∧ a0.toInt ≤ A.1.1 := fun e hk => by rw [e, nI_toInt (by omega)]; omega
  refine x_carnival (d := d + 54) (RL_X i s) hf h.1 h.2.2.1 (fun z => ⟨rfl, ?_⟩) (fun k e hk => ⟨fun h' t et T' xi w tok => ?_, fun u p et T' xi w => ?_⟩)
  · exact fun U => r_carnival (d := d + 2) (hf' _) h.2.1 (fun _ => ⟨rfl, _, h.nx h.1.thr ((h.2.1.th 0).th 1) gw_thr⟩) (fun k e hk => absurd (cv.mpr (mN e hk)) z)
  · intro U; refine r_carnival (d := d + 2) (hf' _) h.2.1 (fun z => absurd (mN e hk) z) (fun k' e' hk' => ⟨fun h2 t2 et2 s' q4 ri => ?_, fun u2 p2 et2 => ?_⟩)
    · obtain rfl := nI_ii (by omega) (by omega) e e'
      cases et.symm.trans et2
      exact ⟨rfl, q4, _, h.nx xi ri w⟩
    · obtain rfl := nI_ii (by omega) (by omega) e e'
      cases et.symm.trans et2
  · intro U; refine r_carnival (d := d + 2) (hf' _) h.2.1 (fun z => absurd (mN e hk) z) (fun k' e' hk' => ⟨fun h2 t2 et2 => ?_, fun u2 p2 et2 s' q4 ri => ?_⟩)
    · obtain rfl := nI_ii (by omega) (by omega) e e'
      cases et.symm.trans et2
    · obtain rfl := nI_ii (by omega) (by omega) e e'
      cases et.symm.trans et2
      exact ⟨rfl, q4, _, h.nx xi ri w⟩
end BO3
