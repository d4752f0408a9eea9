/-! what both answer, call by call -/
section BO2
variable {i : IN} {B d : Nat} {T T' : XS} {s s' : RS} {A A' : AB} {tt : Int32}
theorem IV.dd {ca n : Nat} {sd' : SD} {p' : List SD} (h : IV B T s A) (hF : FAIR T 49 ca A.2.2.1.1 A.2.2.1.2.1 A.2.2.1.2.2) (dd : DDn n T T' ca A.2.2.1.1 sd' p') (hn : n ≤ 30) (rd : RD s s' tt A.2.2.1.1 sd' p') : IV (B + 1) T' s' (A.1, A.2.1, (A.2.2.1.1, sd', p'), A.2.2.2) := h.nx (h.1.dd hF dd) (h.2.1.rd rd) (dd.2.2.2.up (by omega) (by omega))
theorem IV.ty {q : Nat → Option TY} (h : IV B T s A) (dd : TD T T' q) (rd : RTD s s' tt q) : IV (B + 1) T' s' (A.1, A.2.1, A.2.2.1, A.2.2.2.1, q) := h.nx (h.1.ty dd) (h.2.1.ty rd) (dd.2.1.up (by omega) (by omega))
theorem IV.tr (h : IV B T s A) : TRX T A.2.2.2.2 := h.1.2.2.2.2
theorem IV.rr (h : IV B T s A) : TRR s A.2.2.2.2 := h.2.1.2.2.2.2
theorem IV.tx (h : IV B T s A) (rd : RTD s s' tt A.2.2.2.2) : IV (B + 1) (tN T 0 0 6) s' A := h.nx h.1.thr (h.2.1.ty rd) gw_thr
theorem i3N {g : Int32} {k m : Nat} (hm : m ≤ 100) (e : g = nI k) (hk : k < m + 1) : 0 ≤ g.toInt ∧ g.toInt ≤ (m : Int) := by
  rw [e, nI_toInt (by omega)]; omega
theorem ag_cakes (h : IV B T s A) : XI (cX i s) (d + 64) m_X_cakes [.ref 1] T (fun x T' => RI (cR i T') (d + 64) m_R_cakes [.ref 2] s (fun y s' => y = x ∧ ∃ A, IV (B + 1) T' s' A)) := by
  obtain ⟨ca, hF⟩ := h.cs
  exact x_cakes (d := d + 60) hF.2.1 (fun T' f => r_cakes (d := d + 59) h.kr (fun s' q => ⟨rfl, _, h.q f q⟩))
theorem ag_chains (h : IV B T s A) : XI (cX i s) (d + 64) m_X_chains [.ref 1] T (fun x T' => RI (cR i T') (d + 64) m_R_chains [.ref 2] s (fun y s' => y = x ∧ ∃ A, IV (B + 1) T' s' A)) := by
  obtain ⟨ca, hF⟩ := h.cs
  exact x_chains (d := d + 60) hF.2.1 (fun T' f => r_chains (d := d + 59) h.kr (fun s' q => ⟨rfl, _, h.q f q⟩))
theorem ag_length (h : IV B T s A) : XI (cX i s) (d + 64) m_X_length [.ref 1] T (fun x T' => RI (cR i T') (d + 64) m_R_length [.ref 2] s (fun y s' => y = x ∧ ∃ A, IV (B + 1) T' s' A)) := by
  obtain ⟨ca, hF⟩ := h.cs
  exact x_length (d := d + 60) hF.2.1 (fun T' f => r_length (d := d + 59) h.kr (fun s' q => ⟨rfl, _, h.q f q⟩))
theorem ag_longest (h : IV B T s A) : XI (cX i s) (d + 64) m_X_longest [.ref 1] T (fun x T' => RI (cR i T') (d + 64) m_R_longest [.ref 2] s (fun y s' => y = x ∧ ∃ A, IV (B + 1) T' s' A)) := by
  obtain ⟨ca, hF⟩ := h.cs
  exact x_longest (d := d + 60) hF.2.1 (fun T' f => r_longest (d := d + 59) h.kr (fun s' q => ⟨rfl, _, h.q f q⟩))
theorem ag_bows (h : IV B T s A) : XI (cX i s) (d + 64) m_X_bows [.ref 1] T (fun x T' => RI (cR i T') (d + 64) m_R_bows [.ref 2] s (fun y s' => y = x ∧ ∃ A, IV (B + 1) T' s' A)) := by
  obtain ⟨ca, hF⟩ := h.cs
  exact x_bows (d := d + 60) hF.2.1 (fun T' f => r_bows (d := d + 59) h.kr (fun s' q => ⟨rfl, _, h.q f q⟩))
theorem ag_noise (h : IV B T s A) : XI (cX i s) (d + 64) m_X_noise [.ref 1] T (fun x T' => RI (cR i T') (d + 64) m_R_noise [.ref 2] s (fun y s' => y = x ∧ ∃ A, IV (B + 1) T' s' A)) := by
  obtain ⟨ca, hF⟩ := h.cs
  exact x_noise (d := d + 60) hF.2.1 (fun T' f => r_noise (d := d + 59) h.kr (fun s' q => ⟨rfl, _, h.q f q⟩))
theorem ag_goat (h : IV B T s A) : XI (cX i s) (d + 64) m_X_goat [.ref 1] T (fun x T' => RI (cR i T') (d + 64) m_R_goat [.ref 2] s (fun y s' => y = x ∧ ∃ A, IV (B + 1) T' s' A)) := by
  obtain ⟨ca, hF⟩ := h.cs
  exact x_goat (d := d + 63) hF.2.1 (r_goat (d := d + 62) h.kr (fun s' q => ⟨rfl, _, h.q0 q⟩))
theorem ag_rings (h : IV B T s A) (sh : Bool) : XI (cX i s) (d + 64) m_X_rings [.ref 1, .int (bI sh)] T (fun x T' => RI (cR i T') (d + 64) m_R_rings [.ref 2, .int (bI sh)] s (fun y s' => y = x ∧ ∃ A, IV (B + 1) T' s' A)) := by
  obtain ⟨ca, hF⟩ := h.cs
  exact x_rings (d := d + 60) hF.2.1 sh (fun T' f => r_rings (d := d + 61) h.kr sh (fun s' q => ⟨rfl, _, h.q f q⟩))
theorem ag_fault (h : IV B T s A) {wt : Int32} : XI (cX i s) (d + 64) m_X_fault [.ref 1, .int wt] T (fun x T' => RI (cR i T') (d + 64) m_R_fault [.ref 2, .int wt] s (fun y s' => y = x ∧ ∃ A, IV (B + 1) T' s' A)) :=
  x_fault (r_fault (fun s' q => ⟨by rw [h.1.2.1.1, h.1.2.1.2, h.2.1.2.1.1, h.2.1.2.1.2], _, h.q0 q⟩))
theorem ag_count (h : IV B T s A) {wt : Int32} : XI (cX i s) (d + 64) m_X_count [.ref 1, .int wt] T (fun x T' => RI (cR i T') (d + 64) m_R_count [.ref 2, .int wt] s (fun y s' => y = x ∧ ∃ A, IV (B + 1) T' s' A)) := by
  obtain ⟨ca, hF⟩ := h.cs
  exact x_count (d := d + 63) hF.2.1 (r_count (d := d + 62) h.kr (fun s' q => ⟨by rw [hF.2.2.1.1, h.1.1.1, h.kf.2.1, h.2.1.1.1], _, h.q0 q⟩))
theorem ag_feed (h : IV B T s A) {a0 a1 a2 a3 a4 : Int32} : XI (cX i s) (d + 64) m_X_feed [.ref 1, .int a0, .int a1, .int a2, .int a3, .int a4] T (fun x T' => RI (cR i T') (d + 64) m_R_feed [.ref 2, .int a0, .int a1, .int a2, .int a3, .int a4] s (fun y s' => y = x ∧ ∃ A, IV (B + 1) T' s' A)) :=
  x_feed (d := d + 63) h.1.1 (fun z T' f t => r_feed h.2.1.1 (fun _ s' f' t' => ⟨rfl, _, h.nx (h.1.fd f t) (h.2.1.fd f' t') (f.1.gw _ _)⟩) (fun y => absurd z y)) (fun z => r_feed h.2.1.1 (fun y => absurd y z) (fun _ => ⟨rfl, _, h.nx h.1 (h.2.1.th 0) (gw.rf _ _)⟩))
theorem ag_mock (h : IV B T s A) {x y : Int32} : XI (cX i s) (d + 64) m_X_mock [.ref 1, .int x, .int y] T (fun u T' => RI (cR i T') (d + 64) m_R_mock [.ref 2, .int x, .int y] s (fun w s' => w = u ∧ ∃ A, IV (B + 1) T' s' A)) := by
  obtain ⟨ca, hF⟩ := h.cs
  refine x_mock (d := d + 59) (RL_X i s) hF (fun z T' dd => ?_) (fun z T' f => ?_)
  · exact r_mock (d := d + 58) h.kf (fun _ s' rd => ⟨rfl, _, h.dd (n := 1) hF dd (by decide) rd⟩) (fun y => absurd z y)
  · exact r_mock (d := d + 58) h.kf (fun y => absurd y z) (fun _ s' q => ⟨rfl, _, h.q f q⟩)
theorem ag_tomorrow (h : IV B T s A) {g : Int32} : XIt (cX i s) (d + 64) m_X_tomorrow [.ref 1, .int g] T (okP i (B + 1) (d + 65) m_R_tomorrow [.ref 2, .int g] s) (fun e T' => (e = 2 ∧ noP i (B + 1) (d + 65) m_R_tomorrow [.ref 2, .int g] s 1 T')) := by
  obtain ⟨ca, hF⟩ := h.cs
  have hG := h.G
  refine x_tomorrow (d := d + 60) (RL_X i s) hF.2.1 (fun k e hk T' f => ?_) (fun z => ⟨rfl, ?_⟩)
  · exact fun U => r_tomorrow (d := d + 60) h.kr (fun k' e' hk' s' q => ⟨by rw [nI_ii (by omega) (by omega) e e'], q.1, _, h.q f q⟩) (fun z => absurd (gN hG e hk) z)
  · exact fun U => r_tomorrow (d := d + 60) h.kr (fun k' e' hk' => absurd (gN hG e' hk') z) (fun _ s' q => ⟨q.1, _, h.th q⟩)
theorem ag_cakesOf (h : IV B T s A) {g : Int32} : XIt (cX i s) (d + 64) m_X_cakesOf [.ref 1, .int g] T (okP i (B + 1) (d + 65) m_R_cakesOf [.ref 2, .int g] s) (fun e T' => (e = 2 ∧ noP i (B + 1) (d + 65) m_R_cakesOf [.ref 2, .int g] s 1 T')) := by
  obtain ⟨ca, hF⟩ := h.cs
  have hG := h.G
  refine x_cakesOf (d := d + 60) (RL_X i s) hF.2.1 (fun k e hk T' f => ?_) (fun z => ⟨rfl, ?_⟩)
  · exact fun U => r_cakesOf (d := d + 60) h.kr (fun k' e' hk' s' q => ⟨by rw [nI_ii (by omega) (by omega) e e'], q.1, _, h.q f q⟩) (fun z => absurd (gN hG e hk) z)
  · exact fun U => r_cakesOf (d := d + 60) h.kr (fun k' e' hk' => absurd (gN hG e' hk') z) (fun _ s' q => ⟨q.1, _, h.th q⟩)
theorem ag_chainOf (h : IV B T s A) {g : Int32} : XIt (cX i s) (d + 64) m_X_chainOf [.ref 1, .int g] T (okP i (B + 1) (d + 65) m_R_chainOf [.ref 2, .int g] s) (fun e T' => (e = 2 ∧ noP i (B + 1) (d + 65) m_R_chainOf [.ref 2, .int g] s 1 T')) := by
  obtain ⟨ca, hF⟩ := h.cs
  have hG := h.G
  refine x_chainOf (d := d + 60) (RL_X i s) hF.2.1 (fun k e hk T' f => ?_) (fun z => ⟨rfl, ?_⟩)
  · exact fun U => r_chainOf (d := d + 60) h.kr (fun k' e' hk' s' q => ⟨by rw [nI_ii (by omega) (by omega) e e'], q.1, _, h.q f q⟩) (fun z => absurd (gN hG e hk) z)
  · exact fun U => r_chainOf (d := d + 60) h.kr (fun k' e' hk' => absurd (gN hG e' hk') z) (fun _ s' q => ⟨q.1, _, h.th q⟩)
theorem ag_freeFor (h : IV B T s A) {g : Int32} : XIt (cX i s) (d + 64) m_X_freeFor [.ref 1, .int g] T (okP i (B + 1) (d + 65) m_R_freeFor [.ref 2, .int g] s) (fun e T' => (e = 2 ∧ noP i (B + 1) (d + 65) m_R_freeFor [.ref 2, .int g] s 1 T')) := by
  obtain ⟨ca, hF⟩ := h.cs
  have hG := h.G
  refine x_freeFor (d := d + 60) (RL_X i s) hF.2.1 (fun k e hk T' f => ?_) (fun z => ⟨rfl, ?_⟩)
  · exact fun U => r_freeFor (d := d + 59) h.kr (fun k' e' hk' s' q => ⟨by rw [nI_ii (by omega) (by omega) e e'], q.1, _, h.q f q⟩) (fun z => absurd (gN hG e hk) z)
  · exact fun U => r_freeFor (d := d + 59) h.kr (fun k' e' hk' => absurd (gN hG e' hk') z) (fun _ s' q => ⟨q.1, _, h.th q⟩)
theorem ag_arrives (h : IV B T s A) {g : Int32} : XIt (cX i s) (d + 64) m_X_arrives [.ref 1, .int g] T (okP i (B + 1) (d + 65) m_R_arrives [.ref 2, .int g] s) (fun e T' => (e = 2 ∧ noP i (B + 1) (d + 65) m_R_arrives [.ref 2, .int g] s 1 T')) := by
  obtain ⟨ca, hF⟩ := h.cs
  have hG := h.G
  refine x_arrives (d := d + 60) (RL_X i s) hF.2.1 (fun k e hk T' f => ?_) (fun z => ⟨rfl, ?_⟩)
  · exact fun U => r_arrives (d := d + 60) h.kr (fun k' e' hk' s' q => ⟨by rw [nI_ii (by omega) (by omega) e e'], q.1, _, h.q f q⟩) (fun z => absurd (gN hG e hk) z)
  · exact fun U => r_arrives (d := d + 60) h.kr (fun k' e' hk' => absurd (gN hG e' hk') z) (fun _ s' q => ⟨q.1, _, h.th q⟩)
theorem ag_below (h : IV B T s A) {g : Int32} : XIt (cX i s) (d + 64) m_X_below [.ref 1, .int g] T (okP i (B + 1) (d + 65) m_R_below [.ref 2, .int g] s) (fun e T' => (e = 2 ∧ noP i (B + 1) (d + 65) m_R_below [.ref 2, .int g] s 1 T')) := by
  obtain ⟨ca, hF⟩ := h.cs
  have hG := h.G
  refine x_below (d := d + 60) (RL_X i s) hF.2.1 (fun k e hk  => ?_) (fun z => ⟨rfl, ?_⟩)
  · exact fun U => r_below (d := d + 60) h.kr (fun k' e' hk' s' q => ⟨by rw [nI_ii (by omega) (by omega) e e'], q.1, _, h.q0 q⟩) (fun z => absurd (gN hG e hk) z)
  · exact fun U => r_below (d := d + 60) h.kr (fun k' e' hk' => absurd (gN hG e' hk') z) (fun _ s' q => ⟨q.1, _, h.th q⟩)
theorem ag_persuaded (h : IV B T s A) {wt : Int32} : XIt (cX i s) (d + 64) m_X_persuaded [.ref 1, .int wt] T (okP i (B + 1) (d + 65) m_R_persuaded [.ref 2, .int wt] s) (fun e T' => (e = 1 ∧ noP i (B + 1) (d + 65) m_R_persuaded [.ref 2, .int wt] s 1 T')) := by
  obtain ⟨ca, hF⟩ := h.cs
  have hG := h.G
  refine x_persuaded (d := d + 60) (RL_X i s) hF.2.1 (fun z T' f => ?_) (fun z => ⟨rfl, ?_⟩)
  · exact fun U => r_persuaded (d := d + 60) h.kr (fun _ s' q => ⟨rfl, q.1, _, h.q f q⟩) (fun y => absurd z y)
  · exact fun U => r_persuaded (d := d + 60) h.kr (fun y => absurd y z) (fun _ s' q => ⟨q.1, _, h.th q⟩)
theorem ag_peace (h : IV B T s A) {wt : Int32} : XIt (cX i s) (d + 64) m_X_peace [.ref 1, .int wt] T (okP i (B + 1) (d + 65) m_R_peace [.ref 2, .int wt] s) (fun e T' => (e = 1 ∧ noP i (B + 1) (d + 65) m_R_peace [.ref 2, .int wt] s 1 T')) := by
  obtain ⟨ca, hF⟩ := h.cs
  have hG := h.G
  refine x_peace (d := d + 60) (RL_X i s) hF.2.1 (fun z T' f => ?_) (fun z => ⟨rfl, ?_⟩)
  · exact fun U => r_peace (d := d + 60) h.kr (fun _ s' q => ⟨rfl, q.1, _, h.q f q⟩) (fun y => absurd z y)
  · exact fun U => r_peace (d := d + 60) h.kr (fun y => absurd y z) (fun _ s' q => ⟨q.1, _, h.th q⟩)
theorem ag_comesBack (h : IV B T s A) {wt : Int32} : XIt (cX i s) (d + 64) m_X_comesBack [.ref 1, .int wt] T (okP i (B + 1) (d + 65) m_R_comesBack [.ref 2, .int wt] s) (fun e T' => (e = 1 ∧ noP i (B + 1) (d + 65) m_R_comesBack [.ref 2, .int wt] s 1 T')) := by
  obtain ⟨ca, hF⟩ := h.cs
  have hG := h.G
  refine x_comesBack (d := d + 59) (RL_X i s) hF.2.1 (fun z T' f => ?_) (fun z => ⟨rfl, ?_⟩)
  · exact fun U => r_comesBack (d := d + 59) h.kr (fun _ s' q => ⟨rfl, q.1, _, h.q f q⟩) (fun y => absurd z y)
  · exact fun U => r_comesBack (d := d + 59) h.kr (fun y => absurd y z) (fun _ s' q => ⟨q.1, _, h.th q⟩)
theorem ag_walks (h : IV B T s A) {k : Int32} : XIt (cX i s) (d + 64) m_X_walks [.ref 1, .int k] T (okP i (B + 1) (d + 65) m_R_walks [.ref 2, .int k] s) (fun e T' => (e = 1 ∧ noP i (B + 1) (d + 65) m_R_walks [.ref 2, .int k] s 1 T')) := by
  obtain ⟨ca, hF⟩ := h.cs
  have hG := h.G
  refine x_walks (d := d + 60) (RL_X i s) hF.2.1 (fun z T' f => ?_) (fun z => ⟨rfl, ?_⟩)
  · exact fun U => r_walks (d := d + 60) h.kr (fun _ s' q => ⟨rfl, q.1, _, h.q f q⟩) (fun y => absurd y (by omega))
  · exact fun U => r_walks (d := d + 60) h.kr (fun y => absurd y (by omega)) (fun _ s' q => ⟨q.1, _, h.th q⟩)
theorem ag_at (h : IV B T s A) {g m : Int32} : XIt (cX i s) (d + 64) m_X_at [.ref 1, .int g, .int m] T (okP i (B + 1) (d + 65) m_R_at [.ref 2, .int g, .int m] s) (fun e T' => (e = 2 ∧ noP i (B + 1) (d + 65) m_R_at [.ref 2, .int g, .int m] s 1 T') ∨ (e = 1 ∧ noP i (B + 1) (d + 65) m_R_at [.ref 2, .int g, .int m] s 2 T')) := by
  obtain ⟨ca, hF⟩ := h.cs
  have hG := h.G
  refine x_at (d := d + 60) (RL_X i s) hF.2.1 (fun k e hk z T' f => ?_) (fun z => Or.inl ⟨rfl, ?_⟩) (fun z1 z2 => Or.inr ⟨rfl, ?_⟩)
  · exact fun U => r_at (d := d + 60) h.kr (fun k' e' hk' _ s' q => ⟨by rw [nI_ii (by omega) (by omega) e e'], q.1, _, h.q f q⟩) (fun z => absurd (gN hG e hk) z) (fun _ y => absurd y (by omega))
  · exact fun U => r_at (d := d + 60) h.kr (fun k' e' hk' => absurd (gN hG e' hk') z) (fun _ s' q => ⟨q.1, _, h.th q⟩) (fun y => absurd y z)
  · exact fun U => r_at (d := d + 60) h.kr (fun k' e' hk' y => absurd z2 (by omega)) (fun y => absurd z1 y) (fun _ _ s' q => ⟨q.1, _, h.th q⟩)
theorem ag_mocksIn (h : IV B T s A) {g n : Int32} : XIt (cX i s) (d + 64) m_X_mocksIn [.ref 1, .int g, .int n] T (okP i (B + 1) (d + 65) m_R_mocksIn [.ref 2, .int g, .int n] s) (fun e T' => (e = 2 ∧ noP i (B + 1) (d + 65) m_R_mocksIn [.ref 2, .int g, .int n] s 1 T') ∨ (e = 1 ∧ noP i (B + 1) (d + 65) m_R_mocksIn [.ref 2, .int g, .int n] s 2 T')) := by
  obtain ⟨ca, hF⟩ := h.cs
  have hG := h.G
  refine x_mocksIn (d := d + 59) (RL_X i s) hF.2.1 (fun k e hk z1 z2 T' f => ?_) (fun z => Or.inl ⟨rfl, ?_⟩) (fun z1 z2 => Or.inr ⟨rfl, ?_⟩)
  · exact fun U => r_mocksIn (d := d + 58) h.kr (fun k' e' hk' _ _ s' q => ⟨by rw [nI_ii (by omega) (by omega) e e'], q.1, _, h.q f q⟩) (fun z => absurd (gN hG e hk) z) (fun _ y => absurd ⟨z1, z2⟩ y)
  · exact fun U => r_mocksIn (d := d + 58) h.kr (fun k' e' hk' => absurd (gN hG e' hk') z) (fun _ s' q => ⟨q.1, _, h.th q⟩) (fun y => absurd y z)
  · exact fun U => r_mocksIn (d := d + 58) h.kr (fun k' e' hk' y1 y2 => absurd ⟨y1, y2⟩ z2) (fun y => absurd z1 y) (fun _ _ s' q => ⟨q.1, _, h.th q⟩)
theorem ag_ever (h : IV B T s A) {g n : Int32} : XIt (cX i s) (d + 64) m_X_ever [.ref 1, .int g, .int n] T (okP i (B + 1) (d + 65) m_R_ever [.ref 2, .int g, .int n] s) (fun e T' => (e = 2 ∧ noP i (B + 1) (d + 65) m_R_ever [.ref 2, .int g, .int n] s 1 T') ∨ (e = 1 ∧ noP i (B + 1) (d + 65) m_R_ever [.ref 2, .int g, .int n] s 2 T')) := by
  obtain ⟨ca, hF⟩ := h.cs
  have hG := h.G
  refine x_ever (d := d + 59) (RL_X i s) hF.2.1 (fun k e hk z1 z2 T' f => ?_) (fun z => Or.inl ⟨rfl, ?_⟩) (fun z1 z2 => Or.inr ⟨rfl, ?_⟩)
  · exact fun U => r_ever (d := d + 58) h.kr (fun k' e' hk' _ _ s' q => ⟨by rw [nI_ii (by omega) (by omega) e e'], q.1, _, h.q f q⟩) (fun z => absurd (gN hG e hk) z) (fun _ y => absurd ⟨z1, z2⟩ y)
  · exact fun U => r_ever (d := d + 58) h.kr (fun k' e' hk' => absurd (gN hG e' hk') z) (fun _ s' q => ⟨q.1, _, h.th q⟩) (fun y => absurd y z)
  · exact fun U => r_ever (d := d + 58) h.kr (fun k' e' hk' y1 y2 => absurd ⟨y1, y2⟩ z2) (fun y => absurd z1 y) (fun _ _ s' q => ⟨q.1, _, h.th q⟩)
theorem ag_guild (h : IV B T s A) {g n : Int32} : XIt (cX i s) (d + 64) m_X_guild [.ref 1, .int g, .int n] T (okP i (B + 1) (d + 65) m_R_guild [.ref 2, .int g, .int n] s) (fun e T' => (e = 2 ∧ noP i (B + 1) (d + 65) m_R_guild [.ref 2, .int g, .int n] s 1 T') ∨ (e = 1 ∧ noP i (B + 1) (d + 65) m_R_guild [.ref 2, .int g, .int n] s 2 T')) := by
  obtain ⟨ca, hF⟩ := h.cs
  have hG := h.G
  refine x_guild (d := d + 63) (RL_X i s) hF.2.1 (fun k e hk z1 z2  => ?_) (fun z => Or.inl ⟨rfl, ?_⟩) (fun z1 z2 => Or.inr ⟨rfl, ?_⟩)
  · exact fun U => r_guild (d := d + 63) h.kr (fun k' e' hk' _ _ s' q => ⟨by rw [nI_ii (by omega) (by omega) e e'], q.1, _, h.q0 q⟩) (fun z => absurd (gN hG e hk) z) (fun _ y => absurd ⟨z1, z2⟩ y)
  · exact fun U => r_guild (d := d + 63) h.kr (fun k' e' hk' => absurd (gN hG e' hk') z) (fun _ s' q => ⟨q.1, _, h.th q⟩) (fun y => absurd y z)
  · exact fun U => r_guild (d := d + 63) h.kr (fun k' e' hk' y1 y2 => absurd ⟨y1, y2⟩ z2) (fun y => absurd z1 y) (fun _ _ s' q => ⟨q.1, _, h.th q⟩)
theorem ag_step (h : IV B T s A) {g n : Int32} : XIt (cX i s) (d + 64) m_X_step [.ref 1, .int g, .int n] T (okP i (B + 1) (d + 65) m_R_step [.ref 2, .int g, .int n] s) (fun e T' => (e = 2 ∧ noP i (B + 1) (d + 65) m_R_step [.ref 2, .int g, .int n] s 1 T') ∨ (e = 1 ∧ noP i (B + 1) (d + 65) m_R_step [.ref 2, .int g, .int n] s 2 T')) := by
  obtain ⟨ca, hF⟩ := h.cs
  have hG := h.G
  have sN := stN_b h.kr.2.2.1
  have gS : ∀ {g : Int32} {k : Nat}, g = nI k → k < stN A.2.2.1.1 → 0 ≤ g.toInt ∧ g.toInt < stN A.2.2.1.1 := fun e hk => by rw [e, nI_toInt (by omega)]; omega
  refine x_step (d := d + 60) (RL_X i s) hF.2.1 (fun k e hk z => ?_) (fun z => Or.inl ⟨rfl, ?_⟩) (fun z1 z2 => Or.inr ⟨rfl, ?_⟩)
  · exact fun U => r_step (d := d + 60) h.kr (fun k' e' hk' _ s' q => ⟨by rw [nI_ii (by omega) (by omega) e e'], q.1, _, h.q0 q⟩) (fun y => absurd (gS e hk) y) (fun _ y => absurd z y)
  · exact fun U => r_step (d := d + 60) h.kr (fun k' e' hk' => absurd (gS e' hk') z) (fun _ s' q => ⟨q.1, _, h.th q⟩) (fun y => absurd y z)
  · exact fun U => r_step (d := d + 60) h.kr (fun k' e' hk' y => absurd y z2) (fun y => absurd z1 y) (fun _ _ s' q => ⟨q.1, _, h.th q⟩)
theorem ag_meets (h : IV B T s A) {g n : Int32} : XIt (cX i s) (d + 64) m_X_meets [.ref 1, .int g, .int n] T (okP i (B + 1) (d + 65) m_R_meets [.ref 2, .int g, .int n] s) (fun e T' => (e = 2 ∧ noP i (B + 1) (d + 65) m_R_meets [.ref 2, .int g, .int n] s 1 T') ∨ (e = 1 ∧ noP i (B + 1) (d + 65) m_R_meets [.ref 2, .int g, .int n] s 2 T')) := by
  obtain ⟨ca, hF⟩ := h.cs
  have hG := h.G
  refine x_meets (d := d + 60) (RL_X i s) hF.2.1 (fun k k2 e hk e2 hk2 ne T' f => ?_) (fun z => Or.inl ⟨rfl, ?_⟩) (fun z1 z2 => Or.inr ⟨rfl, ?_⟩)
  · exact fun U => r_meets (d := d + 60) h.kr (fun k' k2' e' hk' e2' hk2' _ s' q => ⟨by rw [nI_ii (by omega) (by omega) e e', nI_ii (by omega) (by omega) e2 e2'], q.1, _, h.q f q⟩) (fun z => absurd ⟨gN hG e hk, gN hG e2 hk2⟩ z) (fun _ y => absurd (nI_ii (by omega) (by omega) (y.symm.trans e) e2) ne)
  · exact fun U => r_meets (d := d + 60) h.kr (fun k' k2' e' hk' e2' hk2' => absurd ⟨gN hG e' hk', gN hG e2' hk2'⟩ z) (fun _ s' q => ⟨q.1, _, h.th q⟩) (fun y => absurd y z)
  · exact fun U => r_meets (d := d + 60) h.kr (fun k' k2' e' hk' e2' hk2' ne => absurd (nI_ii (by omega) (by omega) (z2.symm.trans e') e2') ne) (fun y => absurd z1 y) (fun _ _ s' q => ⟨q.1, _, h.th q⟩)
theorem ag_melted (h : IV B T s A) {g n : Int32} : XIt (cX i s) (d + 64) m_X_melted [.ref 1, .int g, .int n] T (okP i (B + 1) (d + 65) m_R_melted [.ref 2, .int g, .int n] s) (fun e T' => (e = 1 ∧ noP i (B + 1) (d + 65) m_R_melted [.ref 2, .int g, .int n] s 1 T')) := by
  obtain ⟨ca, hF⟩ := h.cs
  have hG := h.G
  refine x_melted (d := d + 60) (RL_X i s) hF.2.1 (fun z1 z2 T' f => ?_) (fun z => ⟨rfl, ?_⟩)
  · exact fun U => r_melted (d := d + 60) h.kr (fun _ _ s' q => ⟨rfl, q.1, _, h.q f q⟩) (fun y => absurd ⟨z1, z2⟩ y)
  · exact fun U => r_melted (d := d + 60) h.kr (fun y1 y2 => absurd ⟨y1, y2⟩ z) (fun _ s' q => ⟨q.1, _, h.th q⟩)
theorem ag_quietest (h : IV B T s A) {g n : Int32} : XIt (cX i s) (d + 64) m_X_quietest [.ref 1, .int g, .int n] T (okP i (B + 1) (d + 65) m_R_quietest [.ref 2, .int g, .int n] s) (fun e T' => (e = 1 ∧ noP i (B + 1) (d + 65) m_R_quietest [.ref 2, .int g, .int n] s 1 T')) := by
  obtain ⟨ca, hF⟩ := h.cs
  have hG := h.G
  refine x_quietest (d := d + 58) (RL_X i s) hF.2.1 (fun z T' f => ?_) (fun z => ⟨rfl, ?_⟩)
  · exact fun U => r_quietest (d := d + 54) h.kr (fun _ s' q => ⟨rfl, q.1, _, h.q f q⟩) (fun y => absurd z y)
  · exact fun U => r_quietest (d := d + 54) h.kr (fun y => absurd y z) (fun _ s' q => ⟨q.1, _, h.th q⟩)
theorem ag_spare (h : IV B T s A) {g : Int32} : XIt (cX i s) (d + 64) m_X_spare [.ref 1, .int g] T (okP i (B + 1) (d + 65) m_R_spare [.ref 2, .int g] s) (fun e T' => (e = 2 ∧ noP i (B + 1) (d + 65) m_R_spare [.ref 2, .int g] s 1 T')) := by
  obtain ⟨ca, hF⟩ := h.cs
  have hG := h.G
  refine x_spare (d := d + 60) (RL_X i s) hF (fun k e hk T' dd => ?_) (fun z => ⟨rfl, ?_⟩)
  · intro U; refine r_spare (d := d + 63) h.kf (fun k' e' hk' s' rd => ?_) (fun z => absurd (gN hG e hk) z)
    obtain rfl := nI_ii (by omega) (by omega) e e'
    exact ⟨rfl, rd.1, _, h.dd (n := 1) hF dd (by decide) rd⟩
  · exact fun U => r_spare (d := d + 63) h.kf (fun k' e' hk' => absurd (gN hG e' hk') z) (fun _ s' q => ⟨q.1, _, h.th q⟩)
theorem ag_rank (h : IV B T s A) {g n : Int32} : XIt (cX i s) (d + 64) m_X_rank [.ref 1, .int g, .int n] T (okP i (B + 1) (d + 65) m_R_rank [.ref 2, .int g, .int n] s) (fun e T' => (e = 2 ∧ noP i (B + 1) (d + 65) m_R_rank [.ref 2, .int g, .int n] s 1 T') ∨ (e = 1 ∧ noP i (B + 1) (d + 65) m_R_rank [.ref 2, .int g, .int n] s 2 T')) := by
  obtain ⟨ca, hF⟩ := h.cs
  have hG := h.G
  refine x_rank (d := d + 60) (RL_X i s) hF (fun k m e hk e2 hm T' dd => ?_) (fun z => Or.inl ⟨rfl, ?_⟩) (fun z1 z2 => Or.inr ⟨rfl, ?_⟩)
  · intro U; refine r_rank (d := d + 63) h.kf (fun k' m' e' hk' e2' hm' s' rd => ?_) (fun z => absurd (gN hG e hk) z) (fun _ y => absurd (i3N (m := 99) (by decide) e2 (by omega)) y)
    obtain rfl := nI_ii (by omega) (by omega) e e'
    obtain rfl := nI_ii (by omega) (by omega) e2 e2'
    exact ⟨rfl, rd.1, _, h.dd (n := 1) hF dd (by decide) rd⟩
  · exact fun U => r_rank (d := d + 63) h.kf (fun k' m' e' hk' => absurd (gN hG e' hk') z) (fun _ s' q => ⟨q.1, _, h.th q⟩) (fun y => absurd y z)
  · exact fun U => r_rank (d := d + 63) h.kf (fun k' m' e' hk' e2' hm' => absurd (i3N (m := 99) (by decide) e2' (by omega)) z2) (fun y => absurd z1 y) (fun _ _ s' q => ⟨q.1, _, h.th q⟩)
theorem ag_nights (h : IV B T s A) {n : Int32} : XIt (cX i s) (d + 64) m_X_nights [.ref 1, .int n] T (okP i (B + 1) (d + 65) m_R_nights [.ref 2, .int n] s) (fun e T' => (e = 1 ∧ noP i (B + 1) (d + 65) m_R_nights [.ref 2, .int n] s 1 T')) := by
  obtain ⟨ca, hF⟩ := h.cs
  have hG := h.G
  refine x_nights (d := d + 59) (RL_X i s) hF (fun z1 z2 T' dd => ?_) (fun z => ⟨rfl, ?_⟩)
  · exact fun U => r_nights (d := d + 59) h.kf (fun _ _ s' rd => ⟨rfl, rd.1, _, h.dd (n := 1) hF dd (by decide) rd⟩) (fun y => absurd ⟨z1, z2⟩ y)
  · exact fun U => r_nights (d := d + 59) h.kf (fun y1 y2 => absurd ⟨y1, y2⟩ z) (fun _ s' q => ⟨q.1, _, h.th q⟩)
theorem ag_undo (h : IV B T s A) {n : Int32} : XIt (cX i s) (d + 64) m_X_undo [.ref 1, .int n] T (okP i (B + 1) (d + 65) m_R_undo [.ref 2, .int n] s) (fun e T' => (e = 1 ∧ noP i (B + 1) (d + 65) m_R_undo [.ref 2, .int n] s 1 T')) := by
  obtain ⟨ca, hF⟩ := h.cs
  have hG := h.G
  refine x_undo (d := d + 62) (RL_X i s) hF (fun z1 z2 u eu T' dd => ?_) (fun z => ⟨rfl, ?_⟩)
  · intro U; refine r_undo (d := d + 64) h.kf (fun _ _ u' eu' s' rd => ?_) (fun y => absurd ⟨z1, z2⟩ y)
    cases eu.symm.trans eu'
    exact ⟨rfl, rd.1, _, h.dd (n := 1) hF dd (by decide) rd⟩
  · exact fun U => r_undo (d := d + 64) h.kf (fun y1 y2 => absurd ⟨y1, y2⟩ z) (fun _ s' q => ⟨q.1, _, h.th q⟩)
theorem ag_week (h : IV B T s A) {x n : Int32} : XIt (cX i s) (d + 64) m_X_week [.ref 1, .int x, .int n] T (okP i (B + 1) (d + 65) m_R_week [.ref 2, .int x, .int n] s) (fun e T' => (e = 1 ∧ noP i (B + 1) (d + 65) m_R_week [.ref 2, .int x, .int n] s 1 T') ∨ (e = 3 ∧ noP i (B + 1) (d + 65) m_R_week [.ref 2, .int x, .int n] s 2 T')) := by
  obtain ⟨ca, hF⟩ := h.cs
  have hG := h.G
  refine x_week (d := d + 57) (RL_X i s) hF (fun z1 z2 z3 T' dd => ?_) (fun z => Or.inl ⟨rfl, ?_⟩) (fun z1 z2 => Or.inr ⟨rfl, ?_⟩)
  · exact fun U => r_week (d := d + 57) h.kf (fun _ _ _ s' rd => ⟨rfl, rd.1, _, h.dd (n := 30) hF dd (by decide) rd⟩) (fun y => absurd ⟨z1, z2⟩ y) (fun _ y => absurd z3 y)
  · exact fun U => r_week (d := d + 57) h.kf (fun y1 y2 => absurd ⟨y1, y2⟩ z) (fun _ s' q => ⟨q.1, _, h.th q⟩) (fun y => absurd y z)
  · exact fun U => r_week (d := d + 57) h.kf (fun _ _ y => absurd y z2) (fun y => absurd z1 y) (fun _ _ s' q => ⟨q.1, _, h.th q⟩)
theorem ag_perform (h : IV B T s A) {g : Int32} : XIt (cX i s) (d + 64) m_X_perform [.ref 1, .int g] T (okP i (B + 1) (d + 65) m_R_perform [.ref 2, .int g] s) (fun e T' => (e = 2 ∧ noP i (B + 1) (d + 65) m_R_perform [.ref 2, .int g] s 1 T') ∨ (e = 3 ∧ noP i (B + 1) (d + 65) m_R_perform [.ref 2, .int g] s 2 T')) := by
  obtain ⟨ca, hF⟩ := h.cs
  have hG := h.G
  refine x_perform (d := d + 57) (RL_X i s) h.tr hF (fun k t e hk et T' dd => ?_) (fun z => Or.inl ⟨rfl, ?_⟩) (fun k e hk et => Or.inr ⟨rfl, ?_⟩)
  · intro U; refine r_perform (d := d + 57) h.rr h.kf (fun k' t' e' hk' et' s' rd => ?_) (fun z => absurd (i3N (m := 3) (by decide) e (by omega)) z) (fun k' e' hk' et' => ?_)
    · obtain rfl := nI_ii (by omega) (by omega) e e'
      cases et.symm.trans et'
      exact ⟨rfl, rd.1, _, h.dd (n := 30) hF dd (by decide) rd⟩
    · obtain rfl := nI_ii (by omega) (by omega) e e'
      cases et.symm.trans et'
  · exact fun U => r_perform (d := d + 57) h.rr h.kf (fun k' t' e' hk' => absurd (i3N (m := 3) (by decide) e' (by omega)) z) (fun _ s' q => ⟨q.1, _, h.th q⟩) (fun k' e' hk' => absurd (i3N (m := 3) (by decide) e' (by omega)) z)
  · intro U; refine r_perform (d := d + 57) h.rr h.kf (fun k' t' e' hk' et' => ?_) (fun z => absurd (i3N (m := 3) (by decide) e (by omega)) z) (fun _ _ _ _ s' q => ⟨q.1, _, h.th q⟩)
    obtain rfl := nI_ii (by omega) (by omega) e e'
    cases et.symm.trans et'
end BO2
