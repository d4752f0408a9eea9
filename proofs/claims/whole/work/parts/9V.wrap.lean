/-! the law's wrappers -/
section LW1
variable {c : CX} {d : Nat} {T : XS} {Q : Int32 → XS → Prop}
set_option maxRecDepth 8000 in
theorem wl_carnival (a0 : Int32) (a3 : ar T 3 22 1) (H : XIt c d m_X_carnival [.ref 1, .int a0] T (fun x T' => Q 0 (tL T' 3 0 x.toInt64)) (fun e T' => (e = 1 ∧ Q 1 T'))) : XI c (d + 1) m_L_carnival [.ref 1, .int a0, .ref 3] T Q := by
  refine ⟨q_L_carnival, rfl, Nat.le_of_ble_eq_true rfl, ?_⟩
  refine ev_ex 4 (c' := (4, [some (.ref 1), some (.int a0), some (.ref 3), none], [.int a0, .ref 1, .int 0, .ref 3], hX c T)) rfl ?_
  refine ev_callC (M := q_L_carnival) (M' := q_X_carnival) rfl rfl rfl (Nat.le_of_ble_eq_true rfl) (Nat.le_of_ble_eq_true rfl) (x_rcv (T := T) (ob_lit (i := 0) rfl (by decide) rfl) ⟨by decide, by decide⟩ _ _) rfl rfl (fun e => by cases e) rfl (fun e => by cases e) (cal_mono (XIt_sg H) ?_)
  rintro r σ' (⟨x, T', rfl, rfl, hq, hs⟩ | ⟨e, T', rfl, rfl, he⟩)
  · refine Or.inl ⟨_, rfl, ?_⟩
    have a3' := (hs 3).2 22 1 (by decide) a3
    refine ev_ex 1 (c' := (8, [some (.ref 1), some (.int a0), some (.ref 3), none], [.long x.toInt64, .int 0, .ref 3], hX c T')) rfl ?_
    refine xe_ls rfl a3' (okn (k := 0) (by decide) (by decide)) ?_
    refine ev_ex 2 (c' := (16, [some (.ref 1), some (.int a0), some (.ref 3), none], [.int 0], hX c (tL T' 3 0 x.toInt64))) rfl ?_
    exact ev_ret rfl rfl rfl ⟨_, _, rfl, rfl, hq⟩
  · rcases he with ⟨rfl, hq⟩
    · refine Or.inr ⟨1, 12, 13, [some (.ref 1), some (.int a0), some (.ref 3), none], rfl, rfl, rfl, ?_⟩
      refine ev_ex 1 (c' := (14, [some (.ref 1), some (.int a0), some (.ref 3), none], [.int 1], hX c T')) rfl ?_
      exact ev_ret rfl rfl rfl ⟨_, _, rfl, rfl, hq⟩
set_option maxRecDepth 8000 in
theorem wl_guild (a0 : Int32) (a1 : Int32) (a3 : ar T 3 22 1) (H : XIt c d m_X_guild [.ref 1, .int a0, .int a1] T (fun x T' => Q 0 (tL T' 3 0 x.toInt64)) (fun e T' => (e = 2 ∧ Q 1 T') ∨ (e = 1 ∧ Q 2 T'))) : XI c (d + 1) m_L_guild [.ref 1, .int a0, .int a1, .ref 3] T Q := by
  refine ⟨q_L_guild, rfl, Nat.le_of_ble_eq_true rfl, ?_⟩
  refine ev_ex 5 (c' := (5, [some (.ref 1), some (.int a0), some (.int a1), some (.ref 3), none], [.int a1, .int a0, .ref 1, .int 0, .ref 3], hX c T)) rfl ?_
  refine ev_callC (M := q_L_guild) (M' := q_X_guild) rfl rfl rfl (Nat.le_of_ble_eq_true rfl) (Nat.le_of_ble_eq_true rfl) (x_rcv (T := T) (ob_lit (i := 0) rfl (by decide) rfl) ⟨by decide, by decide⟩ _ _) rfl rfl (fun e => by cases e) rfl (fun e => by cases e) (cal_mono (XIt_sg H) ?_)
  rintro r σ' (⟨x, T', rfl, rfl, hq, hs⟩ | ⟨e, T', rfl, rfl, he⟩)
  · refine Or.inl ⟨_, rfl, ?_⟩
    have a3' := (hs 3).2 22 1 (by decide) a3
    refine ev_ex 1 (c' := (9, [some (.ref 1), some (.int a0), some (.int a1), some (.ref 3), none], [.long x.toInt64, .int 0, .ref 3], hX c T')) rfl ?_
    refine xe_ls rfl a3' (okn (k := 0) (by decide) (by decide)) ?_
    refine ev_ex 2 (c' := (22, [some (.ref 1), some (.int a0), some (.int a1), some (.ref 3), none], [.int 0], hX c (tL T' 3 0 x.toInt64))) rfl ?_
    exact ev_ret rfl rfl rfl ⟨_, _, rfl, rfl, hq⟩
  · rcases he with ⟨rfl, hq⟩ | ⟨rfl, hq⟩
    · refine Or.inr ⟨2, 13, 15, [some (.ref 1), some (.int a0), some (.int a1), some (.ref 3), none], rfl, rfl, rfl, ?_⟩
      refine ev_ex 1 (c' := (16, [some (.ref 1), some (.int a0), some (.int a1), some (.ref 3), none], [.int 1], hX c T')) rfl ?_
      exact ev_ret rfl rfl rfl ⟨_, _, rfl, rfl, hq⟩
    · refine Or.inr ⟨1, 17, 19, [some (.ref 1), some (.int a0), some (.int a1), some (.ref 3), none], rfl, rfl, rfl, ?_⟩
      refine ev_ex 1 (c' := (20, [some (.ref 1), some (.int a0), some (.int a1), some (.ref 3), none], [.int 2], hX c T')) rfl ?_
      exact ev_ret rfl rfl rfl ⟨_, _, rfl, rfl, hq⟩
set_option maxRecDepth 8000 in
theorem wl_may (a0 : Int32) (a1 : Int32) (a3 : ar T 3 22 1) (H : XBt c d m_X_may [.ref 1, .int a0, .int a1] T (fun x T' => Q 0 (tL T' 3 0 (if x = true then 1 else 0))) (fun e T' => (e = 2 ∧ Q 1 T') ∨ (e = 1 ∧ Q 2 T'))) : XI c (d + 1) m_L_may [.ref 1, .int a0, .int a1, .ref 3] T Q := by
  refine ⟨q_L_may, rfl, Nat.le_of_ble_eq_true rfl, ?_⟩
  refine ev_ex 5 (c' := (5, [some (.ref 1), some (.int a0), some (.int a1), some (.ref 3), none], [.int a1, .int a0, .ref 1, .int 0, .ref 3], hX c T)) rfl ?_
  refine ev_callC (M := q_L_may) (M' := q_X_may) rfl rfl rfl (Nat.le_of_ble_eq_true rfl) (Nat.le_of_ble_eq_true rfl) (x_rcv (T := T) (ob_lit (i := 0) rfl (by decide) rfl) ⟨by decide, by decide⟩ _ _) rfl rfl (fun e => by cases e) rfl (fun e => by cases e) (cal_mono (XBt_sg H) ?_)
  rintro r σ' (⟨x, T', rfl, rfl, hq, hs⟩ | ⟨e, T', rfl, rfl, he⟩)
  · refine Or.inl ⟨_, rfl, ?_⟩
    have a3' := (hs 3).2 22 1 (by decide) a3
    have key : ∀ y : Int64, Q 0 (tL T' 3 0 y) → ev (cP c) (d + 1) m_L_may 16 [some (.ref 1), some (.int a0), some (.int a1), some (.ref 3), none] [.long y, .int 0, .ref 3] (hX c T') (yI c Q) := fun y hq => by
      refine xe_ls rfl a3' (okn (k := 0) (by decide) (by decide)) ?_
      refine ev_ex 2 (c' := (29, [some (.ref 1), some (.int a0), some (.int a1), some (.ref 3), none], [.int 0], hX c (tL T' 3 0 y))) rfl ?_
      exact ev_ret rfl rfl rfl ⟨_, _, rfl, rfl, hq⟩
    refine ev_if_eqB (x := x) (tgt := 15) rfl rfl (fun z => ?_) (fun z => ?_)
    · refine ev_ex 1 (c' := (16, [some (.ref 1), some (.int a0), some (.int a1), some (.ref 3), none], [.long 0, .int 0, .ref 3], hX c T')) rfl ?_
      rw [z] at hq; exact key 0 hq
    · refine ev_ex 2 (c' := (16, [some (.ref 1), some (.int a0), some (.int a1), some (.ref 3), none], [.long 1, .int 0, .ref 3], hX c T')) rfl ?_
      rw [z] at hq; exact key 1 hq
  · rcases he with ⟨rfl, hq⟩ | ⟨rfl, hq⟩
    · refine Or.inr ⟨2, 20, 22, [some (.ref 1), some (.int a0), some (.int a1), some (.ref 3), none], rfl, rfl, rfl, ?_⟩
      refine ev_ex 1 (c' := (23, [some (.ref 1), some (.int a0), some (.int a1), some (.ref 3), none], [.int 1], hX c T')) rfl ?_
      exact ev_ret rfl rfl rfl ⟨_, _, rfl, rfl, hq⟩
    · refine Or.inr ⟨1, 24, 26, [some (.ref 1), some (.int a0), some (.int a1), some (.ref 3), none], rfl, rfl, rfl, ?_⟩
      refine ev_ex 1 (c' := (27, [some (.ref 1), some (.int a0), some (.int a1), some (.ref 3), none], [.int 2], hX c T')) rfl ?_
      exact ev_ret rfl rfl rfl ⟨_, _, rfl, rfl, hq⟩
set_option maxRecDepth 8000 in
theorem wl_tomorrow (a0 : Int32) (a3 : ar T 3 22 1) (H : XIt c d m_X_tomorrow [.ref 1, .int a0] T (fun x T' => Q 0 (tL T' 3 0 x.toInt64)) (fun e T' => (e = 2 ∧ Q 1 T'))) : XI c (d + 1) m_L_tomorrow [.ref 1, .int a0, .ref 3] T Q := by
  refine ⟨q_L_tomorrow, rfl, Nat.le_of_ble_eq_true rfl, ?_⟩
  refine ev_ex 4 (c' := (4, [some (.ref 1), some (.int a0), some (.ref 3), none], [.int a0, .ref 1, .int 0, .ref 3], hX c T)) rfl ?_
  refine ev_callC (M := q_L_tomorrow) (M' := q_X_tomorrow) rfl rfl rfl (Nat.le_of_ble_eq_true rfl) (Nat.le_of_ble_eq_true rfl) (x_rcv (T := T) (ob_lit (i := 0) rfl (by decide) rfl) ⟨by decide, by decide⟩ _ _) rfl rfl (fun e => by cases e) rfl (fun e => by cases e) (cal_mono (XIt_sg H) ?_)
  rintro r σ' (⟨x, T', rfl, rfl, hq, hs⟩ | ⟨e, T', rfl, rfl, he⟩)
  · refine Or.inl ⟨_, rfl, ?_⟩
    have a3' := (hs 3).2 22 1 (by decide) a3
    refine ev_ex 1 (c' := (8, [some (.ref 1), some (.int a0), some (.ref 3), none], [.long x.toInt64, .int 0, .ref 3], hX c T')) rfl ?_
    refine xe_ls rfl a3' (okn (k := 0) (by decide) (by decide)) ?_
    refine ev_ex 2 (c' := (16, [some (.ref 1), some (.int a0), some (.ref 3), none], [.int 0], hX c (tL T' 3 0 x.toInt64))) rfl ?_
    exact ev_ret rfl rfl rfl ⟨_, _, rfl, rfl, hq⟩
  · rcases he with ⟨rfl, hq⟩
    · refine Or.inr ⟨2, 12, 13, [some (.ref 1), some (.int a0), some (.ref 3), none], rfl, rfl, rfl, ?_⟩
      refine ev_ex 1 (c' := (14, [some (.ref 1), some (.int a0), some (.ref 3), none], [.int 1], hX c T')) rfl ?_
      exact ev_ret rfl rfl rfl ⟨_, _, rfl, rfl, hq⟩
set_option maxRecDepth 8000 in
theorem wl_step (a0 : Int32) (a1 : Int32) (a3 : ar T 3 22 1) (H : XIt c d m_X_step [.ref 1, .int a0, .int a1] T (fun x T' => Q 0 (tL T' 3 0 x.toInt64)) (fun e T' => (e = 2 ∧ Q 1 T') ∨ (e = 1 ∧ Q 2 T'))) : XI c (d + 1) m_L_step [.ref 1, .int a0, .int a1, .ref 3] T Q := by
  refine ⟨q_L_step, rfl, Nat.le_of_ble_eq_true rfl, ?_⟩
  refine ev_ex 5 (c' := (5, [some (.ref 1), some (.int a0), some (.int a1), some (.ref 3), none], [.int a1, .int a0, .ref 1, .int 0, .ref 3], hX c T)) rfl ?_
  refine ev_callC (M := q_L_step) (M' := q_X_step) rfl rfl rfl (Nat.le_of_ble_eq_true rfl) (Nat.le_of_ble_eq_true rfl) (x_rcv (T := T) (ob_lit (i := 0) rfl (by decide) rfl) ⟨by decide, by decide⟩ _ _) rfl rfl (fun e => by cases e) rfl (fun e => by cases e) (cal_mono (XIt_sg H) ?_)
  rintro r σ' (⟨x, T', rfl, rfl, hq, hs⟩ | ⟨e, T', rfl, rfl, he⟩)
  · refine Or.inl ⟨_, rfl, ?_⟩
    have a3' := (hs 3).2 22 1 (by decide) a3
    refine ev_ex 1 (c' := (9, [some (.ref 1), some (.int a0), some (.int a1), some (.ref 3), none], [.long x.toInt64, .int 0, .ref 3], hX c T')) rfl ?_
    refine xe_ls rfl a3' (okn (k := 0) (by decide) (by decide)) ?_
    refine ev_ex 2 (c' := (22, [some (.ref 1), some (.int a0), some (.int a1), some (.ref 3), none], [.int 0], hX c (tL T' 3 0 x.toInt64))) rfl ?_
    exact ev_ret rfl rfl rfl ⟨_, _, rfl, rfl, hq⟩
  · rcases he with ⟨rfl, hq⟩ | ⟨rfl, hq⟩
    · refine Or.inr ⟨2, 13, 15, [some (.ref 1), some (.int a0), some (.int a1), some (.ref 3), none], rfl, rfl, rfl, ?_⟩
      refine ev_ex 1 (c' := (16, [some (.ref 1), some (.int a0), some (.int a1), some (.ref 3), none], [.int 1], hX c T')) rfl ?_
      exact ev_ret rfl rfl rfl ⟨_, _, rfl, rfl, hq⟩
    · refine Or.inr ⟨1, 17, 19, [some (.ref 1), some (.int a0), some (.int a1), some (.ref 3), none], rfl, rfl, rfl, ?_⟩
      refine ev_ex 1 (c' := (20, [some (.ref 1), some (.int a0), some (.int a1), some (.ref 3), none], [.int 2], hX c T')) rfl ?_
      exact ev_ret rfl rfl rfl ⟨_, _, rfl, rfl, hq⟩
set_option maxRecDepth 8000 in
theorem wl_spare (a0 : Int32) (a3 : ar T 3 22 1) (H : XIt c d m_X_spare [.ref 1, .int a0] T (fun x T' => Q 0 (tL T' 3 0 x.toInt64)) (fun e T' => (e = 2 ∧ Q 1 T'))) : XI c (d + 1) m_L_spare [.ref 1, .int a0, .ref 3] T Q := by
  refine ⟨q_L_spare, rfl, Nat.le_of_ble_eq_true rfl, ?_⟩
  refine ev_ex 4 (c' := (4, [some (.ref 1), some (.int a0), some (.ref 3), none], [.int a0, .ref 1, .int 0, .ref 3], hX c T)) rfl ?_
  refine ev_callC (M := q_L_spare) (M' := q_X_spare) rfl rfl rfl (Nat.le_of_ble_eq_true rfl) (Nat.le_of_ble_eq_true rfl) (x_rcv (T := T) (ob_lit (i := 0) rfl (by decide) rfl) ⟨by decide, by decide⟩ _ _) rfl rfl (fun e => by cases e) rfl (fun e => by cases e) (cal_mono (XIt_sg H) ?_)
  rintro r σ' (⟨x, T', rfl, rfl, hq, hs⟩ | ⟨e, T', rfl, rfl, he⟩)
  · refine Or.inl ⟨_, rfl, ?_⟩
    have a3' := (hs 3).2 22 1 (by decide) a3
    refine ev_ex 1 (c' := (8, [some (.ref 1), some (.int a0), some (.ref 3), none], [.long x.toInt64, .int 0, .ref 3], hX c T')) rfl ?_
    refine xe_ls rfl a3' (okn (k := 0) (by decide) (by decide)) ?_
    refine ev_ex 2 (c' := (16, [some (.ref 1), some (.int a0), some (.ref 3), none], [.int 0], hX c (tL T' 3 0 x.toInt64))) rfl ?_
    exact ev_ret rfl rfl rfl ⟨_, _, rfl, rfl, hq⟩
  · rcases he with ⟨rfl, hq⟩
    · refine Or.inr ⟨2, 12, 13, [some (.ref 1), some (.int a0), some (.ref 3), none], rfl, rfl, rfl, ?_⟩
      refine ev_ex 1 (c' := (14, [some (.ref 1), some (.int a0), some (.ref 3), none], [.int 1], hX c T')) rfl ?_
      exact ev_ret rfl rfl rfl ⟨_, _, rfl, rfl, hq⟩
set_option maxRecDepth 8000 in
theorem wl_rank (a0 : Int32) (a1 : Int32) (a3 : ar T 3 22 1) (H : XIt c d m_X_rank [.ref 1, .int a0, .int a1] T (fun x T' => Q 0 (tL T' 3 0 x.toInt64)) (fun e T' => (e = 2 ∧ Q 1 T') ∨ (e = 1 ∧ Q 2 T'))) : XI c (d + 1) m_L_rank [.ref 1, .int a0, .int a1, .ref 3] T Q := by
  refine ⟨q_L_rank, rfl, Nat.le_of_ble_eq_true rfl, ?_⟩
  refine ev_ex 5 (c' := (5, [some (.ref 1), some (.int a0), some (.int a1), some (.ref 3), none], [.int a1, .int a0, .ref 1, .int 0, .ref 3], hX c T)) rfl ?_
  refine ev_callC (M := q_L_rank) (M' := q_X_rank) rfl rfl rfl (Nat.le_of_ble_eq_true rfl) (Nat.le_of_ble_eq_true rfl) (x_rcv (T := T) (ob_lit (i := 0) rfl (by decide) rfl) ⟨by decide, by decide⟩ _ _) rfl rfl (fun e => by cases e) rfl (fun e => by cases e) (cal_mono (XIt_sg H) ?_)
  rintro r σ' (⟨x, T', rfl, rfl, hq, hs⟩ | ⟨e, T', rfl, rfl, he⟩)
  · refine Or.inl ⟨_, rfl, ?_⟩
    have a3' := (hs 3).2 22 1 (by decide) a3
    refine ev_ex 1 (c' := (9, [some (.ref 1), some (.int a0), some (.int a1), some (.ref 3), none], [.long x.toInt64, .int 0, .ref 3], hX c T')) rfl ?_
    refine xe_ls rfl a3' (okn (k := 0) (by decide) (by decide)) ?_
    refine ev_ex 2 (c' := (22, [some (.ref 1), some (.int a0), some (.int a1), some (.ref 3), none], [.int 0], hX c (tL T' 3 0 x.toInt64))) rfl ?_
    exact ev_ret rfl rfl rfl ⟨_, _, rfl, rfl, hq⟩
  · rcases he with ⟨rfl, hq⟩ | ⟨rfl, hq⟩
    · refine Or.inr ⟨2, 13, 15, [some (.ref 1), some (.int a0), some (.int a1), some (.ref 3), none], rfl, rfl, rfl, ?_⟩
      refine ev_ex 1 (c' := (16, [some (.ref 1), some (.int a0), some (.int a1), some (.ref 3), none], [.int 1], hX c T')) rfl ?_
      exact ev_ret rfl rfl rfl ⟨_, _, rfl, rfl, hq⟩
    · refine Or.inr ⟨1, 17, 19, [some (.ref 1), some (.int a0), some (.int a1), some (.ref 3), none], rfl, rfl, rfl, ?_⟩
      refine ev_ex 1 (c' := (20, [some (.ref 1), some (.int a0), some (.int a1), some (.ref 3), none], [.int 2], hX c T')) rfl ?_
      exact ev_ret rfl rfl rfl ⟨_, _, rfl, rfl, hq⟩
set_option maxRecDepth 8000 in
theorem wl_nights (a0 : Int32) (a3 : ar T 3 22 1) (H : XIt c d m_X_nights [.ref 1, .int a0] T (fun x T' => Q 0 (tL T' 3 0 x.toInt64)) (fun e T' => (e = 1 ∧ Q 1 T'))) : XI c (d + 1) m_L_nights [.ref 1, .int a0, .ref 3] T Q := by
  refine ⟨q_L_nights, rfl, Nat.le_of_ble_eq_true rfl, ?_⟩
  refine ev_ex 4 (c' := (4, [some (.ref 1), some (.int a0), some (.ref 3), none], [.int a0, .ref 1, .int 0, .ref 3], hX c T)) rfl ?_
  refine ev_callC (M := q_L_nights) (M' := q_X_nights) rfl rfl rfl (Nat.le_of_ble_eq_true rfl) (Nat.le_of_ble_eq_true rfl) (x_rcv (T := T) (ob_lit (i := 0) rfl (by decide) rfl) ⟨by decide, by decide⟩ _ _) rfl rfl (fun e => by cases e) rfl (fun e => by cases e) (cal_mono (XIt_sg H) ?_)
  rintro r σ' (⟨x, T', rfl, rfl, hq, hs⟩ | ⟨e, T', rfl, rfl, he⟩)
  · refine Or.inl ⟨_, rfl, ?_⟩
    have a3' := (hs 3).2 22 1 (by decide) a3
    refine ev_ex 1 (c' := (8, [some (.ref 1), some (.int a0), some (.ref 3), none], [.long x.toInt64, .int 0, .ref 3], hX c T')) rfl ?_
    refine xe_ls rfl a3' (okn (k := 0) (by decide) (by decide)) ?_
    refine ev_ex 2 (c' := (16, [some (.ref 1), some (.int a0), some (.ref 3), none], [.int 0], hX c (tL T' 3 0 x.toInt64))) rfl ?_
    exact ev_ret rfl rfl rfl ⟨_, _, rfl, rfl, hq⟩
  · rcases he with ⟨rfl, hq⟩
    · refine Or.inr ⟨1, 12, 13, [some (.ref 1), some (.int a0), some (.ref 3), none], rfl, rfl, rfl, ?_⟩
      refine ev_ex 1 (c' := (14, [some (.ref 1), some (.int a0), some (.ref 3), none], [.int 1], hX c T')) rfl ?_
      exact ev_ret rfl rfl rfl ⟨_, _, rfl, rfl, hq⟩
set_option maxRecDepth 8000 in
theorem wl_undo (a0 : Int32) (a3 : ar T 3 22 1) (H : XIt c d m_X_undo [.ref 1, .int a0] T (fun x T' => Q 0 (tL T' 3 0 x.toInt64)) (fun e T' => (e = 1 ∧ Q 1 T'))) : XI c (d + 1) m_L_undo [.ref 1, .int a0, .ref 3] T Q := by
  refine ⟨q_L_undo, rfl, Nat.le_of_ble_eq_true rfl, ?_⟩
  refine ev_ex 4 (c' := (4, [some (.ref 1), some (.int a0), some (.ref 3), none], [.int a0, .ref 1, .int 0, .ref 3], hX c T)) rfl ?_
  refine ev_callC (M := q_L_undo) (M' := q_X_undo) rfl rfl rfl (Nat.le_of_ble_eq_true rfl) (Nat.le_of_ble_eq_true rfl) (x_rcv (T := T) (ob_lit (i := 0) rfl (by decide) rfl) ⟨by decide, by decide⟩ _ _) rfl rfl (fun e => by cases e) rfl (fun e => by cases e) (cal_mono (XIt_sg H) ?_)
  rintro r σ' (⟨x, T', rfl, rfl, hq, hs⟩ | ⟨e, T', rfl, rfl, he⟩)
  · refine Or.inl ⟨_, rfl, ?_⟩
    have a3' := (hs 3).2 22 1 (by decide) a3
    refine ev_ex 1 (c' := (8, [some (.ref 1), some (.int a0), some (.ref 3), none], [.long x.toInt64, .int 0, .ref 3], hX c T')) rfl ?_
    refine xe_ls rfl a3' (okn (k := 0) (by decide) (by decide)) ?_
    refine ev_ex 2 (c' := (16, [some (.ref 1), some (.int a0), some (.ref 3), none], [.int 0], hX c (tL T' 3 0 x.toInt64))) rfl ?_
    exact ev_ret rfl rfl rfl ⟨_, _, rfl, rfl, hq⟩
  · rcases he with ⟨rfl, hq⟩
    · refine Or.inr ⟨1, 12, 13, [some (.ref 1), some (.int a0), some (.ref 3), none], rfl, rfl, rfl, ?_⟩
      refine ev_ex 1 (c' := (14, [some (.ref 1), some (.int a0), some (.ref 3), none], [.int 1], hX c T')) rfl ?_
      exact ev_ret rfl rfl rfl ⟨_, _, rfl, rfl, hq⟩
set_option maxRecDepth 8000 in
theorem wl_judge (a0 : Int32) (a1 : Int32) (a3 : ar T 3 22 1) (H : XIt c d m_X_judge [.ref 1, .int a0, .int a1] T (fun x T' => Q 0 (tL T' 3 0 x.toInt64)) (fun e T' => (e = 2 ∧ Q 1 T') ∨ (e = 3 ∧ Q 2 T') ∨ (e = 1 ∧ Q 3 T'))) : XI c (d + 1) m_L_judge [.ref 1, .int a0, .int a1, .ref 3] T Q := by
  refine ⟨q_L_judge, rfl, Nat.le_of_ble_eq_true rfl, ?_⟩
  refine ev_ex 5 (c' := (5, [some (.ref 1), some (.int a0), some (.int a1), some (.ref 3), none], [.int a1, .int a0, .ref 1, .int 0, .ref 3], hX c T)) rfl ?_
  refine ev_callC (M := q_L_judge) (M' := q_X_judge) rfl rfl rfl (Nat.le_of_ble_eq_true rfl) (Nat.le_of_ble_eq_true rfl) (x_rcv (T := T) (ob_lit (i := 0) rfl (by decide) rfl) ⟨by decide, by decide⟩ _ _) rfl rfl (fun e => by cases e) rfl (fun e => by cases e) (cal_mono (XIt_sg H) ?_)
  rintro r σ' (⟨x, T', rfl, rfl, hq, hs⟩ | ⟨e, T', rfl, rfl, he⟩)
  · refine Or.inl ⟨_, rfl, ?_⟩
    have a3' := (hs 3).2 22 1 (by decide) a3
    refine ev_ex 1 (c' := (9, [some (.ref 1), some (.int a0), some (.int a1), some (.ref 3), none], [.long x.toInt64, .int 0, .ref 3], hX c T')) rfl ?_
    refine xe_ls rfl a3' (okn (k := 0) (by decide) (by decide)) ?_
    refine ev_ex 2 (c' := (26, [some (.ref 1), some (.int a0), some (.int a1), some (.ref 3), none], [.int 0], hX c (tL T' 3 0 x.toInt64))) rfl ?_
    exact ev_ret rfl rfl rfl ⟨_, _, rfl, rfl, hq⟩
  · rcases he with ⟨rfl, hq⟩ | ⟨rfl, hq⟩ | ⟨rfl, hq⟩
    · refine Or.inr ⟨2, 13, 15, [some (.ref 1), some (.int a0), some (.int a1), some (.ref 3), none], rfl, rfl, rfl, ?_⟩
      refine ev_ex 1 (c' := (16, [some (.ref 1), some (.int a0), some (.int a1), some (.ref 3), none], [.int 1], hX c T')) rfl ?_
      exact ev_ret rfl rfl rfl ⟨_, _, rfl, rfl, hq⟩
    · refine Or.inr ⟨3, 17, 19, [some (.ref 1), some (.int a0), some (.int a1), some (.ref 3), none], rfl, rfl, rfl, ?_⟩
      refine ev_ex 1 (c' := (20, [some (.ref 1), some (.int a0), some (.int a1), some (.ref 3), none], [.int 2], hX c T')) rfl ?_
      exact ev_ret rfl rfl rfl ⟨_, _, rfl, rfl, hq⟩
    · refine Or.inr ⟨1, 21, 23, [some (.ref 1), some (.int a0), some (.int a1), some (.ref 3), none], rfl, rfl, rfl, ?_⟩
      refine ev_ex 1 (c' := (24, [some (.ref 1), some (.int a0), some (.int a1), some (.ref 3), none], [.int 3], hX c T')) rfl ?_
      exact ev_ret rfl rfl rfl ⟨_, _, rfl, rfl, hq⟩
set_option maxRecDepth 8000 in
theorem wl_perform (a0 : Int32) (a3 : ar T 3 22 1) (H : XIt c d m_X_perform [.ref 1, .int a0] T (fun x T' => Q 0 (tL T' 3 0 x.toInt64)) (fun e T' => (e = 2 ∧ Q 1 T') ∨ (e = 3 ∧ Q 2 T'))) : XI c (d + 1) m_L_perform [.ref 1, .int a0, .ref 3] T Q := by
  refine ⟨q_L_perform, rfl, Nat.le_of_ble_eq_true rfl, ?_⟩
  refine ev_ex 4 (c' := (4, [some (.ref 1), some (.int a0), some (.ref 3), none], [.int a0, .ref 1, .int 0, .ref 3], hX c T)) rfl ?_
  refine ev_callC (M := q_L_perform) (M' := q_X_perform) rfl rfl rfl (Nat.le_of_ble_eq_true rfl) (Nat.le_of_ble_eq_true rfl) (x_rcv (T := T) (ob_lit (i := 0) rfl (by decide) rfl) ⟨by decide, by decide⟩ _ _) rfl rfl (fun e => by cases e) rfl (fun e => by cases e) (cal_mono (XIt_sg H) ?_)
  rintro r σ' (⟨x, T', rfl, rfl, hq, hs⟩ | ⟨e, T', rfl, rfl, he⟩)
  · refine Or.inl ⟨_, rfl, ?_⟩
    have a3' := (hs 3).2 22 1 (by decide) a3
    refine ev_ex 1 (c' := (8, [some (.ref 1), some (.int a0), some (.ref 3), none], [.long x.toInt64, .int 0, .ref 3], hX c T')) rfl ?_
    refine xe_ls rfl a3' (okn (k := 0) (by decide) (by decide)) ?_
    refine ev_ex 2 (c' := (19, [some (.ref 1), some (.int a0), some (.ref 3), none], [.int 0], hX c (tL T' 3 0 x.toInt64))) rfl ?_
    exact ev_ret rfl rfl rfl ⟨_, _, rfl, rfl, hq⟩
  · rcases he with ⟨rfl, hq⟩ | ⟨rfl, hq⟩
    · refine Or.inr ⟨2, 12, 13, [some (.ref 1), some (.int a0), some (.ref 3), none], rfl, rfl, rfl, ?_⟩
      refine ev_ex 1 (c' := (14, [some (.ref 1), some (.int a0), some (.ref 3), none], [.int 1], hX c T')) rfl ?_
      exact ev_ret rfl rfl rfl ⟨_, _, rfl, rfl, hq⟩
    · refine Or.inr ⟨3, 15, 16, [some (.ref 1), some (.int a0), some (.ref 3), none], rfl, rfl, rfl, ?_⟩
      refine ev_ex 1 (c' := (17, [some (.ref 1), some (.int a0), some (.ref 3), none], [.int 2], hX c T')) rfl ?_
      exact ev_ret rfl rfl rfl ⟨_, _, rfl, rfl, hq⟩
set_option maxRecDepth 8000 in
theorem wl_week (a0 : Int32) (a1 : Int32) (a3 : ar T 3 22 1) (H : XIt c d m_X_week [.ref 1, .int a0, .int a1] T (fun x T' => Q 0 (tL T' 3 0 x.toInt64)) (fun e T' => (e = 1 ∧ Q 1 T') ∨ (e = 3 ∧ Q 2 T'))) : XI c (d + 1) m_L_week [.ref 1, .int a0, .int a1, .ref 3] T Q := by
  refine ⟨q_L_week, rfl, Nat.le_of_ble_eq_true rfl, ?_⟩
  refine ev_ex 5 (c' := (5, [some (.ref 1), some (.int a0), some (.int a1), some (.ref 3), none], [.int a1, .int a0, .ref 1, .int 0, .ref 3], hX c T)) rfl ?_
  refine ev_callC (M := q_L_week) (M' := q_X_week) rfl rfl rfl (Nat.le_of_ble_eq_true rfl) (Nat.le_of_ble_eq_true rfl) (x_rcv (T := T) (ob_lit (i := 0) rfl (by decide) rfl) ⟨by decide, by decide⟩ _ _) rfl rfl (fun e => by cases e) rfl (fun e => by cases e) (cal_mono (XIt_sg H) ?_)
  rintro r σ' (⟨x, T', rfl, rfl, hq, hs⟩ | ⟨e, T', rfl, rfl, he⟩)
  · refine Or.inl ⟨_, rfl, ?_⟩
    have a3' := (hs 3).2 22 1 (by decide) a3
    refine ev_ex 1 (c' := (9, [some (.ref 1), some (.int a0), some (.int a1), some (.ref 3), none], [.long x.toInt64, .int 0, .ref 3], hX c T')) rfl ?_
    refine xe_ls rfl a3' (okn (k := 0) (by decide) (by decide)) ?_
    refine ev_ex 2 (c' := (22, [some (.ref 1), some (.int a0), some (.int a1), some (.ref 3), none], [.int 0], hX c (tL T' 3 0 x.toInt64))) rfl ?_
    exact ev_ret rfl rfl rfl ⟨_, _, rfl, rfl, hq⟩
  · rcases he with ⟨rfl, hq⟩ | ⟨rfl, hq⟩
    · refine Or.inr ⟨1, 13, 15, [some (.ref 1), some (.int a0), some (.int a1), some (.ref 3), none], rfl, rfl, rfl, ?_⟩
      refine ev_ex 1 (c' := (16, [some (.ref 1), some (.int a0), some (.int a1), some (.ref 3), none], [.int 1], hX c T')) rfl ?_
      exact ev_ret rfl rfl rfl ⟨_, _, rfl, rfl, hq⟩
    · refine Or.inr ⟨3, 17, 19, [some (.ref 1), some (.int a0), some (.int a1), some (.ref 3), none], rfl, rfl, rfl, ?_⟩
      refine ev_ex 1 (c' := (20, [some (.ref 1), some (.int a0), some (.int a1), some (.ref 3), none], [.int 2], hX c T')) rfl ?_
      exact ev_ret rfl rfl rfl ⟨_, _, rfl, rfl, hq⟩
set_option maxRecDepth 8000 in
theorem wl_walks (a0 : Int32) (a3 : ar T 3 22 1) (H : XIt c d m_X_walks [.ref 1, .int a0] T (fun x T' => Q 0 (tL T' 3 0 x.toInt64)) (fun e T' => (e = 1 ∧ Q 1 T'))) : XI c (d + 1) m_L_walks [.ref 1, .int a0, .ref 3] T Q := by
  refine ⟨q_L_walks, rfl, Nat.le_of_ble_eq_true rfl, ?_⟩
  refine ev_ex 4 (c' := (4, [some (.ref 1), some (.int a0), some (.ref 3), none], [.int a0, .ref 1, .int 0, .ref 3], hX c T)) rfl ?_
  refine ev_callC (M := q_L_walks) (M' := q_X_walks) rfl rfl rfl (Nat.le_of_ble_eq_true rfl) (Nat.le_of_ble_eq_true rfl) (x_rcv (T := T) (ob_lit (i := 0) rfl (by decide) rfl) ⟨by decide, by decide⟩ _ _) rfl rfl (fun e => by cases e) rfl (fun e => by cases e) (cal_mono (XIt_sg H) ?_)
  rintro r σ' (⟨x, T', rfl, rfl, hq, hs⟩ | ⟨e, T', rfl, rfl, he⟩)
  · refine Or.inl ⟨_, rfl, ?_⟩
    have a3' := (hs 3).2 22 1 (by decide) a3
    refine ev_ex 1 (c' := (8, [some (.ref 1), some (.int a0), some (.ref 3), none], [.long x.toInt64, .int 0, .ref 3], hX c T')) rfl ?_
    refine xe_ls rfl a3' (okn (k := 0) (by decide) (by decide)) ?_
    refine ev_ex 2 (c' := (16, [some (.ref 1), some (.int a0), some (.ref 3), none], [.int 0], hX c (tL T' 3 0 x.toInt64))) rfl ?_
    exact ev_ret rfl rfl rfl ⟨_, _, rfl, rfl, hq⟩
  · rcases he with ⟨rfl, hq⟩
    · refine Or.inr ⟨1, 12, 13, [some (.ref 1), some (.int a0), some (.ref 3), none], rfl, rfl, rfl, ?_⟩
      refine ev_ex 1 (c' := (14, [some (.ref 1), some (.int a0), some (.ref 3), none], [.int 1], hX c T')) rfl ?_
      exact ev_ret rfl rfl rfl ⟨_, _, rfl, rfl, hq⟩
set_option maxRecDepth 8000 in
theorem wl_place (a0 : Int32) (a3 : ar T 3 22 1) (H : XIt c d m_X_place [.ref 1, .int a0] T (fun x T' => Q 0 (tL T' 3 0 x.toInt64)) (fun e T' => (e = 2 ∧ Q 1 T'))) : XI c (d + 1) m_L_place [.ref 1, .int a0, .ref 3] T Q := by
  refine ⟨q_L_place, rfl, Nat.le_of_ble_eq_true rfl, ?_⟩
  refine ev_ex 4 (c' := (4, [some (.ref 1), some (.int a0), some (.ref 3), none], [.int a0, .ref 1, .int 0, .ref 3], hX c T)) rfl ?_
  refine ev_callC (M := q_L_place) (M' := q_X_place) rfl rfl rfl (Nat.le_of_ble_eq_true rfl) (Nat.le_of_ble_eq_true rfl) (x_rcv (T := T) (ob_lit (i := 0) rfl (by decide) rfl) ⟨by decide, by decide⟩ _ _) rfl rfl (fun e => by cases e) rfl (fun e => by cases e) (cal_mono (XIt_sg H) ?_)
  rintro r σ' (⟨x, T', rfl, rfl, hq, hs⟩ | ⟨e, T', rfl, rfl, he⟩)
  · refine Or.inl ⟨_, rfl, ?_⟩
    have a3' := (hs 3).2 22 1 (by decide) a3
    refine ev_ex 1 (c' := (8, [some (.ref 1), some (.int a0), some (.ref 3), none], [.long x.toInt64, .int 0, .ref 3], hX c T')) rfl ?_
    refine xe_ls rfl a3' (okn (k := 0) (by decide) (by decide)) ?_
    refine ev_ex 2 (c' := (16, [some (.ref 1), some (.int a0), some (.ref 3), none], [.int 0], hX c (tL T' 3 0 x.toInt64))) rfl ?_
    exact ev_ret rfl rfl rfl ⟨_, _, rfl, rfl, hq⟩
  · rcases he with ⟨rfl, hq⟩
    · refine Or.inr ⟨2, 12, 13, [some (.ref 1), some (.int a0), some (.ref 3), none], rfl, rfl, rfl, ?_⟩
      refine ev_ex 1 (c' := (14, [some (.ref 1), some (.int a0), some (.ref 3), none], [.int 1], hX c T')) rfl ?_
      exact ev_ret rfl rfl rfl ⟨_, _, rfl, rfl, hq⟩
set_option maxRecDepth 8000 in
theorem wl_persuaded (a0 : Int32) (a3 : ar T 3 22 1) (H : XIt c d m_X_persuaded [.ref 1, .int a0] T (fun x T' => Q 0 (tL T' 3 0 x.toInt64)) (fun e T' => (e = 1 ∧ Q 1 T'))) : XI c (d + 1) m_L_persuaded [.ref 1, .int a0, .ref 3] T Q := by
  refine ⟨q_L_persuaded, rfl, Nat.le_of_ble_eq_true rfl, ?_⟩
  refine ev_ex 4 (c' := (4, [some (.ref 1), some (.int a0), some (.ref 3), none], [.int a0, .ref 1, .int 0, .ref 3], hX c T)) rfl ?_
  refine ev_callC (M := q_L_persuaded) (M' := q_X_persuaded) rfl rfl rfl (Nat.le_of_ble_eq_true rfl) (Nat.le_of_ble_eq_true rfl) (x_rcv (T := T) (ob_lit (i := 0) rfl (by decide) rfl) ⟨by decide, by decide⟩ _ _) rfl rfl (fun e => by cases e) rfl (fun e => by cases e) (cal_mono (XIt_sg H) ?_)
  rintro r σ' (⟨x, T', rfl, rfl, hq, hs⟩ | ⟨e, T', rfl, rfl, he⟩)
  · refine Or.inl ⟨_, rfl, ?_⟩
    have a3' := (hs 3).2 22 1 (by decide) a3
    refine ev_ex 1 (c' := (8, [some (.ref 1), some (.int a0), some (.ref 3), none], [.long x.toInt64, .int 0, .ref 3], hX c T')) rfl ?_
    refine xe_ls rfl a3' (okn (k := 0) (by decide) (by decide)) ?_
    refine ev_ex 2 (c' := (16, [some (.ref 1), some (.int a0), some (.ref 3), none], [.int 0], hX c (tL T' 3 0 x.toInt64))) rfl ?_
    exact ev_ret rfl rfl rfl ⟨_, _, rfl, rfl, hq⟩
  · rcases he with ⟨rfl, hq⟩
    · refine Or.inr ⟨1, 12, 13, [some (.ref 1), some (.int a0), some (.ref 3), none], rfl, rfl, rfl, ?_⟩
      refine ev_ex 1 (c' := (14, [some (.ref 1), some (.int a0), some (.ref 3), none], [.int 1], hX c T')) rfl ?_
      exact ev_ret rfl rfl rfl ⟨_, _, rfl, rfl, hq⟩
set_option maxRecDepth 8000 in
theorem wl_peace (a0 : Int32) (a3 : ar T 3 22 1) (H : XIt c d m_X_peace [.ref 1, .int a0] T (fun x T' => Q 0 (tL T' 3 0 x.toInt64)) (fun e T' => (e = 1 ∧ Q 1 T'))) : XI c (d + 1) m_L_peace [.ref 1, .int a0, .ref 3] T Q := by
  refine ⟨q_L_peace, rfl, Nat.le_of_ble_eq_true rfl, ?_⟩
  refine ev_ex 4 (c' := (4, [some (.ref 1), some (.int a0), some (.ref 3), none], [.int a0, .ref 1, .int 0, .ref 3], hX c T)) rfl ?_
  refine ev_callC (M := q_L_peace) (M' := q_X_peace) rfl rfl rfl (Nat.le_of_ble_eq_true rfl) (Nat.le_of_ble_eq_true rfl) (x_rcv (T := T) (ob_lit (i := 0) rfl (by decide) rfl) ⟨by decide, by decide⟩ _ _) rfl rfl (fun e => by cases e) rfl (fun e => by cases e) (cal_mono (XIt_sg H) ?_)
  rintro r σ' (⟨x, T', rfl, rfl, hq, hs⟩ | ⟨e, T', rfl, rfl, he⟩)
  · refine Or.inl ⟨_, rfl, ?_⟩
    have a3' := (hs 3).2 22 1 (by decide) a3
    refine ev_ex 1 (c' := (8, [some (.ref 1), some (.int a0), some (.ref 3), none], [.long x.toInt64, .int 0, .ref 3], hX c T')) rfl ?_
    refine xe_ls rfl a3' (okn (k := 0) (by decide) (by decide)) ?_
    refine ev_ex 2 (c' := (16, [some (.ref 1), some (.int a0), some (.ref 3), none], [.int 0], hX c (tL T' 3 0 x.toInt64))) rfl ?_
    exact ev_ret rfl rfl rfl ⟨_, _, rfl, rfl, hq⟩
  · rcases he with ⟨rfl, hq⟩
    · refine Or.inr ⟨1, 12, 13, [some (.ref 1), some (.int a0), some (.ref 3), none], rfl, rfl, rfl, ?_⟩
      refine ev_ex 1 (c' := (14, [some (.ref 1), some (.int a0), some (.ref 3), none], [.int 1], hX c T')) rfl ?_
      exact ev_ret rfl rfl rfl ⟨_, _, rfl, rfl, hq⟩
set_option maxRecDepth 8000 in
theorem wl_below (a0 : Int32) (a3 : ar T 3 22 1) (H : XIt c d m_X_below [.ref 1, .int a0] T (fun x T' => Q 0 (tL T' 3 0 x.toInt64)) (fun e T' => (e = 2 ∧ Q 1 T'))) : XI c (d + 1) m_L_below [.ref 1, .int a0, .ref 3] T Q := by
  refine ⟨q_L_below, rfl, Nat.le_of_ble_eq_true rfl, ?_⟩
  refine ev_ex 4 (c' := (4, [some (.ref 1), some (.int a0), some (.ref 3), none], [.int a0, .ref 1, .int 0, .ref 3], hX c T)) rfl ?_
  refine ev_callC (M := q_L_below) (M' := q_X_below) rfl rfl rfl (Nat.le_of_ble_eq_true rfl) (Nat.le_of_ble_eq_true rfl) (x_rcv (T := T) (ob_lit (i := 0) rfl (by decide) rfl) ⟨by decide, by decide⟩ _ _) rfl rfl (fun e => by cases e) rfl (fun e => by cases e) (cal_mono (XIt_sg H) ?_)
  rintro r σ' (⟨x, T', rfl, rfl, hq, hs⟩ | ⟨e, T', rfl, rfl, he⟩)
  · refine Or.inl ⟨_, rfl, ?_⟩
    have a3' := (hs 3).2 22 1 (by decide) a3
    refine ev_ex 1 (c' := (8, [some (.ref 1), some (.int a0), some (.ref 3), none], [.long x.toInt64, .int 0, .ref 3], hX c T')) rfl ?_
    refine xe_ls rfl a3' (okn (k := 0) (by decide) (by decide)) ?_
    refine ev_ex 2 (c' := (16, [some (.ref 1), some (.int a0), some (.ref 3), none], [.int 0], hX c (tL T' 3 0 x.toInt64))) rfl ?_
    exact ev_ret rfl rfl rfl ⟨_, _, rfl, rfl, hq⟩
  · rcases he with ⟨rfl, hq⟩
    · refine Or.inr ⟨2, 12, 13, [some (.ref 1), some (.int a0), some (.ref 3), none], rfl, rfl, rfl, ?_⟩
      refine ev_ex 1 (c' := (14, [some (.ref 1), some (.int a0), some (.ref 3), none], [.int 1], hX c T')) rfl ?_
      exact ev_ret rfl rfl rfl ⟨_, _, rfl, rfl, hq⟩
set_option maxRecDepth 8000 in
theorem wl_cakesOf (a0 : Int32) (a3 : ar T 3 22 1) (H : XIt c d m_X_cakesOf [.ref 1, .int a0] T (fun x T' => Q 0 (tL T' 3 0 x.toInt64)) (fun e T' => (e = 2 ∧ Q 1 T'))) : XI c (d + 1) m_L_cakesOf [.ref 1, .int a0, .ref 3] T Q := by
  refine ⟨q_L_cakesOf, rfl, Nat.le_of_ble_eq_true rfl, ?_⟩
  refine ev_ex 4 (c' := (4, [some (.ref 1), some (.int a0), some (.ref 3), none], [.int a0, .ref 1, .int 0, .ref 3], hX c T)) rfl ?_
  refine ev_callC (M := q_L_cakesOf) (M' := q_X_cakesOf) rfl rfl rfl (Nat.le_of_ble_eq_true rfl) (Nat.le_of_ble_eq_true rfl) (x_rcv (T := T) (ob_lit (i := 0) rfl (by decide) rfl) ⟨by decide, by decide⟩ _ _) rfl rfl (fun e => by cases e) rfl (fun e => by cases e) (cal_mono (XIt_sg H) ?_)
  rintro r σ' (⟨x, T', rfl, rfl, hq, hs⟩ | ⟨e, T', rfl, rfl, he⟩)
  · refine Or.inl ⟨_, rfl, ?_⟩
    have a3' := (hs 3).2 22 1 (by decide) a3
    refine ev_ex 1 (c' := (8, [some (.ref 1), some (.int a0), some (.ref 3), none], [.long x.toInt64, .int 0, .ref 3], hX c T')) rfl ?_
    refine xe_ls rfl a3' (okn (k := 0) (by decide) (by decide)) ?_
    refine ev_ex 2 (c' := (16, [some (.ref 1), some (.int a0), some (.ref 3), none], [.int 0], hX c (tL T' 3 0 x.toInt64))) rfl ?_
    exact ev_ret rfl rfl rfl ⟨_, _, rfl, rfl, hq⟩
  · rcases he with ⟨rfl, hq⟩
    · refine Or.inr ⟨2, 12, 13, [some (.ref 1), some (.int a0), some (.ref 3), none], rfl, rfl, rfl, ?_⟩
      refine ev_ex 1 (c' := (14, [some (.ref 1), some (.int a0), some (.ref 3), none], [.int 1], hX c T')) rfl ?_
      exact ev_ret rfl rfl rfl ⟨_, _, rfl, rfl, hq⟩
set_option maxRecDepth 8000 in
theorem wl_chainOf (a0 : Int32) (a3 : ar T 3 22 1) (H : XIt c d m_X_chainOf [.ref 1, .int a0] T (fun x T' => Q 0 (tL T' 3 0 x.toInt64)) (fun e T' => (e = 2 ∧ Q 1 T'))) : XI c (d + 1) m_L_chainOf [.ref 1, .int a0, .ref 3] T Q := by
  refine ⟨q_L_chainOf, rfl, Nat.le_of_ble_eq_true rfl, ?_⟩
  refine ev_ex 4 (c' := (4, [some (.ref 1), some (.int a0), some (.ref 3), none], [.int a0, .ref 1, .int 0, .ref 3], hX c T)) rfl ?_
  refine ev_callC (M := q_L_chainOf) (M' := q_X_chainOf) rfl rfl rfl (Nat.le_of_ble_eq_true rfl) (Nat.le_of_ble_eq_true rfl) (x_rcv (T := T) (ob_lit (i := 0) rfl (by decide) rfl) ⟨by decide, by decide⟩ _ _) rfl rfl (fun e => by cases e) rfl (fun e => by cases e) (cal_mono (XIt_sg H) ?_)
  rintro r σ' (⟨x, T', rfl, rfl, hq, hs⟩ | ⟨e, T', rfl, rfl, he⟩)
  · refine Or.inl ⟨_, rfl, ?_⟩
    have a3' := (hs 3).2 22 1 (by decide) a3
    refine ev_ex 1 (c' := (8, [some (.ref 1), some (.int a0), some (.ref 3), none], [.long x.toInt64, .int 0, .ref 3], hX c T')) rfl ?_
    refine xe_ls rfl a3' (okn (k := 0) (by decide) (by decide)) ?_
    refine ev_ex 2 (c' := (16, [some (.ref 1), some (.int a0), some (.ref 3), none], [.int 0], hX c (tL T' 3 0 x.toInt64))) rfl ?_
    exact ev_ret rfl rfl rfl ⟨_, _, rfl, rfl, hq⟩
  · rcases he with ⟨rfl, hq⟩
    · refine Or.inr ⟨2, 12, 13, [some (.ref 1), some (.int a0), some (.ref 3), none], rfl, rfl, rfl, ?_⟩
      refine ev_ex 1 (c' := (14, [some (.ref 1), some (.int a0), some (.ref 3), none], [.int 1], hX c T')) rfl ?_
      exact ev_ret rfl rfl rfl ⟨_, _, rfl, rfl, hq⟩
set_option maxRecDepth 8000 in
theorem wl_freeFor (a0 : Int32) (a3 : ar T 3 22 1) (H : XIt c d m_X_freeFor [.ref 1, .int a0] T (fun x T' => Q 0 (tL T' 3 0 x.toInt64)) (fun e T' => (e = 2 ∧ Q 1 T'))) : XI c (d + 1) m_L_freeFor [.ref 1, .int a0, .ref 3] T Q := by
  refine ⟨q_L_freeFor, rfl, Nat.le_of_ble_eq_true rfl, ?_⟩
  refine ev_ex 4 (c' := (4, [some (.ref 1), some (.int a0), some (.ref 3), none], [.int a0, .ref 1, .int 0, .ref 3], hX c T)) rfl ?_
  refine ev_callC (M := q_L_freeFor) (M' := q_X_freeFor) rfl rfl rfl (Nat.le_of_ble_eq_true rfl) (Nat.le_of_ble_eq_true rfl) (x_rcv (T := T) (ob_lit (i := 0) rfl (by decide) rfl) ⟨by decide, by decide⟩ _ _) rfl rfl (fun e => by cases e) rfl (fun e => by cases e) (cal_mono (XIt_sg H) ?_)
  rintro r σ' (⟨x, T', rfl, rfl, hq, hs⟩ | ⟨e, T', rfl, rfl, he⟩)
  · refine Or.inl ⟨_, rfl, ?_⟩
    have a3' := (hs 3).2 22 1 (by decide) a3
    refine ev_ex 1 (c' := (8, [some (.ref 1), some (.int a0), some (.ref 3), none], [.long x.toInt64, .int 0, .ref 3], hX c T')) rfl ?_
    refine xe_ls rfl a3' (okn (k := 0) (by decide) (by decide)) ?_
    refine ev_ex 2 (c' := (16, [some (.ref 1), some (.int a0), some (.ref 3), none], [.int 0], hX c (tL T' 3 0 x.toInt64))) rfl ?_
    exact ev_ret rfl rfl rfl ⟨_, _, rfl, rfl, hq⟩
  · rcases he with ⟨rfl, hq⟩
    · refine Or.inr ⟨2, 12, 13, [some (.ref 1), some (.int a0), some (.ref 3), none], rfl, rfl, rfl, ?_⟩
      refine ev_ex 1 (c' := (14, [some (.ref 1), some (.int a0), some (.ref 3), none], [.int 1], hX c T')) rfl ?_
      exact ev_ret rfl rfl rfl ⟨_, _, rfl, rfl, hq⟩
set_option maxRecDepth 8000 in
theorem wl_at (a0 : Int32) (a1 : Int32) (a3 : ar T 3 22 1) (H : XIt c d m_X_at [.ref 1, .int a0, .int a1] T (fun x T' => Q 0 (tL T' 3 0 x.toInt64)) (fun e T' => (e = 2 ∧ Q 1 T') ∨ (e = 1 ∧ Q 2 T'))) : XI c (d + 1) m_L_at [.ref 1, .int a0, .int a1, .ref 3] T Q := by
  refine ⟨q_L_at, rfl, Nat.le_of_ble_eq_true rfl, ?_⟩
  refine ev_ex 5 (c' := (5, [some (.ref 1), some (.int a0), some (.int a1), some (.ref 3), none], [.int a1, .int a0, .ref 1, .int 0, .ref 3], hX c T)) rfl ?_
  refine ev_callC (M := q_L_at) (M' := q_X_at) rfl rfl rfl (Nat.le_of_ble_eq_true rfl) (Nat.le_of_ble_eq_true rfl) (x_rcv (T := T) (ob_lit (i := 0) rfl (by decide) rfl) ⟨by decide, by decide⟩ _ _) rfl rfl (fun e => by cases e) rfl (fun e => by cases e) (cal_mono (XIt_sg H) ?_)
  rintro r σ' (⟨x, T', rfl, rfl, hq, hs⟩ | ⟨e, T', rfl, rfl, he⟩)
  · refine Or.inl ⟨_, rfl, ?_⟩
    have a3' := (hs 3).2 22 1 (by decide) a3
    refine ev_ex 1 (c' := (9, [some (.ref 1), some (.int a0), some (.int a1), some (.ref 3), none], [.long x.toInt64, .int 0, .ref 3], hX c T')) rfl ?_
    refine xe_ls rfl a3' (okn (k := 0) (by decide) (by decide)) ?_
    refine ev_ex 2 (c' := (22, [some (.ref 1), some (.int a0), some (.int a1), some (.ref 3), none], [.int 0], hX c (tL T' 3 0 x.toInt64))) rfl ?_
    exact ev_ret rfl rfl rfl ⟨_, _, rfl, rfl, hq⟩
  · rcases he with ⟨rfl, hq⟩ | ⟨rfl, hq⟩
    · refine Or.inr ⟨2, 13, 15, [some (.ref 1), some (.int a0), some (.int a1), some (.ref 3), none], rfl, rfl, rfl, ?_⟩
      refine ev_ex 1 (c' := (16, [some (.ref 1), some (.int a0), some (.int a1), some (.ref 3), none], [.int 1], hX c T')) rfl ?_
      exact ev_ret rfl rfl rfl ⟨_, _, rfl, rfl, hq⟩
    · refine Or.inr ⟨1, 17, 19, [some (.ref 1), some (.int a0), some (.int a1), some (.ref 3), none], rfl, rfl, rfl, ?_⟩
      refine ev_ex 1 (c' := (20, [some (.ref 1), some (.int a0), some (.int a1), some (.ref 3), none], [.int 2], hX c T')) rfl ?_
      exact ev_ret rfl rfl rfl ⟨_, _, rfl, rfl, hq⟩
set_option maxRecDepth 8000 in
theorem wl_arrives (a0 : Int32) (a3 : ar T 3 22 1) (H : XIt c d m_X_arrives [.ref 1, .int a0] T (fun x T' => Q 0 (tL T' 3 0 x.toInt64)) (fun e T' => (e = 2 ∧ Q 1 T'))) : XI c (d + 1) m_L_arrives [.ref 1, .int a0, .ref 3] T Q := by
  refine ⟨q_L_arrives, rfl, Nat.le_of_ble_eq_true rfl, ?_⟩
  refine ev_ex 4 (c' := (4, [some (.ref 1), some (.int a0), some (.ref 3), none], [.int a0, .ref 1, .int 0, .ref 3], hX c T)) rfl ?_
  refine ev_callC (M := q_L_arrives) (M' := q_X_arrives) rfl rfl rfl (Nat.le_of_ble_eq_true rfl) (Nat.le_of_ble_eq_true rfl) (x_rcv (T := T) (ob_lit (i := 0) rfl (by decide) rfl) ⟨by decide, by decide⟩ _ _) rfl rfl (fun e => by cases e) rfl (fun e => by cases e) (cal_mono (XIt_sg H) ?_)
  rintro r σ' (⟨x, T', rfl, rfl, hq, hs⟩ | ⟨e, T', rfl, rfl, he⟩)
  · refine Or.inl ⟨_, rfl, ?_⟩
    have a3' := (hs 3).2 22 1 (by decide) a3
    refine ev_ex 1 (c' := (8, [some (.ref 1), some (.int a0), some (.ref 3), none], [.long x.toInt64, .int 0, .ref 3], hX c T')) rfl ?_
    refine xe_ls rfl a3' (okn (k := 0) (by decide) (by decide)) ?_
    refine ev_ex 2 (c' := (16, [some (.ref 1), some (.int a0), some (.ref 3), none], [.int 0], hX c (tL T' 3 0 x.toInt64))) rfl ?_
    exact ev_ret rfl rfl rfl ⟨_, _, rfl, rfl, hq⟩
  · rcases he with ⟨rfl, hq⟩
    · refine Or.inr ⟨2, 12, 13, [some (.ref 1), some (.int a0), some (.ref 3), none], rfl, rfl, rfl, ?_⟩
      refine ev_ex 1 (c' := (14, [some (.ref 1), some (.int a0), some (.ref 3), none], [.int 1], hX c T')) rfl ?_
      exact ev_ret rfl rfl rfl ⟨_, _, rfl, rfl, hq⟩
set_option maxRecDepth 8000 in
theorem wl_meets (a0 : Int32) (a1 : Int32) (a3 : ar T 3 22 1) (H : XIt c d m_X_meets [.ref 1, .int a0, .int a1] T (fun x T' => Q 0 (tL T' 3 0 x.toInt64)) (fun e T' => (e = 2 ∧ Q 1 T') ∨ (e = 1 ∧ Q 2 T'))) : XI c (d + 1) m_L_meets [.ref 1, .int a0, .int a1, .ref 3] T Q := by
  refine ⟨q_L_meets, rfl, Nat.le_of_ble_eq_true rfl, ?_⟩
  refine ev_ex 5 (c' := (5, [some (.ref 1), some (.int a0), some (.int a1), some (.ref 3), none], [.int a1, .int a0, .ref 1, .int 0, .ref 3], hX c T)) rfl ?_
  refine ev_callC (M := q_L_meets) (M' := q_X_meets) rfl rfl rfl (Nat.le_of_ble_eq_true rfl) (Nat.le_of_ble_eq_true rfl) (x_rcv (T := T) (ob_lit (i := 0) rfl (by decide) rfl) ⟨by decide, by decide⟩ _ _) rfl rfl (fun e => by cases e) rfl (fun e => by cases e) (cal_mono (XIt_sg H) ?_)
  rintro r σ' (⟨x, T', rfl, rfl, hq, hs⟩ | ⟨e, T', rfl, rfl, he⟩)
  · refine Or.inl ⟨_, rfl, ?_⟩
    have a3' := (hs 3).2 22 1 (by decide) a3
    refine ev_ex 1 (c' := (9, [some (.ref 1), some (.int a0), some (.int a1), some (.ref 3), none], [.long x.toInt64, .int 0, .ref 3], hX c T')) rfl ?_
    refine xe_ls rfl a3' (okn (k := 0) (by decide) (by decide)) ?_
    refine ev_ex 2 (c' := (22, [some (.ref 1), some (.int a0), some (.int a1), some (.ref 3), none], [.int 0], hX c (tL T' 3 0 x.toInt64))) rfl ?_
    exact ev_ret rfl rfl rfl ⟨_, _, rfl, rfl, hq⟩
  · rcases he with ⟨rfl, hq⟩ | ⟨rfl, hq⟩
    · refine Or.inr ⟨2, 13, 15, [some (.ref 1), some (.int a0), some (.int a1), some (.ref 3), none], rfl, rfl, rfl, ?_⟩
      refine ev_ex 1 (c' := (16, [some (.ref 1), some (.int a0), some (.int a1), some (.ref 3), none], [.int 1], hX c T')) rfl ?_
      exact ev_ret rfl rfl rfl ⟨_, _, rfl, rfl, hq⟩
    · refine Or.inr ⟨1, 17, 19, [some (.ref 1), some (.int a0), some (.int a1), some (.ref 3), none], rfl, rfl, rfl, ?_⟩
      refine ev_ex 1 (c' := (20, [some (.ref 1), some (.int a0), some (.int a1), some (.ref 3), none], [.int 2], hX c T')) rfl ?_
      exact ev_ret rfl rfl rfl ⟨_, _, rfl, rfl, hq⟩
set_option maxRecDepth 8000 in
theorem wl_melted (a0 : Int32) (a1 : Int32) (a3 : ar T 3 22 1) (H : XIt c d m_X_melted [.ref 1, .int a0, .int a1] T (fun x T' => Q 0 (tL T' 3 0 x.toInt64)) (fun e T' => (e = 1 ∧ Q 1 T'))) : XI c (d + 1) m_L_melted [.ref 1, .int a0, .int a1, .ref 3] T Q := by
  refine ⟨q_L_melted, rfl, Nat.le_of_ble_eq_true rfl, ?_⟩
  refine ev_ex 5 (c' := (5, [some (.ref 1), some (.int a0), some (.int a1), some (.ref 3), none], [.int a1, .int a0, .ref 1, .int 0, .ref 3], hX c T)) rfl ?_
  refine ev_callC (M := q_L_melted) (M' := q_X_melted) rfl rfl rfl (Nat.le_of_ble_eq_true rfl) (Nat.le_of_ble_eq_true rfl) (x_rcv (T := T) (ob_lit (i := 0) rfl (by decide) rfl) ⟨by decide, by decide⟩ _ _) rfl rfl (fun e => by cases e) rfl (fun e => by cases e) (cal_mono (XIt_sg H) ?_)
  rintro r σ' (⟨x, T', rfl, rfl, hq, hs⟩ | ⟨e, T', rfl, rfl, he⟩)
  · refine Or.inl ⟨_, rfl, ?_⟩
    have a3' := (hs 3).2 22 1 (by decide) a3
    refine ev_ex 1 (c' := (9, [some (.ref 1), some (.int a0), some (.int a1), some (.ref 3), none], [.long x.toInt64, .int 0, .ref 3], hX c T')) rfl ?_
    refine xe_ls rfl a3' (okn (k := 0) (by decide) (by decide)) ?_
    refine ev_ex 2 (c' := (18, [some (.ref 1), some (.int a0), some (.int a1), some (.ref 3), none], [.int 0], hX c (tL T' 3 0 x.toInt64))) rfl ?_
    exact ev_ret rfl rfl rfl ⟨_, _, rfl, rfl, hq⟩
  · rcases he with ⟨rfl, hq⟩
    · refine Or.inr ⟨1, 13, 15, [some (.ref 1), some (.int a0), some (.int a1), some (.ref 3), none], rfl, rfl, rfl, ?_⟩
      refine ev_ex 1 (c' := (16, [some (.ref 1), some (.int a0), some (.int a1), some (.ref 3), none], [.int 1], hX c T')) rfl ?_
      exact ev_ret rfl rfl rfl ⟨_, _, rfl, rfl, hq⟩
set_option maxRecDepth 8000 in
theorem wl_quietest (a0 : Int32) (a1 : Int32) (a3 : ar T 3 22 1) (H : XIt c d m_X_quietest [.ref 1, .int a0, .int a1] T (fun x T' => Q 0 (tL T' 3 0 x.toInt64)) (fun e T' => (e = 1 ∧ Q 1 T'))) : XI c (d + 1) m_L_quietest [.ref 1, .int a0, .int a1, .ref 3] T Q := by
  refine ⟨q_L_quietest, rfl, Nat.le_of_ble_eq_true rfl, ?_⟩
  refine ev_ex 5 (c' := (5, [some (.ref 1), some (.int a0), some (.int a1), some (.ref 3), none], [.int a1, .int a0, .ref 1, .int 0, .ref 3], hX c T)) rfl ?_
  refine ev_callC (M := q_L_quietest) (M' := q_X_quietest) rfl rfl rfl (Nat.le_of_ble_eq_true rfl) (Nat.le_of_ble_eq_true rfl) (x_rcv (T := T) (ob_lit (i := 0) rfl (by decide) rfl) ⟨by decide, by decide⟩ _ _) rfl rfl (fun e => by cases e) rfl (fun e => by cases e) (cal_mono (XIt_sg H) ?_)
  rintro r σ' (⟨x, T', rfl, rfl, hq, hs⟩ | ⟨e, T', rfl, rfl, he⟩)
  · refine Or.inl ⟨_, rfl, ?_⟩
    have a3' := (hs 3).2 22 1 (by decide) a3
    refine ev_ex 1 (c' := (9, [some (.ref 1), some (.int a0), some (.int a1), some (.ref 3), none], [.long x.toInt64, .int 0, .ref 3], hX c T')) rfl ?_
    refine xe_ls rfl a3' (okn (k := 0) (by decide) (by decide)) ?_
    refine ev_ex 2 (c' := (18, [some (.ref 1), some (.int a0), some (.int a1), some (.ref 3), none], [.int 0], hX c (tL T' 3 0 x.toInt64))) rfl ?_
    exact ev_ret rfl rfl rfl ⟨_, _, rfl, rfl, hq⟩
  · rcases he with ⟨rfl, hq⟩
    · refine Or.inr ⟨1, 13, 15, [some (.ref 1), some (.int a0), some (.int a1), some (.ref 3), none], rfl, rfl, rfl, ?_⟩
      refine ev_ex 1 (c' := (16, [some (.ref 1), some (.int a0), some (.int a1), some (.ref 3), none], [.int 1], hX c T')) rfl ?_
      exact ev_ret rfl rfl rfl ⟨_, _, rfl, rfl, hq⟩
set_option maxRecDepth 8000 in
theorem wl_comesBack (a0 : Int32) (a3 : ar T 3 22 1) (H : XIt c d m_X_comesBack [.ref 1, .int a0] T (fun x T' => Q 0 (tL T' 3 0 x.toInt64)) (fun e T' => (e = 1 ∧ Q 1 T'))) : XI c (d + 1) m_L_comesBack [.ref 1, .int a0, .ref 3] T Q := by
  refine ⟨q_L_comesBack, rfl, Nat.le_of_ble_eq_true rfl, ?_⟩
  refine ev_ex 4 (c' := (4, [some (.ref 1), some (.int a0), some (.ref 3), none], [.int a0, .ref 1, .int 0, .ref 3], hX c T)) rfl ?_
  refine ev_callC (M := q_L_comesBack) (M' := q_X_comesBack) rfl rfl rfl (Nat.le_of_ble_eq_true rfl) (Nat.le_of_ble_eq_true rfl) (x_rcv (T := T) (ob_lit (i := 0) rfl (by decide) rfl) ⟨by decide, by decide⟩ _ _) rfl rfl (fun e => by cases e) rfl (fun e => by cases e) (cal_mono (XIt_sg H) ?_)
  rintro r σ' (⟨x, T', rfl, rfl, hq, hs⟩ | ⟨e, T', rfl, rfl, he⟩)
  · refine Or.inl ⟨_, rfl, ?_⟩
    have a3' := (hs 3).2 22 1 (by decide) a3
    refine ev_ex 1 (c' := (8, [some (.ref 1), some (.int a0), some (.ref 3), none], [.long x.toInt64, .int 0, .ref 3], hX c T')) rfl ?_
    refine xe_ls rfl a3' (okn (k := 0) (by decide) (by decide)) ?_
    refine ev_ex 2 (c' := (16, [some (.ref 1), some (.int a0), some (.ref 3), none], [.int 0], hX c (tL T' 3 0 x.toInt64))) rfl ?_
    exact ev_ret rfl rfl rfl ⟨_, _, rfl, rfl, hq⟩
  · rcases he with ⟨rfl, hq⟩
    · refine Or.inr ⟨1, 12, 13, [some (.ref 1), some (.int a0), some (.ref 3), none], rfl, rfl, rfl, ?_⟩
      refine ev_ex 1 (c' := (14, [some (.ref 1), some (.int a0), some (.ref 3), none], [.int 1], hX c T')) rfl ?_
      exact ev_ret rfl rfl rfl ⟨_, _, rfl, rfl, hq⟩
set_option maxRecDepth 8000 in
theorem wl_mocksIn (a0 : Int32) (a1 : Int32) (a3 : ar T 3 22 1) (H : XIt c d m_X_mocksIn [.ref 1, .int a0, .int a1] T (fun x T' => Q 0 (tL T' 3 0 x.toInt64)) (fun e T' => (e = 2 ∧ Q 1 T') ∨ (e = 1 ∧ Q 2 T'))) : XI c (d + 1) m_L_mocksIn [.ref 1, .int a0, .int a1, .ref 3] T Q := by
  refine ⟨q_L_mocksIn, rfl, Nat.le_of_ble_eq_true rfl, ?_⟩
  refine ev_ex 5 (c' := (5, [some (.ref 1), some (.int a0), some (.int a1), some (.ref 3), none], [.int a1, .int a0, .ref 1, .int 0, .ref 3], hX c T)) rfl ?_
  refine ev_callC (M := q_L_mocksIn) (M' := q_X_mocksIn) rfl rfl rfl (Nat.le_of_ble_eq_true rfl) (Nat.le_of_ble_eq_true rfl) (x_rcv (T := T) (ob_lit (i := 0) rfl (by decide) rfl) ⟨by decide, by decide⟩ _ _) rfl rfl (fun e => by cases e) rfl (fun e => by cases e) (cal_mono (XIt_sg H) ?_)
  rintro r σ' (⟨x, T', rfl, rfl, hq, hs⟩ | ⟨e, T', rfl, rfl, he⟩)
  · refine Or.inl ⟨_, rfl, ?_⟩
    have a3' := (hs 3).2 22 1 (by decide) a3
    refine ev_ex 1 (c' := (9, [some (.ref 1), some (.int a0), some (.int a1), some (.ref 3), none], [.long x.toInt64, .int 0, .ref 3], hX c T')) rfl ?_
    refine xe_ls rfl a3' (okn (k := 0) (by decide) (by decide)) ?_
    refine ev_ex 2 (c' := (22, [some (.ref 1), some (.int a0), some (.int a1), some (.ref 3), none], [.int 0], hX c (tL T' 3 0 x.toInt64))) rfl ?_
    exact ev_ret rfl rfl rfl ⟨_, _, rfl, rfl, hq⟩
  · rcases he with ⟨rfl, hq⟩ | ⟨rfl, hq⟩
    · refine Or.inr ⟨2, 13, 15, [some (.ref 1), some (.int a0), some (.int a1), some (.ref 3), none], rfl, rfl, rfl, ?_⟩
      refine ev_ex 1 (c' := (16, [some (.ref 1), some (.int a0), some (.int a1), some (.ref 3), none], [.int 1], hX c T')) rfl ?_
      exact ev_ret rfl rfl rfl ⟨_, _, rfl, rfl, hq⟩
    · refine Or.inr ⟨1, 17, 19, [some (.ref 1), some (.int a0), some (.int a1), some (.ref 3), none], rfl, rfl, rfl, ?_⟩
      refine ev_ex 1 (c' := (20, [some (.ref 1), some (.int a0), some (.int a1), some (.ref 3), none], [.int 2], hX c T')) rfl ?_
      exact ev_ret rfl rfl rfl ⟨_, _, rfl, rfl, hq⟩
set_option maxRecDepth 8000 in
theorem wl_seen (a0 : Int32) (a3 : ar T 3 22 1) (H : XIt c d m_X_seen [.ref 1, .int a0] T (fun x T' => Q 0 (tL T' 3 0 x.toInt64)) (fun e T' => (e = 2 ∧ Q 1 T') ∨ (e = 3 ∧ Q 2 T') ∨ (e = 1 ∧ Q 3 T'))) : XI c (d + 1) m_L_seen [.ref 1, .int a0, .ref 3] T Q := by
  refine ⟨q_L_seen, rfl, Nat.le_of_ble_eq_true rfl, ?_⟩
  refine ev_ex 4 (c' := (4, [some (.ref 1), some (.int a0), some (.ref 3), none], [.int a0, .ref 1, .int 0, .ref 3], hX c T)) rfl ?_
  refine ev_callC (M := q_L_seen) (M' := q_X_seen) rfl rfl rfl (Nat.le_of_ble_eq_true rfl) (Nat.le_of_ble_eq_true rfl) (x_rcv (T := T) (ob_lit (i := 0) rfl (by decide) rfl) ⟨by decide, by decide⟩ _ _) rfl rfl (fun e => by cases e) rfl (fun e => by cases e) (cal_mono (XIt_sg H) ?_)
  rintro r σ' (⟨x, T', rfl, rfl, hq, hs⟩ | ⟨e, T', rfl, rfl, he⟩)
  · refine Or.inl ⟨_, rfl, ?_⟩
    have a3' := (hs 3).2 22 1 (by decide) a3
    refine ev_ex 1 (c' := (8, [some (.ref 1), some (.int a0), some (.ref 3), none], [.long x.toInt64, .int 0, .ref 3], hX c T')) rfl ?_
    refine xe_ls rfl a3' (okn (k := 0) (by decide) (by decide)) ?_
    refine ev_ex 2 (c' := (22, [some (.ref 1), some (.int a0), some (.ref 3), none], [.int 0], hX c (tL T' 3 0 x.toInt64))) rfl ?_
    exact ev_ret rfl rfl rfl ⟨_, _, rfl, rfl, hq⟩
  · rcases he with ⟨rfl, hq⟩ | ⟨rfl, hq⟩ | ⟨rfl, hq⟩
    · refine Or.inr ⟨2, 12, 13, [some (.ref 1), some (.int a0), some (.ref 3), none], rfl, rfl, rfl, ?_⟩
      refine ev_ex 1 (c' := (14, [some (.ref 1), some (.int a0), some (.ref 3), none], [.int 1], hX c T')) rfl ?_
      exact ev_ret rfl rfl rfl ⟨_, _, rfl, rfl, hq⟩
    · refine Or.inr ⟨3, 15, 16, [some (.ref 1), some (.int a0), some (.ref 3), none], rfl, rfl, rfl, ?_⟩
      refine ev_ex 1 (c' := (17, [some (.ref 1), some (.int a0), some (.ref 3), none], [.int 2], hX c T')) rfl ?_
      exact ev_ret rfl rfl rfl ⟨_, _, rfl, rfl, hq⟩
    · refine Or.inr ⟨1, 18, 19, [some (.ref 1), some (.int a0), some (.ref 3), none], rfl, rfl, rfl, ?_⟩
      refine ev_ex 1 (c' := (20, [some (.ref 1), some (.int a0), some (.ref 3), none], [.int 3], hX c T')) rfl ?_
      exact ev_ret rfl rfl rfl ⟨_, _, rfl, rfl, hq⟩
set_option maxRecDepth 8000 in
theorem wl_ever (a0 : Int32) (a1 : Int32) (a3 : ar T 3 22 1) (H : XIt c d m_X_ever [.ref 1, .int a0, .int a1] T (fun x T' => Q 0 (tL T' 3 0 x.toInt64)) (fun e T' => (e = 2 ∧ Q 1 T') ∨ (e = 1 ∧ Q 2 T'))) : XI c (d + 1) m_L_ever [.ref 1, .int a0, .int a1, .ref 3] T Q := by
  refine ⟨q_L_ever, rfl, Nat.le_of_ble_eq_true rfl, ?_⟩
  refine ev_ex 5 (c' := (5, [some (.ref 1), some (.int a0), some (.int a1), some (.ref 3), none], [.int a1, .int a0, .ref 1, .int 0, .ref 3], hX c T)) rfl ?_
  refine ev_callC (M := q_L_ever) (M' := q_X_ever) rfl rfl rfl (Nat.le_of_ble_eq_true rfl) (Nat.le_of_ble_eq_true rfl) (x_rcv (T := T) (ob_lit (i := 0) rfl (by decide) rfl) ⟨by decide, by decide⟩ _ _) rfl rfl (fun e => by cases e) rfl (fun e => by cases e) (cal_mono (XIt_sg H) ?_)
  rintro r σ' (⟨x, T', rfl, rfl, hq, hs⟩ | ⟨e, T', rfl, rfl, he⟩)
  · refine Or.inl ⟨_, rfl, ?_⟩
    have a3' := (hs 3).2 22 1 (by decide) a3
    refine ev_ex 1 (c' := (9, [some (.ref 1), some (.int a0), some (.int a1), some (.ref 3), none], [.long x.toInt64, .int 0, .ref 3], hX c T')) rfl ?_
    refine xe_ls rfl a3' (okn (k := 0) (by decide) (by decide)) ?_
    refine ev_ex 2 (c' := (22, [some (.ref 1), some (.int a0), some (.int a1), some (.ref 3), none], [.int 0], hX c (tL T' 3 0 x.toInt64))) rfl ?_
    exact ev_ret rfl rfl rfl ⟨_, _, rfl, rfl, hq⟩
  · rcases he with ⟨rfl, hq⟩ | ⟨rfl, hq⟩
    · refine Or.inr ⟨2, 13, 15, [some (.ref 1), some (.int a0), some (.int a1), some (.ref 3), none], rfl, rfl, rfl, ?_⟩
      refine ev_ex 1 (c' := (16, [some (.ref 1), some (.int a0), some (.int a1), some (.ref 3), none], [.int 1], hX c T')) rfl ?_
      exact ev_ret rfl rfl rfl ⟨_, _, rfl, rfl, hq⟩
    · refine Or.inr ⟨1, 17, 19, [some (.ref 1), some (.int a0), some (.int a1), some (.ref 3), none], rfl, rfl, rfl, ?_⟩
      refine ev_ex 1 (c' := (20, [some (.ref 1), some (.int a0), some (.int a1), some (.ref 3), none], [.int 2], hX c T')) rfl ?_
      exact ev_ret rfl rfl rfl ⟨_, _, rfl, rfl, hq⟩
set_option maxRecDepth 8000 in
theorem wl_fewest (a0 : Int32) (a1 : Int32) (a3 : ar T 3 22 1) (H : XIt c d m_X_fewest [.ref 1, .int a0, .int a1] T (fun x T' => Q 0 (tL T' 3 0 x.toInt64)) (fun e T' => (e = 1 ∧ Q 1 T'))) : XI c (d + 1) m_L_fewest [.ref 1, .int a0, .int a1, .ref 3] T Q := by
  refine ⟨q_L_fewest, rfl, Nat.le_of_ble_eq_true rfl, ?_⟩
  refine ev_ex 5 (c' := (5, [some (.ref 1), some (.int a0), some (.int a1), some (.ref 3), none], [.int a1, .int a0, .ref 1, .int 0, .ref 3], hX c T)) rfl ?_
  refine ev_callC (M := q_L_fewest) (M' := q_X_fewest) rfl rfl rfl (Nat.le_of_ble_eq_true rfl) (Nat.le_of_ble_eq_true rfl) (x_rcv (T := T) (ob_lit (i := 0) rfl (by decide) rfl) ⟨by decide, by decide⟩ _ _) rfl rfl (fun e => by cases e) rfl (fun e => by cases e) (cal_mono (XIt_sg H) ?_)
  rintro r σ' (⟨x, T', rfl, rfl, hq, hs⟩ | ⟨e, T', rfl, rfl, he⟩)
  · refine Or.inl ⟨_, rfl, ?_⟩
    have a3' := (hs 3).2 22 1 (by decide) a3
    refine ev_ex 1 (c' := (9, [some (.ref 1), some (.int a0), some (.int a1), some (.ref 3), none], [.long x.toInt64, .int 0, .ref 3], hX c T')) rfl ?_
    refine xe_ls rfl a3' (okn (k := 0) (by decide) (by decide)) ?_
    refine ev_ex 2 (c' := (18, [some (.ref 1), some (.int a0), some (.int a1), some (.ref 3), none], [.int 0], hX c (tL T' 3 0 x.toInt64))) rfl ?_
    exact ev_ret rfl rfl rfl ⟨_, _, rfl, rfl, hq⟩
  · rcases he with ⟨rfl, hq⟩
    · refine Or.inr ⟨1, 13, 15, [some (.ref 1), some (.int a0), some (.int a1), some (.ref 3), none], rfl, rfl, rfl, ?_⟩
      refine ev_ex 1 (c' := (16, [some (.ref 1), some (.int a0), some (.int a1), some (.ref 3), none], [.int 1], hX c T')) rfl ?_
      exact ev_ret rfl rfl rfl ⟨_, _, rfl, rfl, hq⟩
set_option maxRecDepth 8000 in
theorem wl_tray (a0 : Int32) (a1 : Int32) (a2 : Int32) (H : XVt c d m_X_tray [.ref 1, .int a0, .int a1, .int a2] T (fun T' => Q 0 T') (fun e T' => (e = 2 ∧ Q 1 T') ∨ (e = 1 ∧ Q 2 T'))) : XI c (d + 1) m_L_tray [.ref 1, .int a0, .int a1, .int a2] T Q := by
  refine ⟨q_L_tray, rfl, Nat.le_of_ble_eq_true rfl, ?_⟩
  refine ev_ex 4 (c' := (4, [some (.ref 1), some (.int a0), some (.int a1), some (.int a2), none], [.int a2, .int a1, .int a0, .ref 1], hX c T)) rfl ?_
  refine ev_callC (M := q_L_tray) (M' := q_X_tray) rfl rfl rfl (Nat.le_of_ble_eq_true rfl) (Nat.le_of_ble_eq_true rfl) (x_rcv (T := T) (ob_lit (i := 0) rfl (by decide) rfl) ⟨by decide, by decide⟩ _ _) rfl rfl (fun e => by cases e) rfl (fun e => by cases e) (cal_mono (XVt_sg H) ?_)
  rintro r σ' (⟨T', rfl, rfl, hq, hs⟩ | ⟨e, T', rfl, rfl, he⟩)
  · refine Or.inl ⟨_, rfl, ?_⟩
    refine ev_ex 2 (c' := (19, [some (.ref 1), some (.int a0), some (.int a1), some (.int a2), none], [.int 0], hX c T')) rfl ?_
    exact ev_ret rfl rfl rfl ⟨_, _, rfl, rfl, hq⟩
  · rcases he with ⟨rfl, hq⟩ | ⟨rfl, hq⟩
    · refine Or.inr ⟨2, 10, 12, [some (.ref 1), some (.int a0), some (.int a1), some (.int a2), none], rfl, rfl, rfl, ?_⟩
      refine ev_ex 1 (c' := (13, [some (.ref 1), some (.int a0), some (.int a1), some (.int a2), none], [.int 1], hX c T')) rfl ?_
      exact ev_ret rfl rfl rfl ⟨_, _, rfl, rfl, hq⟩
    · refine Or.inr ⟨1, 14, 16, [some (.ref 1), some (.int a0), some (.int a1), some (.int a2), none], rfl, rfl, rfl, ?_⟩
      refine ev_ex 1 (c' := (17, [some (.ref 1), some (.int a0), some (.int a1), some (.int a2), none], [.int 2], hX c T')) rfl ?_
      exact ev_ret rfl rfl rfl ⟨_, _, rfl, rfl, hq⟩
set_option maxRecDepth 8000 in
theorem wl_write (a0 : Int32) (a1 : Int32) (a2 : Int64) (a3 : ar T 3 22 1) (H : XJt c d m_X_write [.ref 1, .int a0, .int a1, .long a2] T (fun x T' => Q 0 (tL T' 3 0 x)) (fun e T' => (e = 2 ∧ Q 1 T') ∨ (e = 3 ∧ Q 2 T') ∨ (e = 4 ∧ Q 3 T'))) : XI c (d + 1) m_L_write [.ref 1, .int a0, .int a1, .long a2, .ref 3] T Q := by
  refine ⟨q_L_write, rfl, Nat.le_of_ble_eq_true rfl, ?_⟩
  refine ev_ex 6 (c' := (7, [some (.ref 1), some (.int a0), some (.int a1), some (.long a2), none, some (.ref 3), none], [.long a2, .int a1, .int a0, .ref 1, .int 0, .ref 3], hX c T)) rfl ?_
  refine ev_callC (M := q_L_write) (M' := q_X_write) rfl rfl rfl (Nat.le_of_ble_eq_true rfl) (Nat.le_of_ble_eq_true rfl) (x_rcv (T := T) (ob_lit (i := 0) rfl (by decide) rfl) ⟨by decide, by decide⟩ _ _) rfl rfl (fun e => by cases e) rfl (fun e => by cases e) (cal_mono (XJt_sg H) ?_)
  rintro r σ' (⟨x, T', rfl, rfl, hq, hs⟩ | ⟨e, T', rfl, rfl, he⟩)
  · refine Or.inl ⟨_, rfl, ?_⟩
    have a3' := (hs 3).2 22 1 (by decide) a3
    refine xe_ls rfl a3' (okn (k := 0) (by decide) (by decide)) ?_
    refine ev_ex 2 (c' := (27, [some (.ref 1), some (.int a0), some (.int a1), some (.long a2), none, some (.ref 3), none], [.int 0], hX c (tL T' 3 0 x))) rfl ?_
    exact ev_ret rfl rfl rfl ⟨_, _, rfl, rfl, hq⟩
  · rcases he with ⟨rfl, hq⟩ | ⟨rfl, hq⟩ | ⟨rfl, hq⟩
    · refine Or.inr ⟨2, 14, 16, [some (.ref 1), some (.int a0), some (.int a1), some (.long a2), none, some (.ref 3), none], rfl, rfl, rfl, ?_⟩
      refine ev_ex 1 (c' := (17, [some (.ref 1), some (.int a0), some (.int a1), some (.long a2), none, some (.ref 3), none], [.int 1], hX c T')) rfl ?_
      exact ev_ret rfl rfl rfl ⟨_, _, rfl, rfl, hq⟩
    · refine Or.inr ⟨3, 18, 20, [some (.ref 1), some (.int a0), some (.int a1), some (.long a2), none, some (.ref 3), none], rfl, rfl, rfl, ?_⟩
      refine ev_ex 1 (c' := (21, [some (.ref 1), some (.int a0), some (.int a1), some (.long a2), none, some (.ref 3), none], [.int 2], hX c T')) rfl ?_
      exact ev_ret rfl rfl rfl ⟨_, _, rfl, rfl, hq⟩
    · refine Or.inr ⟨4, 22, 24, [some (.ref 1), some (.int a0), some (.int a1), some (.long a2), none, some (.ref 3), none], rfl, rfl, rfl, ?_⟩
      refine ev_ex 1 (c' := (25, [some (.ref 1), some (.int a0), some (.int a1), some (.long a2), none, some (.ref 3), none], [.int 3], hX c T')) rfl ?_
      exact ev_ret rfl rfl rfl ⟨_, _, rfl, rfl, hq⟩
set_option maxRecDepth 8000 in
theorem wl_copy (a0 : Int32) (a3 : ar T 3 22 1) (H : XIt c d m_X_copy [.ref 1, .int a0] T (fun x T' => Q 0 (tL T' 3 0 x.toInt64)) (fun e T' => (e = 2 ∧ Q 1 T') ∨ (e = 3 ∧ Q 2 T'))) : XI c (d + 1) m_L_copy [.ref 1, .int a0, .ref 3] T Q := by
  refine ⟨q_L_copy, rfl, Nat.le_of_ble_eq_true rfl, ?_⟩
  refine ev_ex 4 (c' := (4, [some (.ref 1), some (.int a0), some (.ref 3), none], [.int a0, .ref 1, .int 0, .ref 3], hX c T)) rfl ?_
  refine ev_callC (M := q_L_copy) (M' := q_X_copy) rfl rfl rfl (Nat.le_of_ble_eq_true rfl) (Nat.le_of_ble_eq_true rfl) (x_rcv (T := T) (ob_lit (i := 0) rfl (by decide) rfl) ⟨by decide, by decide⟩ _ _) rfl rfl (fun e => by cases e) rfl (fun e => by cases e) (cal_mono (XIt_sg H) ?_)
  rintro r σ' (⟨x, T', rfl, rfl, hq, hs⟩ | ⟨e, T', rfl, rfl, he⟩)
  · refine Or.inl ⟨_, rfl, ?_⟩
    have a3' := (hs 3).2 22 1 (by decide) a3
    refine ev_ex 1 (c' := (8, [some (.ref 1), some (.int a0), some (.ref 3), none], [.long x.toInt64, .int 0, .ref 3], hX c T')) rfl ?_
    refine xe_ls rfl a3' (okn (k := 0) (by decide) (by decide)) ?_
    refine ev_ex 2 (c' := (19, [some (.ref 1), some (.int a0), some (.ref 3), none], [.int 0], hX c (tL T' 3 0 x.toInt64))) rfl ?_
    exact ev_ret rfl rfl rfl ⟨_, _, rfl, rfl, hq⟩
  · rcases he with ⟨rfl, hq⟩ | ⟨rfl, hq⟩
    · refine Or.inr ⟨2, 12, 13, [some (.ref 1), some (.int a0), some (.ref 3), none], rfl, rfl, rfl, ?_⟩
      refine ev_ex 1 (c' := (14, [some (.ref 1), some (.int a0), some (.ref 3), none], [.int 1], hX c T')) rfl ?_
      exact ev_ret rfl rfl rfl ⟨_, _, rfl, rfl, hq⟩
    · refine Or.inr ⟨3, 15, 16, [some (.ref 1), some (.int a0), some (.ref 3), none], rfl, rfl, rfl, ?_⟩
      refine ev_ex 1 (c' := (17, [some (.ref 1), some (.int a0), some (.ref 3), none], [.int 2], hX c T')) rfl ?_
      exact ev_ret rfl rfl rfl ⟨_, _, rfl, rfl, hq⟩
set_option maxRecDepth 8000 in
theorem wl_image (a0 : Int32) (H : XVt c d m_X_image [.ref 1, .int a0] T (fun T' => Q 0 T') (fun e T' => (e = 2 ∧ Q 1 T'))) : XI c (d + 1) m_L_image [.ref 1, .int a0] T Q := by
  refine ⟨q_L_image, rfl, Nat.le_of_ble_eq_true rfl, ?_⟩
  refine ev_ex 2 (c' := (2, [some (.ref 1), some (.int a0), none], [.int a0, .ref 1], hX c T)) rfl ?_
  refine ev_callC (M := q_L_image) (M' := q_X_image) rfl rfl rfl (Nat.le_of_ble_eq_true rfl) (Nat.le_of_ble_eq_true rfl) (x_rcv (T := T) (ob_lit (i := 0) rfl (by decide) rfl) ⟨by decide, by decide⟩ _ _) rfl rfl (fun e => by cases e) rfl (fun e => by cases e) (cal_mono (XVt_sg H) ?_)
  rintro r σ' (⟨T', rfl, rfl, hq, hs⟩ | ⟨e, T', rfl, rfl, he⟩)
  · refine Or.inl ⟨_, rfl, ?_⟩
    refine ev_ex 2 (c' := (12, [some (.ref 1), some (.int a0), none], [.int 0], hX c T')) rfl ?_
    exact ev_ret rfl rfl rfl ⟨_, _, rfl, rfl, hq⟩
  · rcases he with ⟨rfl, hq⟩
    · refine Or.inr ⟨2, 8, 9, [some (.ref 1), some (.int a0), none], rfl, rfl, rfl, ?_⟩
      refine ev_ex 1 (c' := (10, [some (.ref 1), some (.int a0), none], [.int 1], hX c T')) rfl ?_
      exact ev_ret rfl rfl rfl ⟨_, _, rfl, rfl, hq⟩
set_option maxRecDepth 8000 in
theorem wl_restore (a0 : Int32) (H : XVt c d m_X_restore [.ref 1, .int a0] T (fun T' => Q 0 T') (fun e T' => (e = 2 ∧ Q 1 T') ∨ (e = 3 ∧ Q 2 T'))) : XI c (d + 1) m_L_restore [.ref 1, .int a0] T Q := by
  refine ⟨q_L_restore, rfl, Nat.le_of_ble_eq_true rfl, ?_⟩
  refine ev_ex 2 (c' := (2, [some (.ref 1), some (.int a0), none], [.int a0, .ref 1], hX c T)) rfl ?_
  refine ev_callC (M := q_L_restore) (M' := q_X_restore) rfl rfl rfl (Nat.le_of_ble_eq_true rfl) (Nat.le_of_ble_eq_true rfl) (x_rcv (T := T) (ob_lit (i := 0) rfl (by decide) rfl) ⟨by decide, by decide⟩ _ _) rfl rfl (fun e => by cases e) rfl (fun e => by cases e) (cal_mono (XVt_sg H) ?_)
  rintro r σ' (⟨T', rfl, rfl, hq, hs⟩ | ⟨e, T', rfl, rfl, he⟩)
  · refine Or.inl ⟨_, rfl, ?_⟩
    refine ev_ex 2 (c' := (15, [some (.ref 1), some (.int a0), none], [.int 0], hX c T')) rfl ?_
    exact ev_ret rfl rfl rfl ⟨_, _, rfl, rfl, hq⟩
  · rcases he with ⟨rfl, hq⟩ | ⟨rfl, hq⟩
    · refine Or.inr ⟨2, 8, 9, [some (.ref 1), some (.int a0), none], rfl, rfl, rfl, ?_⟩
      refine ev_ex 1 (c' := (10, [some (.ref 1), some (.int a0), none], [.int 1], hX c T')) rfl ?_
      exact ev_ret rfl rfl rfl ⟨_, _, rfl, rfl, hq⟩
    · refine Or.inr ⟨3, 11, 12, [some (.ref 1), some (.int a0), none], rfl, rfl, rfl, ?_⟩
      refine ev_ex 1 (c' := (13, [some (.ref 1), some (.int a0), none], [.int 2], hX c T')) rfl ?_
      exact ev_ret rfl rfl rfl ⟨_, _, rfl, rfl, hq⟩
end LW1
