/-! strings: length, charAt -/
def strAt (c : CX) (w len : Nat) (f : Nat → Int32) : Prop := ∃ b : Nat, w % 4 = 0 ∧ b % 4 = 0 ∧ (t_old c.1 c.2.1)[w / 4]? = some (.inr (1, [.ref b, .int 0])) ∧ (t_old c.1 c.2.1)[b / 4]? = some (.inl (.byte, len, .inl f)) ∧ len < 2 ^ 31
def fvok (c : CX) : Prop := c.2.2.1 = .null ∨ ∃ a, c.2.2.1 = .ref a
section ST1
variable {c : CX} {d w len : Nat} {f : Nat → Int32} {σ : mj_H} {Q : PO}
theorem str_get (h : strAt c w len f) : ∃ b, b % 4 = 0 ∧ mj_get (cP c) σ w = some (.inr (1, [.ref b, .int 0])) ∧ mj_get (cP c) σ b = some (.inl (.byte, len, .inl f)) := by
  obtain ⟨b, h1, h2, h3, h4, -⟩ := h
  exact ⟨b, h2, by rw [mj_get0 h1]; exact h3, by rw [mj_get0 h2]; exact h4⟩
theorem str_rcv (h : strAt c w len f) (r : List Value) (idx : Nat) : mj_rcv (cP c) σ (.invokevirtual idx) 1 (.ref w :: r) = true := by
  obtain ⟨b, h1, h2, h3⟩ := str_get (σ := σ) h
  obtain ⟨-, h4, -⟩ := h
  unfold mj_rcv
  simp only [h2, h4]
  decide
theorem js_coder (h : strAt c w len f) (k : Q (.inl (some (.int 0))) σ) : cal (cP c) d m_JS_coder [.ref w] σ Q := by
  obtain ⟨b, h1, h2, h3⟩ := str_get (σ := σ) h
  obtain ⟨-, h4, -⟩ := h
  refine ⟨q_JS_coder, rfl, Nat.le_of_ble_eq_true rfl, ?_⟩
  refine ev_ex 3 (c' := (7, [some (.ref w)], [.ref w], σ)) rfl ?_
  refine ev_gf (v := .int 0) rfl rfl h2 ⟨fun _ => rfl, fun _ => h4⟩ rfl ?_
  refine ev_ex 1 (c' := (14, [some (.ref w)], [.int 0], σ)) rfl ?_
  exact ev_ret rfl rfl rfl k
theorem js_isLatin1 (h : strAt c w len f) (k : Q (.inl (some (.int 1))) σ) : cal (cP c) d m_JS_isLatin1 [.ref w] σ Q := by
  obtain ⟨b, h1, h2, h3⟩ := str_get (σ := σ) h
  obtain ⟨-, h4, -⟩ := h
  refine ⟨q_JS_isLatin1, rfl, Nat.le_of_ble_eq_true rfl, ?_⟩
  refine ev_ex 3 (c' := (7, [some (.ref w)], [.ref w], σ)) rfl ?_
  refine ev_gf (v := .int 0) rfl rfl h2 ⟨fun _ => rfl, fun _ => h4⟩ rfl ?_
  refine ev_ex 3 (c' := (18, [some (.ref w)], [.int 1], σ)) rfl ?_
  exact ev_ret rfl rfl rfl k
theorem js_length (h : strAt c w len f) (k : Q (.inl (some (.int (nI len)))) σ) : cal (cP c) (d + 1) m_JS_length [.ref w] σ Q := by
  obtain ⟨b, h1, h2, h3⟩ := str_get (σ := σ) h
  have h9 := h
  obtain ⟨-, h4, -, -, -, h5⟩ := h
  refine ⟨q_JS_length, rfl, Nat.le_of_ble_eq_true rfl, ?_⟩
  refine ev_ex 1 (c' := (1, [some (.ref w)], [.ref w], σ)) rfl ?_
  refine ev_gf (v := .ref b) rfl rfl h2 ⟨fun _ => rfl, fun _ => h4⟩ rfl ?_
  refine ev_len rfl h3 ?_
  refine ev_ex 1 (c' := (6, [some (.ref w)], [.ref w, .int (nI len)], σ)) rfl ?_
  refine ev_call (idx := 335) rfl rfl rfl (Nat.le_of_ble_eq_true rfl) (Nat.le_of_ble_eq_true rfl) (str_rcv h9 _ _) (js_coder h9 ⟨_, rfl, ?_⟩)
  refine ev_ex 1 (c' := (10, [some (.ref w)], [.int (nI len >>> (0 &&& 31))], σ)) rfl ?_
  refine ev_ret rfl rfl rfl ?_
  have e : nI len >>> ((0 : Int32) &&& 31) = nI len := by
    have : ((0 : Int32) &&& 31) = 0 := by decide
    rw [this]
    exact Int32.shiftRight_zero
  rw [e]
  exact k
theorem jp_check {i n : Nat} (hf : fvok c) (hi : i < n) (hn : n < 2 ^ 31) (k : Q (.inl (some (.int (nI i)))) σ) : cal (cP c) d m_JP_checkIndex [.int (nI i), .int (nI n), c.2.2.1] σ Q := by
  refine ⟨q_JP_checkIndex, rfl, ?_, ?_⟩
  · rcases hf with q | ⟨a, q⟩ <;> rw [q] <;> exact Nat.le_of_ble_eq_true rfl
  · have key : ∀ v : Value, v = .null ∨ (∃ a, v = .ref a) → ev (cP c) d m_JP_checkIndex 0 (mj_ent [.int (nI i), .int (nI n), v] q_JP_checkIndex.2.2.1) [] σ Q := by
      have body : ∀ v : Value, ev (cP c) d m_JP_checkIndex 0 [some (.int (nI i)), some (.int (nI n)), some v] [] σ Q := by
        intro v
        refine ev_ex 1 (c' := (1, [some (.int (nI i)), some (.int (nI n)), some v], [.int (nI i)], σ)) rfl ?_
        refine ev_if_lt (tgt := 9) rfl rfl (fun h => absurd h (nI_pos (by omega))) (fun h => ?_)
        refine ev_ex 2 (c' := (6, [some (.int (nI i)), some (.int (nI n)), some v], [.int (nI n), .int (nI i)], σ)) rfl ?_
        refine ev_icmp_lt (tgt := 16) rfl rfl (fun h => ?_) (fun h => absurd (nI_lt hi hn) h)
        refine ev_ex 1 (c' := (17, [some (.int (nI i)), some (.int (nI n)), some v], [.int (nI i)], σ)) rfl ?_
        exact ev_ret rfl rfl rfl k
      intro v hv
      rcases hv with rfl | ⟨a, rfl⟩
      · exact body _
      · exact body _
    exact key _ hf
theorem js_check {i n : Nat} (hf : fvok c) (hi : i < n) (hn : n < 2 ^ 31) (k : Q (.inl none) σ) : cal (cP c) (d + 1) m_JS_checkIndex [.int (nI i), .int (nI n)] σ Q := by
  refine ⟨q_JS_checkIndex, rfl, Nat.le_of_ble_eq_true rfl, ?_⟩
  refine ev_ex 3 (c' := (5, [some (.int (nI i)), some (.int (nI n))], [c.2.2.1, .int (nI n), .int (nI i)], σ)) rfl ?_
  refine ev_call (idx := 1059) rfl rfl rfl (Nat.le_of_ble_eq_true rfl) (Nat.le_of_ble_eq_true rfl) rfl (jp_check hf hi hn ⟨_, rfl, ?_⟩)
  refine ev_ex 1 (c' := (9, [some (.int (nI i)), some (.int (nI n))], [], σ)) rfl ?_
  exact ev_ret rfl rfl rfl k
theorem jl_charAt {i b : Nat} {g : Nat} (hf : fvok c) (hb : b % 4 = 0) (hg : mj_get (cP c) σ b = some (.inl (.byte, len, .inl f))) (hi : i < len) (hn : len < 2 ^ 31) (hv : f i = nI g) (hg2 : g < 128) (k : Q (.inl (some (.int (nI g)))) σ) : cal (cP c) (d + 2) m_JL_charAt [.ref b, .int (nI i)] σ Q := by
  refine ⟨q_JL_charAt, rfl, Nat.le_of_ble_eq_true rfl, ?_⟩
  refine ev_ex 2 (c' := (2, [some (.ref b), some (.int (nI i))], [.ref b, .int (nI i)], σ)) rfl ?_
  refine ev_len rfl hg ?_
  refine ev_call (idx := 9) rfl rfl rfl (Nat.le_of_ble_eq_true rfl) (Nat.le_of_ble_eq_true rfl) rfl (js_check hf hi hn ⟨_, rfl, ?_⟩)
  refine ev_ex 2 (c' := (8, [some (.ref b), some (.int (nI i))], [.int (nI i), .ref b], σ)) rfl ?_
  refine ev_ald (i := .baload) rfl (Or.inr (Or.inl rfl)) hg (okx_nI hi hn) (v := .int (nI g)) (by rw [show (nI i).toNatClampNeg = i from nI_clamp (by omega)]; simp only [mj_ald, hv]) ?_
  refine ev_ex 3 (c' := (14, [some (.ref b), some (.int (nI i))], [.int (((nI g &&& 255).toUInt32 % 65536).toInt32)], σ)) rfl ?_
  have e : (((nI g &&& 255).toUInt32 % 65536).toInt32) = nI g := by
    have : ∀ g : Nat, g < 128 → (((nI g &&& 255).toUInt32 % 65536).toInt32) = nI g := by decide +kernel
    exact this g hg2
  rw [e]
  refine ev_ret rfl rfl ?_ k
  have : ∀ g : Nat, g < 128 → narrow .char (.int (nI g)) = .int (nI g) := by decide +kernel
  show (if narrow .char (.int (nI g)) = .int (nI g) then some (some (Value.int (nI g))) else none) = _
  rw [if_pos (this g hg2)]
theorem js_charAt {i g : Nat} (h : strAt c w len f) (hf : fvok c) (hi : i < len) (hv : f i = nI g) (hg2 : g < 128) (k : Q (.inl (some (.int (nI g)))) σ) : cal (cP c) (d + 3) m_JS_charAt [.ref w, .int (nI i)] σ Q := by
  obtain ⟨b, h1, h2, h3⟩ := str_get (σ := σ) h
  have h9 := h
  obtain ⟨-, h4, -, -, -, h5⟩ := h
  refine ⟨q_JS_charAt, rfl, Nat.le_of_ble_eq_true rfl, ?_⟩
  refine ev_ex 1 (c' := (1, [some (.ref w), some (.int (nI i))], [.ref w], σ)) rfl ?_
  refine ev_call (idx := 492) rfl rfl rfl (Nat.le_of_ble_eq_true rfl) (Nat.le_of_ble_eq_true rfl) (str_rcv h9 _ _) (js_isLatin1 h9 ⟨_, rfl, ?_⟩)
  refine ev_ex 2 (c' := (8, [some (.ref w), some (.int (nI i))], [.ref w], σ)) rfl ?_
  refine ev_gf (v := .ref b) rfl rfl h2 ⟨fun _ => rfl, fun _ => h4⟩ rfl ?_
  refine ev_ex 1 (c' := (12, [some (.ref w), some (.int (nI i))], [.int (nI i), .ref b], σ)) rfl ?_
  refine ev_call (idx := 495) rfl rfl rfl (Nat.le_of_ble_eq_true rfl) (Nat.le_of_ble_eq_true rfl) rfl (jl_charAt hf h1 h3 hi h5 hv hg2 ⟨_, rfl, ?_⟩)
  refine ev_ret rfl rfl ?_ k
  have : ∀ g : Nat, g < 128 → narrow .char (.int (nI g)) = .int (nI g) := by decide +kernel
  show (if narrow .char (.int (nI g)) = .int (nI g) then some (some (Value.int (nI g))) else none) = _
  rw [if_pos (this g hg2)]
end ST1
