/-! the law's start -/
section ST1
variable {i : IN} {d : Nat} {Q : PO}
abbrev tP (i : IN) : mj_P := t_P i.1 i.2.1 i.2.2
set_option maxRecDepth 8000 in
theorem st_0 (k : ev (tP i) d m_L_law 4 [some (.ref 0), none, none, none, none, none, none, none] [.ref 1, .ref 1] ([.inr (12, [.null, .int 0, .int 0, .int 0, .null, .null, .null, .null, .null, .null, .null, .null, .null])], [], [], 13) Q) : ev (tP i) d m_L_law 0 [some (.ref 0), none, none, none, none, none, none, none] [] ([], [], [], 0) Q := by
  refine ev_new (idx := 8) rfl rfl rfl rfl ?_
  refine ev_ex 1 (c' := (4, [some (.ref 0), none, none, none, none, none, none, none], [.ref 1, .ref 1], ([.inr (12, [.null, .int 0, .int 0, .int 0, .null, .null, .null, .null, .null, .null, .null, .null, .null])], [], [], 13))) rfl ?_
  exact k
set_option maxRecDepth 8000 in
theorem st_1 (k : ev (tP i) d m_X_init 18 [some (.ref 1)] [] ([.inr (12, [.ref 5, .int 0, .int 0, .int (-1), .null, .null, .null, .null, .null, .null, .null, .null, .null]), .inl (.byte, 900, .inl (fun _ => 0))], [], [], 913) Q) : ev (tP i) d m_X_init 0 [some (.ref 1)] [] ([.inr (12, [.null, .int 0, .int 0, .int 0, .null, .null, .null, .null, .null, .null, .null, .null, .null])], [], [], 13) Q := by
  refine ev_ex 1 (c' := (1, [some (.ref 1)], [.ref 1], ([.inr (12, [.null, .int 0, .int 0, .int 0, .null, .null, .null, .null, .null, .null, .null, .null, .null])], [], [], 13))) rfl ?_
  refine ev_obj rfl rfl (Nat.le_of_ble_eq_true rfl) ?_
  refine ev_ex 7 (c' := (18, [some (.ref 1)], [], ([.inr (12, [.ref 5, .int 0, .int 0, .int (-1), .null, .null, .null, .null, .null, .null, .null, .null, .null]), .inl (.byte, 900, .inl (fun _ => 0))], [], [], 913))) rfl ?_
  exact k
end ST1
