/-! from the law's entry to its end -/
section FIN4
variable {p : Program} {e : Env} {s : State} {m : MethodId} {below : List Frame} {meth : Method} {c : Code} {b L : Nat} {xs : Nat → Int32}
/-- so much room the law takes -/
theorem law_room {i : IN} {B : Nat} {T : XS} {s' : RS} (hL : i.1 ≤ 3072) (hB : 6 * B ≤ i.1 + 6) (h : IVE B T s') : mj_tot (hX (cX i s') T) ≤ 601024 ∧ (hX (cX i s') T).2.2.2 ≤ 7293034 := by
  obtain ⟨⟨A, h1⟩, -⟩ := h
  have h2 := h1.2.2.2.1
  have h3 := h1.2.2.2.2
  have e1 : mj_tot (hX (cX i s') T) = 57 + 18 + xn T := by
    show ((List.range 57).map (fun j => cellX T (4 * j + 1))).length + (rr s').length + ((List.range (xn T)).map (fun j => cellX T (4 * j + 3))).length = _
    rw [List.length_map, List.length_map, List.length_range, List.length_range]
    rfl
  have e2 : (hX (cX i s') T).2.2.2 = xk T := rfl
  rw [e1, e2]
  omega
set_option maxHeartbeats 4000000 in
theorem whole_go (l : Launch) (hl : l.stackTraces = false) (hL : L ≤ 3072) (hx : p.tables.exec = Jvm.exec) (hcode : c.code = code) (hret : meth.sig.returnType = ret) (hml : c.maxLocals = 8) (hown : s.vm.findClass "InsultRowLaw" = some m.cls) (hts : ∀ w ∈ lw_tbl, w.before #[Value.ref b] s = true) (hscr : va_X b L xs s s.heap) (hb : b < s.heap.size) (hlocks : meth.locks = false) (hn : NN.before #[Value.ref b] s = true) (hex : c.exceptionTable.toList = tableOf []) (hnm : meth.name = "law") :
    W p l e room_1 s m #[Value.ref b] below meth c s.heap [] 0 0 (fun t => ∃ o, t.status = .running ∧ Ended t below o ∧ o = .returned (some (.int 1)) ∧ Framed s o t [] 601024 7293034) (entryFrame m ([Value.ref b] : List Value).toArray 8) := by
  obtain ⟨G, fv, g1, g2, g3, hfv, hW⟩ := wd_start hts hscr hb hn
  obtain ⟨N, r, σ', ⟨rfl, B, T, s', hI, hB, hσ⟩, hrun⟩ := law_start (i := (L, xs, fv)) (d := 0) (fun s0 => hfv) (show L ≤ 100000 by omega)
  subst hσ
  obtain ⟨r1, r2⟩ := law_room (i := (L, xs, fv)) hL hB hI
  have hC : mj_Cx G (t_P L xs fv) tg nw q_L_law p s m #[Value.ref b] meth c := ⟨hx, hcode, hret, hml, hown, fun w hw => hts w (tg_tbl hw), hlocks, hnm, hex, hW, fun q _ => by rw [g2]⟩
  have hS := mj_sound (G := G) fP_k fP_x fP_4 hl (mj_Catch_ok l) N (0 + 66) m_L_law q_L_law 0 _ [] ([], [], [], 0) _ _ rfl (hrun N (Nat.le_refl _)) p e { frames := 8 + 66, cells := mj_tot (hX (cX (L, xs, fv) s') T), slots := (hX (cX (L, xs, fv) s') T).2.2.2, locals := 200 + 64 * 66 } s m #[Value.ref b] below meth c s.heap [] 0 0 ((lg_sl [Value.ref b] ++ List.replicate (8 - (lg_sl [Value.ref b]).length) Slot.unset).toArray) _ _ hC (hR_0 g1 g2) ?_ (fun q hq => by cases hq) (Nat.le_refl _) (Nat.le_refl _) (Nat.le_refl _) rfl rfl (Nat.add_comm _ _) (Nat.add_comm _ _)
  · rw [lg_entry_eq]
    refine W_room (R' := { frames := 8 + 66, cells := mj_tot (hX (cX (L, xs, fv) s') T), slots := (hX (cX (L, xs, fv) s') T).2.2.2, locals := 200 + 64 * 66 }) (show (8 + 66 : Nat) ≤ 2048 by decide) (show (200 + 64 * 66 : Nat) ≤ 84000 by decide) r1 r2 (W_post ?_ hS)
    rintro t ⟨o, h1, h2, ⟨h3, -⟩, Lc, h4, h5⟩
    refine ⟨o, h1, h2, h3, ⟨_, h3⟩, h4.2.1, h4.2.2.weaken (fun y hy hlt => ?_) r1 r2⟩
    have := h5 y hy
    exact absurd hlt (Nat.not_lt.mpr (g1 ▸ this))
  · have h := mj_ent_LR (ad := mj_ad G (t_P L xs fv)) (as := [.ref 0]) (n := 8) (by decide)
    rw [show ([Value.ref 0].map (mj_tr (mj_ad G (t_P L xs fv)))) = [Value.ref b] from congrArg (fun z => [Value.ref z]) g3] at h
    exact h
end FIN4
