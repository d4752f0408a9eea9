/-! the static facts of the whole program; the world's end -/
section FIN1
variable {n : Nat} {xs : Nat → Int32} {fv : Value}
theorem isNW_form {w : Cond} (h : isNW w = true) : (∃ a i b n d h, w = Cond.fieldLinkNest a i b n d h) ∨ (∃ a i x h, w = Cond.methodLinkNest a i x h) ∨ (∃ C T, w = Cond.castable C T) ∨ ∃ x, w = Cond.declares x := by
  unfold isNW at h
  split at h
  · exact Or.inl ⟨_, _, _, _, _, _, rfl⟩
  · exact Or.inr (Or.inl ⟨_, _, _, _, rfl⟩)
  · exact Or.inr (Or.inr (Or.inl ⟨_, _, rfl⟩))
  · exact Or.inr (Or.inr (Or.inr ⟨_, rfl⟩))
  · cases h
theorem inv_idx {i : Instr} {idx : Nat} (h : mj_inv i = some idx) : mj_idx i = some idx := by
  cases i <;> first | (simp [mj_inv] at h; done) | exact h
theorem fP_k : mj_Pk (t_P n xs fv) tg nw := ⟨fun w hw => isNW_form (List.mem_filter.mp hw).2, fun w hw => (List.mem_filter.mp hw).2, ⟨tg_at (k := 219) rfl rfl, tg_at (k := 526) rfl rfl, tg_at (k := 184) rfl rfl, tg_at (k := 1817) rfl rfl⟩, fun mi pc M i len h1 h2 => ⟨(oI_all (n := n) (xs := xs) (fv := fv) mi M h1 pc i len h2).1, (oI_all (n := n) (xs := xs) (fv := fv) mi M h1 pc i len h2).2.1, fun idx K h3 h4 => ((oI_all (n := n) (xs := xs) (fv := fv) mi M h1 pc i len h2).2.2 idx K h3 h4).1⟩⟩
theorem fP_x : mj_Px (t_P n xs fv) tg nw := ⟨fun mi pc idx len e is ic M v h1 h2 h3 => ((oI_all (n := n) (xs := xs) (fv := fv) mi M h1 pc _ len h2).2.2 idx _ rfl h3).2.1 e is ic v rfl rfl, fun mi M h => oH mi M h⟩
theorem fP_4 : mj_Pc4 (t_P n xs fv) tg nw := fun mi pc i len idx mj na ci v M M' h1 h2 h3 h4 h5 => ((oI_all (n := n) (xs := xs) (fv := fv) mi M h1 pc i len h2).2.2 idx _ (inv_idx h3) h4).2.2.1 mj na ci v M' h3 rfl h5
end FIN1
section FIN2
variable {p : Program} {l : Launch} {e : Env} {R R' : Room} {s : State} {m : MethodId} {args : Array Value} {below : List Frame} {meth : Method} {c : Code} {H : Heap} {locs : List Loc} {cells slots : Nat} {Q Q' : State → Prop} {g : JFrame}
/-- more room is no harm -/
theorem W_room (hf : R'.frames ≤ R.frames) (hl : R'.locals ≤ R.locals) (hc : R'.cells ≤ R.cells) (hs : R'.slots ≤ R.slots) (k : W p l e R' s m args below meth c H locs cells slots Q g) : W p l e R s m args below meth c H locs cells slots Q g := by
  intro T hT X
  refine k T hT { X with room := ?_ }
  have h := X.room
  simp only [State.hasRoom, Bool.and_eq_true, decide_eq_true_eq] at h ⊢
  obtain ⟨⟨⟨⟨h1, h2, h3, h4, h5, h6⟩, h7⟩, h8⟩, h9⟩ := h
  exact ⟨⟨⟨⟨by omega, by omega, by omega, by omega, by omega, h6⟩, by omega⟩, by omega⟩, h9⟩
theorem W_post (hq : ∀ t, Q t → Q' t) (k : W p l e R s m args below meth c H locs cells slots Q g) : W p l e R s m args below meth c H locs cells slots Q' g := fun T hT X => by
  obtain ⟨t, a, b⟩ := k T hT X
  exact ⟨t, a, hq t b⟩
end FIN2
section FIN3
variable {p : Program} {e : Env} {s : State} {m : MethodId} {below : List Frame} {meth : Method} {c : Code} {b L : Nat} {xs : Nat → Int32}
theorem hR_0 {G : mj_G} {P : mj_P} (h1 : G.2.1 = s.heap.size) (h2 : G.2.2.1 = s.heap) : mj_HR G P ([], [], [], 0) s.heap := by
  refine ⟨by rw [h1]; rfl, ⟨Nat.zero_le _, Nat.zero_le _, fun z => absurd z (Nat.lt_irrefl 0), fun z => absurd z (Nat.lt_irrefl 0)⟩, fun a c ha hg => ?_, fun q _ => by rw [h2]⟩
  exfalso
  rcases mj_seg a with q | q | q | q
  · exact ha q
  · rw [mj_get1 q] at hg; cases hg
  · rw [mj_get2 q] at hg; cases hg
  · rw [mj_get3 q] at hg; cases hg
end FIN3
