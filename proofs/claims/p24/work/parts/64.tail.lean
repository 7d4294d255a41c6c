theorem tl_at {T0 T : va_W} {j : Nat} {x : Nat × va_E} (h : T[j]? = some x) : (T0 ++ T)[T0.length + j]? = some x := by
  rw [List.getElem?_append_right (Nat.le_add_right _ _), Nat.add_sub_cancel_left]
  exact h
theorem lawAt.pre {G : gG} {T : va_W} {la : Nat} {lq : Nat → Nat} {L : MS} (T0 : va_W) (h : lawAt G T la lq L) : lawAt G (T0 ++ T) la lq L := by
  obtain ⟨j, h0, h1, h2, h3, h4, h5, h6⟩ := h
  exact ⟨fun k => T0.length + j k, tl_at h0, tl_at h1, tl_at h2, tl_at h3, tl_at h4, tl_at h5, tl_at h6⟩
/-- where the old draft's lists lie after handOver -/
def dlq (Q : Nat → Nat) (k : Nat) : Nat := if k = 0 then Q 34 else if k = 1 then Q 36 else if k = 2 then Q 38 else if k = 3 then Q 35 else if k = 4 then Q 37 else Q 39
/-- the draft's laws -/
def dL (u : MS) : MS := (fun j => u.1 (20 + j), fun a => u.2 (8 + a))
def djx (k : Nat) : Nat := if k = 0 then 0 else if k = 1 then 1 else if k = 4 then 2 else if k = 2 then 3 else if k = 5 then 4 else if k = 3 then 5 else 6
theorem opk_law (G : gG) (Q : Nat → Nat) (D : Nat × Nat) (u : MS) (T : va_W) : lawAt G (opk G Q D u ++ T) (Q 10) (dlq Q) (dL u) :=
  ⟨djx, rfl, rfl, rfl, rfl, rfl, rfl, rfl⟩
theorem toldAt.pre {G : gG} {g : ClassId} {T : va_W} {Q Q2 : Nat → Nat} {P : Nat × (Nat → Nat) × MS} {LW : List (Nat × (Nat → Nat) × MS)} (T0 : va_W) (e13 : Q2 13 = Q 13) (e14 : Q2 14 = Q 14) (h : toldAt G g T Q P LW) : toldAt G g (T0 ++ T) Q2 P LW := by
  obtain ⟨hP, hl, hL, hn, j, mc, ta, hj, hr⟩ := h
  refine ⟨hP.trans e14.symm, hl.pre T0, fun i x hx => (hL i x hx).pre T0, hn, T0.length + j, mc, ta, ?_, ?_⟩
  · rw [e13]; exact tl_at hj
  · rcases hr with hr | ⟨j2, t, cap, f, h1, h2, h3, h4, h5⟩
    · exact Or.inl hr
    · exact Or.inr ⟨T0.length + j2, t, cap, f, h1, tl_at h2, h3, h4, h5⟩
/-- what was told stays told over handOver -/
theorem toldAt.handed {G : gG} {g : ClassId} {T : va_W} {Q : Nat → Nat} {P : Nat × (Nat → Nat) × MS} {LW : List (Nat × (Nat → Nat) × MS)} {D : Nat × Nat} {u : MS} (q hc ac he ae ho ao : Nat) (h : toldAt G g T Q P LW) : toldAt G g (opk G Q D u ++ T) (Qn Q q hc ac he ae ho ao) P LW := h.pre _ rfl rfl

