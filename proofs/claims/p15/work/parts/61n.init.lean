/-! ===== a new reference is live ===== -/
theorem live_init : ∃ r w1, f_anew iu0 = some (r, w1) ∧ Live 0 0 w1 := by
  obtain ⟨r0, c0, a1, a2, a3⟩ := s0_eq
  obtain ⟨v0, f0, g0, -⟩ := det_anew B0 iu0 (B0_ag iu0) (fun z => by cases z) r0 c0 a1
  have hF := fr_anew iu0 r0 v0 f0
  refine ⟨r0, v0, f0, 0, 0, fun _ => (0, 0, 0, 0), fun _ => s0, by omega, (hF.1 53 rfl).1, (hF.1 55 rfl).1, (hF.1 42 rfl).1, by omega, by omega, ⟨rfl, fun k hk => ?_, fun k hk => absurd hk (Nat.not_lt_zero _)⟩, ?_, fun k hk => absurd hk (Nat.not_lt_zero _), fun j hj => absurd hj (Nat.not_lt_zero _), fun c _ => hF.2.2 c rfl⟩
  · have : k = 0 := by omega
    subst this
    exact ⟨s0_inv.1, s0_inv.2, s0_nos⟩
  · rw [a2]
    exact lf_ag g0
