/-! ===== isWalk, isReady of the reference, exactly ===== -/
theorem sv_isWalk {B : Nat → Int32} {w : GS} {c n i : Nat} (h : R0 B w) (hN : NT B c) (hD : Dr w c n) (hi : i < n) : Rd (f_isWalk (nI c) (nI i)) w (fun r => r = if mkF B c i = 0 ∧ (vS B c i 0 = -2 ∨ vS B c i 1 = -2) then 1 else 0) := by
  have hc := hD.c4
  have h37 := hD.n37
  obtain ⟨w0, w1⟩ := walk_ge h hN hD hi
  unfold f_isWalk
  rw [ix40]
  rcases h.mk hc (i := i) (by omega) with ⟨a, e⟩ | ⟨a, e⟩ | ⟨a, e, -⟩
  · refine Rd_rdN rfl (by omega) (by decide) a (Rd_ite (fun _ => ?_) (fun z => absurd rfl z))
    refine Rd_clR (sv_any h hN hD hi (sd := 0) (by decide) 0) (fun x hx => Rd_clR (sv_any h hN hD hi (sd := 1) (by decide) 0) (fun y hy => ?_))
    rw [← hx, ← hy] at w0 w1 ⊢
    refine Rd_ite (fun z0 => Rd_ite (fun _ => Rd_rt ?_) (fun z => absurd (Int32.not_lt.mp (w0 z0)) z)) (fun z0 => Rd_ite (fun z1 => Rd_ite (fun z => absurd z (w1 z1)) (fun _ => Rd_rt ?_)) (fun z1 => Rd_rt ?_))
    · rw [if_pos ⟨e, Or.inl z0⟩]
    · rw [if_pos ⟨e, Or.inr z1⟩]
    · rw [if_neg (fun q => q.2.elim z0 z1)]
  · refine Rd_rdN rfl (by omega) (by decide) a (Rd_ite (fun z => absurd z (by decide)) (fun _ => Rd_rt ?_))
    rw [e, if_neg (fun q => absurd q.1 (by decide))]
  · refine Rd_rdN rfl (by omega) (by decide) a (Rd_ite (fun z => absurd z (by decide)) (fun _ => Rd_rt ?_))
    rw [e, if_neg (fun q => absurd q.1 (by decide))]
theorem sv_isReady {B : Nat → Int32} {w : GS} {c n i : Nat} (h : R0 B w) (hN : NT B c) (hD : Dr w c n) (hi : i < n) : Rd (f_isReady (nI c) (nI i)) w (fun r => r = if mkF B c i = 0 ∧ ¬ vS B c i 0 < 0 ∧ ¬ vS B c i 1 < 0 then 1 else 0) := by
  have hc := hD.c4
  have h37 := hD.n37
  unfold f_isReady
  rw [ix40]
  rcases h.mk hc (i := i) (by omega) with ⟨a, e⟩ | ⟨a, e⟩ | ⟨a, e, -⟩
  · refine Rd_rdN rfl (by omega) (by decide) a (Rd_ite (fun _ => ?_) (fun z => absurd rfl z))
    refine Rd_clR (sv_any h hN hD hi (sd := 0) (by decide) 0) (fun x hx => ?_)
    rw [← hx]
    refine Rd_ite (fun z0 => Rd_rt ?_) (fun z0 => Rd_clR (sv_any h hN hD hi (sd := 1) (by decide) 0) (fun y hy => ?_))
    · rw [if_neg (fun q => q.2.1 z0)]
    · rw [← hy]
      refine Rd_ite (fun z1 => Rd_rt ?_) (fun z1 => Rd_rt ?_)
      · rw [if_neg (fun q => q.2.2 z1)]
      · rw [if_pos ⟨e, z0, z1⟩]
  · refine Rd_rdN rfl (by omega) (by decide) a (Rd_ite (fun z => absurd z (by decide)) (fun _ => Rd_rt ?_))
    rw [e, if_neg (fun q => absurd q.1 (by decide))]
  · refine Rd_rdN rfl (by omega) (by decide) a (Rd_ite (fun z => absurd z (by decide)) (fun _ => Rd_rt ?_))
    rw [e, if_neg (fun q => absurd q.1 (by decide))]

