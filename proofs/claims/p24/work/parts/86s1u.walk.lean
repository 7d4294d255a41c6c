/-! ===== a walk's other side is known; isWalk, isReady ===== -/
theorem ge_of {x : Int32} {P : Nat → Prop} (h : x = -1 ∨ ∃ f, f < 96 ∧ x = nI f ∧ P f) (h1 : ¬ x = -1) : ¬ x < 0 := by
  rcases h with h | ⟨f, hf, rfl, -⟩
  · exact absurd h h1
  · exact nI_nn (by omega)
theorem walk_ge {B : Nat → Int32} {w : GS} {c n i : Nat} (h : R0 B w) (hN : NT B c) (hD : Dr w c n) (hi : i < n) : (vS B c i 0 = -2 → ¬ vS B c i 1 < 0) ∧ (vS B c i 1 = -2 → ¬ vS B c i 0 < 0) := by
  rcases hD with ⟨s, hP, rfl⟩ | ⟨L, hT, rfl⟩
  · obtain ⟨e6, e7, ez⟩ := (h.kz hP.2.1).1 s hP
    have h2 := hP.2.2.1
    have h5 := hP.2.2.2.1
    obtain ⟨o3, o4⟩ := off_end s (by omega) h2
    have hlt := prP_lt s (by omega) i (by omega) hi
    unfold vS
    rw [if_pos e6, if_pos e6, if_pos rfl, if_neg (by decide), ez]
    exact ⟨fun z => absurd z (ne_m2 (P := Plc w c) (Or.inr (plPT h hP (by omega)))), fun z => absurd z (ne_m2 (P := Plc w c) (Or.inr (plPT h hP (by omega))))⟩
  · obtain ⟨e6, e7, ez⟩ := (h.kz hT.2.1).2 L hT
    obtain ⟨n1, n2, n3, n4⟩ := hN e6
    rw [ez] at n1 n2 n3 n4
    have hL3 := hT.2.2.1
    have hL5 := hT.2.2.2.1
    have h32 := pow_lt32 hL5
    have h8 := half2 (L := L) (by omega)
    have hne : ¬ B (6 + 36 * c) = 1 := by rw [e6]; decide
    unfold vS
    rw [if_neg hne, if_neg hne, ez]
    by_cases h1 : i < 2 ^ L - 1
    · rw [if_pos h1, if_pos h1]
      by_cases hlt : i < 2 ^ L / 2
      · have t0 := plT h hT (p := 2 * i) (by omega)
        have t1 := plT h hT (p := 2 * i + 1) (by omega)
        have v0 : SV B c (2 ^ L) i 0 = sd0 (pl B c (2 * i)) := by unfold SV; rw [if_pos hlt]; rfl
        have v1 : SV B c (2 ^ L) i 1 = sd0 (pl B c (2 * i + 1)) := by unfold SV; rw [if_pos hlt]
        have hnb : ¬ (pl B c (2 * i) = -1 ∧ pl B c (2 * i + 1) = -1) := fun z => by
          obtain ⟨f, hf, y⟩ := hT.2.2.2.2.2.2.2.2.1 i (by omega)
          rcases y with y | y
          · have y2 := (h.plA hT (p := 2 * i) (by omega)).inj y
            rw [z.1] at y2
            exact nI_ne_1 (a := f) (by omega) y2.symm
          · have y2 := (h.plA hT (p := 2 * i + 1) (by omega)).inj y
            rw [z.2] at y2
            exact nI_ne_1 (a := f) (by omega) y2.symm
        rw [v0, v1]
        refine ⟨fun z => ?_, fun z => ?_⟩
        · have q0 := (sd0_m2 (ne_m2 t0)).1.mp z
          have q1 : ¬ pl B c (2 * i + 1) = -1 := fun y => hnb ⟨q0, y⟩
          unfold sd0
          rw [if_neg q1]
          exact ge_of t1 q1
        · have q1 := (sd0_m2 (ne_m2 t1)).1.mp z
          have q0 : ¬ pl B c (2 * i) = -1 := fun y => hnb ⟨y, q1⟩
          unfold sd0
          rw [if_neg q0]
          exact ge_of t0 q0
      · unfold SV
        rw [if_neg hlt, if_neg hlt]
        exact ⟨fun z => absurd z (ne_m2 (tWT h hT (i := 2 * (i - 2 ^ L / 2) + 0) (by omega))), fun z => absurd z (ne_m2 (tWT h hT (i := 2 * (i - 2 ^ L / 2) + 1) (by omega)))⟩
    · rw [if_neg h1, if_neg h1, if_pos rfl, if_neg (by decide)]
      obtain ⟨q, rfl⟩ : ∃ q, i = 2 ^ L - 1 + q := ⟨i - (2 ^ L - 1), by omega⟩
      have hq : q < 2 * (L - 2) := by omega
      obtain ⟨g1, g2⟩ := lif_dm hL3 hL5 hq
      have est := (stL_pow L (by omega) hL3).1
      rw [Nat.add_sub_cancel_left, est]
      have hlo := fun t => loT h hT (t := t) g1
      have hlw := ne_m2 (lWT h hT (t := q % (L - 2)) g1 (by omega))
      generalize q / (L - 2) = s at *
      have eV : LV B c (2 ^ L) s (q % (L - 2) + 1) = loL B c (2 ^ L) s (q % (L - 2) + 1) := by
        unfold LV
        by_cases z : tF B c (2 ^ L) s = -1
        · rw [if_pos z]
          unfold loL
          rw [if_pos z]
        · rw [if_neg z, if_neg (by omega)]
      rw [eV]
      refine ⟨fun z => ?_, fun z => absurd z (ne_m2 (hlo _))⟩
      unfold LA LV at z
      by_cases ht : q % (L - 2) + 1 ≤ 1
      · rw [if_pos ht] at z
        have e1 : q % (L - 2) + 1 = 1 := by omega
        rw [e1]
        by_cases hF : tF B c (2 ^ L) s = -1
        · rw [if_pos hF] at z
          exact absurd z (by decide)
        · refine ge_of (hlo 1) ?_
          have hFT := tWT h hT (i := 2 ^ L - 4 + s) (by omega)
          rcases hFT with y | ⟨f, hf, y, -⟩
          · exact absurd y hF
          · obtain ⟨i1, i2, i3⟩ := pa_lem hL3 hL5 n2 g1 hf y (L - 2 - 1) (by omega)
            have hj : L - 2 - (L - 2 - 1) = 1 := by omega
            rw [hj] at i1 i2
            have hlow := (bas_low L (by omega) 1 (by omega) (paL B c (2 ^ L) s (L - 2 - 1)) (by have := (bas_mono L (by omega) (1 + 1) (by omega)).2.2.2; omega) ⟨hL3, by omega, by omega, i1, i2⟩).2
            have hS1 : paL B c (2 ^ L) s (L - 2 - 1) < 2 ^ L - 1 := by
              have hr := (bas_rng L (by omega) hL3 1 (by omega) (by omega) (paL B c (2 ^ L) s (L - 2 - 1)) (by have := (bas_mono L (by omega) (1 + 1) (by omega)).2.2.2; omega) i1 i2).2.2.2
              omega
            obtain ⟨hm, -⟩ := tW_wn hf (by omega) i3
            obtain ⟨k1, k2⟩ := n1 _ hS1 (by rw [hm]; decide)
            unfold loL
            rw [if_neg hF, est, if_pos (by omega)]
            by_cases hA : tA B c (2 ^ L) (paL B c (2 ^ L) s (L - 2 - 1)) = tF B c (2 ^ L) s
            · rw [if_pos hA]; exact k2
            · rw [if_neg hA]; exact k1
      · rw [if_neg ht, Nat.add_sub_cancel] at z
        exact absurd z hlw

