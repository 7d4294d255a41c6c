/-! ===== the state of a fight, from the sides ===== -/
def stV (m a b : Int32) : Int32 := if m = 0 then (if a = -2 ∨ b = -2 then 4 else if a = -1 ∨ b = -1 then 0 else 1) else m
theorem sd0_m2 {x : Int32} (h : ¬ x = -2) : (sd0 x = -2 ↔ x = -1) ∧ ¬ sd0 x = -1 := by
  unfold sd0
  by_cases h1 : x = -1
  · rw [if_pos h1]
    exact ⟨⟨fun _ => h1, fun _ => rfl⟩, by decide⟩
  · rw [if_neg h1]
    exact ⟨⟨fun z => absurd z h, fun z => absurd z h1⟩, h1⟩
theorem sF_st {B : Nat → Int32} {c i : Nat} {a b : Int32} (ha : ¬ a = -2) (hb : ¬ b = -2) : sF B c i a b = stV (mkF B c i) a b := by
  unfold sF stV
  by_cases hm : mkF B c i = 0
  · rw [if_pos hm, if_pos hm, if_neg (fun z : a = -2 ∨ b = -2 => z.elim ha hb)]
  · rw [if_neg hm, if_neg hm]
theorem bSt_v {B : Nat → Int32} {w : GS} {c n i : Nat} (h : R0 B w) (hN : NT B c) (hD : Dr w c n) (hi : i < n) : bSt B c i = stV (mkF B c i) (vS B c i 0) (vS B c i 1) := by
  rcases hD with ⟨s, hP, rfl⟩ | ⟨L, hT, rfl⟩
  · obtain ⟨e6, e7, ez⟩ := (h.kz hP.2.1).1 s hP
    have h2 := hP.2.2.1
    have h5 := hP.2.2.2.1
    obtain ⟨o3, o4⟩ := off_end s (by omega) h2
    have hlt := prP_lt s (by omega) i (by omega) hi
    unfold bSt vS
    rw [if_pos e6, if_pos e6, if_pos e6, if_pos rfl, if_neg (by decide), ez]
    exact sF_st (ne_m2 (P := Plc w c) (Or.inr (plPT h hP (by omega)))) (ne_m2 (P := Plc w c) (Or.inr (plPT h hP (by omega))))
  · obtain ⟨e6, e7, ez⟩ := (h.kz hT.2.1).2 L hT
    obtain ⟨n1, n2, n3, n4⟩ := hN e6
    rw [ez] at n1 n2 n3 n4
    have hL3 := hT.2.2.1
    have hL5 := hT.2.2.2.1
    have h32 := pow_lt32 hL5
    have h8 := half2 (L := L) (by omega)
    have hne : ¬ B (6 + 36 * c) = 1 := by rw [e6]; decide
    unfold bSt vS q4
    rw [if_neg hne, if_neg hne, if_neg hne, ez]
    by_cases h1 : i < 2 ^ L - 1
    · rw [if_pos h1, if_pos h1, if_pos h1]
      have hm := n1 i h1
      by_cases hlt : i < 2 ^ L / 2
      · have p0 := ne_m2 (plT h hT (p := 2 * i) (by omega))
        have p1 := ne_m2 (plT h hT (p := 2 * i + 1) (by omega))
        have eA : tA B c (2 ^ L) i = pl B c (2 * i) := by unfold tA; rw [if_pos hlt]
        have eB : tB B c (2 ^ L) i = pl B c (2 * i + 1) := by unfold tB; rw [if_pos hlt]
        have v0 : SV B c (2 ^ L) i 0 = sd0 (pl B c (2 * i)) := by unfold SV; rw [if_pos hlt]; rfl
        have v1 : SV B c (2 ^ L) i 1 = sd0 (pl B c (2 * i + 1)) := by unfold SV; rw [if_pos hlt]
        rw [eA, eB] at hm
        rw [v0, v1]
        unfold tS
        by_cases hk : pl B c (2 * i) = -1 ∨ pl B c (2 * i + 1) = -1
        · rw [if_pos ⟨hlt, hk⟩]
          have hm0 : mkF B c i = 0 := by
            by_cases z : mkF B c i = 0
            · exact z
            · exact absurd hk (fun y => y.elim (hm z).1 (hm z).2)
          unfold stV
          rw [if_pos hm0, if_pos (hk.elim (fun y => Or.inl ((sd0_m2 p0).1.mpr y)) (fun y => Or.inr ((sd0_m2 p1).1.mpr y)))]
        · rw [if_neg (fun z => hk z.2), eA, eB]
          have q0 : sd0 (pl B c (2 * i)) = pl B c (2 * i) := by unfold sd0; rw [if_neg (fun z => hk (Or.inl z))]
          have q1 : sd0 (pl B c (2 * i + 1)) = pl B c (2 * i + 1) := by unfold sd0; rw [if_neg (fun z => hk (Or.inr z))]
          rw [q0, q1]
          exact sF_st p0 p1
      · have p0 := ne_m2 (tWT h hT (i := 2 * (i - 2 ^ L / 2)) (by omega))
        have p1 := ne_m2 (tWT h hT (i := 2 * (i - 2 ^ L / 2) + 1) (by omega))
        have eA : tA B c (2 ^ L) i = tW B c (2 ^ L) (2 * (i - 2 ^ L / 2)) := by unfold tA; rw [if_neg hlt]
        have eB : tB B c (2 ^ L) i = tW B c (2 ^ L) (2 * (i - 2 ^ L / 2) + 1) := by unfold tB; rw [if_neg hlt]
        have v0 : SV B c (2 ^ L) i 0 = tW B c (2 ^ L) (2 * (i - 2 ^ L / 2)) := by unfold SV; rw [if_neg hlt]; rfl
        have v1 : SV B c (2 ^ L) i 1 = tW B c (2 ^ L) (2 * (i - 2 ^ L / 2) + 1) := by unfold SV; rw [if_neg hlt]
        unfold tS
        rw [if_neg (fun z => hlt z.1), eA, eB, v0, v1]
        exact sF_st p0 p1
    · rw [if_neg h1, if_neg h1, if_neg h1, if_pos rfl, if_neg (by decide)]
      obtain ⟨q, rfl⟩ : ∃ q, i = 2 ^ L - 1 + q := ⟨i - (2 ^ L - 1), by omega⟩
      have hq : q < 2 * (L - 2) := by omega
      obtain ⟨g1, g2⟩ := lif_dm hL3 hL5 hq
      have est := (stL_pow L (by omega) hL3).1
      have h9 := (siz_pow L (by omega) hL3).h2.2.2.1
      have hdm := Nat.div_add_mod q (L - 2)
      have eix : 2 ^ L - 2 + q / (L - 2) * stL (2 ^ L) + (q % (L - 2) + 1) = 2 ^ L - 1 + q := by
        rw [est, Nat.mul_comm]
        omega
      have hm := n4 (q / (L - 2)) (q % (L - 2) + 1) g1 (by omega) g2
      rw [eix] at hm
      rw [Nat.add_sub_cancel_left, est]
      have eS : lS B c (2 ^ L) (q / (L - 2)) (q % (L - 2) + 1) = if q % (L - 2) + 1 = 1 ∧ ¬ tF B c (2 ^ L) (q / (L - 2)) = -1 ∧ loL B c (2 ^ L) (q / (L - 2)) 0 = -1 then 4 else sF B c (2 ^ L - 1 + q) (lA B c (2 ^ L) (q / (L - 2)) (q % (L - 2) + 1)) (loL B c (2 ^ L) (q / (L - 2)) (q % (L - 2) + 1)) := by
        unfold lS
        rw [eix]
      rw [eS]
      have hlo := fun t => ne_m2 (loT h hT (t := t) g1)
      have hlw := ne_m2 (lWT h hT (t := q % (L - 2)) g1 (by omega))
      generalize q / (L - 2) = s at *
      have hz : ∀ t, tF B c (2 ^ L) s = -1 → loL B c (2 ^ L) s t = -1 := fun t z => by
        unfold loL
        rw [if_pos z]
      have eV : LV B c (2 ^ L) s (q % (L - 2) + 1) = loL B c (2 ^ L) s (q % (L - 2) + 1) := by
        unfold LV
        by_cases z : tF B c (2 ^ L) s = -1
        · rw [if_pos z, hz _ z]
        · rw [if_neg z, if_neg (by omega)]
      rw [eV]
      by_cases hk : q % (L - 2) + 1 = 1 ∧ ¬ tF B c (2 ^ L) s = -1 ∧ loL B c (2 ^ L) s 0 = -1
      · rw [if_pos hk]
        have eA2 : lA B c (2 ^ L) s (q % (L - 2) + 1) = -1 := by
          unfold lA
          rw [if_pos (by omega)]
          exact hk.2.2
        have hm0 : mkF B c (2 ^ L - 1 + q) = 0 := by
          by_cases z : mkF B c (2 ^ L - 1 + q) = 0
          · exact z
          · exact absurd eA2 (hm z).1
        have eL : LA B c (2 ^ L) s (q % (L - 2) + 1) = -2 := by
          unfold LA LV sd0
          rw [if_pos (by omega), if_neg hk.2.1, if_pos rfl, if_pos hk.2.2]
        unfold stV
        rw [if_pos hm0, if_pos (Or.inl eL)]
      · rw [if_neg hk]
        have eL : LA B c (2 ^ L) s (q % (L - 2) + 1) = lA B c (2 ^ L) s (q % (L - 2) + 1) ∧ ¬ lA B c (2 ^ L) s (q % (L - 2) + 1) = -2 := by
          unfold LA lA LV
          by_cases ht : q % (L - 2) + 1 ≤ 1
          · rw [if_pos ht, if_pos ht]
            refine ⟨?_, hlo 0⟩
            by_cases z : tF B c (2 ^ L) s = -1
            · rw [if_pos z, hz 0 z]
            · rw [if_neg z, if_pos rfl]
              unfold sd0
              rw [if_neg (fun y => hk ⟨by omega, z, y⟩)]
          · rw [if_neg ht, if_neg ht, Nat.add_sub_cancel]
            exact ⟨rfl, hlw⟩
        rw [eL.1]
        exact sF_st eL.2 (hlo _)

