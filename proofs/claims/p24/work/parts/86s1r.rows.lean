/-! ===== the board's rows and the reference's sides ===== -/
def mx2 (x : Int32) : Int32 := if x = -2 then -1 else x
theorem mx2_id {x : Int32} (h : ¬ x = -2) : mx2 x = x := if_neg h
theorem mx2_sd0 {x : Int32} (h : ¬ x = -2) : mx2 (sd0 x) = x := by
  unfold mx2 sd0
  by_cases h1 : x = -1
  · rw [if_pos h1, if_pos rfl, h1]
  · rw [if_neg h1, if_neg h]
theorem lif_dm {L q : Nat} (hL3 : 3 ≤ L) (hL5 : L ≤ 5) (hq : q < 2 * (L - 2)) : q / (L - 2) < 2 ∧ q % (L - 2) + 1 ≤ stL (2 ^ L) := by
  obtain ⟨g1, g2, -⟩ := lif_rng2 L (by omega) q (by omega) ⟨hL3, hq⟩
  rw [(stL_pow L (by omega) hL3).1]
  exact ⟨g1, g2⟩
theorem rows_v {B : Nat → Int32} {w : GS} {c n i : Nat} (h : R0 B w) (hD : Dr w c n) (hi : i < n) : bWh B c i = mx2 (vS B c i 0) ∧ bBl B c i = mx2 (vS B c i 1) := by
  rcases hD with ⟨s, hP, rfl⟩ | ⟨L, hT, rfl⟩
  · obtain ⟨e6, e7, ez⟩ := (h.kz hP.2.1).1 s hP
    have h2 := hP.2.2.1
    have h5 := hP.2.2.2.1
    obtain ⟨o3, o4⟩ := off_end s (by omega) h2
    have hlt := prP_lt s (by omega) i (by omega) hi
    unfold bWh bBl vS
    rw [if_pos e6, if_pos e6, if_pos e6, if_pos e6, if_pos rfl, if_neg (by decide), ez]
    exact ⟨(mx2_id (ne_m2 (P := Plc w c) (Or.inr (plPT h hP (by omega))))).symm, (mx2_id (ne_m2 (P := Plc w c) (Or.inr (plPT h hP (by omega))))).symm⟩
  · obtain ⟨e6, e7, ez⟩ := (h.kz hT.2.1).2 L hT
    have hL3 := hT.2.2.1
    have hL5 := hT.2.2.2.1
    have h32 := pow_lt32 hL5
    have h8 := half2 (L := L) (by omega)
    have hne : ¬ B (6 + 36 * c) = 1 := by rw [e6]; decide
    unfold bWh bBl vS q1 q2
    rw [if_neg hne, if_neg hne, if_neg hne, if_neg hne, ez]
    by_cases h1 : i < 2 ^ L - 1
    · rw [if_pos h1, if_pos h1, if_pos h1, if_pos h1]
      unfold SV tA tB
      by_cases hlt : i < 2 ^ L / 2
      · rw [if_pos hlt, if_pos hlt, if_pos hlt, if_pos hlt]
        exact ⟨(mx2_sd0 (ne_m2 (plT h hT (p := 2 * i + 0) (by omega)))).symm, (mx2_sd0 (ne_m2 (plT h hT (p := 2 * i + 1) (by omega)))).symm⟩
      · rw [if_neg hlt, if_neg hlt, if_neg hlt, if_neg hlt]
        exact ⟨(mx2_id (ne_m2 (tWT h hT (i := 2 * (i - 2 ^ L / 2) + 0) (by omega)))).symm, (mx2_id (ne_m2 (tWT h hT (i := 2 * (i - 2 ^ L / 2) + 1) (by omega)))).symm⟩
    · rw [if_neg h1, if_neg h1, if_neg h1, if_neg h1, if_pos rfl, if_neg (by decide)]
      obtain ⟨q, rfl⟩ : ∃ q, i = 2 ^ L - 1 + q := ⟨i - (2 ^ L - 1), by omega⟩
      have hq : q < 2 * (L - 2) := by omega
      obtain ⟨g1, g2⟩ := lif_dm hL3 hL5 hq
      have est := (stL_pow L (by omega) hL3).1
      rw [Nat.add_sub_cancel_left, est]
      rw [est] at g2
      have hlo := fun t => ne_m2 (loT h hT (t := t) g1)
      have hlw := fun (y : q % (L - 2) ≤ stL (2 ^ L)) => ne_m2 (lWT h hT (t := q % (L - 2)) g1 y)
      generalize q / (L - 2) = s at *
      have hz : ∀ t, tF B c (2 ^ L) s = -1 → loL B c (2 ^ L) s t = -1 := fun t z => by
        unfold loL
        rw [if_pos z]
      refine ⟨?_, ?_⟩
      · unfold lA LA LV
        by_cases ht : q % (L - 2) + 1 ≤ 1
        · rw [if_pos ht, if_pos ht]
          by_cases z : tF B c (2 ^ L) s = -1
          · rw [if_pos z, hz 0 z]
            exact (mx2_id (by decide)).symm
          · rw [if_neg z, if_pos rfl]
            exact (mx2_sd0 (hlo 0)).symm
        · rw [if_neg ht, if_neg ht, Nat.add_sub_cancel]
          exact (mx2_id (hlw (by omega))).symm
      · unfold LV
        by_cases z : tF B c (2 ^ L) s = -1
        · rw [if_pos z, hz _ z]
          exact (mx2_id (by decide)).symm
        · rw [if_neg z, if_neg (by omega)]
          exact (mx2_id (hlo _)).symm
/-- the rows after settle, in one name -/
theorem Bd.rows {B : Nat → Int32} {w : GS} {c n i : Nat} {u : MS} (hb : Bd B c u) (h : R0 B w) (hD : Dr w c n) (hi : i < n) : u.2 13 (37 * c + i) = bWh B c i ∧ u.2 14 (37 * c + i) = bBl B c i ∧ u.2 15 (37 * c + i) = bWn B c i ∧ u.2 16 (37 * c + i) = bSt B c i := by
  rcases hD with ⟨s, hP, rfl⟩ | ⟨L, hT, rfl⟩
  · obtain ⟨e6, e7, ez⟩ := (h.kz hP.2.1).1 s hP
    unfold bWh bBl bWn bSt
    rw [if_pos e6, if_pos e6, if_pos e6, if_pos e6, ez]
    exact hb.1 e6 s hP.2.2.1 hP.2.2.2.1 e7 i hi
  · obtain ⟨e6, e7, ez⟩ := (h.kz hT.2.1).2 L hT
    have hL3 := hT.2.2.1
    have hL5 := hT.2.2.2.1
    have hne : ¬ B (6 + 36 * c) = 1 := by rw [e6]; decide
    unfold bWh bBl bWn bSt
    rw [if_neg hne, if_neg hne, if_neg hne, if_neg hne, ez]
    exact hb.2 e6 (2 ^ L) (siz_pow L (by omega) hL3) e7 i (by rw [(stL_pow L (by omega) hL3).1]; exact hi)

