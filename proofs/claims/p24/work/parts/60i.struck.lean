/-! ===== struck ===== -/
theorem inv_r0 {w : GS} (h : Inv w) (x : Nat) (hx : x < 2 ^ 31) : Inv (swd 15 (nI x) 0 w) := by
  obtain ⟨⟨jF, jI, jG, jC, jR, jM, jO⟩, jL, jE⟩ := h
  refine ⟨⟨jF, jI, jG, ?_, ?_, jM, ?_⟩, jL, jE⟩
  · intro c2 hc2
    obtain ⟨g1, g2, g3, g4⟩ := jC c2 hc2
    exact ⟨g1, g2, g3, fun i2 hi2 => sw_mm (g4 i2 hi2)⟩
  · intro c2 hc2 i2 hi2 hne
    have e1 := sw_v (w := w) (k := 15) (v := 0) hx (40 * c2 + i2)
    by_cases he : 40 * c2 + i2 = x
    · rw [if_pos he] at e1
      exact absurd e1 hne
    · rw [if_neg he] at e1
      rw [e1] at hne ⊢
      exact jR c2 hc2 i2 hi2 hne
  · intro c2 hc2 i2 hi2 h1
    have e1 := sw_v (w := w) (k := 15) (v := 0) hx (40 * c2 + i2)
    by_cases he : 40 * c2 + i2 = x
    · rw [if_pos he] at e1
      rw [e1] at h1
      exact absurd h1 (by decide)
    · rw [if_neg he] at e1
      rw [e1] at h1
      exact jO c2 hc2 i2 hi2 h1
def so1 (x a b m : Nat) (t : Int32) (w : GS) : GS := swd 15 (nI x) 0 (swd 11 (nI b) t (swd 11 (nI a) t (swd 22 (nI m) (-1) w)))
theorem so1_inv {w : GS} (h : Inv w) (c i a b m : Nat) (t : Int32) (hc : c < 4) (hi : i < 40) (hm : m < 4) (hon : w.1.2 22 m = nI (40 * c + i)) : Inv (so1 (40 * c + i) a b m t w) := by
  have hx : 40 * c + i < 2 ^ 31 := by omega
  have hm31 : m < 2 ^ 31 := by omega
  obtain ⟨⟨jF, jI, jG, jC, jR, jM, jO⟩, jL, jE⟩ := h
  have e15 : ∀ j, (so1 (40 * c + i) a b m t w).1.2 15 j = if j = 40 * c + i then 0 else w.1.2 15 j := fun j => sw_v (w := swd 11 (nI b) t (swd 11 (nI a) t (swd 22 (nI m) (-1) w))) (k := 15) (v := 0) hx j
  have e22 : ∀ j, (so1 (40 * c + i) a b m t w).1.2 22 j = if j = m then -1 else w.1.2 22 j := fun j => sw_v (w := w) (k := 22) (v := -1) hm31 j
  refine ⟨⟨jF, jI, ?_, ?_, ?_, ?_, ?_⟩, jL, ?_⟩
  · intro f hf
    obtain ⟨g1, g2, g3, g4, g5, g6, g7⟩ := jG f hf
    exact ⟨g1, g2, g3, g4, g5, g6, by unfold so1; exact sw_mm (sw_mm (sw_mm (sw_mm g7)))⟩
  · intro c2 hc2
    obtain ⟨g1, g2, g3, g4⟩ := jC c2 hc2
    exact ⟨g1, g2, g3, fun i2 hi2 => by unfold so1; exact sw_mm (sw_mm (sw_mm (sw_mm (g4 i2 hi2))))⟩
  · intro c2 hc2 i2 hi2 hne
    have e1 := e15 (40 * c2 + i2)
    by_cases he : 40 * c2 + i2 = 40 * c + i
    · rw [if_pos he] at e1
      exact absurd e1 hne
    · rw [if_neg he] at e1
      rw [e1] at hne ⊢
      exact jR c2 hc2 i2 hi2 hne
  · intro m2 hm2
    obtain ⟨k1, k2⟩ := jM m2 hm2
    refine ⟨by unfold so1; exact sw_mm (sw_mm (sw_mm (sw_mm k1))), fun z => ?_⟩
    have e2 := e22 m2
    by_cases he : m2 = m
    · rw [if_pos he] at e2
      exact absurd e2 z
    · rw [if_neg he] at e2
      rw [e2] at z
      obtain ⟨⟨c2, i2, l1, l2, l3, l4⟩, l5, l6, l7, l8⟩ := k2 z
      exact ⟨⟨c2, i2, l1, l2, e2.trans l3, l4⟩, l5, l6, l7, l8⟩
  · intro c2 hc2 i2 hi2 h1
    have e1 := e15 (40 * c2 + i2)
    by_cases he : 40 * c2 + i2 = 40 * c + i
    · rw [if_pos he] at e1
      rw [e1] at h1
      exact absurd h1 (by decide)
    · rw [if_neg he] at e1
      rw [e1] at h1
      obtain ⟨m2, hm2, k1⟩ := jO c2 hc2 i2 hi2 h1
      refine ⟨m2, hm2, ?_⟩
      rw [e22, if_neg ?_]
      · exact k1
      · intro z
        subst z
        rw [hon] at k1
        exact he ((nI_eq hx (by omega)).mp k1).symm
  · intro m2 hm2 z
    have e2 := e22 m2
    by_cases he : m2 = m
    · rw [if_pos he] at e2
      exact absurd e2 z
    · rw [if_neg he] at e2
      rw [e2] at z
      exact jE m2 hm2 z
theorem ok_matOf {w : GS} (hM : ∀ m, m < 4 → w.2.2 22 m = true) (c i : Nat) : Rd (f_matOf (nI c) (nI i)) w (fun r => (∃ m, m < 4 ∧ r = nI m ∧ w.1.2 22 m = nI (40 * c + i)) ∨ (r = -1 ∧ ∀ m, m < 4 → ¬ w.1.2 22 m = nI (40 * c + i))) := by
  have hlp : ∀ (t m n : Nat), m + t = 4 → t < n → (∀ m2, m2 < m → ¬ w.1.2 22 m2 = nI (40 * c + i)) → Rd (lp_matOf_2 n (nI c) (nI i) (nI m) (fun v1 v2 v3 => prt (-1))) w (fun r => (∃ m, m < 4 ∧ r = nI m ∧ w.1.2 22 m = nI (40 * c + i)) ∨ (r = -1 ∧ ∀ m, m < 4 → ¬ w.1.2 22 m = nI (40 * c + i))) := by
    intro t
    induction t with
    | zero =>
      intro m n h1 h2 h3
      cases n with
      | zero => omega
      | succ n =>
        have : m = 4 := by omega
        subst this
        unfold lp_matOf_2
        exact Rd_ite (fun _ => Rd_rt (Or.inr ⟨rfl, h3⟩)) (fun z => absurd (Int32.le_refl _) z)
    | succ t ih =>
      intro m n h1 h2 h3
      cases n with
      | zero => omega
      | succ n =>
        unfold lp_matOf_2
        refine Rd_ite (fun z => absurd z (nI_ge (b := 4) (by omega) (by decide))) (fun _ => ?_)
        rw [ix40]
        refine Rd_rdN rfl (by omega) (by decide) (Am.val (hM m (by omega))) (Rd_ite (fun z => Rd_rt (Or.inl ⟨m, by omega, rfl, z⟩)) (fun z => Rd_li ?_))
        rw [nI_1]
        refine ih (m + 1) n (by omega) (by omega) (fun m2 hm2 => ?_)
        rcases Nat.lt_or_ge m2 m with h9 | h9
        · exact h3 m2 h9
        · have : m2 = m := by omega
          subst this
          exact z
  unfold f_matOf
  exact hlp 4 0 fuel (by omega) (by unfold fuel; omega) (fun m2 h => absurd h (Nat.not_lt_zero _))
theorem St.trans {u v w : GS} (h1 : St u v) (h2 : St v w) : St u w := by
  obtain ⟨a1, a2, a3, a4, a5, a6, a7, a8, a9, a10, a11⟩ := h1
  obtain ⟨b1, b2, b3, b4, b5, b6, b7, b8, b9, b10, b11⟩ := h2
  exact ⟨b1.trans a1, b2.trans a2, b3.trans a3, b4.trans a4, b5.trans a5, b6.trans a6, b7.trans a7, b8.trans a8, b9.trans a9, b10.trans a10, b11.trans a11⟩
