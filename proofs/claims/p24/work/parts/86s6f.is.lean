/-! ===== is(w), by the class's kind of token ===== -/
def kc (k : Nat) : Nat := if k ≤ 13 then k + 3 else if k = 14 then 19 else if k = 15 then 17 else if k = 16 then 18 else if k = 23 then 20 else if k = 24 then 21 else k + 5
def imk (m : Nat) : Nat := if m = 27 then 33 else if m = 17 then 40 else if m = 18 then 41 else if m = 20 then 43 else if m = 21 then 45 else if m = 19 then 59 else if m = 22 ∨ m = 23 then 60 else if m = 26 then 61 else 62
theorem mkk_inv (t : Nat) (e : Bool) : mkk t e = 1 ∨ (17 ≤ mkk t e ∧ mkk t e ≤ 27 ∧ t = imk (mkk t e)) := by
  unfold mkk
  repeat' split
  all_goals first
    | exact Or.inl rfl
    | (refine Or.inr ⟨by decide, by decide, ?_⟩; subst_vars; decide)
theorem sp_same : ∀ k < 14, 1 ≤ k → sln (k + 24) = sln k ∧ 0 < sln k ∧ tLe (chn k 0) ∧ ∀ j < 8, chn (k + 24) j = chn k j := by decide +kernel
theorem sp_dist : ∀ k1 < 14, ∀ k2 < 14, (1 ≤ k1 ∧ 1 ≤ k2 ∧ sln k1 = sln k2 ∧ ∀ j < 8, (sln k1 ≤ j ∨ chn k1 j = chn k2 j)) → k1 = k2 := by decide +kernel
theorem sp_mark : ∀ k < 25, 14 ≤ k → (sln k = 1 ∨ (sln k = 2 ∧ chn k 1 = 61)) ∧ ¬ tLe (chn k 0) ∧ imk (kc k) = chn k 0 ∧ 17 ≤ kc k ∧ ∀ e : Bool, ((sln k = 1 + wide (chn k 0) e ∧ ¬ mkk (chn k 0) e = 1) ↔ mkk (chn k 0) e = kc k) := by decide +kernel
theorem kc_ge {k : Nat} (h : 1 ≤ k) : 4 ≤ kc k := by
  unfold kc
  repeat' split
  all_goals omega
theorem wk_no {T : Nat → Nat} {a b : Nat} (z : wk T a b = 2) : ∀ k, 25 ≤ k → k < 38 → ¬ Spl T a b k := by
  unfold wk at z
  by_cases h25 : Spl T a b 25
  · rw [if_pos h25] at z
    exact absurd z (by decide)
  rw [if_neg h25] at z
  by_cases h26 : Spl T a b 26
  · rw [if_pos h26] at z
    exact absurd z (by decide)
  rw [if_neg h26] at z
  by_cases h27 : Spl T a b 27
  · rw [if_pos h27] at z
    exact absurd z (by decide)
  rw [if_neg h27] at z
  by_cases h28 : Spl T a b 28
  · rw [if_pos h28] at z
    exact absurd z (by decide)
  rw [if_neg h28] at z
  by_cases h29 : Spl T a b 29
  · rw [if_pos h29] at z
    exact absurd z (by decide)
  rw [if_neg h29] at z
  by_cases h30 : Spl T a b 30
  · rw [if_pos h30] at z
    exact absurd z (by decide)
  rw [if_neg h30] at z
  by_cases h31 : Spl T a b 31
  · rw [if_pos h31] at z
    exact absurd z (by decide)
  rw [if_neg h31] at z
  by_cases h32 : Spl T a b 32
  · rw [if_pos h32] at z
    exact absurd z (by decide)
  rw [if_neg h32] at z
  by_cases h33 : Spl T a b 33
  · rw [if_pos h33] at z
    exact absurd z (by decide)
  rw [if_neg h33] at z
  by_cases h34 : Spl T a b 34
  · rw [if_pos h34] at z
    exact absurd z (by decide)
  rw [if_neg h34] at z
  by_cases h35 : Spl T a b 35
  · rw [if_pos h35] at z
    exact absurd z (by decide)
  rw [if_neg h35] at z
  by_cases h36 : Spl T a b 36
  · rw [if_pos h36] at z
    exact absurd z (by decide)
  rw [if_neg h36] at z
  by_cases h37 : Spl T a b 37
  · rw [if_pos h37] at z
    exact absurd z (by decide)
  rw [if_neg h37] at z
  intro k h1 h2
  rcases (by omega : k = 25 ∨ k = 26 ∨ k = 27 ∨ k = 28 ∨ k = 29 ∨ k = 30 ∨ k = 31 ∨ k = 32 ∨ k = 33 ∨ k = 34 ∨ k = 35 ∨ k = 36 ∨ k = 37) with rfl | rfl | rfl | rfl | rfl | rfl | rfl | rfl | rfl | rfl | rfl | rfl | rfl
  · exact h25
  · exact h26
  · exact h27
  · exact h28
  · exact h29
  · exact h30
  · exact h31
  · exact h32
  · exact h33
  · exact h34
  · exact h35
  · exact h36
  · exact h37
section
variable {T : Nat → Nat} {N : Nat}
theorem spl_un {a b k1 k2 : Nat} (h1 : 1 ≤ k1 ∧ k1 < 14) (h2 : 1 ≤ k2 ∧ k2 < 14) (s1 : Spl T a b (k1 + 24)) (s2 : Spl T a b (k2 + 24)) : k1 = k2 := by
  obtain ⟨e1, -, -, f1⟩ := sp_same k1 h1.2 h1.1
  obtain ⟨e2, -, -, f2⟩ := sp_same k2 h2.2 h2.1
  refine sp_dist k1 h1.2 k2 h2.2 ⟨h1.1, h2.1, by omega, fun j hj => ?_⟩
  rcases Nat.lt_or_ge j (sln k1) with hj2 | hj2
  rotate_left
  · exact Or.inl hj2
  refine Or.inr ?_
  have a1 := s1.2 j (by omega)
  have a2 := s2.2 j (by omega)
  rw [f1 j hj] at a1
  rw [f2 j hj] at a2
  exact a1.symm.trans a2
theorem wk_iff {a b k : Nat} (hk : 1 ≤ k ∧ k < 14) : wk T a b = k + 3 ↔ Spl T a b (k + 24) := by
  refine ⟨fun h => ?_, fun h => ?_⟩
  · rcases wk_v T a b with z | ⟨-, -, z⟩
    · omega
    · rw [h] at z
      exact z
  · rcases wk_v T a b with z | ⟨z1, z2, z⟩
    · exfalso
      exact wk_no z (k + 24) (by omega) (by omega) h
    · have := spl_un (k1 := k) (k2 := wk T a b - 3) hk ⟨by omega, by omega⟩ h (by rw [show wk T a b - 3 + 24 = wk T a b + 21 by omega]; exact z)
      omega
theorem is_iff {a b k : Nat} (hE : TkE T N a b) (hk1 : 1 ≤ k) (hk : k < 25) : ((rkk T N a b = 1 ∨ rkk T N a b = 3) ∧ Spl T a b k) ↔ tkk T N a b = kc k := by
  have h4 := kc_ge hk1
  rcases hE with ⟨h1, -⟩ | ⟨hlt, hL, hR⟩ | ⟨hlt, hL, hD, hR⟩ | ⟨hlt, hL, hD, hb⟩
  · have e1 : rkk T N a b = 0 := by unfold rkk; rw [if_neg (by omega)]
    have e2 : tkk T N a b = 0 := by unfold tkk; rw [if_neg (by omega)]
    rw [e1, e2]
    exact ⟨fun z => absurd z.1 (by decide), fun z => by omega⟩
  · by_cases h10 : b - a ≤ 10
    · have e1 : rkk T N a b = 1 := by unfold rkk; rw [if_pos hlt, if_pos hL, if_pos h10]
      have e2 : tkk T N a b = wk T a b := by unfold tkk; rw [if_pos hlt, if_pos hL, if_pos h10]
      rw [e1, e2]
      rcases Nat.lt_or_ge k 14 with h14 | h14
      · have ek : kc k = k + 3 := by unfold kc; rw [if_pos (by omega)]
        rw [ek, wk_iff ⟨hk1, h14⟩]
        obtain ⟨s1, s2, s3, s4⟩ := sp_same k h14 hk1
        have s8 := (sln38 k (by omega)).2
        refine ⟨fun z => ⟨by rw [s1]; exact z.2.1, fun j hj => ?_⟩, fun z => ⟨Or.inl rfl, by rw [← s1]; exact z.1, fun j hj => ?_⟩⟩
        · rw [s4 j (by omega)]
          exact z.2.2 j (by omega)
        · rw [← s4 j (by omega)]
          exact z.2 j (by omega)
      · obtain ⟨m1, m2, m3, m4, m5⟩ := sp_mark k hk h14
        refine ⟨fun z => absurd ?_ m2, fun z => ?_⟩
        · have := z.2.2 0 (by omega)
          rw [Nat.add_zero] at this
          rw [← this]
          exact hL
        · rcases wk_v T a b with y | y
          · omega
          · omega
    · have e1 : rkk T N a b = 4 := by unfold rkk; rw [if_pos hlt, if_pos hL, if_neg h10]
      have e2 : tkk T N a b = 1 := by unfold tkk; rw [if_pos hlt, if_pos hL, if_neg h10]
      rw [e1, e2]
      exact ⟨fun z => absurd z.1 (by decide), fun z => by omega⟩
  · have e1 : rkk T N a b = 2 ∨ rkk T N a b = 4 := by
      unfold rkk
      rw [if_pos hlt, if_neg hL, if_pos hD]
      by_cases h10 : b - a ≤ 4
      · rw [if_pos h10]; exact Or.inl rfl
      · rw [if_neg h10]; exact Or.inr rfl
    have e2 : tkk T N a b ≤ 3 := by
      unfold tkk
      rw [if_pos hlt, if_neg hL, if_pos hD]
      by_cases h10 : b - a ≤ 4
      · rw [if_pos h10]; exact Nat.le_refl _
      · rw [if_neg h10]; decide
    exact ⟨fun z => by omega, fun z => by omega⟩
  · have e1 := rkk_m (b := b) hlt hL hD
    have e2 : tkk T N a b = mkk (T a) (eqn T N (a + 1)) := by unfold tkk; rw [if_pos hlt, if_neg hL, if_neg hD]
    have ee : eqn T N (a + 1) = true ↔ (a + 1 < N ∧ T (a + 1) = 61) := decide_eq_true_iff
    rw [e2]
    have e3 : (rkk T N a b = 1 ∨ rkk T N a b = 3) ↔ ¬ mkk (T a) (eqn T N (a + 1)) = 1 := by
      rw [e1]
      by_cases h : mkk (T a) (eqn T N (a + 1)) = 1
      · rw [if_pos h]
        exact ⟨fun z => absurd z (by decide), fun z => absurd h z⟩
      · rw [if_neg h]
        exact ⟨fun _ => h, fun _ => Or.inr rfl⟩
    rw [e3]
    have hba : b - a = 1 + wide (T a) (eqn T N (a + 1)) := by omega
    rcases Nat.lt_or_ge k 14 with h14 | h14
    · have ek : kc k = k + 3 := by unfold kc; rw [if_pos (by omega)]
      obtain ⟨s1, s2, s3, s4⟩ := sp_same k h14 hk1
      refine ⟨fun z => absurd ?_ hL, fun z => ?_⟩
      · have := z.2.2 0 s2
        rw [Nat.add_zero] at this
        rw [this]
        exact s3
      · rcases mkk_inv (T a) (eqn T N (a + 1)) with y | y
        · omega
        · omega
    · obtain ⟨m1, m2, m3, m4, m5⟩ := sp_mark k hk h14
      refine ⟨fun z => ?_, fun z => ?_⟩
      · have h0 := z.2.2 0 (by omega)
        rw [Nat.add_zero] at h0
        have := (m5 (eqn T N (a + 1))).mp ⟨by rw [← h0, ← hba]; exact z.2.1.symm, by rw [← h0]; exact z.1⟩
        rw [← h0] at this
        exact this
      · have h0 : T a = chn k 0 := by
          rcases mkk_inv (T a) (eqn T N (a + 1)) with y | ⟨-, -, y⟩
          · omega
          · rw [y, z, m3]
        have h5 := (m5 (eqn T N (a + 1))).mpr (by rw [← h0]; exact z)
        rw [← h0] at h5
        refine ⟨h5.2, by rw [hba]; exact h5.1.symm, fun j hj => ?_⟩
        rcases m1 with q | ⟨q1, q2⟩
        · have : j = 0 := by omega
          rw [this, Nat.add_zero, h0]
        · rcases (by omega : j = 0 ∨ j = 1) with rfl | rfl
          · rw [Nat.add_zero, h0]
          · rw [q2]
            have hw : wide (T a) (eqn T N (a + 1)) = 1 := by omega
            unfold wide at hw
            by_cases y : eqn T N (a + 1) = true ∧ (T a = 33 ∨ T a = 60 ∨ T a = 62)
            · exact (ee.mp y.1).2
            · rw [if_neg y] at hw
              exact absurd hw (by decide)
end
