/-! ===== feed, with its answers ===== -/
theorem feed_okr (a b c d e : Int32) (u : MS) (tp : Nat) (ht : tp ≤ 3000) (h2 : u.1 2 = nI tp) : ∃ r v, x_X11_feed a b c d e u = some (r, v) ∧ Same [2] [4] u v ∧ ((tp + 20 ≤ 3000 ∧ r = nI (tp + 20) ∧ v.1 2 = nI (tp + 20)) ∨ (¬ tp + 20 ≤ 3000 ∧ r = -4 ∧ v.1 2 = nI tp)) := by
  have e20 : u.1 2 + 20 = nI (tp + 20) := by rw [h2]; exact nI_add tp 20
  unfold x_X11_feed
  by_cases h : tp + 20 ≤ 3000
  · obtain ⟨v1, f1, g1, s1⟩ := push_ok a u tp h2
    obtain ⟨v2, f2, g2, s2⟩ := push_ok b v1 _ g1
    obtain ⟨v3, f3, g3, s3⟩ := push_ok c v2 _ g2
    obtain ⟨v4, f4, g4, s4⟩ := push_ok d v3 _ g3
    obtain ⟨v5, f5, g5, s5⟩ := push_ok e v4 _ g4
    refine ⟨v5.1 2, v5, ?_, s1.trans (s2.trans (s3.trans (s4.trans s5))), Or.inl ⟨h, by rw [g5], by rw [g5]⟩⟩
    refine ncl_eq (a := u.1 2) (v := u) rfl ?_
    have hle : u.1 2 + 20 ≤ 3000 := by rw [e20]; exact nI_le (b := 3000) h (by decide)
    rw [if_pos hle]
    exact ncl_eq f1 (ncl_eq f2 (ncl_eq f3 (ncl_eq f4 (ncl_eq f5 rfl))))
  · refine ⟨-4, u, ?_, Same.rf u, Or.inr ⟨h, rfl, h2⟩⟩
    refine ncl_eq (a := u.1 2) (v := u) rfl ?_
    have hle : ¬ u.1 2 + 20 ≤ 3000 := by
      rw [e20]
      exact fun z => h ((nI_leI (a := tp + 20) (b := 3000) (by omega) (by decide)).mp z)
    rw [if_neg hle]
    rfl
