/-! ===== medal ===== -/
theorem cb_full {P : Nat → Bool} : ∀ k, cb P k = k → ∀ i, i < k → P i = true := by
  intro k
  induction k with
  | zero => intro _ i hi; omega
  | succ k ih =>
    intro h i hi
    have hle := cb_le (P := P) k
    by_cases hp : P k = true
    · rw [cb_t hp] at h
      by_cases he : i = k
      · rw [he]; exact hp
      · exact ih (by omega) i (by omega)
    · rw [cb_f hp] at h
      omega
