/-! ===== draw, begin, event, tick, decide, strike ===== -/
theorem Dr.drs {w : GS} {c n : Nat} (h : Dr w c n) : DrS w c n := by
  rcases h with ⟨s, ⟨h0, h1, a, b, d, e, f, g, -⟩, k⟩ | ⟨L, ⟨h0, h1, a, b, d, e, f, g, g2, -⟩, k⟩
  · exact ⟨h0, h1, Or.inl ⟨s, a, b, d, e, f, g, k⟩⟩
  · exact ⟨h0, h1, Or.inr ⟨L, a, b, d, e, f, g, g2, k⟩⟩
