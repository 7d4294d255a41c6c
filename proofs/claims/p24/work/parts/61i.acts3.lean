theorem i64s1 : ∀ g < 9, ((nI g).toInt64 - 1).toInt = (g : Int) - 1 := by decide +kernel
/-! ===== readers ===== -/
theorem Rd.live {N tp : Nat} {w : GS} {p : PG Int32} {R : Int32 → Prop} (h : Live N tp w) (hr : Rd p w R) : Ok p w (fun _ v => Live N tp v) := Ok.mono hr (fun _ v z => by rw [z.1]; exact h)
