theorem gl_top (B : Int32) : B.toNatClampNeg < 2 ^ 31 := by
  have := B.toInt_lt
  unfold Int32.toNatClampNeg
  omega
theorem gl_ne {x k : Int32} {a : Int} (h : ¬ x = k) (ha : k.toInt = a) : ¬ a = x.toInt := fun e => h (Int32.toInt_inj.mp (by rw [ha]; exact e.symm))
