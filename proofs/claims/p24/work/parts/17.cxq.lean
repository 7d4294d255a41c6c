def cxq (y : MethodName) (b : ByteArray) (n : Nat) (r : Option FieldType) : Option Cond → Bool
  | some (.code y' b' n' r') => decide (y = y') && decide (b.data.toList = b'.data.toList) && decide (n = n') && decide (r = r')
  | _ => false
theorem cxq_mem {L : List Cond} {y : MethodName} {b : ByteArray} {n : Nat} {r : Option FieldType} (i : Nat) (h : cxq y b n r L[i]? = true) : Cond.code y b n r ∈ L := by
  cases hL : L[i]? with
  | none => rw [hL] at h; cases h
  | some w =>
    rw [hL] at h
    have hm := List.mem_of_getElem? hL
    cases w <;> first | (cases h; done) | skip
    rename_i y' b' n' r'
    simp only [cxq, Bool.and_eq_true, decide_eq_true_eq] at h
    obtain ⟨⟨⟨h1, h2⟩, h3⟩, h4⟩ := h
    obtain ⟨⟨d⟩⟩ := b
    obtain ⟨⟨d'⟩⟩ := b'
    subst h1; subst h2; subst h3; subst h4
    exact hm

