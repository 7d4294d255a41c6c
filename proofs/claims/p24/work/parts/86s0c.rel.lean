/-! ===== the book's cells and the reference's ===== -/
def rI (B : Nat → Int32) (w : GS) : Prop := Im w 2 (B 2) ∧ Im w 3 (B 0) ∧ Im w 4 (B 1)
def rC (B : Nat → Int32) (w : GS) (c : Nat) : Prop := Am w 0 c (B (4 + 36 * c)) ∧ Am w 1 c (B (5 + 36 * c)) ∧ Am w 12 c (B (6 + 36 * c)) ∧ (¬ B (6 + 36 * c) = 0 → Am w 13 c (B (7 + 36 * c)) ∧ ∀ p, p < 32 → nI p < B (7 + 36 * c) → Am w 14 (32 * c + p) (B (8 + 36 * c + p)))
def rF (B : Nat → Int32) (w : GS) (f : Nat) : Prop := Am w 5 f (B (148 + 7 * f)) ∧ Am w 6 f (B (149 + 7 * f)) ∧ Am w 7 f (B (150 + 7 * f)) ∧ Am w 8 f (B (151 + 7 * f)) ∧ Am w 9 f (B (152 + 7 * f)) ∧ Am w 10 f (B (153 + 7 * f)) ∧ Am w 11 f (B (154 + 7 * f))
def rN (B : Nat → Int32) (f : Nat) : Prop := B (151 + 7 * f) = 0 ∧ B (152 + 7 * f) = 0
def fc (c i : Nat) : Nat := 820 + 8 * (37 * c + i)
def rR (B : Nat → Int32) (w : GS) (c i : Nat) : Prop := (B (fc c i) = 0 ∧ Am w 15 (40 * c + i) 0) ∨ (((B (fc c i) = 2 ∧ Am w 15 (40 * c + i) 1 ∧ ∃ m, m < 4 ∧ B (fc c i + 7) = nI m ∧ Am w 22 m (nI (40 * c + i))) ∨ (B (fc c i) = 3 ∧ Am w 15 (40 * c + i) 2 ∧ Am w 18 (40 * c + i) (B (fc c i + 3)) ∧ Am w 19 (40 * c + i) (B (fc c i + 4)) ∧ Am w 20 (40 * c + i) (B (fc c i + 5)) ∧ Am w 21 (40 * c + i) (B (fc c i + 6)))) ∧ Am w 16 (40 * c + i) (B (fc c i + 1)) ∧ Am w 17 (40 * c + i) (B (fc c i + 2)))
def mc0 (m : Nat) : Nat := 2004 + 21 * m
def rM (B : Nat → Int32) (w : GS) (m : Nat) : Prop := (B (mc0 m + 1) = -1 ∧ Am w 22 m (-1)) ∨ ∃ c i, c < 4 ∧ i < 37 ∧ B (mc0 m) = nI c ∧ B (mc0 m + 1) = nI i ∧ Am w 22 m (nI (40 * c + i)) ∧ Am w 23 m (B (mc0 m + 2)) ∧ Am w 25 m (B (mc0 m + 3)) ∧ Am w 26 m (B (mc0 m + 4)) ∧ ∀ k, k < 16 → Am w 24 (16 * m + k) (B (mc0 m + 5 + k))
/-- all but the laws -/
def R0 (B : Nat → Int32) (w : GS) : Prop := rI B w ∧ (∀ c, c < 4 → rC B w c) ∧ (∀ f, f < nF w → rF B w f) ∧ (∀ f, nF w ≤ f → f < 96 → rN B f) ∧ (∀ c, c < 4 → ∀ i, i < 37 → rR B w c i) ∧ ∀ m, m < 4 → rM B w m
theorem R0.nf {B : Nat → Int32} {w : GS} (h : R0 B w) : w.1.1 2 = B 2 := h.1.1.2
theorem R0.ag {B : Nat → Int32} {u v : GS} (ha : Ag u v) (h : R0 B u) : R0 B v := by
  have e2 : nF v = nF u := by
    unfold nF
    rw [(ha.im (by decide) h.1.1).2, h.1.1.2]
  obtain ⟨⟨i2, i3, i4⟩, hC, hF, hN, hR, hM⟩ := h
  refine ⟨⟨ha.im (by decide) i2, ha.im (by decide) i3, ha.im (by decide) i4⟩, fun c hc => ?_, fun f hf => ?_, fun f h1 h2 => hN f (by rw [← e2]; exact h1) h2, fun c hc i hi => ?_, fun m hm => ?_⟩
  · obtain ⟨a, b, d, e⟩ := hC c hc
    exact ⟨ha.am (by decide) a, ha.am (by decide) b, ha.am (by decide) d, fun z => ⟨ha.am (by decide) (e z).1, fun p h1 h2 => ha.am (by decide) ((e z).2 p h1 h2)⟩⟩
  · obtain ⟨a, b, d, e, f1, g, k⟩ := hF f (by rw [← e2]; exact hf)
    exact ⟨ha.am (by decide) a, ha.am (by decide) b, ha.am (by decide) d, ha.am (by decide) e, ha.am (by decide) f1, ha.am (by decide) g, ha.am (by decide) k⟩
  · rcases hR c hc i hi with ⟨a, b⟩ | ⟨⟨a, b, m, d, e, f⟩ | ⟨a, b, d, e, f, g⟩, y, z⟩
    · exact Or.inl ⟨a, ha.am (by decide) b⟩
    · exact Or.inr ⟨Or.inl ⟨a, ha.am (by decide) b, m, d, e, ha.am (by decide) f⟩, ha.am (by decide) y, ha.am (by decide) z⟩
    · exact Or.inr ⟨Or.inr ⟨a, ha.am (by decide) b, ha.am (by decide) d, ha.am (by decide) e, ha.am (by decide) f, ha.am (by decide) g⟩, ha.am (by decide) y, ha.am (by decide) z⟩
  · rcases hM m hm with ⟨a, b⟩ | ⟨c, i, a, b, d, e, f, g, k, l, n⟩
    · exact Or.inl ⟨a, ha.am (by decide) b⟩
    · exact Or.inr ⟨c, i, a, b, d, e, ha.am (by decide) f, ha.am (by decide) g, ha.am (by decide) k, ha.am (by decide) l, fun q hq => ha.am (by decide) (n q hq)⟩
/-! reads of the book -/
theorem rdB (f : Nat → Int32) {j : Nat} (hj : j < 2088) : rg f 2088 (nI j) = f j := rg_in hj (by decide)
theorem wrB (f : Nat → Int32) {j : Nat} (x : Int32) (hj : j < 2088) : rs f 2088 (nI j) x = upd f j x := by
  funext k
  rw [rs_in hj (by decide)]
  rfl
theorem upd_e {f : Nat → Int32} {j : Nat} {x : Int32} : upd f j x j = x := if_pos rfl
theorem upd_n {f : Nat → Int32} {j k : Nat} {x : Int32} (h : ¬ k = j) : upd f j x k = f k := if_neg h
theorem ixC (c f : Nat) : (4 : Int32) + nI c * 36 + nI f = nI (4 + 36 * c + f) := by
  have e : nI c * 36 = nI (36 * c) := by rw [Nat.mul_comm, ← nI_mul]; rfl
  rw [e, ← nI_add, ← nI_add]
  rfl
theorem ixF (f k : Nat) : (148 : Int32) + nI f * 7 + nI k = nI (148 + 7 * f + k) := by
  have e : nI f * 7 = nI (7 * f) := by rw [Nat.mul_comm, ← nI_mul]; rfl
  rw [e, ← nI_add, ← nI_add]
  rfl
theorem ixM (m k : Nat) : (2004 : Int32) + nI m * 21 + nI k = nI (mc0 m + k) := by
  have e : nI m * 21 = nI (21 * m) := by rw [Nat.mul_comm, ← nI_mul]; rfl
  unfold mc0
  rw [e, ← nI_add, ← nI_add]
  rfl
theorem ixR (c i k : Nat) : (820 : Int32) + (nI c * 37 + nI i) * 8 + nI k = nI (fc c i + k) := by
  have e : nI c * 37 = nI (37 * c) := by rw [Nat.mul_comm, ← nI_mul]; rfl
  have e2 : nI (37 * c + i) * 8 = nI (8 * (37 * c + i)) := by rw [Nat.mul_comm 8, ← nI_mul]; rfl
  unfold fc
  rw [e, nI_add, e2, ← nI_add, ← nI_add]
  rfl
theorem e_ofClass (c k : Nat) {z : Int32} (hz : z = nI k) : x_X1_ofClass (nI c) z = nrt (nI (4 + 36 * c + k)) := by
  unfold x_X1_ofClass
  rw [hz, ixC]
theorem e_ofFighter (f k : Nat) {z : Int32} (hz : z = nI k) : x_X1_ofFighter (nI f) z = nrt (nI (148 + 7 * f + k)) := by
  unfold x_X1_ofFighter
  rw [hz, ixF]
theorem e_ofMat (m k : Nat) {z : Int32} (hz : z = nI k) : x_X1_ofMat (nI m) z = nrt (nI (mc0 m + k)) := by
  unfold x_X1_ofMat
  rw [hz, ixM]
theorem e_kindOf {u : MS} {c : Nat} (hc : c < 4) : x_X0_kindOf (nI c) u = some (u.2 0 (6 + 36 * c), u) := by
  unfold x_X0_kindOf
  rw [e_ofClass c 2 (show (2 : Int32) = nI 2 from rfl)]
  have e : 4 + 36 * c + 2 = 6 + 36 * c := by omega
  show some (rg (u.2 0) 2088 (nI (4 + 36 * c + 2)), u) = _
  rw [e, rdB _ (by omega)]
theorem e_isDrawn {u : MS} {c : Nat} (hc : c < 4) : x_X0_isDrawn (nI c) u = some (if u.2 0 (6 + 36 * c) = 0 then 0 else 1, u) := by
  unfold x_X0_isDrawn
  refine ncl_eq (e_kindOf hc) ?_
  by_cases h : u.2 0 (6 + 36 * c) = 0
  · rw [if_pos h, if_pos h]; rfl
  · rw [if_neg h, if_neg h]; rfl
theorem e_people {u : MS} : x_X8_people u = some (u.2 0 2, u) := by
  have e : rg (u.2 0) 2088 2 = u.2 0 2 := rdB (u.2 0) (j := 2) (by decide)
  show some (rg (u.2 0) 2088 2, u) = _
  rw [e]
theorem e_isFull {u : MS} {n : Nat} (h : u.1 1 = nI n) (hn : n ≤ 500) : x_X1_isFull u = some (if n < 500 then 0 else 1, u) := by
  unfold x_X1_isFull
  refine ncl_eq (a := u.1 1) (v := u) rfl ?_
  rw [h]
  by_cases h5 : n < 500
  · rw [if_pos (show nI n < 500 from nI_lt (b := 500) h5 (by decide)), if_pos h5]; rfl
  · rw [if_neg (show ¬ nI n < 500 from fun z => h5 ((nI_ltI (a := n) (b := 500) (by omega) (by decide)).mp z)), if_neg h5]; rfl
theorem cls_cases (a : Int32) : (x_X11_isClass a = nrt 0 ∧ ¬ ∃ c, c < 4 ∧ a = nI c) ∨ (x_X11_isClass a = nrt 1 ∧ ∃ c, c < 4 ∧ a = nI c) := by
  unfold x_X11_isClass
  by_cases h1 : a < 0
  · refine Or.inl ⟨if_pos h1, ?_⟩
    rintro ⟨c, hc, rfl⟩
    exact nI_nn (by omega) h1
  · rw [if_neg h1]
    by_cases h2 : 4 ≤ a
    · refine Or.inl ⟨if_pos h2, ?_⟩
      rintro ⟨c, hc, rfl⟩
      exact absurd ((nI_leI (a := 4) (b := c) (by decide) (by omega)).mp h2) (by omega)
    · refine Or.inr ⟨if_neg h2, ?_⟩
      obtain ⟨j, hj, rfl⟩ := nI_of h1
      exact ⟨j, Nat.not_le.mp (fun z => h2 (nI_le (a := 4) z hj)), rfl⟩

