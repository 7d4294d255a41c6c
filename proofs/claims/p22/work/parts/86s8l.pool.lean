/-! ===== medal() of a pool: what both sides count ===== -/
def wo (B : Nat → Int32) (c : Nat) (x : Int32) : Nat → Int32
  | 0 => 0
  | k + 1 => wo B c x k + (if B (fc c k + 3) = x then 1 else 0)
def so (B : Nat → Int32) (c : Nat) (x : Int32) : Nat → Int32
  | 0 => 0
  | k + 1 => so B c x k + (if B (fc c k + 3) = x then B (fc c k + 5) else 0)
theorem wo_s (B : Nat → Int32) (c : Nat) (x : Int32) (k : Nat) : wo B c x (k + 1) = wo B c x k + (if B (fc c k + 3) = x then 1 else 0) := rfl
theorem so_s (B : Nat → Int32) (c : Nat) (x : Int32) (k : Nat) : so B c x (k + 1) = so B c x k + (if B (fc c k + 3) = x then B (fc c k + 5) else 0) := rfl
abbrev Alk (B : Nat → Int32) (c n : Nat) (x y : Int32) : Prop := wo B c x n = wo B c y n ∧ so B c x n = so B c y n
def alN (B : Nat → Int32) (c n : Nat) (f : Int32) : Nat → Nat
  | 0 => 0
  | p + 1 => alN B c n f p + (if Alk B c n (pl B c p) f then 1 else 0)
theorem alN_s (B : Nat → Int32) (c n : Nat) (f : Int32) (p : Nat) : alN B c n f (p + 1) = alN B c n f p + (if Alk B c n (pl B c p) f then 1 else 0) := rfl
def lsr (B : Nat → Int32) (c S i : Nat) : Int32 := if qA B c S i = B (fc c i + 3) then qB B c S i else qA B c S i
def btv (B : Nat → Int32) (c S : Nat) (o f : Int32) : Nat → Nat → Int32
  | 0, _ => 0
  | t + 1, i => if B (fc c i + 3) = o then (if lsr B c S i = f then 1 else btv B c S o f t (i + 1)) else btv B c S o f t (i + 1)
theorem btv_s (B : Nat → Int32) (c S : Nat) (o f : Int32) (t i : Nat) : btv B c S o f (t + 1) i = if B (fc c i + 3) = o then (if lsr B c S i = f then 1 else btv B c S o f t (i + 1)) else btv B c S o f t (i + 1) := rfl
def grm (B : Nat → Int32) (x : Int32) : Int32 := B (150 + 7 * x.toNatClampNeg)
def tie (B : Nat → Int32) (c S n : Nat) (o f : Int32) (al : Nat) : Int32 := if al = 2 then btv B c S o f n 0 else if grm B o = grm B f then (if f ≤ o then 0 else 1) else (if grm B f ≤ grm B o then 0 else 1)
def mor (B : Nat → Int32) (c n : Nat) (o f : Int32) : Int32 := if wo B c o n = wo B c f n then (if so B c o n ≤ so B c f n then 0 else 1) else (if wo B c o n ≤ wo B c f n then 0 else 1)
def isAw (B : Nat → Int32) (c S n : Nat) (o f : Int32) (al : Nat) : Int32 := if Alk B c n o f then tie B c S n o f al else mor B c n o f
def ahv (B : Nat → Int32) (c S n : Nat) (f : Int32) : Nat → Nat
  | 0 => 0
  | p + 1 => ahv B c S n f p + (if pl B c p = f then 0 else if isAw B c S n (pl B c p) f (alN B c n f S) = 0 then 0 else 1)
theorem ahv_s (B : Nat → Int32) (c S n : Nat) (f : Int32) (p : Nat) : ahv B c S n f (p + 1) = ahv B c S n f p + (if pl B c p = f then 0 else if isAw B c S n (pl B c p) f (alN B c n f S) = 0 then 0 else 1) := rfl
def mres (B : Nat → Int32) (c S n : Nat) (k : Int32) : Nat → Nat → Int32
  | 0, _ => -1
  | t + 1, p => if nI (ahv B c S n (pl B c p) S) = k then pl B c p else mres B c S n k t (p + 1)
theorem mres_s (B : Nat → Int32) (c S n : Nat) (k : Int32) (t p : Nat) : mres B c S n k (t + 1) p = if nI (ahv B c S n (pl B c p) S) = k then pl B c p else mres B c S n k t (p + 1) := rfl
theorem btv_01 (B : Nat → Int32) (c S : Nat) (o f : Int32) : ∀ t i, btv B c S o f t i = 0 ∨ btv B c S o f t i = 1 := by
  intro t
  induction t with
  | zero => exact fun i => Or.inl rfl
  | succ t ih =>
    intro i
    rw [btv_s]
    split
    · split
      · exact Or.inr rfl
      · exact ih (i + 1)
    · exact ih (i + 1)
theorem alN_le (B : Nat → Int32) (c n : Nat) (f : Int32) : ∀ p, alN B c n f p ≤ p := by
  intro p
  induction p with
  | zero => exact Nat.le_refl _
  | succ p ih =>
    rw [alN_s]
    split <;> omega
theorem alN_eq {B : Nat → Int32} {c n : Nat} {o f : Int32} (h : Alk B c n o f) : ∀ p, alN B c n o p = alN B c n f p := by
  intro p
  induction p with
  | zero => rfl
  | succ p ih =>
    rw [alN_s, alN_s, ih]
    unfold Alk
    rw [h.1, h.2]
theorem ahv_le (B : Nat → Int32) (c S n : Nat) (f : Int32) : ∀ p, ahv B c S n f p ≤ p := by
  intro p
  induction p with
  | zero => exact Nat.le_refl _
  | succ p ih =>
    rw [ahv_s]
    split
    · omega
    · split <;> omega
theorem ahv_lt {B : Nat → Int32} {c S n : Nat} {f : Int32} {x : Nat} (hx : pl B c x = f) : ∀ p, x < p → ahv B c S n f p < p := by
  intro p
  induction p with
  | zero => intro h; omega
  | succ p ih =>
    intro h
    rw [ahv_s]
    by_cases e : x = p
    · subst e
      rw [if_pos hx]
      have := ahv_le B c S n f x
      omega
    · have := ih (by omega)
      split
      · omega
      · split <;> omega
theorem mres_no {B : Nat → Int32} {c S n : Nat} {k : Int32} (hS : S ≤ 5) (hk : k < 0 ∨ nI S ≤ k) : ∀ t p, p + t = S → mres B c S n k t p = -1 := by
  intro t
  induction t with
  | zero => exact fun p _ => rfl
  | succ t ih =>
    intro p hp
    rw [mres_s]
    have h1 := ahv_lt (B := B) (c := c) (S := S) (n := n) (x := p) rfl S (by omega)
    rw [if_neg, ih (p + 1) (by omega)]
    rintro rfl
    rcases hk with z | z
    · exact nI_nn (by omega) z
    · have := (nI_leI (by omega) (by omega)).mp z
      omega
/-! pairs -/
theorem prP_ex : ∀ S < 6, ∀ x < S, ∀ y < S, (x == y || (List.range (S * (S - 1) / 2)).any (fun i => ((prP 5 S i 1).1 == x && (prP 5 S i 1).1 + (prP 5 S i 1).2 == y) || ((prP 5 S i 1).1 == y && (prP 5 S i 1).1 + (prP 5 S i 1).2 == x))) = true := by decide +kernel
theorem prP_un : ∀ S < 6, ∀ i < 10, ∀ j < 10, (i == j || !(decide (i < S * (S - 1) / 2)) || !(decide (j < S * (S - 1) / 2)) || !(((prP 5 S i 1).1 == (prP 5 S j 1).1 && (prP 5 S i 1).1 + (prP 5 S i 1).2 == (prP 5 S j 1).1 + (prP 5 S j 1).2) || ((prP 5 S i 1).1 == (prP 5 S j 1).1 + (prP 5 S j 1).2 && (prP 5 S i 1).1 + (prP 5 S i 1).2 == (prP 5 S j 1).1))) = true := by decide +kernel
def Pair (B : Nat → Int32) (c S : Nat) (o f : Int32) (i : Nat) : Prop := (qA B c S i = o ∧ qB B c S i = f) ∨ (qA B c S i = f ∧ qB B c S i = o)
theorem n10 {S : Nat} (h : S ≤ 5) : S * (S - 1) / 2 ≤ 10 := by
  rcases (by omega : S = 0 ∨ S = 1 ∨ S = 2 ∨ S = 3 ∨ S = 4 ∨ S = 5) with rfl | rfl | rfl | rfl | rfl | rfl <;> decide
theorem pair_ex {B : Nat → Int32} {c S x y : Nat} (hS : S ≤ 5) (hx : x < S) (hy : y < S) (hne : ¬ x = y) : ∃ i, i < S * (S - 1) / 2 ∧ Pair B c S (pl B c x) (pl B c y) i := by
  have h := prP_ex S (by omega) x hx y hy
  rw [Bool.or_eq_true] at h
  rcases h with h | h
  · exact absurd (beq_iff_eq.mp h) hne
  · obtain ⟨i, hi, h2⟩ := List.any_eq_true.mp h
    rw [List.mem_range] at hi
    refine ⟨i, hi, ?_⟩
    rw [Bool.or_eq_true, Bool.and_eq_true, Bool.and_eq_true, beq_iff_eq, beq_iff_eq, beq_iff_eq, beq_iff_eq] at h2
    unfold Pair qA qB
    rcases h2 with ⟨a, b⟩ | ⟨a, b⟩
    · exact Or.inl ⟨by rw [a], by rw [b]⟩
    · exact Or.inr ⟨by rw [a], by rw [b]⟩
theorem pair_un {B : Nat → Int32} {c S i j : Nat} {o f : Int32} (hS : S ≤ 5) (hinj : ∀ p q, p < S → q < S → pl B c p = pl B c q → p = q) (hi : i < S * (S - 1) / 2) (hj : j < S * (S - 1) / 2) (h1 : Pair B c S o f i) (h2 : Pair B c S o f j) : i = j := by
  have h10 := n10 hS
  have hu := prP_un S (by omega) i (by omega) j (by omega)
  have li := prP_lt S (by omega) i (by omega) hi
  have lj := prP_lt S (by omega) j (by omega) hj
  by_cases e : i = j
  · exact e
  · exfalso
    have inj := fun p q (hp : p < S) (hq : q < S) z => hinj p q hp hq z
    have key : ((prP 5 S i 1).1 = (prP 5 S j 1).1 ∧ (prP 5 S i 1).1 + (prP 5 S i 1).2 = (prP 5 S j 1).1 + (prP 5 S j 1).2) ∨ ((prP 5 S i 1).1 = (prP 5 S j 1).1 + (prP 5 S j 1).2 ∧ (prP 5 S i 1).1 + (prP 5 S i 1).2 = (prP 5 S j 1).1) := by
      unfold Pair qA qB at h1 h2
      rcases h1 with ⟨a, b⟩ | ⟨a, b⟩
      · rcases h2 with ⟨d, g⟩ | ⟨d, g⟩
        · exact Or.inl ⟨inj _ _ (by omega) (by omega) (a.trans d.symm), inj _ _ (by omega) (by omega) (b.trans g.symm)⟩
        · exact Or.inr ⟨inj _ _ (by omega) (by omega) (a.trans g.symm), inj _ _ (by omega) (by omega) (b.trans d.symm)⟩
      · rcases h2 with ⟨d, g⟩ | ⟨d, g⟩
        · exact Or.inr ⟨inj _ _ (by omega) (by omega) (a.trans g.symm), inj _ _ (by omega) (by omega) (b.trans d.symm)⟩
        · exact Or.inl ⟨inj _ _ (by omega) (by omega) (a.trans d.symm), inj _ _ (by omega) (by omega) (b.trans g.symm)⟩
    rw [Bool.or_eq_true, Bool.or_eq_true, Bool.or_eq_true, beq_iff_eq] at hu
    rcases hu with ((hu | hu) | hu) | hu
    · exact e hu
    · rw [decide_eq_true hi] at hu
      exact absurd hu (by decide)
    · rw [decide_eq_true hj] at hu
      exact absurd hu (by decide)
    · have hk : (((prP 5 S i 1).1 == (prP 5 S j 1).1 && (prP 5 S i 1).1 + (prP 5 S i 1).2 == (prP 5 S j 1).1 + (prP 5 S j 1).2) || ((prP 5 S i 1).1 == (prP 5 S j 1).1 + (prP 5 S j 1).2 && (prP 5 S i 1).1 + (prP 5 S i 1).2 == (prP 5 S j 1).1)) = true := by
        rw [Bool.or_eq_true, Bool.and_eq_true, Bool.and_eq_true, beq_iff_eq, beq_iff_eq, beq_iff_eq, beq_iff_eq]
        exact key
      rw [hk] at hu
      exact absurd hu (by decide)
/-- the winner of each fight is one of its two -/
def W2 (B : Nat → Int32) (c S n : Nat) : Prop := ∀ i, i < n → B (fc c i + 3) = qA B c S i ∨ B (fc c i + 3) = qB B c S i
theorem beat_pair {B : Nat → Int32} {c S n i : Nat} {o f : Int32} (hW : W2 B c S n) (hi : i < n) (h1 : B (fc c i + 3) = o) (h2 : lsr B c S i = f) : Pair B c S o f i := by
  unfold lsr at h2
  by_cases e : qA B c S i = B (fc c i + 3)
  · rw [if_pos e] at h2
    exact Or.inl ⟨e.trans h1, h2⟩
  · rw [if_neg e] at h2
    rcases hW i hi with z | z
    · exact absurd z.symm e
    · exact Or.inr ⟨h2, z.symm.trans h1⟩
theorem btv_no {B : Nat → Int32} {c S n : Nat} {o f : Int32} (hW : W2 B c S n) : ∀ t i, i + t = n → (∀ j, i ≤ j → j < n → ¬ Pair B c S o f j) → btv B c S o f t i = 0 := by
  intro t
  induction t with
  | zero => exact fun i _ _ => rfl
  | succ t ih =>
    intro i hi h
    have h9 := ih (i + 1) (by omega) (fun j h1 h2 => h j (by omega) h2)
    rw [btv_s]
    by_cases e : B (fc c i + 3) = o
    · rw [if_pos e, if_neg (fun z => h i (Nat.le_refl _) (by omega) (beat_pair hW (by omega) e z)), h9]
    · rw [if_neg e, h9]
theorem btv_at {B : Nat → Int32} {c S n i0 : Nat} {o f : Int32} (hW : W2 B c S n) (hof : ¬ o = f) (hi0 : i0 < n) (hp : Pair B c S o f i0) (hu : ∀ j, j < n → Pair B c S o f j → j = i0) : ∀ t i, i + t = n → i ≤ i0 → btv B c S o f t i = if B (fc c i0 + 3) = o then 1 else 0 := by
  intro t
  induction t with
  | zero => intro i h1 h2; omega
  | succ t ih =>
    intro i h1 h2
    rw [btv_s]
    by_cases e : i = i0
    · subst e
      have h9 := btv_no hW t (i + 1) (by omega) (fun j g1 g2 y => absurd (hu j g2 y) (by omega)) (o := o) (f := f)
      by_cases e2 : B (fc c i + 3) = o
      · rw [if_pos e2, if_pos e2, if_pos]
        unfold lsr
        rcases hp with ⟨a, b⟩ | ⟨a, b⟩
        · rw [if_pos (a.trans e2.symm)]
          exact b
        · rw [if_neg (fun z => hof ((z.trans e2).symm.trans a))]
          exact a
      · rw [if_neg e2, if_neg e2, h9]
    · have h9 := ih (i + 1) (by omega) (by omega)
      by_cases e2 : B (fc c i + 3) = o
      · rw [if_pos e2, if_neg (fun z => e (hu i (by omega) (beat_pair hW (by omega) e2 z))), h9]
      · rw [if_neg e2, h9]

