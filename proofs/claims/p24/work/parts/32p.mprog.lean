/-! ===== programs over the reference's state; a state has marks: which cells have been written since anew() last began ===== -/
abbrev GS : Type := MS × (Nat → Bool) × (Nat → Nat → Bool)
abbrev PG (β : Type) : Type := GS → Option (β × GS)
def prt {β : Type} (x : β) : PG β := fun w => some (x, w)
def pog {β : Type} (b : Bool) (p : PG β) : PG β := fun w => match b with
  | true => p w
  | false => none
def pli {β : Type} (x : Int32) (c : Int32 → PG β) : PG β := c x
def pcl {α β : Type} (p : PG α) (c : α → PG β) : PG β := fun w => match p w with
  | some (a, w1) => c a w1
  | none => none
def poi {β : Type} (x : Option Int32) (c : Int32 → PG β) : PG β := match x with
  | some a => c a
  | none => fun _ => none
def pot {β : Type} (x : Option Int32) (n : PG β) (c : Int32 → PG β) : PG β := match x with
  | some a => c a
  | none => n
def prf {β : Type} (k : Nat) (c : Int32 → PG β) : PG β := fun w => match w.2.1 k with
  | true => c (w.1.1 k) w
  | false => none
def puf {β : Type} (k : Nat) (c : Int32 → PG β) : PG β := fun w => c (w.1.1 k) w
def swf (k : Nat) (v : Int32) (w : GS) : GS := (si w.1 k v, (fun j => if j = k then true else w.2.1 j), w.2.2)
def swd (k : Nat) (i v : Int32) (w : GS) : GS := (wa w.1 k i v, w.2.1, fun a j => if a = k then (if j = i.toNatClampNeg then true else w.2.2 k j) else w.2.2 a j)
def sclr (w : GS) : GS := (w.1, (fun k => if [2, 3, 4, 27, 28, 29, 30, 31, 41, 43, 44, 45, 46, 47, 48, 51].contains k then false else w.2.1 k), fun k j => if [0, 1, 5, 6, 7, 8, 9, 10, 11, 12, 14, 15, 16, 17, 18, 19, 20, 21, 22, 23, 24, 25, 26, 32, 33, 34, 35, 36, 37, 38, 56, 57, 58, 59, 60].contains k then false else w.2.2 k j)
def pwf {β : Type} (k : Nat) (v : Int32) (p : PG β) : PG β := fun w => p (swf k v w)
def prd {β : Type} (k n : Nat) (i : Int32) (c : Int32 → PG β) : PG β := fun w => match gi i n && w.2.2 k i.toNatClampNeg with
  | true => c (ra w.1 k i) w
  | false => none
def pud {β : Type} (k n : Nat) (i : Int32) (c : Int32 → PG β) : PG β := fun w => match gi i n with
  | true => c (ra w.1 k i) w
  | false => none
def pwd {β : Type} (k n : Nat) (i v : Int32) (p : PG β) : PG β := fun w => match gi i n with
  | true => p (swd k i v w)
  | false => none
def psr {β : Type} (i : Int32) (c : Int32 → PG β) : PG β := fun w => match w.2.1 41 && (gi i 3000 && (decide (w.1.1 41 = 0) || w.2.2 56 i.toNatClampNeg)) with
  | true => c (rz w.1 i) w
  | false => none
/-- the cells that anew() and what follows it must write before they are read -/
def clrI (k : Nat) : Bool := [2, 3, 4, 27, 28, 29, 30, 31, 41, 43, 44, 45, 46, 47, 48, 51].contains k
def clrA (k : Nat) : Bool := [0, 1, 5, 6, 7, 8, 9, 10, 11, 12, 14, 15, 16, 17, 18, 19, 20, 21, 22, 23, 24, 25, 26, 32, 33, 34, 35, 36, 37, 38, 56, 57, 58, 59, 60].contains k
def pclr {β : Type} (p : PG β) : PG β := fun w => p (sclr w)
/-- the laws' cells, which readLaws() writes anew -/
def sclL (w : GS) : GS := (w.1, (fun k => if [27, 28, 29, 30, 31].contains k then false else w.2.1 k), fun k j => if [32, 33, 34, 35, 36, 37].contains k then false else w.2.2 k j)
def pclL {β : Type} (p : PG β) : PG β := fun w => p (sclL w)
theorem pog_some {β : Type} {b : Bool} {p : PG β} {w : GS} {y : β × GS} (h : pog b p w = some y) : b = true ∧ p w = some y := by
  cases b with
  | true => exact ⟨rfl, h⟩
  | false => cases h
theorem pli_some {β : Type} {x : Int32} {c : Int32 → PG β} {w : GS} {y : β × GS} (h : pli x c w = some y) : ∃ v : Int32, x = v ∧ c v w = some y := ⟨x, rfl, h⟩
theorem pcl_some {α β : Type} {p : PG α} {c : α → PG β} {w : GS} {y : β × GS} (h : pcl p c w = some y) : ∃ (a : α) (w1 : GS), p w = some (a, w1) ∧ c a w1 = some y := by
  unfold pcl at h
  cases hp : p w with
  | none => rw [hp] at h; cases h
  | some q => rw [hp] at h; exact ⟨q.1, q.2, rfl, h⟩
theorem poi_some {β : Type} {x : Option Int32} {c : Int32 → PG β} {w : GS} {y : β × GS} (h : poi x c w = some y) : ∃ a : Int32, x = some a ∧ c a w = some y := by
  cases x with
  | none => cases h
  | some a => exact ⟨a, rfl, h⟩
theorem pot_none {β : Type} {n : PG β} {c : Int32 → PG β} {w : GS} {y : β × GS} (h : pot none n c w = some y) : n w = some y := h
theorem pot_some {β : Type} {r : Int32} {n : PG β} {c : Int32 → PG β} {w : GS} {y : β × GS} (h : pot (some r) n c w = some y) : c r w = some y := h
theorem prf_some {β : Type} {k : Nat} {c : Int32 → PG β} {w : GS} {y : β × GS} (h : prf k c w = some y) : ∃ x : Int32, w.1.1 k = x ∧ c x w = some y := by
  unfold prf at h
  cases hb : w.2.1 k with
  | false => rw [hb] at h; cases h
  | true => rw [hb] at h; exact ⟨_, rfl, h⟩
theorem puf_some {β : Type} {k : Nat} {c : Int32 → PG β} {w : GS} {y : β × GS} (h : puf k c w = some y) : ∃ x : Int32, w.1.1 k = x ∧ c x w = some y := ⟨_, rfl, h⟩
theorem pwf_some {β : Type} {k : Nat} {v : Int32} {p : PG β} {w : GS} {y : β × GS} (h : pwf k v p w = some y) : ∃ w1 : GS, si w.1 k v = w1.1 ∧ p w1 = some y := ⟨swf k v w, rfl, h⟩
theorem prd_some {β : Type} {k n : Nat} {i : Int32} {c : Int32 → PG β} {w : GS} {y : β × GS} (h : prd k n i c w = some y) : ∃ x : Int32, gi i n = true ∧ ra w.1 k i = x ∧ c x w = some y := by
  unfold prd at h
  cases hb : gi i n && w.2.2 k i.toNatClampNeg with
  | false => rw [hb] at h; cases h
  | true => rw [hb] at h; exact ⟨_, (Bool.and_eq_true_iff.mp hb).1, rfl, h⟩
theorem pud_some {β : Type} {k n : Nat} {i : Int32} {c : Int32 → PG β} {w : GS} {y : β × GS} (h : pud k n i c w = some y) : ∃ x : Int32, gi i n = true ∧ ra w.1 k i = x ∧ c x w = some y := by
  unfold pud at h
  cases hb : gi i n with
  | false => rw [hb] at h; cases h
  | true => rw [hb] at h; exact ⟨_, rfl, rfl, h⟩
theorem pwd_some {β : Type} {k n : Nat} {i v : Int32} {p : PG β} {w : GS} {y : β × GS} (h : pwd k n i v p w = some y) : ∃ w1 : GS, gi i n = true ∧ wa w.1 k i v = w1.1 ∧ p w1 = some y := by
  unfold pwd at h
  cases hb : gi i n with
  | false => rw [hb] at h; cases h
  | true => rw [hb] at h; exact ⟨swd k i v w, rfl, rfl, h⟩
theorem psr_some {β : Type} {i : Int32} {c : Int32 → PG β} {w : GS} {y : β × GS} (h : psr i c w = some y) : ∃ x : Int32, gi i 3000 = true ∧ rz w.1 i = x ∧ c x w = some y := by
  unfold psr at h
  cases hb : w.2.1 41 && (gi i 3000 && (decide (w.1.1 41 = 0) || w.2.2 56 i.toNatClampNeg)) with
  | false => rw [hb] at h; cases h
  | true => rw [hb] at h; exact ⟨_, (Bool.and_eq_true_iff.mp (Bool.and_eq_true_iff.mp hb).2).1, rfl, h⟩
theorem pclL_some {β : Type} {p : PG β} {w : GS} {y : β × GS} (h : pclL p w = some y) : ∃ w1 : GS, w.1 = w1.1 ∧ p w1 = some y := ⟨sclL w, rfl, h⟩
theorem pclr_some {β : Type} {p : PG β} {w : GS} {y : β × GS} (h : pclr p w = some y) : ∃ w1 : GS, w.1 = w1.1 ∧ p w1 = some y := ⟨sclr w, rfl, h⟩
theorem prt_eq {v r : Int32} {w w1 : GS} (h : prt v w = some (r, w1)) : some (v, w.1) = some (r, w1.1) := by cases h; rfl
theorem prt_eqS {v r : Int32} {w w1 : GS} (h : prt (some v) w = some (some r, w1)) : some (v, w.1) = some (r, w1.1) := by cases h; rfl
theorem prt_eqT {w w1 : GS} (h : prt (none : Option Int32) w = some (none, w1)) : some ((none : Option Int32), w.1) = some ((none : Option Int32), w1.1) := by cases h; rfl
theorem prt_no {r : Int32} {w w1 : GS} (h : prt (none : Option Int32) w = some (some r, w1)) : False := by cases h
theorem prt_no2 {r : Int32} {w w1 : GS} (h : prt (some r) w = some (none, w1)) : False := by cases h

