/-! ===== the class: programs that make nothing end, and leave all but what is named ===== -/
def Same (LI LA : List Nat) (u v : MS) : Prop := (∀ k, ¬ k ∈ LI → v.1 k = u.1 k) ∧ ∀ k, ¬ k ∈ LA → v.2 k = u.2 k
theorem Same.rf {LI LA : List Nat} (u : MS) : Same LI LA u u := ⟨fun _ _ => rfl, fun _ _ => rfl⟩
theorem Same.trans {LI LA : List Nat} {u v w : MS} (h1 : Same LI LA u v) (h2 : Same LI LA v w) : Same LI LA u w := ⟨fun k hk => (h2.1 k hk).trans (h1.1 k hk), fun k hk => (h2.2 k hk).trans (h1.2 k hk)⟩
theorem Same.mono {l1 l2 LI LA : List Nat} {u v : MS} (h : Same l1 l2 u v) (h1 : ∀ k ∈ l1, k ∈ LI) (h2 : ∀ k ∈ l2, k ∈ LA) : Same LI LA u v := ⟨fun k hk => h.1 k (fun z => hk (h1 k z)), fun k hk => h.2 k (fun z => hk (h2 k z))⟩
theorem Same.nil {u v : MS} (h : Same [] [] u v) : v = u := Prod.ext (funext (fun k => h.1 k (List.not_mem_nil))) (funext (fun k => h.2 k (List.not_mem_nil)))
def Tu {β : Type} (LI LA : List Nat) (p : NG β) (u : MS) : Prop := ∃ r v, p u = some (r, v) ∧ Same LI LA u v
def T {β : Type} (LI LA : List Nat) (p : NG β) : Prop := ∀ u, Tu LI LA p u
theorem T.mono {β : Type} {l1 l2 LI LA : List Nat} {p : NG β} (h : T l1 l2 p) (h1 : ∀ k ∈ l1, k ∈ LI) (h2 : ∀ k ∈ l2, k ∈ LA) : T LI LA p := fun u => by
  obtain ⟨r, v, e, hs⟩ := h u
  exact ⟨r, v, e, hs.mono h1 h2⟩
theorem T_rt {β : Type} {LI LA : List Nat} (x : β) : T LI LA (nrt x) := fun u => ⟨x, u, rfl, Same.rf u⟩
theorem T_li {β : Type} {LI LA : List Nat} {x : Int32} {q : Int32 → NG β} (h : T LI LA (q x)) : T LI LA (nli x q) := h
theorem T_ite {β : Type} {LI LA : List Nat} {b : Prop} [Decidable b] {p q : NG β} (h1 : b → T LI LA p) (h2 : ¬ b → T LI LA q) : T LI LA (if b then p else q) := by
  by_cases h : b
  · rw [if_pos h]; exact h1 h
  · rw [if_neg h]; exact h2 h
theorem T_cl {α β : Type} {LI LA : List Nat} {p : NG α} {q : α → NG β} (hp : T LI LA p) (hq : ∀ a, T LI LA (q a)) : T LI LA (ncl p q) := fun u => by
  obtain ⟨a, v, e, hs⟩ := hp u
  obtain ⟨r, w, e2, hs2⟩ := hq a v
  exact ⟨r, w, by unfold ncl; rw [e]; exact e2, hs.trans hs2⟩
theorem T_RF {LI LA : List Nat} {k : Nat} : T LI LA (nRF k) := fun u => ⟨_, u, rfl, Same.rf u⟩
theorem T_GT {LI LA : List Nat} {a n : Nat} {i : Int32} : T LI LA (nGT a n i) := fun u => ⟨_, u, rfl, Same.rf u⟩
theorem T_GD {LI LA : List Nat} {a c : Nat} {i : Int32} : T LI LA (nGD a c i) := fun u => ⟨_, u, rfl, Same.rf u⟩
theorem T_GS {LI LA : List Nat} {x : Int32} {a b : Nat} {i : Int32} : T LI LA (nGS x a b i) := fun u => ⟨_, u, rfl, Same.rf u⟩
theorem Same_si {LI LA : List Nat} {u : MS} {k : Nat} {v : Int32} (h : k ∈ LI) : Same LI LA u (si u k v) := ⟨fun j hj => if_neg (fun z => hj (by rw [z]; exact h)), fun _ _ => rfl⟩
theorem Same_sf {LI LA : List Nat} {u : MS} {k : Nat} {f : Nat → Int32} (h : k ∈ LA) : Same LI LA u (sf u k f) := ⟨fun _ _ => rfl, fun j hj => if_neg (fun z => hj (by rw [z]; exact h))⟩
theorem T_WF {LI LA : List Nat} {k : Nat} {v : Int32} (h : k ∈ LI) : T LI LA (nWF k v) := fun u => ⟨_, _, rfl, Same_si h⟩
theorem T_ST {LI LA : List Nat} {a n : Nat} {i v : Int32} (h : a ∈ LA) : T LI LA (nST a n i v) := fun u => ⟨_, _, rfl, Same_sf h⟩
theorem T_SD {LI LA : List Nat} {a c : Nat} {i v : Int32} (h : a ∈ LA) : T LI LA (nSD a c i v) := fun u => ⟨_, _, rfl, Same_sf h⟩
theorem T_FL {LI LA : List Nat} {a n : Nat} {v : Int32} (h : a ∈ LA) : T LI LA (nFL a n v) := fun u => ⟨_, _, rfl, Same_sf h⟩
theorem T_SS {LI LA : List Nat} {x : Int32} {a b : Nat} {i v : Int32} (h : a ∈ LA) (h2 : b ∈ LA) : T LI LA (nSS x a b i v) := fun u => by
  refine ⟨_, _, rfl, ?_⟩
  unfold sl
  by_cases hx : x = 0
  · rw [if_pos hx]; exact Same_sf h
  · rw [if_neg hx]; exact Same_sf h2
theorem T_FS {LI LA : List Nat} {x : Int32} {a b : Nat} {v : Int32} (h : a ∈ LA) (h2 : b ∈ LA) : T LI LA (nFS x a b v) := fun u => by
  refine ⟨_, _, rfl, ?_⟩
  unfold sl
  by_cases hx : x = 0
  · rw [if_pos hx]; exact Same_sf h
  · rw [if_neg hx]; exact Same_sf h2
theorem T.at {β : Type} {LI LA : List Nat} {p : NG β} (h : T LI LA p) (u : MS) : Tu LI LA p u := h u
theorem Tu_RF {β : Type} {LI LA : List Nat} {k : Nat} {q : Int32 → NG β} {u : MS} (h : Tu LI LA (q (u.1 k)) u) : Tu LI LA (ncl (nRF k) q) u := h
theorem Tu_GT {β : Type} {LI LA : List Nat} {a n : Nat} {i : Int32} {q : Int32 → NG β} {u : MS} (h : ∀ x, Tu LI LA (q x) u) : Tu LI LA (ncl (nGT a n i) q) u := h _
theorem Tu_ite {β : Type} {LI LA : List Nat} {b : Prop} [Decidable b] {p q : NG β} {u : MS} (h1 : b → Tu LI LA p u) (h2 : ¬ b → Tu LI LA q u) : Tu LI LA (if b then p else q) u := by
  by_cases h : b
  · rw [if_pos h]; exact h1 h
  · rw [if_neg h]; exact h2 h
theorem Tu_og {β : Type} {LI LA : List Nat} {b : Bool} {p : NG β} {u : MS} (hb : b = true) (h : Tu LI LA p u) : Tu LI LA (nog b p) u := by
  subst hb
  exact h
theorem Tu_cl {α β : Type} {l1 l2 LI LA : List Nat} {p : NG α} {q : α → NG β} {u : MS} (hp : T l1 l2 p) (h1 : ∀ k ∈ l1, k ∈ LI) (h2 : ∀ k ∈ l2, k ∈ LA) (hq : ∀ a v, Same l1 l2 u v → Tu LI LA (q a) v) : Tu LI LA (ncl p q) u := by
  obtain ⟨a, v, e, hs⟩ := hp u
  obtain ⟨r, w, e2, hs2⟩ := hq a v hs
  exact ⟨r, w, by unfold ncl; rw [e]; exact e2, (hs.mono h1 h2).trans hs2⟩
theorem Tu_WF {β : Type} {LI LA : List Nat} {k : Nat} {x : Int32} {q : Unit → NG β} {u : MS} (hk : k ∈ LI) (h : Tu LI LA (q ()) (si u k x)) : Tu LI LA (ncl (nWF k x) q) u := by
  obtain ⟨r, v, e, hs⟩ := h
  exact ⟨r, v, e, (Same_si hk).trans hs⟩
/-! measures -/
def msr (v : Int32) : Nat := (2147483648 - v.toInt).toNat
def mdr (v : Int32) : Nat := (v.toInt + 2147483649).toNat
theorem i32_b (v : Int32) : -2147483648 ≤ v.toInt ∧ v.toInt < 2147483648 := ⟨v.le_toInt, v.toInt_lt⟩
theorem msr_0 (v : Int32) : ¬ msr v ≤ 0 := by
  have h := i32_b v
  unfold msr
  omega
theorem mdr_0 (v : Int32) : ¬ mdr v ≤ 0 := by
  have h := i32_b v
  unfold mdr
  omega
theorem msr_fuel (v : Int32) : msr v ≤ fuel := by
  have h := i32_b v
  unfold msr fuel
  omega
theorem mdr_fuel (v : Int32) : mdr v ≤ fuel := by
  have h := i32_b v
  unfold mdr fuel
  omega
theorem i32_add (v c : Int32) (h1 : -2147483648 ≤ v.toInt + c.toInt) (h2 : v.toInt + c.toInt < 2147483648) : (v + c).toInt = v.toInt + c.toInt := by
  rw [Int32.toInt_add]
  exact Int.bmod_eq_of_le (by omega) (by omega)
theorem i32_1 : (1 : Int32).toInt = 1 := by decide
theorem i32_0 : (0 : Int32).toInt = 0 := by decide
theorem i32_m1 : (-1 : Int32).toInt = -1 := by decide
theorem i32_nle {X v : Int32} (h : ¬ X ≤ v) : v.toInt < X.toInt := by
  rw [Int32.le_iff_toInt_le] at h
  omega
theorem i32_nlt {X v : Int32} (h : ¬ X < v) : v.toInt ≤ X.toInt := by
  rw [Int32.lt_iff_toInt_lt] at h
  omega
theorem msr_up {X v : Int32} {n : Nat} (h : ¬ X ≤ v) (hm : msr v ≤ n + 1) : msr (v + 1) ≤ n := by
  have h1 := i32_nle h
  have h2 := i32_b X
  have h3 := i32_b v
  have h4 := i32_add v 1 (by rw [i32_1]; omega) (by rw [i32_1]; omega)
  rw [i32_1] at h4
  unfold msr at hm ⊢
  omega
theorem msr_lt {X v : Int32} {n : Nat} (h : ¬ X < v) (hX : X.toInt < 2147483647) (hm : msr v ≤ n + 1) : msr (v + 1) ≤ n := by
  have h1 := i32_nlt h
  have h3 := i32_b v
  have h4 := i32_add v 1 (by rw [i32_1]; omega) (by rw [i32_1]; omega)
  rw [i32_1] at h4
  unfold msr at hm ⊢
  omega
theorem mdr_dn {v : Int32} {n : Nat} (h : ¬ v < 0) (hm : mdr v ≤ n + 1) : mdr (v + (-1)) ≤ n := by
  rw [Int32.lt_iff_toInt_lt, i32_0] at h
  have h3 := i32_b v
  have h4 := i32_add v (-1) (by rw [i32_m1]; omega) (by rw [i32_m1]; omega)
  rw [i32_m1] at h4
  unfold mdr at hm ⊢
  omega
theorem T_of {β : Type} {LI LA : List Nat} {p : NG β} (h : ∀ u, Tu LI LA p u) : T LI LA p := h
theorem i32_fuel (v : Int32) : v.toInt < (fuel : Nat) := by
  have h := i32_b v
  unfold fuel
  omega
theorem fuel_pos : 0 < fuel := by
  unfold fuel
  omega
theorem T_nrt {α β : Type} {LI LA : List Nat} {c : α} {q : α → NG β} (h : T LI LA (q c)) : T LI LA (ncl (nrt c) q) := h

