/-! ===== cells with a mark and a value; readers ===== -/
def Am (w : GS) (k j : Nat) (x : Int32) : Prop := w.2.2 k j = true ∧ w.1.2 k j = x
def Im (w : GS) (k : Nat) (x : Int32) : Prop := w.2.1 k = true ∧ w.1.1 k = x
/-- a reader: it leaves the state as it is -/
def Rd {β : Type} (p : PG β) (w : GS) (R : β → Prop) : Prop := Ok p w (fun r w1 => w1 = w ∧ R r)
theorem Rd.mono {β : Type} {p : PG β} {w : GS} {R R2 : β → Prop} (h : Rd p w R) (hq : ∀ r, R r → R2 r) : Rd p w R2 := Ok.mono h (fun r _ z => ⟨z.1, hq r z.2⟩)
theorem Rd_rt {β : Type} {x : β} {w : GS} {R : β → Prop} (h : R x) : Rd (prt x) w R := Ok_rt ⟨rfl, h⟩
theorem Rd_eq {x y : Int32} {w : GS} (h : x = y) : Rd (prt x) w (fun r => r = y) := Rd_rt h
theorem Ok_clR {α β : Type} {p : PG α} {c : α → PG β} {w : GS} {R : α → Prop} {Q : β → GS → Prop} (h : Rd p w R) (hq : ∀ r, R r → Ok (c r) w Q) : Ok (pcl p c) w Q := by
  refine Ok_cl (Ok.mono h (fun r w1 z => ?_))
  rw [z.1]
  exact hq r z.2
theorem Rd_clR {α β : Type} {p : PG α} {c : α → PG β} {w : GS} {R : α → Prop} {R2 : β → Prop} (h : Rd p w R) (hq : ∀ r, R r → Rd (c r) w R2) : Rd (pcl p c) w R2 := Ok_clR h hq
theorem Ok_rdN {β : Type} {k n j : Nat} {ix x : Int32} {c : Int32 → PG β} {w : GS} {Q : β → GS → Prop} (hi : ix = nI j) (hj : j < n) (hn : n < 2 ^ 31) (h : Am w k j x) (hq : Ok (c x) w Q) : Ok (prd k n ix c) w Q := by
  subst hi
  refine Ok_rd (gi_nI hj hn) ?_ ?_
  · rw [nI_clamp (by omega)]; exact h.1
  · have hr : ra w.1 k (nI j) = x := by
      unfold ra
      rw [nI_clamp (by omega)]
      exact h.2
    rw [hr]
    exact hq
theorem Ok_rfN {β : Type} {k : Nat} {x : Int32} {c : Int32 → PG β} {w : GS} {Q : β → GS → Prop} (h : Im w k x) (hq : Ok (c x) w Q) : Ok (prf k c) w Q := Ok_rf h.1 (by rw [h.2]; exact hq)
theorem Rd_rdN {β : Type} {k n j : Nat} {ix x : Int32} {c : Int32 → PG β} {w : GS} {R : β → Prop} (hi : ix = nI j) (hj : j < n) (hn : n < 2 ^ 31) (h : Am w k j x) (hq : Rd (c x) w R) : Rd (prd k n ix c) w R := Ok_rdN hi hj hn h hq
theorem Rd_rfN {β : Type} {k : Nat} {x : Int32} {c : Int32 → PG β} {w : GS} {R : β → Prop} (h : Im w k x) (hq : Rd (c x) w R) : Rd (prf k c) w R := Ok_rfN h hq
theorem Rd_ite {β : Type} {b : Prop} [Decidable b] {p q : PG β} {w : GS} {R : β → Prop} (h1 : b → Rd p w R) (h2 : ¬ b → Rd q w R) : Rd (if b then p else q) w R := Ok_ite h1 h2
theorem Rd_li {β : Type} {x : Int32} {c : Int32 → PG β} {w : GS} {R : β → Prop} (h : Rd (c x) w R) : Rd (pli x c) w R := h
theorem Rd_og {β : Type} {b : Bool} {p : PG β} {w : GS} {R : β → Prop} (hb : b = true) (h : Rd p w R) : Rd (pog b p) w R := Ok_og hb h
theorem Am.val {w : GS} {k j : Nat} (h : w.2.2 k j = true) : Am w k j (w.1.2 k j) := ⟨h, rfl⟩
theorem Am.inj {w : GS} {k j : Nat} {x y : Int32} (h1 : Am w k j x) (h2 : Am w k j y) : x = y := h1.2.symm.trans h2.2
theorem nI_sub {a b : Nat} (h : b ≤ a) : nI a - nI b = nI (a - b) := by
  have e : nI a = nI (a - b) + nI b := by rw [nI_add, Nat.sub_add_cancel h]
  rw [e, Int32.add_sub_cancel]
theorem ix40 (c i : Nat) : (40 : Int32) * nI c + nI i = nI (40 * c + i) := by
  rw [← nI_add, ← nI_mul]; rfl
theorem ix32 (c i : Nat) : (32 : Int32) * nI c + nI i = nI (32 * c + i) := by
  rw [← nI_add, ← nI_mul]; rfl
theorem nI_ne_1 {a : Nat} (h : a < 2 ^ 31) : ¬ nI a = -1 := by
  rw [← Int32.toInt_inj, nI_toInt h]
  have : (-1 : Int32).toInt = -1 := by decide
  omega
theorem nI_ne_2 {a : Nat} (h : a < 2 ^ 31) : ¬ nI a = -2 := by
  rw [← Int32.toInt_inj, nI_toInt h]
  have : (-2 : Int32).toInt = -2 := by decide
  omega
/-! ===== in(), isClass, isMat ===== -/
theorem ok_in (a b c : Int64) (w : GS) : Rd (f_in a b c) w (fun r => (r = 1 ∧ b.toInt ≤ a.toInt ∧ a.toInt ≤ c.toInt) ∨ (r = 0 ∧ ¬ (b.toInt ≤ a.toInt ∧ a.toInt ≤ c.toInt))) := by
  unfold f_in
  refine Rd_ite (fun h => Rd_rt (Or.inr ⟨rfl, ?_⟩)) (fun h => Rd_ite (fun h2 => Rd_rt (Or.inr ⟨rfl, ?_⟩)) (fun h2 => Rd_rt (Or.inl ⟨rfl, ?_⟩)))
  · have h9 := Int64.lt_iff_toInt_lt.mp ((lg_cmp_lt _ _).mp h)
    omega
  · have h9 := Int64.lt_iff_toInt_lt.mp ((lg_cmp_gt _ _).mp h2)
    omega
  · have h8 : ¬ a < b := fun z => h ((lg_cmp_lt _ _).mpr z)
    have h9 : ¬ c < a := fun z => h2 ((lg_cmp_gt _ _).mpr z)
    rw [Int64.lt_iff_toInt_lt] at h8 h9
    omega
theorem ok_isClass (x : Int32) (w : GS) : Rd (f_isClass x) w (fun r => (r = 1 ∧ ∃ c, c < 4 ∧ x = nI c) ∨ (r = 0 ∧ ¬ ∃ c, c < 4 ∧ x = nI c)) := by
  unfold f_isClass
  refine Rd_clR (ok_in _ _ _ w) (fun r hr => ?_)
  have h0 : (0 : Int64).toInt = 0 := by decide
  have h3 : (3 : Int64).toInt = 3 := by decide
  rw [Int32.toInt_toInt64, h0, h3] at hr
  rcases hr with ⟨rfl, h1, h2⟩ | ⟨rfl, h⟩
  · refine Rd_og (by decide) (Rd_rt (Or.inl ⟨rfl, x.toInt.toNat, by omega, Int32.toInt_inj.mp ?_⟩))
    rw [nI_toInt (by omega)]
    omega
  · refine Rd_og (by decide) (Rd_rt (Or.inr ⟨rfl, fun z => ?_⟩))
    obtain ⟨c, hc, rfl⟩ := z
    rw [nI_toInt (by omega)] at h
    omega
theorem ok_isMat (x : Int32) (w : GS) : Rd (f_isMat x) w (fun r => (r = 1 ∧ ∃ c, c < 4 ∧ x = nI c) ∨ (r = 0 ∧ ¬ ∃ c, c < 4 ∧ x = nI c)) := ok_isClass x w
/-! ===== numbers of a tree of 2 ^ L places ===== -/
def bas (L r : Nat) : Nat := 2 ^ L - 2 ^ L / 2 ^ r
theorem shl1 : ∀ k < 6, (1 : Int32) <<< (nI k &&& 31) = nI (2 ^ k) := by decide +kernel
theorem shrL : ∀ L < 6, ∀ r < 8, nI (2 ^ L) >>> (nI r &&& 31) = nI (2 ^ L / 2 ^ r) := by decide +kernel
theorem shrP : ∀ p < 32, ∀ r < 8, nI p >>> (nI r &&& 31) = nI (p / 2 ^ r) := by decide +kernel
theorem pow_lt32 {L : Nat} (h : L ≤ 5) : 2 ^ L ≤ 32 := Nat.pow_le_pow_right (by decide) h
theorem fuel_succ (K : Nat) (h : K < 4294967296) : ∃ n, fuel = n + 1 ∧ 4294967296 - 1 ≤ n := ⟨4294967295, rfl, by omega⟩
theorem ok_halving_lp (w : GS) (c L : Nat) (hc : c < 4) (hL : L ≤ 5) (hp : Am w 13 c (nI (2 ^ L))) (K : Int32 → Int32 → PG Int32) (R : Int32 → Prop) (hK : Rd (K (nI c) (nI L)) w R) : ∀ (m k n : Nat), k + m = L → m < n → Rd (lp_halving_2 n (nI c) (nI k) K) w R := by
  intro m
  induction m with
  | zero =>
    intro k n hk hn
    cases n with
    | zero => exact absurd hn (Nat.not_lt_zero _)
    | succ n =>
      have hk2 : k = L := by omega
      subst hk2
      unfold lp_halving_2
      refine Rd_rdN rfl hc (by decide) hp (Rd_ite (fun _ => hK) (fun h => absurd ?_ h))
      rw [shl1 k (by omega)]
      exact Int32.le_refl _
  | succ m ih =>
    intro k n hk hn
    cases n with
    | zero => exact absurd hn (Nat.not_lt_zero _)
    | succ n =>
      unfold lp_halving_2
      refine Rd_rdN rfl hc (by decide) hp (Rd_ite (fun h => absurd h ?_) (fun _ => Rd_li ?_))
      · rw [shl1 k (by omega)]
        have h1 : 2 ^ k < 2 ^ L := Nat.pow_lt_pow_right (by decide) (by omega)
        have h2 := pow_lt32 hL
        exact nI_ge h1 (by omega)
      · rw [nI_1]
        exact ih (k + 1) n (by omega) (by omega)
theorem ok_halving (w : GS) (c L : Nat) (hc : c < 4) (hL : L ≤ 5) (hp : Am w 13 c (nI (2 ^ L))) : Rd (f_halving (nI c)) w (fun r => r = nI L) := by
  unfold f_halving
  exact ok_halving_lp w c L hc hL hp _ _ (Rd_eq rfl) L 0 fuel (by omega) (by unfold fuel; omega)
theorem ok_rounds (w : GS) (c L : Nat) (hc : c < 4) (hL : L ≤ 5) (h1 : 1 ≤ L) (hp : Am w 13 c (nI (2 ^ L))) : Rd (f_rounds (nI c)) w (fun r => r = nI (L - 1)) := by
  unfold f_rounds
  refine Rd_clR (ok_halving w c L hc hL hp) (fun r hr => ?_)
  subst hr
  exact Rd_rt (nI_sub h1)
theorem ok_base (w : GS) (c L r : Nat) (hc : c < 4) (hL : L ≤ 5) (hr : r < 8) (hp : Am w 13 c (nI (2 ^ L))) : Rd (f_base (nI c) (nI r)) w (fun x => x = nI (bas L r)) := by
  unfold f_base
  refine Rd_rdN rfl hc (by decide) hp (Rd_rdN rfl hc (by decide) hp (Rd_rt ?_))
  rw [shrL L (by omega) r hr, nI_sub (Nat.div_le_self _ _)]
  rfl
theorem bas_mono : ∀ L < 6, ∀ r < 8, bas L r ≤ bas L (r + 1) ∧ bas L L = 2 ^ L - 1 ∧ bas L 0 = 0 ∧ bas L r ≤ 32 := by decide +kernel
theorem ok_roundOf_lp (w : GS) (c L i : Nat) (hc : c < 4) (hL : L ≤ 5) (hi : i < 2 ^ L - 1) (hp : Am w 13 c (nI (2 ^ L))) (K : Int32 → Int32 → Int32 → PG Int32) (R : Int32 → Prop) (hK : ∀ k, k < L → bas L k ≤ i → i < bas L (k + 1) → Rd (K (nI c) (nI i) (nI k)) w R) : ∀ (m k n : Nat), k + m = L → m < n → bas L k ≤ i → Rd (lp_roundOf_2 n (nI c) (nI i) (nI k) K) w R := by
  have h32 := pow_lt32 hL
  intro m
  induction m with
  | zero =>
    intro k n hk hn hb
    have hk2 : k = L := by omega
    subst hk2
    have h2 := (bas_mono k (by omega) 0 (by omega)).2.1
    omega
  | succ m ih =>
    intro k n hk hn hb
    cases n with
    | zero => exact absurd hn (Nat.not_lt_zero _)
    | succ n =>
      unfold lp_roundOf_2
      rw [nI_1]
      refine Rd_clR (ok_base w c L (k + 1) hc hL (by omega) hp) (fun r hr => ?_)
      subst hr
      have h5 := (bas_mono L (by omega) (k + 1) (by omega)).2.2.2
      refine Rd_ite (fun h => hK k (by omega) hb ((nI_ltI (by omega) (by omega)).mp h)) (fun h => Rd_li ?_)
      exact ih (k + 1) n (by omega) (by omega) (Nat.not_lt.mp (fun z => h (nI_lt z (by omega))))
theorem ok_roundOf (w : GS) (c L i : Nat) (hc : c < 4) (hL : L ≤ 5) (hi : i < 2 ^ L - 1) (hp : Am w 13 c (nI (2 ^ L))) : Rd (f_roundOf (nI c) (nI i)) w (fun r => ∃ k, r = nI k ∧ k < L ∧ bas L k ≤ i ∧ i < bas L (k + 1)) := by
  unfold f_roundOf
  refine ok_roundOf_lp w c L i hc hL hi hp _ _ (fun k h1 h2 h3 => Rd_rt ⟨k, rfl, h1, h2, h3⟩) L 0 fuel (by omega) (by unfold fuel; omega) ?_
  have := (bas_mono L (by omega) 0 (by omega)).2.2.1
  omega

