/-! ===== what the public methods leave alone, by values ===== -/
def FwR (I A : Nat → Bool) (u v : GS) : Prop := (∀ k, I k = true → v.1.1 k = u.1.1 k) ∧ ∀ k, A k = true → v.1.2 k = u.1.2 k
def Fw {β : Type} (I A : Nat → Bool) (p : PG β) : Prop := ∀ u r u1, p u = some (r, u1) → FwR I A u u1
/-- where it does not throw -/
def Fx (I A : Nat → Bool) (p : PG (Option Int32)) : Prop := ∀ u r u1, p u = some (some r, u1) → FwR I A u u1
theorem FwR.rf {I A : Nat → Bool} (u : GS) : FwR I A u u := ⟨fun _ _ => rfl, fun _ _ => rfl⟩
theorem FwR.trans {I A : Nat → Bool} {u v w : GS} (h1 : FwR I A u v) (h2 : FwR I A v w) : FwR I A u w := ⟨fun k hk => (h2.1 k hk).trans (h1.1 k hk), fun k hk => (h2.2 k hk).trans (h1.2 k hk)⟩
theorem FwR.le {I A I2 A2 : Nat → Bool} {u v : GS} (h : FwR I A u v) (h1 : ∀ k, I2 k = true → I k = true) (h2 : ∀ k, A2 k = true → A k = true) : FwR I2 A2 u v := ⟨fun k hk => h.1 k (h1 k hk), fun k hk => h.2 k (h2 k hk)⟩
theorem Fw.le {β : Type} {I A I2 A2 : Nat → Bool} {p : PG β} (h : Fw I A p) (h1 : ∀ k, I2 k = true → I k = true) (h2 : ∀ k, A2 k = true → A k = true) : Fw I2 A2 p := fun u r u1 e => (h u r u1 e).le h1 h2
theorem FwR.wf {I A : Nat → Bool} {k : Nat} {x : Int32} {u : GS} (hk : I k = false) : FwR I A u (swf k x u) := ⟨fun j hj => if_neg (fun z => by rw [z, hk] at hj; cases hj), fun _ _ => rfl⟩
theorem FwR.wd {I A : Nat → Bool} {k : Nat} {i x : Int32} {u : GS} (hk : A k = false) : FwR I A u (swd k i x u) := ⟨fun _ _ => rfl, fun j hj => if_neg (fun z => by rw [z, hk] at hj; cases hj)⟩
section
variable {α β : Type} {I A : Nat → Bool}
theorem Fw_rt (x : β) : Fw I A (prt x) := fun u r u1 e => by cases e; exact FwR.rf u
theorem Fw_no : Fw I A (fun _ => none : PG β) := fun _ _ _ e => by cases e
theorem Fw_og {b : Bool} {p : PG β} (hp : Fw I A p) : Fw I A (pog b p) := fun u r u1 e => hp u r u1 (pog_some e).2
theorem Fw_li {x : Int32} {q : Int32 → PG β} (hq : ∀ x, Fw I A (q x)) : Fw I A (pli x q) := hq x
theorem Fw_cl {p : PG α} {q : α → PG β} (hp : Fw I A p) (hq : ∀ a, Fw I A (q a)) : Fw I A (pcl p q) := fun u r u1 e => by
  obtain ⟨a, w1, e1, e2⟩ := pcl_some e
  exact (hp u a w1 e1).trans (hq a w1 r u1 e2)
theorem Fw_oi {x : Option Int32} {q : Int32 → PG β} (hq : ∀ x, Fw I A (q x)) : Fw I A (poi x q) := by
  cases x with
  | none => exact Fw_no
  | some a => exact hq a
theorem Fw_ot {x : Option Int32} {n : PG β} {q : Int32 → PG β} (hn : Fw I A n) (hq : ∀ x, Fw I A (q x)) : Fw I A (pot x n q) := by
  cases x with
  | none => exact hn
  | some a => exact hq a
theorem Fw_ite {b : Prop} [Decidable b] {p q : PG β} (hp : Fw I A p) (hq : Fw I A q) : Fw I A (if b then p else q) := by
  by_cases h : b
  · rw [if_pos h]; exact hp
  · rw [if_neg h]; exact hq
theorem Fw_rf {k : Nat} {q : Int32 → PG β} (hq : ∀ x, Fw I A (q x)) : Fw I A (prf k q) := fun u r u1 e => by
  obtain ⟨x, -, e2⟩ := prf_some e
  exact hq x u r u1 e2
theorem Fw_uf {k : Nat} {q : Int32 → PG β} (hq : ∀ x, Fw I A (q x)) : Fw I A (puf k q) := fun u r u1 e => hq _ u r u1 e
theorem Fw_rd {k n : Nat} {i : Int32} {q : Int32 → PG β} (hq : ∀ x, Fw I A (q x)) : Fw I A (prd k n i q) := fun u r u1 e => by
  obtain ⟨x, -, -, e2⟩ := prd_some e
  exact hq x u r u1 e2
theorem Fw_ud {k n : Nat} {i : Int32} {q : Int32 → PG β} (hq : ∀ x, Fw I A (q x)) : Fw I A (pud k n i q) := fun u r u1 e => by
  obtain ⟨x, -, -, e2⟩ := pud_some e
  exact hq x u r u1 e2
theorem Fw_sr {i : Int32} {q : Int32 → PG β} (hq : ∀ x, Fw I A (q x)) : Fw I A (psr i q) := fun u r u1 e => by
  obtain ⟨x, -, -, e2⟩ := psr_some e
  exact hq x u r u1 e2
theorem Fw_wf {k : Nat} {x : Int32} {p : PG β} (hk : I k = false) (hp : Fw I A p) : Fw I A (pwf k x p) := fun u r u1 e => (FwR.wf hk).trans (hp (swf k x u) r u1 e)
theorem Fw_wd {k n : Nat} {i x : Int32} {p : PG β} (hk : A k = false) (hp : Fw I A p) : Fw I A (pwd k n i x p) := fun u r u1 e => by
  unfold pwd at e
  cases hb : gi i n with
  | false => rw [hb] at e; cases e
  | true =>
    rw [hb] at e
    exact (FwR.wd hk).trans (hp _ r u1 e)
theorem Fw_clr {p : PG β} (hp : Fw I A p) : Fw I A (pclr p) := fun u r u1 e => hp (sclr u) r u1 e
theorem Fw_clL {p : PG β} (hp : Fw I A p) : Fw I A (pclL p) := fun u r u1 e => hp (sclL u) r u1 e
theorem Fx_rs (x : Int32) : Fx I A (prt (some x)) := fun u r u1 e => by cases e; exact FwR.rf u
theorem Fx_rn : Fx I A (prt none) := fun u r u1 e => by cases e
theorem Fx_no : Fx I A (fun _ => none) := fun _ _ _ e => by cases e
theorem Fx_og {b : Bool} {p : PG (Option Int32)} (hp : Fx I A p) : Fx I A (pog b p) := fun u r u1 e => hp u r u1 (pog_some e).2
theorem Fx_li {x : Int32} {q : Int32 → PG (Option Int32)} (hq : ∀ x, Fx I A (q x)) : Fx I A (pli x q) := hq x
theorem Fx_cl {p : PG α} {q : α → PG (Option Int32)} (hp : Fw I A p) (hq : ∀ a, Fx I A (q a)) : Fx I A (pcl p q) := fun u r u1 e => by
  obtain ⟨a, w1, e1, e2⟩ := pcl_some e
  exact (hp u a w1 e1).trans (hq a w1 r u1 e2)
theorem Fx_cn {p : PG α} : Fx I A (pcl p (fun _ => prt none)) := fun u r u1 e => by
  obtain ⟨a, w1, e1, e2⟩ := pcl_some e
  cases e2
theorem Fx_cx {p : PG (Option Int32)} {q : Int32 → PG (Option Int32)} (hp : Fx I A p) (hq : ∀ a, Fx I A (q a)) : Fx I A (pcl p (fun r => pot r (prt none) q)) := fun u r u1 e => by
  obtain ⟨a, w1, e1, e2⟩ := pcl_some e
  cases a with
  | none => cases e2
  | some a => exact (hp u a w1 e1).trans (hq a w1 r u1 e2)
theorem Fx_oi {x : Option Int32} {q : Int32 → PG (Option Int32)} (hq : ∀ x, Fx I A (q x)) : Fx I A (poi x q) := by
  cases x with
  | none => exact Fx_no
  | some a => exact hq a
theorem Fx_ite {b : Prop} [Decidable b] {p q : PG (Option Int32)} (hp : Fx I A p) (hq : Fx I A q) : Fx I A (if b then p else q) := by
  by_cases h : b
  · rw [if_pos h]; exact hp
  · rw [if_neg h]; exact hq
theorem Fx_rf {k : Nat} {q : Int32 → PG (Option Int32)} (hq : ∀ x, Fx I A (q x)) : Fx I A (prf k q) := fun u r u1 e => by
  obtain ⟨x, -, e2⟩ := prf_some e
  exact hq x u r u1 e2
theorem Fx_rd {k n : Nat} {i : Int32} {q : Int32 → PG (Option Int32)} (hq : ∀ x, Fx I A (q x)) : Fx I A (prd k n i q) := fun u r u1 e => by
  obtain ⟨x, -, -, e2⟩ := prd_some e
  exact hq x u r u1 e2
theorem Fx_sr {i : Int32} {q : Int32 → PG (Option Int32)} (hq : ∀ x, Fx I A (q x)) : Fx I A (psr i q) := fun u r u1 e => by
  obtain ⟨x, -, -, e2⟩ := psr_some e
  exact hq x u r u1 e2
theorem Fx_wf {k : Nat} {x : Int32} {p : PG (Option Int32)} (hk : I k = false) (hp : Fx I A p) : Fx I A (pwf k x p) := fun u r u1 e => (FwR.wf hk).trans (hp (swf k x u) r u1 e)
theorem Fx_wd {k n : Nat} {i x : Int32} {p : PG (Option Int32)} (hk : A k = false) (hp : Fx I A p) : Fx I A (pwd k n i x p) := fun u r u1 e => by
  unfold pwd at e
  cases hb : gi i n with
  | false => rw [hb] at e; cases e
  | true =>
    rw [hb] at e
    exact (FwR.wd hk).trans (hp _ r u1 e)
theorem Fx_clL {p : PG (Option Int32)} (hp : Fx I A p) : Fx I A (pclL p) := fun u r u1 e => hp (sclL u) r u1 e
end
/-- the tape's length, FAULT, whether a plan stands; the tape, the plan -/
def kI (k : Nat) : Bool := [42, 49, 50, 69].contains k
def kA (k : Nat) : Bool := [40, 61, 62].contains k
def kJ (k : Nat) : Bool := [42, 69].contains k
def kP (k : Nat) : Bool := [42, 49, 50].contains k
def kB (k : Nat) : Bool := [40].contains k
def kX (k : Nat) : Bool := [49, 50].contains k
def kN (_ : Nat) : Bool := false
theorem kJ_I : ∀ k, kJ k = true → kI k = true := fun k h => by
  have h2 := List.contains_iff_mem.mp h
  simp only [List.mem_cons, List.not_mem_nil, or_false] at h2
  rcases h2 with rfl | rfl <;> rfl
theorem kP_I : ∀ k, kP k = true → kI k = true := fun k h => by
  have h2 := List.contains_iff_mem.mp h
  simp only [List.mem_cons, List.not_mem_nil, or_false] at h2
  rcases h2 with rfl | rfl | rfl <;> rfl
theorem kB_A : ∀ k, kB k = true → kA k = true := fun k h => by
  have h2 := List.contains_iff_mem.mp h
  simp only [List.mem_cons, List.not_mem_nil, or_false] at h2
  subst h2
  rfl
theorem kX_I : ∀ k, kX k = true → kI k = true := fun k h => by
  have h2 := List.contains_iff_mem.mp h
  simp only [List.mem_cons, List.not_mem_nil, or_false] at h2
  rcases h2 with rfl | rfl <;> rfl
theorem kN_A : ∀ k, kN k = true → kA k = true := fun k h => by cases h
theorem Fw.j {β : Type} {p : PG β} (h : Fw kI kA p) : Fw kJ kA p := h.le kJ_I (fun _ z => z)
theorem Fw.p {β : Type} {p : PG β} (h : Fw kI kA p) : Fw kP kB p := h.le kP_I kB_A
theorem Fw.x {β : Type} {p : PG β} (h : Fw kI kA p) : Fw kX kN p := h.le kX_I kN_A

theorem fw_in (a0 : Int64) (a1 : Int64) (a2 : Int64) : Fw kI kA (f_in a0 a1 a2) := by
  unfold f_in
  repeat (first | (with_reducible exact Fw_rt _) | (with_reducible intro _) | (with_reducible refine Fw_clr ?_) | (with_reducible refine Fw_clL ?_) | (with_reducible refine Fw_li (fun _ => ?_)) | (with_reducible refine Fw_rf (fun _ => ?_)) | (with_reducible refine Fw_uf (fun _ => ?_)) | (with_reducible refine Fw_rd (fun _ => ?_)) | (with_reducible refine Fw_ud (fun _ => ?_)) | (with_reducible refine Fw_sr (fun _ => ?_)) | (with_reducible refine Fw_wf rfl ?_) | (with_reducible refine Fw_wd rfl ?_) | (with_reducible refine Fw_og ?_) | (with_reducible refine Fw_ite ?_ ?_) | (with_reducible refine Fw_oi (fun _ => ?_)) | (with_reducible refine Fw_ot ?_ (fun _ => ?_)) | (with_reducible refine Fw_cl ?_ (fun _ => ?_)))

theorem fw_isClass (a0 : Int32) : Fw kI kA (f_isClass a0) := by
  unfold f_isClass
  repeat (first | (with_reducible exact Fw_rt _) | (with_reducible intro _) | (with_reducible exact (fw_in _ _ _)) | (with_reducible refine Fw_clr ?_) | (with_reducible refine Fw_clL ?_) | (with_reducible refine Fw_li (fun _ => ?_)) | (with_reducible refine Fw_rf (fun _ => ?_)) | (with_reducible refine Fw_uf (fun _ => ?_)) | (with_reducible refine Fw_rd (fun _ => ?_)) | (with_reducible refine Fw_ud (fun _ => ?_)) | (with_reducible refine Fw_sr (fun _ => ?_)) | (with_reducible refine Fw_wf rfl ?_) | (with_reducible refine Fw_wd rfl ?_) | (with_reducible refine Fw_og ?_) | (with_reducible refine Fw_ite ?_ ?_) | (with_reducible refine Fw_oi (fun _ => ?_)) | (with_reducible refine Fw_ot ?_ (fun _ => ?_)) | (with_reducible refine Fw_cl ?_ (fun _ => ?_)))

theorem fw_lp_halving_2 : ∀ (n : Nat) (v1 v2 : Int32) (K0 : Int32 → Int32 → PG (Int32)), (∀ (v1 v2 : Int32), Fw kI kA (K0 v1 v2)) → Fw kI kA (lp_halving_2 n v1 v2 K0) := by
  intro n
  induction n with
  | zero => intro v1 v2 K0 hK0; exact Fw_no
  | succ n ih =>
    intro v1 v2 K0 hK0
    unfold lp_halving_2
    repeat (first | (with_reducible exact Fw_rt _) | (with_reducible intro _) | (with_reducible exact hK0 _ _) | (with_reducible exact ih _ _ _ hK0) | (with_reducible refine Fw_clr ?_) | (with_reducible refine Fw_clL ?_) | (with_reducible refine Fw_li (fun _ => ?_)) | (with_reducible refine Fw_rf (fun _ => ?_)) | (with_reducible refine Fw_uf (fun _ => ?_)) | (with_reducible refine Fw_rd (fun _ => ?_)) | (with_reducible refine Fw_ud (fun _ => ?_)) | (with_reducible refine Fw_sr (fun _ => ?_)) | (with_reducible refine Fw_wf rfl ?_) | (with_reducible refine Fw_wd rfl ?_) | (with_reducible refine Fw_og ?_) | (with_reducible refine Fw_ite ?_ ?_) | (with_reducible refine Fw_oi (fun _ => ?_)) | (with_reducible refine Fw_ot ?_ (fun _ => ?_)) | (with_reducible refine Fw_cl ?_ (fun _ => ?_)))

theorem fw_halving (a0 : Int32) : Fw kI kA (f_halving a0) := by
  unfold f_halving
  repeat (first | (with_reducible exact Fw_rt _) | (with_reducible intro _) | (with_reducible refine fw_lp_halving_2 _ _ _ _ ?_) | (with_reducible refine Fw_clr ?_) | (with_reducible refine Fw_clL ?_) | (with_reducible refine Fw_li (fun _ => ?_)) | (with_reducible refine Fw_rf (fun _ => ?_)) | (with_reducible refine Fw_uf (fun _ => ?_)) | (with_reducible refine Fw_rd (fun _ => ?_)) | (with_reducible refine Fw_ud (fun _ => ?_)) | (with_reducible refine Fw_sr (fun _ => ?_)) | (with_reducible refine Fw_wf rfl ?_) | (with_reducible refine Fw_wd rfl ?_) | (with_reducible refine Fw_og ?_) | (with_reducible refine Fw_ite ?_ ?_) | (with_reducible refine Fw_oi (fun _ => ?_)) | (with_reducible refine Fw_ot ?_ (fun _ => ?_)) | (with_reducible refine Fw_cl ?_ (fun _ => ?_)))

theorem fw_rounds (a0 : Int32) : Fw kI kA (f_rounds a0) := by
  unfold f_rounds
  repeat (first | (with_reducible exact Fw_rt _) | (with_reducible intro _) | (with_reducible exact (fw_halving _)) | (with_reducible refine Fw_clr ?_) | (with_reducible refine Fw_clL ?_) | (with_reducible refine Fw_li (fun _ => ?_)) | (with_reducible refine Fw_rf (fun _ => ?_)) | (with_reducible refine Fw_uf (fun _ => ?_)) | (with_reducible refine Fw_rd (fun _ => ?_)) | (with_reducible refine Fw_ud (fun _ => ?_)) | (with_reducible refine Fw_sr (fun _ => ?_)) | (with_reducible refine Fw_wf rfl ?_) | (with_reducible refine Fw_wd rfl ?_) | (with_reducible refine Fw_og ?_) | (with_reducible refine Fw_ite ?_ ?_) | (with_reducible refine Fw_oi (fun _ => ?_)) | (with_reducible refine Fw_ot ?_ (fun _ => ?_)) | (with_reducible refine Fw_cl ?_ (fun _ => ?_)))

theorem fw_fights (a0 : Int32) : Fw kI kA (f_fights a0) := by
  unfold f_fights
  repeat (first | (with_reducible exact Fw_rt _) | (with_reducible intro _) | (with_reducible exact (fw_rounds _)) | (with_reducible refine Fw_clr ?_) | (with_reducible refine Fw_clL ?_) | (with_reducible refine Fw_li (fun _ => ?_)) | (with_reducible refine Fw_rf (fun _ => ?_)) | (with_reducible refine Fw_uf (fun _ => ?_)) | (with_reducible refine Fw_rd (fun _ => ?_)) | (with_reducible refine Fw_ud (fun _ => ?_)) | (with_reducible refine Fw_sr (fun _ => ?_)) | (with_reducible refine Fw_wf rfl ?_) | (with_reducible refine Fw_wd rfl ?_) | (with_reducible refine Fw_og ?_) | (with_reducible refine Fw_ite ?_ ?_) | (with_reducible refine Fw_oi (fun _ => ?_)) | (with_reducible refine Fw_ot ?_ (fun _ => ?_)) | (with_reducible refine Fw_cl ?_ (fun _ => ?_)))

theorem fw_isFight (a0 : Int32) (a1 : Int32) : Fw kI kA (f_isFight a0 a1) := by
  unfold f_isFight
  repeat (first | (with_reducible exact Fw_rt _) | (with_reducible intro _) | (with_reducible exact (fw_fights _)) | (with_reducible exact (fw_in _ _ _)) | (with_reducible exact (fw_isClass _)) | (with_reducible refine Fw_clr ?_) | (with_reducible refine Fw_clL ?_) | (with_reducible refine Fw_li (fun _ => ?_)) | (with_reducible refine Fw_rf (fun _ => ?_)) | (with_reducible refine Fw_uf (fun _ => ?_)) | (with_reducible refine Fw_rd (fun _ => ?_)) | (with_reducible refine Fw_ud (fun _ => ?_)) | (with_reducible refine Fw_sr (fun _ => ?_)) | (with_reducible refine Fw_wf rfl ?_) | (with_reducible refine Fw_wd rfl ?_) | (with_reducible refine Fw_og ?_) | (with_reducible refine Fw_ite ?_ ?_) | (with_reducible refine Fw_oi (fun _ => ?_)) | (with_reducible refine Fw_ot ?_ (fun _ => ?_)) | (with_reducible refine Fw_cl ?_ (fun _ => ?_)))

theorem fw_base (a0 : Int32) (a1 : Int32) : Fw kI kA (f_base a0 a1) := by
  unfold f_base
  repeat (first | (with_reducible exact Fw_rt _) | (with_reducible intro _) | (with_reducible refine Fw_clr ?_) | (with_reducible refine Fw_clL ?_) | (with_reducible refine Fw_li (fun _ => ?_)) | (with_reducible refine Fw_rf (fun _ => ?_)) | (with_reducible refine Fw_uf (fun _ => ?_)) | (with_reducible refine Fw_rd (fun _ => ?_)) | (with_reducible refine Fw_ud (fun _ => ?_)) | (with_reducible refine Fw_sr (fun _ => ?_)) | (with_reducible refine Fw_wf rfl ?_) | (with_reducible refine Fw_wd rfl ?_) | (with_reducible refine Fw_og ?_) | (with_reducible refine Fw_ite ?_ ?_) | (with_reducible refine Fw_oi (fun _ => ?_)) | (with_reducible refine Fw_ot ?_ (fun _ => ?_)) | (with_reducible refine Fw_cl ?_ (fun _ => ?_)))

theorem fw_isSecond (a0 : Int32) (a1 : Int32) : Fw kI kA (f_isSecond a0 a1) := by
  unfold f_isSecond
  repeat (first | (with_reducible exact Fw_rt _) | (with_reducible intro _) | (with_reducible refine Fw_clr ?_) | (with_reducible refine Fw_clL ?_) | (with_reducible refine Fw_li (fun _ => ?_)) | (with_reducible refine Fw_rf (fun _ => ?_)) | (with_reducible refine Fw_uf (fun _ => ?_)) | (with_reducible refine Fw_rd (fun _ => ?_)) | (with_reducible refine Fw_ud (fun _ => ?_)) | (with_reducible refine Fw_sr (fun _ => ?_)) | (with_reducible refine Fw_wf rfl ?_) | (with_reducible refine Fw_wd rfl ?_) | (with_reducible refine Fw_og ?_) | (with_reducible refine Fw_ite ?_ ?_) | (with_reducible refine Fw_oi (fun _ => ?_)) | (with_reducible refine Fw_ot ?_ (fun _ => ?_)) | (with_reducible refine Fw_cl ?_ (fun _ => ?_)))

theorem fw_finalOf (a0 : Int32) : Fw kI kA (f_finalOf a0) := by
  unfold f_finalOf
  repeat (first | (with_reducible exact Fw_rt _) | (with_reducible intro _) | (with_reducible refine Fw_clr ?_) | (with_reducible refine Fw_clL ?_) | (with_reducible refine Fw_li (fun _ => ?_)) | (with_reducible refine Fw_rf (fun _ => ?_)) | (with_reducible refine Fw_uf (fun _ => ?_)) | (with_reducible refine Fw_rd (fun _ => ?_)) | (with_reducible refine Fw_ud (fun _ => ?_)) | (with_reducible refine Fw_sr (fun _ => ?_)) | (with_reducible refine Fw_wf rfl ?_) | (with_reducible refine Fw_wd rfl ?_) | (with_reducible refine Fw_og ?_) | (with_reducible refine Fw_ite ?_ ?_) | (with_reducible refine Fw_oi (fun _ => ?_)) | (with_reducible refine Fw_ot ?_ (fun _ => ?_)) | (with_reducible refine Fw_cl ?_ (fun _ => ?_)))

theorem fw_lp_roundOf_2 : ∀ (n : Nat) (v1 v2 v3 : Int32) (K0 : Int32 → Int32 → Int32 → PG (Int32)), (∀ (v1 v2 v3 : Int32), Fw kI kA (K0 v1 v2 v3)) → Fw kI kA (lp_roundOf_2 n v1 v2 v3 K0) := by
  intro n
  induction n with
  | zero => intro v1 v2 v3 K0 hK0; exact Fw_no
  | succ n ih =>
    intro v1 v2 v3 K0 hK0
    unfold lp_roundOf_2
    repeat (first | (with_reducible exact Fw_rt _) | (with_reducible intro _) | (with_reducible exact hK0 _ _ _) | (with_reducible exact ih _ _ _ _ hK0) | (with_reducible exact (fw_base _ _)) | (with_reducible refine Fw_clr ?_) | (with_reducible refine Fw_clL ?_) | (with_reducible refine Fw_li (fun _ => ?_)) | (with_reducible refine Fw_rf (fun _ => ?_)) | (with_reducible refine Fw_uf (fun _ => ?_)) | (with_reducible refine Fw_rd (fun _ => ?_)) | (with_reducible refine Fw_ud (fun _ => ?_)) | (with_reducible refine Fw_sr (fun _ => ?_)) | (with_reducible refine Fw_wf rfl ?_) | (with_reducible refine Fw_wd rfl ?_) | (with_reducible refine Fw_og ?_) | (with_reducible refine Fw_ite ?_ ?_) | (with_reducible refine Fw_oi (fun _ => ?_)) | (with_reducible refine Fw_ot ?_ (fun _ => ?_)) | (with_reducible refine Fw_cl ?_ (fun _ => ?_)))

theorem fw_roundOf (a0 : Int32) (a1 : Int32) : Fw kI kA (f_roundOf a0 a1) := by
  unfold f_roundOf
  repeat (first | (with_reducible exact Fw_rt _) | (with_reducible intro _) | (with_reducible refine fw_lp_roundOf_2 _ _ _ _ _ ?_) | (with_reducible exact (fw_base _ _)) | (with_reducible refine Fw_clr ?_) | (with_reducible refine Fw_clL ?_) | (with_reducible refine Fw_li (fun _ => ?_)) | (with_reducible refine Fw_rf (fun _ => ?_)) | (with_reducible refine Fw_uf (fun _ => ?_)) | (with_reducible refine Fw_rd (fun _ => ?_)) | (with_reducible refine Fw_ud (fun _ => ?_)) | (with_reducible refine Fw_sr (fun _ => ?_)) | (with_reducible refine Fw_wf rfl ?_) | (with_reducible refine Fw_wd rfl ?_) | (with_reducible refine Fw_og ?_) | (with_reducible refine Fw_ite ?_ ?_) | (with_reducible refine Fw_oi (fun _ => ?_)) | (with_reducible refine Fw_ot ?_ (fun _ => ?_)) | (with_reducible refine Fw_cl ?_ (fun _ => ?_)))

theorem fw_halfOf (a0 : Int32) (a1 : Int32) : Fw kI kA (f_halfOf a0 a1) := by
  unfold f_halfOf
  repeat (first | (with_reducible exact Fw_rt _) | (with_reducible intro _) | (with_reducible exact (fw_rounds _)) | (with_reducible refine Fw_clr ?_) | (with_reducible refine Fw_clL ?_) | (with_reducible refine Fw_li (fun _ => ?_)) | (with_reducible refine Fw_rf (fun _ => ?_)) | (with_reducible refine Fw_uf (fun _ => ?_)) | (with_reducible refine Fw_rd (fun _ => ?_)) | (with_reducible refine Fw_ud (fun _ => ?_)) | (with_reducible refine Fw_sr (fun _ => ?_)) | (with_reducible refine Fw_wf rfl ?_) | (with_reducible refine Fw_wd rfl ?_) | (with_reducible refine Fw_og ?_) | (with_reducible refine Fw_ite ?_ ?_) | (with_reducible refine Fw_oi (fun _ => ?_)) | (with_reducible refine Fw_ot ?_ (fun _ => ?_)) | (with_reducible refine Fw_cl ?_ (fun _ => ?_)))

theorem fw_stepOf (a0 : Int32) (a1 : Int32) : Fw kI kA (f_stepOf a0 a1) := by
  unfold f_stepOf
  repeat (first | (with_reducible exact Fw_rt _) | (with_reducible intro _) | (with_reducible exact (fw_rounds _)) | (with_reducible refine Fw_clr ?_) | (with_reducible refine Fw_clL ?_) | (with_reducible refine Fw_li (fun _ => ?_)) | (with_reducible refine Fw_rf (fun _ => ?_)) | (with_reducible refine Fw_uf (fun _ => ?_)) | (with_reducible refine Fw_rd (fun _ => ?_)) | (with_reducible refine Fw_ud (fun _ => ?_)) | (with_reducible refine Fw_sr (fun _ => ?_)) | (with_reducible refine Fw_wf rfl ?_) | (with_reducible refine Fw_wd rfl ?_) | (with_reducible refine Fw_og ?_) | (with_reducible refine Fw_ite ?_ ?_) | (with_reducible refine Fw_oi (fun _ => ?_)) | (with_reducible refine Fw_ot ?_ (fun _ => ?_)) | (with_reducible refine Fw_cl ?_ (fun _ => ?_)))

theorem fw_lp_pair_6 : ∀ (n : Nat) (v1 v2 v3 v4 v5 : Int32) (K0 : Int32 → Int32 → Int32 → Int32 → Int32 → PG (Int32)), (∀ (v1 v2 v3 v4 v5 : Int32), Fw kI kA (K0 v1 v2 v3 v4 v5)) → Fw kI kA (lp_pair_6 n v1 v2 v3 v4 v5 K0) := by
  intro n
  induction n with
  | zero => intro v1 v2 v3 v4 v5 K0 hK0; exact Fw_no
  | succ n ih =>
    intro v1 v2 v3 v4 v5 K0 hK0
    unfold lp_pair_6
    repeat (first | (with_reducible exact Fw_rt _) | (with_reducible intro _) | (with_reducible exact hK0 _ _ _ _ _) | (with_reducible exact ih _ _ _ _ _ _ hK0) | (with_reducible refine Fw_clr ?_) | (with_reducible refine Fw_clL ?_) | (with_reducible refine Fw_li (fun _ => ?_)) | (with_reducible refine Fw_rf (fun _ => ?_)) | (with_reducible refine Fw_uf (fun _ => ?_)) | (with_reducible refine Fw_rd (fun _ => ?_)) | (with_reducible refine Fw_ud (fun _ => ?_)) | (with_reducible refine Fw_sr (fun _ => ?_)) | (with_reducible refine Fw_wf rfl ?_) | (with_reducible refine Fw_wd rfl ?_) | (with_reducible refine Fw_og ?_) | (with_reducible refine Fw_ite ?_ ?_) | (with_reducible refine Fw_oi (fun _ => ?_)) | (with_reducible refine Fw_ot ?_ (fun _ => ?_)) | (with_reducible refine Fw_cl ?_ (fun _ => ?_)))

theorem fw_pair (a0 : Int32) (a1 : Int32) (a2 : Int32) : Fw kI kA (f_pair a0 a1 a2) := by
  unfold f_pair
  repeat (first | (with_reducible exact Fw_rt _) | (with_reducible intro _) | (with_reducible refine fw_lp_pair_6 _ _ _ _ _ _ _ ?_) | (with_reducible refine Fw_clr ?_) | (with_reducible refine Fw_clL ?_) | (with_reducible refine Fw_li (fun _ => ?_)) | (with_reducible refine Fw_rf (fun _ => ?_)) | (with_reducible refine Fw_uf (fun _ => ?_)) | (with_reducible refine Fw_rd (fun _ => ?_)) | (with_reducible refine Fw_ud (fun _ => ?_)) | (with_reducible refine Fw_sr (fun _ => ?_)) | (with_reducible refine Fw_wf rfl ?_) | (with_reducible refine Fw_wd rfl ?_) | (with_reducible refine Fw_og ?_) | (with_reducible refine Fw_ite ?_ ?_) | (with_reducible refine Fw_oi (fun _ => ?_)) | (with_reducible refine Fw_ot ?_ (fun _ => ?_)) | (with_reducible refine Fw_cl ?_ (fun _ => ?_)))

theorem fw_bd_sideOf (F : Nat → Int32 → Int32 → Int32 → Int32 → PG (Int32)) (hFd : ∀ w a b d e, Fw kI kA (F w a b d e)) (a0 : Int32) (a1 : Int32) (a2 : Int32) : Fw kI kA (bd_sideOf F a0 a1 a2) := by
  unfold bd_sideOf
  repeat (first | (with_reducible exact Fw_rt _) | (with_reducible intro _) | (with_reducible exact (fw_base _ _)) | (with_reducible exact (fw_halfOf _ _)) | (with_reducible exact (fw_isSecond _ _)) | (with_reducible exact (fw_pair _ _ _)) | (with_reducible exact (fw_roundOf _ _)) | (with_reducible exact (fw_stepOf _ _)) | (with_reducible exact hFd _ _ _ _ _) | (with_reducible refine Fw_clr ?_) | (with_reducible refine Fw_clL ?_) | (with_reducible refine Fw_li (fun _ => ?_)) | (with_reducible refine Fw_rf (fun _ => ?_)) | (with_reducible refine Fw_uf (fun _ => ?_)) | (with_reducible refine Fw_rd (fun _ => ?_)) | (with_reducible refine Fw_ud (fun _ => ?_)) | (with_reducible refine Fw_sr (fun _ => ?_)) | (with_reducible refine Fw_wf rfl ?_) | (with_reducible refine Fw_wd rfl ?_) | (with_reducible refine Fw_og ?_) | (with_reducible refine Fw_ite ?_ ?_) | (with_reducible refine Fw_oi (fun _ => ?_)) | (with_reducible refine Fw_ot ?_ (fun _ => ?_)) | (with_reducible refine Fw_cl ?_ (fun _ => ?_)))

theorem fw_bd_second (F : Nat → Int32 → Int32 → Int32 → Int32 → PG (Int32)) (hFd : ∀ w a b d e, Fw kI kA (F w a b d e)) (a0 : Int32) (a1 : Int32) (a2 : Int32) (a3 : Int32) : Fw kI kA (bd_second F a0 a1 a2 a3) := by
  unfold bd_second
  repeat (first | (with_reducible exact Fw_rt _) | (with_reducible intro _) | (with_reducible exact (fw_rounds _)) | (with_reducible exact hFd _ _ _ _ _) | (with_reducible refine Fw_clr ?_) | (with_reducible refine Fw_clL ?_) | (with_reducible refine Fw_li (fun _ => ?_)) | (with_reducible refine Fw_rf (fun _ => ?_)) | (with_reducible refine Fw_uf (fun _ => ?_)) | (with_reducible refine Fw_rd (fun _ => ?_)) | (with_reducible refine Fw_ud (fun _ => ?_)) | (with_reducible refine Fw_sr (fun _ => ?_)) | (with_reducible refine Fw_wf rfl ?_) | (with_reducible refine Fw_wd rfl ?_) | (with_reducible refine Fw_og ?_) | (with_reducible refine Fw_ite ?_ ?_) | (with_reducible refine Fw_oi (fun _ => ?_)) | (with_reducible refine Fw_ot ?_ (fun _ => ?_)) | (with_reducible refine Fw_cl ?_ (fun _ => ?_)))

theorem fw_bd_loserTo (F : Nat → Int32 → Int32 → Int32 → Int32 → PG (Int32)) (hFd : ∀ w a b d e, Fw kI kA (F w a b d e)) (a0 : Int32) (a1 : Int32) (a2 : Int32) : Fw kI kA (bd_loserTo F a0 a1 a2) := by
  unfold bd_loserTo
  repeat (first | (with_reducible exact Fw_rt _) | (with_reducible intro _) | (with_reducible exact (fw_base _ _)) | (with_reducible exact (fw_rounds _)) | (with_reducible exact hFd _ _ _ _ _) | (with_reducible refine Fw_clr ?_) | (with_reducible refine Fw_clL ?_) | (with_reducible refine Fw_li (fun _ => ?_)) | (with_reducible refine Fw_rf (fun _ => ?_)) | (with_reducible refine Fw_uf (fun _ => ?_)) | (with_reducible refine Fw_rd (fun _ => ?_)) | (with_reducible refine Fw_ud (fun _ => ?_)) | (with_reducible refine Fw_sr (fun _ => ?_)) | (with_reducible refine Fw_wf rfl ?_) | (with_reducible refine Fw_wd rfl ?_) | (with_reducible refine Fw_og ?_) | (with_reducible refine Fw_ite ?_ ?_) | (with_reducible refine Fw_oi (fun _ => ?_)) | (with_reducible refine Fw_ot ?_ (fun _ => ?_)) | (with_reducible refine Fw_cl ?_ (fun _ => ?_)))

theorem fw_bd_winnerOf (F : Nat → Int32 → Int32 → Int32 → Int32 → PG (Int32)) (hFd : ∀ w a b d e, Fw kI kA (F w a b d e)) (a0 : Int32) (a1 : Int32) : Fw kI kA (bd_winnerOf F a0 a1) := by
  unfold bd_winnerOf
  repeat (first | (with_reducible exact Fw_rt _) | (with_reducible intro _) | (with_reducible exact hFd _ _ _ _ _) | (with_reducible refine Fw_clr ?_) | (with_reducible refine Fw_clL ?_) | (with_reducible refine Fw_li (fun _ => ?_)) | (with_reducible refine Fw_rf (fun _ => ?_)) | (with_reducible refine Fw_uf (fun _ => ?_)) | (with_reducible refine Fw_rd (fun _ => ?_)) | (with_reducible refine Fw_ud (fun _ => ?_)) | (with_reducible refine Fw_sr (fun _ => ?_)) | (with_reducible refine Fw_wf rfl ?_) | (with_reducible refine Fw_wd rfl ?_) | (with_reducible refine Fw_og ?_) | (with_reducible refine Fw_ite ?_ ?_) | (with_reducible refine Fw_oi (fun _ => ?_)) | (with_reducible refine Fw_ot ?_ (fun _ => ?_)) | (with_reducible refine Fw_cl ?_ (fun _ => ?_)))

theorem fw_fS : ∀ (d w : Nat) (a0 a1 a2 a3 : Int32), Fw kI kA (fS d w a0 a1 a2 a3) := by
  intro d
  induction d with
  | zero => intro w a0 a1 a2 a3; exact Fw_no
  | succ d ih =>
    intro w a0 a1 a2 a3
    unfold fS
    repeat (first | (with_reducible refine Fw_ite ?_ ?_) | (with_reducible exact fw_bd_sideOf _ ih _ _ _) | (with_reducible exact fw_bd_second _ ih _ _ _ _) | (with_reducible exact fw_bd_loserTo _ ih _ _ _) | (with_reducible exact fw_bd_winnerOf _ ih _ _))

theorem fw_isWalk (a0 : Int32) (a1 : Int32) : Fw kI kA (f_isWalk a0 a1) := by
  unfold f_isWalk
  repeat (first | (with_reducible exact Fw_rt _) | (with_reducible intro _) | (with_reducible exact (fw_fS _ _ _ _ _ _)) | (with_reducible refine Fw_clr ?_) | (with_reducible refine Fw_clL ?_) | (with_reducible refine Fw_li (fun _ => ?_)) | (with_reducible refine Fw_rf (fun _ => ?_)) | (with_reducible refine Fw_uf (fun _ => ?_)) | (with_reducible refine Fw_rd (fun _ => ?_)) | (with_reducible refine Fw_ud (fun _ => ?_)) | (with_reducible refine Fw_sr (fun _ => ?_)) | (with_reducible refine Fw_wf rfl ?_) | (with_reducible refine Fw_wd rfl ?_) | (with_reducible refine Fw_og ?_) | (with_reducible refine Fw_ite ?_ ?_) | (with_reducible refine Fw_oi (fun _ => ?_)) | (with_reducible refine Fw_ot ?_ (fun _ => ?_)) | (with_reducible refine Fw_cl ?_ (fun _ => ?_)))

theorem fw_isReady (a0 : Int32) (a1 : Int32) : Fw kI kA (f_isReady a0 a1) := by
  unfold f_isReady
  repeat (first | (with_reducible exact Fw_rt _) | (with_reducible intro _) | (with_reducible exact (fw_fS _ _ _ _ _ _)) | (with_reducible refine Fw_clr ?_) | (with_reducible refine Fw_clL ?_) | (with_reducible refine Fw_li (fun _ => ?_)) | (with_reducible refine Fw_rf (fun _ => ?_)) | (with_reducible refine Fw_uf (fun _ => ?_)) | (with_reducible refine Fw_rd (fun _ => ?_)) | (with_reducible refine Fw_ud (fun _ => ?_)) | (with_reducible refine Fw_sr (fun _ => ?_)) | (with_reducible refine Fw_wf rfl ?_) | (with_reducible refine Fw_wd rfl ?_) | (with_reducible refine Fw_og ?_) | (with_reducible refine Fw_ite ?_ ?_) | (with_reducible refine Fw_oi (fun _ => ?_)) | (with_reducible refine Fw_ot ?_ (fun _ => ?_)) | (with_reducible refine Fw_cl ?_ (fun _ => ?_)))

theorem fw_joined (a0 : Int32) (a1 : Int32) (a2 : Int32) : Fw kI kA (f_joined a0 a1 a2) := by
  unfold f_joined
  repeat (first | (with_reducible exact Fw_rt _) | (with_reducible intro _) | (with_reducible refine Fw_clr ?_) | (with_reducible refine Fw_clL ?_) | (with_reducible refine Fw_li (fun _ => ?_)) | (with_reducible refine Fw_rf (fun _ => ?_)) | (with_reducible refine Fw_uf (fun _ => ?_)) | (with_reducible refine Fw_rd (fun _ => ?_)) | (with_reducible refine Fw_ud (fun _ => ?_)) | (with_reducible refine Fw_sr (fun _ => ?_)) | (with_reducible refine Fw_wf rfl ?_) | (with_reducible refine Fw_wd rfl ?_) | (with_reducible refine Fw_og ?_) | (with_reducible refine Fw_ite ?_ ?_) | (with_reducible refine Fw_oi (fun _ => ?_)) | (with_reducible refine Fw_ot ?_ (fun _ => ?_)) | (with_reducible refine Fw_cl ?_ (fun _ => ?_)))

theorem fw_termOf (a0 : Int32) (a1 : Int32) (a2 : Int32) (a3 : Int32) : Fw kI kA (f_termOf a0 a1 a2 a3) := by
  unfold f_termOf
  repeat (first | (with_reducible exact Fw_rt _) | (with_reducible intro _) | (with_reducible refine Fw_clr ?_) | (with_reducible refine Fw_clL ?_) | (with_reducible refine Fw_li (fun _ => ?_)) | (with_reducible refine Fw_rf (fun _ => ?_)) | (with_reducible refine Fw_uf (fun _ => ?_)) | (with_reducible refine Fw_rd (fun _ => ?_)) | (with_reducible refine Fw_ud (fun _ => ?_)) | (with_reducible refine Fw_sr (fun _ => ?_)) | (with_reducible refine Fw_wf rfl ?_) | (with_reducible refine Fw_wd rfl ?_) | (with_reducible refine Fw_og ?_) | (with_reducible refine Fw_ite ?_ ?_) | (with_reducible refine Fw_oi (fun _ => ?_)) | (with_reducible refine Fw_ot ?_ (fun _ => ?_)) | (with_reducible refine Fw_cl ?_ (fun _ => ?_)))

theorem fw_lp_holds_11 : ∀ (n : Nat) (v1 v2 v3 v4 v5 v6 : Int32) (K0 : Int32 → Int32 → Int32 → Int32 → Int32 → Int32 → PG (Int32)), (∀ (v1 v2 v3 v4 v5 v6 : Int32), Fw kI kA (K0 v1 v2 v3 v4 v5 v6)) → Fw kI kA (lp_holds_11 n v1 v2 v3 v4 v5 v6 K0) := by
  intro n
  induction n with
  | zero => intro v1 v2 v3 v4 v5 v6 K0 hK0; exact Fw_no
  | succ n ih =>
    intro v1 v2 v3 v4 v5 v6 K0 hK0
    unfold lp_holds_11
    repeat (first | (with_reducible exact Fw_rt _) | (with_reducible intro _) | (with_reducible exact hK0 _ _ _ _ _ _) | (with_reducible exact ih _ _ _ _ _ _ _ hK0) | (with_reducible exact (fw_joined _ _ _)) | (with_reducible exact (fw_termOf _ _ _ _)) | (with_reducible refine Fw_clr ?_) | (with_reducible refine Fw_clL ?_) | (with_reducible refine Fw_li (fun _ => ?_)) | (with_reducible refine Fw_rf (fun _ => ?_)) | (with_reducible refine Fw_uf (fun _ => ?_)) | (with_reducible refine Fw_rd (fun _ => ?_)) | (with_reducible refine Fw_ud (fun _ => ?_)) | (with_reducible refine Fw_sr (fun _ => ?_)) | (with_reducible refine Fw_wf rfl ?_) | (with_reducible refine Fw_wd rfl ?_) | (with_reducible refine Fw_og ?_) | (with_reducible refine Fw_ite ?_ ?_) | (with_reducible refine Fw_oi (fun _ => ?_)) | (with_reducible refine Fw_ot ?_ (fun _ => ?_)) | (with_reducible refine Fw_cl ?_ (fun _ => ?_)))

theorem fw_holds (a0 : Int32) (a1 : Int32) (a2 : Int32) (a3 : Int32) : Fw kI kA (f_holds a0 a1 a2 a3) := by
  unfold f_holds
  repeat (first | (with_reducible exact Fw_rt _) | (with_reducible intro _) | (with_reducible refine fw_lp_holds_11 _ _ _ _ _ _ _ _ ?_) | (with_reducible exact (fw_joined _ _ _)) | (with_reducible exact (fw_termOf _ _ _ _)) | (with_reducible refine Fw_clr ?_) | (with_reducible refine Fw_clL ?_) | (with_reducible refine Fw_li (fun _ => ?_)) | (with_reducible refine Fw_rf (fun _ => ?_)) | (with_reducible refine Fw_uf (fun _ => ?_)) | (with_reducible refine Fw_rd (fun _ => ?_)) | (with_reducible refine Fw_ud (fun _ => ?_)) | (with_reducible refine Fw_sr (fun _ => ?_)) | (with_reducible refine Fw_wf rfl ?_) | (with_reducible refine Fw_wd rfl ?_) | (with_reducible refine Fw_og ?_) | (with_reducible refine Fw_ite ?_ ?_) | (with_reducible refine Fw_oi (fun _ => ?_)) | (with_reducible refine Fw_ot ?_ (fun _ => ?_)) | (with_reducible refine Fw_cl ?_ (fun _ => ?_)))

theorem fw_byteAt (a0 : Int32) : Fw kI kA (f_byteAt a0) := by
  unfold f_byteAt
  repeat (first | (with_reducible exact Fw_rt _) | (with_reducible intro _) | (with_reducible refine Fw_clr ?_) | (with_reducible refine Fw_clL ?_) | (with_reducible refine Fw_li (fun _ => ?_)) | (with_reducible refine Fw_rf (fun _ => ?_)) | (with_reducible refine Fw_uf (fun _ => ?_)) | (with_reducible refine Fw_rd (fun _ => ?_)) | (with_reducible refine Fw_ud (fun _ => ?_)) | (with_reducible refine Fw_sr (fun _ => ?_)) | (with_reducible refine Fw_wf rfl ?_) | (with_reducible refine Fw_wd rfl ?_) | (with_reducible refine Fw_og ?_) | (with_reducible refine Fw_ite ?_ ?_) | (with_reducible refine Fw_oi (fun _ => ?_)) | (with_reducible refine Fw_ot ?_ (fun _ => ?_)) | (with_reducible refine Fw_cl ?_ (fun _ => ?_)))

theorem fw_isLetter (a0 : Int32) : Fw kI kA (f_isLetter a0) := by
  unfold f_isLetter
  repeat (first | (with_reducible exact Fw_rt _) | (with_reducible intro _) | (with_reducible refine Fw_clr ?_) | (with_reducible refine Fw_clL ?_) | (with_reducible refine Fw_li (fun _ => ?_)) | (with_reducible refine Fw_rf (fun _ => ?_)) | (with_reducible refine Fw_uf (fun _ => ?_)) | (with_reducible refine Fw_rd (fun _ => ?_)) | (with_reducible refine Fw_ud (fun _ => ?_)) | (with_reducible refine Fw_sr (fun _ => ?_)) | (with_reducible refine Fw_wf rfl ?_) | (with_reducible refine Fw_wd rfl ?_) | (with_reducible refine Fw_og ?_) | (with_reducible refine Fw_ite ?_ ?_) | (with_reducible refine Fw_oi (fun _ => ?_)) | (with_reducible refine Fw_ot ?_ (fun _ => ?_)) | (with_reducible refine Fw_cl ?_ (fun _ => ?_)))

theorem fw_isDigit (a0 : Int32) : Fw kI kA (f_isDigit a0) := by
  unfold f_isDigit
  repeat (first | (with_reducible exact Fw_rt _) | (with_reducible intro _) | (with_reducible refine Fw_clr ?_) | (with_reducible refine Fw_clL ?_) | (with_reducible refine Fw_li (fun _ => ?_)) | (with_reducible refine Fw_rf (fun _ => ?_)) | (with_reducible refine Fw_uf (fun _ => ?_)) | (with_reducible refine Fw_rd (fun _ => ?_)) | (with_reducible refine Fw_ud (fun _ => ?_)) | (with_reducible refine Fw_sr (fun _ => ?_)) | (with_reducible refine Fw_wf rfl ?_) | (with_reducible refine Fw_wd rfl ?_) | (with_reducible refine Fw_og ?_) | (with_reducible refine Fw_ite ?_ ?_) | (with_reducible refine Fw_oi (fun _ => ?_)) | (with_reducible refine Fw_ot ?_ (fun _ => ?_)) | (with_reducible refine Fw_cl ?_ (fun _ => ?_)))

theorem fw_put (a0 : Int32) (a1 : Int32) : Fw kI kA (f_put a0 a1) := by
  unfold f_put
  repeat (first | (with_reducible exact Fw_rt _) | (with_reducible intro _) | (with_reducible refine Fw_clr ?_) | (with_reducible refine Fw_clL ?_) | (with_reducible refine Fw_li (fun _ => ?_)) | (with_reducible refine Fw_rf (fun _ => ?_)) | (with_reducible refine Fw_uf (fun _ => ?_)) | (with_reducible refine Fw_rd (fun _ => ?_)) | (with_reducible refine Fw_ud (fun _ => ?_)) | (with_reducible refine Fw_sr (fun _ => ?_)) | (with_reducible refine Fw_wf rfl ?_) | (with_reducible refine Fw_wd rfl ?_) | (with_reducible refine Fw_og ?_) | (with_reducible refine Fw_ite ?_ ?_) | (with_reducible refine Fw_oi (fun _ => ?_)) | (with_reducible refine Fw_ot ?_ (fun _ => ?_)) | (with_reducible refine Fw_cl ?_ (fun _ => ?_)))

theorem fw_release (a0 : Int32) : Fw kI kA (f_release a0) := by
  unfold f_release
  repeat (first | (with_reducible exact Fw_rt _) | (with_reducible intro _) | (with_reducible exact (fw_put _ _)) | (with_reducible refine Fw_clr ?_) | (with_reducible refine Fw_clL ?_) | (with_reducible refine Fw_li (fun _ => ?_)) | (with_reducible refine Fw_rf (fun _ => ?_)) | (with_reducible refine Fw_uf (fun _ => ?_)) | (with_reducible refine Fw_rd (fun _ => ?_)) | (with_reducible refine Fw_ud (fun _ => ?_)) | (with_reducible refine Fw_sr (fun _ => ?_)) | (with_reducible refine Fw_wf rfl ?_) | (with_reducible refine Fw_wd rfl ?_) | (with_reducible refine Fw_og ?_) | (with_reducible refine Fw_ite ?_ ?_) | (with_reducible refine Fw_oi (fun _ => ?_)) | (with_reducible refine Fw_ot ?_ (fun _ => ?_)) | (with_reducible refine Fw_cl ?_ (fun _ => ?_)))

theorem fw_lp_anew_47 : ∀ (n : Nat) (v1 v2 : Int32) (K0 : Int32 → Int32 → PG (Int32)), (∀ (v1 v2 : Int32), Fw kI kA (K0 v1 v2)) → Fw kI kA (lp_anew_47 n v1 v2 K0) := by
  intro n
  induction n with
  | zero => intro v1 v2 K0 hK0; exact Fw_no
  | succ n ih =>
    intro v1 v2 K0 hK0
    unfold lp_anew_47
    repeat (first | (with_reducible exact Fw_rt _) | (with_reducible intro _) | (with_reducible exact hK0 _ _) | (with_reducible exact ih _ _ _ hK0) | (with_reducible refine Fw_clr ?_) | (with_reducible refine Fw_clL ?_) | (with_reducible refine Fw_li (fun _ => ?_)) | (with_reducible refine Fw_rf (fun _ => ?_)) | (with_reducible refine Fw_uf (fun _ => ?_)) | (with_reducible refine Fw_rd (fun _ => ?_)) | (with_reducible refine Fw_ud (fun _ => ?_)) | (with_reducible refine Fw_sr (fun _ => ?_)) | (with_reducible refine Fw_wf rfl ?_) | (with_reducible refine Fw_wd rfl ?_) | (with_reducible refine Fw_og ?_) | (with_reducible refine Fw_ite ?_ ?_) | (with_reducible refine Fw_oi (fun _ => ?_)) | (with_reducible refine Fw_ot ?_ (fun _ => ?_)) | (with_reducible refine Fw_cl ?_ (fun _ => ?_)))

theorem fw_lp_anew_18 : ∀ (n : Nat) (v1 : Int32) (K0 : Int32 → PG (Int32)), (∀ (v1 : Int32), Fw kI kA (K0 v1)) → Fw kI kA (lp_anew_18 n v1 K0) := by
  intro n
  induction n with
  | zero => intro v1 K0 hK0; exact Fw_no
  | succ n ih =>
    intro v1 K0 hK0
    unfold lp_anew_18
    repeat (first | (with_reducible exact Fw_rt _) | (with_reducible intro _) | (with_reducible exact hK0 _) | (with_reducible exact ih _ _ hK0) | (with_reducible refine fw_lp_anew_47 _ _ _ _ ?_) | (with_reducible refine Fw_clr ?_) | (with_reducible refine Fw_clL ?_) | (with_reducible refine Fw_li (fun _ => ?_)) | (with_reducible refine Fw_rf (fun _ => ?_)) | (with_reducible refine Fw_uf (fun _ => ?_)) | (with_reducible refine Fw_rd (fun _ => ?_)) | (with_reducible refine Fw_ud (fun _ => ?_)) | (with_reducible refine Fw_sr (fun _ => ?_)) | (with_reducible refine Fw_wf rfl ?_) | (with_reducible refine Fw_wd rfl ?_) | (with_reducible refine Fw_og ?_) | (with_reducible refine Fw_ite ?_ ?_) | (with_reducible refine Fw_oi (fun _ => ?_)) | (with_reducible refine Fw_ot ?_ (fun _ => ?_)) | (with_reducible refine Fw_cl ?_ (fun _ => ?_)))

theorem fw_lp_anew_79 : ∀ (n : Nat) (v1 : Int32) (K0 : Int32 → PG (Int32)), (∀ (v1 : Int32), Fw kI kA (K0 v1)) → Fw kI kA (lp_anew_79 n v1 K0) := by
  intro n
  induction n with
  | zero => intro v1 K0 hK0; exact Fw_no
  | succ n ih =>
    intro v1 K0 hK0
    unfold lp_anew_79
    repeat (first | (with_reducible exact Fw_rt _) | (with_reducible intro _) | (with_reducible exact hK0 _) | (with_reducible exact ih _ _ hK0) | (with_reducible refine fw_lp_anew_47 _ _ _ _ ?_) | (with_reducible refine fw_lp_anew_18 _ _ _ ?_) | (with_reducible refine Fw_clr ?_) | (with_reducible refine Fw_clL ?_) | (with_reducible refine Fw_li (fun _ => ?_)) | (with_reducible refine Fw_rf (fun _ => ?_)) | (with_reducible refine Fw_uf (fun _ => ?_)) | (with_reducible refine Fw_rd (fun _ => ?_)) | (with_reducible refine Fw_ud (fun _ => ?_)) | (with_reducible refine Fw_sr (fun _ => ?_)) | (with_reducible refine Fw_wf rfl ?_) | (with_reducible refine Fw_wd rfl ?_) | (with_reducible refine Fw_og ?_) | (with_reducible refine Fw_ite ?_ ?_) | (with_reducible refine Fw_oi (fun _ => ?_)) | (with_reducible refine Fw_ot ?_ (fun _ => ?_)) | (with_reducible refine Fw_cl ?_ (fun _ => ?_)))

theorem fw_anew : Fw kI kA (f_anew) := by
  unfold f_anew
  repeat (first | (with_reducible exact Fw_rt _) | (with_reducible intro _) | (with_reducible refine fw_lp_anew_47 _ _ _ _ ?_) | (with_reducible refine fw_lp_anew_18 _ _ _ ?_) | (with_reducible refine fw_lp_anew_79 _ _ _ ?_) | (with_reducible refine Fw_clr ?_) | (with_reducible refine Fw_clL ?_) | (with_reducible refine Fw_li (fun _ => ?_)) | (with_reducible refine Fw_rf (fun _ => ?_)) | (with_reducible refine Fw_uf (fun _ => ?_)) | (with_reducible refine Fw_rd (fun _ => ?_)) | (with_reducible refine Fw_ud (fun _ => ?_)) | (with_reducible refine Fw_sr (fun _ => ?_)) | (with_reducible refine Fw_wf rfl ?_) | (with_reducible refine Fw_wd rfl ?_) | (with_reducible refine Fw_og ?_) | (with_reducible refine Fw_ite ?_ ?_) | (with_reducible refine Fw_oi (fun _ => ?_)) | (with_reducible refine Fw_ot ?_ (fun _ => ?_)) | (with_reducible refine Fw_cl ?_ (fun _ => ?_)))

theorem fw_fault (a0 : Int32) : Fw kI kA (f_fault a0) := by
  unfold f_fault
  repeat (first | (with_reducible exact Fw_rt _) | (with_reducible intro _) | (with_reducible refine Fw_clr ?_) | (with_reducible refine Fw_clL ?_) | (with_reducible refine Fw_li (fun _ => ?_)) | (with_reducible refine Fw_rf (fun _ => ?_)) | (with_reducible refine Fw_uf (fun _ => ?_)) | (with_reducible refine Fw_rd (fun _ => ?_)) | (with_reducible refine Fw_ud (fun _ => ?_)) | (with_reducible refine Fw_sr (fun _ => ?_)) | (with_reducible refine Fw_wf rfl ?_) | (with_reducible refine Fw_wd rfl ?_) | (with_reducible refine Fw_og ?_) | (with_reducible refine Fw_ite ?_ ?_) | (with_reducible refine Fw_oi (fun _ => ?_)) | (with_reducible refine Fw_ot ?_ (fun _ => ?_)) | (with_reducible refine Fw_cl ?_ (fun _ => ?_)))

theorem fw_isFighter (a0 : Int32) : Fw kI kA (f_isFighter a0) := by
  unfold f_isFighter
  repeat (first | (with_reducible exact Fw_rt _) | (with_reducible intro _) | (with_reducible exact (fw_in _ _ _)) | (with_reducible refine Fw_clr ?_) | (with_reducible refine Fw_clL ?_) | (with_reducible refine Fw_li (fun _ => ?_)) | (with_reducible refine Fw_rf (fun _ => ?_)) | (with_reducible refine Fw_uf (fun _ => ?_)) | (with_reducible refine Fw_rd (fun _ => ?_)) | (with_reducible refine Fw_ud (fun _ => ?_)) | (with_reducible refine Fw_sr (fun _ => ?_)) | (with_reducible refine Fw_wf rfl ?_) | (with_reducible refine Fw_wd rfl ?_) | (with_reducible refine Fw_og ?_) | (with_reducible refine Fw_ite ?_ ?_) | (with_reducible refine Fw_oi (fun _ => ?_)) | (with_reducible refine Fw_ot ?_ (fun _ => ?_)) | (with_reducible refine Fw_cl ?_ (fun _ => ?_)))

theorem fw_comes (a0 : Int32) (a1 : Int32) : Fw kI kA (f_comes a0 a1) := by
  unfold f_comes
  repeat (first | (with_reducible exact Fw_rt _) | (with_reducible intro _) | (with_reducible refine Fw_clr ?_) | (with_reducible refine Fw_clL ?_) | (with_reducible refine Fw_li (fun _ => ?_)) | (with_reducible refine Fw_rf (fun _ => ?_)) | (with_reducible refine Fw_uf (fun _ => ?_)) | (with_reducible refine Fw_rd (fun _ => ?_)) | (with_reducible refine Fw_ud (fun _ => ?_)) | (with_reducible refine Fw_sr (fun _ => ?_)) | (with_reducible refine Fw_wf rfl ?_) | (with_reducible refine Fw_wd rfl ?_) | (with_reducible refine Fw_og ?_) | (with_reducible refine Fw_ite ?_ ?_) | (with_reducible refine Fw_oi (fun _ => ?_)) | (with_reducible refine Fw_ot ?_ (fun _ => ?_)) | (with_reducible refine Fw_cl ?_ (fun _ => ?_)))

theorem fw_lp_weighed_4 : ∀ (n : Nat) (v1 v2 v3 : Int32) (K0 : Int32 → Int32 → Int32 → PG (Int32)), (∀ (v1 v2 v3 : Int32), Fw kI kA (K0 v1 v2 v3)) → Fw kI kA (lp_weighed_4 n v1 v2 v3 K0) := by
  intro n
  induction n with
  | zero => intro v1 v2 v3 K0 hK0; exact Fw_no
  | succ n ih =>
    intro v1 v2 v3 K0 hK0
    unfold lp_weighed_4
    repeat (first | (with_reducible exact Fw_rt _) | (with_reducible intro _) | (with_reducible exact hK0 _ _ _) | (with_reducible exact ih _ _ _ _ hK0) | (with_reducible refine Fw_clr ?_) | (with_reducible refine Fw_clL ?_) | (with_reducible refine Fw_li (fun _ => ?_)) | (with_reducible refine Fw_rf (fun _ => ?_)) | (with_reducible refine Fw_uf (fun _ => ?_)) | (with_reducible refine Fw_rd (fun _ => ?_)) | (with_reducible refine Fw_ud (fun _ => ?_)) | (with_reducible refine Fw_sr (fun _ => ?_)) | (with_reducible refine Fw_wf rfl ?_) | (with_reducible refine Fw_wd rfl ?_) | (with_reducible refine Fw_og ?_) | (with_reducible refine Fw_ite ?_ ?_) | (with_reducible refine Fw_oi (fun _ => ?_)) | (with_reducible refine Fw_ot ?_ (fun _ => ?_)) | (with_reducible refine Fw_cl ?_ (fun _ => ?_)))

theorem fw_weighed (a0 : Int32) : Fw kI kA (f_weighed a0) := by
  unfold f_weighed
  repeat (first | (with_reducible exact Fw_rt _) | (with_reducible intro _) | (with_reducible refine fw_lp_weighed_4 _ _ _ _ _ ?_) | (with_reducible refine Fw_clr ?_) | (with_reducible refine Fw_clL ?_) | (with_reducible refine Fw_li (fun _ => ?_)) | (with_reducible refine Fw_rf (fun _ => ?_)) | (with_reducible refine Fw_uf (fun _ => ?_)) | (with_reducible refine Fw_rd (fun _ => ?_)) | (with_reducible refine Fw_ud (fun _ => ?_)) | (with_reducible refine Fw_sr (fun _ => ?_)) | (with_reducible refine Fw_wf rfl ?_) | (with_reducible refine Fw_wd rfl ?_) | (with_reducible refine Fw_og ?_) | (with_reducible refine Fw_ite ?_ ?_) | (with_reducible refine Fw_oi (fun _ => ?_)) | (with_reducible refine Fw_ot ?_ (fun _ => ?_)) | (with_reducible refine Fw_cl ?_ (fun _ => ?_)))

theorem fw_lp_makeRow_16 : ∀ (n : Nat) (v1 v2 v3 : Int32) (K0 : Int32 → Int32 → Int32 → PG (Int32)), (∀ (v1 v2 v3 : Int32), Fw kI kA (K0 v1 v2 v3)) → Fw kI kA (lp_makeRow_16 n v1 v2 v3 K0) := by
  intro n
  induction n with
  | zero => intro v1 v2 v3 K0 hK0; exact Fw_no
  | succ n ih =>
    intro v1 v2 v3 K0 hK0
    unfold lp_makeRow_16
    repeat (first | (with_reducible exact Fw_rt _) | (with_reducible intro _) | (with_reducible exact hK0 _ _ _) | (with_reducible exact ih _ _ _ _ hK0) | (with_reducible refine Fw_clr ?_) | (with_reducible refine Fw_clL ?_) | (with_reducible refine Fw_li (fun _ => ?_)) | (with_reducible refine Fw_rf (fun _ => ?_)) | (with_reducible refine Fw_uf (fun _ => ?_)) | (with_reducible refine Fw_rd (fun _ => ?_)) | (with_reducible refine Fw_ud (fun _ => ?_)) | (with_reducible refine Fw_sr (fun _ => ?_)) | (with_reducible refine Fw_wf rfl ?_) | (with_reducible refine Fw_wd rfl ?_) | (with_reducible refine Fw_og ?_) | (with_reducible refine Fw_ite ?_ ?_) | (with_reducible refine Fw_oi (fun _ => ?_)) | (with_reducible refine Fw_ot ?_ (fun _ => ?_)) | (with_reducible refine Fw_cl ?_ (fun _ => ?_)))

theorem fw_lp_makeRow_41 : ∀ (n : Nat) (v1 v2 v3 : Int32) (K0 : Int32 → Int32 → Int32 → PG (Int32)), (∀ (v1 v2 v3 : Int32), Fw kI kA (K0 v1 v2 v3)) → Fw kI kA (lp_makeRow_41 n v1 v2 v3 K0) := by
  intro n
  induction n with
  | zero => intro v1 v2 v3 K0 hK0; exact Fw_no
  | succ n ih =>
    intro v1 v2 v3 K0 hK0
    unfold lp_makeRow_41
    repeat (first | (with_reducible exact Fw_rt _) | (with_reducible intro _) | (with_reducible exact hK0 _ _ _) | (with_reducible exact ih _ _ _ _ hK0) | (with_reducible refine fw_lp_makeRow_16 _ _ _ _ _ ?_) | (with_reducible refine Fw_clr ?_) | (with_reducible refine Fw_clL ?_) | (with_reducible refine Fw_li (fun _ => ?_)) | (with_reducible refine Fw_rf (fun _ => ?_)) | (with_reducible refine Fw_uf (fun _ => ?_)) | (with_reducible refine Fw_rd (fun _ => ?_)) | (with_reducible refine Fw_ud (fun _ => ?_)) | (with_reducible refine Fw_sr (fun _ => ?_)) | (with_reducible refine Fw_wf rfl ?_) | (with_reducible refine Fw_wd rfl ?_) | (with_reducible refine Fw_og ?_) | (with_reducible refine Fw_ite ?_ ?_) | (with_reducible refine Fw_oi (fun _ => ?_)) | (with_reducible refine Fw_ot ?_ (fun _ => ?_)) | (with_reducible refine Fw_cl ?_ (fun _ => ?_)))

theorem fw_lp_makeRow_9 : ∀ (n : Nat) (v1 v2 : Int32) (K0 : Int32 → Int32 → PG (Int32)), (∀ (v1 v2 : Int32), Fw kI kA (K0 v1 v2)) → Fw kI kA (lp_makeRow_9 n v1 v2 K0) := by
  intro n
  induction n with
  | zero => intro v1 v2 K0 hK0; exact Fw_no
  | succ n ih =>
    intro v1 v2 K0 hK0
    unfold lp_makeRow_9
    repeat (first | (with_reducible exact Fw_rt _) | (with_reducible intro _) | (with_reducible exact hK0 _ _) | (with_reducible exact ih _ _ _ hK0) | (with_reducible refine fw_lp_makeRow_16 _ _ _ _ _ ?_) | (with_reducible refine fw_lp_makeRow_41 _ _ _ _ _ ?_) | (with_reducible refine Fw_clr ?_) | (with_reducible refine Fw_clL ?_) | (with_reducible refine Fw_li (fun _ => ?_)) | (with_reducible refine Fw_rf (fun _ => ?_)) | (with_reducible refine Fw_uf (fun _ => ?_)) | (with_reducible refine Fw_rd (fun _ => ?_)) | (with_reducible refine Fw_ud (fun _ => ?_)) | (with_reducible refine Fw_sr (fun _ => ?_)) | (with_reducible refine Fw_wf rfl ?_) | (with_reducible refine Fw_wd rfl ?_) | (with_reducible refine Fw_og ?_) | (with_reducible refine Fw_ite ?_ ?_) | (with_reducible refine Fw_oi (fun _ => ?_)) | (with_reducible refine Fw_ot ?_ (fun _ => ?_)) | (with_reducible refine Fw_cl ?_ (fun _ => ?_)))

theorem fw_makeRow (a0 : Int32) : Fw kI kA (f_makeRow a0) := by
  unfold f_makeRow
  repeat (first | (with_reducible exact Fw_rt _) | (with_reducible intro _) | (with_reducible refine fw_lp_makeRow_16 _ _ _ _ _ ?_) | (with_reducible refine fw_lp_makeRow_41 _ _ _ _ _ ?_) | (with_reducible refine fw_lp_makeRow_9 _ _ _ _ ?_) | (with_reducible refine Fw_clr ?_) | (with_reducible refine Fw_clL ?_) | (with_reducible refine Fw_li (fun _ => ?_)) | (with_reducible refine Fw_rf (fun _ => ?_)) | (with_reducible refine Fw_uf (fun _ => ?_)) | (with_reducible refine Fw_rd (fun _ => ?_)) | (with_reducible refine Fw_ud (fun _ => ?_)) | (with_reducible refine Fw_sr (fun _ => ?_)) | (with_reducible refine Fw_wf rfl ?_) | (with_reducible refine Fw_wd rfl ?_) | (with_reducible refine Fw_og ?_) | (with_reducible refine Fw_ite ?_ ?_) | (with_reducible refine Fw_oi (fun _ => ?_)) | (with_reducible refine Fw_ot ?_ (fun _ => ?_)) | (with_reducible refine Fw_cl ?_ (fun _ => ?_)))

theorem fw_isOther (a0 : Int32) (a1 : Int32) : Fw kI kA (f_isOther a0 a1) := by
  unfold f_isOther
  repeat (first | (with_reducible exact Fw_rt _) | (with_reducible intro _) | (with_reducible refine Fw_clr ?_) | (with_reducible refine Fw_clL ?_) | (with_reducible refine Fw_li (fun _ => ?_)) | (with_reducible refine Fw_rf (fun _ => ?_)) | (with_reducible refine Fw_uf (fun _ => ?_)) | (with_reducible refine Fw_rd (fun _ => ?_)) | (with_reducible refine Fw_ud (fun _ => ?_)) | (with_reducible refine Fw_sr (fun _ => ?_)) | (with_reducible refine Fw_wf rfl ?_) | (with_reducible refine Fw_wd rfl ?_) | (with_reducible refine Fw_og ?_) | (with_reducible refine Fw_ite ?_ ?_) | (with_reducible refine Fw_oi (fun _ => ?_)) | (with_reducible refine Fw_ot ?_ (fun _ => ?_)) | (with_reducible refine Fw_cl ?_ (fun _ => ?_)))

theorem fw_settle (a0 : Int32) (a1 : Int32) (a2 : Int32) : Fw kI kA (f_settle a0 a1 a2) := by
  unfold f_settle
  repeat (first | (with_reducible exact Fw_rt _) | (with_reducible intro _) | (with_reducible refine Fw_clr ?_) | (with_reducible refine Fw_clL ?_) | (with_reducible refine Fw_li (fun _ => ?_)) | (with_reducible refine Fw_rf (fun _ => ?_)) | (with_reducible refine Fw_uf (fun _ => ?_)) | (with_reducible refine Fw_rd (fun _ => ?_)) | (with_reducible refine Fw_ud (fun _ => ?_)) | (with_reducible refine Fw_sr (fun _ => ?_)) | (with_reducible refine Fw_wf rfl ?_) | (with_reducible refine Fw_wd rfl ?_) | (with_reducible refine Fw_og ?_) | (with_reducible refine Fw_ite ?_ ?_) | (with_reducible refine Fw_oi (fun _ => ?_)) | (with_reducible refine Fw_ot ?_ (fun _ => ?_)) | (with_reducible refine Fw_cl ?_ (fun _ => ?_)))

theorem fw_lp_bestPlace_87 : ∀ (n : Nat) (v1 v2 v3 v4 v5 v6 v7 v8 v9 v10 v11 : Int32) (K0 : Int32 → Int32 → Int32 → Int32 → Int32 → Int32 → Int32 → Int32 → Int32 → Int32 → Int32 → PG (Int32)), (∀ (v1 v2 v3 v4 v5 v6 v7 v8 v9 v10 v11 : Int32), Fw kI kA (K0 v1 v2 v3 v4 v5 v6 v7 v8 v9 v10 v11)) → Fw kI kA (lp_bestPlace_87 n v1 v2 v3 v4 v5 v6 v7 v8 v9 v10 v11 K0) := by
  intro n
  induction n with
  | zero => intro v1 v2 v3 v4 v5 v6 v7 v8 v9 v10 v11 K0 hK0; exact Fw_no
  | succ n ih =>
    intro v1 v2 v3 v4 v5 v6 v7 v8 v9 v10 v11 K0 hK0
    unfold lp_bestPlace_87
    repeat (first | (with_reducible exact Fw_rt _) | (with_reducible intro _) | (with_reducible exact hK0 _ _ _ _ _ _ _ _ _ _ _) | (with_reducible exact ih _ _ _ _ _ _ _ _ _ _ _ _ hK0) | (with_reducible refine Fw_clr ?_) | (with_reducible refine Fw_clL ?_) | (with_reducible refine Fw_li (fun _ => ?_)) | (with_reducible refine Fw_rf (fun _ => ?_)) | (with_reducible refine Fw_uf (fun _ => ?_)) | (with_reducible refine Fw_rd (fun _ => ?_)) | (with_reducible refine Fw_ud (fun _ => ?_)) | (with_reducible refine Fw_sr (fun _ => ?_)) | (with_reducible refine Fw_wf rfl ?_) | (with_reducible refine Fw_wd rfl ?_) | (with_reducible refine Fw_og ?_) | (with_reducible refine Fw_ite ?_ ?_) | (with_reducible refine Fw_oi (fun _ => ?_)) | (with_reducible refine Fw_ot ?_ (fun _ => ?_)) | (with_reducible refine Fw_cl ?_ (fun _ => ?_)))

theorem fw_lp_bestPlace_44 : ∀ (n : Nat) (v1 v2 v3 v4 v5 v6 v7 v8 v9 : Int32) (K0 : Int32 → Int32 → Int32 → Int32 → Int32 → Int32 → Int32 → Int32 → Int32 → PG (Int32)), (∀ (v1 v2 v3 v4 v5 v6 v7 v8 v9 : Int32), Fw kI kA (K0 v1 v2 v3 v4 v5 v6 v7 v8 v9)) → Fw kI kA (lp_bestPlace_44 n v1 v2 v3 v4 v5 v6 v7 v8 v9 K0) := by
  intro n
  induction n with
  | zero => intro v1 v2 v3 v4 v5 v6 v7 v8 v9 K0 hK0; exact Fw_no
  | succ n ih =>
    intro v1 v2 v3 v4 v5 v6 v7 v8 v9 K0 hK0
    unfold lp_bestPlace_44
    repeat (first | (with_reducible exact Fw_rt _) | (with_reducible intro _) | (with_reducible exact hK0 _ _ _ _ _ _ _ _ _) | (with_reducible exact ih _ _ _ _ _ _ _ _ _ _ hK0) | (with_reducible refine fw_lp_bestPlace_87 _ _ _ _ _ _ _ _ _ _ _ _ _ ?_) | (with_reducible refine Fw_clr ?_) | (with_reducible refine Fw_clL ?_) | (with_reducible refine Fw_li (fun _ => ?_)) | (with_reducible refine Fw_rf (fun _ => ?_)) | (with_reducible refine Fw_uf (fun _ => ?_)) | (with_reducible refine Fw_rd (fun _ => ?_)) | (with_reducible refine Fw_ud (fun _ => ?_)) | (with_reducible refine Fw_sr (fun _ => ?_)) | (with_reducible refine Fw_wf rfl ?_) | (with_reducible refine Fw_wd rfl ?_) | (with_reducible refine Fw_og ?_) | (with_reducible refine Fw_ite ?_ ?_) | (with_reducible refine Fw_oi (fun _ => ?_)) | (with_reducible refine Fw_ot ?_ (fun _ => ?_)) | (with_reducible refine Fw_cl ?_ (fun _ => ?_)))

theorem fw_lp_bestPlace_9 : ∀ (n : Nat) (v1 v2 v3 v4 v5 v6 : Int32) (K0 : Int32 → Int32 → Int32 → Int32 → Int32 → Int32 → PG (Int32)), (∀ (v1 v2 v3 v4 v5 v6 : Int32), Fw kI kA (K0 v1 v2 v3 v4 v5 v6)) → Fw kI kA (lp_bestPlace_9 n v1 v2 v3 v4 v5 v6 K0) := by
  intro n
  induction n with
  | zero => intro v1 v2 v3 v4 v5 v6 K0 hK0; exact Fw_no
  | succ n ih =>
    intro v1 v2 v3 v4 v5 v6 K0 hK0
    unfold lp_bestPlace_9
    repeat (first | (with_reducible exact Fw_rt _) | (with_reducible intro _) | (with_reducible exact hK0 _ _ _ _ _ _) | (with_reducible exact ih _ _ _ _ _ _ _ hK0) | (with_reducible refine fw_lp_bestPlace_87 _ _ _ _ _ _ _ _ _ _ _ _ _ ?_) | (with_reducible refine fw_lp_bestPlace_44 _ _ _ _ _ _ _ _ _ _ _ ?_) | (with_reducible refine Fw_clr ?_) | (with_reducible refine Fw_clL ?_) | (with_reducible refine Fw_li (fun _ => ?_)) | (with_reducible refine Fw_rf (fun _ => ?_)) | (with_reducible refine Fw_uf (fun _ => ?_)) | (with_reducible refine Fw_rd (fun _ => ?_)) | (with_reducible refine Fw_ud (fun _ => ?_)) | (with_reducible refine Fw_sr (fun _ => ?_)) | (with_reducible refine Fw_wf rfl ?_) | (with_reducible refine Fw_wd rfl ?_) | (with_reducible refine Fw_og ?_) | (with_reducible refine Fw_ite ?_ ?_) | (with_reducible refine Fw_oi (fun _ => ?_)) | (with_reducible refine Fw_ot ?_ (fun _ => ?_)) | (with_reducible refine Fw_cl ?_ (fun _ => ?_)))

theorem fw_bestPlace (a0 : Int32) (a1 : Int32) (a2 : Int32) : Fw kI kA (f_bestPlace a0 a1 a2) := by
  unfold f_bestPlace
  repeat (first | (with_reducible exact Fw_rt _) | (with_reducible intro _) | (with_reducible refine fw_lp_bestPlace_87 _ _ _ _ _ _ _ _ _ _ _ _ _ ?_) | (with_reducible refine fw_lp_bestPlace_44 _ _ _ _ _ _ _ _ _ _ _ ?_) | (with_reducible refine fw_lp_bestPlace_9 _ _ _ _ _ _ _ _ ?_) | (with_reducible refine Fw_clr ?_) | (with_reducible refine Fw_clL ?_) | (with_reducible refine Fw_li (fun _ => ?_)) | (with_reducible refine Fw_rf (fun _ => ?_)) | (with_reducible refine Fw_uf (fun _ => ?_)) | (with_reducible refine Fw_rd (fun _ => ?_)) | (with_reducible refine Fw_ud (fun _ => ?_)) | (with_reducible refine Fw_sr (fun _ => ?_)) | (with_reducible refine Fw_wf rfl ?_) | (with_reducible refine Fw_wd rfl ?_) | (with_reducible refine Fw_og ?_) | (with_reducible refine Fw_ite ?_ ?_) | (with_reducible refine Fw_oi (fun _ => ?_)) | (with_reducible refine Fw_ot ?_ (fun _ => ?_)) | (with_reducible refine Fw_cl ?_ (fun _ => ?_)))

theorem fw_lp_draws_150 : ∀ (n : Nat) (v1 v2 v3 : Int32) (K0 : Int32 → Int32 → Int32 → PG (Int32)), (∀ (v1 v2 v3 : Int32), Fw kI kA (K0 v1 v2 v3)) → Fw kI kA (lp_draws_150 n v1 v2 v3 K0) := by
  intro n
  induction n with
  | zero => intro v1 v2 v3 K0 hK0; exact Fw_no
  | succ n ih =>
    intro v1 v2 v3 K0 hK0
    unfold lp_draws_150
    repeat (first | (with_reducible exact Fw_rt _) | (with_reducible intro _) | (with_reducible exact hK0 _ _ _) | (with_reducible exact ih _ _ _ _ hK0) | (with_reducible exact (fw_bestPlace _ _ _)) | (with_reducible exact (fw_fights _)) | (with_reducible exact (fw_isOther _ _)) | (with_reducible exact (fw_makeRow _)) | (with_reducible exact (fw_settle _ _ _)) | (with_reducible exact (fw_weighed _)) | (with_reducible refine Fw_clr ?_) | (with_reducible refine Fw_clL ?_) | (with_reducible refine Fw_li (fun _ => ?_)) | (with_reducible refine Fw_rf (fun _ => ?_)) | (with_reducible refine Fw_uf (fun _ => ?_)) | (with_reducible refine Fw_rd (fun _ => ?_)) | (with_reducible refine Fw_ud (fun _ => ?_)) | (with_reducible refine Fw_sr (fun _ => ?_)) | (with_reducible refine Fw_wf rfl ?_) | (with_reducible refine Fw_wd rfl ?_) | (with_reducible refine Fw_og ?_) | (with_reducible refine Fw_ite ?_ ?_) | (with_reducible refine Fw_oi (fun _ => ?_)) | (with_reducible refine Fw_ot ?_ (fun _ => ?_)) | (with_reducible refine Fw_cl ?_ (fun _ => ?_)))

theorem fw_lp_draws_187 : ∀ (n : Nat) (v1 v2 v3 : Int32) (K0 : Int32 → Int32 → Int32 → PG (Int32)), (∀ (v1 v2 v3 : Int32), Fw kI kA (K0 v1 v2 v3)) → Fw kI kA (lp_draws_187 n v1 v2 v3 K0) := by
  intro n
  induction n with
  | zero => intro v1 v2 v3 K0 hK0; exact Fw_no
  | succ n ih =>
    intro v1 v2 v3 K0 hK0
    unfold lp_draws_187
    repeat (first | (with_reducible exact Fw_rt _) | (with_reducible intro _) | (with_reducible exact hK0 _ _ _) | (with_reducible exact ih _ _ _ _ hK0) | (with_reducible refine fw_lp_draws_150 _ _ _ _ _ ?_) | (with_reducible exact (fw_bestPlace _ _ _)) | (with_reducible exact (fw_fights _)) | (with_reducible exact (fw_isOther _ _)) | (with_reducible exact (fw_makeRow _)) | (with_reducible exact (fw_settle _ _ _)) | (with_reducible exact (fw_weighed _)) | (with_reducible refine Fw_clr ?_) | (with_reducible refine Fw_clL ?_) | (with_reducible refine Fw_li (fun _ => ?_)) | (with_reducible refine Fw_rf (fun _ => ?_)) | (with_reducible refine Fw_uf (fun _ => ?_)) | (with_reducible refine Fw_rd (fun _ => ?_)) | (with_reducible refine Fw_ud (fun _ => ?_)) | (with_reducible refine Fw_sr (fun _ => ?_)) | (with_reducible refine Fw_wf rfl ?_) | (with_reducible refine Fw_wd rfl ?_) | (with_reducible refine Fw_og ?_) | (with_reducible refine Fw_ite ?_ ?_) | (with_reducible refine Fw_oi (fun _ => ?_)) | (with_reducible refine Fw_ot ?_ (fun _ => ?_)) | (with_reducible refine Fw_cl ?_ (fun _ => ?_)))

theorem fw_lp_draws_230 : ∀ (n : Nat) (v1 v2 v3 v4 v5 : Int32) (K0 : Int32 → Int32 → Int32 → Int32 → Int32 → PG (Int32)), (∀ (v1 v2 v3 v4 v5 : Int32), Fw kI kA (K0 v1 v2 v3 v4 v5)) → Fw kI kA (lp_draws_230 n v1 v2 v3 v4 v5 K0) := by
  intro n
  induction n with
  | zero => intro v1 v2 v3 v4 v5 K0 hK0; exact Fw_no
  | succ n ih =>
    intro v1 v2 v3 v4 v5 K0 hK0
    unfold lp_draws_230
    repeat (first | (with_reducible exact Fw_rt _) | (with_reducible intro _) | (with_reducible exact hK0 _ _ _ _ _) | (with_reducible exact ih _ _ _ _ _ _ hK0) | (with_reducible refine fw_lp_draws_150 _ _ _ _ _ ?_) | (with_reducible refine fw_lp_draws_187 _ _ _ _ _ ?_) | (with_reducible exact (fw_bestPlace _ _ _)) | (with_reducible exact (fw_fights _)) | (with_reducible exact (fw_isOther _ _)) | (with_reducible exact (fw_makeRow _)) | (with_reducible exact (fw_settle _ _ _)) | (with_reducible exact (fw_weighed _)) | (with_reducible refine Fw_clr ?_) | (with_reducible refine Fw_clL ?_) | (with_reducible refine Fw_li (fun _ => ?_)) | (with_reducible refine Fw_rf (fun _ => ?_)) | (with_reducible refine Fw_uf (fun _ => ?_)) | (with_reducible refine Fw_rd (fun _ => ?_)) | (with_reducible refine Fw_ud (fun _ => ?_)) | (with_reducible refine Fw_sr (fun _ => ?_)) | (with_reducible refine Fw_wf rfl ?_) | (with_reducible refine Fw_wd rfl ?_) | (with_reducible refine Fw_og ?_) | (with_reducible refine Fw_ite ?_ ?_) | (with_reducible refine Fw_oi (fun _ => ?_)) | (with_reducible refine Fw_ot ?_ (fun _ => ?_)) | (with_reducible refine Fw_cl ?_ (fun _ => ?_)))

theorem fw_lp_draws_220 : ∀ (n : Nat) (v1 v2 v3 v4 : Int32) (K0 : Int32 → Int32 → Int32 → Int32 → PG (Int32)), (∀ (v1 v2 v3 v4 : Int32), Fw kI kA (K0 v1 v2 v3 v4)) → Fw kI kA (lp_draws_220 n v1 v2 v3 v4 K0) := by
  intro n
  induction n with
  | zero => intro v1 v2 v3 v4 K0 hK0; exact Fw_no
  | succ n ih =>
    intro v1 v2 v3 v4 K0 hK0
    unfold lp_draws_220
    repeat (first | (with_reducible exact Fw_rt _) | (with_reducible intro _) | (with_reducible exact hK0 _ _ _ _) | (with_reducible exact ih _ _ _ _ _ hK0) | (with_reducible refine fw_lp_draws_150 _ _ _ _ _ ?_) | (with_reducible refine fw_lp_draws_187 _ _ _ _ _ ?_) | (with_reducible refine fw_lp_draws_230 _ _ _ _ _ _ _ ?_) | (with_reducible exact (fw_bestPlace _ _ _)) | (with_reducible exact (fw_fights _)) | (with_reducible exact (fw_isOther _ _)) | (with_reducible exact (fw_makeRow _)) | (with_reducible exact (fw_settle _ _ _)) | (with_reducible exact (fw_weighed _)) | (with_reducible refine Fw_clr ?_) | (with_reducible refine Fw_clL ?_) | (with_reducible refine Fw_li (fun _ => ?_)) | (with_reducible refine Fw_rf (fun _ => ?_)) | (with_reducible refine Fw_uf (fun _ => ?_)) | (with_reducible refine Fw_rd (fun _ => ?_)) | (with_reducible refine Fw_ud (fun _ => ?_)) | (with_reducible refine Fw_sr (fun _ => ?_)) | (with_reducible refine Fw_wf rfl ?_) | (with_reducible refine Fw_wd rfl ?_) | (with_reducible refine Fw_og ?_) | (with_reducible refine Fw_ite ?_ ?_) | (with_reducible refine Fw_oi (fun _ => ?_)) | (with_reducible refine Fw_ot ?_ (fun _ => ?_)) | (with_reducible refine Fw_cl ?_ (fun _ => ?_)))

theorem fw_lp_draws_307 : ∀ (n : Nat) (v1 v2 v3 v4 : Int32) (K0 : Int32 → Int32 → Int32 → Int32 → PG (Int32)), (∀ (v1 v2 v3 v4 : Int32), Fw kI kA (K0 v1 v2 v3 v4)) → Fw kI kA (lp_draws_307 n v1 v2 v3 v4 K0) := by
  intro n
  induction n with
  | zero => intro v1 v2 v3 v4 K0 hK0; exact Fw_no
  | succ n ih =>
    intro v1 v2 v3 v4 K0 hK0
    unfold lp_draws_307
    repeat (first | (with_reducible exact Fw_rt _) | (with_reducible intro _) | (with_reducible exact hK0 _ _ _ _) | (with_reducible exact ih _ _ _ _ _ hK0) | (with_reducible refine fw_lp_draws_150 _ _ _ _ _ ?_) | (with_reducible refine fw_lp_draws_187 _ _ _ _ _ ?_) | (with_reducible refine fw_lp_draws_230 _ _ _ _ _ _ _ ?_) | (with_reducible refine fw_lp_draws_220 _ _ _ _ _ _ ?_) | (with_reducible exact (fw_bestPlace _ _ _)) | (with_reducible exact (fw_fights _)) | (with_reducible exact (fw_isOther _ _)) | (with_reducible exact (fw_makeRow _)) | (with_reducible exact (fw_settle _ _ _)) | (with_reducible exact (fw_weighed _)) | (with_reducible refine Fw_clr ?_) | (with_reducible refine Fw_clL ?_) | (with_reducible refine Fw_li (fun _ => ?_)) | (with_reducible refine Fw_rf (fun _ => ?_)) | (with_reducible refine Fw_uf (fun _ => ?_)) | (with_reducible refine Fw_rd (fun _ => ?_)) | (with_reducible refine Fw_ud (fun _ => ?_)) | (with_reducible refine Fw_sr (fun _ => ?_)) | (with_reducible refine Fw_wf rfl ?_) | (with_reducible refine Fw_wd rfl ?_) | (with_reducible refine Fw_og ?_) | (with_reducible refine Fw_ite ?_ ?_) | (with_reducible refine Fw_oi (fun _ => ?_)) | (with_reducible refine Fw_ot ?_ (fun _ => ?_)) | (with_reducible refine Fw_cl ?_ (fun _ => ?_)))

theorem fw_lp_draws_331 : ∀ (n : Nat) (v1 v2 v3 v4 : Int32) (K0 : Int32 → Int32 → Int32 → Int32 → PG (Int32)), (∀ (v1 v2 v3 v4 : Int32), Fw kI kA (K0 v1 v2 v3 v4)) → Fw kI kA (lp_draws_331 n v1 v2 v3 v4 K0) := by
  intro n
  induction n with
  | zero => intro v1 v2 v3 v4 K0 hK0; exact Fw_no
  | succ n ih =>
    intro v1 v2 v3 v4 K0 hK0
    unfold lp_draws_331
    repeat (first | (with_reducible exact Fw_rt _) | (with_reducible intro _) | (with_reducible exact hK0 _ _ _ _) | (with_reducible exact ih _ _ _ _ _ hK0) | (with_reducible refine fw_lp_draws_150 _ _ _ _ _ ?_) | (with_reducible refine fw_lp_draws_187 _ _ _ _ _ ?_) | (with_reducible refine fw_lp_draws_230 _ _ _ _ _ _ _ ?_) | (with_reducible refine fw_lp_draws_220 _ _ _ _ _ _ ?_) | (with_reducible refine fw_lp_draws_307 _ _ _ _ _ _ ?_) | (with_reducible exact (fw_bestPlace _ _ _)) | (with_reducible exact (fw_fights _)) | (with_reducible exact (fw_isOther _ _)) | (with_reducible exact (fw_makeRow _)) | (with_reducible exact (fw_settle _ _ _)) | (with_reducible exact (fw_weighed _)) | (with_reducible refine Fw_clr ?_) | (with_reducible refine Fw_clL ?_) | (with_reducible refine Fw_li (fun _ => ?_)) | (with_reducible refine Fw_rf (fun _ => ?_)) | (with_reducible refine Fw_uf (fun _ => ?_)) | (with_reducible refine Fw_rd (fun _ => ?_)) | (with_reducible refine Fw_ud (fun _ => ?_)) | (with_reducible refine Fw_sr (fun _ => ?_)) | (with_reducible refine Fw_wf rfl ?_) | (with_reducible refine Fw_wd rfl ?_) | (with_reducible refine Fw_og ?_) | (with_reducible refine Fw_ite ?_ ?_) | (with_reducible refine Fw_oi (fun _ => ?_)) | (with_reducible refine Fw_ot ?_ (fun _ => ?_)) | (with_reducible refine Fw_cl ?_ (fun _ => ?_)))

theorem fw_lp_draws_388 : ∀ (n : Nat) (v1 v2 v3 v4 v5 v6 : Int32) (K0 : Int32 → Int32 → Int32 → Int32 → Int32 → Int32 → PG (Int32)), (∀ (v1 v2 v3 v4 v5 v6 : Int32), Fw kI kA (K0 v1 v2 v3 v4 v5 v6)) → Fw kI kA (lp_draws_388 n v1 v2 v3 v4 v5 v6 K0) := by
  intro n
  induction n with
  | zero => intro v1 v2 v3 v4 v5 v6 K0 hK0; exact Fw_no
  | succ n ih =>
    intro v1 v2 v3 v4 v5 v6 K0 hK0
    unfold lp_draws_388
    repeat (first | (with_reducible exact Fw_rt _) | (with_reducible intro _) | (with_reducible exact hK0 _ _ _ _ _ _) | (with_reducible exact ih _ _ _ _ _ _ _ hK0) | (with_reducible refine fw_lp_draws_150 _ _ _ _ _ ?_) | (with_reducible refine fw_lp_draws_187 _ _ _ _ _ ?_) | (with_reducible refine fw_lp_draws_230 _ _ _ _ _ _ _ ?_) | (with_reducible refine fw_lp_draws_220 _ _ _ _ _ _ ?_) | (with_reducible refine fw_lp_draws_307 _ _ _ _ _ _ ?_) | (with_reducible refine fw_lp_draws_331 _ _ _ _ _ _ ?_) | (with_reducible exact (fw_bestPlace _ _ _)) | (with_reducible exact (fw_fights _)) | (with_reducible exact (fw_isOther _ _)) | (with_reducible exact (fw_makeRow _)) | (with_reducible exact (fw_settle _ _ _)) | (with_reducible exact (fw_weighed _)) | (with_reducible refine Fw_clr ?_) | (with_reducible refine Fw_clL ?_) | (with_reducible refine Fw_li (fun _ => ?_)) | (with_reducible refine Fw_rf (fun _ => ?_)) | (with_reducible refine Fw_uf (fun _ => ?_)) | (with_reducible refine Fw_rd (fun _ => ?_)) | (with_reducible refine Fw_ud (fun _ => ?_)) | (with_reducible refine Fw_sr (fun _ => ?_)) | (with_reducible refine Fw_wf rfl ?_) | (with_reducible refine Fw_wd rfl ?_) | (with_reducible refine Fw_og ?_) | (with_reducible refine Fw_ite ?_ ?_) | (with_reducible refine Fw_oi (fun _ => ?_)) | (with_reducible refine Fw_ot ?_ (fun _ => ?_)) | (with_reducible refine Fw_cl ?_ (fun _ => ?_)))

theorem fw_lp_draws_425 : ∀ (n : Nat) (v1 v2 v3 v4 v5 v6 : Int32) (K0 : Int32 → Int32 → Int32 → Int32 → Int32 → Int32 → PG (Int32)), (∀ (v1 v2 v3 v4 v5 v6 : Int32), Fw kI kA (K0 v1 v2 v3 v4 v5 v6)) → Fw kI kA (lp_draws_425 n v1 v2 v3 v4 v5 v6 K0) := by
  intro n
  induction n with
  | zero => intro v1 v2 v3 v4 v5 v6 K0 hK0; exact Fw_no
  | succ n ih =>
    intro v1 v2 v3 v4 v5 v6 K0 hK0
    unfold lp_draws_425
    repeat (first | (with_reducible exact Fw_rt _) | (with_reducible intro _) | (with_reducible exact hK0 _ _ _ _ _ _) | (with_reducible exact ih _ _ _ _ _ _ _ hK0) | (with_reducible refine fw_lp_draws_150 _ _ _ _ _ ?_) | (with_reducible refine fw_lp_draws_187 _ _ _ _ _ ?_) | (with_reducible refine fw_lp_draws_230 _ _ _ _ _ _ _ ?_) | (with_reducible refine fw_lp_draws_220 _ _ _ _ _ _ ?_) | (with_reducible refine fw_lp_draws_307 _ _ _ _ _ _ ?_) | (with_reducible refine fw_lp_draws_331 _ _ _ _ _ _ ?_) | (with_reducible refine fw_lp_draws_388 _ _ _ _ _ _ _ _ ?_) | (with_reducible exact (fw_bestPlace _ _ _)) | (with_reducible exact (fw_fights _)) | (with_reducible exact (fw_isOther _ _)) | (with_reducible exact (fw_makeRow _)) | (with_reducible exact (fw_settle _ _ _)) | (with_reducible exact (fw_weighed _)) | (with_reducible refine Fw_clr ?_) | (with_reducible refine Fw_clL ?_) | (with_reducible refine Fw_li (fun _ => ?_)) | (with_reducible refine Fw_rf (fun _ => ?_)) | (with_reducible refine Fw_uf (fun _ => ?_)) | (with_reducible refine Fw_rd (fun _ => ?_)) | (with_reducible refine Fw_ud (fun _ => ?_)) | (with_reducible refine Fw_sr (fun _ => ?_)) | (with_reducible refine Fw_wf rfl ?_) | (with_reducible refine Fw_wd rfl ?_) | (with_reducible refine Fw_og ?_) | (with_reducible refine Fw_ite ?_ ?_) | (with_reducible refine Fw_oi (fun _ => ?_)) | (with_reducible refine Fw_ot ?_ (fun _ => ?_)) | (with_reducible refine Fw_cl ?_ (fun _ => ?_)))

theorem fw_lp_draws_375 : ∀ (n : Nat) (v1 v2 v3 v4 : Int32) (K0 : Int32 → Int32 → Int32 → Int32 → PG (Int32)), (∀ (v1 v2 v3 v4 : Int32), Fw kI kA (K0 v1 v2 v3 v4)) → Fw kI kA (lp_draws_375 n v1 v2 v3 v4 K0) := by
  intro n
  induction n with
  | zero => intro v1 v2 v3 v4 K0 hK0; exact Fw_no
  | succ n ih =>
    intro v1 v2 v3 v4 K0 hK0
    unfold lp_draws_375
    repeat (first | (with_reducible exact Fw_rt _) | (with_reducible intro _) | (with_reducible exact hK0 _ _ _ _) | (with_reducible exact ih _ _ _ _ _ hK0) | (with_reducible refine fw_lp_draws_150 _ _ _ _ _ ?_) | (with_reducible refine fw_lp_draws_187 _ _ _ _ _ ?_) | (with_reducible refine fw_lp_draws_230 _ _ _ _ _ _ _ ?_) | (with_reducible refine fw_lp_draws_220 _ _ _ _ _ _ ?_) | (with_reducible refine fw_lp_draws_307 _ _ _ _ _ _ ?_) | (with_reducible refine fw_lp_draws_331 _ _ _ _ _ _ ?_) | (with_reducible refine fw_lp_draws_388 _ _ _ _ _ _ _ _ ?_) | (with_reducible refine fw_lp_draws_425 _ _ _ _ _ _ _ _ ?_) | (with_reducible exact (fw_bestPlace _ _ _)) | (with_reducible exact (fw_fights _)) | (with_reducible exact (fw_isOther _ _)) | (with_reducible exact (fw_makeRow _)) | (with_reducible exact (fw_settle _ _ _)) | (with_reducible exact (fw_weighed _)) | (with_reducible refine Fw_clr ?_) | (with_reducible refine Fw_clL ?_) | (with_reducible refine Fw_li (fun _ => ?_)) | (with_reducible refine Fw_rf (fun _ => ?_)) | (with_reducible refine Fw_uf (fun _ => ?_)) | (with_reducible refine Fw_rd (fun _ => ?_)) | (with_reducible refine Fw_ud (fun _ => ?_)) | (with_reducible refine Fw_sr (fun _ => ?_)) | (with_reducible refine Fw_wf rfl ?_) | (with_reducible refine Fw_wd rfl ?_) | (with_reducible refine Fw_og ?_) | (with_reducible refine Fw_ite ?_ ?_) | (with_reducible refine Fw_oi (fun _ => ?_)) | (with_reducible refine Fw_ot ?_ (fun _ => ?_)) | (with_reducible refine Fw_cl ?_ (fun _ => ?_)))

theorem fw_lp_draws_31 : ∀ (n : Nat) (v1 v2 v3 v4 : Int32) (K0 : Int32 → Int32 → Int32 → Int32 → PG (Int32)), (∀ (v1 v2 v3 v4 : Int32), Fw kI kA (K0 v1 v2 v3 v4)) → Fw kI kA (lp_draws_31 n v1 v2 v3 v4 K0) := by
  intro n
  induction n with
  | zero => intro v1 v2 v3 v4 K0 hK0; exact Fw_no
  | succ n ih =>
    intro v1 v2 v3 v4 K0 hK0
    unfold lp_draws_31
    repeat (first | (with_reducible exact Fw_rt _) | (with_reducible intro _) | (with_reducible exact hK0 _ _ _ _) | (with_reducible exact ih _ _ _ _ _ hK0) | (with_reducible refine fw_lp_draws_150 _ _ _ _ _ ?_) | (with_reducible refine fw_lp_draws_187 _ _ _ _ _ ?_) | (with_reducible refine fw_lp_draws_230 _ _ _ _ _ _ _ ?_) | (with_reducible refine fw_lp_draws_220 _ _ _ _ _ _ ?_) | (with_reducible refine fw_lp_draws_307 _ _ _ _ _ _ ?_) | (with_reducible refine fw_lp_draws_331 _ _ _ _ _ _ ?_) | (with_reducible refine fw_lp_draws_388 _ _ _ _ _ _ _ _ ?_) | (with_reducible refine fw_lp_draws_425 _ _ _ _ _ _ _ _ ?_) | (with_reducible refine fw_lp_draws_375 _ _ _ _ _ _ ?_) | (with_reducible exact (fw_bestPlace _ _ _)) | (with_reducible exact (fw_fights _)) | (with_reducible exact (fw_isOther _ _)) | (with_reducible exact (fw_makeRow _)) | (with_reducible exact (fw_settle _ _ _)) | (with_reducible exact (fw_weighed _)) | (with_reducible refine Fw_clr ?_) | (with_reducible refine Fw_clL ?_) | (with_reducible refine Fw_li (fun _ => ?_)) | (with_reducible refine Fw_rf (fun _ => ?_)) | (with_reducible refine Fw_uf (fun _ => ?_)) | (with_reducible refine Fw_rd (fun _ => ?_)) | (with_reducible refine Fw_ud (fun _ => ?_)) | (with_reducible refine Fw_sr (fun _ => ?_)) | (with_reducible refine Fw_wf rfl ?_) | (with_reducible refine Fw_wd rfl ?_) | (with_reducible refine Fw_og ?_) | (with_reducible refine Fw_ite ?_ ?_) | (with_reducible refine Fw_oi (fun _ => ?_)) | (with_reducible refine Fw_ot ?_ (fun _ => ?_)) | (with_reducible refine Fw_cl ?_ (fun _ => ?_)))

theorem fw_draws (a0 : Int32) : Fw kI kA (f_draws a0) := by
  unfold f_draws
  repeat (first | (with_reducible exact Fw_rt _) | (with_reducible intro _) | (with_reducible refine fw_lp_draws_150 _ _ _ _ _ ?_) | (with_reducible refine fw_lp_draws_187 _ _ _ _ _ ?_) | (with_reducible refine fw_lp_draws_230 _ _ _ _ _ _ _ ?_) | (with_reducible refine fw_lp_draws_220 _ _ _ _ _ _ ?_) | (with_reducible refine fw_lp_draws_307 _ _ _ _ _ _ ?_) | (with_reducible refine fw_lp_draws_331 _ _ _ _ _ _ ?_) | (with_reducible refine fw_lp_draws_388 _ _ _ _ _ _ _ _ ?_) | (with_reducible refine fw_lp_draws_425 _ _ _ _ _ _ _ _ ?_) | (with_reducible refine fw_lp_draws_375 _ _ _ _ _ _ ?_) | (with_reducible refine fw_lp_draws_31 _ _ _ _ _ _ ?_) | (with_reducible exact (fw_bestPlace _ _ _)) | (with_reducible exact (fw_fights _)) | (with_reducible exact (fw_isOther _ _)) | (with_reducible exact (fw_makeRow _)) | (with_reducible exact (fw_settle _ _ _)) | (with_reducible exact (fw_weighed _)) | (with_reducible refine Fw_clr ?_) | (with_reducible refine Fw_clL ?_) | (with_reducible refine Fw_li (fun _ => ?_)) | (with_reducible refine Fw_rf (fun _ => ?_)) | (with_reducible refine Fw_uf (fun _ => ?_)) | (with_reducible refine Fw_rd (fun _ => ?_)) | (with_reducible refine Fw_ud (fun _ => ?_)) | (with_reducible refine Fw_sr (fun _ => ?_)) | (with_reducible refine Fw_wf rfl ?_) | (with_reducible refine Fw_wd rfl ?_) | (with_reducible refine Fw_og ?_) | (with_reducible refine Fw_ite ?_ ?_) | (with_reducible refine Fw_oi (fun _ => ?_)) | (with_reducible refine Fw_ot ?_ (fun _ => ?_)) | (with_reducible refine Fw_cl ?_ (fun _ => ?_)))

theorem fw_lp_matOf_2 : ∀ (n : Nat) (v1 v2 v3 : Int32) (K0 : Int32 → Int32 → Int32 → PG (Int32)), (∀ (v1 v2 v3 : Int32), Fw kI kA (K0 v1 v2 v3)) → Fw kI kA (lp_matOf_2 n v1 v2 v3 K0) := by
  intro n
  induction n with
  | zero => intro v1 v2 v3 K0 hK0; exact Fw_no
  | succ n ih =>
    intro v1 v2 v3 K0 hK0
    unfold lp_matOf_2
    repeat (first | (with_reducible exact Fw_rt _) | (with_reducible intro _) | (with_reducible exact hK0 _ _ _) | (with_reducible exact ih _ _ _ _ hK0) | (with_reducible refine Fw_clr ?_) | (with_reducible refine Fw_clL ?_) | (with_reducible refine Fw_li (fun _ => ?_)) | (with_reducible refine Fw_rf (fun _ => ?_)) | (with_reducible refine Fw_uf (fun _ => ?_)) | (with_reducible refine Fw_rd (fun _ => ?_)) | (with_reducible refine Fw_ud (fun _ => ?_)) | (with_reducible refine Fw_sr (fun _ => ?_)) | (with_reducible refine Fw_wf rfl ?_) | (with_reducible refine Fw_wd rfl ?_) | (with_reducible refine Fw_og ?_) | (with_reducible refine Fw_ite ?_ ?_) | (with_reducible refine Fw_oi (fun _ => ?_)) | (with_reducible refine Fw_ot ?_ (fun _ => ?_)) | (with_reducible refine Fw_cl ?_ (fun _ => ?_)))

theorem fw_matOf (a0 : Int32) (a1 : Int32) : Fw kI kA (f_matOf a0 a1) := by
  unfold f_matOf
  repeat (first | (with_reducible exact Fw_rt _) | (with_reducible intro _) | (with_reducible refine fw_lp_matOf_2 _ _ _ _ _ ?_) | (with_reducible refine Fw_clr ?_) | (with_reducible refine Fw_clL ?_) | (with_reducible refine Fw_li (fun _ => ?_)) | (with_reducible refine Fw_rf (fun _ => ?_)) | (with_reducible refine Fw_uf (fun _ => ?_)) | (with_reducible refine Fw_rd (fun _ => ?_)) | (with_reducible refine Fw_ud (fun _ => ?_)) | (with_reducible refine Fw_sr (fun _ => ?_)) | (with_reducible refine Fw_wf rfl ?_) | (with_reducible refine Fw_wd rfl ?_) | (with_reducible refine Fw_og ?_) | (with_reducible refine Fw_ite ?_ ?_) | (with_reducible refine Fw_oi (fun _ => ?_)) | (with_reducible refine Fw_ot ?_ (fun _ => ?_)) | (with_reducible refine Fw_cl ?_ (fun _ => ?_)))

theorem fw_isMat (a0 : Int32) : Fw kI kA (f_isMat a0) := by
  unfold f_isMat
  repeat (first | (with_reducible exact Fw_rt _) | (with_reducible intro _) | (with_reducible exact (fw_in _ _ _)) | (with_reducible refine Fw_clr ?_) | (with_reducible refine Fw_clL ?_) | (with_reducible refine Fw_li (fun _ => ?_)) | (with_reducible refine Fw_rf (fun _ => ?_)) | (with_reducible refine Fw_uf (fun _ => ?_)) | (with_reducible refine Fw_rd (fun _ => ?_)) | (with_reducible refine Fw_ud (fun _ => ?_)) | (with_reducible refine Fw_sr (fun _ => ?_)) | (with_reducible refine Fw_wf rfl ?_) | (with_reducible refine Fw_wd rfl ?_) | (with_reducible refine Fw_og ?_) | (with_reducible refine Fw_ite ?_ ?_) | (with_reducible refine Fw_oi (fun _ => ?_)) | (with_reducible refine Fw_ot ?_ (fun _ => ?_)) | (with_reducible refine Fw_cl ?_ (fun _ => ?_)))

theorem fw_lp_rests_36 : ∀ (n : Nat) (v1 v2 v3 : Int32) (K0 : Int32 → Int32 → Int32 → PG (Int32)), (∀ (v1 v2 v3 : Int32), Fw kI kA (K0 v1 v2 v3)) → Fw kI kA (lp_rests_36 n v1 v2 v3 K0) := by
  intro n
  induction n with
  | zero => intro v1 v2 v3 K0 hK0; exact Fw_no
  | succ n ih =>
    intro v1 v2 v3 K0 hK0
    unfold lp_rests_36
    repeat (first | (with_reducible exact Fw_rt _) | (with_reducible intro _) | (with_reducible exact hK0 _ _ _) | (with_reducible exact ih _ _ _ _ hK0) | (with_reducible refine Fw_clr ?_) | (with_reducible refine Fw_clL ?_) | (with_reducible refine Fw_li (fun _ => ?_)) | (with_reducible refine Fw_rf (fun _ => ?_)) | (with_reducible refine Fw_uf (fun _ => ?_)) | (with_reducible refine Fw_rd (fun _ => ?_)) | (with_reducible refine Fw_ud (fun _ => ?_)) | (with_reducible refine Fw_sr (fun _ => ?_)) | (with_reducible refine Fw_wf rfl ?_) | (with_reducible refine Fw_wd rfl ?_) | (with_reducible refine Fw_og ?_) | (with_reducible refine Fw_ite ?_ ?_) | (with_reducible refine Fw_oi (fun _ => ?_)) | (with_reducible refine Fw_ot ?_ (fun _ => ?_)) | (with_reducible refine Fw_cl ?_ (fun _ => ?_)))

theorem fw_rests (a0 : Int32) : Fw kI kA (f_rests a0) := by
  unfold f_rests
  repeat (first | (with_reducible exact Fw_rt _) | (with_reducible intro _) | (with_reducible refine fw_lp_rests_36 _ _ _ _ _ ?_) | (with_reducible refine Fw_clr ?_) | (with_reducible refine Fw_clL ?_) | (with_reducible refine Fw_li (fun _ => ?_)) | (with_reducible refine Fw_rf (fun _ => ?_)) | (with_reducible refine Fw_uf (fun _ => ?_)) | (with_reducible refine Fw_rd (fun _ => ?_)) | (with_reducible refine Fw_ud (fun _ => ?_)) | (with_reducible refine Fw_sr (fun _ => ?_)) | (with_reducible refine Fw_wf rfl ?_) | (with_reducible refine Fw_wd rfl ?_) | (with_reducible refine Fw_og ?_) | (with_reducible refine Fw_ite ?_ ?_) | (with_reducible refine Fw_oi (fun _ => ?_)) | (with_reducible refine Fw_ot ?_ (fun _ => ?_)) | (with_reducible refine Fw_cl ?_ (fun _ => ?_)))

theorem fw_goesOver (a0 : Int32) : Fw kI kA (f_goesOver a0) := by
  unfold f_goesOver
  repeat (first | (with_reducible exact Fw_rt _) | (with_reducible intro _) | (with_reducible refine Fw_clr ?_) | (with_reducible refine Fw_clL ?_) | (with_reducible refine Fw_li (fun _ => ?_)) | (with_reducible refine Fw_rf (fun _ => ?_)) | (with_reducible refine Fw_uf (fun _ => ?_)) | (with_reducible refine Fw_rd (fun _ => ?_)) | (with_reducible refine Fw_ud (fun _ => ?_)) | (with_reducible refine Fw_sr (fun _ => ?_)) | (with_reducible refine Fw_wf rfl ?_) | (with_reducible refine Fw_wd rfl ?_) | (with_reducible refine Fw_og ?_) | (with_reducible refine Fw_ite ?_ ?_) | (with_reducible refine Fw_oi (fun _ => ?_)) | (with_reducible refine Fw_ot ?_ (fun _ => ?_)) | (with_reducible refine Fw_cl ?_ (fun _ => ?_)))

theorem fw_lp_begins_79 : ∀ (n : Nat) (v1 v2 v3 v4 v5 : Int32) (K0 : Int32 → Int32 → Int32 → Int32 → Int32 → PG (Int32)), (∀ (v1 v2 v3 v4 v5 : Int32), Fw kI kA (K0 v1 v2 v3 v4 v5)) → Fw kI kA (lp_begins_79 n v1 v2 v3 v4 v5 K0) := by
  intro n
  induction n with
  | zero => intro v1 v2 v3 v4 v5 K0 hK0; exact Fw_no
  | succ n ih =>
    intro v1 v2 v3 v4 v5 K0 hK0
    unfold lp_begins_79
    repeat (first | (with_reducible exact Fw_rt _) | (with_reducible intro _) | (with_reducible exact hK0 _ _ _ _ _) | (with_reducible exact ih _ _ _ _ _ _ hK0) | (with_reducible exact (fw_fS _ _ _ _ _ _)) | (with_reducible exact (fw_goesOver _)) | (with_reducible refine Fw_clr ?_) | (with_reducible refine Fw_clL ?_) | (with_reducible refine Fw_li (fun _ => ?_)) | (with_reducible refine Fw_rf (fun _ => ?_)) | (with_reducible refine Fw_uf (fun _ => ?_)) | (with_reducible refine Fw_rd (fun _ => ?_)) | (with_reducible refine Fw_ud (fun _ => ?_)) | (with_reducible refine Fw_sr (fun _ => ?_)) | (with_reducible refine Fw_wf rfl ?_) | (with_reducible refine Fw_wd rfl ?_) | (with_reducible refine Fw_og ?_) | (with_reducible refine Fw_ite ?_ ?_) | (with_reducible refine Fw_oi (fun _ => ?_)) | (with_reducible refine Fw_ot ?_ (fun _ => ?_)) | (with_reducible refine Fw_cl ?_ (fun _ => ?_)))

theorem fw_begins (a0 : Int32) (a1 : Int32) (a2 : Int32) : Fw kI kA (f_begins a0 a1 a2) := by
  unfold f_begins
  repeat (first | (with_reducible exact Fw_rt _) | (with_reducible intro _) | (with_reducible refine fw_lp_begins_79 _ _ _ _ _ _ _ ?_) | (with_reducible exact (fw_fS _ _ _ _ _ _)) | (with_reducible exact (fw_goesOver _)) | (with_reducible refine Fw_clr ?_) | (with_reducible refine Fw_clL ?_) | (with_reducible refine Fw_li (fun _ => ?_)) | (with_reducible refine Fw_rf (fun _ => ?_)) | (with_reducible refine Fw_uf (fun _ => ?_)) | (with_reducible refine Fw_rd (fun _ => ?_)) | (with_reducible refine Fw_ud (fun _ => ?_)) | (with_reducible refine Fw_sr (fun _ => ?_)) | (with_reducible refine Fw_wf rfl ?_) | (with_reducible refine Fw_wd rfl ?_) | (with_reducible refine Fw_og ?_) | (with_reducible refine Fw_ite ?_ ?_) | (with_reducible refine Fw_oi (fun _ => ?_)) | (with_reducible refine Fw_ot ?_ (fun _ => ?_)) | (with_reducible refine Fw_cl ?_ (fun _ => ?_)))

theorem fw_ends (a0 : Int32) (a1 : Int32) (a2 : Int32) (a3 : Int32) : Fw kI kA (f_ends a0 a1 a2 a3) := by
  unfold f_ends
  repeat (first | (with_reducible exact Fw_rt _) | (with_reducible intro _) | (with_reducible refine Fw_clr ?_) | (with_reducible refine Fw_clL ?_) | (with_reducible refine Fw_li (fun _ => ?_)) | (with_reducible refine Fw_rf (fun _ => ?_)) | (with_reducible refine Fw_uf (fun _ => ?_)) | (with_reducible refine Fw_rd (fun _ => ?_)) | (with_reducible refine Fw_ud (fun _ => ?_)) | (with_reducible refine Fw_sr (fun _ => ?_)) | (with_reducible refine Fw_wf rfl ?_) | (with_reducible refine Fw_wd rfl ?_) | (with_reducible refine Fw_og ?_) | (with_reducible refine Fw_ite ?_ ?_) | (with_reducible refine Fw_oi (fun _ => ?_)) | (with_reducible refine Fw_ot ?_ (fun _ => ?_)) | (with_reducible refine Fw_cl ?_ (fun _ => ?_)))

theorem fw_lp_asked_13 : ∀ (n : Nat) (v1 v2 v3 v4 : Int32) (K0 : Int32 → Int32 → Int32 → Int32 → PG (Int32)), (∀ (v1 v2 v3 v4 : Int32), Fw kI kA (K0 v1 v2 v3 v4)) → Fw kI kA (lp_asked_13 n v1 v2 v3 v4 K0) := by
  intro n
  induction n with
  | zero => intro v1 v2 v3 v4 K0 hK0; exact Fw_no
  | succ n ih =>
    intro v1 v2 v3 v4 K0 hK0
    unfold lp_asked_13
    repeat (first | (with_reducible exact Fw_rt _) | (with_reducible intro _) | (with_reducible exact hK0 _ _ _ _) | (with_reducible exact ih _ _ _ _ _ hK0) | (with_reducible exact (fw_ends _ _ _ _)) | (with_reducible exact (fw_holds _ _ _ _)) | (with_reducible refine Fw_clr ?_) | (with_reducible refine Fw_clL ?_) | (with_reducible refine Fw_li (fun _ => ?_)) | (with_reducible refine Fw_rf (fun _ => ?_)) | (with_reducible refine Fw_uf (fun _ => ?_)) | (with_reducible refine Fw_rd (fun _ => ?_)) | (with_reducible refine Fw_ud (fun _ => ?_)) | (with_reducible refine Fw_sr (fun _ => ?_)) | (with_reducible refine Fw_wf rfl ?_) | (with_reducible refine Fw_wd rfl ?_) | (with_reducible refine Fw_og ?_) | (with_reducible refine Fw_ite ?_ ?_) | (with_reducible refine Fw_oi (fun _ => ?_)) | (with_reducible refine Fw_ot ?_ (fun _ => ?_)) | (with_reducible refine Fw_cl ?_ (fun _ => ?_)))

theorem fw_lp_asked_2 : ∀ (n : Nat) (v1 v2 v3 : Int32) (K0 : Int32 → Int32 → Int32 → PG (Int32)), (∀ (v1 v2 v3 : Int32), Fw kI kA (K0 v1 v2 v3)) → Fw kI kA (lp_asked_2 n v1 v2 v3 K0) := by
  intro n
  induction n with
  | zero => intro v1 v2 v3 K0 hK0; exact Fw_no
  | succ n ih =>
    intro v1 v2 v3 K0 hK0
    unfold lp_asked_2
    repeat (first | (with_reducible exact Fw_rt _) | (with_reducible intro _) | (with_reducible exact hK0 _ _ _) | (with_reducible exact ih _ _ _ _ hK0) | (with_reducible refine fw_lp_asked_13 _ _ _ _ _ _ ?_) | (with_reducible exact (fw_ends _ _ _ _)) | (with_reducible exact (fw_holds _ _ _ _)) | (with_reducible refine Fw_clr ?_) | (with_reducible refine Fw_clL ?_) | (with_reducible refine Fw_li (fun _ => ?_)) | (with_reducible refine Fw_rf (fun _ => ?_)) | (with_reducible refine Fw_uf (fun _ => ?_)) | (with_reducible refine Fw_rd (fun _ => ?_)) | (with_reducible refine Fw_ud (fun _ => ?_)) | (with_reducible refine Fw_sr (fun _ => ?_)) | (with_reducible refine Fw_wf rfl ?_) | (with_reducible refine Fw_wd rfl ?_) | (with_reducible refine Fw_og ?_) | (with_reducible refine Fw_ite ?_ ?_) | (with_reducible refine Fw_oi (fun _ => ?_)) | (with_reducible refine Fw_ot ?_ (fun _ => ?_)) | (with_reducible refine Fw_cl ?_ (fun _ => ?_)))

theorem fw_asked (a0 : Int32) (a1 : Int32) : Fw kI kA (f_asked a0 a1) := by
  unfold f_asked
  repeat (first | (with_reducible exact Fw_rt _) | (with_reducible intro _) | (with_reducible refine fw_lp_asked_13 _ _ _ _ _ _ ?_) | (with_reducible refine fw_lp_asked_2 _ _ _ _ _ ?_) | (with_reducible exact (fw_ends _ _ _ _)) | (with_reducible exact (fw_holds _ _ _ _)) | (with_reducible refine Fw_clr ?_) | (with_reducible refine Fw_clL ?_) | (with_reducible refine Fw_li (fun _ => ?_)) | (with_reducible refine Fw_rf (fun _ => ?_)) | (with_reducible refine Fw_uf (fun _ => ?_)) | (with_reducible refine Fw_rd (fun _ => ?_)) | (with_reducible refine Fw_ud (fun _ => ?_)) | (with_reducible refine Fw_sr (fun _ => ?_)) | (with_reducible refine Fw_wf rfl ?_) | (with_reducible refine Fw_wd rfl ?_) | (with_reducible refine Fw_og ?_) | (with_reducible refine Fw_ite ?_ ?_) | (with_reducible refine Fw_oi (fun _ => ?_)) | (with_reducible refine Fw_ot ?_ (fun _ => ?_)) | (with_reducible refine Fw_cl ?_ (fun _ => ?_)))

theorem fw_passes (a0 : Int32) (a1 : Int32) : Fw kI kA (f_passes a0 a1) := by
  unfold f_passes
  repeat (first | (with_reducible exact Fw_rt _) | (with_reducible intro _) | (with_reducible exact (fw_asked _ _)) | (with_reducible exact (fw_goesOver _)) | (with_reducible refine Fw_clr ?_) | (with_reducible refine Fw_clL ?_) | (with_reducible refine Fw_li (fun _ => ?_)) | (with_reducible refine Fw_rf (fun _ => ?_)) | (with_reducible refine Fw_uf (fun _ => ?_)) | (with_reducible refine Fw_rd (fun _ => ?_)) | (with_reducible refine Fw_ud (fun _ => ?_)) | (with_reducible refine Fw_sr (fun _ => ?_)) | (with_reducible refine Fw_wf rfl ?_) | (with_reducible refine Fw_wd rfl ?_) | (with_reducible refine Fw_og ?_) | (with_reducible refine Fw_ite ?_ ?_) | (with_reducible refine Fw_oi (fun _ => ?_)) | (with_reducible refine Fw_ot ?_ (fun _ => ?_)) | (with_reducible refine Fw_cl ?_ (fun _ => ?_)))

theorem fw_lp_struck_28 : ∀ (n : Nat) (v1 v2 v3 v4 v5 : Int32) (K0 : Int32 → Int32 → Int32 → Int32 → Int32 → PG (Int32)), (∀ (v1 v2 v3 v4 v5 : Int32), Fw kI kA (K0 v1 v2 v3 v4 v5)) → Fw kI kA (lp_struck_28 n v1 v2 v3 v4 v5 K0) := by
  intro n
  induction n with
  | zero => intro v1 v2 v3 v4 v5 K0 hK0; exact Fw_no
  | succ n ih =>
    intro v1 v2 v3 v4 v5 K0 hK0
    unfold lp_struck_28
    repeat (first | (with_reducible exact Fw_rt _) | (with_reducible intro _) | (with_reducible exact hK0 _ _ _ _ _) | (with_reducible exact ih _ _ _ _ _ _ hK0) | (with_reducible exact (fw_fS _ _ _ _ _ _)) | (with_reducible exact (fw_fights _)) | (with_reducible exact (fw_matOf _ _)) | (with_reducible refine Fw_clr ?_) | (with_reducible refine Fw_clL ?_) | (with_reducible refine Fw_li (fun _ => ?_)) | (with_reducible refine Fw_rf (fun _ => ?_)) | (with_reducible refine Fw_uf (fun _ => ?_)) | (with_reducible refine Fw_rd (fun _ => ?_)) | (with_reducible refine Fw_ud (fun _ => ?_)) | (with_reducible refine Fw_sr (fun _ => ?_)) | (with_reducible refine Fw_wf rfl ?_) | (with_reducible refine Fw_wd rfl ?_) | (with_reducible refine Fw_og ?_) | (with_reducible refine Fw_ite ?_ ?_) | (with_reducible refine Fw_oi (fun _ => ?_)) | (with_reducible refine Fw_ot ?_ (fun _ => ?_)) | (with_reducible refine Fw_cl ?_ (fun _ => ?_)))

theorem fw_lp_struck_17 : ∀ (n : Nat) (v1 v2 v3 v4 : Int32) (K0 : Int32 → Int32 → Int32 → Int32 → PG (Int32)), (∀ (v1 v2 v3 v4 : Int32), Fw kI kA (K0 v1 v2 v3 v4)) → Fw kI kA (lp_struck_17 n v1 v2 v3 v4 K0) := by
  intro n
  induction n with
  | zero => intro v1 v2 v3 v4 K0 hK0; exact Fw_no
  | succ n ih =>
    intro v1 v2 v3 v4 K0 hK0
    unfold lp_struck_17
    repeat (first | (with_reducible exact Fw_rt _) | (with_reducible intro _) | (with_reducible exact hK0 _ _ _ _) | (with_reducible exact ih _ _ _ _ _ hK0) | (with_reducible refine fw_lp_struck_28 _ _ _ _ _ _ _ ?_) | (with_reducible exact (fw_fS _ _ _ _ _ _)) | (with_reducible exact (fw_fights _)) | (with_reducible exact (fw_matOf _ _)) | (with_reducible refine Fw_clr ?_) | (with_reducible refine Fw_clL ?_) | (with_reducible refine Fw_li (fun _ => ?_)) | (with_reducible refine Fw_rf (fun _ => ?_)) | (with_reducible refine Fw_uf (fun _ => ?_)) | (with_reducible refine Fw_rd (fun _ => ?_)) | (with_reducible refine Fw_ud (fun _ => ?_)) | (with_reducible refine Fw_sr (fun _ => ?_)) | (with_reducible refine Fw_wf rfl ?_) | (with_reducible refine Fw_wd rfl ?_) | (with_reducible refine Fw_og ?_) | (with_reducible refine Fw_ite ?_ ?_) | (with_reducible refine Fw_oi (fun _ => ?_)) | (with_reducible refine Fw_ot ?_ (fun _ => ?_)) | (with_reducible refine Fw_cl ?_ (fun _ => ?_)))

theorem fw_struck (a0 : Int32) (a1 : Int32) : Fw kI kA (f_struck a0 a1) := by
  unfold f_struck
  repeat (first | (with_reducible exact Fw_rt _) | (with_reducible intro _) | (with_reducible refine fw_lp_struck_28 _ _ _ _ _ _ _ ?_) | (with_reducible refine fw_lp_struck_17 _ _ _ _ _ _ ?_) | (with_reducible exact (fw_fS _ _ _ _ _ _)) | (with_reducible exact (fw_fights _)) | (with_reducible exact (fw_matOf _ _)) | (with_reducible refine Fw_clr ?_) | (with_reducible refine Fw_clL ?_) | (with_reducible refine Fw_li (fun _ => ?_)) | (with_reducible refine Fw_rf (fun _ => ?_)) | (with_reducible refine Fw_uf (fun _ => ?_)) | (with_reducible refine Fw_rd (fun _ => ?_)) | (with_reducible refine Fw_ud (fun _ => ?_)) | (with_reducible refine Fw_sr (fun _ => ?_)) | (with_reducible refine Fw_wf rfl ?_) | (with_reducible refine Fw_wd rfl ?_) | (with_reducible refine Fw_og ?_) | (with_reducible refine Fw_ite ?_ ?_) | (with_reducible refine Fw_oi (fun _ => ?_)) | (with_reducible refine Fw_ot ?_ (fun _ => ?_)) | (with_reducible refine Fw_cl ?_ (fun _ => ?_)))

theorem fw_fighter (a0 : Int32) (a1 : Int32) : Fw kI kA (f_fighter a0 a1) := by
  unfold f_fighter
  repeat (first | (with_reducible exact Fw_rt _) | (with_reducible intro _) | (with_reducible exact (fw_isFighter _)) | (with_reducible refine Fw_clr ?_) | (with_reducible refine Fw_clL ?_) | (with_reducible refine Fw_li (fun _ => ?_)) | (with_reducible refine Fw_rf (fun _ => ?_)) | (with_reducible refine Fw_uf (fun _ => ?_)) | (with_reducible refine Fw_rd (fun _ => ?_)) | (with_reducible refine Fw_ud (fun _ => ?_)) | (with_reducible refine Fw_sr (fun _ => ?_)) | (with_reducible refine Fw_wf rfl ?_) | (with_reducible refine Fw_wd rfl ?_) | (with_reducible refine Fw_og ?_) | (with_reducible refine Fw_ite ?_ ?_) | (with_reducible refine Fw_oi (fun _ => ?_)) | (with_reducible refine Fw_ot ?_ (fun _ => ?_)) | (with_reducible refine Fw_cl ?_ (fun _ => ?_)))

theorem fw_lp_about_107 : ∀ (n : Nat) (v1 v2 v3 v4 : Int32) (K0 : Int32 → Int32 → Int32 → Int32 → PG (Int32)), (∀ (v1 v2 v3 v4 : Int32), Fw kI kA (K0 v1 v2 v3 v4)) → Fw kI kA (lp_about_107 n v1 v2 v3 v4 K0) := by
  intro n
  induction n with
  | zero => intro v1 v2 v3 v4 K0 hK0; exact Fw_no
  | succ n ih =>
    intro v1 v2 v3 v4 K0 hK0
    unfold lp_about_107
    repeat (first | (with_reducible exact Fw_rt _) | (with_reducible intro _) | (with_reducible exact hK0 _ _ _ _) | (with_reducible exact ih _ _ _ _ _ hK0) | (with_reducible exact (fw_fights _)) | (with_reducible exact (fw_in _ _ _)) | (with_reducible exact (fw_isClass _)) | (with_reducible exact (fw_isWalk _ _)) | (with_reducible exact (fw_weighed _)) | (with_reducible refine Fw_clr ?_) | (with_reducible refine Fw_clL ?_) | (with_reducible refine Fw_li (fun _ => ?_)) | (with_reducible refine Fw_rf (fun _ => ?_)) | (with_reducible refine Fw_uf (fun _ => ?_)) | (with_reducible refine Fw_rd (fun _ => ?_)) | (with_reducible refine Fw_ud (fun _ => ?_)) | (with_reducible refine Fw_sr (fun _ => ?_)) | (with_reducible refine Fw_wf rfl ?_) | (with_reducible refine Fw_wd rfl ?_) | (with_reducible refine Fw_og ?_) | (with_reducible refine Fw_ite ?_ ?_) | (with_reducible refine Fw_oi (fun _ => ?_)) | (with_reducible refine Fw_ot ?_ (fun _ => ?_)) | (with_reducible refine Fw_cl ?_ (fun _ => ?_)))

theorem fw_lp_about_185 : ∀ (n : Nat) (v1 v2 v3 v4 : Int32) (K0 : Int32 → Int32 → Int32 → Int32 → PG (Int32)), (∀ (v1 v2 v3 v4 : Int32), Fw kI kA (K0 v1 v2 v3 v4)) → Fw kI kA (lp_about_185 n v1 v2 v3 v4 K0) := by
  intro n
  induction n with
  | zero => intro v1 v2 v3 v4 K0 hK0; exact Fw_no
  | succ n ih =>
    intro v1 v2 v3 v4 K0 hK0
    unfold lp_about_185
    repeat (first | (with_reducible exact Fw_rt _) | (with_reducible intro _) | (with_reducible exact hK0 _ _ _ _) | (with_reducible exact ih _ _ _ _ _ hK0) | (with_reducible refine fw_lp_about_107 _ _ _ _ _ _ ?_) | (with_reducible exact (fw_fights _)) | (with_reducible exact (fw_in _ _ _)) | (with_reducible exact (fw_isClass _)) | (with_reducible exact (fw_isWalk _ _)) | (with_reducible exact (fw_weighed _)) | (with_reducible refine Fw_clr ?_) | (with_reducible refine Fw_clL ?_) | (with_reducible refine Fw_li (fun _ => ?_)) | (with_reducible refine Fw_rf (fun _ => ?_)) | (with_reducible refine Fw_uf (fun _ => ?_)) | (with_reducible refine Fw_rd (fun _ => ?_)) | (with_reducible refine Fw_ud (fun _ => ?_)) | (with_reducible refine Fw_sr (fun _ => ?_)) | (with_reducible refine Fw_wf rfl ?_) | (with_reducible refine Fw_wd rfl ?_) | (with_reducible refine Fw_og ?_) | (with_reducible refine Fw_ite ?_ ?_) | (with_reducible refine Fw_oi (fun _ => ?_)) | (with_reducible refine Fw_ot ?_ (fun _ => ?_)) | (with_reducible refine Fw_cl ?_ (fun _ => ?_)))

theorem fw_lp_about_230 : ∀ (n : Nat) (v1 v2 v3 v4 : Int32) (K0 : Int32 → Int32 → Int32 → Int32 → PG (Int32)), (∀ (v1 v2 v3 v4 : Int32), Fw kI kA (K0 v1 v2 v3 v4)) → Fw kI kA (lp_about_230 n v1 v2 v3 v4 K0) := by
  intro n
  induction n with
  | zero => intro v1 v2 v3 v4 K0 hK0; exact Fw_no
  | succ n ih =>
    intro v1 v2 v3 v4 K0 hK0
    unfold lp_about_230
    repeat (first | (with_reducible exact Fw_rt _) | (with_reducible intro _) | (with_reducible exact hK0 _ _ _ _) | (with_reducible exact ih _ _ _ _ _ hK0) | (with_reducible refine fw_lp_about_107 _ _ _ _ _ _ ?_) | (with_reducible refine fw_lp_about_185 _ _ _ _ _ _ ?_) | (with_reducible exact (fw_fights _)) | (with_reducible exact (fw_in _ _ _)) | (with_reducible exact (fw_isClass _)) | (with_reducible exact (fw_isWalk _ _)) | (with_reducible exact (fw_weighed _)) | (with_reducible refine Fw_clr ?_) | (with_reducible refine Fw_clL ?_) | (with_reducible refine Fw_li (fun _ => ?_)) | (with_reducible refine Fw_rf (fun _ => ?_)) | (with_reducible refine Fw_uf (fun _ => ?_)) | (with_reducible refine Fw_rd (fun _ => ?_)) | (with_reducible refine Fw_ud (fun _ => ?_)) | (with_reducible refine Fw_sr (fun _ => ?_)) | (with_reducible refine Fw_wf rfl ?_) | (with_reducible refine Fw_wd rfl ?_) | (with_reducible refine Fw_og ?_) | (with_reducible refine Fw_ite ?_ ?_) | (with_reducible refine Fw_oi (fun _ => ?_)) | (with_reducible refine Fw_ot ?_ (fun _ => ?_)) | (with_reducible refine Fw_cl ?_ (fun _ => ?_)))

theorem fw_about (a0 : Int32) (a1 : Int32) : Fw kI kA (f_about a0 a1) := by
  unfold f_about
  repeat (first | (with_reducible exact Fw_rt _) | (with_reducible intro _) | (with_reducible refine fw_lp_about_107 _ _ _ _ _ _ ?_) | (with_reducible refine fw_lp_about_185 _ _ _ _ _ _ ?_) | (with_reducible refine fw_lp_about_230 _ _ _ _ _ _ ?_) | (with_reducible exact (fw_fights _)) | (with_reducible exact (fw_in _ _ _)) | (with_reducible exact (fw_isClass _)) | (with_reducible exact (fw_isWalk _ _)) | (with_reducible exact (fw_weighed _)) | (with_reducible refine Fw_clr ?_) | (with_reducible refine Fw_clL ?_) | (with_reducible refine Fw_li (fun _ => ?_)) | (with_reducible refine Fw_rf (fun _ => ?_)) | (with_reducible refine Fw_uf (fun _ => ?_)) | (with_reducible refine Fw_rd (fun _ => ?_)) | (with_reducible refine Fw_ud (fun _ => ?_)) | (with_reducible refine Fw_sr (fun _ => ?_)) | (with_reducible refine Fw_wf rfl ?_) | (with_reducible refine Fw_wd rfl ?_) | (with_reducible refine Fw_og ?_) | (with_reducible refine Fw_ite ?_ ?_) | (with_reducible refine Fw_oi (fun _ => ?_)) | (with_reducible refine Fw_ot ?_ (fun _ => ?_)) | (with_reducible refine Fw_cl ?_ (fun _ => ?_)))

theorem fw_fight (a0 : Int32) (a1 : Int32) (a2 : Int32) : Fw kI kA (f_fight a0 a1 a2) := by
  unfold f_fight
  repeat (first | (with_reducible exact Fw_rt _) | (with_reducible intro _) | (with_reducible exact (fw_fS _ _ _ _ _ _)) | (with_reducible exact (fw_isFight _ _)) | (with_reducible exact (fw_isReady _ _)) | (with_reducible exact (fw_isWalk _ _)) | (with_reducible exact (fw_matOf _ _)) | (with_reducible refine Fw_clr ?_) | (with_reducible refine Fw_clL ?_) | (with_reducible refine Fw_li (fun _ => ?_)) | (with_reducible refine Fw_rf (fun _ => ?_)) | (with_reducible refine Fw_uf (fun _ => ?_)) | (with_reducible refine Fw_rd (fun _ => ?_)) | (with_reducible refine Fw_ud (fun _ => ?_)) | (with_reducible refine Fw_sr (fun _ => ?_)) | (with_reducible refine Fw_wf rfl ?_) | (with_reducible refine Fw_wd rfl ?_) | (with_reducible refine Fw_og ?_) | (with_reducible refine Fw_ite ?_ ?_) | (with_reducible refine Fw_oi (fun _ => ?_)) | (with_reducible refine Fw_ot ?_ (fun _ => ?_)) | (with_reducible refine Fw_cl ?_ (fun _ => ?_)))

theorem fw_mat (a0 : Int32) (a1 : Int32) : Fw kI kA (f_mat a0 a1) := by
  unfold f_mat
  repeat (first | (with_reducible exact Fw_rt _) | (with_reducible intro _) | (with_reducible exact (fw_in _ _ _)) | (with_reducible exact (fw_isMat _)) | (with_reducible refine Fw_clr ?_) | (with_reducible refine Fw_clL ?_) | (with_reducible refine Fw_li (fun _ => ?_)) | (with_reducible refine Fw_rf (fun _ => ?_)) | (with_reducible refine Fw_uf (fun _ => ?_)) | (with_reducible refine Fw_rd (fun _ => ?_)) | (with_reducible refine Fw_ud (fun _ => ?_)) | (with_reducible refine Fw_sr (fun _ => ?_)) | (with_reducible refine Fw_wf rfl ?_) | (with_reducible refine Fw_wd rfl ?_) | (with_reducible refine Fw_og ?_) | (with_reducible refine Fw_ite ?_ ?_) | (with_reducible refine Fw_oi (fun _ => ?_)) | (with_reducible refine Fw_ot ?_ (fun _ => ?_)) | (with_reducible refine Fw_cl ?_ (fun _ => ?_)))

theorem fw_lp_won_5 : ∀ (n : Nat) (v1 v2 v3 v4 : Int32) (K0 : Int32 → Int32 → Int32 → Int32 → PG (Int32)), (∀ (v1 v2 v3 v4 : Int32), Fw kI kA (K0 v1 v2 v3 v4)) → Fw kI kA (lp_won_5 n v1 v2 v3 v4 K0) := by
  intro n
  induction n with
  | zero => intro v1 v2 v3 v4 K0 hK0; exact Fw_no
  | succ n ih =>
    intro v1 v2 v3 v4 K0 hK0
    unfold lp_won_5
    repeat (first | (with_reducible exact Fw_rt _) | (with_reducible intro _) | (with_reducible exact hK0 _ _ _ _) | (with_reducible exact ih _ _ _ _ _ hK0) | (with_reducible exact (fw_fights _)) | (with_reducible refine Fw_clr ?_) | (with_reducible refine Fw_clL ?_) | (with_reducible refine Fw_li (fun _ => ?_)) | (with_reducible refine Fw_rf (fun _ => ?_)) | (with_reducible refine Fw_uf (fun _ => ?_)) | (with_reducible refine Fw_rd (fun _ => ?_)) | (with_reducible refine Fw_ud (fun _ => ?_)) | (with_reducible refine Fw_sr (fun _ => ?_)) | (with_reducible refine Fw_wf rfl ?_) | (with_reducible refine Fw_wd rfl ?_) | (with_reducible refine Fw_og ?_) | (with_reducible refine Fw_ite ?_ ?_) | (with_reducible refine Fw_oi (fun _ => ?_)) | (with_reducible refine Fw_ot ?_ (fun _ => ?_)) | (with_reducible refine Fw_cl ?_ (fun _ => ?_)))

theorem fw_won (a0 : Int32) (a1 : Int32) : Fw kI kA (f_won a0 a1) := by
  unfold f_won
  repeat (first | (with_reducible exact Fw_rt _) | (with_reducible intro _) | (with_reducible refine fw_lp_won_5 _ _ _ _ _ _ ?_) | (with_reducible exact (fw_fights _)) | (with_reducible refine Fw_clr ?_) | (with_reducible refine Fw_clL ?_) | (with_reducible refine Fw_li (fun _ => ?_)) | (with_reducible refine Fw_rf (fun _ => ?_)) | (with_reducible refine Fw_uf (fun _ => ?_)) | (with_reducible refine Fw_rd (fun _ => ?_)) | (with_reducible refine Fw_ud (fun _ => ?_)) | (with_reducible refine Fw_sr (fun _ => ?_)) | (with_reducible refine Fw_wf rfl ?_) | (with_reducible refine Fw_wd rfl ?_) | (with_reducible refine Fw_og ?_) | (with_reducible refine Fw_ite ?_ ?_) | (with_reducible refine Fw_oi (fun _ => ?_)) | (with_reducible refine Fw_ot ?_ (fun _ => ?_)) | (with_reducible refine Fw_cl ?_ (fun _ => ?_)))

theorem fw_lp_sum_5 : ∀ (n : Nat) (v1 v2 v3 v4 : Int32) (K0 : Int32 → Int32 → Int32 → Int32 → PG (Int32)), (∀ (v1 v2 v3 v4 : Int32), Fw kI kA (K0 v1 v2 v3 v4)) → Fw kI kA (lp_sum_5 n v1 v2 v3 v4 K0) := by
  intro n
  induction n with
  | zero => intro v1 v2 v3 v4 K0 hK0; exact Fw_no
  | succ n ih =>
    intro v1 v2 v3 v4 K0 hK0
    unfold lp_sum_5
    repeat (first | (with_reducible exact Fw_rt _) | (with_reducible intro _) | (with_reducible exact hK0 _ _ _ _) | (with_reducible exact ih _ _ _ _ _ hK0) | (with_reducible exact (fw_fights _)) | (with_reducible refine Fw_clr ?_) | (with_reducible refine Fw_clL ?_) | (with_reducible refine Fw_li (fun _ => ?_)) | (with_reducible refine Fw_rf (fun _ => ?_)) | (with_reducible refine Fw_uf (fun _ => ?_)) | (with_reducible refine Fw_rd (fun _ => ?_)) | (with_reducible refine Fw_ud (fun _ => ?_)) | (with_reducible refine Fw_sr (fun _ => ?_)) | (with_reducible refine Fw_wf rfl ?_) | (with_reducible refine Fw_wd rfl ?_) | (with_reducible refine Fw_og ?_) | (with_reducible refine Fw_ite ?_ ?_) | (with_reducible refine Fw_oi (fun _ => ?_)) | (with_reducible refine Fw_ot ?_ (fun _ => ?_)) | (with_reducible refine Fw_cl ?_ (fun _ => ?_)))

theorem fw_sum (a0 : Int32) (a1 : Int32) : Fw kI kA (f_sum a0 a1) := by
  unfold f_sum
  repeat (first | (with_reducible exact Fw_rt _) | (with_reducible intro _) | (with_reducible refine fw_lp_sum_5 _ _ _ _ _ _ ?_) | (with_reducible exact (fw_fights _)) | (with_reducible refine Fw_clr ?_) | (with_reducible refine Fw_clL ?_) | (with_reducible refine Fw_li (fun _ => ?_)) | (with_reducible refine Fw_rf (fun _ => ?_)) | (with_reducible refine Fw_uf (fun _ => ?_)) | (with_reducible refine Fw_rd (fun _ => ?_)) | (with_reducible refine Fw_ud (fun _ => ?_)) | (with_reducible refine Fw_sr (fun _ => ?_)) | (with_reducible refine Fw_wf rfl ?_) | (with_reducible refine Fw_wd rfl ?_) | (with_reducible refine Fw_og ?_) | (with_reducible refine Fw_ite ?_ ?_) | (with_reducible refine Fw_oi (fun _ => ?_)) | (with_reducible refine Fw_ot ?_ (fun _ => ?_)) | (with_reducible refine Fw_cl ?_ (fun _ => ?_)))

theorem fw_lp_alike_5 : ∀ (n : Nat) (v1 v2 v3 v4 : Int32) (K0 : Int32 → Int32 → Int32 → Int32 → PG (Int32)), (∀ (v1 v2 v3 v4 : Int32), Fw kI kA (K0 v1 v2 v3 v4)) → Fw kI kA (lp_alike_5 n v1 v2 v3 v4 K0) := by
  intro n
  induction n with
  | zero => intro v1 v2 v3 v4 K0 hK0; exact Fw_no
  | succ n ih =>
    intro v1 v2 v3 v4 K0 hK0
    unfold lp_alike_5
    repeat (first | (with_reducible exact Fw_rt _) | (with_reducible intro _) | (with_reducible exact hK0 _ _ _ _) | (with_reducible exact ih _ _ _ _ _ hK0) | (with_reducible exact (fw_sum _ _)) | (with_reducible exact (fw_won _ _)) | (with_reducible refine Fw_clr ?_) | (with_reducible refine Fw_clL ?_) | (with_reducible refine Fw_li (fun _ => ?_)) | (with_reducible refine Fw_rf (fun _ => ?_)) | (with_reducible refine Fw_uf (fun _ => ?_)) | (with_reducible refine Fw_rd (fun _ => ?_)) | (with_reducible refine Fw_ud (fun _ => ?_)) | (with_reducible refine Fw_sr (fun _ => ?_)) | (with_reducible refine Fw_wf rfl ?_) | (with_reducible refine Fw_wd rfl ?_) | (with_reducible refine Fw_og ?_) | (with_reducible refine Fw_ite ?_ ?_) | (with_reducible refine Fw_oi (fun _ => ?_)) | (with_reducible refine Fw_ot ?_ (fun _ => ?_)) | (with_reducible refine Fw_cl ?_ (fun _ => ?_)))

theorem fw_alike (a0 : Int32) (a1 : Int32) : Fw kI kA (f_alike a0 a1) := by
  unfold f_alike
  repeat (first | (with_reducible exact Fw_rt _) | (with_reducible intro _) | (with_reducible refine fw_lp_alike_5 _ _ _ _ _ _ ?_) | (with_reducible exact (fw_sum _ _)) | (with_reducible exact (fw_won _ _)) | (with_reducible refine Fw_clr ?_) | (with_reducible refine Fw_clL ?_) | (with_reducible refine Fw_li (fun _ => ?_)) | (with_reducible refine Fw_rf (fun _ => ?_)) | (with_reducible refine Fw_uf (fun _ => ?_)) | (with_reducible refine Fw_rd (fun _ => ?_)) | (with_reducible refine Fw_ud (fun _ => ?_)) | (with_reducible refine Fw_sr (fun _ => ?_)) | (with_reducible refine Fw_wf rfl ?_) | (with_reducible refine Fw_wd rfl ?_) | (with_reducible refine Fw_og ?_) | (with_reducible refine Fw_ite ?_ ?_) | (with_reducible refine Fw_oi (fun _ => ?_)) | (with_reducible refine Fw_ot ?_ (fun _ => ?_)) | (with_reducible refine Fw_cl ?_ (fun _ => ?_)))

theorem fw_lp_isAhead_85 : ∀ (n : Nat) (v1 v2 v3 v4 : Int32) (K0 : Int32 → Int32 → Int32 → Int32 → PG (Int32)), (∀ (v1 v2 v3 v4 : Int32), Fw kI kA (K0 v1 v2 v3 v4)) → Fw kI kA (lp_isAhead_85 n v1 v2 v3 v4 K0) := by
  intro n
  induction n with
  | zero => intro v1 v2 v3 v4 K0 hK0; exact Fw_no
  | succ n ih =>
    intro v1 v2 v3 v4 K0 hK0
    unfold lp_isAhead_85
    repeat (first | (with_reducible exact Fw_rt _) | (with_reducible intro _) | (with_reducible exact hK0 _ _ _ _) | (with_reducible exact ih _ _ _ _ _ hK0) | (with_reducible exact (fw_alike _ _)) | (with_reducible exact (fw_fS _ _ _ _ _ _)) | (with_reducible exact (fw_fights _)) | (with_reducible exact (fw_sum _ _)) | (with_reducible exact (fw_won _ _)) | (with_reducible refine Fw_clr ?_) | (with_reducible refine Fw_clL ?_) | (with_reducible refine Fw_li (fun _ => ?_)) | (with_reducible refine Fw_rf (fun _ => ?_)) | (with_reducible refine Fw_uf (fun _ => ?_)) | (with_reducible refine Fw_rd (fun _ => ?_)) | (with_reducible refine Fw_ud (fun _ => ?_)) | (with_reducible refine Fw_sr (fun _ => ?_)) | (with_reducible refine Fw_wf rfl ?_) | (with_reducible refine Fw_wd rfl ?_) | (with_reducible refine Fw_og ?_) | (with_reducible refine Fw_ite ?_ ?_) | (with_reducible refine Fw_oi (fun _ => ?_)) | (with_reducible refine Fw_ot ?_ (fun _ => ?_)) | (with_reducible refine Fw_cl ?_ (fun _ => ?_)))

theorem fw_isAhead (a0 : Int32) (a1 : Int32) (a2 : Int32) : Fw kI kA (f_isAhead a0 a1 a2) := by
  unfold f_isAhead
  repeat (first | (with_reducible exact Fw_rt _) | (with_reducible intro _) | (with_reducible refine fw_lp_isAhead_85 _ _ _ _ _ _ ?_) | (with_reducible exact (fw_alike _ _)) | (with_reducible exact (fw_fS _ _ _ _ _ _)) | (with_reducible exact (fw_fights _)) | (with_reducible exact (fw_sum _ _)) | (with_reducible exact (fw_won _ _)) | (with_reducible refine Fw_clr ?_) | (with_reducible refine Fw_clL ?_) | (with_reducible refine Fw_li (fun _ => ?_)) | (with_reducible refine Fw_rf (fun _ => ?_)) | (with_reducible refine Fw_uf (fun _ => ?_)) | (with_reducible refine Fw_rd (fun _ => ?_)) | (with_reducible refine Fw_ud (fun _ => ?_)) | (with_reducible refine Fw_sr (fun _ => ?_)) | (with_reducible refine Fw_wf rfl ?_) | (with_reducible refine Fw_wd rfl ?_) | (with_reducible refine Fw_og ?_) | (with_reducible refine Fw_ite ?_ ?_) | (with_reducible refine Fw_oi (fun _ => ?_)) | (with_reducible refine Fw_ot ?_ (fun _ => ?_)) | (with_reducible refine Fw_cl ?_ (fun _ => ?_)))

theorem fw_lp_ordered_31 : ∀ (n : Nat) (v1 v2 v3 v4 v5 v6 : Int32) (K0 : Int32 → Int32 → Int32 → Int32 → Int32 → Int32 → PG (Int32)), (∀ (v1 v2 v3 v4 v5 v6 : Int32), Fw kI kA (K0 v1 v2 v3 v4 v5 v6)) → Fw kI kA (lp_ordered_31 n v1 v2 v3 v4 v5 v6 K0) := by
  intro n
  induction n with
  | zero => intro v1 v2 v3 v4 v5 v6 K0 hK0; exact Fw_no
  | succ n ih =>
    intro v1 v2 v3 v4 v5 v6 K0 hK0
    unfold lp_ordered_31
    repeat (first | (with_reducible exact Fw_rt _) | (with_reducible intro _) | (with_reducible exact hK0 _ _ _ _ _ _) | (with_reducible exact ih _ _ _ _ _ _ _ hK0) | (with_reducible exact (fw_isAhead _ _ _)) | (with_reducible refine Fw_clr ?_) | (with_reducible refine Fw_clL ?_) | (with_reducible refine Fw_li (fun _ => ?_)) | (with_reducible refine Fw_rf (fun _ => ?_)) | (with_reducible refine Fw_uf (fun _ => ?_)) | (with_reducible refine Fw_rd (fun _ => ?_)) | (with_reducible refine Fw_ud (fun _ => ?_)) | (with_reducible refine Fw_sr (fun _ => ?_)) | (with_reducible refine Fw_wf rfl ?_) | (with_reducible refine Fw_wd rfl ?_) | (with_reducible refine Fw_og ?_) | (with_reducible refine Fw_ite ?_ ?_) | (with_reducible refine Fw_oi (fun _ => ?_)) | (with_reducible refine Fw_ot ?_ (fun _ => ?_)) | (with_reducible refine Fw_cl ?_ (fun _ => ?_)))

theorem fw_lp_ordered_2 : ∀ (n : Nat) (v1 v2 v3 : Int32) (K0 : Int32 → Int32 → Int32 → PG (Int32)), (∀ (v1 v2 v3 : Int32), Fw kI kA (K0 v1 v2 v3)) → Fw kI kA (lp_ordered_2 n v1 v2 v3 K0) := by
  intro n
  induction n with
  | zero => intro v1 v2 v3 K0 hK0; exact Fw_no
  | succ n ih =>
    intro v1 v2 v3 K0 hK0
    unfold lp_ordered_2
    repeat (first | (with_reducible exact Fw_rt _) | (with_reducible intro _) | (with_reducible exact hK0 _ _ _) | (with_reducible exact ih _ _ _ _ hK0) | (with_reducible refine fw_lp_ordered_31 _ _ _ _ _ _ _ _ ?_) | (with_reducible exact (fw_isAhead _ _ _)) | (with_reducible refine Fw_clr ?_) | (with_reducible refine Fw_clL ?_) | (with_reducible refine Fw_li (fun _ => ?_)) | (with_reducible refine Fw_rf (fun _ => ?_)) | (with_reducible refine Fw_uf (fun _ => ?_)) | (with_reducible refine Fw_rd (fun _ => ?_)) | (with_reducible refine Fw_ud (fun _ => ?_)) | (with_reducible refine Fw_sr (fun _ => ?_)) | (with_reducible refine Fw_wf rfl ?_) | (with_reducible refine Fw_wd rfl ?_) | (with_reducible refine Fw_og ?_) | (with_reducible refine Fw_ite ?_ ?_) | (with_reducible refine Fw_oi (fun _ => ?_)) | (with_reducible refine Fw_ot ?_ (fun _ => ?_)) | (with_reducible refine Fw_cl ?_ (fun _ => ?_)))

theorem fw_ordered (a0 : Int32) (a1 : Int32) : Fw kI kA (f_ordered a0 a1) := by
  unfold f_ordered
  repeat (first | (with_reducible exact Fw_rt _) | (with_reducible intro _) | (with_reducible refine fw_lp_ordered_31 _ _ _ _ _ _ _ _ ?_) | (with_reducible refine fw_lp_ordered_2 _ _ _ _ _ ?_) | (with_reducible exact (fw_isAhead _ _ _)) | (with_reducible refine Fw_clr ?_) | (with_reducible refine Fw_clL ?_) | (with_reducible refine Fw_li (fun _ => ?_)) | (with_reducible refine Fw_rf (fun _ => ?_)) | (with_reducible refine Fw_uf (fun _ => ?_)) | (with_reducible refine Fw_rd (fun _ => ?_)) | (with_reducible refine Fw_ud (fun _ => ?_)) | (with_reducible refine Fw_sr (fun _ => ?_)) | (with_reducible refine Fw_wf rfl ?_) | (with_reducible refine Fw_wd rfl ?_) | (with_reducible refine Fw_og ?_) | (with_reducible refine Fw_ite ?_ ?_) | (with_reducible refine Fw_oi (fun _ => ?_)) | (with_reducible refine Fw_ot ?_ (fun _ => ?_)) | (with_reducible refine Fw_cl ?_ (fun _ => ?_)))

theorem fw_medal (a0 : Int32) (a1 : Int32) : Fw kI kA (f_medal a0 a1) := by
  unfold f_medal
  repeat (first | (with_reducible exact Fw_rt _) | (with_reducible intro _) | (with_reducible exact (fw_about _ _)) | (with_reducible exact (fw_fS _ _ _ _ _ _)) | (with_reducible exact (fw_fights _)) | (with_reducible exact (fw_finalOf _)) | (with_reducible exact (fw_isClass _)) | (with_reducible exact (fw_ordered _ _)) | (with_reducible exact (fw_rounds _)) | (with_reducible refine Fw_clr ?_) | (with_reducible refine Fw_clL ?_) | (with_reducible refine Fw_li (fun _ => ?_)) | (with_reducible refine Fw_rf (fun _ => ?_)) | (with_reducible refine Fw_uf (fun _ => ?_)) | (with_reducible refine Fw_rd (fun _ => ?_)) | (with_reducible refine Fw_ud (fun _ => ?_)) | (with_reducible refine Fw_sr (fun _ => ?_)) | (with_reducible refine Fw_wf rfl ?_) | (with_reducible refine Fw_wd rfl ?_) | (with_reducible refine Fw_og ?_) | (with_reducible refine Fw_ite ?_ ?_) | (with_reducible refine Fw_oi (fun _ => ?_)) | (with_reducible refine Fw_ot ?_ (fun _ => ?_)) | (with_reducible refine Fw_cl ?_ (fun _ => ?_)))

theorem fw_stage (a0 : Int32) : Fw kI kA (f_stage a0) := by
  unfold f_stage
  repeat (first | (with_reducible exact Fw_rt _) | (with_reducible intro _) | (with_reducible exact (fw_finalOf _)) | (with_reducible exact (fw_isSecond _ _)) | (with_reducible exact (fw_roundOf _ _)) | (with_reducible exact (fw_stepOf _ _)) | (with_reducible refine Fw_clr ?_) | (with_reducible refine Fw_clL ?_) | (with_reducible refine Fw_li (fun _ => ?_)) | (with_reducible refine Fw_rf (fun _ => ?_)) | (with_reducible refine Fw_uf (fun _ => ?_)) | (with_reducible refine Fw_rd (fun _ => ?_)) | (with_reducible refine Fw_ud (fun _ => ?_)) | (with_reducible refine Fw_sr (fun _ => ?_)) | (with_reducible refine Fw_wf rfl ?_) | (with_reducible refine Fw_wd rfl ?_) | (with_reducible refine Fw_og ?_) | (with_reducible refine Fw_ite ?_ ?_) | (with_reducible refine Fw_oi (fun _ => ?_)) | (with_reducible refine Fw_ot ?_ (fun _ => ?_)) | (with_reducible refine Fw_cl ?_ (fun _ => ?_)))

theorem fw_tires (a0 : Int32) (a1 : Int32) : Fw kI kA (f_tires a0 a1) := by
  unfold f_tires
  repeat (first | (with_reducible exact Fw_rt _) | (with_reducible intro _) | (with_reducible refine Fw_clr ?_) | (with_reducible refine Fw_clL ?_) | (with_reducible refine Fw_li (fun _ => ?_)) | (with_reducible refine Fw_rf (fun _ => ?_)) | (with_reducible refine Fw_uf (fun _ => ?_)) | (with_reducible refine Fw_rd (fun _ => ?_)) | (with_reducible refine Fw_ud (fun _ => ?_)) | (with_reducible refine Fw_sr (fun _ => ?_)) | (with_reducible refine Fw_wf rfl ?_) | (with_reducible refine Fw_wd rfl ?_) | (with_reducible refine Fw_og ?_) | (with_reducible refine Fw_ite ?_ ?_) | (with_reducible refine Fw_oi (fun _ => ?_)) | (with_reducible refine Fw_ot ?_ (fun _ => ?_)) | (with_reducible refine Fw_cl ?_ (fun _ => ?_)))

theorem fw_isOver (a0 : Int32) (a1 : Int32) (a2 : Int32) (a3 : Int32) : Fw kI kA (f_isOver a0 a1 a2 a3) := by
  unfold f_isOver
  repeat (first | (with_reducible exact Fw_rt _) | (with_reducible intro _) | (with_reducible refine Fw_clr ?_) | (with_reducible refine Fw_clL ?_) | (with_reducible refine Fw_li (fun _ => ?_)) | (with_reducible refine Fw_rf (fun _ => ?_)) | (with_reducible refine Fw_uf (fun _ => ?_)) | (with_reducible refine Fw_rd (fun _ => ?_)) | (with_reducible refine Fw_ud (fun _ => ?_)) | (with_reducible refine Fw_sr (fun _ => ?_)) | (with_reducible refine Fw_wf rfl ?_) | (with_reducible refine Fw_wd rfl ?_) | (with_reducible refine Fw_og ?_) | (with_reducible refine Fw_ite ?_ ?_) | (with_reducible refine Fw_oi (fun _ => ?_)) | (with_reducible refine Fw_ot ?_ (fun _ => ?_)) | (with_reducible refine Fw_cl ?_ (fun _ => ?_)))

theorem fw_mayBegin (a0 : Int32) (a1 : Int32) (a2 : Int32) : Fw kI kA (f_mayBegin a0 a1 a2) := by
  unfold f_mayBegin
  repeat (first | (with_reducible exact Fw_rt _) | (with_reducible intro _) | (with_reducible exact (fw_base _ _)) | (with_reducible exact (fw_halfOf _ _)) | (with_reducible exact (fw_isOver _ _ _ _)) | (with_reducible exact (fw_isSecond _ _)) | (with_reducible exact (fw_roundOf _ _)) | (with_reducible exact (fw_rounds _)) | (with_reducible exact (fw_stepOf _ _)) | (with_reducible refine Fw_clr ?_) | (with_reducible refine Fw_clL ?_) | (with_reducible refine Fw_li (fun _ => ?_)) | (with_reducible refine Fw_rf (fun _ => ?_)) | (with_reducible refine Fw_uf (fun _ => ?_)) | (with_reducible refine Fw_rd (fun _ => ?_)) | (with_reducible refine Fw_ud (fun _ => ?_)) | (with_reducible refine Fw_sr (fun _ => ?_)) | (with_reducible refine Fw_wf rfl ?_) | (with_reducible refine Fw_wd rfl ?_) | (with_reducible refine Fw_og ?_) | (with_reducible refine Fw_ite ?_ ?_) | (with_reducible refine Fw_oi (fun _ => ?_)) | (with_reducible refine Fw_ot ?_ (fun _ => ?_)) | (with_reducible refine Fw_cl ?_ (fun _ => ?_)))

theorem fw_lp_plan_41 : ∀ (n : Nat) (v1 v2 v3 v4 v5 v6 : Int32) (K0 : Int32 → Int32 → Int32 → Int32 → Int32 → Int32 → PG (Int32)), (∀ (v1 v2 v3 v4 v5 v6 : Int32), Fw kP kB (K0 v1 v2 v3 v4 v5 v6)) → Fw kP kB (lp_plan_41 n v1 v2 v3 v4 v5 v6 K0) := by
  intro n
  induction n with
  | zero => intro v1 v2 v3 v4 v5 v6 K0 hK0; exact Fw_no
  | succ n ih =>
    intro v1 v2 v3 v4 v5 v6 K0 hK0
    unfold lp_plan_41
    repeat (first | (with_reducible exact Fw_rt _) | (with_reducible intro _) | (with_reducible exact hK0 _ _ _ _ _ _) | (with_reducible exact ih _ _ _ _ _ _ _ hK0) | (with_reducible exact (fw_fS _ _ _ _ _ _).p) | (with_reducible exact (fw_fights _).p) | (with_reducible exact (fw_in _ _ _).p) | (with_reducible exact (fw_isWalk _ _).p) | (with_reducible exact (fw_matOf _ _).p) | (with_reducible exact (fw_mayBegin _ _ _).p) | (with_reducible exact (fw_stage _).p) | (with_reducible exact (fw_tires _ _).p) | (with_reducible refine Fw_clr ?_) | (with_reducible refine Fw_clL ?_) | (with_reducible refine Fw_li (fun _ => ?_)) | (with_reducible refine Fw_rf (fun _ => ?_)) | (with_reducible refine Fw_uf (fun _ => ?_)) | (with_reducible refine Fw_rd (fun _ => ?_)) | (with_reducible refine Fw_ud (fun _ => ?_)) | (with_reducible refine Fw_sr (fun _ => ?_)) | (with_reducible refine Fw_wf rfl ?_) | (with_reducible refine Fw_wd rfl ?_) | (with_reducible refine Fw_og ?_) | (with_reducible refine Fw_ite ?_ ?_) | (with_reducible refine Fw_oi (fun _ => ?_)) | (with_reducible refine Fw_ot ?_ (fun _ => ?_)) | (with_reducible refine Fw_cl ?_ (fun _ => ?_)))

theorem fw_lp_plan_93 : ∀ (n : Nat) (v1 v2 v3 v4 v5 v6 : Int32) (K0 : Int32 → Int32 → Int32 → Int32 → Int32 → Int32 → PG (Int32)), (∀ (v1 v2 v3 v4 v5 v6 : Int32), Fw kP kB (K0 v1 v2 v3 v4 v5 v6)) → Fw kP kB (lp_plan_93 n v1 v2 v3 v4 v5 v6 K0) := by
  intro n
  induction n with
  | zero => intro v1 v2 v3 v4 v5 v6 K0 hK0; exact Fw_no
  | succ n ih =>
    intro v1 v2 v3 v4 v5 v6 K0 hK0
    unfold lp_plan_93
    repeat (first | (with_reducible exact Fw_rt _) | (with_reducible intro _) | (with_reducible exact hK0 _ _ _ _ _ _) | (with_reducible exact ih _ _ _ _ _ _ _ hK0) | (with_reducible refine fw_lp_plan_41 _ _ _ _ _ _ _ _ ?_) | (with_reducible exact (fw_fS _ _ _ _ _ _).p) | (with_reducible exact (fw_fights _).p) | (with_reducible exact (fw_in _ _ _).p) | (with_reducible exact (fw_isWalk _ _).p) | (with_reducible exact (fw_matOf _ _).p) | (with_reducible exact (fw_mayBegin _ _ _).p) | (with_reducible exact (fw_stage _).p) | (with_reducible exact (fw_tires _ _).p) | (with_reducible refine Fw_clr ?_) | (with_reducible refine Fw_clL ?_) | (with_reducible refine Fw_li (fun _ => ?_)) | (with_reducible refine Fw_rf (fun _ => ?_)) | (with_reducible refine Fw_uf (fun _ => ?_)) | (with_reducible refine Fw_rd (fun _ => ?_)) | (with_reducible refine Fw_ud (fun _ => ?_)) | (with_reducible refine Fw_sr (fun _ => ?_)) | (with_reducible refine Fw_wf rfl ?_) | (with_reducible refine Fw_wd rfl ?_) | (with_reducible refine Fw_og ?_) | (with_reducible refine Fw_ite ?_ ?_) | (with_reducible refine Fw_oi (fun _ => ?_)) | (with_reducible refine Fw_ot ?_ (fun _ => ?_)) | (with_reducible refine Fw_cl ?_ (fun _ => ?_)))

theorem fw_lp_plan_350 : ∀ (n : Nat) (v1 v2 v3 v4 v5 v6 v7 v8 v9 : Int32) (K0 : Int32 → Int32 → Int32 → Int32 → Int32 → Int32 → Int32 → Int32 → Int32 → PG (Int32)), (∀ (v1 v2 v3 v4 v5 v6 v7 v8 v9 : Int32), Fw kP kB (K0 v1 v2 v3 v4 v5 v6 v7 v8 v9)) → Fw kP kB (lp_plan_350 n v1 v2 v3 v4 v5 v6 v7 v8 v9 K0) := by
  intro n
  induction n with
  | zero => intro v1 v2 v3 v4 v5 v6 v7 v8 v9 K0 hK0; exact Fw_no
  | succ n ih =>
    intro v1 v2 v3 v4 v5 v6 v7 v8 v9 K0 hK0
    unfold lp_plan_350
    repeat (first | (with_reducible exact Fw_rt _) | (with_reducible intro _) | (with_reducible exact hK0 _ _ _ _ _ _ _ _ _) | (with_reducible exact ih _ _ _ _ _ _ _ _ _ _ hK0) | (with_reducible refine fw_lp_plan_41 _ _ _ _ _ _ _ _ ?_) | (with_reducible refine fw_lp_plan_93 _ _ _ _ _ _ _ _ ?_) | (with_reducible exact (fw_fS _ _ _ _ _ _).p) | (with_reducible exact (fw_fights _).p) | (with_reducible exact (fw_in _ _ _).p) | (with_reducible exact (fw_isWalk _ _).p) | (with_reducible exact (fw_matOf _ _).p) | (with_reducible exact (fw_mayBegin _ _ _).p) | (with_reducible exact (fw_stage _).p) | (with_reducible exact (fw_tires _ _).p) | (with_reducible refine Fw_clr ?_) | (with_reducible refine Fw_clL ?_) | (with_reducible refine Fw_li (fun _ => ?_)) | (with_reducible refine Fw_rf (fun _ => ?_)) | (with_reducible refine Fw_uf (fun _ => ?_)) | (with_reducible refine Fw_rd (fun _ => ?_)) | (with_reducible refine Fw_ud (fun _ => ?_)) | (with_reducible refine Fw_sr (fun _ => ?_)) | (with_reducible refine Fw_wf rfl ?_) | (with_reducible refine Fw_wd rfl ?_) | (with_reducible refine Fw_og ?_) | (with_reducible refine Fw_ite ?_ ?_) | (with_reducible refine Fw_oi (fun _ => ?_)) | (with_reducible refine Fw_ot ?_ (fun _ => ?_)) | (with_reducible refine Fw_cl ?_ (fun _ => ?_)))

theorem fw_lp_plan_145 : ∀ (n : Nat) (v1 v2 v3 v4 v5 v6 v7 : Int32) (K0 : Int32 → Int32 → Int32 → Int32 → Int32 → Int32 → Int32 → PG (Int32)), (∀ (v1 v2 v3 v4 v5 v6 v7 : Int32), Fw kP kB (K0 v1 v2 v3 v4 v5 v6 v7)) → Fw kP kB (lp_plan_145 n v1 v2 v3 v4 v5 v6 v7 K0) := by
  intro n
  induction n with
  | zero => intro v1 v2 v3 v4 v5 v6 v7 K0 hK0; exact Fw_no
  | succ n ih =>
    intro v1 v2 v3 v4 v5 v6 v7 K0 hK0
    unfold lp_plan_145
    repeat (first | (with_reducible exact Fw_rt _) | (with_reducible intro _) | (with_reducible exact hK0 _ _ _ _ _ _ _) | (with_reducible exact ih _ _ _ _ _ _ _ _ hK0) | (with_reducible refine fw_lp_plan_41 _ _ _ _ _ _ _ _ ?_) | (with_reducible refine fw_lp_plan_93 _ _ _ _ _ _ _ _ ?_) | (with_reducible refine fw_lp_plan_350 _ _ _ _ _ _ _ _ _ _ _ ?_) | (with_reducible exact (fw_fS _ _ _ _ _ _).p) | (with_reducible exact (fw_fights _).p) | (with_reducible exact (fw_in _ _ _).p) | (with_reducible exact (fw_isWalk _ _).p) | (with_reducible exact (fw_matOf _ _).p) | (with_reducible exact (fw_mayBegin _ _ _).p) | (with_reducible exact (fw_stage _).p) | (with_reducible exact (fw_tires _ _).p) | (with_reducible refine Fw_clr ?_) | (with_reducible refine Fw_clL ?_) | (with_reducible refine Fw_li (fun _ => ?_)) | (with_reducible refine Fw_rf (fun _ => ?_)) | (with_reducible refine Fw_uf (fun _ => ?_)) | (with_reducible refine Fw_rd (fun _ => ?_)) | (with_reducible refine Fw_ud (fun _ => ?_)) | (with_reducible refine Fw_sr (fun _ => ?_)) | (with_reducible refine Fw_wf rfl ?_) | (with_reducible refine Fw_wd rfl ?_) | (with_reducible refine Fw_og ?_) | (with_reducible refine Fw_ite ?_ ?_) | (with_reducible refine Fw_oi (fun _ => ?_)) | (with_reducible refine Fw_ot ?_ (fun _ => ?_)) | (with_reducible refine Fw_cl ?_ (fun _ => ?_)))

theorem fw_lp_plan_136 : ∀ (n : Nat) (v1 v2 v3 v4 v5 v6 : Int32) (K0 : Int32 → Int32 → Int32 → Int32 → Int32 → Int32 → PG (Int32)), (∀ (v1 v2 v3 v4 v5 v6 : Int32), Fw kP kB (K0 v1 v2 v3 v4 v5 v6)) → Fw kP kB (lp_plan_136 n v1 v2 v3 v4 v5 v6 K0) := by
  intro n
  induction n with
  | zero => intro v1 v2 v3 v4 v5 v6 K0 hK0; exact Fw_no
  | succ n ih =>
    intro v1 v2 v3 v4 v5 v6 K0 hK0
    unfold lp_plan_136
    repeat (first | (with_reducible exact Fw_rt _) | (with_reducible intro _) | (with_reducible exact hK0 _ _ _ _ _ _) | (with_reducible exact ih _ _ _ _ _ _ _ hK0) | (with_reducible refine fw_lp_plan_41 _ _ _ _ _ _ _ _ ?_) | (with_reducible refine fw_lp_plan_93 _ _ _ _ _ _ _ _ ?_) | (with_reducible refine fw_lp_plan_350 _ _ _ _ _ _ _ _ _ _ _ ?_) | (with_reducible refine fw_lp_plan_145 _ _ _ _ _ _ _ _ _ ?_) | (with_reducible exact (fw_fS _ _ _ _ _ _).p) | (with_reducible exact (fw_fights _).p) | (with_reducible exact (fw_in _ _ _).p) | (with_reducible exact (fw_isWalk _ _).p) | (with_reducible exact (fw_matOf _ _).p) | (with_reducible exact (fw_mayBegin _ _ _).p) | (with_reducible exact (fw_stage _).p) | (with_reducible exact (fw_tires _ _).p) | (with_reducible refine Fw_clr ?_) | (with_reducible refine Fw_clL ?_) | (with_reducible refine Fw_li (fun _ => ?_)) | (with_reducible refine Fw_rf (fun _ => ?_)) | (with_reducible refine Fw_uf (fun _ => ?_)) | (with_reducible refine Fw_rd (fun _ => ?_)) | (with_reducible refine Fw_ud (fun _ => ?_)) | (with_reducible refine Fw_sr (fun _ => ?_)) | (with_reducible refine Fw_wf rfl ?_) | (with_reducible refine Fw_wd rfl ?_) | (with_reducible refine Fw_og ?_) | (with_reducible refine Fw_ite ?_ ?_) | (with_reducible refine Fw_oi (fun _ => ?_)) | (with_reducible refine Fw_ot ?_ (fun _ => ?_)) | (with_reducible refine Fw_cl ?_ (fun _ => ?_)))

theorem fw_lp_plan_467 : ∀ (n : Nat) (v1 v2 v3 v4 v5 v6 v7 v8 v9 : Int32) (K0 : Int32 → Int32 → Int32 → Int32 → Int32 → Int32 → Int32 → Int32 → Int32 → PG (Int32)), (∀ (v1 v2 v3 v4 v5 v6 v7 v8 v9 : Int32), Fw kP kB (K0 v1 v2 v3 v4 v5 v6 v7 v8 v9)) → Fw kP kB (lp_plan_467 n v1 v2 v3 v4 v5 v6 v7 v8 v9 K0) := by
  intro n
  induction n with
  | zero => intro v1 v2 v3 v4 v5 v6 v7 v8 v9 K0 hK0; exact Fw_no
  | succ n ih =>
    intro v1 v2 v3 v4 v5 v6 v7 v8 v9 K0 hK0
    unfold lp_plan_467
    repeat (first | (with_reducible exact Fw_rt _) | (with_reducible intro _) | (with_reducible exact hK0 _ _ _ _ _ _ _ _ _) | (with_reducible exact ih _ _ _ _ _ _ _ _ _ _ hK0) | (with_reducible refine fw_lp_plan_41 _ _ _ _ _ _ _ _ ?_) | (with_reducible refine fw_lp_plan_93 _ _ _ _ _ _ _ _ ?_) | (with_reducible refine fw_lp_plan_350 _ _ _ _ _ _ _ _ _ _ _ ?_) | (with_reducible refine fw_lp_plan_145 _ _ _ _ _ _ _ _ _ ?_) | (with_reducible refine fw_lp_plan_136 _ _ _ _ _ _ _ _ ?_) | (with_reducible exact (fw_fS _ _ _ _ _ _).p) | (with_reducible exact (fw_fights _).p) | (with_reducible exact (fw_in _ _ _).p) | (with_reducible exact (fw_isWalk _ _).p) | (with_reducible exact (fw_matOf _ _).p) | (with_reducible exact (fw_mayBegin _ _ _).p) | (with_reducible exact (fw_stage _).p) | (with_reducible exact (fw_tires _ _).p) | (with_reducible refine Fw_clr ?_) | (with_reducible refine Fw_clL ?_) | (with_reducible refine Fw_li (fun _ => ?_)) | (with_reducible refine Fw_rf (fun _ => ?_)) | (with_reducible refine Fw_uf (fun _ => ?_)) | (with_reducible refine Fw_rd (fun _ => ?_)) | (with_reducible refine Fw_ud (fun _ => ?_)) | (with_reducible refine Fw_sr (fun _ => ?_)) | (with_reducible refine Fw_wf rfl ?_) | (with_reducible refine Fw_wd rfl ?_) | (with_reducible refine Fw_og ?_) | (with_reducible refine Fw_ite ?_ ?_) | (with_reducible refine Fw_oi (fun _ => ?_)) | (with_reducible refine Fw_ot ?_ (fun _ => ?_)) | (with_reducible refine Fw_cl ?_ (fun _ => ?_)))

theorem fw_lp_plan_436 : ∀ (n : Nat) (v1 v2 v3 v4 v5 v6 v7 : Int32) (K0 : Int32 → Int32 → Int32 → Int32 → Int32 → Int32 → Int32 → PG (Int32)), (∀ (v1 v2 v3 v4 v5 v6 v7 : Int32), Fw kP kB (K0 v1 v2 v3 v4 v5 v6 v7)) → Fw kP kB (lp_plan_436 n v1 v2 v3 v4 v5 v6 v7 K0) := by
  intro n
  induction n with
  | zero => intro v1 v2 v3 v4 v5 v6 v7 K0 hK0; exact Fw_no
  | succ n ih =>
    intro v1 v2 v3 v4 v5 v6 v7 K0 hK0
    unfold lp_plan_436
    repeat (first | (with_reducible exact Fw_rt _) | (with_reducible intro _) | (with_reducible exact hK0 _ _ _ _ _ _ _) | (with_reducible exact ih _ _ _ _ _ _ _ _ hK0) | (with_reducible refine fw_lp_plan_41 _ _ _ _ _ _ _ _ ?_) | (with_reducible refine fw_lp_plan_93 _ _ _ _ _ _ _ _ ?_) | (with_reducible refine fw_lp_plan_350 _ _ _ _ _ _ _ _ _ _ _ ?_) | (with_reducible refine fw_lp_plan_145 _ _ _ _ _ _ _ _ _ ?_) | (with_reducible refine fw_lp_plan_136 _ _ _ _ _ _ _ _ ?_) | (with_reducible refine fw_lp_plan_467 _ _ _ _ _ _ _ _ _ _ _ ?_) | (with_reducible exact (fw_fS _ _ _ _ _ _).p) | (with_reducible exact (fw_fights _).p) | (with_reducible exact (fw_in _ _ _).p) | (with_reducible exact (fw_isWalk _ _).p) | (with_reducible exact (fw_matOf _ _).p) | (with_reducible exact (fw_mayBegin _ _ _).p) | (with_reducible exact (fw_stage _).p) | (with_reducible exact (fw_tires _ _).p) | (with_reducible refine Fw_clr ?_) | (with_reducible refine Fw_clL ?_) | (with_reducible refine Fw_li (fun _ => ?_)) | (with_reducible refine Fw_rf (fun _ => ?_)) | (with_reducible refine Fw_uf (fun _ => ?_)) | (with_reducible refine Fw_rd (fun _ => ?_)) | (with_reducible refine Fw_ud (fun _ => ?_)) | (with_reducible refine Fw_sr (fun _ => ?_)) | (with_reducible refine Fw_wf rfl ?_) | (with_reducible refine Fw_wd rfl ?_) | (with_reducible refine Fw_og ?_) | (with_reducible refine Fw_ite ?_ ?_) | (with_reducible refine Fw_oi (fun _ => ?_)) | (with_reducible refine Fw_ot ?_ (fun _ => ?_)) | (with_reducible refine Fw_cl ?_ (fun _ => ?_)))

theorem fw_lp_plan_429 : ∀ (n : Nat) (v1 v2 v3 v4 v5 v6 : Int32) (K0 : Int32 → Int32 → Int32 → Int32 → Int32 → Int32 → PG (Int32)), (∀ (v1 v2 v3 v4 v5 v6 : Int32), Fw kP kB (K0 v1 v2 v3 v4 v5 v6)) → Fw kP kB (lp_plan_429 n v1 v2 v3 v4 v5 v6 K0) := by
  intro n
  induction n with
  | zero => intro v1 v2 v3 v4 v5 v6 K0 hK0; exact Fw_no
  | succ n ih =>
    intro v1 v2 v3 v4 v5 v6 K0 hK0
    unfold lp_plan_429
    repeat (first | (with_reducible exact Fw_rt _) | (with_reducible intro _) | (with_reducible exact hK0 _ _ _ _ _ _) | (with_reducible exact ih _ _ _ _ _ _ _ hK0) | (with_reducible refine fw_lp_plan_41 _ _ _ _ _ _ _ _ ?_) | (with_reducible refine fw_lp_plan_93 _ _ _ _ _ _ _ _ ?_) | (with_reducible refine fw_lp_plan_350 _ _ _ _ _ _ _ _ _ _ _ ?_) | (with_reducible refine fw_lp_plan_145 _ _ _ _ _ _ _ _ _ ?_) | (with_reducible refine fw_lp_plan_136 _ _ _ _ _ _ _ _ ?_) | (with_reducible refine fw_lp_plan_467 _ _ _ _ _ _ _ _ _ _ _ ?_) | (with_reducible refine fw_lp_plan_436 _ _ _ _ _ _ _ _ _ ?_) | (with_reducible exact (fw_fS _ _ _ _ _ _).p) | (with_reducible exact (fw_fights _).p) | (with_reducible exact (fw_in _ _ _).p) | (with_reducible exact (fw_isWalk _ _).p) | (with_reducible exact (fw_matOf _ _).p) | (with_reducible exact (fw_mayBegin _ _ _).p) | (with_reducible exact (fw_stage _).p) | (with_reducible exact (fw_tires _ _).p) | (with_reducible refine Fw_clr ?_) | (with_reducible refine Fw_clL ?_) | (with_reducible refine Fw_li (fun _ => ?_)) | (with_reducible refine Fw_rf (fun _ => ?_)) | (with_reducible refine Fw_uf (fun _ => ?_)) | (with_reducible refine Fw_rd (fun _ => ?_)) | (with_reducible refine Fw_ud (fun _ => ?_)) | (with_reducible refine Fw_sr (fun _ => ?_)) | (with_reducible refine Fw_wf rfl ?_) | (with_reducible refine Fw_wd rfl ?_) | (with_reducible refine Fw_og ?_) | (with_reducible refine Fw_ite ?_ ?_) | (with_reducible refine Fw_oi (fun _ => ?_)) | (with_reducible refine Fw_ot ?_ (fun _ => ?_)) | (with_reducible refine Fw_cl ?_ (fun _ => ?_)))

theorem fw_lp_plan_631 : ∀ (n : Nat) (v1 v2 v3 v4 v5 v6 v7 : Int32) (K0 : Int32 → Int32 → Int32 → Int32 → Int32 → Int32 → Int32 → PG (Int32)), (∀ (v1 v2 v3 v4 v5 v6 v7 : Int32), Fw kP kB (K0 v1 v2 v3 v4 v5 v6 v7)) → Fw kP kB (lp_plan_631 n v1 v2 v3 v4 v5 v6 v7 K0) := by
  intro n
  induction n with
  | zero => intro v1 v2 v3 v4 v5 v6 v7 K0 hK0; exact Fw_no
  | succ n ih =>
    intro v1 v2 v3 v4 v5 v6 v7 K0 hK0
    unfold lp_plan_631
    repeat (first | (with_reducible exact Fw_rt _) | (with_reducible intro _) | (with_reducible exact hK0 _ _ _ _ _ _ _) | (with_reducible exact ih _ _ _ _ _ _ _ _ hK0) | (with_reducible refine fw_lp_plan_41 _ _ _ _ _ _ _ _ ?_) | (with_reducible refine fw_lp_plan_93 _ _ _ _ _ _ _ _ ?_) | (with_reducible refine fw_lp_plan_350 _ _ _ _ _ _ _ _ _ _ _ ?_) | (with_reducible refine fw_lp_plan_145 _ _ _ _ _ _ _ _ _ ?_) | (with_reducible refine fw_lp_plan_136 _ _ _ _ _ _ _ _ ?_) | (with_reducible refine fw_lp_plan_467 _ _ _ _ _ _ _ _ _ _ _ ?_) | (with_reducible refine fw_lp_plan_436 _ _ _ _ _ _ _ _ _ ?_) | (with_reducible refine fw_lp_plan_429 _ _ _ _ _ _ _ _ ?_) | (with_reducible exact (fw_fS _ _ _ _ _ _).p) | (with_reducible exact (fw_fights _).p) | (with_reducible exact (fw_in _ _ _).p) | (with_reducible exact (fw_isWalk _ _).p) | (with_reducible exact (fw_matOf _ _).p) | (with_reducible exact (fw_mayBegin _ _ _).p) | (with_reducible exact (fw_stage _).p) | (with_reducible exact (fw_tires _ _).p) | (with_reducible refine Fw_clr ?_) | (with_reducible refine Fw_clL ?_) | (with_reducible refine Fw_li (fun _ => ?_)) | (with_reducible refine Fw_rf (fun _ => ?_)) | (with_reducible refine Fw_uf (fun _ => ?_)) | (with_reducible refine Fw_rd (fun _ => ?_)) | (with_reducible refine Fw_ud (fun _ => ?_)) | (with_reducible refine Fw_sr (fun _ => ?_)) | (with_reducible refine Fw_wf rfl ?_) | (with_reducible refine Fw_wd rfl ?_) | (with_reducible refine Fw_og ?_) | (with_reducible refine Fw_ite ?_ ?_) | (with_reducible refine Fw_oi (fun _ => ?_)) | (with_reducible refine Fw_ot ?_ (fun _ => ?_)) | (with_reducible refine Fw_cl ?_ (fun _ => ?_)))

theorem fw_plan (a0 : Int32) (a1 : Int32) : Fw kP kB (f_plan a0 a1) := by
  unfold f_plan
  repeat (first | (with_reducible exact Fw_rt _) | (with_reducible intro _) | (with_reducible refine fw_lp_plan_41 _ _ _ _ _ _ _ _ ?_) | (with_reducible refine fw_lp_plan_93 _ _ _ _ _ _ _ _ ?_) | (with_reducible refine fw_lp_plan_350 _ _ _ _ _ _ _ _ _ _ _ ?_) | (with_reducible refine fw_lp_plan_145 _ _ _ _ _ _ _ _ _ ?_) | (with_reducible refine fw_lp_plan_136 _ _ _ _ _ _ _ _ ?_) | (with_reducible refine fw_lp_plan_467 _ _ _ _ _ _ _ _ _ _ _ ?_) | (with_reducible refine fw_lp_plan_436 _ _ _ _ _ _ _ _ _ ?_) | (with_reducible refine fw_lp_plan_429 _ _ _ _ _ _ _ _ ?_) | (with_reducible refine fw_lp_plan_631 _ _ _ _ _ _ _ _ _ ?_) | (with_reducible exact (fw_fS _ _ _ _ _ _).p) | (with_reducible exact (fw_fights _).p) | (with_reducible exact (fw_in _ _ _).p) | (with_reducible exact (fw_isWalk _ _).p) | (with_reducible exact (fw_matOf _ _).p) | (with_reducible exact (fw_mayBegin _ _ _).p) | (with_reducible exact (fw_stage _).p) | (with_reducible exact (fw_tires _ _).p) | (with_reducible refine Fw_clr ?_) | (with_reducible refine Fw_clL ?_) | (with_reducible refine Fw_li (fun _ => ?_)) | (with_reducible refine Fw_rf (fun _ => ?_)) | (with_reducible refine Fw_uf (fun _ => ?_)) | (with_reducible refine Fw_rd (fun _ => ?_)) | (with_reducible refine Fw_ud (fun _ => ?_)) | (with_reducible refine Fw_sr (fun _ => ?_)) | (with_reducible refine Fw_wf rfl ?_) | (with_reducible refine Fw_wd rfl ?_) | (with_reducible refine Fw_og ?_) | (with_reducible refine Fw_ite ?_ ?_) | (with_reducible refine Fw_oi (fun _ => ?_)) | (with_reducible refine Fw_ot ?_ (fun _ => ?_)) | (with_reducible refine Fw_cl ?_ (fun _ => ?_)))

theorem fw_planned (a0 : Int32) (a1 : Int32) (a2 : Int32) : Fw kI kA (f_planned a0 a1 a2) := by
  unfold f_planned
  repeat (first | (with_reducible exact Fw_rt _) | (with_reducible intro _) | (with_reducible exact (fw_in _ _ _)) | (with_reducible exact (fw_isFight _ _)) | (with_reducible refine Fw_clr ?_) | (with_reducible refine Fw_clL ?_) | (with_reducible refine Fw_li (fun _ => ?_)) | (with_reducible refine Fw_rf (fun _ => ?_)) | (with_reducible refine Fw_uf (fun _ => ?_)) | (with_reducible refine Fw_rd (fun _ => ?_)) | (with_reducible refine Fw_ud (fun _ => ?_)) | (with_reducible refine Fw_sr (fun _ => ?_)) | (with_reducible refine Fw_wf rfl ?_) | (with_reducible refine Fw_wd rfl ?_) | (with_reducible refine Fw_og ?_) | (with_reducible refine Fw_ite ?_ ?_) | (with_reducible refine Fw_oi (fun _ => ?_)) | (with_reducible refine Fw_ot ?_ (fun _ => ?_)) | (with_reducible refine Fw_cl ?_ (fun _ => ?_)))

theorem fw_lp_count_84 : ∀ (n : Nat) (v1 v2 v3 : Int32) (K0 : Int32 → Int32 → Int32 → PG (Int32)), (∀ (v1 v2 v3 : Int32), Fw kI kA (K0 v1 v2 v3)) → Fw kI kA (lp_count_84 n v1 v2 v3 K0) := by
  intro n
  induction n with
  | zero => intro v1 v2 v3 K0 hK0; exact Fw_no
  | succ n ih =>
    intro v1 v2 v3 K0 hK0
    unfold lp_count_84
    repeat (first | (with_reducible exact Fw_rt _) | (with_reducible intro _) | (with_reducible exact hK0 _ _ _) | (with_reducible exact ih _ _ _ _ hK0) | (with_reducible refine Fw_clr ?_) | (with_reducible refine Fw_clL ?_) | (with_reducible refine Fw_li (fun _ => ?_)) | (with_reducible refine Fw_rf (fun _ => ?_)) | (with_reducible refine Fw_uf (fun _ => ?_)) | (with_reducible refine Fw_rd (fun _ => ?_)) | (with_reducible refine Fw_ud (fun _ => ?_)) | (with_reducible refine Fw_sr (fun _ => ?_)) | (with_reducible refine Fw_wf rfl ?_) | (with_reducible refine Fw_wd rfl ?_) | (with_reducible refine Fw_og ?_) | (with_reducible refine Fw_ite ?_ ?_) | (with_reducible refine Fw_oi (fun _ => ?_)) | (with_reducible refine Fw_ot ?_ (fun _ => ?_)) | (with_reducible refine Fw_cl ?_ (fun _ => ?_)))

theorem fw_count (a0 : Int32) : Fw kI kA (f_count a0) := by
  unfold f_count
  repeat (first | (with_reducible exact Fw_rt _) | (with_reducible intro _) | (with_reducible refine fw_lp_count_84 _ _ _ _ _ ?_) | (with_reducible refine Fw_clr ?_) | (with_reducible refine Fw_clL ?_) | (with_reducible refine Fw_li (fun _ => ?_)) | (with_reducible refine Fw_rf (fun _ => ?_)) | (with_reducible refine Fw_uf (fun _ => ?_)) | (with_reducible refine Fw_rd (fun _ => ?_)) | (with_reducible refine Fw_ud (fun _ => ?_)) | (with_reducible refine Fw_sr (fun _ => ?_)) | (with_reducible refine Fw_wf rfl ?_) | (with_reducible refine Fw_wd rfl ?_) | (with_reducible refine Fw_og ?_) | (with_reducible refine Fw_ite ?_ ?_) | (with_reducible refine Fw_oi (fun _ => ?_)) | (with_reducible refine Fw_ot ?_ (fun _ => ?_)) | (with_reducible refine Fw_cl ?_ (fun _ => ?_)))

theorem fw_wrong (a0 : Int32) (a1 : Int32) : Fw kJ kA (f_wrong a0 a1) := by
  unfold f_wrong
  repeat (first | (with_reducible exact Fw_rt _) | (with_reducible intro _) | (with_reducible refine Fw_clr ?_) | (with_reducible refine Fw_clL ?_) | (with_reducible refine Fw_li (fun _ => ?_)) | (with_reducible refine Fw_rf (fun _ => ?_)) | (with_reducible refine Fw_uf (fun _ => ?_)) | (with_reducible refine Fw_rd (fun _ => ?_)) | (with_reducible refine Fw_ud (fun _ => ?_)) | (with_reducible refine Fw_sr (fun _ => ?_)) | (with_reducible refine Fw_wf rfl ?_) | (with_reducible refine Fw_wd rfl ?_) | (with_reducible refine Fw_og ?_) | (with_reducible refine Fw_ite ?_ ?_) | (with_reducible refine Fw_oi (fun _ => ?_)) | (with_reducible refine Fw_ot ?_ (fun _ => ?_)) | (with_reducible refine Fw_cl ?_ (fun _ => ?_)))

theorem fw_lp_scan_0 : ∀ (n : Nat) (K0 : PG (Int32)), (∀ (_ : Unit), Fw kI kA (K0 )) → Fw kI kA (lp_scan_0 n  K0) := by
  intro n
  induction n with
  | zero => intro  K0 hK0; exact Fw_no
  | succ n ih =>
    intro  K0 hK0
    unfold lp_scan_0
    repeat (first | (with_reducible exact Fw_rt _) | (with_reducible intro _) | (with_reducible exact hK0 ()) | (with_reducible exact ih _ hK0) | (with_reducible exact (fw_byteAt _)) | (with_reducible exact (fw_isDigit _)) | (with_reducible exact (fw_isLetter _)) | (with_reducible refine Fw_clr ?_) | (with_reducible refine Fw_clL ?_) | (with_reducible refine Fw_li (fun _ => ?_)) | (with_reducible refine Fw_rf (fun _ => ?_)) | (with_reducible refine Fw_uf (fun _ => ?_)) | (with_reducible refine Fw_rd (fun _ => ?_)) | (with_reducible refine Fw_ud (fun _ => ?_)) | (with_reducible refine Fw_sr (fun _ => ?_)) | (with_reducible refine Fw_wf rfl ?_) | (with_reducible refine Fw_wd rfl ?_) | (with_reducible refine Fw_og ?_) | (with_reducible refine Fw_ite ?_ ?_) | (with_reducible refine Fw_oi (fun _ => ?_)) | (with_reducible refine Fw_ot ?_ (fun _ => ?_)) | (with_reducible refine Fw_cl ?_ (fun _ => ?_)))

theorem fw_lp_scan_160 : ∀ (n : Nat) (v1 : Int32) (K0 : Int32 → PG (Int32)), (∀ (v1 : Int32), Fw kI kA (K0 v1)) → Fw kI kA (lp_scan_160 n v1 K0) := by
  intro n
  induction n with
  | zero => intro v1 K0 hK0; exact Fw_no
  | succ n ih =>
    intro v1 K0 hK0
    unfold lp_scan_160
    repeat (first | (with_reducible exact Fw_rt _) | (with_reducible intro _) | (with_reducible exact hK0 _) | (with_reducible exact ih _ _ hK0) | (with_reducible refine fw_lp_scan_0 _ _ ?_) | (with_reducible exact (fw_byteAt _)) | (with_reducible exact (fw_isDigit _)) | (with_reducible exact (fw_isLetter _)) | (with_reducible refine Fw_clr ?_) | (with_reducible refine Fw_clL ?_) | (with_reducible refine Fw_li (fun _ => ?_)) | (with_reducible refine Fw_rf (fun _ => ?_)) | (with_reducible refine Fw_uf (fun _ => ?_)) | (with_reducible refine Fw_rd (fun _ => ?_)) | (with_reducible refine Fw_ud (fun _ => ?_)) | (with_reducible refine Fw_sr (fun _ => ?_)) | (with_reducible refine Fw_wf rfl ?_) | (with_reducible refine Fw_wd rfl ?_) | (with_reducible refine Fw_og ?_) | (with_reducible refine Fw_ite ?_ ?_) | (with_reducible refine Fw_oi (fun _ => ?_)) | (with_reducible refine Fw_ot ?_ (fun _ => ?_)) | (with_reducible refine Fw_cl ?_ (fun _ => ?_)))

theorem fw_lp_scan_95 : ∀ (n : Nat) (v1 : Int32) (K0 : Int32 → PG (Int32)), (∀ (v1 : Int32), Fw kI kA (K0 v1)) → Fw kI kA (lp_scan_95 n v1 K0) := by
  intro n
  induction n with
  | zero => intro v1 K0 hK0; exact Fw_no
  | succ n ih =>
    intro v1 K0 hK0
    unfold lp_scan_95
    repeat (first | (with_reducible exact Fw_rt _) | (with_reducible intro _) | (with_reducible exact hK0 _) | (with_reducible exact ih _ _ hK0) | (with_reducible refine fw_lp_scan_0 _ _ ?_) | (with_reducible refine fw_lp_scan_160 _ _ _ ?_) | (with_reducible exact (fw_byteAt _)) | (with_reducible exact (fw_isDigit _)) | (with_reducible exact (fw_isLetter _)) | (with_reducible refine Fw_clr ?_) | (with_reducible refine Fw_clL ?_) | (with_reducible refine Fw_li (fun _ => ?_)) | (with_reducible refine Fw_rf (fun _ => ?_)) | (with_reducible refine Fw_uf (fun _ => ?_)) | (with_reducible refine Fw_rd (fun _ => ?_)) | (with_reducible refine Fw_ud (fun _ => ?_)) | (with_reducible refine Fw_sr (fun _ => ?_)) | (with_reducible refine Fw_wf rfl ?_) | (with_reducible refine Fw_wd rfl ?_) | (with_reducible refine Fw_og ?_) | (with_reducible refine Fw_ite ?_ ?_) | (with_reducible refine Fw_oi (fun _ => ?_)) | (with_reducible refine Fw_ot ?_ (fun _ => ?_)) | (with_reducible refine Fw_cl ?_ (fun _ => ?_)))

theorem fw_scan : Fw kI kA (f_scan) := by
  unfold f_scan
  repeat (first | (with_reducible exact Fw_rt _) | (with_reducible intro _) | (with_reducible refine fw_lp_scan_0 _ _ ?_) | (with_reducible refine fw_lp_scan_160 _ _ _ ?_) | (with_reducible refine fw_lp_scan_95 _ _ _ ?_) | (with_reducible exact (fw_byteAt _)) | (with_reducible exact (fw_isDigit _)) | (with_reducible exact (fw_isLetter _)) | (with_reducible refine Fw_clr ?_) | (with_reducible refine Fw_clL ?_) | (with_reducible refine Fw_li (fun _ => ?_)) | (with_reducible refine Fw_rf (fun _ => ?_)) | (with_reducible refine Fw_uf (fun _ => ?_)) | (with_reducible refine Fw_rd (fun _ => ?_)) | (with_reducible refine Fw_ud (fun _ => ?_)) | (with_reducible refine Fw_sr (fun _ => ?_)) | (with_reducible refine Fw_wf rfl ?_) | (with_reducible refine Fw_wd rfl ?_) | (with_reducible refine Fw_og ?_) | (with_reducible refine Fw_ite ?_ ?_) | (with_reducible refine Fw_oi (fun _ => ?_)) | (with_reducible refine Fw_ot ?_ (fun _ => ?_)) | (with_reducible refine Fw_cl ?_ (fun _ => ?_)))

theorem fw_lp_isText_24 (a0 : Nat) : ∀ (n : Nat) (v2 v3 : Int32) (K0 : Int32 → Int32 → PG (Int32)), (∀ (v2 v3 : Int32), Fw kI kA (K0 v2 v3)) → Fw kI kA (lp_isText_24 a0 n v2 v3 K0) := by
  intro n
  induction n with
  | zero => intro v2 v3 K0 hK0; exact Fw_no
  | succ n ih =>
    intro v2 v3 K0 hK0
    unfold lp_isText_24
    repeat (first | (with_reducible exact Fw_rt _) | (with_reducible intro _) | (with_reducible exact hK0 _ _) | (with_reducible exact ih _ _ _ hK0) | (with_reducible refine Fw_clr ?_) | (with_reducible refine Fw_clL ?_) | (with_reducible refine Fw_li (fun _ => ?_)) | (with_reducible refine Fw_rf (fun _ => ?_)) | (with_reducible refine Fw_uf (fun _ => ?_)) | (with_reducible refine Fw_rd (fun _ => ?_)) | (with_reducible refine Fw_ud (fun _ => ?_)) | (with_reducible refine Fw_sr (fun _ => ?_)) | (with_reducible refine Fw_wf rfl ?_) | (with_reducible refine Fw_wd rfl ?_) | (with_reducible refine Fw_og ?_) | (with_reducible refine Fw_ite ?_ ?_) | (with_reducible refine Fw_oi (fun _ => ?_)) | (with_reducible refine Fw_ot ?_ (fun _ => ?_)) | (with_reducible refine Fw_cl ?_ (fun _ => ?_)))

theorem fw_isText (a0 : Nat) : Fw kI kA (f_isText a0) := by
  unfold f_isText
  repeat (first | (with_reducible exact Fw_rt _) | (with_reducible intro _) | (with_reducible refine fw_lp_isText_24 _ _ _ _ _ ?_) | (with_reducible refine Fw_clr ?_) | (with_reducible refine Fw_clL ?_) | (with_reducible refine Fw_li (fun _ => ?_)) | (with_reducible refine Fw_rf (fun _ => ?_)) | (with_reducible refine Fw_uf (fun _ => ?_)) | (with_reducible refine Fw_rd (fun _ => ?_)) | (with_reducible refine Fw_ud (fun _ => ?_)) | (with_reducible refine Fw_sr (fun _ => ?_)) | (with_reducible refine Fw_wf rfl ?_) | (with_reducible refine Fw_wd rfl ?_) | (with_reducible refine Fw_og ?_) | (with_reducible refine Fw_ite ?_ ?_) | (with_reducible refine Fw_oi (fun _ => ?_)) | (with_reducible refine Fw_ot ?_ (fun _ => ?_)) | (with_reducible refine Fw_cl ?_ (fun _ => ?_)))

theorem fw_is (a0 : Nat) : Fw kI kA (f_is a0) := by
  unfold f_is
  repeat (first | (with_reducible exact Fw_rt _) | (with_reducible intro _) | (with_reducible exact (fw_isText _)) | (with_reducible refine Fw_clr ?_) | (with_reducible refine Fw_clL ?_) | (with_reducible refine Fw_li (fun _ => ?_)) | (with_reducible refine Fw_rf (fun _ => ?_)) | (with_reducible refine Fw_uf (fun _ => ?_)) | (with_reducible refine Fw_rd (fun _ => ?_)) | (with_reducible refine Fw_ud (fun _ => ?_)) | (with_reducible refine Fw_sr (fun _ => ?_)) | (with_reducible refine Fw_wf rfl ?_) | (with_reducible refine Fw_wd rfl ?_) | (with_reducible refine Fw_og ?_) | (with_reducible refine Fw_ite ?_ ?_) | (with_reducible refine Fw_oi (fun _ => ?_)) | (with_reducible refine Fw_ot ?_ (fun _ => ?_)) | (with_reducible refine Fw_cl ?_ (fun _ => ?_)))

theorem fw_need (a0 : Nat) : Fw kJ kA (f_need a0) := by
  unfold f_need
  repeat (first | (with_reducible exact Fw_rt _) | (with_reducible intro _) | (with_reducible exact (fw_is _).j) | (with_reducible exact (fw_scan).j) | (with_reducible exact (fw_wrong _ _)) | (with_reducible refine Fw_clr ?_) | (with_reducible refine Fw_clL ?_) | (with_reducible refine Fw_li (fun _ => ?_)) | (with_reducible refine Fw_rf (fun _ => ?_)) | (with_reducible refine Fw_uf (fun _ => ?_)) | (with_reducible refine Fw_rd (fun _ => ?_)) | (with_reducible refine Fw_ud (fun _ => ?_)) | (with_reducible refine Fw_sr (fun _ => ?_)) | (with_reducible refine Fw_wf rfl ?_) | (with_reducible refine Fw_wd rfl ?_) | (with_reducible refine Fw_og ?_) | (with_reducible refine Fw_ite ?_ ?_) | (with_reducible refine Fw_oi (fun _ => ?_)) | (with_reducible refine Fw_ot ?_ (fun _ => ?_)) | (with_reducible refine Fw_cl ?_ (fun _ => ?_)))

theorem fx_need (a0 : Nat) : Fx kX kN (f_need a0) := by
  unfold f_need
  repeat (first | (with_reducible exact Fx_rn) | (with_reducible exact Fx_rs _) | (with_reducible exact Fx_cn) | (with_reducible intro _) | (with_reducible exact (fw_is _).x) | (with_reducible exact (fw_scan).x) | (with_reducible refine Fx_clL ?_) | (with_reducible refine Fx_li (fun _ => ?_)) | (with_reducible refine Fx_rf (fun _ => ?_)) | (with_reducible refine Fx_rd (fun _ => ?_)) | (with_reducible refine Fx_sr (fun _ => ?_)) | (with_reducible refine Fx_wf rfl ?_) | (with_reducible refine Fx_wd rfl ?_) | (with_reducible refine Fx_og ?_) | (with_reducible refine Fx_ite ?_ ?_) | (with_reducible refine Fx_oi (fun _ => ?_)) | (with_reducible refine Fx_cx ?_ (fun _ => ?_)) | (with_reducible refine Fx_cl ?_ (fun _ => ?_)))

theorem fw_number : Fw kJ kA (f_number) := by
  unfold f_number
  repeat (first | (with_reducible exact Fw_rt _) | (with_reducible intro _) | (with_reducible exact (fw_scan).j) | (with_reducible exact (fw_wrong _ _)) | (with_reducible refine Fw_clr ?_) | (with_reducible refine Fw_clL ?_) | (with_reducible refine Fw_li (fun _ => ?_)) | (with_reducible refine Fw_rf (fun _ => ?_)) | (with_reducible refine Fw_uf (fun _ => ?_)) | (with_reducible refine Fw_rd (fun _ => ?_)) | (with_reducible refine Fw_ud (fun _ => ?_)) | (with_reducible refine Fw_sr (fun _ => ?_)) | (with_reducible refine Fw_wf rfl ?_) | (with_reducible refine Fw_wd rfl ?_) | (with_reducible refine Fw_og ?_) | (with_reducible refine Fw_ite ?_ ?_) | (with_reducible refine Fw_oi (fun _ => ?_)) | (with_reducible refine Fw_ot ?_ (fun _ => ?_)) | (with_reducible refine Fw_cl ?_ (fun _ => ?_)))

theorem fx_number : Fx kX kN (f_number) := by
  unfold f_number
  repeat (first | (with_reducible exact Fx_rn) | (with_reducible exact Fx_rs _) | (with_reducible exact Fx_cn) | (with_reducible intro _) | (with_reducible exact (fw_scan).x) | (with_reducible refine Fx_clL ?_) | (with_reducible refine Fx_li (fun _ => ?_)) | (with_reducible refine Fx_rf (fun _ => ?_)) | (with_reducible refine Fx_rd (fun _ => ?_)) | (with_reducible refine Fx_sr (fun _ => ?_)) | (with_reducible refine Fx_wf rfl ?_) | (with_reducible refine Fx_wd rfl ?_) | (with_reducible refine Fx_og ?_) | (with_reducible refine Fx_ite ?_ ?_) | (with_reducible refine Fx_oi (fun _ => ?_)) | (with_reducible refine Fx_cx ?_ (fun _ => ?_)) | (with_reducible refine Fx_cl ?_ (fun _ => ?_)))

theorem fw_isQuoted : Fw kI kA (f_isQuoted) := by
  unfold f_isQuoted
  repeat (first | (with_reducible exact Fw_rt _) | (with_reducible intro _) | (with_reducible exact (fw_is _)) | (with_reducible refine Fw_clr ?_) | (with_reducible refine Fw_clL ?_) | (with_reducible refine Fw_li (fun _ => ?_)) | (with_reducible refine Fw_rf (fun _ => ?_)) | (with_reducible refine Fw_uf (fun _ => ?_)) | (with_reducible refine Fw_rd (fun _ => ?_)) | (with_reducible refine Fw_ud (fun _ => ?_)) | (with_reducible refine Fw_sr (fun _ => ?_)) | (with_reducible refine Fw_wf rfl ?_) | (with_reducible refine Fw_wd rfl ?_) | (with_reducible refine Fw_og ?_) | (with_reducible refine Fw_ite ?_ ?_) | (with_reducible refine Fw_oi (fun _ => ?_)) | (with_reducible refine Fw_ot ?_ (fun _ => ?_)) | (with_reducible refine Fw_cl ?_ (fun _ => ?_)))

theorem fw_lp_findSign_36 : ∀ (n : Nat) (v1 v2 v3 : Int32) (K0 : Int32 → Int32 → Int32 → PG (Int32)), (∀ (v1 v2 v3 : Int32), Fw kI kA (K0 v1 v2 v3)) → Fw kI kA (lp_findSign_36 n v1 v2 v3 K0) := by
  intro n
  induction n with
  | zero => intro v1 v2 v3 K0 hK0; exact Fw_no
  | succ n ih =>
    intro v1 v2 v3 K0 hK0
    unfold lp_findSign_36
    repeat (first | (with_reducible exact Fw_rt _) | (with_reducible intro _) | (with_reducible exact hK0 _ _ _) | (with_reducible exact ih _ _ _ _ hK0) | (with_reducible refine Fw_clr ?_) | (with_reducible refine Fw_clL ?_) | (with_reducible refine Fw_li (fun _ => ?_)) | (with_reducible refine Fw_rf (fun _ => ?_)) | (with_reducible refine Fw_uf (fun _ => ?_)) | (with_reducible refine Fw_rd (fun _ => ?_)) | (with_reducible refine Fw_ud (fun _ => ?_)) | (with_reducible refine Fw_sr (fun _ => ?_)) | (with_reducible refine Fw_wf rfl ?_) | (with_reducible refine Fw_wd rfl ?_) | (with_reducible refine Fw_og ?_) | (with_reducible refine Fw_ite ?_ ?_) | (with_reducible refine Fw_oi (fun _ => ?_)) | (with_reducible refine Fw_ot ?_ (fun _ => ?_)) | (with_reducible refine Fw_cl ?_ (fun _ => ?_)))

theorem fw_lp_findSign_2 : ∀ (n : Nat) (v1 : Int32) (K0 : Int32 → PG (Int32)), (∀ (v1 : Int32), Fw kI kA (K0 v1)) → Fw kI kA (lp_findSign_2 n v1 K0) := by
  intro n
  induction n with
  | zero => intro v1 K0 hK0; exact Fw_no
  | succ n ih =>
    intro v1 K0 hK0
    unfold lp_findSign_2
    repeat (first | (with_reducible exact Fw_rt _) | (with_reducible intro _) | (with_reducible exact hK0 _) | (with_reducible exact ih _ _ hK0) | (with_reducible refine fw_lp_findSign_36 _ _ _ _ _ ?_) | (with_reducible refine Fw_clr ?_) | (with_reducible refine Fw_clL ?_) | (with_reducible refine Fw_li (fun _ => ?_)) | (with_reducible refine Fw_rf (fun _ => ?_)) | (with_reducible refine Fw_uf (fun _ => ?_)) | (with_reducible refine Fw_rd (fun _ => ?_)) | (with_reducible refine Fw_ud (fun _ => ?_)) | (with_reducible refine Fw_sr (fun _ => ?_)) | (with_reducible refine Fw_wf rfl ?_) | (with_reducible refine Fw_wd rfl ?_) | (with_reducible refine Fw_og ?_) | (with_reducible refine Fw_ite ?_ ?_) | (with_reducible refine Fw_oi (fun _ => ?_)) | (with_reducible refine Fw_ot ?_ (fun _ => ?_)) | (with_reducible refine Fw_cl ?_ (fun _ => ?_)))

theorem fw_findSign : Fw kI kA (f_findSign) := by
  unfold f_findSign
  repeat (first | (with_reducible exact Fw_rt _) | (with_reducible intro _) | (with_reducible refine fw_lp_findSign_36 _ _ _ _ _ ?_) | (with_reducible refine fw_lp_findSign_2 _ _ _ ?_) | (with_reducible refine Fw_clr ?_) | (with_reducible refine Fw_clL ?_) | (with_reducible refine Fw_li (fun _ => ?_)) | (with_reducible refine Fw_rf (fun _ => ?_)) | (with_reducible refine Fw_uf (fun _ => ?_)) | (with_reducible refine Fw_rd (fun _ => ?_)) | (with_reducible refine Fw_ud (fun _ => ?_)) | (with_reducible refine Fw_sr (fun _ => ?_)) | (with_reducible refine Fw_wf rfl ?_) | (with_reducible refine Fw_wd rfl ?_) | (with_reducible refine Fw_og ?_) | (with_reducible refine Fw_ite ?_ ?_) | (with_reducible refine Fw_oi (fun _ => ?_)) | (with_reducible refine Fw_ot ?_ (fun _ => ?_)) | (with_reducible refine Fw_cl ?_ (fun _ => ?_)))

theorem fw_name : Fw kJ kA (f_name) := by
  unfold f_name
  repeat (first | (with_reducible exact Fw_rt _) | (with_reducible intro _) | (with_reducible exact (fw_isQuoted).j) | (with_reducible exact (fw_wrong _ _)) | (with_reducible refine Fw_clr ?_) | (with_reducible refine Fw_clL ?_) | (with_reducible refine Fw_li (fun _ => ?_)) | (with_reducible refine Fw_rf (fun _ => ?_)) | (with_reducible refine Fw_uf (fun _ => ?_)) | (with_reducible refine Fw_rd (fun _ => ?_)) | (with_reducible refine Fw_ud (fun _ => ?_)) | (with_reducible refine Fw_sr (fun _ => ?_)) | (with_reducible refine Fw_wf rfl ?_) | (with_reducible refine Fw_wd rfl ?_) | (with_reducible refine Fw_og ?_) | (with_reducible refine Fw_ite ?_ ?_) | (with_reducible refine Fw_oi (fun _ => ?_)) | (with_reducible refine Fw_ot ?_ (fun _ => ?_)) | (with_reducible refine Fw_cl ?_ (fun _ => ?_)))

theorem fx_name : Fx kX kN (f_name) := by
  unfold f_name
  repeat (first | (with_reducible exact Fx_rn) | (with_reducible exact Fx_rs _) | (with_reducible exact Fx_cn) | (with_reducible intro _) | (with_reducible exact (fw_isQuoted).x) | (with_reducible refine Fx_clL ?_) | (with_reducible refine Fx_li (fun _ => ?_)) | (with_reducible refine Fx_rf (fun _ => ?_)) | (with_reducible refine Fx_rd (fun _ => ?_)) | (with_reducible refine Fx_sr (fun _ => ?_)) | (with_reducible refine Fx_wf rfl ?_) | (with_reducible refine Fx_wd rfl ?_) | (with_reducible refine Fx_og ?_) | (with_reducible refine Fx_ite ?_ ?_) | (with_reducible refine Fx_oi (fun _ => ?_)) | (with_reducible refine Fx_cx ?_ (fun _ => ?_)) | (with_reducible refine Fx_cl ?_ (fun _ => ?_)))

theorem fw_counts : Fw kJ kA (f_counts) := by
  unfold f_counts
  repeat (first | (with_reducible exact Fw_rt _) | (with_reducible intro _) | (with_reducible exact (fw_wrong _ _)) | (with_reducible refine Fw_clr ?_) | (with_reducible refine Fw_clL ?_) | (with_reducible refine Fw_li (fun _ => ?_)) | (with_reducible refine Fw_rf (fun _ => ?_)) | (with_reducible refine Fw_uf (fun _ => ?_)) | (with_reducible refine Fw_rd (fun _ => ?_)) | (with_reducible refine Fw_ud (fun _ => ?_)) | (with_reducible refine Fw_sr (fun _ => ?_)) | (with_reducible refine Fw_wf rfl ?_) | (with_reducible refine Fw_wd rfl ?_) | (with_reducible refine Fw_og ?_) | (with_reducible refine Fw_ite ?_ ?_) | (with_reducible refine Fw_oi (fun _ => ?_)) | (with_reducible refine Fw_ot ?_ (fun _ => ?_)) | (with_reducible refine Fw_cl ?_ (fun _ => ?_)))

theorem fx_counts : Fx kX kN (f_counts) := by
  unfold f_counts
  repeat (first | (with_reducible exact Fx_rn) | (with_reducible exact Fx_rs _) | (with_reducible exact Fx_cn) | (with_reducible intro _) | (with_reducible refine Fx_clL ?_) | (with_reducible refine Fx_li (fun _ => ?_)) | (with_reducible refine Fx_rf (fun _ => ?_)) | (with_reducible refine Fx_rd (fun _ => ?_)) | (with_reducible refine Fx_sr (fun _ => ?_)) | (with_reducible refine Fx_wf rfl ?_) | (with_reducible refine Fx_wd rfl ?_) | (with_reducible refine Fx_og ?_) | (with_reducible refine Fx_ite ?_ ?_) | (with_reducible refine Fx_oi (fun _ => ?_)) | (with_reducible refine Fx_cx ?_ (fun _ => ?_)) | (with_reducible refine Fx_cl ?_ (fun _ => ?_)))

theorem fw_hold : Fw kJ kA (f_hold) := by
  unfold f_hold
  repeat (first | (with_reducible exact Fw_rt _) | (with_reducible intro _) | (with_reducible exact (fw_counts)) | (with_reducible refine Fw_clr ?_) | (with_reducible refine Fw_clL ?_) | (with_reducible refine Fw_li (fun _ => ?_)) | (with_reducible refine Fw_rf (fun _ => ?_)) | (with_reducible refine Fw_uf (fun _ => ?_)) | (with_reducible refine Fw_rd (fun _ => ?_)) | (with_reducible refine Fw_ud (fun _ => ?_)) | (with_reducible refine Fw_sr (fun _ => ?_)) | (with_reducible refine Fw_wf rfl ?_) | (with_reducible refine Fw_wd rfl ?_) | (with_reducible refine Fw_og ?_) | (with_reducible refine Fw_ite ?_ ?_) | (with_reducible refine Fw_oi (fun _ => ?_)) | (with_reducible refine Fw_ot ?_ (fun _ => ?_)) | (with_reducible refine Fw_cl ?_ (fun _ => ?_)))

theorem fx_hold : Fx kX kN (f_hold) := by
  unfold f_hold
  repeat (first | (with_reducible exact Fx_rn) | (with_reducible exact Fx_rs _) | (with_reducible exact Fx_cn) | (with_reducible intro _) | (with_reducible exact (fx_counts)) | (with_reducible refine Fx_clL ?_) | (with_reducible refine Fx_li (fun _ => ?_)) | (with_reducible refine Fx_rf (fun _ => ?_)) | (with_reducible refine Fx_rd (fun _ => ?_)) | (with_reducible refine Fx_sr (fun _ => ?_)) | (with_reducible refine Fx_wf rfl ?_) | (with_reducible refine Fx_wd rfl ?_) | (with_reducible refine Fx_og ?_) | (with_reducible refine Fx_ite ?_ ?_) | (with_reducible refine Fx_oi (fun _ => ?_)) | (with_reducible refine Fx_cx ?_ (fun _ => ?_)) | (with_reducible refine Fx_cl ?_ (fun _ => ?_)))

theorem fw_opens : Fw kJ kA (f_opens) := by
  unfold f_opens
  repeat (first | (with_reducible exact Fw_rt _) | (with_reducible intro _) | (with_reducible exact (fw_scan).j) | (with_reducible exact (fw_wrong _ _)) | (with_reducible refine Fw_clr ?_) | (with_reducible refine Fw_clL ?_) | (with_reducible refine Fw_li (fun _ => ?_)) | (with_reducible refine Fw_rf (fun _ => ?_)) | (with_reducible refine Fw_uf (fun _ => ?_)) | (with_reducible refine Fw_rd (fun _ => ?_)) | (with_reducible refine Fw_ud (fun _ => ?_)) | (with_reducible refine Fw_sr (fun _ => ?_)) | (with_reducible refine Fw_wf rfl ?_) | (with_reducible refine Fw_wd rfl ?_) | (with_reducible refine Fw_og ?_) | (with_reducible refine Fw_ite ?_ ?_) | (with_reducible refine Fw_oi (fun _ => ?_)) | (with_reducible refine Fw_ot ?_ (fun _ => ?_)) | (with_reducible refine Fw_cl ?_ (fun _ => ?_)))

theorem fx_opens : Fx kX kN (f_opens) := by
  unfold f_opens
  repeat (first | (with_reducible exact Fx_rn) | (with_reducible exact Fx_rs _) | (with_reducible exact Fx_cn) | (with_reducible intro _) | (with_reducible exact (fw_scan).x) | (with_reducible refine Fx_clL ?_) | (with_reducible refine Fx_li (fun _ => ?_)) | (with_reducible refine Fx_rf (fun _ => ?_)) | (with_reducible refine Fx_rd (fun _ => ?_)) | (with_reducible refine Fx_sr (fun _ => ?_)) | (with_reducible refine Fx_wf rfl ?_) | (with_reducible refine Fx_wd rfl ?_) | (with_reducible refine Fx_og ?_) | (with_reducible refine Fx_ite ?_ ?_) | (with_reducible refine Fx_oi (fun _ => ?_)) | (with_reducible refine Fx_cx ?_ (fun _ => ?_)) | (with_reducible refine Fx_cl ?_ (fun _ => ?_)))

theorem fw_readTerm : Fw kJ kA (f_readTerm) := by
  unfold f_readTerm
  repeat (first | (with_reducible exact Fw_rt _) | (with_reducible intro _) | (with_reducible exact (fw_counts)) | (with_reducible exact (fw_findSign).j) | (with_reducible exact (fw_is _).j) | (with_reducible exact (fw_name)) | (with_reducible exact (fw_put _ _).j) | (with_reducible exact (fw_scan).j) | (with_reducible exact (fw_wrong _ _)) | (with_reducible refine Fw_clr ?_) | (with_reducible refine Fw_clL ?_) | (with_reducible refine Fw_li (fun _ => ?_)) | (with_reducible refine Fw_rf (fun _ => ?_)) | (with_reducible refine Fw_uf (fun _ => ?_)) | (with_reducible refine Fw_rd (fun _ => ?_)) | (with_reducible refine Fw_ud (fun _ => ?_)) | (with_reducible refine Fw_sr (fun _ => ?_)) | (with_reducible refine Fw_wf rfl ?_) | (with_reducible refine Fw_wd rfl ?_) | (with_reducible refine Fw_og ?_) | (with_reducible refine Fw_ite ?_ ?_) | (with_reducible refine Fw_oi (fun _ => ?_)) | (with_reducible refine Fw_ot ?_ (fun _ => ?_)) | (with_reducible refine Fw_cl ?_ (fun _ => ?_)))

theorem fx_readTerm : Fx kX kN (f_readTerm) := by
  unfold f_readTerm
  repeat (first | (with_reducible exact Fx_rn) | (with_reducible exact Fx_rs _) | (with_reducible exact Fx_cn) | (with_reducible intro _) | (with_reducible exact (fw_findSign).x) | (with_reducible exact (fw_is _).x) | (with_reducible exact (fw_put _ _).x) | (with_reducible exact (fw_scan).x) | (with_reducible exact (fx_counts)) | (with_reducible exact (fx_name)) | (with_reducible refine Fx_clL ?_) | (with_reducible refine Fx_li (fun _ => ?_)) | (with_reducible refine Fx_rf (fun _ => ?_)) | (with_reducible refine Fx_rd (fun _ => ?_)) | (with_reducible refine Fx_sr (fun _ => ?_)) | (with_reducible refine Fx_wf rfl ?_) | (with_reducible refine Fx_wd rfl ?_) | (with_reducible refine Fx_og ?_) | (with_reducible refine Fx_ite ?_ ?_) | (with_reducible refine Fx_oi (fun _ => ?_)) | (with_reducible refine Fx_cx ?_ (fun _ => ?_)) | (with_reducible refine Fx_cl ?_ (fun _ => ?_)))

theorem fw_lp_readSum_4 : ∀ (n : Nat) (K0 : PG (Option Int32)), (∀ (_ : Unit), Fw kJ kA (K0 )) → Fw kJ kA (lp_readSum_4 n  K0) := by
  intro n
  induction n with
  | zero => intro  K0 hK0; exact Fw_no
  | succ n ih =>
    intro  K0 hK0
    unfold lp_readSum_4
    repeat (first | (with_reducible exact Fw_rt _) | (with_reducible intro _) | (with_reducible exact hK0 ()) | (with_reducible exact ih _ hK0) | (with_reducible exact (fw_hold)) | (with_reducible exact (fw_is _).j) | (with_reducible exact (fw_readTerm)) | (with_reducible exact (fw_release _).j) | (with_reducible exact (fw_scan).j) | (with_reducible refine Fw_clr ?_) | (with_reducible refine Fw_clL ?_) | (with_reducible refine Fw_li (fun _ => ?_)) | (with_reducible refine Fw_rf (fun _ => ?_)) | (with_reducible refine Fw_uf (fun _ => ?_)) | (with_reducible refine Fw_rd (fun _ => ?_)) | (with_reducible refine Fw_ud (fun _ => ?_)) | (with_reducible refine Fw_sr (fun _ => ?_)) | (with_reducible refine Fw_wf rfl ?_) | (with_reducible refine Fw_wd rfl ?_) | (with_reducible refine Fw_og ?_) | (with_reducible refine Fw_ite ?_ ?_) | (with_reducible refine Fw_oi (fun _ => ?_)) | (with_reducible refine Fw_ot ?_ (fun _ => ?_)) | (with_reducible refine Fw_cl ?_ (fun _ => ?_)))

theorem fw_readSum : Fw kJ kA (f_readSum) := by
  unfold f_readSum
  repeat (first | (with_reducible exact Fw_rt _) | (with_reducible intro _) | (with_reducible refine fw_lp_readSum_4 _ _ ?_) | (with_reducible exact (fw_hold)) | (with_reducible exact (fw_is _).j) | (with_reducible exact (fw_readTerm)) | (with_reducible exact (fw_release _).j) | (with_reducible exact (fw_scan).j) | (with_reducible refine Fw_clr ?_) | (with_reducible refine Fw_clL ?_) | (with_reducible refine Fw_li (fun _ => ?_)) | (with_reducible refine Fw_rf (fun _ => ?_)) | (with_reducible refine Fw_uf (fun _ => ?_)) | (with_reducible refine Fw_rd (fun _ => ?_)) | (with_reducible refine Fw_ud (fun _ => ?_)) | (with_reducible refine Fw_sr (fun _ => ?_)) | (with_reducible refine Fw_wf rfl ?_) | (with_reducible refine Fw_wd rfl ?_) | (with_reducible refine Fw_og ?_) | (with_reducible refine Fw_ite ?_ ?_) | (with_reducible refine Fw_oi (fun _ => ?_)) | (with_reducible refine Fw_ot ?_ (fun _ => ?_)) | (with_reducible refine Fw_cl ?_ (fun _ => ?_)))

theorem fx_lp_readSum_4 : ∀ (n : Nat) (K0 : PG (Option Int32)), (∀ (_ : Unit), Fx kX kN (K0 )) → Fx kX kN (lp_readSum_4 n  K0) := by
  intro n
  induction n with
  | zero => intro  K0 hK0; exact Fx_no
  | succ n ih =>
    intro  K0 hK0
    unfold lp_readSum_4
    repeat (first | (with_reducible exact Fx_rn) | (with_reducible exact Fx_rs _) | (with_reducible exact Fx_cn) | (with_reducible intro _) | (with_reducible exact hK0 ()) | (with_reducible exact ih _ hK0) | (with_reducible exact (fw_is _).x) | (with_reducible exact (fw_release _).x) | (with_reducible exact (fw_scan).x) | (with_reducible exact (fx_hold)) | (with_reducible exact (fx_readTerm)) | (with_reducible refine Fx_clL ?_) | (with_reducible refine Fx_li (fun _ => ?_)) | (with_reducible refine Fx_rf (fun _ => ?_)) | (with_reducible refine Fx_rd (fun _ => ?_)) | (with_reducible refine Fx_sr (fun _ => ?_)) | (with_reducible refine Fx_wf rfl ?_) | (with_reducible refine Fx_wd rfl ?_) | (with_reducible refine Fx_og ?_) | (with_reducible refine Fx_ite ?_ ?_) | (with_reducible refine Fx_oi (fun _ => ?_)) | (with_reducible refine Fx_cx ?_ (fun _ => ?_)) | (with_reducible refine Fx_cl ?_ (fun _ => ?_)))

theorem fx_readSum : Fx kX kN (f_readSum) := by
  unfold f_readSum
  repeat (first | (with_reducible exact Fx_rn) | (with_reducible exact Fx_rs _) | (with_reducible exact Fx_cn) | (with_reducible intro _) | (with_reducible refine fx_lp_readSum_4 _ _ ?_) | (with_reducible exact (fw_is _).x) | (with_reducible exact (fw_release _).x) | (with_reducible exact (fw_scan).x) | (with_reducible exact (fx_hold)) | (with_reducible exact (fx_readTerm)) | (with_reducible refine Fx_clL ?_) | (with_reducible refine Fx_li (fun _ => ?_)) | (with_reducible refine Fx_rf (fun _ => ?_)) | (with_reducible refine Fx_rd (fun _ => ?_)) | (with_reducible refine Fx_sr (fun _ => ?_)) | (with_reducible refine Fx_wf rfl ?_) | (with_reducible refine Fx_wd rfl ?_) | (with_reducible refine Fx_og ?_) | (with_reducible refine Fx_ite ?_ ?_) | (with_reducible refine Fx_oi (fun _ => ?_)) | (with_reducible refine Fx_cx ?_ (fun _ => ?_)) | (with_reducible refine Fx_cl ?_ (fun _ => ?_)))

theorem fw_lp_readOr_4 (F : Nat → Int32 → Int32 → Int32 → Int32 → PG (Option Int32)) (hFd : ∀ w a b d e, Fw kJ kA (F w a b d e)) : ∀ (n : Nat) (K0 : PG (Option Int32)), (∀ (_ : Unit), Fw kJ kA (K0 )) → Fw kJ kA (lp_readOr_4 F n  K0) := by
  intro n
  induction n with
  | zero => intro  K0 hK0; exact Fw_no
  | succ n ih =>
    intro  K0 hK0
    unfold lp_readOr_4
    repeat (first | (with_reducible exact Fw_rt _) | (with_reducible intro _) | (with_reducible exact hK0 ()) | (with_reducible exact ih _ hK0) | (with_reducible exact (fw_hold)) | (with_reducible exact (fw_is _).j) | (with_reducible exact (fw_release _).j) | (with_reducible exact (fw_scan).j) | (with_reducible exact hFd _ _ _ _ _) | (with_reducible refine Fw_clr ?_) | (with_reducible refine Fw_clL ?_) | (with_reducible refine Fw_li (fun _ => ?_)) | (with_reducible refine Fw_rf (fun _ => ?_)) | (with_reducible refine Fw_uf (fun _ => ?_)) | (with_reducible refine Fw_rd (fun _ => ?_)) | (with_reducible refine Fw_ud (fun _ => ?_)) | (with_reducible refine Fw_sr (fun _ => ?_)) | (with_reducible refine Fw_wf rfl ?_) | (with_reducible refine Fw_wd rfl ?_) | (with_reducible refine Fw_og ?_) | (with_reducible refine Fw_ite ?_ ?_) | (with_reducible refine Fw_oi (fun _ => ?_)) | (with_reducible refine Fw_ot ?_ (fun _ => ?_)) | (with_reducible refine Fw_cl ?_ (fun _ => ?_)))

theorem fw_bd_readOr (F : Nat → Int32 → Int32 → Int32 → Int32 → PG (Option Int32)) (hFd : ∀ w a b d e, Fw kJ kA (F w a b d e)) : Fw kJ kA (bd_readOr F) := by
  unfold bd_readOr
  repeat (first | (with_reducible exact Fw_rt _) | (with_reducible intro _) | (with_reducible refine fw_lp_readOr_4 F hFd _ _ ?_) | (with_reducible exact (fw_hold)) | (with_reducible exact (fw_is _).j) | (with_reducible exact (fw_release _).j) | (with_reducible exact (fw_scan).j) | (with_reducible exact hFd _ _ _ _ _) | (with_reducible refine Fw_clr ?_) | (with_reducible refine Fw_clL ?_) | (with_reducible refine Fw_li (fun _ => ?_)) | (with_reducible refine Fw_rf (fun _ => ?_)) | (with_reducible refine Fw_uf (fun _ => ?_)) | (with_reducible refine Fw_rd (fun _ => ?_)) | (with_reducible refine Fw_ud (fun _ => ?_)) | (with_reducible refine Fw_sr (fun _ => ?_)) | (with_reducible refine Fw_wf rfl ?_) | (with_reducible refine Fw_wd rfl ?_) | (with_reducible refine Fw_og ?_) | (with_reducible refine Fw_ite ?_ ?_) | (with_reducible refine Fw_oi (fun _ => ?_)) | (with_reducible refine Fw_ot ?_ (fun _ => ?_)) | (with_reducible refine Fw_cl ?_ (fun _ => ?_)))

theorem fw_lp_readAnd_4 (F : Nat → Int32 → Int32 → Int32 → Int32 → PG (Option Int32)) (hFd : ∀ w a b d e, Fw kJ kA (F w a b d e)) : ∀ (n : Nat) (K0 : PG (Option Int32)), (∀ (_ : Unit), Fw kJ kA (K0 )) → Fw kJ kA (lp_readAnd_4 F n  K0) := by
  intro n
  induction n with
  | zero => intro  K0 hK0; exact Fw_no
  | succ n ih =>
    intro  K0 hK0
    unfold lp_readAnd_4
    repeat (first | (with_reducible exact Fw_rt _) | (with_reducible intro _) | (with_reducible exact hK0 ()) | (with_reducible exact ih _ hK0) | (with_reducible exact (fw_hold)) | (with_reducible exact (fw_is _).j) | (with_reducible exact (fw_release _).j) | (with_reducible exact (fw_scan).j) | (with_reducible exact hFd _ _ _ _ _) | (with_reducible refine Fw_clr ?_) | (with_reducible refine Fw_clL ?_) | (with_reducible refine Fw_li (fun _ => ?_)) | (with_reducible refine Fw_rf (fun _ => ?_)) | (with_reducible refine Fw_uf (fun _ => ?_)) | (with_reducible refine Fw_rd (fun _ => ?_)) | (with_reducible refine Fw_ud (fun _ => ?_)) | (with_reducible refine Fw_sr (fun _ => ?_)) | (with_reducible refine Fw_wf rfl ?_) | (with_reducible refine Fw_wd rfl ?_) | (with_reducible refine Fw_og ?_) | (with_reducible refine Fw_ite ?_ ?_) | (with_reducible refine Fw_oi (fun _ => ?_)) | (with_reducible refine Fw_ot ?_ (fun _ => ?_)) | (with_reducible refine Fw_cl ?_ (fun _ => ?_)))

theorem fw_bd_readAnd (F : Nat → Int32 → Int32 → Int32 → Int32 → PG (Option Int32)) (hFd : ∀ w a b d e, Fw kJ kA (F w a b d e)) : Fw kJ kA (bd_readAnd F) := by
  unfold bd_readAnd
  repeat (first | (with_reducible exact Fw_rt _) | (with_reducible intro _) | (with_reducible refine fw_lp_readAnd_4 F hFd _ _ ?_) | (with_reducible exact (fw_hold)) | (with_reducible exact (fw_is _).j) | (with_reducible exact (fw_release _).j) | (with_reducible exact (fw_scan).j) | (with_reducible exact hFd _ _ _ _ _) | (with_reducible refine Fw_clr ?_) | (with_reducible refine Fw_clL ?_) | (with_reducible refine Fw_li (fun _ => ?_)) | (with_reducible refine Fw_rf (fun _ => ?_)) | (with_reducible refine Fw_uf (fun _ => ?_)) | (with_reducible refine Fw_rd (fun _ => ?_)) | (with_reducible refine Fw_ud (fun _ => ?_)) | (with_reducible refine Fw_sr (fun _ => ?_)) | (with_reducible refine Fw_wf rfl ?_) | (with_reducible refine Fw_wd rfl ?_) | (with_reducible refine Fw_og ?_) | (with_reducible refine Fw_ite ?_ ?_) | (with_reducible refine Fw_oi (fun _ => ?_)) | (with_reducible refine Fw_ot ?_ (fun _ => ?_)) | (with_reducible refine Fw_cl ?_ (fun _ => ?_)))

theorem fw_bd_readNot (F : Nat → Int32 → Int32 → Int32 → Int32 → PG (Option Int32)) (hFd : ∀ w a b d e, Fw kJ kA (F w a b d e)) : Fw kJ kA (bd_readNot F) := by
  unfold bd_readNot
  repeat (first | (with_reducible exact Fw_rt _) | (with_reducible intro _) | (with_reducible exact (fw_counts)) | (with_reducible exact (fw_hold)) | (with_reducible exact (fw_is _).j) | (with_reducible exact (fw_need _)) | (with_reducible exact (fw_opens)) | (with_reducible exact (fw_put _ _).j) | (with_reducible exact (fw_readSum)) | (with_reducible exact (fw_release _).j) | (with_reducible exact (fw_scan).j) | (with_reducible exact (fw_wrong _ _)) | (with_reducible exact hFd _ _ _ _ _) | (with_reducible refine Fw_clr ?_) | (with_reducible refine Fw_clL ?_) | (with_reducible refine Fw_li (fun _ => ?_)) | (with_reducible refine Fw_rf (fun _ => ?_)) | (with_reducible refine Fw_uf (fun _ => ?_)) | (with_reducible refine Fw_rd (fun _ => ?_)) | (with_reducible refine Fw_ud (fun _ => ?_)) | (with_reducible refine Fw_sr (fun _ => ?_)) | (with_reducible refine Fw_wf rfl ?_) | (with_reducible refine Fw_wd rfl ?_) | (with_reducible refine Fw_og ?_) | (with_reducible refine Fw_ite ?_ ?_) | (with_reducible refine Fw_oi (fun _ => ?_)) | (with_reducible refine Fw_ot ?_ (fun _ => ?_)) | (with_reducible refine Fw_cl ?_ (fun _ => ?_)))

theorem fw_fP : ∀ (d w : Nat) (a0 a1 a2 a3 : Int32), Fw kJ kA (fP d w a0 a1 a2 a3) := by
  intro d
  induction d with
  | zero => intro w a0 a1 a2 a3; exact Fw_no
  | succ d ih =>
    intro w a0 a1 a2 a3
    unfold fP
    repeat (first | (with_reducible refine Fw_ite ?_ ?_) | (with_reducible exact fw_bd_readOr _ ih) | (with_reducible exact fw_bd_readAnd _ ih) | (with_reducible exact fw_bd_readNot _ ih))

theorem fx_lp_readOr_4 (F : Nat → Int32 → Int32 → Int32 → Int32 → PG (Option Int32)) (hFd : ∀ w a b d e, Fx kX kN (F w a b d e)) : ∀ (n : Nat) (K0 : PG (Option Int32)), (∀ (_ : Unit), Fx kX kN (K0 )) → Fx kX kN (lp_readOr_4 F n  K0) := by
  intro n
  induction n with
  | zero => intro  K0 hK0; exact Fx_no
  | succ n ih =>
    intro  K0 hK0
    unfold lp_readOr_4
    repeat (first | (with_reducible exact Fx_rn) | (with_reducible exact Fx_rs _) | (with_reducible exact Fx_cn) | (with_reducible intro _) | (with_reducible exact hK0 ()) | (with_reducible exact ih _ hK0) | (with_reducible exact (fw_is _).x) | (with_reducible exact (fw_release _).x) | (with_reducible exact (fw_scan).x) | (with_reducible exact (fx_hold)) | (with_reducible exact hFd _ _ _ _ _) | (with_reducible refine Fx_clL ?_) | (with_reducible refine Fx_li (fun _ => ?_)) | (with_reducible refine Fx_rf (fun _ => ?_)) | (with_reducible refine Fx_rd (fun _ => ?_)) | (with_reducible refine Fx_sr (fun _ => ?_)) | (with_reducible refine Fx_wf rfl ?_) | (with_reducible refine Fx_wd rfl ?_) | (with_reducible refine Fx_og ?_) | (with_reducible refine Fx_ite ?_ ?_) | (with_reducible refine Fx_oi (fun _ => ?_)) | (with_reducible refine Fx_cx ?_ (fun _ => ?_)) | (with_reducible refine Fx_cl ?_ (fun _ => ?_)))

theorem fx_bd_readOr (F : Nat → Int32 → Int32 → Int32 → Int32 → PG (Option Int32)) (hFd : ∀ w a b d e, Fx kX kN (F w a b d e)) : Fx kX kN (bd_readOr F) := by
  unfold bd_readOr
  repeat (first | (with_reducible exact Fx_rn) | (with_reducible exact Fx_rs _) | (with_reducible exact Fx_cn) | (with_reducible intro _) | (with_reducible refine fx_lp_readOr_4 F hFd _ _ ?_) | (with_reducible exact (fw_is _).x) | (with_reducible exact (fw_release _).x) | (with_reducible exact (fw_scan).x) | (with_reducible exact (fx_hold)) | (with_reducible exact hFd _ _ _ _ _) | (with_reducible refine Fx_clL ?_) | (with_reducible refine Fx_li (fun _ => ?_)) | (with_reducible refine Fx_rf (fun _ => ?_)) | (with_reducible refine Fx_rd (fun _ => ?_)) | (with_reducible refine Fx_sr (fun _ => ?_)) | (with_reducible refine Fx_wf rfl ?_) | (with_reducible refine Fx_wd rfl ?_) | (with_reducible refine Fx_og ?_) | (with_reducible refine Fx_ite ?_ ?_) | (with_reducible refine Fx_oi (fun _ => ?_)) | (with_reducible refine Fx_cx ?_ (fun _ => ?_)) | (with_reducible refine Fx_cl ?_ (fun _ => ?_)))

theorem fx_lp_readAnd_4 (F : Nat → Int32 → Int32 → Int32 → Int32 → PG (Option Int32)) (hFd : ∀ w a b d e, Fx kX kN (F w a b d e)) : ∀ (n : Nat) (K0 : PG (Option Int32)), (∀ (_ : Unit), Fx kX kN (K0 )) → Fx kX kN (lp_readAnd_4 F n  K0) := by
  intro n
  induction n with
  | zero => intro  K0 hK0; exact Fx_no
  | succ n ih =>
    intro  K0 hK0
    unfold lp_readAnd_4
    repeat (first | (with_reducible exact Fx_rn) | (with_reducible exact Fx_rs _) | (with_reducible exact Fx_cn) | (with_reducible intro _) | (with_reducible exact hK0 ()) | (with_reducible exact ih _ hK0) | (with_reducible exact (fw_is _).x) | (with_reducible exact (fw_release _).x) | (with_reducible exact (fw_scan).x) | (with_reducible exact (fx_hold)) | (with_reducible exact hFd _ _ _ _ _) | (with_reducible refine Fx_clL ?_) | (with_reducible refine Fx_li (fun _ => ?_)) | (with_reducible refine Fx_rf (fun _ => ?_)) | (with_reducible refine Fx_rd (fun _ => ?_)) | (with_reducible refine Fx_sr (fun _ => ?_)) | (with_reducible refine Fx_wf rfl ?_) | (with_reducible refine Fx_wd rfl ?_) | (with_reducible refine Fx_og ?_) | (with_reducible refine Fx_ite ?_ ?_) | (with_reducible refine Fx_oi (fun _ => ?_)) | (with_reducible refine Fx_cx ?_ (fun _ => ?_)) | (with_reducible refine Fx_cl ?_ (fun _ => ?_)))

theorem fx_bd_readAnd (F : Nat → Int32 → Int32 → Int32 → Int32 → PG (Option Int32)) (hFd : ∀ w a b d e, Fx kX kN (F w a b d e)) : Fx kX kN (bd_readAnd F) := by
  unfold bd_readAnd
  repeat (first | (with_reducible exact Fx_rn) | (with_reducible exact Fx_rs _) | (with_reducible exact Fx_cn) | (with_reducible intro _) | (with_reducible refine fx_lp_readAnd_4 F hFd _ _ ?_) | (with_reducible exact (fw_is _).x) | (with_reducible exact (fw_release _).x) | (with_reducible exact (fw_scan).x) | (with_reducible exact (fx_hold)) | (with_reducible exact hFd _ _ _ _ _) | (with_reducible refine Fx_clL ?_) | (with_reducible refine Fx_li (fun _ => ?_)) | (with_reducible refine Fx_rf (fun _ => ?_)) | (with_reducible refine Fx_rd (fun _ => ?_)) | (with_reducible refine Fx_sr (fun _ => ?_)) | (with_reducible refine Fx_wf rfl ?_) | (with_reducible refine Fx_wd rfl ?_) | (with_reducible refine Fx_og ?_) | (with_reducible refine Fx_ite ?_ ?_) | (with_reducible refine Fx_oi (fun _ => ?_)) | (with_reducible refine Fx_cx ?_ (fun _ => ?_)) | (with_reducible refine Fx_cl ?_ (fun _ => ?_)))

theorem fx_bd_readNot (F : Nat → Int32 → Int32 → Int32 → Int32 → PG (Option Int32)) (hFd : ∀ w a b d e, Fx kX kN (F w a b d e)) : Fx kX kN (bd_readNot F) := by
  unfold bd_readNot
  repeat (first | (with_reducible exact Fx_rn) | (with_reducible exact Fx_rs _) | (with_reducible exact Fx_cn) | (with_reducible intro _) | (with_reducible exact (fw_is _).x) | (with_reducible exact (fw_put _ _).x) | (with_reducible exact (fw_release _).x) | (with_reducible exact (fw_scan).x) | (with_reducible exact (fx_counts)) | (with_reducible exact (fx_hold)) | (with_reducible exact (fx_need _)) | (with_reducible exact (fx_opens)) | (with_reducible exact (fx_readSum)) | (with_reducible exact hFd _ _ _ _ _) | (with_reducible refine Fx_clL ?_) | (with_reducible refine Fx_li (fun _ => ?_)) | (with_reducible refine Fx_rf (fun _ => ?_)) | (with_reducible refine Fx_rd (fun _ => ?_)) | (with_reducible refine Fx_sr (fun _ => ?_)) | (with_reducible refine Fx_wf rfl ?_) | (with_reducible refine Fx_wd rfl ?_) | (with_reducible refine Fx_og ?_) | (with_reducible refine Fx_ite ?_ ?_) | (with_reducible refine Fx_oi (fun _ => ?_)) | (with_reducible refine Fx_cx ?_ (fun _ => ?_)) | (with_reducible refine Fx_cl ?_ (fun _ => ?_)))

theorem fx_fP : ∀ (d w : Nat) (a0 a1 a2 a3 : Int32), Fx kX kN (fP d w a0 a1 a2 a3) := by
  intro d
  induction d with
  | zero => intro w a0 a1 a2 a3; exact Fx_no
  | succ d ih =>
    intro w a0 a1 a2 a3
    unfold fP
    repeat (first | (with_reducible refine Fx_ite ?_ ?_) | (with_reducible exact fx_bd_readOr _ ih) | (with_reducible exact fx_bd_readAnd _ ih) | (with_reducible exact fx_bd_readNot _ ih))

theorem fw_lp_readLaws_148 : ∀ (n : Nat) (v1 : Int32) (K0 : Int32 → PG (Option Int32)), (∀ (v1 : Int32), Fw kJ kA (K0 v1)) → Fw kJ kA (lp_readLaws_148 n v1 K0) := by
  intro n
  induction n with
  | zero => intro v1 K0 hK0; exact Fw_no
  | succ n ih =>
    intro v1 K0 hK0
    unfold lp_readLaws_148
    repeat (first | (with_reducible exact Fw_rt _) | (with_reducible intro _) | (with_reducible exact hK0 _) | (with_reducible exact ih _ _ hK0) | (with_reducible exact (fw_fP _ _ _ _ _ _)) | (with_reducible exact (fw_findSign).j) | (with_reducible exact (fw_is _).j) | (with_reducible exact (fw_name)) | (with_reducible exact (fw_need _)) | (with_reducible exact (fw_number)) | (with_reducible exact (fw_scan).j) | (with_reducible exact (fw_wrong _ _)) | (with_reducible refine Fw_clr ?_) | (with_reducible refine Fw_clL ?_) | (with_reducible refine Fw_li (fun _ => ?_)) | (with_reducible refine Fw_rf (fun _ => ?_)) | (with_reducible refine Fw_uf (fun _ => ?_)) | (with_reducible refine Fw_rd (fun _ => ?_)) | (with_reducible refine Fw_ud (fun _ => ?_)) | (with_reducible refine Fw_sr (fun _ => ?_)) | (with_reducible refine Fw_wf rfl ?_) | (with_reducible refine Fw_wd rfl ?_) | (with_reducible refine Fw_og ?_) | (with_reducible refine Fw_ite ?_ ?_) | (with_reducible refine Fw_oi (fun _ => ?_)) | (with_reducible refine Fw_ot ?_ (fun _ => ?_)) | (with_reducible refine Fw_cl ?_ (fun _ => ?_)))

theorem fw_lp_readLaws_73 : ∀ (n : Nat) (K0 : PG (Option Int32)), (∀ (_ : Unit), Fw kJ kA (K0 )) → Fw kJ kA (lp_readLaws_73 n  K0) := by
  intro n
  induction n with
  | zero => intro  K0 hK0; exact Fw_no
  | succ n ih =>
    intro  K0 hK0
    unfold lp_readLaws_73
    repeat (first | (with_reducible exact Fw_rt _) | (with_reducible intro _) | (with_reducible exact hK0 ()) | (with_reducible exact ih _ hK0) | (with_reducible refine fw_lp_readLaws_148 _ _ _ ?_) | (with_reducible exact (fw_fP _ _ _ _ _ _)) | (with_reducible exact (fw_findSign).j) | (with_reducible exact (fw_is _).j) | (with_reducible exact (fw_name)) | (with_reducible exact (fw_need _)) | (with_reducible exact (fw_number)) | (with_reducible exact (fw_scan).j) | (with_reducible exact (fw_wrong _ _)) | (with_reducible refine Fw_clr ?_) | (with_reducible refine Fw_clL ?_) | (with_reducible refine Fw_li (fun _ => ?_)) | (with_reducible refine Fw_rf (fun _ => ?_)) | (with_reducible refine Fw_uf (fun _ => ?_)) | (with_reducible refine Fw_rd (fun _ => ?_)) | (with_reducible refine Fw_ud (fun _ => ?_)) | (with_reducible refine Fw_sr (fun _ => ?_)) | (with_reducible refine Fw_wf rfl ?_) | (with_reducible refine Fw_wd rfl ?_) | (with_reducible refine Fw_og ?_) | (with_reducible refine Fw_ite ?_ ?_) | (with_reducible refine Fw_oi (fun _ => ?_)) | (with_reducible refine Fw_ot ?_ (fun _ => ?_)) | (with_reducible refine Fw_cl ?_ (fun _ => ?_)))

theorem fw_lp_readLaws_223 : ∀ (n : Nat) (K0 : PG (Option Int32)), (∀ (_ : Unit), Fw kJ kA (K0 )) → Fw kJ kA (lp_readLaws_223 n  K0) := by
  intro n
  induction n with
  | zero => intro  K0 hK0; exact Fw_no
  | succ n ih =>
    intro  K0 hK0
    unfold lp_readLaws_223
    repeat (first | (with_reducible exact Fw_rt _) | (with_reducible intro _) | (with_reducible exact hK0 ()) | (with_reducible exact ih _ hK0) | (with_reducible refine fw_lp_readLaws_148 _ _ _ ?_) | (with_reducible refine fw_lp_readLaws_73 _ _ ?_) | (with_reducible exact (fw_fP _ _ _ _ _ _)) | (with_reducible exact (fw_findSign).j) | (with_reducible exact (fw_is _).j) | (with_reducible exact (fw_name)) | (with_reducible exact (fw_need _)) | (with_reducible exact (fw_number)) | (with_reducible exact (fw_scan).j) | (with_reducible exact (fw_wrong _ _)) | (with_reducible refine Fw_clr ?_) | (with_reducible refine Fw_clL ?_) | (with_reducible refine Fw_li (fun _ => ?_)) | (with_reducible refine Fw_rf (fun _ => ?_)) | (with_reducible refine Fw_uf (fun _ => ?_)) | (with_reducible refine Fw_rd (fun _ => ?_)) | (with_reducible refine Fw_ud (fun _ => ?_)) | (with_reducible refine Fw_sr (fun _ => ?_)) | (with_reducible refine Fw_wf rfl ?_) | (with_reducible refine Fw_wd rfl ?_) | (with_reducible refine Fw_og ?_) | (with_reducible refine Fw_ite ?_ ?_) | (with_reducible refine Fw_oi (fun _ => ?_)) | (with_reducible refine Fw_ot ?_ (fun _ => ?_)) | (with_reducible refine Fw_cl ?_ (fun _ => ?_)))

theorem fw_readLaws : Fw kJ kA (f_readLaws) := by
  unfold f_readLaws
  repeat (first | (with_reducible exact Fw_rt _) | (with_reducible intro _) | (with_reducible refine fw_lp_readLaws_148 _ _ _ ?_) | (with_reducible refine fw_lp_readLaws_73 _ _ ?_) | (with_reducible refine fw_lp_readLaws_223 _ _ ?_) | (with_reducible exact (fw_fP _ _ _ _ _ _)) | (with_reducible exact (fw_findSign).j) | (with_reducible exact (fw_is _).j) | (with_reducible exact (fw_name)) | (with_reducible exact (fw_need _)) | (with_reducible exact (fw_number)) | (with_reducible exact (fw_scan).j) | (with_reducible exact (fw_wrong _ _)) | (with_reducible refine Fw_clr ?_) | (with_reducible refine Fw_clL ?_) | (with_reducible refine Fw_li (fun _ => ?_)) | (with_reducible refine Fw_rf (fun _ => ?_)) | (with_reducible refine Fw_uf (fun _ => ?_)) | (with_reducible refine Fw_rd (fun _ => ?_)) | (with_reducible refine Fw_ud (fun _ => ?_)) | (with_reducible refine Fw_sr (fun _ => ?_)) | (with_reducible refine Fw_wf rfl ?_) | (with_reducible refine Fw_wd rfl ?_) | (with_reducible refine Fw_og ?_) | (with_reducible refine Fw_ite ?_ ?_) | (with_reducible refine Fw_oi (fun _ => ?_)) | (with_reducible refine Fw_ot ?_ (fun _ => ?_)) | (with_reducible refine Fw_cl ?_ (fun _ => ?_)))

theorem fx_lp_readLaws_148 : ∀ (n : Nat) (v1 : Int32) (K0 : Int32 → PG (Option Int32)), (∀ (v1 : Int32), Fx kX kN (K0 v1)) → Fx kX kN (lp_readLaws_148 n v1 K0) := by
  intro n
  induction n with
  | zero => intro v1 K0 hK0; exact Fx_no
  | succ n ih =>
    intro v1 K0 hK0
    unfold lp_readLaws_148
    repeat (first | (with_reducible exact Fx_rn) | (with_reducible exact Fx_rs _) | (with_reducible exact Fx_cn) | (with_reducible intro _) | (with_reducible exact hK0 _) | (with_reducible exact ih _ _ hK0) | (with_reducible exact (fw_findSign).x) | (with_reducible exact (fw_is _).x) | (with_reducible exact (fw_scan).x) | (with_reducible exact (fx_fP _ _ _ _ _ _)) | (with_reducible exact (fx_name)) | (with_reducible exact (fx_need _)) | (with_reducible exact (fx_number)) | (with_reducible refine Fx_clL ?_) | (with_reducible refine Fx_li (fun _ => ?_)) | (with_reducible refine Fx_rf (fun _ => ?_)) | (with_reducible refine Fx_rd (fun _ => ?_)) | (with_reducible refine Fx_sr (fun _ => ?_)) | (with_reducible refine Fx_wf rfl ?_) | (with_reducible refine Fx_wd rfl ?_) | (with_reducible refine Fx_og ?_) | (with_reducible refine Fx_ite ?_ ?_) | (with_reducible refine Fx_oi (fun _ => ?_)) | (with_reducible refine Fx_cx ?_ (fun _ => ?_)) | (with_reducible refine Fx_cl ?_ (fun _ => ?_)))

theorem fx_lp_readLaws_73 : ∀ (n : Nat) (K0 : PG (Option Int32)), (∀ (_ : Unit), Fx kX kN (K0 )) → Fx kX kN (lp_readLaws_73 n  K0) := by
  intro n
  induction n with
  | zero => intro  K0 hK0; exact Fx_no
  | succ n ih =>
    intro  K0 hK0
    unfold lp_readLaws_73
    repeat (first | (with_reducible exact Fx_rn) | (with_reducible exact Fx_rs _) | (with_reducible exact Fx_cn) | (with_reducible intro _) | (with_reducible exact hK0 ()) | (with_reducible exact ih _ hK0) | (with_reducible refine fx_lp_readLaws_148 _ _ _ ?_) | (with_reducible exact (fw_findSign).x) | (with_reducible exact (fw_is _).x) | (with_reducible exact (fw_scan).x) | (with_reducible exact (fx_fP _ _ _ _ _ _)) | (with_reducible exact (fx_name)) | (with_reducible exact (fx_need _)) | (with_reducible exact (fx_number)) | (with_reducible refine Fx_clL ?_) | (with_reducible refine Fx_li (fun _ => ?_)) | (with_reducible refine Fx_rf (fun _ => ?_)) | (with_reducible refine Fx_rd (fun _ => ?_)) | (with_reducible refine Fx_sr (fun _ => ?_)) | (with_reducible refine Fx_wf rfl ?_) | (with_reducible refine Fx_wd rfl ?_) | (with_reducible refine Fx_og ?_) | (with_reducible refine Fx_ite ?_ ?_) | (with_reducible refine Fx_oi (fun _ => ?_)) | (with_reducible refine Fx_cx ?_ (fun _ => ?_)) | (with_reducible refine Fx_cl ?_ (fun _ => ?_)))

theorem fx_lp_readLaws_223 : ∀ (n : Nat) (K0 : PG (Option Int32)), (∀ (_ : Unit), Fx kX kN (K0 )) → Fx kX kN (lp_readLaws_223 n  K0) := by
  intro n
  induction n with
  | zero => intro  K0 hK0; exact Fx_no
  | succ n ih =>
    intro  K0 hK0
    unfold lp_readLaws_223
    repeat (first | (with_reducible exact Fx_rn) | (with_reducible exact Fx_rs _) | (with_reducible exact Fx_cn) | (with_reducible intro _) | (with_reducible exact hK0 ()) | (with_reducible exact ih _ hK0) | (with_reducible refine fx_lp_readLaws_148 _ _ _ ?_) | (with_reducible refine fx_lp_readLaws_73 _ _ ?_) | (with_reducible exact (fw_findSign).x) | (with_reducible exact (fw_is _).x) | (with_reducible exact (fw_scan).x) | (with_reducible exact (fx_fP _ _ _ _ _ _)) | (with_reducible exact (fx_name)) | (with_reducible exact (fx_need _)) | (with_reducible exact (fx_number)) | (with_reducible refine Fx_clL ?_) | (with_reducible refine Fx_li (fun _ => ?_)) | (with_reducible refine Fx_rf (fun _ => ?_)) | (with_reducible refine Fx_rd (fun _ => ?_)) | (with_reducible refine Fx_sr (fun _ => ?_)) | (with_reducible refine Fx_wf rfl ?_) | (with_reducible refine Fx_wd rfl ?_) | (with_reducible refine Fx_og ?_) | (with_reducible refine Fx_ite ?_ ?_) | (with_reducible refine Fx_oi (fun _ => ?_)) | (with_reducible refine Fx_cx ?_ (fun _ => ?_)) | (with_reducible refine Fx_cl ?_ (fun _ => ?_)))

theorem fx_readLaws : Fx kX kN (f_readLaws) := by
  unfold f_readLaws
  repeat (first | (with_reducible exact Fx_rn) | (with_reducible exact Fx_rs _) | (with_reducible exact Fx_cn) | (with_reducible intro _) | (with_reducible refine fx_lp_readLaws_148 _ _ _ ?_) | (with_reducible refine fx_lp_readLaws_73 _ _ ?_) | (with_reducible refine fx_lp_readLaws_223 _ _ ?_) | (with_reducible exact (fw_findSign).x) | (with_reducible exact (fw_is _).x) | (with_reducible exact (fw_scan).x) | (with_reducible exact (fx_fP _ _ _ _ _ _)) | (with_reducible exact (fx_name)) | (with_reducible exact (fx_need _)) | (with_reducible exact (fx_number)) | (with_reducible refine Fx_clL ?_) | (with_reducible refine Fx_li (fun _ => ?_)) | (with_reducible refine Fx_rf (fun _ => ?_)) | (with_reducible refine Fx_rd (fun _ => ?_)) | (with_reducible refine Fx_sr (fun _ => ?_)) | (with_reducible refine Fx_wf rfl ?_) | (with_reducible refine Fx_wd rfl ?_) | (with_reducible refine Fx_og ?_) | (with_reducible refine Fx_ite ?_ ?_) | (with_reducible refine Fx_oi (fun _ => ?_)) | (with_reducible refine Fx_cx ?_ (fun _ => ?_)) | (with_reducible refine Fx_cl ?_ (fun _ => ?_)))


theorem fw_lp_takeLaws_2 : ∀ (n : Nat) (v1 v2 v3 : Int32) (K0 : Int32 → Int32 → Int32 → PG (Int32)), (∀ (v1 v2 v3 : Int32), Fw kI kA (K0 v1 v2 v3)) → Fw kI kA (lp_takeLaws_2 n v1 v2 v3 K0) := by
  intro n
  induction n with
  | zero => intro v1 v2 v3 K0 hK0; exact Fw_no
  | succ n ih =>
    intro v1 v2 v3 K0 hK0
    unfold lp_takeLaws_2
    repeat (first | (with_reducible exact Fw_rt _) | (with_reducible intro _) | (with_reducible exact hK0 _ _ _) | (with_reducible exact ih _ _ _ _ hK0) | (with_reducible refine Fw_li (fun _ => ?_)) | (with_reducible refine Fw_rf (fun _ => ?_)) | (with_reducible refine Fw_rd (fun _ => ?_)) | (with_reducible refine Fw_ud (fun _ => ?_)) | (with_reducible refine Fw_uf (fun _ => ?_)) | (with_reducible refine Fw_wf rfl ?_) | (with_reducible refine Fw_wd rfl ?_) | (with_reducible refine Fw_og ?_) | (with_reducible refine Fw_ite ?_ ?_) | (with_reducible refine Fw_oi (fun _ => ?_)) | (with_reducible refine Fw_cl ?_ (fun _ => ?_)))
theorem fw_takeTail (x y : Int32) (q : Int32 → PG Int32) (r1 : Option Int32) (u u1 w : GS) (r : Int32) (hx : x = u.1.1 49) (hy : y = u.1.1 50) (h1 : FwR kJ kA u w) (e : pot r1 (pwf 30 0 (pwf 49 x (pwf 50 y (prf 30 (fun x => prt x))))) (fun _ => pwf 49 x (pwf 50 y (prf 30 (fun x => prt x)))) w = some (r, u1)) : FwR kI kA u u1 := by
  have fin : ∀ w2 : GS, FwR kJ kA u w2 → pwf 49 x (pwf 50 y (prf 30 (fun x => prt x))) w2 = some (r, u1) → FwR kI kA u u1 := fun w2 h2 e2 => by
    have e3 : prf 30 (fun x => prt x) (swf 50 y (swf 49 x w2)) = some (r, u1) := e2
    obtain ⟨z, -, e4⟩ := prf_some e3
    cases e4
    refine ⟨fun k hk => ?_, fun k hk => h2.2 k hk⟩
    have h3 := List.contains_iff_mem.mp hk
    simp only [List.mem_cons, List.not_mem_nil, or_false] at h3
    rcases h3 with rfl | rfl | rfl | rfl
    · exact h2.1 42 rfl
    · exact hx
    · exact hy
    · exact h2.1 69 rfl
  cases r1 with
  | none => exact fin (swf 30 0 w) (h1.trans (FwR.wf rfl)) e
  | some r1 => exact fin w h1 e
theorem fw_takeLaws (a0 a1 : Int32) : Fw kI kA (f_takeLaws a0 a1) := by
  unfold f_takeLaws
  refine fw_lp_takeLaws_2 _ _ _ _ _ (fun v1 v2 v3 => ?_)
  refine Fw_wf rfl (Fw_wf rfl (fun u r u1 e => ?_))
  have e2 : pcl f_readLaws (fun r_18 => pot r_18 (pwf 30 0 (pwf 49 (u.1.1 49) (pwf 50 (u.1.1 50) (prf 30 (fun x_28 => prt x_28))))) (fun r_21 => pwf 49 (u.1.1 49) (pwf 50 (u.1.1 50) (prf 30 (fun x_34 => prt x_34))))) u = some (r, u1) := e
  obtain ⟨r1, w, e3, e4⟩ := pcl_some e2
  exact fw_takeTail _ _ (fun _ => prt 0) r1 u u1 w r rfl rfl (fw_readLaws u r1 w e3) e4

theorem fw_lp_lawsAgain_32 : ∀ (n : Nat) (v1 : Int32) (K0 : Int32 → PG (Int32)), (∀ (v1 : Int32), Fw kI kA (K0 v1)) → Fw kI kA (lp_lawsAgain_32 n v1 K0) := by
  intro n
  induction n with
  | zero => intro v1 K0 hK0; exact Fw_no
  | succ n ih =>
    intro v1 K0 hK0
    unfold lp_lawsAgain_32
    repeat (first | (with_reducible exact Fw_rt _) | (with_reducible intro _) | (with_reducible exact hK0 _) | (with_reducible exact ih _ _ hK0) | (with_reducible exact (fw_takeLaws _ _)) | (with_reducible refine Fw_clr ?_) | (with_reducible refine Fw_clL ?_) | (with_reducible refine Fw_li (fun _ => ?_)) | (with_reducible refine Fw_rf (fun _ => ?_)) | (with_reducible refine Fw_uf (fun _ => ?_)) | (with_reducible refine Fw_rd (fun _ => ?_)) | (with_reducible refine Fw_ud (fun _ => ?_)) | (with_reducible refine Fw_sr (fun _ => ?_)) | (with_reducible refine Fw_wf rfl ?_) | (with_reducible refine Fw_wd rfl ?_) | (with_reducible refine Fw_og ?_) | (with_reducible refine Fw_ite ?_ ?_) | (with_reducible refine Fw_oi (fun _ => ?_)) | (with_reducible refine Fw_ot ?_ (fun _ => ?_)) | (with_reducible refine Fw_cl ?_ (fun _ => ?_)))

theorem fw_lawsAgain : Fw kI kA (f_lawsAgain) := by
  unfold f_lawsAgain
  repeat (first | (with_reducible exact Fw_rt _) | (with_reducible intro _) | (with_reducible refine fw_lp_lawsAgain_32 _ _ _ ?_) | (with_reducible exact (fw_takeLaws _ _)) | (with_reducible refine Fw_clr ?_) | (with_reducible refine Fw_clL ?_) | (with_reducible refine Fw_li (fun _ => ?_)) | (with_reducible refine Fw_rf (fun _ => ?_)) | (with_reducible refine Fw_uf (fun _ => ?_)) | (with_reducible refine Fw_rd (fun _ => ?_)) | (with_reducible refine Fw_ud (fun _ => ?_)) | (with_reducible refine Fw_sr (fun _ => ?_)) | (with_reducible refine Fw_wf rfl ?_) | (with_reducible refine Fw_wd rfl ?_) | (with_reducible refine Fw_og ?_) | (with_reducible refine Fw_ite ?_ ?_) | (with_reducible refine Fw_oi (fun _ => ?_)) | (with_reducible refine Fw_ot ?_ (fun _ => ?_)) | (with_reducible refine Fw_cl ?_ (fun _ => ?_)))

theorem fw_does (a0 : Int32) (a1 : Int32) (a2 : Int32) (a3 : Int32) : Fw kI kA (f_does a0 a1 a2 a3) := by
  unfold f_does
  repeat (first | (with_reducible exact Fw_rt _) | (with_reducible intro _) | (with_reducible exact (fw_asked _ _)) | (with_reducible exact (fw_begins _ _ _)) | (with_reducible exact (fw_comes _ _)) | (with_reducible exact (fw_draws _)) | (with_reducible exact (fw_ends _ _ _ _)) | (with_reducible exact (fw_in _ _ _)) | (with_reducible exact (fw_passes _ _)) | (with_reducible exact (fw_struck _ _)) | (with_reducible exact (fw_takeLaws _ _)) | (with_reducible refine Fw_clr ?_) | (with_reducible refine Fw_clL ?_) | (with_reducible refine Fw_li (fun _ => ?_)) | (with_reducible refine Fw_rf (fun _ => ?_)) | (with_reducible refine Fw_uf (fun _ => ?_)) | (with_reducible refine Fw_rd (fun _ => ?_)) | (with_reducible refine Fw_ud (fun _ => ?_)) | (with_reducible refine Fw_sr (fun _ => ?_)) | (with_reducible refine Fw_wf rfl ?_) | (with_reducible refine Fw_wd rfl ?_) | (with_reducible refine Fw_og ?_) | (with_reducible refine Fw_ite ?_ ?_) | (with_reducible refine Fw_oi (fun _ => ?_)) | (with_reducible refine Fw_ot ?_ (fun _ => ?_)) | (with_reducible refine Fw_cl ?_ (fun _ => ?_)))

theorem fw_act (a0 : Int32) (a1 : Int32) (a2 : Int32) (a3 : Int32) : Fw kI kA (f_act a0 a1 a2 a3) := by
  unfold f_act
  repeat (first | (with_reducible exact Fw_rt _) | (with_reducible intro _) | (with_reducible exact (fw_does _ _ _ _)) | (with_reducible refine Fw_clr ?_) | (with_reducible refine Fw_clL ?_) | (with_reducible refine Fw_li (fun _ => ?_)) | (with_reducible refine Fw_rf (fun _ => ?_)) | (with_reducible refine Fw_uf (fun _ => ?_)) | (with_reducible refine Fw_rd (fun _ => ?_)) | (with_reducible refine Fw_ud (fun _ => ?_)) | (with_reducible refine Fw_sr (fun _ => ?_)) | (with_reducible refine Fw_wf rfl ?_) | (with_reducible refine Fw_wd rfl ?_) | (with_reducible refine Fw_og ?_) | (with_reducible refine Fw_ite ?_ ?_) | (with_reducible refine Fw_oi (fun _ => ?_)) | (with_reducible refine Fw_ot ?_ (fun _ => ?_)) | (with_reducible refine Fw_cl ?_ (fun _ => ?_)))

theorem fw_lp_undo_25 : ∀ (n : Nat) (v1 : Int32) (K0 : Int32 → PG (Int32)), (∀ (v1 : Int32), Fw kI kA (K0 v1)) → Fw kI kA (lp_undo_25 n v1 K0) := by
  intro n
  induction n with
  | zero => intro v1 K0 hK0; exact Fw_no
  | succ n ih =>
    intro v1 K0 hK0
    unfold lp_undo_25
    repeat (first | (with_reducible exact Fw_rt _) | (with_reducible intro _) | (with_reducible exact hK0 _) | (with_reducible exact ih _ _ hK0) | (with_reducible exact (fw_anew)) | (with_reducible exact (fw_does _ _ _ _)) | (with_reducible refine Fw_clr ?_) | (with_reducible refine Fw_clL ?_) | (with_reducible refine Fw_li (fun _ => ?_)) | (with_reducible refine Fw_rf (fun _ => ?_)) | (with_reducible refine Fw_uf (fun _ => ?_)) | (with_reducible refine Fw_rd (fun _ => ?_)) | (with_reducible refine Fw_ud (fun _ => ?_)) | (with_reducible refine Fw_sr (fun _ => ?_)) | (with_reducible refine Fw_wf rfl ?_) | (with_reducible refine Fw_wd rfl ?_) | (with_reducible refine Fw_og ?_) | (with_reducible refine Fw_ite ?_ ?_) | (with_reducible refine Fw_oi (fun _ => ?_)) | (with_reducible refine Fw_ot ?_ (fun _ => ?_)) | (with_reducible refine Fw_cl ?_ (fun _ => ?_)))

theorem fw_undo : Fw kI kA (f_undo) := by
  unfold f_undo
  repeat (first | (with_reducible exact Fw_rt _) | (with_reducible intro _) | (with_reducible refine fw_lp_undo_25 _ _ _ ?_) | (with_reducible exact (fw_anew)) | (with_reducible exact (fw_does _ _ _ _)) | (with_reducible refine Fw_clr ?_) | (with_reducible refine Fw_clL ?_) | (with_reducible refine Fw_li (fun _ => ?_)) | (with_reducible refine Fw_rf (fun _ => ?_)) | (with_reducible refine Fw_uf (fun _ => ?_)) | (with_reducible refine Fw_rd (fun _ => ?_)) | (with_reducible refine Fw_ud (fun _ => ?_)) | (with_reducible refine Fw_sr (fun _ => ?_)) | (with_reducible refine Fw_wf rfl ?_) | (with_reducible refine Fw_wd rfl ?_) | (with_reducible refine Fw_og ?_) | (with_reducible refine Fw_ite ?_ ?_) | (with_reducible refine Fw_oi (fun _ => ?_)) | (with_reducible refine Fw_ot ?_ (fun _ => ?_)) | (with_reducible refine Fw_cl ?_ (fun _ => ?_)))

theorem fw_lp_limit_54 : ∀ (n : Nat) (v1 v2 v3 v4 v5 : Int32) (K0 : Int32 → Int32 → Int32 → Int32 → Int32 → PG (Int32)), (∀ (v1 v2 v3 v4 v5 : Int32), Fw kI kA (K0 v1 v2 v3 v4 v5)) → Fw kI kA (lp_limit_54 n v1 v2 v3 v4 v5 K0) := by
  intro n
  induction n with
  | zero => intro v1 v2 v3 v4 v5 K0 hK0; exact Fw_no
  | succ n ih =>
    intro v1 v2 v3 v4 v5 K0 hK0
    unfold lp_limit_54
    repeat (first | (with_reducible exact Fw_rt _) | (with_reducible intro _) | (with_reducible exact hK0 _ _ _ _ _) | (with_reducible exact ih _ _ _ _ _ _ hK0) | (with_reducible exact (fw_act _ _ _ _)) | (with_reducible exact (fw_in _ _ _)) | (with_reducible exact (fw_isClass _)) | (with_reducible refine Fw_clr ?_) | (with_reducible refine Fw_clL ?_) | (with_reducible refine Fw_li (fun _ => ?_)) | (with_reducible refine Fw_rf (fun _ => ?_)) | (with_reducible refine Fw_uf (fun _ => ?_)) | (with_reducible refine Fw_rd (fun _ => ?_)) | (with_reducible refine Fw_ud (fun _ => ?_)) | (with_reducible refine Fw_sr (fun _ => ?_)) | (with_reducible refine Fw_wf rfl ?_) | (with_reducible refine Fw_wd rfl ?_) | (with_reducible refine Fw_og ?_) | (with_reducible refine Fw_ite ?_ ?_) | (with_reducible refine Fw_oi (fun _ => ?_)) | (with_reducible refine Fw_ot ?_ (fun _ => ?_)) | (with_reducible refine Fw_cl ?_ (fun _ => ?_)))

theorem fw_limit (a0 : Int32) (a1 : Int32) (a2 : Int32) : Fw kI kA (f_limit a0 a1 a2) := by
  unfold f_limit
  repeat (first | (with_reducible exact Fw_rt _) | (with_reducible intro _) | (with_reducible refine fw_lp_limit_54 _ _ _ _ _ _ _ ?_) | (with_reducible exact (fw_act _ _ _ _)) | (with_reducible exact (fw_in _ _ _)) | (with_reducible exact (fw_isClass _)) | (with_reducible refine Fw_clr ?_) | (with_reducible refine Fw_clL ?_) | (with_reducible refine Fw_li (fun _ => ?_)) | (with_reducible refine Fw_rf (fun _ => ?_)) | (with_reducible refine Fw_uf (fun _ => ?_)) | (with_reducible refine Fw_rd (fun _ => ?_)) | (with_reducible refine Fw_ud (fun _ => ?_)) | (with_reducible refine Fw_sr (fun _ => ?_)) | (with_reducible refine Fw_wf rfl ?_) | (with_reducible refine Fw_wd rfl ?_) | (with_reducible refine Fw_og ?_) | (with_reducible refine Fw_ite ?_ ?_) | (with_reducible refine Fw_oi (fun _ => ?_)) | (with_reducible refine Fw_ot ?_ (fun _ => ?_)) | (with_reducible refine Fw_cl ?_ (fun _ => ?_)))

theorem fw_enter (a0 : Int32) (a1 : Int32) : Fw kI kA (f_enter a0 a1) := by
  unfold f_enter
  repeat (first | (with_reducible exact Fw_rt _) | (with_reducible intro _) | (with_reducible exact (fw_act _ _ _ _)) | (with_reducible exact (fw_in _ _ _)) | (with_reducible exact (fw_isClass _)) | (with_reducible refine Fw_clr ?_) | (with_reducible refine Fw_clL ?_) | (with_reducible refine Fw_li (fun _ => ?_)) | (with_reducible refine Fw_rf (fun _ => ?_)) | (with_reducible refine Fw_uf (fun _ => ?_)) | (with_reducible refine Fw_rd (fun _ => ?_)) | (with_reducible refine Fw_ud (fun _ => ?_)) | (with_reducible refine Fw_sr (fun _ => ?_)) | (with_reducible refine Fw_wf rfl ?_) | (with_reducible refine Fw_wd rfl ?_) | (with_reducible refine Fw_og ?_) | (with_reducible refine Fw_ite ?_ ?_) | (with_reducible refine Fw_oi (fun _ => ?_)) | (with_reducible refine Fw_ot ?_ (fun _ => ?_)) | (with_reducible refine Fw_cl ?_ (fun _ => ?_)))

theorem fw_weigh (a0 : Int32) (a1 : Int32) : Fw kI kA (f_weigh a0 a1) := by
  unfold f_weigh
  repeat (first | (with_reducible exact Fw_rt _) | (with_reducible intro _) | (with_reducible exact (fw_act _ _ _ _)) | (with_reducible exact (fw_in _ _ _)) | (with_reducible exact (fw_isFighter _)) | (with_reducible refine Fw_clr ?_) | (with_reducible refine Fw_clL ?_) | (with_reducible refine Fw_li (fun _ => ?_)) | (with_reducible refine Fw_rf (fun _ => ?_)) | (with_reducible refine Fw_uf (fun _ => ?_)) | (with_reducible refine Fw_rd (fun _ => ?_)) | (with_reducible refine Fw_ud (fun _ => ?_)) | (with_reducible refine Fw_sr (fun _ => ?_)) | (with_reducible refine Fw_wf rfl ?_) | (with_reducible refine Fw_wd rfl ?_) | (with_reducible refine Fw_og ?_) | (with_reducible refine Fw_ite ?_ ?_) | (with_reducible refine Fw_oi (fun _ => ?_)) | (with_reducible refine Fw_ot ?_ (fun _ => ?_)) | (with_reducible refine Fw_cl ?_ (fun _ => ?_)))

theorem fw_lp_seed_46 : ∀ (n : Nat) (v1 v2 v3 v4 : Int32) (K0 : Int32 → Int32 → Int32 → Int32 → PG (Int32)), (∀ (v1 v2 v3 v4 : Int32), Fw kI kA (K0 v1 v2 v3 v4)) → Fw kI kA (lp_seed_46 n v1 v2 v3 v4 K0) := by
  intro n
  induction n with
  | zero => intro v1 v2 v3 v4 K0 hK0; exact Fw_no
  | succ n ih =>
    intro v1 v2 v3 v4 K0 hK0
    unfold lp_seed_46
    repeat (first | (with_reducible exact Fw_rt _) | (with_reducible intro _) | (with_reducible exact hK0 _ _ _ _) | (with_reducible exact ih _ _ _ _ _ hK0) | (with_reducible exact (fw_act _ _ _ _)) | (with_reducible exact (fw_in _ _ _)) | (with_reducible exact (fw_isFighter _)) | (with_reducible refine Fw_clr ?_) | (with_reducible refine Fw_clL ?_) | (with_reducible refine Fw_li (fun _ => ?_)) | (with_reducible refine Fw_rf (fun _ => ?_)) | (with_reducible refine Fw_uf (fun _ => ?_)) | (with_reducible refine Fw_rd (fun _ => ?_)) | (with_reducible refine Fw_ud (fun _ => ?_)) | (with_reducible refine Fw_sr (fun _ => ?_)) | (with_reducible refine Fw_wf rfl ?_) | (with_reducible refine Fw_wd rfl ?_) | (with_reducible refine Fw_og ?_) | (with_reducible refine Fw_ite ?_ ?_) | (with_reducible refine Fw_oi (fun _ => ?_)) | (with_reducible refine Fw_ot ?_ (fun _ => ?_)) | (with_reducible refine Fw_cl ?_ (fun _ => ?_)))

theorem fw_seed (a0 : Int32) (a1 : Int32) : Fw kI kA (f_seed a0 a1) := by
  unfold f_seed
  repeat (first | (with_reducible exact Fw_rt _) | (with_reducible intro _) | (with_reducible refine fw_lp_seed_46 _ _ _ _ _ _ ?_) | (with_reducible exact (fw_act _ _ _ _)) | (with_reducible exact (fw_in _ _ _)) | (with_reducible exact (fw_isFighter _)) | (with_reducible refine Fw_clr ?_) | (with_reducible refine Fw_clL ?_) | (with_reducible refine Fw_li (fun _ => ?_)) | (with_reducible refine Fw_rf (fun _ => ?_)) | (with_reducible refine Fw_uf (fun _ => ?_)) | (with_reducible refine Fw_rd (fun _ => ?_)) | (with_reducible refine Fw_ud (fun _ => ?_)) | (with_reducible refine Fw_sr (fun _ => ?_)) | (with_reducible refine Fw_wf rfl ?_) | (with_reducible refine Fw_wd rfl ?_) | (with_reducible refine Fw_og ?_) | (with_reducible refine Fw_ite ?_ ?_) | (with_reducible refine Fw_oi (fun _ => ?_)) | (with_reducible refine Fw_ot ?_ (fun _ => ?_)) | (with_reducible refine Fw_cl ?_ (fun _ => ?_)))

theorem fw_draw (a0 : Int32) : Fw kI kA (f_draw a0) := by
  unfold f_draw
  repeat (first | (with_reducible exact Fw_rt _) | (with_reducible intro _) | (with_reducible exact (fw_act _ _ _ _)) | (with_reducible exact (fw_in _ _ _)) | (with_reducible exact (fw_isClass _)) | (with_reducible exact (fw_weighed _)) | (with_reducible refine Fw_clr ?_) | (with_reducible refine Fw_clL ?_) | (with_reducible refine Fw_li (fun _ => ?_)) | (with_reducible refine Fw_rf (fun _ => ?_)) | (with_reducible refine Fw_uf (fun _ => ?_)) | (with_reducible refine Fw_rd (fun _ => ?_)) | (with_reducible refine Fw_ud (fun _ => ?_)) | (with_reducible refine Fw_sr (fun _ => ?_)) | (with_reducible refine Fw_wf rfl ?_) | (with_reducible refine Fw_wd rfl ?_) | (with_reducible refine Fw_og ?_) | (with_reducible refine Fw_ite ?_ ?_) | (with_reducible refine Fw_oi (fun _ => ?_)) | (with_reducible refine Fw_ot ?_ (fun _ => ?_)) | (with_reducible refine Fw_cl ?_ (fun _ => ?_)))

theorem fw_now (a0 : Int32) : Fw kI kA (f_now a0) := by
  unfold f_now
  repeat (first | (with_reducible exact Fw_rt _) | (with_reducible intro _) | (with_reducible exact (fw_act _ _ _ _)) | (with_reducible exact (fw_in _ _ _)) | (with_reducible refine Fw_clr ?_) | (with_reducible refine Fw_clL ?_) | (with_reducible refine Fw_li (fun _ => ?_)) | (with_reducible refine Fw_rf (fun _ => ?_)) | (with_reducible refine Fw_uf (fun _ => ?_)) | (with_reducible refine Fw_rd (fun _ => ?_)) | (with_reducible refine Fw_ud (fun _ => ?_)) | (with_reducible refine Fw_sr (fun _ => ?_)) | (with_reducible refine Fw_wf rfl ?_) | (with_reducible refine Fw_wd rfl ?_) | (with_reducible refine Fw_og ?_) | (with_reducible refine Fw_ite ?_ ?_) | (with_reducible refine Fw_oi (fun _ => ?_)) | (with_reducible refine Fw_ot ?_ (fun _ => ?_)) | (with_reducible refine Fw_cl ?_ (fun _ => ?_)))

theorem fw_rest (a0 : Int32) : Fw kI kA (f_rest a0) := by
  unfold f_rest
  repeat (first | (with_reducible exact Fw_rt _) | (with_reducible intro _) | (with_reducible exact (fw_act _ _ _ _)) | (with_reducible exact (fw_in _ _ _)) | (with_reducible refine Fw_clr ?_) | (with_reducible refine Fw_clL ?_) | (with_reducible refine Fw_li (fun _ => ?_)) | (with_reducible refine Fw_rf (fun _ => ?_)) | (with_reducible refine Fw_uf (fun _ => ?_)) | (with_reducible refine Fw_rd (fun _ => ?_)) | (with_reducible refine Fw_ud (fun _ => ?_)) | (with_reducible refine Fw_sr (fun _ => ?_)) | (with_reducible refine Fw_wf rfl ?_) | (with_reducible refine Fw_wd rfl ?_) | (with_reducible refine Fw_og ?_) | (with_reducible refine Fw_ite ?_ ?_) | (with_reducible refine Fw_oi (fun _ => ?_)) | (with_reducible refine Fw_ot ?_ (fun _ => ?_)) | (with_reducible refine Fw_cl ?_ (fun _ => ?_)))

theorem fw_begin (a0 : Int32) (a1 : Int32) (a2 : Int32) : Fw kI kA (f_begin a0 a1 a2) := by
  unfold f_begin
  repeat (first | (with_reducible exact Fw_rt _) | (with_reducible intro _) | (with_reducible exact (fw_act _ _ _ _)) | (with_reducible exact (fw_fS _ _ _ _ _ _)) | (with_reducible exact (fw_isFight _ _)) | (with_reducible exact (fw_isMat _)) | (with_reducible exact (fw_isReady _ _)) | (with_reducible exact (fw_rests _)) | (with_reducible refine Fw_clr ?_) | (with_reducible refine Fw_clL ?_) | (with_reducible refine Fw_li (fun _ => ?_)) | (with_reducible refine Fw_rf (fun _ => ?_)) | (with_reducible refine Fw_uf (fun _ => ?_)) | (with_reducible refine Fw_rd (fun _ => ?_)) | (with_reducible refine Fw_ud (fun _ => ?_)) | (with_reducible refine Fw_sr (fun _ => ?_)) | (with_reducible refine Fw_wf rfl ?_) | (with_reducible refine Fw_wd rfl ?_) | (with_reducible refine Fw_og ?_) | (with_reducible refine Fw_ite ?_ ?_) | (with_reducible refine Fw_oi (fun _ => ?_)) | (with_reducible refine Fw_ot ?_ (fun _ => ?_)) | (with_reducible refine Fw_cl ?_ (fun _ => ?_)))

theorem fw_event (a0 : Int32) (a1 : Int32) (a2 : Int32) : Fw kI kA (f_event a0 a1 a2) := by
  unfold f_event
  repeat (first | (with_reducible exact Fw_rt _) | (with_reducible intro _) | (with_reducible exact (fw_act _ _ _ _)) | (with_reducible exact (fw_in _ _ _)) | (with_reducible exact (fw_isMat _)) | (with_reducible refine Fw_clr ?_) | (with_reducible refine Fw_clL ?_) | (with_reducible refine Fw_li (fun _ => ?_)) | (with_reducible refine Fw_rf (fun _ => ?_)) | (with_reducible refine Fw_uf (fun _ => ?_)) | (with_reducible refine Fw_rd (fun _ => ?_)) | (with_reducible refine Fw_ud (fun _ => ?_)) | (with_reducible refine Fw_sr (fun _ => ?_)) | (with_reducible refine Fw_wf rfl ?_) | (with_reducible refine Fw_wd rfl ?_) | (with_reducible refine Fw_og ?_) | (with_reducible refine Fw_ite ?_ ?_) | (with_reducible refine Fw_oi (fun _ => ?_)) | (with_reducible refine Fw_ot ?_ (fun _ => ?_)) | (with_reducible refine Fw_cl ?_ (fun _ => ?_)))

theorem fw_tick (a0 : Int32) (a1 : Int32) : Fw kI kA (f_tick a0 a1) := by
  unfold f_tick
  repeat (first | (with_reducible exact Fw_rt _) | (with_reducible intro _) | (with_reducible exact (fw_act _ _ _ _)) | (with_reducible exact (fw_in _ _ _)) | (with_reducible exact (fw_isMat _)) | (with_reducible refine Fw_clr ?_) | (with_reducible refine Fw_clL ?_) | (with_reducible refine Fw_li (fun _ => ?_)) | (with_reducible refine Fw_rf (fun _ => ?_)) | (with_reducible refine Fw_uf (fun _ => ?_)) | (with_reducible refine Fw_rd (fun _ => ?_)) | (with_reducible refine Fw_ud (fun _ => ?_)) | (with_reducible refine Fw_sr (fun _ => ?_)) | (with_reducible refine Fw_wf rfl ?_) | (with_reducible refine Fw_wd rfl ?_) | (with_reducible refine Fw_og ?_) | (with_reducible refine Fw_ite ?_ ?_) | (with_reducible refine Fw_oi (fun _ => ?_)) | (with_reducible refine Fw_ot ?_ (fun _ => ?_)) | (with_reducible refine Fw_cl ?_ (fun _ => ?_)))

theorem fw_decide (a0 : Int32) (a1 : Int32) : Fw kI kA (f_decide a0 a1) := by
  unfold f_decide
  repeat (first | (with_reducible exact Fw_rt _) | (with_reducible intro _) | (with_reducible exact (fw_act _ _ _ _)) | (with_reducible exact (fw_in _ _ _)) | (with_reducible exact (fw_isMat _)) | (with_reducible refine Fw_clr ?_) | (with_reducible refine Fw_clL ?_) | (with_reducible refine Fw_li (fun _ => ?_)) | (with_reducible refine Fw_rf (fun _ => ?_)) | (with_reducible refine Fw_uf (fun _ => ?_)) | (with_reducible refine Fw_rd (fun _ => ?_)) | (with_reducible refine Fw_ud (fun _ => ?_)) | (with_reducible refine Fw_sr (fun _ => ?_)) | (with_reducible refine Fw_wf rfl ?_) | (with_reducible refine Fw_wd rfl ?_) | (with_reducible refine Fw_og ?_) | (with_reducible refine Fw_ite ?_ ?_) | (with_reducible refine Fw_oi (fun _ => ?_)) | (with_reducible refine Fw_ot ?_ (fun _ => ?_)) | (with_reducible refine Fw_cl ?_ (fun _ => ?_)))

theorem fw_strike (a0 : Int32) (a1 : Int32) : Fw kI kA (f_strike a0 a1) := by
  unfold f_strike
  repeat (first | (with_reducible exact Fw_rt _) | (with_reducible intro _) | (with_reducible exact (fw_act _ _ _ _)) | (with_reducible exact (fw_isFight _ _)) | (with_reducible refine Fw_clr ?_) | (with_reducible refine Fw_clL ?_) | (with_reducible refine Fw_li (fun _ => ?_)) | (with_reducible refine Fw_rf (fun _ => ?_)) | (with_reducible refine Fw_uf (fun _ => ?_)) | (with_reducible refine Fw_rd (fun _ => ?_)) | (with_reducible refine Fw_ud (fun _ => ?_)) | (with_reducible refine Fw_sr (fun _ => ?_)) | (with_reducible refine Fw_wf rfl ?_) | (with_reducible refine Fw_wd rfl ?_) | (with_reducible refine Fw_og ?_) | (with_reducible refine Fw_ite ?_ ?_) | (with_reducible refine Fw_oi (fun _ => ?_)) | (with_reducible refine Fw_ot ?_ (fun _ => ?_)) | (with_reducible refine Fw_cl ?_ (fun _ => ?_)))

