/-! ===== what the acts leave alone ===== -/
def FrR (I A : Nat → Bool) (u v : GS) : Prop := (∀ k, I k = true → v.1.1 k = u.1.1 k ∧ v.2.1 k = u.2.1 k) ∧ (∀ k, A k = true → v.1.2 k = u.1.2 k ∧ v.2.2 k = u.2.2 k) ∧ ∀ j, u.2.2 13 j = true → v.2.2 13 j = true
def Fr {β : Type} (I A : Nat → Bool) (p : PG β) : Prop := ∀ u r u1, p u = some (r, u1) → FrR I A u u1
theorem FrR.rf {I A : Nat → Bool} (u : GS) : FrR I A u u := ⟨fun _ _ => ⟨rfl, rfl⟩, fun _ _ => ⟨rfl, rfl⟩, fun _ h => h⟩
theorem FrR.trans {I A : Nat → Bool} {u v w : GS} (h1 : FrR I A u v) (h2 : FrR I A v w) : FrR I A u w := ⟨fun k hk => ⟨(h2.1 k hk).1.trans (h1.1 k hk).1, (h2.1 k hk).2.trans (h1.1 k hk).2⟩, fun k hk => ⟨(h2.2.1 k hk).1.trans (h1.2.1 k hk).1, (h2.2.1 k hk).2.trans (h1.2.1 k hk).2⟩, fun j hj => h2.2.2 j (h1.2.2 j hj)⟩
theorem Fr_rt {β : Type} {I A : Nat → Bool} (x : β) : Fr I A (prt x) := fun u r u1 e => by cases e; exact FrR.rf u
theorem Fr_no {β : Type} {I A : Nat → Bool} : Fr I A (fun _ => none : PG β) := fun _ _ _ e => by cases e
theorem Fr_og {β : Type} {I A : Nat → Bool} {b : Bool} {p : PG β} (hp : Fr I A p) : Fr I A (pog b p) := fun u r u1 e => hp u r u1 (pog_some e).2
theorem Fr_li {β : Type} {I A : Nat → Bool} {x : Int32} {q : Int32 → PG β} (hq : ∀ x, Fr I A (q x)) : Fr I A (pli x q) := hq x
theorem Fr_cl {α β : Type} {I A : Nat → Bool} {p : PG α} {q : α → PG β} (hp : Fr I A p) (hq : ∀ a, Fr I A (q a)) : Fr I A (pcl p q) := fun u r u1 e => by
  obtain ⟨a, w1, e1, e2⟩ := pcl_some e
  exact (hp u a w1 e1).trans (hq a w1 r u1 e2)
theorem Fr_oi {β : Type} {I A : Nat → Bool} {x : Option Int32} {q : Int32 → PG β} (hq : ∀ x, Fr I A (q x)) : Fr I A (poi x q) := by
  cases x with
  | none => exact Fr_no
  | some a => exact hq a
theorem Fr_ot {β : Type} {I A : Nat → Bool} {x : Option Int32} {n : PG β} {q : Int32 → PG β} (hn : Fr I A n) (hq : ∀ x, Fr I A (q x)) : Fr I A (pot x n q) := by
  cases x with
  | none => exact hn
  | some a => exact hq a
theorem Fr_ite {β : Type} {I A : Nat → Bool} {b : Prop} [Decidable b] {p q : PG β} (hp : Fr I A p) (hq : Fr I A q) : Fr I A (if b then p else q) := by
  by_cases h : b
  · rw [if_pos h]; exact hp
  · rw [if_neg h]; exact hq
theorem Fr_rf {β : Type} {I A : Nat → Bool} {k : Nat} {q : Int32 → PG β} (hq : ∀ x, Fr I A (q x)) : Fr I A (prf k q) := fun u r u1 e => by
  unfold prf at e
  cases hb : u.2.1 k with
  | false => rw [hb] at e; cases e
  | true => rw [hb] at e; exact hq _ u r u1 e
theorem Fr_rd {β : Type} {I A : Nat → Bool} {k n : Nat} {i : Int32} {q : Int32 → PG β} (hq : ∀ x, Fr I A (q x)) : Fr I A (prd k n i q) := fun u r u1 e => by
  unfold prd at e
  cases hb : gi i n && u.2.2 k i.toNatClampNeg with
  | false => rw [hb] at e; cases e
  | true => rw [hb] at e; exact hq _ u r u1 e
theorem Fr_wf {β : Type} {I A : Nat → Bool} {k : Nat} {x : Int32} {p : PG β} (hk : I k = false) (hp : Fr I A p) : Fr I A (pwf k x p) := fun u r u1 e => by
  have h1 : FrR I A u (swf k x u) := by
    refine ⟨fun j hj => ?_, fun _ _ => ⟨rfl, rfl⟩, fun _ h => h⟩
    have hjk : ¬ j = k := fun z => by rw [z, hk] at hj; cases hj
    exact ⟨if_neg hjk, if_neg hjk⟩
  exact h1.trans (hp _ r u1 e)
theorem Fr_wd {β : Type} {I A : Nat → Bool} {k n : Nat} {i x : Int32} {p : PG β} (hk : A k = false) (hp : Fr I A p) : Fr I A (pwd k n i x p) := fun u r u1 e => by
  unfold pwd at e
  cases hb : gi i n with
  | false => rw [hb] at e; cases e
  | true =>
    rw [hb] at e
    have h1 : FrR I A u (swd k i x u) := by
      refine ⟨fun _ _ => ⟨rfl, rfl⟩, fun j hj => ?_, fun j hj => ?_⟩
      · have hjk : ¬ j = k := fun z => by rw [z, hk] at hj; cases hj
        refine ⟨if_neg hjk, ?_⟩
        funext z
        exact if_neg hjk
      · show (if 13 = k then (if j = i.toNatClampNeg then true else u.2.2 k j) else u.2.2 13 j) = true
        by_cases h13 : 13 = k
        · rw [if_pos h13]
          by_cases hji : j = i.toNatClampNeg
          · rw [if_pos hji]
          · rw [if_neg hji, ← h13]; exact hj
        · rw [if_neg h13]; exact hj
    exact h1.trans (hp _ r u1 e)
/-- the cells of the laws, of the log, of the tape, of the texts -/
def fI (k : Nat) : Bool := [27, 28, 29, 30, 31, 41, 42, 43, 44, 45, 46, 47, 48, 51, 53, 55].contains k
def fA (k : Nat) : Bool := [32, 33, 34, 35, 36, 37, 40, 52, 54, 56, 63, 64, 65, 66, 67, 68, 70, 71].contains k
def gFI (k : Nat) : Bool := [42, 53, 55].contains k
def gFA (k : Nat) : Bool := [40, 52, 54].contains k
theorem Fr_clr {β : Type} {p : PG β} (hp : Fr gFI gFA p) : Fr gFI gFA (pclr p) := fun u r u1 e => by
  have h1 : FrR gFI gFA u (sclr u) := by
    refine ⟨fun k hk => ⟨rfl, ?_⟩, fun k hk => ⟨rfl, ?_⟩, fun j hj => hj⟩
    · have h2 := List.contains_iff_mem.mp hk
      simp only [List.mem_cons, List.not_mem_nil, or_false] at h2
      rcases h2 with rfl | rfl | rfl <;> rfl
    · have h2 := List.contains_iff_mem.mp hk
      simp only [List.mem_cons, List.not_mem_nil, or_false] at h2
      rcases h2 with rfl | rfl | rfl <;> rfl
  exact h1.trans (hp _ r u1 e)

theorem fr_in (a0 : Int64) (a1 : Int64) (a2 : Int64) : Fr fI fA (f_in a0 a1 a2) := by
  unfold f_in
  repeat (first | (with_reducible exact Fr_rt _) | (with_reducible intro _) | (with_reducible refine Fr_clr ?_) | (with_reducible refine Fr_li (fun _ => ?_)) | (with_reducible refine Fr_rf (fun _ => ?_)) | (with_reducible refine Fr_rd (fun _ => ?_)) | (with_reducible refine Fr_wf rfl ?_) | (with_reducible refine Fr_wd rfl ?_) | (with_reducible refine Fr_og ?_) | (with_reducible refine Fr_ite ?_ ?_) | (with_reducible refine Fr_oi (fun _ => ?_)) | (with_reducible refine Fr_ot ?_ (fun _ => ?_)) | (with_reducible refine Fr_cl ?_ (fun _ => ?_)))

theorem fr_lp_halving_2 : ∀ (n : Nat) (v1 v2 : Int32) (K0 : Int32 → Int32 → PG (Int32)), (∀ (v1 v2 : Int32), Fr fI fA (K0 v1 v2)) → Fr fI fA (lp_halving_2 n v1 v2 K0) := by
  intro n
  induction n with
  | zero => intro v1 v2 K0 hK0; exact Fr_no
  | succ n ih =>
    intro v1 v2 K0 hK0
    unfold lp_halving_2
    repeat (first | (with_reducible exact Fr_rt _) | (with_reducible intro _) | (with_reducible exact hK0 _ _) | (with_reducible exact ih _ _ _ hK0) | (with_reducible refine Fr_clr ?_) | (with_reducible refine Fr_li (fun _ => ?_)) | (with_reducible refine Fr_rf (fun _ => ?_)) | (with_reducible refine Fr_rd (fun _ => ?_)) | (with_reducible refine Fr_wf rfl ?_) | (with_reducible refine Fr_wd rfl ?_) | (with_reducible refine Fr_og ?_) | (with_reducible refine Fr_ite ?_ ?_) | (with_reducible refine Fr_oi (fun _ => ?_)) | (with_reducible refine Fr_ot ?_ (fun _ => ?_)) | (with_reducible refine Fr_cl ?_ (fun _ => ?_)))

theorem fr_halving (a0 : Int32) : Fr fI fA (f_halving a0) := by
  unfold f_halving
  repeat (first | (with_reducible exact Fr_rt _) | (with_reducible intro _) | (with_reducible refine fr_lp_halving_2 _ _ _ _ ?_) | (with_reducible refine Fr_clr ?_) | (with_reducible refine Fr_li (fun _ => ?_)) | (with_reducible refine Fr_rf (fun _ => ?_)) | (with_reducible refine Fr_rd (fun _ => ?_)) | (with_reducible refine Fr_wf rfl ?_) | (with_reducible refine Fr_wd rfl ?_) | (with_reducible refine Fr_og ?_) | (with_reducible refine Fr_ite ?_ ?_) | (with_reducible refine Fr_oi (fun _ => ?_)) | (with_reducible refine Fr_ot ?_ (fun _ => ?_)) | (with_reducible refine Fr_cl ?_ (fun _ => ?_)))

theorem fr_rounds (a0 : Int32) : Fr fI fA (f_rounds a0) := by
  unfold f_rounds
  repeat (first | (with_reducible exact Fr_rt _) | (with_reducible intro _) | (with_reducible exact fr_halving _) | (with_reducible refine Fr_clr ?_) | (with_reducible refine Fr_li (fun _ => ?_)) | (with_reducible refine Fr_rf (fun _ => ?_)) | (with_reducible refine Fr_rd (fun _ => ?_)) | (with_reducible refine Fr_wf rfl ?_) | (with_reducible refine Fr_wd rfl ?_) | (with_reducible refine Fr_og ?_) | (with_reducible refine Fr_ite ?_ ?_) | (with_reducible refine Fr_oi (fun _ => ?_)) | (with_reducible refine Fr_ot ?_ (fun _ => ?_)) | (with_reducible refine Fr_cl ?_ (fun _ => ?_)))

theorem fr_fights (a0 : Int32) : Fr fI fA (f_fights a0) := by
  unfold f_fights
  repeat (first | (with_reducible exact Fr_rt _) | (with_reducible intro _) | (with_reducible exact fr_rounds _) | (with_reducible refine Fr_clr ?_) | (with_reducible refine Fr_li (fun _ => ?_)) | (with_reducible refine Fr_rf (fun _ => ?_)) | (with_reducible refine Fr_rd (fun _ => ?_)) | (with_reducible refine Fr_wf rfl ?_) | (with_reducible refine Fr_wd rfl ?_) | (with_reducible refine Fr_og ?_) | (with_reducible refine Fr_ite ?_ ?_) | (with_reducible refine Fr_oi (fun _ => ?_)) | (with_reducible refine Fr_ot ?_ (fun _ => ?_)) | (with_reducible refine Fr_cl ?_ (fun _ => ?_)))

theorem fr_base (a0 : Int32) (a1 : Int32) : Fr fI fA (f_base a0 a1) := by
  unfold f_base
  repeat (first | (with_reducible exact Fr_rt _) | (with_reducible intro _) | (with_reducible refine Fr_clr ?_) | (with_reducible refine Fr_li (fun _ => ?_)) | (with_reducible refine Fr_rf (fun _ => ?_)) | (with_reducible refine Fr_rd (fun _ => ?_)) | (with_reducible refine Fr_wf rfl ?_) | (with_reducible refine Fr_wd rfl ?_) | (with_reducible refine Fr_og ?_) | (with_reducible refine Fr_ite ?_ ?_) | (with_reducible refine Fr_oi (fun _ => ?_)) | (with_reducible refine Fr_ot ?_ (fun _ => ?_)) | (with_reducible refine Fr_cl ?_ (fun _ => ?_)))

theorem fr_isSecond (a0 : Int32) (a1 : Int32) : Fr fI fA (f_isSecond a0 a1) := by
  unfold f_isSecond
  repeat (first | (with_reducible exact Fr_rt _) | (with_reducible intro _) | (with_reducible refine Fr_clr ?_) | (with_reducible refine Fr_li (fun _ => ?_)) | (with_reducible refine Fr_rf (fun _ => ?_)) | (with_reducible refine Fr_rd (fun _ => ?_)) | (with_reducible refine Fr_wf rfl ?_) | (with_reducible refine Fr_wd rfl ?_) | (with_reducible refine Fr_og ?_) | (with_reducible refine Fr_ite ?_ ?_) | (with_reducible refine Fr_oi (fun _ => ?_)) | (with_reducible refine Fr_ot ?_ (fun _ => ?_)) | (with_reducible refine Fr_cl ?_ (fun _ => ?_)))

theorem fr_lp_roundOf_2 : ∀ (n : Nat) (v1 v2 v3 : Int32) (K0 : Int32 → Int32 → Int32 → PG (Int32)), (∀ (v1 v2 v3 : Int32), Fr fI fA (K0 v1 v2 v3)) → Fr fI fA (lp_roundOf_2 n v1 v2 v3 K0) := by
  intro n
  induction n with
  | zero => intro v1 v2 v3 K0 hK0; exact Fr_no
  | succ n ih =>
    intro v1 v2 v3 K0 hK0
    unfold lp_roundOf_2
    repeat (first | (with_reducible exact Fr_rt _) | (with_reducible intro _) | (with_reducible exact hK0 _ _ _) | (with_reducible exact ih _ _ _ _ hK0) | (with_reducible exact fr_base _ _) | (with_reducible refine Fr_clr ?_) | (with_reducible refine Fr_li (fun _ => ?_)) | (with_reducible refine Fr_rf (fun _ => ?_)) | (with_reducible refine Fr_rd (fun _ => ?_)) | (with_reducible refine Fr_wf rfl ?_) | (with_reducible refine Fr_wd rfl ?_) | (with_reducible refine Fr_og ?_) | (with_reducible refine Fr_ite ?_ ?_) | (with_reducible refine Fr_oi (fun _ => ?_)) | (with_reducible refine Fr_ot ?_ (fun _ => ?_)) | (with_reducible refine Fr_cl ?_ (fun _ => ?_)))

theorem fr_roundOf (a0 : Int32) (a1 : Int32) : Fr fI fA (f_roundOf a0 a1) := by
  unfold f_roundOf
  repeat (first | (with_reducible exact Fr_rt _) | (with_reducible intro _) | (with_reducible refine fr_lp_roundOf_2 _ _ _ _ _ ?_) | (with_reducible exact fr_base _ _) | (with_reducible refine Fr_clr ?_) | (with_reducible refine Fr_li (fun _ => ?_)) | (with_reducible refine Fr_rf (fun _ => ?_)) | (with_reducible refine Fr_rd (fun _ => ?_)) | (with_reducible refine Fr_wf rfl ?_) | (with_reducible refine Fr_wd rfl ?_) | (with_reducible refine Fr_og ?_) | (with_reducible refine Fr_ite ?_ ?_) | (with_reducible refine Fr_oi (fun _ => ?_)) | (with_reducible refine Fr_ot ?_ (fun _ => ?_)) | (with_reducible refine Fr_cl ?_ (fun _ => ?_)))

theorem fr_halfOf (a0 : Int32) (a1 : Int32) : Fr fI fA (f_halfOf a0 a1) := by
  unfold f_halfOf
  repeat (first | (with_reducible exact Fr_rt _) | (with_reducible intro _) | (with_reducible exact fr_rounds _) | (with_reducible refine Fr_clr ?_) | (with_reducible refine Fr_li (fun _ => ?_)) | (with_reducible refine Fr_rf (fun _ => ?_)) | (with_reducible refine Fr_rd (fun _ => ?_)) | (with_reducible refine Fr_wf rfl ?_) | (with_reducible refine Fr_wd rfl ?_) | (with_reducible refine Fr_og ?_) | (with_reducible refine Fr_ite ?_ ?_) | (with_reducible refine Fr_oi (fun _ => ?_)) | (with_reducible refine Fr_ot ?_ (fun _ => ?_)) | (with_reducible refine Fr_cl ?_ (fun _ => ?_)))

theorem fr_stepOf (a0 : Int32) (a1 : Int32) : Fr fI fA (f_stepOf a0 a1) := by
  unfold f_stepOf
  repeat (first | (with_reducible exact Fr_rt _) | (with_reducible intro _) | (with_reducible exact fr_rounds _) | (with_reducible refine Fr_clr ?_) | (with_reducible refine Fr_li (fun _ => ?_)) | (with_reducible refine Fr_rf (fun _ => ?_)) | (with_reducible refine Fr_rd (fun _ => ?_)) | (with_reducible refine Fr_wf rfl ?_) | (with_reducible refine Fr_wd rfl ?_) | (with_reducible refine Fr_og ?_) | (with_reducible refine Fr_ite ?_ ?_) | (with_reducible refine Fr_oi (fun _ => ?_)) | (with_reducible refine Fr_ot ?_ (fun _ => ?_)) | (with_reducible refine Fr_cl ?_ (fun _ => ?_)))

theorem fr_lp_pair_6 : ∀ (n : Nat) (v1 v2 v3 v4 v5 : Int32) (K0 : Int32 → Int32 → Int32 → Int32 → Int32 → PG (Int32)), (∀ (v1 v2 v3 v4 v5 : Int32), Fr fI fA (K0 v1 v2 v3 v4 v5)) → Fr fI fA (lp_pair_6 n v1 v2 v3 v4 v5 K0) := by
  intro n
  induction n with
  | zero => intro v1 v2 v3 v4 v5 K0 hK0; exact Fr_no
  | succ n ih =>
    intro v1 v2 v3 v4 v5 K0 hK0
    unfold lp_pair_6
    repeat (first | (with_reducible exact Fr_rt _) | (with_reducible intro _) | (with_reducible exact hK0 _ _ _ _ _) | (with_reducible exact ih _ _ _ _ _ _ hK0) | (with_reducible refine Fr_clr ?_) | (with_reducible refine Fr_li (fun _ => ?_)) | (with_reducible refine Fr_rf (fun _ => ?_)) | (with_reducible refine Fr_rd (fun _ => ?_)) | (with_reducible refine Fr_wf rfl ?_) | (with_reducible refine Fr_wd rfl ?_) | (with_reducible refine Fr_og ?_) | (with_reducible refine Fr_ite ?_ ?_) | (with_reducible refine Fr_oi (fun _ => ?_)) | (with_reducible refine Fr_ot ?_ (fun _ => ?_)) | (with_reducible refine Fr_cl ?_ (fun _ => ?_)))

theorem fr_pair (a0 : Int32) (a1 : Int32) (a2 : Int32) : Fr fI fA (f_pair a0 a1 a2) := by
  unfold f_pair
  repeat (first | (with_reducible exact Fr_rt _) | (with_reducible intro _) | (with_reducible refine fr_lp_pair_6 _ _ _ _ _ _ _ ?_) | (with_reducible refine Fr_clr ?_) | (with_reducible refine Fr_li (fun _ => ?_)) | (with_reducible refine Fr_rf (fun _ => ?_)) | (with_reducible refine Fr_rd (fun _ => ?_)) | (with_reducible refine Fr_wf rfl ?_) | (with_reducible refine Fr_wd rfl ?_) | (with_reducible refine Fr_og ?_) | (with_reducible refine Fr_ite ?_ ?_) | (with_reducible refine Fr_oi (fun _ => ?_)) | (with_reducible refine Fr_ot ?_ (fun _ => ?_)) | (with_reducible refine Fr_cl ?_ (fun _ => ?_)))

theorem fr_bd_sideOf (F : Nat → Int32 → Int32 → Int32 → Int32 → PG (Int32)) (hFd : ∀ w a b d e, Fr fI fA (F w a b d e)) (a0 : Int32) (a1 : Int32) (a2 : Int32) : Fr fI fA (bd_sideOf F a0 a1 a2) := by
  unfold bd_sideOf
  repeat (first | (with_reducible exact Fr_rt _) | (with_reducible intro _) | (with_reducible exact fr_base _ _) | (with_reducible exact fr_halfOf _ _) | (with_reducible exact fr_isSecond _ _) | (with_reducible exact fr_pair _ _ _) | (with_reducible exact fr_roundOf _ _) | (with_reducible exact fr_stepOf _ _) | (with_reducible exact hFd _ _ _ _ _) | (with_reducible refine Fr_clr ?_) | (with_reducible refine Fr_li (fun _ => ?_)) | (with_reducible refine Fr_rf (fun _ => ?_)) | (with_reducible refine Fr_rd (fun _ => ?_)) | (with_reducible refine Fr_wf rfl ?_) | (with_reducible refine Fr_wd rfl ?_) | (with_reducible refine Fr_og ?_) | (with_reducible refine Fr_ite ?_ ?_) | (with_reducible refine Fr_oi (fun _ => ?_)) | (with_reducible refine Fr_ot ?_ (fun _ => ?_)) | (with_reducible refine Fr_cl ?_ (fun _ => ?_)))

theorem fr_bd_second (F : Nat → Int32 → Int32 → Int32 → Int32 → PG (Int32)) (hFd : ∀ w a b d e, Fr fI fA (F w a b d e)) (a0 : Int32) (a1 : Int32) (a2 : Int32) (a3 : Int32) : Fr fI fA (bd_second F a0 a1 a2 a3) := by
  unfold bd_second
  repeat (first | (with_reducible exact Fr_rt _) | (with_reducible intro _) | (with_reducible exact fr_rounds _) | (with_reducible exact hFd _ _ _ _ _) | (with_reducible refine Fr_clr ?_) | (with_reducible refine Fr_li (fun _ => ?_)) | (with_reducible refine Fr_rf (fun _ => ?_)) | (with_reducible refine Fr_rd (fun _ => ?_)) | (with_reducible refine Fr_wf rfl ?_) | (with_reducible refine Fr_wd rfl ?_) | (with_reducible refine Fr_og ?_) | (with_reducible refine Fr_ite ?_ ?_) | (with_reducible refine Fr_oi (fun _ => ?_)) | (with_reducible refine Fr_ot ?_ (fun _ => ?_)) | (with_reducible refine Fr_cl ?_ (fun _ => ?_)))

theorem fr_bd_loserTo (F : Nat → Int32 → Int32 → Int32 → Int32 → PG (Int32)) (hFd : ∀ w a b d e, Fr fI fA (F w a b d e)) (a0 : Int32) (a1 : Int32) (a2 : Int32) : Fr fI fA (bd_loserTo F a0 a1 a2) := by
  unfold bd_loserTo
  repeat (first | (with_reducible exact Fr_rt _) | (with_reducible intro _) | (with_reducible exact fr_base _ _) | (with_reducible exact fr_rounds _) | (with_reducible exact hFd _ _ _ _ _) | (with_reducible refine Fr_clr ?_) | (with_reducible refine Fr_li (fun _ => ?_)) | (with_reducible refine Fr_rf (fun _ => ?_)) | (with_reducible refine Fr_rd (fun _ => ?_)) | (with_reducible refine Fr_wf rfl ?_) | (with_reducible refine Fr_wd rfl ?_) | (with_reducible refine Fr_og ?_) | (with_reducible refine Fr_ite ?_ ?_) | (with_reducible refine Fr_oi (fun _ => ?_)) | (with_reducible refine Fr_ot ?_ (fun _ => ?_)) | (with_reducible refine Fr_cl ?_ (fun _ => ?_)))

theorem fr_bd_winnerOf (F : Nat → Int32 → Int32 → Int32 → Int32 → PG (Int32)) (hFd : ∀ w a b d e, Fr fI fA (F w a b d e)) (a0 : Int32) (a1 : Int32) : Fr fI fA (bd_winnerOf F a0 a1) := by
  unfold bd_winnerOf
  repeat (first | (with_reducible exact Fr_rt _) | (with_reducible intro _) | (with_reducible exact hFd _ _ _ _ _) | (with_reducible refine Fr_clr ?_) | (with_reducible refine Fr_li (fun _ => ?_)) | (with_reducible refine Fr_rf (fun _ => ?_)) | (with_reducible refine Fr_rd (fun _ => ?_)) | (with_reducible refine Fr_wf rfl ?_) | (with_reducible refine Fr_wd rfl ?_) | (with_reducible refine Fr_og ?_) | (with_reducible refine Fr_ite ?_ ?_) | (with_reducible refine Fr_oi (fun _ => ?_)) | (with_reducible refine Fr_ot ?_ (fun _ => ?_)) | (with_reducible refine Fr_cl ?_ (fun _ => ?_)))

theorem fr_fS : ∀ (d w : Nat) (a0 a1 a2 a3 : Int32), Fr fI fA (fS d w a0 a1 a2 a3) := by
  intro d
  induction d with
  | zero => intro w a0 a1 a2 a3; exact Fr_no
  | succ d ih =>
    intro w a0 a1 a2 a3
    unfold fS
    repeat (first | (with_reducible refine Fr_ite ?_ ?_) | (with_reducible exact fr_bd_sideOf _ ih _ _ _) | (with_reducible exact fr_bd_second _ ih _ _ _ _) | (with_reducible exact fr_bd_loserTo _ ih _ _ _) | (with_reducible exact fr_bd_winnerOf _ ih _ _))

theorem fr_joined (a0 : Int32) (a1 : Int32) (a2 : Int32) : Fr fI fA (f_joined a0 a1 a2) := by
  unfold f_joined
  repeat (first | (with_reducible exact Fr_rt _) | (with_reducible intro _) | (with_reducible refine Fr_clr ?_) | (with_reducible refine Fr_li (fun _ => ?_)) | (with_reducible refine Fr_rf (fun _ => ?_)) | (with_reducible refine Fr_rd (fun _ => ?_)) | (with_reducible refine Fr_wf rfl ?_) | (with_reducible refine Fr_wd rfl ?_) | (with_reducible refine Fr_og ?_) | (with_reducible refine Fr_ite ?_ ?_) | (with_reducible refine Fr_oi (fun _ => ?_)) | (with_reducible refine Fr_ot ?_ (fun _ => ?_)) | (with_reducible refine Fr_cl ?_ (fun _ => ?_)))

theorem fr_termOf (a0 : Int32) (a1 : Int32) (a2 : Int32) (a3 : Int32) : Fr fI fA (f_termOf a0 a1 a2 a3) := by
  unfold f_termOf
  repeat (first | (with_reducible exact Fr_rt _) | (with_reducible intro _) | (with_reducible refine Fr_clr ?_) | (with_reducible refine Fr_li (fun _ => ?_)) | (with_reducible refine Fr_rf (fun _ => ?_)) | (with_reducible refine Fr_rd (fun _ => ?_)) | (with_reducible refine Fr_wf rfl ?_) | (with_reducible refine Fr_wd rfl ?_) | (with_reducible refine Fr_og ?_) | (with_reducible refine Fr_ite ?_ ?_) | (with_reducible refine Fr_oi (fun _ => ?_)) | (with_reducible refine Fr_ot ?_ (fun _ => ?_)) | (with_reducible refine Fr_cl ?_ (fun _ => ?_)))

theorem fr_lp_holds_11 : ∀ (n : Nat) (v1 v2 v3 v4 v5 v6 : Int32) (K0 : Int32 → Int32 → Int32 → Int32 → Int32 → Int32 → PG (Int32)), (∀ (v1 v2 v3 v4 v5 v6 : Int32), Fr fI fA (K0 v1 v2 v3 v4 v5 v6)) → Fr fI fA (lp_holds_11 n v1 v2 v3 v4 v5 v6 K0) := by
  intro n
  induction n with
  | zero => intro v1 v2 v3 v4 v5 v6 K0 hK0; exact Fr_no
  | succ n ih =>
    intro v1 v2 v3 v4 v5 v6 K0 hK0
    unfold lp_holds_11
    repeat (first | (with_reducible exact Fr_rt _) | (with_reducible intro _) | (with_reducible exact hK0 _ _ _ _ _ _) | (with_reducible exact ih _ _ _ _ _ _ _ hK0) | (with_reducible exact fr_joined _ _ _) | (with_reducible exact fr_termOf _ _ _ _) | (with_reducible refine Fr_clr ?_) | (with_reducible refine Fr_li (fun _ => ?_)) | (with_reducible refine Fr_rf (fun _ => ?_)) | (with_reducible refine Fr_rd (fun _ => ?_)) | (with_reducible refine Fr_wf rfl ?_) | (with_reducible refine Fr_wd rfl ?_) | (with_reducible refine Fr_og ?_) | (with_reducible refine Fr_ite ?_ ?_) | (with_reducible refine Fr_oi (fun _ => ?_)) | (with_reducible refine Fr_ot ?_ (fun _ => ?_)) | (with_reducible refine Fr_cl ?_ (fun _ => ?_)))

theorem fr_holds (a0 : Int32) (a1 : Int32) (a2 : Int32) (a3 : Int32) : Fr fI fA (f_holds a0 a1 a2 a3) := by
  unfold f_holds
  repeat (first | (with_reducible exact Fr_rt _) | (with_reducible intro _) | (with_reducible refine fr_lp_holds_11 _ _ _ _ _ _ _ _ ?_) | (with_reducible exact fr_joined _ _ _) | (with_reducible exact fr_termOf _ _ _ _) | (with_reducible refine Fr_clr ?_) | (with_reducible refine Fr_li (fun _ => ?_)) | (with_reducible refine Fr_rf (fun _ => ?_)) | (with_reducible refine Fr_rd (fun _ => ?_)) | (with_reducible refine Fr_wf rfl ?_) | (with_reducible refine Fr_wd rfl ?_) | (with_reducible refine Fr_og ?_) | (with_reducible refine Fr_ite ?_ ?_) | (with_reducible refine Fr_oi (fun _ => ?_)) | (with_reducible refine Fr_ot ?_ (fun _ => ?_)) | (with_reducible refine Fr_cl ?_ (fun _ => ?_)))

theorem fr_lp_anew_47 : ∀ (n : Nat) (v1 v2 : Int32) (K0 : Int32 → Int32 → PG (Int32)), (∀ (v1 v2 : Int32), Fr gFI gFA (K0 v1 v2)) → Fr gFI gFA (lp_anew_47 n v1 v2 K0) := by
  intro n
  induction n with
  | zero => intro v1 v2 K0 hK0; exact Fr_no
  | succ n ih =>
    intro v1 v2 K0 hK0
    unfold lp_anew_47
    repeat (first | (with_reducible exact Fr_rt _) | (with_reducible intro _) | (with_reducible exact hK0 _ _) | (with_reducible exact ih _ _ _ hK0) | (with_reducible refine Fr_clr ?_) | (with_reducible refine Fr_li (fun _ => ?_)) | (with_reducible refine Fr_rf (fun _ => ?_)) | (with_reducible refine Fr_rd (fun _ => ?_)) | (with_reducible refine Fr_wf rfl ?_) | (with_reducible refine Fr_wd rfl ?_) | (with_reducible refine Fr_og ?_) | (with_reducible refine Fr_ite ?_ ?_) | (with_reducible refine Fr_oi (fun _ => ?_)) | (with_reducible refine Fr_ot ?_ (fun _ => ?_)) | (with_reducible refine Fr_cl ?_ (fun _ => ?_)))

theorem fr_lp_anew_18 : ∀ (n : Nat) (v1 : Int32) (K0 : Int32 → PG (Int32)), (∀ (v1 : Int32), Fr gFI gFA (K0 v1)) → Fr gFI gFA (lp_anew_18 n v1 K0) := by
  intro n
  induction n with
  | zero => intro v1 K0 hK0; exact Fr_no
  | succ n ih =>
    intro v1 K0 hK0
    unfold lp_anew_18
    repeat (first | (with_reducible exact Fr_rt _) | (with_reducible intro _) | (with_reducible exact hK0 _) | (with_reducible exact ih _ _ hK0) | (with_reducible refine fr_lp_anew_47 _ _ _ _ ?_) | (with_reducible refine Fr_clr ?_) | (with_reducible refine Fr_li (fun _ => ?_)) | (with_reducible refine Fr_rf (fun _ => ?_)) | (with_reducible refine Fr_rd (fun _ => ?_)) | (with_reducible refine Fr_wf rfl ?_) | (with_reducible refine Fr_wd rfl ?_) | (with_reducible refine Fr_og ?_) | (with_reducible refine Fr_ite ?_ ?_) | (with_reducible refine Fr_oi (fun _ => ?_)) | (with_reducible refine Fr_ot ?_ (fun _ => ?_)) | (with_reducible refine Fr_cl ?_ (fun _ => ?_)))

theorem fr_lp_anew_79 : ∀ (n : Nat) (v1 : Int32) (K0 : Int32 → PG (Int32)), (∀ (v1 : Int32), Fr gFI gFA (K0 v1)) → Fr gFI gFA (lp_anew_79 n v1 K0) := by
  intro n
  induction n with
  | zero => intro v1 K0 hK0; exact Fr_no
  | succ n ih =>
    intro v1 K0 hK0
    unfold lp_anew_79
    repeat (first | (with_reducible exact Fr_rt _) | (with_reducible intro _) | (with_reducible exact hK0 _) | (with_reducible exact ih _ _ hK0) | (with_reducible refine fr_lp_anew_47 _ _ _ _ ?_) | (with_reducible refine fr_lp_anew_18 _ _ _ ?_) | (with_reducible refine Fr_clr ?_) | (with_reducible refine Fr_li (fun _ => ?_)) | (with_reducible refine Fr_rf (fun _ => ?_)) | (with_reducible refine Fr_rd (fun _ => ?_)) | (with_reducible refine Fr_wf rfl ?_) | (with_reducible refine Fr_wd rfl ?_) | (with_reducible refine Fr_og ?_) | (with_reducible refine Fr_ite ?_ ?_) | (with_reducible refine Fr_oi (fun _ => ?_)) | (with_reducible refine Fr_ot ?_ (fun _ => ?_)) | (with_reducible refine Fr_cl ?_ (fun _ => ?_)))

theorem fr_anew : Fr gFI gFA (f_anew) := by
  unfold f_anew
  repeat (first | (with_reducible exact Fr_rt _) | (with_reducible intro _) | (with_reducible refine fr_lp_anew_47 _ _ _ _ ?_) | (with_reducible refine fr_lp_anew_18 _ _ _ ?_) | (with_reducible refine fr_lp_anew_79 _ _ _ ?_) | (with_reducible refine Fr_clr ?_) | (with_reducible refine Fr_li (fun _ => ?_)) | (with_reducible refine Fr_rf (fun _ => ?_)) | (with_reducible refine Fr_rd (fun _ => ?_)) | (with_reducible refine Fr_wf rfl ?_) | (with_reducible refine Fr_wd rfl ?_) | (with_reducible refine Fr_og ?_) | (with_reducible refine Fr_ite ?_ ?_) | (with_reducible refine Fr_oi (fun _ => ?_)) | (with_reducible refine Fr_ot ?_ (fun _ => ?_)) | (with_reducible refine Fr_cl ?_ (fun _ => ?_)))

theorem fr_comes (a0 : Int32) (a1 : Int32) : Fr fI fA (f_comes a0 a1) := by
  unfold f_comes
  repeat (first | (with_reducible exact Fr_rt _) | (with_reducible intro _) | (with_reducible refine Fr_clr ?_) | (with_reducible refine Fr_li (fun _ => ?_)) | (with_reducible refine Fr_rf (fun _ => ?_)) | (with_reducible refine Fr_rd (fun _ => ?_)) | (with_reducible refine Fr_wf rfl ?_) | (with_reducible refine Fr_wd rfl ?_) | (with_reducible refine Fr_og ?_) | (with_reducible refine Fr_ite ?_ ?_) | (with_reducible refine Fr_oi (fun _ => ?_)) | (with_reducible refine Fr_ot ?_ (fun _ => ?_)) | (with_reducible refine Fr_cl ?_ (fun _ => ?_)))

theorem fr_lp_weighed_4 : ∀ (n : Nat) (v1 v2 v3 : Int32) (K0 : Int32 → Int32 → Int32 → PG (Int32)), (∀ (v1 v2 v3 : Int32), Fr fI fA (K0 v1 v2 v3)) → Fr fI fA (lp_weighed_4 n v1 v2 v3 K0) := by
  intro n
  induction n with
  | zero => intro v1 v2 v3 K0 hK0; exact Fr_no
  | succ n ih =>
    intro v1 v2 v3 K0 hK0
    unfold lp_weighed_4
    repeat (first | (with_reducible exact Fr_rt _) | (with_reducible intro _) | (with_reducible exact hK0 _ _ _) | (with_reducible exact ih _ _ _ _ hK0) | (with_reducible refine Fr_clr ?_) | (with_reducible refine Fr_li (fun _ => ?_)) | (with_reducible refine Fr_rf (fun _ => ?_)) | (with_reducible refine Fr_rd (fun _ => ?_)) | (with_reducible refine Fr_wf rfl ?_) | (with_reducible refine Fr_wd rfl ?_) | (with_reducible refine Fr_og ?_) | (with_reducible refine Fr_ite ?_ ?_) | (with_reducible refine Fr_oi (fun _ => ?_)) | (with_reducible refine Fr_ot ?_ (fun _ => ?_)) | (with_reducible refine Fr_cl ?_ (fun _ => ?_)))

theorem fr_weighed (a0 : Int32) : Fr fI fA (f_weighed a0) := by
  unfold f_weighed
  repeat (first | (with_reducible exact Fr_rt _) | (with_reducible intro _) | (with_reducible refine fr_lp_weighed_4 _ _ _ _ _ ?_) | (with_reducible refine Fr_clr ?_) | (with_reducible refine Fr_li (fun _ => ?_)) | (with_reducible refine Fr_rf (fun _ => ?_)) | (with_reducible refine Fr_rd (fun _ => ?_)) | (with_reducible refine Fr_wf rfl ?_) | (with_reducible refine Fr_wd rfl ?_) | (with_reducible refine Fr_og ?_) | (with_reducible refine Fr_ite ?_ ?_) | (with_reducible refine Fr_oi (fun _ => ?_)) | (with_reducible refine Fr_ot ?_ (fun _ => ?_)) | (with_reducible refine Fr_cl ?_ (fun _ => ?_)))

theorem fr_lp_makeRow_16 : ∀ (n : Nat) (v1 v2 v3 : Int32) (K0 : Int32 → Int32 → Int32 → PG (Int32)), (∀ (v1 v2 v3 : Int32), Fr fI fA (K0 v1 v2 v3)) → Fr fI fA (lp_makeRow_16 n v1 v2 v3 K0) := by
  intro n
  induction n with
  | zero => intro v1 v2 v3 K0 hK0; exact Fr_no
  | succ n ih =>
    intro v1 v2 v3 K0 hK0
    unfold lp_makeRow_16
    repeat (first | (with_reducible exact Fr_rt _) | (with_reducible intro _) | (with_reducible exact hK0 _ _ _) | (with_reducible exact ih _ _ _ _ hK0) | (with_reducible refine Fr_clr ?_) | (with_reducible refine Fr_li (fun _ => ?_)) | (with_reducible refine Fr_rf (fun _ => ?_)) | (with_reducible refine Fr_rd (fun _ => ?_)) | (with_reducible refine Fr_wf rfl ?_) | (with_reducible refine Fr_wd rfl ?_) | (with_reducible refine Fr_og ?_) | (with_reducible refine Fr_ite ?_ ?_) | (with_reducible refine Fr_oi (fun _ => ?_)) | (with_reducible refine Fr_ot ?_ (fun _ => ?_)) | (with_reducible refine Fr_cl ?_ (fun _ => ?_)))

theorem fr_lp_makeRow_41 : ∀ (n : Nat) (v1 v2 v3 : Int32) (K0 : Int32 → Int32 → Int32 → PG (Int32)), (∀ (v1 v2 v3 : Int32), Fr fI fA (K0 v1 v2 v3)) → Fr fI fA (lp_makeRow_41 n v1 v2 v3 K0) := by
  intro n
  induction n with
  | zero => intro v1 v2 v3 K0 hK0; exact Fr_no
  | succ n ih =>
    intro v1 v2 v3 K0 hK0
    unfold lp_makeRow_41
    repeat (first | (with_reducible exact Fr_rt _) | (with_reducible intro _) | (with_reducible exact hK0 _ _ _) | (with_reducible exact ih _ _ _ _ hK0) | (with_reducible refine fr_lp_makeRow_16 _ _ _ _ _ ?_) | (with_reducible refine Fr_clr ?_) | (with_reducible refine Fr_li (fun _ => ?_)) | (with_reducible refine Fr_rf (fun _ => ?_)) | (with_reducible refine Fr_rd (fun _ => ?_)) | (with_reducible refine Fr_wf rfl ?_) | (with_reducible refine Fr_wd rfl ?_) | (with_reducible refine Fr_og ?_) | (with_reducible refine Fr_ite ?_ ?_) | (with_reducible refine Fr_oi (fun _ => ?_)) | (with_reducible refine Fr_ot ?_ (fun _ => ?_)) | (with_reducible refine Fr_cl ?_ (fun _ => ?_)))

theorem fr_lp_makeRow_9 : ∀ (n : Nat) (v1 v2 : Int32) (K0 : Int32 → Int32 → PG (Int32)), (∀ (v1 v2 : Int32), Fr fI fA (K0 v1 v2)) → Fr fI fA (lp_makeRow_9 n v1 v2 K0) := by
  intro n
  induction n with
  | zero => intro v1 v2 K0 hK0; exact Fr_no
  | succ n ih =>
    intro v1 v2 K0 hK0
    unfold lp_makeRow_9
    repeat (first | (with_reducible exact Fr_rt _) | (with_reducible intro _) | (with_reducible exact hK0 _ _) | (with_reducible exact ih _ _ _ hK0) | (with_reducible refine fr_lp_makeRow_16 _ _ _ _ _ ?_) | (with_reducible refine fr_lp_makeRow_41 _ _ _ _ _ ?_) | (with_reducible refine Fr_clr ?_) | (with_reducible refine Fr_li (fun _ => ?_)) | (with_reducible refine Fr_rf (fun _ => ?_)) | (with_reducible refine Fr_rd (fun _ => ?_)) | (with_reducible refine Fr_wf rfl ?_) | (with_reducible refine Fr_wd rfl ?_) | (with_reducible refine Fr_og ?_) | (with_reducible refine Fr_ite ?_ ?_) | (with_reducible refine Fr_oi (fun _ => ?_)) | (with_reducible refine Fr_ot ?_ (fun _ => ?_)) | (with_reducible refine Fr_cl ?_ (fun _ => ?_)))

theorem fr_makeRow (a0 : Int32) : Fr fI fA (f_makeRow a0) := by
  unfold f_makeRow
  repeat (first | (with_reducible exact Fr_rt _) | (with_reducible intro _) | (with_reducible refine fr_lp_makeRow_16 _ _ _ _ _ ?_) | (with_reducible refine fr_lp_makeRow_41 _ _ _ _ _ ?_) | (with_reducible refine fr_lp_makeRow_9 _ _ _ _ ?_) | (with_reducible refine Fr_clr ?_) | (with_reducible refine Fr_li (fun _ => ?_)) | (with_reducible refine Fr_rf (fun _ => ?_)) | (with_reducible refine Fr_rd (fun _ => ?_)) | (with_reducible refine Fr_wf rfl ?_) | (with_reducible refine Fr_wd rfl ?_) | (with_reducible refine Fr_og ?_) | (with_reducible refine Fr_ite ?_ ?_) | (with_reducible refine Fr_oi (fun _ => ?_)) | (with_reducible refine Fr_ot ?_ (fun _ => ?_)) | (with_reducible refine Fr_cl ?_ (fun _ => ?_)))

theorem fr_isOther (a0 : Int32) (a1 : Int32) : Fr fI fA (f_isOther a0 a1) := by
  unfold f_isOther
  repeat (first | (with_reducible exact Fr_rt _) | (with_reducible intro _) | (with_reducible refine Fr_clr ?_) | (with_reducible refine Fr_li (fun _ => ?_)) | (with_reducible refine Fr_rf (fun _ => ?_)) | (with_reducible refine Fr_rd (fun _ => ?_)) | (with_reducible refine Fr_wf rfl ?_) | (with_reducible refine Fr_wd rfl ?_) | (with_reducible refine Fr_og ?_) | (with_reducible refine Fr_ite ?_ ?_) | (with_reducible refine Fr_oi (fun _ => ?_)) | (with_reducible refine Fr_ot ?_ (fun _ => ?_)) | (with_reducible refine Fr_cl ?_ (fun _ => ?_)))

theorem fr_settle (a0 : Int32) (a1 : Int32) (a2 : Int32) : Fr fI fA (f_settle a0 a1 a2) := by
  unfold f_settle
  repeat (first | (with_reducible exact Fr_rt _) | (with_reducible intro _) | (with_reducible refine Fr_clr ?_) | (with_reducible refine Fr_li (fun _ => ?_)) | (with_reducible refine Fr_rf (fun _ => ?_)) | (with_reducible refine Fr_rd (fun _ => ?_)) | (with_reducible refine Fr_wf rfl ?_) | (with_reducible refine Fr_wd rfl ?_) | (with_reducible refine Fr_og ?_) | (with_reducible refine Fr_ite ?_ ?_) | (with_reducible refine Fr_oi (fun _ => ?_)) | (with_reducible refine Fr_ot ?_ (fun _ => ?_)) | (with_reducible refine Fr_cl ?_ (fun _ => ?_)))

theorem fr_lp_bestPlace_87 : ∀ (n : Nat) (v1 v2 v3 v4 v5 v6 v7 v8 v9 v10 v11 : Int32) (K0 : Int32 → Int32 → Int32 → Int32 → Int32 → Int32 → Int32 → Int32 → Int32 → Int32 → Int32 → PG (Int32)), (∀ (v1 v2 v3 v4 v5 v6 v7 v8 v9 v10 v11 : Int32), Fr fI fA (K0 v1 v2 v3 v4 v5 v6 v7 v8 v9 v10 v11)) → Fr fI fA (lp_bestPlace_87 n v1 v2 v3 v4 v5 v6 v7 v8 v9 v10 v11 K0) := by
  intro n
  induction n with
  | zero => intro v1 v2 v3 v4 v5 v6 v7 v8 v9 v10 v11 K0 hK0; exact Fr_no
  | succ n ih =>
    intro v1 v2 v3 v4 v5 v6 v7 v8 v9 v10 v11 K0 hK0
    unfold lp_bestPlace_87
    repeat (first | (with_reducible exact Fr_rt _) | (with_reducible intro _) | (with_reducible exact hK0 _ _ _ _ _ _ _ _ _ _ _) | (with_reducible exact ih _ _ _ _ _ _ _ _ _ _ _ _ hK0) | (with_reducible refine Fr_clr ?_) | (with_reducible refine Fr_li (fun _ => ?_)) | (with_reducible refine Fr_rf (fun _ => ?_)) | (with_reducible refine Fr_rd (fun _ => ?_)) | (with_reducible refine Fr_wf rfl ?_) | (with_reducible refine Fr_wd rfl ?_) | (with_reducible refine Fr_og ?_) | (with_reducible refine Fr_ite ?_ ?_) | (with_reducible refine Fr_oi (fun _ => ?_)) | (with_reducible refine Fr_ot ?_ (fun _ => ?_)) | (with_reducible refine Fr_cl ?_ (fun _ => ?_)))

theorem fr_lp_bestPlace_44 : ∀ (n : Nat) (v1 v2 v3 v4 v5 v6 v7 v8 v9 : Int32) (K0 : Int32 → Int32 → Int32 → Int32 → Int32 → Int32 → Int32 → Int32 → Int32 → PG (Int32)), (∀ (v1 v2 v3 v4 v5 v6 v7 v8 v9 : Int32), Fr fI fA (K0 v1 v2 v3 v4 v5 v6 v7 v8 v9)) → Fr fI fA (lp_bestPlace_44 n v1 v2 v3 v4 v5 v6 v7 v8 v9 K0) := by
  intro n
  induction n with
  | zero => intro v1 v2 v3 v4 v5 v6 v7 v8 v9 K0 hK0; exact Fr_no
  | succ n ih =>
    intro v1 v2 v3 v4 v5 v6 v7 v8 v9 K0 hK0
    unfold lp_bestPlace_44
    repeat (first | (with_reducible exact Fr_rt _) | (with_reducible intro _) | (with_reducible exact hK0 _ _ _ _ _ _ _ _ _) | (with_reducible exact ih _ _ _ _ _ _ _ _ _ _ hK0) | (with_reducible refine fr_lp_bestPlace_87 _ _ _ _ _ _ _ _ _ _ _ _ _ ?_) | (with_reducible refine Fr_clr ?_) | (with_reducible refine Fr_li (fun _ => ?_)) | (with_reducible refine Fr_rf (fun _ => ?_)) | (with_reducible refine Fr_rd (fun _ => ?_)) | (with_reducible refine Fr_wf rfl ?_) | (with_reducible refine Fr_wd rfl ?_) | (with_reducible refine Fr_og ?_) | (with_reducible refine Fr_ite ?_ ?_) | (with_reducible refine Fr_oi (fun _ => ?_)) | (with_reducible refine Fr_ot ?_ (fun _ => ?_)) | (with_reducible refine Fr_cl ?_ (fun _ => ?_)))

theorem fr_lp_bestPlace_9 : ∀ (n : Nat) (v1 v2 v3 v4 v5 v6 : Int32) (K0 : Int32 → Int32 → Int32 → Int32 → Int32 → Int32 → PG (Int32)), (∀ (v1 v2 v3 v4 v5 v6 : Int32), Fr fI fA (K0 v1 v2 v3 v4 v5 v6)) → Fr fI fA (lp_bestPlace_9 n v1 v2 v3 v4 v5 v6 K0) := by
  intro n
  induction n with
  | zero => intro v1 v2 v3 v4 v5 v6 K0 hK0; exact Fr_no
  | succ n ih =>
    intro v1 v2 v3 v4 v5 v6 K0 hK0
    unfold lp_bestPlace_9
    repeat (first | (with_reducible exact Fr_rt _) | (with_reducible intro _) | (with_reducible exact hK0 _ _ _ _ _ _) | (with_reducible exact ih _ _ _ _ _ _ _ hK0) | (with_reducible refine fr_lp_bestPlace_87 _ _ _ _ _ _ _ _ _ _ _ _ _ ?_) | (with_reducible refine fr_lp_bestPlace_44 _ _ _ _ _ _ _ _ _ _ _ ?_) | (with_reducible refine Fr_clr ?_) | (with_reducible refine Fr_li (fun _ => ?_)) | (with_reducible refine Fr_rf (fun _ => ?_)) | (with_reducible refine Fr_rd (fun _ => ?_)) | (with_reducible refine Fr_wf rfl ?_) | (with_reducible refine Fr_wd rfl ?_) | (with_reducible refine Fr_og ?_) | (with_reducible refine Fr_ite ?_ ?_) | (with_reducible refine Fr_oi (fun _ => ?_)) | (with_reducible refine Fr_ot ?_ (fun _ => ?_)) | (with_reducible refine Fr_cl ?_ (fun _ => ?_)))

theorem fr_bestPlace (a0 : Int32) (a1 : Int32) (a2 : Int32) : Fr fI fA (f_bestPlace a0 a1 a2) := by
  unfold f_bestPlace
  repeat (first | (with_reducible exact Fr_rt _) | (with_reducible intro _) | (with_reducible refine fr_lp_bestPlace_87 _ _ _ _ _ _ _ _ _ _ _ _ _ ?_) | (with_reducible refine fr_lp_bestPlace_44 _ _ _ _ _ _ _ _ _ _ _ ?_) | (with_reducible refine fr_lp_bestPlace_9 _ _ _ _ _ _ _ _ ?_) | (with_reducible refine Fr_clr ?_) | (with_reducible refine Fr_li (fun _ => ?_)) | (with_reducible refine Fr_rf (fun _ => ?_)) | (with_reducible refine Fr_rd (fun _ => ?_)) | (with_reducible refine Fr_wf rfl ?_) | (with_reducible refine Fr_wd rfl ?_) | (with_reducible refine Fr_og ?_) | (with_reducible refine Fr_ite ?_ ?_) | (with_reducible refine Fr_oi (fun _ => ?_)) | (with_reducible refine Fr_ot ?_ (fun _ => ?_)) | (with_reducible refine Fr_cl ?_ (fun _ => ?_)))

theorem fr_lp_draws_150 : ∀ (n : Nat) (v1 v2 v3 : Int32) (K0 : Int32 → Int32 → Int32 → PG (Int32)), (∀ (v1 v2 v3 : Int32), Fr fI fA (K0 v1 v2 v3)) → Fr fI fA (lp_draws_150 n v1 v2 v3 K0) := by
  intro n
  induction n with
  | zero => intro v1 v2 v3 K0 hK0; exact Fr_no
  | succ n ih =>
    intro v1 v2 v3 K0 hK0
    unfold lp_draws_150
    repeat (first | (with_reducible exact Fr_rt _) | (with_reducible intro _) | (with_reducible exact hK0 _ _ _) | (with_reducible exact ih _ _ _ _ hK0) | (with_reducible exact fr_bestPlace _ _ _) | (with_reducible exact fr_fights _) | (with_reducible exact fr_isOther _ _) | (with_reducible exact fr_makeRow _) | (with_reducible exact fr_settle _ _ _) | (with_reducible exact fr_weighed _) | (with_reducible refine Fr_clr ?_) | (with_reducible refine Fr_li (fun _ => ?_)) | (with_reducible refine Fr_rf (fun _ => ?_)) | (with_reducible refine Fr_rd (fun _ => ?_)) | (with_reducible refine Fr_wf rfl ?_) | (with_reducible refine Fr_wd rfl ?_) | (with_reducible refine Fr_og ?_) | (with_reducible refine Fr_ite ?_ ?_) | (with_reducible refine Fr_oi (fun _ => ?_)) | (with_reducible refine Fr_ot ?_ (fun _ => ?_)) | (with_reducible refine Fr_cl ?_ (fun _ => ?_)))

theorem fr_lp_draws_187 : ∀ (n : Nat) (v1 v2 v3 : Int32) (K0 : Int32 → Int32 → Int32 → PG (Int32)), (∀ (v1 v2 v3 : Int32), Fr fI fA (K0 v1 v2 v3)) → Fr fI fA (lp_draws_187 n v1 v2 v3 K0) := by
  intro n
  induction n with
  | zero => intro v1 v2 v3 K0 hK0; exact Fr_no
  | succ n ih =>
    intro v1 v2 v3 K0 hK0
    unfold lp_draws_187
    repeat (first | (with_reducible exact Fr_rt _) | (with_reducible intro _) | (with_reducible exact hK0 _ _ _) | (with_reducible exact ih _ _ _ _ hK0) | (with_reducible refine fr_lp_draws_150 _ _ _ _ _ ?_) | (with_reducible exact fr_bestPlace _ _ _) | (with_reducible exact fr_fights _) | (with_reducible exact fr_isOther _ _) | (with_reducible exact fr_makeRow _) | (with_reducible exact fr_settle _ _ _) | (with_reducible exact fr_weighed _) | (with_reducible refine Fr_clr ?_) | (with_reducible refine Fr_li (fun _ => ?_)) | (with_reducible refine Fr_rf (fun _ => ?_)) | (with_reducible refine Fr_rd (fun _ => ?_)) | (with_reducible refine Fr_wf rfl ?_) | (with_reducible refine Fr_wd rfl ?_) | (with_reducible refine Fr_og ?_) | (with_reducible refine Fr_ite ?_ ?_) | (with_reducible refine Fr_oi (fun _ => ?_)) | (with_reducible refine Fr_ot ?_ (fun _ => ?_)) | (with_reducible refine Fr_cl ?_ (fun _ => ?_)))

theorem fr_lp_draws_230 : ∀ (n : Nat) (v1 v2 v3 v4 v5 : Int32) (K0 : Int32 → Int32 → Int32 → Int32 → Int32 → PG (Int32)), (∀ (v1 v2 v3 v4 v5 : Int32), Fr fI fA (K0 v1 v2 v3 v4 v5)) → Fr fI fA (lp_draws_230 n v1 v2 v3 v4 v5 K0) := by
  intro n
  induction n with
  | zero => intro v1 v2 v3 v4 v5 K0 hK0; exact Fr_no
  | succ n ih =>
    intro v1 v2 v3 v4 v5 K0 hK0
    unfold lp_draws_230
    repeat (first | (with_reducible exact Fr_rt _) | (with_reducible intro _) | (with_reducible exact hK0 _ _ _ _ _) | (with_reducible exact ih _ _ _ _ _ _ hK0) | (with_reducible refine fr_lp_draws_150 _ _ _ _ _ ?_) | (with_reducible refine fr_lp_draws_187 _ _ _ _ _ ?_) | (with_reducible exact fr_bestPlace _ _ _) | (with_reducible exact fr_fights _) | (with_reducible exact fr_isOther _ _) | (with_reducible exact fr_makeRow _) | (with_reducible exact fr_settle _ _ _) | (with_reducible exact fr_weighed _) | (with_reducible refine Fr_clr ?_) | (with_reducible refine Fr_li (fun _ => ?_)) | (with_reducible refine Fr_rf (fun _ => ?_)) | (with_reducible refine Fr_rd (fun _ => ?_)) | (with_reducible refine Fr_wf rfl ?_) | (with_reducible refine Fr_wd rfl ?_) | (with_reducible refine Fr_og ?_) | (with_reducible refine Fr_ite ?_ ?_) | (with_reducible refine Fr_oi (fun _ => ?_)) | (with_reducible refine Fr_ot ?_ (fun _ => ?_)) | (with_reducible refine Fr_cl ?_ (fun _ => ?_)))

theorem fr_lp_draws_220 : ∀ (n : Nat) (v1 v2 v3 v4 : Int32) (K0 : Int32 → Int32 → Int32 → Int32 → PG (Int32)), (∀ (v1 v2 v3 v4 : Int32), Fr fI fA (K0 v1 v2 v3 v4)) → Fr fI fA (lp_draws_220 n v1 v2 v3 v4 K0) := by
  intro n
  induction n with
  | zero => intro v1 v2 v3 v4 K0 hK0; exact Fr_no
  | succ n ih =>
    intro v1 v2 v3 v4 K0 hK0
    unfold lp_draws_220
    repeat (first | (with_reducible exact Fr_rt _) | (with_reducible intro _) | (with_reducible exact hK0 _ _ _ _) | (with_reducible exact ih _ _ _ _ _ hK0) | (with_reducible refine fr_lp_draws_150 _ _ _ _ _ ?_) | (with_reducible refine fr_lp_draws_187 _ _ _ _ _ ?_) | (with_reducible refine fr_lp_draws_230 _ _ _ _ _ _ _ ?_) | (with_reducible exact fr_bestPlace _ _ _) | (with_reducible exact fr_fights _) | (with_reducible exact fr_isOther _ _) | (with_reducible exact fr_makeRow _) | (with_reducible exact fr_settle _ _ _) | (with_reducible exact fr_weighed _) | (with_reducible refine Fr_clr ?_) | (with_reducible refine Fr_li (fun _ => ?_)) | (with_reducible refine Fr_rf (fun _ => ?_)) | (with_reducible refine Fr_rd (fun _ => ?_)) | (with_reducible refine Fr_wf rfl ?_) | (with_reducible refine Fr_wd rfl ?_) | (with_reducible refine Fr_og ?_) | (with_reducible refine Fr_ite ?_ ?_) | (with_reducible refine Fr_oi (fun _ => ?_)) | (with_reducible refine Fr_ot ?_ (fun _ => ?_)) | (with_reducible refine Fr_cl ?_ (fun _ => ?_)))

theorem fr_lp_draws_307 : ∀ (n : Nat) (v1 v2 v3 v4 : Int32) (K0 : Int32 → Int32 → Int32 → Int32 → PG (Int32)), (∀ (v1 v2 v3 v4 : Int32), Fr fI fA (K0 v1 v2 v3 v4)) → Fr fI fA (lp_draws_307 n v1 v2 v3 v4 K0) := by
  intro n
  induction n with
  | zero => intro v1 v2 v3 v4 K0 hK0; exact Fr_no
  | succ n ih =>
    intro v1 v2 v3 v4 K0 hK0
    unfold lp_draws_307
    repeat (first | (with_reducible exact Fr_rt _) | (with_reducible intro _) | (with_reducible exact hK0 _ _ _ _) | (with_reducible exact ih _ _ _ _ _ hK0) | (with_reducible refine fr_lp_draws_150 _ _ _ _ _ ?_) | (with_reducible refine fr_lp_draws_187 _ _ _ _ _ ?_) | (with_reducible refine fr_lp_draws_230 _ _ _ _ _ _ _ ?_) | (with_reducible refine fr_lp_draws_220 _ _ _ _ _ _ ?_) | (with_reducible exact fr_bestPlace _ _ _) | (with_reducible exact fr_fights _) | (with_reducible exact fr_isOther _ _) | (with_reducible exact fr_makeRow _) | (with_reducible exact fr_settle _ _ _) | (with_reducible exact fr_weighed _) | (with_reducible refine Fr_clr ?_) | (with_reducible refine Fr_li (fun _ => ?_)) | (with_reducible refine Fr_rf (fun _ => ?_)) | (with_reducible refine Fr_rd (fun _ => ?_)) | (with_reducible refine Fr_wf rfl ?_) | (with_reducible refine Fr_wd rfl ?_) | (with_reducible refine Fr_og ?_) | (with_reducible refine Fr_ite ?_ ?_) | (with_reducible refine Fr_oi (fun _ => ?_)) | (with_reducible refine Fr_ot ?_ (fun _ => ?_)) | (with_reducible refine Fr_cl ?_ (fun _ => ?_)))

theorem fr_lp_draws_331 : ∀ (n : Nat) (v1 v2 v3 v4 : Int32) (K0 : Int32 → Int32 → Int32 → Int32 → PG (Int32)), (∀ (v1 v2 v3 v4 : Int32), Fr fI fA (K0 v1 v2 v3 v4)) → Fr fI fA (lp_draws_331 n v1 v2 v3 v4 K0) := by
  intro n
  induction n with
  | zero => intro v1 v2 v3 v4 K0 hK0; exact Fr_no
  | succ n ih =>
    intro v1 v2 v3 v4 K0 hK0
    unfold lp_draws_331
    repeat (first | (with_reducible exact Fr_rt _) | (with_reducible intro _) | (with_reducible exact hK0 _ _ _ _) | (with_reducible exact ih _ _ _ _ _ hK0) | (with_reducible refine fr_lp_draws_150 _ _ _ _ _ ?_) | (with_reducible refine fr_lp_draws_187 _ _ _ _ _ ?_) | (with_reducible refine fr_lp_draws_230 _ _ _ _ _ _ _ ?_) | (with_reducible refine fr_lp_draws_220 _ _ _ _ _ _ ?_) | (with_reducible refine fr_lp_draws_307 _ _ _ _ _ _ ?_) | (with_reducible exact fr_bestPlace _ _ _) | (with_reducible exact fr_fights _) | (with_reducible exact fr_isOther _ _) | (with_reducible exact fr_makeRow _) | (with_reducible exact fr_settle _ _ _) | (with_reducible exact fr_weighed _) | (with_reducible refine Fr_clr ?_) | (with_reducible refine Fr_li (fun _ => ?_)) | (with_reducible refine Fr_rf (fun _ => ?_)) | (with_reducible refine Fr_rd (fun _ => ?_)) | (with_reducible refine Fr_wf rfl ?_) | (with_reducible refine Fr_wd rfl ?_) | (with_reducible refine Fr_og ?_) | (with_reducible refine Fr_ite ?_ ?_) | (with_reducible refine Fr_oi (fun _ => ?_)) | (with_reducible refine Fr_ot ?_ (fun _ => ?_)) | (with_reducible refine Fr_cl ?_ (fun _ => ?_)))

theorem fr_lp_draws_388 : ∀ (n : Nat) (v1 v2 v3 v4 v5 v6 : Int32) (K0 : Int32 → Int32 → Int32 → Int32 → Int32 → Int32 → PG (Int32)), (∀ (v1 v2 v3 v4 v5 v6 : Int32), Fr fI fA (K0 v1 v2 v3 v4 v5 v6)) → Fr fI fA (lp_draws_388 n v1 v2 v3 v4 v5 v6 K0) := by
  intro n
  induction n with
  | zero => intro v1 v2 v3 v4 v5 v6 K0 hK0; exact Fr_no
  | succ n ih =>
    intro v1 v2 v3 v4 v5 v6 K0 hK0
    unfold lp_draws_388
    repeat (first | (with_reducible exact Fr_rt _) | (with_reducible intro _) | (with_reducible exact hK0 _ _ _ _ _ _) | (with_reducible exact ih _ _ _ _ _ _ _ hK0) | (with_reducible refine fr_lp_draws_150 _ _ _ _ _ ?_) | (with_reducible refine fr_lp_draws_187 _ _ _ _ _ ?_) | (with_reducible refine fr_lp_draws_230 _ _ _ _ _ _ _ ?_) | (with_reducible refine fr_lp_draws_220 _ _ _ _ _ _ ?_) | (with_reducible refine fr_lp_draws_307 _ _ _ _ _ _ ?_) | (with_reducible refine fr_lp_draws_331 _ _ _ _ _ _ ?_) | (with_reducible exact fr_bestPlace _ _ _) | (with_reducible exact fr_fights _) | (with_reducible exact fr_isOther _ _) | (with_reducible exact fr_makeRow _) | (with_reducible exact fr_settle _ _ _) | (with_reducible exact fr_weighed _) | (with_reducible refine Fr_clr ?_) | (with_reducible refine Fr_li (fun _ => ?_)) | (with_reducible refine Fr_rf (fun _ => ?_)) | (with_reducible refine Fr_rd (fun _ => ?_)) | (with_reducible refine Fr_wf rfl ?_) | (with_reducible refine Fr_wd rfl ?_) | (with_reducible refine Fr_og ?_) | (with_reducible refine Fr_ite ?_ ?_) | (with_reducible refine Fr_oi (fun _ => ?_)) | (with_reducible refine Fr_ot ?_ (fun _ => ?_)) | (with_reducible refine Fr_cl ?_ (fun _ => ?_)))

theorem fr_lp_draws_425 : ∀ (n : Nat) (v1 v2 v3 v4 v5 v6 : Int32) (K0 : Int32 → Int32 → Int32 → Int32 → Int32 → Int32 → PG (Int32)), (∀ (v1 v2 v3 v4 v5 v6 : Int32), Fr fI fA (K0 v1 v2 v3 v4 v5 v6)) → Fr fI fA (lp_draws_425 n v1 v2 v3 v4 v5 v6 K0) := by
  intro n
  induction n with
  | zero => intro v1 v2 v3 v4 v5 v6 K0 hK0; exact Fr_no
  | succ n ih =>
    intro v1 v2 v3 v4 v5 v6 K0 hK0
    unfold lp_draws_425
    repeat (first | (with_reducible exact Fr_rt _) | (with_reducible intro _) | (with_reducible exact hK0 _ _ _ _ _ _) | (with_reducible exact ih _ _ _ _ _ _ _ hK0) | (with_reducible refine fr_lp_draws_150 _ _ _ _ _ ?_) | (with_reducible refine fr_lp_draws_187 _ _ _ _ _ ?_) | (with_reducible refine fr_lp_draws_230 _ _ _ _ _ _ _ ?_) | (with_reducible refine fr_lp_draws_220 _ _ _ _ _ _ ?_) | (with_reducible refine fr_lp_draws_307 _ _ _ _ _ _ ?_) | (with_reducible refine fr_lp_draws_331 _ _ _ _ _ _ ?_) | (with_reducible refine fr_lp_draws_388 _ _ _ _ _ _ _ _ ?_) | (with_reducible exact fr_bestPlace _ _ _) | (with_reducible exact fr_fights _) | (with_reducible exact fr_isOther _ _) | (with_reducible exact fr_makeRow _) | (with_reducible exact fr_settle _ _ _) | (with_reducible exact fr_weighed _) | (with_reducible refine Fr_clr ?_) | (with_reducible refine Fr_li (fun _ => ?_)) | (with_reducible refine Fr_rf (fun _ => ?_)) | (with_reducible refine Fr_rd (fun _ => ?_)) | (with_reducible refine Fr_wf rfl ?_) | (with_reducible refine Fr_wd rfl ?_) | (with_reducible refine Fr_og ?_) | (with_reducible refine Fr_ite ?_ ?_) | (with_reducible refine Fr_oi (fun _ => ?_)) | (with_reducible refine Fr_ot ?_ (fun _ => ?_)) | (with_reducible refine Fr_cl ?_ (fun _ => ?_)))

theorem fr_lp_draws_375 : ∀ (n : Nat) (v1 v2 v3 v4 : Int32) (K0 : Int32 → Int32 → Int32 → Int32 → PG (Int32)), (∀ (v1 v2 v3 v4 : Int32), Fr fI fA (K0 v1 v2 v3 v4)) → Fr fI fA (lp_draws_375 n v1 v2 v3 v4 K0) := by
  intro n
  induction n with
  | zero => intro v1 v2 v3 v4 K0 hK0; exact Fr_no
  | succ n ih =>
    intro v1 v2 v3 v4 K0 hK0
    unfold lp_draws_375
    repeat (first | (with_reducible exact Fr_rt _) | (with_reducible intro _) | (with_reducible exact hK0 _ _ _ _) | (with_reducible exact ih _ _ _ _ _ hK0) | (with_reducible refine fr_lp_draws_150 _ _ _ _ _ ?_) | (with_reducible refine fr_lp_draws_187 _ _ _ _ _ ?_) | (with_reducible refine fr_lp_draws_230 _ _ _ _ _ _ _ ?_) | (with_reducible refine fr_lp_draws_220 _ _ _ _ _ _ ?_) | (with_reducible refine fr_lp_draws_307 _ _ _ _ _ _ ?_) | (with_reducible refine fr_lp_draws_331 _ _ _ _ _ _ ?_) | (with_reducible refine fr_lp_draws_388 _ _ _ _ _ _ _ _ ?_) | (with_reducible refine fr_lp_draws_425 _ _ _ _ _ _ _ _ ?_) | (with_reducible exact fr_bestPlace _ _ _) | (with_reducible exact fr_fights _) | (with_reducible exact fr_isOther _ _) | (with_reducible exact fr_makeRow _) | (with_reducible exact fr_settle _ _ _) | (with_reducible exact fr_weighed _) | (with_reducible refine Fr_clr ?_) | (with_reducible refine Fr_li (fun _ => ?_)) | (with_reducible refine Fr_rf (fun _ => ?_)) | (with_reducible refine Fr_rd (fun _ => ?_)) | (with_reducible refine Fr_wf rfl ?_) | (with_reducible refine Fr_wd rfl ?_) | (with_reducible refine Fr_og ?_) | (with_reducible refine Fr_ite ?_ ?_) | (with_reducible refine Fr_oi (fun _ => ?_)) | (with_reducible refine Fr_ot ?_ (fun _ => ?_)) | (with_reducible refine Fr_cl ?_ (fun _ => ?_)))

theorem fr_lp_draws_31 : ∀ (n : Nat) (v1 v2 v3 v4 : Int32) (K0 : Int32 → Int32 → Int32 → Int32 → PG (Int32)), (∀ (v1 v2 v3 v4 : Int32), Fr fI fA (K0 v1 v2 v3 v4)) → Fr fI fA (lp_draws_31 n v1 v2 v3 v4 K0) := by
  intro n
  induction n with
  | zero => intro v1 v2 v3 v4 K0 hK0; exact Fr_no
  | succ n ih =>
    intro v1 v2 v3 v4 K0 hK0
    unfold lp_draws_31
    repeat (first | (with_reducible exact Fr_rt _) | (with_reducible intro _) | (with_reducible exact hK0 _ _ _ _) | (with_reducible exact ih _ _ _ _ _ hK0) | (with_reducible refine fr_lp_draws_150 _ _ _ _ _ ?_) | (with_reducible refine fr_lp_draws_187 _ _ _ _ _ ?_) | (with_reducible refine fr_lp_draws_230 _ _ _ _ _ _ _ ?_) | (with_reducible refine fr_lp_draws_220 _ _ _ _ _ _ ?_) | (with_reducible refine fr_lp_draws_307 _ _ _ _ _ _ ?_) | (with_reducible refine fr_lp_draws_331 _ _ _ _ _ _ ?_) | (with_reducible refine fr_lp_draws_388 _ _ _ _ _ _ _ _ ?_) | (with_reducible refine fr_lp_draws_425 _ _ _ _ _ _ _ _ ?_) | (with_reducible refine fr_lp_draws_375 _ _ _ _ _ _ ?_) | (with_reducible exact fr_bestPlace _ _ _) | (with_reducible exact fr_fights _) | (with_reducible exact fr_isOther _ _) | (with_reducible exact fr_makeRow _) | (with_reducible exact fr_settle _ _ _) | (with_reducible exact fr_weighed _) | (with_reducible refine Fr_clr ?_) | (with_reducible refine Fr_li (fun _ => ?_)) | (with_reducible refine Fr_rf (fun _ => ?_)) | (with_reducible refine Fr_rd (fun _ => ?_)) | (with_reducible refine Fr_wf rfl ?_) | (with_reducible refine Fr_wd rfl ?_) | (with_reducible refine Fr_og ?_) | (with_reducible refine Fr_ite ?_ ?_) | (with_reducible refine Fr_oi (fun _ => ?_)) | (with_reducible refine Fr_ot ?_ (fun _ => ?_)) | (with_reducible refine Fr_cl ?_ (fun _ => ?_)))

theorem fr_draws (a0 : Int32) : Fr fI fA (f_draws a0) := by
  unfold f_draws
  repeat (first | (with_reducible exact Fr_rt _) | (with_reducible intro _) | (with_reducible refine fr_lp_draws_150 _ _ _ _ _ ?_) | (with_reducible refine fr_lp_draws_187 _ _ _ _ _ ?_) | (with_reducible refine fr_lp_draws_230 _ _ _ _ _ _ _ ?_) | (with_reducible refine fr_lp_draws_220 _ _ _ _ _ _ ?_) | (with_reducible refine fr_lp_draws_307 _ _ _ _ _ _ ?_) | (with_reducible refine fr_lp_draws_331 _ _ _ _ _ _ ?_) | (with_reducible refine fr_lp_draws_388 _ _ _ _ _ _ _ _ ?_) | (with_reducible refine fr_lp_draws_425 _ _ _ _ _ _ _ _ ?_) | (with_reducible refine fr_lp_draws_375 _ _ _ _ _ _ ?_) | (with_reducible refine fr_lp_draws_31 _ _ _ _ _ _ ?_) | (with_reducible exact fr_bestPlace _ _ _) | (with_reducible exact fr_fights _) | (with_reducible exact fr_isOther _ _) | (with_reducible exact fr_makeRow _) | (with_reducible exact fr_settle _ _ _) | (with_reducible exact fr_weighed _) | (with_reducible refine Fr_clr ?_) | (with_reducible refine Fr_li (fun _ => ?_)) | (with_reducible refine Fr_rf (fun _ => ?_)) | (with_reducible refine Fr_rd (fun _ => ?_)) | (with_reducible refine Fr_wf rfl ?_) | (with_reducible refine Fr_wd rfl ?_) | (with_reducible refine Fr_og ?_) | (with_reducible refine Fr_ite ?_ ?_) | (with_reducible refine Fr_oi (fun _ => ?_)) | (with_reducible refine Fr_ot ?_ (fun _ => ?_)) | (with_reducible refine Fr_cl ?_ (fun _ => ?_)))

theorem fr_lp_matOf_2 : ∀ (n : Nat) (v1 v2 v3 : Int32) (K0 : Int32 → Int32 → Int32 → PG (Int32)), (∀ (v1 v2 v3 : Int32), Fr fI fA (K0 v1 v2 v3)) → Fr fI fA (lp_matOf_2 n v1 v2 v3 K0) := by
  intro n
  induction n with
  | zero => intro v1 v2 v3 K0 hK0; exact Fr_no
  | succ n ih =>
    intro v1 v2 v3 K0 hK0
    unfold lp_matOf_2
    repeat (first | (with_reducible exact Fr_rt _) | (with_reducible intro _) | (with_reducible exact hK0 _ _ _) | (with_reducible exact ih _ _ _ _ hK0) | (with_reducible refine Fr_clr ?_) | (with_reducible refine Fr_li (fun _ => ?_)) | (with_reducible refine Fr_rf (fun _ => ?_)) | (with_reducible refine Fr_rd (fun _ => ?_)) | (with_reducible refine Fr_wf rfl ?_) | (with_reducible refine Fr_wd rfl ?_) | (with_reducible refine Fr_og ?_) | (with_reducible refine Fr_ite ?_ ?_) | (with_reducible refine Fr_oi (fun _ => ?_)) | (with_reducible refine Fr_ot ?_ (fun _ => ?_)) | (with_reducible refine Fr_cl ?_ (fun _ => ?_)))

theorem fr_matOf (a0 : Int32) (a1 : Int32) : Fr fI fA (f_matOf a0 a1) := by
  unfold f_matOf
  repeat (first | (with_reducible exact Fr_rt _) | (with_reducible intro _) | (with_reducible refine fr_lp_matOf_2 _ _ _ _ _ ?_) | (with_reducible refine Fr_clr ?_) | (with_reducible refine Fr_li (fun _ => ?_)) | (with_reducible refine Fr_rf (fun _ => ?_)) | (with_reducible refine Fr_rd (fun _ => ?_)) | (with_reducible refine Fr_wf rfl ?_) | (with_reducible refine Fr_wd rfl ?_) | (with_reducible refine Fr_og ?_) | (with_reducible refine Fr_ite ?_ ?_) | (with_reducible refine Fr_oi (fun _ => ?_)) | (with_reducible refine Fr_ot ?_ (fun _ => ?_)) | (with_reducible refine Fr_cl ?_ (fun _ => ?_)))

theorem fr_goesOver (a0 : Int32) : Fr fI fA (f_goesOver a0) := by
  unfold f_goesOver
  repeat (first | (with_reducible exact Fr_rt _) | (with_reducible intro _) | (with_reducible refine Fr_clr ?_) | (with_reducible refine Fr_li (fun _ => ?_)) | (with_reducible refine Fr_rf (fun _ => ?_)) | (with_reducible refine Fr_rd (fun _ => ?_)) | (with_reducible refine Fr_wf rfl ?_) | (with_reducible refine Fr_wd rfl ?_) | (with_reducible refine Fr_og ?_) | (with_reducible refine Fr_ite ?_ ?_) | (with_reducible refine Fr_oi (fun _ => ?_)) | (with_reducible refine Fr_ot ?_ (fun _ => ?_)) | (with_reducible refine Fr_cl ?_ (fun _ => ?_)))

theorem fr_lp_begins_79 : ∀ (n : Nat) (v1 v2 v3 v4 v5 : Int32) (K0 : Int32 → Int32 → Int32 → Int32 → Int32 → PG (Int32)), (∀ (v1 v2 v3 v4 v5 : Int32), Fr fI fA (K0 v1 v2 v3 v4 v5)) → Fr fI fA (lp_begins_79 n v1 v2 v3 v4 v5 K0) := by
  intro n
  induction n with
  | zero => intro v1 v2 v3 v4 v5 K0 hK0; exact Fr_no
  | succ n ih =>
    intro v1 v2 v3 v4 v5 K0 hK0
    unfold lp_begins_79
    repeat (first | (with_reducible exact Fr_rt _) | (with_reducible intro _) | (with_reducible exact hK0 _ _ _ _ _) | (with_reducible exact ih _ _ _ _ _ _ hK0) | (with_reducible exact fr_fS _ _ _ _ _ _) | (with_reducible exact fr_goesOver _) | (with_reducible refine Fr_clr ?_) | (with_reducible refine Fr_li (fun _ => ?_)) | (with_reducible refine Fr_rf (fun _ => ?_)) | (with_reducible refine Fr_rd (fun _ => ?_)) | (with_reducible refine Fr_wf rfl ?_) | (with_reducible refine Fr_wd rfl ?_) | (with_reducible refine Fr_og ?_) | (with_reducible refine Fr_ite ?_ ?_) | (with_reducible refine Fr_oi (fun _ => ?_)) | (with_reducible refine Fr_ot ?_ (fun _ => ?_)) | (with_reducible refine Fr_cl ?_ (fun _ => ?_)))

theorem fr_begins (a0 : Int32) (a1 : Int32) (a2 : Int32) : Fr fI fA (f_begins a0 a1 a2) := by
  unfold f_begins
  repeat (first | (with_reducible exact Fr_rt _) | (with_reducible intro _) | (with_reducible refine fr_lp_begins_79 _ _ _ _ _ _ _ ?_) | (with_reducible exact fr_fS _ _ _ _ _ _) | (with_reducible exact fr_goesOver _) | (with_reducible refine Fr_clr ?_) | (with_reducible refine Fr_li (fun _ => ?_)) | (with_reducible refine Fr_rf (fun _ => ?_)) | (with_reducible refine Fr_rd (fun _ => ?_)) | (with_reducible refine Fr_wf rfl ?_) | (with_reducible refine Fr_wd rfl ?_) | (with_reducible refine Fr_og ?_) | (with_reducible refine Fr_ite ?_ ?_) | (with_reducible refine Fr_oi (fun _ => ?_)) | (with_reducible refine Fr_ot ?_ (fun _ => ?_)) | (with_reducible refine Fr_cl ?_ (fun _ => ?_)))

theorem fr_ends (a0 : Int32) (a1 : Int32) (a2 : Int32) (a3 : Int32) : Fr fI fA (f_ends a0 a1 a2 a3) := by
  unfold f_ends
  repeat (first | (with_reducible exact Fr_rt _) | (with_reducible intro _) | (with_reducible refine Fr_clr ?_) | (with_reducible refine Fr_li (fun _ => ?_)) | (with_reducible refine Fr_rf (fun _ => ?_)) | (with_reducible refine Fr_rd (fun _ => ?_)) | (with_reducible refine Fr_wf rfl ?_) | (with_reducible refine Fr_wd rfl ?_) | (with_reducible refine Fr_og ?_) | (with_reducible refine Fr_ite ?_ ?_) | (with_reducible refine Fr_oi (fun _ => ?_)) | (with_reducible refine Fr_ot ?_ (fun _ => ?_)) | (with_reducible refine Fr_cl ?_ (fun _ => ?_)))

theorem fr_lp_asked_13 : ∀ (n : Nat) (v1 v2 v3 v4 : Int32) (K0 : Int32 → Int32 → Int32 → Int32 → PG (Int32)), (∀ (v1 v2 v3 v4 : Int32), Fr fI fA (K0 v1 v2 v3 v4)) → Fr fI fA (lp_asked_13 n v1 v2 v3 v4 K0) := by
  intro n
  induction n with
  | zero => intro v1 v2 v3 v4 K0 hK0; exact Fr_no
  | succ n ih =>
    intro v1 v2 v3 v4 K0 hK0
    unfold lp_asked_13
    repeat (first | (with_reducible exact Fr_rt _) | (with_reducible intro _) | (with_reducible exact hK0 _ _ _ _) | (with_reducible exact ih _ _ _ _ _ hK0) | (with_reducible exact fr_ends _ _ _ _) | (with_reducible exact fr_holds _ _ _ _) | (with_reducible refine Fr_clr ?_) | (with_reducible refine Fr_li (fun _ => ?_)) | (with_reducible refine Fr_rf (fun _ => ?_)) | (with_reducible refine Fr_rd (fun _ => ?_)) | (with_reducible refine Fr_wf rfl ?_) | (with_reducible refine Fr_wd rfl ?_) | (with_reducible refine Fr_og ?_) | (with_reducible refine Fr_ite ?_ ?_) | (with_reducible refine Fr_oi (fun _ => ?_)) | (with_reducible refine Fr_ot ?_ (fun _ => ?_)) | (with_reducible refine Fr_cl ?_ (fun _ => ?_)))

theorem fr_lp_asked_2 : ∀ (n : Nat) (v1 v2 v3 : Int32) (K0 : Int32 → Int32 → Int32 → PG (Int32)), (∀ (v1 v2 v3 : Int32), Fr fI fA (K0 v1 v2 v3)) → Fr fI fA (lp_asked_2 n v1 v2 v3 K0) := by
  intro n
  induction n with
  | zero => intro v1 v2 v3 K0 hK0; exact Fr_no
  | succ n ih =>
    intro v1 v2 v3 K0 hK0
    unfold lp_asked_2
    repeat (first | (with_reducible exact Fr_rt _) | (with_reducible intro _) | (with_reducible exact hK0 _ _ _) | (with_reducible exact ih _ _ _ _ hK0) | (with_reducible refine fr_lp_asked_13 _ _ _ _ _ _ ?_) | (with_reducible exact fr_ends _ _ _ _) | (with_reducible exact fr_holds _ _ _ _) | (with_reducible refine Fr_clr ?_) | (with_reducible refine Fr_li (fun _ => ?_)) | (with_reducible refine Fr_rf (fun _ => ?_)) | (with_reducible refine Fr_rd (fun _ => ?_)) | (with_reducible refine Fr_wf rfl ?_) | (with_reducible refine Fr_wd rfl ?_) | (with_reducible refine Fr_og ?_) | (with_reducible refine Fr_ite ?_ ?_) | (with_reducible refine Fr_oi (fun _ => ?_)) | (with_reducible refine Fr_ot ?_ (fun _ => ?_)) | (with_reducible refine Fr_cl ?_ (fun _ => ?_)))

theorem fr_asked (a0 : Int32) (a1 : Int32) : Fr fI fA (f_asked a0 a1) := by
  unfold f_asked
  repeat (first | (with_reducible exact Fr_rt _) | (with_reducible intro _) | (with_reducible refine fr_lp_asked_13 _ _ _ _ _ _ ?_) | (with_reducible refine fr_lp_asked_2 _ _ _ _ _ ?_) | (with_reducible exact fr_ends _ _ _ _) | (with_reducible exact fr_holds _ _ _ _) | (with_reducible refine Fr_clr ?_) | (with_reducible refine Fr_li (fun _ => ?_)) | (with_reducible refine Fr_rf (fun _ => ?_)) | (with_reducible refine Fr_rd (fun _ => ?_)) | (with_reducible refine Fr_wf rfl ?_) | (with_reducible refine Fr_wd rfl ?_) | (with_reducible refine Fr_og ?_) | (with_reducible refine Fr_ite ?_ ?_) | (with_reducible refine Fr_oi (fun _ => ?_)) | (with_reducible refine Fr_ot ?_ (fun _ => ?_)) | (with_reducible refine Fr_cl ?_ (fun _ => ?_)))

theorem fr_passes (a0 : Int32) (a1 : Int32) : Fr fI fA (f_passes a0 a1) := by
  unfold f_passes
  repeat (first | (with_reducible exact Fr_rt _) | (with_reducible intro _) | (with_reducible exact fr_asked _ _) | (with_reducible exact fr_goesOver _) | (with_reducible refine Fr_clr ?_) | (with_reducible refine Fr_li (fun _ => ?_)) | (with_reducible refine Fr_rf (fun _ => ?_)) | (with_reducible refine Fr_rd (fun _ => ?_)) | (with_reducible refine Fr_wf rfl ?_) | (with_reducible refine Fr_wd rfl ?_) | (with_reducible refine Fr_og ?_) | (with_reducible refine Fr_ite ?_ ?_) | (with_reducible refine Fr_oi (fun _ => ?_)) | (with_reducible refine Fr_ot ?_ (fun _ => ?_)) | (with_reducible refine Fr_cl ?_ (fun _ => ?_)))

theorem fr_lp_struck_28 : ∀ (n : Nat) (v1 v2 v3 v4 v5 : Int32) (K0 : Int32 → Int32 → Int32 → Int32 → Int32 → PG (Int32)), (∀ (v1 v2 v3 v4 v5 : Int32), Fr fI fA (K0 v1 v2 v3 v4 v5)) → Fr fI fA (lp_struck_28 n v1 v2 v3 v4 v5 K0) := by
  intro n
  induction n with
  | zero => intro v1 v2 v3 v4 v5 K0 hK0; exact Fr_no
  | succ n ih =>
    intro v1 v2 v3 v4 v5 K0 hK0
    unfold lp_struck_28
    repeat (first | (with_reducible exact Fr_rt _) | (with_reducible intro _) | (with_reducible exact hK0 _ _ _ _ _) | (with_reducible exact ih _ _ _ _ _ _ hK0) | (with_reducible exact fr_fS _ _ _ _ _ _) | (with_reducible exact fr_fights _) | (with_reducible exact fr_matOf _ _) | (with_reducible refine Fr_clr ?_) | (with_reducible refine Fr_li (fun _ => ?_)) | (with_reducible refine Fr_rf (fun _ => ?_)) | (with_reducible refine Fr_rd (fun _ => ?_)) | (with_reducible refine Fr_wf rfl ?_) | (with_reducible refine Fr_wd rfl ?_) | (with_reducible refine Fr_og ?_) | (with_reducible refine Fr_ite ?_ ?_) | (with_reducible refine Fr_oi (fun _ => ?_)) | (with_reducible refine Fr_ot ?_ (fun _ => ?_)) | (with_reducible refine Fr_cl ?_ (fun _ => ?_)))

theorem fr_lp_struck_17 : ∀ (n : Nat) (v1 v2 v3 v4 : Int32) (K0 : Int32 → Int32 → Int32 → Int32 → PG (Int32)), (∀ (v1 v2 v3 v4 : Int32), Fr fI fA (K0 v1 v2 v3 v4)) → Fr fI fA (lp_struck_17 n v1 v2 v3 v4 K0) := by
  intro n
  induction n with
  | zero => intro v1 v2 v3 v4 K0 hK0; exact Fr_no
  | succ n ih =>
    intro v1 v2 v3 v4 K0 hK0
    unfold lp_struck_17
    repeat (first | (with_reducible exact Fr_rt _) | (with_reducible intro _) | (with_reducible exact hK0 _ _ _ _) | (with_reducible exact ih _ _ _ _ _ hK0) | (with_reducible refine fr_lp_struck_28 _ _ _ _ _ _ _ ?_) | (with_reducible exact fr_fS _ _ _ _ _ _) | (with_reducible exact fr_fights _) | (with_reducible exact fr_matOf _ _) | (with_reducible refine Fr_clr ?_) | (with_reducible refine Fr_li (fun _ => ?_)) | (with_reducible refine Fr_rf (fun _ => ?_)) | (with_reducible refine Fr_rd (fun _ => ?_)) | (with_reducible refine Fr_wf rfl ?_) | (with_reducible refine Fr_wd rfl ?_) | (with_reducible refine Fr_og ?_) | (with_reducible refine Fr_ite ?_ ?_) | (with_reducible refine Fr_oi (fun _ => ?_)) | (with_reducible refine Fr_ot ?_ (fun _ => ?_)) | (with_reducible refine Fr_cl ?_ (fun _ => ?_)))

theorem fr_struck (a0 : Int32) (a1 : Int32) : Fr fI fA (f_struck a0 a1) := by
  unfold f_struck
  repeat (first | (with_reducible exact Fr_rt _) | (with_reducible intro _) | (with_reducible refine fr_lp_struck_28 _ _ _ _ _ _ _ ?_) | (with_reducible refine fr_lp_struck_17 _ _ _ _ _ _ ?_) | (with_reducible exact fr_fS _ _ _ _ _ _) | (with_reducible exact fr_fights _) | (with_reducible exact fr_matOf _ _) | (with_reducible refine Fr_clr ?_) | (with_reducible refine Fr_li (fun _ => ?_)) | (with_reducible refine Fr_rf (fun _ => ?_)) | (with_reducible refine Fr_rd (fun _ => ?_)) | (with_reducible refine Fr_wf rfl ?_) | (with_reducible refine Fr_wd rfl ?_) | (with_reducible refine Fr_og ?_) | (with_reducible refine Fr_ite ?_ ?_) | (with_reducible refine Fr_oi (fun _ => ?_)) | (with_reducible refine Fr_ot ?_ (fun _ => ?_)) | (with_reducible refine Fr_cl ?_ (fun _ => ?_)))

theorem fr_does (a0 a1 a2 a3 : Int32) (h0 : ¬ a0 = 0) : Fr fI fA (f_does a0 a1 a2 a3) := by
  unfold f_does
  rw [if_neg h0]
  repeat (first | (with_reducible exact Fr_rt _) | (with_reducible intro _) | (with_reducible exact fr_asked _ _) | (with_reducible exact fr_begins _ _ _) | (with_reducible exact fr_comes _ _) | (with_reducible exact fr_draws _) | (with_reducible exact fr_ends _ _ _ _) | (with_reducible exact fr_in _ _ _) | (with_reducible exact fr_passes _ _) | (with_reducible exact fr_struck _ _) | (with_reducible refine Fr_clr ?_) | (with_reducible refine Fr_li (fun _ => ?_)) | (with_reducible refine Fr_rf (fun _ => ?_)) | (with_reducible refine Fr_rd (fun _ => ?_)) | (with_reducible refine Fr_wf rfl ?_) | (with_reducible refine Fr_wd rfl ?_) | (with_reducible refine Fr_og ?_) | (with_reducible refine Fr_ite ?_ ?_) | (with_reducible refine Fr_oi (fun _ => ?_)) | (with_reducible refine Fr_ot ?_ (fun _ => ?_)) | (with_reducible refine Fr_cl ?_ (fun _ => ?_)))

