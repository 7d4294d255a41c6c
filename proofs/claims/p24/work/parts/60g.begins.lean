/-! ===== sideOf looks at no fight's result but at whether it is 2 ===== -/
def Eq2 (w v : GS) : Prop := v.1.2 10 = w.1.2 10 ∧ v.1.2 12 = w.1.2 12 ∧ v.1.2 13 = w.1.2 13 ∧ v.1.2 14 = w.1.2 14 ∧ v.1.2 18 = w.1.2 18 ∧ v.2.2 10 = w.2.2 10 ∧ v.2.2 12 = w.2.2 12 ∧ v.2.2 13 = w.2.2 13 ∧ v.2.2 14 = w.2.2 14 ∧ v.2.2 18 = w.2.2 18 ∧ ∀ j, (w.2.2 15 j = true → v.2.2 15 j = true) ∧ (v.1.2 15 j = 2 ↔ w.1.2 15 j = 2)
def Sm (p : PG Int32) : Prop := ∀ w v : GS, Eq2 w v → ∀ r w1, p w = some (r, w1) → w1 = w ∧ p v = some (r, v)
theorem Sm_rt (x : Int32) : Sm (prt x) := fun w v _ r w1 e => by cases e; exact ⟨rfl, rfl⟩
theorem Sm_no : Sm (fun _ => none) := fun _ _ _ _ _ e => by cases e
theorem Sm_og {b : Bool} {p : PG Int32} (hp : Sm p) : Sm (pog b p) := fun w v h r w1 e => by
  obtain ⟨hb, e⟩ := pog_some e
  subst hb
  exact hp w v h r w1 e
theorem Sm_li {x : Int32} {q : Int32 → PG Int32} (hq : ∀ x, Sm (q x)) : Sm (pli x q) := hq x
theorem Sm_cl {p : PG Int32} {q : Int32 → PG Int32} (hp : Sm p) (hq : ∀ a, Sm (q a)) : Sm (pcl p q) := fun w v h r w1 e => by
  obtain ⟨a, w2, e1, e2⟩ := pcl_some e
  obtain ⟨rfl, f1⟩ := hp w v h a w2 e1
  obtain ⟨g1, f2⟩ := hq a _ v h r w1 e2
  exact ⟨g1, by unfold pcl; rw [f1]; exact f2⟩
theorem Sm_ite {b : Prop} [Decidable b] {p q : PG Int32} (hp : Sm p) (hq : Sm q) : Sm (if b then p else q) := by
  by_cases h : b
  · rw [if_pos h]; exact hp
  · rw [if_neg h]; exact hq
theorem Eq2.at {w v : GS} (h : Eq2 w v) {k : Nat} (hk : k = 10 ∨ k = 12 ∨ k = 13 ∨ k = 14 ∨ k = 18) : v.1.2 k = w.1.2 k ∧ v.2.2 k = w.2.2 k := by
  obtain ⟨a1, a2, a3, a4, a5, b1, b2, b3, b4, b5, -⟩ := h
  rcases hk with rfl | rfl | rfl | rfl | rfl
  · exact ⟨a1, b1⟩
  · exact ⟨a2, b2⟩
  · exact ⟨a3, b3⟩
  · exact ⟨a4, b4⟩
  · exact ⟨a5, b5⟩
theorem Sm_rd {k n : Nat} {i : Int32} {q : Int32 → PG Int32} (hk : k = 10 ∨ k = 12 ∨ k = 13 ∨ k = 14 ∨ k = 18) (hq : ∀ x, Sm (q x)) : Sm (prd k n i q) := fun w v h r w1 e => by
  obtain ⟨e1, e2⟩ := h.at hk
  unfold prd at e
  cases hb : gi i n && w.2.2 k i.toNatClampNeg with
  | false => rw [hb] at e; cases e
  | true =>
    rw [hb] at e
    obtain ⟨g1, f1⟩ := hq _ w v h r w1 e
    refine ⟨g1, ?_⟩
    unfold prd ra
    rw [e2, hb, e1]
    exact f1
theorem Sm_r15 {n : Nat} {i : Int32} {p q : PG Int32} (hp : Sm p) (hq : Sm q) : Sm (prd 15 n i (fun x => if x = 2 then p else q)) := fun w v h r w1 e => by
  unfold prd at e
  cases hb : gi i n && w.2.2 15 i.toNatClampNeg with
  | false => rw [hb] at e; cases e
  | true =>
    rw [hb] at e
    obtain ⟨b1, b2⟩ := Bool.and_eq_true_iff.mp hb
    obtain ⟨m1, m2⟩ := h.2.2.2.2.2.2.2.2.2.2 i.toNatClampNeg
    unfold prd ra
    rw [b1, m1 b2]
    unfold ra at e
    by_cases hz : w.1.2 15 i.toNatClampNeg = 2
    · have e2 : (if w.1.2 15 i.toNatClampNeg = 2 then p else q) w = some (r, w1) := e
      rw [if_pos hz] at e2
      obtain ⟨g1, f1⟩ := hp w v h r w1 e2
      refine ⟨g1, ?_⟩
      show (if v.1.2 15 i.toNatClampNeg = 2 then p else q) v = some (r, v)
      rw [if_pos (m2.mpr hz)]
      exact f1
    · have e2 : (if w.1.2 15 i.toNatClampNeg = 2 then p else q) w = some (r, w1) := e
      rw [if_neg hz] at e2
      obtain ⟨g1, f1⟩ := hq w v h r w1 e2
      refine ⟨g1, ?_⟩
      show (if v.1.2 15 i.toNatClampNeg = 2 then p else q) v = some (r, v)
      rw [if_neg (fun z => hz (m2.mp z))]
      exact f1
theorem sm_halving_lp : ∀ (n : Nat) (v1 v2 : Int32) (K : Int32 → Int32 → PG Int32), (∀ a b, Sm (K a b)) → Sm (lp_halving_2 n v1 v2 K) := by
  intro n
  induction n with
  | zero => intro v1 v2 K hK; exact Sm_no
  | succ n ih =>
    intro v1 v2 K hK
    unfold lp_halving_2
    exact Sm_rd (by decide) (fun _ => Sm_ite (hK _ _) (Sm_li (fun _ => ih _ _ _ hK)))
theorem sm_rounds (c : Int32) : Sm (f_rounds c) := by
  unfold f_rounds f_halving
  exact Sm_cl (sm_halving_lp _ _ _ _ (fun _ _ => Sm_rt _)) (fun _ => Sm_rt _)
theorem sm_base (c r : Int32) : Sm (f_base c r) := by
  unfold f_base
  exact Sm_rd (by decide) (fun _ => Sm_rd (by decide) (fun _ => Sm_rt _))
theorem sm_roundOf_lp : ∀ (n : Nat) (v1 v2 v3 : Int32) (K : Int32 → Int32 → Int32 → PG Int32), (∀ a b c, Sm (K a b c)) → Sm (lp_roundOf_2 n v1 v2 v3 K) := by
  intro n
  induction n with
  | zero => intro v1 v2 v3 K hK; exact Sm_no
  | succ n ih =>
    intro v1 v2 v3 K hK
    unfold lp_roundOf_2
    exact Sm_cl (sm_base _ _) (fun _ => Sm_ite (hK _ _ _) (Sm_li (fun _ => ih _ _ _ _ hK)))
theorem sm_pair_lp : ∀ (n : Nat) (v1 v2 v3 v4 v5 : Int32) (K : Int32 → Int32 → Int32 → Int32 → Int32 → PG Int32), (∀ a b c d e, Sm (K a b c d e)) → Sm (lp_pair_6 n v1 v2 v3 v4 v5 K) := by
  intro n
  induction n with
  | zero => intro v1 v2 v3 v4 v5 K hK; exact Sm_no
  | succ n ih =>
    intro v1 v2 v3 v4 v5 K hK
    unfold lp_pair_6
    exact Sm_rd (by decide) (fun _ => Sm_ite (hK _ _ _ _ _) (Sm_rd (by decide) (fun _ => Sm_li (fun _ => Sm_li (fun _ => ih _ _ _ _ _ _ hK)))))
theorem sm_fS : ∀ (d k : Nat) (a0 a1 a2 a3 : Int32), Sm (fS d k a0 a1 a2 a3) := by
  intro d
  induction d with
  | zero => intro k a0 a1 a2 a3; exact Sm_no
  | succ d ih =>
    intro k a0 a1 a2 a3
    unfold fS
    refine Sm_ite ?_ (Sm_ite ?_ (Sm_ite ?_ ?_))
    · unfold bd_sideOf f_pair f_isSecond f_roundOf f_halfOf f_stepOf
      repeat (first | exact Sm_rt _ | exact ih _ _ _ _ _ | exact sm_base _ _ | exact sm_rounds _ | refine sm_pair_lp _ _ _ _ _ _ _ (fun _ _ _ _ _ => ?_) | refine sm_roundOf_lp _ _ _ _ _ (fun _ _ _ => ?_) | refine Sm_rd (by decide) (fun _ => ?_) | refine Sm_li (fun _ => ?_) | refine Sm_og ?_ | refine Sm_ite ?_ ?_ | refine Sm_cl ?_ (fun _ => ?_))
    · unfold bd_second
      repeat (first | exact Sm_rt _ | exact ih _ _ _ _ _ | exact sm_rounds _ | refine Sm_rd (by decide) (fun _ => ?_) | refine Sm_ite ?_ ?_ | refine Sm_cl ?_ (fun _ => ?_))
    · unfold bd_loserTo
      repeat (first | exact Sm_rt _ | exact ih _ _ _ _ _ | exact sm_base _ _ | exact sm_rounds _ | refine Sm_rd (by decide) (fun _ => ?_) | refine Sm_li (fun _ => ?_) | refine Sm_ite ?_ ?_ | refine Sm_cl ?_ (fun _ => ?_))
    · unfold bd_winnerOf
      refine Sm_r15 (Sm_rd (by decide) (fun _ => Sm_rt _)) ?_
      repeat (first | exact Sm_rt _ | exact ih _ _ _ _ _ | refine Sm_ite ?_ ?_ | refine Sm_cl ?_ (fun _ => ?_))

