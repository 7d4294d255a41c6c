/-! ===== the token at hand, on both sides ===== -/
/-- the reference's token -/
def RP (T : Nat → Nat) (N a b : Nat) (v : GS) : Prop := TR T N v ∧ TkE T N a b ∧ a ≤ b ∧ b ≤ N ∧ Im v 44 (nI a) ∧ Im v 45 (nI b) ∧ Im v 46 (nI (rkk T N a b)) ∧ (rkk T N a b = 2 → Im v 47 (nI (vl T a (min 4 (b - a)))))
/-- the class's token -/
def CP (T : Nat → Nat) (N a b : Nat) (u : MS) : Prop := TC T N u ∧ TkE T N a b ∧ a ≤ b ∧ b ≤ N ∧ u.1 5 = nI a ∧ u.1 3 = nI b ∧ u.1 4 = nI (tkk T N a b) ∧ (tkk T N a b = 3 → u.1 6 = nI (vl T a (min 4 (b - a))))
theorem TkE.le {T : Nat → Nat} {N a b : Nat} (h : TkE T N a b) : a ≤ b ∧ b ≤ N ∧ (a < N → a < b) := by
  rcases h with ⟨rfl, rfl⟩ | ⟨h1, h2, h3⟩ | ⟨h1, h2, h3, h4⟩ | ⟨h1, h2, h3, h4⟩
  · exact ⟨Nat.le_refl _, Nat.le_refl _, fun z => absurd z (Nat.lt_irrefl _)⟩
  · refine ⟨h3.1, h3.2.1, fun _ => Nat.lt_of_le_of_ne h3.1 (fun y => ?_)⟩
    have := h3.2.2.2
    rw [← y] at this
    exact this h1 h2
  · refine ⟨h4.1, h4.2.1, fun _ => Nat.lt_of_le_of_ne h4.1 (fun y => ?_)⟩
    have := h4.2.2.2
    rw [← y] at this
    exact this h1 h3
  · have hw : wide (T a) (eqn T N (a + 1)) ≤ 1 := by
      unfold wide
      split <;> decide
    refine ⟨by omega, ?_, fun _ => by omega⟩
    by_cases y : eqn T N (a + 1) = true
    · have : a + 1 < N ∧ T (a + 1) = 61 := of_decide_eq_true y
      omega
    · have : wide (T a) (eqn T N (a + 1)) = 0 := if_neg (fun q => y q.1)
      omega
theorem TkE.un {T : Nat → Nat} {N a b c : Nat} (h1 : TkE T N a b) (h2 : TkE T N a c) : b = c := by
  rcases h1 with ⟨x1, x2⟩ | ⟨x1, x2, x3⟩ | ⟨x1, x2, x3, x4⟩ | ⟨x1, x2, x3, x4⟩ <;> rcases h2 with ⟨y1, y2⟩ | ⟨y1, y2, y3⟩ | ⟨y1, y2, y3, y4⟩ | ⟨y1, y2, y3, y4⟩
  all_goals first
    | omega
    | exact x3.un y3
    | exact x4.un y4
    | exact absurd x2 y2
    | exact absurd y2 x2
    | exact absurd x3 y3
    | exact absurd y3 x3
section
variable {T : Nat → Nat} {N : Nat}
theorem r_scan {a b : Nat} {v : GS} (h : RP T N a b v) : Ok f_scan v (fun _ v2 => ScF v v2 ∧ ∃ a2 b2, Run tBl T N b a2 ∧ RP T N a2 b2 v2) := by
  refine Ok.mono (r_token h.1 h.2.2.2.2.2.1 h.2.2.2.1) (fun r v2 y => ?_)
  obtain ⟨a2, b2, y1, y2, y3, y4, y5, y6, y7⟩ := y
  exact ⟨y3, a2, b2, y1, h.1.sc y3, y2, y2.le.1, y2.le.2.1, y4, y5, y6, y7⟩
theorem c_next {u : MS} {a b : Nat} (h : CP T N a b u) : CN x_X10_readToken u (fun _ u2 => Same [3, 4, 5, 6] [] u u2 ∧ ∃ a2 b2, Run tBl T N b a2 ∧ CP T N a2 b2 u2) := by
  refine CN.mono (c_token h.1 h.2.2.2.2.2.1 h.2.2.2.1) (fun r v2 y => ?_)
  obtain ⟨a2, b2, y1, y2, y3, y4, y5, y6, y7⟩ := y
  exact ⟨y3, a2, b2, y1, h.1.sm y3 (by decide) (by decide), y2, y2.le.1, y2.le.2.1, y4, y5, y6, y7⟩
theorem r_isText {a b : Nat} {v : GS} (h : RP T N a b v) (k : Nat) (hk : k < 25) : Rd (f_isText k) v (fun r => (r = 1 ∧ Spl T a b k) ∨ (r = 0 ∧ ¬ Spl T a b k)) := by
  obtain ⟨hT, hE, hab, hbN, h44, h45, -⟩ := h
  have hN := hT.1.2.2.2
  obtain ⟨e1, e2⟩ := sln38 k (by omega)
  have hz : ∀ (m : Nat) (x : Int32), ¬ Spl T a b k → Rd (lp_isText_24 k (m + 1) 0 x (fun v2 v3 => pog (gb v2) (prt v2))) v (fun r => (r = 1 ∧ Spl T a b k) ∨ (r = 0 ∧ ¬ Spl T a b k)) := fun m x hno => by
    unfold lp_isText_24
    refine Ok_oi e1 (Rd_ite (fun _ => Rd_og (by decide) (Rd_rt (Or.inr ⟨rfl, hno⟩))) (fun _ => Rd_ite (fun _ => Rd_og (by decide) (Rd_rt (Or.inr ⟨rfl, hno⟩))) (fun z => absurd rfl z)))
  have hlp : b - a = sln k → ∀ (t j m : Nat), j + t = sln k → t < m → (∀ i, i < j → T (a + i) = chn k i) → Rd (lp_isText_24 k (m + 1) 1 (nI j) (fun v2 v3 => pog (gb v2) (prt v2))) v (fun r => (r = 1 ∧ Spl T a b k) ∨ (r = 0 ∧ ¬ Spl T a b k)) := fun hl => by
    intro t
    induction t with
    | zero =>
      intro j m hj hm hp
      have : j = sln k := by omega
      subst this
      unfold lp_isText_24
      exact Ok_oi e1 (Rd_ite (fun _ => Rd_og (by decide) (Rd_rt (Or.inl ⟨rfl, hl, hp⟩))) (fun z => absurd (Int32.le_refl _) z))
    | succ t ih =>
      intro j m hj hm hp
      have ht := (hT.2.2 (a + j) (by omega)).1
      obtain ⟨c1, c2⟩ := chn38 k (by omega) j (by omega) (by omega)
      unfold lp_isText_24
      refine Ok_oi e1 (Rd_ite (fun z => absurd z (nI_ge (by omega) (by omega))) (fun _ => Rd_ite (fun z => absurd z (by decide)) (fun _ => ?_)))
      refine Ok_rfN h44 ?_
      rw [nI_add]
      refine Ok_srT hT rfl (by omega) (Ok_oi c1 (Rd_ite (fun z => Rd_li ?_) (fun z => Rd_li ?_)))
      · rw [nI_1]
        cases m with
        | zero => omega
        | succ m =>
          refine ih (j + 1) m (by omega) (by omega) (fun i hi => ?_)
          by_cases he : i = j
          · rw [he]
            exact (sb_eq ht c2).mp z
          · exact hp i (by omega)
      · cases m with
        | zero => omega
        | succ m => exact hz m _ (fun y => z ((sb_eq ht c2).mpr (y.2 j (by omega))))
  unfold f_isText
  refine Rd_rfN h45 (Rd_rfN h44 (Ok_oi e1 ?_))
  rw [nI_sub hab]
  refine Rd_ite (fun z => ?_) (fun z => ?_)
  · exact hlp ((nI_eq (by omega) (by omega)).mp z) (sln k) 0 (fuel - 1) (by omega) (by unfold fuel; omega) (fun i hi => absurd hi (Nat.not_lt_zero _))
  · exact hz (fuel - 1) 0 (fun y => z (by rw [y.1]))
theorem r_is {a b : Nat} {v : GS} (h : RP T N a b v) (k : Nat) (hk1 : 1 ≤ k) (hk : k < 25) : Rd (f_is k) v (fun r => r = if tkk T N a b = kc k then 1 else 0) := by
  have hiff := is_iff h.2.1 hk1 hk
  have h46 := h.2.2.2.2.2.2.1
  have hr : rkk T N a b ≤ 4 := by
    unfold rkk
    repeat' split
    all_goals decide
  have ht := r_isText h k hk
  unfold f_is
  refine Rd_rfN h46 (Rd_ite (fun z => ?_) (fun z => ?_))
  · have z := (nI_eq (a := rkk T N a b) (b := 1) (by omega) (by decide)).mp z
    refine Rd_clR ht (fun r hr => ?_)
    rcases hr with ⟨rfl, y⟩ | ⟨rfl, y⟩
    · exact Rd_ite (fun q => absurd q (by decide)) (fun _ => Rd_rt (by rw [if_pos (hiff.mp ⟨Or.inl z, y⟩)]))
    · exact Rd_ite (fun q => Rd_rt (by rw [if_neg (fun q => y (hiff.mpr q).2)])) (fun q => absurd rfl q)
  · have n1 : ¬ rkk T N a b = 1 := fun y => z (by rw [y]; rfl)
    refine Rd_rfN h46 (Rd_ite (fun z => ?_) (fun z => ?_))
    · have z := (nI_eq (a := rkk T N a b) (b := 3) (by omega) (by decide)).mp z
      refine Rd_clR ht (fun r hr => ?_)
      rcases hr with ⟨rfl, y⟩ | ⟨rfl, y⟩
      · exact Rd_ite (fun q => absurd q (by decide)) (fun _ => Rd_rt (by rw [if_pos (hiff.mp ⟨Or.inr z, y⟩)]))
      · exact Rd_ite (fun q => Rd_rt (by rw [if_neg (fun q => y (hiff.mpr q).2)])) (fun q => absurd rfl q)
    · have n3 : ¬ rkk T N a b = 3 := fun y => z (by rw [y]; rfl)
      refine Rd_rt ?_
      rw [if_neg (fun q => ?_)]
      rcases (hiff.mpr q).1 with y | y
      · exact n1 y
      · exact n3 y
end
