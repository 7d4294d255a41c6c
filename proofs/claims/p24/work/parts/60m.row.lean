/-! ===== makeRow ===== -/
/-- v is w but for the row's two arrays -/
def Rw (w v : GS) : Prop := v.1.1 = w.1.1 ∧ v.2.1 = w.2.1 ∧ ∀ k, ¬ k = 57 → ¬ k = 58 → v.1.2 k = w.1.2 k ∧ v.2.2 k = w.2.2 k
theorem Rw.rf (w : GS) : Rw w w := ⟨rfl, rfl, fun _ _ _ => ⟨rfl, rfl⟩⟩
theorem Rw.sw {w v : GS} (h : Rw w v) (k : Nat) (i x : Int32) (hk : k = 57 ∨ k = 58) : Rw w (swd k i x v) := by
  refine ⟨h.1, h.2.1, fun k2 h1 h2 => ?_⟩
  have h9 := sw_o (w := v) (k := k) (i := i) (v := x) (k2 := k2) (by omega)
  rw [h9.1, h9.2]
  exact h.2.2 k2 h1 h2
theorem ok_row16 (w : GS) (l : Nat) (hl : l < 5) (v1 : Int32) (K : Int32 → Int32 → Int32 → PG Int32) (Q : Int32 → GS → Prop) (hK : ∀ v v3, Rw w v → (∀ x, x < 2 ^ l → Am v 58 x (nI (rowf l x))) → Ok (K v1 (nI (2 ^ l)) v3) v Q) :
    ∀ (t k m : Nat) (v : GS), k + t = 2 ^ l → t < m → Rw w v → (∀ x, x < 2 ^ l → Am v 57 x (nI (rowf l x))) → (∀ x, x < k → Am v 58 x (nI (rowf l x))) → Ok (lp_makeRow_16 m v1 (nI (2 ^ l)) (nI k) K) v Q := by
  have h16 : 2 ^ l ≤ 16 := Nat.pow_le_pow_right (by decide) (by omega : l ≤ 4)
  intro t
  induction t with
  | zero =>
    intro k m v h1 h2 h3 h4 h5
    cases m with
    | zero => omega
    | succ m =>
      have hk : k = 2 ^ l := by omega
      subst hk
      unfold lp_makeRow_16
      exact Ok_ite (fun _ => hK v _ h3 h5) (fun z => absurd (Int32.le_refl _) z)
  | succ t ih =>
    intro k m v h1 h2 h3 h4 h5
    cases m with
    | zero => omega
    | succ m =>
      unfold lp_makeRow_16
      refine Ok_ite (fun z => absurd z (nI_ge (by omega) (by omega))) (fun _ => ?_)
      refine Ok_rdN rfl (by omega) (by decide) (h4 k (by omega)) (Ok_wdN rfl (by omega) (by decide) (Ok_li ?_))
      rw [nI_1]
      refine ih (k + 1) m _ (by omega) (by omega) (h3.sw 58 _ _ (Or.inr rfl)) (fun x hx => h4 x hx) (fun x hx => ?_)
      by_cases he : x = k
      · subst he
        exact sw_A (by omega)
      · exact sw_An (by omega) he (h5 x (by omega))
theorem ok_row41 (w : GS) (l : Nat) (hl : l < 5) (v1 : Int32) (K : Int32 → Int32 → Int32 → PG Int32) (Q : Int32 → GS → Prop) (hK : ∀ v v3, Rw w v → (∀ x, x < 2 ^ l → Am v 57 x (nI (one (rowf l x))) ∧ Am v 57 (2 * 2 ^ l - 1 - x) (nI (4 * rowf l x + 1 - one (rowf l x)))) → Ok (K v1 (nI (2 ^ l)) v3) v Q) :
    ∀ (t k m : Nat) (v : GS), k + t = 2 ^ l → t < m → Rw w v → (∀ x, x < 2 ^ l → Am v 58 x (nI (rowf l x))) → (∀ x, x < k → Am v 57 x (nI (one (rowf l x))) ∧ Am v 57 (2 * 2 ^ l - 1 - x) (nI (4 * rowf l x + 1 - one (rowf l x)))) → Ok (lp_makeRow_41 m v1 (nI (2 ^ l)) (nI k) K) v Q := by
  have h16 : 2 ^ l ≤ 16 := Nat.pow_le_pow_right (by decide) (by omega : l ≤ 4)
  intro t
  induction t with
  | zero =>
    intro k m v h1 h2 h3 h4 h5
    cases m with
    | zero => omega
    | succ m =>
      have hk : k = 2 ^ l := by omega
      subst hk
      unfold lp_makeRow_41
      exact Ok_ite (fun _ => hK v _ h3 h5) (fun z => absurd (Int32.le_refl _) z)
  | succ t ih =>
    intro k m v h1 h2 h3 h4 h5
    cases m with
    | zero => omega
    | succ m =>
      have hp := rowf_lt l (by omega) k (by omega) (by omega)
      obtain ⟨o1, o2, o3⟩ := one_nI (rowf l k) (by omega)
      have o4 := oth_nI (rowf l k) (by omega)
      have e1 : (2 : Int32) * nI (2 ^ l) - 1 - nI k = nI (2 * 2 ^ l - 1 - k) := by
        have a1 : (2 : Int32) * nI (2 ^ l) = nI (2 * 2 ^ l) := by rw [← nI_mul]; rfl
        have a2 : nI (2 * 2 ^ l) - 1 = nI (2 * 2 ^ l - 1) := nI_sub (b := 1) (by omega)
        rw [a1, a2, nI_sub (by omega)]
      unfold lp_makeRow_41
      refine Ok_ite (fun z => absurd z (nI_ge (by omega) (by omega))) (fun _ => ?_)
      have hnext : Ok (pwd 57 32 (nI k) (nI (one (rowf l k))) (pwd 57 32 (((2 * nI (2 ^ l)) - 1) - nI k) (((4 * nI (rowf l k)) + 1) - nI (one (rowf l k))) (pli (nI k + 1) (fun x_37 => lp_makeRow_41 m v1 (nI (2 ^ l)) x_37 K)))) v Q := by
        refine Ok_wdN rfl (by omega) (by decide) ?_
        rw [o4]
        refine Ok_wdN e1 (by omega) (by decide) (Ok_li ?_)
        rw [nI_1]
        refine ih (k + 1) m _ (by omega) (by omega) ((h3.sw 57 _ _ (Or.inl rfl)).sw 57 _ _ (Or.inl rfl)) (fun x hx => h4 x hx) (fun x hx => ?_)
        by_cases he : x = k
        · subst he
          exact ⟨sw_An (by omega) (by omega) (sw_A (by omega)), sw_A (by omega)⟩
        · obtain ⟨k1, k2⟩ := h5 x (by omega)
          exact ⟨sw_An (by omega) (by omega) (sw_An (by omega) he k1), sw_An (by omega) (by omega) (sw_An (by omega) (by omega) k2)⟩
      refine Ok_rdN rfl (by omega) (by decide) (h4 k (by omega)) (Ok_ite (fun z => Ok_li ?_) (fun z => Ok_li ?_))
      · have z2 := o1.mp z
        have e2 : (2 : Int32) * nI (rowf l k) = nI (one (rowf l k)) := by rw [o2]; unfold one; rw [if_pos z2]
        rw [e2]
        exact hnext
      · have z2 : ¬ rowf l k % 2 = 0 := fun y => z (o1.mpr y)
        have e2 : (2 : Int32) * nI (rowf l k) + 1 = nI (one (rowf l k)) := by rw [o3]; unfold one; rw [if_neg z2]
        rw [e2]
        exact hnext
theorem ok_makeRow (w : GS) (L : Nat) (hL : L ≤ 5) : Ok (f_makeRow (nI (2 ^ L))) w (fun _ v => Rw w v ∧ ∀ x, x < 2 ^ L → Am v 57 x (nI (rowf L x))) := by
  have hlp : ∀ (t l m : Nat) (v : GS), l + t = L → t < m → Rw w v → (∀ x, x < 2 ^ l → Am v 57 x (nI (rowf l x))) → Ok (lp_makeRow_9 m (nI (2 ^ L)) (nI (2 ^ l)) (fun v1 v2 => prt 0)) v (fun _ v => Rw w v ∧ ∀ x, x < 2 ^ L → Am v 57 x (nI (rowf L x))) := by
    intro t
    induction t with
    | zero =>
      intro l m v h1 h2 h3 h4
      cases m with
      | zero => omega
      | succ m =>
        have : l = L := by omega
        subst this
        unfold lp_makeRow_9
        exact Ok_ite (fun _ => Ok_rt ⟨h3, h4⟩) (fun z => absurd (Int32.le_refl _) z)
    | succ t ih =>
      intro l m v h1 h2 h3 h4
      have h32 := pow_lt32 hL
      have hlt : 2 ^ l < 2 ^ L := Nat.pow_lt_pow_right (by decide) (by omega)
      cases m with
      | zero => omega
      | succ m =>
        unfold lp_makeRow_9
        refine Ok_ite (fun z => absurd z (nI_ge hlt (by omega))) (fun _ => ?_)
        refine ok_row16 w l (by omega) _ _ _ (fun v' v3 g1 g2 => ?_) (2 ^ l) 0 fuel v (by omega) (by unfold fuel; omega) h3 h4 (fun x hx => absurd hx (Nat.not_lt_zero _))
        refine ok_row41 w l (by omega) _ _ _ (fun v'' v3 g3 g4 => Ok_li ?_) (2 ^ l) 0 fuel v' (by omega) (by unfold fuel; omega) g1 g2 (fun x hx => absurd hx (Nat.not_lt_zero _))
        have e1 : nI (2 ^ l) * 2 = nI (2 ^ (l + 1)) := by
          have a1 := nI_mul (2 ^ l) 2
          rw [Nat.pow_succ]
          exact a1
        rw [e1]
        refine ih (l + 1) m v'' (by omega) (by omega) g3 (fun x hx => ?_)
        have hp2 : 2 ^ (l + 1) = 2 * 2 ^ l := by rw [Nat.pow_succ]; omega
        by_cases hz : x < 2 ^ l
        · have h9 := (g4 x hz).1
          show Am v'' 57 x (nI (if x < 2 ^ l then one (rowf l x) else _))
          rw [if_pos hz]
          exact h9
        · have h9 := (g4 (2 ^ (l + 1) - 1 - x) (by omega)).2
          have e2 : 2 * 2 ^ l - 1 - (2 ^ (l + 1) - 1 - x) = x := by omega
          rw [e2] at h9
          have e3 : rowf (l + 1) x = 4 * rowf l (2 ^ (l + 1) - 1 - x) + 1 - one (rowf l (2 ^ (l + 1) - 1 - x)) := by
            show (if x < 2 ^ l then one (rowf l x) else 4 * rowf l (2 ^ (l + 1) - 1 - x) + 1 - one (rowf l (2 ^ (l + 1) - 1 - x))) = _
            rw [if_neg hz]
          rw [e3]
          exact h9
  unfold f_makeRow
  refine Ok_wdN (j := 0) rfl (by decide) (by decide) ?_
  refine hlp L 0 fuel _ (by omega) (by unfold fuel; omega) ((Rw.rf w).sw 57 _ _ (Or.inl rfl)) (fun x hx => ?_)
  have : x = 0 := by
    have h9 : x < 1 := hx
    omega
  subst this
  exact sw_A (j := 0) (by decide)

