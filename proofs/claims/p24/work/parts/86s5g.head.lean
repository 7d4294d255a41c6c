/-! ===== the head of the draw: the row, the byes ===== -/
def K10 (w v : GS) : Prop := v.1.2 10 = w.1.2 10 ∧ v.2.2 10 = w.2.2 10
theorem K10.rf (w : GS) : K10 w w := ⟨rfl, rfl⟩
theorem K10.sw {w v : GS} {k : Nat} {i x : Int32} (h : K10 w v) (hk : ¬ 10 = k) : K10 w (swd k i x v) := by
  have h9 := sw_o (w := v) (i := i) (v := x) hk
  exact ⟨h9.1.trans h.1, h9.2.trans h.2⟩
theorem K10.rw {w u v : GS} (h : K10 w u) (hr : Rw u v) : K10 w v := by
  have h9 := hr.2.2 10 (by decide) (by decide)
  exact ⟨h9.1.trans h.1, h9.2.trans h.2⟩
theorem r_150 {w : GS} (c L : Nat) (hc : c < 4) (hL : L ≤ 5) (v2 : Int32) (K : Int32 → Int32 → Int32 → PG Int32) (Q : Int32 → GS → Prop)
    (hK : ∀ v v3, K10 w v → DF c w v → Am v 12 c 2 → Am v 13 c (nI (2 ^ L)) → (∀ x, x < 2 ^ L → Am v 57 x (nI (rowf L x))) → (∀ p, p < 2 ^ L → Am v 14 (32 * c + p) (-1) ∧ Am v 60 p 0) → Ok (K (nI c) v2 v3) v Q) :
    ∀ (t k m : Nat) (v : GS), k + t = 2 ^ L → t < m → K10 w v → DF c w v → Am v 12 c 2 → Am v 13 c (nI (2 ^ L)) → (∀ x, x < 2 ^ L → Am v 57 x (nI (rowf L x))) → (∀ p, p < k → Am v 14 (32 * c + p) (-1) ∧ Am v 60 p 0) → Ok (lp_draws_150 m (nI c) v2 (nI k) K) v Q := by
  have h32 := pow_lt32 hL
  intro t
  induction t with
  | zero =>
    intro k m v h1 h2 a0 a1 a2 a3 a4 a5
    cases m with
    | zero => omega
    | succ m =>
      have : k = 2 ^ L := by omega
      subst this
      unfold lp_draws_150
      exact Ok_rdN rfl hc (by decide) a3 (Ok_ite (fun _ => hK v _ a0 a1 a2 a3 a4 a5) (fun z => absurd (Int32.le_refl _) z))
  | succ t ih =>
    intro k m v h1 h2 a0 a1 a2 a3 a4 a5
    cases m with
    | zero => omega
    | succ m =>
      unfold lp_draws_150
      refine Ok_rdN rfl hc (by decide) a3 (Ok_ite (fun z => absurd z (nI_ge (by omega) (by omega))) (fun _ => ?_))
      rw [ix32, nar_b0]
      refine Ok_wdN rfl (by omega) (by decide) (Ok_wdN rfl (by omega) (by decide) (Ok_li ?_))
      rw [nI_1]
      refine ih (k + 1) m _ (by omega) (by omega) ((a0.sw (by decide)).sw (by decide)) ((a1.w14 k _ hc (by omega)).w57 60 _ _ (by decide)) a2 a3 a4 (fun p hp => ?_)
      by_cases he : p = k
      · subst he
        exact ⟨sw_A (w := v) (k := 14) (by omega), sw_A (by omega)⟩
      · obtain ⟨g1, g2⟩ := a5 p (by omega)
        exact ⟨sw_An (w := v) (k := 14) (by omega) (by omega) g1, sw_An (w := swd 14 (nI (32 * c + k)) (-1) v) (k := 60) (by omega) he g2⟩
theorem r_187 {w : GS} (c L n : Nat) (hc : c < 4) (hL : L ≤ 5) (hn : n ≤ 2 ^ L) (v2 : Int32) (K : Int32 → Int32 → Int32 → PG Int32) (Q : Int32 → GS → Prop)
    (hK : ∀ v v3, K10 w v → TD w v c L n (fun _ => false) → (∀ x, x < n → Am v 60 (rowf L x) 0) → Ok (K (nI c) v2 v3) v Q) :
    ∀ (t k m : Nat) (v : GS), k + t = 2 ^ L → t < m → n ≤ k → K10 w v → DF c w v → Am v 12 c 2 → Am v 13 c (nI (2 ^ L)) → (∀ x, x < 2 ^ L → Am v 57 x (nI (rowf L x))) → (∀ p, p < 2 ^ L → Am v 14 (32 * c + p) (-1)) → (∀ x, x < n → Am v 60 (rowf L x) 0) → (∀ x, n ≤ x → x < k → Am v 60 (rowf L x) 1) → Ok (lp_draws_187 m (nI c) v2 (nI k) K) v Q := by
  have h32 := pow_lt32 hL
  intro t
  induction t with
  | zero =>
    intro k m v h1 h2 hk a0 a1 a2 a3 a4 a5 a6 a7
    cases m with
    | zero => omega
    | succ m =>
      have : k = 2 ^ L := by omega
      subst this
      unfold lp_draws_187
      refine Ok_rdN rfl hc (by decide) a3 (Ok_ite (fun _ => hK v _ a0 ⟨a1, a2, a3, a4, fun x h1 h2 => ⟨a7 x h1 h2, a5 _ (rowf_lt L (by omega) x (by omega) h2)⟩, fun x hx => Or.inl ⟨a6 x hx, a5 _ (rowf_lt L (by omega) x (by omega) (by omega))⟩, ?_⟩ a6) (fun z => absurd (Int32.le_refl _) z))
      have e1 : cb (tkn v L) n = cb (fun _ => false) n := cb_congr n (fun x hx => by unfold tkn; rw [(a6 x hx).2]; decide)
      have e2 : ∀ k, cb (fun _ => false) k = 0 := by
        intro k
        induction k with
        | zero => rfl
        | succ k ih =>
          show cb (fun _ => false) k + 0 = 0
          omega
      rw [e1, e2, e2]
  | succ t ih =>
    intro k m v h1 h2 hk a0 a1 a2 a3 a4 a5 a6 a7
    cases m with
    | zero => omega
    | succ m =>
      have hp := rowf_lt L (by omega) k (by omega) (by omega)
      unfold lp_draws_187
      refine Ok_rdN rfl hc (by decide) a3 (Ok_ite (fun z => absurd z (nI_ge (by omega) (by omega))) (fun _ => ?_))
      refine Ok_rdN rfl (by omega) (by decide) (a4 k (by omega)) ?_
      rw [nar_b1]
      refine Ok_wdN rfl (by omega) (by decide) (Ok_li ?_)
      rw [nI_1]
      have hne : ∀ x, x < 2 ^ L → ¬ x = k → ¬ rowf L x = rowf L k := fun x hx hz he => hz (rowf_inj L (by omega) x (by omega) k (by omega) ⟨hx, by omega, he⟩)
      refine ih (k + 1) m _ (by omega) (by omega) (by omega) (a0.sw (by decide)) (a1.w57 60 _ _ (by decide)) a2 a3 a4 a5 (fun x hx => sw_An (by omega) (hne x (by omega) (by omega)) (a6 x hx)) (fun x g1 g2 => ?_)
      by_cases he : x = k
      · subst he
        exact sw_A (by omega)
      · exact sw_An (by omega) (hne x (by omega) he) (a7 x g1 (by omega))

theorem row_vals : ∀ p < 32, nI p - nI p / 2 * 2 = nI (p % 2) ∧ (2 : Int32) * nI p + nI (p % 2) = nI (one p) ∧ ((2 : Int32) * nI p + 1) - nI (p % 2) = nI (4 * p + 1 - one p) := by decide +kernel
theorem c_row18 (u0 : MS) (l : Nat) (hl : l < 5) (v1 : Int32) (K : Int32 → Int32 → Int32 → NG Int32) (Q : Int32 → MS → Prop) (hK : ∀ u v3, Same [] [11] u0 u → (∀ x, x < 2 ^ l → u.2 11 x = nI (one (rowf l x)) ∧ u.2 11 (2 * 2 ^ l - 1 - x) = nI (4 * rowf l x + 1 - one (rowf l x))) → CN (K v1 (nI (2 ^ l)) v3) u Q) :
    ∀ (g k : Nat) (u : MS), k ≤ 2 ^ l → Same [] [11] u0 u → (∀ x, k ≤ x → x < 2 ^ l → u.2 11 x = nI (rowf l x)) → (∀ x, x < k → u.2 11 x = nI (one (rowf l x)) ∧ u.2 11 (2 * 2 ^ l - 1 - x) = nI (4 * rowf l x + 1 - one (rowf l x))) → CN (xl_X2_makeRow_18 g v1 (nI (2 ^ l)) (nI k) K) u Q := by
  have h16 : 2 ^ l ≤ 16 := Nat.pow_le_pow_right (by decide) (by omega : l ≤ 4)
  intro g
  induction g with
  | zero => exact fun k u _ _ _ _ r w e => by cases e
  | succ g ih =>
    intro k u hk hs h1 h2
    unfold xl_X2_makeRow_18
    by_cases he : k = 2 ^ l
    · subst he
      exact CN_ite (fun _ => hK u _ hs h2) (fun z => absurd (Int32.le_refl _) z)
    · have hp := rowf_lt l (by omega) k (by omega) (by omega)
      obtain ⟨o1, o2, o3⟩ := row_vals (rowf l k) (by omega)
      have e1 : (2 : Int32) * nI (2 ^ l) - 1 - nI k = nI (2 * 2 ^ l - 1 - k) := by
        have a1 : (2 : Int32) * nI (2 ^ l) = nI (2 * 2 ^ l) := by rw [← nI_mul]; rfl
        have a2 : nI (2 * 2 ^ l) - 1 = nI (2 * 2 ^ l - 1) := nI_sub (b := 1) (by omega)
        rw [a1, a2, nI_sub (by omega)]
      refine CN_ite (fun z => absurd z (nI_ge (by omega) (by omega))) (fun _ => CN_GT ?_)
      rw [rg_in (by omega) (by decide), h1 k (Nat.le_refl _) (by omega)]
      refine CN_li ?_
      rw [o1]
      refine CN_ST (CN_ST (CN_li ?_))
      rw [sfE, wrN _ (by omega) (by decide), o2, o3, e1, wrN _ (by omega) (by decide), nI_1]
      refine ih (k + 1) _ (by omega) ((hs.trans (Same_sf (by decide))).trans (Same_sf (by decide))) (fun x hx1 hx2 => ?_) (fun x hx => ?_)
      · rw [sfE, upd_n (by omega), upd_n (by omega)]
        exact h1 x (by omega) hx2
      · rw [sfE]
        by_cases hz : x = k
        · subst hz
          rw [upd_n (by omega), upd_e, upd_e]
          exact ⟨rfl, rfl⟩
        · obtain ⟨k1, k2⟩ := h2 x (by omega)
          rw [upd_n (by omega), upd_n hz, upd_n (by omega), upd_n (by omega)]
          exact ⟨k1, k2⟩
theorem c_makeRow (u0 : MS) (L : Nat) (hL : L ≤ 5) : CN (x_X2_makeRow (nI (2 ^ L))) u0 (fun _ u => Same [] [11] u0 u ∧ RowU u L) := by
  have h32 := pow_lt32 hL
  have hlp : ∀ (g l : Nat) (u : MS), l ≤ L → Same [] [11] u0 u → RowU u l → CN (xl_X2_makeRow_11 g (nI (2 ^ L)) (nI (2 ^ l)) (fun v1 v2 => nrt 0)) u (fun _ u => Same [] [11] u0 u ∧ RowU u L) := by
    intro g
    induction g with
    | zero => exact fun l u _ _ _ r w e => by cases e
    | succ g ih =>
      intro l u h1 h3 h4
      unfold xl_X2_makeRow_11
      by_cases he : l = L
      · subst he
        exact CN_ite (fun _ => CN_rt ⟨h3, h4⟩) (fun z => absurd (Int32.le_refl _) z)
      · have hlt : 2 ^ l < 2 ^ L := Nat.pow_lt_pow_right (by decide) (by omega)
        refine CN_ite (fun z => absurd z (nI_ge hlt (by omega))) (fun _ => ?_)
        refine c_row18 u0 l (by omega) _ _ _ (fun u' v3 g3 g4 => CN_li ?_) fuel 0 u (Nat.zero_le _) h3 (fun x _ hx => h4 x hx) (fun x hx => absurd hx (Nat.not_lt_zero _))
        have e1 : nI (2 ^ l) * 2 = nI (2 ^ (l + 1)) := by
          have a1 := nI_mul (2 ^ l) 2
          rw [Nat.pow_succ]
          exact a1
        rw [e1]
        refine ih (l + 1) u' (by omega) g3 (fun x hx => ?_)
        have hp2 : 2 ^ (l + 1) = 2 * 2 ^ l := by rw [Nat.pow_succ]; omega
        by_cases hz : x < 2 ^ l
        · have h9 := (g4 x hz).1
          show u'.2 11 x = (nI (if x < 2 ^ l then one (rowf l x) else _))
          rw [if_pos hz]
          exact h9
        · have h9 := (g4 (2 ^ (l + 1) - 1 - x) (by omega)).2
          have e2 : 2 * 2 ^ l - 1 - (2 ^ (l + 1) - 1 - x) = x := by omega
          rw [e2] at h9
          have e3 : rowf (l + 1) x = 4 * rowf l (2 ^ (l + 1) - 1 - x) + 1 - one (rowf l (2 ^ (l + 1) - 1 - x)) := by
            show (if x < 2 ^ l then one (rowf l x) else 4 * rowf l (2 ^ (l + 1) - 1 - x) + 1 - one (rowf l (2 ^ (l + 1) - 1 - x))) = _
            rw [if_neg hz]
          rw [e3]
          exact h9
  unfold x_X2_makeRow
  refine CN_ST ?_
  have e0 : rs (u0.2 11) 32 0 0 = upd (u0.2 11) 0 0 := wrN (n := 32) (j := 0) 0 (by decide) (by decide)
  rw [e0]
  refine hlp fuel 0 _ (by omega) (Same_sf (by decide)) (fun x hx => ?_)
  have : x = 0 := by
    have h9 : x < 1 := hx
    omega
  subst this
  rw [sfE]
  exact upd_e
def FrE (c : Nat) (B0 B : Nat → Int32) : Prop := ∀ j, ¬ (6 + 36 * c ≤ j ∧ j < 40 + 36 * c) → B j = B0 j
theorem FrE.up {c j : Nat} {B0 B : Nat → Int32} (h : FrE c B0 B) (x : Int32) (hj : 6 + 36 * c ≤ j ∧ j < 40 + 36 * c) : FrE c B0 (upd B j x) := fun k a => by
  rw [upd_n (fun z => a (by omega))]
  exact h k a
theorem FrE.frd {c : Nat} {B0 B : Nat → Int32} (h : FrE c B0 B) : FrD c B0 B := fun k a _ => h k a
theorem c_all {u0 : MS} {B0 : Nat → Int32} {c S : Nat} (hc : c < 4) (hS : S ≤ 32) (v2 z3 v3 : Int32) (K : Int32 → Int32 → Int32 → Int32 → Int32 → AG Int32) (Q : Int32 → MS → Prop) (hK : ∀ u B v5, Pt u0 u → u.2 0 = B → FrE c B0 B → B (7 + 36 * c) = nI S → (∀ p, p < S → B (8 + 36 * c + p) = -1) → B (6 + 36 * c) = v3 → CQ (K (nI c) v2 z3 (nI S) v5) u Q) :
    ∀ (g k : Nat) (u : MS) (B : Nat → Int32), k ≤ S → Pt u0 u → u.2 0 = B → FrE c B0 B → B (7 + 36 * c) = nI S → B (6 + 36 * c) = v3 → (∀ p, p < k → B (8 + 36 * c + p) = -1) → CQ (xl_X2_placeAll_63 g (nI c) v2 z3 (nI S) (nI k) K) u Q := by
  intro g
  induction g with
  | zero => exact fun k u B _ _ _ _ _ _ _ r w c d e => by cases e
  | succ g ih =>
    intro k u B hk hp hB hF h7 h6 h8
    unfold xl_X2_placeAll_63
    by_cases he : k = S
    · subst he
      exact CQ_ite (fun _ => hK u B _ hp hB hF h7 h8 h6) (fun z => absurd (Int32.le_refl _) z)
    · have i1 : (4 : Int32) + nI k = nI (4 + k) := nI_add 4 _
      refine CQ_ite (fun z => absurd z (nI_ge (by omega) (by omega))) (fun _ => ?_)
      rw [i1, e_ofClass c (4 + k) rfl]
      refine CQ_rd (a := nI (4 + 36 * c + (4 + k))) rfl (CQ_pt hp hB rfl (by omega) (fun _ u2 p2 b2 => CQ_li ?_))
      rw [nI_1]
      refine ih (k + 1) u2 _ (by omega) p2 b2 (hF.up _ (by omega)) (by rw [upd_n (by omega)]; exact h7) (by rw [upd_n (by omega)]; exact h6) (fun p hp3 => ?_)
      by_cases hz : p = k
      · subst hz
        rw [show 8 + 36 * c + p = 4 + 36 * c + (4 + p) by omega, upd_e]
      · rw [upd_n (by omega)]
        exact h8 p (by omega)

