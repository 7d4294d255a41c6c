/-! ===== struck ===== -/
theorem inv_r0 {w : GS} (h : Inv w) (x : Nat) (hx : x < 2 ^ 31) : Inv (swd 15 (nI x) 0 w) := by
  obtain ⟨⟨jF, jI, jG, jC, jR, jM, jO⟩, jL, jE⟩ := h
  refine ⟨⟨jF, jI, jG, ?_, ?_, jM, ?_⟩, jL, jE⟩
  · intro c2 hc2
    obtain ⟨g1, g2, g3, g4⟩ := jC c2 hc2
    exact ⟨g1, g2, g3, fun i2 hi2 => sw_mm (g4 i2 hi2)⟩
  · intro c2 hc2 i2 hi2 hne
    have e1 := sw_v (w := w) (k := 15) (v := 0) hx (40 * c2 + i2)
    by_cases he : 40 * c2 + i2 = x
    · rw [if_pos he] at e1
      exact absurd e1 hne
    · rw [if_neg he] at e1
      rw [e1] at hne ⊢
      exact jR c2 hc2 i2 hi2 hne
  · intro c2 hc2 i2 hi2 h1
    have e1 := sw_v (w := w) (k := 15) (v := 0) hx (40 * c2 + i2)
    by_cases he : 40 * c2 + i2 = x
    · rw [if_pos he] at e1
      rw [e1] at h1
      exact absurd h1 (by decide)
    · rw [if_neg he] at e1
      rw [e1] at h1
      exact jO c2 hc2 i2 hi2 h1
def so1 (x a b m : Nat) (t : Int32) (w : GS) : GS := swd 15 (nI x) 0 (swd 11 (nI b) t (swd 11 (nI a) t (swd 22 (nI m) (-1) w)))
theorem so1_inv {w : GS} (h : Inv w) (c i a b m : Nat) (t : Int32) (hc : c < 4) (hi : i < 40) (hm : m < 4) (hon : w.1.2 22 m = nI (40 * c + i)) : Inv (so1 (40 * c + i) a b m t w) := by
  have hx : 40 * c + i < 2 ^ 31 := by omega
  have hm31 : m < 2 ^ 31 := by omega
  obtain ⟨⟨jF, jI, jG, jC, jR, jM, jO⟩, jL, jE⟩ := h
  have e15 : ∀ j, (so1 (40 * c + i) a b m t w).1.2 15 j = if j = 40 * c + i then 0 else w.1.2 15 j := fun j => sw_v (w := swd 11 (nI b) t (swd 11 (nI a) t (swd 22 (nI m) (-1) w))) (k := 15) (v := 0) hx j
  have e22 : ∀ j, (so1 (40 * c + i) a b m t w).1.2 22 j = if j = m then -1 else w.1.2 22 j := fun j => sw_v (w := w) (k := 22) (v := -1) hm31 j
  refine ⟨⟨jF, jI, ?_, ?_, ?_, ?_, ?_⟩, jL, ?_⟩
  · intro f hf
    obtain ⟨g1, g2, g3, g4, g5, g6, g7⟩ := jG f hf
    exact ⟨g1, g2, g3, g4, g5, g6, by unfold so1; exact sw_mm (sw_mm (sw_mm (sw_mm g7)))⟩
  · intro c2 hc2
    obtain ⟨g1, g2, g3, g4⟩ := jC c2 hc2
    exact ⟨g1, g2, g3, fun i2 hi2 => by unfold so1; exact sw_mm (sw_mm (sw_mm (sw_mm (g4 i2 hi2))))⟩
  · intro c2 hc2 i2 hi2 hne
    have e1 := e15 (40 * c2 + i2)
    by_cases he : 40 * c2 + i2 = 40 * c + i
    · rw [if_pos he] at e1
      exact absurd e1 hne
    · rw [if_neg he] at e1
      rw [e1] at hne ⊢
      exact jR c2 hc2 i2 hi2 hne
  · intro m2 hm2
    obtain ⟨k1, k2⟩ := jM m2 hm2
    refine ⟨by unfold so1; exact sw_mm (sw_mm (sw_mm (sw_mm k1))), fun z => ?_⟩
    have e2 := e22 m2
    by_cases he : m2 = m
    · rw [if_pos he] at e2
      exact absurd e2 z
    · rw [if_neg he] at e2
      rw [e2] at z
      obtain ⟨⟨c2, i2, l1, l2, l3, l4⟩, l5, l6, l7, l8⟩ := k2 z
      exact ⟨⟨c2, i2, l1, l2, e2.trans l3, l4⟩, l5, l6, l7, l8⟩
  · intro c2 hc2 i2 hi2 h1
    have e1 := e15 (40 * c2 + i2)
    by_cases he : 40 * c2 + i2 = 40 * c + i
    · rw [if_pos he] at e1
      rw [e1] at h1
      exact absurd h1 (by decide)
    · rw [if_neg he] at e1
      rw [e1] at h1
      obtain ⟨m2, hm2, k1⟩ := jO c2 hc2 i2 hi2 h1
      refine ⟨m2, hm2, ?_⟩
      rw [e22, if_neg ?_]
      · exact k1
      · intro z
        subst z
        rw [hon] at k1
        exact he ((nI_eq hx (by omega)).mp k1).symm
  · intro m2 hm2 z
    have e2 := e22 m2
    by_cases he : m2 = m
    · rw [if_pos he] at e2
      exact absurd e2 z
    · rw [if_neg he] at e2
      rw [e2] at z
      exact jE m2 hm2 z
theorem ok_matOf {w : GS} (hM : ∀ m, m < 4 → w.2.2 22 m = true) (c i : Nat) : Rd (f_matOf (nI c) (nI i)) w (fun r => (∃ m, m < 4 ∧ r = nI m ∧ w.1.2 22 m = nI (40 * c + i)) ∨ (r = -1 ∧ ∀ m, m < 4 → ¬ w.1.2 22 m = nI (40 * c + i))) := by
  have hlp : ∀ (t m n : Nat), m + t = 4 → t < n → (∀ m2, m2 < m → ¬ w.1.2 22 m2 = nI (40 * c + i)) → Rd (lp_matOf_2 n (nI c) (nI i) (nI m) (fun v1 v2 v3 => prt (-1))) w (fun r => (∃ m, m < 4 ∧ r = nI m ∧ w.1.2 22 m = nI (40 * c + i)) ∨ (r = -1 ∧ ∀ m, m < 4 → ¬ w.1.2 22 m = nI (40 * c + i))) := by
    intro t
    induction t with
    | zero =>
      intro m n h1 h2 h3
      cases n with
      | zero => omega
      | succ n =>
        have : m = 4 := by omega
        subst this
        unfold lp_matOf_2
        exact Rd_ite (fun _ => Rd_rt (Or.inr ⟨rfl, h3⟩)) (fun z => absurd (Int32.le_refl _) z)
    | succ t ih =>
      intro m n h1 h2 h3
      cases n with
      | zero => omega
      | succ n =>
        unfold lp_matOf_2
        refine Rd_ite (fun z => absurd z (nI_ge (b := 4) (by omega) (by decide))) (fun _ => ?_)
        rw [ix40]
        refine Rd_rdN rfl (by omega) (by decide) (Am.val (hM m (by omega))) (Rd_ite (fun z => Rd_rt (Or.inl ⟨m, by omega, rfl, z⟩)) (fun z => Rd_li ?_))
        rw [nI_1]
        refine ih (m + 1) n (by omega) (by omega) (fun m2 hm2 => ?_)
        rcases Nat.lt_or_ge m2 m with h9 | h9
        · exact h3 m2 h9
        · have : m2 = m := by omega
          subst this
          exact z
  unfold f_matOf
  exact hlp 4 0 fuel (by omega) (by unfold fuel; omega) (fun m2 h => absurd h (Nat.not_lt_zero _))
/-- how many of class c have a result or are open -/
def cn (f : Nat → Int32) : Nat → Nat
  | 0 => 0
  | k + 1 => cn f k + if f k = 0 then 0 else 1
theorem cn_le {f : Nat → Int32} : ∀ k, cn f k ≤ k := by
  intro k
  induction k with
  | zero => exact Nat.le_refl _
  | succ k ih =>
    unfold cn
    by_cases h : f k = 0
    · rw [if_pos h]; omega
    · rw [if_neg h]; omega
theorem cn_eq {f g : Nat → Int32} : ∀ k, (∀ j, j < k → g j = f j) → cn g k = cn f k := by
  intro k
  induction k with
  | zero => intro _; rfl
  | succ k ih =>
    intro h
    unfold cn
    rw [ih (fun j hj => h j (by omega)), h k (by omega)]
theorem cn_dec {f g : Nat → Int32} (j : Nat) (hf : ¬ f j = 0) (hg : g j = 0) (ho : ∀ i, ¬ i = j → g i = f i) : ∀ k, j < k → cn g k + 1 = cn f k := by
  intro k
  induction k with
  | zero => intro h; omega
  | succ k ih =>
    intro h
    unfold cn
    by_cases hk : k = j
    · subst hk
      rw [if_pos hg, if_neg hf, cn_eq k (fun i hi => ho i (by omega))]
    · have h1 := ih (by omega)
      rw [ho k hk]
      by_cases h2 : f k = 0
      · rw [if_pos h2]; omega
      · rw [if_neg h2]; omega
def cnc (w : GS) (c : Nat) : Nat := cn (fun i => w.1.2 15 (40 * c + i)) 40
theorem ok_soTail {w : GS} (h : Inv w) (c i n : Nat) (hd : DrS w c n) (hi : i < n) (hne : ¬ w.1.2 15 (40 * c + i) = 0) (R : PG Int32) (Q : Int32 → GS → Prop) (hR : ∀ v, Inv v → St w v → cnc v c < cnc w c → Ok R v Q) : Ok (prd 15 160 (nI (40 * c + i)) (fun x_24 => (if x_24 = 1 then pcl (f_matOf (nI c) (nI i)) (fun r_35 => pwd 22 4 r_35 (-1) (prd 16 160 (nI (40 * c + i)) (fun x_41 => prf 3 (fun x_44 => pwd 11 96 x_41 x_44 (prd 17 160 (nI (40 * c + i)) (fun x_49 => prf 3 (fun x_52 => pwd 11 96 x_49 x_52 (pwd 15 160 (nI (40 * c + i)) 0 R)))))))) else pwd 15 160 (nI (40 * c + i)) 0 R))) w Q := by
  have hc := hd.2.1
  have h37 := hd.n37
  have hx : 40 * c + i < 160 := by omega
  have hf : nF w ≤ 96 := hd.1
  have m15 := (h.1.2.2.2.1 c hc).2.2.2 i (by omega)
  have m3 := h.1.2.1.1
  have hdec : ∀ v : GS, (∀ j, v.1.2 15 j = if j = 40 * c + i then 0 else w.1.2 15 j) → cnc v c < cnc w c := by
    intro v e15
    have h9 := cn_dec (f := fun i => w.1.2 15 (40 * c + i)) (g := fun i => v.1.2 15 (40 * c + i)) i hne (by show v.1.2 15 (40 * c + i) = 0; rw [e15, if_pos rfl]) (fun i2 z => by show v.1.2 15 (40 * c + i2) = w.1.2 15 (40 * c + i2); rw [e15, if_neg (by omega)]) 40 (by omega)
    unfold cnc
    omega
  refine Ok_rdN rfl hx (by decide) (Am.val m15) (Ok_ite (fun h1 => ?_) (fun _ => ?_))
  · refine Ok_clR (ok_matOf (fun m hm => (h.1.2.2.2.2.2.1 m hm).1) c i) (fun r hr => ?_)
    obtain ⟨m0, hm0, k0⟩ := h.1.2.2.2.2.2.2 c hc i (by omega) h1
    obtain ⟨m, hm, rfl, hon⟩ : ∃ m, m < 4 ∧ r = nI m ∧ w.1.2 22 m = nI (40 * c + i) := by
      rcases hr with z | ⟨-, z⟩
      · exact z
      · exact absurd k0 (z m0 hm0)
    obtain ⟨⟨n2, -, -, ⟨a, ha, hap⟩, b, hb, hbp⟩, -⟩ := h.1.2.2.2.2.1 c hc i (by omega) hne
    refine Ok_wdN rfl hm (by decide) (Ok_rdN rfl hx (by decide) ha (Ok_rf m3 (Ok_wdN rfl (hap.lt hf) (by decide) ?_)))
    refine Ok_rdN rfl hx (by decide) hb (Ok_rf m3 (Ok_wdN rfl (hbp.lt hf) (by decide) (Ok_wdN rfl hx (by decide) ?_)))
    refine hR (so1 (40 * c + i) a b m (w.1.1 3) w) (so1_inv h c i a b m _ hc (by omega) hm hon) ⟨rfl, rfl, rfl, rfl, rfl, rfl, rfl, rfl, rfl, rfl, rfl⟩ (hdec _ (fun j => ?_))
    exact sw_v (w := swd 11 (nI b) (w.1.1 3) (swd 11 (nI a) (w.1.1 3) (swd 22 (nI m) (-1) w))) (k := 15) (v := 0) (by omega) j
  · refine Ok_wdN rfl hx (by decide) (hR _ (inv_r0 h _ (by omega)) ⟨rfl, rfl, rfl, rfl, rfl, rfl, rfl, rfl, rfl, rfl, rfl⟩ (hdec _ (fun j => sw_v (by omega) j)))
theorem St.trans {u v w : GS} (h1 : St u v) (h2 : St v w) : St u w := by
  obtain ⟨a1, a2, a3, a4, a5, a6, a7, a8, a9, a10, a11⟩ := h1
  obtain ⟨b1, b2, b3, b4, b5, b6, b7, b8, b9, b10, b11⟩ := h2
  exact ⟨b1.trans a1, b2.trans a2, b3.trans a3, b4.trans a4, b5.trans a5, b6.trans a6, b7.trans a7, b8.trans a8, b9.trans a9, b10.trans a10, b11.trans a11⟩
theorem ok_struck_in (c n C : Nat) (i0 : Int32) (K : Int32 → Int32 → Int32 → Int32 → Int32 → PG Int32) (Q : Int32 → GS → Prop) (hK : ∀ w v3 v4, Inv w → DrS w c n → (v4 = 0 ∨ cnc w c < C) → cnc w c ≤ C → Ok (K (nI c) i0 v3 v4 (nI n)) w Q) :
    ∀ (t k f : Nat) (w : GS) (v3 v4 : Int32), k + t = n → t < f → Inv w → DrS w c n → (v4 = 0 ∨ cnc w c < C) → cnc w c ≤ C → Ok (lp_struck_28 f (nI c) i0 v3 v4 (nI k) K) w Q := by
  intro t
  induction t with
  | zero =>
    intro k f w v3 v4 h1 h2 hI hd h4 h5
    cases f with
    | zero => omega
    | succ f =>
      have : k = n := by omega
      subst this
      unfold lp_struck_28
      refine Ok_clR (ok_fights w c k (hI.1.dr hd)) (fun r hr => ?_)
      subst hr
      exact Ok_ite (fun _ => hK w v3 v4 hI hd h4 h5) (fun z => absurd (Int32.le_refl _) z)
  | succ t ih =>
    intro k f w v3 v4 h1 h2 hI hd h4 h5
    have hc := hd.2.1
    have h37 := hd.n37
    cases f with
    | zero => omega
    | succ f =>
      unfold lp_struck_28
      refine Ok_clR (ok_fights w c n (hI.1.dr hd)) (fun r hr => ?_)
      subst hr
      refine Ok_ite (fun z => absurd z (nI_ge (by omega) (by omega))) (fun _ => Ok_li ?_)
      rw [ix40]
      have hnext : ∀ (w : GS) (v3 v4 : Int32), Inv w → DrS w c n → (v4 = 0 ∨ cnc w c < C) → cnc w c ≤ C → Ok (pli (nI k + 1) (fun x => lp_struck_28 f (nI c) i0 v3 v4 x K)) w Q := by
        intro w v3 v4 a1 a2 a3 a4
        refine Ok_li ?_
        rw [nI_1]
        exact ih (k + 1) f w v3 v4 (by omega) (by omega) a1 a2 a3 a4
      refine Ok_rdN rfl (by omega) (by decide) (Am.val ((hI.1.2.2.2.1 c hc).2.2.2 k (by omega))) (Ok_ite (fun _ => hnext w v3 v4 hI hd h4 h5) (fun hne => ?_))
      obtain ⟨⟨n2, -, -, ⟨a, ha, hap⟩, b, hb, hbp⟩, -⟩ := hI.1.2.2.2.2.1 c hc k (by omega) hne
      have htail : ∀ v, Inv v → St w v → cnc v c < cnc w c → Ok (pli (v3 + 1) (fun x => pli (nI k + 1) (fun y => lp_struck_28 f (nI c) i0 x 1 y K))) v Q := fun v a1 a2 a3 => Ok_li (hnext v _ 1 a1 (a2.drs hd) (Or.inr (by omega)) (by omega))
      refine Ok_clR (ok_side w c n k 0 0 (hI.1.dr hd) (by omega) (by decide)) (fun r _ => ?_)
      refine Ok_rdN rfl (by omega) (by decide) ha (Ok_ite (fun _ => ?_) (fun _ => ?_))
      · refine Ok_clR (ok_side w c n k 1 0 (hI.1.dr hd) (by omega) (by decide)) (fun r2 _ => ?_)
        refine Ok_rdN rfl (by omega) (by decide) hb (Ok_ite (fun _ => hnext w v3 v4 hI hd h4 h5) (fun _ => ?_))
        exact ok_soTail hI c k n hd (by omega) hne _ Q htail
      · exact ok_soTail hI c k n hd (by omega) hne _ Q htail
theorem ok_struck_out (c n : Nat) (i0 : Int32) (K : Int32 → Int32 → Int32 → Int32 → PG Int32) (Q : Int32 → GS → Prop) (hK : ∀ w v3 v4, Inv w → Ok (K (nI c) i0 v3 v4) w Q) :
    ∀ (t f : Nat) (w : GS) (v3 v4 : Int32), t + 1 < f → Inv w → DrS w c n → (v4 = 0 ∨ cnc w c ≤ t) → Ok (lp_struck_17 f (nI c) i0 v3 v4 K) w Q := by
  intro t
  induction t with
  | zero =>
    intro f w v3 v4 h1 hI hd h4
    obtain ⟨f, rfl⟩ : ∃ e, f = e + 1 := ⟨f - 1, by omega⟩
    unfold lp_struck_17
    refine Ok_ite (fun _ => hK w v3 v4 hI) (fun z => ?_)
    refine ok_struck_in c n (cnc w c) i0 _ Q (fun w2 x3 x4 a1 a2 a3 a4 => ?_) n 0 fuel w v3 0 (by omega) (by have := hd.n37; unfold fuel; omega) hI hd (Or.inl rfl) (Nat.le_refl _)
    have h5 := h4.resolve_left z
    have h6 : x4 = 0 := a3.resolve_right (by omega)
    subst h6
    obtain ⟨f, rfl⟩ : ∃ e, f = e + 1 := ⟨f - 1, by omega⟩
    unfold lp_struck_17
    exact Ok_ite (fun _ => hK w2 x3 0 a1) (fun z => absurd rfl z)
  | succ t ih =>
    intro f w v3 v4 h1 hI hd h4
    obtain ⟨f, rfl⟩ : ∃ e, f = e + 1 := ⟨f - 1, by omega⟩
    unfold lp_struck_17
    refine Ok_ite (fun _ => hK w v3 v4 hI) (fun z => ?_)
    refine ok_struck_in c n (cnc w c) i0 _ Q (fun w2 x3 x4 a1 a2 a3 a4 => ?_) n 0 fuel w v3 0 (by omega) (by have := hd.n37; unfold fuel; omega) hI hd (Or.inl rfl) (Nat.le_refl _)
    have h5 := h4.resolve_left z
    exact ih f w2 x3 x4 (by omega) a1 a2 (a3.imp id (fun y => by omega))
theorem ok_struck {w : GS} (h : Inv w) (c i n : Nat) (hd : DrS w c n) (hi : i < n) : Ok (f_struck (nI c) (nI i)) w (fun _ w1 => Inv w1) := by
  have hc := hd.2.1
  have h37 := hd.n37
  unfold f_struck
  rw [ix40]
  refine Ok_wdN rfl (by omega) (by decide) ?_
  refine ok_struck_out c n (nI i) _ _ (fun w2 v3 v4 a1 => Ok_rt a1) 40 fuel _ 1 1 (by unfold fuel; omega) (inv_r0 h _ (by omega)) hd (Or.inr (cn_le 40))
