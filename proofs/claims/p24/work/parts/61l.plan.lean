/-! ===== plan ===== -/
/-- v is w but for the planner's arrays -/
def PW (w v : GS) : Prop := v.1.1 = w.1.1 ∧ v.2.1 = w.2.1 ∧ ∀ k, ¬ (61 ≤ k ∧ k ≤ 71) → v.1.2 k = w.1.2 k ∧ v.2.2 k = w.2.2 k
theorem PW.inv {w v : GS} (h : PW w v) (hI : Inv w) : Inv v := by
  obtain ⟨h1, h2, h3⟩ := h
  refine ⟨hI.1.fr (by rw [h1]) (by rw [h2]) ?_ (fun k hk => h3 k (by omega)), hI.2.1.fr h1 h2 (fun k h34 h37 => h3 k (by omega)), fun m hm z => ?_⟩
  · have := hI.1.2.1
    unfold iI at this ⊢
    rw [h1, h2]
    exact this
  · rw [(h3 22 (by decide)).1] at z
    rw [h1]
    exact hI.2.2 m hm z
theorem PW.kd {w v : GS} (h : PW w v) {c n : Nat} (hK : Kd w c n) : Kd v c n := by
  obtain ⟨h1, h2, h3⟩ := h
  have e5 := h3 5 (by decide)
  have e10 := h3 10 (by decide)
  have e12 := h3 12 (by decide)
  have e13 := h3 13 (by decide)
  have e14 := h3 14 (by decide)
  have e15 := h3 15 (by decide)
  have e18 := h3 18 (by decide)
  unfold Kd Dr Pol Tre Plc nF szP Am at hK ⊢
  simp only [h1, e5.1, e5.2, e10.1, e10.2, e12.1, e12.2, e13.1, e13.2, e14.1, e14.2, e15.1, e15.2, e18.1, e18.2]
  exact hK
def FV (w : GS) (a : Int32) : Prop := a = -1 ∨ ∃ f, f < nF w ∧ a = nI f
def KW (w v : GS) (x : Nat) : Prop := (∃ a, Am v 67 x a ∧ FV w a) ∧ ∃ b, Am v 68 x b ∧ FV w b
def Vx (w : GS) (nc : Nat → Nat) (v : GS) (x : Nat) : Prop := (∃ c i, c < 4 ∧ i < nc c ∧ x = 40 * c + i) ∧ KW w v x
def Pn (w : GS) (nc : Nat → Nat) (v : GS) (X many : Nat) : Prop := PW w v ∧ (∀ f, f < nF w → v.2.2 70 f = true) ∧ (∀ m, m < 4 → v.2.2 71 m = true) ∧ (∀ x, x < X → v.2.2 63 x = true ∧ v.2.2 64 x = true ∧ v.2.2 65 x = true) ∧ ∀ k, k < many → ∃ x, Am v 66 k (nI x) ∧ Vx w nc v x
theorem PW.wd {w v : GS} (h : PW w v) {k : Nat} (hk : 61 ≤ k ∧ k ≤ 71) (i x : Int32) : PW w (swd k i x v) := by
  refine ⟨h.1, h.2.1, fun k2 h2 => ?_⟩
  have a := sw_o (w := v) (k := k) (i := i) (v := x) (k2 := k2) (by omega)
  rw [a.1, a.2]
  exact h.2.2 k2 h2
theorem KW.wd {w v : GS} {y : Nat} (h : KW w v y) {k : Nat} (hk : ¬ k = 67 ∧ ¬ k = 68) (i x : Int32) : KW w (swd k i x v) y := by
  obtain ⟨⟨a, a1, a2⟩, b, b1, b2⟩ := h
  exact ⟨⟨a, Am.o (fun z => hk.1 z.symm) a1, a2⟩, b, Am.o (fun z => hk.2 z.symm) b1, b2⟩
theorem Pn.wd {w : GS} {nc : Nat → Nat} {v : GS} {X many : Nat} (h : Pn w nc v X many) {k : Nat} (hk : k = 63 ∨ k = 64 ∨ k = 65 ∨ k = 70 ∨ k = 71) (i x : Int32) : Pn w nc (swd k i x v) X many := by
  obtain ⟨h1, h2, h3, h4, h5⟩ := h
  refine ⟨h1.wd (by omega) i x, fun f hf => sw_mm (h2 f hf), fun m hm => sw_mm (h3 m hm), fun y hy => ⟨sw_mm (h4 y hy).1, sw_mm (h4 y hy).2.1, sw_mm (h4 y hy).2.2⟩, fun j hj => ?_⟩
  obtain ⟨y, y1, y2, y3⟩ := h5 j hj
  exact ⟨y, Am.o (by omega) y1, y2, y3.wd (by omega) i x⟩
theorem KW.w67 {w v : GS} {y z : Nat} {a : Int32} (h : KW w v y) (hz : z < 160) (ha : FV w a) : KW w (swd 67 (nI z) a v) y := by
  obtain ⟨⟨q, a1, a2⟩, b, b1, b2⟩ := h
  refine ⟨?_, b, Am.o (by decide) b1, b2⟩
  by_cases he : y = z
  · rw [he]; exact ⟨a, sw_A (by omega), ha⟩
  · exact ⟨q, sw_An (by omega) he a1, a2⟩
theorem KW.w68 {w v : GS} {y z : Nat} {a : Int32} (h : KW w v y) (hz : z < 160) (ha : FV w a) : KW w (swd 68 (nI z) a v) y := by
  obtain ⟨⟨q, a1, a2⟩, b, b1, b2⟩ := h
  refine ⟨⟨q, Am.o (by decide) a1, a2⟩, ?_⟩
  by_cases he : y = z
  · rw [he]; exact ⟨a, sw_A (by omega), ha⟩
  · exact ⟨b, sw_An (by omega) he b1, b2⟩
theorem Pn.w67 {w : GS} {nc : Nat → Nat} {v : GS} {X many z : Nat} {a : Int32} (h : Pn w nc v X many) (hz : z < 160) (ha : FV w a) : Pn w nc (swd 67 (nI z) a v) X many := by
  obtain ⟨h1, h2, h3, h4, h5⟩ := h
  refine ⟨h1.wd (by decide) _ _, fun f hf => sw_mm (h2 f hf), fun m hm => sw_mm (h3 m hm), fun y hy => ⟨sw_mm (h4 y hy).1, sw_mm (h4 y hy).2.1, sw_mm (h4 y hy).2.2⟩, fun j hj => ?_⟩
  obtain ⟨y, y1, y2, y3⟩ := h5 j hj
  exact ⟨y, Am.o (by decide) y1, y2, y3.w67 hz ha⟩
theorem Pn.w68 {w : GS} {nc : Nat → Nat} {v : GS} {X many z : Nat} {a : Int32} (h : Pn w nc v X many) (hz : z < 160) (ha : FV w a) : Pn w nc (swd 68 (nI z) a v) X many := by
  obtain ⟨h1, h2, h3, h4, h5⟩ := h
  refine ⟨h1.wd (by decide) _ _, fun f hf => sw_mm (h2 f hf), fun m hm => sw_mm (h3 m hm), fun y hy => ⟨sw_mm (h4 y hy).1, sw_mm (h4 y hy).2.1, sw_mm (h4 y hy).2.2⟩, fun j hj => ?_⟩
  obtain ⟨y, y1, y2, y3⟩ := h5 j hj
  exact ⟨y, Am.o (by decide) y1, y2, y3.w68 hz ha⟩
theorem ok_t68 {w : GS} (hI : Inv w) {nc : Nat → Nat} {v : GS} {X many x : Nat} (h : Pn w nc v X many) (hx : x < 160) (hk : KW w v x) (e : Int32) : Ok (prd 68 160 (nI x) (fun x_5 => (if x_5 = (-1) then prt (0 : Int32) else prd 68 160 (nI x) (fun x_9 => prd 68 160 (nI x) (fun x_12 => prd 70 96 x_12 (fun x_15 => prf 4 (fun x_18 => pwd 70 96 x_9 (if x_15 < (e + x_18) then (e + x_18) else x_15) (prt 0)))))))) v (fun _ v1 => Pn w nc v1 X many) := by
  obtain ⟨-, b, b1, b2⟩ := hk
  have h96 := hI.1.1.2.2
  have m4 : v.2.1 4 = true := by rw [h.1.2.1]; exact hI.1.2.1.2.1
  refine Ok_rdN rfl hx (by decide) b1 (Ok_ite (fun _ => Ok_rt h) (fun hne => ?_))
  obtain ⟨f, hf, rfl⟩ := b2.resolve_left hne
  refine Ok_rdN rfl hx (by decide) b1 (Ok_rdN rfl hx (by decide) b1 (Ok_rdN rfl (by omega) (by decide) (Am.val (h.2.1 f hf)) (Ok_rf m4 (Ok_wdN rfl (by omega) (by decide) (Ok_rt ?_)))))
  exact h.wd (by decide) _ _
theorem ok_tires {w : GS} (hI : Inv w) {nc : Nat → Nat} {v : GS} {X many x : Nat} (h : Pn w nc v X many) (hx : x < 160) (hk : KW w v x) (e : Int32) : Ok (f_tires (nI x) e) v (fun _ v1 => Pn w nc v1 X many) := by
  have hk2 := hk
  obtain ⟨⟨a, a1, a2⟩, -⟩ := hk2
  have h96 := hI.1.1.2.2
  have m4 : v.2.1 4 = true := by rw [h.1.2.1]; exact hI.1.2.1.2.1
  unfold f_tires
  refine Ok_rdN rfl hx (by decide) a1 (Ok_ite (fun _ => ok_t68 hI h hx hk e) (fun hne => ?_))
  obtain ⟨f, hf, rfl⟩ := a2.resolve_left hne
  refine Ok_rdN rfl hx (by decide) a1 (Ok_rdN rfl hx (by decide) a1 (Ok_rdN rfl (by omega) (by decide) (Am.val (h.2.1 f hf)) (Ok_rf m4 (Ok_wdN rfl (by omega) (by decide) ?_))))
  exact ok_t68 hI (h.wd (by decide) _ _) hx (hk.wd (by decide) _ _) e
theorem div40 : ∀ c < 4, ∀ i < 40, nI (40 * c + i) / 40 = nI c ∧ nI (40 * c + i) - nI (40 * c + i) / 40 * 40 = nI i := by decide +kernel
theorem ok_isSecond0 (w : GS) (c L i : Nat) (hc : c < 4) (hL5 : L ≤ 5) (hL : 1 ≤ L) (hi : i < 2 ^ L - 1) (h12 : Am w 12 c 2) (h13 : Am w 13 c (nI (2 ^ L))) : Rd (f_isSecond (nI c) (nI i)) w (fun x => x = 0) := by
  have h32 := pow_lt32 hL5
  have e1 : nI (2 ^ L) - 1 = nI (2 ^ L - 1) := nI_sub (b := 1) (by omega)
  unfold f_isSecond
  refine Rd_rdN rfl hc (by decide) h12 (Rd_ite (fun _ => ?_) (fun z => absurd rfl z))
  refine Rd_rdN rfl hc (by decide) h13 (Rd_ite (fun _ => Rd_rt rfl) (fun z => absurd ?_ z))
  rw [e1]
  exact nI_lt hi (by omega)
theorem ok_stage {v : GS} {c n i : Nat} (hD : Dr v c n) (hi : i < n) : Rd (f_stage (nI (40 * c + i))) v (fun _ => True) := by
  have hc := hD.c4
  have hn := hD.n37
  obtain ⟨d1, d2⟩ := div40 c hc i (by omega)
  unfold f_stage
  refine Rd_li ?_
  rw [d1]
  refine Rd_li ?_
  have d3 : nI (40 * c + i) - nI c * 40 = nI i := by rw [← d1]; exact d2
  rw [d3]
  rcases hD with ⟨s, ⟨-, -, -, -, -, y12, -⟩, -⟩ | ⟨L, ⟨-, -, L3, L5, -, y12, y13, -⟩, rfl⟩
  · exact Rd_rdN rfl hc (by decide) y12 (Rd_ite (fun _ => Rd_rt trivial) (fun z => absurd rfl z))
  · have h32 := pow_lt32 L5
    have h8 : 8 ≤ 2 ^ L := by
      rcases (by omega : L = 3 ∨ L = 4 ∨ L = 5) with rfl | rfl | rfl <;> decide
    refine Rd_rdN rfl hc (by decide) y12 (Rd_ite (fun z => absurd z (by decide)) (fun _ => ?_))
    by_cases hs : i < 2 ^ L - 1
    · refine Rd_clR (ok_isSecond0 v c L i hc L5 (by omega) hs y12 y13) (fun r hr => ?_)
      subst hr
      refine Rd_ite (fun _ => ?_) (fun z => absurd rfl z)
      unfold f_finalOf
      refine Rd_clR (R := fun _ => True) (Rd_rdN rfl hc (by decide) y13 (Rd_rt trivial)) (fun _ _ => Rd_ite (fun _ => Rd_rt trivial) (fun _ => ?_))
      exact Rd_clR (ok_roundOf v c L i hc L5 hs y13) (fun _ _ => Rd_rt trivial)
    · obtain ⟨q, rfl⟩ : ∃ q, i = 2 ^ L - 1 + q := ⟨i - (2 ^ L - 1), by omega⟩
      refine Rd_clR (ok_isSecond1 v c L q hc L5 (by omega) y12 y13) (fun r hr => ?_)
      subst hr
      refine Rd_ite (fun z => absurd z (by decide)) (fun _ => ?_)
      exact Rd_clR (ok_halfStep v c L q hc L3 L5 y13 (by omega)).2 (fun _ _ => Rd_rt trivial)
/-- the planner's cells of a class -/
def Ov (v : GS) : Prop := v.2.1 4 = true ∧ ∀ x, x < 160 → v.2.2 64 x = true ∧ v.2.2 65 x = true
theorem ok_isOver {v : GS} (h : Ov v) (c j : Nat) (hc : c < 4) (hj : j < 40) (t d : Int32) : Rd (f_isOver (nI c) (nI j) t d) v (fun _ => True) := by
  unfold f_isOver
  refine Rd_li ?_
  rw [ix40]
  have h9 := h.2 (40 * c + j) (by omega)
  refine Rd_rdN rfl (by omega) (by decide) (Am.val h9.2) (Rd_ite (fun _ => Rd_rt trivial) (fun _ => ?_))
  refine Rd_rdN rfl (by omega) (by decide) (Am.val h9.2) (Rd_ite (fun _ => ?_) (fun _ => Rd_rt trivial))
  exact Rd_rdN rfl (by omega) (by decide) (Am.val h9.1) (Ok_rf h.1 (Rd_ite (fun _ => Rd_rt trivial) (fun _ => Rd_rt trivial)))
theorem bas_rg40 : ∀ L < 6, ∀ r < 6, ∀ i < 32, (1 ≤ r ∧ r < L ∧ bas L r ≤ i ∧ i < bas L (r + 1)) → bas L (r - 1) + 2 * (i - bas L r) + 1 < 40 := by decide +kernel
theorem bas_rg41 : ∀ L < 6, ∀ h < 2, 3 ≤ L → bas L (L - 2) + h < 40 := by decide +kernel
theorem ok_mb {w : GS} (hI : Inv w) {nc : Nat → Nat} {v : GS} {X many x : Nat} (h : Pn w nc v X many) (hx : x < 160) (hk : KW w v x) (t : Int32) : Rd (prd 67 160 (nI x) (fun x_9 => (if x_9 = (-1) then prd 68 160 (nI x) (fun x_13 => (if x_13 = (-1) then prt (1 : Int32) else prd 68 160 (nI x) (fun x_17 => prd 70 96 x_17 (fun x_20 => (if t < x_20 then prt 0 else prt 1))))) else prd 67 160 (nI x) (fun x_24 => prd 70 96 x_24 (fun x_27 => (if t < x_27 then prt 0 else prd 68 160 (nI x) (fun x_31 => (if x_31 = (-1) then prt 1 else prd 68 160 (nI x) (fun x_35 => prd 70 96 x_35 (fun x_38 => (if t < x_38 then prt 0 else prt 1))))))))))) v (fun _ => True) := by
  have h96 := hI.1.1.2.2
  obtain ⟨⟨a, a1, a2⟩, b, b1, b2⟩ := hk
  have hb : Rd (prd 68 160 (nI x) (fun x_13 => (if x_13 = (-1) then prt (1 : Int32) else prd 68 160 (nI x) (fun x_17 => prd 70 96 x_17 (fun x_20 => (if t < x_20 then prt 0 else prt 1)))))) v (fun _ => True) := by
    refine Rd_rdN rfl hx (by decide) b1 (Rd_ite (fun _ => Rd_rt trivial) (fun hne => ?_))
    obtain ⟨f, hf, rfl⟩ := b2.resolve_left hne
    exact Rd_rdN rfl hx (by decide) b1 (Rd_rdN rfl (by omega) (by decide) (Am.val (h.2.1 f hf)) (Rd_ite (fun _ => Rd_rt trivial) (fun _ => Rd_rt trivial)))
  refine Rd_rdN rfl hx (by decide) a1 (Rd_ite (fun _ => hb) (fun hne => ?_))
  obtain ⟨f, hf, rfl⟩ := a2.resolve_left hne
  exact Rd_rdN rfl hx (by decide) a1 (Rd_rdN rfl (by omega) (by decide) (Am.val (h.2.1 f hf)) (Rd_ite (fun _ => Rd_rt trivial) (fun _ => hb)))
theorem ok_mayBegin {w : GS} (hI : Inv w) {nc : Nat → Nat} (hnc : ∀ c, c < 4 → Kd w c (nc c)) {v : GS} {many x : Nat} (h : Pn w nc v 160 many) (hv : Vx w nc v x) (t d : Int32) : Rd (f_mayBegin (nI x) t d) v (fun _ => True) := by
  obtain ⟨⟨c, i, hc, hi, rfl⟩, hk⟩ := hv
  have hD : Dr v c (nc c) := (h.1.kd (hnc c hc)).dr hi
  have hn := hD.n37
  have hx : 40 * c + i < 160 := by omega
  have hOv : Ov v := ⟨by rw [h.1.2.1]; exact hI.1.2.1.2.1, fun y hy => ⟨(h.2.2.2.1 y hy).2.1, (h.2.2.2.1 y hy).2.2⟩⟩
  have hmb := ok_mb hI h hx hk t
  obtain ⟨d1, d2⟩ := div40 c hc i (by omega)
  unfold f_mayBegin
  refine Rd_li ?_
  rw [d1]
  refine Rd_li ?_
  have d3 : nI (40 * c + i) - nI c * 40 = nI i := by rw [← d1]; exact d2
  rw [d3]
  rcases hD with ⟨s, ⟨-, -, -, -, -, y12, -⟩, -⟩ | ⟨L, ⟨-, -, L3, L5, -, y12, y13, -⟩, hnL⟩
  · exact Rd_rdN rfl hc (by decide) y12 (Rd_ite (fun z => absurd z (by decide)) (fun _ => hmb))
  · have h32 := pow_lt32 L5
    have h8 : 8 ≤ 2 ^ L := by
      rcases (by omega : L = 3 ∨ L = 4 ∨ L = 5) with rfl | rfl | rfl <;> decide
    refine Rd_rdN rfl hc (by decide) y12 (Rd_ite (fun _ => ?_) (fun z => absurd rfl z))
    by_cases hs : i < 2 ^ L - 1
    · refine Rd_clR (ok_isSecond0 v c L i hc L5 (by omega) hs y12 y13) (fun r hr => ?_)
      subst hr
      refine Rd_ite (fun _ => ?_) (fun z => absurd rfl z)
      refine Rd_clR (ok_roundOf v c L i hc L5 hs y13) (fun r hr => Rd_ite (fun _ => hmb) (fun hr0 => ?_))
      obtain ⟨k, rfl, k1, k2, k3⟩ := hr
      have hk1 : 1 ≤ k := by
        rcases Nat.eq_zero_or_pos k with z | z
        · subst z; exact absurd (Int32.le_refl _) hr0
        · exact z
      refine Rd_clR (ok_roundOf v c L i hc L5 hs y13) (fun r hr => ?_)
      obtain ⟨k', rfl, k1', k2', k3'⟩ := hr
      have hkk : 1 ≤ k' := by
        rcases Nat.eq_zero_or_pos k' with z | z
        · exfalso
          subst z
          have m1 : bas L 1 ≤ bas L k := by
            have hh : ∀ L < 6, ∀ k < 6, 1 ≤ k → bas L 1 ≤ bas L k := by decide +kernel
            exact hh L (by omega) k (by omega) hk1
          have k3'' : i < bas L 1 := k3'
          omega
        · exact z
      have ep : nI k' - 1 = nI (k' - 1) := nI_sub (b := 1) hkk
      rw [ep]
      refine Rd_clR (ok_base v c L (k' - 1) hc L5 (by omega) y13) (fun r hr => ?_)
      subst hr
      refine Rd_clR (ok_base v c L k' hc L5 (by omega) y13) (fun r hr => Rd_li ?_)
      subst hr
      have hb := bas_rg40 L (by omega) k' (by omega) i (by omega) ⟨hkk, k1', k2', k3'⟩
      have ej : nI (bas L (k' - 1)) + 2 * (nI i - nI (bas L k')) = nI (bas L (k' - 1) + 2 * (i - bas L k')) := by
        rw [nI_sub k2']
        have e2 : (2 : Int32) * nI (i - bas L k') = nI (2 * (i - bas L k')) := by rw [← nI_mul]; rfl
        rw [e2, nI_add]
      rw [ej]
      refine Rd_clR (ok_isOver hOv c _ hc (by omega) t d) (fun _ _ => Rd_ite (fun _ => Rd_rt trivial) (fun _ => ?_))
      rw [nI_1]
      exact Rd_clR (ok_isOver hOv c _ hc (by omega) t d) (fun _ _ => Rd_ite (fun _ => Rd_rt trivial) (fun _ => hmb))
    · obtain ⟨q, rfl⟩ : ∃ q, i = 2 ^ L - 1 + q := ⟨i - (2 ^ L - 1), by omega⟩
      refine Rd_clR (ok_isSecond1 v c L q hc L5 (by omega) y12 y13) (fun r hr => ?_)
      subst hr
      refine Rd_ite (fun z => absurd z (by decide)) (fun _ => ?_)
      refine Rd_clR (ok_rounds v c L hc L5 (by omega) y13) (fun r hr => ?_)
      subst hr
      have ep : nI (L - 1) - 1 = nI (L - 2) := nI_sub (b := 1) (by omega)
      rw [ep]
      refine Rd_clR (ok_base v c L (L - 2) hc L5 (by omega) y13) (fun r hr => ?_)
      subst hr
      refine Rd_clR (ok_halfStep v c L q hc L3 L5 y13 (by omega)).1 (fun r hr => ?_)
      subst hr
      have hq2 : q / (L - 2) < 2 := (lif_rng2 L (by omega) q (by omega) ⟨L3, by omega⟩).1
      rw [nI_add]
      refine Rd_clR (ok_isOver hOv c _ hc (bas_rg41 L (by omega) _ hq2 L3) t d) (fun _ _ => Rd_ite (fun _ => Rd_rt trivial) (fun _ => ?_))
      refine Rd_clR (ok_halfStep v c L q hc L3 L5 y13 (by omega)).2 (fun r hr => Rd_ite (fun _ => hmb) (fun _ => ?_))
      have ei : nI (2 ^ L - 1 + q) - 1 = nI (2 ^ L - 1 + q - 1) := nI_sub (b := 1) (by omega)
      rw [ei]
      exact Rd_clR (ok_isOver hOv c _ hc (by omega) t d) (fun _ _ => Rd_ite (fun _ => Rd_rt trivial) (fun _ => hmb))

