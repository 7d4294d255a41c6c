section
/-! ===== plan: its loops ===== -/
theorem nI_p1 {p : Nat} (h : p + 1 < 2 ^ 31) : ¬ nI (p + 1) ≤ 0 := by
  rw [Int32.le_iff_toInt_le, nI_toInt h]
  have : (0 : Int32).toInt = 0 := by decide
  omega
def Qi (w : GS) (nc : Nat → Nat) (v : GS) (p many : Nat) : Prop := ∀ k, k ≤ many → ¬ k = p → ∃ y, Am v 66 k (nI y) ∧ Vx w nc v y
theorem Vx.wd {w : GS} {nc : Nat → Nat} {v : GS} {y : Nat} (h : Vx w nc v y) {k : Nat} (hk : ¬ k = 67 ∧ ¬ k = 68) (i x : Int32) : Vx w nc (swd k i x v) y := ⟨h.1, h.2.wd hk i x⟩
theorem Pn.w66 {w : GS} {nc : Nat → Nat} {v : GS} {X : Nat} (h : Pn w nc v X 0) (i x : Int32) : Pn w nc (swd 66 i x v) X 0 := by
  obtain ⟨h1, h2, h3, h4, -⟩ := h
  exact ⟨h1.wd (by decide) i x, fun f hf => sw_mm (h2 f hf), fun m hm => sw_mm (h3 m hm), fun y hy => ⟨sw_mm (h4 y hy).1, sw_mm (h4 y hy).2.1, sw_mm (h4 y hy).2.2⟩, fun j hj => absurd hj (Nat.not_lt_zero _)⟩
theorem Vx.stage {w : GS} {nc : Nat → Nat} (hnc : ∀ c, c < 4 → Kd w c (nc c)) {v : GS} (h : PW w v) {y : Nat} (hy : Vx w nc v y) : Rd (f_stage (nI y)) v (fun _ => True) := by
  obtain ⟨⟨c, i, hc, hi, rfl⟩, -⟩ := hy
  exact ok_stage ((h.kd (hnc c hc)).dr hi) hi
theorem ok_ins {w : GS} {nc : Nat → Nat} (hnc : ∀ c, c < 4 → Kd w c (nc c)) {X many x : Nat} (hmany : many < 160) (v1 v2 v3 v4 v6 v7 : Int32) (K : Int32 → Int32 → Int32 → Int32 → Int32 → Int32 → Int32 → Int32 → Int32 → PG Int32) (Q : Int32 → GS → Prop) (hK : ∀ v p, Pn w nc v X 0 → Qi w nc v p many → p ≤ many → Vx w nc v x → Ok (K v1 v2 v3 v4 (nI many) v6 v7 (nI x) (nI p)) v Q) :
    ∀ (p m : Nat) (v : GS), p < m → p ≤ many → Pn w nc v X 0 → Qi w nc v p many → Vx w nc v x → Ok (lp_plan_350 m v1 v2 v3 v4 (nI many) v6 v7 (nI x) (nI p) K) v Q := by
  intro p
  induction p with
  | zero =>
    intro m v hm hp h hq hx
    cases m with
    | zero => omega
    | succ m =>
      unfold lp_plan_350
      exact Ok_ite (fun _ => hK v 0 h hq hp hx) (fun z => absurd (Int32.le_refl _) z)
  | succ p ih =>
    intro m v hm hp h hq hx
    cases m with
    | zero => omega
    | succ m =>
      have ep : nI (p + 1) - 1 = nI p := nI_sub (b := 1) (by omega)
      obtain ⟨y, y1, y2⟩ := hq p (by omega) (by omega)
      unfold lp_plan_350
      refine Ok_ite (fun z => absurd z (nI_p1 (by omega))) (fun _ => ?_)
      rw [ep]
      refine Ok_rdN rfl (by omega) (by decide) y1 (Ok_clR (y2.stage hnc h.1) (fun _ _ => Ok_clR (hx.stage hnc h.1) (fun _ _ => Ok_ite (fun _ => hK v (p + 1) h hq hp hx) (fun _ => ?_))))
      refine Ok_rdN rfl (by omega) (by decide) y1 (Ok_wdN rfl (by omega) (by decide) (Ok_li ?_))
      have e2 : nI (p + 1) + -1 = nI p := (Int32.sub_eq_add_neg _ _).symm.trans ep
      rw [e2]
      refine ih m _ (by omega) (by omega) (h.w66 _ _) (fun k hk hne => ?_) (hx.wd (by decide) _ _)
      by_cases he : k = p + 1
      · rw [he]
        exact ⟨y, sw_A (by omega), y2.wd (by decide) _ _⟩
      · obtain ⟨z, z1, z2⟩ := hq k hk he
        exact ⟨z, sw_An (by omega) he z1, z2.wd (by decide) _ _⟩
theorem fv_max {w v : GS} {c : Nat} {r : Int32} (hn : nF v = nF w) (h96 : nF w ≤ 96) (h : Val v c r) : FV w (if (-1) < r then r else (-1)) := by
  rcases h with rfl | rfl | ⟨f, rfl, hf⟩
  · exact Or.inl (by decide)
  · exact Or.inl (by decide)
  · have hf1 := hf.1
    have hlt : (-1 : Int32) < nI f := by
      rw [Int32.lt_iff_toInt_lt, nI_toInt (by omega)]
      have : (-1 : Int32).toInt = -1 := by decide
      omega
    rw [if_pos hlt]
    exact Or.inr ⟨f, by omega, rfl⟩
theorem Pn.q {w : GS} {nc : Nat → Nat} {v : GS} {X many : Nat} (h : Pn w nc v X many) : Pn w nc v X 0 := ⟨h.1, h.2.1, h.2.2.1, h.2.2.2.1, fun j hj => absurd hj (Nat.not_lt_zero _)⟩
theorem Pn.nf {w : GS} {nc : Nat → Nat} {v : GS} {X many : Nat} (h : Pn w nc v X many) : nF v = nF w := by
  unfold nF
  rw [h.1.1]
theorem ok_plan145 {w : GS} (hI : Inv w) (h13 : ∀ c, c < 4 → w.2.2 13 c = true) {nc : Nat → Nat} (hnc : ∀ c, c < 4 → Kd w c (nc c)) (c : Nat) (hc : c < 4) (v1 v2 : Int32) (K : Int32 → Int32 → Int32 → Int32 → Int32 → Int32 → Int32 → PG Int32) (Q : Int32 → GS → Prop) (hK : ∀ v v3 v4 v7 many, many ≤ 40 * (c + 1) → Pn w nc v (40 * (c + 1)) many → Ok (K v1 v2 v3 v4 (nI many) (nI c) v7) v Q) :
    ∀ (t i m many : Nat) (v : GS) (v3 v4 : Int32), i + t = 40 → t < m → many ≤ 40 * c + i → Pn w nc v (40 * c + i) many → Ok (lp_plan_145 m v1 v2 v3 v4 (nI many) (nI c) (nI i) K) v Q := by
  have h96 := hI.1.1.2.2
  intro t
  induction t with
  | zero =>
    intro i m many v v3 v4 h1 h2 hm h
    cases m with
    | zero => omega
    | succ m =>
      have : i = 40 := by omega
      subst this
      unfold lp_plan_145
      exact Ok_ite (fun _ => hK v v3 v4 _ many hm h) (fun z => absurd (Int32.le_refl _) z)
  | succ t ih =>
    intro i m many v v3 v4 h1 h2 hm h
    cases m with
    | zero => omega
    | succ m =>
      have hx : 40 * c + i < 160 := by omega
      have hnext : ∀ (v : GS) (v3 v4 : Int32) (many : Nat), many ≤ 40 * c + (i + 1) → Pn w nc v (40 * c + (i + 1)) many → Ok (pli (nI i + 1) (fun x_67 => lp_plan_145 m v1 v2 v3 v4 (nI many) (nI c) x_67 K)) v Q := fun v v3 v4 many hm h => by
        refine Ok_li ?_
        rw [nI_1]
        exact ih (i + 1) m many v v3 v4 (by omega) (by omega) hm h
      unfold lp_plan_145
      refine Ok_ite (fun z => absurd ((nI_le4 (k := i) (n := 40) (by omega) (by decide)).mp z) (by omega)) (fun _ => Ok_li ?_)
      rw [ix40]
      refine Ok_wdN rfl hx (by decide) (Ok_wdN rfl hx (by decide) (Ok_wdN rfl hx (by decide) ?_))
      have h2 : Pn w nc (swd 64 (nI (40 * c + i)) (-1) (swd 63 (nI (40 * c + i)) (-1) (swd 65 (nI (40 * c + i)) 0 v))) (40 * c + (i + 1)) many := by
        have h9 := ((h.wd (k := 65) (by decide) (nI (40 * c + i)) 0).wd (k := 63) (by decide) (nI (40 * c + i)) (-1)).wd (k := 64) (by decide) (nI (40 * c + i)) (-1)
        refine ⟨h9.1, h9.2.1, h9.2.2.1, fun y hy => ?_, h9.2.2.2.2⟩
        by_cases he : y = 40 * c + i
        · rw [he]
          exact ⟨sw_mm (sw_me (v := -1) (by omega)), sw_me (v := -1) (by omega), sw_mm (sw_mm (sw_me (v := 0) (by omega)))⟩
        · exact h9.2.2.2.1 y (by omega)
      generalize swd 64 (nI (40 * c + i)) (-1) (swd 63 (nI (40 * c + i)) (-1) (swd 65 (nI (40 * c + i)) 0 v)) = y0 at h2 ⊢
      have hK0 := h2.1.kd (hnc c hc)
      have hI0 := h2.1.inv hI
      have m13 : y0.2.2 13 c = true := by rw [(h2.1.2.2 13 (by decide)).2]; exact h13 c hc
      have hn37 := hK0.n37
      refine Ok_clR (ok_fightsK y0 c (nc c) hc hK0 m13) (fun r hr => ?_)
      subst hr
      refine Ok_ite (fun _ => hnext y0 v3 v4 many (by omega) h2) (fun hlt => ?_)
      have hi : i < nc c := Nat.not_le.mp (fun z => hlt (nI_le z (by omega)))
      have hD := hK0.dr hi
      have m15 := (hD.res i (by omega)).1
      refine Ok_rdN rfl hx (by decide) (Am.val m15) (Ok_ite (fun _ => hnext y0 v3 v4 many (by omega) h2) (fun _ => ?_))
      refine Ok_clR (ok_isWalk y0 c (nc c) i hD hi) (fun r _ => Ok_ite (fun _ => ?_) (fun _ => hnext y0 v3 v4 many (by omega) h2))
      refine Ok_clR (ok_side y0 c (nc c) i 0 0 hD hi (by decide)) (fun ra hra => Ok_wdN rfl hx (by decide) ?_)
      have fa := fv_max h2.nf h96 hra
      have h3 := h2.w67 hx fa
      have k67 : Am (swd 67 (nI (40 * c + i)) (if (-1) < ra then ra else (-1)) y0) 67 (40 * c + i) (if (-1) < ra then ra else (-1)) := sw_A (by omega)
      generalize swd 67 (nI (40 * c + i)) (if (-1) < ra then ra else (-1)) y0 = y1 at h3 k67 ⊢
      have hD1 := (h3.1.kd (hnc c hc)).dr hi
      refine Ok_clR (ok_side y1 c (nc c) i 1 0 hD1 hi (by decide)) (fun rb hrb => Ok_wdN rfl hx (by decide) ?_)
      have fb := fv_max h3.nf h96 hrb
      have h4 := h3.w68 hx fb
      have kw : KW w (swd 68 (nI (40 * c + i)) (if (-1) < rb then rb else (-1)) y1) (40 * c + i) := ⟨⟨_, Am.o (by decide) k67, fa⟩, _, sw_A (by omega), fb⟩
      generalize swd 68 (nI (40 * c + i)) (if (-1) < rb then rb else (-1)) y1 = y2 at h4 kw ⊢
      have hD2 := (h4.1.kd (hnc c hc)).dr hi
      have hI2 := h4.1.inv hI
      refine Ok_rdN rfl hx (by decide) (Am.val (hD2.res i (by omega)).1) (Ok_ite (fun _ => Ok_wdN rfl hx (by decide) ?_) (fun _ => Ok_wdN rfl hx (by decide) (Ok_li ?_)))
      · have h5 := h4.wd (k := 65) (by decide) (nI (40 * c + i)) 2
        have kw5 := kw.wd (k := 65) (by decide) (nI (40 * c + i)) 2
        generalize swd 65 (nI (40 * c + i)) 2 y2 = y3 at h5 kw5 ⊢
        have hI3 := h5.1.inv hI
        refine Ok_clR (ok_matOf (fun m hm => (hI3.1.2.2.2.2.2.1 m hm).1) c i) (fun r _ => Ok_wdN rfl hx (by decide) ?_)
        have h6 := h5.wd (k := 63) (by decide) (nI (40 * c + i)) r
        have kw6 := kw5.wd (k := 63) (by decide) (nI (40 * c + i)) r
        generalize swd 63 (nI (40 * c + i)) r y3 = y4 at h6 kw6 ⊢
        have hI4 := h6.1.inv hI
        refine Ok_rf hI4.1.2.1.1 (Ok_wdN rfl hx (by decide) ?_)
        generalize y4.1.1 3 = mn
        have h7 := h6.wd (k := 64) (by decide) (nI (40 * c + i)) mn
        have kw7 := kw6.wd (k := 64) (by decide) (nI (40 * c + i)) mn
        generalize swd 64 (nI (40 * c + i)) mn y4 = y5 at h7 kw7 ⊢
        have hI5 := h7.1.inv hI
        refine Ok_rf hI5.1.2.1.1 (Ok_li (Ok_rf hI5.1.2.1.1 (Ok_cl (Ok.mono (ok_tires hI h7 hx kw7 _) (fun _ y6 h8 => ?_)))))
        exact hnext y6 v3 _ many (by omega) h8
      · have h5 := h4.wd (k := 65) (by decide) (nI (40 * c + i)) 1
        have kw5 := kw.wd (k := 65) (by decide) (nI (40 * c + i)) 1
        generalize swd 65 (nI (40 * c + i)) 1 y2 = y3 at h5 kw5 ⊢
        refine ok_ins hnc (X := 40 * c + (i + 1)) (many := many) (x := 40 * c + i) (by omega) _ _ _ _ _ _ _ _ (fun y p hp hq hpm hv => ?_) many fuel y3 (by unfold fuel; omega) (Nat.le_refl _) h5.q (fun k hk hne => h5.2.2.2.2 k (by omega)) ⟨⟨c, i, hc, hi, rfl⟩, kw5⟩
        refine Ok_wdN rfl (by omega) (by decide) (Ok_li ?_)
        have em : nI many + 1 = nI (many + 1) := nI_1 many
        rw [em]
        have h6 := hp.w66 (nI p) (nI (40 * c + i))
        refine hnext _ _ v4 (many + 1) (by omega) ⟨h6.1, h6.2.1, h6.2.2.1, h6.2.2.2.1, fun k hk => ?_⟩
        by_cases he : k = p
        · rw [he]
          exact ⟨40 * c + i, sw_A (by omega), hv.wd (by decide) _ _⟩
        · obtain ⟨z, z1, z2⟩ := hq k (by omega) he
          exact ⟨z, sw_An (by omega) he z1, z2.wd (by decide) _ _⟩
theorem ok_plan136 {w : GS} (hI : Inv w) (h13 : ∀ c, c < 4 → w.2.2 13 c = true) {nc : Nat → Nat} (hnc : ∀ c, c < 4 → Kd w c (nc c)) (v1 v2 : Int32) (K : Int32 → Int32 → Int32 → Int32 → Int32 → Int32 → PG Int32) (Q : Int32 → GS → Prop) (hK : ∀ v v3 v4 v6 many, many ≤ 160 → Pn w nc v 160 many → Ok (K v1 v2 v3 v4 (nI many) v6) v Q) :
    ∀ (t c m many : Nat) (v : GS) (v3 v4 : Int32), c + t = 4 → t < m → many ≤ 40 * c → Pn w nc v (40 * c) many → Ok (lp_plan_136 m v1 v2 v3 v4 (nI many) (nI c) K) v Q := by
  intro t
  induction t with
  | zero =>
    intro c m many v v3 v4 h1 h2 hm h
    cases m with
    | zero => omega
    | succ m =>
      have : c = 4 := by omega
      subst this
      unfold lp_plan_136
      exact Ok_ite (fun _ => hK v v3 v4 _ many (by omega) h) (fun z => absurd (Int32.le_refl _) z)
  | succ t ih =>
    intro c m many v v3 v4 h1 h2 hm h
    cases m with
    | zero => omega
    | succ m =>
      unfold lp_plan_136
      refine Ok_ite (fun z => absurd ((nI_le4 (k := c) (n := 4) (by omega) (by decide)).mp z) (by omega)) (fun _ => ?_)
      refine ok_plan145 hI h13 hnc c (by omega) v1 v2 _ _ (fun v v3 v4 v7 many hm h => Ok_li ?_) 40 0 fuel many v v3 v4 (by omega) (by unfold fuel; omega) (by omega) h
      rw [nI_1]
      exact ih (c + 1) m many v v3 v4 (by omega) (by omega) hm h
theorem ok_plan41 {w : GS} (hI : Inv w) {nc : Nat → Nat} (v1 v2 v3 v4 v5 : Int32) (K : Int32 → Int32 → Int32 → Int32 → Int32 → Int32 → PG Int32) (Q : Int32 → GS → Prop) (hK : ∀ v v6, PW w v → (∀ f, f < nF w → v.2.2 70 f = true) → Ok (K v1 v2 v3 v4 v5 v6) v Q) :
    ∀ (t f m : Nat) (v : GS), f + t = nF w → t < m → PW w v → (∀ g, g < f → v.2.2 70 g = true) → Ok (lp_plan_41 m v1 v2 v3 v4 v5 (nI f) K) v Q := by
  have h96 := hI.1.1.2.2
  intro t
  induction t with
  | zero =>
    intro f m v h1 h2 hP h70
    have hIv := hP.inv hI
    have hn : nF v = nF w := by unfold nF; rw [hP.1]
    cases m with
    | zero => omega
    | succ m =>
      have : f = nF w := by omega
      subst this
      unfold lp_plan_41
      refine Ok_rfN ⟨hIv.1.1.1, hIv.1.1.2.1⟩ ?_
      rw [hn]
      exact Ok_ite (fun _ => hK v _ hP h70) (fun z => absurd (Int32.le_refl _) z)
  | succ t ih =>
    intro f m v h1 h2 hP h70
    have hIv := hP.inv hI
    have hn : nF v = nF w := by unfold nF; rw [hP.1]
    cases m with
    | zero => omega
    | succ m =>
      obtain ⟨-, -, -, -, -, -, g11⟩ := hIv.1.2.2.1 f (by omega)
      have hs : ∀ x : Int32, (∀ g, g < f + 1 → (swd 70 (nI f) x v).2.2 70 g = true) := fun x g hg => by
        by_cases he : g = f
        · rw [he]; exact sw_me (v := x) (by omega)
        · exact sw_mm (h70 g (by omega))
      unfold lp_plan_41
      refine Ok_rfN ⟨hIv.1.1.1, hIv.1.1.2.1⟩ ?_
      rw [hn]
      refine Ok_ite (fun z => absurd z (nI_ge (by omega) (by omega))) (fun _ => Ok_rdN rfl (by omega) (by decide) (Am.val g11) (Ok_ite (fun _ => Ok_wdN rfl (by omega) (by decide) (Ok_li ?_)) (fun _ => ?_)))
      · rw [nI_1]
        exact ih (f + 1) m _ (by omega) (by omega) (hP.wd (by decide) _ _) (hs _)
      · refine Ok_rdN rfl (by omega) (by decide) (Am.val g11) (Ok_rf hIv.1.2.1.2.1 (Ok_wdN rfl (by omega) (by decide) (Ok_li ?_)))
        rw [nI_1]
        exact ih (f + 1) m _ (by omega) (by omega) (hP.wd (by decide) _ _) (hs _)
theorem ok_plan93 {w : GS} (hI : Inv w) {nc : Nat → Nat} (v1 v2 v3 v4 v5 : Int32) (K : Int32 → Int32 → Int32 → Int32 → Int32 → Int32 → PG Int32) (Q : Int32 → GS → Prop) (hK : ∀ v v6, Pn w nc v 0 0 → Ok (K v1 v2 v3 v4 v5 v6) v Q) :
    ∀ (t j m : Nat) (v : GS), j + t = 4 → t < m → PW w v → (∀ f, f < nF w → v.2.2 70 f = true) → (∀ g, g < j → v.2.2 71 g = true) → Ok (lp_plan_93 m v1 v2 v3 v4 v5 (nI j) K) v Q := by
  intro t
  induction t with
  | zero =>
    intro j m v h1 h2 hP h70 h71
    cases m with
    | zero => omega
    | succ m =>
      have : j = 4 := by omega
      subst this
      unfold lp_plan_93
      exact Ok_ite (fun _ => hK v _ ⟨hP, h70, h71, fun x hx => absurd hx (Nat.not_lt_zero _), fun x hx => absurd hx (Nat.not_lt_zero _)⟩) (fun z => absurd (Int32.le_refl _) z)
  | succ t ih =>
    intro j m v h1 h2 hP h70 h71
    have hIv := hP.inv hI
    cases m with
    | zero => omega
    | succ m =>
      have hs : ∀ x : Int32, (∀ g, g < j + 1 → (swd 71 (nI j) x v).2.2 71 g = true) := fun x g hg => by
        by_cases he : g = j
        · rw [he]; exact sw_me (v := x) (by omega)
        · exact sw_mm (h71 g (by omega))
      unfold lp_plan_93
      refine Ok_ite (fun z => absurd ((nI_le4 (k := j) (n := 4) (by omega) (by decide)).mp z) (by omega)) (fun _ => Ok_rdN rfl (by omega) (by decide) (Am.val (hIv.1.2.2.2.2.2.1 j (by omega)).1) (Ok_ite (fun _ => Ok_wdN rfl (by omega) (by decide) (Ok_li ?_)) (fun _ => Ok_rf hIv.1.2.1.1 (Ok_wdN rfl (by omega) (by decide) (Ok_li ?_)))))
      · rw [nI_1]
        exact ih (j + 1) m _ (by omega) (by omega) (hP.wd (by decide) _ _) (fun f hf => sw_mm (h70 f hf)) (hs _)
      · rw [nI_1]
        exact ih (j + 1) m _ (by omega) (by omega) (hP.wd (by decide) _ _) (fun f hf => sw_mm (h70 f hf)) (hs _)
theorem ok_plan467 {w : GS} (hI : Inv w) {nc : Nat → Nat} (hnc : ∀ c, c < 4 → Kd w c (nc c)) {v : GS} {many : Nat} (hmany : many ≤ 160) (h : Pn w nc v 160 many) (v1 v2 v3 v4 v6 v7 : Int32) (K : Int32 → Int32 → Int32 → Int32 → Int32 → Int32 → Int32 → Int32 → Int32 → PG Int32) (Q : Int32 → GS → Prop) (hK : ∀ v8 v9, (v8 = -1 ∨ ∃ x, v8 = nI x ∧ Vx w nc v x) → Ok (K v1 v2 v3 v4 (nI many) v6 v7 v8 v9) v Q) :
    ∀ (t k m : Nat) (v8 : Int32), k + t = many → t < m → (v8 = -1 ∨ ∃ x, v8 = nI x ∧ Vx w nc v x) → Ok (lp_plan_467 m v1 v2 v3 v4 (nI many) v6 v7 v8 (nI k) K) v Q := by
  intro t
  induction t with
  | zero =>
    intro k m v8 h1 h2 h8
    cases m with
    | zero => omega
    | succ m =>
      have : k = many := by omega
      subst this
      unfold lp_plan_467
      exact Ok_ite (fun _ => hK v8 _ h8) (fun z => absurd (Int32.le_refl _) z)
  | succ t ih =>
    intro k m v8 h1 h2 h8
    cases m with
    | zero => omega
    | succ m =>
      have hn : ∀ v8, (v8 = -1 ∨ ∃ x, v8 = nI x ∧ Vx w nc v x) → Ok (pli (nI k + 1) (fun x => lp_plan_467 m v1 v2 v3 v4 (nI many) v6 v7 v8 x K)) v Q := fun v8 h8 => by
        refine Ok_li ?_
        rw [nI_1]
        exact ih (k + 1) m v8 (by omega) (by omega) h8
      obtain ⟨x, x1, x2⟩ := h.2.2.2.2 k (by omega)
      have hx : x < 160 := by
        obtain ⟨⟨c, i, hc, hi, rfl⟩, -⟩ := x2
        have := (hnc c hc).n37
        omega
      unfold lp_plan_467
      refine Ok_ite (fun z => absurd z (nI_ge (by omega) (by omega))) (fun _ => Ok_ite (fun _ => ?_) (fun _ => hK v8 _ h8))
      refine Ok_rdN rfl (by omega) (by decide) x1 (Ok_rdN rfl hx (by decide) (Am.val (h.2.2.2.1 x hx).2.2) (Ok_ite (fun _ => ?_) (fun _ => hn v8 h8)))
      refine Ok_rdN rfl (by omega) (by decide) x1 (Ok_clR (ok_mayBegin hI hnc h x2 v6 v2) (fun _ _ => Ok_ite (fun _ => hn v8 h8) (fun _ => ?_)))
      exact Ok_rdN rfl (by omega) (by decide) x1 (hn (nI x) (Or.inr ⟨x, rfl, x2⟩))
theorem ok_plan436 {w : GS} (hI : Inv w) {nc : Nat → Nat} (hnc : ∀ c, c < 4 → Kd w c (nc c)) {many M : Nat} (hmany : many ≤ 160) (hM : M ≤ 4) (v2 v6 : Int32) (K : Int32 → Int32 → Int32 → Int32 → Int32 → Int32 → Int32 → PG Int32) (Q : Int32 → GS → Prop) (hK : ∀ v v3 v4 v7, Pn w nc v 160 many → Ok (K (nI M) v2 v3 v4 (nI many) v6 v7) v Q) :
    ∀ (t j m : Nat) (v : GS) (v3 v4 : Int32), j + t = M → t < m → Pn w nc v 160 many → Ok (lp_plan_436 m (nI M) v2 v3 v4 (nI many) v6 (nI j) K) v Q := by
  intro t
  induction t with
  | zero =>
    intro j m v v3 v4 h1 h2 h
    cases m with
    | zero => omega
    | succ m =>
      have : j = M := by omega
      subst this
      unfold lp_plan_436
      exact Ok_ite (fun _ => hK v v3 v4 _ h) (fun z => absurd (Int32.le_refl _) z)
  | succ t ih =>
    intro j m v v3 v4 h1 h2 h
    cases m with
    | zero => omega
    | succ m =>
      have hn : ∀ v v3 v4, Pn w nc v 160 many → Ok (pli (nI j + 1) (fun x => lp_plan_436 m (nI M) v2 v3 v4 (nI many) v6 x K)) v Q := fun v v3 v4 h => by
        refine Ok_li ?_
        rw [nI_1]
        exact ih (j + 1) m v v3 v4 (by omega) (by omega) h
      unfold lp_plan_436
      refine Ok_ite (fun z => absurd z (nI_ge (by omega) (by omega))) (fun _ => Ok_ite (fun _ => hK v v3 v4 _ h) (fun _ => ?_))
      refine Ok_rdN rfl (by omega) (by decide) (Am.val (h.2.2.1 j (by omega))) (Ok_ite (fun _ => ?_) (fun _ => hn v v3 v4 h))
      refine ok_plan467 hI hnc hmany h _ _ _ _ _ _ _ _ (fun v8 v9 h8 => Ok_ite (fun _ => hn v v3 v4 h) (fun hne => ?_)) many 0 fuel (-1) (by omega) (by unfold fuel; omega) (Or.inl rfl)
      obtain ⟨x, rfl, x2⟩ := h8.resolve_left hne
      have hx : x < 160 := by
        obtain ⟨⟨c, i, hc, hi, rfl⟩, -⟩ := x2
        have := (hnc c hc).n37
        omega
      refine Ok_wdN rfl hx (by decide) (Ok_wdN rfl hx (by decide) (Ok_wdN rfl hx (by decide) (Ok_wdN rfl (by omega) (by decide) ?_)))
      have h5 := (((h.wd (k := 65) (by decide) (nI x) 2).wd (k := 63) (by decide) (nI x) (nI j)).wd (k := 64) (by decide) (nI x) v6).wd (k := 71) (by decide) (nI j) (v6 + v2)
      have k5 := (((x2.2.wd (k := 65) (by decide) (nI x) 2).wd (k := 63) (by decide) (nI x) (nI j)).wd (k := 64) (by decide) (nI x) v6).wd (k := 71) (by decide) (nI j) (v6 + v2)
      exact Ok_cl (Ok.mono (ok_tires hI h5 hx k5 _) (fun _ y h8 => Ok_li (Ok_li (hn y _ _ h8))))
theorem ok_plan429 {w : GS} (hI : Inv w) {nc : Nat → Nat} (hnc : ∀ c, c < 4 → Kd w c (nc c)) {many M : Nat} (hmany : many ≤ 160) (hM : M ≤ 4) (v2 : Int32) (K : Int32 → Int32 → Int32 → Int32 → Int32 → Int32 → PG Int32) (Q : Int32 → GS → Prop) (hQ : ∀ v, Pn w nc v 160 many → Q (-1) v) (hK : ∀ v v3 v4 v6, Pn w nc v 160 many → Ok (K (nI M) v2 v3 v4 (nI many) v6) v Q) :
    ∀ (t m : Nat) (v : GS) (v3 v4 v6 : Int32), 100001 - v6.toInt ≤ t → t < m → Pn w nc v 160 many → Ok (lp_plan_429 m (nI M) v2 v3 v4 (nI many) v6 K) v Q := by
  have c1 : (100000 : Int32).toInt = 100000 := by decide
  intro t
  induction t with
  | zero =>
    intro m v v3 v4 v6 h1 h2 h
    cases m with
    | zero => omega
    | succ m =>
      unfold lp_plan_429
      refine Ok_ite (fun _ => hK v v3 v4 v6 h) (fun _ => ?_)
      refine ok_plan436 hI hnc hmany hM v2 v6 _ _ (fun v v3 v4 v7 h => Ok_ite (fun _ => Ok_rt (hQ v h)) (fun _ => Ok_ite (fun z => ?_) (fun _ => Ok_rt (hQ v h)))) M 0 fuel v v3 v4 (by omega) (by unfold fuel; omega) h
      exfalso
      have z2 := Int32.le_iff_toInt_le.mp z
      rw [c1] at z2
      omega
  | succ t ih =>
    intro m v v3 v4 v6 h1 h2 h
    cases m with
    | zero => omega
    | succ m =>
      unfold lp_plan_429
      refine Ok_ite (fun _ => hK v v3 v4 v6 h) (fun _ => ?_)
      refine ok_plan436 hI hnc hmany hM v2 v6 _ _ (fun v v3 v4 v7 h => Ok_ite (fun _ => Ok_rt (hQ v h)) (fun _ => Ok_ite (fun z => Ok_li ?_) (fun _ => Ok_rt (hQ v h)))) M 0 fuel v v3 v4 (by omega) (by unfold fuel; omega) h
      have z2 := Int32.le_iff_toInt_le.mp z
      rw [c1] at z2
      have h9 := v6.le_toInt
      have e1 : (v6 + 1).toInt = v6.toInt + 1 := by
        rw [Int32.toInt_add]
        have c9 : (1 : Int32).toInt = 1 := by decide
        rw [c9]
        exact Int.bmod_eq_of_le (by omega) (by omega)
      exact ih m v v3 v4 (v6 + 1) (by rw [e1]; omega) (by omega) h
theorem ok_plan631 {w : GS} {nc : Nat → Nat} (v1 v2 v3 v4 v5 v6 : Int32) (K : Int32 → Int32 → Int32 → Int32 → Int32 → Int32 → Int32 → PG Int32) (Q : Int32 → GS → Prop) (hK : ∀ v v7, PW w v → Ok (K v1 v2 v3 v4 v5 v6 v7) v Q) :
    ∀ (t x m : Nat) (v : GS), x + t = 160 → t < m → PW w v → (∀ y, y < 160 → v.2.2 63 y = true ∧ v.2.2 64 y = true) → Ok (lp_plan_631 m v1 v2 v3 v4 v5 v6 (nI x) K) v Q := by
  intro t
  induction t with
  | zero =>
    intro x m v h1 h2 hP h6
    cases m with
    | zero => omega
    | succ m =>
      have : x = 160 := by omega
      subst this
      unfold lp_plan_631
      exact Ok_ite (fun _ => hK v _ hP) (fun z => absurd (Int32.le_refl _) z)
  | succ t ih =>
    intro x m v h1 h2 hP h6
    cases m with
    | zero => omega
    | succ m =>
      unfold lp_plan_631
      refine Ok_ite (fun z => absurd ((nI_le4 (k := x) (n := 160) (by omega) (by decide)).mp z) (by omega)) (fun _ => ?_)
      refine Ok_rdN rfl (by omega) (by decide) (Am.val (h6 x (by omega)).1) (Ok_wdN rfl (by omega) (by decide) (Ok_rdN rfl (by omega) (by decide) (Am.val (sw_mm (h6 x (by omega)).2)) (Ok_wdN rfl (by omega) (by decide) (Ok_li ?_))))
      rw [nI_1]
      exact ih (x + 1) m _ (by omega) (by omega) ((hP.wd (by decide) _ _).wd (by decide) _ _) (fun y hy => ⟨sw_mm (sw_mm (h6 y hy).1), sw_mm (sw_mm (h6 y hy).2)⟩)
theorem live_pw {N tp n E : Nat} {lg : Nat → En} {s : Nat → GS} {w v : GS} (h : LiveX N tp n E lg s w) (hP : PW w v) : LiveX N tp n E lg s v := by
  have hA := h.2.2.2.2.2.2.2.1
  have hs := (h.2.2.2.2.2.2.1.2.1 n (Nat.le_refl _)).2.2
  obtain ⟨p1, p2, p3⟩ := hP
  refine live_frg h (Nat.le_refl _) (by rw [p1]; exact h.2.1) (by rw [p1]) (by rw [p1]) (p3 52 (by decide)).1 (p3 54 (by decide)).1 (p3 54 (by decide)).2 (fun c hc => by rw [(p3 13 (by decide)).2]; exact hc) ⟨fun k hk hm => ?_, fun k j hk hm => ?_⟩
  · rw [p1, p2]; exact hA.1 k hk hm
  · by_cases hr : 61 ≤ k ∧ k ≤ 71
    · exfalso
      have n61 : ¬ k = 61 := fun z => by subst z; exact absurd hk (by decide)
      have n62 : ¬ k = 62 := fun z => by subst z; exact absurd hk (by decide)
      have n69 : ¬ k = 69 := fun z => by subst z; exact absurd hk (by decide)
      rw [hs.2 k j (Or.inr (Or.inr ⟨by omega, by omega, n69⟩))] at hm
      cases hm
    · rw [(p3 k hr).1, (p3 k hr).2]; exact hA.2 k j hk hm
end
section
def wN2 : List Cond := [.instantiable RX4 9, .methodLink RX5 32 yX4_init, .instanceMethod yX4_init]
def wKN : List Cond := wK ++ (wN2 ++ wq_k_Laws_init)
theorem gd_wKN : ∀ w ∈ wKN, Gd w := List.forall_mem_append.mpr ⟨gd_wK, List.forall_mem_append.mpr ⟨gdl wN2 (by decide +kernel), gd_k_Laws_init⟩⟩
theorem wn0 : Cond.instantiable RX4 9 ∈ wKN := List.mem_append_right _ (List.mem_append_left _ (List.mem_of_getElem? (i := 0) rfl))
theorem wn1 : Cond.methodLink RX5 32 yX4_init ∈ wKN := List.mem_append_right _ (List.mem_append_left _ (List.mem_of_getElem? (i := 1) rfl))
theorem wn2 : Cond.instanceMethod yX4_init ∈ wKN := List.mem_append_right _ (List.mem_append_left _ (List.mem_of_getElem? (i := 2) rfl))
theorem c_join {A : Nat → Prop} {D : va_G} {cl : List vw_C} {ws w1 : va_W} {x : Nat × va_E} {H H1 : Heap} (hP : va_P D cl (ws ++ [x]) H) (hD : va_D A (ws ++ [x])) (hk : ∀ q : Nat, q < H.size → ¬ va_A [x] H.size q → H1[q]? = H[q]?) (hF : ∀ q, va_A [x] H.size q → A q) (hP1 : va_P D cl w1 H1) (hD1 : va_D (va_A [x] H.size) w1) : va_P D cl (ws ++ w1) H1 ∧ va_D A (ws ++ w1) := by
  have hxn : (ws ++ [x])[ws.length]? = some x := by rw [List.getElem?_append_right (Nat.le_refl _), Nat.sub_self]; rfl
  have old : ∀ (k : Nat) (q : Nat × va_E), k < ws.length → (ws ++ w1)[k]? = some q → (ws ++ [x])[k]? = some q := fun k q hl hq => by
    rw [List.getElem?_append_left hl] at hq ⊢
    exact hq
  have new : ∀ (k : Nat) (q : Nat × va_E), ¬ k < ws.length → (ws ++ w1)[k]? = some q → w1[k - ws.length]? = some q := fun k q hl hq => by
    rw [List.getElem?_append_right (Nat.not_lt.mp hl)] at hq
    exact hq
  have apart : ∀ (k : Nat) (q : Nat × va_E), k < ws.length → (ws ++ [x])[k]? = some q → ¬ va_A [x] H.size q.1 := fun k q hl hq z => by
    rcases z with ⟨k2, y, z⟩ | z
    · match k2, z with
      | 0, z =>
        have he : x = (q.1, y) := Option.some.inj z
        have := hD.1 k ws.length q x hq hxn (by rw [he])
        omega
      | k2 + 1, z => cases z
    · have := (hP k q hq).lt
      omega
  refine ⟨fun k q hq => ?_, fun a b p q ha hb hpq => ?_, fun k q hq => ?_⟩
  · by_cases hl : k < ws.length
    · have h2 := old k q hl hq
      exact (hP k q h2).kept (hk q.1 (hP k q h2).lt (apart k q hl h2))
    · exact hP1 _ q (new k q hl hq)
  · by_cases hla : a < ws.length
    · by_cases hlb : b < ws.length
      · exact hD.1 a b p q (old a p hla ha) (old b q hlb hb) hpq
      · exact absurd (hpq ▸ hD1.2 _ q (new b q hlb hb)) (apart a p hla (old a p hla ha))
    · by_cases hlb : b < ws.length
      · exact absurd (hpq ▸ hD1.2 _ p (new a p hla ha)) (apart b q hlb (old b q hlb hb))
      · have := hD1.1 _ _ p q (new a p hla ha) (new b q hlb hb) hpq
        omega
  · by_cases hl : k < ws.length
    · exact hD.2 k q (old k q hl hq)
    · exact hF _ (hD1.2 _ q (new k q hl hq))
theorem va_reidx {A : Nat → Prop} {D : va_G} {cl : List vw_C} {ws ws2 : va_W} {H : Heap} (f : Nat → Nat) (hf : ∀ (k : Nat) (q : Nat × va_E), ws2[k]? = some q → ws[f k]? = some q) (hinj : ∀ a b : Nat, a < ws2.length → b < ws2.length → f a = f b → a = b) (hP : va_P D cl ws H) (hD : va_D A ws) : va_P D cl ws2 H ∧ va_D A ws2 :=
  ⟨fun k q hq => hP _ q (hf k q hq), fun a b p q ha hb hpq => hinj a b (List.getElem?_eq_some_iff.mp ha).1 (List.getElem?_eq_some_iff.mp hb).1 (hD.1 _ _ p q (hf a p ha) (hf b q hb) hpq), fun k q hq => hD.2 _ q (hf k q hq)⟩
def opk (G : gG) (Q : Nat → Nat) (D : Nat × Nat) (u : MS) : va_W := [(Q 10, .inr (5, [.int (u.1 20), .int (u.1 21), .int (u.1 22), .int (u.1 23), .int (u.1 24), .int (u.1 25), .ref (Q 34), .ref (Q 36), .ref (Q 38)])), (Q 34, .inr (10, [.ref (Q 35)])), (Q 35, .inl (gI G, 300, .inl (u.2 8))), (Q 36, .inr (10, [.ref (Q 37)])), (Q 37, .inl (gI G, 20, .inl (u.2 9))), (Q 38, .inr (10, [.ref (Q 39)])), (Q 39, .inl (gI G, 20, .inl (u.2 10)))]
def dnew (u : MS) : MS := (fun j => if [20, 21, 22, 23, 24, 25].contains j then 0 else u.1 j, fun a => if a = 8 then fl 300 0 (fun _ => 0) else if a = 9 then fl 20 0 (fun _ => 0) else if a = 10 then fl 20 0 (fun _ => 0) else u.2 a)
def Qn (Q : Nat → Nat) (q hc ac he ae ho ao : Nat) : Nat → Nat := fun k => if k = 10 then q else if k = 34 then hc else if k = 35 then ac else if k = 36 then he else if k = 37 then ae else if k = 38 then ho else if k = 39 then ao else Q k
def npk (G : gG) (q hc ac he ae ho ao : Nat) : va_W := [(q, .inr (5, [.int 0, .int 0, .int 0, .int 0, .int 0, .int 0, .ref hc, .ref he, .ref ho])), (hc, .inr (10, [.ref ac])), (ac, .inl (gI G, 300, .inl (fl 300 0 (fun _ => 0)))), (he, .inr (10, [.ref ae])), (ae, .inl (gI G, 20, .inl (fl 20 0 (fun _ => 0)))), (ho, .inr (10, [.ref ao])), (ao, .inl (gI G, 20, .inl (fl 20 0 (fun _ => 0))))]
def prn (Q : Nat → Nat) (D : Nat × Nat) (u : MS) (q : Nat) : Nat × va_E := (Q 3, .inr (6, [.ref (Q 2), .ref (Q 28), .ref (Q 30), .ref (Q 32), .ref q, .int (u.1 7), .int (u.1 8), .int (u.1 9), .int (u.1 10), .int (u.1 11), .int (u.1 12), .int (u.1 13), .int (u.1 14), .int (u.1 15)]))
def fho (n : Nat) (k : Nat) : Nat := if k = 10 then 70 + n + 0 else if k = 26 then 70 + n + 1 else if k = 27 then 70 + n + 2 else if k = 28 then 70 + n + 3 else if k = 29 then 70 + n + 4 else if k = 30 then 70 + n + 5 else if k = 31 then 70 + n + 6 else if k < 70 then k else if k = 70 then 10 else if k = 71 then 26 else if k = 72 then 27 else if k = 73 then 28 else if k = 74 then 29 else if k = 75 then 30 else if k = 76 then 31 else k - 7
theorem fho_c (n k : Nat) : (k = 10 ∧ fho n k = 70 + n + 0) ∨ (¬ k = 10 ∧ k = 26 ∧ fho n k = 70 + n + 1) ∨ (¬ k = 10 ∧ ¬ k = 26 ∧ k = 27 ∧ fho n k = 70 + n + 2) ∨ (¬ k = 10 ∧ ¬ k = 26 ∧ ¬ k = 27 ∧ k = 28 ∧ fho n k = 70 + n + 3) ∨ (¬ k = 10 ∧ ¬ k = 26 ∧ ¬ k = 27 ∧ ¬ k = 28 ∧ k = 29 ∧ fho n k = 70 + n + 4) ∨ (¬ k = 10 ∧ ¬ k = 26 ∧ ¬ k = 27 ∧ ¬ k = 28 ∧ ¬ k = 29 ∧ k = 30 ∧ fho n k = 70 + n + 5) ∨ (¬ k = 10 ∧ ¬ k = 26 ∧ ¬ k = 27 ∧ ¬ k = 28 ∧ ¬ k = 29 ∧ ¬ k = 30 ∧ k = 31 ∧ fho n k = 70 + n + 6) ∨ (¬ k = 10 ∧ ¬ k = 26 ∧ ¬ k = 27 ∧ ¬ k = 28 ∧ ¬ k = 29 ∧ ¬ k = 30 ∧ ¬ k = 31 ∧ k < 70 ∧ fho n k = k) ∨ (¬ k = 10 ∧ ¬ k = 26 ∧ ¬ k = 27 ∧ ¬ k = 28 ∧ ¬ k = 29 ∧ ¬ k = 30 ∧ ¬ k = 31 ∧ ¬ k < 70 ∧ k = 70 ∧ fho n k = 10) ∨ (¬ k = 10 ∧ ¬ k = 26 ∧ ¬ k = 27 ∧ ¬ k = 28 ∧ ¬ k = 29 ∧ ¬ k = 30 ∧ ¬ k = 31 ∧ ¬ k < 70 ∧ ¬ k = 70 ∧ k = 71 ∧ fho n k = 26) ∨ (¬ k = 10 ∧ ¬ k = 26 ∧ ¬ k = 27 ∧ ¬ k = 28 ∧ ¬ k = 29 ∧ ¬ k = 30 ∧ ¬ k = 31 ∧ ¬ k < 70 ∧ ¬ k = 70 ∧ ¬ k = 71 ∧ k = 72 ∧ fho n k = 27) ∨ (¬ k = 10 ∧ ¬ k = 26 ∧ ¬ k = 27 ∧ ¬ k = 28 ∧ ¬ k = 29 ∧ ¬ k = 30 ∧ ¬ k = 31 ∧ ¬ k < 70 ∧ ¬ k = 70 ∧ ¬ k = 71 ∧ ¬ k = 72 ∧ k = 73 ∧ fho n k = 28) ∨ (¬ k = 10 ∧ ¬ k = 26 ∧ ¬ k = 27 ∧ ¬ k = 28 ∧ ¬ k = 29 ∧ ¬ k = 30 ∧ ¬ k = 31 ∧ ¬ k < 70 ∧ ¬ k = 70 ∧ ¬ k = 71 ∧ ¬ k = 72 ∧ ¬ k = 73 ∧ k = 74 ∧ fho n k = 29) ∨ (¬ k = 10 ∧ ¬ k = 26 ∧ ¬ k = 27 ∧ ¬ k = 28 ∧ ¬ k = 29 ∧ ¬ k = 30 ∧ ¬ k = 31 ∧ ¬ k < 70 ∧ ¬ k = 70 ∧ ¬ k = 71 ∧ ¬ k = 72 ∧ ¬ k = 73 ∧ ¬ k = 74 ∧ k = 75 ∧ fho n k = 30) ∨ (¬ k = 10 ∧ ¬ k = 26 ∧ ¬ k = 27 ∧ ¬ k = 28 ∧ ¬ k = 29 ∧ ¬ k = 30 ∧ ¬ k = 31 ∧ ¬ k < 70 ∧ ¬ k = 70 ∧ ¬ k = 71 ∧ ¬ k = 72 ∧ ¬ k = 73 ∧ ¬ k = 74 ∧ ¬ k = 75 ∧ k = 76 ∧ fho n k = 31) ∨ (¬ k = 10 ∧ ¬ k = 26 ∧ ¬ k = 27 ∧ ¬ k = 28 ∧ ¬ k = 29 ∧ ¬ k = 30 ∧ ¬ k = 31 ∧ ¬ k < 70 ∧ ¬ k = 70 ∧ ¬ k = 71 ∧ ¬ k = 72 ∧ ¬ k = 73 ∧ ¬ k = 74 ∧ ¬ k = 75 ∧ ¬ k = 76 ∧ fho n k = k - 7) := by
  by_cases h0 : k = 10
  · exact Or.inl ⟨h0, by unfold fho; rw [if_pos h0]⟩
  by_cases h1 : k = 26
  · exact Or.inr (Or.inl ⟨h0, h1, by unfold fho; rw [if_neg h0, if_pos h1]⟩)
  by_cases h2 : k = 27
  · exact Or.inr (Or.inr (Or.inl ⟨h0, h1, h2, by unfold fho; rw [if_neg h0, if_neg h1, if_pos h2]⟩))
  by_cases h3 : k = 28
  · exact Or.inr (Or.inr (Or.inr (Or.inl ⟨h0, h1, h2, h3, by unfold fho; rw [if_neg h0, if_neg h1, if_neg h2, if_pos h3]⟩)))
  by_cases h4 : k = 29
  · exact Or.inr (Or.inr (Or.inr (Or.inr (Or.inl ⟨h0, h1, h2, h3, h4, by unfold fho; rw [if_neg h0, if_neg h1, if_neg h2, if_neg h3, if_pos h4]⟩))))
  by_cases h5 : k = 30
  · exact Or.inr (Or.inr (Or.inr (Or.inr (Or.inr (Or.inl ⟨h0, h1, h2, h3, h4, h5, by unfold fho; rw [if_neg h0, if_neg h1, if_neg h2, if_neg h3, if_neg h4, if_pos h5]⟩)))))
  by_cases h6 : k = 31
  · exact Or.inr (Or.inr (Or.inr (Or.inr (Or.inr (Or.inr (Or.inl ⟨h0, h1, h2, h3, h4, h5, h6, by unfold fho; rw [if_neg h0, if_neg h1, if_neg h2, if_neg h3, if_neg h4, if_neg h5, if_pos h6]⟩))))))
  by_cases h7 : k < 70
  · exact Or.inr (Or.inr (Or.inr (Or.inr (Or.inr (Or.inr (Or.inr (Or.inl ⟨h0, h1, h2, h3, h4, h5, h6, h7, by unfold fho; rw [if_neg h0, if_neg h1, if_neg h2, if_neg h3, if_neg h4, if_neg h5, if_neg h6, if_pos h7]⟩)))))))
  by_cases h8 : k = 70
  · exact Or.inr (Or.inr (Or.inr (Or.inr (Or.inr (Or.inr (Or.inr (Or.inr (Or.inl ⟨h0, h1, h2, h3, h4, h5, h6, h7, h8, by unfold fho; rw [if_neg h0, if_neg h1, if_neg h2, if_neg h3, if_neg h4, if_neg h5, if_neg h6, if_neg h7, if_pos h8]⟩))))))))
  by_cases h9 : k = 71
  · exact Or.inr (Or.inr (Or.inr (Or.inr (Or.inr (Or.inr (Or.inr (Or.inr (Or.inr (Or.inl ⟨h0, h1, h2, h3, h4, h5, h6, h7, h8, h9, by unfold fho; rw [if_neg h0, if_neg h1, if_neg h2, if_neg h3, if_neg h4, if_neg h5, if_neg h6, if_neg h7, if_neg h8, if_pos h9]⟩)))))))))
  by_cases h10 : k = 72
  · exact Or.inr (Or.inr (Or.inr (Or.inr (Or.inr (Or.inr (Or.inr (Or.inr (Or.inr (Or.inr (Or.inl ⟨h0, h1, h2, h3, h4, h5, h6, h7, h8, h9, h10, by unfold fho; rw [if_neg h0, if_neg h1, if_neg h2, if_neg h3, if_neg h4, if_neg h5, if_neg h6, if_neg h7, if_neg h8, if_neg h9, if_pos h10]⟩))))))))))
  by_cases h11 : k = 73
  · exact Or.inr (Or.inr (Or.inr (Or.inr (Or.inr (Or.inr (Or.inr (Or.inr (Or.inr (Or.inr (Or.inr (Or.inl ⟨h0, h1, h2, h3, h4, h5, h6, h7, h8, h9, h10, h11, by unfold fho; rw [if_neg h0, if_neg h1, if_neg h2, if_neg h3, if_neg h4, if_neg h5, if_neg h6, if_neg h7, if_neg h8, if_neg h9, if_neg h10, if_pos h11]⟩)))))))))))
  by_cases h12 : k = 74
  · exact Or.inr (Or.inr (Or.inr (Or.inr (Or.inr (Or.inr (Or.inr (Or.inr (Or.inr (Or.inr (Or.inr (Or.inr (Or.inl ⟨h0, h1, h2, h3, h4, h5, h6, h7, h8, h9, h10, h11, h12, by unfold fho; rw [if_neg h0, if_neg h1, if_neg h2, if_neg h3, if_neg h4, if_neg h5, if_neg h6, if_neg h7, if_neg h8, if_neg h9, if_neg h10, if_neg h11, if_pos h12]⟩))))))))))))
  by_cases h13 : k = 75
  · exact Or.inr (Or.inr (Or.inr (Or.inr (Or.inr (Or.inr (Or.inr (Or.inr (Or.inr (Or.inr (Or.inr (Or.inr (Or.inr (Or.inl ⟨h0, h1, h2, h3, h4, h5, h6, h7, h8, h9, h10, h11, h12, h13, by unfold fho; rw [if_neg h0, if_neg h1, if_neg h2, if_neg h3, if_neg h4, if_neg h5, if_neg h6, if_neg h7, if_neg h8, if_neg h9, if_neg h10, if_neg h11, if_neg h12, if_pos h13]⟩)))))))))))))
  by_cases h14 : k = 76
  · exact Or.inr (Or.inr (Or.inr (Or.inr (Or.inr (Or.inr (Or.inr (Or.inr (Or.inr (Or.inr (Or.inr (Or.inr (Or.inr (Or.inr (Or.inl ⟨h0, h1, h2, h3, h4, h5, h6, h7, h8, h9, h10, h11, h12, h13, h14, by unfold fho; rw [if_neg h0, if_neg h1, if_neg h2, if_neg h3, if_neg h4, if_neg h5, if_neg h6, if_neg h7, if_neg h8, if_neg h9, if_neg h10, if_neg h11, if_neg h12, if_neg h13, if_pos h14]⟩))))))))))))))
  exact Or.inr (Or.inr (Or.inr (Or.inr (Or.inr (Or.inr (Or.inr (Or.inr (Or.inr (Or.inr (Or.inr (Or.inr (Or.inr (Or.inr (Or.inr (⟨h0, h1, h2, h3, h4, h5, h6, h7, h8, h9, h10, h11, h12, h13, h14, by unfold fho; rw [if_neg h0, if_neg h1, if_neg h2, if_neg h3, if_neg h4, if_neg h5, if_neg h6, if_neg h7, if_neg h8, if_neg h9, if_neg h10, if_neg h11, if_neg h12, if_neg h13, if_neg h14]⟩)))))))))))))))

set_option maxHeartbeats 4000000 in
set_option maxRecDepth 100000 in
theorem ho_idx {A : Nat → Prop} {G : gG} {Q : Nat → Nat} {D : Nat × Nat} {T : va_W} {u : MS} {H : Heap} {q hc ac he ae ho ao : Nat} (hP : va_P (gD G) vwCl (((cW G Q D T u) ++ npk G q hc ac he ae ho ao).set 3 (prn Q D u q)) H) (hD : va_D A (((cW G Q D T u) ++ npk G q hc ac he ae ho ao).set 3 (prn Q D u q))) : va_P (gD G) vwCl (cW G (Qn Q q hc ac he ae ho ao) D (opk G Q D u ++ T) (dnew u)) H ∧ va_D A (cW G (Qn Q q hc ac he ae ho ao) D (opk G Q D u ++ T) (dnew u)) := by
  have hlen : (cW G Q D T u).length = 70 + T.length := by show T.length + 70 = _; omega
  have hset : ∀ k : Nat, ¬ k = 3 → (((cW G Q D T u) ++ npk G q hc ac he ae ho ao).set 3 (prn Q D u q))[k]? = ((cW G Q D T u) ++ npk G q hc ac he ae ho ao)[k]? := fun k hk => List.getElem?_set_ne (fun z => hk z.symm)
  have happ : ∀ i : Nat, ((cW G Q D T u) ++ npk G q hc ac he ae ho ao)[70 + T.length + i]? = (npk G q hc ac he ae ho ao)[i]? := fun i => by
    rw [List.getElem?_append_right (by rw [hlen]; omega), hlen, Nat.add_sub_cancel_left]
  refine va_reidx (fho T.length) (fun k x hk => ?_) (fun a b ha hb hab => ?_) hP hD
  · match k, hk with
    | 0, hk => exact hk
    | 1, hk => exact hk
    | 2, hk => exact hk
    | 3, hk => exact hk
    | 4, hk => exact hk
    | 5, hk => exact hk
    | 6, hk => exact hk
    | 7, hk => exact hk
    | 8, hk => exact hk
    | 9, hk => exact hk
    | 10, hk => show (((cW G Q D T u) ++ npk G q hc ac he ae ho ao).set 3 (prn Q D u q))[70 + T.length + 0]? = some x; rw [hset (70 + T.length + 0) (by omega), happ 0]; exact hk
    | 11, hk => exact hk
    | 12, hk => exact hk
    | 13, hk => exact hk
    | 14, hk => exact hk
    | 15, hk => exact hk
    | 16, hk => exact hk
    | 17, hk => exact hk
    | 18, hk => exact hk
    | 19, hk => exact hk
    | 20, hk => exact hk
    | 21, hk => exact hk
    | 22, hk => exact hk
    | 23, hk => exact hk
    | 24, hk => exact hk
    | 25, hk => exact hk
    | 26, hk => show (((cW G Q D T u) ++ npk G q hc ac he ae ho ao).set 3 (prn Q D u q))[70 + T.length + 1]? = some x; rw [hset (70 + T.length + 1) (by omega), happ 1]; exact hk
    | 27, hk => show (((cW G Q D T u) ++ npk G q hc ac he ae ho ao).set 3 (prn Q D u q))[70 + T.length + 2]? = some x; rw [hset (70 + T.length + 2) (by omega), happ 2]; exact hk
    | 28, hk => show (((cW G Q D T u) ++ npk G q hc ac he ae ho ao).set 3 (prn Q D u q))[70 + T.length + 3]? = some x; rw [hset (70 + T.length + 3) (by omega), happ 3]; exact hk
    | 29, hk => show (((cW G Q D T u) ++ npk G q hc ac he ae ho ao).set 3 (prn Q D u q))[70 + T.length + 4]? = some x; rw [hset (70 + T.length + 4) (by omega), happ 4]; exact hk
    | 30, hk => show (((cW G Q D T u) ++ npk G q hc ac he ae ho ao).set 3 (prn Q D u q))[70 + T.length + 5]? = some x; rw [hset (70 + T.length + 5) (by omega), happ 5]; exact hk
    | 31, hk => show (((cW G Q D T u) ++ npk G q hc ac he ae ho ao).set 3 (prn Q D u q))[70 + T.length + 6]? = some x; rw [hset (70 + T.length + 6) (by omega), happ 6]; exact hk
    | 32, hk => exact hk
    | 33, hk => exact hk
    | 34, hk => exact hk
    | 35, hk => exact hk
    | 36, hk => exact hk
    | 37, hk => exact hk
    | 38, hk => exact hk
    | 39, hk => exact hk
    | 40, hk => exact hk
    | 41, hk => exact hk
    | 42, hk => exact hk
    | 43, hk => exact hk
    | 44, hk => exact hk
    | 45, hk => exact hk
    | 46, hk => exact hk
    | 47, hk => exact hk
    | 48, hk => exact hk
    | 49, hk => exact hk
    | 50, hk => exact hk
    | 51, hk => exact hk
    | 52, hk => exact hk
    | 53, hk => exact hk
    | 54, hk => exact hk
    | 55, hk => exact hk
    | 56, hk => exact hk
    | 57, hk => exact hk
    | 58, hk => exact hk
    | 59, hk => exact hk
    | 60, hk => exact hk
    | 61, hk => exact hk
    | 62, hk => exact hk
    | 63, hk => exact hk
    | 64, hk => exact hk
    | 65, hk => exact hk
    | 66, hk => exact hk
    | 67, hk => exact hk
    | 68, hk => exact hk
    | 69, hk => exact hk
    | 70, hk => exact hk
    | 71, hk => exact hk
    | 72, hk => exact hk
    | 73, hk => exact hk
    | 74, hk => exact hk
    | 75, hk => exact hk
    | 76, hk => exact hk
    | k + 77, hk =>
      have hf : fho T.length (k + 77) = k + 70 := by
        unfold fho
        rw [if_neg (by omega), if_neg (by omega), if_neg (by omega), if_neg (by omega), if_neg (by omega), if_neg (by omega), if_neg (by omega), if_neg (by omega), if_neg (by omega), if_neg (by omega), if_neg (by omega), if_neg (by omega), if_neg (by omega), if_neg (by omega), if_neg (by omega)]
        omega
      rw [hf, hset _ (by omega), List.getElem?_append_left]
      · exact hk
      · rw [hlen]
        have : k < T.length := (List.getElem?_eq_some_iff.mp (show T[k]? = some x from hk)).1
        omega
  · have hl2 : (cW G (Qn Q q hc ac he ae ho ao) D (opk G Q D u ++ T) (dnew u)).length = 77 + T.length := by show (opk G Q D u ++ T).length + 70 = _; rw [List.length_append]; show 7 + T.length + 70 = _; omega
    rw [hl2] at ha hb
    have ca := fho_c T.length a
    have cb := fho_c T.length b
    rw [hab] at ca
    generalize fho T.length b = z at ca cb
    omega
end
section
set_option maxHeartbeats 4000000 in
set_option maxRecDepth 100000 in
theorem n_X5_handOver (l : Launch) (G : gG) (Z : gC) (Q : Nat → Nat) (D : Nat × Nat) (T : va_W) (u : MS) (sz : Nat) : Met l yX5_handOver (Cond.code yX5_handOver cX5_handOver 2 (some (.object "JudoHall$Laws")) :: wKN) { frames := 3, cells := 7, slots := 352, locals := 65 } (va_Pc [.ref (Q 3)] (cPM G Z Q D T u sz)) (va_Qr (fun _ : Unit => True) (fun (_ : Unit) (a : Nat) (t : State) => a = Q 10 ∧ ∃ q hc ac he ae ho ao : Nat, va_P (gD G) vwCl (cW G (Qn Q q hc ac he ae ho ao) D (opk G Q D u ++ T) (dnew u)) t.heap ∧ va_D (va_A (cW G Q D T u) sz) (cW G (Qn Q q hc ac he ae ho ao) D (opk G Q D u ++ T) (dnew u))) (va_A (cW G Q D T u) sz)) 7 352 (va_A (cW G Q D T u) sz) := by
  refine Met.ofW (cc := cX5_handOver) (maxL := 2) (ret := (some (.object "JudoHall$Laws"))) (by decide) rfl ?_
  intro p e s m args below meth c s₁ B hml hv
  obtain ⟨rfl, rfl, hP, hB, hD0, hE⟩ := hv
  have hr := B.returns
  have hlocks := B.notSynchronized
  have hts0 := atoms_spec (ws := Cond.code yX5_handOver cX5_handOver 2 (some (.object "JudoHall$Laws")) :: wKN) B.pre
  have htsN : ∀ w ∈ wKN, w.before _ s = true := fun w h => hts0 w (List.mem_cons_of_mem _ h)
  have hts : ∀ w ∈ wK, w.before _ s = true := fun w h => htsN w (List.mem_append_left _ h)
  have hD := hD0.self (sz := s.heap.size)
  have hA : ∀ q : Nat, s.heap.size ≤ q → va_A (cW G Q D T u) s.heap.size q := fun q h => Or.inr h
  generalize va_A (cW G Q D T u) s.heap.size = A at hD hA hE ⊢
  have hC : cX p c cX5_handOver 2 s m _ RX5 G Z A := ⟨B.exec, B.bytes, hml, findClass_of_methodNamed B.named, hts, hB, hE, hA⟩
  have hx := hC.1
  have hb := hC.2.1
  have hown := hC.2.2.2.1
  have hK := hB.1
  have hS : va_S A s.heap s.heap [] := va_S.rf
  have hH : cH G Q D T A u s s.heap [] := ⟨hP, hD, hS⟩
  have hl := lv_entry ([.ref (Q 3)]) (n := 2) (Nat.le_of_ble_eq_true rfl)
  rw [lg_entry_eq]
  generalize (lg_sl ([.ref (Q 3)]) ++ List.replicate (2 - (lg_sl ([.ref (Q 3)])).length) Slot.unset).toArray = ls at hl ⊢
  have hl : lv_has ls 2 [(0, .ref (Q 3))] := hl
  refine lv_aload_n hx hb dX5_handOver_0 rfl (lv_at hl 0 rfl) ?_
  refine cg_X5_33 hC hH dX5_handOver_1 ?_
  refine lv_astore_n (lv' := [(1, .ref (Q 10)), (0, .ref (Q 3))]) hx hb dX5_handOver_4 rfl hl (by decide) rfl (fun ls hl => ?_)
  refine lv_aload_n hx hb dX5_handOver_5 rfl (lv_at hl 1 rfl) ?_
  refine va_new (D := gD G) (ci := 5) (fs := [.int 0, .int 0, .int 0, .int 0, .int 0, .int 0, .null, .null, .null]) (C := RX4) (T := TX4) (N := 9) hx hb hts wKin_X4 tyX4 tyX4_ok hown (hts _ wka36) (htsN _ wn0) (hts _ wka748) hK hP hD hS hA rfl dvX4 (Nat.le_of_ble_eq_true rfl) (Nat.le_of_ble_eq_true rfl) dX5_handOver_6 (fun q H hP hD hS => ?_)
  refine lv_dup hx hb dX5_handOver_9 rfl ?_
  have hxn : ((cW G Q D T u) ++ [(q, .inr (5, [.int 0, .int 0, .int 0, .int 0, .int 0, .int 0, .null, .null, .null]))])[(cW G Q D T u).length]? = some (q, .inr (5, [.int 0, .int 0, .int 0, .int 0, .int 0, .int 0, .null, .null, .null])) := by rw [List.getElem?_append_right (Nat.le_refl _), Nat.sub_self]; rfl
  have hPc : va_P (gD G) vwCl [(q, .inr (5, [.int 0, .int 0, .int 0, .int 0, .int 0, .int 0, .null, .null, .null]))] H := fun k x hk => match k, hk with | 0, hk => by cases Option.some.inj hk; exact hP _ _ hxn
  have hDc : va_D A [(q, .inr (5, [.int 0, .int 0, .int 0, .int 0, .int 0, .int 0, .null, .null, .null]))] := ⟨fun a b x y ha hb _ => match a, b, ha, hb with | 0, 0, _, _ => rfl, fun k x hk => match k, hk with | 0, hk => by cases Option.some.inj hk; exact hD.2 _ _ hxn⟩
  have hFc : ∀ z, va_A [(q, .inr (5, [.int 0, .int 0, .int 0, .int 0, .int 0, .int 0, .null, .null, .null]))] H.size z → A z := fun z hz => by
    rcases hz with ⟨k, y, hz⟩ | hz
    · exact hDc.2 k (z, y) hz
    · exact hA z (Nat.le_trans hS.1 hz)
  refine va_callv (va_runI (As := []) (rest := [.ref q, .ref (Q 3)]) ⟨hx, hb, hml, hown, htsN⟩ (k_Laws_init l G q H.size) (cwI 0 htsN (fun w9 h9 => ⟨List.mem_append_right _ (List.mem_append_right _ h9), gd_k_Laws_init w9 h9⟩) rfl rfl rfl (hts _ wka748) (htsN _ wn1) (htsN _ wn2) rfl kSX4_init ⟨Nat.le_of_ble_eq_true rfl, Nat.le_of_ble_eq_true rfl⟩) (preS_m (As := [.ref q]) hPc hB hDc) rfl rfl hl.1 rfl (lv_room (Nat.le_of_ble_eq_true rfl)) dX5_handOver_10 ⟨Nat.le_of_ble_eq_true rfl, Nat.le_of_ble_eq_true rfl⟩) hS (fun z _ h => hFc z h) hFc (fun u2 t H1 locs ht hvm hw hB1 hz1 hk1 hS => ?_)
  obtain ⟨hc, ac, he, ae, ho, ao, hP1, hD1⟩ := hB1
  rw [ht] at hP1
  obtain ⟨hP, hD⟩ := c_join hP hD hk1 hFc hP1 hD1
  refine W.eq (g2 := F0 m 13 ls [.ref q, .ref (Q 3)]) rfl ?_
  refine va_put (D := gD G) (ci := 6) (v := .ref q) (ty := tyX5 4) (C := RX5) (T := TX5) (N := 14) hx hb hts wKin_X5 tyX5 tyX5_ok nmX5 hown hK hP hD hS 3 rfl rfl 4 (by decide) (hts _ wka54) (fun _ h9 => h9) rfl (tyX5_ok 4 (by decide)) rfl rfl (Nat.le_of_ble_eq_true rfl) dX5_handOver_13 (fun H locs hP hD hS => ?_)
  obtain ⟨hP, hD⟩ := ho_idx (q := q) (hc := hc) (ac := ac) (he := he) (ae := ae) (ho := ho) (ao := ao) hP hD
  refine lv_aload_n hx hb dX5_handOver_16 rfl (lv_at hl 0 rfl) ?_
  refine W.widen (k := 7) (n := 352) (Nat.le_of_ble_eq_true rfl) (Nat.le_of_ble_eq_true rfl) ?_
  exact W.aret (v := .ref (Q 10)) hx hb hr (Or.inl ⟨_, rfl⟩) (Or.inr ⟨_, rfl⟩) (fun t ht hW => ⟨⟨(), _, rfl, trivial, rfl, q, hc, ac, he, ae, ho, ao, by rw [ht]; exact hP, hD⟩, hS.F ht⟩) hS.2.2 dX5_handOver_17
end
section
theorem tl_at {T0 T : va_W} {j : Nat} {x : Nat × va_E} (h : T[j]? = some x) : (T0 ++ T)[T0.length + j]? = some x := by
  rw [List.getElem?_append_right (Nat.le_add_right _ _), Nat.add_sub_cancel_left]
  exact h
theorem lawAt.pre {G : gG} {T : va_W} {la : Nat} {lq : Nat → Nat} {L : MS} (T0 : va_W) (h : lawAt G T la lq L) : lawAt G (T0 ++ T) la lq L := by
  obtain ⟨j, h0, h1, h2, h3, h4, h5, h6⟩ := h
  exact ⟨fun k => T0.length + j k, tl_at h0, tl_at h1, tl_at h2, tl_at h3, tl_at h4, tl_at h5, tl_at h6⟩
/-- where the old draft's lists lie after handOver -/
def dlq (Q : Nat → Nat) (k : Nat) : Nat := if k = 0 then Q 34 else if k = 1 then Q 36 else if k = 2 then Q 38 else if k = 3 then Q 35 else if k = 4 then Q 37 else Q 39
/-- the draft's laws -/
def dL (u : MS) : MS := (fun j => u.1 (20 + j), fun a => u.2 (8 + a))
def djx (k : Nat) : Nat := if k = 0 then 0 else if k = 1 then 1 else if k = 4 then 2 else if k = 2 then 3 else if k = 5 then 4 else if k = 3 then 5 else 6
theorem opk_law (G : gG) (Q : Nat → Nat) (D : Nat × Nat) (u : MS) (T : va_W) : lawAt G (opk G Q D u ++ T) (Q 10) (dlq Q) (dL u) :=
  ⟨djx, rfl, rfl, rfl, rfl, rfl, rfl, rfl⟩
theorem toldAt.pre {G : gG} {g : ClassId} {T : va_W} {Q Q2 : Nat → Nat} {P : Nat × (Nat → Nat) × MS} {LW : List (Nat × (Nat → Nat) × MS)} (T0 : va_W) (e13 : Q2 13 = Q 13) (e14 : Q2 14 = Q 14) (h : toldAt G g T Q P LW) : toldAt G g (T0 ++ T) Q2 P LW := by
  obtain ⟨hP, hl, hL, hn, j, mc, ta, hj, hr⟩ := h
  refine ⟨hP.trans e14.symm, hl.pre T0, fun i x hx => (hL i x hx).pre T0, hn, T0.length + j, mc, ta, ?_, ?_⟩
  · rw [e13]; exact tl_at hj
  · rcases hr with hr | ⟨j2, t, cap, f, h1, h2, h3, h4, h5⟩
    · exact Or.inl hr
    · exact Or.inr ⟨T0.length + j2, t, cap, f, h1, tl_at h2, h3, h4, h5⟩
/-- what was told stays told over handOver -/
theorem toldAt.handed {G : gG} {g : ClassId} {T : va_W} {Q : Nat → Nat} {P : Nat × (Nat → Nat) × MS} {LW : List (Nat × (Nat → Nat) × MS)} {D : Nat × Nat} {u : MS} (q hc ac he ae ho ao : Nat) (h : toldAt G g T Q P LW) : toldAt G g (opk G Q D u ++ T) (Qn Q q hc ac he ae ho ao) P LW := h.pre _ rfl rfl
end
section
theorem dJx4a65c_set_bcc79_0 : decode cJx4a65c_set_bcc79 0 = .ok (.iload_n 1, 1) := by decide +kernel
theorem dJx4a65c_set_bcc79_1 : decode cJx4a65c_set_bcc79 1 = .ok (.aload_n 0, 1) := by decide +kernel
theorem dJx4a65c_set_bcc79_2 : decode cJx4a65c_set_bcc79 2 = .ok (.getfield 48, 3) := by decide +kernel
theorem dJx4a65c_set_bcc79_5 : decode cJx4a65c_set_bcc79 5 = .ok (.invokestatic 118, 3) := by decide +kernel
theorem dJx4a65c_set_bcc79_8 : decode cJx4a65c_set_bcc79 8 = .ok (.pop, 1) := by decide +kernel
theorem dJx4a65c_set_bcc79_9 : decode cJx4a65c_set_bcc79 9 = .ok (.aload_n 0, 1) := by decide +kernel
theorem dJx4a65c_set_bcc79_10 : decode cJx4a65c_set_bcc79 10 = .ok (.iload_n 1, 1) := by decide +kernel
theorem dJx4a65c_set_bcc79_11 : decode cJx4a65c_set_bcc79 11 = .ok (.invokevirtual 123, 3) := by decide +kernel
theorem dJx4a65c_set_bcc79_14 : decode cJx4a65c_set_bcc79 14 = .ok (.astore_n 3, 1) := by decide +kernel
theorem dJx4a65c_set_bcc79_15 : decode cJx4a65c_set_bcc79 15 = .ok (.aload_n 0, 1) := by decide +kernel
theorem dJx4a65c_set_bcc79_16 : decode cJx4a65c_set_bcc79 16 = .ok (.getfield 9, 3) := by decide +kernel
theorem dJx4a65c_set_bcc79_19 : decode cJx4a65c_set_bcc79 19 = .ok (.iload_n 1, 1) := by decide +kernel
theorem dJx4a65c_set_bcc79_20 : decode cJx4a65c_set_bcc79 20 = .ok (.aload_n 2, 1) := by decide +kernel
theorem dJx4a65c_set_bcc79_21 : decode cJx4a65c_set_bcc79 21 = .ok (.aastore, 1) := by decide +kernel
theorem dJx4a65c_set_bcc79_22 : decode cJx4a65c_set_bcc79 22 = .ok (.aload_n 3, 1) := by decide +kernel
theorem dJx4a65c_set_bcc79_23 : decode cJx4a65c_set_bcc79 23 = .ok (.areturn, 1) := by decide +kernel
theorem kSJx4a65c_set_bcc79 : yJx4a65c_set_bcc79.cls ≠ "java/lang/invoke/MethodHandle" ∧ yJx4a65c_set_bcc79.cls ≠ "java/lang/invoke/VarHandle" ∧ (parseMethodDescriptor yJx4a65c_set_bcc79.desc).map (fun d => d.parameters.length) = some 2 := by decide +kernel
theorem kVJx4a65c_set_bcc79 : yJx4a65c_set_bcc79.cls = RJx4a65c ∧ yJx4a65c_set_bcc79.cls ≠ "java/lang/invoke/MethodHandle" ∧ yJx4a65c_set_bcc79.cls ≠ "java/lang/invoke/VarHandle" ∧ (parseMethodDescriptor yJx4a65c_set_bcc79.desc).map (fun d => d.parameters.length) = some 2 := ⟨rfl, kSJx4a65c_set_bcc79⟩
def wSa : List Cond := [.instanceMethod yJx4a65c_set_bcc79, .selects RJx4a65c yJx4a65c_set_bcc79 yJx4a65c_set_bcc79, .code yJx4a65c_set_bcc79 cJx4a65c_set_bcc79 4 (some (.object "java/lang/Object"))]
def wS : List Cond := wSa ++ wL
theorem gd_wS : ∀ w ∈ wS, Gd w := List.forall_mem_append.mpr ⟨gdl wSa (by decide +kernel), gd_wL⟩
theorem in_wS : ∀ w ∈ wS, w ∈ lw_tbl := List.forall_mem_append.mpr ⟨inT2 wSa [(3, 239), (4, 0), (4, 1)] (by decide +kernel), in_wL⟩
theorem wLS : ∀ w ∈ wL, w ∈ wS := fun _ h => List.mem_append_right _ h
theorem wst0 : Cond.instanceMethod yJx4a65c_set_bcc79 ∈ wS := List.mem_append_left _ (List.mem_of_getElem? (i := 0) rfl)
theorem wst1 : Cond.selects RJx4a65c yJx4a65c_set_bcc79 yJx4a65c_set_bcc79 ∈ wS := List.mem_append_left _ (List.mem_of_getElem? (i := 1) rfl)
theorem wst2 : Cond.code yJx4a65c_set_bcc79 cJx4a65c_set_bcc79 4 (some (.object "java/lang/Object")) ∈ wS := List.mem_append_left _ (List.mem_of_getElem? (i := 2) rfl)
def aPS (G : gG) (Z : gM) (g : ClassId) (ws : va_W) (sz : Nat) (U : State) : Prop := U.heap.size = sz ∧ va_P (gD G) vwCl ws U.heap ∧ KB G U ∧ va_D (fun _ => True) ws ∧ sE Z (va_A ws sz) U U.heap ∧ kO g U ∧ va_Nw (.castable RX4 "java/lang/Object") U
theorem aPS.blind {G : gG} {Z : gM} {g : ClassId} {ws : va_W} {sz : Nat} {av : List Value} : FrameBlind (va_Pc av (aPS G Z g ws sz)) := fun _ U f mk q => ⟨q.1, q.2.1, q.2.2.1, q.2.2.2.1.calling f mk _, q.2.2.2.2.1, q.2.2.2.2.2.1.calling f mk _, kO.moved (u := U) (Vm.Alike.refl U.vm) q.2.2.2.2.2.2.1, va_Nw.same (u := U) rfl rfl q.2.2.2.2.2.2.2⟩
set_option maxHeartbeats 1000000 in
theorem a_set (l : Launch) (G : gG) (Z : gM) (g : ClassId) (h0 ta cap a v : Nat) (vs : List Value) (mc n i : Int32) (f : Nat → Option Nat) (sz : Nat) (h0i : ¬ i < 0) (h1i : i < n) (hi : vp_in i cap) (hf : f i.toNatClampNeg = some a) : Met l yJx4a65c_set_bcc79 (Cond.code yJx4a65c_set_bcc79 cJx4a65c_set_bcc79 4 (some (.object "java/lang/Object")) :: wS) { frames := 2, cells := 0, slots := 0, locals := 43 } (va_Pc [.ref h0, .int i, .ref v] (aPS G Z g [(h0, .inr (0, [.int mc, .ref ta, .int n])), (ta, .inl (g, cap, .inr (.inr (.inr (.inr f))))), (v, .inr (5, vs))] sz)) (va_Qr (fun _ : Unit => True) (fun (_ : Unit) (a1 : Nat) (t : State) => a1 = a ∧ va_P (gD G) vwCl [(h0, .inr (0, [.int mc, .ref ta, .int n])), (ta, .inl (g, cap, .inr (.inr (.inr (.inr (va_up f i.toNatClampNeg (some v))))))), (v, .inr (5, vs))] t.heap ∧ va_D (va_A [(h0, .inr (0, [.int mc, .ref ta, .int n])), (ta, .inl (g, cap, .inr (.inr (.inr (.inr f))))), (v, .inr (5, vs))] sz) [(h0, .inr (0, [.int mc, .ref ta, .int n])), (ta, .inl (g, cap, .inr (.inr (.inr (.inr (va_up f i.toNatClampNeg (some v))))))), (v, .inr (5, vs))]) (va_A [(h0, .inr (0, [.int mc, .ref ta, .int n])), (ta, .inl (g, cap, .inr (.inr (.inr (.inr f))))), (v, .inr (5, vs))] sz)) 0 0 (va_A [(h0, .inr (0, [.int mc, .ref ta, .int n])), (ta, .inl (g, cap, .inr (.inr (.inr (.inr f))))), (v, .inr (5, vs))] sz) := by
  refine Met.ofW (cc := cJx4a65c_set_bcc79) (maxL := 4) (ret := (some (.object "java/lang/Object"))) (by decide) rfl ?_
  intro p e s m args below meth c s₁ B hml hv
  obtain ⟨rfl, rfl, hP, hB, hD0, hE, hO, hca⟩ := hv
  have hx := B.exec
  have hb := B.bytes
  have hr := B.returns
  have hlocks := B.notSynchronized
  have hts0 := atoms_spec (ws := Cond.code yJx4a65c_set_bcc79 cJx4a65c_set_bcc79 4 (some (.object "java/lang/Object")) :: wS) B.pre
  have htsS : ∀ w ∈ wS, w.before _ s = true := fun w h => hts0 w (List.mem_cons_of_mem _ h)
  have hts : ∀ w ∈ wL, w.before _ s = true := fun w h => htsS w (wLS w h)
  have hown : s.vm.findClass RJx4a65c = some m.cls := findClass_of_methodNamed B.named
  have hK := hB.1
  have hD := hD0.self (sz := s.heap.size)
  generalize va_A [(h0, .inr (0, [.int mc, .ref ta, .int n])), (ta, .inl (g, cap, .inr (.inr (.inr (.inr f))))), (v, .inr (5, vs))] s.heap.size = A at hD hE ⊢
  have hS : va_S A s.heap s.heap [] := va_S.rf
  have hl := lv_entry ([.ref h0, .int i, .ref v]) (n := 4) (Nat.le_of_ble_eq_true rfl)
  rw [lg_entry_eq]
  generalize (lg_sl ([.ref h0, .int i, .ref v]) ++ List.replicate (4 - (lg_sl ([.ref h0, .int i, .ref v])).length) Slot.unset).toArray = ls at hl ⊢
  have hl : lv_has ls 4 [(0, .ref h0), (1, .int i), (2, .ref v)] := hl
  have hP2 : va_P (gD G) vwCl [(h0, .inr (0, [.int mc, .ref ta, .int n])), (ta, .inl (g, cap, .inr (.inr (.inr (.inr f)))))] s.heap := fun k q hk => match k, hk with | 0, hk => hP 0 q hk | 1, hk => hP 1 q hk
  refine lv_iload_n hx hb dJx4a65c_set_bcc79_0 rfl (lv_at hl 1 rfl) ?_
  refine lv_aload_n hx hb dJx4a65c_set_bcc79_1 rfl (lv_at hl 0 rfl) ?_
  refine va_get (D := gD G) (ci := 0) (v := .int n) (C := RJx4a65c) (T := TJx4a65c) (N := 3) hx hb hts wLin hown hK hP 0 rfl rfl 2 (by decide) (hts _ (wl0)) (fun _ h9 => h9) rfl dJx4a65c_set_bcc79_2 ?_
  refine vp_callSi (va_Run.run (va_runS (As := [.int i, .int n]) (rest := []) ⟨hx, hb, hml, hown, hts⟩ (a_chk l G Z g A i n h0i h1i) (va_cwS 2 hts (gdS (wl2) (wl3) (wl4) (alL _ _ _ _ (wl5))) rfl rfl rfl kSJ15_checkIndex_7cf53 ⟨Nat.le_of_ble_eq_true rfl, Nat.le_of_ble_eq_true rfl⟩) ⟨aP.blind, fun U hU hW => ⟨rfl, (fun k q hk => by cases hk), hB.moved hW, by rw [hU]; exact hE.moved hW, hO.moved hW.alike⟩⟩ rfl rfl hl.1 rfl (lv_room (Nat.le_of_ble_eq_true rfl)) dJx4a65c_set_bcc79_5 ⟨Nat.zero_le _, Nat.zero_le _⟩)) (fun x hx9 => ?_)
  refine lv_pop hx hb dJx4a65c_set_bcc79_8 rfl ?_
  refine lv_aload_n hx hb dJx4a65c_set_bcc79_9 rfl (lv_at hl 0 rfl) ?_
  refine lv_iload_n hx hb dJx4a65c_set_bcc79_10 rfl (lv_at hl 1 rfl) ?_
  refine va_csr (va_Run.run (va_runV (As := [.int i]) (rest := []) (C := RJx4a65c) ⟨hx, hb, hml, hown, hts⟩ (a_elem l G Z g A h0 ta cap a mc n i f hi hf) (cwV 1 hts (gdV (wl9) (wl10) (wl11) (wl13) (alL _ _ _ _ (wl12))) rfl rfl rfl kVJx4a65c_elementData_915e3 ⟨Nat.le_of_ble_eq_true rfl, Nat.le_of_ble_eq_true rfl⟩) ⟨aP.blind, va_recv hB.1 hP2 (ci := 0) (q0 := 0) rfl rfl, fun U hU hW => ⟨rfl, by rw [hU]; exact hP2, hB.moved hW, by rw [hU]; exact hE.moved hW, hO.moved hW.alike⟩⟩ rfl rfl hl.1 rfl (lv_room (Nat.le_of_ble_eq_true rfl)) dJx4a65c_set_bcc79_11 ⟨Nat.zero_le _, Nat.zero_le _⟩)) (fun _ _ => ?_)
  refine lv_astore_n (lv' := [(3, .ref a), (0, .ref h0), (1, .int i), (2, .ref v)]) hx hb dJx4a65c_set_bcc79_14 rfl hl (by decide) rfl (fun ls hl => ?_)
  refine lv_aload_n hx hb dJx4a65c_set_bcc79_15 rfl (lv_at hl 1 rfl) ?_
  refine va_get (D := gD G) (ci := 0) (v := .ref ta) (C := RJx4a65c) (T := TJx4a65c) (N := 3) hx hb hts wLin hown hK hP 0 rfl rfl 1 (by decide) (hts _ (wl1)) (fun _ h9 => h9) rfl dJx4a65c_set_bcc79_16 ?_
  refine lv_iload_n hx hb dJx4a65c_set_bcc79_19 rfl (lv_at hl 2 rfl) ?_
  refine lv_aload_n hx hb dJx4a65c_set_bcc79_20 rfl (lv_at hl 3 rfl) ?_
  refine va_astqO (D := gD G) hx hb (hO.K hB) hP hD hS 1 0 2 5 rfl rfl hca rfl rfl hi dJx4a65c_set_bcc79_21 (fun H locs hP hD hS => ?_)
  refine lv_aload_n hx hb dJx4a65c_set_bcc79_22 rfl (lv_at hl 0 rfl) ?_
  exact W.aret (v := .ref a) hx hb hr (Or.inl ⟨_, rfl⟩) (Or.inr ⟨_, rfl⟩) (fun t ht hW => ⟨⟨(), _, rfl, trivial, rfl, by rw [ht]; exact hP, hD⟩, hS.F ht⟩) hS.2.2 dJx4a65c_set_bcc79_23
end
section
theorem dJ8_newLength_cabcc_0 : decode cJ8_newLength_cabcc 0 = .ok (.iload_n 0, 1) := by decide +kernel
theorem dJ8_newLength_cabcc_1 : decode cJ8_newLength_cabcc 1 = .ok (.iload_n 1, 1) := by decide +kernel
theorem dJ8_newLength_cabcc_2 : decode cJ8_newLength_cabcc 2 = .ok (.iload_n 2, 1) := by decide +kernel
theorem dJ8_newLength_cabcc_3 : decode cJ8_newLength_cabcc 3 = .ok (.invokestatic 194, 3) := by decide +kernel
theorem dJ8_newLength_cabcc_6 : decode cJ8_newLength_cabcc 6 = .ok (.iadd, 1) := by decide +kernel
theorem dJ8_newLength_cabcc_7 : decode cJ8_newLength_cabcc 7 = .ok (.istore_n 3, 1) := by decide +kernel
theorem dJ8_newLength_cabcc_8 : decode cJ8_newLength_cabcc 8 = .ok (.iconst 0, 1) := by decide +kernel
theorem dJ8_newLength_cabcc_9 : decode cJ8_newLength_cabcc 9 = .ok (.iload_n 3, 1) := by decide +kernel
theorem dJ8_newLength_cabcc_10 : decode cJ8_newLength_cabcc 10 = .ok (.if_icmp .ge 11, 3) := by decide +kernel
theorem dJ8_newLength_cabcc_13 : decode cJ8_newLength_cabcc 13 = .ok (.iload_n 3, 1) := by decide +kernel
theorem dJ8_newLength_cabcc_14 : decode cJ8_newLength_cabcc 14 = .ok (.ldc 200, 2) := by decide +kernel
theorem dJ8_newLength_cabcc_16 : decode cJ8_newLength_cabcc 16 = .ok (.if_icmp .gt 5, 3) := by decide +kernel
theorem dJ8_newLength_cabcc_19 : decode cJ8_newLength_cabcc 19 = .ok (.iload_n 3, 1) := by decide +kernel
theorem dJ8_newLength_cabcc_20 : decode cJ8_newLength_cabcc 20 = .ok (.ireturn, 1) := by decide +kernel
theorem kSJ8_newLength_cabcc : yJ8_newLength_cabcc.cls ≠ "java/lang/invoke/MethodHandle" ∧ yJ8_newLength_cabcc.cls ≠ "java/lang/invoke/VarHandle" ∧ (parseMethodDescriptor yJ8_newLength_cabcc.desc).map (fun d => d.parameters.length) = some 3 := by decide +kernel
def wo_a_newlen : List Cond := [.methodLink RJ8 194 Lib.Math.max.name, .static Lib.Math.max.name, .initialized RJ9, .code Lib.Math.max.name Lib.Math.max.code 2 (some .int), .constant RJ8 200 (2147483639)]
def wq_a_newlen : List Cond := .code yJ8_newLength_cabcc cJ8_newLength_cabcc 4 (some .int) :: (wo_a_newlen ++ [])
theorem gd_a_newlen : ∀ w ∈ wq_a_newlen, Gd w := List.forall_mem_cons.mpr ⟨Or.inl rfl, List.forall_mem_append.mpr ⟨gdl wo_a_newlen (by decide +kernel), (fun _ h => absurd h List.not_mem_nil)⟩⟩
theorem in_a_newlen : ∀ w ∈ wq_a_newlen, w ∈ lw_tbl := List.forall_mem_cons.mpr ⟨List.mem_of_getElem? (i := 901) (by decide +kernel), List.forall_mem_append.mpr ⟨inT2 wo_a_newlen [(4, 29), (1, 51), (1, 4), (1, 52), (4, 30)] (by decide +kernel), (fun _ h => absurd h List.not_mem_nil)⟩⟩
theorem a_newlen (l : Launch) (a b d r : Int32) (he : a + (if b < d then d else b) = r) (h0 : ¬ r ≤ 0) (h1 : ¬ 2147483639 < r) : Met l yJ8_newLength_cabcc wq_a_newlen { frames := 1, cells := 0, slots := 0, locals := 21 } (va_Pc [.int a, .int b, .int d] (fun _ => True)) (vp_Si (fun x : Int32 => x = r)) 0 0 (fun _ => False) := by
  refine Met.ofW (cc := cJ8_newLength_cabcc) (maxL := 4) (ret := (some .int)) (by decide) rfl ?_
  intro p e s m args below meth c s₁ B hml hv
  obtain ⟨rfl, -⟩ := hv
  have hx := B.exec
  have hb := B.bytes
  have hr := B.returns
  have hlocks := B.notSynchronized
  have hts := atoms_spec (ws := wq_a_newlen) B.pre
  have hown : s.vm.findClass RJ8 = some m.cls := findClass_of_methodNamed B.named
  have hl := lv_entry ([.int a, .int b, .int d]) (n := 4) (Nat.le_of_ble_eq_true rfl)
  rw [lg_entry_eq]
  generalize (lg_sl ([.int a, .int b, .int d]) ++ List.replicate (4 - (lg_sl ([.int a, .int b, .int d])).length) Slot.unset).toArray = ls at hl ⊢
  have hl : lv_has ls 4 [(0, .int a), (1, .int b), (2, .int d)] := hl
  refine lv_iload_n hx hb dJ8_newLength_cabcc_0 rfl (lv_at hl 0 rfl) ?_
  refine lv_iload_n hx hb dJ8_newLength_cabcc_1 rfl (lv_at hl 1 rfl) ?_
  refine lv_iload_n hx hb dJ8_newLength_cabcc_2 rfl (lv_at hl 2 rfl) ?_
  refine va_mmax hx hb (hml.trans hl.1.symm) hown (hts _ (List.mem_cons_of_mem _ (List.mem_append_left _ (List.mem_of_getElem? (i := 0) rfl)))) (hts _ (List.mem_cons_of_mem _ (List.mem_append_left _ (List.mem_of_getElem? (i := 1) rfl)))) (hts _ (List.mem_cons_of_mem _ (List.mem_append_left _ (List.mem_of_getElem? (i := 2) rfl)))) (hts _ (List.mem_cons_of_mem _ (List.mem_append_left _ (List.mem_of_getElem? (i := 3) rfl)))) (Nat.le_of_ble_eq_true rfl) (Nat.le_of_ble_eq_true rfl) (Nat.zero_le _) (Nat.zero_le _) dJ8_newLength_cabcc_3 ?_
  refine lv_iadd hx hb dJ8_newLength_cabcc_6 ?_
  refine gx_ti he ?_
  refine lv_istore_n (lv' := [(3, .int r), (0, .int a), (1, .int b), (2, .int d)]) hx hb dJ8_newLength_cabcc_7 rfl hl (by decide) rfl (fun ls hl => ?_)
  refine lv_iconst (v := 0) hx hb dJ8_newLength_cabcc_8 (by decide) ?_
  refine lv_iload_n hx hb dJ8_newLength_cabcc_9 rfl (lv_at hl 0 rfl) ?_
  refine lv_icmp_ge (tgt := 21) hx hb dJ8_newLength_cabcc_10 (by decide) (fun c9 => absurd c9 h0) (fun _ => ?_)
  refine lv_iload_n hx hb dJ8_newLength_cabcc_13 rfl (lv_at hl 0 rfl) ?_
  refine lv_ldc hx hb hown (hts _ (List.mem_cons_of_mem _ (List.mem_append_left _ (List.mem_of_getElem? (i := 4) rfl)))) dJ8_newLength_cabcc_14 ?_
  refine lv_icmp_gt (tgt := 21) hx hb dJ8_newLength_cabcc_16 (by decide) (fun c9 => absurd c9 h1) (fun _ => ?_)
  refine lv_iload_n hx hb dJ8_newLength_cabcc_19 rfl (lv_at hl 0 rfl) ?_
  exact W.iret (v := r) hx hb hr (fun t ht hW => ⟨_, rfl, rfl, ht⟩) (fun q h => absurd h List.not_mem_nil) dJ8_newLength_cabcc_20
end
section
theorem dJ7_copyOf_6403c_0 : decode cJ7_copyOf_6403c 0 = .ok (.aload_n 2, 1) := by decide +kernel
theorem dJ7_copyOf_6403c_1 : decode cJ7_copyOf_6403c 1 = .ok (.ldc 110, 2) := by decide +kernel
theorem dJ7_copyOf_6403c_3 : decode cJ7_copyOf_6403c 3 = .ok (.if_acmp .ne 10, 3) := by decide +kernel
theorem dJ7_copyOf_6403c_6 : decode cJ7_copyOf_6403c 6 = .ok (.iload_n 1, 1) := by decide +kernel
theorem dJ7_copyOf_6403c_7 : decode cJ7_copyOf_6403c 7 = .ok (.anewarray 2, 3) := by decide +kernel
theorem dJ7_copyOf_6403c_10 : decode cJ7_copyOf_6403c 10 = .ok (.goto 14, 3) := by decide +kernel
theorem dJ7_copyOf_6403c_24 : decode cJ7_copyOf_6403c 24 = .ok (.astore_n 3, 1) := by decide +kernel
theorem dJ7_copyOf_6403c_25 : decode cJ7_copyOf_6403c 25 = .ok (.aload_n 0, 1) := by decide +kernel
theorem dJ7_copyOf_6403c_26 : decode cJ7_copyOf_6403c 26 = .ok (.iconst 0, 1) := by decide +kernel
theorem dJ7_copyOf_6403c_27 : decode cJ7_copyOf_6403c 27 = .ok (.aload_n 3, 1) := by decide +kernel
theorem dJ7_copyOf_6403c_28 : decode cJ7_copyOf_6403c 28 = .ok (.iconst 0, 1) := by decide +kernel
theorem dJ7_copyOf_6403c_29 : decode cJ7_copyOf_6403c 29 = .ok (.aload_n 0, 1) := by decide +kernel
theorem dJ7_copyOf_6403c_30 : decode cJ7_copyOf_6403c 30 = .ok (.arraylength, 1) := by decide +kernel
theorem dJ7_copyOf_6403c_31 : decode cJ7_copyOf_6403c 31 = .ok (.iload_n 1, 1) := by decide +kernel
theorem dJ7_copyOf_6403c_32 : decode cJ7_copyOf_6403c 32 = .ok (.invokestatic 304, 3) := by decide +kernel
theorem dJ7_copyOf_6403c_35 : decode cJ7_copyOf_6403c 35 = .ok (.invokestatic 150, 3) := by decide +kernel
theorem dJ7_copyOf_6403c_38 : decode cJ7_copyOf_6403c 38 = .ok (.aload_n 3, 1) := by decide +kernel
theorem dJ7_copyOf_6403c_39 : decode cJ7_copyOf_6403c 39 = .ok (.areturn, 1) := by decide +kernel
theorem kSJ7_copyOf_6403c : yJ7_copyOf_6403c.cls ≠ "java/lang/invoke/MethodHandle" ∧ yJ7_copyOf_6403c.cls ≠ "java/lang/invoke/VarHandle" ∧ (parseMethodDescriptor yJ7_copyOf_6403c.desc).map (fun d => d.parameters.length) = some 3 := by decide +kernel
/-- the elements are laws that lie outside A -/
def eL (f : Nat → Option Nat) (n : Nat) (A : Nat → Prop) (U : State) (H : Heap) : Prop := ∀ i y : Nat, i < n → f i = some y → ¬ A y ∧ ∃ c : Cell, H[y]? = some c ∧ c.vm.isStatics = false ∧ U.vm.findClass RX4 = some c.cls
theorem eL.moved {f : Nat → Option Nat} {n : Nat} {A : Nat → Prop} {u U : State} {H : Heap} (hvm : u.vm.Alike U.vm) (h : eL f n A u H) : eL f n A U H := fun i y hi hy => by
  obtain ⟨h1, c, h2, h3, h4⟩ := h i y hi hy
  exact ⟨h1, c, h2, h3, by rw [hvm.findClass]; exact h4⟩
theorem ky_O {D : va_G} {cl : List vw_C} {g cA : ClassId} {C : String} {s : State} (h : va_K D cl ([(g, .object C)] ++ [(cA, .object C)]) s) : cA = g := by
  obtain ⟨_, _, _, _, _, h1⟩ := (h.2 1 (cA, .object C) rfl).2
  obtain ⟨_, _, _, _, _, h2⟩ := (h.2 0 (g, .object C) rfl).2
  exact Option.some.inj (h1.symm.trans h2)
/-- what a row over Object[] leans on beside its cells -/
def oE (g : ClassId) (mi : Nat) (f : Nat → Option Nat) (n : Nat) (A : Nat → Prop) (U : State) (H : Heap) : Prop := kO g U ∧ va_Mi "[Ljava/lang/Object;" mi U ∧ va_AO "java/lang/Object" U ∧ va_Nw (.castable RX4 "java/lang/Object") U ∧ va_Dc U ∧ eL f n A U H
theorem oE.moved {g : ClassId} {mi : Nat} {f : Nat → Option Nat} {n : Nat} {A : Nat → Prop} {s U : State} {H : Heap} (hW : s.WarmedH U.vm) (h : oE g mi f n A s H) : oE g mi f n A U H := ⟨h.1.moved hW.alike, h.2.1.moved hW.alike, h.2.2.1.moved hW.alike, va_Nw.warmC hW h.2.2.2.1, h.2.2.2.2.1.moved hW.alike, h.2.2.2.2.2.moved hW.alike⟩
theorem oE.calling {g : ClassId} {mi : Nat} {f : Nat → Option Nat} {n : Nat} {A : Nat → Prop} {U : State} (j : JFrame) (mk : MethodId) (a : Array Value) (h : oE g mi f n A U U.heap) : oE g mi f n A (U.calling j mk a) (U.calling j mk a).heap := h.moved (s := U) (U := U.calling j mk a) (State.WarmedH.refl U)
def oP (G : gG) (g : ClassId) (mi : Nat) (f : Nat → Option Nat) (n : Nat) (ws : va_W) (sz : Nat) (U : State) : Prop := U.heap.size = sz ∧ va_P (gD G) vwCl ws U.heap ∧ KB G U ∧ va_D (fun _ => True) ws ∧ oE g mi f n (va_A ws sz) U U.heap
theorem oP.blind {G : gG} {g : ClassId} {mi : Nat} {f : Nat → Option Nat} {n : Nat} {ws : va_W} {sz : Nat} {av : List Value} : FrameBlind (va_Pc av (oP G g mi f n ws sz)) := fun _ U j mk q => ⟨q.1, q.2.1, q.2.2.1, q.2.2.2.1.calling j mk _, q.2.2.2.2.1, q.2.2.2.2.2.calling j mk _⟩
def wo_a_copy3 : List Cond := [.classLink RJ7 110 "[Ljava/lang/Object;", .classLink RJ7 2 "java/lang/Object", .methodLink RJ7 304 Lib.Math.min.name, .static Lib.Math.min.name, .initialized RJ9, .code Lib.Math.min.name Lib.Math.min.code 2 (some .int), .methodLink RJ7 150 arraycopyName, .static arraycopyName, .native arraycopyName, .initialized RJ10]
def wq_a_copy3 : List Cond := .code yJ7_copyOf_6403c cJ7_copyOf_6403c 4 (some (.array (.object "java/lang/Object"))) :: (wo_a_copy3 ++ [])
theorem gd_a_copy3 : ∀ w ∈ wq_a_copy3, Gd w := List.forall_mem_cons.mpr ⟨Or.inl rfl, List.forall_mem_append.mpr ⟨gdl wo_a_copy3 (by decide +kernel), (fun _ h => absurd h List.not_mem_nil)⟩⟩
theorem in_a_copy3 : ∀ w ∈ wq_a_copy3, w ∈ lw_tbl := List.forall_mem_cons.mpr ⟨List.mem_of_getElem? (i := 931) (by decide +kernel), List.forall_mem_append.mpr ⟨inT2 wo_a_copy3 [(4, 59), (4, 61), (4, 62), (4, 63), (1, 4), (4, 64), (4, 65), (4, 66), (4, 67), (1, 28)] (by decide +kernel), (fun _ h => absurd h List.not_mem_nil)⟩⟩
set_option maxHeartbeats 4000000 in
theorem a_copy3 (l : Launch) (G : gG) (g : ClassId) (mi a0 n : Nat) (f : Nat → Option Nat) (k sz : Nat) (hn : n < k) (hk : k ≤ 16777216) : Met l yJ7_copyOf_6403c wq_a_copy3 { frames := 1, cells := 1, slots := k, locals := 40 } (va_Pc [.ref a0, .int (nI k), .ref mi] (oP G g mi f n [(a0, .inl (g, n, .inr (.inr (.inr (.inr f)))))] sz)) (va_Qr (fun _ : Unit => True) (fun (_ : Unit) (q : Nat) (t : State) => va_P (gD G) vwCl [(a0, .inl (g, n, .inr (.inr (.inr (.inr f))))), (q, .inl (g, k, .inr (.inr (.inr (.inr (va_cpy f (fun _ => none) 0 0 n))))))] t.heap ∧ va_D (va_A [(a0, .inl (g, n, .inr (.inr (.inr (.inr f)))))] sz) [(a0, .inl (g, n, .inr (.inr (.inr (.inr f))))), (q, .inl (g, k, .inr (.inr (.inr (.inr (va_cpy f (fun _ => none) 0 0 n))))))]) (va_A [(a0, .inl (g, n, .inr (.inr (.inr (.inr f)))))] sz)) 1 k (va_A [(a0, .inl (g, n, .inr (.inr (.inr (.inr f)))))] sz) := by
  refine Met.ofW (cc := cJ7_copyOf_6403c) (maxL := 4) (ret := (some (.array (.object "java/lang/Object")))) (by decide) rfl ?_
  intro p e s m args below meth c s₁ B hml hv
  obtain ⟨rfl, rfl, hP, hB, hD0, hO, hMi, hAO, hca, hDc, hEl⟩ := hv
  have hx := B.exec
  have hb := B.bytes
  have hr := B.returns
  have hlocks := B.notSynchronized
  have hts := atoms_spec (ws := wq_a_copy3) B.pre
  have hown : s.vm.findClass RJ7 = some m.cls := findClass_of_methodNamed B.named
  have hK := hO.K hB
  have hD := hD0.self (sz := s.heap.size)
  have hA : ∀ q : Nat, s.heap.size ≤ q → va_A [(a0, .inl (g, n, .inr (.inr (.inr (.inr f)))))] s.heap.size q := fun q h => Or.inr h
  generalize va_A [(a0, .inl (g, n, .inr (.inr (.inr (.inr f)))))] s.heap.size = A at hD hA hEl ⊢
  have hS : va_S A s.heap s.heap [] := va_S.rf
  have hl := lv_entry ([.ref a0, .int (nI k), .ref mi]) (n := 4) (Nat.le_of_ble_eq_true rfl)
  rw [lg_entry_eq]
  generalize (lg_sl ([.ref a0, .int (nI k), .ref mi]) ++ List.replicate (4 - (lg_sl ([.ref a0, .int (nI k), .ref mi])).length) Slot.unset).toArray = ls at hl ⊢
  have hl : lv_has ls 4 [(0, .ref a0), (1, .int (nI k)), (2, .ref mi)] := hl
  refine lv_aload_n hx hb dJ7_copyOf_6403c_0 rfl (lv_at hl 2 rfl) ?_
  refine va_ldcM hx hb hown (hts _ (List.mem_cons_of_mem _ (List.mem_append_left _ (List.mem_of_getElem? (i := 0) rfl)))) hMi dJ7_copyOf_6403c_1 ?_
  refine lv_acmp_ne (rx := some mi) (ry := some mi) (tgt := 13) hx hb dJ7_copyOf_6403c_3 (by decide) (fun c9 => absurd rfl c9) (fun _ => ?_)
  refine lv_iload_n hx hb dJ7_copyOf_6403c_6 rfl (lv_at hl 1 rfl) ?_
  refine va_newq (D := gD G) (C := "java/lang/Object") (N' := k) hx hb hown (hts _ (List.mem_cons_of_mem _ (List.mem_append_left _ (List.mem_of_getElem? (i := 1) rfl)))) hAO hK hP hD hS hA (nI_pos (by omega)) (nI_clamp (by omega)) (by omega) (Nat.le_of_ble_eq_true rfl) (by show 0 + k ≤ k; omega) dJ7_copyOf_6403c_7 (fun q cA H hK9 hP hD hS => ?_)
  have e9 : cA = g := ky_O hK9
  subst e9
  refine lv_goto (tgt := 24) hx hb dJ7_copyOf_6403c_10 (by decide) ?_
  refine lv_astore_n (lv' := [(3, .ref q), (0, .ref a0), (1, .int (nI k)), (2, .ref mi)]) hx hb dJ7_copyOf_6403c_24 rfl hl (by decide) rfl (fun ls hl => ?_)
  refine lv_aload_n hx hb dJ7_copyOf_6403c_25 rfl (lv_at hl 1 rfl) ?_
  refine lv_iconst (v := 0) hx hb dJ7_copyOf_6403c_26 (by decide) ?_
  refine lv_aload_n hx hb dJ7_copyOf_6403c_27 rfl (lv_at hl 0 rfl) ?_
  refine lv_iconst (v := 0) hx hb dJ7_copyOf_6403c_28 (by decide) ?_
  refine lv_aload_n hx hb dJ7_copyOf_6403c_29 rfl (lv_at hl 1 rfl) ?_
  refine va_alen (D := gD G) (v := nI n) hx hb hK hP 0 0 rfl rfl rfl dJ7_copyOf_6403c_30 ?_
  refine lv_iload_n hx hb dJ7_copyOf_6403c_31 rfl (lv_at hl 2 rfl) ?_
  refine va_mmin hx hb (hml.trans hl.1.symm) hown (hts _ (List.mem_cons_of_mem _ (List.mem_append_left _ (List.mem_of_getElem? (i := 2) rfl)))) (hts _ (List.mem_cons_of_mem _ (List.mem_append_left _ (List.mem_of_getElem? (i := 3) rfl)))) (hts _ (List.mem_cons_of_mem _ (List.mem_append_left _ (List.mem_of_getElem? (i := 4) rfl)))) (hts _ (List.mem_cons_of_mem _ (List.mem_append_left _ (List.mem_of_getElem? (i := 5) rfl)))) (Nat.le_of_ble_eq_true rfl) (Nat.le_of_ble_eq_true rfl) (Nat.le_of_ble_eq_true rfl) (by show 0 + k ≤ k; omega) dJ7_copyOf_6403c_32 ?_
  refine gx_ti (ngr_min hn (by omega)) ?_
  obtain ⟨z0, z1, f1, f2, f3⟩ := Cond.castable_spec (va_Nw.use (A := #[]) rfl hca)
  refine va_copyq (D := gD G) (C := RX4) hx hb (hml.trans hl.1.symm) hown (hts _ (List.mem_cons_of_mem _ (List.mem_append_left _ (List.mem_of_getElem? (i := 6) rfl)))) (hts _ (List.mem_cons_of_mem _ (List.mem_append_left _ (List.mem_of_getElem? (i := 8) rfl)))) (hts _ (List.mem_cons_of_mem _ (List.mem_append_left _ (List.mem_of_getElem? (i := 7) rfl)))) (hts _ (List.mem_cons_of_mem _ (List.mem_append_left _ (List.mem_of_getElem? (i := 9) rfl)))) hK hP hD hS 0 1 0 0 (a0 := a0) (f := f) (g := fun _ => none) (n0 := n) (n1 := k) rfl rfl rfl rfl (by decide) (by decide) (nI_pos (by omega)) (by rw [nI_clamp (by omega)]; show 0 + n ≤ n; omega) (by rw [nI_clamp (by omega)]; show 0 + n ≤ k; omega) (fun i hi y hy => ?_) (fun x y hx9 hy9 => ?_) (Nat.le_of_ble_eq_true rfl) (Nat.le_of_ble_eq_true rfl) dJ7_copyOf_6403c_35 (fun H locs hP hD hS => ?_)
  · rw [nI_clamp (by omega)] at hi
    have hy : f (0 + i) = some y := hy
    rw [Nat.zero_add] at hy
    obtain ⟨g1, cell, g2, g3, g4⟩ := hEl i y hi hy
    exact ⟨cell, (hS.2.1 y (Array.getElem?_eq_some_iff.mp g2).1 g1).trans g2, g3, g4⟩
  · cases hx9.symm.trans f2
    cases hy9.symm.trans f1
    exact f3
  rw [nI_clamp (show n < 2 ^ 31 by omega)] at hP hD
  refine lv_aload_n hx hb dJ7_copyOf_6403c_38 rfl (lv_at hl 0 rfl) ?_
  refine W.widen (k := 1) (n := k) (Nat.le_of_ble_eq_true rfl) (by show 0 + k ≤ k; omega) ?_
  exact W.aret (v := .ref q) hx hb hr (Or.inr ⟨_, rfl⟩) (Or.inr ⟨_, rfl⟩) (fun t ht hW => ⟨⟨(), q, rfl, trivial, by rw [ht]; exact hP, hD⟩, hS.F ht⟩) hS.2.2 dJ7_copyOf_6403c_39
end
section
theorem dJ7_copyOf_1904c_0 : decode cJ7_copyOf_1904c 0 = .ok (.aload_n 0, 1) := by decide +kernel
theorem dJ7_copyOf_1904c_1 : decode cJ7_copyOf_1904c 1 = .ok (.iload_n 1, 1) := by decide +kernel
theorem dJ7_copyOf_1904c_2 : decode cJ7_copyOf_1904c 2 = .ok (.aload_n 0, 1) := by decide +kernel
theorem dJ7_copyOf_1904c_3 : decode cJ7_copyOf_1904c 3 = .ok (.invokevirtual 86, 3) := by decide +kernel
theorem dJ7_copyOf_1904c_6 : decode cJ7_copyOf_1904c 6 = .ok (.invokestatic 300, 3) := by decide +kernel
theorem dJ7_copyOf_1904c_9 : decode cJ7_copyOf_1904c 9 = .ok (.areturn, 1) := by decide +kernel
theorem kSJ7_copyOf_1904c : yJ7_copyOf_1904c.cls ≠ "java/lang/invoke/MethodHandle" ∧ yJ7_copyOf_1904c.cls ≠ "java/lang/invoke/VarHandle" ∧ (parseMethodDescriptor yJ7_copyOf_1904c.desc).map (fun d => d.parameters.length) = some 2 := by decide +kernel
def wo_a_copy2 : List Cond := [.methodLink RJ7 86 ⟨"java/lang/Object", "getClass" , "()Ljava/lang/Class;" ⟩, .selects "[Ljava/lang/Object;" ⟨"java/lang/Object", "getClass" , "()Ljava/lang/Class;" ⟩ ⟨"java/lang/Object", "getClass" , "()Ljava/lang/Class;" ⟩, .instanceMethod ⟨"java/lang/Object", "getClass" , "()Ljava/lang/Class;" ⟩, .native ⟨"java/lang/Object", "getClass" , "()Ljava/lang/Class;" ⟩, .methodLink RJ7 300 yJ7_copyOf_6403c, .static yJ7_copyOf_6403c, .initialized RJ7]
def wq_a_copy2 : List Cond := .code yJ7_copyOf_1904c cJ7_copyOf_1904c 2 (some (.array (.object "java/lang/Object"))) :: (wo_a_copy2 ++ (wq_a_copy3 ++ []))
theorem gd_a_copy2 : ∀ w ∈ wq_a_copy2, Gd w := List.forall_mem_cons.mpr ⟨Or.inl rfl, List.forall_mem_append.mpr ⟨gdl wo_a_copy2 (by decide +kernel), (List.forall_mem_append.mpr ⟨gd_a_copy3, (fun _ h => absurd h List.not_mem_nil)⟩)⟩⟩
theorem in_a_copy2 : ∀ w ∈ wq_a_copy2, w ∈ lw_tbl := List.forall_mem_cons.mpr ⟨List.mem_of_getElem? (i := 909) (by decide +kernel), List.forall_mem_append.mpr ⟨inT2 wo_a_copy2 [(4, 37), (10, 42), (4, 38), (4, 55), (4, 56), (4, 57), (1, 5)] (by decide +kernel), (List.forall_mem_append.mpr ⟨in_a_copy3, (fun _ h => absurd h List.not_mem_nil)⟩)⟩⟩
set_option maxHeartbeats 4000000 in
theorem a_copy2 (l : Launch) (G : gG) (g : ClassId) (mi a0 n : Nat) (f : Nat → Option Nat) (k sz : Nat) (hn : n < k) (hk : k ≤ 16777216) : Met l yJ7_copyOf_1904c wq_a_copy2 { frames := 2, cells := 1, slots := k, locals := 63 } (va_Pc [.ref a0, .int (nI k)] (oP G g mi f n [(a0, .inl (g, n, .inr (.inr (.inr (.inr f)))))] sz)) (va_Qr (fun _ : Unit => True) (fun (_ : Unit) (q : Nat) (t : State) => va_P (gD G) vwCl [(a0, .inl (g, n, .inr (.inr (.inr (.inr f))))), (q, .inl (g, k, .inr (.inr (.inr (.inr (va_cpy f (fun _ => none) 0 0 n))))))] t.heap ∧ va_D (va_A [(a0, .inl (g, n, .inr (.inr (.inr (.inr f)))))] sz) [(a0, .inl (g, n, .inr (.inr (.inr (.inr f))))), (q, .inl (g, k, .inr (.inr (.inr (.inr (va_cpy f (fun _ => none) 0 0 n))))))]) (va_A [(a0, .inl (g, n, .inr (.inr (.inr (.inr f)))))] sz)) 1 k (va_A [(a0, .inl (g, n, .inr (.inr (.inr (.inr f)))))] sz) := by
  refine Met.ofW (cc := cJ7_copyOf_1904c) (maxL := 2) (ret := (some (.array (.object "java/lang/Object")))) (by decide) rfl ?_
  intro p e s m args below meth c s₁ B hml hv
  obtain ⟨rfl, rfl, hP, hB, hD0, hO⟩ := hv
  have hx := B.exec
  have hb := B.bytes
  have hr := B.returns
  have hlocks := B.notSynchronized
  have hts := atoms_spec (ws := wq_a_copy2) B.pre
  have hown : s.vm.findClass RJ7 = some m.cls := findClass_of_methodNamed B.named
  have hS : va_S (va_A [(a0, .inl (g, n, .inr (.inr (.inr (.inr f)))))] s.heap.size) s.heap s.heap [] := va_S.rf
  have hl := lv_entry ([.ref a0, .int (nI k)]) (n := 2) (Nat.le_of_ble_eq_true rfl)
  rw [lg_entry_eq]
  generalize (lg_sl ([.ref a0, .int (nI k)]) ++ List.replicate (2 - (lg_sl ([.ref a0, .int (nI k)])).length) Slot.unset).toArray = ls at hl ⊢
  have hl : lv_has ls 2 [(0, .ref a0), (1, .int (nI k))] := hl
  refine lv_aload_n hx hb dJ7_copyOf_1904c_0 rfl (lv_at hl 0 rfl) ?_
  refine lv_iload_n hx hb dJ7_copyOf_1904c_1 rfl (lv_at hl 1 rfl) ?_
  refine lv_aload_n hx hb dJ7_copyOf_1904c_2 rfl (lv_at hl 0 rfl) ?_
  obtain ⟨_, _, _, _, _, hfc⟩ := hO.1.2
  refine va_getC (C := "[Ljava/lang/Object;") hx hb (hml.trans hl.1.symm) hown (hts _ (List.mem_cons_of_mem _ (List.mem_append_left _ (List.mem_of_getElem? (i := 0) rfl)))) (va_Dc.use hO.2.2.2.2.1) (hts _ (List.mem_cons_of_mem _ (List.mem_append_left _ (List.mem_of_getElem? (i := 1) rfl)))) (hts _ (List.mem_cons_of_mem _ (List.mem_append_left _ (List.mem_of_getElem? (i := 2) rfl)))) (hts _ (List.mem_cons_of_mem _ (List.mem_append_left _ (List.mem_of_getElem? (i := 3) rfl)))) hO.2.1 ⟨_, hP 0 _ rfl, rfl, hfc⟩ (Nat.le_of_ble_eq_true rfl) (Nat.le_of_ble_eq_true rfl) dJ7_copyOf_1904c_3 ?_
  refine va_callr (va_runS (As := [.ref a0, .int (nI k), .ref mi]) (rest := []) ⟨hx, hb, hml, hown, hts⟩ (a_copy3 l G g mi a0 n f k s.heap.size hn hk) (va_cwS 3 hts (gdS (List.mem_cons_of_mem _ (List.mem_append_left _ (List.mem_of_getElem? (i := 4) rfl))) (List.mem_cons_of_mem _ (List.mem_append_left _ (List.mem_of_getElem? (i := 5) rfl))) (List.mem_cons_of_mem _ (List.mem_append_left _ (List.mem_of_getElem? (i := 6) rfl))) (fun w9 h9 => ⟨(List.mem_cons_of_mem _ (List.mem_append_right _ (List.mem_append_left _ h9))), gd_a_copy3 w9 h9⟩)) rfl rfl rfl kSJ7_copyOf_6403c ⟨Nat.le_of_ble_eq_true rfl, Nat.le_of_ble_eq_true rfl⟩) ⟨oP.blind, fun U hU hW => ⟨rfl, by rw [hU], by rw [hU]; exact hP, hB.moved hW, hD0, by rw [hU]; exact hO.moved hW⟩⟩ rfl rfl hl.1 rfl (lv_room (Nat.le_of_ble_eq_true rfl)) dJ7_copyOf_1904c_6 ⟨Nat.le_of_ble_eq_true rfl, by show 0 + k ≤ k; omega⟩) hS (fun z _ h => h) (fun z h => h) (fun u2 q t H1 locs ht hvm hw hB1 hz1 hk1 hS => ?_)
  obtain ⟨hP1, hD1⟩ := hB1
  rw [ht] at hP1
  refine W.eq (g2 := F0 m 9 ls [.ref q]) rfl ?_
  refine W.widen (k := 1) (n := k) (Nat.le_of_ble_eq_true rfl) (by show 0 + k ≤ k; omega) ?_
  exact W.aret (v := .ref q) hx hb hr (Or.inr ⟨_, rfl⟩) (Or.inr ⟨_, rfl⟩) (fun t ht hW => ⟨⟨(), q, rfl, trivial, by rw [ht]; exact hP1, hD1⟩, hS.F ht⟩) hS.2.2 dJ7_copyOf_1904c_9
end
section
theorem dJx4a65c_grow_92f84_0 : decode cJx4a65c_grow_92f84 0 = .ok (.aload_n 0, 1) := by decide +kernel
theorem dJx4a65c_grow_92f84_1 : decode cJx4a65c_grow_92f84 1 = .ok (.getfield 9, 3) := by decide +kernel
theorem dJx4a65c_grow_92f84_4 : decode cJx4a65c_grow_92f84 4 = .ok (.arraylength, 1) := by decide +kernel
theorem dJx4a65c_grow_92f84_5 : decode cJx4a65c_grow_92f84 5 = .ok (.istore_n 2, 1) := by decide +kernel
theorem dJx4a65c_grow_92f84_6 : decode cJx4a65c_grow_92f84 6 = .ok (.iload_n 2, 1) := by decide +kernel
theorem dJx4a65c_grow_92f84_7 : decode cJx4a65c_grow_92f84 7 = .ok (.ifCond .gt 13, 3) := by decide +kernel
theorem dJx4a65c_grow_92f84_10 : decode cJx4a65c_grow_92f84 10 = .ok (.aload_n 0, 1) := by decide +kernel
theorem dJx4a65c_grow_92f84_11 : decode cJx4a65c_grow_92f84 11 = .ok (.getfield 9, 3) := by decide +kernel
theorem dJx4a65c_grow_92f84_14 : decode cJx4a65c_grow_92f84 14 = .ok (.getstatic 39, 3) := by decide +kernel
theorem dJx4a65c_grow_92f84_17 : decode cJx4a65c_grow_92f84 17 = .ok (.if_acmp .eq 28, 3) := by decide +kernel
theorem dJx4a65c_grow_92f84_20 : decode cJx4a65c_grow_92f84 20 = .ok (.iload_n 2, 1) := by decide +kernel
theorem dJx4a65c_grow_92f84_21 : decode cJx4a65c_grow_92f84 21 = .ok (.iload_n 1, 1) := by decide +kernel
theorem dJx4a65c_grow_92f84_22 : decode cJx4a65c_grow_92f84 22 = .ok (.iload_n 2, 1) := by decide +kernel
theorem dJx4a65c_grow_92f84_23 : decode cJx4a65c_grow_92f84 23 = .ok (.isub, 1) := by decide +kernel
theorem dJx4a65c_grow_92f84_24 : decode cJx4a65c_grow_92f84 24 = .ok (.iload_n 2, 1) := by decide +kernel
theorem dJx4a65c_grow_92f84_25 : decode cJx4a65c_grow_92f84 25 = .ok (.iconst 1, 1) := by decide +kernel
theorem dJx4a65c_grow_92f84_26 : decode cJx4a65c_grow_92f84 26 = .ok (.ishr, 1) := by decide +kernel
theorem dJx4a65c_grow_92f84_27 : decode cJx4a65c_grow_92f84 27 = .ok (.invokestatic 73, 3) := by decide +kernel
theorem dJx4a65c_grow_92f84_30 : decode cJx4a65c_grow_92f84 30 = .ok (.istore_n 3, 1) := by decide +kernel
theorem dJx4a65c_grow_92f84_31 : decode cJx4a65c_grow_92f84 31 = .ok (.aload_n 0, 1) := by decide +kernel
theorem dJx4a65c_grow_92f84_32 : decode cJx4a65c_grow_92f84 32 = .ok (.aload_n 0, 1) := by decide +kernel
theorem dJx4a65c_grow_92f84_33 : decode cJx4a65c_grow_92f84 33 = .ok (.getfield 9, 3) := by decide +kernel
theorem dJx4a65c_grow_92f84_36 : decode cJx4a65c_grow_92f84 36 = .ok (.iload_n 3, 1) := by decide +kernel
theorem dJx4a65c_grow_92f84_37 : decode cJx4a65c_grow_92f84 37 = .ok (.invokestatic 66, 3) := by decide +kernel
theorem dJx4a65c_grow_92f84_40 : decode cJx4a65c_grow_92f84 40 = .ok (.dup_x1, 1) := by decide +kernel
theorem dJx4a65c_grow_92f84_41 : decode cJx4a65c_grow_92f84 41 = .ok (.putfield 9, 3) := by decide +kernel
theorem dJx4a65c_grow_92f84_44 : decode cJx4a65c_grow_92f84 44 = .ok (.areturn, 1) := by decide +kernel
theorem dJx4a65c_grow_92f84_45 : decode cJx4a65c_grow_92f84 45 = .ok (.aload_n 0, 1) := by decide +kernel
theorem dJx4a65c_grow_92f84_46 : decode cJx4a65c_grow_92f84 46 = .ok (.bipush 10, 2) := by decide +kernel
theorem dJx4a65c_grow_92f84_48 : decode cJx4a65c_grow_92f84 48 = .ok (.iload_n 1, 1) := by decide +kernel
theorem dJx4a65c_grow_92f84_49 : decode cJx4a65c_grow_92f84 49 = .ok (.invokestatic 79, 3) := by decide +kernel
theorem dJx4a65c_grow_92f84_52 : decode cJx4a65c_grow_92f84 52 = .ok (.anewarray 7, 3) := by decide +kernel
theorem dJx4a65c_grow_92f84_55 : decode cJx4a65c_grow_92f84 55 = .ok (.dup_x1, 1) := by decide +kernel
theorem dJx4a65c_grow_92f84_56 : decode cJx4a65c_grow_92f84 56 = .ok (.putfield 9, 3) := by decide +kernel
theorem dJx4a65c_grow_92f84_59 : decode cJx4a65c_grow_92f84 59 = .ok (.areturn, 1) := by decide +kernel
theorem kSJx4a65c_grow_92f84 : yJx4a65c_grow_92f84.cls ≠ "java/lang/invoke/MethodHandle" ∧ yJx4a65c_grow_92f84.cls ≠ "java/lang/invoke/VarHandle" ∧ (parseMethodDescriptor yJx4a65c_grow_92f84.desc).map (fun d => d.parameters.length) = some 1 := by decide +kernel
theorem kVJx4a65c_grow_92f84 : yJx4a65c_grow_92f84.cls = RJx4a65c ∧ yJx4a65c_grow_92f84.cls ≠ "java/lang/invoke/MethodHandle" ∧ yJx4a65c_grow_92f84.cls ≠ "java/lang/invoke/VarHandle" ∧ (parseMethodDescriptor yJx4a65c_grow_92f84.desc).map (fun d => d.parameters.length) = some 1 := ⟨rfl, kSJx4a65c_grow_92f84⟩
theorem oE.narrow {g : ClassId} {mi : Nat} {f : Nat → Option Nat} {n : Nat} {A B : Nat → Prop} {U : State} {H : Heap} (h : oE g mi f n A U H) (hAB : ∀ q : Nat, q < H.size → B q → A q) : oE g mi f n B U H := ⟨h.1, h.2.1, h.2.2.1, h.2.2.2.1, h.2.2.2.2.1, fun i y hi hy => by
  obtain ⟨h1, c, h2, h3⟩ := h.2.2.2.2.2 i y hi hy
  exact ⟨fun z => h1 (hAB y (Array.getElem?_eq_some_iff.mp h2).1 z), c, h2, h3⟩⟩
def wo_a_growN : List Cond := [.fieldLink RJx4a65c 9 "java/util/ArrayList" "elementData" "[Ljava/lang/Object;", .methodLink RJx4a65c 73 yJ8_newLength_cabcc, .static yJ8_newLength_cabcc, .initialized RJ8, .methodLink RJx4a65c 66 yJ7_copyOf_1904c, .static yJ7_copyOf_1904c, .initialized RJ7]
def wq_a_growN : List Cond := .code yJx4a65c_grow_92f84 cJx4a65c_grow_92f84 4 (some (.array (.object "java/lang/Object"))) :: (wo_a_growN ++ (wq_a_newlen ++ (wq_a_copy2 ++ (wsJx4a65c0 ++ []))))
theorem gd_a_growN : ∀ w ∈ wq_a_growN, Gd w := List.forall_mem_cons.mpr ⟨Or.inl rfl, List.forall_mem_append.mpr ⟨gdl wo_a_growN (by decide +kernel), (List.forall_mem_append.mpr ⟨gd_a_newlen, (List.forall_mem_append.mpr ⟨gd_a_copy2, (List.forall_mem_append.mpr ⟨gd_wsJx4a65c0, (fun _ h => absurd h List.not_mem_nil)⟩)⟩)⟩)⟩⟩
theorem in_a_growN : ∀ w ∈ wq_a_growN, w ∈ lw_tbl := List.forall_mem_cons.mpr ⟨List.mem_of_getElem? (i := 898) (by decide +kernel), List.forall_mem_append.mpr ⟨inT2 wo_a_growN [(2, 150), (4, 26), (4, 27), (1, 27), (4, 34), (4, 35), (1, 5)] (by decide +kernel), (List.forall_mem_append.mpr ⟨in_a_newlen, (List.forall_mem_append.mpr ⟨in_a_copy2, (List.forall_mem_append.mpr ⟨in_wsJx4a65c0, (fun _ h => absurd h List.not_mem_nil)⟩)⟩)⟩)⟩⟩
set_option maxHeartbeats 4000000 in
theorem a_growN (l : Launch) (G : gG) (g : ClassId) (mi h0 ta cap : Nat) (mc n : Int32) (f : Nat → Option Nat) (k sz : Nat) (hc : 0 < cap) (hck : cap < k) (hk : k ≤ 16777216) (he : nI cap + (if (1 : Int32) < nI cap >>> (1 &&& 31) then nI cap >>> (1 &&& 31) else 1) = nI k) : Met l yJx4a65c_grow_92f84 wq_a_growN { frames := 3, cells := 1, slots := k, locals := 84 } (va_Pc [.ref h0, .int (nI (cap + 1))] (oP G g mi f cap [(h0, .inr (0, [.int mc, .ref ta, .int n])), (ta, .inl (g, cap, .inr (.inr (.inr (.inr f)))))] sz)) (va_Qr (fun _ : Unit => True) (fun (_ : Unit) (q : Nat) (t : State) => va_P (gD G) vwCl [(h0, .inr (0, [.int mc, .ref q, .int n])), (q, .inl (g, k, .inr (.inr (.inr (.inr (va_cpy f (fun _ => none) 0 0 cap))))))] t.heap ∧ va_D (va_A [(h0, .inr (0, [.int mc, .ref ta, .int n])), (ta, .inl (g, cap, .inr (.inr (.inr (.inr f)))))] sz) [(h0, .inr (0, [.int mc, .ref q, .int n])), (q, .inl (g, k, .inr (.inr (.inr (.inr (va_cpy f (fun _ => none) 0 0 cap))))))]) (va_A [(h0, .inr (0, [.int mc, .ref ta, .int n])), (ta, .inl (g, cap, .inr (.inr (.inr (.inr f)))))] sz)) 1 k (va_A [(h0, .inr (0, [.int mc, .ref ta, .int n])), (ta, .inl (g, cap, .inr (.inr (.inr (.inr f)))))] sz) := by
  refine Met.ofW (cc := cJx4a65c_grow_92f84) (maxL := 4) (ret := (some (.array (.object "java/lang/Object")))) (by decide) rfl ?_
  intro p e s m args below meth c s₁ B hml hv
  obtain ⟨rfl, rfl, hP, hB, hD0, hO⟩ := hv
  have hx := B.exec
  have hb := B.bytes
  have hr := B.returns
  have hlocks := B.notSynchronized
  have hts := atoms_spec (ws := wq_a_growN) B.pre
  have hin : ∀ w ∈ wsJx4a65c0, w ∈ wq_a_growN := fun _ h9 => (List.mem_cons_of_mem _ (List.mem_append_right _ (List.mem_append_right _ (List.mem_append_right _ (List.mem_append_left _ h9)))))
  have hown : s.vm.findClass RJx4a65c = some m.cls := findClass_of_methodNamed B.named
  have hD := hD0.self (sz := s.heap.size)
  have hA : ∀ q : Nat, s.heap.size ≤ q → va_A [(h0, .inr (0, [.int mc, .ref ta, .int n])), (ta, .inl (g, cap, .inr (.inr (.inr (.inr f)))))] s.heap.size q := fun q h => Or.inr h
  generalize va_A [(h0, .inr (0, [.int mc, .ref ta, .int n])), (ta, .inl (g, cap, .inr (.inr (.inr (.inr f)))))] s.heap.size = A at hD hA hO ⊢
  have hS : va_S A s.heap s.heap [] := va_S.rf
  have hK := hO.1.K hB
  have hl := lv_entry ([.ref h0, .int (nI (cap + 1))]) (n := 4) (Nat.le_of_ble_eq_true rfl)
  rw [lg_entry_eq]
  generalize (lg_sl ([.ref h0, .int (nI (cap + 1))]) ++ List.replicate (4 - (lg_sl ([.ref h0, .int (nI (cap + 1))])).length) Slot.unset).toArray = ls at hl ⊢
  have hl : lv_has ls 4 [(0, .ref h0), (1, .int (nI (cap + 1)))] := hl
  refine lv_aload_n hx hb dJx4a65c_grow_92f84_0 rfl (lv_at hl 0 rfl) ?_
  refine va_get (D := gD G) (ci := 0) (v := .ref ta) (C := RJx4a65c) (T := TJx4a65c) (N := 3) hx hb hts hin hown hB.1 hP 0 rfl rfl 1 (by decide) (hts _ (List.mem_cons_of_mem _ (List.mem_append_left _ (List.mem_of_getElem? (i := 0) rfl)))) (fun _ h9 => h9) rfl dJx4a65c_grow_92f84_1 ?_
  refine va_alen (D := gD G) (v := nI cap) hx hb hK hP 1 0 rfl rfl rfl dJx4a65c_grow_92f84_4 ?_
  refine lv_istore_n (lv' := [(2, .int (nI cap)), (0, .ref h0), (1, .int (nI (cap + 1)))]) hx hb dJx4a65c_grow_92f84_5 rfl hl (by decide) rfl (fun ls hl => ?_)
  refine lv_iload_n hx hb dJx4a65c_grow_92f84_6 rfl (lv_at hl 0 rfl) ?_
  refine lv_if_gt (tgt := 20) hx hb dJx4a65c_grow_92f84_7 (by decide) (fun _ => ?_) (fun c9 => absurd (nI_lt (show 0 < cap from hc) (by omega)) c9)
  refine lv_iload_n hx hb dJx4a65c_grow_92f84_20 rfl (lv_at hl 0 rfl) ?_
  refine lv_iload_n hx hb dJx4a65c_grow_92f84_21 rfl (lv_at hl 2 rfl) ?_
  refine lv_iload_n hx hb dJx4a65c_grow_92f84_22 rfl (lv_at hl 0 rfl) ?_
  refine lv_isub hx hb dJx4a65c_grow_92f84_23 ?_
  have e1 : nI (cap + 1) - nI cap = 1 := by rw [← ngr_one cap, Int32.add_comm, Int32.add_sub_cancel]
  refine gx_ti e1 ?_
  refine lv_iload_n hx hb dJx4a65c_grow_92f84_24 rfl (lv_at hl 0 rfl) ?_
  refine lv_iconst (v := 1) hx hb dJx4a65c_grow_92f84_25 (by decide) ?_
  refine lv_ishr hx hb dJx4a65c_grow_92f84_26 ?_
  have eM : (2147483639 : Int32) = nI 2147483639 := by decide
  refine vp_callSi (va_Run.run (va_runS (As := [.int (nI cap), .int 1, .int (nI cap >>> (1 &&& 31))]) (rest := []) ⟨hx, hb, hml, hown, hts⟩ (a_newlen l (nI cap) 1 (nI cap >>> (1 &&& 31)) (nI k) he (fun z => absurd (nI_lt (show 0 < k by omega) (by omega)) (Int32.not_lt.mpr z)) (fun z => by rw [eM] at z; have := (nI_ltI (by omega) (by omega)).mp z; omega)) (va_cwS 3 hts (gdS (List.mem_cons_of_mem _ (List.mem_append_left _ (List.mem_of_getElem? (i := 1) rfl))) (List.mem_cons_of_mem _ (List.mem_append_left _ (List.mem_of_getElem? (i := 2) rfl))) (List.mem_cons_of_mem _ (List.mem_append_left _ (List.mem_of_getElem? (i := 3) rfl))) (fun w9 h9 => ⟨(List.mem_cons_of_mem _ (List.mem_append_right _ (List.mem_append_left _ h9))), gd_a_newlen w9 h9⟩)) rfl rfl rfl kSJ8_newLength_cabcc ⟨Nat.le_of_ble_eq_true rfl, Nat.le_of_ble_eq_true rfl⟩) ⟨fun _ _ _ _ q => ⟨q.1, trivial⟩, fun U hU hW => ⟨rfl, trivial⟩⟩ rfl rfl hl.1 rfl (lv_room (Nat.le_of_ble_eq_true rfl)) dJx4a65c_grow_92f84_27 ⟨Nat.zero_le _, Nat.zero_le _⟩)) (fun x hx9 => ?_)
  rw [hx9]
  refine lv_istore_n (lv' := [(3, .int (nI k)), (2, .int (nI cap)), (0, .ref h0), (1, .int (nI (cap + 1)))]) hx hb dJx4a65c_grow_92f84_30 rfl hl (by decide) rfl (fun ls hl => ?_)
  refine lv_aload_n hx hb dJx4a65c_grow_92f84_31 rfl (lv_at hl 2 rfl) ?_
  refine lv_aload_n hx hb dJx4a65c_grow_92f84_32 rfl (lv_at hl 2 rfl) ?_
  refine va_get (D := gD G) (ci := 0) (v := .ref ta) (C := RJx4a65c) (T := TJx4a65c) (N := 3) hx hb hts hin hown hB.1 hP 0 rfl rfl 1 (by decide) (hts _ (List.mem_cons_of_mem _ (List.mem_append_left _ (List.mem_of_getElem? (i := 0) rfl)))) (fun _ h9 => h9) rfl dJx4a65c_grow_92f84_33 ?_
  refine lv_iload_n hx hb dJx4a65c_grow_92f84_36 rfl (lv_at hl 0 rfl) ?_
  have hPc := hP.sub (ws' := [(ta, .inl (g, cap, .inr (.inr (.inr (.inr f)))))]) [1] rfl
  have hDc := hD.sub (ws' := [(ta, .inl (g, cap, .inr (.inr (.inr (.inr f)))))]) [1] (by decide) rfl
  have hFc := va_free (wc := [(ta, .inl (g, cap, .inr (.inr (.inr (.inr f)))))]) hD hS hA [1] rfl
  refine va_callr (va_runS (As := [.ref ta, .int (nI k)]) (rest := [.ref h0]) ⟨hx, hb, hml, hown, hts⟩ (a_copy2 l G g mi ta cap f k s.heap.size hck hk) (va_cwS 2 hts (gdS (List.mem_cons_of_mem _ (List.mem_append_left _ (List.mem_of_getElem? (i := 4) rfl))) (List.mem_cons_of_mem _ (List.mem_append_left _ (List.mem_of_getElem? (i := 5) rfl))) (List.mem_cons_of_mem _ (List.mem_append_left _ (List.mem_of_getElem? (i := 6) rfl))) (fun w9 h9 => ⟨(List.mem_cons_of_mem _ (List.mem_append_right _ (List.mem_append_right _ (List.mem_append_left _ h9)))), gd_a_copy2 w9 h9⟩)) rfl rfl rfl kSJ7_copyOf_1904c ⟨Nat.le_of_ble_eq_true rfl, Nat.le_of_ble_eq_true rfl⟩) ⟨oP.blind, fun U hU hW => ⟨rfl, by rw [hU], by rw [hU]; exact hPc, hB.moved hW, hDc.weaken (fun _ _ _ _ => trivial), by rw [hU]; exact (hO.narrow (fun q _ h => hFc q h)).moved hW⟩⟩ rfl rfl hl.1 rfl (lv_room (Nat.le_of_ble_eq_true rfl)) dJx4a65c_grow_92f84_37 ⟨Nat.le_of_ble_eq_true rfl, by show 0 + k ≤ k; omega⟩) hS (fun q _ h => hFc q h) hFc (fun u q t H1 locs ht hvm hw hB1 hz1 hk1 hS => ?_)
  obtain ⟨hP1, hD1⟩ := hB1
  rw [ht] at hP1
  obtain ⟨hP, hD⟩ := va_join (wr := [(h0, .inr (0, [.int mc, .ref ta, .int n]))]) (w1 := [(ta, .inl (g, cap, .inr (.inr (.inr (.inr f))))), (q, .inl (g, k, .inr (.inr (.inr (.inr (va_cpy f (fun _ => none) 0 0 cap))))))]) hP hD [1] [0] rfl rfl (by decide) (by decide) hk1 hFc hP1 hD1
  refine W.eq (g2 := F0 m 40 ls [.ref q, .ref h0]) rfl ?_
  refine lv_dup_x1 hx hb dJx4a65c_grow_92f84_40 rfl rfl ?_
  refine va_put (D := gD G) (ci := 0) (v := .ref q) (ty := tyJx4a65c 1) (C := RJx4a65c) (T := TJx4a65c) (N := 3) hx hb hts hin tyJx4a65c tyJx4a65c_ok nmJx4a65c hown hB.1 hP hD hS 0 rfl rfl 1 (by decide) (hts _ (List.mem_cons_of_mem _ (List.mem_append_left _ (List.mem_of_getElem? (i := 0) rfl)))) (fun _ h9 => h9) rfl (tyJx4a65c_ok 1 (by decide)) rfl rfl (Nat.le_of_ble_eq_true rfl) dJx4a65c_grow_92f84_41 (fun H locs hP hD hS => ?_)
  have hP9 := hP.sub (ws' := [(h0, .inr (0, [.int mc, .ref q, .int n])), (q, .inl (g, k, .inr (.inr (.inr (.inr (va_cpy f (fun _ => none) 0 0 cap))))))]) [0, 2] rfl
  have hD9 := hD.sub (ws' := [(h0, .inr (0, [.int mc, .ref q, .int n])), (q, .inl (g, k, .inr (.inr (.inr (.inr (va_cpy f (fun _ => none) 0 0 cap))))))]) [0, 2] (by decide) rfl
  refine W.widen (k := 1) (n := k) (Nat.le_of_ble_eq_true rfl) (by show 0 + k ≤ k; omega) ?_
  exact W.aret (v := .ref q) hx hb hr (Or.inr ⟨_, rfl⟩) (Or.inr ⟨_, rfl⟩) (fun t ht hW => ⟨⟨(), q, rfl, trivial, by rw [ht]; exact hP9, hD9⟩, hS.F ht⟩) hS.2.2 dJx4a65c_grow_92f84_44
end
section
theorem dJx4a65c_add_72be8_0 : decode cJx4a65c_add_72be8 0 = .ok (.iload_n 3, 1) := by decide +kernel
theorem dJx4a65c_add_72be8_1 : decode cJx4a65c_add_72be8 1 = .ok (.aload_n 2, 1) := by decide +kernel
theorem dJx4a65c_add_72be8_2 : decode cJx4a65c_add_72be8 2 = .ok (.arraylength, 1) := by decide +kernel
theorem dJx4a65c_add_72be8_3 : decode cJx4a65c_add_72be8 3 = .ok (.if_icmp .ne 8, 3) := by decide +kernel
theorem dJx4a65c_add_72be8_6 : decode cJx4a65c_add_72be8 6 = .ok (.aload_n 0, 1) := by decide +kernel
theorem dJx4a65c_add_72be8_7 : decode cJx4a65c_add_72be8 7 = .ok (.invokevirtual 129, 3) := by decide +kernel
theorem dJx4a65c_add_72be8_10 : decode cJx4a65c_add_72be8 10 = .ok (.astore_n 2, 1) := by decide +kernel
theorem dJx4a65c_add_72be8_11 : decode cJx4a65c_add_72be8 11 = .ok (.aload_n 2, 1) := by decide +kernel
theorem dJx4a65c_add_72be8_12 : decode cJx4a65c_add_72be8 12 = .ok (.iload_n 3, 1) := by decide +kernel
theorem dJx4a65c_add_72be8_13 : decode cJx4a65c_add_72be8 13 = .ok (.aload_n 1, 1) := by decide +kernel
theorem dJx4a65c_add_72be8_14 : decode cJx4a65c_add_72be8 14 = .ok (.aastore, 1) := by decide +kernel
theorem dJx4a65c_add_72be8_15 : decode cJx4a65c_add_72be8 15 = .ok (.aload_n 0, 1) := by decide +kernel
theorem dJx4a65c_add_72be8_16 : decode cJx4a65c_add_72be8 16 = .ok (.iload_n 3, 1) := by decide +kernel
theorem dJx4a65c_add_72be8_17 : decode cJx4a65c_add_72be8 17 = .ok (.iconst 1, 1) := by decide +kernel
theorem dJx4a65c_add_72be8_18 : decode cJx4a65c_add_72be8 18 = .ok (.iadd, 1) := by decide +kernel
theorem dJx4a65c_add_72be8_19 : decode cJx4a65c_add_72be8 19 = .ok (.putfield 48, 3) := by decide +kernel
theorem dJx4a65c_add_72be8_22 : decode cJx4a65c_add_72be8 22 = .ok (.return_, 1) := by decide +kernel
theorem kSJx4a65c_add_72be8 : yJx4a65c_add_72be8.cls ≠ "java/lang/invoke/MethodHandle" ∧ yJx4a65c_add_72be8.cls ≠ "java/lang/invoke/VarHandle" ∧ (parseMethodDescriptor yJx4a65c_add_72be8.desc).map (fun d => d.parameters.length) = some 3 := by decide +kernel
theorem kVJx4a65c_add_72be8 : yJx4a65c_add_72be8.cls = RJx4a65c ∧ yJx4a65c_add_72be8.cls ≠ "java/lang/invoke/MethodHandle" ∧ yJx4a65c_add_72be8.cls ≠ "java/lang/invoke/VarHandle" ∧ (parseMethodDescriptor yJx4a65c_add_72be8.desc).map (fun d => d.parameters.length) = some 3 := ⟨rfl, kSJx4a65c_add_72be8⟩
def wo_a_add3 : List Cond := [.fieldLink RJx4a65c 48 "java/util/ArrayList" "size" "I"]
def wq_a_add3 : List Cond := .code yJx4a65c_add_72be8 cJx4a65c_add_72be8 4 none :: (wo_a_add3 ++ (wsJx4a65c0 ++ []))
theorem gd_a_add3 : ∀ w ∈ wq_a_add3, Gd w := List.forall_mem_cons.mpr ⟨Or.inl rfl, List.forall_mem_append.mpr ⟨gdl wo_a_add3 (by decide +kernel), (List.forall_mem_append.mpr ⟨gd_wsJx4a65c0, (fun _ h => absurd h List.not_mem_nil)⟩)⟩⟩
theorem in_a_add3 : ∀ w ∈ wq_a_add3, w ∈ lw_tbl := List.forall_mem_cons.mpr ⟨List.mem_of_getElem? (i := 890) (by decide +kernel), List.forall_mem_append.mpr ⟨inT2 wo_a_add3 [(2, 151)] (by decide +kernel), (List.forall_mem_append.mpr ⟨in_wsJx4a65c0, (fun _ h => absurd h List.not_mem_nil)⟩)⟩⟩
set_option maxHeartbeats 4000000 in
theorem a_add3 (l : Launch) (G : gG) (g : ClassId) (mi h0 ta cap n v : Nat) (mc : Int32) (vs : List Value) (f : Nat → Option Nat) (sz : Nat) (hn : n < cap) (hcp : cap < 2 ^ 31) : Met l yJx4a65c_add_72be8 wq_a_add3 { frames := 0, cells := 0, slots := 0, locals := 0 } (va_Pc [.ref h0, .ref v, .ref ta, .int (nI n)] (oP G g mi f cap [(h0, .inr (0, [.int mc, .ref ta, .int (nI n)])), (ta, .inl (g, cap, .inr (.inr (.inr (.inr f))))), (v, .inr (5, vs))] sz)) (va_Qv (fun _ : Unit => True) (fun (_ : Unit) (t : State) => va_P (gD G) vwCl [(h0, .inr (0, [.int mc, .ref ta, .int (nI (n + 1))])), (ta, .inl (g, cap, .inr (.inr (.inr (.inr (va_up f n (some v))))))), (v, .inr (5, vs))] t.heap ∧ va_D (va_A [(h0, .inr (0, [.int mc, .ref ta, .int (nI n)])), (ta, .inl (g, cap, .inr (.inr (.inr (.inr f))))), (v, .inr (5, vs))] sz) [(h0, .inr (0, [.int mc, .ref ta, .int (nI (n + 1))])), (ta, .inl (g, cap, .inr (.inr (.inr (.inr (va_up f n (some v))))))), (v, .inr (5, vs))]) (va_A [(h0, .inr (0, [.int mc, .ref ta, .int (nI n)])), (ta, .inl (g, cap, .inr (.inr (.inr (.inr f))))), (v, .inr (5, vs))] sz)) 0 0 (va_A [(h0, .inr (0, [.int mc, .ref ta, .int (nI n)])), (ta, .inl (g, cap, .inr (.inr (.inr (.inr f))))), (v, .inr (5, vs))] sz) := by
  refine Met.ofW (cc := cJx4a65c_add_72be8) (maxL := 4) (ret := none) (by decide) rfl ?_
  intro p e s m args below meth c s₁ B hml hv
  obtain ⟨rfl, rfl, hP, hB, hD0, hO⟩ := hv
  have hx := B.exec
  have hb := B.bytes
  have hr := B.returns
  have hlocks := B.notSynchronized
  have hts := atoms_spec (ws := wq_a_add3) B.pre
  have hin : ∀ w ∈ wsJx4a65c0, w ∈ wq_a_add3 := fun _ h9 => (List.mem_cons_of_mem _ (List.mem_append_right _ (List.mem_append_left _ h9)))
  have hown : s.vm.findClass RJx4a65c = some m.cls := findClass_of_methodNamed B.named
  have hD := hD0.self (sz := s.heap.size)
  generalize va_A [(h0, .inr (0, [.int mc, .ref ta, .int (nI n)])), (ta, .inl (g, cap, .inr (.inr (.inr (.inr f))))), (v, .inr (5, vs))] s.heap.size = A at hD hO ⊢
  have hS : va_S A s.heap s.heap [] := va_S.rf
  have hK := hO.1.K hB
  have hl := lv_entry ([.ref h0, .ref v, .ref ta, .int (nI n)]) (n := 4) (Nat.le_of_ble_eq_true rfl)
  rw [lg_entry_eq]
  generalize (lg_sl ([.ref h0, .ref v, .ref ta, .int (nI n)]) ++ List.replicate (4 - (lg_sl ([.ref h0, .ref v, .ref ta, .int (nI n)])).length) Slot.unset).toArray = ls at hl ⊢
  have hl : lv_has ls 4 [(0, .ref h0), (1, .ref v), (2, .ref ta), (3, .int (nI n))] := hl
  refine lv_iload_n hx hb dJx4a65c_add_72be8_0 rfl (lv_at hl 3 rfl) ?_
  refine lv_aload_n hx hb dJx4a65c_add_72be8_1 rfl (lv_at hl 2 rfl) ?_
  refine va_alen (D := gD G) (v := nI cap) hx hb hK hP 1 0 rfl rfl rfl dJx4a65c_add_72be8_2 ?_
  refine lv_icmp_ne (tgt := 11) hx hb dJx4a65c_add_72be8_3 (by decide) (fun _ => ?_) (fun c9 => absurd c9.symm (ngr_ne hn hcp))
  refine lv_aload_n hx hb dJx4a65c_add_72be8_11 rfl (lv_at hl 2 rfl) ?_
  refine lv_iload_n hx hb dJx4a65c_add_72be8_12 rfl (lv_at hl 3 rfl) ?_
  refine lv_aload_n hx hb dJx4a65c_add_72be8_13 rfl (lv_at hl 1 rfl) ?_
  refine va_astqO (D := gD G) hx hb hK hP hD hS 1 0 2 5 rfl rfl hO.2.2.2.1 rfl rfl (fun z => z.elim (fun a => nI_pos (by omega) a) (fun b => by rw [nI_clamp (by omega)] at b; omega)) dJx4a65c_add_72be8_14 (fun H locs hP hD hS => ?_)
  rw [nI_clamp (show n < 2 ^ 31 by omega)] at hP hD
  refine lv_aload_n hx hb dJx4a65c_add_72be8_15 rfl (lv_at hl 0 rfl) ?_
  refine lv_iload_n hx hb dJx4a65c_add_72be8_16 rfl (lv_at hl 3 rfl) ?_
  refine lv_iconst (v := 1) hx hb dJx4a65c_add_72be8_17 (by decide) ?_
  refine lv_iadd hx hb dJx4a65c_add_72be8_18 ?_
  refine gx_ti (ngr_one n) ?_
  refine va_put (D := gD G) (ci := 0) (v := .int (nI (n + 1))) (ty := tyJx4a65c 2) (C := RJx4a65c) (T := TJx4a65c) (N := 3) hx hb hts hin tyJx4a65c tyJx4a65c_ok nmJx4a65c hown hB.1 hP hD hS 0 rfl rfl 2 (by decide) (hts _ (List.mem_cons_of_mem _ (List.mem_append_left _ (List.mem_of_getElem? (i := 0) rfl)))) (fun _ h9 => h9) rfl (tyJx4a65c_ok 2 (by decide)) rfl rfl (Nat.le_of_ble_eq_true rfl) dJx4a65c_add_72be8_19 (fun H locs hP hD hS => ?_)
  exact W.vret hx hb hr (fun t ht hW => ⟨⟨(), rfl, trivial, by rw [ht]; exact hP, hD⟩, hS.F ht⟩) hS.2.2 dJx4a65c_add_72be8_22
end
section
theorem dJx4a65c_grow_d5877_0 : decode cJx4a65c_grow_d5877 0 = .ok (.aload_n 0, 1) := by decide +kernel
theorem dJx4a65c_grow_d5877_1 : decode cJx4a65c_grow_d5877 1 = .ok (.aload_n 0, 1) := by decide +kernel
theorem dJx4a65c_grow_d5877_2 : decode cJx4a65c_grow_d5877 2 = .ok (.getfield 48, 3) := by decide +kernel
theorem dJx4a65c_grow_d5877_5 : decode cJx4a65c_grow_d5877 5 = .ok (.iconst 1, 1) := by decide +kernel
theorem dJx4a65c_grow_d5877_6 : decode cJx4a65c_grow_d5877 6 = .ok (.iadd, 1) := by decide +kernel
theorem dJx4a65c_grow_d5877_7 : decode cJx4a65c_grow_d5877 7 = .ok (.invokevirtual 69, 3) := by decide +kernel
theorem dJx4a65c_grow_d5877_10 : decode cJx4a65c_grow_d5877 10 = .ok (.areturn, 1) := by decide +kernel
theorem kSJx4a65c_grow_d5877 : yJx4a65c_grow_d5877.cls ≠ "java/lang/invoke/MethodHandle" ∧ yJx4a65c_grow_d5877.cls ≠ "java/lang/invoke/VarHandle" ∧ (parseMethodDescriptor yJx4a65c_grow_d5877.desc).map (fun d => d.parameters.length) = some 0 := by decide +kernel
theorem kVJx4a65c_grow_d5877 : yJx4a65c_grow_d5877.cls = RJx4a65c ∧ yJx4a65c_grow_d5877.cls ≠ "java/lang/invoke/MethodHandle" ∧ yJx4a65c_grow_d5877.cls ≠ "java/lang/invoke/VarHandle" ∧ (parseMethodDescriptor yJx4a65c_grow_d5877.desc).map (fun d => d.parameters.length) = some 0 := ⟨rfl, kSJx4a65c_grow_d5877⟩
def wo_a_grow0 : List Cond := [.fieldLink RJx4a65c 48 "java/util/ArrayList" "size" "I", .methodLink RJx4a65c 69 yJx4a65c_grow_92f84, .instanceMethod yJx4a65c_grow_92f84, .selects RJx4a65c yJx4a65c_grow_92f84 yJx4a65c_grow_92f84, .initialized RJx4a65c]
def wq_a_grow0 : List Cond := .code yJx4a65c_grow_d5877 cJx4a65c_grow_d5877 1 (some (.array (.object "java/lang/Object"))) :: (wo_a_grow0 ++ (wq_a_growN ++ (wsJx4a65c0 ++ [])))
theorem gd_a_grow0 : ∀ w ∈ wq_a_grow0, Gd w := List.forall_mem_cons.mpr ⟨Or.inl rfl, List.forall_mem_append.mpr ⟨gdl wo_a_grow0 (by decide +kernel), (List.forall_mem_append.mpr ⟨gd_a_growN, (List.forall_mem_append.mpr ⟨gd_wsJx4a65c0, (fun _ h => absurd h List.not_mem_nil)⟩)⟩)⟩⟩
theorem in_a_grow0 : ∀ w ∈ wq_a_grow0, w ∈ lw_tbl := List.forall_mem_cons.mpr ⟨List.mem_of_getElem? (i := 894) (by decide +kernel), List.forall_mem_append.mpr ⟨inT2 wo_a_grow0 [(2, 151), (4, 22), (4, 24), (0, 33), (1, 17)] (by decide +kernel), (List.forall_mem_append.mpr ⟨in_a_growN, (List.forall_mem_append.mpr ⟨in_wsJx4a65c0, (fun _ h => absurd h List.not_mem_nil)⟩)⟩)⟩⟩
set_option maxHeartbeats 4000000 in
theorem a_grow0 (l : Launch) (G : gG) (g : ClassId) (mi h0 ta cap : Nat) (mc : Int32) (f : Nat → Option Nat) (k sz : Nat) (hc : 0 < cap) (hck : cap < k) (hk : k ≤ 16777216) (he : nI cap + (if (1 : Int32) < nI cap >>> (1 &&& 31) then nI cap >>> (1 &&& 31) else 1) = nI k) : Met l yJx4a65c_grow_d5877 wq_a_grow0 { frames := 4, cells := 1, slots := k, locals := 107 } (va_Pc [.ref h0] (oP G g mi f cap [(h0, .inr (0, [.int mc, .ref ta, .int (nI cap)])), (ta, .inl (g, cap, .inr (.inr (.inr (.inr f)))))] sz)) (va_Qr (fun _ : Unit => True) (fun (_ : Unit) (q : Nat) (t : State) => va_P (gD G) vwCl [(h0, .inr (0, [.int mc, .ref q, .int (nI cap)])), (q, .inl (g, k, .inr (.inr (.inr (.inr (va_cpy f (fun _ => none) 0 0 cap))))))] t.heap ∧ va_D (va_A [(h0, .inr (0, [.int mc, .ref ta, .int (nI cap)])), (ta, .inl (g, cap, .inr (.inr (.inr (.inr f)))))] sz) [(h0, .inr (0, [.int mc, .ref q, .int (nI cap)])), (q, .inl (g, k, .inr (.inr (.inr (.inr (va_cpy f (fun _ => none) 0 0 cap))))))]) (va_A [(h0, .inr (0, [.int mc, .ref ta, .int (nI cap)])), (ta, .inl (g, cap, .inr (.inr (.inr (.inr f)))))] sz)) 1 k (va_A [(h0, .inr (0, [.int mc, .ref ta, .int (nI cap)])), (ta, .inl (g, cap, .inr (.inr (.inr (.inr f)))))] sz) := by
  refine Met.ofW (cc := cJx4a65c_grow_d5877) (maxL := 1) (ret := (some (.array (.object "java/lang/Object")))) (by decide) rfl ?_
  intro p e s m args below meth c s₁ B hml hv
  obtain ⟨rfl, rfl, hP, hB, hD0, hO⟩ := hv
  have hx := B.exec
  have hb := B.bytes
  have hr := B.returns
  have hlocks := B.notSynchronized
  have hts := atoms_spec (ws := wq_a_grow0) B.pre
  have hin : ∀ w ∈ wsJx4a65c0, w ∈ wq_a_grow0 := fun _ h9 => (List.mem_cons_of_mem _ (List.mem_append_right _ (List.mem_append_right _ (List.mem_append_left _ h9))))
  have hown : s.vm.findClass RJx4a65c = some m.cls := findClass_of_methodNamed B.named
  have hS : va_S (va_A [(h0, .inr (0, [.int mc, .ref ta, .int (nI cap)])), (ta, .inl (g, cap, .inr (.inr (.inr (.inr f)))))] s.heap.size) s.heap s.heap [] := va_S.rf
  have hl := lv_entry ([.ref h0]) (n := 1) (Nat.le_of_ble_eq_true rfl)
  rw [lg_entry_eq]
  generalize (lg_sl ([.ref h0]) ++ List.replicate (1 - (lg_sl ([.ref h0])).length) Slot.unset).toArray = ls at hl ⊢
  have hl : lv_has ls 1 [(0, .ref h0)] := hl
  refine lv_aload_n hx hb dJx4a65c_grow_d5877_0 rfl (lv_at hl 0 rfl) ?_
  refine lv_aload_n hx hb dJx4a65c_grow_d5877_1 rfl (lv_at hl 0 rfl) ?_
  refine va_get (D := gD G) (ci := 0) (v := .int (nI cap)) (C := RJx4a65c) (T := TJx4a65c) (N := 3) hx hb hts hin hown hB.1 hP 0 rfl rfl 2 (by decide) (hts _ (List.mem_cons_of_mem _ (List.mem_append_left _ (List.mem_of_getElem? (i := 0) rfl)))) (fun _ h9 => h9) rfl dJx4a65c_grow_d5877_2 ?_
  refine lv_iconst (v := 1) hx hb dJx4a65c_grow_d5877_5 (by decide) ?_
  refine lv_iadd hx hb dJx4a65c_grow_d5877_6 ?_
  refine gx_ti (ngr_one cap) ?_
  refine va_callr (va_runV (As := [.int (nI (cap + 1))]) (rest := []) (C := RJx4a65c) ⟨hx, hb, hml, hown, hts⟩ (a_growN l G g mi h0 ta cap mc (nI cap) f k s.heap.size hc hck hk he) (cwV 1 hts (gdV (List.mem_cons_of_mem _ (List.mem_append_left _ (List.mem_of_getElem? (i := 1) rfl))) (List.mem_cons_of_mem _ (List.mem_append_left _ (List.mem_of_getElem? (i := 2) rfl))) (List.mem_cons_of_mem _ (List.mem_append_left _ (List.mem_of_getElem? (i := 3) rfl))) (List.mem_cons_of_mem _ (List.mem_append_left _ (List.mem_of_getElem? (i := 4) rfl))) (fun w9 h9 => ⟨(List.mem_cons_of_mem _ (List.mem_append_right _ (List.mem_append_left _ h9))), gd_a_growN w9 h9⟩)) rfl rfl rfl kVJx4a65c_grow_92f84 ⟨Nat.le_of_ble_eq_true rfl, Nat.le_of_ble_eq_true rfl⟩) ⟨oP.blind, va_recv hB.1 hP (ci := 0) (q0 := 0) rfl rfl, fun U hU hW => ⟨rfl, by rw [hU], by rw [hU]; exact hP, hB.moved hW, hD0, by rw [hU]; exact hO.moved hW⟩⟩ rfl rfl hl.1 rfl (lv_room (Nat.le_of_ble_eq_true rfl)) dJx4a65c_grow_d5877_7 ⟨Nat.le_of_ble_eq_true rfl, by show 0 + k ≤ k; omega⟩) hS (fun z _ h => h) (fun z h => h) (fun u2 q t H1 locs ht hvm hw hB1 hz1 hk1 hS => ?_)
  obtain ⟨hP1, hD1⟩ := hB1
  rw [ht] at hP1
  refine W.eq (g2 := F0 m 10 ls [.ref q]) rfl ?_
  refine W.widen (k := 1) (n := k) (Nat.le_of_ble_eq_true rfl) (by show 0 + k ≤ k; omega) ?_
  exact W.aret (v := .ref q) hx hb hr (Or.inr ⟨_, rfl⟩) (Or.inr ⟨_, rfl⟩) (fun t ht hW => ⟨⟨(), q, rfl, trivial, by rw [ht]; exact hP1, hD1⟩, hS.F ht⟩) hS.2.2 dJx4a65c_grow_d5877_10
end
section
def wo_a_add3g : List Cond := [.fieldLink RJx4a65c 48 "java/util/ArrayList" "size" "I", .methodLink RJx4a65c 129 yJx4a65c_grow_d5877, .instanceMethod yJx4a65c_grow_d5877, .selects RJx4a65c yJx4a65c_grow_d5877 yJx4a65c_grow_d5877, .initialized RJx4a65c]
def wq_a_add3g : List Cond := .code yJx4a65c_add_72be8 cJx4a65c_add_72be8 4 none :: (wo_a_add3g ++ (wq_a_grow0 ++ (wsJx4a65c0 ++ [])))
theorem gd_a_add3g : ∀ w ∈ wq_a_add3g, Gd w := List.forall_mem_cons.mpr ⟨Or.inl rfl, List.forall_mem_append.mpr ⟨gdl wo_a_add3g (by decide +kernel), (List.forall_mem_append.mpr ⟨gd_a_grow0, (List.forall_mem_append.mpr ⟨gd_wsJx4a65c0, (fun _ h => absurd h List.not_mem_nil)⟩)⟩)⟩⟩
theorem in_a_add3g : ∀ w ∈ wq_a_add3g, w ∈ lw_tbl := List.forall_mem_cons.mpr ⟨List.mem_of_getElem? (i := 890) (by decide +kernel), List.forall_mem_append.mpr ⟨inT2 wo_a_add3g [(2, 151), (4, 18), (4, 20), (0, 32), (1, 17)] (by decide +kernel), (List.forall_mem_append.mpr ⟨in_a_grow0, (List.forall_mem_append.mpr ⟨in_wsJx4a65c0, (fun _ h => absurd h List.not_mem_nil)⟩)⟩)⟩⟩
set_option maxHeartbeats 4000000 in
theorem a_add3g (l : Launch) (G : gG) (g : ClassId) (mi h0 ta cap v : Nat) (mc : Int32) (vs : List Value) (f : Nat → Option Nat) (k sz : Nat) (hc : 0 < cap) (hck : cap < k) (hk : k ≤ 16777216) (he : nI cap + (if (1 : Int32) < nI cap >>> (1 &&& 31) then nI cap >>> (1 &&& 31) else 1) = nI k) : Met l yJx4a65c_add_72be8 wq_a_add3g { frames := 5, cells := 1, slots := k, locals := 127 } (va_Pc [.ref h0, .ref v, .ref ta, .int (nI cap)] (oP G g mi f cap [(h0, .inr (0, [.int mc, .ref ta, .int (nI cap)])), (ta, .inl (g, cap, .inr (.inr (.inr (.inr f))))), (v, .inr (5, vs))] sz)) (va_Qv (fun _ : Unit => True) (fun (_ : Unit) (t : State) => ∃ q : Nat, va_P (gD G) vwCl [(h0, .inr (0, [.int mc, .ref q, .int (nI (cap + 1))])), (q, .inl (g, k, .inr (.inr (.inr (.inr (va_up (va_cpy f (fun _ => none) 0 0 cap) cap (some v))))))), (v, .inr (5, vs))] t.heap ∧ va_D (va_A [(h0, .inr (0, [.int mc, .ref ta, .int (nI cap)])), (ta, .inl (g, cap, .inr (.inr (.inr (.inr f))))), (v, .inr (5, vs))] sz) [(h0, .inr (0, [.int mc, .ref q, .int (nI (cap + 1))])), (q, .inl (g, k, .inr (.inr (.inr (.inr (va_up (va_cpy f (fun _ => none) 0 0 cap) cap (some v))))))), (v, .inr (5, vs))]) (va_A [(h0, .inr (0, [.int mc, .ref ta, .int (nI cap)])), (ta, .inl (g, cap, .inr (.inr (.inr (.inr f))))), (v, .inr (5, vs))] sz)) 1 k (va_A [(h0, .inr (0, [.int mc, .ref ta, .int (nI cap)])), (ta, .inl (g, cap, .inr (.inr (.inr (.inr f))))), (v, .inr (5, vs))] sz) := by
  refine Met.ofW (cc := cJx4a65c_add_72be8) (maxL := 4) (ret := none) (by decide) rfl ?_
  intro p e s m args below meth c s₁ B hml hv
  obtain ⟨rfl, rfl, hP, hB, hD0, hO⟩ := hv
  have hx := B.exec
  have hb := B.bytes
  have hr := B.returns
  have hlocks := B.notSynchronized
  have hts := atoms_spec (ws := wq_a_add3g) B.pre
  have hin : ∀ w ∈ wsJx4a65c0, w ∈ wq_a_add3g := fun _ h9 => (List.mem_cons_of_mem _ (List.mem_append_right _ (List.mem_append_right _ (List.mem_append_left _ h9))))
  have hown : s.vm.findClass RJx4a65c = some m.cls := findClass_of_methodNamed B.named
  have hD := hD0.self (sz := s.heap.size)
  have hA : ∀ q : Nat, s.heap.size ≤ q → va_A [(h0, .inr (0, [.int mc, .ref ta, .int (nI cap)])), (ta, .inl (g, cap, .inr (.inr (.inr (.inr f))))), (v, .inr (5, vs))] s.heap.size q := fun q h => Or.inr h
  generalize va_A [(h0, .inr (0, [.int mc, .ref ta, .int (nI cap)])), (ta, .inl (g, cap, .inr (.inr (.inr (.inr f))))), (v, .inr (5, vs))] s.heap.size = A at hD hA hO ⊢
  have hS : va_S A s.heap s.heap [] := va_S.rf
  have hK := hO.1.K hB
  have hl := lv_entry ([.ref h0, .ref v, .ref ta, .int (nI cap)]) (n := 4) (Nat.le_of_ble_eq_true rfl)
  rw [lg_entry_eq]
  generalize (lg_sl ([.ref h0, .ref v, .ref ta, .int (nI cap)]) ++ List.replicate (4 - (lg_sl ([.ref h0, .ref v, .ref ta, .int (nI cap)])).length) Slot.unset).toArray = ls at hl ⊢
  have hl : lv_has ls 4 [(0, .ref h0), (1, .ref v), (2, .ref ta), (3, .int (nI cap))] := hl
  refine lv_iload_n hx hb dJx4a65c_add_72be8_0 rfl (lv_at hl 3 rfl) ?_
  refine lv_aload_n hx hb dJx4a65c_add_72be8_1 rfl (lv_at hl 2 rfl) ?_
  refine va_alen (D := gD G) (v := nI cap) hx hb hK hP 1 0 rfl rfl rfl dJx4a65c_add_72be8_2 ?_
  refine lv_icmp_ne (tgt := 11) hx hb dJx4a65c_add_72be8_3 (by decide) (fun c9 => absurd rfl c9) (fun _ => ?_)
  refine lv_aload_n hx hb dJx4a65c_add_72be8_6 rfl (lv_at hl 0 rfl) ?_
  have hPc := hP.sub (ws' := [(h0, .inr (0, [.int mc, .ref ta, .int (nI cap)])), (ta, .inl (g, cap, .inr (.inr (.inr (.inr f)))))]) [0, 1] rfl
  have hDc := hD.sub (ws' := [(h0, .inr (0, [.int mc, .ref ta, .int (nI cap)])), (ta, .inl (g, cap, .inr (.inr (.inr (.inr f)))))]) [0, 1] (by decide) rfl
  have hFc := va_free (wc := [(h0, .inr (0, [.int mc, .ref ta, .int (nI cap)])), (ta, .inl (g, cap, .inr (.inr (.inr (.inr f)))))]) hD hS hA [0, 1] rfl
  refine va_callr (va_runV (As := []) (rest := []) (C := RJx4a65c) ⟨hx, hb, hml, hown, hts⟩ (a_grow0 l G g mi h0 ta cap mc f k s.heap.size hc hck hk he) (cwV 0 hts (gdV (List.mem_cons_of_mem _ (List.mem_append_left _ (List.mem_of_getElem? (i := 1) rfl))) (List.mem_cons_of_mem _ (List.mem_append_left _ (List.mem_of_getElem? (i := 2) rfl))) (List.mem_cons_of_mem _ (List.mem_append_left _ (List.mem_of_getElem? (i := 3) rfl))) (List.mem_cons_of_mem _ (List.mem_append_left _ (List.mem_of_getElem? (i := 4) rfl))) (fun w9 h9 => ⟨(List.mem_cons_of_mem _ (List.mem_append_right _ (List.mem_append_left _ h9))), gd_a_grow0 w9 h9⟩)) rfl rfl rfl kVJx4a65c_grow_d5877 ⟨Nat.le_of_ble_eq_true rfl, Nat.le_of_ble_eq_true rfl⟩) ⟨oP.blind, va_recv hB.1 hP (ci := 0) (q0 := 0) rfl rfl, fun U hU hW => ⟨rfl, by rw [hU], by rw [hU]; exact hPc, hB.moved hW, hDc.weaken (fun _ _ _ _ => trivial), by rw [hU]; exact (hO.narrow (fun q _ h => hFc q h)).moved hW⟩⟩ rfl rfl hl.1 rfl (lv_room (Nat.le_of_ble_eq_true rfl)) dJx4a65c_add_72be8_7 ⟨Nat.le_of_ble_eq_true rfl, by show 0 + k ≤ k; omega⟩) hS (fun z _ h => hFc z h) hFc (fun u2 q t H1 locs ht hvm hw hB1 hz1 hk1 hS => ?_)
  obtain ⟨hP1, hD1⟩ := hB1
  rw [ht] at hP1
  obtain ⟨hP, hD⟩ := va_join (wr := [(v, .inr (5, vs))]) (w1 := [(h0, .inr (0, [.int mc, .ref q, .int (nI cap)])), (q, .inl (g, k, .inr (.inr (.inr (.inr (va_cpy f (fun _ => none) 0 0 cap))))))]) hP hD [0, 1] [2] rfl rfl (by decide) (by decide) hk1 hFc hP1 hD1
  refine W.eq (g2 := F0 m 10 ls [.ref q]) rfl ?_
  refine lv_astore_n (lv' := [(2, .ref q), (0, .ref h0), (1, .ref v), (3, .int (nI cap))]) hx hb dJx4a65c_add_72be8_10 rfl hl (by decide) rfl (fun ls hl => ?_)
  refine lv_aload_n hx hb dJx4a65c_add_72be8_11 rfl (lv_at hl 0 rfl) ?_
  refine lv_iload_n hx hb dJx4a65c_add_72be8_12 rfl (lv_at hl 3 rfl) ?_
  refine lv_aload_n hx hb dJx4a65c_add_72be8_13 rfl (lv_at hl 2 rfl) ?_
  refine va_astqO (D := gD G) hx hb hK hP hD hS 2 0 0 5 rfl rfl hO.2.2.2.1 rfl rfl (fun z => z.elim (fun a => nI_pos (by omega) a) (fun b => by rw [nI_clamp (by omega)] at b; omega)) dJx4a65c_add_72be8_14 (fun H locs hP hD hS => ?_)
  rw [nI_clamp (show cap < 2 ^ 31 by omega)] at hP hD
  refine lv_aload_n hx hb dJx4a65c_add_72be8_15 rfl (lv_at hl 1 rfl) ?_
  refine lv_iload_n hx hb dJx4a65c_add_72be8_16 rfl (lv_at hl 3 rfl) ?_
  refine lv_iconst (v := 1) hx hb dJx4a65c_add_72be8_17 (by decide) ?_
  refine lv_iadd hx hb dJx4a65c_add_72be8_18 ?_
  refine gx_ti (ngr_one cap) ?_
  refine va_put (D := gD G) (ci := 0) (v := .int (nI (cap + 1))) (ty := tyJx4a65c 2) (C := RJx4a65c) (T := TJx4a65c) (N := 3) hx hb hts hin tyJx4a65c tyJx4a65c_ok nmJx4a65c hown hB.1 hP hD hS 1 rfl rfl 2 (by decide) (hts _ (List.mem_cons_of_mem _ (List.mem_append_left _ (List.mem_of_getElem? (i := 0) rfl)))) (fun _ h9 => h9) rfl (tyJx4a65c_ok 2 (by decide)) rfl rfl (Nat.le_of_ble_eq_true rfl) dJx4a65c_add_72be8_19 (fun H locs hP hD hS => ?_)
  have hP9 := hP.sub (ws' := [(h0, .inr (0, [.int mc, .ref q, .int (nI (cap + 1))])), (q, .inl (g, k, .inr (.inr (.inr (.inr (va_up (va_cpy f (fun _ => none) 0 0 cap) cap (some v))))))), (v, .inr (5, vs))]) [1, 2, 0] rfl
  have hD9 := hD.sub (ws' := [(h0, .inr (0, [.int mc, .ref q, .int (nI (cap + 1))])), (q, .inl (g, k, .inr (.inr (.inr (.inr (va_up (va_cpy f (fun _ => none) 0 0 cap) cap (some v))))))), (v, .inr (5, vs))]) [1, 2, 0] (by decide) rfl
  refine W.widen (k := 1) (n := k) (Nat.le_of_ble_eq_true rfl) (by show 0 + k ≤ k; omega) ?_
  exact W.vret hx hb hr (fun t ht hW => ⟨⟨(), rfl, trivial, q, by rw [ht]; exact hP9, hD9⟩, hS.F ht⟩) hS.2.2 dJx4a65c_add_72be8_22
end
section
/-! ===== the class: programs that make nothing end, and leave all but what is named ===== -/
def Same (LI LA : List Nat) (u v : MS) : Prop := (∀ k, ¬ k ∈ LI → v.1 k = u.1 k) ∧ ∀ k, ¬ k ∈ LA → v.2 k = u.2 k
theorem Same.rf {LI LA : List Nat} (u : MS) : Same LI LA u u := ⟨fun _ _ => rfl, fun _ _ => rfl⟩
theorem Same.trans {LI LA : List Nat} {u v w : MS} (h1 : Same LI LA u v) (h2 : Same LI LA v w) : Same LI LA u w := ⟨fun k hk => (h2.1 k hk).trans (h1.1 k hk), fun k hk => (h2.2 k hk).trans (h1.2 k hk)⟩
theorem Same.mono {l1 l2 LI LA : List Nat} {u v : MS} (h : Same l1 l2 u v) (h1 : ∀ k ∈ l1, k ∈ LI) (h2 : ∀ k ∈ l2, k ∈ LA) : Same LI LA u v := ⟨fun k hk => h.1 k (fun z => hk (h1 k z)), fun k hk => h.2 k (fun z => hk (h2 k z))⟩
theorem Same.nil {u v : MS} (h : Same [] [] u v) : v = u := Prod.ext (funext (fun k => h.1 k (List.not_mem_nil))) (funext (fun k => h.2 k (List.not_mem_nil)))
def Tu {β : Type} (LI LA : List Nat) (p : NG β) (u : MS) : Prop := ∃ r v, p u = some (r, v) ∧ Same LI LA u v
def T {β : Type} (LI LA : List Nat) (p : NG β) : Prop := ∀ u, Tu LI LA p u
theorem T.mono {β : Type} {l1 l2 LI LA : List Nat} {p : NG β} (h : T l1 l2 p) (h1 : ∀ k ∈ l1, k ∈ LI) (h2 : ∀ k ∈ l2, k ∈ LA) : T LI LA p := fun u => by
  obtain ⟨r, v, e, hs⟩ := h u
  exact ⟨r, v, e, hs.mono h1 h2⟩
theorem T_rt {β : Type} {LI LA : List Nat} (x : β) : T LI LA (nrt x) := fun u => ⟨x, u, rfl, Same.rf u⟩
theorem T_li {β : Type} {LI LA : List Nat} {x : Int32} {q : Int32 → NG β} (h : T LI LA (q x)) : T LI LA (nli x q) := h
theorem T_ite {β : Type} {LI LA : List Nat} {b : Prop} [Decidable b] {p q : NG β} (h1 : b → T LI LA p) (h2 : ¬ b → T LI LA q) : T LI LA (if b then p else q) := by
  by_cases h : b
  · rw [if_pos h]; exact h1 h
  · rw [if_neg h]; exact h2 h
theorem T_cl {α β : Type} {LI LA : List Nat} {p : NG α} {q : α → NG β} (hp : T LI LA p) (hq : ∀ a, T LI LA (q a)) : T LI LA (ncl p q) := fun u => by
  obtain ⟨a, v, e, hs⟩ := hp u
  obtain ⟨r, w, e2, hs2⟩ := hq a v
  exact ⟨r, w, by unfold ncl; rw [e]; exact e2, hs.trans hs2⟩
theorem T_RF {LI LA : List Nat} {k : Nat} : T LI LA (nRF k) := fun u => ⟨_, u, rfl, Same.rf u⟩
theorem T_GT {LI LA : List Nat} {a n : Nat} {i : Int32} : T LI LA (nGT a n i) := fun u => ⟨_, u, rfl, Same.rf u⟩
theorem T_GD {LI LA : List Nat} {a c : Nat} {i : Int32} : T LI LA (nGD a c i) := fun u => ⟨_, u, rfl, Same.rf u⟩
theorem T_GS {LI LA : List Nat} {x : Int32} {a b : Nat} {i : Int32} : T LI LA (nGS x a b i) := fun u => ⟨_, u, rfl, Same.rf u⟩
theorem Same_si {LI LA : List Nat} {u : MS} {k : Nat} {v : Int32} (h : k ∈ LI) : Same LI LA u (si u k v) := ⟨fun j hj => if_neg (fun z => hj (by rw [z]; exact h)), fun _ _ => rfl⟩
theorem Same_sf {LI LA : List Nat} {u : MS} {k : Nat} {f : Nat → Int32} (h : k ∈ LA) : Same LI LA u (sf u k f) := ⟨fun _ _ => rfl, fun j hj => if_neg (fun z => hj (by rw [z]; exact h))⟩
theorem T_WF {LI LA : List Nat} {k : Nat} {v : Int32} (h : k ∈ LI) : T LI LA (nWF k v) := fun u => ⟨_, _, rfl, Same_si h⟩
theorem T_ST {LI LA : List Nat} {a n : Nat} {i v : Int32} (h : a ∈ LA) : T LI LA (nST a n i v) := fun u => ⟨_, _, rfl, Same_sf h⟩
theorem T_SD {LI LA : List Nat} {a c : Nat} {i v : Int32} (h : a ∈ LA) : T LI LA (nSD a c i v) := fun u => ⟨_, _, rfl, Same_sf h⟩
theorem T_FL {LI LA : List Nat} {a n : Nat} {v : Int32} (h : a ∈ LA) : T LI LA (nFL a n v) := fun u => ⟨_, _, rfl, Same_sf h⟩
theorem T_SS {LI LA : List Nat} {x : Int32} {a b : Nat} {i v : Int32} (h : a ∈ LA) (h2 : b ∈ LA) : T LI LA (nSS x a b i v) := fun u => by
  refine ⟨_, _, rfl, ?_⟩
  unfold sl
  by_cases hx : x = 0
  · rw [if_pos hx]; exact Same_sf h
  · rw [if_neg hx]; exact Same_sf h2
theorem T_FS {LI LA : List Nat} {x : Int32} {a b : Nat} {v : Int32} (h : a ∈ LA) (h2 : b ∈ LA) : T LI LA (nFS x a b v) := fun u => by
  refine ⟨_, _, rfl, ?_⟩
  unfold sl
  by_cases hx : x = 0
  · rw [if_pos hx]; exact Same_sf h
  · rw [if_neg hx]; exact Same_sf h2
theorem T.at {β : Type} {LI LA : List Nat} {p : NG β} (h : T LI LA p) (u : MS) : Tu LI LA p u := h u
theorem Tu_RF {β : Type} {LI LA : List Nat} {k : Nat} {q : Int32 → NG β} {u : MS} (h : Tu LI LA (q (u.1 k)) u) : Tu LI LA (ncl (nRF k) q) u := h
theorem Tu_GT {β : Type} {LI LA : List Nat} {a n : Nat} {i : Int32} {q : Int32 → NG β} {u : MS} (h : ∀ x, Tu LI LA (q x) u) : Tu LI LA (ncl (nGT a n i) q) u := h _
theorem Tu_ite {β : Type} {LI LA : List Nat} {b : Prop} [Decidable b] {p q : NG β} {u : MS} (h1 : b → Tu LI LA p u) (h2 : ¬ b → Tu LI LA q u) : Tu LI LA (if b then p else q) u := by
  by_cases h : b
  · rw [if_pos h]; exact h1 h
  · rw [if_neg h]; exact h2 h
theorem Tu_og {β : Type} {LI LA : List Nat} {b : Bool} {p : NG β} {u : MS} (hb : b = true) (h : Tu LI LA p u) : Tu LI LA (nog b p) u := by
  subst hb
  exact h
theorem Tu_cl {α β : Type} {l1 l2 LI LA : List Nat} {p : NG α} {q : α → NG β} {u : MS} (hp : T l1 l2 p) (h1 : ∀ k ∈ l1, k ∈ LI) (h2 : ∀ k ∈ l2, k ∈ LA) (hq : ∀ a v, Same l1 l2 u v → Tu LI LA (q a) v) : Tu LI LA (ncl p q) u := by
  obtain ⟨a, v, e, hs⟩ := hp u
  obtain ⟨r, w, e2, hs2⟩ := hq a v hs
  exact ⟨r, w, by unfold ncl; rw [e]; exact e2, (hs.mono h1 h2).trans hs2⟩
theorem Tu_WF {β : Type} {LI LA : List Nat} {k : Nat} {x : Int32} {q : Unit → NG β} {u : MS} (hk : k ∈ LI) (h : Tu LI LA (q ()) (si u k x)) : Tu LI LA (ncl (nWF k x) q) u := by
  obtain ⟨r, v, e, hs⟩ := h
  exact ⟨r, v, e, (Same_si hk).trans hs⟩
/-! measures -/
def msr (v : Int32) : Nat := (2147483648 - v.toInt).toNat
def mdr (v : Int32) : Nat := (v.toInt + 2147483649).toNat
theorem i32_b (v : Int32) : -2147483648 ≤ v.toInt ∧ v.toInt < 2147483648 := ⟨v.le_toInt, v.toInt_lt⟩
theorem msr_0 (v : Int32) : ¬ msr v ≤ 0 := by
  have h := i32_b v
  unfold msr
  omega
theorem mdr_0 (v : Int32) : ¬ mdr v ≤ 0 := by
  have h := i32_b v
  unfold mdr
  omega
theorem msr_fuel (v : Int32) : msr v ≤ fuel := by
  have h := i32_b v
  unfold msr fuel
  omega
theorem mdr_fuel (v : Int32) : mdr v ≤ fuel := by
  have h := i32_b v
  unfold mdr fuel
  omega
theorem i32_add (v c : Int32) (h1 : -2147483648 ≤ v.toInt + c.toInt) (h2 : v.toInt + c.toInt < 2147483648) : (v + c).toInt = v.toInt + c.toInt := by
  rw [Int32.toInt_add]
  exact Int.bmod_eq_of_le (by omega) (by omega)
theorem i32_1 : (1 : Int32).toInt = 1 := by decide
theorem i32_0 : (0 : Int32).toInt = 0 := by decide
theorem i32_m1 : (-1 : Int32).toInt = -1 := by decide
theorem i32_nle {X v : Int32} (h : ¬ X ≤ v) : v.toInt < X.toInt := by
  rw [Int32.le_iff_toInt_le] at h
  omega
theorem i32_nlt {X v : Int32} (h : ¬ X < v) : v.toInt ≤ X.toInt := by
  rw [Int32.lt_iff_toInt_lt] at h
  omega
theorem msr_up {X v : Int32} {n : Nat} (h : ¬ X ≤ v) (hm : msr v ≤ n + 1) : msr (v + 1) ≤ n := by
  have h1 := i32_nle h
  have h2 := i32_b X
  have h3 := i32_b v
  have h4 := i32_add v 1 (by rw [i32_1]; omega) (by rw [i32_1]; omega)
  rw [i32_1] at h4
  unfold msr at hm ⊢
  omega
theorem msr_lt {X v : Int32} {n : Nat} (h : ¬ X < v) (hX : X.toInt < 2147483647) (hm : msr v ≤ n + 1) : msr (v + 1) ≤ n := by
  have h1 := i32_nlt h
  have h3 := i32_b v
  have h4 := i32_add v 1 (by rw [i32_1]; omega) (by rw [i32_1]; omega)
  rw [i32_1] at h4
  unfold msr at hm ⊢
  omega
theorem mdr_dn {v : Int32} {n : Nat} (h : ¬ v < 0) (hm : mdr v ≤ n + 1) : mdr (v + (-1)) ≤ n := by
  rw [Int32.lt_iff_toInt_lt, i32_0] at h
  have h3 := i32_b v
  have h4 := i32_add v (-1) (by rw [i32_m1]; omega) (by rw [i32_m1]; omega)
  rw [i32_m1] at h4
  unfold mdr at hm ⊢
  omega
theorem T_of {β : Type} {LI LA : List Nat} {p : NG β} (h : ∀ u, Tu LI LA p u) : T LI LA p := h
theorem i32_fuel (v : Int32) : v.toInt < (fuel : Nat) := by
  have h := i32_b v
  unfold fuel
  omega
theorem fuel_pos : 0 < fuel := by
  unfold fuel
  omega
theorem T_nrt {α β : Type} {LI LA : List Nat} {c : α} {q : α → NG β} (h : T LI LA (q c)) : T LI LA (ncl (nrt c) q) := h
end
section
theorem tt_x_X0_slot (a0 : Int32) (a1 : Int32) : T [] [] (x_X0_slot a0 a1) := by
  unfold x_X0_slot
  repeat (first | (with_reducible exact T_rt _) | (with_reducible intro _) | (with_reducible exact T_RF) | (with_reducible exact T_GT) | (with_reducible exact T_GD) | (with_reducible exact T_GS) | (with_reducible exact T_WF (by decide)) | (with_reducible exact T_ST (by decide)) | (with_reducible exact T_SD (by decide)) | (with_reducible exact T_SS (by decide) (by decide)) | (with_reducible exact T_FL (by decide)) | (with_reducible exact T_FS (by decide) (by decide)) | (with_reducible refine T_li ?_) | (with_reducible refine T_ite (fun _ => ?_) (fun _ => ?_)) | (with_reducible refine T_cl ?_ (fun _ => ?_)))

theorem tt_x_X1_ofClass (a0 : Int32) (a1 : Int32) : T [] [] (x_X1_ofClass a0 a1) := by
  unfold x_X1_ofClass
  repeat (first | (with_reducible exact T_rt _) | (with_reducible intro _) | (with_reducible exact T_RF) | (with_reducible exact T_GT) | (with_reducible exact T_GD) | (with_reducible exact T_GS) | (with_reducible exact T_WF (by decide)) | (with_reducible exact T_ST (by decide)) | (with_reducible exact T_SD (by decide)) | (with_reducible exact T_SS (by decide) (by decide)) | (with_reducible exact T_FL (by decide)) | (with_reducible exact T_FS (by decide) (by decide)) | (with_reducible refine T_li ?_) | (with_reducible refine T_ite (fun _ => ?_) (fun _ => ?_)) | (with_reducible refine T_cl ?_ (fun _ => ?_)))

theorem tt_x_X0_kindOf (a0 : Int32) : T [] [] (x_X0_kindOf a0) := by
  unfold x_X0_kindOf
  repeat (first | (with_reducible exact T_rt _) | (with_reducible intro _) | (with_reducible exact (tt_x_X1_ofClass _ _).mono (by decide) (by decide)) | (with_reducible exact T_RF) | (with_reducible exact T_GT) | (with_reducible exact T_GD) | (with_reducible exact T_GS) | (with_reducible exact T_WF (by decide)) | (with_reducible exact T_ST (by decide)) | (with_reducible exact T_SD (by decide)) | (with_reducible exact T_SS (by decide) (by decide)) | (with_reducible exact T_FL (by decide)) | (with_reducible exact T_FS (by decide) (by decide)) | (with_reducible refine T_li ?_) | (with_reducible refine T_ite (fun _ => ?_) (fun _ => ?_)) | (with_reducible refine T_cl ?_ (fun _ => ?_)))

theorem tt_x_X0_sizeOf (a0 : Int32) : T [] [] (x_X0_sizeOf a0) := by
  unfold x_X0_sizeOf
  repeat (first | (with_reducible exact T_rt _) | (with_reducible intro _) | (with_reducible exact (tt_x_X1_ofClass _ _).mono (by decide) (by decide)) | (with_reducible exact T_RF) | (with_reducible exact T_GT) | (with_reducible exact T_GD) | (with_reducible exact T_GS) | (with_reducible exact T_WF (by decide)) | (with_reducible exact T_ST (by decide)) | (with_reducible exact T_SD (by decide)) | (with_reducible exact T_SS (by decide) (by decide)) | (with_reducible exact T_FL (by decide)) | (with_reducible exact T_FS (by decide) (by decide)) | (with_reducible refine T_li ?_) | (with_reducible refine T_ite (fun _ => ?_) (fun _ => ?_)) | (with_reducible refine T_cl ?_ (fun _ => ?_)))

theorem tt_x_X0_isDrawn (a0 : Int32) : T [] [] (x_X0_isDrawn a0) := by
  unfold x_X0_isDrawn
  repeat (first | (with_reducible exact T_rt _) | (with_reducible intro _) | (with_reducible exact (tt_x_X0_kindOf _).mono (by decide) (by decide)) | (with_reducible exact T_RF) | (with_reducible exact T_GT) | (with_reducible exact T_GD) | (with_reducible exact T_GS) | (with_reducible exact T_WF (by decide)) | (with_reducible exact T_ST (by decide)) | (with_reducible exact T_SD (by decide)) | (with_reducible exact T_SS (by decide) (by decide)) | (with_reducible exact T_FL (by decide)) | (with_reducible exact T_FS (by decide) (by decide)) | (with_reducible refine T_li ?_) | (with_reducible refine T_ite (fun _ => ?_) (fun _ => ?_)) | (with_reducible refine T_cl ?_ (fun _ => ?_)))

theorem tt_x_X0_onPlace (a0 : Int32) (a1 : Int32) : T [] [] (x_X0_onPlace a0 a1) := by
  unfold x_X0_onPlace
  repeat (first | (with_reducible exact T_rt _) | (with_reducible intro _) | (with_reducible exact (tt_x_X0_kindOf _).mono (by decide) (by decide)) | (with_reducible exact (tt_x_X1_ofClass _ _).mono (by decide) (by decide)) | (with_reducible exact (tt_x_X0_sizeOf _).mono (by decide) (by decide)) | (with_reducible exact T_RF) | (with_reducible exact T_GT) | (with_reducible exact T_GD) | (with_reducible exact T_GS) | (with_reducible exact T_WF (by decide)) | (with_reducible exact T_ST (by decide)) | (with_reducible exact T_SD (by decide)) | (with_reducible exact T_SS (by decide) (by decide)) | (with_reducible exact T_FL (by decide)) | (with_reducible exact T_FS (by decide) (by decide)) | (with_reducible refine T_li ?_) | (with_reducible refine T_ite (fun _ => ?_) (fun _ => ?_)) | (with_reducible refine T_cl ?_ (fun _ => ?_)))

theorem tt_x_X0_stepsOf (a0 : Int32) : T [] [] (x_X0_stepsOf a0) := by
  unfold x_X0_stepsOf
  repeat (first | (with_reducible exact T_rt _) | (with_reducible intro _) | (with_reducible exact T_RF) | (with_reducible exact T_GT) | (with_reducible exact T_GD) | (with_reducible exact T_GS) | (with_reducible exact T_WF (by decide)) | (with_reducible exact T_ST (by decide)) | (with_reducible exact T_SD (by decide)) | (with_reducible exact T_SS (by decide) (by decide)) | (with_reducible exact T_FL (by decide)) | (with_reducible exact T_FS (by decide) (by decide)) | (with_reducible refine T_li ?_) | (with_reducible refine T_ite (fun _ => ?_) (fun _ => ?_)) | (with_reducible refine T_cl ?_ (fun _ => ?_)))

theorem tt_x_X0_fightsOf (a0 : Int32) : T [] [] (x_X0_fightsOf a0) := by
  unfold x_X0_fightsOf
  repeat (first | (with_reducible exact T_rt _) | (with_reducible intro _) | (with_reducible exact (tt_x_X0_sizeOf _).mono (by decide) (by decide)) | (with_reducible exact (tt_x_X0_kindOf _).mono (by decide) (by decide)) | (with_reducible exact (tt_x_X0_stepsOf _).mono (by decide) (by decide)) | (with_reducible exact T_RF) | (with_reducible exact T_GT) | (with_reducible exact T_GD) | (with_reducible exact T_GS) | (with_reducible exact T_WF (by decide)) | (with_reducible exact T_ST (by decide)) | (with_reducible exact T_SD (by decide)) | (with_reducible exact T_SS (by decide) (by decide)) | (with_reducible exact T_FL (by decide)) | (with_reducible exact T_FS (by decide) (by decide)) | (with_reducible refine T_li ?_) | (with_reducible refine T_ite (fun _ => ?_) (fun _ => ?_)) | (with_reducible refine T_cl ?_ (fun _ => ?_)))

theorem tt_x_X11_isClass (a0 : Int32) : T [] [] (x_X11_isClass a0) := by
  unfold x_X11_isClass
  repeat (first | (with_reducible exact T_rt _) | (with_reducible intro _) | (with_reducible exact T_RF) | (with_reducible exact T_GT) | (with_reducible exact T_GD) | (with_reducible exact T_GS) | (with_reducible exact T_WF (by decide)) | (with_reducible exact T_ST (by decide)) | (with_reducible exact T_SD (by decide)) | (with_reducible exact T_SS (by decide) (by decide)) | (with_reducible exact T_FL (by decide)) | (with_reducible exact T_FS (by decide) (by decide)) | (with_reducible refine T_li ?_) | (with_reducible refine T_ite (fun _ => ?_) (fun _ => ?_)) | (with_reducible refine T_cl ?_ (fun _ => ?_)))

theorem tt_x_X0_has (a0 : Int32) (a1 : Int32) : T [] [] (x_X0_has a0 a1) := by
  unfold x_X0_has
  repeat (first | (with_reducible exact T_rt _) | (with_reducible intro _) | (with_reducible exact (tt_x_X11_isClass _).mono (by decide) (by decide)) | (with_reducible exact (tt_x_X0_fightsOf _).mono (by decide) (by decide)) | (with_reducible exact T_RF) | (with_reducible exact T_GT) | (with_reducible exact T_GD) | (with_reducible exact T_GS) | (with_reducible exact T_WF (by decide)) | (with_reducible exact T_ST (by decide)) | (with_reducible exact T_SD (by decide)) | (with_reducible exact T_SS (by decide) (by decide)) | (with_reducible exact T_FL (by decide)) | (with_reducible exact T_FS (by decide) (by decide)) | (with_reducible refine T_li ?_) | (with_reducible refine T_ite (fun _ => ?_) (fun _ => ?_)) | (with_reducible refine T_cl ?_ (fun _ => ?_)))

theorem tt_x_X0_whiteOf (a0 : Int32) (a1 : Int32) : T [] [] (x_X0_whiteOf a0 a1) := by
  unfold x_X0_whiteOf
  repeat (first | (with_reducible exact T_rt _) | (with_reducible intro _) | (with_reducible exact (tt_x_X0_slot _ _).mono (by decide) (by decide)) | (with_reducible exact T_RF) | (with_reducible exact T_GT) | (with_reducible exact T_GD) | (with_reducible exact T_GS) | (with_reducible exact T_WF (by decide)) | (with_reducible exact T_ST (by decide)) | (with_reducible exact T_SD (by decide)) | (with_reducible exact T_SS (by decide) (by decide)) | (with_reducible exact T_FL (by decide)) | (with_reducible exact T_FS (by decide) (by decide)) | (with_reducible refine T_li ?_) | (with_reducible refine T_ite (fun _ => ?_) (fun _ => ?_)) | (with_reducible refine T_cl ?_ (fun _ => ?_)))

theorem tt_x_X0_blueOf (a0 : Int32) (a1 : Int32) : T [] [] (x_X0_blueOf a0 a1) := by
  unfold x_X0_blueOf
  repeat (first | (with_reducible exact T_rt _) | (with_reducible intro _) | (with_reducible exact (tt_x_X0_slot _ _).mono (by decide) (by decide)) | (with_reducible exact T_RF) | (with_reducible exact T_GT) | (with_reducible exact T_GD) | (with_reducible exact T_GS) | (with_reducible exact T_WF (by decide)) | (with_reducible exact T_ST (by decide)) | (with_reducible exact T_SD (by decide)) | (with_reducible exact T_SS (by decide) (by decide)) | (with_reducible exact T_FL (by decide)) | (with_reducible exact T_FS (by decide) (by decide)) | (with_reducible refine T_li ?_) | (with_reducible refine T_ite (fun _ => ?_) (fun _ => ?_)) | (with_reducible refine T_cl ?_ (fun _ => ?_)))

theorem tt_x_X0_winnerOf (a0 : Int32) (a1 : Int32) : T [] [] (x_X0_winnerOf a0 a1) := by
  unfold x_X0_winnerOf
  repeat (first | (with_reducible exact T_rt _) | (with_reducible intro _) | (with_reducible exact (tt_x_X0_slot _ _).mono (by decide) (by decide)) | (with_reducible exact T_RF) | (with_reducible exact T_GT) | (with_reducible exact T_GD) | (with_reducible exact T_GS) | (with_reducible exact T_WF (by decide)) | (with_reducible exact T_ST (by decide)) | (with_reducible exact T_SD (by decide)) | (with_reducible exact T_SS (by decide) (by decide)) | (with_reducible exact T_FL (by decide)) | (with_reducible exact T_FS (by decide) (by decide)) | (with_reducible refine T_li ?_) | (with_reducible refine T_ite (fun _ => ?_) (fun _ => ?_)) | (with_reducible refine T_cl ?_ (fun _ => ?_)))

theorem tt_x_X0_stateOf (a0 : Int32) (a1 : Int32) : T [] [] (x_X0_stateOf a0 a1) := by
  unfold x_X0_stateOf
  repeat (first | (with_reducible exact T_rt _) | (with_reducible intro _) | (with_reducible exact (tt_x_X0_slot _ _).mono (by decide) (by decide)) | (with_reducible exact T_RF) | (with_reducible exact T_GT) | (with_reducible exact T_GD) | (with_reducible exact T_GS) | (with_reducible exact T_WF (by decide)) | (with_reducible exact T_ST (by decide)) | (with_reducible exact T_SD (by decide)) | (with_reducible exact T_SS (by decide) (by decide)) | (with_reducible exact T_FL (by decide)) | (with_reducible exact T_FS (by decide) (by decide)) | (with_reducible refine T_li ?_) | (with_reducible refine T_ite (fun _ => ?_) (fun _ => ?_)) | (with_reducible refine T_cl ?_ (fun _ => ?_)))

theorem tt_x_X0_loserOf (a0 : Int32) (a1 : Int32) : T [] [] (x_X0_loserOf a0 a1) := by
  unfold x_X0_loserOf
  repeat (first | (with_reducible exact T_rt _) | (with_reducible intro _) | (with_reducible exact (tt_x_X0_winnerOf _ _).mono (by decide) (by decide)) | (with_reducible exact (tt_x_X0_whiteOf _ _).mono (by decide) (by decide)) | (with_reducible exact (tt_x_X0_blueOf _ _).mono (by decide) (by decide)) | (with_reducible exact T_RF) | (with_reducible exact T_GT) | (with_reducible exact T_GD) | (with_reducible exact T_GS) | (with_reducible exact T_WF (by decide)) | (with_reducible exact T_ST (by decide)) | (with_reducible exact T_SD (by decide)) | (with_reducible exact T_SS (by decide) (by decide)) | (with_reducible exact T_FL (by decide)) | (with_reducible exact T_FS (by decide) (by decide)) | (with_reducible refine T_li ?_) | (with_reducible refine T_ite (fun _ => ?_) (fun _ => ?_)) | (with_reducible refine T_cl ?_ (fun _ => ?_)))

theorem tt_xl_X0_howMany_5 (K : Int32 → Int32 → Int32 → Int32 → NG Int32) : ∀ (n : Nat) (v1 v2 v3 v4 : Int32), msr v4 ≤ n → (∀ (v3' v4' : Int32), T [] [] (K v1 v2 v3' v4')) → T [] [] (xl_X0_howMany_5 n v1 v2 v3 v4 K) := by
  intro n
  induction n with
  | zero =>
    intro v1 v2 v3 v4 hm _
    exact absurd hm (msr_0 _)
  | succ n ih =>
    intro v1 v2 v3 v4 hm hK
    unfold xl_X0_howMany_5
    repeat (first | (with_reducible exact T_rt _) | (with_reducible intro _) | (with_reducible exact hK _ _) | (with_reducible exact ih _ _ _ _ (msr_up (by assumption) hm) hK) | (with_reducible exact (tt_x_X0_fightsOf _).mono (by decide) (by decide)) | (with_reducible exact (tt_x_X0_stateOf _ _).mono (by decide) (by decide)) | (with_reducible exact T_RF) | (with_reducible exact T_GT) | (with_reducible exact T_GD) | (with_reducible exact T_GS) | (with_reducible exact T_WF (by decide)) | (with_reducible exact T_ST (by decide)) | (with_reducible exact T_SD (by decide)) | (with_reducible exact T_SS (by decide) (by decide)) | (with_reducible exact T_FL (by decide)) | (with_reducible exact T_FS (by decide) (by decide)) | (with_reducible refine T_li ?_) | (with_reducible refine T_ite (fun _ => ?_) (fun _ => ?_)) | (with_reducible refine T_cl ?_ (fun _ => ?_)))

theorem tt_x_X0_howMany (a0 : Int32) (a1 : Int32) : T [] [] (x_X0_howMany a0 a1) := by
  unfold x_X0_howMany
  repeat (first | (with_reducible exact T_rt _) | (with_reducible intro _) | (with_reducible refine tt_xl_X0_howMany_5 _ fuel _ _ _ _ (msr_fuel _) ?_) | (with_reducible exact T_RF) | (with_reducible exact T_GT) | (with_reducible exact T_GD) | (with_reducible exact T_GS) | (with_reducible exact T_WF (by decide)) | (with_reducible exact T_ST (by decide)) | (with_reducible exact T_SD (by decide)) | (with_reducible exact T_SS (by decide) (by decide)) | (with_reducible exact T_FL (by decide)) | (with_reducible exact T_FS (by decide) (by decide)) | (with_reducible refine T_li ?_) | (with_reducible refine T_ite (fun _ => ?_) (fun _ => ?_)) | (with_reducible refine T_cl ?_ (fun _ => ?_)))

theorem tt_x_X0_settleWalk (a0 : Int32) (a1 : Int32) (a2 : Int32) (a3 : Int32) : T [] [13, 14, 15, 16] (x_X0_settleWalk a0 a1 a2 a3) := by
  unfold x_X0_settleWalk
  repeat (first | (with_reducible exact T_rt _) | (with_reducible intro _) | (with_reducible exact (tt_x_X0_slot _ _).mono (by decide) (by decide)) | (with_reducible exact T_RF) | (with_reducible exact T_GT) | (with_reducible exact T_GD) | (with_reducible exact T_GS) | (with_reducible exact T_WF (by decide)) | (with_reducible exact T_ST (by decide)) | (with_reducible exact T_SD (by decide)) | (with_reducible exact T_SS (by decide) (by decide)) | (with_reducible exact T_FL (by decide)) | (with_reducible exact T_FS (by decide) (by decide)) | (with_reducible refine T_li ?_) | (with_reducible refine T_ite (fun _ => ?_) (fun _ => ?_)) | (with_reducible refine T_cl ?_ (fun _ => ?_)))

theorem tt_x_X1_ofFight (a0 : Int32) (a1 : Int32) (a2 : Int32) : T [] [] (x_X1_ofFight a0 a1 a2) := by
  unfold x_X1_ofFight
  repeat (first | (with_reducible exact T_rt _) | (with_reducible intro _) | (with_reducible exact (tt_x_X0_slot _ _).mono (by decide) (by decide)) | (with_reducible exact T_RF) | (with_reducible exact T_GT) | (with_reducible exact T_GD) | (with_reducible exact T_GS) | (with_reducible exact T_WF (by decide)) | (with_reducible exact T_ST (by decide)) | (with_reducible exact T_SD (by decide)) | (with_reducible exact T_SS (by decide) (by decide)) | (with_reducible exact T_FL (by decide)) | (with_reducible exact T_FS (by decide) (by decide)) | (with_reducible refine T_li ?_) | (with_reducible refine T_ite (fun _ => ?_) (fun _ => ?_)) | (with_reducible refine T_cl ?_ (fun _ => ?_)))

theorem tt_x_X0_settleFight (a0 : Int32) (a1 : Int32) (a2 : Int32) (a3 : Int32) : T [] [13, 14, 15, 16] (x_X0_settleFight a0 a1 a2 a3) := by
  unfold x_X0_settleFight
  repeat (first | (with_reducible exact T_rt _) | (with_reducible intro _) | (with_reducible exact (tt_x_X1_ofFight _ _ _).mono (by decide) (by decide)) | (with_reducible exact (tt_x_X0_slot _ _).mono (by decide) (by decide)) | (with_reducible exact T_RF) | (with_reducible exact T_GT) | (with_reducible exact T_GD) | (with_reducible exact T_GS) | (with_reducible exact T_WF (by decide)) | (with_reducible exact T_ST (by decide)) | (with_reducible exact T_SD (by decide)) | (with_reducible exact T_SS (by decide) (by decide)) | (with_reducible exact T_FL (by decide)) | (with_reducible exact T_FS (by decide) (by decide)) | (with_reducible refine T_li ?_) | (with_reducible refine T_ite (fun _ => ?_) (fun _ => ?_)) | (with_reducible refine T_cl ?_ (fun _ => ?_)))

theorem tt_x_X0_lowerBelow (a0 : Int32) (a1 : Int32) : T [] [] (x_X0_lowerBelow a0 a1) := by
  unfold x_X0_lowerBelow
  repeat (first | (with_reducible exact T_rt _) | (with_reducible intro _) | (with_reducible exact T_RF) | (with_reducible exact T_GT) | (with_reducible exact T_GD) | (with_reducible exact T_GS) | (with_reducible exact T_WF (by decide)) | (with_reducible exact T_ST (by decide)) | (with_reducible exact T_SD (by decide)) | (with_reducible exact T_SS (by decide) (by decide)) | (with_reducible exact T_FL (by decide)) | (with_reducible exact T_FS (by decide) (by decide)) | (with_reducible refine T_li ?_) | (with_reducible refine T_ite (fun _ => ?_) (fun _ => ?_)) | (with_reducible refine T_cl ?_ (fun _ => ?_)))

theorem tt_xl_X0_settleTree_2 (K : Int32 → Int32 → Int32 → NG Int32) : ∀ (n : Nat) (v1 v2 v3 : Int32), msr v3 ≤ n → (∀ (v3' : Int32), T [] [13, 14, 15, 16] (K v1 v2 v3')) → T [] [13, 14, 15, 16] (xl_X0_settleTree_2 n v1 v2 v3 K) := by
  intro n
  induction n with
  | zero =>
    intro v1 v2 v3 hm _
    exact absurd hm (msr_0 _)
  | succ n ih =>
    intro v1 v2 v3 hm hK
    unfold xl_X0_settleTree_2
    repeat (first | (with_reducible exact T_rt _) | (with_reducible intro _) | (with_reducible exact hK _) | (with_reducible exact ih _ _ _ (msr_up (by assumption) hm) hK) | (with_reducible exact (tt_x_X1_ofClass _ _).mono (by decide) (by decide)) | (with_reducible exact (tt_x_X0_settleWalk _ _ _ _).mono (by decide) (by decide)) | (with_reducible exact (tt_x_X0_settleFight _ _ _ _).mono (by decide) (by decide)) | (with_reducible exact T_RF) | (with_reducible exact T_GT) | (with_reducible exact T_GD) | (with_reducible exact T_GS) | (with_reducible exact T_WF (by decide)) | (with_reducible exact T_ST (by decide)) | (with_reducible exact T_SD (by decide)) | (with_reducible exact T_SS (by decide) (by decide)) | (with_reducible exact T_FL (by decide)) | (with_reducible exact T_FS (by decide) (by decide)) | (with_reducible refine T_li ?_) | (with_reducible refine T_ite (fun _ => ?_) (fun _ => ?_)) | (with_reducible refine T_cl ?_ (fun _ => ?_)))

theorem tt_xl_X0_settleTree_92 (K : Int32 → Int32 → Int32 → NG Int32) : ∀ (n : Nat) (v1 v2 v3 : Int32), msr v3 ≤ n → (∀ (v3' : Int32), T [] [13, 14, 15, 16] (K v1 v2 v3')) → T [] [13, 14, 15, 16] (xl_X0_settleTree_92 n v1 v2 v3 K) := by
  intro n
  induction n with
  | zero =>
    intro v1 v2 v3 hm _
    exact absurd hm (msr_0 _)
  | succ n ih =>
    intro v1 v2 v3 hm hK
    unfold xl_X0_settleTree_92
    repeat (first | (with_reducible exact T_rt _) | (with_reducible intro _) | (with_reducible exact hK _) | (with_reducible exact ih _ _ _ (msr_up (by assumption) hm) hK) | (with_reducible exact (tt_x_X0_lowerBelow _ _).mono (by decide) (by decide)) | (with_reducible exact (tt_x_X0_winnerOf _ _).mono (by decide) (by decide)) | (with_reducible exact (tt_x_X0_settleFight _ _ _ _).mono (by decide) (by decide)) | (with_reducible exact T_RF) | (with_reducible exact T_GT) | (with_reducible exact T_GD) | (with_reducible exact T_GS) | (with_reducible exact T_WF (by decide)) | (with_reducible exact T_ST (by decide)) | (with_reducible exact T_SD (by decide)) | (with_reducible exact T_SS (by decide) (by decide)) | (with_reducible exact T_FL (by decide)) | (with_reducible exact T_FS (by decide) (by decide)) | (with_reducible refine T_li ?_) | (with_reducible refine T_ite (fun _ => ?_) (fun _ => ?_)) | (with_reducible refine T_cl ?_ (fun _ => ?_)))

theorem tt_x_X0_settleTree (a0 : Int32) (a1 : Int32) : T [] [13, 14, 15, 16] (x_X0_settleTree a0 a1) := by
  unfold x_X0_settleTree
  repeat (first | (with_reducible exact T_rt _) | (with_reducible intro _) | (with_reducible refine tt_xl_X0_settleTree_2 _ fuel _ _ _ (msr_fuel _) ?_) | (with_reducible refine tt_xl_X0_settleTree_92 _ fuel _ _ _ (msr_fuel _) ?_) | (with_reducible exact T_RF) | (with_reducible exact T_GT) | (with_reducible exact T_GD) | (with_reducible exact T_GS) | (with_reducible exact T_WF (by decide)) | (with_reducible exact T_ST (by decide)) | (with_reducible exact T_SD (by decide)) | (with_reducible exact T_SS (by decide) (by decide)) | (with_reducible exact T_FL (by decide)) | (with_reducible exact T_FS (by decide) (by decide)) | (with_reducible refine T_li ?_) | (with_reducible refine T_ite (fun _ => ?_) (fun _ => ?_)) | (with_reducible refine T_cl ?_ (fun _ => ?_)))

theorem tt_xl_X0_findLosersTo_21 (K : Int32 → Int32 → Int32 → Int32 → Int32 → Int32 → NG Int32) : ∀ (n : Nat) (v1 v2 v3 v4 v5 v6 : Int32), mdr v6 ≤ n → (∀ (v5' v6' : Int32), T [] [17] (K v1 v2 v3 v4 v5' v6')) → T [] [17] (xl_X0_findLosersTo_21 n v1 v2 v3 v4 v5 v6 K) := by
  intro n
  induction n with
  | zero =>
    intro v1 v2 v3 v4 v5 v6 hm _
    exact absurd hm (mdr_0 _)
  | succ n ih =>
    intro v1 v2 v3 v4 v5 v6 hm hK
    unfold xl_X0_findLosersTo_21
    repeat (first | (with_reducible exact T_rt _) | (with_reducible intro _) | (with_reducible exact hK _ _) | (with_reducible exact ih _ _ _ _ _ _ (mdr_dn (by assumption) hm) hK) | (with_reducible exact (tt_x_X0_whiteOf _ _).mono (by decide) (by decide)) | (with_reducible exact (tt_x_X0_lowerBelow _ _).mono (by decide) (by decide)) | (with_reducible exact (tt_x_X0_blueOf _ _).mono (by decide) (by decide)) | (with_reducible exact T_RF) | (with_reducible exact T_GT) | (with_reducible exact T_GD) | (with_reducible exact T_GS) | (with_reducible exact T_WF (by decide)) | (with_reducible exact T_ST (by decide)) | (with_reducible exact T_SD (by decide)) | (with_reducible exact T_SS (by decide) (by decide)) | (with_reducible exact T_FL (by decide)) | (with_reducible exact T_FS (by decide) (by decide)) | (with_reducible refine T_li ?_) | (with_reducible refine T_ite (fun _ => ?_) (fun _ => ?_)) | (with_reducible refine T_cl ?_ (fun _ => ?_)))

theorem tt_x_X0_findLosersTo (a0 : Int32) (a1 : Int32) (a2 : Int32) (a3 : Int32) : T [] [17] (x_X0_findLosersTo a0 a1 a2 a3) := by
  unfold x_X0_findLosersTo
  repeat (first | (with_reducible exact T_rt _) | (with_reducible intro _) | (with_reducible refine tt_xl_X0_findLosersTo_21 _ fuel _ _ _ _ _ _ (mdr_fuel _) ?_) | (with_reducible exact (tt_x_X0_stepsOf _).mono (by decide) (by decide)) | (with_reducible exact T_RF) | (with_reducible exact T_GT) | (with_reducible exact T_GD) | (with_reducible exact T_GS) | (with_reducible exact T_WF (by decide)) | (with_reducible exact T_ST (by decide)) | (with_reducible exact T_SD (by decide)) | (with_reducible exact T_SS (by decide) (by decide)) | (with_reducible exact T_FL (by decide)) | (with_reducible exact T_FS (by decide) (by decide)) | (with_reducible refine T_li ?_) | (with_reducible refine T_ite (fun _ => ?_) (fun _ => ?_)) | (with_reducible refine T_cl ?_ (fun _ => ?_)))

theorem tt_xl_X0_settleLives_40 (K : Int32 → Int32 → Int32 → Int32 → Int32 → Int32 → Int32 → NG Int32) : ∀ (n : Nat) (v1 v2 v3 v4 v5 v6 v7 : Int32), v4.toInt < 2147483647 → msr v7 ≤ n → (∀ (v1 v2 v3 v4 v5 v6 v7 : Int32), T [] [13, 14, 15, 16, 17] (K v1 v2 v3 v4 v5 v6 v7)) → T [] [13, 14, 15, 16, 17] (xl_X0_settleLives_40 n v1 v2 v3 v4 v5 v6 v7 K) := by
  intro n
  induction n with
  | zero =>
    intro v1 v2 v3 v4 v5 v6 v7 _ hm _
    exact absurd hm (msr_0 _)
  | succ n ih =>
    intro v1 v2 v3 v4 v5 v6 v7 h4 hm hK
    unfold xl_X0_settleLives_40
    repeat (first | (with_reducible exact hK _ _ _ _ _ _ _) | (with_reducible exact ih _ _ _ _ _ _ _ h4 (msr_lt (by assumption) h4 hm) hK) | (with_reducible exact (tt_x_X0_settleFight _ _ _ _).mono (by decide) (by decide)) | (with_reducible exact (tt_x_X0_settleWalk _ _ _ _).mono (by decide) (by decide)) | (with_reducible exact (tt_x_X0_winnerOf _ _).mono (by decide) (by decide)) | (with_reducible exact T_GT) | (with_reducible refine T_li ?_) | (with_reducible refine T_ite (fun _ => ?_) (fun _ => ?_)) | (with_reducible refine T_cl ?_ (fun _ => ?_)))

theorem stepsOf_c (a : Int32) : x_X0_stepsOf a = nrt 1 ∨ x_X0_stepsOf a = nrt 2 ∨ x_X0_stepsOf a = nrt 3 := by
  unfold x_X0_stepsOf
  by_cases h : 8 < a
  · rw [if_pos h]
    by_cases h2 : 16 < a
    · rw [if_pos h2]; exact Or.inr (Or.inr rfl)
    · rw [if_neg h2]; exact Or.inr (Or.inl rfl)
  · rw [if_neg h]; exact Or.inl rfl
theorem tt_x_X0_settleLives (a0 a1 a2 : Int32) : T [] [13, 14, 15, 16, 17] (x_X0_settleLives a0 a1 a2) := by
  have h : ∀ c : Int32, c.toInt < 2147483647 → ∀ (u : MS) (K : Int32 → Int32 → Int32 → Int32 → Int32 → Int32 → Int32 → NG Int32) (n : Nat), (∀ v, msr v ≤ n) → (∀ v1 v2 v3 v4 v5 v6 v7, T [] [13, 14, 15, 16, 17] (K v1 v2 v3 v4 v5 v6 v7)) → Tu [] [13, 14, 15, 16, 17] (ncl (x_X0_winnerOf a0 ((a1 - 4) + a2)) (fun r_4 => ncl (x_X0_findLosersTo a0 a1 a2 r_4) (fun r_7 => ncl (nGT 17 4 0) (fun x_10 => xl_X0_settleLives_40 n a0 a1 a2 c r_4 x_10 1 K)))) u := fun c hc u K n hn hK =>
    (T_cl ((tt_x_X0_winnerOf _ _).mono (by decide) (by decide)) (fun _ => T_cl ((tt_x_X0_findLosersTo _ _ _ _).mono (by decide) (by decide)) (fun _ => T_cl T_GT (fun _ => tt_xl_X0_settleLives_40 _ n _ _ _ _ _ _ _ hc (hn _) hK)))) u
  unfold x_X0_settleLives
  rcases stepsOf_c a1 with e | e | e <;> rw [e] <;> refine T_nrt (T_of (fun u => h _ (by decide) u _ fuel msr_fuel (fun _ _ _ _ _ _ _ => T_rt _)))

theorem tt_xl_X0_settlePool_14 (K : Int32 → Int32 → Int32 → Int32 → Int32 → NG Int32) : ∀ (n : Nat) (v1 v2 v3 v4 v5 : Int32), msr (v5 + v4) ≤ n → (∀ (v3' v5' : Int32), T [] [13, 14, 15, 16] (K v1 v2 v3' v4 v5')) → T [] [13, 14, 15, 16] (xl_X0_settlePool_14 n v1 v2 v3 v4 v5 K) := by
  intro n
  induction n with
  | zero =>
    intro v1 v2 v3 v4 v5 hm _
    exact absurd hm (msr_0 _)
  | succ n ih =>
    intro v1 v2 v3 v4 v5 hm hK
    unfold xl_X0_settlePool_14
    refine T_ite (fun _ => hK _ _) (fun h => ?_)
    have h9 : msr (v5 + 1 + v4) ≤ n := by
      have e : v5 + 1 + v4 = v5 + v4 + 1 := by rw [Int32.add_assoc, Int32.add_comm 1 v4, ← Int32.add_assoc]
      rw [e]
      exact msr_up h hm
    exact T_cl ((tt_x_X1_ofClass _ _).mono (by decide) (by decide)) (fun _ => T_cl T_GT (fun _ => T_cl ((tt_x_X1_ofClass _ _).mono (by decide) (by decide)) (fun _ => T_cl T_GT (fun _ => T_cl ((tt_x_X0_settleFight _ _ _ _).mono (by decide) (by decide)) (fun _ => T_li (T_li (ih _ _ _ _ _ h9 hK)))))))

theorem tt_xl_X0_settlePool_5 (K : Int32 → Int32 → Int32 → Int32 → NG Int32) : ∀ (n : Nat) (v1 v2 v3 v4 : Int32), msr v4 ≤ n → (∀ (v3' v4' : Int32), T [] [13, 14, 15, 16] (K v1 v2 v3' v4')) → T [] [13, 14, 15, 16] (xl_X0_settlePool_5 n v1 v2 v3 v4 K) := by
  intro n
  induction n with
  | zero =>
    intro v1 v2 v3 v4 hm _
    exact absurd hm (msr_0 _)
  | succ n ih =>
    intro v1 v2 v3 v4 hm hK
    unfold xl_X0_settlePool_5
    repeat (first | (with_reducible exact T_rt _) | (with_reducible intro _) | (with_reducible exact hK _ _) | (with_reducible exact ih _ _ _ _ (msr_up (by assumption) hm) hK) | (with_reducible refine tt_xl_X0_settlePool_14 _ fuel _ _ _ _ _ (msr_fuel _) ?_) | (with_reducible exact T_RF) | (with_reducible exact T_GT) | (with_reducible exact T_GD) | (with_reducible exact T_GS) | (with_reducible exact T_WF (by decide)) | (with_reducible exact T_ST (by decide)) | (with_reducible exact T_SD (by decide)) | (with_reducible exact T_SS (by decide) (by decide)) | (with_reducible exact T_FL (by decide)) | (with_reducible exact T_FS (by decide) (by decide)) | (with_reducible refine T_li ?_) | (with_reducible refine T_ite (fun _ => ?_) (fun _ => ?_)) | (with_reducible refine T_cl ?_ (fun _ => ?_)))

theorem tt_x_X0_settlePool (a0 : Int32) (a1 : Int32) : T [] [13, 14, 15, 16] (x_X0_settlePool a0 a1) := by
  unfold x_X0_settlePool
  repeat (first | (with_reducible exact T_rt _) | (with_reducible intro _) | (with_reducible refine tt_xl_X0_settlePool_5 _ fuel _ _ _ _ (msr_fuel _) ?_) | (with_reducible exact T_RF) | (with_reducible exact T_GT) | (with_reducible exact T_GD) | (with_reducible exact T_GS) | (with_reducible exact T_WF (by decide)) | (with_reducible exact T_ST (by decide)) | (with_reducible exact T_SD (by decide)) | (with_reducible exact T_SS (by decide) (by decide)) | (with_reducible exact T_FL (by decide)) | (with_reducible exact T_FS (by decide) (by decide)) | (with_reducible refine T_li ?_) | (with_reducible refine T_ite (fun _ => ?_) (fun _ => ?_)) | (with_reducible refine T_cl ?_ (fun _ => ?_)))

theorem tt_x_X0_settle (a0 : Int32) : T [] [13, 14, 15, 16, 17] (x_X0_settle a0) := by
  unfold x_X0_settle
  repeat (first | (with_reducible exact T_rt _) | (with_reducible intro _) | (with_reducible exact (tt_x_X0_kindOf _).mono (by decide) (by decide)) | (with_reducible exact (tt_x_X0_sizeOf _).mono (by decide) (by decide)) | (with_reducible exact (tt_x_X0_settlePool _ _).mono (by decide) (by decide)) | (with_reducible exact (tt_x_X0_settleTree _ _).mono (by decide) (by decide)) | (with_reducible exact (tt_x_X0_settleLives _ _ _).mono (by decide) (by decide)) | (with_reducible exact T_RF) | (with_reducible exact T_GT) | (with_reducible exact T_GD) | (with_reducible exact T_GS) | (with_reducible exact T_WF (by decide)) | (with_reducible exact T_ST (by decide)) | (with_reducible exact T_SD (by decide)) | (with_reducible exact T_SS (by decide) (by decide)) | (with_reducible exact T_FL (by decide)) | (with_reducible exact T_FS (by decide) (by decide)) | (with_reducible refine T_li ?_) | (with_reducible refine T_ite (fun _ => ?_) (fun _ => ?_)) | (with_reducible refine T_cl ?_ (fun _ => ?_)))

theorem tt_xl_X0_firstStale_2 (K : Int32 → Int32 → NG Int32) : ∀ (n : Nat) (v1 v2 : Int32), msr v2 ≤ n → (∀ (v2' : Int32), T [] [] (K v1 v2')) → T [] [] (xl_X0_firstStale_2 n v1 v2 K) := by
  intro n
  induction n with
  | zero =>
    intro v1 v2 hm _
    exact absurd hm (msr_0 _)
  | succ n ih =>
    intro v1 v2 hm hK
    unfold xl_X0_firstStale_2
    repeat (first | (with_reducible exact T_rt _) | (with_reducible intro _) | (with_reducible exact hK _) | (with_reducible exact ih _ _ (msr_up (by assumption) hm) hK) | (with_reducible exact (tt_x_X0_fightsOf _).mono (by decide) (by decide)) | (with_reducible exact (tt_x_X1_ofFight _ _ _).mono (by decide) (by decide)) | (with_reducible exact (tt_x_X0_whiteOf _ _).mono (by decide) (by decide)) | (with_reducible exact (tt_x_X0_blueOf _ _).mono (by decide) (by decide)) | (with_reducible exact T_RF) | (with_reducible exact T_GT) | (with_reducible exact T_GD) | (with_reducible exact T_GS) | (with_reducible exact T_WF (by decide)) | (with_reducible exact T_ST (by decide)) | (with_reducible exact T_SD (by decide)) | (with_reducible exact T_SS (by decide) (by decide)) | (with_reducible exact T_FL (by decide)) | (with_reducible exact T_FS (by decide) (by decide)) | (with_reducible refine T_li ?_) | (with_reducible refine T_ite (fun _ => ?_) (fun _ => ?_)) | (with_reducible refine T_cl ?_ (fun _ => ?_)))

theorem tt_x_X0_firstStale (a0 : Int32) : T [] [] (x_X0_firstStale a0) := by
  unfold x_X0_firstStale
  repeat (first | (with_reducible exact T_rt _) | (with_reducible intro _) | (with_reducible refine tt_xl_X0_firstStale_2 _ fuel _ _ (msr_fuel _) ?_) | (with_reducible exact T_RF) | (with_reducible exact T_GT) | (with_reducible exact T_GD) | (with_reducible exact T_GS) | (with_reducible exact T_WF (by decide)) | (with_reducible exact T_ST (by decide)) | (with_reducible exact T_SD (by decide)) | (with_reducible exact T_SS (by decide) (by decide)) | (with_reducible exact T_FL (by decide)) | (with_reducible exact T_FS (by decide) (by decide)) | (with_reducible refine T_li ?_) | (with_reducible refine T_ite (fun _ => ?_) (fun _ => ?_)) | (with_reducible refine T_cl ?_ (fun _ => ?_)))

theorem tt_x_X0_stepOf (a0 : Int32) (a1 : Int32) : T [] [] (x_X0_stepOf a0 a1) := by
  unfold x_X0_stepOf
  repeat (first | (with_reducible exact T_rt _) | (with_reducible intro _) | (with_reducible exact (tt_x_X0_stepsOf _).mono (by decide) (by decide)) | (with_reducible exact T_RF) | (with_reducible exact T_GT) | (with_reducible exact T_GD) | (with_reducible exact T_GS) | (with_reducible exact T_WF (by decide)) | (with_reducible exact T_ST (by decide)) | (with_reducible exact T_SD (by decide)) | (with_reducible exact T_SS (by decide) (by decide)) | (with_reducible exact T_FL (by decide)) | (with_reducible exact T_FS (by decide) (by decide)) | (with_reducible refine T_li ?_) | (with_reducible refine T_ite (fun _ => ?_) (fun _ => ?_)) | (with_reducible refine T_cl ?_ (fun _ => ?_)))

theorem tt_xl_X0_stageOf_41 (K : Int32 → Int32 → Int32 → Int32 → Int32 → NG Int32) : ∀ (n : Nat) (v1 v2 v3 v4 v5 : Int32), msr v4 ≤ n → (∀ (v4' v5' : Int32), T [] [] (K v1 v2 v3 v4' v5')) → T [] [] (xl_X0_stageOf_41 n v1 v2 v3 v4 v5 K) := by
  intro n
  induction n with
  | zero =>
    intro v1 v2 v3 v4 v5 hm _
    exact absurd hm (msr_0 _)
  | succ n ih =>
    intro v1 v2 v3 v4 v5 hm hK
    unfold xl_X0_stageOf_41
    repeat (first | (with_reducible exact T_rt _) | (with_reducible intro _) | (with_reducible exact hK _ _) | (with_reducible exact ih _ _ _ _ _ (msr_up (by assumption) hm) hK) | (with_reducible exact T_RF) | (with_reducible exact T_GT) | (with_reducible exact T_GD) | (with_reducible exact T_GS) | (with_reducible exact T_WF (by decide)) | (with_reducible exact T_ST (by decide)) | (with_reducible exact T_SD (by decide)) | (with_reducible exact T_SS (by decide) (by decide)) | (with_reducible exact T_FL (by decide)) | (with_reducible exact T_FS (by decide) (by decide)) | (with_reducible refine T_li ?_) | (with_reducible refine T_ite (fun _ => ?_) (fun _ => ?_)) | (with_reducible refine T_cl ?_ (fun _ => ?_)))

theorem tt_x_X0_stageOf (a0 : Int32) (a1 : Int32) : T [] [] (x_X0_stageOf a0 a1) := by
  unfold x_X0_stageOf
  repeat (first | (with_reducible exact T_rt _) | (with_reducible intro _) | (with_reducible refine tt_xl_X0_stageOf_41 _ fuel _ _ _ _ _ (msr_fuel _) ?_) | (with_reducible exact (tt_x_X0_sizeOf _).mono (by decide) (by decide)) | (with_reducible exact (tt_x_X0_kindOf _).mono (by decide) (by decide)) | (with_reducible exact (tt_x_X0_stepOf _ _).mono (by decide) (by decide)) | (with_reducible exact T_RF) | (with_reducible exact T_GT) | (with_reducible exact T_GD) | (with_reducible exact T_GS) | (with_reducible exact T_WF (by decide)) | (with_reducible exact T_ST (by decide)) | (with_reducible exact T_SD (by decide)) | (with_reducible exact T_SS (by decide) (by decide)) | (with_reducible exact T_FL (by decide)) | (with_reducible exact T_FS (by decide) (by decide)) | (with_reducible refine T_li ?_) | (with_reducible refine T_ite (fun _ => ?_) (fun _ => ?_)) | (with_reducible refine T_cl ?_ (fun _ => ?_)))

theorem tt_x_X0_aheadOf (a0 : Int32) (a1 : Int32) (a2 : Int32) : T [] [] (x_X0_aheadOf a0 a1 a2) := by
  unfold x_X0_aheadOf
  repeat (first | (with_reducible exact T_rt _) | (with_reducible intro _) | (with_reducible exact (tt_x_X0_sizeOf _).mono (by decide) (by decide)) | (with_reducible exact (tt_x_X0_kindOf _).mono (by decide) (by decide)) | (with_reducible exact (tt_x_X0_stepsOf _).mono (by decide) (by decide)) | (with_reducible exact (tt_x_X0_stepOf _ _).mono (by decide) (by decide)) | (with_reducible exact (tt_x_X0_lowerBelow _ _).mono (by decide) (by decide)) | (with_reducible exact T_RF) | (with_reducible exact T_GT) | (with_reducible exact T_GD) | (with_reducible exact T_GS) | (with_reducible exact T_WF (by decide)) | (with_reducible exact T_ST (by decide)) | (with_reducible exact T_SD (by decide)) | (with_reducible exact T_SS (by decide) (by decide)) | (with_reducible exact T_FL (by decide)) | (with_reducible exact T_FS (by decide) (by decide)) | (with_reducible refine T_li ?_) | (with_reducible refine T_ite (fun _ => ?_) (fun _ => ?_)) | (with_reducible refine T_cl ?_ (fun _ => ?_)))

theorem tt_x_X1_ofFighter (a0 : Int32) (a1 : Int32) : T [] [] (x_X1_ofFighter a0 a1) := by
  unfold x_X1_ofFighter
  repeat (first | (with_reducible exact T_rt _) | (with_reducible intro _) | (with_reducible exact T_RF) | (with_reducible exact T_GT) | (with_reducible exact T_GD) | (with_reducible exact T_GS) | (with_reducible exact T_WF (by decide)) | (with_reducible exact T_ST (by decide)) | (with_reducible exact T_SD (by decide)) | (with_reducible exact T_SS (by decide) (by decide)) | (with_reducible exact T_FL (by decide)) | (with_reducible exact T_FS (by decide) (by decide)) | (with_reducible refine T_li ?_) | (with_reducible refine T_ite (fun _ => ?_) (fun _ => ?_)) | (with_reducible refine T_cl ?_ (fun _ => ?_)))

theorem tt_x_X1_ofMat (a0 : Int32) (a1 : Int32) : T [] [] (x_X1_ofMat a0 a1) := by
  unfold x_X1_ofMat
  repeat (first | (with_reducible exact T_rt _) | (with_reducible intro _) | (with_reducible exact T_RF) | (with_reducible exact T_GT) | (with_reducible exact T_GD) | (with_reducible exact T_GS) | (with_reducible exact T_WF (by decide)) | (with_reducible exact T_ST (by decide)) | (with_reducible exact T_SD (by decide)) | (with_reducible exact T_SS (by decide) (by decide)) | (with_reducible exact T_FL (by decide)) | (with_reducible exact T_FS (by decide) (by decide)) | (with_reducible refine T_li ?_) | (with_reducible refine T_ite (fun _ => ?_) (fun _ => ?_)) | (with_reducible refine T_cl ?_ (fun _ => ?_)))

theorem tt_xl_X1_takeBack_33 (K : Int32 → Int32 → NG Int32) (v1 : Int32) (h1 : ¬ v1 < 0) : ∀ (n : Nat) (v2 : Int32), mdr v2 ≤ n → (∀ (v1 v2 : Int32), T [0, 1] [0] (K v1 v2)) → T [0, 1] [0] (xl_X1_takeBack_33 n v1 v2 K) := by
  intro n
  induction n with
  | zero =>
    intro v2 hm _
    exact absurd hm (mdr_0 _)
  | succ n ih =>
    intro v2 hm hK
    unfold xl_X1_takeBack_33
    refine T_ite (fun _ => hK _ _) (fun h => ?_)
    have h9 : ¬ v2 < 0 := by
      rw [Int32.lt_iff_toInt_lt] at h h1 ⊢
      rw [i32_0] at h1 ⊢
      omega
    exact T_cl T_GD (fun _ => T_cl T_GD (fun _ => T_cl (T_ST (by decide)) (fun _ => T_li (ih _ (mdr_dn h9 hm) hK))))

theorem tt_x_X1_takeBack : T [0, 1] [0] (x_X1_takeBack) := by
  unfold x_X1_takeBack
  refine T_cl T_RF (fun _ => T_cl (T_WF (by decide)) (fun _ => T_cl T_RF (fun _ => T_cl T_GT (fun x => T_li (T_cl T_RF (fun _ => T_li ?_))))))
  refine tt_xl_X1_takeBack_33 _ _ ?_ fuel _ (mdr_fuel _) (fun _ _ => T_cl (T_WF (by decide)) (fun _ => T_rt _))
  by_cases h : x < 0
  · rw [if_pos h]; decide
  · rw [if_neg h]; exact h

theorem tt_xl_X2_makeRow_18 (K : Int32 → Int32 → Int32 → NG Int32) (v1 v2 : Int32) (hK : ∀ v3, T [] [11] (K v1 v2 v3)) : ∀ (n : Nat) (v3 : Int32), msr v3 ≤ n → T [] [11] (xl_X2_makeRow_18 n v1 v2 v3 K) := by
  intro n
  induction n with
  | zero =>
    intro v3 hm
    exact absurd hm (msr_0 _)
  | succ n ih =>
    intro v3 hm
    unfold xl_X2_makeRow_18
    exact T_ite (fun _ => hK _) (fun h => T_cl T_GT (fun _ => T_li (T_cl (T_ST (by decide)) (fun _ => T_cl (T_ST (by decide)) (fun _ => T_li (ih _ (msr_up h hm)))))))

theorem tt_xl_X2_makeRow_11 (K : Int32 → Int32 → NG Int32) (v1 : Int32) (h1 : v1.toInt ≤ 32) (hK : ∀ v1 v2, T [] [11] (K v1 v2)) : ∀ (t j n : Nat), j + t = 5 → t < n → T [] [11] (xl_X2_makeRow_11 n v1 (nI (2 ^ j)) K) := by
  intro t
  induction t with
  | zero =>
    intro j n hj hn
    cases n with
    | zero => omega
    | succ n =>
      have : j = 5 := by omega
      subst this
      unfold xl_X2_makeRow_11
      refine T_ite (fun _ => hK _ _) (fun h => absurd ?_ h)
      rw [Int32.le_iff_toInt_le]
      have : (nI (2 ^ 5)).toInt = 32 := by decide
      omega
  | succ t ih =>
    intro j n hj hn
    cases n with
    | zero => omega
    | succ n =>
      unfold xl_X2_makeRow_11
      refine T_ite (fun _ => hK _ _) (fun _ => ?_)
      have e : nI (2 ^ j) * 2 = nI (2 ^ (j + 1)) := by
        have h9 := nI_mul (2 ^ j) 2
        rw [Nat.pow_succ]
        exact h9
      have h9 := ih (j + 1) n (by omega) (by omega)
      rw [← e] at h9
      exact tt_xl_X2_makeRow_18 _ v1 (nI (2 ^ j)) (fun _ => T_li h9) fuel 0 (msr_fuel _)

theorem tt_x_X2_makeRow (a0 : Int32) (h : a0.toInt ≤ 32) : T [] [11] (x_X2_makeRow a0) := by
  unfold x_X2_makeRow
  exact T_cl (T_ST (by decide)) (fun _ => tt_xl_X2_makeRow_11 _ a0 h (fun _ _ => T_rt _) 5 0 fuel (by omega) (by unfold fuel; omega))

theorem tt_x_X2_isSeed (a0 : Int32) : T [] [] (x_X2_isSeed a0) := by
  unfold x_X2_isSeed
  repeat (first | (with_reducible exact T_rt _) | (with_reducible intro _) | (with_reducible exact (tt_x_X1_ofFighter _ _).mono (by decide) (by decide)) | (with_reducible exact T_RF) | (with_reducible exact T_GT) | (with_reducible exact T_GD) | (with_reducible exact T_GS) | (with_reducible exact T_WF (by decide)) | (with_reducible exact T_ST (by decide)) | (with_reducible exact T_SD (by decide)) | (with_reducible exact T_SS (by decide) (by decide)) | (with_reducible exact T_FL (by decide)) | (with_reducible exact T_FS (by decide) (by decide)) | (with_reducible refine T_li ?_) | (with_reducible refine T_ite (fun _ => ?_) (fun _ => ?_)) | (with_reducible refine T_cl ?_ (fun _ => ?_)))

theorem tt_xl_X2_largestClub_4 (K : Int32 → Int32 → NG Int32) : ∀ (n : Nat) (v1 v2 : Int32), msr v2 ≤ n → (∀ (v1' v2' : Int32), T [] [] (K v1' v2')) → T [] [] (xl_X2_largestClub_4 n v1 v2 K) := by
  intro n
  induction n with
  | zero =>
    intro v1 v2 hm _
    exact absurd hm (msr_0 _)
  | succ n ih =>
    intro v1 v2 hm hK
    unfold xl_X2_largestClub_4
    repeat (first | (with_reducible exact T_rt _) | (with_reducible intro _) | (with_reducible exact hK _ _) | (with_reducible exact ih _ _ (msr_up (by assumption) hm) hK) | (with_reducible exact T_RF) | (with_reducible exact T_GT) | (with_reducible exact T_GD) | (with_reducible exact T_GS) | (with_reducible exact T_WF (by decide)) | (with_reducible exact T_ST (by decide)) | (with_reducible exact T_SD (by decide)) | (with_reducible exact T_SS (by decide) (by decide)) | (with_reducible exact T_FL (by decide)) | (with_reducible exact T_FS (by decide) (by decide)) | (with_reducible refine T_li ?_) | (with_reducible refine T_ite (fun _ => ?_) (fun _ => ?_)) | (with_reducible refine T_cl ?_ (fun _ => ?_)))

theorem tt_x_X2_largestClub : T [] [] (x_X2_largestClub) := by
  unfold x_X2_largestClub
  repeat (first | (with_reducible exact T_rt _) | (with_reducible intro _) | (with_reducible refine tt_xl_X2_largestClub_4 _ fuel _ _ (msr_fuel _) ?_) | (with_reducible exact T_RF) | (with_reducible exact T_GT) | (with_reducible exact T_GD) | (with_reducible exact T_GS) | (with_reducible exact T_WF (by decide)) | (with_reducible exact T_ST (by decide)) | (with_reducible exact T_SD (by decide)) | (with_reducible exact T_SS (by decide) (by decide)) | (with_reducible exact T_FL (by decide)) | (with_reducible exact T_FS (by decide) (by decide)) | (with_reducible refine T_li ?_) | (with_reducible refine T_ite (fun _ => ?_) (fun _ => ?_)) | (with_reducible refine T_cl ?_ (fun _ => ?_)))

theorem shr1 (v : Int32) : (v >>> (1 &&& 31)).toInt = v.toInt / 2 := by
  have e : ((1 : Int32) &&& 31) = 1 := by decide
  rw [e]
  have e2 : (v >>> (1 : Int32)).toBitVec = v.toBitVec.sshiftRight 1 := rfl
  show (v >>> (1 : Int32)).toBitVec.toInt = _
  rw [e2, BitVec.toInt_sshiftRight, Int.shiftRight_eq_div_pow]
  rfl
theorem tt_xl_X2_meetingRound_8 (K : Int32 → Int32 → Int32 → Int32 → NG Int32) : ∀ (n : Nat) (v0 v1 v2 v3 : Int32), v3.toInt < n → 0 < n → (∀ (v0 v1 v2 v3 : Int32), T [] [] (K v0 v1 v2 v3)) → T [] [] (xl_X2_meetingRound_8 n v0 v1 v2 v3 K) := by
  intro n
  induction n with
  | zero =>
    intro v0 v1 v2 v3 _ hm _
    omega
  | succ n ih =>
    intro v0 v1 v2 v3 h0 hm hK
    unfold xl_X2_meetingRound_8
    refine T_ite (fun _ => hK _ _ _ _) (fun h => T_li (T_li ?_))
    have h1 := i32_nle h
    rw [i32_0] at h1
    have h1' : 0 < v3.toInt := by
      rw [Int32.le_iff_toInt_le, i32_0] at h
      omega
    have h2 := shr1 v3
    exact ih _ _ _ _ (by rw [h2]; omega) (by omega) hK

theorem tt_x_X2_meetingRound (a0 a1 : Int32) : T [] [] (x_X2_meetingRound a0 a1) := by
  unfold x_X2_meetingRound
  refine T_li (tt_xl_X2_meetingRound_8 _ fuel _ _ _ _ ?_ (by unfold fuel; omega) (fun _ _ _ _ => T_rt _))
  have h := i32_b ((a0 ^^^ a1) >>> (1 &&& 31))
  unfold fuel
  omega

theorem tt_xl_X2_firstMeeting_21 (K : Int32 → Int32 → Int32 → Int32 → Int32 → Int32 → NG Int32) : ∀ (n : Nat) (v1 v2 v3 v4 v5 v6 : Int32), msr v6 ≤ n → (∀ (v4' v6' : Int32), T [] [] (K v1 v2 v3 v4' v5 v6')) → T [] [] (xl_X2_firstMeeting_21 n v1 v2 v3 v4 v5 v6 K) := by
  intro n
  induction n with
  | zero =>
    intro v1 v2 v3 v4 v5 v6 hm _
    exact absurd hm (msr_0 _)
  | succ n ih =>
    intro v1 v2 v3 v4 v5 v6 hm hK
    unfold xl_X2_firstMeeting_21
    repeat (first | (with_reducible exact T_rt _) | (with_reducible intro _) | (with_reducible exact hK _ _) | (with_reducible exact ih _ _ _ _ _ _ (msr_up (by assumption) hm) hK) | (with_reducible exact (tt_x_X1_ofClass _ _).mono (by decide) (by decide)) | (with_reducible exact (tt_x_X1_ofFighter _ _).mono (by decide) (by decide)) | (with_reducible exact (tt_x_X2_meetingRound _ _).mono (by decide) (by decide)) | (with_reducible exact T_RF) | (with_reducible exact T_GT) | (with_reducible exact T_GD) | (with_reducible exact T_GS) | (with_reducible exact T_WF (by decide)) | (with_reducible exact T_ST (by decide)) | (with_reducible exact T_SD (by decide)) | (with_reducible exact T_SS (by decide) (by decide)) | (with_reducible exact T_FL (by decide)) | (with_reducible exact T_FS (by decide) (by decide)) | (with_reducible refine T_li ?_) | (with_reducible refine T_ite (fun _ => ?_) (fun _ => ?_)) | (with_reducible refine T_cl ?_ (fun _ => ?_)))

theorem tt_x_X2_firstMeeting (a0 : Int32) (a1 : Int32) (a2 : Int32) : T [] [] (x_X2_firstMeeting a0 a1 a2) := by
  unfold x_X2_firstMeeting
  repeat (first | (with_reducible exact T_rt _) | (with_reducible intro _) | (with_reducible refine tt_xl_X2_firstMeeting_21 _ fuel _ _ _ _ _ _ (msr_fuel _) ?_) | (with_reducible exact (tt_x_X1_ofClass _ _).mono (by decide) (by decide)) | (with_reducible exact T_RF) | (with_reducible exact T_GT) | (with_reducible exact T_GD) | (with_reducible exact T_GS) | (with_reducible exact T_WF (by decide)) | (with_reducible exact T_ST (by decide)) | (with_reducible exact T_SD (by decide)) | (with_reducible exact T_SS (by decide) (by decide)) | (with_reducible exact T_FL (by decide)) | (with_reducible exact T_FS (by decide) (by decide)) | (with_reducible refine T_li ?_) | (with_reducible refine T_ite (fun _ => ?_) (fun _ => ?_)) | (with_reducible refine T_cl ?_ (fun _ => ?_)))

theorem tt_xl_X2_bestPlace_9 (K : Int32 → Int32 → Int32 → Int32 → Int32 → Int32 → NG Int32) : ∀ (n : Nat) (v1 v2 v3 v4 v5 v6 : Int32), msr v6 ≤ n → (∀ (v4' v5' v6' : Int32), T [] [] (K v1 v2 v3 v4' v5' v6')) → T [] [] (xl_X2_bestPlace_9 n v1 v2 v3 v4 v5 v6 K) := by
  intro n
  induction n with
  | zero =>
    intro v1 v2 v3 v4 v5 v6 hm _
    exact absurd hm (msr_0 _)
  | succ n ih =>
    intro v1 v2 v3 v4 v5 v6 hm hK
    unfold xl_X2_bestPlace_9
    repeat (first | (with_reducible exact T_rt _) | (with_reducible intro _) | (with_reducible exact hK _ _ _) | (with_reducible exact ih _ _ _ _ _ _ (msr_up (by assumption) hm) hK) | (with_reducible exact (tt_x_X1_ofClass _ _).mono (by decide) (by decide)) | (with_reducible exact (tt_x_X2_firstMeeting _ _ _).mono (by decide) (by decide)) | (with_reducible exact T_RF) | (with_reducible exact T_GT) | (with_reducible exact T_GD) | (with_reducible exact T_GS) | (with_reducible exact T_WF (by decide)) | (with_reducible exact T_ST (by decide)) | (with_reducible exact T_SD (by decide)) | (with_reducible exact T_SS (by decide) (by decide)) | (with_reducible exact T_FL (by decide)) | (with_reducible exact T_FS (by decide) (by decide)) | (with_reducible refine T_li ?_) | (with_reducible refine T_ite (fun _ => ?_) (fun _ => ?_)) | (with_reducible refine T_cl ?_ (fun _ => ?_)))

theorem tt_x_X2_bestPlace (a0 : Int32) (a1 : Int32) (a2 : Int32) : T [] [] (x_X2_bestPlace a0 a1 a2) := by
  unfold x_X2_bestPlace
  repeat (first | (with_reducible exact T_rt _) | (with_reducible intro _) | (with_reducible refine tt_xl_X2_bestPlace_9 _ fuel _ _ _ _ _ _ (msr_fuel _) ?_) | (with_reducible exact T_RF) | (with_reducible exact T_GT) | (with_reducible exact T_GD) | (with_reducible exact T_GS) | (with_reducible exact T_WF (by decide)) | (with_reducible exact T_ST (by decide)) | (with_reducible exact T_SD (by decide)) | (with_reducible exact T_SS (by decide) (by decide)) | (with_reducible exact T_FL (by decide)) | (with_reducible exact T_FS (by decide) (by decide)) | (with_reducible refine T_li ?_) | (with_reducible refine T_ite (fun _ => ?_) (fun _ => ?_)) | (with_reducible refine T_cl ?_ (fun _ => ?_)))

theorem tt_x_X3_on (a0 : Int32) (a1 : Int32) : T [] [] (x_X3_on a0 a1) := by
  unfold x_X3_on
  repeat (first | (with_reducible exact T_rt _) | (with_reducible intro _) | (with_reducible exact (tt_x_X1_ofMat _ _).mono (by decide) (by decide)) | (with_reducible exact T_RF) | (with_reducible exact T_GT) | (with_reducible exact T_GD) | (with_reducible exact T_GS) | (with_reducible exact T_WF (by decide)) | (with_reducible exact T_ST (by decide)) | (with_reducible exact T_SD (by decide)) | (with_reducible exact T_SS (by decide) (by decide)) | (with_reducible exact T_FL (by decide)) | (with_reducible exact T_FS (by decide) (by decide)) | (with_reducible refine T_li ?_) | (with_reducible refine T_ite (fun _ => ?_) (fun _ => ?_)) | (with_reducible refine T_cl ?_ (fun _ => ?_)))

theorem tt_x_X3_isFree (a0 : Int32) : T [] [] (x_X3_isFree a0) := by
  unfold x_X3_isFree
  repeat (first | (with_reducible exact T_rt _) | (with_reducible intro _) | (with_reducible exact (tt_x_X3_on _ _).mono (by decide) (by decide)) | (with_reducible exact T_RF) | (with_reducible exact T_GT) | (with_reducible exact T_GD) | (with_reducible exact T_GS) | (with_reducible exact T_WF (by decide)) | (with_reducible exact T_ST (by decide)) | (with_reducible exact T_SD (by decide)) | (with_reducible exact T_SS (by decide) (by decide)) | (with_reducible exact T_FL (by decide)) | (with_reducible exact T_FS (by decide) (by decide)) | (with_reducible refine T_li ?_) | (with_reducible refine T_ite (fun _ => ?_) (fun _ => ?_)) | (with_reducible refine T_cl ?_ (fun _ => ?_)))

theorem tt_x_X3_classOn (a0 : Int32) : T [] [] (x_X3_classOn a0) := by
  unfold x_X3_classOn
  repeat (first | (with_reducible exact T_rt _) | (with_reducible intro _) | (with_reducible exact (tt_x_X3_on _ _).mono (by decide) (by decide)) | (with_reducible exact T_RF) | (with_reducible exact T_GT) | (with_reducible exact T_GD) | (with_reducible exact T_GS) | (with_reducible exact T_WF (by decide)) | (with_reducible exact T_ST (by decide)) | (with_reducible exact T_SD (by decide)) | (with_reducible exact T_SS (by decide) (by decide)) | (with_reducible exact T_FL (by decide)) | (with_reducible exact T_FS (by decide) (by decide)) | (with_reducible refine T_li ?_) | (with_reducible refine T_ite (fun _ => ?_) (fun _ => ?_)) | (with_reducible refine T_cl ?_ (fun _ => ?_)))

theorem tt_x_X3_waits (a0 : Int32) : T [] [] (x_X3_waits a0) := by
  unfold x_X3_waits
  repeat (first | (with_reducible exact T_rt _) | (with_reducible intro _) | (with_reducible exact (tt_x_X3_isFree _).mono (by decide) (by decide)) | (with_reducible exact (tt_x_X3_on _ _).mono (by decide) (by decide)) | (with_reducible exact T_RF) | (with_reducible exact T_GT) | (with_reducible exact T_GD) | (with_reducible exact T_GS) | (with_reducible exact T_WF (by decide)) | (with_reducible exact T_ST (by decide)) | (with_reducible exact T_SD (by decide)) | (with_reducible exact T_SS (by decide) (by decide)) | (with_reducible exact T_FL (by decide)) | (with_reducible exact T_FS (by decide) (by decide)) | (with_reducible refine T_li ?_) | (with_reducible refine T_ite (fun _ => ?_) (fun _ => ?_)) | (with_reducible refine T_cl ?_ (fun _ => ?_)))

theorem tt_x_X3_goesOn (a0 : Int32) : T [] [] (x_X3_goesOn a0) := by
  unfold x_X3_goesOn
  repeat (first | (with_reducible exact T_rt _) | (with_reducible intro _) | (with_reducible exact (tt_x_X3_isFree _).mono (by decide) (by decide)) | (with_reducible exact (tt_x_X3_on _ _).mono (by decide) (by decide)) | (with_reducible exact T_RF) | (with_reducible exact T_GT) | (with_reducible exact T_GD) | (with_reducible exact T_GS) | (with_reducible exact T_WF (by decide)) | (with_reducible exact T_ST (by decide)) | (with_reducible exact T_SD (by decide)) | (with_reducible exact T_SS (by decide) (by decide)) | (with_reducible exact T_FL (by decide)) | (with_reducible exact T_FS (by decide) (by decide)) | (with_reducible refine T_li ?_) | (with_reducible refine T_ite (fun _ => ?_) (fun _ => ?_)) | (with_reducible refine T_cl ?_ (fun _ => ?_)))

theorem tt_x_X3_signsOf (a0 : Int32) (a1 : Int32) (a2 : Int32) : T [] [] (x_X3_signsOf a0 a1 a2) := by
  unfold x_X3_signsOf
  repeat (first | (with_reducible exact T_rt _) | (with_reducible intro _) | (with_reducible exact (tt_x_X3_on _ _).mono (by decide) (by decide)) | (with_reducible exact T_RF) | (with_reducible exact T_GT) | (with_reducible exact T_GD) | (with_reducible exact T_GS) | (with_reducible exact T_WF (by decide)) | (with_reducible exact T_ST (by decide)) | (with_reducible exact T_SD (by decide)) | (with_reducible exact T_SS (by decide) (by decide)) | (with_reducible exact T_FL (by decide)) | (with_reducible exact T_FS (by decide) (by decide)) | (with_reducible refine T_li ?_) | (with_reducible refine T_ite (fun _ => ?_) (fun _ => ?_)) | (with_reducible refine T_cl ?_ (fun _ => ?_)))

theorem tt_xl_X3_openFights_4 (K : Int32 → Int32 → NG Int32) : ∀ (n : Nat) (v1 v2 : Int32), msr v2 ≤ n → (∀ (v1' v2' : Int32), T [] [] (K v1' v2')) → T [] [] (xl_X3_openFights_4 n v1 v2 K) := by
  intro n
  induction n with
  | zero =>
    intro v1 v2 hm _
    exact absurd hm (msr_0 _)
  | succ n ih =>
    intro v1 v2 hm hK
    unfold xl_X3_openFights_4
    repeat (first | (with_reducible exact T_rt _) | (with_reducible intro _) | (with_reducible exact hK _ _) | (with_reducible exact ih _ _ (msr_up (by assumption) hm) hK) | (with_reducible exact (tt_x_X3_isFree _).mono (by decide) (by decide)) | (with_reducible exact T_RF) | (with_reducible exact T_GT) | (with_reducible exact T_GD) | (with_reducible exact T_GS) | (with_reducible exact T_WF (by decide)) | (with_reducible exact T_ST (by decide)) | (with_reducible exact T_SD (by decide)) | (with_reducible exact T_SS (by decide) (by decide)) | (with_reducible exact T_FL (by decide)) | (with_reducible exact T_FS (by decide) (by decide)) | (with_reducible refine T_li ?_) | (with_reducible refine T_ite (fun _ => ?_) (fun _ => ?_)) | (with_reducible refine T_cl ?_ (fun _ => ?_)))

theorem tt_x_X3_openFights : T [] [] (x_X3_openFights) := by
  unfold x_X3_openFights
  repeat (first | (with_reducible exact T_rt _) | (with_reducible intro _) | (with_reducible refine tt_xl_X3_openFights_4 _ fuel _ _ (msr_fuel _) ?_) | (with_reducible exact T_RF) | (with_reducible exact T_GT) | (with_reducible exact T_GD) | (with_reducible exact T_GS) | (with_reducible exact T_WF (by decide)) | (with_reducible exact T_ST (by decide)) | (with_reducible exact T_SD (by decide)) | (with_reducible exact T_SS (by decide) (by decide)) | (with_reducible exact T_FL (by decide)) | (with_reducible exact T_FS (by decide) (by decide)) | (with_reducible refine T_li ?_) | (with_reducible refine T_ite (fun _ => ?_) (fun _ => ?_)) | (with_reducible refine T_cl ?_ (fun _ => ?_)))

theorem tt_x_X3_fighterOn (a0 : Int32) (a1 : Int32) : T [] [] (x_X3_fighterOn a0 a1) := by
  unfold x_X3_fighterOn
  repeat (first | (with_reducible exact T_rt _) | (with_reducible intro _) | (with_reducible exact (tt_x_X3_on _ _).mono (by decide) (by decide)) | (with_reducible exact (tt_x_X1_ofFight _ _ _).mono (by decide) (by decide)) | (with_reducible exact T_RF) | (with_reducible exact T_GT) | (with_reducible exact T_GD) | (with_reducible exact T_GS) | (with_reducible exact T_WF (by decide)) | (with_reducible exact T_ST (by decide)) | (with_reducible exact T_SD (by decide)) | (with_reducible exact T_SS (by decide) (by decide)) | (with_reducible exact T_FL (by decide)) | (with_reducible exact T_FS (by decide) (by decide)) | (with_reducible refine T_li ?_) | (with_reducible refine T_ite (fun _ => ?_) (fun _ => ?_)) | (with_reducible refine T_cl ?_ (fun _ => ?_)))

theorem tt_xl_X3_isHeld_2 (K : Int32 → Int32 → NG Int32) : ∀ (n : Nat) (v1 v2 : Int32), msr v2 ≤ n → (∀ (v2' : Int32), T [] [] (K v1 v2')) → T [] [] (xl_X3_isHeld_2 n v1 v2 K) := by
  intro n
  induction n with
  | zero =>
    intro v1 v2 hm _
    exact absurd hm (msr_0 _)
  | succ n ih =>
    intro v1 v2 hm hK
    unfold xl_X3_isHeld_2
    repeat (first | (with_reducible exact T_rt _) | (with_reducible intro _) | (with_reducible exact hK _) | (with_reducible exact ih _ _ (msr_up (by assumption) hm) hK) | (with_reducible exact (tt_x_X3_isFree _).mono (by decide) (by decide)) | (with_reducible exact (tt_x_X3_fighterOn _ _).mono (by decide) (by decide)) | (with_reducible exact T_RF) | (with_reducible exact T_GT) | (with_reducible exact T_GD) | (with_reducible exact T_GS) | (with_reducible exact T_WF (by decide)) | (with_reducible exact T_ST (by decide)) | (with_reducible exact T_SD (by decide)) | (with_reducible exact T_SS (by decide) (by decide)) | (with_reducible exact T_FL (by decide)) | (with_reducible exact T_FS (by decide) (by decide)) | (with_reducible refine T_li ?_) | (with_reducible refine T_ite (fun _ => ?_) (fun _ => ?_)) | (with_reducible refine T_cl ?_ (fun _ => ?_)))

theorem tt_x_X3_isHeld (a0 : Int32) : T [] [] (x_X3_isHeld a0) := by
  unfold x_X3_isHeld
  repeat (first | (with_reducible exact T_rt _) | (with_reducible intro _) | (with_reducible refine tt_xl_X3_isHeld_2 _ fuel _ _ (msr_fuel _) ?_) | (with_reducible exact (tt_x_X1_ofFighter _ _).mono (by decide) (by decide)) | (with_reducible exact T_RF) | (with_reducible exact T_GT) | (with_reducible exact T_GD) | (with_reducible exact T_GS) | (with_reducible exact T_WF (by decide)) | (with_reducible exact T_ST (by decide)) | (with_reducible exact T_SD (by decide)) | (with_reducible exact T_SS (by decide) (by decide)) | (with_reducible exact T_FL (by decide)) | (with_reducible exact T_FS (by decide) (by decide)) | (with_reducible refine T_li ?_) | (with_reducible refine T_ite (fun _ => ?_) (fun _ => ?_)) | (with_reducible refine T_cl ?_ (fun _ => ?_)))

theorem tt_x_X4_startOf (L : MS) (a0 : Int32) : T [] [] (x_X4_startOf L a0) := by
  unfold x_X4_startOf
  repeat (first | (with_reducible exact T_rt _) | (with_reducible intro _) | (with_reducible exact T_RF) | (with_reducible exact T_GT) | (with_reducible exact T_GD) | (with_reducible exact T_GS) | (with_reducible exact T_WF (by decide)) | (with_reducible exact T_ST (by decide)) | (with_reducible exact T_SD (by decide)) | (with_reducible exact T_SS (by decide) (by decide)) | (with_reducible exact T_FL (by decide)) | (with_reducible exact T_FS (by decide) (by decide)) | (with_reducible refine T_li ?_) | (with_reducible refine T_ite (fun _ => ?_) (fun _ => ?_)) | (with_reducible refine T_cl ?_ (fun _ => ?_)))

theorem tt_x_X4_kindAt (L : MS) (a0 : Int32) : T [] [] (x_X4_kindAt L a0) := by
  unfold x_X4_kindAt
  repeat (first | (with_reducible exact T_rt _) | (with_reducible intro _) | (with_reducible exact T_RF) | (with_reducible exact T_GT) | (with_reducible exact T_GD) | (with_reducible exact T_GS) | (with_reducible exact T_WF (by decide)) | (with_reducible exact T_ST (by decide)) | (with_reducible exact T_SD (by decide)) | (with_reducible exact T_SS (by decide) (by decide)) | (with_reducible exact T_FL (by decide)) | (with_reducible exact T_FS (by decide) (by decide)) | (with_reducible refine T_li ?_) | (with_reducible refine T_ite (fun _ => ?_) (fun _ => ?_)) | (with_reducible refine T_cl ?_ (fun _ => ?_)))

theorem tt_x_X3_pop : T [16] [] (x_X3_pop) := by
  unfold x_X3_pop
  repeat (first | (with_reducible exact T_rt _) | (with_reducible intro _) | (with_reducible exact T_RF) | (with_reducible exact T_GT) | (with_reducible exact T_GD) | (with_reducible exact T_GS) | (with_reducible exact T_WF (by decide)) | (with_reducible exact T_ST (by decide)) | (with_reducible exact T_SD (by decide)) | (with_reducible exact T_SS (by decide) (by decide)) | (with_reducible exact T_FL (by decide)) | (with_reducible exact T_FS (by decide) (by decide)) | (with_reducible refine T_li ?_) | (with_reducible refine T_ite (fun _ => ?_) (fun _ => ?_)) | (with_reducible refine T_cl ?_ (fun _ => ?_)))

theorem tt_x_X3_workOn (a0 : Int32) (a1 : Int32) (a2 : Int32) : T [] [] (x_X3_workOn a0 a1 a2) := by
  unfold x_X3_workOn
  repeat (first | (with_reducible exact T_rt _) | (with_reducible intro _) | (with_reducible exact T_RF) | (with_reducible exact T_GT) | (with_reducible exact T_GD) | (with_reducible exact T_GS) | (with_reducible exact T_WF (by decide)) | (with_reducible exact T_ST (by decide)) | (with_reducible exact T_SD (by decide)) | (with_reducible exact T_SS (by decide) (by decide)) | (with_reducible exact T_FL (by decide)) | (with_reducible exact T_FS (by decide) (by decide)) | (with_reducible refine T_li ?_) | (with_reducible refine T_ite (fun _ => ?_) (fun _ => ?_)) | (with_reducible refine T_cl ?_ (fun _ => ?_)))

theorem tt_x_X3_push (a0 : Int32) : T [16] [18] (x_X3_push a0) := by
  unfold x_X3_push
  repeat (first | (with_reducible exact T_rt _) | (with_reducible intro _) | (with_reducible exact T_RF) | (with_reducible exact T_GT) | (with_reducible exact T_GD) | (with_reducible exact T_GS) | (with_reducible exact T_WF (by decide)) | (with_reducible exact T_ST (by decide)) | (with_reducible exact T_SD (by decide)) | (with_reducible exact T_SS (by decide) (by decide)) | (with_reducible exact T_FL (by decide)) | (with_reducible exact T_FS (by decide) (by decide)) | (with_reducible refine T_li ?_) | (with_reducible refine T_ite (fun _ => ?_) (fun _ => ?_)) | (with_reducible refine T_cl ?_ (fun _ => ?_)))

theorem tt_x_X4_valueAt (L : MS) (a0 : Int32) : T [] [] (x_X4_valueAt L a0) := by
  unfold x_X4_valueAt
  repeat (first | (with_reducible exact T_rt _) | (with_reducible intro _) | (with_reducible exact T_RF) | (with_reducible exact T_GT) | (with_reducible exact T_GD) | (with_reducible exact T_GS) | (with_reducible exact T_WF (by decide)) | (with_reducible exact T_ST (by decide)) | (with_reducible exact T_SD (by decide)) | (with_reducible exact T_SS (by decide) (by decide)) | (with_reducible exact T_FL (by decide)) | (with_reducible exact T_FS (by decide) (by decide)) | (with_reducible refine T_li ?_) | (with_reducible refine T_ite (fun _ => ?_) (fun _ => ?_)) | (with_reducible refine T_cl ?_ (fun _ => ?_)))

theorem tt_x_X3_valueOf (a0 : Int32) (a1 : Int32) (a2 : Int32) (a3 : Int32) : T [] [] (x_X3_valueOf a0 a1 a2 a3) := by
  unfold x_X3_valueOf
  repeat (first | (with_reducible exact T_rt _) | (with_reducible intro _) | (with_reducible exact (tt_x_X3_on _ _).mono (by decide) (by decide)) | (with_reducible exact (tt_x_X3_signsOf _ _ _).mono (by decide) (by decide)) | (with_reducible exact T_RF) | (with_reducible exact T_GT) | (with_reducible exact T_GD) | (with_reducible exact T_GS) | (with_reducible exact T_WF (by decide)) | (with_reducible exact T_ST (by decide)) | (with_reducible exact T_SD (by decide)) | (with_reducible exact T_SS (by decide) (by decide)) | (with_reducible exact T_FL (by decide)) | (with_reducible exact T_FS (by decide) (by decide)) | (with_reducible refine T_li ?_) | (with_reducible refine T_ite (fun _ => ?_) (fun _ => ?_)) | (with_reducible refine T_cl ?_ (fun _ => ?_)))

theorem tt_xl_X3_holds_12 (L : MS) (K : Int32 → Int32 → Int32 → Int32 → NG Int32) : ∀ (n : Nat) (v2 v3 v4 v5 : Int32), msr v5 ≤ n → (∀ (v5' : Int32), T [16] [18] (K v2 v3 v4 v5')) → T [16] [18] (xl_X3_holds_12 L n v2 v3 v4 v5 K) := by
  intro n
  induction n with
  | zero =>
    intro v2 v3 v4 v5 hm _
    exact absurd hm (msr_0 _)
  | succ n ih =>
    intro v2 v3 v4 v5 hm hK
    unfold xl_X3_holds_12
    repeat (first | (with_reducible exact T_rt _) | (with_reducible intro _) | (with_reducible exact hK _) | (with_reducible exact ih _ _ _ _ (msr_up (by assumption) hm) hK) | (with_reducible exact (tt_x_X4_kindAt _ _).mono (by decide) (by decide)) | (with_reducible exact (tt_x_X3_pop).mono (by decide) (by decide)) | (with_reducible exact (tt_x_X3_push _).mono (by decide) (by decide)) | (with_reducible exact (tt_x_X3_workOn _ _ _).mono (by decide) (by decide)) | (with_reducible exact (tt_x_X4_valueAt _ _).mono (by decide) (by decide)) | (with_reducible exact (tt_x_X3_valueOf _ _ _ _).mono (by decide) (by decide)) | (with_reducible exact T_RF) | (with_reducible exact T_GT) | (with_reducible exact T_GD) | (with_reducible exact T_GS) | (with_reducible exact T_WF (by decide)) | (with_reducible exact T_ST (by decide)) | (with_reducible exact T_SD (by decide)) | (with_reducible exact T_SS (by decide) (by decide)) | (with_reducible exact T_FL (by decide)) | (with_reducible exact T_FS (by decide) (by decide)) | (with_reducible refine T_li ?_) | (with_reducible refine T_ite (fun _ => ?_) (fun _ => ?_)) | (with_reducible refine T_cl ?_ (fun _ => ?_)))

theorem tt_x_X3_holds (L : MS) (a1 : Int32) (a2 : Int32) (a3 : Int32) : T [16] [18] (x_X3_holds L a1 a2 a3) := by
  unfold x_X3_holds
  repeat (first | (with_reducible exact T_rt _) | (with_reducible intro _) | (with_reducible refine tt_xl_X3_holds_12 _ _ fuel _ _ _ _ (msr_fuel _) ?_) | (with_reducible exact (tt_x_X4_startOf _ _).mono (by decide) (by decide)) | (with_reducible exact (tt_x_X3_pop).mono (by decide) (by decide)) | (with_reducible exact T_RF) | (with_reducible exact T_GT) | (with_reducible exact T_GD) | (with_reducible exact T_GS) | (with_reducible exact T_WF (by decide)) | (with_reducible exact T_ST (by decide)) | (with_reducible exact T_SD (by decide)) | (with_reducible exact T_SS (by decide) (by decide)) | (with_reducible exact T_FL (by decide)) | (with_reducible exact T_FS (by decide) (by decide)) | (with_reducible refine T_li ?_) | (with_reducible refine T_ite (fun _ => ?_) (fun _ => ?_)) | (with_reducible refine T_cl ?_ (fun _ => ?_)))
end
section
theorem tt_x_X4_clear : T [20, 21, 22, 23, 24, 25] [] (x_X4_clear) := by
  unfold x_X4_clear
  repeat (first | (with_reducible exact T_rt _) | (with_reducible intro _) | (with_reducible exact T_RF) | (with_reducible exact T_GT) | (with_reducible exact T_GD) | (with_reducible exact T_GS) | (with_reducible exact T_WF (by decide)) | (with_reducible exact T_ST (by decide)) | (with_reducible exact T_SD (by decide)) | (with_reducible exact T_SS (by decide) (by decide)) | (with_reducible exact T_FL (by decide)) | (with_reducible exact T_FS (by decide) (by decide)) | (with_reducible refine T_li ?_) | (with_reducible refine T_ite (fun _ => ?_) (fun _ => ?_)) | (with_reducible refine T_cl ?_ (fun _ => ?_)))

theorem tt_x_X4_emit (a0 : Int32) (a1 : Int32) : T [25] [8] (x_X4_emit a0 a1) := by
  unfold x_X4_emit
  repeat (first | (with_reducible exact T_rt _) | (with_reducible intro _) | (with_reducible exact T_RF) | (with_reducible exact T_GT) | (with_reducible exact T_GD) | (with_reducible exact T_GS) | (with_reducible exact T_WF (by decide)) | (with_reducible exact T_ST (by decide)) | (with_reducible exact T_SD (by decide)) | (with_reducible exact T_SS (by decide) (by decide)) | (with_reducible exact T_FL (by decide)) | (with_reducible exact T_FS (by decide) (by decide)) | (with_reducible refine T_li ?_) | (with_reducible refine T_ite (fun _ => ?_) (fun _ => ?_)) | (with_reducible refine T_cl ?_ (fun _ => ?_)))

theorem tt_x_X4_endLine : T [23] [9] (x_X4_endLine) := by
  unfold x_X4_endLine
  repeat (first | (with_reducible exact T_rt _) | (with_reducible intro _) | (with_reducible exact T_RF) | (with_reducible exact T_GT) | (with_reducible exact T_GD) | (with_reducible exact T_GS) | (with_reducible exact T_WF (by decide)) | (with_reducible exact T_ST (by decide)) | (with_reducible exact T_SD (by decide)) | (with_reducible exact T_SS (by decide) (by decide)) | (with_reducible exact T_FL (by decide)) | (with_reducible exact T_FS (by decide) (by decide)) | (with_reducible refine T_li ?_) | (with_reducible refine T_ite (fun _ => ?_) (fun _ => ?_)) | (with_reducible refine T_cl ?_ (fun _ => ?_)))

theorem tt_x_X10_rewind : T [3] [] (x_X10_rewind) := by
  unfold x_X10_rewind
  repeat (first | (with_reducible exact T_rt _) | (with_reducible intro _) | (with_reducible exact T_RF) | (with_reducible exact T_GT) | (with_reducible exact T_GD) | (with_reducible exact T_GS) | (with_reducible exact T_WF (by decide)) | (with_reducible exact T_ST (by decide)) | (with_reducible exact T_SD (by decide)) | (with_reducible exact T_SS (by decide) (by decide)) | (with_reducible exact T_FL (by decide)) | (with_reducible exact T_FS (by decide) (by decide)) | (with_reducible refine T_li ?_) | (with_reducible refine T_ite (fun _ => ?_) (fun _ => ?_)) | (with_reducible refine T_cl ?_ (fun _ => ?_)))

theorem tt_x_X10_isBlank (a0 : Int32) : T [] [] (x_X10_isBlank a0) := by
  unfold x_X10_isBlank
  repeat (first | (with_reducible exact T_rt _) | (with_reducible intro _) | (with_reducible exact T_RF) | (with_reducible exact T_GT) | (with_reducible exact T_GD) | (with_reducible exact T_GS) | (with_reducible exact T_WF (by decide)) | (with_reducible exact T_ST (by decide)) | (with_reducible exact T_SD (by decide)) | (with_reducible exact T_SS (by decide) (by decide)) | (with_reducible exact T_FL (by decide)) | (with_reducible exact T_FS (by decide) (by decide)) | (with_reducible refine T_li ?_) | (with_reducible refine T_ite (fun _ => ?_) (fun _ => ?_)) | (with_reducible refine T_cl ?_ (fun _ => ?_)))

theorem tt_x_X10_isLetter (a0 : Int32) : T [] [] (x_X10_isLetter a0) := by
  unfold x_X10_isLetter
  repeat (first | (with_reducible exact T_rt _) | (with_reducible intro _) | (with_reducible exact T_RF) | (with_reducible exact T_GT) | (with_reducible exact T_GD) | (with_reducible exact T_GS) | (with_reducible exact T_WF (by decide)) | (with_reducible exact T_ST (by decide)) | (with_reducible exact T_SD (by decide)) | (with_reducible exact T_SS (by decide) (by decide)) | (with_reducible exact T_FL (by decide)) | (with_reducible exact T_FS (by decide) (by decide)) | (with_reducible refine T_li ?_) | (with_reducible refine T_ite (fun _ => ?_) (fun _ => ?_)) | (with_reducible refine T_cl ?_ (fun _ => ?_)))

theorem tt_x_X10_isDigit (a0 : Int32) : T [] [] (x_X10_isDigit a0) := by
  unfold x_X10_isDigit
  repeat (first | (with_reducible exact T_rt _) | (with_reducible intro _) | (with_reducible exact T_RF) | (with_reducible exact T_GT) | (with_reducible exact T_GD) | (with_reducible exact T_GS) | (with_reducible exact T_WF (by decide)) | (with_reducible exact T_ST (by decide)) | (with_reducible exact T_SD (by decide)) | (with_reducible exact T_SS (by decide) (by decide)) | (with_reducible exact T_FL (by decide)) | (with_reducible exact T_FS (by decide) (by decide)) | (with_reducible refine T_li ?_) | (with_reducible refine T_ite (fun _ => ?_) (fun _ => ?_)) | (with_reducible refine T_cl ?_ (fun _ => ?_)))

theorem tt_x_X10_takeEqual : T [3] [] (x_X10_takeEqual) := by
  unfold x_X10_takeEqual
  repeat (first | (with_reducible exact T_rt _) | (with_reducible intro _) | (with_reducible exact T_RF) | (with_reducible exact T_GT) | (with_reducible exact T_GD) | (with_reducible exact T_GS) | (with_reducible exact T_WF (by decide)) | (with_reducible exact T_ST (by decide)) | (with_reducible exact T_SD (by decide)) | (with_reducible exact T_SS (by decide) (by decide)) | (with_reducible exact T_FL (by decide)) | (with_reducible exact T_FS (by decide) (by decide)) | (with_reducible refine T_li ?_) | (with_reducible refine T_ite (fun _ => ?_) (fun _ => ?_)) | (with_reducible refine T_cl ?_ (fun _ => ?_)))

theorem tt_x_X10_markOf (a0 : Int32) : T [3] [] (x_X10_markOf a0) := by
  unfold x_X10_markOf
  repeat (first | (with_reducible exact T_rt _) | (with_reducible intro _) | (with_reducible exact (tt_x_X10_takeEqual).mono (by decide) (by decide)) | (with_reducible exact T_RF) | (with_reducible exact T_GT) | (with_reducible exact T_GD) | (with_reducible exact T_GS) | (with_reducible exact T_WF (by decide)) | (with_reducible exact T_ST (by decide)) | (with_reducible exact T_SD (by decide)) | (with_reducible exact T_SS (by decide) (by decide)) | (with_reducible exact T_FL (by decide)) | (with_reducible exact T_FS (by decide) (by decide)) | (with_reducible refine T_li ?_) | (with_reducible refine T_ite (fun _ => ?_) (fun _ => ?_)) | (with_reducible refine T_cl ?_ (fun _ => ?_)))

theorem tt_xl_X10_readNumber_5 (K : NG Int32) (hK : T [3, 4, 6] [] K) : ∀ (n : Nat) (u : MS), msr (u.1 3) ≤ n → Tu [3, 4, 6] [] (xl_X10_readNumber_5 n K) u := by
  intro n
  induction n with
  | zero =>
    intro u hm
    exact absurd hm (msr_0 _)
  | succ n ih =>
    intro u hm
    unfold xl_X10_readNumber_5
    refine Tu_RF (Tu_RF (Tu_ite (fun _ => hK u) (fun h => Tu_RF (Tu_GT (fun x => Tu_cl (tt_x_X10_isDigit x) (by decide) (by decide) (fun r v hs => ?_))))))
    have e := hs.nil
    subst e
    refine Tu_ite (fun _ => hK _) (fun _ => Tu_RF (Tu_RF (Tu_ite (fun _ => Tu_RF (Tu_WF (by decide) (ih _ (msr_up h hm)))) (fun _ => ?_))))
    refine Tu_RF (Tu_RF (Tu_GT (fun y => Tu_WF (by decide) (Tu_RF (Tu_WF (by decide) (ih _ (msr_up h hm)))))))

theorem tt_x_X10_readNumber : T [3, 4, 6] [] (x_X10_readNumber) := by
  unfold x_X10_readNumber
  repeat (first | (with_reducible exact T_rt _) | (with_reducible intro _) | (with_reducible refine T_of (fun u => tt_xl_X10_readNumber_5 _ ?_ fuel u (msr_fuel _))) | (with_reducible exact T_RF) | (with_reducible exact T_GT) | (with_reducible exact T_GD) | (with_reducible exact T_GS) | (with_reducible exact T_WF (by decide)) | (with_reducible exact T_ST (by decide)) | (with_reducible exact T_SD (by decide)) | (with_reducible exact T_SS (by decide) (by decide)) | (with_reducible exact T_FL (by decide)) | (with_reducible exact T_FS (by decide) (by decide)) | (with_reducible refine T_li ?_) | (with_reducible refine T_ite (fun _ => ?_) (fun _ => ?_)) | (with_reducible refine T_cl ?_ (fun _ => ?_)))

theorem cln_eq : ∀ k < 13, fj_len (25 + k) = some (nI ((fj_len (25 + k)).getD 0).toNatClampNeg) ∧ ((fj_len (25 + k)).getD 0).toNatClampNeg ≤ 8 := by decide +kernel
theorem cchr_some : ∀ k < 13, ∀ j < 8, j < ((fj_len (25 + k)).getD 0).toNatClampNeg → (fj_charAt (25 + k) (nI j)).isSome = true := by decide +kernel
theorem T_oi {β : Type} {LI LA : List Nat} {x : Option Int32} {a : Int32} {q : Int32 → NG β} (hx : x = some a) (h : T LI LA (q a)) : T LI LA (noi x q) := by
  rw [hx]
  exact h
theorem T_oiS {β : Type} {LI LA : List Nat} {x : Option Int32} {q : Int32 → NG β} (hx : x.isSome = true) (h : ∀ a, T LI LA (q a)) : T LI LA (noi x q) := by
  cases x with
  | none => cases hx
  | some a => exact h a
theorem tt_xl_X10_spells_20 (k z : Nat) (hk : k < 13) (hz : z = ((fj_len (25 + k)).getD 0).toNatClampNeg) (K : Int32 → NG Int32) (hK : ∀ v, T [] [] (K v)) : ∀ (t j n : Nat), j + t = z → t < n → T [] [] (xl_X10_spells_20 (25 + k) n (nI j) K) := by
  have e1 := (cln_eq k hk).1
  have e2 := (cln_eq k hk).2
  rw [← hz] at e1 e2
  intro t
  induction t with
  | zero =>
    intro j n hj hn
    cases n with
    | zero => omega
    | succ n =>
      have : j = z := by omega
      subst this
      unfold xl_X10_spells_20
      exact T_oi e1 (T_ite (fun _ => hK _) (fun h => absurd (Int32.le_refl _) h))
  | succ t ih =>
    intro j n hj hn
    cases n with
    | zero => omega
    | succ n =>
      unfold xl_X10_spells_20
      refine T_oi e1 (T_ite (fun _ => hK _) (fun _ => T_cl T_RF (fun _ => T_cl T_GT (fun _ => T_oiS (cchr_some k hk j (by omega) (by rw [← hz]; omega)) (fun _ => T_ite (fun _ => T_li ?_) (fun _ => T_rt _))))))
      rw [nI_1]
      exact ih (j + 1) n (by omega) (by omega)

theorem tt_spells (k : Nat) (hk : k < 13) : T [] [] (x_X10_spells (25 + k)) := by
  have e1 := (cln_eq k hk).1
  have e2 := (cln_eq k hk).2
  unfold x_X10_spells
  exact T_cl T_RF (fun _ => T_cl T_RF (fun _ => T_oi e1 (T_ite (fun _ => tt_xl_X10_spells_20 k _ hk rfl _ (fun _ => T_rt _) (((fj_len (25 + k)).getD 0).toNatClampNeg) 0 fuel (by omega) (by unfold fuel; omega)) (fun _ => T_rt _))))
theorem tt_x_X10_spells (a : Nat) (h : 25 ≤ a ∧ a < 38) : T [] [] (x_X10_spells a) := by
  have e : a = 25 + (a - 25) := by omega
  rw [e]
  exact tt_spells (a - 25) (by omega)

theorem tt_x_X10_wordKind : T [] [] (x_X10_wordKind) := by
  unfold x_X10_wordKind
  repeat (first | (with_reducible exact T_rt _) | (with_reducible intro _) | (with_reducible exact (tt_x_X10_spells _ (by decide)).mono (by decide) (by decide)) | (with_reducible exact T_RF) | (with_reducible exact T_GT) | (with_reducible exact T_GD) | (with_reducible exact T_GS) | (with_reducible exact T_WF (by decide)) | (with_reducible exact T_ST (by decide)) | (with_reducible exact T_SD (by decide)) | (with_reducible exact T_SS (by decide) (by decide)) | (with_reducible exact T_FL (by decide)) | (with_reducible exact T_FS (by decide) (by decide)) | (with_reducible refine T_li ?_) | (with_reducible refine T_ite (fun _ => ?_) (fun _ => ?_)) | (with_reducible refine T_cl ?_ (fun _ => ?_)))

theorem tt_xl_X10_readWord_0 (K : NG Int32) (hK : T [3, 4] [] K) : ∀ (n : Nat) (u : MS), msr (u.1 3) ≤ n → Tu [3, 4] [] (xl_X10_readWord_0 n K) u := by
  intro n
  induction n with
  | zero =>
    intro u hm
    exact absurd hm (msr_0 _)
  | succ n ih =>
    intro u hm
    unfold xl_X10_readWord_0
    refine Tu_RF (Tu_RF (Tu_ite (fun _ => hK u) (fun h => Tu_RF (Tu_GT (fun x => Tu_cl (tt_x_X10_isLetter x) (by decide) (by decide) (fun r v hs => ?_))))))
    have e := hs.nil
    subst e
    exact Tu_ite (fun _ => hK _) (fun _ => Tu_RF (Tu_WF (by decide) (ih _ (msr_up h hm))))

theorem tt_x_X10_readWord : T [3, 4] [] (x_X10_readWord) := by
  unfold x_X10_readWord
  repeat (first | (with_reducible exact T_rt _) | (with_reducible intro _) | (with_reducible refine T_of (fun u => tt_xl_X10_readWord_0 _ ?_ fuel u (msr_fuel _))) | (with_reducible exact (tt_x_X10_wordKind).mono (by decide) (by decide)) | (with_reducible exact T_RF) | (with_reducible exact T_GT) | (with_reducible exact T_GD) | (with_reducible exact T_GS) | (with_reducible exact T_WF (by decide)) | (with_reducible exact T_ST (by decide)) | (with_reducible exact T_SD (by decide)) | (with_reducible exact T_SS (by decide) (by decide)) | (with_reducible exact T_FL (by decide)) | (with_reducible exact T_FS (by decide) (by decide)) | (with_reducible refine T_li ?_) | (with_reducible refine T_ite (fun _ => ?_) (fun _ => ?_)) | (with_reducible refine T_cl ?_ (fun _ => ?_)))

theorem tt_xl_X10_readToken_0 (K : NG Int32) (hK : T [3, 4, 5, 6] [] K) : ∀ (n : Nat) (u : MS), msr (u.1 3) ≤ n → Tu [3, 4, 5, 6] [] (xl_X10_readToken_0 n K) u := by
  intro n
  induction n with
  | zero =>
    intro u hm
    exact absurd hm (msr_0 _)
  | succ n ih =>
    intro u hm
    unfold xl_X10_readToken_0
    refine Tu_RF (Tu_RF (Tu_ite (fun _ => hK u) (fun h => Tu_RF (Tu_GT (fun x => Tu_cl (tt_x_X10_isBlank x) (by decide) (by decide) (fun r v hs => ?_))))))
    have e := hs.nil
    subst e
    exact Tu_ite (fun _ => hK _) (fun _ => Tu_RF (Tu_WF (by decide) (ih _ (msr_up h hm))))

theorem tt_x_X10_readToken : T [3, 4, 5, 6] [] (x_X10_readToken) := by
  unfold x_X10_readToken
  repeat (first | (with_reducible exact T_rt _) | (with_reducible intro _) | (with_reducible refine T_of (fun u => tt_xl_X10_readToken_0 _ ?_ fuel u (msr_fuel _))) | (with_reducible exact (tt_x_X10_isLetter _).mono (by decide) (by decide)) | (with_reducible exact (tt_x_X10_isDigit _).mono (by decide) (by decide)) | (with_reducible exact (tt_x_X10_markOf _).mono (by decide) (by decide)) | (with_reducible exact (tt_x_X10_readNumber).mono (by decide) (by decide)) | (with_reducible exact (tt_x_X10_readWord).mono (by decide) (by decide)) | (with_reducible exact T_RF) | (with_reducible exact T_GT) | (with_reducible exact T_GD) | (with_reducible exact T_GS) | (with_reducible exact T_WF (by decide)) | (with_reducible exact T_ST (by decide)) | (with_reducible exact T_SD (by decide)) | (with_reducible exact T_SS (by decide) (by decide)) | (with_reducible exact T_FL (by decide)) | (with_reducible exact T_FS (by decide) (by decide)) | (with_reducible refine T_li ?_) | (with_reducible refine T_ite (fun _ => ?_) (fun _ => ?_)) | (with_reducible refine T_cl ?_ (fun _ => ?_)))

theorem tt_x_X5_fail (a0 : Int32) : T [10, 11] [] (x_X5_fail a0) := by
  unfold x_X5_fail
  repeat (first | (with_reducible exact T_rt _) | (with_reducible intro _) | (with_reducible exact T_RF) | (with_reducible exact T_GT) | (with_reducible exact T_GD) | (with_reducible exact T_GS) | (with_reducible exact T_WF (by decide)) | (with_reducible exact T_ST (by decide)) | (with_reducible exact T_SD (by decide)) | (with_reducible exact T_SS (by decide) (by decide)) | (with_reducible exact T_FL (by decide)) | (with_reducible exact T_FS (by decide) (by decide)) | (with_reducible refine T_li ?_) | (with_reducible refine T_ite (fun _ => ?_) (fun _ => ?_)) | (with_reducible refine T_cl ?_ (fun _ => ?_)))

theorem tt_x_X5_goIfRoom (a0 : Int32) (a1 : Int32) : T [10, 11, 12] [] (x_X5_goIfRoom a0 a1) := by
  unfold x_X5_goIfRoom
  repeat (first | (with_reducible exact T_rt _) | (with_reducible intro _) | (with_reducible exact (tt_x_X5_fail _).mono (by decide) (by decide)) | (with_reducible exact T_RF) | (with_reducible exact T_GT) | (with_reducible exact T_GD) | (with_reducible exact T_GS) | (with_reducible exact T_WF (by decide)) | (with_reducible exact T_ST (by decide)) | (with_reducible exact T_SD (by decide)) | (with_reducible exact T_SS (by decide) (by decide)) | (with_reducible exact T_FL (by decide)) | (with_reducible exact T_FS (by decide) (by decide)) | (with_reducible refine T_li ?_) | (with_reducible refine T_ite (fun _ => ?_) (fun _ => ?_)) | (with_reducible refine T_cl ?_ (fun _ => ?_)))

theorem tt_x_X5_takeSignOrLine (a0 : Int32) : T [10, 11, 12] [10] (x_X5_takeSignOrLine a0) := by
  unfold x_X5_takeSignOrLine
  repeat (first | (with_reducible exact T_rt _) | (with_reducible intro _) | (with_reducible exact (tt_x_X5_goIfRoom _ _).mono (by decide) (by decide)) | (with_reducible exact (tt_x_X5_fail _).mono (by decide) (by decide)) | (with_reducible exact T_RF) | (with_reducible exact T_GT) | (with_reducible exact T_GD) | (with_reducible exact T_GS) | (with_reducible exact T_WF (by decide)) | (with_reducible exact T_ST (by decide)) | (with_reducible exact T_SD (by decide)) | (with_reducible exact T_SS (by decide) (by decide)) | (with_reducible exact T_FL (by decide)) | (with_reducible exact T_FS (by decide) (by decide)) | (with_reducible refine T_li ?_) | (with_reducible refine T_ite (fun _ => ?_) (fun _ => ?_)) | (with_reducible refine T_cl ?_ (fun _ => ?_)))

theorem tt_xl_X10_isWordAt_17 (K : Int32 → Int32 → Int32 → NG Int32) : ∀ (n : Nat) (v1 v2 v3 : Int32), msr v3 ≤ n → (∀ (v3' : Int32), T [] [] (K v1 v2 v3')) → T [] [] (xl_X10_isWordAt_17 n v1 v2 v3 K) := by
  intro n
  induction n with
  | zero =>
    intro v1 v2 v3 hm _
    exact absurd hm (msr_0 _)
  | succ n ih =>
    intro v1 v2 v3 hm hK
    unfold xl_X10_isWordAt_17
    repeat (first | (with_reducible exact T_rt _) | (with_reducible intro _) | (with_reducible exact hK _) | (with_reducible exact ih _ _ _ (msr_up (by assumption) hm) hK) | (with_reducible exact T_RF) | (with_reducible exact T_GT) | (with_reducible exact T_GD) | (with_reducible exact T_GS) | (with_reducible exact T_WF (by decide)) | (with_reducible exact T_ST (by decide)) | (with_reducible exact T_SD (by decide)) | (with_reducible exact T_SS (by decide) (by decide)) | (with_reducible exact T_FL (by decide)) | (with_reducible exact T_FS (by decide) (by decide)) | (with_reducible refine T_li ?_) | (with_reducible refine T_ite (fun _ => ?_) (fun _ => ?_)) | (with_reducible refine T_cl ?_ (fun _ => ?_)))

theorem tt_x_X10_isWordAt (a0 : Int32) (a1 : Int32) : T [] [] (x_X10_isWordAt a0 a1) := by
  unfold x_X10_isWordAt
  repeat (first | (with_reducible exact T_rt _) | (with_reducible intro _) | (with_reducible refine tt_xl_X10_isWordAt_17 _ fuel _ _ _ (msr_fuel _) ?_) | (with_reducible exact T_RF) | (with_reducible exact T_GT) | (with_reducible exact T_GD) | (with_reducible exact T_GS) | (with_reducible exact T_WF (by decide)) | (with_reducible exact T_ST (by decide)) | (with_reducible exact T_SD (by decide)) | (with_reducible exact T_SS (by decide) (by decide)) | (with_reducible exact T_FL (by decide)) | (with_reducible exact T_FS (by decide) (by decide)) | (with_reducible refine T_li ?_) | (with_reducible refine T_ite (fun _ => ?_) (fun _ => ?_)) | (with_reducible refine T_cl ?_ (fun _ => ?_)))

theorem tt_xl_X5_signOfToken_2 (K : Int32 → NG Int32) : ∀ (n : Nat) (v1 : Int32), msr v1 ≤ n → (∀ (v1' : Int32), T [] [] (K v1')) → T [] [] (xl_X5_signOfToken_2 n v1 K) := by
  intro n
  induction n with
  | zero =>
    intro v1 hm _
    exact absurd hm (msr_0 _)
  | succ n ih =>
    intro v1 hm hK
    unfold xl_X5_signOfToken_2
    repeat (first | (with_reducible exact T_rt _) | (with_reducible intro _) | (with_reducible exact hK _) | (with_reducible exact ih _ (msr_up (by assumption) hm) hK) | (with_reducible exact (tt_x_X10_isWordAt _ _).mono (by decide) (by decide)) | (with_reducible exact T_RF) | (with_reducible exact T_GT) | (with_reducible exact T_GD) | (with_reducible exact T_GS) | (with_reducible exact T_WF (by decide)) | (with_reducible exact T_ST (by decide)) | (with_reducible exact T_SD (by decide)) | (with_reducible exact T_SS (by decide) (by decide)) | (with_reducible exact T_FL (by decide)) | (with_reducible exact T_FS (by decide) (by decide)) | (with_reducible refine T_li ?_) | (with_reducible refine T_ite (fun _ => ?_) (fun _ => ?_)) | (with_reducible refine T_cl ?_ (fun _ => ?_)))

theorem tt_x_X5_signOfToken : T [] [] (x_X5_signOfToken) := by
  unfold x_X5_signOfToken
  repeat (first | (with_reducible exact T_rt _) | (with_reducible intro _) | (with_reducible refine tt_xl_X5_signOfToken_2 _ fuel _ (msr_fuel _) ?_) | (with_reducible exact T_RF) | (with_reducible exact T_GT) | (with_reducible exact T_GD) | (with_reducible exact T_GS) | (with_reducible exact T_WF (by decide)) | (with_reducible exact T_ST (by decide)) | (with_reducible exact T_SD (by decide)) | (with_reducible exact T_SS (by decide) (by decide)) | (with_reducible exact T_FL (by decide)) | (with_reducible exact T_FS (by decide) (by decide)) | (with_reducible refine T_li ?_) | (with_reducible refine T_ite (fun _ => ?_) (fun _ => ?_)) | (with_reducible refine T_cl ?_ (fun _ => ?_)))

theorem tt_x_X10_tokenSize : T [] [] (x_X10_tokenSize) := by
  unfold x_X10_tokenSize
  repeat (first | (with_reducible exact T_rt _) | (with_reducible intro _) | (with_reducible exact T_RF) | (with_reducible exact T_GT) | (with_reducible exact T_GD) | (with_reducible exact T_GS) | (with_reducible exact T_WF (by decide)) | (with_reducible exact T_ST (by decide)) | (with_reducible exact T_SD (by decide)) | (with_reducible exact T_SS (by decide) (by decide)) | (with_reducible exact T_FL (by decide)) | (with_reducible exact T_FS (by decide) (by decide)) | (with_reducible refine T_li ?_) | (with_reducible refine T_ite (fun _ => ?_) (fun _ => ?_)) | (with_reducible refine T_cl ?_ (fun _ => ?_)))

theorem tt_x_X5_takeSignName (a0 : Int32) : T [10, 11, 12, 22] [5, 6] (x_X5_takeSignName a0) := by
  unfold x_X5_takeSignName
  repeat (first | (with_reducible exact T_rt _) | (with_reducible intro _) | (with_reducible exact (tt_x_X5_signOfToken).mono (by decide) (by decide)) | (with_reducible exact (tt_x_X10_tokenSize).mono (by decide) (by decide)) | (with_reducible exact (tt_x_X5_fail _).mono (by decide) (by decide)) | (with_reducible exact T_RF) | (with_reducible exact T_GT) | (with_reducible exact T_GD) | (with_reducible exact T_GS) | (with_reducible exact T_WF (by decide)) | (with_reducible exact T_ST (by decide)) | (with_reducible exact T_SD (by decide)) | (with_reducible exact T_SS (by decide) (by decide)) | (with_reducible exact T_FL (by decide)) | (with_reducible exact T_FS (by decide) (by decide)) | (with_reducible refine T_li ?_) | (with_reducible refine T_ite (fun _ => ?_) (fun _ => ?_)) | (with_reducible refine T_cl ?_ (fun _ => ?_)))

theorem tt_x_X5_goIf (a0 : Int32) (a1 : Int32) : T [10, 11, 12] [] (x_X5_goIf a0 a1) := by
  unfold x_X5_goIf
  repeat (first | (with_reducible exact T_rt _) | (with_reducible intro _) | (with_reducible exact (tt_x_X5_fail _).mono (by decide) (by decide)) | (with_reducible exact T_RF) | (with_reducible exact T_GT) | (with_reducible exact T_GD) | (with_reducible exact T_GS) | (with_reducible exact T_WF (by decide)) | (with_reducible exact T_ST (by decide)) | (with_reducible exact T_SD (by decide)) | (with_reducible exact T_SS (by decide) (by decide)) | (with_reducible exact T_FL (by decide)) | (with_reducible exact T_FS (by decide) (by decide)) | (with_reducible refine T_li ?_) | (with_reducible refine T_ite (fun _ => ?_) (fun _ => ?_)) | (with_reducible refine T_cl ?_ (fun _ => ?_)))

theorem tt_x_X5_takePoints (a0 : Int32) : T [10, 11, 12] [10] (x_X5_takePoints a0) := by
  unfold x_X5_takePoints
  repeat (first | (with_reducible exact T_rt _) | (with_reducible intro _) | (with_reducible exact (tt_x_X5_goIf _ _).mono (by decide) (by decide)) | (with_reducible exact T_RF) | (with_reducible exact T_GT) | (with_reducible exact T_GD) | (with_reducible exact T_GS) | (with_reducible exact T_WF (by decide)) | (with_reducible exact T_ST (by decide)) | (with_reducible exact T_SD (by decide)) | (with_reducible exact T_SS (by decide) (by decide)) | (with_reducible exact T_FL (by decide)) | (with_reducible exact T_FS (by decide) (by decide)) | (with_reducible refine T_li ?_) | (with_reducible refine T_ite (fun _ => ?_) (fun _ => ?_)) | (with_reducible refine T_cl ?_ (fun _ => ?_)))

theorem tt_x_X5_takePart (a0 : Int32) : T [10, 11, 12, 24] [] (x_X5_takePart a0) := by
  unfold x_X5_takePart
  repeat (first | (with_reducible exact T_rt _) | (with_reducible intro _) | (with_reducible exact (tt_x_X5_goIfRoom _ _).mono (by decide) (by decide)) | (with_reducible exact T_RF) | (with_reducible exact T_GT) | (with_reducible exact T_GD) | (with_reducible exact T_GS) | (with_reducible exact T_WF (by decide)) | (with_reducible exact T_ST (by decide)) | (with_reducible exact T_SD (by decide)) | (with_reducible exact T_SS (by decide) (by decide)) | (with_reducible exact T_FL (by decide)) | (with_reducible exact T_FS (by decide) (by decide)) | (with_reducible refine T_li ?_) | (with_reducible refine T_ite (fun _ => ?_) (fun _ => ?_)) | (with_reducible refine T_cl ?_ (fun _ => ?_)))

theorem mhr_dn {x : Int32} {n : Nat} (h : ¬ x ≤ 0) (hm : x.toInt < (n + 1 : Nat)) : (x - 1).toInt < n := by
  have h1 : 0 < x.toInt := by
    rw [Int32.le_iff_toInt_le, i32_0] at h
    omega
  have h3 := i32_b x
  have e : x - 1 = x + (-1) := Int32.sub_eq_add_neg _ _
  rw [e, i32_add x (-1) (by rw [i32_m1]; omega) (by rw [i32_m1]; omega), i32_m1]
  omega
theorem tt_xl_X5_closeNots_0 (K : NG Int32) (hK : T [7, 8, 25] [8] K) : ∀ (n : Nat) (u : MS), (u.1 7).toInt < n → 0 < n → Tu [7, 8, 25] [8] (xl_X5_closeNots_0 n K) u := by
  intro n
  induction n with
  | zero =>
    intro u hm h0
    omega
  | succ n ih =>
    intro u hm h0
    unfold xl_X5_closeNots_0
    refine Tu_RF (Tu_ite (fun _ => hK u) (fun h => Tu_RF (Tu_GT (fun x => Tu_ite (fun _ => ?_) (fun _ => hK u)))))
    have h9 := mhr_dn h hm
    have h1 : 0 < (u.1 7).toInt := by
      rw [Int32.le_iff_toInt_le, i32_0] at h
      omega
    refine Tu_RF (Tu_WF (by decide) (Tu_RF (Tu_WF (by decide) (Tu_cl (tt_x_X4_emit 11 0) (by decide) (by decide) (fun r v hs => ih v ?_ (by omega))))))
    have e7 := hs.1 7 (by decide)
    rw [e7]
    exact h9

theorem tt_x_X5_closeNots : T [7, 8, 25] [8] (x_X5_closeNots) := by
  unfold x_X5_closeNots
  repeat (first | (with_reducible exact T_rt _) | (with_reducible intro _) | (with_reducible refine T_of (fun u => tt_xl_X5_closeNots_0 _ ?_ fuel u (i32_fuel _) fuel_pos)) | (with_reducible exact T_RF) | (with_reducible exact T_GT) | (with_reducible exact T_GD) | (with_reducible exact T_GS) | (with_reducible exact T_WF (by decide)) | (with_reducible exact T_ST (by decide)) | (with_reducible exact T_SD (by decide)) | (with_reducible exact T_SS (by decide) (by decide)) | (with_reducible exact T_FL (by decide)) | (with_reducible exact T_FS (by decide) (by decide)) | (with_reducible refine T_li ?_) | (with_reducible refine T_ite (fun _ => ?_) (fun _ => ?_)) | (with_reducible refine T_cl ?_ (fun _ => ?_)))

theorem tt_x_X5_emitTerm (a0 : Int32) (a1 : Int32) : T [14, 25] [8] (x_X5_emitTerm a0 a1) := by
  unfold x_X5_emitTerm
  repeat (first | (with_reducible exact T_rt _) | (with_reducible intro _) | (with_reducible exact (tt_x_X4_emit _ _).mono (by decide) (by decide)) | (with_reducible exact T_RF) | (with_reducible exact T_GT) | (with_reducible exact T_GD) | (with_reducible exact T_GS) | (with_reducible exact T_WF (by decide)) | (with_reducible exact T_ST (by decide)) | (with_reducible exact T_SD (by decide)) | (with_reducible exact T_SS (by decide) (by decide)) | (with_reducible exact T_FL (by decide)) | (with_reducible exact T_FS (by decide) (by decide)) | (with_reducible refine T_li ?_) | (with_reducible refine T_ite (fun _ => ?_) (fun _ => ?_)) | (with_reducible refine T_cl ?_ (fun _ => ?_)))

theorem tt_x_X5_takeTerm (a0 : Int32) : T [10, 11, 12, 13, 14, 24, 25] [8] (x_X5_takeTerm a0) := by
  unfold x_X5_takeTerm
  repeat (first | (with_reducible exact T_rt _) | (with_reducible intro _) | (with_reducible exact (tt_x_X5_takePart _).mono (by decide) (by decide)) | (with_reducible exact (tt_x_X5_emitTerm _ _).mono (by decide) (by decide)) | (with_reducible exact (tt_x_X5_fail _).mono (by decide) (by decide)) | (with_reducible exact T_RF) | (with_reducible exact T_GT) | (with_reducible exact T_GD) | (with_reducible exact T_GS) | (with_reducible exact T_WF (by decide)) | (with_reducible exact T_ST (by decide)) | (with_reducible exact T_SD (by decide)) | (with_reducible exact T_SS (by decide) (by decide)) | (with_reducible exact T_FL (by decide)) | (with_reducible exact T_FS (by decide) (by decide)) | (with_reducible refine T_li ?_) | (with_reducible refine T_ite (fun _ => ?_) (fun _ => ?_)) | (with_reducible refine T_cl ?_ (fun _ => ?_)))

theorem tt_x_X5_hold (a0 : Int32) : T [7] [7] (x_X5_hold a0) := by
  unfold x_X5_hold
  repeat (first | (with_reducible exact T_rt _) | (with_reducible intro _) | (with_reducible exact T_RF) | (with_reducible exact T_GT) | (with_reducible exact T_GD) | (with_reducible exact T_GS) | (with_reducible exact T_WF (by decide)) | (with_reducible exact T_ST (by decide)) | (with_reducible exact T_SD (by decide)) | (with_reducible exact T_SS (by decide) (by decide)) | (with_reducible exact T_FL (by decide)) | (with_reducible exact T_FS (by decide) (by decide)) | (with_reducible refine T_li ?_) | (with_reducible refine T_ite (fun _ => ?_) (fun _ => ?_)) | (with_reducible refine T_cl ?_ (fun _ => ?_)))

theorem tt_x_X5_openThing (a0 : Int32) : T [7, 8, 10, 11] [7] (x_X5_openThing a0) := by
  unfold x_X5_openThing
  repeat (first | (with_reducible exact T_rt _) | (with_reducible intro _) | (with_reducible exact (tt_x_X5_hold _).mono (by decide) (by decide)) | (with_reducible exact (tt_x_X5_fail _).mono (by decide) (by decide)) | (with_reducible exact T_RF) | (with_reducible exact T_GT) | (with_reducible exact T_GD) | (with_reducible exact T_GS) | (with_reducible exact T_WF (by decide)) | (with_reducible exact T_ST (by decide)) | (with_reducible exact T_SD (by decide)) | (with_reducible exact T_SS (by decide) (by decide)) | (with_reducible exact T_FL (by decide)) | (with_reducible exact T_FS (by decide) (by decide)) | (with_reducible refine T_li ?_) | (with_reducible refine T_ite (fun _ => ?_) (fun _ => ?_)) | (with_reducible refine T_cl ?_ (fun _ => ?_)))

theorem tt_x_X5_takeCond (a0 : Int32) : T [7, 8, 9, 10, 11, 12, 13, 14, 15, 24, 25] [7, 8] (x_X5_takeCond a0) := by
  unfold x_X5_takeCond
  repeat (first | (with_reducible exact T_rt _) | (with_reducible intro _) | (with_reducible exact (tt_x_X5_takePart _).mono (by decide) (by decide)) | (with_reducible exact (tt_x_X5_openThing _).mono (by decide) (by decide)) | (with_reducible exact (tt_x_X4_emit _ _).mono (by decide) (by decide)) | (with_reducible exact (tt_x_X5_closeNots).mono (by decide) (by decide)) | (with_reducible exact (tt_x_X5_takeTerm _).mono (by decide) (by decide)) | (with_reducible exact T_RF) | (with_reducible exact T_GT) | (with_reducible exact T_GD) | (with_reducible exact T_GS) | (with_reducible exact T_WF (by decide)) | (with_reducible exact T_ST (by decide)) | (with_reducible exact T_SD (by decide)) | (with_reducible exact T_SS (by decide) (by decide)) | (with_reducible exact T_FL (by decide)) | (with_reducible exact T_FS (by decide) (by decide)) | (with_reducible refine T_li ?_) | (with_reducible refine T_ite (fun _ => ?_) (fun _ => ?_)) | (with_reducible refine T_cl ?_ (fun _ => ?_)))

theorem tt_x_X5_takeTermName (a0 : Int32) : T [10, 11, 12, 14, 25] [8] (x_X5_takeTermName a0) := by
  unfold x_X5_takeTermName
  repeat (first | (with_reducible exact T_rt _) | (with_reducible intro _) | (with_reducible exact (tt_x_X5_signOfToken).mono (by decide) (by decide)) | (with_reducible exact (tt_x_X5_fail _).mono (by decide) (by decide)) | (with_reducible exact (tt_x_X5_emitTerm _ _).mono (by decide) (by decide)) | (with_reducible exact T_RF) | (with_reducible exact T_GT) | (with_reducible exact T_GD) | (with_reducible exact T_GS) | (with_reducible exact T_WF (by decide)) | (with_reducible exact T_ST (by decide)) | (with_reducible exact T_SD (by decide)) | (with_reducible exact T_SS (by decide) (by decide)) | (with_reducible exact T_FL (by decide)) | (with_reducible exact T_FS (by decide) (by decide)) | (with_reducible refine T_li ?_) | (with_reducible refine T_ite (fun _ => ?_) (fun _ => ?_)) | (with_reducible refine T_cl ?_ (fun _ => ?_)))

theorem tt_x_X5_takeBehindTerm (a0 : Int32) : T [10, 11, 12, 14, 15, 24] [] (x_X5_takeBehindTerm a0) := by
  unfold x_X5_takeBehindTerm
  repeat (first | (with_reducible exact T_rt _) | (with_reducible intro _) | (with_reducible exact (tt_x_X5_takePart _).mono (by decide) (by decide)) | (with_reducible exact (tt_x_X5_fail _).mono (by decide) (by decide)) | (with_reducible exact T_RF) | (with_reducible exact T_GT) | (with_reducible exact T_GD) | (with_reducible exact T_GS) | (with_reducible exact T_WF (by decide)) | (with_reducible exact T_ST (by decide)) | (with_reducible exact T_SD (by decide)) | (with_reducible exact T_SS (by decide) (by decide)) | (with_reducible exact T_FL (by decide)) | (with_reducible exact T_FS (by decide) (by decide)) | (with_reducible refine T_li ?_) | (with_reducible refine T_ite (fun _ => ?_) (fun _ => ?_)) | (with_reducible refine T_cl ?_ (fun _ => ?_)))

theorem tt_xl_X5_emitBinders_14 (v1 v2 : Int32) (K : Int32 → Int32 → NG Int32) (hK : ∀ a b, T [7, 25] [8] (K a b)) : ∀ (n : Nat) (u : MS), (u.1 7).toInt < n → 0 < n → Tu [7, 25] [8] (xl_X5_emitBinders_14 n v1 v2 K) u := by
  intro n
  induction n with
  | zero =>
    intro u hm h0
    omega
  | succ n ih =>
    intro u hm h0
    unfold xl_X5_emitBinders_14
    refine Tu_RF (Tu_ite (fun _ => hK _ _ u) (fun h => ?_))
    have h9 := mhr_dn h hm
    have h1 : 0 < (u.1 7).toInt := by
      rw [Int32.le_iff_toInt_le, i32_0] at h
      omega
    refine Tu_RF (Tu_GT (fun x => Tu_ite (fun _ => ?_) (fun _ => Tu_RF (Tu_GT (fun y => Tu_ite (fun _ => ?_) (fun _ => hK _ _ u))))))
    · refine Tu_RF (Tu_WF (by decide) (Tu_RF (Tu_GT (fun z => Tu_cl (tt_x_X4_emit z 0) (by decide) (by decide) (fun r v hs => ih v ?_ (by omega))))))
      rw [hs.1 7 (by decide)]
      exact h9
    · refine Tu_RF (Tu_WF (by decide) (Tu_RF (Tu_GT (fun z => Tu_cl (tt_x_X4_emit z 0) (by decide) (by decide) (fun r v hs => ih v ?_ (by omega))))))
      rw [hs.1 7 (by decide)]
      exact h9

theorem tt_x_X5_emitBinders (a0 : Int32) : T [7, 25] [8] (x_X5_emitBinders a0) := by
  unfold x_X5_emitBinders
  repeat (first | (with_reducible exact T_rt _) | (with_reducible intro _) | (with_reducible refine T_of (fun u => tt_xl_X5_emitBinders_14 _ _ _ ?_ fuel u (i32_fuel _) fuel_pos)) | (with_reducible exact T_RF) | (with_reducible exact T_GT) | (with_reducible exact T_GD) | (with_reducible exact T_GS) | (with_reducible exact T_WF (by decide)) | (with_reducible exact T_ST (by decide)) | (with_reducible exact T_SD (by decide)) | (with_reducible exact T_SS (by decide) (by decide)) | (with_reducible exact T_FL (by decide)) | (with_reducible exact T_FS (by decide) (by decide)) | (with_reducible refine T_li ?_) | (with_reducible refine T_ite (fun _ => ?_) (fun _ => ?_)) | (with_reducible refine T_cl ?_ (fun _ => ?_)))

theorem tt_x_X5_closeBracket : T [7, 8, 9, 25] [8] (x_X5_closeBracket) := by
  unfold x_X5_closeBracket
  repeat (first | (with_reducible exact T_rt _) | (with_reducible intro _) | (with_reducible exact (tt_x_X5_emitBinders _).mono (by decide) (by decide)) | (with_reducible exact (tt_x_X5_closeNots).mono (by decide) (by decide)) | (with_reducible exact T_RF) | (with_reducible exact T_GT) | (with_reducible exact T_GD) | (with_reducible exact T_GS) | (with_reducible exact T_WF (by decide)) | (with_reducible exact T_ST (by decide)) | (with_reducible exact T_SD (by decide)) | (with_reducible exact T_SS (by decide) (by decide)) | (with_reducible exact T_FL (by decide)) | (with_reducible exact T_FS (by decide) (by decide)) | (with_reducible refine T_li ?_) | (with_reducible refine T_ite (fun _ => ?_) (fun _ => ?_)) | (with_reducible refine T_cl ?_ (fun _ => ?_)))

theorem tt_x_X5_takeBehindCond (a0 : Int32) : T [7, 8, 9, 10, 11, 12, 23, 24, 25] [7, 8, 9] (x_X5_takeBehindCond a0) := by
  unfold x_X5_takeBehindCond
  repeat (first | (with_reducible exact T_rt _) | (with_reducible intro _) | (with_reducible exact (tt_x_X5_takePart _).mono (by decide) (by decide)) | (with_reducible exact (tt_x_X5_emitBinders _).mono (by decide) (by decide)) | (with_reducible exact (tt_x_X5_hold _).mono (by decide) (by decide)) | (with_reducible exact (tt_x_X4_endLine).mono (by decide) (by decide)) | (with_reducible exact (tt_x_X5_fail _).mono (by decide) (by decide)) | (with_reducible exact (tt_x_X5_closeBracket).mono (by decide) (by decide)) | (with_reducible exact T_RF) | (with_reducible exact T_GT) | (with_reducible exact T_GD) | (with_reducible exact T_GS) | (with_reducible exact T_WF (by decide)) | (with_reducible exact T_ST (by decide)) | (with_reducible exact T_SD (by decide)) | (with_reducible exact T_SS (by decide) (by decide)) | (with_reducible exact T_FL (by decide)) | (with_reducible exact T_FS (by decide) (by decide)) | (with_reducible refine T_li ?_) | (with_reducible refine T_ite (fun _ => ?_) (fun _ => ?_)) | (with_reducible refine T_cl ?_ (fun _ => ?_)))

theorem tt_x_X5_endComparison : T [7, 8, 12, 25] [8] (x_X5_endComparison) := by
  unfold x_X5_endComparison
  repeat (first | (with_reducible exact T_rt _) | (with_reducible intro _) | (with_reducible exact (tt_x_X4_emit _ _).mono (by decide) (by decide)) | (with_reducible exact (tt_x_X5_closeNots).mono (by decide) (by decide)) | (with_reducible exact T_RF) | (with_reducible exact T_GT) | (with_reducible exact T_GD) | (with_reducible exact T_GS) | (with_reducible exact T_WF (by decide)) | (with_reducible exact T_ST (by decide)) | (with_reducible exact T_SD (by decide)) | (with_reducible exact T_SS (by decide) (by decide)) | (with_reducible exact T_FL (by decide)) | (with_reducible exact T_FS (by decide) (by decide)) | (with_reducible refine T_li ?_) | (with_reducible refine T_ite (fun _ => ?_) (fun _ => ?_)) | (with_reducible refine T_cl ?_ (fun _ => ?_)))

theorem tt_x_X5_takeHead (a0 : Int32) : T [10, 11, 12, 20, 21] [] (x_X5_takeHead a0) := by
  intro u
  unfold x_X5_takeHead
  refine Tu_RF (Tu_ite (fun _ => T.at ?_ u) (fun h1 => Tu_RF (Tu_ite (fun _ => T.at ?_ u) (fun h2 => Tu_RF (Tu_og ?_ (T.at ?_ u))))))
  · repeat (first | (with_reducible exact T_rt _) | (with_reducible exact (tt_x_X5_goIf _ _).mono (by decide) (by decide)) | (with_reducible exact T_RF) | (with_reducible exact T_WF (by decide)) | (with_reducible refine T_ite (fun _ => ?_) (fun _ => ?_)) | (with_reducible refine T_cl ?_ (fun _ => ?_)))
  · repeat (first | (with_reducible exact T_rt _) | (with_reducible exact (tt_x_X5_goIf _ _).mono (by decide) (by decide)) | (with_reducible exact T_RF) | (with_reducible exact T_WF (by decide)) | (with_reducible refine T_ite (fun _ => ?_) (fun _ => ?_)) | (with_reducible refine T_cl ?_ (fun _ => ?_)))
  · refine decide_eq_true (fun z => ?_)
    rcases z with z | z
    · exact h1 z
    · have h3 := i32_nle h2
      have c6 : (6 : Int32).toInt = 6 := by decide
      rw [c6] at h3
      have h4 : (u.1 12).toNatClampNeg = (u.1 12).toInt.toNat := rfl
      omega
  · repeat (first | (with_reducible exact T_rt _) | (with_reducible exact (tt_x_X5_goIf _ _).mono (by decide) (by decide)) | (with_reducible exact T_RF) | (with_reducible exact T_WF (by decide)) | (with_reducible refine T_ite (fun _ => ?_) (fun _ => ?_)) | (with_reducible refine T_cl ?_ (fun _ => ?_)))

theorem tt_x_X5_take (a0 : Int32) : T [7, 8, 9, 10, 11, 12, 13, 14, 15, 20, 21, 22, 23, 24, 25] [5, 6, 7, 8, 9, 10] (x_X5_take a0) := by
  unfold x_X5_take
  repeat (first | (with_reducible exact T_rt _) | (with_reducible intro _) | (with_reducible exact (tt_x_X5_takeSignOrLine _).mono (by decide) (by decide)) | (with_reducible exact (tt_x_X5_takeSignName _).mono (by decide) (by decide)) | (with_reducible exact (tt_x_X5_goIf _ _).mono (by decide) (by decide)) | (with_reducible exact (tt_x_X5_takePoints _).mono (by decide) (by decide)) | (with_reducible exact (tt_x_X5_takeCond _).mono (by decide) (by decide)) | (with_reducible exact (tt_x_X5_takeTerm _).mono (by decide) (by decide)) | (with_reducible exact (tt_x_X5_takeTermName _).mono (by decide) (by decide)) | (with_reducible exact (tt_x_X5_takeBehindTerm _).mono (by decide) (by decide)) | (with_reducible exact (tt_x_X5_takeBehindCond _).mono (by decide) (by decide)) | (with_reducible exact (tt_x_X5_endComparison).mono (by decide) (by decide)) | (with_reducible exact (tt_x_X5_takeHead _).mono (by decide) (by decide)) | (with_reducible exact T_RF) | (with_reducible exact T_GT) | (with_reducible exact T_GD) | (with_reducible exact T_GS) | (with_reducible exact T_WF (by decide)) | (with_reducible exact T_ST (by decide)) | (with_reducible exact T_SD (by decide)) | (with_reducible exact T_SS (by decide) (by decide)) | (with_reducible exact T_FL (by decide)) | (with_reducible exact T_FS (by decide) (by decide)) | (with_reducible refine T_li ?_) | (with_reducible refine T_ite (fun _ => ?_) (fun _ => ?_)) | (with_reducible refine T_cl ?_ (fun _ => ?_)))

theorem tt_xl_X5_readLaws_46 (K : Int32 → NG Int32) : ∀ (n : Nat) (v1 : Int32), msr v1 ≤ n → (∀ (v1' : Int32), T [3, 4, 5, 6, 7, 8, 9, 10, 11, 12, 13, 14, 15, 20, 21, 22, 23, 24, 25] [5, 6, 7, 8, 9, 10] (K v1')) → T [3, 4, 5, 6, 7, 8, 9, 10, 11, 12, 13, 14, 15, 20, 21, 22, 23, 24, 25] [5, 6, 7, 8, 9, 10] (xl_X5_readLaws_46 n v1 K) := by
  intro n
  induction n with
  | zero =>
    intro v1 hm _
    exact absurd hm (msr_0 _)
  | succ n ih =>
    intro v1 hm hK
    unfold xl_X5_readLaws_46
    repeat (first | (with_reducible exact T_rt _) | (with_reducible intro _) | (with_reducible exact hK _) | (with_reducible exact ih _ (msr_lt (by assumption) (by decide) hm) hK) | (with_reducible exact (tt_x_X10_readToken).mono (by decide) (by decide)) | (with_reducible exact (tt_x_X5_take _).mono (by decide) (by decide)) | (with_reducible exact T_RF) | (with_reducible exact T_GT) | (with_reducible exact T_GD) | (with_reducible exact T_GS) | (with_reducible exact T_WF (by decide)) | (with_reducible exact T_ST (by decide)) | (with_reducible exact T_SD (by decide)) | (with_reducible exact T_SS (by decide) (by decide)) | (with_reducible exact T_FL (by decide)) | (with_reducible exact T_FS (by decide) (by decide)) | (with_reducible refine T_li ?_) | (with_reducible refine T_ite (fun _ => ?_) (fun _ => ?_)) | (with_reducible refine T_cl ?_ (fun _ => ?_)))

theorem tt_x_X5_readLaws : T [3, 4, 5, 6, 7, 8, 9, 10, 11, 12, 13, 14, 15, 20, 21, 22, 23, 24, 25] [5, 6, 7, 8, 9, 10] (x_X5_readLaws) := by
  unfold x_X5_readLaws
  repeat (first | (with_reducible exact T_rt _) | (with_reducible intro _) | (with_reducible refine tt_xl_X5_readLaws_46 _ fuel _ (msr_fuel _) ?_) | (with_reducible exact (tt_x_X4_clear).mono (by decide) (by decide)) | (with_reducible exact (tt_x_X10_rewind).mono (by decide) (by decide)) | (with_reducible exact T_RF) | (with_reducible exact T_GT) | (with_reducible exact T_GD) | (with_reducible exact T_GS) | (with_reducible exact T_WF (by decide)) | (with_reducible exact T_ST (by decide)) | (with_reducible exact T_SD (by decide)) | (with_reducible exact T_SS (by decide) (by decide)) | (with_reducible exact T_FL (by decide)) | (with_reducible exact T_FS (by decide) (by decide)) | (with_reducible refine T_li ?_) | (with_reducible refine T_ite (fun _ => ?_) (fun _ => ?_)) | (with_reducible refine T_cl ?_ (fun _ => ?_)))
end
section
theorem tt_x_X6_tell (a0 : Int32) (a1 : Int32) (a2 : Int32) : T [] [] (x_X6_tell a0 a1 a2) := by
  unfold x_X6_tell
  repeat (first | (with_reducible exact T_rt _) | (with_reducible intro _) | (with_reducible exact (tt_x_X0_slot _ _).mono (by decide) (by decide)) | (with_reducible exact T_RF) | (with_reducible exact T_GT) | (with_reducible exact T_GD) | (with_reducible exact T_GS) | (with_reducible exact T_WF (by decide)) | (with_reducible exact T_ST (by decide)) | (with_reducible exact T_SD (by decide)) | (with_reducible exact T_SS (by decide) (by decide)) | (with_reducible exact T_FL (by decide)) | (with_reducible exact T_FS (by decide) (by decide)) | (with_reducible refine T_li ?_) | (with_reducible refine T_ite (fun _ => ?_) (fun _ => ?_)) | (with_reducible refine T_cl ?_ (fun _ => ?_)))

theorem tt_xl_X6_clear_49 (K : Int32 → NG Int32) : ∀ (n : Nat) (v1 : Int32), msr v1 ≤ n → (∀ (v1' : Int32), T [19] [22, 23, 24, 26, 27, 28, 29] (K v1')) → T [19] [22, 23, 24, 26, 27, 28, 29] (xl_X6_clear_49 n v1 K) := by
  intro n
  induction n with
  | zero =>
    intro v1 hm _
    exact absurd hm (msr_0 _)
  | succ n ih =>
    intro v1 hm hK
    unfold xl_X6_clear_49
    repeat (first | (with_reducible exact T_rt _) | (with_reducible intro _) | (with_reducible exact hK _) | (with_reducible exact ih _ (msr_up (by assumption) hm) hK) | (with_reducible exact (tt_x_X1_ofFighter _ _).mono (by decide) (by decide)) | (with_reducible exact T_RF) | (with_reducible exact T_GT) | (with_reducible exact T_GD) | (with_reducible exact T_GS) | (with_reducible exact T_WF (by decide)) | (with_reducible exact T_ST (by decide)) | (with_reducible exact T_SD (by decide)) | (with_reducible exact T_SS (by decide) (by decide)) | (with_reducible exact T_FL (by decide)) | (with_reducible exact T_FS (by decide) (by decide)) | (with_reducible refine T_li ?_) | (with_reducible refine T_ite (fun _ => ?_) (fun _ => ?_)) | (with_reducible refine T_cl ?_ (fun _ => ?_)))

theorem tt_x_X6_clear : T [19] [22, 23, 24, 26, 27, 28, 29] (x_X6_clear) := by
  unfold x_X6_clear
  repeat (first | (with_reducible exact T_rt _) | (with_reducible intro _) | (with_reducible refine tt_xl_X6_clear_49 _ fuel _ (msr_fuel _) ?_) | (with_reducible exact T_RF) | (with_reducible exact T_GT) | (with_reducible exact T_GD) | (with_reducible exact T_GS) | (with_reducible exact T_WF (by decide)) | (with_reducible exact T_ST (by decide)) | (with_reducible exact T_SD (by decide)) | (with_reducible exact T_SS (by decide) (by decide)) | (with_reducible exact T_FL (by decide)) | (with_reducible exact T_FS (by decide) (by decide)) | (with_reducible refine T_li ?_) | (with_reducible refine T_ite (fun _ => ?_) (fun _ => ?_)) | (with_reducible refine T_cl ?_ (fun _ => ?_)))

theorem tt_x_X6_holdTill (a0 : Int32) (a1 : Int32) : T [] [24] (x_X6_holdTill a0 a1) := by
  unfold x_X6_holdTill
  repeat (first | (with_reducible exact T_rt _) | (with_reducible intro _) | (with_reducible exact T_RF) | (with_reducible exact T_GT) | (with_reducible exact T_GD) | (with_reducible exact T_GS) | (with_reducible exact T_WF (by decide)) | (with_reducible exact T_ST (by decide)) | (with_reducible exact T_SD (by decide)) | (with_reducible exact T_SS (by decide) (by decide)) | (with_reducible exact T_FL (by decide)) | (with_reducible exact T_FS (by decide) (by decide)) | (with_reducible refine T_li ?_) | (with_reducible refine T_ite (fun _ => ?_) (fun _ => ?_)) | (with_reducible refine T_cl ?_ (fun _ => ?_)))

theorem tt_x_X6_put (a0 : Int32) (a1 : Int32) (a2 : Int32) (a3 : Int32) : T [19] [22, 23, 24, 26, 27, 28, 29] (x_X6_put a0 a1 a2 a3) := by
  unfold x_X6_put
  repeat (first | (with_reducible exact T_rt _) | (with_reducible intro _) | (with_reducible exact (tt_x_X0_slot _ _).mono (by decide) (by decide)) | (with_reducible exact (tt_x_X0_whiteOf _ _).mono (by decide) (by decide)) | (with_reducible exact (tt_x_X6_holdTill _ _).mono (by decide) (by decide)) | (with_reducible exact (tt_x_X0_blueOf _ _).mono (by decide) (by decide)) | (with_reducible exact T_RF) | (with_reducible exact T_GT) | (with_reducible exact T_GD) | (with_reducible exact T_GS) | (with_reducible exact T_WF (by decide)) | (with_reducible exact T_ST (by decide)) | (with_reducible exact T_SD (by decide)) | (with_reducible exact T_SS (by decide) (by decide)) | (with_reducible exact T_FL (by decide)) | (with_reducible exact T_FS (by decide) (by decide)) | (with_reducible refine T_li ?_) | (with_reducible refine T_ite (fun _ => ?_) (fun _ => ?_)) | (with_reducible refine T_cl ?_ (fun _ => ?_)))

theorem tt_xl_X6_putOpenOnes_2 (K : Int32 → NG Int32) : ∀ (n : Nat) (v1 : Int32), msr v1 ≤ n → (∀ (v1' : Int32), T [19] [22, 23, 24, 26, 27, 28, 29] (K v1')) → T [19] [22, 23, 24, 26, 27, 28, 29] (xl_X6_putOpenOnes_2 n v1 K) := by
  intro n
  induction n with
  | zero =>
    intro v1 hm _
    exact absurd hm (msr_0 _)
  | succ n ih =>
    intro v1 hm hK
    unfold xl_X6_putOpenOnes_2
    repeat (first | (with_reducible exact T_rt _) | (with_reducible intro _) | (with_reducible exact hK _) | (with_reducible exact ih _ (msr_up (by assumption) hm) hK) | (with_reducible exact (tt_x_X1_ofMat _ _).mono (by decide) (by decide)) | (with_reducible exact (tt_x_X6_put _ _ _ _).mono (by decide) (by decide)) | (with_reducible exact T_RF) | (with_reducible exact T_GT) | (with_reducible exact T_GD) | (with_reducible exact T_GS) | (with_reducible exact T_WF (by decide)) | (with_reducible exact T_ST (by decide)) | (with_reducible exact T_SD (by decide)) | (with_reducible exact T_SS (by decide) (by decide)) | (with_reducible exact T_FL (by decide)) | (with_reducible exact T_FS (by decide) (by decide)) | (with_reducible refine T_li ?_) | (with_reducible refine T_ite (fun _ => ?_) (fun _ => ?_)) | (with_reducible refine T_cl ?_ (fun _ => ?_)))

theorem tt_x_X6_putOpenOnes : T [19] [22, 23, 24, 26, 27, 28, 29] (x_X6_putOpenOnes) := by
  unfold x_X6_putOpenOnes
  repeat (first | (with_reducible exact T_rt _) | (with_reducible intro _) | (with_reducible refine tt_xl_X6_putOpenOnes_2 _ fuel _ (msr_fuel _) ?_) | (with_reducible exact T_RF) | (with_reducible exact T_GT) | (with_reducible exact T_GD) | (with_reducible exact T_GS) | (with_reducible exact T_WF (by decide)) | (with_reducible exact T_ST (by decide)) | (with_reducible exact T_SD (by decide)) | (with_reducible exact T_SS (by decide) (by decide)) | (with_reducible exact T_FL (by decide)) | (with_reducible exact T_FS (by decide) (by decide)) | (with_reducible refine T_li ?_) | (with_reducible refine T_ite (fun _ => ?_) (fun _ => ?_)) | (with_reducible refine T_cl ?_ (fun _ => ?_)))

theorem tt_xl_X6_putStageInOrder_2 (K : Int32 → Int32 → Int32 → NG Int32) : ∀ (n : Nat) (v1 v2 v3 : Int32), msr v3 ≤ n → (∀ (v3' : Int32), T [17] [21] (K v1 v2 v3')) → T [17] [21] (xl_X6_putStageInOrder_2 n v1 v2 v3 K) := by
  intro n
  induction n with
  | zero =>
    intro v1 v2 v3 hm _
    exact absurd hm (msr_0 _)
  | succ n ih =>
    intro v1 v2 v3 hm hK
    unfold xl_X6_putStageInOrder_2
    repeat (first | (with_reducible exact T_rt _) | (with_reducible intro _) | (with_reducible exact hK _) | (with_reducible exact ih _ _ _ (msr_up (by assumption) hm) hK) | (with_reducible exact (tt_x_X0_fightsOf _).mono (by decide) (by decide)) | (with_reducible exact (tt_x_X0_stateOf _ _).mono (by decide) (by decide)) | (with_reducible exact (tt_x_X0_stageOf _ _).mono (by decide) (by decide)) | (with_reducible exact (tt_x_X0_slot _ _).mono (by decide) (by decide)) | (with_reducible exact T_RF) | (with_reducible exact T_GT) | (with_reducible exact T_GD) | (with_reducible exact T_GS) | (with_reducible exact T_WF (by decide)) | (with_reducible exact T_ST (by decide)) | (with_reducible exact T_SD (by decide)) | (with_reducible exact T_SS (by decide) (by decide)) | (with_reducible exact T_FL (by decide)) | (with_reducible exact T_FS (by decide) (by decide)) | (with_reducible refine T_li ?_) | (with_reducible refine T_ite (fun _ => ?_) (fun _ => ?_)) | (with_reducible refine T_cl ?_ (fun _ => ?_)))

theorem tt_x_X6_putStageInOrder (a0 : Int32) (a1 : Int32) : T [17] [21] (x_X6_putStageInOrder a0 a1) := by
  unfold x_X6_putStageInOrder
  repeat (first | (with_reducible exact T_rt _) | (with_reducible intro _) | (with_reducible refine tt_xl_X6_putStageInOrder_2 _ fuel _ _ _ (msr_fuel _) ?_) | (with_reducible exact T_RF) | (with_reducible exact T_GT) | (with_reducible exact T_GD) | (with_reducible exact T_GS) | (with_reducible exact T_WF (by decide)) | (with_reducible exact T_ST (by decide)) | (with_reducible exact T_SD (by decide)) | (with_reducible exact T_SS (by decide) (by decide)) | (with_reducible exact T_FL (by decide)) | (with_reducible exact T_FS (by decide) (by decide)) | (with_reducible refine T_li ?_) | (with_reducible refine T_ite (fun _ => ?_) (fun _ => ?_)) | (with_reducible refine T_cl ?_ (fun _ => ?_)))

theorem tt_xl_X6_putInOrder_15 (K : Int32 → Int32 → NG Int32) : ∀ (n : Nat) (v1 v2 : Int32), msr v2 ≤ n → (∀ (v2' : Int32), T [17] [21] (K v1 v2')) → T [17] [21] (xl_X6_putInOrder_15 n v1 v2 K) := by
  intro n
  induction n with
  | zero =>
    intro v1 v2 hm _
    exact absurd hm (msr_0 _)
  | succ n ih =>
    intro v1 v2 hm hK
    unfold xl_X6_putInOrder_15
    repeat (first | (with_reducible exact T_rt _) | (with_reducible intro _) | (with_reducible exact hK _) | (with_reducible exact ih _ _ (msr_up (by assumption) hm) hK) | (with_reducible exact (tt_x_X6_putStageInOrder _ _).mono (by decide) (by decide)) | (with_reducible exact T_RF) | (with_reducible exact T_GT) | (with_reducible exact T_GD) | (with_reducible exact T_GS) | (with_reducible exact T_WF (by decide)) | (with_reducible exact T_ST (by decide)) | (with_reducible exact T_SD (by decide)) | (with_reducible exact T_SS (by decide) (by decide)) | (with_reducible exact T_FL (by decide)) | (with_reducible exact T_FS (by decide) (by decide)) | (with_reducible refine T_li ?_) | (with_reducible refine T_ite (fun _ => ?_) (fun _ => ?_)) | (with_reducible refine T_cl ?_ (fun _ => ?_)))

theorem tt_xl_X6_putInOrder_7 (K : Int32 → NG Int32) : ∀ (n : Nat) (v1 : Int32), msr v1 ≤ n → (∀ (v1' : Int32), T [17] [21] (K v1')) → T [17] [21] (xl_X6_putInOrder_7 n v1 K) := by
  intro n
  induction n with
  | zero =>
    intro v1 hm _
    exact absurd hm (msr_0 _)
  | succ n ih =>
    intro v1 hm hK
    unfold xl_X6_putInOrder_7
    repeat (first | (with_reducible exact T_rt _) | (with_reducible intro _) | (with_reducible exact hK _) | (with_reducible exact ih _ (msr_lt (by assumption) (by decide) hm) hK) | (with_reducible refine tt_xl_X6_putInOrder_15 _ fuel _ _ (msr_fuel _) ?_) | (with_reducible exact T_RF) | (with_reducible exact T_GT) | (with_reducible exact T_GD) | (with_reducible exact T_GS) | (with_reducible exact T_WF (by decide)) | (with_reducible exact T_ST (by decide)) | (with_reducible exact T_SD (by decide)) | (with_reducible exact T_SS (by decide) (by decide)) | (with_reducible exact T_FL (by decide)) | (with_reducible exact T_FS (by decide) (by decide)) | (with_reducible refine T_li ?_) | (with_reducible refine T_ite (fun _ => ?_) (fun _ => ?_)) | (with_reducible refine T_cl ?_ (fun _ => ?_)))

theorem tt_x_X6_putInOrder : T [17] [21] (x_X6_putInOrder) := by
  unfold x_X6_putInOrder
  repeat (first | (with_reducible exact T_rt _) | (with_reducible intro _) | (with_reducible refine tt_xl_X6_putInOrder_7 _ fuel _ (msr_fuel _) ?_) | (with_reducible exact T_RF) | (with_reducible exact T_GT) | (with_reducible exact T_GD) | (with_reducible exact T_GS) | (with_reducible exact T_WF (by decide)) | (with_reducible exact T_ST (by decide)) | (with_reducible exact T_SD (by decide)) | (with_reducible exact T_SS (by decide) (by decide)) | (with_reducible exact T_FL (by decide)) | (with_reducible exact T_FS (by decide) (by decide)) | (with_reducible refine T_li ?_) | (with_reducible refine T_ite (fun _ => ?_) (fun _ => ?_)) | (with_reducible refine T_cl ?_ (fun _ => ?_)))

theorem tt_x_X6_freeFrom (a0 : Int32) : T [] [] (x_X6_freeFrom a0) := by
  unfold x_X6_freeFrom
  repeat (first | (with_reducible exact T_rt _) | (with_reducible intro _) | (with_reducible exact T_RF) | (with_reducible exact T_GT) | (with_reducible exact T_GD) | (with_reducible exact T_GS) | (with_reducible exact T_WF (by decide)) | (with_reducible exact T_ST (by decide)) | (with_reducible exact T_SD (by decide)) | (with_reducible exact T_SS (by decide) (by decide)) | (with_reducible exact T_FL (by decide)) | (with_reducible exact T_FS (by decide) (by decide)) | (with_reducible refine T_li ?_) | (with_reducible refine T_ite (fun _ => ?_) (fun _ => ?_)) | (with_reducible refine T_cl ?_ (fun _ => ?_)))

theorem tt_x_X6_behindFight (a0 : Int32) (a1 : Int32) : T [] [] (x_X6_behindFight a0 a1) := by
  unfold x_X6_behindFight
  repeat (first | (with_reducible exact T_rt _) | (with_reducible intro _) | (with_reducible exact (tt_x_X0_stateOf _ _).mono (by decide) (by decide)) | (with_reducible exact (tt_x_X0_slot _ _).mono (by decide) (by decide)) | (with_reducible exact T_RF) | (with_reducible exact T_GT) | (with_reducible exact T_GD) | (with_reducible exact T_GS) | (with_reducible exact T_WF (by decide)) | (with_reducible exact T_ST (by decide)) | (with_reducible exact T_SD (by decide)) | (with_reducible exact T_SS (by decide) (by decide)) | (with_reducible exact T_FL (by decide)) | (with_reducible exact T_FS (by decide) (by decide)) | (with_reducible refine T_li ?_) | (with_reducible refine T_ite (fun _ => ?_) (fun _ => ?_)) | (with_reducible refine T_cl ?_ (fun _ => ?_)))

theorem tt_xl_X6_findEarliest_2 (K : Int32 → Int32 → NG Int32) : ∀ (n : Nat) (v1 v2 : Int32), msr v2 ≤ n → (∀ (v2' : Int32), T [] [25] (K v1 v2')) → T [] [25] (xl_X6_findEarliest_2 n v1 v2 K) := by
  intro n
  induction n with
  | zero =>
    intro v1 v2 hm _
    exact absurd hm (msr_0 _)
  | succ n ih =>
    intro v1 v2 hm hK
    unfold xl_X6_findEarliest_2
    repeat (first | (with_reducible exact T_rt _) | (with_reducible intro _) | (with_reducible exact hK _) | (with_reducible exact ih _ _ (msr_up (by assumption) hm) hK) | (with_reducible exact (tt_x_X0_fightsOf _).mono (by decide) (by decide)) | (with_reducible exact (tt_x_X0_whiteOf _ _).mono (by decide) (by decide)) | (with_reducible exact (tt_x_X6_freeFrom _).mono (by decide) (by decide)) | (with_reducible exact (tt_x_X0_blueOf _ _).mono (by decide) (by decide)) | (with_reducible exact (tt_x_X0_aheadOf _ _ _).mono (by decide) (by decide)) | (with_reducible exact (tt_x_X6_behindFight _ _).mono (by decide) (by decide)) | (with_reducible exact (tt_x_X0_slot _ _).mono (by decide) (by decide)) | (with_reducible exact T_RF) | (with_reducible exact T_GT) | (with_reducible exact T_GD) | (with_reducible exact T_GS) | (with_reducible exact T_WF (by decide)) | (with_reducible exact T_ST (by decide)) | (with_reducible exact T_SD (by decide)) | (with_reducible exact T_SS (by decide) (by decide)) | (with_reducible exact T_FL (by decide)) | (with_reducible exact T_FS (by decide) (by decide)) | (with_reducible refine T_li ?_) | (with_reducible refine T_ite (fun _ => ?_) (fun _ => ?_)) | (with_reducible refine T_cl ?_ (fun _ => ?_)))

theorem tt_x_X6_findEarliest (a0 : Int32) : T [] [25] (x_X6_findEarliest a0) := by
  unfold x_X6_findEarliest
  repeat (first | (with_reducible exact T_rt _) | (with_reducible intro _) | (with_reducible refine tt_xl_X6_findEarliest_2 _ fuel _ _ (msr_fuel _) ?_) | (with_reducible exact T_RF) | (with_reducible exact T_GT) | (with_reducible exact T_GD) | (with_reducible exact T_GS) | (with_reducible exact T_WF (by decide)) | (with_reducible exact T_ST (by decide)) | (with_reducible exact T_SD (by decide)) | (with_reducible exact T_SS (by decide) (by decide)) | (with_reducible exact T_FL (by decide)) | (with_reducible exact T_FS (by decide) (by decide)) | (with_reducible refine T_li ?_) | (with_reducible refine T_ite (fun _ => ?_) (fun _ => ?_)) | (with_reducible refine T_cl ?_ (fun _ => ?_)))

theorem tt_xl_X6_takeOutOfOrder_12 (K : Int32 → Int32 → NG Int32) : ∀ (n : Nat) (v1 v2 : Int32), msr v2 ≤ n → (∀ (v2' : Int32), T [17] [21] (K v1 v2')) → T [17] [21] (xl_X6_takeOutOfOrder_12 n v1 v2 K) := by
  intro n
  induction n with
  | zero =>
    intro v1 v2 hm _
    exact absurd hm (msr_0 _)
  | succ n ih =>
    intro v1 v2 hm hK
    unfold xl_X6_takeOutOfOrder_12
    repeat (first | (with_reducible exact T_rt _) | (with_reducible intro _) | (with_reducible exact hK _) | (with_reducible exact ih _ _ (msr_up (by assumption) hm) hK) | (with_reducible exact T_RF) | (with_reducible exact T_GT) | (with_reducible exact T_GD) | (with_reducible exact T_GS) | (with_reducible exact T_WF (by decide)) | (with_reducible exact T_ST (by decide)) | (with_reducible exact T_SD (by decide)) | (with_reducible exact T_SS (by decide) (by decide)) | (with_reducible exact T_FL (by decide)) | (with_reducible exact T_FS (by decide) (by decide)) | (with_reducible refine T_li ?_) | (with_reducible refine T_ite (fun _ => ?_) (fun _ => ?_)) | (with_reducible refine T_cl ?_ (fun _ => ?_)))

theorem tt_x_X6_takeOutOfOrder (a0 : Int32) : T [17] [21] (x_X6_takeOutOfOrder a0) := by
  unfold x_X6_takeOutOfOrder
  repeat (first | (with_reducible exact T_rt _) | (with_reducible intro _) | (with_reducible refine tt_xl_X6_takeOutOfOrder_12 _ fuel _ _ (msr_fuel _) ?_) | (with_reducible exact T_RF) | (with_reducible exact T_GT) | (with_reducible exact T_GD) | (with_reducible exact T_GS) | (with_reducible exact T_WF (by decide)) | (with_reducible exact T_ST (by decide)) | (with_reducible exact T_SD (by decide)) | (with_reducible exact T_SS (by decide) (by decide)) | (with_reducible exact T_FL (by decide)) | (with_reducible exact T_FS (by decide) (by decide)) | (with_reducible refine T_li ?_) | (with_reducible refine T_ite (fun _ => ?_) (fun _ => ?_)) | (with_reducible refine T_cl ?_ (fun _ => ?_)))

theorem tt_xl_X6_firstThatMay_2 (K : Int32 → Int32 → NG Int32) : ∀ (n : Nat) (v1 v2 : Int32), msr v2 ≤ n → (∀ (v2' : Int32), T [] [] (K v1 v2')) → T [] [] (xl_X6_firstThatMay_2 n v1 v2 K) := by
  intro n
  induction n with
  | zero =>
    intro v1 v2 hm _
    exact absurd hm (msr_0 _)
  | succ n ih =>
    intro v1 v2 hm hK
    unfold xl_X6_firstThatMay_2
    repeat (first | (with_reducible exact T_rt _) | (with_reducible intro _) | (with_reducible exact hK _) | (with_reducible exact ih _ _ (msr_up (by assumption) hm) hK) | (with_reducible exact T_RF) | (with_reducible exact T_GT) | (with_reducible exact T_GD) | (with_reducible exact T_GS) | (with_reducible exact T_WF (by decide)) | (with_reducible exact T_ST (by decide)) | (with_reducible exact T_SD (by decide)) | (with_reducible exact T_SS (by decide) (by decide)) | (with_reducible exact T_FL (by decide)) | (with_reducible exact T_FS (by decide) (by decide)) | (with_reducible refine T_li ?_) | (with_reducible refine T_ite (fun _ => ?_) (fun _ => ?_)) | (with_reducible refine T_cl ?_ (fun _ => ?_)))

theorem tt_x_X6_firstThatMay (a0 : Int32) : T [] [] (x_X6_firstThatMay a0) := by
  unfold x_X6_firstThatMay
  repeat (first | (with_reducible exact T_rt _) | (with_reducible intro _) | (with_reducible refine tt_xl_X6_firstThatMay_2 _ fuel _ _ (msr_fuel _) ?_) | (with_reducible exact T_RF) | (with_reducible exact T_GT) | (with_reducible exact T_GD) | (with_reducible exact T_GS) | (with_reducible exact T_WF (by decide)) | (with_reducible exact T_ST (by decide)) | (with_reducible exact T_SD (by decide)) | (with_reducible exact T_SS (by decide) (by decide)) | (with_reducible exact T_FL (by decide)) | (with_reducible exact T_FS (by decide) (by decide)) | (with_reducible refine T_li ?_) | (with_reducible refine T_ite (fun _ => ?_) (fun _ => ?_)) | (with_reducible refine T_cl ?_ (fun _ => ?_)))

theorem tt_xl_X6_putFrom_2 (K : Int32 → Int32 → Int32 → NG Int32) : ∀ (n : Nat) (v1 v2 v3 : Int32), msr v3 ≤ n → (∀ (v3' : Int32), T [17, 19] [21, 22, 23, 24, 25, 26, 27, 28, 29] (K v1 v2 v3')) → T [17, 19] [21, 22, 23, 24, 25, 26, 27, 28, 29] (xl_X6_putFrom_2 n v1 v2 v3 K) := by
  intro n
  induction n with
  | zero =>
    intro v1 v2 v3 hm _
    exact absurd hm (msr_0 _)
  | succ n ih =>
    intro v1 v2 v3 hm hK
    unfold xl_X6_putFrom_2
    repeat (first | (with_reducible exact T_rt _) | (with_reducible intro _) | (with_reducible exact hK _) | (with_reducible exact ih _ _ _ (msr_up (by assumption) hm) hK) | (with_reducible exact (tt_x_X6_put _ _ _ _).mono (by decide) (by decide)) | (with_reducible exact (tt_x_X6_takeOutOfOrder _).mono (by decide) (by decide)) | (with_reducible exact (tt_x_X6_findEarliest _).mono (by decide) (by decide)) | (with_reducible exact (tt_x_X6_firstThatMay _).mono (by decide) (by decide)) | (with_reducible exact T_RF) | (with_reducible exact T_GT) | (with_reducible exact T_GD) | (with_reducible exact T_GS) | (with_reducible exact T_WF (by decide)) | (with_reducible exact T_ST (by decide)) | (with_reducible exact T_SD (by decide)) | (with_reducible exact T_SS (by decide) (by decide)) | (with_reducible exact T_FL (by decide)) | (with_reducible exact T_FS (by decide) (by decide)) | (with_reducible refine T_li ?_) | (with_reducible refine T_ite (fun _ => ?_) (fun _ => ?_)) | (with_reducible refine T_cl ?_ (fun _ => ?_)))

theorem tt_x_X6_putFrom (a0 : Int32) (a1 : Int32) : T [17, 19] [21, 22, 23, 24, 25, 26, 27, 28, 29] (x_X6_putFrom a0 a1) := by
  unfold x_X6_putFrom
  repeat (first | (with_reducible exact T_rt _) | (with_reducible intro _) | (with_reducible refine tt_xl_X6_putFrom_2 _ fuel _ _ _ (msr_fuel _) ?_) | (with_reducible exact T_RF) | (with_reducible exact T_GT) | (with_reducible exact T_GD) | (with_reducible exact T_GS) | (with_reducible exact T_WF (by decide)) | (with_reducible exact T_ST (by decide)) | (with_reducible exact T_SD (by decide)) | (with_reducible exact T_SS (by decide) (by decide)) | (with_reducible exact T_FL (by decide)) | (with_reducible exact T_FS (by decide) (by decide)) | (with_reducible refine T_li ?_) | (with_reducible refine T_ite (fun _ => ?_) (fun _ => ?_)) | (with_reducible refine T_cl ?_ (fun _ => ?_)))

theorem tt_xl_X6_soonestMat_5 (K : Int32 → Int32 → Int32 → NG Int32) : ∀ (n : Nat) (v1 v2 v3 : Int32), msr v3 ≤ n → (∀ (v2' v3' : Int32), T [] [] (K v1 v2' v3')) → T [] [] (xl_X6_soonestMat_5 n v1 v2 v3 K) := by
  intro n
  induction n with
  | zero =>
    intro v1 v2 v3 hm _
    exact absurd hm (msr_0 _)
  | succ n ih =>
    intro v1 v2 v3 hm hK
    unfold xl_X6_soonestMat_5
    repeat (first | (with_reducible exact T_rt _) | (with_reducible intro _) | (with_reducible exact hK _ _) | (with_reducible exact ih _ _ _ (msr_up (by assumption) hm) hK) | (with_reducible exact T_RF) | (with_reducible exact T_GT) | (with_reducible exact T_GD) | (with_reducible exact T_GS) | (with_reducible exact T_WF (by decide)) | (with_reducible exact T_ST (by decide)) | (with_reducible exact T_SD (by decide)) | (with_reducible exact T_SS (by decide) (by decide)) | (with_reducible exact T_FL (by decide)) | (with_reducible exact T_FS (by decide) (by decide)) | (with_reducible refine T_li ?_) | (with_reducible refine T_ite (fun _ => ?_) (fun _ => ?_)) | (with_reducible refine T_cl ?_ (fun _ => ?_)))

theorem tt_x_X6_soonestMat (a0 : Int32) : T [] [] (x_X6_soonestMat a0) := by
  unfold x_X6_soonestMat
  repeat (first | (with_reducible exact T_rt _) | (with_reducible intro _) | (with_reducible refine tt_xl_X6_soonestMat_5 _ fuel _ _ _ (msr_fuel _) ?_) | (with_reducible exact T_RF) | (with_reducible exact T_GT) | (with_reducible exact T_GD) | (with_reducible exact T_GS) | (with_reducible exact T_WF (by decide)) | (with_reducible exact T_ST (by decide)) | (with_reducible exact T_SD (by decide)) | (with_reducible exact T_SS (by decide) (by decide)) | (with_reducible exact T_FL (by decide)) | (with_reducible exact T_FS (by decide) (by decide)) | (with_reducible refine T_li ?_) | (with_reducible refine T_ite (fun _ => ?_) (fun _ => ?_)) | (with_reducible refine T_cl ?_ (fun _ => ?_)))

theorem tt_xl_X6_soonestFight_5 (K : Int32 → Int32 → NG Int32) : ∀ (n : Nat) (v1 v2 : Int32), msr v2 ≤ n → (∀ (v1' v2' : Int32), T [] [] (K v1' v2')) → T [] [] (xl_X6_soonestFight_5 n v1 v2 K) := by
  intro n
  induction n with
  | zero =>
    intro v1 v2 hm _
    exact absurd hm (msr_0 _)
  | succ n ih =>
    intro v1 v2 hm hK
    unfold xl_X6_soonestFight_5
    repeat (first | (with_reducible exact T_rt _) | (with_reducible intro _) | (with_reducible exact hK _ _) | (with_reducible exact ih _ _ (msr_up (by assumption) hm) hK) | (with_reducible exact T_RF) | (with_reducible exact T_GT) | (with_reducible exact T_GD) | (with_reducible exact T_GS) | (with_reducible exact T_WF (by decide)) | (with_reducible exact T_ST (by decide)) | (with_reducible exact T_SD (by decide)) | (with_reducible exact T_SS (by decide) (by decide)) | (with_reducible exact T_FL (by decide)) | (with_reducible exact T_FS (by decide) (by decide)) | (with_reducible refine T_li ?_) | (with_reducible refine T_ite (fun _ => ?_) (fun _ => ?_)) | (with_reducible refine T_cl ?_ (fun _ => ?_)))

theorem tt_x_X6_soonestFight : T [] [] (x_X6_soonestFight) := by
  unfold x_X6_soonestFight
  repeat (first | (with_reducible exact T_rt _) | (with_reducible intro _) | (with_reducible refine tt_xl_X6_soonestFight_5 _ fuel _ _ (msr_fuel _) ?_) | (with_reducible exact T_RF) | (with_reducible exact T_GT) | (with_reducible exact T_GD) | (with_reducible exact T_GS) | (with_reducible exact T_WF (by decide)) | (with_reducible exact T_ST (by decide)) | (with_reducible exact T_SD (by decide)) | (with_reducible exact T_SS (by decide) (by decide)) | (with_reducible exact T_FL (by decide)) | (with_reducible exact T_FS (by decide) (by decide)) | (with_reducible refine T_li ?_) | (with_reducible refine T_ite (fun _ => ?_) (fun _ => ?_)) | (with_reducible refine T_cl ?_ (fun _ => ?_)))

theorem tt_x_X6_keep : T [61, 62, 63, 64] [] (x_X6_keep) := by
  unfold x_X6_keep
  repeat (first | (with_reducible exact T_rt _) | (with_reducible intro _) | (with_reducible exact T_RF) | (with_reducible exact T_GT) | (with_reducible exact T_GD) | (with_reducible exact T_GS) | (with_reducible exact T_WF (by decide)) | (with_reducible exact T_ST (by decide)) | (with_reducible exact T_SD (by decide)) | (with_reducible exact T_SS (by decide) (by decide)) | (with_reducible exact T_FL (by decide)) | (with_reducible exact T_FS (by decide) (by decide)) | (with_reducible refine T_li ?_) | (with_reducible refine T_ite (fun _ => ?_) (fun _ => ?_)) | (with_reducible refine T_cl ?_ (fun _ => ?_)))

theorem tt_xl_X6_planDay_19 (K : Int32 → Int32 → Int32 → NG Int32) : ∀ (n : Nat) (v1 v2 v3 : Int32), msr v3 ≤ n → (∀ (v3' : Int32), T [17, 18, 19, 61, 62, 63, 64] [21, 22, 23, 24, 25, 26, 27, 28, 29] (K v1 v2 v3')) → T [17, 18, 19, 61, 62, 63, 64] [21, 22, 23, 24, 25, 26, 27, 28, 29] (xl_X6_planDay_19 n v1 v2 v3 K) := by
  intro n
  induction n with
  | zero =>
    intro v1 v2 v3 hm _
    exact absurd hm (msr_0 _)
  | succ n ih =>
    intro v1 v2 v3 hm hK
    unfold xl_X6_planDay_19
    repeat (first | (with_reducible exact T_rt _) | (with_reducible intro _) | (with_reducible exact hK _) | (with_reducible exact ih _ _ _ (msr_up (by assumption) hm) hK) | (with_reducible exact (tt_x_X6_findEarliest _).mono (by decide) (by decide)) | (with_reducible exact T_RF) | (with_reducible exact T_GT) | (with_reducible exact T_GD) | (with_reducible exact T_GS) | (with_reducible exact T_WF (by decide)) | (with_reducible exact T_ST (by decide)) | (with_reducible exact T_SD (by decide)) | (with_reducible exact T_SS (by decide) (by decide)) | (with_reducible exact T_FL (by decide)) | (with_reducible exact T_FS (by decide) (by decide)) | (with_reducible refine T_li ?_) | (with_reducible refine T_ite (fun _ => ?_) (fun _ => ?_)) | (with_reducible refine T_cl ?_ (fun _ => ?_)))

theorem tt_xl_X6_planDay_47 (K : Int32 → Int32 → Int32 → Int32 → NG Int32) : ∀ (n : Nat) (v1 v2 v3 v4 : Int32), msr v4 ≤ n → (∀ (v3' v4' : Int32), T [17, 18, 19, 61, 62, 63, 64] [21, 22, 23, 24, 25, 26, 27, 28, 29] (K v1 v2 v3' v4')) → T [17, 18, 19, 61, 62, 63, 64] [21, 22, 23, 24, 25, 26, 27, 28, 29] (xl_X6_planDay_47 n v1 v2 v3 v4 K) := by
  intro n
  induction n with
  | zero =>
    intro v1 v2 v3 v4 hm _
    exact absurd hm (msr_0 _)
  | succ n ih =>
    intro v1 v2 v3 v4 hm hK
    unfold xl_X6_planDay_47
    repeat (first | (with_reducible exact T_rt _) | (with_reducible intro _) | (with_reducible exact hK _ _) | (with_reducible exact ih _ _ _ _ (msr_up (by assumption) hm) hK) | (with_reducible exact (tt_x_X6_putFrom _ _).mono (by decide) (by decide)) | (with_reducible exact (tt_x_X6_soonestMat _).mono (by decide) (by decide)) | (with_reducible exact (tt_x_X6_soonestFight).mono (by decide) (by decide)) | (with_reducible exact T_RF) | (with_reducible exact T_GT) | (with_reducible exact T_GD) | (with_reducible exact T_GS) | (with_reducible exact T_WF (by decide)) | (with_reducible exact T_ST (by decide)) | (with_reducible exact T_SD (by decide)) | (with_reducible exact T_SS (by decide) (by decide)) | (with_reducible exact T_FL (by decide)) | (with_reducible exact T_FS (by decide) (by decide)) | (with_reducible refine T_li ?_) | (with_reducible refine T_ite (fun _ => ?_) (fun _ => ?_)) | (with_reducible refine T_cl ?_ (fun _ => ?_)))

theorem tt_x_X6_planDay (a0 : Int32) (a1 : Int32) : T [17, 18, 19, 61, 62, 63, 64] [21, 22, 23, 24, 25, 26, 27, 28, 29] (x_X6_planDay a0 a1) := by
  unfold x_X6_planDay
  repeat (first | (with_reducible exact T_rt _) | (with_reducible intro _) | (with_reducible refine tt_xl_X6_planDay_19 _ fuel _ _ _ (msr_fuel _) ?_) | (with_reducible refine tt_xl_X6_planDay_47 _ fuel _ _ _ _ (msr_fuel _) ?_) | (with_reducible exact (tt_x_X6_clear).mono (by decide) (by decide)) | (with_reducible exact (tt_x_X6_putOpenOnes).mono (by decide) (by decide)) | (with_reducible exact (tt_x_X6_putInOrder).mono (by decide) (by decide)) | (with_reducible exact (tt_x_X6_keep).mono (by decide) (by decide)) | (with_reducible exact T_RF) | (with_reducible exact T_GT) | (with_reducible exact T_GD) | (with_reducible exact T_GS) | (with_reducible exact T_WF (by decide)) | (with_reducible exact T_ST (by decide)) | (with_reducible exact T_SD (by decide)) | (with_reducible exact T_SS (by decide) (by decide)) | (with_reducible exact T_FL (by decide)) | (with_reducible exact T_FS (by decide) (by decide)) | (with_reducible refine T_li ?_) | (with_reducible refine T_ite (fun _ => ?_) (fun _ => ?_)) | (with_reducible refine T_cl ?_ (fun _ => ?_)))

theorem tt_x_X7_ofTree (a0 : Int32) (a1 : Int32) : T [] [] (x_X7_ofTree a0 a1) := by
  unfold x_X7_ofTree
  repeat (first | (with_reducible exact T_rt _) | (with_reducible intro _) | (with_reducible exact (tt_x_X0_sizeOf _).mono (by decide) (by decide)) | (with_reducible exact (tt_x_X0_fightsOf _).mono (by decide) (by decide)) | (with_reducible exact (tt_x_X0_winnerOf _ _).mono (by decide) (by decide)) | (with_reducible exact (tt_x_X0_loserOf _ _).mono (by decide) (by decide)) | (with_reducible exact T_RF) | (with_reducible exact T_GT) | (with_reducible exact T_GD) | (with_reducible exact T_GS) | (with_reducible exact T_WF (by decide)) | (with_reducible exact T_ST (by decide)) | (with_reducible exact T_SD (by decide)) | (with_reducible exact T_SS (by decide) (by decide)) | (with_reducible exact T_FL (by decide)) | (with_reducible exact T_FS (by decide) (by decide)) | (with_reducible refine T_li ?_) | (with_reducible refine T_ite (fun _ => ?_) (fun _ => ?_)) | (with_reducible refine T_cl ?_ (fun _ => ?_)))

theorem tt_xl_X7_addUp_18 (K : Int32 → Int32 → NG Int32) : ∀ (n : Nat) (v1 v2 : Int32), msr v2 ≤ n → (∀ (v2' : Int32), T [] [19, 20] (K v1 v2')) → T [] [19, 20] (xl_X7_addUp_18 n v1 v2 K) := by
  intro n
  induction n with
  | zero =>
    intro v1 v2 hm _
    exact absurd hm (msr_0 _)
  | succ n ih =>
    intro v1 v2 hm hK
    unfold xl_X7_addUp_18
    repeat (first | (with_reducible exact T_rt _) | (with_reducible intro _) | (with_reducible exact hK _) | (with_reducible exact ih _ _ (msr_up (by assumption) hm) hK) | (with_reducible exact (tt_x_X0_fightsOf _).mono (by decide) (by decide)) | (with_reducible exact (tt_x_X0_winnerOf _ _).mono (by decide) (by decide)) | (with_reducible exact (tt_x_X1_ofFight _ _ _).mono (by decide) (by decide)) | (with_reducible exact T_RF) | (with_reducible exact T_GT) | (with_reducible exact T_GD) | (with_reducible exact T_GS) | (with_reducible exact T_WF (by decide)) | (with_reducible exact T_ST (by decide)) | (with_reducible exact T_SD (by decide)) | (with_reducible exact T_SS (by decide) (by decide)) | (with_reducible exact T_FL (by decide)) | (with_reducible exact T_FS (by decide) (by decide)) | (with_reducible refine T_li ?_) | (with_reducible refine T_ite (fun _ => ?_) (fun _ => ?_)) | (with_reducible refine T_cl ?_ (fun _ => ?_)))

theorem tt_x_X7_addUp (a0 : Int32) : T [] [19, 20] (x_X7_addUp a0) := by
  unfold x_X7_addUp
  repeat (first | (with_reducible exact T_rt _) | (with_reducible intro _) | (with_reducible refine tt_xl_X7_addUp_18 _ fuel _ _ (msr_fuel _) ?_) | (with_reducible exact T_RF) | (with_reducible exact T_GT) | (with_reducible exact T_GD) | (with_reducible exact T_GS) | (with_reducible exact T_WF (by decide)) | (with_reducible exact T_ST (by decide)) | (with_reducible exact T_SD (by decide)) | (with_reducible exact T_SS (by decide) (by decide)) | (with_reducible exact T_FL (by decide)) | (with_reducible exact T_FS (by decide) (by decide)) | (with_reducible refine T_li ?_) | (with_reducible refine T_ite (fun _ => ?_) (fun _ => ?_)) | (with_reducible refine T_cl ?_ (fun _ => ?_)))

theorem tt_x_X7_member (a0 : Int32) (a1 : Int32) : T [] [] (x_X7_member a0 a1) := by
  unfold x_X7_member
  repeat (first | (with_reducible exact T_rt _) | (with_reducible intro _) | (with_reducible exact (tt_x_X1_ofClass _ _).mono (by decide) (by decide)) | (with_reducible exact T_RF) | (with_reducible exact T_GT) | (with_reducible exact T_GD) | (with_reducible exact T_GS) | (with_reducible exact T_WF (by decide)) | (with_reducible exact T_ST (by decide)) | (with_reducible exact T_SD (by decide)) | (with_reducible exact T_SS (by decide) (by decide)) | (with_reducible exact T_FL (by decide)) | (with_reducible exact T_FS (by decide) (by decide)) | (with_reducible refine T_li ?_) | (with_reducible refine T_ite (fun _ => ?_) (fun _ => ?_)) | (with_reducible refine T_cl ?_ (fun _ => ?_)))

theorem tt_x_X7_areAlike (a0 : Int32) (a1 : Int32) : T [] [] (x_X7_areAlike a0 a1) := by
  unfold x_X7_areAlike
  repeat (first | (with_reducible exact T_rt _) | (with_reducible intro _) | (with_reducible exact T_RF) | (with_reducible exact T_GT) | (with_reducible exact T_GD) | (with_reducible exact T_GS) | (with_reducible exact T_WF (by decide)) | (with_reducible exact T_ST (by decide)) | (with_reducible exact T_SD (by decide)) | (with_reducible exact T_SS (by decide) (by decide)) | (with_reducible exact T_FL (by decide)) | (with_reducible exact T_FS (by decide) (by decide)) | (with_reducible refine T_li ?_) | (with_reducible refine T_ite (fun _ => ?_) (fun _ => ?_)) | (with_reducible refine T_cl ?_ (fun _ => ?_)))

theorem tt_x_X7_hasMore (a0 : Int32) (a1 : Int32) : T [] [] (x_X7_hasMore a0 a1) := by
  unfold x_X7_hasMore
  repeat (first | (with_reducible exact T_rt _) | (with_reducible intro _) | (with_reducible exact T_RF) | (with_reducible exact T_GT) | (with_reducible exact T_GD) | (with_reducible exact T_GS) | (with_reducible exact T_WF (by decide)) | (with_reducible exact T_ST (by decide)) | (with_reducible exact T_SD (by decide)) | (with_reducible exact T_SS (by decide) (by decide)) | (with_reducible exact T_FL (by decide)) | (with_reducible exact T_FS (by decide) (by decide)) | (with_reducible refine T_li ?_) | (with_reducible refine T_ite (fun _ => ?_) (fun _ => ?_)) | (with_reducible refine T_cl ?_ (fun _ => ?_)))

theorem tt_xl_X7_beat_3 (K : Int32 → Int32 → Int32 → Int32 → NG Int32) : ∀ (n : Nat) (v1 v2 v3 v4 : Int32), msr v4 ≤ n → (∀ (v4' : Int32), T [] [] (K v1 v2 v3 v4')) → T [] [] (xl_X7_beat_3 n v1 v2 v3 v4 K) := by
  intro n
  induction n with
  | zero =>
    intro v1 v2 v3 v4 hm _
    exact absurd hm (msr_0 _)
  | succ n ih =>
    intro v1 v2 v3 v4 hm hK
    unfold xl_X7_beat_3
    repeat (first | (with_reducible exact T_rt _) | (with_reducible intro _) | (with_reducible exact hK _) | (with_reducible exact ih _ _ _ _ (msr_up (by assumption) hm) hK) | (with_reducible exact (tt_x_X0_fightsOf _).mono (by decide) (by decide)) | (with_reducible exact (tt_x_X0_winnerOf _ _).mono (by decide) (by decide)) | (with_reducible exact (tt_x_X0_loserOf _ _).mono (by decide) (by decide)) | (with_reducible exact T_RF) | (with_reducible exact T_GT) | (with_reducible exact T_GD) | (with_reducible exact T_GS) | (with_reducible exact T_WF (by decide)) | (with_reducible exact T_ST (by decide)) | (with_reducible exact T_SD (by decide)) | (with_reducible exact T_SS (by decide) (by decide)) | (with_reducible exact T_FL (by decide)) | (with_reducible exact T_FS (by decide) (by decide)) | (with_reducible refine T_li ?_) | (with_reducible refine T_ite (fun _ => ?_) (fun _ => ?_)) | (with_reducible refine T_cl ?_ (fun _ => ?_)))

theorem tt_x_X7_beat (a0 : Int32) (a1 : Int32) (a2 : Int32) : T [] [] (x_X7_beat a0 a1 a2) := by
  unfold x_X7_beat
  repeat (first | (with_reducible exact T_rt _) | (with_reducible intro _) | (with_reducible refine tt_xl_X7_beat_3 _ fuel _ _ _ _ (msr_fuel _) ?_) | (with_reducible exact T_RF) | (with_reducible exact T_GT) | (with_reducible exact T_GD) | (with_reducible exact T_GS) | (with_reducible exact T_WF (by decide)) | (with_reducible exact T_ST (by decide)) | (with_reducible exact T_SD (by decide)) | (with_reducible exact T_SS (by decide) (by decide)) | (with_reducible exact T_FL (by decide)) | (with_reducible exact T_FS (by decide) (by decide)) | (with_reducible refine T_li ?_) | (with_reducible refine T_ite (fun _ => ?_) (fun _ => ?_)) | (with_reducible refine T_cl ?_ (fun _ => ?_)))

def Vb (p : NG Int32) : Prop := ∀ u r v, p u = some (r, v) → r = 0 ∨ r = 1
theorem Vb_cl {α : Type} {p : NG α} {q : α → NG Int32} (h : ∀ a, Vb (q a)) : Vb (ncl p q) := fun u r v e => by
  obtain ⟨a, w, -, e2⟩ := ncl_some e
  exact h a w r v e2
theorem Vb_ite {b : Prop} [Decidable b] {p q : NG Int32} (h1 : Vb p) (h2 : Vb q) : Vb (if b then p else q) := by
  by_cases h : b
  · rw [if_pos h]; exact h1
  · rw [if_neg h]; exact h2
theorem Vb_li {x : Int32} {q : Int32 → NG Int32} (h : Vb (q x)) : Vb (nli x q) := h
theorem Vb_1 : Vb (nrt 1) := fun u r v e => by cases e; exact Or.inr rfl
theorem Vb_0 : Vb (nrt 0) := fun u r v e => by cases e; exact Or.inl rfl
theorem vb_beat_3 : ∀ (n : Nat) (v1 v2 v3 v4 : Int32), Vb (xl_X7_beat_3 n v1 v2 v3 v4 (fun v1 v2 v3 v4 => nrt 0)) := by
  intro n
  induction n with
  | zero => intro v1 v2 v3 v4 u r v e; cases e
  | succ n ih =>
    intro v1 v2 v3 v4
    unfold xl_X7_beat_3
    exact Vb_cl (fun _ => Vb_ite Vb_0 (Vb_cl (fun _ => Vb_ite (Vb_cl (fun _ => Vb_ite Vb_1 (Vb_li (ih _ _ _ _)))) (Vb_li (ih _ _ _ _)))))
theorem tt_x_X7_breaksTie (a0 a1 a2 a3 : Int32) : T [] [] (x_X7_breaksTie a0 a1 a2 a3) := by
  unfold x_X7_breaksTie
  refine T_ite (fun _ => fun u => ?_) (fun _ => ?_)
  · obtain ⟨r, v, e, hs⟩ := tt_x_X7_beat a0 a1 a2 u
    have hr : r = 0 ∨ r = 1 := by
      have e2 := e
      unfold x_X7_beat at e2
      exact vb_beat_3 _ _ _ _ _ u r v e2
    have hg : gb r = true := by rcases hr with rfl | rfl <;> decide
    exact ⟨r, v, by unfold ncl; rw [e]; show nog (gb r) (nrt r) v = _; rw [hg]; rfl, hs⟩
  · repeat (first | (with_reducible exact T_rt _) | (with_reducible exact (tt_x_X1_ofFighter _ _).mono (by decide) (by decide)) | (with_reducible exact T_GT) | (with_reducible refine T_ite (fun _ => ?_) (fun _ => ?_)) | (with_reducible refine T_cl ?_ (fun _ => ?_)))

theorem tt_xl_X7_aheadOf_8 (K : Int32 → Int32 → Int32 → Int32 → Int32 → NG Int32) : ∀ (n : Nat) (v1 v2 v3 v4 v5 : Int32), msr v5 ≤ n → (∀ (v4' v5' : Int32), T [] [] (K v1 v2 v3 v4' v5')) → T [] [] (xl_X7_aheadOf_8 n v1 v2 v3 v4 v5 K) := by
  intro n
  induction n with
  | zero =>
    intro v1 v2 v3 v4 v5 hm _
    exact absurd hm (msr_0 _)
  | succ n ih =>
    intro v1 v2 v3 v4 v5 hm hK
    unfold xl_X7_aheadOf_8
    repeat (first | (with_reducible exact T_rt _) | (with_reducible intro _) | (with_reducible exact hK _ _) | (with_reducible exact ih _ _ _ _ _ (msr_up (by assumption) hm) hK) | (with_reducible exact (tt_x_X0_sizeOf _).mono (by decide) (by decide)) | (with_reducible exact (tt_x_X7_member _ _).mono (by decide) (by decide)) | (with_reducible exact (tt_x_X7_areAlike _ _).mono (by decide) (by decide)) | (with_reducible exact T_RF) | (with_reducible exact T_GT) | (with_reducible exact T_GD) | (with_reducible exact T_GS) | (with_reducible exact T_WF (by decide)) | (with_reducible exact T_ST (by decide)) | (with_reducible exact T_SD (by decide)) | (with_reducible exact T_SS (by decide) (by decide)) | (with_reducible exact T_FL (by decide)) | (with_reducible exact T_FS (by decide) (by decide)) | (with_reducible refine T_li ?_) | (with_reducible refine T_ite (fun _ => ?_) (fun _ => ?_)) | (with_reducible refine T_cl ?_ (fun _ => ?_)))

theorem tt_xl_X7_aheadOf_55 (K : Int32 → Int32 → Int32 → Int32 → Int32 → NG Int32) : ∀ (n : Nat) (v1 v2 v3 v4 v5 : Int32), msr v5 ≤ n → (∀ (v3' v5' : Int32), T [] [] (K v1 v2 v3' v4 v5')) → T [] [] (xl_X7_aheadOf_55 n v1 v2 v3 v4 v5 K) := by
  intro n
  induction n with
  | zero =>
    intro v1 v2 v3 v4 v5 hm _
    exact absurd hm (msr_0 _)
  | succ n ih =>
    intro v1 v2 v3 v4 v5 hm hK
    unfold xl_X7_aheadOf_55
    repeat (first | (with_reducible exact T_rt _) | (with_reducible intro _) | (with_reducible exact hK _ _) | (with_reducible exact ih _ _ _ _ _ (msr_up (by assumption) hm) hK) | (with_reducible exact (tt_x_X0_sizeOf _).mono (by decide) (by decide)) | (with_reducible exact (tt_x_X7_member _ _).mono (by decide) (by decide)) | (with_reducible exact (tt_x_X7_areAlike _ _).mono (by decide) (by decide)) | (with_reducible exact (tt_x_X7_hasMore _ _).mono (by decide) (by decide)) | (with_reducible exact (tt_x_X7_breaksTie _ _ _ _).mono (by decide) (by decide)) | (with_reducible exact T_RF) | (with_reducible exact T_GT) | (with_reducible exact T_GD) | (with_reducible exact T_GS) | (with_reducible exact T_WF (by decide)) | (with_reducible exact T_ST (by decide)) | (with_reducible exact T_SD (by decide)) | (with_reducible exact T_SS (by decide) (by decide)) | (with_reducible exact T_FL (by decide)) | (with_reducible exact T_FS (by decide) (by decide)) | (with_reducible refine T_li ?_) | (with_reducible refine T_ite (fun _ => ?_) (fun _ => ?_)) | (with_reducible refine T_cl ?_ (fun _ => ?_)))

theorem tt_x_X7_aheadOf (a0 : Int32) (a1 : Int32) : T [] [] (x_X7_aheadOf a0 a1) := by
  unfold x_X7_aheadOf
  repeat (first | (with_reducible exact T_rt _) | (with_reducible intro _) | (with_reducible refine tt_xl_X7_aheadOf_8 _ fuel _ _ _ _ _ (msr_fuel _) ?_) | (with_reducible refine tt_xl_X7_aheadOf_55 _ fuel _ _ _ _ _ (msr_fuel _) ?_) | (with_reducible exact T_RF) | (with_reducible exact T_GT) | (with_reducible exact T_GD) | (with_reducible exact T_GS) | (with_reducible exact T_WF (by decide)) | (with_reducible exact T_ST (by decide)) | (with_reducible exact T_SD (by decide)) | (with_reducible exact T_SS (by decide) (by decide)) | (with_reducible exact T_FL (by decide)) | (with_reducible exact T_FS (by decide) (by decide)) | (with_reducible refine T_li ?_) | (with_reducible refine T_ite (fun _ => ?_) (fun _ => ?_)) | (with_reducible refine T_cl ?_ (fun _ => ?_)))

theorem tt_xl_X7_ofPool_29 (K : Int32 → Int32 → Int32 → NG Int32) : ∀ (n : Nat) (v1 v2 v3 : Int32), msr v3 ≤ n → (∀ (v3' : Int32), T [] [19, 20] (K v1 v2 v3')) → T [] [19, 20] (xl_X7_ofPool_29 n v1 v2 v3 K) := by
  intro n
  induction n with
  | zero =>
    intro v1 v2 v3 hm _
    exact absurd hm (msr_0 _)
  | succ n ih =>
    intro v1 v2 v3 hm hK
    unfold xl_X7_ofPool_29
    repeat (first | (with_reducible exact T_rt _) | (with_reducible intro _) | (with_reducible exact hK _) | (with_reducible exact ih _ _ _ (msr_up (by assumption) hm) hK) | (with_reducible exact (tt_x_X0_sizeOf _).mono (by decide) (by decide)) | (with_reducible exact (tt_x_X7_member _ _).mono (by decide) (by decide)) | (with_reducible exact (tt_x_X7_aheadOf _ _).mono (by decide) (by decide)) | (with_reducible exact T_RF) | (with_reducible exact T_GT) | (with_reducible exact T_GD) | (with_reducible exact T_GS) | (with_reducible exact T_WF (by decide)) | (with_reducible exact T_ST (by decide)) | (with_reducible exact T_SD (by decide)) | (with_reducible exact T_SS (by decide) (by decide)) | (with_reducible exact T_FL (by decide)) | (with_reducible exact T_FS (by decide) (by decide)) | (with_reducible refine T_li ?_) | (with_reducible refine T_ite (fun _ => ?_) (fun _ => ?_)) | (with_reducible refine T_cl ?_ (fun _ => ?_)))

theorem tt_x_X7_ofPool (a0 : Int32) (a1 : Int32) : T [] [19, 20] (x_X7_ofPool a0 a1) := by
  unfold x_X7_ofPool
  repeat (first | (with_reducible exact T_rt _) | (with_reducible intro _) | (with_reducible refine tt_xl_X7_ofPool_29 _ fuel _ _ _ (msr_fuel _) ?_) | (with_reducible exact (tt_x_X0_howMany _ _).mono (by decide) (by decide)) | (with_reducible exact (tt_x_X0_fightsOf _).mono (by decide) (by decide)) | (with_reducible exact (tt_x_X7_addUp _).mono (by decide) (by decide)) | (with_reducible exact T_RF) | (with_reducible exact T_GT) | (with_reducible exact T_GD) | (with_reducible exact T_GS) | (with_reducible exact T_WF (by decide)) | (with_reducible exact T_ST (by decide)) | (with_reducible exact T_SD (by decide)) | (with_reducible exact T_SS (by decide) (by decide)) | (with_reducible exact T_FL (by decide)) | (with_reducible exact T_FS (by decide) (by decide)) | (with_reducible refine T_li ?_) | (with_reducible refine T_ite (fun _ => ?_) (fun _ => ?_)) | (with_reducible refine T_cl ?_ (fun _ => ?_)))

theorem tt_x_X8_people : T [] [] (x_X8_people) := by
  unfold x_X8_people
  repeat (first | (with_reducible exact T_rt _) | (with_reducible intro _) | (with_reducible exact T_RF) | (with_reducible exact T_GT) | (with_reducible exact T_GD) | (with_reducible exact T_GS) | (with_reducible exact T_WF (by decide)) | (with_reducible exact T_ST (by decide)) | (with_reducible exact T_SD (by decide)) | (with_reducible exact T_SS (by decide) (by decide)) | (with_reducible exact T_FL (by decide)) | (with_reducible exact T_FS (by decide) (by decide)) | (with_reducible refine T_li ?_) | (with_reducible refine T_ite (fun _ => ?_) (fun _ => ?_)) | (with_reducible refine T_cl ?_ (fun _ => ?_)))

theorem tt_x_X8_has (a0 : Int32) : T [] [] (x_X8_has a0) := by
  unfold x_X8_has
  repeat (first | (with_reducible exact T_rt _) | (with_reducible intro _) | (with_reducible exact (tt_x_X8_people).mono (by decide) (by decide)) | (with_reducible exact T_RF) | (with_reducible exact T_GT) | (with_reducible exact T_GD) | (with_reducible exact T_GS) | (with_reducible exact T_WF (by decide)) | (with_reducible exact T_ST (by decide)) | (with_reducible exact T_SD (by decide)) | (with_reducible exact T_SS (by decide) (by decide)) | (with_reducible exact T_FL (by decide)) | (with_reducible exact T_FS (by decide) (by decide)) | (with_reducible refine T_li ?_) | (with_reducible refine T_ite (fun _ => ?_) (fun _ => ?_)) | (with_reducible refine T_cl ?_ (fun _ => ?_)))

theorem tt_x_X8_classOf (a0 : Int32) : T [] [] (x_X8_classOf a0) := by
  unfold x_X8_classOf
  repeat (first | (with_reducible exact T_rt _) | (with_reducible intro _) | (with_reducible exact (tt_x_X1_ofFighter _ _).mono (by decide) (by decide)) | (with_reducible exact T_RF) | (with_reducible exact T_GT) | (with_reducible exact T_GD) | (with_reducible exact T_GS) | (with_reducible exact T_WF (by decide)) | (with_reducible exact T_ST (by decide)) | (with_reducible exact T_SD (by decide)) | (with_reducible exact T_SS (by decide) (by decide)) | (with_reducible exact T_FL (by decide)) | (with_reducible exact T_FS (by decide) (by decide)) | (with_reducible refine T_li ?_) | (with_reducible refine T_ite (fun _ => ?_) (fun _ => ?_)) | (with_reducible refine T_cl ?_ (fun _ => ?_)))

theorem tt_xl_X8_wasAnyAtScales_2 (K : Int32 → Int32 → NG Int32) : ∀ (n : Nat) (v1 v2 : Int32), msr v2 ≤ n → (∀ (v2' : Int32), T [] [] (K v1 v2')) → T [] [] (xl_X8_wasAnyAtScales_2 n v1 v2 K) := by
  intro n
  induction n with
  | zero =>
    intro v1 v2 hm _
    exact absurd hm (msr_0 _)
  | succ n ih =>
    intro v1 v2 hm hK
    unfold xl_X8_wasAnyAtScales_2
    repeat (first | (with_reducible exact T_rt _) | (with_reducible intro _) | (with_reducible exact hK _) | (with_reducible exact ih _ _ (msr_up (by assumption) hm) hK) | (with_reducible exact (tt_x_X8_people).mono (by decide) (by decide)) | (with_reducible exact (tt_x_X8_classOf _).mono (by decide) (by decide)) | (with_reducible exact (tt_x_X1_ofFighter _ _).mono (by decide) (by decide)) | (with_reducible exact T_RF) | (with_reducible exact T_GT) | (with_reducible exact T_GD) | (with_reducible exact T_GS) | (with_reducible exact T_WF (by decide)) | (with_reducible exact T_ST (by decide)) | (with_reducible exact T_SD (by decide)) | (with_reducible exact T_SS (by decide) (by decide)) | (with_reducible exact T_FL (by decide)) | (with_reducible exact T_FS (by decide) (by decide)) | (with_reducible refine T_li ?_) | (with_reducible refine T_ite (fun _ => ?_) (fun _ => ?_)) | (with_reducible refine T_cl ?_ (fun _ => ?_)))

theorem tt_x_X8_wasAnyAtScales (a0 : Int32) : T [] [] (x_X8_wasAnyAtScales a0) := by
  unfold x_X8_wasAnyAtScales
  repeat (first | (with_reducible exact T_rt _) | (with_reducible intro _) | (with_reducible refine tt_xl_X8_wasAnyAtScales_2 _ fuel _ _ (msr_fuel _) ?_) | (with_reducible exact T_RF) | (with_reducible exact T_GT) | (with_reducible exact T_GD) | (with_reducible exact T_GS) | (with_reducible exact T_WF (by decide)) | (with_reducible exact T_ST (by decide)) | (with_reducible exact T_SD (by decide)) | (with_reducible exact T_SS (by decide) (by decide)) | (with_reducible exact T_FL (by decide)) | (with_reducible exact T_FS (by decide) (by decide)) | (with_reducible refine T_li ?_) | (with_reducible refine T_ite (fun _ => ?_) (fun _ => ?_)) | (with_reducible refine T_cl ?_ (fun _ => ?_)))

theorem tt_xl_X8_isSeedOfAnother_2 (K : Int32 → Int32 → Int32 → NG Int32) : ∀ (n : Nat) (v1 v2 v3 : Int32), msr v3 ≤ n → (∀ (v3' : Int32), T [] [] (K v1 v2 v3')) → T [] [] (xl_X8_isSeedOfAnother_2 n v1 v2 v3 K) := by
  intro n
  induction n with
  | zero =>
    intro v1 v2 v3 hm _
    exact absurd hm (msr_0 _)
  | succ n ih =>
    intro v1 v2 v3 hm hK
    unfold xl_X8_isSeedOfAnother_2
    repeat (first | (with_reducible exact T_rt _) | (with_reducible intro _) | (with_reducible exact hK _) | (with_reducible exact ih _ _ _ (msr_up (by assumption) hm) hK) | (with_reducible exact (tt_x_X8_people).mono (by decide) (by decide)) | (with_reducible exact (tt_x_X1_ofFighter _ _).mono (by decide) (by decide)) | (with_reducible exact (tt_x_X8_classOf _).mono (by decide) (by decide)) | (with_reducible exact T_RF) | (with_reducible exact T_GT) | (with_reducible exact T_GD) | (with_reducible exact T_GS) | (with_reducible exact T_WF (by decide)) | (with_reducible exact T_ST (by decide)) | (with_reducible exact T_SD (by decide)) | (with_reducible exact T_SS (by decide) (by decide)) | (with_reducible exact T_FL (by decide)) | (with_reducible exact T_FS (by decide) (by decide)) | (with_reducible refine T_li ?_) | (with_reducible refine T_ite (fun _ => ?_) (fun _ => ?_)) | (with_reducible refine T_cl ?_ (fun _ => ?_)))

theorem tt_x_X8_isSeedOfAnother (a0 : Int32) (a1 : Int32) : T [] [] (x_X8_isSeedOfAnother a0 a1) := by
  unfold x_X8_isSeedOfAnother
  repeat (first | (with_reducible exact T_rt _) | (with_reducible intro _) | (with_reducible refine tt_xl_X8_isSeedOfAnother_2 _ fuel _ _ _ (msr_fuel _) ?_) | (with_reducible exact T_RF) | (with_reducible exact T_GT) | (with_reducible exact T_GD) | (with_reducible exact T_GS) | (with_reducible exact T_WF (by decide)) | (with_reducible exact T_ST (by decide)) | (with_reducible exact T_SD (by decide)) | (with_reducible exact T_SS (by decide) (by decide)) | (with_reducible exact T_FL (by decide)) | (with_reducible exact T_FS (by decide) (by decide)) | (with_reducible refine T_li ?_) | (with_reducible refine T_ite (fun _ => ?_) (fun _ => ?_)) | (with_reducible refine T_cl ?_ (fun _ => ?_)))

theorem tt_xl_X8_fightersOf_4 (K : Int32 → Int32 → Int32 → NG Int32) : ∀ (n : Nat) (v1 v2 v3 : Int32), msr v3 ≤ n → (∀ (v2' v3' : Int32), T [] [] (K v1 v2' v3')) → T [] [] (xl_X8_fightersOf_4 n v1 v2 v3 K) := by
  intro n
  induction n with
  | zero =>
    intro v1 v2 v3 hm _
    exact absurd hm (msr_0 _)
  | succ n ih =>
    intro v1 v2 v3 hm hK
    unfold xl_X8_fightersOf_4
    repeat (first | (with_reducible exact T_rt _) | (with_reducible intro _) | (with_reducible exact hK _ _) | (with_reducible exact ih _ _ _ (msr_up (by assumption) hm) hK) | (with_reducible exact (tt_x_X8_people).mono (by decide) (by decide)) | (with_reducible exact (tt_x_X8_classOf _).mono (by decide) (by decide)) | (with_reducible exact T_RF) | (with_reducible exact T_GT) | (with_reducible exact T_GD) | (with_reducible exact T_GS) | (with_reducible exact T_WF (by decide)) | (with_reducible exact T_ST (by decide)) | (with_reducible exact T_SD (by decide)) | (with_reducible exact T_SS (by decide) (by decide)) | (with_reducible exact T_FL (by decide)) | (with_reducible exact T_FS (by decide) (by decide)) | (with_reducible refine T_li ?_) | (with_reducible refine T_ite (fun _ => ?_) (fun _ => ?_)) | (with_reducible refine T_cl ?_ (fun _ => ?_)))

theorem tt_x_X8_fightersOf (a0 : Int32) : T [] [] (x_X8_fightersOf a0) := by
  unfold x_X8_fightersOf
  repeat (first | (with_reducible exact T_rt _) | (with_reducible intro _) | (with_reducible refine tt_xl_X8_fightersOf_4 _ fuel _ _ _ (msr_fuel _) ?_) | (with_reducible exact T_RF) | (with_reducible exact T_GT) | (with_reducible exact T_GD) | (with_reducible exact T_GS) | (with_reducible exact T_WF (by decide)) | (with_reducible exact T_ST (by decide)) | (with_reducible exact T_SD (by decide)) | (with_reducible exact T_SS (by decide) (by decide)) | (with_reducible exact T_FL (by decide)) | (with_reducible exact T_FS (by decide) (by decide)) | (with_reducible refine T_li ?_) | (with_reducible refine T_ite (fun _ => ?_) (fun _ => ?_)) | (with_reducible refine T_cl ?_ (fun _ => ?_)))

theorem tt_x_X8_isWeighed (a1 : Int32) (a2 : Int32) : T [] [] (x_X8_isWeighed a1 a2) := by
  unfold x_X8_isWeighed
  repeat (first | (with_reducible exact T_rt _) | (with_reducible intro _) | (with_reducible exact (tt_x_X1_ofFighter _ _).mono (by decide) (by decide)) | (with_reducible exact T_RF) | (with_reducible exact T_GT) | (with_reducible exact T_GD) | (with_reducible exact T_GS) | (with_reducible exact T_WF (by decide)) | (with_reducible exact T_ST (by decide)) | (with_reducible exact T_SD (by decide)) | (with_reducible exact T_SS (by decide) (by decide)) | (with_reducible exact T_FL (by decide)) | (with_reducible exact T_FS (by decide) (by decide)) | (with_reducible refine T_li ?_) | (with_reducible refine T_ite (fun _ => ?_) (fun _ => ?_)) | (with_reducible refine T_cl ?_ (fun _ => ?_)))

theorem tt_xl_X8_weighedOf_4 (K : Int32 → Int32 → Int32 → NG Int32) : ∀ (n : Nat) (v1 v2 v3 : Int32), msr v3 ≤ n → (∀ (v2' v3' : Int32), T [] [] (K v1 v2' v3')) → T [] [] (xl_X8_weighedOf_4 n v1 v2 v3 K) := by
  intro n
  induction n with
  | zero =>
    intro v1 v2 v3 hm _
    exact absurd hm (msr_0 _)
  | succ n ih =>
    intro v1 v2 v3 hm hK
    unfold xl_X8_weighedOf_4
    repeat (first | (with_reducible exact T_rt _) | (with_reducible intro _) | (with_reducible exact hK _ _) | (with_reducible exact ih _ _ _ (msr_up (by assumption) hm) hK) | (with_reducible exact (tt_x_X8_people).mono (by decide) (by decide)) | (with_reducible exact (tt_x_X8_isWeighed _ _).mono (by decide) (by decide)) | (with_reducible exact T_RF) | (with_reducible exact T_GT) | (with_reducible exact T_GD) | (with_reducible exact T_GS) | (with_reducible exact T_WF (by decide)) | (with_reducible exact T_ST (by decide)) | (with_reducible exact T_SD (by decide)) | (with_reducible exact T_SS (by decide) (by decide)) | (with_reducible exact T_FL (by decide)) | (with_reducible exact T_FS (by decide) (by decide)) | (with_reducible refine T_li ?_) | (with_reducible refine T_ite (fun _ => ?_) (fun _ => ?_)) | (with_reducible refine T_cl ?_ (fun _ => ?_)))

theorem tt_x_X8_weighedOf (a0 : Int32) : T [] [] (x_X8_weighedOf a0) := by
  unfold x_X8_weighedOf
  repeat (first | (with_reducible exact T_rt _) | (with_reducible intro _) | (with_reducible refine tt_xl_X8_weighedOf_4 _ fuel _ _ _ (msr_fuel _) ?_) | (with_reducible exact T_RF) | (with_reducible exact T_GT) | (with_reducible exact T_GD) | (with_reducible exact T_GS) | (with_reducible exact T_WF (by decide)) | (with_reducible exact T_ST (by decide)) | (with_reducible exact T_SD (by decide)) | (with_reducible exact T_SS (by decide) (by decide)) | (with_reducible exact T_FL (by decide)) | (with_reducible exact T_FS (by decide) (by decide)) | (with_reducible refine T_li ?_) | (with_reducible refine T_ite (fun _ => ?_) (fun _ => ?_)) | (with_reducible refine T_cl ?_ (fun _ => ?_)))

theorem tt_x_X11_fault (a0 : Int32) : T [] [] (x_X11_fault a0) := by
  unfold x_X11_fault
  repeat (first | (with_reducible exact T_rt _) | (with_reducible intro _) | (with_reducible exact T_RF) | (with_reducible exact T_GT) | (with_reducible exact T_GD) | (with_reducible exact T_GS) | (with_reducible exact T_WF (by decide)) | (with_reducible exact T_ST (by decide)) | (with_reducible exact T_SD (by decide)) | (with_reducible exact T_SS (by decide) (by decide)) | (with_reducible exact T_FL (by decide)) | (with_reducible exact T_FS (by decide) (by decide)) | (with_reducible refine T_li ?_) | (with_reducible refine T_ite (fun _ => ?_) (fun _ => ?_)) | (with_reducible refine T_cl ?_ (fun _ => ?_)))

theorem tt_x_X11_fighter (a0 : Int32) (a1 : Int32) : T [] [] (x_X11_fighter a0 a1) := by
  unfold x_X11_fighter
  repeat (first | (with_reducible exact T_rt _) | (with_reducible intro _) | (with_reducible exact (tt_x_X8_has _).mono (by decide) (by decide)) | (with_reducible exact (tt_x_X1_ofFighter _ _).mono (by decide) (by decide)) | (with_reducible exact T_RF) | (with_reducible exact T_GT) | (with_reducible exact T_GD) | (with_reducible exact T_GS) | (with_reducible exact T_WF (by decide)) | (with_reducible exact T_ST (by decide)) | (with_reducible exact T_SD (by decide)) | (with_reducible exact T_SS (by decide) (by decide)) | (with_reducible exact T_FL (by decide)) | (with_reducible exact T_FS (by decide) (by decide)) | (with_reducible refine T_li ?_) | (with_reducible refine T_ite (fun _ => ?_) (fun _ => ?_)) | (with_reducible refine T_cl ?_ (fun _ => ?_)))

theorem tt_x_X11_about (a0 : Int32) (a1 : Int32) : T [] [] (x_X11_about a0 a1) := by
  unfold x_X11_about
  repeat (first | (with_reducible exact T_rt _) | (with_reducible intro _) | (with_reducible exact (tt_x_X11_isClass _).mono (by decide) (by decide)) | (with_reducible exact (tt_x_X8_fightersOf _).mono (by decide) (by decide)) | (with_reducible exact (tt_x_X8_weighedOf _).mono (by decide) (by decide)) | (with_reducible exact (tt_x_X0_kindOf _).mono (by decide) (by decide)) | (with_reducible exact (tt_x_X0_isDrawn _).mono (by decide) (by decide)) | (with_reducible exact (tt_x_X0_sizeOf _).mono (by decide) (by decide)) | (with_reducible exact (tt_x_X0_fightsOf _).mono (by decide) (by decide)) | (with_reducible exact (tt_x_X0_howMany _ _).mono (by decide) (by decide)) | (with_reducible exact (tt_x_X0_onPlace _ _).mono (by decide) (by decide)) | (with_reducible exact T_RF) | (with_reducible exact T_GT) | (with_reducible exact T_GD) | (with_reducible exact T_GS) | (with_reducible exact T_WF (by decide)) | (with_reducible exact T_ST (by decide)) | (with_reducible exact T_SD (by decide)) | (with_reducible exact T_SS (by decide) (by decide)) | (with_reducible exact T_FL (by decide)) | (with_reducible exact T_FS (by decide) (by decide)) | (with_reducible refine T_li ?_) | (with_reducible refine T_ite (fun _ => ?_) (fun _ => ?_)) | (with_reducible refine T_cl ?_ (fun _ => ?_)))

theorem tt_x_X11_fight (a0 : Int32) (a1 : Int32) (a2 : Int32) : T [] [] (x_X11_fight a0 a1 a2) := by
  unfold x_X11_fight
  repeat (first | (with_reducible exact T_rt _) | (with_reducible intro _) | (with_reducible exact (tt_x_X0_has _ _).mono (by decide) (by decide)) | (with_reducible exact (tt_x_X0_stateOf _ _).mono (by decide) (by decide)) | (with_reducible exact (tt_x_X0_whiteOf _ _).mono (by decide) (by decide)) | (with_reducible exact (tt_x_X0_blueOf _ _).mono (by decide) (by decide)) | (with_reducible exact (tt_x_X0_winnerOf _ _).mono (by decide) (by decide)) | (with_reducible exact (tt_x_X1_ofFight _ _ _).mono (by decide) (by decide)) | (with_reducible exact T_RF) | (with_reducible exact T_GT) | (with_reducible exact T_GD) | (with_reducible exact T_GS) | (with_reducible exact T_WF (by decide)) | (with_reducible exact T_ST (by decide)) | (with_reducible exact T_SD (by decide)) | (with_reducible exact T_SS (by decide) (by decide)) | (with_reducible exact T_FL (by decide)) | (with_reducible exact T_FS (by decide) (by decide)) | (with_reducible refine T_li ?_) | (with_reducible refine T_ite (fun _ => ?_) (fun _ => ?_)) | (with_reducible refine T_cl ?_ (fun _ => ?_)))

theorem tt_x_X11_medal (a0 : Int32) (a1 : Int32) : T [] [19, 20] (x_X11_medal a0 a1) := by
  unfold x_X11_medal
  repeat (first | (with_reducible exact T_rt _) | (with_reducible intro _) | (with_reducible exact (tt_x_X11_isClass _).mono (by decide) (by decide)) | (with_reducible exact (tt_x_X0_kindOf _).mono (by decide) (by decide)) | (with_reducible exact (tt_x_X7_ofPool _ _).mono (by decide) (by decide)) | (with_reducible exact (tt_x_X7_ofTree _ _).mono (by decide) (by decide)) | (with_reducible exact T_RF) | (with_reducible exact T_GT) | (with_reducible exact T_GD) | (with_reducible exact T_GS) | (with_reducible exact T_WF (by decide)) | (with_reducible exact T_ST (by decide)) | (with_reducible exact T_SD (by decide)) | (with_reducible exact T_SS (by decide) (by decide)) | (with_reducible exact T_FL (by decide)) | (with_reducible exact T_FS (by decide) (by decide)) | (with_reducible refine T_li ?_) | (with_reducible refine T_ite (fun _ => ?_) (fun _ => ?_)) | (with_reducible refine T_cl ?_ (fun _ => ?_)))

theorem tt_x_X11_plan (a0 : Int32) (a1 : Int32) : T [17, 18, 19, 61, 62, 63, 64] [21, 22, 23, 24, 25, 26, 27, 28, 29] (x_X11_plan a0 a1) := by
  unfold x_X11_plan
  repeat (first | (with_reducible exact T_rt _) | (with_reducible intro _) | (with_reducible exact (tt_x_X6_planDay _ _).mono (by decide) (by decide)) | (with_reducible exact T_RF) | (with_reducible exact T_GT) | (with_reducible exact T_GD) | (with_reducible exact T_GS) | (with_reducible exact T_WF (by decide)) | (with_reducible exact T_ST (by decide)) | (with_reducible exact T_SD (by decide)) | (with_reducible exact T_SS (by decide) (by decide)) | (with_reducible exact T_FL (by decide)) | (with_reducible exact T_FS (by decide) (by decide)) | (with_reducible refine T_li ?_) | (with_reducible refine T_ite (fun _ => ?_) (fun _ => ?_)) | (with_reducible refine T_cl ?_ (fun _ => ?_)))

theorem tt_x_X11_planned (a0 : Int32) (a1 : Int32) (a2 : Int32) : T [] [] (x_X11_planned a0 a1 a2) := by
  unfold x_X11_planned
  repeat (first | (with_reducible exact T_rt _) | (with_reducible intro _) | (with_reducible exact (tt_x_X0_has _ _).mono (by decide) (by decide)) | (with_reducible exact (tt_x_X6_tell _ _ _).mono (by decide) (by decide)) | (with_reducible exact T_RF) | (with_reducible exact T_GT) | (with_reducible exact T_GD) | (with_reducible exact T_GS) | (with_reducible exact T_WF (by decide)) | (with_reducible exact T_ST (by decide)) | (with_reducible exact T_SD (by decide)) | (with_reducible exact T_SS (by decide) (by decide)) | (with_reducible exact T_FL (by decide)) | (with_reducible exact T_FS (by decide) (by decide)) | (with_reducible refine T_li ?_) | (with_reducible refine T_ite (fun _ => ?_) (fun _ => ?_)) | (with_reducible refine T_cl ?_ (fun _ => ?_)))

theorem tt_xl_X11_undo_21 (K : Int32 → NG Int32) : ∀ (n : Nat) (v1 : Int32), msr v1 ≤ n → (∀ (v1' : Int32), T [0, 1] [0, 13, 14, 15, 16, 17] (K v1')) → T [0, 1] [0, 13, 14, 15, 16, 17] (xl_X11_undo_21 n v1 K) := by
  intro n
  induction n with
  | zero =>
    intro v1 hm _
    exact absurd hm (msr_0 _)
  | succ n ih =>
    intro v1 hm hK
    unfold xl_X11_undo_21
    repeat (first | (with_reducible exact T_rt _) | (with_reducible intro _) | (with_reducible exact hK _) | (with_reducible exact ih _ (msr_up (by assumption) hm) hK) | (with_reducible exact (tt_x_X0_settle _).mono (by decide) (by decide)) | (with_reducible exact T_RF) | (with_reducible exact T_GT) | (with_reducible exact T_GD) | (with_reducible exact T_GS) | (with_reducible exact T_WF (by decide)) | (with_reducible exact T_ST (by decide)) | (with_reducible exact T_SD (by decide)) | (with_reducible exact T_SS (by decide) (by decide)) | (with_reducible exact T_FL (by decide)) | (with_reducible exact T_FS (by decide) (by decide)) | (with_reducible refine T_li ?_) | (with_reducible refine T_ite (fun _ => ?_) (fun _ => ?_)) | (with_reducible refine T_cl ?_ (fun _ => ?_)))

theorem tt_x_X11_undo : T [0, 1] [0, 13, 14, 15, 16, 17] (x_X11_undo) := by
  unfold x_X11_undo
  repeat (first | (with_reducible exact T_rt _) | (with_reducible intro _) | (with_reducible refine tt_xl_X11_undo_21 _ fuel _ (msr_fuel _) ?_) | (with_reducible exact (tt_x_X1_takeBack).mono (by decide) (by decide)) | (with_reducible exact T_RF) | (with_reducible exact T_GT) | (with_reducible exact T_GD) | (with_reducible exact T_GS) | (with_reducible exact T_WF (by decide)) | (with_reducible exact T_ST (by decide)) | (with_reducible exact T_SD (by decide)) | (with_reducible exact T_SS (by decide) (by decide)) | (with_reducible exact T_FL (by decide)) | (with_reducible exact T_FS (by decide) (by decide)) | (with_reducible refine T_li ?_) | (with_reducible refine T_ite (fun _ => ?_) (fun _ => ?_)) | (with_reducible refine T_cl ?_ (fun _ => ?_)))

theorem tt_x_X11_isMat (a0 : Int32) : T [] [] (x_X11_isMat a0) := by
  unfold x_X11_isMat
  repeat (first | (with_reducible exact T_rt _) | (with_reducible intro _) | (with_reducible exact T_RF) | (with_reducible exact T_GT) | (with_reducible exact T_GD) | (with_reducible exact T_GS) | (with_reducible exact T_WF (by decide)) | (with_reducible exact T_ST (by decide)) | (with_reducible exact T_SD (by decide)) | (with_reducible exact T_SS (by decide) (by decide)) | (with_reducible exact T_FL (by decide)) | (with_reducible exact T_FS (by decide) (by decide)) | (with_reducible refine T_li ?_) | (with_reducible refine T_ite (fun _ => ?_) (fun _ => ?_)) | (with_reducible refine T_cl ?_ (fun _ => ?_)))

theorem tt_x_X11_isSide (a0 : Int32) : T [] [] (x_X11_isSide a0) := by
  unfold x_X11_isSide
  repeat (first | (with_reducible exact T_rt _) | (with_reducible intro _) | (with_reducible exact T_RF) | (with_reducible exact T_GT) | (with_reducible exact T_GD) | (with_reducible exact T_GS) | (with_reducible exact T_WF (by decide)) | (with_reducible exact T_ST (by decide)) | (with_reducible exact T_SD (by decide)) | (with_reducible exact T_SS (by decide) (by decide)) | (with_reducible exact T_FL (by decide)) | (with_reducible exact T_FS (by decide) (by decide)) | (with_reducible refine T_li ?_) | (with_reducible refine T_ite (fun _ => ?_) (fun _ => ?_)) | (with_reducible refine T_cl ?_ (fun _ => ?_)))
end
section
/-! ===== the class: what a put costs; the book's two rows grow together ===== -/
def bB : Int := 1048576
/-- the log's rows: ch changes, room C in each; what cells 0 and 2 hold, or held, is small -/
def Kb (u : MS) (ch C : Nat) : Prop := u.1 0 = nI ch ∧ u.1 60 = nI C ∧ u.1 65 = nI C ∧ ch ≤ C ∧ (∃ j, j ≤ 11 ∧ C = 512 * 2 ^ j) ∧ (u.2 0 0).toInt ≤ bB ∧ (u.2 0 2).toInt ≤ bB ∧ ∀ k, k < ch → (u.2 1 k = 0 ∨ u.2 1 k = 2) → (u.2 2 k).toInt ≤ bB
theorem Kb.C {u : MS} {ch C : Nat} (h : Kb u ch C) : 512 ≤ C ∧ C ≤ 1048576 := by
  obtain ⟨-, -, -, -, ⟨j, hj, rfl⟩, -⟩ := h
  rcases (by omega : j = 0 ∨ j = 1 ∨ j = 2 ∨ j = 3 ∨ j = 4 ∨ j = 5 ∨ j = 6 ∨ j = 7 ∨ j = 8 ∨ j = 9 ∨ j = 10 ∨ j = 11) with rfl | rfl | rfl | rfl | rfl | rfl | rfl | rfl | rfl | rfl | rfl | rfl <;> decide
theorem anl_eq {α β : Type} {p : NG α} {q : α → AG β} {u v : MS} {a : α} {y : β × MS × Nat × Nat} (h : p u = some (a, v)) (h2 : q a v = some y) : anl p q u = some y := by
  unfold anl
  rw [h]
  exact h2
theorem acl_eq {α β : Type} {p : AG α} {q : α → AG β} {u v w : MS} {a : α} {b : β} {c1 d1 c2 d2 : Nat} (h : p u = some (a, v, c1, d1)) (h2 : q a v = some (b, w, c2, d2)) : acl p q u = some (b, w, c1 + c2, d1 + d2) := by
  unfold acl
  rw [h]
  show (match q a v with | some (b, w, c2, d2) => some (b, w, c1 + c2, d1 + d2) | none => none) = _
  rw [h2]
theorem room_lt (c k : Nat) {u : MS} {ch C : Nat} (h60 : u.1 c = nI C) (hC : C < 2 ^ 31) (h : ch < C) : x_room c k (nI ch) u = some (0, u, 0, 0) := by
  unfold x_room
  rw [h60, nI_clamp hC, if_pos (nI_lt h hC)]
theorem room_eq (c k : Nat) {u : MS} {C : Nat} (h60 : u.1 c = nI C) (h1 : 1 ≤ C) (hC : C ≤ 1048576) : x_room c k (nI C) u = some (0, si (sf u k (va_cpy (u.2 k) (fun _ => 0) 0 0 C)) c (nI (2 * C)), 1, 2 * C) := by
  unfold x_room
  rw [h60, nI_clamp (by omega), if_neg (fun z => absurd ((nI_ltI (by omega) (by omega)).mp z) (Nat.lt_irrefl _))]
  have e : max (C + 1) (2 * C) = 2 * C := by omega
  rw [e, decide_eq_true (by omega : 2 * C ≤ 16777216)]
  rfl
theorem rg_in {f : Nat → Int32} {n j : Nat} (hj : j < n) (hn : n < 2 ^ 31) : rg f n (nI j) = f j := by
  unfold rg
  rw [if_neg (nI_nn (by omega)), if_neg (nI_ge hj hn), nI_clamp (by omega)]
theorem rs_at {f : Nat → Int32} {n : Nat} {i x : Int32} (j : Nat) : rs f n i x j = f j ∨ (rs f n i x j = x ∧ i = nI j) := by
  unfold rs
  by_cases h1 : i < 0
  · rw [if_pos h1]; exact Or.inl rfl
  · rw [if_neg h1]
    by_cases h2 : nI n ≤ i
    · rw [if_pos h2]; exact Or.inl rfl
    · rw [if_neg h2]
      show (if j = i.toNatClampNeg then x else f j) = f j ∨ _
      by_cases h3 : j = i.toNatClampNeg
      · refine Or.inr ⟨if_pos h3, ?_⟩
        have h0 : 0 ≤ i.toInt := by
          rw [Int32.lt_iff_toInt_lt, i32_0] at h1
          omega
        rw [h3]
        exact nI_ofT h0
      · exact Or.inl (if_neg h3)
theorem rs_in {f : Nat → Int32} {n j : Nat} {x : Int32} (hj : j < n) (hn : n < 2 ^ 31) (j2 : Nat) : rs f n (nI j) x j2 = if j2 = j then x else f j2 := by
  unfold rs
  rw [if_neg (nI_nn (by omega)), if_neg (nI_ge hj hn), nI_clamp (by omega)]
  rfl
/-- the part of a put behind the rooms -/
def put2 (C ch : Nat) (a0 a1 x : Int32) (u : MS) : MS := sf (si (sf (sf u 1 (rs (u.2 1) C (nI ch) a0)) 2 (rs (u.2 2) C (nI ch) x)) 0 (nI (ch + 1))) 0 (rs (u.2 0) 2088 a0 a1)
theorem put_tail {u : MS} {ch C : Nat} (a0 a1 x : Int32) (h0 : u.1 0 = nI ch) (h60 : u.1 60 = nI C) (h65 : u.1 65 = nI C) (hC : C < 2 ^ 31) : anl (nRF 0) (fun x_32 => anl (nSD 1 60 x_32 a0) (fun _ => anl (nRF 0) (fun x_40 => anl (nSD 2 65 x_40 x) (fun _ => anl (nRF 0) (fun x_48 => anl (nWF 0 (x_48 + 1)) (fun _ => anl (nST 0 2088 a0 a1) (fun _ => art (0 : Int32)))))))) u = some (0, put2 C ch a0 a1 x u, 0, 0) := by
  have e1 : sf u 1 (rs (u.2 1) (u.1 60).toNatClampNeg (u.1 0) a0) = sf u 1 (rs (u.2 1) C (nI ch) a0) := by rw [h0, h60, nI_clamp hC]
  refine anl_eq (a := u.1 0) (v := u) rfl (anl_eq (a := ()) (v := sf u 1 (rs (u.2 1) C (nI ch) a0)) (by rw [← e1]; rfl) ?_)
  have e2 : sf (sf u 1 (rs (u.2 1) C (nI ch) a0)) 2 (rs (u.2 2) (u.1 65).toNatClampNeg (u.1 0) x) = sf (sf u 1 (rs (u.2 1) C (nI ch) a0)) 2 (rs (u.2 2) C (nI ch) x) := by rw [h0, h65, nI_clamp hC]
  refine anl_eq (a := u.1 0) (v := sf u 1 (rs (u.2 1) C (nI ch) a0)) rfl (anl_eq (a := ()) (v := sf (sf u 1 (rs (u.2 1) C (nI ch) a0)) 2 (rs (u.2 2) C (nI ch) x)) (by rw [← e2]; rfl) ?_)
  refine anl_eq (a := nI ch) (v := sf (sf u 1 (rs (u.2 1) C (nI ch) a0)) 2 (rs (u.2 2) C (nI ch) x)) (by rw [← h0]; rfl) (anl_eq (a := ()) (v := si (sf (sf u 1 (rs (u.2 1) C (nI ch) a0)) 2 (rs (u.2 2) C (nI ch) x)) 0 (nI (ch + 1))) (by rw [← nI_1 ch]; rfl) (anl_eq (a := ()) (v := put2 C ch a0 a1 x u) rfl rfl))
/-- a program that puts at most k times: it ends, and what it makes -/
def APu {β : Type} (LI LA : List Nat) (k : Nat) (p : AG β) (u : MS) (ch C : Nat) : Prop := ∃ r v c d ch' C', p u = some (r, v, c, d) ∧ Kb v ch' C' ∧ ch ≤ ch' ∧ ch' ≤ ch + k ∧ C ≤ C' ∧ d = 4 * (C' - C) ∧ 256 * c ≤ C' - C ∧ Same LI LA u v
def AP {β : Type} (LI LA : List Nat) (k : Nat) (p : AG β) : Prop := ∀ u ch C, Kb u ch C → ch + k ≤ 1048576 → APu LI LA k p u ch C
theorem kb_put {u : MS} {ch C C2 : Nat} (a0 a1 : Int32) (f1 f2 : Nat → Int32) (hv : a1.toInt ≤ bB ∨ (¬ a0 = 0 ∧ ¬ a0 = 2)) (h : Kb u ch C) (hC2 : ch < C2 ∧ C2 < 2 ^ 31) (hj : ∃ j, j ≤ 11 ∧ C2 = 512 * 2 ^ j) (w : MS) (w0 : w.2 0 = u.2 0) (w1 : w.2 1 = f1) (w2 : w.2 2 = f2) (hf1 : ∀ k, k < ch → f1 k = u.2 1 k) (hf2 : ∀ k, k < ch → f2 k = u.2 2 k) (w60 : w.1 60 = nI C2) (w65 : w.1 65 = nI C2) : Kb (put2 C2 ch a0 a1 (rg (u.2 0) 2088 a0) w) (ch + 1) C2 := by
  obtain ⟨h0, -, -, h4, -, b0, b2, hJ⟩ := h
  have e0 : (put2 C2 ch a0 a1 (rg (u.2 0) 2088 a0) w).2 0 = rs (u.2 0) 2088 a0 a1 := by
    show rs (w.2 0) 2088 a0 a1 = _
    rw [w0]
  have e1 : (put2 C2 ch a0 a1 (rg (u.2 0) 2088 a0) w).2 1 = rs f1 C2 (nI ch) a0 := by
    show rs (w.2 1) C2 (nI ch) a0 = _
    rw [w1]
  have e2 : (put2 C2 ch a0 a1 (rg (u.2 0) 2088 a0) w).2 2 = rs f2 C2 (nI ch) (rg (u.2 0) 2088 a0) := by
    show rs (w.2 2) C2 (nI ch) _ = _
    rw [w2]
  refine ⟨rfl, w60, w65, by omega, hj, ?_, ?_, fun k hk => ?_⟩
  · rw [e0]
    rcases rs_at (f := u.2 0) (n := 2088) (i := a0) (x := a1) 0 with z | ⟨z, y⟩
    · rw [z]; exact b0
    · rw [z]
      exact hv.elim id (fun q => absurd y q.1)
  · rw [e0]
    rcases rs_at (f := u.2 0) (n := 2088) (i := a0) (x := a1) 2 with z | ⟨z, y⟩
    · rw [z]; exact b2
    · rw [z]
      exact hv.elim id (fun q => absurd y q.2)
  · rw [e1, e2, rs_in hC2.1 hC2.2, rs_in hC2.1 hC2.2]
    by_cases he : k = ch
    · rw [if_pos he, if_pos he]
      rintro (z | z)
      · rw [z]
        have e : rg (u.2 0) 2088 0 = u.2 0 0 := rg_in (j := 0) (by decide) (by decide)
        rw [e]; exact b0
      · rw [z]
        have e : rg (u.2 0) 2088 2 = u.2 0 2 := rg_in (j := 2) (by decide) (by decide)
        rw [e]; exact b2
    · rw [if_neg he, if_neg he, hf1 k (by omega), hf2 k (by omega)]
      exact hJ k (by omega)
theorem put_same {C ch : Nat} {a0 a1 x : Int32} {u w : MS} (h : Same [0, 60, 65] [0, 1, 2] u w) : Same [0, 60, 65] [0, 1, 2] u (put2 C ch a0 a1 x w) := by
  have h2 : Same [0, 60, 65] [0, 1, 2] w (put2 C ch a0 a1 x w) := by
    unfold put2
    exact ((Same_sf (by decide)).trans (Same_sf (by decide))).trans ((Same_si (by decide)).trans (Same_sf (by decide)))
  exact h.trans h2
theorem rs_same {f : Nat → Int32} {n : Nat} {i x : Int32} (h : rg f n i = x) : rs f n i x = f := by
  unfold rg at h
  unfold rs
  by_cases h1 : i < 0
  · rw [if_pos h1]
  · rw [if_neg h1] at h ⊢
    by_cases h2 : nI n ≤ i
    · rw [if_pos h2]
    · rw [if_neg h2] at h ⊢
      funext j
      show (if j = i.toNatClampNeg then x else f j) = f j
      by_cases h3 : j = i.toNatClampNeg
      · rw [if_pos h3, h3]; exact h.symm
      · rw [if_neg h3]
def AQ {β : Type} (LI LA : List Nat) (k : Nat) (p : AG β) (u : MS) (ch C : Nat) (Q : β → MS → Nat → Nat → Prop) : Prop := ∃ r v c d ch' C', p u = some (r, v, c, d) ∧ Kb v ch' C' ∧ ch ≤ ch' ∧ ch' ≤ ch + k ∧ C ≤ C' ∧ d = 4 * (C' - C) ∧ 256 * c ≤ C' - C ∧ Same LI LA u v ∧ Q r v ch' C'
theorem aq_put (a0 a1 : Int32) (hv : a1.toInt ≤ bB ∨ (¬ a0 = 0 ∧ ¬ a0 = 2)) (u : MS) (ch C : Nat) (h : Kb u ch C) (hch : ch + 1 ≤ 1048576) : AQ [0, 60, 65] [0, 1, 2] 1 (x_X1_put a0 a1) u ch C (fun _ v _ _ => v.2 0 = rs (u.2 0) 2088 a0 a1) := by
  have hC := h.C
  have h9 := h
  obtain ⟨h0, h60, h65, h4, ⟨j, hj, hCj⟩, -⟩ := h9
  unfold x_X1_put
  by_cases hx : rg (u.2 0) 2088 a0 = a1
  · exact ⟨0, u, 0, 0, ch, C, anl_eq (a := rg (u.2 0) 2088 a0) (v := u) rfl (by rw [if_pos hx]; rfl), h, by omega, by omega, by omega, by omega, by omega, Same.rf u, (rs_same hx).symm⟩
  · by_cases hlt : ch < C
    · refine ⟨0, put2 C ch a0 a1 (rg (u.2 0) 2088 a0) u, 0, 0, ch + 1, C, anl_eq (a := rg (u.2 0) 2088 a0) (v := u) rfl ?_, ?_, by omega, by omega, by omega, by omega, by omega, put_same (Same.rf u), rfl⟩
      · rw [if_neg hx]
        refine anl_eq (a := nI ch) (v := u) (by rw [← h0]; rfl) ?_
        refine acl_eq (c1 := 0) (d1 := 0) (c2 := 0) (d2 := 0) (room_lt 60 1 h60 (by omega) hlt) ?_
        refine anl_eq (a := nI ch) (v := u) (by rw [← h0]; rfl) ?_
        exact acl_eq (c1 := 0) (d1 := 0) (c2 := 0) (d2 := 0) (room_lt 65 2 h65 (by omega) hlt) (put_tail a0 a1 _ h0 h60 h65 (by omega))
      · exact kb_put a0 a1 (u.2 1) (u.2 2) hv h ⟨hlt, by omega⟩ ⟨j, hj, hCj⟩ u rfl rfl rfl (fun _ _ => rfl) (fun _ _ => rfl) h60 h65
    · have hE : ch = C := by omega
      have hj11 : j ≤ 10 := by
        rcases (by omega : j ≤ 10 ∨ j = 11) with z | z
        · exact z
        · rw [z] at hCj
          have : (512 * 2 ^ 11 : Nat) = 1048576 := by decide
          omega
      have hC2 : 2 * C = 512 * 2 ^ (j + 1) := by rw [hCj, Nat.pow_succ]; omega
      have r1 := room_eq 60 1 (u := u) h60 (by omega) hC.2
      have r2 := room_eq 65 2 (u := si (sf u 1 (va_cpy (u.2 1) (fun _ => 0) 0 0 C)) 60 (nI (2 * C))) (C := C) h65 (by omega) hC.2
      have hw : Same [0, 60, 65] [0, 1, 2] u (si (sf (si (sf u 1 (va_cpy (u.2 1) (fun _ => 0) 0 0 C)) 60 (nI (2 * C))) 2 (va_cpy ((si (sf u 1 (va_cpy (u.2 1) (fun _ => 0) 0 0 C)) 60 (nI (2 * C))).2 2) (fun _ => 0) 0 0 C)) 65 (nI (2 * C))) := ((Same_sf (by decide)).trans (Same_si (by decide))).trans ((Same_sf (by decide)).trans (Same_si (by decide)))
      have hcp : ∀ (f : Nat → Int32) k, k < ch → va_cpy f (fun _ => 0) 0 0 C k = f k := fun f k hk => by
        show (if 0 ≤ k ∧ k < 0 + C then f (0 + (k - 0)) else 0) = f k
        rw [if_pos ⟨by omega, by omega⟩]
        congr 1
        omega
      refine ⟨0, put2 (2 * C) ch a0 a1 (rg (u.2 0) 2088 a0) (si (sf (si (sf u 1 (va_cpy (u.2 1) (fun _ => 0) 0 0 C)) 60 (nI (2 * C))) 2 (va_cpy ((si (sf u 1 (va_cpy (u.2 1) (fun _ => 0) 0 0 C)) 60 (nI (2 * C))).2 2) (fun _ => 0) 0 0 C)) 65 (nI (2 * C))), 2, 4 * C, ch + 1, 2 * C, anl_eq (a := rg (u.2 0) 2088 a0) (v := u) rfl ?_, ?_, by omega, by omega, by omega, by omega, by omega, put_same hw, rfl⟩
      · rw [if_neg hx]
        refine anl_eq (a := nI ch) (v := u) (by rw [← h0]; rfl) ?_
        rw [hE]
        have ec : (2 : Nat) = 1 + (1 + 0) := rfl
        have ed : 4 * C = 2 * C + (2 * C + 0) := by omega
        rw [ec, ed]
        refine acl_eq r1 ?_
        refine anl_eq (a := nI C) (v := si (sf u 1 (va_cpy (u.2 1) (fun _ => 0) 0 0 C)) 60 (nI (2 * C))) (by rw [← hE, ← h0]; rfl) ?_
        exact acl_eq r2 (put_tail a0 a1 _ (by rw [← hE, ← h0]; rfl) rfl rfl (by omega))
      · exact kb_put a0 a1 (va_cpy (u.2 1) (fun _ => 0) 0 0 C) (va_cpy (u.2 2) (fun _ => 0) 0 0 C) hv h ⟨by omega, by omega⟩ ⟨j + 1, by omega, hC2⟩ _ rfl rfl rfl (fun k hk => hcp _ k hk) (fun k hk => hcp _ k hk) rfl rfl
theorem ap_put (a0 a1 : Int32) (hv : a1.toInt ≤ bB ∨ (¬ a0 = 0 ∧ ¬ a0 = 2)) : AP [0, 60, 65] [0, 1, 2] 1 (x_X1_put a0 a1) := fun u ch C h hch => by
  obtain ⟨r, v, c, d, ch', C', a1, a2, a3, a4, a5, a6, a7, a8, -⟩ := aq_put a0 a1 hv u ch C h hch
  exact ⟨r, v, c, d, ch', C', a1, a2, a3, a4, a5, a6, a7, a8⟩
end
section
/-! ===== programs that put ===== -/
theorem Kb.same {l1 l2 : List Nat} {u v : MS} {ch C : Nat} (h : Kb u ch C) (hs : Same l1 l2 u v) (h1 : ¬ 0 ∈ l1 ∧ ¬ 60 ∈ l1 ∧ ¬ 65 ∈ l1) (h2 : ¬ 0 ∈ l2 ∧ ¬ 1 ∈ l2 ∧ ¬ 2 ∈ l2) : Kb v ch C := by
  obtain ⟨a, b, c, d, e, f, g, k⟩ := h
  unfold Kb
  rw [hs.1 0 h1.1, hs.1 60 h1.2.1, hs.1 65 h1.2.2, hs.2 0 h2.1, hs.2 1 h2.2.1, hs.2 2 h2.2.2]
  exact ⟨a, b, c, d, e, f, g, k⟩
theorem AP_rt {β : Type} {LI LA : List Nat} {k : Nat} (x : β) : AP LI LA k (art x) := fun u ch C h _ => ⟨x, u, 0, 0, ch, C, rfl, h, by omega, by omega, by omega, by omega, by omega, Same.rf u⟩
theorem AP_li {β : Type} {LI LA : List Nat} {k : Nat} {x : Int32} {q : Int32 → AG β} (h : AP LI LA k (q x)) : AP LI LA k (ali x q) := h
theorem AP_ite {β : Type} {LI LA : List Nat} {k : Nat} {b : Prop} [Decidable b] {p q : AG β} (h1 : b → AP LI LA k p) (h2 : ¬ b → AP LI LA k q) : AP LI LA k (if b then p else q) := by
  by_cases h : b
  · rw [if_pos h]; exact h1 h
  · rw [if_neg h]; exact h2 h
theorem AP_nlS {α β : Type} {l1 l2 LI LA : List Nat} {k : Nat} {p : NG α} {q : α → AG β} (hp : T l1 l2 p) (h1 : ¬ 0 ∈ l1 ∧ ¬ 60 ∈ l1 ∧ ¬ 65 ∈ l1) (h2 : ¬ 0 ∈ l2 ∧ ¬ 1 ∈ l2 ∧ ¬ 2 ∈ l2) (h3 : ∀ k ∈ l1, k ∈ LI) (h4 : ∀ k ∈ l2, k ∈ LA) (hq : ∀ a, AP LI LA k (q a)) : AP LI LA k (anl p q) := fun u ch C h hch => by
  obtain ⟨a, v, e, hs⟩ := hp u
  obtain ⟨r, w, c, d, ch', C', b1, b2, b3, b4, b5, b6, b7, b8⟩ := hq a v ch C (h.same hs h1 h2) hch
  exact ⟨r, w, c, d, ch', C', anl_eq e b1, b2, b3, b4, b5, b6, b7, (hs.mono h3 h4).trans b8⟩
theorem AP_GT {β : Type} {LI LA : List Nat} {k : Nat} {i : Int32} {q : Int32 → AG β} (hq : ∀ x, ((i = 0 ∨ i = 2) → x.toInt ≤ bB) → AP LI LA k (q x)) : AP LI LA k (anl (nGT 0 2088 i) q) := fun u ch C h hch => by
  refine hq (rg (u.2 0) 2088 i) (fun z => ?_) u ch C h hch
  obtain ⟨-, -, -, -, -, b0, b2, -⟩ := h
  rcases z with rfl | rfl
  · have e : rg (u.2 0) 2088 0 = u.2 0 0 := rg_in (j := 0) (by decide) (by decide)
    rw [e]; exact b0
  · have e : rg (u.2 0) 2088 2 = u.2 0 2 := rg_in (j := 2) (by decide) (by decide)
    rw [e]; exact b2
theorem AP_GA {β : Type} {LI LA : List Nat} {k a n : Nat} {i : Int32} {q : Int32 → AG β} (hq : ∀ x, AP LI LA k (q x)) : AP LI LA k (anl (nGT a n i) q) := fun u ch C h hch => hq (rg (u.2 a) n i) u ch C h hch
theorem AP_ap {α β : Type} {l1 l2 LI LA : List Nat} {k1 k2 : Nat} {p : AG α} {q : α → AG β} (hp : AP l1 l2 k1 p) (h3 : ∀ k ∈ l1, k ∈ LI) (h4 : ∀ k ∈ l2, k ∈ LA) (hq : ∀ a, AP LI LA k2 (q a)) : AP LI LA (k1 + k2) (acl p q) := fun u ch C h hch => by
  obtain ⟨a, v, c, d, ch', C', b1, b2, b3, b4, b5, b6, b7, b8⟩ := hp u ch C h (by omega)
  obtain ⟨r, w, c2, d2, ch2, C2, e1, e2, e3, e4, e5, e6, e7, e8⟩ := hq a v ch' C' b2 (by omega)
  exact ⟨r, w, c + c2, d + d2, ch2, C2, acl_eq b1 e1, e2, by omega, by omega, by omega, by omega, by omega, (b8.mono h3 h4).trans e8⟩
theorem AP.up {β : Type} {LI LA : List Nat} {k k2 : Nat} {p : AG β} (h : AP LI LA k p) (hk : k ≤ k2) : AP LI LA k2 p := fun u ch C hK hch => by
  obtain ⟨r, v, c, d, ch', C', b1, b2, b3, b4, b5⟩ := h u ch C hK (by omega)
  exact ⟨r, v, c, d, ch', C', b1, b2, b3, by omega, b5⟩
theorem AP.mono {β : Type} {l1 l2 LI LA : List Nat} {k : Nat} {p : AG β} (h : AP l1 l2 k p) (h3 : ∀ k ∈ l1, k ∈ LI) (h4 : ∀ k ∈ l2, k ∈ LA) : AP LI LA k p := fun u ch C hK hch => by
  obtain ⟨r, v, c, d, ch', C', b1, b2, b3, b4, b5, b6, b7, b8⟩ := h u ch C hK hch
  exact ⟨r, v, c, d, ch', C', b1, b2, b3, b4, b5, b6, b7, b8.mono h3 h4⟩
theorem AP_put {β : Type} {LI LA : List Nat} {k : Nat} {a0 a1 : Int32} {q : Int32 → AG β} (hv : a1.toInt ≤ bB ∨ (¬ a0 = 0 ∧ ¬ a0 = 2)) (h3 : ∀ k ∈ [0, 60, 65], k ∈ LI) (h4 : ∀ k ∈ [0, 1, 2], k ∈ LA) (hq : ∀ a, AP LI LA k (q a)) : AP LI LA (k + 1) (acl (x_X1_put a0 a1) q) := by
  have h := AP_ap (ap_put a0 a1 hv) h3 h4 hq
  rw [Nat.add_comm] at h
  exact h
theorem oF_ne (r : Int32) (f : Nat) (hf : f = 0 ∨ f = 1 ∨ f = 2 ∨ f = 3 ∨ f = 5 ∨ f = 7) : ¬ (820 + r * 8 + nI f = 0) ∧ ¬ (820 + r * 8 + nI f = 2) := by
  have hm : (820 + r * 8 + nI f).toBitVec.toNat % 8 = (4 + f) % 8 := by
    have e : (820 + r * 8 + nI f).toBitVec = 820#32 + r.toBitVec * 8#32 + (nI f).toBitVec := rfl
    rw [e, BitVec.toNat_add, BitVec.toNat_add, BitVec.toNat_mul]
    have e1 : (820#32).toNat = 820 := rfl
    have e2 : (8#32).toNat = 8 := rfl
    have e3 : (nI f).toBitVec.toNat = f := by
      rcases hf with rfl | rfl | rfl | rfl | rfl | rfl <;> rfl
    rw [e1, e2, e3]
    omega
  refine ⟨fun z => ?_, fun z => ?_⟩
  · rw [z] at hm
    have e : (0 : Int32).toBitVec.toNat = 0 := rfl
    rw [e] at hm
    omega
  · rw [z] at hm
    have e : (2 : Int32).toBitVec.toNat = 2 := rfl
    rw [e] at hm
    omega
theorem AP_oF {β : Type} {LI LA : List Nat} {k : Nat} {a b : Int32} {q : Int32 → AG β} (f : Nat) (hf : f = 0 ∨ f = 1 ∨ f = 2 ∨ f = 3 ∨ f = 5 ∨ f = 7) (hq : ∀ r, (¬ r = 0 ∧ ¬ r = 2) → AP LI LA k (q r)) : AP LI LA k (anl (x_X1_ofFight a b (nI f)) q) := fun u ch C h hch => hq (820 + (a * 37 + b) * 8 + nI f) (oF_ne _ f hf) u ch C h hch
theorem oM_ne : ∀ m < 4, ∀ f < 5, ¬ ((2004 : Int32) + nI m * 21 + nI f = 0) ∧ ¬ ((2004 : Int32) + nI m * 21 + nI f = 2) := by decide +kernel
theorem AP_oM {β : Type} {LI LA : List Nat} {k m : Nat} {q : Int32 → AG β} (hm : m < 4) (f : Nat) (hf : f < 5) (hq : ∀ r, (¬ r = 0 ∧ ¬ r = 2) → AP LI LA k (q r)) : AP LI LA k (anl (x_X1_ofMat (nI m) (nI f)) q) := fun u ch C h hch => hq (2004 + nI m * 21 + nI f) (oM_ne m hm f hf) u ch C h hch
theorem AP_ng {α β : Type} {l1 l2 LI LA : List Nat} {k : Nat} {p : NG α} {q : α → AG β} (hp : T l1 l2 p) (h : (decide (¬ 0 ∈ l1 ∧ ¬ 60 ∈ l1 ∧ ¬ 65 ∈ l1) && decide (¬ 0 ∈ l2 ∧ ¬ 1 ∈ l2 ∧ ¬ 2 ∈ l2) && l1.all (fun k => LI.contains k) && l2.all (fun k => LA.contains k)) = true) (hq : ∀ a, AP LI LA k (q a)) : AP LI LA k (anl p q) := by
  have h1 := Bool.and_eq_true_iff.mp h
  have h2 := Bool.and_eq_true_iff.mp h1.1
  have h3 := Bool.and_eq_true_iff.mp h2.1
  refine AP_nlS hp (of_decide_eq_true h3.1) (of_decide_eq_true h3.2) (fun k hk => ?_) (fun k hk => ?_) hq
  · exact List.contains_iff_mem.mp (List.all_eq_true.mp h2.2 k hk)
  · exact List.contains_iff_mem.mp (List.all_eq_true.mp h1.2 k hk)
/-! leave, finish, ask -/
theorem ap_leave (a : Int32) : AP [0, 60, 65] [0, 1, 2] 3 (x_X3_leave a) := by
  unfold x_X3_leave
  refine AP_ng (tt_x_X3_fighterOn _ _) (by decide) (fun _ => AP_ng (tt_x_X1_ofFighter _ _) (by decide) (fun _ => AP_GT (fun x hx => AP_put (Or.inl (hx (Or.inl rfl))) (by decide) (by decide) (fun _ => ?_))))
  refine AP_ng (tt_x_X3_fighterOn _ _) (by decide) (fun _ => AP_ng (tt_x_X1_ofFighter _ _) (by decide) (fun _ => AP_GT (fun x hx => AP_put (Or.inl (hx (Or.inl rfl))) (by decide) (by decide) (fun _ => ?_))))
  exact AP_ng (tt_x_X1_ofMat _ _) (by decide) (fun _ => AP_put (Or.inl (by decide)) (by decide) (by decide) (fun _ => AP_rt _))
theorem ap_finish (a b c d : Int32) (hc : c.toInt ≤ bB) : AP [0, 60, 65] [0, 1, 2] 8 (x_X3_finish a b c d) := by
  unfold x_X3_finish
  refine AP_ng (tt_x_X3_on _ _) (by decide) (fun _ => AP_ng (tt_x_X3_on _ _) (by decide) (fun _ => AP_ng (tt_x_X3_fighterOn _ _) (by decide) (fun _ => ?_)))
  refine AP_oF 0 (by decide) (fun r hr => AP_put (Or.inr hr) (by decide) (by decide) (fun _ => ?_))
  refine AP_oF 3 (by decide) (fun r hr => AP_put (Or.inr hr) (by decide) (by decide) (fun _ => ?_))
  refine AP_ng (tt_x_X1_ofFight _ _ _) (by decide) (fun _ => AP_put (Or.inl hc) (by decide) (by decide) (fun _ => ?_))
  refine AP_oF 5 (by decide) (fun r hr => AP_put (Or.inr hr) (by decide) (by decide) (fun _ => ?_))
  refine AP_ng (tt_x_X1_ofFight _ _ _) (by decide) (fun _ => AP_GT (fun x hx => AP_put (Or.inl (hx (Or.inl rfl))) (by decide) (by decide) (fun _ => ?_)))
  exact AP_ap (k1 := 3) (k2 := 0) (ap_leave _) (by decide) (by decide) (fun _ => AP_rt _)
theorem ap_ask_13 (L : MS) (v2 v3 : Int32) (h3 : v3.toInt ≤ bB) (K : Int32 → Int32 → Int32 → AG Int32) (hK : ∀ v4, AP [0, 16, 60, 65] [0, 1, 2, 18] 8 (K v2 v3 v4)) : ∀ (n : Nat) (v4 : Int32), msr v4 ≤ n → AP [0, 16, 60, 65] [0, 1, 2, 18] 8 (xl_X3_ask_13 L n v2 v3 v4 K) := by
  intro n
  induction n with
  | zero =>
    intro v4 hm
    exact absurd hm (msr_0 _)
  | succ n ih =>
    intro v4 hm
    unfold xl_X3_ask_13
    refine AP_ite (fun _ => hK _) (fun h => AP_ng (tt_x_X3_holds _ _ _ _) (by decide) (fun _ => AP_ite (fun _ => AP_li (ih _ (msr_up h hm))) (fun _ => ?_)))
    exact AP_ap (k1 := 8) (k2 := 0) (ap_finish _ _ _ _ h3) (by decide) (by decide) (fun _ => AP_rt _)
theorem ap_ask_2 (L : MS) (hL : (L.1 3).toInt ≤ bB) (v2 : Int32) (K : Int32 → Int32 → AG Int32) (hK : ∀ v3, AP [0, 16, 60, 65] [0, 1, 2, 18] 8 (K v2 v3)) : ∀ (n : Nat) (v3 : Int32), msr v3 ≤ n → AP [0, 16, 60, 65] [0, 1, 2, 18] 8 (xl_X3_ask_2 L n v2 v3 K) := by
  intro n
  induction n with
  | zero =>
    intro v3 hm
    exact absurd hm (msr_0 _)
  | succ n ih =>
    intro v3 hm
    unfold xl_X3_ask_2
    refine AP_ite (fun _ => hK _) (fun h => ?_)
    have h3 : v3.toInt ≤ bB := by
      have := i32_nle h
      omega
    exact ap_ask_13 L v2 v3 h3 _ (fun _ => AP_li (ih _ (msr_up h hm))) fuel 0 (msr_fuel _)
theorem ap_ask (L : MS) (hL : (L.1 3).toInt ≤ bB) (a : Int32) : AP [0, 16, 60, 65] [0, 1, 2, 18] 8 (x_X3_ask L a) := by
  unfold x_X3_ask
  exact ap_ask_2 L hL a _ (fun _ => AP_rt _) fuel 0 (msr_fuel _)
theorem ap_drop (a b : Int32) : AP [0, 60, 65] [0, 1, 2] 4 (x_X3_drop a b) := by
  unfold x_X3_drop
  refine AP_ng (tt_x_X1_ofFight _ _ _) (by decide) (fun _ => AP_GA (fun _ => AP_ite (fun _ => ?_) (fun _ => ?_)))
  · refine AP_ng (tt_x_X1_ofFight _ _ _) (by decide) (fun _ => AP_GA (fun _ => ?_))
    refine AP_ap (k1 := 3) (k2 := 1) (ap_leave _) (by decide) (by decide) (fun _ => ?_)
    exact AP_ng (tt_x_X1_ofFight _ _ _) (by decide) (fun _ => AP_put (Or.inl (by decide)) (by decide) (by decide) (fun _ => AP_rt _))
  · exact AP_ng (tt_x_X1_ofFight _ _ _) (by decide) (fun _ => AP_put (k := 3) (Or.inl (by decide)) (by decide) (by decide) (fun _ => AP_rt _))
theorem ap_strikeFrom_8 (v1 v2 : Int32) (K : Int32 → Int32 → Int32 → Int32 → Int32 → AG Int32) (hK : ∀ v3 v4 v5, AP [0, 60, 65] [0, 1, 2, 13, 14, 15, 16, 17] 0 (K v1 v2 v3 v4 v5)) : ∀ (t j n : Nat) (v3 v4 : Int32), j + t = 37 → t < n → AP [0, 60, 65] [0, 1, 2, 13, 14, 15, 16, 17] (4 * t) (xl_X3_strikeFrom_8 n v1 v2 v3 v4 (nI j) K) := by
  intro t
  induction t with
  | zero =>
    intro j n v3 v4 hj hn
    cases n with
    | zero => omega
    | succ n =>
      have : j = 37 := by omega
      subst this
      unfold xl_X3_strikeFrom_8
      exact AP_ite (fun _ => hK _ _ _) (fun h => absurd (Int32.le_refl _) h)
  | succ t ih =>
    intro j n v3 v4 hj hn
    cases n with
    | zero => omega
    | succ n =>
      unfold xl_X3_strikeFrom_8
      refine AP_ite (fun _ => (hK _ _ _).up (by omega)) (fun _ => AP_ite (fun _ => (hK _ _ _).up (by omega)) (fun _ => ?_))
      have e : 4 * (t + 1) = 4 + 4 * t := by omega
      rw [e]
      refine AP_ap (ap_drop _ _) (by decide) (by decide) (fun _ => AP_li (AP_ng (tt_x_X0_settle _) (by decide) (fun _ => AP_ng (tt_x_X0_firstStale _) (by decide) (fun _ => AP_li ?_))))
      rw [nI_1]
      exact ih (j + 1) n _ _ (by omega) (by omega)
theorem ap_strikeFrom (a b : Int32) : AP [0, 60, 65] [0, 1, 2, 13, 14, 15, 16, 17] 148 (x_X3_strikeFrom a b) := by
  unfold x_X3_strikeFrom
  exact ap_strikeFrom_8 a b _ (fun _ _ _ => AP_rt _) 37 0 fuel 0 b (by omega) (by unfold fuel; omega)
theorem ap_start_147 (v1 v2 v3 v4 : Int32) (K : Int32 → Int32 → Int32 → Int32 → Int32 → AG Int32) (hK : ∀ v5, AP [0, 60, 65] [0, 1, 2] 0 (K v1 v2 v3 v4 v5)) : ∀ (t j n : Nat), j + t = 16 → t < n → AP [0, 60, 65] [0, 1, 2] t (xl_X3_start_147 n v1 v2 v3 v4 (nI j) K) := by
  intro t
  induction t with
  | zero =>
    intro j n hj hn
    cases n with
    | zero => omega
    | succ n =>
      have : j = 16 := by omega
      subst this
      unfold xl_X3_start_147
      exact AP_ite (fun _ => hK _) (fun h => absurd (Int32.le_refl _) h)
  | succ t ih =>
    intro j n hj hn
    cases n with
    | zero => omega
    | succ n =>
      unfold xl_X3_start_147
      refine AP_ite (fun _ => (hK _).up (by omega)) (fun _ => AP_ng (tt_x_X1_ofMat _ _) (by decide) (fun _ => AP_put (Or.inl (by decide)) (by decide) (by decide) (fun _ => AP_li ?_)))
      rw [nI_1]
      exact ih (j + 1) n (by omega) (by omega)
theorem ap_start (a b d : Int32) (m : Nat) (hm : m < 4) : AP [0, 60, 65] [0, 1, 2] 25 (x_X3_start a b d (nI m)) := by
  unfold x_X3_start
  refine AP_oF 0 (by decide) (fun r hr => AP_put (Or.inr hr) (by decide) (by decide) (fun _ => ?_))
  refine AP_oF 1 (by decide) (fun r hr => AP_ng (tt_x_X0_whiteOf _ _) (by decide) (fun _ => AP_put (Or.inr hr) (by decide) (by decide) (fun _ => ?_)))
  refine AP_oF 2 (by decide) (fun r hr => AP_ng (tt_x_X0_blueOf _ _) (by decide) (fun _ => AP_put (Or.inr hr) (by decide) (by decide) (fun _ => ?_)))
  refine AP_oF 7 (by decide) (fun r hr => AP_put (Or.inr hr) (by decide) (by decide) (fun _ => ?_))
  refine AP_oM hm 0 (by decide) (fun r hr => AP_put (Or.inr hr) (by decide) (by decide) (fun _ => ?_))
  refine AP_oM hm 1 (by decide) (fun r hr => AP_put (Or.inr hr) (by decide) (by decide) (fun _ => ?_))
  refine AP_oM hm 2 (by decide) (fun r hr => AP_put (Or.inr hr) (by decide) (by decide) (fun _ => ?_))
  refine AP_oM hm 3 (by decide) (fun r hr => AP_put (Or.inr hr) (by decide) (by decide) (fun _ => ?_))
  refine AP_oM hm 4 (by decide) (fun r hr => AP_put (Or.inr hr) (by decide) (by decide) (fun _ => ?_))
  exact ap_start_147 _ _ _ _ _ (fun _ => AP_rt _) 16 0 fuel (by omega) (by unfold fuel; omega)
theorem ap_turnOver (L : MS) (m : Nat) (hm : m < 4) : AP [0, 60, 65] [0, 1, 2] 2 (x_X3_turnOver L (nI m)) := by
  unfold x_X3_turnOver
  refine AP_ng (tt_x_X3_isFree _) (by decide) (fun _ => AP_ite (fun _ => AP_ng (tt_x_X3_on _ _) (by decide) (fun _ => AP_ite (fun _ => AP_ng (tt_x_X3_on _ _) (by decide) (fun _ => AP_ite (fun _ => AP_ite (fun _ => ?_) (fun _ => ?_)) (fun _ => ?_))) (fun _ => AP_rt _))) (fun _ => AP_rt _))
  · exact AP_ng (tt_x_X1_ofMat _ _) (by decide) (fun _ => AP_put (k := 1) (Or.inl (by decide)) (by decide) (by decide) (fun _ => AP_rt _))
  · refine AP_ng (tt_x_X1_ofMat _ _) (by decide) (fun _ => AP_put (Or.inl (by decide)) (by decide) (by decide) (fun _ => ?_))
    exact AP_oM hm 2 (by decide) (fun r hr => AP_put (Or.inr hr) (by decide) (by decide) (fun _ => AP_rt _))
  · exact AP_ng (tt_x_X1_ofMat _ _) (by decide) (fun _ => AP_put (k := 1) (Or.inl (by decide)) (by decide) (by decide) (fun _ => AP_rt _))
theorem ap_giveSign (a b d : Int32) : AP [0, 60, 65] [0, 1, 2] 1 (x_X3_giveSign a b d) := by
  unfold x_X3_giveSign
  refine AP_ng (tt_x_X3_signsOf _ _ _) (by decide) (fun r => AP_ng (tt_x_X1_ofMat _ _) (by decide) (fun _ => AP_put (Or.inl ?_) (by decide) (by decide) (fun _ => AP_rt _)))
  by_cases h : 99 < (r + 1)
  · rw [if_pos h]; decide
  · rw [if_neg h]
    have h1 := i32_nlt h
    have c9 : (99 : Int32).toInt = 99 := by decide
    unfold bB
    omega
theorem ap_letPass (a : Int32) (m : Nat) (hm : m < 4) : AP [0, 60, 65] [0, 1, 2] 1 (x_X3_letPass (nI m) a) := by
  unfold x_X3_letPass
  exact AP_oM hm 2 (by decide) (fun r hr => AP_ng (tt_x_X3_on _ _) (by decide) (fun _ => AP_put (Or.inr hr) (by decide) (by decide) (fun _ => AP_rt _)))
end
section
/-! ===== the class's state between two calls; its acts but the draw ===== -/
def Stt (u : MS) (n ch : Nat) : Prop := u.1 1 = nI n ∧ n ≤ 500 ∧ ∃ p : Nat → Nat, (∀ e, e < n → u.2 3 e = nI (p e) ∧ p e ≤ ch) ∧ ∀ e e', e ≤ e' → e' < n → p e ≤ p e'
def Rww (u : MS) : Prop := ∀ j, j < 32 → 0 ≤ (u.2 11 j).toInt ∧ (u.2 11 j).toInt ≤ 31
def CS (u : MS) (n ch C : Nat) : Prop := Kb u ch C ∧ Stt u n ch ∧ Rww u
def scI : List Nat := [0, 1, 16, 60, 65]
def scA : List Nat := [0, 1, 2, 3, 11, 12, 13, 14, 15, 16, 17, 18]
def AS {β : Type} (k : Nat) (p : AG β) : Prop := ∀ u n ch C, CS u n ch C → ch + k ≤ 1048576 → ∃ r v c d n' ch' C', p u = some (r, v, c, d) ∧ CS v n' ch' C' ∧ ch' ≤ ch + k ∧ C ≤ C' ∧ d = 4 * (C' - C) ∧ 256 * c ≤ C' - C ∧ Same scI scA u v
theorem Stt.up {u v : MS} {n ch ch' : Nat} (h : Stt u n ch) (h1 : v.1 1 = u.1 1) (h3 : v.2 3 = u.2 3) (hc : ch ≤ ch') : Stt v n ch' := by
  obtain ⟨a, b, p, hp, hm⟩ := h
  exact ⟨h1.trans a, b, p, fun e he => ⟨by rw [h3]; exact (hp e he).1, by have := (hp e he).2; omega⟩, hm⟩
theorem AS_of {β : Type} {l1 l2 : List Nat} {k : Nat} {p : AG β} (h : AP l1 l2 k p) (h1 : (decide (¬ 1 ∈ l1 ∧ ¬ 3 ∈ l2 ∧ ¬ 11 ∈ l2) && l1.all (fun k => scI.contains k) && l2.all (fun k => scA.contains k)) = true) : AS k p := fun u n ch C hC hch => by
  have g1 := Bool.and_eq_true_iff.mp h1
  have g2 := Bool.and_eq_true_iff.mp g1.1
  have g3 := of_decide_eq_true g2.1
  obtain ⟨r, v, c, d, ch', C', b1, b2, b3, b4, b5, b6, b7, b8⟩ := h u ch C hC.1 hch
  refine ⟨r, v, c, d, n, ch', C', b1, ⟨b2, hC.2.1.up (b8.1 1 g3.1) (b8.2 3 g3.2.1) b3, ?_⟩, b4, b5, b6, b7, b8.mono (fun k hk => List.contains_iff_mem.mp (List.all_eq_true.mp g2.2 k hk)) (fun k hk => List.contains_iff_mem.mp (List.all_eq_true.mp g1.2 k hk))⟩
  unfold Rww
  rw [b8.2 11 g3.2.2]
  exact hC.2.2
theorem AS_rt {β : Type} {k : Nat} (x : β) : AS k (art x) := fun u n ch C h _ => ⟨x, u, 0, 0, n, ch, C, rfl, h, by omega, by omega, by omega, by omega, Same.rf u⟩
theorem AS_ite {β : Type} {k : Nat} {b : Prop} [Decidable b] {p q : AG β} (h1 : b → AS k p) (h2 : ¬ b → AS k q) : AS k (if b then p else q) := by
  by_cases h : b
  · rw [if_pos h]; exact h1 h
  · rw [if_neg h]; exact h2 h
theorem CS.same {l1 l2 : List Nat} {u v : MS} {n ch C : Nat} (h : CS u n ch C) (hs : Same l1 l2 u v) (h1 : ¬ 0 ∈ l1 ∧ ¬ 60 ∈ l1 ∧ ¬ 65 ∈ l1 ∧ ¬ 1 ∈ l1) (h2 : ¬ 0 ∈ l2 ∧ ¬ 1 ∈ l2 ∧ ¬ 2 ∈ l2 ∧ ¬ 3 ∈ l2 ∧ ¬ 11 ∈ l2) : CS v n ch C := by
  refine ⟨h.1.same hs ⟨h1.1, h1.2.1, h1.2.2.1⟩ ⟨h2.1, h2.2.1, h2.2.2.1⟩, h.2.1.up (hs.1 1 h1.2.2.2) (hs.2 3 h2.2.2.2.1) (Nat.le_refl _), ?_⟩
  unfold Rww
  rw [hs.2 11 h2.2.2.2.2]
  exact h.2.2
theorem AS_ng {α β : Type} {l1 l2 : List Nat} {k : Nat} {p : NG α} {q : α → AG β} (hp : T l1 l2 p) (h : (decide (¬ 0 ∈ l1 ∧ ¬ 60 ∈ l1 ∧ ¬ 65 ∈ l1 ∧ ¬ 1 ∈ l1) && decide (¬ 0 ∈ l2 ∧ ¬ 1 ∈ l2 ∧ ¬ 2 ∈ l2 ∧ ¬ 3 ∈ l2 ∧ ¬ 11 ∈ l2) && l1.all (fun k => scI.contains k) && l2.all (fun k => scA.contains k)) = true) (hq : ∀ a, AS k (q a)) : AS k (anl p q) := fun u n ch C hC hch => by
  have h1 := Bool.and_eq_true_iff.mp h
  have h2 := Bool.and_eq_true_iff.mp h1.1
  have h3 := Bool.and_eq_true_iff.mp h2.1
  obtain ⟨a, v, e, hs⟩ := hp u
  obtain ⟨r, w, c, d, n', ch', C', b1, b2, b4, b5, b6, b7, b8⟩ := hq a v n ch C (hC.same hs (of_decide_eq_true h3.1) (of_decide_eq_true h3.2)) hch
  exact ⟨r, w, c, d, n', ch', C', anl_eq e b1, b2, b4, b5, b6, b7, (hs.mono (fun k hk => List.contains_iff_mem.mp (List.all_eq_true.mp h2.2 k hk)) (fun k hk => List.contains_iff_mem.mp (List.all_eq_true.mp h1.2 k hk))).trans b8⟩
theorem AS_ap {α β : Type} {k1 k2 : Nat} {p : AG α} {q : α → AG β} (hp : AS k1 p) (hq : ∀ a, AS k2 (q a)) : AS (k1 + k2) (acl p q) := fun u n ch C hC hch => by
  obtain ⟨a, v, c, d, n', ch', C', b1, b2, b4, b5, b6, b7, b8⟩ := hp u n ch C hC (by omega)
  obtain ⟨r, w, c2, d2, n2, ch2, C2, e1, e2, e4, e5, e6, e7, e8⟩ := hq a v n' ch' C' b2 (by omega)
  exact ⟨r, w, c + c2, d + d2, n2, ch2, C2, acl_eq b1 e1, e2, by omega, by omega, by omega, by omega, b8.trans e8⟩
theorem AS.up {β : Type} {k k2 : Nat} {p : AG β} (h : AS k p) (hk : k ≤ k2) : AS k2 p := fun u n ch C hK hch => by
  obtain ⟨r, v, c, d, n', ch', C', b1, b2, b4, b5⟩ := h u n ch C hK (by omega)
  exact ⟨r, v, c, d, n', ch', C', b1, b2, by omega, b5⟩
theorem AS_put {β : Type} {k : Nat} {a0 a1 : Int32} {q : Int32 → AG β} (hv : a1.toInt ≤ bB ∨ (¬ a0 = 0 ∧ ¬ a0 = 2)) (hq : ∀ a, AS k (q a)) : AS (k + 1) (acl (x_X1_put a0 a1) q) := by
  have h := AS_ap (AS_of (ap_put a0 a1 hv) (by decide)) hq
  rw [Nat.add_comm] at h
  exact h
theorem AS_nrt {α β : Type} {k : Nat} {c : α} {q : α → AG β} (h : AS k (q c)) : AS k (anl (nrt c) q) := h
theorem AS_GT {β : Type} {k a n : Nat} {i : Int32} {q : Int32 → AG β} (hq : ∀ x, AS k (q x)) : AS k (anl (nGT a n i) q) := fun u m ch C h hch => hq (rg (u.2 a) n i) u m ch C h hch
/-- an entry of the log is opened where there is room -/
theorem CS.opn {u : MS} {n ch C : Nat} (h : CS u n ch C) (hn : n < 500) : ∃ v, x_X1_openEntry u = some (0, v) ∧ CS v (n + 1) ch C ∧ Same [1] [3] u v ∧ v.2 0 = u.2 0 := by
  obtain ⟨hK, ⟨e1, hn5, p, hp, hm⟩, hR⟩ := h
  have e0 := hK.1
  have hs : Same [1] [3] u (si (sf u 3 (rs (u.2 3) 500 (nI n) (nI ch))) 1 (nI (n + 1))) := (Same_sf (by decide)).trans (Same_si (by decide))
  refine ⟨si (sf u 3 (rs (u.2 3) 500 (nI n) (nI ch))) 1 (nI (n + 1)), ?_, ⟨hK.same hs (by decide) (by decide), ⟨rfl, by omega, fun e => if e = n then ch else p e, fun e he => ?_, fun e e' h1 h2 => ?_⟩, hR⟩, hs, rfl⟩
  · unfold x_X1_openEntry
    show some ((0 : Int32), si (sf u 3 (rs (u.2 3) 500 (u.1 1) (u.1 0))) 1 (u.1 1 + 1)) = _
    rw [e1, e0, nI_1]
  · have e3 : (si (sf u 3 (rs (u.2 3) 500 (nI n) (nI ch))) 1 (nI (n + 1))).2 3 e = rs (u.2 3) 500 (nI n) (nI ch) e := rfl
    rw [e3, rs_in hn (by decide)]
    by_cases he2 : e = n
    · rw [if_pos he2]
      show nI ch = nI (if e = n then ch else p e) ∧ (if e = n then ch else p e) ≤ ch
      rw [if_pos he2]
      exact ⟨rfl, Nat.le_refl _⟩
    · rw [if_neg he2]
      show u.2 3 e = nI (if e = n then ch else p e) ∧ (if e = n then ch else p e) ≤ ch
      rw [if_neg he2]
      exact hp e (by omega)
  · show (if e = n then ch else p e) ≤ (if e' = n then ch else p e')
    by_cases h3 : e' = n
    · rw [if_pos h3]
      by_cases h4 : e = n
      · rw [if_pos h4]; omega
      · rw [if_neg h4]; exact (hp e (by omega)).2
    · rw [if_neg h3, if_neg (by omega)]
      exact hm e e' h1 (by omega)
theorem isFull_eq {u : MS} {n ch C : Nat} (h : CS u n ch C) : (n < 500 ∧ x_X1_isFull u = some (0, u)) ∨ (n = 500 ∧ x_X1_isFull u = some (1, u)) := by
  obtain ⟨-, ⟨e1, hn5, -⟩, -⟩ := h
  unfold x_X1_isFull
  show (n < 500 ∧ (if u.1 1 < 500 then nrt (0 : Int32) else nrt 1) u = _) ∨ (n = 500 ∧ (if u.1 1 < 500 then nrt (0 : Int32) else nrt 1) u = _)
  rw [e1]
  rcases Nat.lt_or_ge n 500 with z | z
  · refine Or.inl ⟨z, ?_⟩
    have h5 : nI n < (500 : Int32) := nI_lt (b := 500) z (by decide)
    rw [if_pos h5]
    rfl
  · have : n = 500 := by omega
    subst this
    exact Or.inr ⟨rfl, rfl⟩
theorem AS_full {k : Nat} {b : Int32 → AG Int32} (hb : ∀ r, AS k (b r)) : AS k (anl x_X1_isFull (fun r => (if r = 0 then anl x_X1_openEntry b else art (-4)))) := fun u n ch C hC hch => by
  rcases isFull_eq hC with ⟨hn, e⟩ | ⟨hn, e⟩
  · obtain ⟨v, ev, hv, hs, -⟩ := hC.opn hn
    obtain ⟨r, w, c, d, n', ch', C', b1, b2, b4, b5, b6, b7, b8⟩ := hb 0 v (n + 1) ch C hv hch
    exact ⟨r, w, c, d, n', ch', C', anl_eq e (anl_eq ev b1), b2, b4, b5, b6, b7, (hs.mono (by decide) (by decide)).trans b8⟩
  · exact ⟨-4, u, 0, 0, n, ch, C, anl_eq e rfl, hC, by omega, by omega, by omega, by omega, Same.rf u⟩
theorem isGrams_c (a : Int32) : x_X11_isGrams a = nrt 0 ∨ (x_X11_isGrams a = nrt 1 ∧ a.toInt ≤ 200000) := by
  unfold x_X11_isGrams
  by_cases h : a < 0
  · rw [if_pos h]; exact Or.inl rfl
  · rw [if_neg h]
    by_cases h2 : 200000 < a
    · rw [if_pos h2]; exact Or.inl rfl
    · rw [if_neg h2]
      have h3 := i32_nlt h2
      have c9 : (200000 : Int32).toInt = 200000 := by decide
      exact Or.inr ⟨rfl, by omega⟩
theorem isMat_c (a : Int32) : x_X11_isMat a = nrt 0 ∨ (x_X11_isMat a = nrt 1 ∧ ∃ m, m < 4 ∧ a = nI m) := by
  unfold x_X11_isMat
  by_cases h : a < 0
  · rw [if_pos h]; exact Or.inl rfl
  · rw [if_neg h]
    by_cases h2 : 4 ≤ a
    · rw [if_pos h2]; exact Or.inl rfl
    · rw [if_neg h2]
      have h3 := i32_nle h2
      have c9 : (4 : Int32).toInt = 4 := by decide
      rw [Int32.lt_iff_toInt_lt, i32_0] at h
      exact Or.inr ⟨rfl, a.toInt.toNat, by omega, nI_ofT (by omega)⟩
theorem isClass_c (a : Int32) : x_X11_isClass a = nrt 0 ∨ (x_X11_isClass a = nrt 1 ∧ ∃ m, m < 4 ∧ a = nI m) := isMat_c a
theorem bB_200 {x : Int32} (h : x.toInt ≤ 200000) : x.toInt ≤ bB := by unfold bB; omega
theorem as_limit (a b d : Int32) : AS 2 (x_X11_limit a b d) := by
  unfold x_X11_limit
  refine AS_ng (tt_x_X11_isClass _) (by decide) (fun _ => AS_ite (fun _ => AS_rt _) (fun _ => ?_))
  rcases isGrams_c b with e | ⟨e, hb⟩
  · rw [e]; exact AS_nrt (AS_ite (fun _ => AS_rt _) (fun z => absurd rfl z))
  · rw [e]
    refine AS_nrt (AS_ite (fun _ => AS_rt _) (fun _ => ?_))
    rcases isGrams_c d with e | ⟨e, hd⟩
    · rw [e]; exact AS_nrt (AS_ite (fun _ => AS_rt _) (fun z => absurd rfl z))
    · rw [e]
      refine AS_nrt (AS_ite (fun _ => AS_rt _) (fun _ => AS_ite (fun _ => ?_) (fun _ => AS_rt _)))
      refine AS_ng (tt_x_X0_isDrawn _) (by decide) (fun _ => AS_ite (fun _ => ?_) (fun _ => AS_rt _))
      refine AS_ng (tt_x_X8_wasAnyAtScales _) (by decide) (fun _ => AS_ite (fun _ => AS_full (fun _ => ?_)) (fun _ => AS_rt _))
      exact AS_ng (tt_x_X1_ofClass _ _) (by decide) (fun _ => AS_put (Or.inl (bB_200 hb)) (fun _ => AS_ng (tt_x_X1_ofClass _ _) (by decide) (fun _ => AS_put (Or.inl (bB_200 hd)) (fun _ => AS_rt _))))
theorem as_now (a : Int32) : AS 1 (x_X11_now a) := by
  unfold x_X11_now
  refine AS_GT (fun _ => AS_ite (fun _ => AS_rt _) (fun _ => AS_ite (fun h => AS_full (fun _ => AS_put (Or.inl ?_) (fun _ => AS_rt _))) (fun _ => AS_rt _)))
  have h3 := Int32.le_iff_toInt_le.mp h
  have c9 : (1440 : Int32).toInt = 1440 := by decide
  unfold bB
  omega
theorem as_rest (a : Int32) : AS 1 (x_X11_rest a) := by
  unfold x_X11_rest
  exact AS_ite (fun _ => AS_rt _) (fun _ => AS_ite (fun h => AS_full (fun _ => AS_GT (fun _ => AS_put (Or.inr (by decide)) (fun _ => AS_rt _)))) (fun _ => AS_rt _))
theorem as_seed (a b : Int32) : AS 1 (x_X11_seed a b) := by
  unfold x_X11_seed
  refine AS_ng (tt_x_X8_has _) (by decide) (fun _ => AS_ite (fun _ => AS_rt _) (fun _ => AS_ite (fun _ => AS_rt _) (fun _ => AS_ite (fun h => ?_) (fun _ => AS_rt _))))
  refine AS_ng (tt_x_X8_classOf _) (by decide) (fun _ => AS_ng (tt_x_X0_isDrawn _) (by decide) (fun _ => AS_ite (fun _ => ?_) (fun _ => AS_rt _)))
  refine AS_ng (tt_x_X8_isSeedOfAnother _ _) (by decide) (fun _ => AS_ite (fun _ => AS_full (fun _ => ?_)) (fun _ => AS_rt _))
  refine AS_ng (tt_x_X1_ofFighter _ _) (by decide) (fun _ => AS_GT (fun _ => AS_ng (tt_x_X1_ofFighter _ _) (by decide) (fun _ => AS_put (Or.inl ?_) (fun _ => AS_rt _))))
  have h3 := Int32.le_iff_toInt_le.mp h
  have c9 : (8 : Int32).toInt = 8 := by decide
  unfold bB
  omega
theorem ap_putOnScales (a b : Int32) (hb : b.toInt ≤ bB) : AP [0, 60, 65] [0, 1, 2] 2 (x_X8_putOnScales a b) := by
  unfold x_X8_putOnScales
  have ht : ∀ (c : Int32) (x y : Int32), AP [0, 60, 65] [0, 1, 2] 2 (anl (x_X1_ofFighter a 2) (fun r_12 => acl (x_X1_put r_12 b) (fun r_15 => anl (x_X1_ofFighter a 3) (fun r_24 => (if c = 0 then acl (x_X1_put r_24 2) (fun r_28 => art x) else acl (x_X1_put r_24 1) (fun r_37 => art y)))))) := fun c x y =>
    AP_ng (tt_x_X1_ofFighter _ _) (by decide) (fun _ => AP_put (Or.inl hb) (by decide) (by decide) (fun _ => AP_ng (tt_x_X1_ofFighter _ _) (by decide) (fun _ => AP_ite (fun _ => AP_put (Or.inl (by decide)) (by decide) (by decide) (fun _ => AP_rt _)) (fun _ => AP_put (Or.inl (by decide)) (by decide) (by decide) (fun _ => AP_rt _)))))
  refine AP_ng (tt_x_X8_classOf _) (by decide) (fun _ => AP_ng (tt_x_X1_ofClass _ _) (by decide) (fun _ => AP_GA (fun _ => AP_ite (fun _ => ht _ _ _) (fun _ => ?_))))
  exact AP_ng (tt_x_X1_ofClass _ _) (by decide) (fun _ => AP_GA (fun _ => AP_ite (fun _ => ht _ _ _) (fun _ => ht _ _ _)))
theorem as_weigh (a b : Int32) : AS 2 (x_X11_weigh a b) := by
  unfold x_X11_weigh
  refine AS_ng (tt_x_X8_has _) (by decide) (fun _ => AS_ite (fun _ => AS_rt _) (fun _ => ?_))
  rcases isGrams_c b with e | ⟨e, hb⟩
  · rw [e]; exact AS_nrt (AS_ite (fun _ => AS_rt _) (fun z => absurd rfl z))
  · rw [e]
    refine AS_nrt (AS_ite (fun _ => AS_rt _) (fun _ => ?_))
    refine AS_ng (tt_x_X8_classOf _) (by decide) (fun _ => AS_ng (tt_x_X0_isDrawn _) (by decide) (fun _ => AS_ite (fun _ => AS_full (fun _ => ?_)) (fun _ => AS_rt _)))
    exact AS_ap (k1 := 2) (k2 := 0) (AS_of (ap_putOnScales _ _ (bB_200 hb)) (by decide)) (fun _ => AS_ite (fun _ => AS_rt _) (fun _ => AS_rt _))
theorem ap_add {u : MS} {ch C : Nat} (a b : Int32) (ha : a.toInt ≤ bB) (hb : b.toInt ≤ bB) (h : Kb u ch C) (h96 : ¬ 96 ≤ rg (u.2 0) 2088 2) (hch : ch + 6 ≤ 1048576) : APu [0, 60, 65] [0, 1, 2] 6 (x_X8_add a b) u ch C := by
  have h1 : (rg (u.2 0) 2088 2 + 1).toInt ≤ bB := by
    have h3 := i32_nle h96
    have c9 : (96 : Int32).toInt = 96 := by decide
    have h4 := i32_b (rg (u.2 0) 2088 2)
    rw [i32_add _ 1 (by rw [i32_1]; omega) (by rw [i32_1]; omega), i32_1]
    unfold bB
    omega
  have hq : AP [0, 60, 65] [0, 1, 2] 6 (acl (x_X1_put 2 (rg (u.2 0) 2088 2 + 1)) (fun r_4 => anl (x_X1_ofFighter (rg (u.2 0) 2088 2) 0) (fun r_13 => acl (x_X1_put r_13 b) (fun r_16 => anl (x_X1_ofFighter (rg (u.2 0) 2088 2) 1) (fun r_25 => acl (x_X1_put r_25 a) (fun r_28 => anl (x_X1_ofFighter (rg (u.2 0) 2088 2) 2) (fun r_37 => acl (x_X1_put r_37 (-1)) (fun r_40 => anl (x_X1_ofFighter (rg (u.2 0) 2088 2) 5) (fun r_49 => acl (x_X1_put r_49 (-1)) (fun r_52 => anl (x_X1_ofFighter (rg (u.2 0) 2088 2) 6) (fun r_61 => acl (x_X1_put r_61 (-1)) (fun r_64 => art (rg (u.2 0) 2088 2)))))))))))) ) := by
    refine AP_put (Or.inl h1) (by decide) (by decide) (fun _ => AP_ng (tt_x_X1_ofFighter _ _) (by decide) (fun _ => AP_put (Or.inl hb) (by decide) (by decide) (fun _ => AP_ng (tt_x_X1_ofFighter _ _) (by decide) (fun _ => AP_put (Or.inl ha) (by decide) (by decide) (fun _ => ?_)))))
    refine AP_ng (tt_x_X1_ofFighter _ _) (by decide) (fun _ => AP_put (Or.inl (by decide)) (by decide) (by decide) (fun _ => ?_))
    refine AP_ng (tt_x_X1_ofFighter _ _) (by decide) (fun _ => AP_put (Or.inl (by decide)) (by decide) (by decide) (fun _ => ?_))
    exact AP_ng (tt_x_X1_ofFighter _ _) (by decide) (fun _ => AP_put (Or.inl (by decide)) (by decide) (by decide) (fun _ => AP_rt _))
  exact hq u ch C h hch
theorem as_enter (a b : Int32) : AS 6 (x_X11_enter a b) := by
  unfold x_X11_enter
  refine AS_ite (fun _ => AS_rt _) (fun _ => AS_ite (fun _ => AS_rt _) (fun h16 => ?_))
  have ha : a.toInt ≤ bB := by
    have h3 := i32_nle h16
    have c9 : (16 : Int32).toInt = 16 := by decide
    unfold bB
    omega
  rcases isClass_c b with e | ⟨e, m, hm, rfl⟩
  · rw [e]; exact AS_nrt (AS_ite (fun _ => AS_rt _) (fun z => absurd rfl z))
  · rw [e]
    have hb : (nI m).toInt ≤ bB := by rw [nI_toInt (by omega)]; unfold bB; omega
    refine AS_nrt (AS_ite (fun _ => AS_rt _) (fun _ => AS_ng (tt_x_X0_isDrawn _) (by decide) (fun _ => AS_ite (fun _ => ?_) (fun _ => AS_rt _))))
    intro u n ch C hC hch
    have ep : x_X8_people u = some (rg (u.2 0) 2088 2, u) := rfl
    by_cases h96 : 96 ≤ rg (u.2 0) 2088 2
    · exact ⟨-4, u, 0, 0, n, ch, C, anl_eq ep (by rw [if_pos h96]; rfl), hC, by omega, by omega, by omega, by omega, Same.rf u⟩
    · rcases isFull_eq hC with ⟨hn, ef⟩ | ⟨hn, ef⟩
      · obtain ⟨v, ev, hv, hs, h0⟩ := hC.opn hn
        obtain ⟨r, w, c, d, ch', C', b1, b2, b3, b4, b5, b6, b7, b8⟩ := ap_add a (nI m) ha hb hv.1 (by rw [h0]; exact h96) hch
        refine ⟨r, w, c + 0, d + 0, n + 1, ch', C', anl_eq ep (by rw [if_neg h96]; refine anl_eq ef ?_; rw [if_pos rfl]; refine anl_eq ev ?_; exact acl_eq b1 rfl), ⟨b2, hv.2.1.up (b8.1 1 (by decide)) (b8.2 3 (by decide)) b3, ?_⟩, b4, b5, by omega, by omega, (hs.mono (by decide) (by decide)).trans (b8.mono (by decide) (by decide))⟩
        unfold Rww
        rw [b8.2 11 (by decide)]
        exact hv.2.2
      · exact ⟨-4, u, 0, 0, n, ch, C, anl_eq ep (by rw [if_neg h96]; exact anl_eq ef rfl), hC, by omega, by omega, by omega, by omega, Same.rf u⟩
theorem as_decide (a b : Int32) : AS 8 (x_X11_decide a b) := by
  unfold x_X11_decide
  refine AS_ng (tt_x_X11_isMat _) (by decide) (fun _ => AS_ite (fun _ => AS_rt _) (fun _ => AS_ng (tt_x_X11_isSide _) (by decide) (fun _ => AS_ite (fun _ => AS_rt _) (fun _ => ?_))))
  refine AS_ng (tt_x_X3_waits _) (by decide) (fun _ => AS_ite (fun _ => AS_rt _) (fun _ => AS_full (fun _ => ?_)))
  exact AS_ap (k1 := 8) (k2 := 0) (AS_of (ap_finish _ _ _ _ (by decide)) (by decide)) (fun _ => AS_ng (tt_x_X3_classOn _) (by decide) (fun _ => AS_ng (tt_x_X0_settle _) (by decide) (fun _ => AS_rt _)))
theorem as_strike (a b : Int32) : AS 148 (x_X11_strike a b) := by
  unfold x_X11_strike
  refine AS_ng (tt_x_X0_has _ _) (by decide) (fun _ => AS_ite (fun _ => AS_rt _) (fun _ => AS_ng (tt_x_X0_stateOf _ _) (by decide) (fun _ => AS_ite (fun _ => AS_full (fun _ => ?_)) (fun _ => AS_rt _))))
  exact AS_ap (k1 := 148) (k2 := 0) (AS_of (ap_strikeFrom _ _) (by decide)) (fun _ => AS_rt _)
theorem AS_LW {β : Type} {k : Nat} {LN : MS → MS} (hLN : ∀ u, ((LN u).1 3).toInt ≤ bB) {q : MS → AG β} (hq : ∀ L : MS, (L.1 3).toInt ≤ bB → AS k (q L)) : AS k (anl (nLW LN) q) := fun u n ch C h hch => hq (LN u) (hLN u) u n ch C h hch
theorem as_begin (LN : MS → MS) (hLN : ∀ u, ((LN u).1 3).toInt ≤ bB) (a b d : Int32) : AS 27 (x_X11_begin LN a b d) := by
  unfold x_X11_begin
  refine AS_ng (tt_x_X0_has _ _) (by decide) (fun _ => AS_ite (fun _ => AS_rt _) (fun _ => ?_))
  rcases isMat_c d with e | ⟨e, m, hm, rfl⟩
  · rw [e]; exact AS_nrt (AS_ite (fun _ => AS_rt _) (fun z => absurd rfl z))
  · rw [e]
    refine AS_nrt (AS_ite (fun _ => AS_rt _) (fun _ => AS_ng (tt_x_X0_stateOf _ _) (by decide) (fun _ => ?_)))
    have ht : ∀ c : Int32, AS 27 (anl (nLW LN) (fun L_72 => (if (L_72.1 3) = 0 then art (-3) else (if c = 0 then art (-3) else anl (x_X3_isFree (nI m)) (fun r_79 => (if r_79 = 0 then art (-3) else anl (x_X0_whiteOf a b) (fun r_83 => anl (x_X3_isHeld r_83) (fun r_86 => (if r_86 = 0 then anl (x_X0_blueOf a b) (fun r_90 => anl (x_X3_isHeld r_90) (fun r_93 => (if r_93 = 0 then anl (x_X1_isFull) (fun r_97 => (if r_97 = 0 then anl (x_X1_openEntry) (fun r_101 => anl (nLW LN) (fun L_103 => acl (x_X3_start (L_103.1 0) a b (nI m)) (fun r_108 => anl (nLW LN) (fun L_116 => acl (x_X3_turnOver L_116 (nI m)) (fun r_121 => anl (x_X0_settle a) (fun r_130 => art (1 : Int32))))))) else art (-4))) else art (-5)))) else art (-5)))))))))) := fun c => by
      refine AS_LW hLN (fun L _ => AS_ite (fun _ => AS_rt _) (fun _ => AS_ite (fun _ => AS_rt _) (fun _ => ?_)))
      refine AS_ng (tt_x_X3_isFree _) (by decide) (fun _ => AS_ite (fun _ => AS_rt _) (fun _ => ?_))
      refine AS_ng (tt_x_X0_whiteOf _ _) (by decide) (fun _ => AS_ng (tt_x_X3_isHeld _) (by decide) (fun _ => AS_ite (fun _ => ?_) (fun _ => AS_rt _)))
      refine AS_ng (tt_x_X0_blueOf _ _) (by decide) (fun _ => AS_ng (tt_x_X3_isHeld _) (by decide) (fun _ => AS_ite (fun _ => AS_full (fun _ => ?_)) (fun _ => AS_rt _)))
      refine AS_LW hLN (fun L2 _ => AS_ap (k1 := 25) (k2 := 2) (AS_of (ap_start _ _ _ m hm) (by decide)) (fun _ => AS_LW hLN (fun L3 _ => ?_)))
      exact AS_ap (k1 := 2) (k2 := 0) (AS_of (ap_turnOver _ m hm) (by decide)) (fun _ => AS_ng (tt_x_X0_settle _) (by decide) (fun _ => AS_rt _))
    exact AS_ite (fun _ => ht 1) (fun _ => ht 0)
theorem as_event (LN : MS → MS) (hLN : ∀ u, ((LN u).1 3).toInt ≤ bB) (a b d : Int32) : AS 9 (x_X11_event LN a b d) := by
  unfold x_X11_event
  refine AS_ng (tt_x_X11_isMat _) (by decide) (fun _ => AS_ite (fun _ => AS_rt _) (fun _ => AS_ng (tt_x_X11_isSide _) (by decide) (fun _ => AS_ite (fun _ => AS_rt _) (fun _ => AS_ite (fun _ => AS_rt _) (fun _ => ?_)))))
  refine AS_LW hLN (fun L _ => AS_ite (fun _ => ?_) (fun _ => AS_rt _))
  refine AS_ng (tt_x_X3_goesOn _) (by decide) (fun _ => AS_ite (fun _ => AS_rt _) (fun _ => AS_full (fun _ => ?_)))
  refine AS_ap (k1 := 1) (k2 := 8) (AS_of (ap_giveSign _ _ _) (by decide)) (fun _ => AS_LW hLN (fun L2 h2 => ?_))
  exact AS_ap (k1 := 8) (k2 := 0) (AS_of (ap_ask _ h2 _) (by decide)) (fun _ => AS_ng (tt_x_X3_classOn _) (by decide) (fun _ => AS_ng (tt_x_X0_settle _) (by decide) (fun _ => AS_rt _)))
theorem as_tick (LN : MS → MS) (hLN : ∀ u, ((LN u).1 3).toInt ≤ bB) (a b : Int32) : AS 11 (x_X11_tick LN a b) := by
  unfold x_X11_tick
  rcases isMat_c a with e | ⟨e, m, hm, rfl⟩
  · rw [e]; exact AS_nrt (AS_ite (fun _ => AS_rt _) (fun z => absurd rfl z))
  · rw [e]
    refine AS_nrt (AS_ite (fun _ => AS_rt _) (fun _ => AS_ite (fun _ => AS_rt _) (fun _ => AS_ite (fun _ => ?_) (fun _ => AS_rt _))))
    refine AS_ng (tt_x_X3_goesOn _) (by decide) (fun _ => AS_ite (fun _ => AS_rt _) (fun _ => ?_))
    refine AS_ng (tt_x_X1_ofMat _ _) (by decide) (fun _ => AS_GT (fun _ => AS_ite (fun _ => AS_full (fun _ => ?_)) (fun _ => AS_rt _)))
    refine AS_ap (k1 := 1) (k2 := 10) (AS_of (ap_letPass _ m hm) (by decide)) (fun _ => AS_LW hLN (fun L2 h2 => ?_))
    refine AS_ap (k1 := 8) (k2 := 2) (AS_of (ap_ask _ h2 _) (by decide)) (fun _ => AS_LW hLN (fun L3 _ => ?_))
    exact AS_ap (k1 := 2) (k2 := 0) (AS_of (ap_turnOver _ m hm) (by decide)) (fun _ => AS_ng (tt_x_X3_classOn _) (by decide) (fun _ => AS_ng (tt_x_X0_settle _) (by decide) (fun _ => AS_rt _)))
end
section
/-! ===== the class's draw ===== -/
abbrev dI : List Nat := [0, 60, 65]
abbrev dA : List Nat := [0, 1, 2, 11, 12]
theorem AQ_rt {β : Type} {LI LA : List Nat} {k : Nat} {x : β} {u : MS} {ch C : Nat} {Q : β → MS → Nat → Nat → Prop} (h : Kb u ch C) (hq : Q x u ch C) : AQ LI LA k (art x) u ch C Q := ⟨x, u, 0, 0, ch, C, rfl, h, by omega, by omega, by omega, by omega, by omega, Same.rf u, hq⟩
theorem AQ.up {β : Type} {LI LA : List Nat} {k k2 : Nat} {p : AG β} {u : MS} {ch C : Nat} {Q : β → MS → Nat → Nat → Prop} (h : AQ LI LA k p u ch C Q) (hk : k ≤ k2) : AQ LI LA k2 p u ch C Q := by
  obtain ⟨r, v, c, d, ch', C', b1, b2, b3, b4, b5⟩ := h
  exact ⟨r, v, c, d, ch', C', b1, b2, b3, by omega, b5⟩
theorem AQ_cl {α β : Type} {l1 l2 LI LA : List Nat} {k1 k2 : Nat} {p : AG α} {q : α → AG β} {u : MS} {ch C : Nat} {Q : β → MS → Nat → Nat → Prop} (h3 : ∀ k ∈ l1, k ∈ LI) (h4 : ∀ k ∈ l2, k ∈ LA) (hp : AQ l1 l2 k1 p u ch C (fun r v ch' C' => Kb v ch' C' → ch' ≤ ch + k1 → AQ LI LA k2 (q r) v ch' C' Q)) : AQ LI LA (k1 + k2) (acl p q) u ch C Q := by
  obtain ⟨a, v, c, d, ch', C', b1, b2, b3, b4, b5, b6, b7, b8, b9⟩ := hp
  obtain ⟨r, w, c2, d2, ch2, C2, e1, e2, e3, e4, e5, e6, e7, e8, e9⟩ := b9 b2 b4
  exact ⟨r, w, c + c2, d + d2, ch2, C2, acl_eq b1 e1, e2, by omega, by omega, by omega, by omega, by omega, (b8.mono h3 h4).trans e8, e9⟩
theorem AQ_nl {α β : Type} {l1 l2 LI LA : List Nat} {k : Nat} {p : NG α} {q : α → AG β} {u v : MS} {a : α} {ch C : Nat} {Q : β → MS → Nat → Nat → Prop} (e : p u = some (a, v)) (hs : Same l1 l2 u v) (h3 : ∀ k ∈ l1, k ∈ LI) (h4 : ∀ k ∈ l2, k ∈ LA) (hq : AQ LI LA k (q a) v ch C Q) : AQ LI LA k (anl p q) u ch C Q := by
  obtain ⟨r, w, c2, d2, ch2, C2, e1, e2, e3, e4, e5, e6, e7, e8, e9⟩ := hq
  exact ⟨r, w, c2, d2, ch2, C2, anl_eq e e1, e2, e3, e4, e5, e6, e7, (hs.mono h3 h4).trans e8, e9⟩
theorem AQ_n0 {α β : Type} {LI LA : List Nat} {k : Nat} {p : NG α} {q : α → AG β} {u : MS} {a : α} {ch C : Nat} {Q : β → MS → Nat → Nat → Prop} (e : p u = some (a, u)) (hq : AQ LI LA k (q a) u ch C Q) : AQ LI LA k (anl p q) u ch C Q := by
  obtain ⟨r, w, c2, d2, ch2, C2, e1, e2⟩ := hq
  exact ⟨r, w, c2, d2, ch2, C2, anl_eq e e1, e2⟩
theorem T.pure {α : Type} {p : NG α} (h : T [] [] p) (u : MS) : ∃ a, p u = some (a, u) := by
  obtain ⟨a, v, e, hs⟩ := h u
  rw [hs.nil] at e
  exact ⟨a, e⟩
theorem AQ_ite {β : Type} {LI LA : List Nat} {k : Nat} {b : Prop} [Decidable b] {p q : AG β} {u : MS} {ch C : Nat} {Q : β → MS → Nat → Nat → Prop} (h1 : b → AQ LI LA k p u ch C Q) (h2 : ¬ b → AQ LI LA k q u ch C Q) : AQ LI LA k (if b then p else q) u ch C Q := by
  by_cases h : b
  · rw [if_pos h]; exact h1 h
  · rw [if_neg h]; exact h2 h
theorem AQ_li {β : Type} {LI LA : List Nat} {k : Nat} {x : Int32} {q : Int32 → AG β} {u : MS} {ch C : Nat} {Q : β → MS → Nat → Nat → Prop} (h : AQ LI LA k (q x) u ch C Q) : AQ LI LA k (ali x q) u ch C Q := h
/-! who is weighed -/
def wq (f : Nat → Int32) (c : Int32) (k : Nat) : Bool := decide (rg f 2088 (148 + nI k * 7 + 0) = c ∧ rg f 2088 (148 + nI k * 7 + 3) = 1)
theorem isWeighed_eq (u : MS) (c : Int32) (k : Nat) : x_X8_isWeighed (nI k) c u = some ((if wq (u.2 0) c k = true then 1 else 0), u) := by
  unfold x_X8_isWeighed
  show (if rg (u.2 0) 2088 (148 + nI k * 7 + 0) = c then ncl (x_X1_ofFighter (nI k) 3) (fun r_9 => ncl (nGT 0 2088 r_9) (fun x_12 => (if x_12 = 1 then nrt (1 : Int32) else nrt 0))) else nrt 0) u = _
  by_cases h1 : rg (u.2 0) 2088 (148 + nI k * 7 + 0) = c
  · rw [if_pos h1]
    show (if rg (u.2 0) 2088 (148 + nI k * 7 + 3) = 1 then nrt (1 : Int32) else nrt 0) u = _
    by_cases h2 : rg (u.2 0) 2088 (148 + nI k * 7 + 3) = 1
    · have hw : wq (u.2 0) c k = true := decide_eq_true ⟨h1, h2⟩
      rw [if_pos h2, if_pos hw]; rfl
    · rw [if_neg h2, if_neg (by unfold wq; rw [decide_eq_false (fun z => h2 z.2)]; decide)]; rfl
  · rw [if_neg h1, if_neg (by unfold wq; rw [decide_eq_false (fun z => h1 z.1)]; decide)]; rfl
/-- x have come, W says who of them is weighed -/
def PSc (c x : Int32) (W : Nat → Bool) (u : MS) : Prop := rg (u.2 0) 2088 2 = x ∧ (∀ k, k < x.toInt.toNat → wq (u.2 0) c k = W k) ∧ Rww u
theorem x_le {x : Int32} (hx : x.toInt ≤ bB) {k : Nat} (hk : k < x.toInt.toNat) : ¬ x ≤ nI k := by
  intro z
  unfold bB at hx
  rw [Int32.le_iff_toInt_le, nI_toInt (by omega)] at z
  omega
theorem x_ge {x : Int32} (hx : x.toInt ≤ bB) : x ≤ nI x.toInt.toNat := by
  unfold bB at hx
  rw [Int32.le_iff_toInt_le, nI_toInt (by omega)]
  omega
theorem weighedOf_eq (u : MS) (c : Int32) (hx : (rg (u.2 0) 2088 2).toInt ≤ bB) : x_X8_weighedOf c u = some (nI (cb (wq (u.2 0) c) (rg (u.2 0) 2088 2).toInt.toNat), u) := by
  have hlp : ∀ (t k n : Nat), k + t = (rg (u.2 0) 2088 2).toInt.toNat → t < n → xl_X8_weighedOf_4 n c (nI (cb (wq (u.2 0) c) k)) (nI k) (fun v1 v2 v3 => nrt v2) u = some (nI (cb (wq (u.2 0) c) (rg (u.2 0) 2088 2).toInt.toNat), u) := by
    intro t
    induction t with
    | zero =>
      intro k n hk hn
      cases n with
      | zero => omega
      | succ n =>
        have e : k = (rg (u.2 0) 2088 2).toInt.toNat := by omega
        rw [e]
        unfold xl_X8_weighedOf_4
        show (if rg (u.2 0) 2088 2 ≤ nI (rg (u.2 0) 2088 2).toInt.toNat then nrt (nI (cb (wq (u.2 0) c) (rg (u.2 0) 2088 2).toInt.toNat)) else _) u = _
        rw [if_pos (x_ge hx)]
        rfl
    | succ t ih =>
      intro k n hk hn
      cases n with
      | zero => omega
      | succ n =>
        unfold xl_X8_weighedOf_4
        show (if rg (u.2 0) 2088 2 ≤ nI k then nrt (nI (cb (wq (u.2 0) c) k)) else ncl (x_X8_isWeighed (nI k) c) (fun r_5 => (if r_5 = 0 then nli (nI (cb (wq (u.2 0) c) k) + 0) (fun x_9 => nli (nI k + 1) (fun x_11 => xl_X8_weighedOf_4 n c x_9 x_11 (fun v1 v2 v3 => nrt v2))) else nli (nI (cb (wq (u.2 0) c) k) + 1) (fun x_13 => nli (nI k + 1) (fun x_15 => xl_X8_weighedOf_4 n c x_13 x_15 (fun v1 v2 v3 => nrt v2)))))) u = _
        rw [if_neg (x_le hx (by omega))]
        unfold ncl
        rw [isWeighed_eq]
        by_cases hw : wq (u.2 0) c k = true
        · rw [if_pos hw]
          show (if (1 : Int32) = 0 then _ else nli (nI (cb (wq (u.2 0) c) k) + 1) (fun x_13 => nli (nI k + 1) (fun x_15 => xl_X8_weighedOf_4 n c x_13 x_15 (fun v1 v2 v3 => nrt v2)))) u = _
          rw [if_neg (by decide)]
          show xl_X8_weighedOf_4 n c (nI (cb (wq (u.2 0) c) k) + 1) (nI k + 1) (fun v1 v2 v3 => nrt v2) u = _
          rw [nI_1, nI_1, ← cb_t hw]
          exact ih (k + 1) n (by omega) (by omega)
        · rw [if_neg hw]
          show (if (0 : Int32) = 0 then nli (nI (cb (wq (u.2 0) c) k) + 0) (fun x_9 => nli (nI k + 1) (fun x_11 => xl_X8_weighedOf_4 n c x_9 x_11 (fun v1 v2 v3 => nrt v2))) else _) u = _
          rw [if_pos rfl]
          show xl_X8_weighedOf_4 n c (nI (cb (wq (u.2 0) c) k) + 0) (nI k + 1) (fun v1 v2 v3 => nrt v2) u = _
          rw [nI_1, Int32.add_zero, ← cb_f hw]
          exact ih (k + 1) n (by omega) (by omega)
  unfold x_X8_weighedOf
  exact hlp (rg (u.2 0) 2088 2).toInt.toNat 0 fuel (by omega) (by unfold bB at hx; unfold fuel; omega)
/-! cells that a placing leaves alone -/
theorem rg_rs_ne {f : Nat → Int32} {n : Nat} {i j x : Int32} (h : ¬ i = j) : rg (rs f n i x) n j = rg f n j := by
  unfold rg
  by_cases h1 : j < 0
  · rw [if_pos h1, if_pos h1]
  · rw [if_neg h1, if_neg h1]
    by_cases h2 : nI n ≤ j
    · rw [if_pos h2, if_pos h2]
    · rw [if_neg h2, if_neg h2]
      rcases rs_at (f := f) (n := n) (i := i) (x := x) j.toNatClampNeg with z | ⟨-, z⟩
      · exact z
      · exfalso
        apply h
        rw [z]
        have h0 : 0 ≤ j.toInt := by
          rw [Int32.lt_iff_toInt_lt, i32_0] at h1
          omega
        exact (nI_ofT h0).symm
theorem fCell (k d : Nat) : (148 : Int32) + nI k * 7 + nI d = nI (148 + 7 * k + d) := by
  have e7 : nI k * 7 = nI (7 * k) := by
    have h := nI_mul k 7
    rw [Nat.mul_comm] at h
    exact h
  have e1 : (148 : Int32) + nI (7 * k) = nI (148 + 7 * k) := nI_add 148 (7 * k)
  rw [e7, e1, nI_add]
/-- a write to a cell below 148 (not 2), or to a PLACE -/
theorem PSc.w {c x : Int32} {W : Nat → Bool} {u v : MS} (h : PSc c x W u) (hx : x.toInt ≤ bB) (i y : Int32) (hi : (∃ j, j < 148 ∧ ¬ j = 2 ∧ i = nI j) ∨ ∃ k, k < x.toInt.toNat ∧ i = nI (148 + 7 * k + 5)) (h0 : v.2 0 = rs (u.2 0) 2088 i y) (h11 : v.2 11 = u.2 11) : PSc c x W v := by
  obtain ⟨a, b, d⟩ := h
  unfold bB at hx
  refine ⟨?_, fun k hk => ?_, ?_⟩
  · rw [h0, rg_rs_ne ?_]
    · exact a
    · intro z
      rcases hi with ⟨j, j1, j2, rfl⟩ | ⟨k, k1, rfl⟩
      · exact j2 ((nI_eq (a := j) (b := 2) (by omega) (by decide)).mp z)
      · have := (nI_eq (a := 148 + 7 * k + 5) (b := 2) (by omega) (by decide)).mp z
        omega
  · rw [← b k hk]
    have e0 : ∀ d, d = 0 ∨ d = 3 → rg (rs (u.2 0) 2088 i y) 2088 (148 + nI k * 7 + nI d) = rg (u.2 0) 2088 (148 + nI k * 7 + nI d) := fun d hd => by
      refine rg_rs_ne (fun z => ?_)
      rw [fCell] at z
      rcases hi with ⟨j, j1, j2, rfl⟩ | ⟨k2, k1, rfl⟩
      · have := (nI_eq (by omega) (by omega)).mp z
        omega
      · have := (nI_eq (by omega) (by omega)).mp z
        omega
    have q0 := e0 0 (Or.inl rfl)
    have q3 := e0 3 (Or.inr rfl)
    unfold wq
    rw [h0]
    have z0 : nI 0 = (0 : Int32) := rfl
    have z3 : nI 3 = (3 : Int32) := rfl
    rw [z0] at q0
    rw [z3] at q3
    rw [q0, q3]
  · unfold Rww
    rw [h11]
    exact d
theorem cCell {m : Nat} (hm : m < 4) {p : Int32} (h1 : -1 ≤ p.toInt) (h2 : p.toInt ≤ 31) : ∃ j, j < 148 ∧ ¬ j = 2 ∧ (4 : Int32) + nI m * 36 + (4 + p) = nI j := by
  refine ⟨(8 + 36 * m + p.toInt).toNat, by omega, by omega, ?_⟩
  have e36 : nI m * 36 = nI (36 * m) := by
    have h := nI_mul m 36
    rw [Nat.mul_comm] at h
    exact h
  have e4 : (4 : Int32) + nI (36 * m) = nI (4 + 36 * m) := nI_add 4 (36 * m)
  rw [e36, e4]
  refine Int32.toInt_inj.mp ?_
  have c4 : (4 : Int32).toInt = 4 := by decide
  have s1 := i32_add 4 p (by rw [c4]; omega) (by rw [c4]; omega)
  rw [i32_add _ _ (by rw [nI_toInt (by omega), s1, c4]; omega) (by rw [nI_toInt (by omega), s1, c4]; omega), s1, c4, nI_toInt (by omega), nI_toInt (by omega)]
  omega
theorem aq_placeOne {c x : Int32} {W : Nat → Bool} {u : MS} {ch C m k : Nat} {p : Int32} (hm : m < 4) (hx : x.toInt ≤ bB) (hk : k < x.toInt.toNat) (h1 : -1 ≤ p.toInt) (h2 : p.toInt ≤ 31) (hK : Kb u ch C) (hP : PSc c x W u) (hch : ch + 2 ≤ 1048576) : AQ [0, 60, 65] [0, 1, 2] 2 (x_X2_placeOne (nI m) (nI k) p) u ch C (fun _ v _ _ => PSc c x W v) := by
  have hx2 := hx
  unfold bB at hx2
  have hv : (nI k).toInt ≤ bB := by rw [nI_toInt (by omega)]; unfold bB; omega
  obtain ⟨j, j1, j2, ej⟩ := cCell hm h1 h2
  have hc5 : ¬ (148 : Int32) + nI k * 7 + 5 = 0 ∧ ¬ (148 : Int32) + nI k * 7 + 5 = 2 := by
    have e := fCell k 5
    have z5 : nI 5 = (5 : Int32) := rfl
    rw [z5] at e
    rw [e]
    refine ⟨fun z => ?_, fun z => ?_⟩
    · have := (nI_eq (a := 148 + 7 * k + 5) (b := 0) (by omega) (by decide)).mp z
      omega
    · have := (nI_eq (a := 148 + 7 * k + 5) (b := 2) (by omega) (by decide)).mp z
      omega
  unfold x_X2_placeOne
  refine AQ_n0 (a := 4 + nI m * 36 + (4 + p)) rfl ?_
  refine AQ_cl (l1 := [0, 60, 65]) (l2 := [0, 1, 2]) (k1 := 1) (k2 := 1) (by decide) (by decide) ?_
  obtain ⟨r, v, c1, d1, ch', C', b1, b2, b3, b4, b5, b6, b7, b8, b9⟩ := aq_put (4 + nI m * 36 + (4 + p)) (nI k) (Or.inl hv) u ch C hK (by omega)
  refine ⟨r, v, c1, d1, ch', C', b1, b2, b3, b4, b5, b6, b7, b8, fun hKv hch' => ?_⟩
  have hPv : PSc c x W v := hP.w hx _ _ (Or.inl ⟨j, j1, j2, ej⟩) b9 (b8.2 11 (by decide))
  refine AQ_n0 (a := 148 + nI k * 7 + 5) rfl ?_
  refine AQ_cl (l1 := [0, 60, 65]) (l2 := [0, 1, 2]) (k1 := 1) (k2 := 0) (by decide) (by decide) ?_
  obtain ⟨r2, v2, c2, d2, ch2, C2, e1, e2, e3, e4, e5, e6, e7, e8, e9⟩ := aq_put (148 + nI k * 7 + 5) p (Or.inr hc5) v ch' C' hKv (by omega)
  refine ⟨r2, v2, c2, d2, ch2, C2, e1, e2, e3, e4, e5, e6, e7, e8, fun hKw _ => AQ_rt hKw ?_⟩
  refine hPv.w hx _ _ (Or.inr ⟨k, hk, ?_⟩) e9 (e8.2 11 (by decide))
  have e := fCell k 5
  exact e
/-! the pool, the seeds -/
theorem aq_pool {x : Int32} {W : Nat → Bool} {m : Nat} (hm : m < 4) (hx : x.toInt ≤ bB) (hN : cb W x.toInt.toNat ≤ 31) : ∀ (t k n : Nat) (u : MS) (ch C : Nat), k + t = x.toInt.toNat → t < n → Kb u ch C → PSc (nI m) x W u → ch + 2 * (cb W x.toInt.toNat - cb W k) ≤ 1048576 → AQ dI dA (2 * (cb W x.toInt.toNat - cb W k)) (xl_X2_placePool_4 n (nI m) (nI (cb W k)) (nI k) (fun v1 v2 v3 => art 0)) u ch C (fun _ v _ _ => PSc (nI m) x W v) := by
  intro t
  induction t with
  | zero =>
    intro k n u ch C hk hn hK hP hch
    cases n with
    | zero => omega
    | succ n =>
      have e : k = x.toInt.toNat := by omega
      unfold xl_X2_placePool_4
      refine AQ_n0 (a := x) (by show some (rg (u.2 0) 2088 2, u) = _; rw [hP.1]) (AQ_ite (fun _ => AQ_rt hK hP) (fun z => absurd ?_ z))
      rw [e]
      exact x_ge hx
  | succ t ih =>
    intro k n u ch C hk hn hK hP hch
    cases n with
    | zero => omega
    | succ n =>
      have hkx : k < x.toInt.toNat := by omega
      unfold xl_X2_placePool_4
      refine AQ_n0 (a := x) (by show some (rg (u.2 0) 2088 2, u) = _; rw [hP.1]) (AQ_ite (fun z => absurd z (x_le hx hkx)) (fun _ => ?_))
      refine AQ_n0 (isWeighed_eq u (nI m) k) ?_
      rw [hP.2.1 k hkx]
      by_cases hw : W k = true
      · rw [if_pos hw]
        refine AQ_ite (fun z => absurd z (by decide)) (fun _ => ?_)
        have hlt := cb_lt hkx hw
        have e2 : 2 * (cb W x.toInt.toNat - cb W k) = 2 + 2 * (cb W x.toInt.toNat - cb W (k + 1)) := by
          rw [cb_t hw]
          omega
        rw [e2]
        have hp : (nI (cb W k)).toInt = cb W k := nI_toInt (by omega)
        refine AQ_cl (l1 := [0, 60, 65]) (l2 := [0, 1, 2]) (by decide) (by decide) ?_
        obtain ⟨r, v, c1, d1, ch', C', b1, b2, b3, b4, b5, b6, b7, b8, b9⟩ := aq_placeOne hm hx hkx (p := nI (cb W k)) (by rw [hp]; omega) (by rw [hp]; omega) hK hP (by omega)
        refine ⟨r, v, c1, d1, ch', C', b1, b2, b3, b4, b5, b6, b7, b8, fun hKv _ => AQ_li (AQ_li ?_)⟩
        rw [nI_1, nI_1, ← cb_t hw]
        exact ih (k + 1) n v ch' C' (by omega) (by omega) hKv b9 (by omega)
      · rw [if_neg hw]
        refine AQ_ite (fun _ => AQ_li ?_) (fun z => absurd rfl z)
        rw [nI_1, ← cb_f hw]
        exact ih (k + 1) n u ch C (by omega) (by omega) hK hP (by rw [cb_f hw]; exact hch)
theorem rg_row {u : MS} (h : Rww u) (i : Int32) : -1 ≤ (rg (u.2 11) 32 i).toInt ∧ (rg (u.2 11) 32 i).toInt ≤ 31 := by
  unfold rg
  by_cases h1 : i < 0
  · rw [if_pos h1]; decide
  · rw [if_neg h1]
    by_cases h2 : nI 32 ≤ i
    · rw [if_pos h2]; decide
    · rw [if_neg h2]
      have h3 := i32_nle h2
      have c9 : (nI 32).toInt = 32 := by decide
      rw [Int32.lt_iff_toInt_lt, i32_0] at h1
      have h4 : i.toNatClampNeg = i.toInt.toNat := rfl
      have h5 := h i.toNatClampNeg (by omega)
      omega
theorem aq_seeds13 {x : Int32} {W : Nat → Bool} {m : Nat} (hm : m < 4) (hx : x.toInt ≤ bB) (kK : Nat) (v3 : Int32) (K : Int32 → Int32 → Int32 → Int32 → AG Int32) (Q : Int32 → MS → Nat → Nat → Prop) (chM : Nat) (hK : ∀ v2 v4 u ch C, Kb u ch C → PSc (nI m) x W u → ch ≤ chM → AQ dI dA kK (K (nI m) v2 v3 v4) u ch C Q) : ∀ (t k n : Nat) (v2 : Int32) (u : MS) (ch C : Nat), k + t = x.toInt.toNat → t < n → Kb u ch C → PSc (nI m) x W u → ch + 2 * (cb W x.toInt.toNat - cb W k) ≤ chM → chM ≤ 1048576 → AQ dI dA (2 * (cb W x.toInt.toNat - cb W k) + kK) (xl_X2_placeSeeds_13 n (nI m) v2 v3 (nI k) K) u ch C Q := by
  intro t
  induction t with
  | zero =>
    intro k n v2 u ch C hk hn hKb hP hch hcM
    cases n with
    | zero => omega
    | succ n =>
      have e : k = x.toInt.toNat := by omega
      unfold xl_X2_placeSeeds_13
      refine AQ_n0 (a := x) (by show some (rg (u.2 0) 2088 2, u) = _; rw [hP.1]) (AQ_ite (fun _ => (hK _ _ u ch C hKb hP (by omega)).up (by omega)) (fun z => absurd ?_ z))
      rw [e]
      exact x_ge hx
  | succ t ih =>
    intro k n v2 u ch C hk hn hKb hP hch hcM
    cases n with
    | zero => omega
    | succ n =>
      have hkx : k < x.toInt.toNat := by omega
      have hmono := cb_mono (P := W) (a := k) (b := k + 1) (by omega)
      have hmono2 := cb_mono (P := W) (a := k + 1) (b := x.toInt.toNat) (by omega)
      unfold xl_X2_placeSeeds_13
      refine AQ_n0 (a := x) (by show some (rg (u.2 0) 2088 2, u) = _; rw [hP.1]) (AQ_ite (fun z => absurd z (x_le hx hkx)) (fun _ => ?_))
      refine AQ_n0 (isWeighed_eq u (nI m) k) ?_
      rw [hP.2.1 k hkx]
      have hskip : AQ dI dA (2 * (cb W x.toInt.toNat - cb W k) + kK) (ali (nI k + 1) (fun x_11 => xl_X2_placeSeeds_13 n (nI m) v2 v3 x_11 K)) u ch C Q := by
        refine AQ_li ?_
        rw [nI_1]
        exact (ih (k + 1) n v2 u ch C (by omega) (by omega) hKb hP (by omega) hcM).up (by omega)
      by_cases hw : W k = true
      · rw [if_pos hw]
        refine AQ_ite (fun z => absurd z (by decide)) (fun _ => ?_)
        refine AQ_n0 (a := 148 + nI k * 7 + 4) rfl (AQ_n0 (a := rg (u.2 0) 2088 (148 + nI k * 7 + 4)) rfl (AQ_ite (fun _ => ?_) (fun _ => hskip)))
        have e2 : 2 * (cb W x.toInt.toNat - cb W k) + kK = 2 + (2 * (cb W x.toInt.toNat - cb W (k + 1)) + kK) := by
          rw [cb_t hw] at hmono2 ⊢
          omega
        rw [e2]
        have hr := rg_row hP.2.2 v2
        refine AQ_n0 (a := rg (u.2 11) 32 v2) rfl (AQ_cl (l1 := [0, 60, 65]) (l2 := [0, 1, 2]) (by decide) (by decide) ?_)
        rw [cb_t hw] at hmono2
        obtain ⟨r, v, c1, d1, ch', C', b1, b2, b3, b4, b5, b6, b7, b8, b9⟩ := aq_placeOne hm hx hkx hr.1 hr.2 hKb hP (by omega)
        refine ⟨r, v, c1, d1, ch', C', b1, b2, b3, b4, b5, b6, b7, b8, fun hKv _ => AQ_li (AQ_li ?_)⟩
        rw [nI_1]
        exact ih (k + 1) n _ v ch' C' (by omega) (by omega) hKv b9 (by rw [cb_t hw]; omega) hcM
      · rw [if_neg hw]
        exact AQ_ite (fun _ => hskip) (fun z => absurd rfl z)
theorem aq_seeds {x : Int32} {W : Nat → Bool} {m : Nat} (hm : m < 4) (hx : x.toInt ≤ bB) (u : MS) (ch C : Nat) (hKb : Kb u ch C) (hP : PSc (nI m) x W u) (hch : ch + 16 * cb W x.toInt.toNat ≤ 1048576) : AQ dI dA (16 * cb W x.toInt.toNat) (x_X2_placeSeeds (nI m)) u ch C (fun _ v _ _ => PSc (nI m) x W v) := by
  have hlp : ∀ (t s n : Nat) (v2 : Int32) (u : MS) (ch C : Nat), s + t = 9 → t < n → Kb u ch C → PSc (nI m) x W u → ch + 2 * t * cb W x.toInt.toNat ≤ 1048576 → AQ dI dA (2 * t * cb W x.toInt.toNat) (xl_X2_placeSeeds_4 n (nI m) v2 (nI s) (fun v1 v2 v3 => art 0)) u ch C (fun _ v _ _ => PSc (nI m) x W v) := by
    intro t
    induction t with
    | zero =>
      intro s n v2 u ch C hs hn hKb hP hch
      cases n with
      | zero => omega
      | succ n =>
        have : s = 9 := by omega
        subst this
        unfold xl_X2_placeSeeds_4
        exact AQ_ite (fun _ => AQ_rt hKb hP) (fun z => absurd (by decide) z)
    | succ t ih =>
      intro s n v2 u ch C hs hn hKb hP hch
      cases n with
      | zero => omega
      | succ n =>
        unfold xl_X2_placeSeeds_4
        refine AQ_ite (fun _ => AQ_rt hKb hP) (fun _ => ?_)
        have e : 2 * (t + 1) * cb W x.toInt.toNat = 2 * cb W x.toInt.toNat + 2 * t * cb W x.toInt.toNat := by
          rw [Nat.mul_add, Nat.add_mul, Nat.mul_one, Nat.add_comm]
        rw [e] at hch ⊢
        have h9 := aq_seeds13 (W := W) hm hx (2 * t * cb W x.toInt.toNat) (nI s) (fun v1 v2 v3 v4 => ali (v3 + 1) (fun x_40 => xl_X2_placeSeeds_4 n v1 v2 x_40 (fun v1 v2 v3 => art 0))) (fun _ v _ _ => PSc (nI m) x W v) (ch + 2 * cb W x.toInt.toNat) (fun v2 v4 u ch2 C hKb hP hch2 => by
          refine AQ_li ?_
          rw [nI_1]
          exact ih (s + 1) n v2 u ch2 C (by omega) (by omega) hKb hP (by omega)) x.toInt.toNat 0 fuel v2 u ch C (by omega) (by unfold bB at hx; unfold fuel; omega) hKb hP (by show ch + 2 * (cb W x.toInt.toNat - 0) ≤ _; omega) (by omega)
        exact h9
  have e : 16 * cb W x.toInt.toNat = 2 * 8 * cb W x.toInt.toNat := rfl
  rw [e] at hch ⊢
  unfold x_X2_placeSeeds
  exact hlp 8 1 fuel 0 u ch C (by omega) (by unfold fuel; omega) hKb hP hch
end
section
/-! ===== the draw: best places, clubs, the row, the whole ===== -/
def Br (p : NG Int32) (u : MS) : Prop := ∀ r v, p u = some (r, v) → -1 ≤ r.toInt ∧ r.toInt ≤ 31
theorem Br_cl {α : Type} {p : NG α} {q : α → NG Int32} {u : MS} (hp : T [] [] p) (h : ∀ a, Br (q a) u) : Br (ncl p q) u := fun r v e => by
  obtain ⟨a, w, e1, e2⟩ := ncl_some e
  obtain ⟨a', e3⟩ := hp.pure u
  rw [e3] at e1
  cases e1
  exact h _ r v e2
theorem Br_GT {a n : Nat} {i : Int32} {q : Int32 → NG Int32} {u : MS} (h : Br (q (rg (u.2 a) n i)) u) : Br (ncl (nGT a n i) q) u := h
theorem Br_ite {b : Prop} [Decidable b] {p q : NG Int32} {u : MS} (h1 : Br p u) (h2 : Br q u) : Br (if b then p else q) u := by
  by_cases h : b
  · rw [if_pos h]; exact h1
  · rw [if_neg h]; exact h2
theorem Br_li {x : Int32} {q : Int32 → NG Int32} {u : MS} (h : Br (q x) u) : Br (nli x q) u := h
theorem Br_rt {x : Int32} {u : MS} (h : -1 ≤ x.toInt ∧ x.toInt ≤ 31) : Br (nrt x) u := fun r v e => by cases e; exact h
theorem br_best : ∀ (n : Nat) (v1 v2 v3 v4 v5 v6 : Int32) (u : MS), Rww u → (-1 ≤ v4.toInt ∧ v4.toInt ≤ 31) → Br (xl_X2_bestPlace_9 n v1 v2 v3 v4 v5 v6 (fun v1 v2 v3 v4 v5 v6 => nrt v4)) u := by
  intro n
  induction n with
  | zero => intro v1 v2 v3 v4 v5 v6 u _ _ r v e; cases e
  | succ n ih =>
    intro v1 v2 v3 v4 v5 v6 u hR h4
    unfold xl_X2_bestPlace_9
    refine Br_ite (Br_rt h4) (Br_GT (Br_cl (tt_x_X1_ofClass _ _) (fun _ => Br_GT (Br_ite (Br_cl (tt_x_X2_firstMeeting _ _ _) (fun _ => Br_ite (Br_li (ih _ _ _ _ _ _ u hR h4)) (Br_li (ih _ _ _ _ _ _ u hR (rg_row hR v6))))) (Br_li (ih _ _ _ _ _ _ u hR h4))))))
theorem best_ok {u : MS} (hR : Rww u) (a b c : Int32) : ∃ r, x_X2_bestPlace a b c u = some (r, u) ∧ -1 ≤ r.toInt ∧ r.toInt ≤ 31 := by
  obtain ⟨r, e⟩ := (tt_x_X2_bestPlace a b c).pure u
  refine ⟨r, e, ?_⟩
  have e2 := e
  unfold x_X2_bestPlace at e2
  exact br_best fuel a b c (-1) (-1) 0 u hR (by decide) r u e2
theorem aq_club {x : Int32} {W : Nat → Bool} {m : Nat} (hm : m < 4) (hx : x.toInt ≤ bB) (v2 v3 : Int32) : ∀ (t k n : Nat) (u : MS) (ch C : Nat), k + t = x.toInt.toNat → t < n → Kb u ch C → PSc (nI m) x W u → ch + 2 * (cb W x.toInt.toNat - cb W k) ≤ 1048576 → AQ dI dA (2 * (cb W x.toInt.toNat - cb W k)) (xl_X2_placeClub_3 n (nI m) v2 v3 (nI k) (fun v1 v2 v3 v4 => art 0)) u ch C (fun _ v _ _ => PSc (nI m) x W v) := by
  intro t
  induction t with
  | zero =>
    intro k n u ch C hk hn hKb hP hch
    cases n with
    | zero => omega
    | succ n =>
      have e : k = x.toInt.toNat := by omega
      unfold xl_X2_placeClub_3
      refine AQ_n0 (a := x) (by show some (rg (u.2 0) 2088 2, u) = _; rw [hP.1]) (AQ_ite (fun _ => AQ_rt hKb hP) (fun z => absurd ?_ z))
      rw [e]
      exact x_ge hx
  | succ t ih =>
    intro k n u ch C hk hn hKb hP hch
    cases n with
    | zero => omega
    | succ n =>
      have hkx : k < x.toInt.toNat := by omega
      have hmono := cb_mono (P := W) (a := k) (b := k + 1) (by omega)
      have hmono2 := cb_mono (P := W) (a := k + 1) (b := x.toInt.toNat) (by omega)
      have hskip : AQ dI dA (2 * (cb W x.toInt.toNat - cb W k)) (ali (nI k + 1) (fun x_11 => xl_X2_placeClub_3 n (nI m) v2 v3 x_11 (fun v1 v2 v3 v4 => art 0))) u ch C (fun _ v _ _ => PSc (nI m) x W v) := by
        refine AQ_li ?_
        rw [nI_1]
        exact (ih (k + 1) n u ch C (by omega) (by omega) hKb hP (by omega)).up (by omega)
      unfold xl_X2_placeClub_3
      refine AQ_n0 (a := x) (by show some (rg (u.2 0) 2088 2, u) = _; rw [hP.1]) (AQ_ite (fun z => absurd z (x_le hx hkx)) (fun _ => ?_))
      refine AQ_n0 (a := rg (u.2 12) 16 v2) rfl (AQ_ite (fun _ => AQ_rt hKb hP) (fun _ => ?_))
      refine AQ_n0 (a := 148 + nI k * 7 + 1) rfl (AQ_n0 (a := rg (u.2 0) 2088 (148 + nI k * 7 + 1)) rfl (AQ_ite (fun _ => AQ_ite (fun z => absurd z (by decide)) (fun _ => ?_)) (fun _ => AQ_ite (fun _ => hskip) (fun z => absurd rfl z))))
      refine AQ_n0 (isWeighed_eq u (nI m) k) ?_
      rw [hP.2.1 k hkx]
      by_cases hw : W k = true
      · rw [if_pos hw]
        refine AQ_ite (fun z => absurd z (by decide)) (fun _ => ?_)
        obtain ⟨sd, es⟩ := (tt_x_X2_isSeed (nI k)).pure u
        refine AQ_n0 es (AQ_ite (fun _ => ?_) (fun _ => hskip))
        obtain ⟨p, ep, p1, p2⟩ := best_ok hP.2.2 (nI m) v2 v3
        refine AQ_n0 ep ?_
        rw [cb_t hw] at hmono2
        have e2 : 2 * (cb W x.toInt.toNat - cb W k) = 2 + 2 * (cb W x.toInt.toNat - cb W (k + 1)) := by
          rw [cb_t hw]
          omega
        rw [e2]
        refine AQ_cl (l1 := [0, 60, 65]) (l2 := [0, 1, 2]) (by decide) (by decide) ?_
        obtain ⟨r, v, c1, d1, ch', C', b1, b2, b3, b4, b5, b6, b7, b8, b9⟩ := aq_placeOne hm hx hkx p1 p2 hKb hP (by omega)
        refine ⟨r, v, c1, d1, ch', C', b1, b2, b3, b4, b5, b6, b7, b8, fun hKv _ => AQ_li ?_⟩
        rw [nI_1]
        exact ih (k + 1) n v ch' C' (by omega) (by omega) hKv b9 (by rw [cb_t hw]; omega)
      · rw [if_neg hw]
        exact AQ_ite (fun _ => hskip) (fun z => absurd rfl z)
theorem PSc.w12 {c x : Int32} {W : Nat → Bool} {u v : MS} (h : PSc c x W u) (hs : Same [] [12] u v) : PSc c x W v := by
  obtain ⟨a, b, d⟩ := h
  have e0 := hs.2 0 (by decide)
  have e11 := hs.2 11 (by decide)
  refine ⟨by rw [e0]; exact a, fun k hk => by rw [e0]; exact b k hk, ?_⟩
  unfold Rww
  rw [e11]
  exact d
theorem aq_others84 {x : Int32} {W : Nat → Bool} {m : Nat} (hm : m < 4) (hx : x.toInt ≤ bB) (v2 : Int32) : ∀ (t s n : Nat) (u : MS) (ch C : Nat), s + t = 16 → t < n → Kb u ch C → PSc (nI m) x W u → ch + 2 * t * cb W x.toInt.toNat ≤ 1048576 → AQ dI dA (2 * t * cb W x.toInt.toNat) (xl_X2_placeOthers_84 n (nI m) v2 (nI s) (fun v1 v2 v3 => art 0)) u ch C (fun _ v _ _ => PSc (nI m) x W v) := by
  intro t
  induction t with
  | zero =>
    intro s n u ch C hs hn hKb hP hch
    cases n with
    | zero => omega
    | succ n =>
      have : s = 16 := by omega
      subst this
      unfold xl_X2_placeOthers_84
      exact AQ_ite (fun _ => AQ_rt hKb hP) (fun z => absurd (Int32.le_refl _) z)
  | succ t ih =>
    intro s n u ch C hs hn hKb hP hch
    cases n with
    | zero => omega
    | succ n =>
      unfold xl_X2_placeOthers_84
      refine AQ_ite (fun _ => AQ_rt hKb hP) (fun _ => ?_)
      obtain ⟨cl, ec⟩ := tt_x_X2_largestClub.pure u
      refine AQ_n0 ec ?_
      have e : 2 * (t + 1) * cb W x.toInt.toNat = 2 * cb W x.toInt.toNat + 2 * t * cb W x.toInt.toNat := by
        rw [Nat.mul_add, Nat.add_mul, Nat.mul_one, Nat.add_comm]
      rw [e] at hch ⊢
      refine AQ_cl (l1 := dI) (l2 := dA) (by decide) (by decide) ?_
      have h9 := aq_club (W := W) hm hx cl v2 x.toInt.toNat 0 fuel u ch C (by omega) (by unfold bB at hx; unfold fuel; omega) hKb hP (by show ch + 2 * (cb W x.toInt.toNat - 0) ≤ _; omega)
      obtain ⟨r, v, c1, d1, ch', C', b1, b2, b3, b4, b5, b6, b7, b8, b9⟩ := h9
      refine ⟨r, v, c1, d1, ch', C', b1, b2, b3, b4, b5, b6, b7, b8, fun hKv hch' => ?_⟩
      have hs12 : Same [] [12] v (sf v 12 (rs (v.2 12) 16 cl 0)) := Same_sf (by decide)
      refine AQ_nl (a := ()) (v := sf v 12 (rs (v.2 12) 16 cl 0)) rfl hs12 (by decide) (by decide) (AQ_li ?_)
      rw [nI_1]
      exact ih (s + 1) n _ ch' C' (by omega) (by omega) (hKv.same hs12 (by decide) (by decide)) (b9.w12 hs12) (by omega)
theorem aq_others10 {x : Int32} {W : Nat → Bool} {m : Nat} (hm : m < 4) (hx : x.toInt ≤ bB) (v2 : Int32) (kK : Nat) (K : Int32 → Int32 → Int32 → AG Int32) (Q : Int32 → MS → Nat → Nat → Prop) (chM : Nat) (hK : ∀ v3 u C, Kb u chM C → PSc (nI m) x W u → AQ dI dA kK (K (nI m) v2 v3) u chM C Q) : ∀ (t k n : Nat) (u : MS) (C : Nat), k + t = x.toInt.toNat → t < n → Kb u chM C → PSc (nI m) x W u → AQ dI dA kK (xl_X2_placeOthers_10 n (nI m) v2 (nI k) K) u chM C Q := by
  intro t
  induction t with
  | zero =>
    intro k n u C hk hn hKb hP
    cases n with
    | zero => omega
    | succ n =>
      have e : k = x.toInt.toNat := by omega
      unfold xl_X2_placeOthers_10
      refine AQ_n0 (a := x) (by show some (rg (u.2 0) 2088 2, u) = _; rw [hP.1]) (AQ_ite (fun _ => hK _ u C hKb hP) (fun z => absurd ?_ z))
      rw [e]
      exact x_ge hx
  | succ t ih =>
    intro k n u C hk hn hKb hP
    cases n with
    | zero => omega
    | succ n =>
      have hkx : k < x.toInt.toNat := by omega
      have hskip : AQ dI dA kK (ali (nI k + 1) (fun x_11 => xl_X2_placeOthers_10 n (nI m) v2 x_11 K)) u chM C Q := by
        refine AQ_li ?_
        rw [nI_1]
        exact ih (k + 1) n u C (by omega) (by omega) hKb hP
      unfold xl_X2_placeOthers_10
      refine AQ_n0 (a := x) (by show some (rg (u.2 0) 2088 2, u) = _; rw [hP.1]) (AQ_ite (fun z => absurd z (x_le hx hkx)) (fun _ => ?_))
      refine AQ_n0 (isWeighed_eq u (nI m) k) (AQ_ite (fun _ => hskip) (fun _ => ?_))
      obtain ⟨sd, es⟩ := (tt_x_X2_isSeed (nI k)).pure u
      refine AQ_n0 es (AQ_ite (fun _ => ?_) (fun _ => hskip))
      refine AQ_n0 (a := 148 + nI k * 7 + 1) rfl (AQ_n0 (a := rg (u.2 0) 2088 (148 + nI k * 7 + 1)) rfl (AQ_n0 (a := rg (u.2 12) 16 (rg (u.2 0) 2088 (148 + nI k * 7 + 1))) rfl ?_))
      have hs12 : Same [] [12] u (sf u 12 (rs (u.2 12) 16 (rg (u.2 0) 2088 (148 + nI k * 7 + 1)) (rg (u.2 12) 16 (rg (u.2 0) 2088 (148 + nI k * 7 + 1)) + 1))) := Same_sf (by decide)
      refine AQ_nl (a := ()) rfl hs12 (by decide) (by decide) (AQ_li ?_)
      rw [nI_1]
      exact ih (k + 1) n _ C (by omega) (by omega) (hKb.same hs12 (by decide) (by decide)) (hP.w12 hs12)
theorem aq_others {x : Int32} {W : Nat → Bool} {m : Nat} (hm : m < 4) (hx : x.toInt ≤ bB) (v2 : Int32) (u : MS) (ch C : Nat) (hKb : Kb u ch C) (hP : PSc (nI m) x W u) (hch : ch + 32 * cb W x.toInt.toNat ≤ 1048576) : AQ dI dA (32 * cb W x.toInt.toNat) (x_X2_placeOthers (nI m) v2) u ch C (fun _ v _ _ => PSc (nI m) x W v) := by
  have hs12 : Same [] [12] u (sf u 12 (fl 16 0 (u.2 12))) := Same_sf (by decide)
  unfold x_X2_placeOthers
  refine AQ_nl (a := ()) rfl hs12 (by decide) (by decide) ?_
  refine aq_others10 hm hx v2 (32 * cb W x.toInt.toNat) _ _ ch (fun v3 u C hKb hP => ?_) x.toInt.toNat 0 fuel _ C (by omega) (by unfold bB at hx; unfold fuel; omega) (hKb.same hs12 (by decide) (by decide)) (hP.w12 hs12)
  exact aq_others84 hm hx v2 16 0 fuel u ch C (by omega) (by unfold fuel; omega) hKb hP hch
/-! the row -/
def Mi (h k : Nat) (f : Nat → Int32) : Prop := (∀ j, j < 32 → 0 ≤ (f j).toInt ∧ (f j).toInt ≤ 31) ∧ (∀ j, k ≤ j → j < h → (f j).toInt < h) ∧ (∀ j, j < k → (f j).toInt < 2 * h) ∧ ∀ j, 2 * h ≤ j + k → j < 2 * h → (f j).toInt < 2 * h
theorem rowv : ∀ y < 16, (2 : Int32) * nI y + (nI y - nI y / 2 * 2) = nI (2 * y + y % 2) ∧ (2 : Int32) * nI y + 1 - (nI y - nI y / 2 * 2) = nI (2 * y + 1 - y % 2) := by decide +kernel
def Rr (p : NG Int32) (u : MS) : Prop := ∀ r v, p u = some (r, v) → Rww v
theorem rr_row18 {h : Nat} (hh : h ≤ 16) (v1 : Int32) (K : Int32 → Int32 → Int32 → NG Int32) (hK : ∀ v3 u, Mi h h (u.2 11) → Rr (K v1 (nI h) v3) u) : ∀ (t k n : Nat) (u : MS), k + t = h → Mi h k (u.2 11) → Rr (xl_X2_makeRow_18 n v1 (nI h) (nI k) K) u := by
  intro t
  induction t with
  | zero =>
    intro k n u hk hM
    cases n with
    | zero => intro r v e; cases e
    | succ n =>
      have : k = h := by omega
      subst this
      unfold xl_X2_makeRow_18
      rw [if_pos (Int32.le_refl _)]
      exact hK _ u hM
  | succ t ih =>
    intro k n u hk hM
    cases n with
    | zero => intro r v e; cases e
    | succ n =>
      have hkh : k < h := by omega
      have hk0 := hM.1 k (by omega)
      have hk1 := hM.2.1 k (Nat.le_refl _) hkh
      have ey := nI_ofT hk0.1
      have hy : ((u.2 11) k).toInt.toNat < h := by omega
      unfold xl_X2_makeRow_18
      rw [if_neg (nI_ge hkh (by omega))]
      have erg : rg (u.2 11) 32 (nI k) = nI ((u.2 11) k).toInt.toNat := by
        rw [rg_in (by omega) (by decide)]
        exact ey
      generalize ((u.2 11) k).toInt.toNat = y at hy erg ey
      obtain ⟨r1, r2⟩ := rowv y (by omega)
      have eix : (2 : Int32) * nI h - 1 - nI k = nI (2 * h - 1 - k) := by
        have e2 : (2 : Int32) * nI h = nI (2 * h) := by rw [← nI_mul]; rfl
        have e3 : nI (2 * h) - 1 = nI (2 * h - 1) := nI_sub (b := 1) (by omega)
        rw [e2, e3, nI_sub (by omega)]
      show Rr (fun u => xl_X2_makeRow_18 n v1 (nI h) (nI k + 1) K (sf (sf u 11 (rs (u.2 11) 32 (nI k) (2 * rg (u.2 11) 32 (nI k) + (rg (u.2 11) 32 (nI k) - rg (u.2 11) 32 (nI k) / 2 * 2)))) 11 (rs (rs (u.2 11) 32 (nI k) (2 * rg (u.2 11) 32 (nI k) + (rg (u.2 11) 32 (nI k) - rg (u.2 11) 32 (nI k) / 2 * 2))) 32 (2 * nI h - 1 - nI k) (2 * rg (u.2 11) 32 (nI k) + 1 - (rg (u.2 11) 32 (nI k) - rg (u.2 11) 32 (nI k) / 2 * 2))))) u
      intro r v e
      dsimp only at e
      rw [erg, r1, r2, eix, nI_1] at e
      refine ih (k + 1) n _ (by omega) ?_ r v e
      have ef : ∀ j, (sf (sf u 11 (rs (u.2 11) 32 (nI k) (nI (2 * y + y % 2)))) 11 (rs (rs (u.2 11) 32 (nI k) (nI (2 * y + y % 2))) 32 (nI (2 * h - 1 - k)) (nI (2 * y + 1 - y % 2)))).2 11 j = if j = 2 * h - 1 - k then nI (2 * y + 1 - y % 2) else if j = k then nI (2 * y + y % 2) else u.2 11 j := fun j => by
        show rs (rs (u.2 11) 32 (nI k) (nI (2 * y + y % 2))) 32 (nI (2 * h - 1 - k)) (nI (2 * y + 1 - y % 2)) j = _
        rw [rs_in (by omega) (by decide), rs_in (by omega) (by decide)]
      have t1 : (nI (2 * y + y % 2)).toInt = ((2 * y + y % 2 : Nat) : Int) := nI_toInt (by omega)
      have t2 : (nI (2 * y + 1 - y % 2)).toInt = ((2 * y + 1 - y % 2 : Nat) : Int) := nI_toInt (by omega)
      obtain ⟨m1, m2, m3, m4⟩ := hM
      refine ⟨fun j hj => ?_, fun j h1 h2 => ?_, fun j h1 => ?_, fun j h1 h2 => ?_⟩
      · rw [ef]
        by_cases c1 : j = 2 * h - 1 - k
        · rw [if_pos c1, t2]; omega
        · rw [if_neg c1]
          by_cases c2 : j = k
          · rw [if_pos c2, t1]; omega
          · rw [if_neg c2]; exact m1 j hj
      · rw [ef, if_neg (by omega), if_neg (by omega)]
        exact m2 j (by omega) h2
      · rw [ef]
        by_cases c1 : j = 2 * h - 1 - k
        · rw [if_pos c1, t2]; omega
        · rw [if_neg c1]
          by_cases c2 : j = k
          · rw [if_pos c2, t1]; omega
          · rw [if_neg c2]; exact m3 j (by omega)
      · rw [ef]
        by_cases c1 : j = 2 * h - 1 - k
        · rw [if_pos c1, t2]; omega
        · rw [if_neg c1]
          by_cases c2 : j = k
          · rw [if_pos c2, t1]; omega
          · rw [if_neg c2]; exact m4 j (by omega) h2
theorem rr_row11 (v1 : Int32) (h1 : v1.toInt ≤ 32) : ∀ (t j n : Nat) (u : MS), j + t = 5 → Rww u → (∀ i, i < 2 ^ j → ((u.2 11) i).toInt < ((2 ^ j : Nat) : Int)) → Rr (xl_X2_makeRow_11 n v1 (nI (2 ^ j)) (fun v1 v2 => nrt 0)) u := by
  intro t
  induction t with
  | zero =>
    intro j n u hj hR _
    cases n with
    | zero => intro r v e; cases e
    | succ n =>
      have : j = 5 := by omega
      subst this
      unfold xl_X2_makeRow_11
      have hle : v1 ≤ nI (2 ^ 5) := by
        rw [Int32.le_iff_toInt_le]
        have : (nI (2 ^ 5)).toInt = 32 := by decide
        omega
      rw [if_pos hle]
      intro r v e
      cases e
      exact hR
  | succ t ih =>
    intro j n u hj hR hM
    cases n with
    | zero => intro r v e; cases e
    | succ n =>
      have hp : 2 ^ j ≤ 16 := by
        have h9 := Nat.pow_le_pow_right (n := 2) (by decide) (by omega : j ≤ 4)
        exact h9
      unfold xl_X2_makeRow_11
      by_cases hle : v1 ≤ nI (2 ^ j)
      · rw [if_pos hle]
        intro r v e
        cases e
        exact hR
      · rw [if_neg hle]
        have h0 : (0 : Int32) = nI 0 := rfl
        rw [h0]
        refine rr_row18 hp v1 _ (fun v3 u' hM' => ?_) (2 ^ j) 0 fuel u (by omega) ⟨hR, fun i _ hi => hM i hi, fun i hi => absurd hi (Nat.not_lt_zero _), fun i h1 h2 => by omega⟩
        have e : nI (2 ^ j) * 2 = nI (2 ^ (j + 1)) := by
          have h9 := nI_mul (2 ^ j) 2
          rw [Nat.pow_succ]
          exact h9
        show Rr (xl_X2_makeRow_11 n v1 (nI (2 ^ j) * 2) (fun v1 v2 => nrt 0)) u'
        rw [e]
        refine ih (j + 1) n u' (by omega) hM'.1 (fun i hi => ?_)
        have ep : 2 ^ (j + 1) = 2 * 2 ^ j := by rw [Nat.pow_succ, Nat.mul_comm]
        rw [ep] at hi ⊢
        have m3 := hM'.2.2.1 i
        have m4 := hM'.2.2.2 i
        generalize 2 ^ j = h at hi m3 m4 ⊢
        by_cases c : i < h
        · have := m3 c
          omega
        · have := m4 (by omega) hi
          omega
theorem makeRow_ok {u : MS} (hR : Rww u) (a : Int32) (ha : a.toInt ≤ 32) : ∃ r v, x_X2_makeRow a u = some (r, v) ∧ Same [] [11] u v ∧ Rww v := by
  obtain ⟨r, v, e, hs⟩ := tt_x_X2_makeRow a ha u
  refine ⟨r, v, e, hs, ?_⟩
  have e2 : xl_X2_makeRow_11 fuel a (nI (2 ^ 0)) (fun v1 v2 => nrt 0) (sf u 11 (rs (u.2 11) 32 0 0)) = some (r, v) := e
  have ef : ∀ j, (sf u 11 (rs (u.2 11) 32 0 0)).2 11 j = if j = 0 then 0 else u.2 11 j := fun j => rs_in (f := u.2 11) (n := 32) (j := 0) (x := 0) (by decide) (by decide) j
  refine rr_row11 a ha 5 0 fuel _ (by omega) (fun j hj => ?_) (fun i hi => ?_) r v e2
  · rw [ef]
    by_cases c : j = 0
    · rw [if_pos c]; decide
    · rw [if_neg c]; exact hR j hj
  · have : i = 0 := by
      have h1 : (2 : Nat) ^ 0 = 1 := rfl
      omega
    rw [ef, if_pos this]
    decide
end
section
/-! ===== the whole draw ===== -/
theorem cCell2 {m d : Nat} (hm : m < 4) (hd : d < 36) : (4 : Int32) + nI m * 36 + nI d = nI (4 + 36 * m + d) := by
  have e36 : nI m * 36 = nI (36 * m) := by
    have h := nI_mul m 36
    rw [Nat.mul_comm] at h
    exact h
  have e4 : (4 : Int32) + nI (36 * m) = nI (4 + 36 * m) := nI_add 4 (36 * m)
  rw [e36, e4, nI_add]
/-- a put to a cell of the class -/
theorem aq_cput {x : Int32} {W : Nat → Bool} {m d : Nat} (hm : m < 4) (hd : d < 36) (hx : x.toInt ≤ bB) {y : Int32} (hy : y.toInt ≤ bB) {u : MS} {ch C : Nat} (hKb : Kb u ch C) (hP : PSc (nI m) x W u) (hch : ch + 1 ≤ 1048576) : AQ [0, 60, 65] [0, 1, 2] 1 (x_X1_put (4 + nI m * 36 + nI d) y) u ch C (fun _ v _ _ => PSc (nI m) x W v) := by
  obtain ⟨r, v, c1, d1, ch', C', b1, b2, b3, b4, b5, b6, b7, b8, b9⟩ := aq_put (4 + nI m * 36 + nI d) y (Or.inl hy) u ch C hKb hch
  exact ⟨r, v, c1, d1, ch', C', b1, b2, b3, b4, b5, b6, b7, b8, hP.w hx _ _ (Or.inl ⟨4 + 36 * m + d, by omega, by omega, cCell2 hm hd⟩) b9 (b8.2 11 (by decide))⟩
theorem aq_all63 {x : Int32} {W : Nat → Bool} {m s : Nat} (hm : m < 4) (hs : s ≤ 32) (hx : x.toInt ≤ bB) (v2 v3 : Int32) (kK : Nat) (K : Int32 → Int32 → Int32 → Int32 → Int32 → AG Int32) (Q : Int32 → MS → Nat → Nat → Prop) (chM : Nat) (hK : ∀ v5 u ch C, Kb u ch C → PSc (nI m) x W u → ch ≤ chM → AQ dI dA kK (K (nI m) v2 v3 (nI s) v5) u ch C Q) : ∀ (t p n : Nat) (u : MS) (ch C : Nat), p + t = s → t < n → Kb u ch C → PSc (nI m) x W u → ch + t ≤ chM → chM ≤ 1048576 → AQ dI dA (t + kK) (xl_X2_placeAll_63 n (nI m) v2 v3 (nI s) (nI p) K) u ch C Q := by
  intro t
  induction t with
  | zero =>
    intro p n u ch C hp hn hKb hP hch hcM
    cases n with
    | zero => omega
    | succ n =>
      have : p = s := by omega
      subst this
      unfold xl_X2_placeAll_63
      exact AQ_ite (fun _ => (hK _ u ch C hKb hP (by omega)).up (by omega)) (fun z => absurd (Int32.le_refl _) z)
  | succ t ih =>
    intro p n u ch C hp hn hKb hP hch hcM
    cases n with
    | zero => omega
    | succ n =>
      unfold xl_X2_placeAll_63
      refine AQ_ite (fun z => absurd z (nI_ge (by omega) (by omega))) (fun _ => ?_)
      have e4 : (4 : Int32) + nI p = nI (4 + p) := nI_add 4 p
      refine AQ_n0 (a := 4 + nI m * 36 + (4 + nI p)) rfl ?_
      rw [e4]
      have e : t + 1 + kK = 1 + (t + kK) := by omega
      rw [e]
      refine AQ_cl (l1 := [0, 60, 65]) (l2 := [0, 1, 2]) (by decide) (by decide) ?_
      obtain ⟨r, v, c1, d1, ch', C', b1, b2, b3, b4, b5, b6, b7, b8, b9⟩ := aq_cput (W := W) hm (by omega : 4 + p < 36) hx (y := -1) (by decide) hKb hP (by omega)
      refine ⟨r, v, c1, d1, ch', C', b1, b2, b3, b4, b5, b6, b7, b8, fun hKv _ => AQ_li ?_⟩
      rw [nI_1]
      exact ih (p + 1) n v ch' C' (by omega) (by omega) hKv b9 (by omega) hcM
theorem PSc.w11 {c x : Int32} {W : Nat → Bool} {u v : MS} (h : PSc c x W u) (hs : Same [] [11] u v) (hR : Rww v) : PSc c x W v := by
  obtain ⟨a, b, -⟩ := h
  have e0 := hs.2 0 (by decide)
  exact ⟨by rw [e0]; exact a, fun k hk => by rw [e0]; exact b k hk, hR⟩
/-- behind the places: a tree's, a pool's placing -/
theorem aq_allK {x : Int32} {W : Nat → Bool} {m s : Nat} (hm : m < 4) (hs : s ≤ 32) (hx : x.toInt ≤ bB) (v2 v5 : Int32) {u : MS} {ch C : Nat} (hKb : Kb u ch C) (hP : PSc (nI m) x W u) (hch : ch + 48 * cb W x.toInt.toNat ≤ 1048576) : AQ dI dA (48 * cb W x.toInt.toNat) (if (0 : Int32) = 0 then anl (x_X2_makeRow (nI s)) (fun r_47 => acl (x_X2_placeSeeds (nI m)) (fun r_50 => acl (x_X2_placeOthers (nI m) v2) (fun r_59 => art (0 : Int32)))) else acl (x_X2_placePool (nI m)) (fun r_68 => art 0)) u ch C (fun _ v _ _ => Rww v) := by
  refine AQ_ite (fun _ => ?_) (fun z => absurd rfl z)
  obtain ⟨r, v, e, hs11, hR⟩ := makeRow_ok hP.2.2 (nI s) (by rw [nI_toInt (by omega)]; omega)
  refine AQ_nl e hs11 (by decide) (by decide) ?_
  have hKv := hKb.same hs11 (by decide) (by decide)
  have hPv := hP.w11 hs11 hR
  have e48 : 48 * cb W x.toInt.toNat = 16 * cb W x.toInt.toNat + (32 * cb W x.toInt.toNat + 0) := by omega
  rw [e48]
  refine AQ_cl (l1 := dI) (l2 := dA) (by decide) (by decide) ?_
  obtain ⟨r1, v1, c1, d1, ch', C', b1, b2, b3, b4, b5, b6, b7, b8, b9⟩ := aq_seeds hm hx v ch C hKv hPv (by omega)
  refine ⟨r1, v1, c1, d1, ch', C', b1, b2, b3, b4, b5, b6, b7, b8, fun hK1 _ => ?_⟩
  refine AQ_cl (l1 := dI) (l2 := dA) (by decide) (by decide) ?_
  obtain ⟨r2, w2, c2, d2, ch2, C2, e1, e2, e3, e4, e5, e6, e7, e8, e9⟩ := aq_others hm hx v2 v1 ch' C' hK1 b9 (by omega)
  exact ⟨r2, w2, c2, d2, ch2, C2, e1, e2, e3, e4, e5, e6, e7, e8, fun hK2 _ => AQ_rt hK2 e9.2.2⟩
theorem aq_allP {x : Int32} {W : Nat → Bool} {m : Nat} (hm : m < 4) (hN : cb W x.toInt.toNat ≤ 31) (hx : x.toInt ≤ bB) (v2 v4 v5 : Int32) {u : MS} {ch C : Nat} (hKb : Kb u ch C) (hP : PSc (nI m) x W u) (hch : ch + 2 * cb W x.toInt.toNat ≤ 1048576) : AQ dI dA (2 * cb W x.toInt.toNat) (if (1 : Int32) = 0 then anl (x_X2_makeRow v4) (fun r_47 => acl (x_X2_placeSeeds (nI m)) (fun r_50 => acl (x_X2_placeOthers (nI m) v2) (fun r_59 => art (0 : Int32)))) else acl (x_X2_placePool (nI m)) (fun r_68 => art 0)) u ch C (fun _ v _ _ => Rww v) := by
  refine AQ_ite (fun z => absurd z (by decide)) (fun _ => ?_)
  have e48 : 2 * cb W x.toInt.toNat = 2 * cb W x.toInt.toNat + 0 := rfl
  rw [e48]
  refine AQ_cl (l1 := dI) (l2 := dA) (by decide) (by decide) ?_
  have h9 := aq_pool (W := W) hm hx hN x.toInt.toNat 0 fuel u ch C (by omega) (by unfold bB at hx; unfold fuel; omega) hKb hP (by show ch + 2 * (cb W x.toInt.toNat - 0) ≤ _; omega)
  obtain ⟨r1, v1, c1, d1, ch', C', b1, b2, b3, b4, b5, b6, b7, b8, b9⟩ := h9
  exact ⟨r1, v1, c1, d1, ch', C', b1, b2, b3, b4, b5, b6, b7, b8, fun hK1 _ => AQ_rt hK1 b9.2.2⟩
theorem placesFor_c (a : Int32) : ∃ s, s ≤ 32 ∧ x_X2_placesFor a = nrt (nI s) := by
  unfold x_X2_placesFor
  by_cases h : 8 < a
  · rw [if_pos h]
    by_cases h2 : 16 < a
    · rw [if_pos h2]; exact ⟨32, by decide, rfl⟩
    · rw [if_neg h2]; exact ⟨16, by decide, rfl⟩
  · rw [if_neg h]; exact ⟨8, by decide, rfl⟩
theorem aq_all {x : Int32} {W : Nat → Bool} {m : Nat} (hm : m < 4) (hx : x.toInt ≤ bB) (hN : cb W x.toInt.toNat ≤ 32) {u : MS} {ch C : Nat} (hKb : Kb u ch C) (hP : PSc (nI m) x W u) (hch : ch + 1570 ≤ 1048576) : AQ dI dA 1570 (x_X2_placeAll (nI m) (nI (cb W x.toInt.toNat))) u ch C (fun _ v _ _ => Rww v) := by
  have hsm : ∀ s, s ≤ 32 → (nI s).toInt ≤ bB := fun s hs => by rw [nI_toInt (by omega)]; unfold bB; omega
  unfold x_X2_placeAll
  refine AQ_ite (fun h5 => ?_) (fun h5 => ?_)
  · refine AQ_ite (fun _ => ?_) (fun z => absurd rfl z)
    obtain ⟨s, hs, es⟩ := placesFor_c (nI (cb W x.toInt.toNat))
    refine AQ_n0 (a := nI s) (by rw [es]; rfl) (AQ_n0 (a := 4 + nI m * 36 + nI 2) rfl (AQ_ite (fun _ => ?_) (fun z => absurd rfl z)))
    refine AQ.up (k := 1 + (1 + (s + 48 * cb W x.toInt.toNat))) ?_ (by omega)
    refine AQ_cl (l1 := [0, 60, 65]) (l2 := [0, 1, 2]) (by decide) (by decide) ?_
    obtain ⟨r, v, c1, d1, ch', C', b1, b2, b3, b4, b5, b6, b7, b8, b9⟩ := aq_cput (W := W) hm (by decide : 2 < 36) hx (y := 2) (by decide) hKb hP (by omega)
    refine ⟨r, v, c1, d1, ch', C', b1, b2, b3, b4, b5, b6, b7, b8, fun hKv hc1 => ?_⟩
    refine AQ_n0 (a := 4 + nI m * 36 + nI 3) rfl (AQ_cl (l1 := [0, 60, 65]) (l2 := [0, 1, 2]) (by decide) (by decide) ?_)
    obtain ⟨r2, v2, c2, d2, ch2, C2, e1, e2, e3, e4, e5, e6, e7, e8, e9⟩ := aq_cput (W := W) hm (by decide : 3 < 36) hx (hsm s hs) hKv b9 (by omega)
    refine ⟨r2, v2, c2, d2, ch2, C2, e1, e2, e3, e4, e5, e6, e7, e8, fun hKw hc2 => ?_⟩
    exact aq_all63 hm hs hx _ 0 (48 * cb W x.toInt.toNat) _ _ (ch2 + s) (fun v5 u ch C hK2 hP2 hc3 => aq_allK hm hs hx _ v5 hK2 hP2 (by omega)) s 0 fuel v2 ch2 C2 (by omega) (by unfold fuel; omega) hKw e9 (by omega) (by omega)
  · have hN5 : cb W x.toInt.toNat ≤ 5 := by
      have h9 := i32_nlt h5
      have c5 : (5 : Int32).toInt = 5 := by decide
      rw [nI_toInt (by omega)] at h9
      omega
    refine AQ_ite (fun z => absurd z (by decide)) (fun _ => ?_)
    refine AQ_n0 (a := 4 + nI m * 36 + nI 2) rfl (AQ_ite (fun z => absurd z (by decide)) (fun _ => ?_))
    refine AQ.up (k := 1 + (1 + (cb W x.toInt.toNat + 2 * cb W x.toInt.toNat))) ?_ (by omega)
    refine AQ_cl (l1 := [0, 60, 65]) (l2 := [0, 1, 2]) (by decide) (by decide) ?_
    obtain ⟨r, v, c1, d1, ch', C', b1, b2, b3, b4, b5, b6, b7, b8, b9⟩ := aq_cput (W := W) hm (by decide : 2 < 36) hx (y := 1) (by decide) hKb hP (by omega)
    refine ⟨r, v, c1, d1, ch', C', b1, b2, b3, b4, b5, b6, b7, b8, fun hKv hc1 => ?_⟩
    refine AQ_n0 (a := 4 + nI m * 36 + nI 3) rfl (AQ_cl (l1 := [0, 60, 65]) (l2 := [0, 1, 2]) (by decide) (by decide) ?_)
    obtain ⟨r2, v2, c2, d2, ch2, C2, e1, e2, e3, e4, e5, e6, e7, e8, e9⟩ := aq_cput (W := W) hm (by decide : 3 < 36) hx (hsm _ (by omega : cb W x.toInt.toNat ≤ 32)) hKv b9 (by omega)
    refine ⟨r2, v2, c2, d2, ch2, C2, e1, e2, e3, e4, e5, e6, e7, e8, fun hKw hc2 => ?_⟩
    exact aq_all63 hm (by omega) hx _ 1 (2 * cb W x.toInt.toNat) _ _ (ch2 + cb W x.toInt.toNat) (fun v5 u ch C hK2 hP2 hc3 => aq_allP hm (by omega) hx _ _ v5 hK2 hP2 (by omega)) _ 0 fuel v2 ch2 C2 (by omega) (by unfold fuel; omega) hKw e9 (by omega) (by omega)
theorem as_draw (a : Int32) : AS 1570 (x_X11_draw a) := by
  unfold x_X11_draw
  rcases isClass_c a with e | ⟨e, m, hm, rfl⟩
  · rw [e]; exact AS_nrt (AS_ite (fun _ => AS_rt _) (fun z => absurd rfl z))
  · rw [e]
    refine AS_nrt (AS_ite (fun _ => AS_rt _) (fun _ => AS_ng (tt_x_X0_isDrawn _) (by decide) (fun _ => AS_ite (fun _ => ?_) (fun _ => AS_rt _))))
    intro u n ch C hC hch
    have hx : (rg (u.2 0) 2088 2).toInt ≤ bB := by
      have e2 : rg (u.2 0) 2088 2 = u.2 0 2 := rg_in (j := 2) (by decide) (by decide)
      rw [e2]
      exact hC.1.2.2.2.2.2.2.1
    have ew := weighedOf_eq u (nI m) hx
    have hret : ∀ z : Int32, ∃ r v c d n' ch' C', (art z : AG Int32) u = some (r, v, c, d) ∧ CS v n' ch' C' ∧ ch' ≤ ch + 1570 ∧ C ≤ C' ∧ d = 4 * (C' - C) ∧ 256 * c ≤ C' - C ∧ Same scI scA u v := fun z => ⟨z, u, 0, 0, n, ch, C, rfl, hC, by omega, by omega, by omega, by omega, Same.rf u⟩
    have hlift : ∀ (q : Int32 → AG Int32), (∃ r v c d n' ch' C', q (nI (cb (wq (u.2 0) (nI m)) (rg (u.2 0) 2088 2).toInt.toNat)) u = some (r, v, c, d) ∧ CS v n' ch' C' ∧ ch' ≤ ch + 1570 ∧ C ≤ C' ∧ d = 4 * (C' - C) ∧ 256 * c ≤ C' - C ∧ Same scI scA u v) → ∃ r v c d n' ch' C', anl (x_X8_weighedOf (nI m)) q u = some (r, v, c, d) ∧ CS v n' ch' C' ∧ ch' ≤ ch + 1570 ∧ C ≤ C' ∧ d = 4 * (C' - C) ∧ 256 * c ≤ C' - C ∧ Same scI scA u v := fun q hq => by
      obtain ⟨r, v, c, d, n', ch', C', b1, b2⟩ := hq
      exact ⟨r, v, c, d, n', ch', C', anl_eq ew b1, b2⟩
    refine hlift _ ?_
    have hcb := cb_le (P := wq (u.2 0) (nI m)) (rg (u.2 0) 2088 2).toInt.toNat
    by_cases h2 : nI (cb (wq (u.2 0) (nI m)) (rg (u.2 0) 2088 2).toInt.toNat) < 2
    · rw [if_pos h2]; exact hret _
    · rw [if_neg h2]
      by_cases h32 : nI (cb (wq (u.2 0) (nI m)) (rg (u.2 0) 2088 2).toInt.toNat) ≤ 32
      · rw [if_pos h32]
        have hN : cb (wq (u.2 0) (nI m)) (rg (u.2 0) 2088 2).toInt.toNat ≤ 32 := by
          have h9 := Int32.le_iff_toInt_le.mp h32
          have c5 : (32 : Int32).toInt = 32 := by decide
          unfold bB at hx
          rw [nI_toInt (by omega)] at h9
          omega
        rcases isFull_eq hC with ⟨hn, ef⟩ | ⟨hn, ef⟩
        · obtain ⟨v, ev, hv, hs, h0⟩ := hC.opn hn
          have hP : PSc (nI m) (rg (u.2 0) 2088 2) (wq (u.2 0) (nI m)) v := ⟨by rw [h0], fun k _ => by rw [h0], hv.2.2⟩
          obtain ⟨r, w, c, d, ch', C', b1, b2, b3, b4, b5, b6, b7, b8, b9⟩ := aq_all hm hx hN hv.1 hP hch
          have hw : CS w (n + 1) ch' C' := ⟨b2, hv.2.1.up (b8.1 1 (by decide)) (b8.2 3 (by decide)) b3, b9⟩
          obtain ⟨r1, w1, e1, s1⟩ := tt_x_X0_settle (nI m) w
          obtain ⟨r2, e2⟩ := (tt_x_X0_fightsOf (nI m)).pure w1
          refine ⟨r2, w1, c + 0, d + 0, n + 1, ch', C', ?_, hw.same s1 (by decide) (by decide), b4, b5, by omega, by omega, (hs.mono (by decide) (by decide)).trans ((b8.mono (by decide) (by decide)).trans (s1.mono (by decide) (by decide)))⟩
          refine anl_eq ef ?_
          rw [if_pos rfl]
          exact anl_eq ev (acl_eq b1 (anl_eq e1 (anl_eq e2 rfl)))
        · refine ⟨-4, u, 0, 0, n, ch, C, ?_, hC, by omega, by omega, by omega, by omega, Same.rf u⟩
          exact anl_eq ef rfl
      · rw [if_neg h32]; exact hret _
end
section
/-! ===== undo, tape, the number of lines ===== -/
theorem ncl_eq {α β : Type} {p : NG α} {q : α → NG β} {u v : MS} {a : α} {y : β × MS} (h : p u = some (a, v)) (h2 : q a v = some y) : ncl p q u = some y := by
  unfold ncl
  rw [h]
  exact h2
theorem nli_eq {β : Type} {x : Int32} {q : Int32 → NG β} {u : MS} {y : β × MS} (h : q x u = some y) : nli x q u = some y := h
theorem tb_lp {u0 : MS} {n ch C : Nat} (st : Nat) (K : Int32 → Int32 → NG Int32) (Q : Int32 → MS → Prop) (hK : ∀ v2 u, Kb u ch C → u.1 = u0.1 → (∀ k, ¬ k = 0 → u.2 k = u0.2 k) → ∃ r v, K (nI st) v2 u = some (r, v) ∧ Q r v) : ∀ (t k n : Nat) (u : MS), k = st + t → k ≤ ch → t < n → Kb u ch C → u.1 = u0.1 → (∀ k, ¬ k = 0 → u.2 k = u0.2 k) → ∃ r v, xl_X1_takeBack_33 n (nI st) (nI k - 1) K u = some (r, v) ∧ Q r v := by
  intro t
  induction t with
  | zero =>
    intro k n u hk hkc hn hKb h1 h2
    cases n with
    | zero => omega
    | succ n =>
      have : k = st := by omega
      subst this
      have hC := hKb.C
      have h4 := hKb.2.2.2.1
      have hlt : nI k - 1 < nI k := by
        rw [Int32.lt_iff_toInt_lt]
        have e : nI k - 1 = nI k + (-1) := Int32.sub_eq_add_neg _ _
        have hk1 : (nI k).toInt = k := nI_toInt (by omega)
        rw [e, i32_add _ (-1) (by rw [i32_m1, hk1]; omega) (by rw [i32_m1, hk1]; omega), i32_m1, hk1]
        omega
      unfold xl_X1_takeBack_33
      rw [if_pos hlt]
      exact hK _ u hKb h1 h2
  | succ t ih =>
    intro k n u hk hkc hn hKb h1 h2
    cases n with
    | zero => omega
    | succ n =>
      have hC := hKb.C
      have h4 := hKb.2.2.2.1
      have ep : nI k - 1 = nI (k - 1) := nI_sub (b := 1) (by omega)
      unfold xl_X1_takeBack_33
      rw [ep, if_neg (fun z => absurd ((nI_ltI (by omega) (by omega)).mp z) (by omega))]
      have e1 : rg (u.2 1) (u.1 60).toNatClampNeg (nI (k - 1)) = u.2 1 (k - 1) := by
        rw [hKb.2.1, nI_clamp (by omega), rg_in (by omega) (by omega)]
      have e2 : rg (u.2 2) (u.1 65).toNatClampNeg (nI (k - 1)) = u.2 2 (k - 1) := by
        rw [hKb.2.2.1, nI_clamp (by omega), rg_in (by omega) (by omega)]
      show ∃ r v, xl_X1_takeBack_33 n (nI st) (nI (k - 1) + (-1)) K (sf u 0 (rs (u.2 0) 2088 (rg (u.2 1) (u.1 60).toNatClampNeg (nI (k - 1))) (rg (u.2 2) (u.1 65).toNatClampNeg (nI (k - 1))))) = some (r, v) ∧ Q r v
      rw [e1, e2]
      have em : nI (k - 1) + (-1) = nI (k - 1) - 1 := (Int32.sub_eq_add_neg _ _).symm
      rw [em]
      refine ih (k - 1) n _ (by omega) (by omega) (by omega) ?_ h1 (fun j hj => (if_neg hj).trans (h2 j hj))
      obtain ⟨a, b, c, d, e, b0, b2, hJ⟩ := hKb
      refine ⟨a, b, c, d, e, ?_, ?_, hJ⟩
      · show (rs (u.2 0) 2088 (u.2 1 (k - 1)) (u.2 2 (k - 1)) 0).toInt ≤ bB
        rcases rs_at (f := u.2 0) (n := 2088) (i := u.2 1 (k - 1)) (x := u.2 2 (k - 1)) 0 with z | ⟨z, y⟩
        · rw [z]; exact b0
        · rw [z]; exact hJ (k - 1) (by omega) (Or.inl y)
      · show (rs (u.2 0) 2088 (u.2 1 (k - 1)) (u.2 2 (k - 1)) 2).toInt ≤ bB
        rcases rs_at (f := u.2 0) (n := 2088) (i := u.2 1 (k - 1)) (x := u.2 2 (k - 1)) 2 with z | ⟨z, y⟩
        · rw [z]; exact b2
        · rw [z]; exact hJ (k - 1) (by omega) (Or.inr y)
theorem Kb.less {u v : MS} {ch ch2 C : Nat} (h : Kb u ch C) (hc : ch2 ≤ ch) (h0 : v.1 0 = nI ch2) (h60 : v.1 60 = u.1 60) (h65 : v.1 65 = u.1 65) (ha : v.2 0 = u.2 0 ∧ v.2 1 = u.2 1 ∧ v.2 2 = u.2 2) : Kb v ch2 C := by
  obtain ⟨a, b, c, d, e, b0, b2, hJ⟩ := h
  refine ⟨h0, h60.trans b, h65.trans c, by omega, e, by rw [ha.1]; exact b0, by rw [ha.1]; exact b2, fun k hk => ?_⟩
  rw [ha.2.1, ha.2.2]
  exact hJ k (by omega)
theorem tb_ok {u : MS} {n ch C : Nat} (h : CS u n ch C) (hn : 1 ≤ n) : ∃ r v ch', x_X1_takeBack u = some (r, v) ∧ CS v (n - 1) ch' C ∧ ch' ≤ ch ∧ v.1 2 = u.1 2 := by
  obtain ⟨hKb, ⟨e1, hn5, p, hp, hm⟩, hR⟩ := h
  have hC := hKb.C
  have h4 := hKb.2.2.2.1
  obtain ⟨p1, p2⟩ := hp (n - 1) (by omega)
  have ep : nI n - 1 = nI (n - 1) := nI_sub (b := 1) hn
  have e500 : rg (u.2 3) 500 (nI (n - 1)) = nI (p (n - 1)) := by rw [rg_in (by omega) (by decide)]; exact p1
  have emax : (if nI (p (n - 1)) < 0 then (0 : Int32) else nI (p (n - 1))) = nI (p (n - 1)) := if_neg (nI_nn (by omega))
  have hK1 : Kb (si u 1 (nI (n - 1))) ch C := hKb.same (l1 := [1]) (l2 := []) (Same_si (by decide)) (by decide) (by decide)
  have h9 := tb_lp (u0 := si u 1 (nI (n - 1))) (n := n) (ch := ch) (C := C) (p (n - 1)) (fun v1 v2 => ncl (nWF 0 v1) (fun _ => nrt (0 : Int32))) (fun _ v => CS v (n - 1) (p (n - 1)) C ∧ v.1 2 = u.1 2) (fun v2 w hKw hw1 hw2 => by
    refine ⟨0, si w 0 (nI (p (n - 1))), rfl, ⟨hKw.less p2 rfl rfl rfl ⟨rfl, rfl, rfl⟩, ⟨?_, by omega, p, fun e he => ?_, fun e e' a b => hm e e' a (by omega)⟩, ?_⟩, ?_⟩
    · show w.1 1 = nI (n - 1)
      rw [hw1]
      rfl
    · refine ⟨?_, hm e (n - 1) (by omega) (by omega)⟩
      show w.2 3 e = nI (p e)
      rw [hw2 3 (by decide)]
      exact (hp e (by omega)).1
    · intro j hj
      show 0 ≤ (w.2 11 j).toInt ∧ (w.2 11 j).toInt ≤ 31
      rw [hw2 11 (by decide)]
      exact hR j hj
    · show w.1 2 = u.1 2
      rw [hw1]
      rfl) (ch - p (n - 1)) ch fuel (si u 1 (nI (n - 1))) (by omega) (Nat.le_refl _) (by unfold fuel; omega) hK1 rfl (fun _ _ => rfl)
  obtain ⟨r, v, e, q⟩ := h9
  refine ⟨r, v, p (n - 1), ?_, q.1, p2, q.2⟩
  unfold x_X1_takeBack
  refine ncl_eq (a := u.1 1) (v := u) rfl (ncl_eq (a := ()) (v := si u 1 (u.1 1 - 1)) rfl (ncl_eq (a := u.1 1 - 1) (v := si u 1 (u.1 1 - 1)) rfl (ncl_eq (a := rg (u.2 3) 500 (u.1 1 - 1)) (v := si u 1 (u.1 1 - 1)) rfl ?_)))
  rw [e1, ep, e500, emax]
  exact nli_eq (ncl_eq (a := nI ch) (v := si u 1 (nI (n - 1))) (by rw [← hKb.1]; rfl) (nli_eq e))
theorem tt_undo21 : ∀ (n : Nat) (v1 : Int32), msr v1 ≤ n → T [] [13, 14, 15, 16, 17] (xl_X11_undo_21 n v1 (fun v1 => ncl (nRF 1) (fun x_15 => nrt x_15))) := by
  intro n
  induction n with
  | zero =>
    intro v1 hm
    exact absurd hm (msr_0 _)
  | succ n ih =>
    intro v1 hm
    unfold xl_X11_undo_21
    exact T_ite (fun _ => T_cl T_RF (fun _ => T_rt _)) (fun h => T_cl ((tt_x_X0_settle _).mono (by decide) (by decide)) (fun _ => T_li (ih _ (msr_up h hm))))
theorem cs_undo {u : MS} {n ch C : Nat} (h : CS u n ch C) : ∃ r v n' ch', x_X11_undo u = some (r, v) ∧ CS v n' ch' C ∧ ch' ≤ ch ∧ v.1 2 = u.1 2 := by
  have e1 := h.2.1.1
  have hn5 := h.2.1.2.1
  rcases Nat.eq_zero_or_pos n with z | z
  · refine ⟨-1, u, n, ch, ?_, h, Nat.le_refl _, rfl⟩
    unfold x_X11_undo
    have hz : nI 0 = (0 : Int32) := rfl
    refine ncl_eq (a := nI 0) (v := u) (by rw [← z, ← e1]; rfl) ?_
    rw [if_pos hz]
    rfl
  · obtain ⟨r, v, ch', e, hv, hc, h2⟩ := tb_ok h z
    obtain ⟨r2, w, e2, hs⟩ := tt_undo21 fuel 0 (msr_fuel _) v
    refine ⟨r2, w, n - 1, ch', ?_, hv.same hs (by decide) (by decide), hc, (hs.1 2 (by decide)).trans h2⟩
    unfold x_X11_undo
    have hne : ¬ nI n = 0 := fun q => by
      have := (nI_eq (a := n) (b := 0) (by omega) (by decide)).mp q
      omega
    refine ncl_eq (a := nI n) (v := u) (by rw [← e1]; rfl) ?_
    rw [if_neg hne]
    exact ncl_eq e e2
/-! the tape -/
theorem push_lp (a : Int32) : ∀ (t n : Nat) (u : MS) (tp : Nat), t ≤ 4 → t < n → u.1 2 = nI tp → ∃ v, xl_X10_push_3 n a (nI (8 * t) - 8) (fun v1 v2 => nrt 0) u = some (0, v) ∧ v.1 2 = nI (tp + t) ∧ Same [2] [4] u v := by
  intro t
  induction t with
  | zero =>
    intro n u tp ht hn h2
    cases n with
    | zero => omega
    | succ n =>
      unfold xl_X10_push_3
      exact ⟨u, rfl, h2, Same.rf u⟩
  | succ t ih =>
    intro n u tp ht hn h2
    cases n with
    | zero => omega
    | succ n =>
      have e8 : nI (8 * (t + 1)) - 8 = nI (8 * t) := nI_sub (b := 8) (by omega)
      have em : nI (8 * t) + (-8) = nI (8 * t) - 8 := (Int32.sub_eq_add_neg _ _).symm
      unfold xl_X10_push_3
      rw [e8, if_neg (nI_nn (by omega))]
      have hs : Same [2] [4] u (si (sf u 4 (rs (u.2 4) 3000 (u.1 2) ((a >>> (nI (8 * t) &&& 31)) &&& 255))) 2 (u.1 2 + 1)) := (Same_sf (by decide)).trans (Same_si (by decide))
      have h3 : (si (sf u 4 (rs (u.2 4) 3000 (u.1 2) ((a >>> (nI (8 * t) &&& 31)) &&& 255))) 2 (u.1 2 + 1)).1 2 = nI (tp + 1) := by
        show u.1 2 + 1 = nI (tp + 1)
        rw [h2, nI_1]
      obtain ⟨v, e, hv, hs2⟩ := ih n _ (tp + 1) (by omega) (by omega) h3
      refine ⟨v, ?_, by rw [hv]; congr 1; omega, hs.trans hs2⟩
      show xl_X10_push_3 n a (nI (8 * t) + (-8)) (fun v1 v2 => nrt 0) (si (sf u 4 (rs (u.2 4) 3000 (u.1 2) ((a >>> (nI (8 * t) &&& 31)) &&& 255))) 2 (u.1 2 + 1)) = _
      rw [em]
      exact e
theorem push_ok (a : Int32) (u : MS) (tp : Nat) (h2 : u.1 2 = nI tp) : ∃ v, x_X10_push a u = some (0, v) ∧ v.1 2 = nI (tp + 4) ∧ Same [2] [4] u v := push_lp a 4 fuel u tp (by omega) (by unfold fuel; omega) h2
theorem end_ok (a : Int32) (u : MS) (tp : Nat) (ht : tp ≤ 3000) (h2 : u.1 2 = nI tp) : ∃ r v, x_X11_end a u = some (r, v) ∧ Same [2] [] u v ∧ ((0 ≤ a.toInt ∧ a.toInt ≤ tp ∧ r = a ∧ v.1 2 = nI a.toInt.toNat) ∨ (¬ (0 ≤ a.toInt ∧ a.toInt ≤ tp) ∧ r = -1 ∧ v.1 2 = nI tp)) := by
  have etp : (nI tp).toInt = tp := nI_toInt (by omega)
  unfold x_X11_end
  by_cases h : a < 0
  · refine ⟨-1, u, by rw [if_pos h]; rfl, Same.rf u, Or.inr ⟨?_, rfl, h2⟩⟩
    rw [Int32.lt_iff_toInt_lt, i32_0] at h
    omega
  · rw [if_neg h]
    have h0 : 0 ≤ a.toInt := by
      rw [Int32.lt_iff_toInt_lt, i32_0] at h
      omega
    by_cases h3 : a ≤ nI tp
    · refine ⟨a, si u 2 a, ?_, Same_si (by decide), Or.inl ⟨h0, ?_, rfl, nI_ofT h0⟩⟩
      · refine ncl_eq (a := nI tp) (v := u) (by rw [← h2]; rfl) ?_
        rw [if_pos h3]
        rfl
      · have := Int32.le_iff_toInt_le.mp h3
        omega
    · refine ⟨-1, u, ?_, Same.rf u, Or.inr ⟨?_, rfl, h2⟩⟩
      · refine ncl_eq (a := nI tp) (v := u) (by rw [← h2]; rfl) ?_
        rw [if_neg h3]
        rfl
      · have := i32_nle h3
        omega
/-! the lines of the draft -/
def E0 {β : Type} (p : NG β) : Prop := ∀ u r v, p u = some (r, v) → v.1 23 = u.1 23
def E1 {β : Type} (p : NG β) : Prop := ∀ u r v, p u = some (r, v) → v.1 23 = u.1 23 ∨ v.1 23 = u.1 23 + 1
theorem T.e0 {β : Type} {l1 l2 : List Nat} {p : NG β} (h : T l1 l2 p) (h23 : ¬ 23 ∈ l1) : E0 p := fun u r v e => by
  obtain ⟨r2, v2, e2, hs⟩ := h u
  rw [e] at e2
  cases e2
  exact hs.1 23 h23
theorem E0.e1 {β : Type} {p : NG β} (h : E0 p) : E1 p := fun u r v e => Or.inl (h u r v e)
theorem E1_c0 {α β : Type} {p : NG α} {q : α → NG β} (hp : E0 p) (hq : ∀ a, E1 (q a)) : E1 (ncl p q) := fun u r v e => by
  obtain ⟨a, w, e1, e2⟩ := ncl_some e
  have h1 := hp u a w e1
  have h2 := hq a w r v e2
  rw [h1] at h2
  exact h2
theorem E1_c1 {α β : Type} {p : NG α} {q : α → NG β} (hp : E1 p) (hq : ∀ a, E0 (q a)) : E1 (ncl p q) := fun u r v e => by
  obtain ⟨a, w, e1, e2⟩ := ncl_some e
  have h1 := hp u a w e1
  rw [hq a w r v e2]
  exact h1
theorem E1_ite {β : Type} {b : Prop} [Decidable b] {p q : NG β} (h1 : E1 p) (h2 : E1 q) : E1 (if b then p else q) := by
  by_cases h : b
  · rw [if_pos h]; exact h1
  · rw [if_neg h]; exact h2
theorem e1_endLine : E1 x_X4_endLine := fun u r v e => by
  unfold x_X4_endLine at e
  cases e
  exact Or.inr rfl
theorem e1_rt (x : Int32) : E1 (nrt x) := fun u r v e => by cases e; exact Or.inl rfl
theorem e1_tbc (a : Int32) : E1 (x_X5_takeBehindCond a) := by
  unfold x_X5_takeBehindCond
  have hend : E1 (ncl (x_X5_emitBinders 9) (fun r_25 => ncl (x_X4_endLine) (fun r_28 => ncl (nWF 12 9) (fun _ => nrt (0 : Int32))))) := E1_c0 ((tt_x_X5_emitBinders 9).e0 (by decide)) (fun _ => E1_c1 e1_endLine (fun _ => T.e0 (l1 := [12]) (l2 := []) (T_cl (T_WF (by decide)) (fun _ => T_rt _)) (by decide)))
  repeat (first | (with_reducible exact hend) | (with_reducible exact e1_rt _) | (with_reducible refine E1_ite ?_ ?_) | (with_reducible refine E1_c0 ((tt_x_X5_takePart _).e0 (by decide)) (fun _ => ?_)) | (with_reducible refine E1_c0 ((tt_x_X5_emitBinders _).e0 (by decide)) (fun _ => ?_)) | (with_reducible refine E1_c0 ((tt_x_X5_hold _).e0 (by decide)) (fun _ => ?_)) | (with_reducible refine E1_c0 ((tt_x_X5_fail _).e0 (by decide)) (fun _ => ?_)) | (with_reducible refine E1_c0 (tt_x_X5_closeBracket.e0 (by decide)) (fun _ => ?_)) | (with_reducible refine E1_c0 (T.e0 (l1 := []) (l2 := []) T_RF (by decide)) (fun _ => ?_)) | (with_reducible refine E1_c0 (T.e0 (l1 := [12]) (l2 := []) (T_WF (by decide)) (by decide)) (fun _ => ?_)))
theorem e1_take (a : Int32) : E1 (x_X5_take a) := by
  unfold x_X5_take
  have h0 : E1 (ncl (x_X5_takeBehindCond a) (fun r_63 => nrt (0 : Int32))) := E1_c1 (e1_tbc a) (fun _ => (T_rt (LI := []) (LA := []) _).e0 (by decide))
  repeat (first | (with_reducible exact h0) | (with_reducible exact e1_rt _) | (with_reducible refine E1_ite ?_ ?_) | (with_reducible refine E1_c0 (T.e0 (l1 := []) (l2 := []) T_RF (by decide)) (fun _ => ?_)) | (with_reducible refine E1_c0 ((tt_x_X5_takeSignOrLine _).e0 (by decide)) (fun _ => ?_)) | (with_reducible refine E1_c0 ((tt_x_X5_takeSignName _).e0 (by decide)) (fun _ => ?_)) | (with_reducible refine E1_c0 ((tt_x_X5_goIf _ _).e0 (by decide)) (fun _ => ?_)) | (with_reducible refine E1_c0 ((tt_x_X5_takePoints _).e0 (by decide)) (fun _ => ?_)) | (with_reducible refine E1_c0 ((tt_x_X5_takeCond _).e0 (by decide)) (fun _ => ?_)) | (with_reducible refine E1_c0 ((tt_x_X5_takeTerm _).e0 (by decide)) (fun _ => ?_)) | (with_reducible refine E1_c0 ((tt_x_X5_takeTermName _).e0 (by decide)) (fun _ => ?_)) | (with_reducible refine E1_c0 ((tt_x_X5_takeBehindTerm _).e0 (by decide)) (fun _ => ?_)) | (with_reducible refine E1_c0 (tt_x_X5_endComparison.e0 (by decide)) (fun _ => ?_)) | (with_reducible refine E1_c0 ((tt_x_X5_takeHead _).e0 (by decide)) (fun _ => ?_)))
theorem lines_lp : ∀ (t j n : Nat) (u : MS) (l : Nat), j + t = 3001 → u.1 23 = nI l → l ≤ j → ∀ r v, xl_X5_readLaws_46 n (nI j) (fun v1 => ncl (nRF 11) (fun x_54 => (if x_54 = 0 then nrt (1 : Int32) else nrt 0))) u = some (r, v) → ∃ l', v.1 23 = nI l' ∧ l' ≤ 3001 := by
  have hK : ∀ (u : MS) (l : Nat), u.1 23 = nI l → l ≤ 3001 → ∀ r v, ncl (nRF 11) (fun x_54 => (if x_54 = 0 then nrt (1 : Int32) else nrt 0)) u = some (r, v) → ∃ l', v.1 23 = nI l' ∧ l' ≤ 3001 := fun u l h1 h2 r v e => by
    have h := T.e0 (l1 := []) (l2 := []) (p := ncl (nRF 11) (fun x_54 => (if x_54 = 0 then nrt (1 : Int32) else nrt 0))) (T_cl T_RF (fun _ => T_ite (fun _ => T_rt _) (fun _ => T_rt _))) (by decide) u r v e
    exact ⟨l, h.trans h1, h2⟩
  intro t
  induction t with
  | zero =>
    intro j n u l hj h1 h2 r v e
    cases n with
    | zero => cases e
    | succ n =>
      have : j = 3001 := by omega
      subst this
      unfold xl_X5_readLaws_46 at e
      have h3 : (3000 : Int32) < nI 3001 := by decide
      rw [if_pos h3] at e
      exact hK u l h1 (by omega) r v e
  | succ t ih =>
    intro j n u l hj h1 h2 r v e
    cases n with
    | zero => cases e
    | succ n =>
      unfold xl_X5_readLaws_46 at e
      have h3 : ¬ (3000 : Int32) < nI j := fun z => by
        have := (nI_ltI (a := 3000) (b := j) (by decide) (by omega)).mp z
        omega
      rw [if_neg h3] at e
      obtain ⟨a1, w1, e1, e⟩ := ncl_some e
      cases e1
      by_cases c1 : u.1 11 = 0
      · rw [if_pos c1] at e
        obtain ⟨a2, w2, e2, e⟩ := ncl_some e
        cases e2
        by_cases c2 : u.1 12 = 17
        · rw [if_pos c2] at e
          exact hK u l h1 (by omega) r v e
        · rw [if_neg c2] at e
          obtain ⟨a3, w3, e3, e⟩ := ncl_some e
          have g3 := tt_x_X10_readToken.e0 (by decide) u a3 w3 e3
          obtain ⟨a4, w4, e4, e⟩ := ncl_some e
          cases e4
          obtain ⟨a5, w5, e5, e⟩ := ncl_some e
          have g5 := e1_take _ w3 a5 w5 e5
          have e' : xl_X5_readLaws_46 n (nI j + 1) (fun v1 => ncl (nRF 11) (fun x_54 => (if x_54 = 0 then nrt (1 : Int32) else nrt 0))) w5 = some (r, v) := e
          rw [nI_1] at e'
          rcases g5 with g5 | g5
          · exact ih (j + 1) n w5 l (by omega) (g5.trans (g3.trans h1)) (by omega) r v e'
          · refine ih (j + 1) n w5 (l + 1) (by omega) ?_ (by omega) r v e'
            rw [g5, g3, h1, nI_1]
      · rw [if_neg c1] at e
        exact hK u l h1 (by omega) r v e
theorem readLaws_ok (u : MS) : ∃ r v, x_X5_readLaws u = some (r, v) ∧ Same [3, 4, 5, 6, 7, 8, 9, 10, 11, 12, 13, 14, 15, 20, 21, 22, 23, 24, 25] [5, 6, 7, 8, 9, 10] u v ∧ (v.1 23).toInt ≤ bB := by
  obtain ⟨r, v, e, hs⟩ := tt_x_X5_readLaws u
  refine ⟨r, v, e, hs, ?_⟩
  have e2 := e
  unfold x_X5_readLaws at e2
  obtain ⟨a1, w1, e1, e2⟩ := ncl_some e2
  have g1 : w1.1 23 = nI 0 := by
    unfold x_X4_clear at e1
    cases e1
    rfl
  obtain ⟨a3, w3, e3, e2⟩ := ncl_some e2
  have g3 := tt_x_X10_rewind.e0 (by decide) w1 a3 w3 e3
  have e4 : xl_X5_readLaws_46 fuel (nI 0) (fun v1 => ncl (nRF 11) (fun x_54 => (if x_54 = 0 then nrt (1 : Int32) else nrt 0))) (si (si (si (si (si (si w3 11 0) 10 (-1)) 12 0) 7 0) 8 0) 9 0) = some (r, v) := e2
  obtain ⟨l, hl, hle⟩ := lines_lp 3001 0 fuel (si (si (si (si (si (si w3 11 0) 10 (-1)) 12 0) 7 0) 8 0) 9 0) 0 (by omega) (g3.trans g1) (Nat.le_refl _) r v e4
  rw [hl, nI_toInt (by omega)]
  unfold bB
  omega
end
section
/-- a new list leans on the empty default array -/
def zE (g : ClassId) (e0 : Nat) (A : Nat → Prop) (U : State) (H : Heap) : Prop := kO g U ∧ va_AO "java/lang/Object" U ∧ va_Z "java/util/ArrayList" "DEFAULTCAPACITY_EMPTY_ELEMENTDATA" "[Ljava/lang/Object;" (.ref e0) A U H ∧ va_T (.object "java/lang/Object") e0 0 (fun _ => .null) A U H ∧ va_Nw (.castable RX4 "java/lang/Object") U
theorem zE.moved {g : ClassId} {e0 : Nat} {A : Nat → Prop} {s U : State} {H : Heap} (hW : s.WarmedH U.vm) (h : zE g e0 A s H) : zE g e0 A U H := ⟨h.1.moved hW.alike, h.2.1.moved hW.alike, h.2.2.1.moved hW.alike, h.2.2.2.1.moved hW.alike, va_Nw.warmC hW h.2.2.2.2⟩
theorem zE.narrow {g : ClassId} {e0 : Nat} {A B : Nat → Prop} {U : State} {H : Heap} (h : zE g e0 A U H) (hAB : ∀ q : Nat, B q → A q) : zE g e0 B U H := ⟨h.1, h.2.1, h.2.2.1.narrow hAB, h.2.2.2.1.narrow hAB, h.2.2.2.2⟩
theorem zE.calling {g : ClassId} {e0 : Nat} {A : Nat → Prop} {U : State} (j : JFrame) (mk : MethodId) (a : Array Value) (h : zE g e0 A U U.heap) : zE g e0 A (U.calling j mk a) (U.calling j mk a).heap := h.moved (s := U) (U := U.calling j mk a) (State.WarmedH.refl U)
def zP (G : gG) (g : ClassId) (e0 : Nat) (ws : va_W) (sz : Nat) (U : State) : Prop := U.heap.size = sz ∧ va_P (gD G) vwCl ws U.heap ∧ KB G U ∧ va_D (fun _ => True) ws ∧ zE g e0 (va_A ws sz) U U.heap
theorem zP.blind {G : gG} {g : ClassId} {e0 : Nat} {ws : va_W} {sz : Nat} {av : List Value} : FrameBlind (va_Pc av (zP G g e0 ws sz)) := fun _ U j mk q => ⟨q.1, q.2.1, q.2.2.1, q.2.2.2.1.calling j mk _, q.2.2.2.2.1, q.2.2.2.2.2.calling j mk _⟩
def wo_a_growZ : List Cond := [.fieldLink RJx4a65c 9 "java/util/ArrayList" "elementData" "[Ljava/lang/Object;", .fieldLink RJx4a65c 39 "java/util/ArrayList" "DEFAULTCAPACITY_EMPTY_ELEMENTDATA" "[Ljava/lang/Object;", .methodLink RJx4a65c 79 Lib.Math.max.name, .static Lib.Math.max.name, .initialized RJ9, .code Lib.Math.max.name Lib.Math.max.code 2 (some .int), .classLink RJx4a65c 7 "java/lang/Object"]
def wq_a_growZ : List Cond := .code yJx4a65c_grow_92f84 cJx4a65c_grow_92f84 4 (some (.array (.object "java/lang/Object"))) :: (wo_a_growZ ++ (wsJx4a65c0 ++ []))
theorem gd_a_growZ : ∀ w ∈ wq_a_growZ, Gd w := List.forall_mem_cons.mpr ⟨Or.inl rfl, List.forall_mem_append.mpr ⟨gdl wo_a_growZ (by decide +kernel), (List.forall_mem_append.mpr ⟨gd_wsJx4a65c0, (fun _ h => absurd h List.not_mem_nil)⟩)⟩⟩
theorem in_a_growZ : ∀ w ∈ wq_a_growZ, w ∈ lw_tbl := List.forall_mem_cons.mpr ⟨List.mem_of_getElem? (i := 898) (by decide +kernel), List.forall_mem_append.mpr ⟨inT2 wo_a_growZ [(2, 150), (2, 148), (4, 68), (1, 51), (1, 4), (1, 52), (4, 69)] (by decide +kernel), (List.forall_mem_append.mpr ⟨in_wsJx4a65c0, (fun _ h => absurd h List.not_mem_nil)⟩)⟩⟩
set_option maxHeartbeats 4000000 in
theorem a_growZ (l : Launch) (G : gG) (g : ClassId) (e0 h0 : Nat) (mc n : Int32) (sz : Nat) : Met l yJx4a65c_grow_92f84 wq_a_growZ { frames := 1, cells := 1, slots := 10, locals := 21 } (va_Pc [.ref h0, .int 1] (zP G g e0 [(h0, .inr (0, [.int mc, .ref e0, .int n]))] sz)) (va_Qr (fun _ : Unit => True) (fun (_ : Unit) (q : Nat) (t : State) => va_P (gD G) vwCl [(h0, .inr (0, [.int mc, .ref q, .int n])), (q, .inl (g, 10, .inr (.inr (.inr (.inr (fun _ => none))))))] t.heap ∧ va_D (va_A [(h0, .inr (0, [.int mc, .ref e0, .int n]))] sz) [(h0, .inr (0, [.int mc, .ref q, .int n])), (q, .inl (g, 10, .inr (.inr (.inr (.inr (fun _ => none))))))]) (va_A [(h0, .inr (0, [.int mc, .ref e0, .int n]))] sz)) 1 10 (va_A [(h0, .inr (0, [.int mc, .ref e0, .int n]))] sz) := by
  refine Met.ofW (cc := cJx4a65c_grow_92f84) (maxL := 4) (ret := (some (.array (.object "java/lang/Object")))) (by decide) rfl ?_
  intro p e s m args below meth c s₁ B hml hv
  obtain ⟨rfl, rfl, hP, hB, hD0, hO⟩ := hv
  have hx := B.exec
  have hb := B.bytes
  have hr := B.returns
  have hlocks := B.notSynchronized
  have hts := atoms_spec (ws := wq_a_growZ) B.pre
  have hin : ∀ w ∈ wsJx4a65c0, w ∈ wq_a_growZ := fun _ h9 => (List.mem_cons_of_mem _ (List.mem_append_right _ (List.mem_append_left _ h9)))
  have hown : s.vm.findClass RJx4a65c = some m.cls := findClass_of_methodNamed B.named
  have hD := hD0.self (sz := s.heap.size)
  have hA : ∀ q : Nat, s.heap.size ≤ q → va_A [(h0, .inr (0, [.int mc, .ref e0, .int n]))] s.heap.size q := fun q h => Or.inr h
  generalize va_A [(h0, .inr (0, [.int mc, .ref e0, .int n]))] s.heap.size = A at hD hA hO ⊢
  have hS : va_S A s.heap s.heap [] := va_S.rf
  have hK := hO.1.K hB
  have hAO := hO.2.1
  have hZ := hO.2.2.1
  have hT := hO.2.2.2.1
  have hl := lv_entry ([.ref h0, .int 1]) (n := 4) (Nat.le_of_ble_eq_true rfl)
  rw [lg_entry_eq]
  generalize (lg_sl ([.ref h0, .int 1]) ++ List.replicate (4 - (lg_sl ([.ref h0, .int 1])).length) Slot.unset).toArray = ls at hl ⊢
  have hl : lv_has ls 4 [(0, .ref h0), (1, .int 1)] := hl
  refine lv_aload_n hx hb dJx4a65c_grow_92f84_0 rfl (lv_at hl 0 rfl) ?_
  refine va_get (D := gD G) (ci := 0) (v := .ref e0) (C := RJx4a65c) (T := TJx4a65c) (N := 3) hx hb hts hin hown hB.1 hP 0 rfl rfl 1 (by decide) (hts _ (List.mem_cons_of_mem _ (List.mem_append_left _ (List.mem_of_getElem? (i := 0) rfl)))) (fun _ h9 => h9) rfl dJx4a65c_grow_92f84_1 ?_
  refine va_tlen (v := 0) hx hb hT hS rfl dJx4a65c_grow_92f84_4 ?_
  refine lv_istore_n (lv' := [(2, .int 0), (0, .ref h0), (1, .int 1)]) hx hb dJx4a65c_grow_92f84_5 rfl hl (by decide) rfl (fun ls hl => ?_)
  refine lv_iload_n hx hb dJx4a65c_grow_92f84_6 rfl (lv_at hl 0 rfl) ?_
  refine lv_if_gt (tgt := 20) hx hb dJx4a65c_grow_92f84_7 (by decide) (fun c9 => absurd c9 (by decide)) (fun _ => ?_)
  refine lv_aload_n hx hb dJx4a65c_grow_92f84_10 rfl (lv_at hl 1 rfl) ?_
  refine va_get (D := gD G) (ci := 0) (v := .ref e0) (C := RJx4a65c) (T := TJx4a65c) (N := 3) hx hb hts hin hown hB.1 hP 0 rfl rfl 1 (by decide) (hts _ (List.mem_cons_of_mem _ (List.mem_append_left _ (List.mem_of_getElem? (i := 0) rfl)))) (fun _ h9 => h9) rfl dJx4a65c_grow_92f84_11 ?_
  refine va_gets hx hb hZ hS hown (hts _ (List.mem_cons_of_mem _ (List.mem_append_left _ (List.mem_of_getElem? (i := 1) rfl)))) (fun _ h9 => h9) dJx4a65c_grow_92f84_14 ?_
  refine lv_acmp_eq (rx := some e0) (ry := some e0) (tgt := 45) hx hb dJx4a65c_grow_92f84_17 (by decide) (fun _ => ?_) (fun c9 => absurd rfl c9)
  refine lv_aload_n hx hb dJx4a65c_grow_92f84_45 rfl (lv_at hl 1 rfl) ?_
  refine lv_bipush (v := 10) hx hb dJx4a65c_grow_92f84_46 (by decide) ?_
  refine lv_iload_n hx hb dJx4a65c_grow_92f84_48 rfl (lv_at hl 2 rfl) ?_
  refine va_mmax hx hb (hml.trans hl.1.symm) hown (hts _ (List.mem_cons_of_mem _ (List.mem_append_left _ (List.mem_of_getElem? (i := 2) rfl)))) (hts _ (List.mem_cons_of_mem _ (List.mem_append_left _ (List.mem_of_getElem? (i := 3) rfl)))) (hts _ (List.mem_cons_of_mem _ (List.mem_append_left _ (List.mem_of_getElem? (i := 4) rfl)))) (hts _ (List.mem_cons_of_mem _ (List.mem_append_left _ (List.mem_of_getElem? (i := 5) rfl)))) (Nat.le_of_ble_eq_true rfl) (Nat.le_of_ble_eq_true rfl) (Nat.zero_le _) (Nat.zero_le _) dJx4a65c_grow_92f84_49 ?_
  have e1 : (if (10 : Int32) < 1 then (1 : Int32) else 10) = 10 := by decide
  refine gx_ti e1 ?_
  refine va_newq (D := gD G) (C := "java/lang/Object") (N' := 10) hx hb hown (hts _ (List.mem_cons_of_mem _ (List.mem_append_left _ (List.mem_of_getElem? (i := 6) rfl)))) hAO hK hP hD hS hA (by decide) (by decide) (by decide) (Nat.le_of_ble_eq_true rfl) (Nat.le_of_ble_eq_true rfl) dJx4a65c_grow_92f84_52 (fun q cA H hK9 hP hD hS => ?_)
  have e9 : cA = g := ky_O hK9
  rw [e9] at hP hD
  refine lv_dup_x1 hx hb dJx4a65c_grow_92f84_55 rfl rfl ?_
  refine va_put (D := gD G) (ci := 0) (v := .ref q) (ty := tyJx4a65c 1) (C := RJx4a65c) (T := TJx4a65c) (N := 3) hx hb hts hin tyJx4a65c tyJx4a65c_ok nmJx4a65c hown hB.1 hP hD hS 0 rfl rfl 1 (by decide) (hts _ (List.mem_cons_of_mem _ (List.mem_append_left _ (List.mem_of_getElem? (i := 0) rfl)))) (fun _ h9 => h9) rfl (tyJx4a65c_ok 1 (by decide)) rfl rfl (Nat.le_of_ble_eq_true rfl) dJx4a65c_grow_92f84_56 (fun H locs hP hD hS => ?_)
  have hP9 := hP.sub (ws' := [(h0, .inr (0, [.int mc, .ref q, .int n])), (q, .inl (g, 10, .inr (.inr (.inr (.inr (fun _ => none))))))]) [0, 1] rfl
  have hD9 := hD.sub (ws' := [(h0, .inr (0, [.int mc, .ref q, .int n])), (q, .inl (g, 10, .inr (.inr (.inr (.inr (fun _ => none))))))]) [0, 1] (by decide) rfl
  exact W.aret (v := .ref q) hx hb hr (Or.inr ⟨_, rfl⟩) (Or.inr ⟨_, rfl⟩) (fun t ht hW => ⟨⟨(), q, rfl, trivial, by rw [ht]; exact hP9, hD9⟩, hS.F ht⟩) hS.2.2 dJx4a65c_grow_92f84_59
end
section
def wo_a_grow0Z : List Cond := [.fieldLink RJx4a65c 48 "java/util/ArrayList" "size" "I", .methodLink RJx4a65c 69 yJx4a65c_grow_92f84, .instanceMethod yJx4a65c_grow_92f84, .selects RJx4a65c yJx4a65c_grow_92f84 yJx4a65c_grow_92f84, .initialized RJx4a65c]
def wq_a_grow0Z : List Cond := .code yJx4a65c_grow_d5877 cJx4a65c_grow_d5877 1 (some (.array (.object "java/lang/Object"))) :: (wo_a_grow0Z ++ (wq_a_growZ ++ (wsJx4a65c0 ++ [])))
theorem gd_a_grow0Z : ∀ w ∈ wq_a_grow0Z, Gd w := List.forall_mem_cons.mpr ⟨Or.inl rfl, List.forall_mem_append.mpr ⟨gdl wo_a_grow0Z (by decide +kernel), (List.forall_mem_append.mpr ⟨gd_a_growZ, (List.forall_mem_append.mpr ⟨gd_wsJx4a65c0, (fun _ h => absurd h List.not_mem_nil)⟩)⟩)⟩⟩
theorem in_a_grow0Z : ∀ w ∈ wq_a_grow0Z, w ∈ lw_tbl := List.forall_mem_cons.mpr ⟨List.mem_of_getElem? (i := 894) (by decide +kernel), List.forall_mem_append.mpr ⟨inT2 wo_a_grow0Z [(2, 151), (4, 22), (4, 24), (0, 33), (1, 17)] (by decide +kernel), (List.forall_mem_append.mpr ⟨in_a_growZ, (List.forall_mem_append.mpr ⟨in_wsJx4a65c0, (fun _ h => absurd h List.not_mem_nil)⟩)⟩)⟩⟩
set_option maxHeartbeats 4000000 in
theorem a_grow0Z (l : Launch) (G : gG) (g : ClassId) (e0 h0 : Nat) (mc : Int32) (sz : Nat) : Met l yJx4a65c_grow_d5877 wq_a_grow0Z { frames := 2, cells := 1, slots := 10, locals := 44 } (va_Pc [.ref h0] (zP G g e0 [(h0, .inr (0, [.int mc, .ref e0, .int 0]))] sz)) (va_Qr (fun _ : Unit => True) (fun (_ : Unit) (q : Nat) (t : State) => va_P (gD G) vwCl [(h0, .inr (0, [.int mc, .ref q, .int 0])), (q, .inl (g, 10, .inr (.inr (.inr (.inr (fun _ => none))))))] t.heap ∧ va_D (va_A [(h0, .inr (0, [.int mc, .ref e0, .int 0]))] sz) [(h0, .inr (0, [.int mc, .ref q, .int 0])), (q, .inl (g, 10, .inr (.inr (.inr (.inr (fun _ => none))))))]) (va_A [(h0, .inr (0, [.int mc, .ref e0, .int 0]))] sz)) 1 10 (va_A [(h0, .inr (0, [.int mc, .ref e0, .int 0]))] sz) := by
  refine Met.ofW (cc := cJx4a65c_grow_d5877) (maxL := 1) (ret := (some (.array (.object "java/lang/Object")))) (by decide) rfl ?_
  intro p e s m args below meth c s₁ B hml hv
  obtain ⟨rfl, rfl, hP, hB, hD0, hO⟩ := hv
  have hx := B.exec
  have hb := B.bytes
  have hr := B.returns
  have hlocks := B.notSynchronized
  have hts := atoms_spec (ws := wq_a_grow0Z) B.pre
  have hin : ∀ w ∈ wsJx4a65c0, w ∈ wq_a_grow0Z := fun _ h9 => (List.mem_cons_of_mem _ (List.mem_append_right _ (List.mem_append_right _ (List.mem_append_left _ h9))))
  have hown : s.vm.findClass RJx4a65c = some m.cls := findClass_of_methodNamed B.named
  have hS : va_S (va_A [(h0, .inr (0, [.int mc, .ref e0, .int 0]))] s.heap.size) s.heap s.heap [] := va_S.rf
  have hl := lv_entry ([.ref h0]) (n := 1) (Nat.le_of_ble_eq_true rfl)
  rw [lg_entry_eq]
  generalize (lg_sl ([.ref h0]) ++ List.replicate (1 - (lg_sl ([.ref h0])).length) Slot.unset).toArray = ls at hl ⊢
  have hl : lv_has ls 1 [(0, .ref h0)] := hl
  refine lv_aload_n hx hb dJx4a65c_grow_d5877_0 rfl (lv_at hl 0 rfl) ?_
  refine lv_aload_n hx hb dJx4a65c_grow_d5877_1 rfl (lv_at hl 0 rfl) ?_
  refine va_get (D := gD G) (ci := 0) (v := .int 0) (C := RJx4a65c) (T := TJx4a65c) (N := 3) hx hb hts hin hown hB.1 hP 0 rfl rfl 2 (by decide) (hts _ (List.mem_cons_of_mem _ (List.mem_append_left _ (List.mem_of_getElem? (i := 0) rfl)))) (fun _ h9 => h9) rfl dJx4a65c_grow_d5877_2 ?_
  refine lv_iconst (v := 1) hx hb dJx4a65c_grow_d5877_5 (by decide) ?_
  refine lv_iadd hx hb dJx4a65c_grow_d5877_6 ?_
  refine gx_ti (show (0 : Int32) + 1 = 1 by decide) ?_
  refine va_callr (va_runV (As := [.int 1]) (rest := []) (C := RJx4a65c) ⟨hx, hb, hml, hown, hts⟩ (a_growZ l G g e0 h0 mc 0 s.heap.size) (cwV 1 hts (gdV (List.mem_cons_of_mem _ (List.mem_append_left _ (List.mem_of_getElem? (i := 1) rfl))) (List.mem_cons_of_mem _ (List.mem_append_left _ (List.mem_of_getElem? (i := 2) rfl))) (List.mem_cons_of_mem _ (List.mem_append_left _ (List.mem_of_getElem? (i := 3) rfl))) (List.mem_cons_of_mem _ (List.mem_append_left _ (List.mem_of_getElem? (i := 4) rfl))) (fun w9 h9 => ⟨(List.mem_cons_of_mem _ (List.mem_append_right _ (List.mem_append_left _ h9))), gd_a_growZ w9 h9⟩)) rfl rfl rfl kVJx4a65c_grow_92f84 ⟨Nat.le_of_ble_eq_true rfl, Nat.le_of_ble_eq_true rfl⟩) ⟨zP.blind, va_recv hB.1 hP (ci := 0) (q0 := 0) rfl rfl, fun U hU hW => ⟨rfl, by rw [hU], by rw [hU]; exact hP, hB.moved hW, hD0, by rw [hU]; exact hO.moved hW⟩⟩ rfl rfl hl.1 rfl (lv_room (Nat.le_of_ble_eq_true rfl)) dJx4a65c_grow_d5877_7 ⟨Nat.le_of_ble_eq_true rfl, Nat.le_of_ble_eq_true rfl⟩) hS (fun z _ h => h) (fun z h => h) (fun u2 q t H1 locs ht hvm hw hB1 hz1 hk1 hS => ?_)
  obtain ⟨hP1, hD1⟩ := hB1
  rw [ht] at hP1
  refine W.eq (g2 := F0 m 10 ls [.ref q]) rfl ?_
  refine W.widen (k := 1) (n := 10) (Nat.le_of_ble_eq_true rfl) (Nat.le_of_ble_eq_true rfl) ?_
  exact W.aret (v := .ref q) hx hb hr (Or.inr ⟨_, rfl⟩) (Or.inr ⟨_, rfl⟩) (fun t ht hW => ⟨⟨(), q, rfl, trivial, by rw [ht]; exact hP1, hD1⟩, hS.F ht⟩) hS.2.2 dJx4a65c_grow_d5877_10
def wo_a_add3z : List Cond := [.fieldLink RJx4a65c 48 "java/util/ArrayList" "size" "I", .methodLink RJx4a65c 129 yJx4a65c_grow_d5877, .instanceMethod yJx4a65c_grow_d5877, .selects RJx4a65c yJx4a65c_grow_d5877 yJx4a65c_grow_d5877, .initialized RJx4a65c]
def wq_a_add3z : List Cond := .code yJx4a65c_add_72be8 cJx4a65c_add_72be8 4 none :: (wo_a_add3z ++ (wq_a_grow0Z ++ (wsJx4a65c0 ++ [])))
theorem gd_a_add3z : ∀ w ∈ wq_a_add3z, Gd w := List.forall_mem_cons.mpr ⟨Or.inl rfl, List.forall_mem_append.mpr ⟨gdl wo_a_add3z (by decide +kernel), (List.forall_mem_append.mpr ⟨gd_a_grow0Z, (List.forall_mem_append.mpr ⟨gd_wsJx4a65c0, (fun _ h => absurd h List.not_mem_nil)⟩)⟩)⟩⟩
theorem in_a_add3z : ∀ w ∈ wq_a_add3z, w ∈ lw_tbl := List.forall_mem_cons.mpr ⟨List.mem_of_getElem? (i := 890) (by decide +kernel), List.forall_mem_append.mpr ⟨inT2 wo_a_add3z [(2, 151), (4, 18), (4, 20), (0, 32), (1, 17)] (by decide +kernel), (List.forall_mem_append.mpr ⟨in_a_grow0Z, (List.forall_mem_append.mpr ⟨in_wsJx4a65c0, (fun _ h => absurd h List.not_mem_nil)⟩)⟩)⟩⟩
set_option maxHeartbeats 4000000 in
theorem a_add3z (l : Launch) (G : gG) (g : ClassId) (e0 h0 v : Nat) (mc : Int32) (vs : List Value) (sz : Nat) : Met l yJx4a65c_add_72be8 wq_a_add3z { frames := 3, cells := 1, slots := 10, locals := 64 } (va_Pc [.ref h0, .ref v, .ref e0, .int 0] (zP G g e0 [(h0, .inr (0, [.int mc, .ref e0, .int 0])), (v, .inr (5, vs))] sz)) (va_Qv (fun _ : Unit => True) (fun (_ : Unit) (t : State) => ∃ q : Nat, va_P (gD G) vwCl [(h0, .inr (0, [.int mc, .ref q, .int 1])), (q, .inl (g, 10, .inr (.inr (.inr (.inr (va_up (fun _ => none) 0 (some v))))))), (v, .inr (5, vs))] t.heap ∧ va_D (va_A [(h0, .inr (0, [.int mc, .ref e0, .int 0])), (v, .inr (5, vs))] sz) [(h0, .inr (0, [.int mc, .ref q, .int 1])), (q, .inl (g, 10, .inr (.inr (.inr (.inr (va_up (fun _ => none) 0 (some v))))))), (v, .inr (5, vs))]) (va_A [(h0, .inr (0, [.int mc, .ref e0, .int 0])), (v, .inr (5, vs))] sz)) 1 10 (va_A [(h0, .inr (0, [.int mc, .ref e0, .int 0])), (v, .inr (5, vs))] sz) := by
  refine Met.ofW (cc := cJx4a65c_add_72be8) (maxL := 4) (ret := none) (by decide) rfl ?_
  intro p e s m args below meth c s₁ B hml hv
  obtain ⟨rfl, rfl, hP, hB, hD0, hO⟩ := hv
  have hx := B.exec
  have hb := B.bytes
  have hr := B.returns
  have hlocks := B.notSynchronized
  have hts := atoms_spec (ws := wq_a_add3z) B.pre
  have hin : ∀ w ∈ wsJx4a65c0, w ∈ wq_a_add3z := fun _ h9 => (List.mem_cons_of_mem _ (List.mem_append_right _ (List.mem_append_right _ (List.mem_append_left _ h9))))
  have hown : s.vm.findClass RJx4a65c = some m.cls := findClass_of_methodNamed B.named
  have hD := hD0.self (sz := s.heap.size)
  have hA : ∀ q : Nat, s.heap.size ≤ q → va_A [(h0, .inr (0, [.int mc, .ref e0, .int 0])), (v, .inr (5, vs))] s.heap.size q := fun q h => Or.inr h
  generalize va_A [(h0, .inr (0, [.int mc, .ref e0, .int 0])), (v, .inr (5, vs))] s.heap.size = A at hD hA hO ⊢
  have hS : va_S A s.heap s.heap [] := va_S.rf
  have hK := hO.1.K hB
  have hl := lv_entry ([.ref h0, .ref v, .ref e0, .int 0]) (n := 4) (Nat.le_of_ble_eq_true rfl)
  rw [lg_entry_eq]
  generalize (lg_sl ([.ref h0, .ref v, .ref e0, .int 0]) ++ List.replicate (4 - (lg_sl ([.ref h0, .ref v, .ref e0, .int 0])).length) Slot.unset).toArray = ls at hl ⊢
  have hl : lv_has ls 4 [(0, .ref h0), (1, .ref v), (2, .ref e0), (3, .int 0)] := hl
  refine lv_iload_n hx hb dJx4a65c_add_72be8_0 rfl (lv_at hl 3 rfl) ?_
  refine lv_aload_n hx hb dJx4a65c_add_72be8_1 rfl (lv_at hl 2 rfl) ?_
  refine va_tlen (v := 0) hx hb hO.2.2.2.1 hS rfl dJx4a65c_add_72be8_2 ?_
  refine lv_icmp_ne (tgt := 11) hx hb dJx4a65c_add_72be8_3 (by decide) (fun c9 => absurd rfl c9) (fun _ => ?_)
  refine lv_aload_n hx hb dJx4a65c_add_72be8_6 rfl (lv_at hl 0 rfl) ?_
  have hPc := hP.sub (ws' := [(h0, .inr (0, [.int mc, .ref e0, .int 0]))]) [0] rfl
  have hDc := hD.sub (ws' := [(h0, .inr (0, [.int mc, .ref e0, .int 0]))]) [0] (by decide) rfl
  have hFc := va_free (wc := [(h0, .inr (0, [.int mc, .ref e0, .int 0]))]) hD hS hA [0] rfl
  refine va_callr (va_runV (As := []) (rest := []) (C := RJx4a65c) ⟨hx, hb, hml, hown, hts⟩ (a_grow0Z l G g e0 h0 mc s.heap.size) (cwV 0 hts (gdV (List.mem_cons_of_mem _ (List.mem_append_left _ (List.mem_of_getElem? (i := 1) rfl))) (List.mem_cons_of_mem _ (List.mem_append_left _ (List.mem_of_getElem? (i := 2) rfl))) (List.mem_cons_of_mem _ (List.mem_append_left _ (List.mem_of_getElem? (i := 3) rfl))) (List.mem_cons_of_mem _ (List.mem_append_left _ (List.mem_of_getElem? (i := 4) rfl))) (fun w9 h9 => ⟨(List.mem_cons_of_mem _ (List.mem_append_right _ (List.mem_append_left _ h9))), gd_a_grow0Z w9 h9⟩)) rfl rfl rfl kVJx4a65c_grow_d5877 ⟨Nat.le_of_ble_eq_true rfl, Nat.le_of_ble_eq_true rfl⟩) ⟨zP.blind, va_recv hB.1 hP (ci := 0) (q0 := 0) rfl rfl, fun U hU hW => ⟨rfl, by rw [hU], by rw [hU]; exact hPc, hB.moved hW, hDc.weaken (fun _ _ _ _ => trivial), by rw [hU]; exact (hO.narrow (fun q h => hFc q h)).moved hW⟩⟩ rfl rfl hl.1 rfl (lv_room (Nat.le_of_ble_eq_true rfl)) dJx4a65c_add_72be8_7 ⟨Nat.le_of_ble_eq_true rfl, Nat.le_of_ble_eq_true rfl⟩) hS (fun z _ h => hFc z h) hFc (fun u2 q t H1 locs ht hvm hw hB1 hz1 hk1 hS => ?_)
  obtain ⟨hP1, hD1⟩ := hB1
  rw [ht] at hP1
  obtain ⟨hP, hD⟩ := va_join (wr := [(v, .inr (5, vs))]) (w1 := [(h0, .inr (0, [.int mc, .ref q, .int 0])), (q, .inl (g, 10, .inr (.inr (.inr (.inr (fun _ => none))))))]) hP hD [0] [1] rfl rfl (by decide) (by decide) hk1 hFc hP1 hD1
  refine W.eq (g2 := F0 m 10 ls [.ref q]) rfl ?_
  refine lv_astore_n (lv' := [(2, .ref q), (0, .ref h0), (1, .ref v), (3, .int 0)]) hx hb dJx4a65c_add_72be8_10 rfl hl (by decide) rfl (fun ls hl => ?_)
  refine lv_aload_n hx hb dJx4a65c_add_72be8_11 rfl (lv_at hl 0 rfl) ?_
  refine lv_iload_n hx hb dJx4a65c_add_72be8_12 rfl (lv_at hl 3 rfl) ?_
  refine lv_aload_n hx hb dJx4a65c_add_72be8_13 rfl (lv_at hl 2 rfl) ?_
  refine va_astqO (D := gD G) hx hb hK hP hD hS 2 0 0 5 rfl rfl hO.2.2.2.2 rfl rfl (fun z => z.elim (fun a => absurd a (by decide)) (fun b => absurd b (by decide))) dJx4a65c_add_72be8_14 (fun H locs hP hD hS => ?_)
  have e8 : (0 : Int32).toNatClampNeg = 0 := by decide
  rw [e8] at hP hD
  refine lv_aload_n hx hb dJx4a65c_add_72be8_15 rfl (lv_at hl 1 rfl) ?_
  refine lv_iload_n hx hb dJx4a65c_add_72be8_16 rfl (lv_at hl 3 rfl) ?_
  refine lv_iconst (v := 1) hx hb dJx4a65c_add_72be8_17 (by decide) ?_
  refine lv_iadd hx hb dJx4a65c_add_72be8_18 ?_
  refine gx_ti (show (0 : Int32) + 1 = 1 by decide) ?_
  refine va_put (D := gD G) (ci := 0) (v := .int 1) (ty := tyJx4a65c 2) (C := RJx4a65c) (T := TJx4a65c) (N := 3) hx hb hts hin tyJx4a65c tyJx4a65c_ok nmJx4a65c hown hB.1 hP hD hS 1 rfl rfl 2 (by decide) (hts _ (List.mem_cons_of_mem _ (List.mem_append_left _ (List.mem_of_getElem? (i := 0) rfl)))) (fun _ h9 => h9) rfl (tyJx4a65c_ok 2 (by decide)) rfl rfl (Nat.le_of_ble_eq_true rfl) dJx4a65c_add_72be8_19 (fun H locs hP hD hS => ?_)
  have hP9 := hP.sub (ws' := [(h0, .inr (0, [.int mc, .ref q, .int 1])), (q, .inl (g, 10, .inr (.inr (.inr (.inr (va_up (fun _ => none) 0 (some v))))))), (v, .inr (5, vs))]) [1, 2, 0] rfl
  have hD9 := hD.sub (ws' := [(h0, .inr (0, [.int mc, .ref q, .int 1])), (q, .inl (g, 10, .inr (.inr (.inr (.inr (va_up (fun _ => none) 0 (some v))))))), (v, .inr (5, vs))]) [1, 2, 0] (by decide) rfl
  refine W.widen (k := 1) (n := 10) (Nat.le_of_ble_eq_true rfl) (Nat.le_of_ble_eq_true rfl) ?_
  exact W.vret hx hb hr (fun t ht hW => ⟨⟨(), rfl, trivial, q, by rw [ht]; exact hP9, hD9⟩, hS.F ht⟩) hS.2.2 dJx4a65c_add_72be8_22
end
