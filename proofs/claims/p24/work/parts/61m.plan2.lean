/-! ===== plan: its loops ===== -/
theorem nI_p1 {p : Nat} (h : p + 1 < 2 ^ 31) : ¬ nI (p + 1) ≤ 0 := by
  rw [Int32.le_iff_toInt_le, nI_toInt h]
  have : (0 : Int32).toInt = 0 := by decide
  omega
def Qi (w : GS) (nc : Nat → Nat) (v : GS) (p many : Nat) : Prop := ∀ k, k ≤ many → ¬ k = p → ∃ y, Am v 66 k (nI y) ∧ Vx w nc v y
theorem Vx.wd {w : GS} {nc : Nat → Nat} {v : GS} {y : Nat} (h : Vx w nc v y) {k : Nat} (hk : ¬ k = 67 ∧ ¬ k = 68) (i x : Int32) : Vx w nc (swd k i x v) y := ⟨h.1, h.2.wd hk i x⟩
theorem Pn.w66 {w : GS} {nc : Nat → Nat} {v : GS} {X : Nat} (h : Pn w nc v X 0) (i x : Int32) : Pn w nc (swd 66 i x v) X 0 := by
  obtain ⟨h1, h2, h3, h4, -⟩ := h
  exact ⟨h1.wd (by decide) i x, fun f hf => sw_mm (h2 f hf), fun m hm => sw_mm (h3 m hm), fun y hy => ⟨sw_mm (h4 y hy).1, sw_mm (h4 y hy).2.1, sw_mm (h4 y hy).2.2⟩, fun j hj => absurd hj (Nat.not_lt_zero _)⟩
theorem Vx.stage {w : GS} {nc : Nat → Nat} (hnc : ∀ c, c < 4 → Kd w c (nc c)) {v : GS} (h : PW w v) {y : Nat} (hy : Vx w nc v y) : Rd (f_stage (nI y)) v (fun _ => True) := by
  obtain ⟨⟨c, i, hc, hi, rfl⟩, -⟩ := hy
  exact ok_stage ((h.kd (hnc c hc)).dr hi) hi
theorem ok_ins {w : GS} {nc : Nat → Nat} (hnc : ∀ c, c < 4 → Kd w c (nc c)) {X many x : Nat} (hmany : many < 160) (v1 v2 v3 v4 v6 v7 : Int32) (K : Int32 → Int32 → Int32 → Int32 → Int32 → Int32 → Int32 → Int32 → Int32 → PG Int32) (Q : Int32 → GS → Prop) (hK : ∀ v p, Pn w nc v X 0 → Qi w nc v p many → p ≤ many → Vx w nc v x → Ok (K v1 v2 v3 v4 (nI many) v6 v7 (nI x) (nI p)) v Q) :
    ∀ (p m : Nat) (v : GS), p < m → p ≤ many → Pn w nc v X 0 → Qi w nc v p many → Vx w nc v x → Ok (lp_plan_350 m v1 v2 v3 v4 (nI many) v6 v7 (nI x) (nI p) K) v Q := by
  intro p
  induction p with
  | zero =>
    intro m v hm hp h hq hx
    cases m with
    | zero => omega
    | succ m =>
      unfold lp_plan_350
      exact Ok_ite (fun _ => hK v 0 h hq hp hx) (fun z => absurd (Int32.le_refl _) z)
  | succ p ih =>
    intro m v hm hp h hq hx
    cases m with
    | zero => omega
    | succ m =>
      have ep : nI (p + 1) - 1 = nI p := nI_sub (b := 1) (by omega)
      obtain ⟨y, y1, y2⟩ := hq p (by omega) (by omega)
      unfold lp_plan_350
      refine Ok_ite (fun z => absurd z (nI_p1 (by omega))) (fun _ => ?_)
      rw [ep]
      refine Ok_rdN rfl (by omega) (by decide) y1 (Ok_clR (y2.stage hnc h.1) (fun _ _ => Ok_clR (hx.stage hnc h.1) (fun _ _ => Ok_ite (fun _ => hK v (p + 1) h hq hp hx) (fun _ => ?_))))
      refine Ok_rdN rfl (by omega) (by decide) y1 (Ok_wdN rfl (by omega) (by decide) (Ok_li ?_))
      have e2 : nI (p + 1) + -1 = nI p := (Int32.sub_eq_add_neg _ _).symm.trans ep
      rw [e2]
      refine ih m _ (by omega) (by omega) (h.w66 _ _) (fun k hk hne => ?_) (hx.wd (by decide) _ _)
      by_cases he : k = p + 1
      · rw [he]
        exact ⟨y, sw_A (by omega), y2.wd (by decide) _ _⟩
      · obtain ⟨z, z1, z2⟩ := hq k hk he
        exact ⟨z, sw_An (by omega) he z1, z2.wd (by decide) _ _⟩
theorem fv_max {w v : GS} {c : Nat} {r : Int32} (hn : nF v = nF w) (h96 : nF w ≤ 96) (h : Val v c r) : FV w (if (-1) < r then r else (-1)) := by
  rcases h with rfl | rfl | ⟨f, rfl, hf⟩
  · exact Or.inl (by decide)
  · exact Or.inl (by decide)
  · have hf1 := hf.1
    have hlt : (-1 : Int32) < nI f := by
      rw [Int32.lt_iff_toInt_lt, nI_toInt (by omega)]
      have : (-1 : Int32).toInt = -1 := by decide
      omega
    rw [if_pos hlt]
    exact Or.inr ⟨f, by omega, rfl⟩
theorem Pn.q {w : GS} {nc : Nat → Nat} {v : GS} {X many : Nat} (h : Pn w nc v X many) : Pn w nc v X 0 := ⟨h.1, h.2.1, h.2.2.1, h.2.2.2.1, fun j hj => absurd hj (Nat.not_lt_zero _)⟩
theorem Pn.nf {w : GS} {nc : Nat → Nat} {v : GS} {X many : Nat} (h : Pn w nc v X many) : nF v = nF w := by
  unfold nF
  rw [h.1.1]
theorem ok_plan145 {w : GS} (hI : Inv w) (h13 : ∀ c, c < 4 → w.2.2 13 c = true) {nc : Nat → Nat} (hnc : ∀ c, c < 4 → Kd w c (nc c)) (c : Nat) (hc : c < 4) (v1 v2 : Int32) (K : Int32 → Int32 → Int32 → Int32 → Int32 → Int32 → Int32 → PG Int32) (Q : Int32 → GS → Prop) (hK : ∀ v v3 v4 v7 many, many ≤ 40 * (c + 1) → Pn w nc v (40 * (c + 1)) many → Ok (K v1 v2 v3 v4 (nI many) (nI c) v7) v Q) :
    ∀ (t i m many : Nat) (v : GS) (v3 v4 : Int32), i + t = 40 → t < m → many ≤ 40 * c + i → Pn w nc v (40 * c + i) many → Ok (lp_plan_145 m v1 v2 v3 v4 (nI many) (nI c) (nI i) K) v Q := by
  have h96 := hI.1.1.2.2
  intro t
  induction t with
  | zero =>
    intro i m many v v3 v4 h1 h2 hm h
    cases m with
    | zero => omega
    | succ m =>
      have : i = 40 := by omega
      subst this
      unfold lp_plan_145
      exact Ok_ite (fun _ => hK v v3 v4 _ many hm h) (fun z => absurd (Int32.le_refl _) z)
  | succ t ih =>
    intro i m many v v3 v4 h1 h2 hm h
    cases m with
    | zero => omega
    | succ m =>
      have hx : 40 * c + i < 160 := by omega
      have hnext : ∀ (v : GS) (v3 v4 : Int32) (many : Nat), many ≤ 40 * c + (i + 1) → Pn w nc v (40 * c + (i + 1)) many → Ok (pli (nI i + 1) (fun x_67 => lp_plan_145 m v1 v2 v3 v4 (nI many) (nI c) x_67 K)) v Q := fun v v3 v4 many hm h => by
        refine Ok_li ?_
        rw [nI_1]
        exact ih (i + 1) m many v v3 v4 (by omega) (by omega) hm h
      unfold lp_plan_145
      refine Ok_ite (fun z => absurd ((nI_le4 (k := i) (n := 40) (by omega) (by decide)).mp z) (by omega)) (fun _ => Ok_li ?_)
      rw [ix40]
      refine Ok_wdN rfl hx (by decide) (Ok_wdN rfl hx (by decide) (Ok_wdN rfl hx (by decide) ?_))
      have h2 : Pn w nc (swd 64 (nI (40 * c + i)) (-1) (swd 63 (nI (40 * c + i)) (-1) (swd 65 (nI (40 * c + i)) 0 v))) (40 * c + (i + 1)) many := by
        have h9 := ((h.wd (k := 65) (by decide) (nI (40 * c + i)) 0).wd (k := 63) (by decide) (nI (40 * c + i)) (-1)).wd (k := 64) (by decide) (nI (40 * c + i)) (-1)
        refine ⟨h9.1, h9.2.1, h9.2.2.1, fun y hy => ?_, h9.2.2.2.2⟩
        by_cases he : y = 40 * c + i
        · rw [he]
          exact ⟨sw_mm (sw_me (v := -1) (by omega)), sw_me (v := -1) (by omega), sw_mm (sw_mm (sw_me (v := 0) (by omega)))⟩
        · exact h9.2.2.2.1 y (by omega)
      generalize swd 64 (nI (40 * c + i)) (-1) (swd 63 (nI (40 * c + i)) (-1) (swd 65 (nI (40 * c + i)) 0 v)) = y0 at h2 ⊢
      have hK0 := h2.1.kd (hnc c hc)
      have hI0 := h2.1.inv hI
      have m13 : y0.2.2 13 c = true := by rw [(h2.1.2.2 13 (by decide)).2]; exact h13 c hc
      have hn37 := hK0.n37
      refine Ok_clR (ok_fightsK y0 c (nc c) hc hK0 m13) (fun r hr => ?_)
      subst hr
      refine Ok_ite (fun _ => hnext y0 v3 v4 many (by omega) h2) (fun hlt => ?_)
      have hi : i < nc c := Nat.not_le.mp (fun z => hlt (nI_le z (by omega)))
      have hD := hK0.dr hi
      have m15 := (hD.res i (by omega)).1
      refine Ok_rdN rfl hx (by decide) (Am.val m15) (Ok_ite (fun _ => hnext y0 v3 v4 many (by omega) h2) (fun _ => ?_))
      refine Ok_clR (ok_isWalk y0 c (nc c) i hD hi) (fun r _ => Ok_ite (fun _ => ?_) (fun _ => hnext y0 v3 v4 many (by omega) h2))
      refine Ok_clR (ok_side y0 c (nc c) i 0 0 hD hi (by decide)) (fun ra hra => Ok_wdN rfl hx (by decide) ?_)
      have fa := fv_max h2.nf h96 hra
      have h3 := h2.w67 hx fa
      have k67 : Am (swd 67 (nI (40 * c + i)) (if (-1) < ra then ra else (-1)) y0) 67 (40 * c + i) (if (-1) < ra then ra else (-1)) := sw_A (by omega)
      generalize swd 67 (nI (40 * c + i)) (if (-1) < ra then ra else (-1)) y0 = y1 at h3 k67 ⊢
      have hD1 := (h3.1.kd (hnc c hc)).dr hi
      refine Ok_clR (ok_side y1 c (nc c) i 1 0 hD1 hi (by decide)) (fun rb hrb => Ok_wdN rfl hx (by decide) ?_)
      have fb := fv_max h3.nf h96 hrb
      have h4 := h3.w68 hx fb
      have kw : KW w (swd 68 (nI (40 * c + i)) (if (-1) < rb then rb else (-1)) y1) (40 * c + i) := ⟨⟨_, Am.o (by decide) k67, fa⟩, _, sw_A (by omega), fb⟩
      generalize swd 68 (nI (40 * c + i)) (if (-1) < rb then rb else (-1)) y1 = y2 at h4 kw ⊢
      have hD2 := (h4.1.kd (hnc c hc)).dr hi
      have hI2 := h4.1.inv hI
      refine Ok_rdN rfl hx (by decide) (Am.val (hD2.res i (by omega)).1) (Ok_ite (fun _ => Ok_wdN rfl hx (by decide) ?_) (fun _ => Ok_wdN rfl hx (by decide) (Ok_li ?_)))
      · have h5 := h4.wd (k := 65) (by decide) (nI (40 * c + i)) 2
        have kw5 := kw.wd (k := 65) (by decide) (nI (40 * c + i)) 2
        generalize swd 65 (nI (40 * c + i)) 2 y2 = y3 at h5 kw5 ⊢
        have hI3 := h5.1.inv hI
        refine Ok_clR (ok_matOf (fun m hm => (hI3.1.2.2.2.2.2.1 m hm).1) c i) (fun r _ => Ok_wdN rfl hx (by decide) ?_)
        have h6 := h5.wd (k := 63) (by decide) (nI (40 * c + i)) r
        have kw6 := kw5.wd (k := 63) (by decide) (nI (40 * c + i)) r
        generalize swd 63 (nI (40 * c + i)) r y3 = y4 at h6 kw6 ⊢
        have hI4 := h6.1.inv hI
        refine Ok_rf hI4.1.2.1.1 (Ok_wdN rfl hx (by decide) ?_)
        generalize y4.1.1 3 = mn
        have h7 := h6.wd (k := 64) (by decide) (nI (40 * c + i)) mn
        have kw7 := kw6.wd (k := 64) (by decide) (nI (40 * c + i)) mn
        generalize swd 64 (nI (40 * c + i)) mn y4 = y5 at h7 kw7 ⊢
        have hI5 := h7.1.inv hI
        refine Ok_rf hI5.1.2.1.1 (Ok_li (Ok_rf hI5.1.2.1.1 (Ok_cl (Ok.mono (ok_tires hI h7 hx kw7 _) (fun _ y6 h8 => ?_)))))
        exact hnext y6 v3 _ many (by omega) h8
      · have h5 := h4.wd (k := 65) (by decide) (nI (40 * c + i)) 1
        have kw5 := kw.wd (k := 65) (by decide) (nI (40 * c + i)) 1
        generalize swd 65 (nI (40 * c + i)) 1 y2 = y3 at h5 kw5 ⊢
        refine ok_ins hnc (X := 40 * c + (i + 1)) (many := many) (x := 40 * c + i) (by omega) _ _ _ _ _ _ _ _ (fun y p hp hq hpm hv => ?_) many fuel y3 (by unfold fuel; omega) (Nat.le_refl _) h5.q (fun k hk hne => h5.2.2.2.2 k (by omega)) ⟨⟨c, i, hc, hi, rfl⟩, kw5⟩
        refine Ok_wdN rfl (by omega) (by decide) (Ok_li ?_)
        have em : nI many + 1 = nI (many + 1) := nI_1 many
        rw [em]
        have h6 := hp.w66 (nI p) (nI (40 * c + i))
        refine hnext _ _ v4 (many + 1) (by omega) ⟨h6.1, h6.2.1, h6.2.2.1, h6.2.2.2.1, fun k hk => ?_⟩
        by_cases he : k = p
        · rw [he]
          exact ⟨40 * c + i, sw_A (by omega), hv.wd (by decide) _ _⟩
        · obtain ⟨z, z1, z2⟩ := hq k (by omega) he
          exact ⟨z, sw_An (by omega) he z1, z2.wd (by decide) _ _⟩
theorem ok_plan136 {w : GS} (hI : Inv w) (h13 : ∀ c, c < 4 → w.2.2 13 c = true) {nc : Nat → Nat} (hnc : ∀ c, c < 4 → Kd w c (nc c)) (v1 v2 : Int32) (K : Int32 → Int32 → Int32 → Int32 → Int32 → Int32 → PG Int32) (Q : Int32 → GS → Prop) (hK : ∀ v v3 v4 v6 many, many ≤ 160 → Pn w nc v 160 many → Ok (K v1 v2 v3 v4 (nI many) v6) v Q) :
    ∀ (t c m many : Nat) (v : GS) (v3 v4 : Int32), c + t = 4 → t < m → many ≤ 40 * c → Pn w nc v (40 * c) many → Ok (lp_plan_136 m v1 v2 v3 v4 (nI many) (nI c) K) v Q := by
  intro t
  induction t with
  | zero =>
    intro c m many v v3 v4 h1 h2 hm h
    cases m with
    | zero => omega
    | succ m =>
      have : c = 4 := by omega
      subst this
      unfold lp_plan_136
      exact Ok_ite (fun _ => hK v v3 v4 _ many (by omega) h) (fun z => absurd (Int32.le_refl _) z)
  | succ t ih =>
    intro c m many v v3 v4 h1 h2 hm h
    cases m with
    | zero => omega
    | succ m =>
      unfold lp_plan_136
      refine Ok_ite (fun z => absurd ((nI_le4 (k := c) (n := 4) (by omega) (by decide)).mp z) (by omega)) (fun _ => ?_)
      refine ok_plan145 hI h13 hnc c (by omega) v1 v2 _ _ (fun v v3 v4 v7 many hm h => Ok_li ?_) 40 0 fuel many v v3 v4 (by omega) (by unfold fuel; omega) (by omega) h
      rw [nI_1]
      exact ih (c + 1) m many v v3 v4 (by omega) (by omega) hm h
theorem ok_plan41 {w : GS} (hI : Inv w) {nc : Nat → Nat} (v1 v2 v3 v4 v5 : Int32) (K : Int32 → Int32 → Int32 → Int32 → Int32 → Int32 → PG Int32) (Q : Int32 → GS → Prop) (hK : ∀ v v6, PW w v → (∀ f, f < nF w → v.2.2 70 f = true) → Ok (K v1 v2 v3 v4 v5 v6) v Q) :
    ∀ (t f m : Nat) (v : GS), f + t = nF w → t < m → PW w v → (∀ g, g < f → v.2.2 70 g = true) → Ok (lp_plan_41 m v1 v2 v3 v4 v5 (nI f) K) v Q := by
  have h96 := hI.1.1.2.2
  intro t
  induction t with
  | zero =>
    intro f m v h1 h2 hP h70
    have hIv := hP.inv hI
    have hn : nF v = nF w := by unfold nF; rw [hP.1]
    cases m with
    | zero => omega
    | succ m =>
      have : f = nF w := by omega
      subst this
      unfold lp_plan_41
      refine Ok_rfN ⟨hIv.1.1.1, hIv.1.1.2.1⟩ ?_
      rw [hn]
      exact Ok_ite (fun _ => hK v _ hP h70) (fun z => absurd (Int32.le_refl _) z)
  | succ t ih =>
    intro f m v h1 h2 hP h70
    have hIv := hP.inv hI
    have hn : nF v = nF w := by unfold nF; rw [hP.1]
    cases m with
    | zero => omega
    | succ m =>
      obtain ⟨-, -, -, -, -, -, g11⟩ := hIv.1.2.2.1 f (by omega)
      have hs : ∀ x : Int32, (∀ g, g < f + 1 → (swd 70 (nI f) x v).2.2 70 g = true) := fun x g hg => by
        by_cases he : g = f
        · rw [he]; exact sw_me (v := x) (by omega)
        · exact sw_mm (h70 g (by omega))
      unfold lp_plan_41
      refine Ok_rfN ⟨hIv.1.1.1, hIv.1.1.2.1⟩ ?_
      rw [hn]
      refine Ok_ite (fun z => absurd z (nI_ge (by omega) (by omega))) (fun _ => Ok_rdN rfl (by omega) (by decide) (Am.val g11) (Ok_ite (fun _ => Ok_wdN rfl (by omega) (by decide) (Ok_li ?_)) (fun _ => ?_)))
      · rw [nI_1]
        exact ih (f + 1) m _ (by omega) (by omega) (hP.wd (by decide) _ _) (hs _)
      · refine Ok_rdN rfl (by omega) (by decide) (Am.val g11) (Ok_rf hIv.1.2.1.2.1 (Ok_wdN rfl (by omega) (by decide) (Ok_li ?_)))
        rw [nI_1]
        exact ih (f + 1) m _ (by omega) (by omega) (hP.wd (by decide) _ _) (hs _)
theorem ok_plan93 {w : GS} (hI : Inv w) {nc : Nat → Nat} (v1 v2 v3 v4 v5 : Int32) (K : Int32 → Int32 → Int32 → Int32 → Int32 → Int32 → PG Int32) (Q : Int32 → GS → Prop) (hK : ∀ v v6, Pn w nc v 0 0 → Ok (K v1 v2 v3 v4 v5 v6) v Q) :
    ∀ (t j m : Nat) (v : GS), j + t = 4 → t < m → PW w v → (∀ f, f < nF w → v.2.2 70 f = true) → (∀ g, g < j → v.2.2 71 g = true) → Ok (lp_plan_93 m v1 v2 v3 v4 v5 (nI j) K) v Q := by
  intro t
  induction t with
  | zero =>
    intro j m v h1 h2 hP h70 h71
    cases m with
    | zero => omega
    | succ m =>
      have : j = 4 := by omega
      subst this
      unfold lp_plan_93
      exact Ok_ite (fun _ => hK v _ ⟨hP, h70, h71, fun x hx => absurd hx (Nat.not_lt_zero _), fun x hx => absurd hx (Nat.not_lt_zero _)⟩) (fun z => absurd (Int32.le_refl _) z)
  | succ t ih =>
    intro j m v h1 h2 hP h70 h71
    have hIv := hP.inv hI
    cases m with
    | zero => omega
    | succ m =>
      have hs : ∀ x : Int32, (∀ g, g < j + 1 → (swd 71 (nI j) x v).2.2 71 g = true) := fun x g hg => by
        by_cases he : g = j
        · rw [he]; exact sw_me (v := x) (by omega)
        · exact sw_mm (h71 g (by omega))
      unfold lp_plan_93
      refine Ok_ite (fun z => absurd ((nI_le4 (k := j) (n := 4) (by omega) (by decide)).mp z) (by omega)) (fun _ => Ok_rdN rfl (by omega) (by decide) (Am.val (hIv.1.2.2.2.2.2.1 j (by omega)).1) (Ok_ite (fun _ => Ok_wdN rfl (by omega) (by decide) (Ok_li ?_)) (fun _ => Ok_rf hIv.1.2.1.1 (Ok_wdN rfl (by omega) (by decide) (Ok_li ?_)))))
      · rw [nI_1]
        exact ih (j + 1) m _ (by omega) (by omega) (hP.wd (by decide) _ _) (fun f hf => sw_mm (h70 f hf)) (hs _)
      · rw [nI_1]
        exact ih (j + 1) m _ (by omega) (by omega) (hP.wd (by decide) _ _) (fun f hf => sw_mm (h70 f hf)) (hs _)
theorem ok_plan467 {w : GS} (hI : Inv w) {nc : Nat → Nat} (hnc : ∀ c, c < 4 → Kd w c (nc c)) {v : GS} {many : Nat} (hmany : many ≤ 160) (h : Pn w nc v 160 many) (v1 v2 v3 v4 v6 v7 : Int32) (K : Int32 → Int32 → Int32 → Int32 → Int32 → Int32 → Int32 → Int32 → Int32 → PG Int32) (Q : Int32 → GS → Prop) (hK : ∀ v8 v9, (v8 = -1 ∨ ∃ x, v8 = nI x ∧ Vx w nc v x) → Ok (K v1 v2 v3 v4 (nI many) v6 v7 v8 v9) v Q) :
    ∀ (t k m : Nat) (v8 : Int32), k + t = many → t < m → (v8 = -1 ∨ ∃ x, v8 = nI x ∧ Vx w nc v x) → Ok (lp_plan_467 m v1 v2 v3 v4 (nI many) v6 v7 v8 (nI k) K) v Q := by
  intro t
  induction t with
  | zero =>
    intro k m v8 h1 h2 h8
    cases m with
    | zero => omega
    | succ m =>
      have : k = many := by omega
      subst this
      unfold lp_plan_467
      exact Ok_ite (fun _ => hK v8 _ h8) (fun z => absurd (Int32.le_refl _) z)
  | succ t ih =>
    intro k m v8 h1 h2 h8
    cases m with
    | zero => omega
    | succ m =>
      have hn : ∀ v8, (v8 = -1 ∨ ∃ x, v8 = nI x ∧ Vx w nc v x) → Ok (pli (nI k + 1) (fun x => lp_plan_467 m v1 v2 v3 v4 (nI many) v6 v7 v8 x K)) v Q := fun v8 h8 => by
        refine Ok_li ?_
        rw [nI_1]
        exact ih (k + 1) m v8 (by omega) (by omega) h8
      obtain ⟨x, x1, x2⟩ := h.2.2.2.2 k (by omega)
      have hx : x < 160 := by
        obtain ⟨⟨c, i, hc, hi, rfl⟩, -⟩ := x2
        have := (hnc c hc).n37
        omega
      unfold lp_plan_467
      refine Ok_ite (fun z => absurd z (nI_ge (by omega) (by omega))) (fun _ => Ok_ite (fun _ => ?_) (fun _ => hK v8 _ h8))
      refine Ok_rdN rfl (by omega) (by decide) x1 (Ok_rdN rfl hx (by decide) (Am.val (h.2.2.2.1 x hx).2.2) (Ok_ite (fun _ => ?_) (fun _ => hn v8 h8)))
      refine Ok_rdN rfl (by omega) (by decide) x1 (Ok_clR (ok_mayBegin hI hnc h x2 v6 v2) (fun _ _ => Ok_ite (fun _ => hn v8 h8) (fun _ => ?_)))
      exact Ok_rdN rfl (by omega) (by decide) x1 (hn (nI x) (Or.inr ⟨x, rfl, x2⟩))
theorem ok_plan436 {w : GS} (hI : Inv w) {nc : Nat → Nat} (hnc : ∀ c, c < 4 → Kd w c (nc c)) {many M : Nat} (hmany : many ≤ 160) (hM : M ≤ 4) (v2 v6 : Int32) (K : Int32 → Int32 → Int32 → Int32 → Int32 → Int32 → Int32 → PG Int32) (Q : Int32 → GS → Prop) (hK : ∀ v v3 v4 v7, Pn w nc v 160 many → Ok (K (nI M) v2 v3 v4 (nI many) v6 v7) v Q) :
    ∀ (t j m : Nat) (v : GS) (v3 v4 : Int32), j + t = M → t < m → Pn w nc v 160 many → Ok (lp_plan_436 m (nI M) v2 v3 v4 (nI many) v6 (nI j) K) v Q := by
  intro t
  induction t with
  | zero =>
    intro j m v v3 v4 h1 h2 h
    cases m with
    | zero => omega
    | succ m =>
      have : j = M := by omega
      subst this
      unfold lp_plan_436
      exact Ok_ite (fun _ => hK v v3 v4 _ h) (fun z => absurd (Int32.le_refl _) z)
  | succ t ih =>
    intro j m v v3 v4 h1 h2 h
    cases m with
    | zero => omega
    | succ m =>
      have hn : ∀ v v3 v4, Pn w nc v 160 many → Ok (pli (nI j + 1) (fun x => lp_plan_436 m (nI M) v2 v3 v4 (nI many) v6 x K)) v Q := fun v v3 v4 h => by
        refine Ok_li ?_
        rw [nI_1]
        exact ih (j + 1) m v v3 v4 (by omega) (by omega) h
      unfold lp_plan_436
      refine Ok_ite (fun z => absurd z (nI_ge (by omega) (by omega))) (fun _ => Ok_ite (fun _ => hK v v3 v4 _ h) (fun _ => ?_))
      refine Ok_rdN rfl (by omega) (by decide) (Am.val (h.2.2.1 j (by omega))) (Ok_ite (fun _ => ?_) (fun _ => hn v v3 v4 h))
      refine ok_plan467 hI hnc hmany h _ _ _ _ _ _ _ _ (fun v8 v9 h8 => Ok_ite (fun _ => hn v v3 v4 h) (fun hne => ?_)) many 0 fuel (-1) (by omega) (by unfold fuel; omega) (Or.inl rfl)
      obtain ⟨x, rfl, x2⟩ := h8.resolve_left hne
      have hx : x < 160 := by
        obtain ⟨⟨c, i, hc, hi, rfl⟩, -⟩ := x2
        have := (hnc c hc).n37
        omega
      refine Ok_wdN rfl hx (by decide) (Ok_wdN rfl hx (by decide) (Ok_wdN rfl hx (by decide) (Ok_wdN rfl (by omega) (by decide) ?_)))
      have h5 := (((h.wd (k := 65) (by decide) (nI x) 2).wd (k := 63) (by decide) (nI x) (nI j)).wd (k := 64) (by decide) (nI x) v6).wd (k := 71) (by decide) (nI j) (v6 + v2)
      have k5 := (((x2.2.wd (k := 65) (by decide) (nI x) 2).wd (k := 63) (by decide) (nI x) (nI j)).wd (k := 64) (by decide) (nI x) v6).wd (k := 71) (by decide) (nI j) (v6 + v2)
      exact Ok_cl (Ok.mono (ok_tires hI h5 hx k5 _) (fun _ y h8 => Ok_li (Ok_li (hn y _ _ h8))))
theorem ok_plan429 {w : GS} (hI : Inv w) {nc : Nat → Nat} (hnc : ∀ c, c < 4 → Kd w c (nc c)) {many M : Nat} (hmany : many ≤ 160) (hM : M ≤ 4) (v2 : Int32) (K : Int32 → Int32 → Int32 → Int32 → Int32 → Int32 → PG Int32) (Q : Int32 → GS → Prop) (hQ : ∀ v, Pn w nc v 160 many → Q (-1) v) (hK : ∀ v v3 v4 v6, Pn w nc v 160 many → Ok (K (nI M) v2 v3 v4 (nI many) v6) v Q) :
    ∀ (t m : Nat) (v : GS) (v3 v4 v6 : Int32), 100001 - v6.toInt ≤ t → t < m → Pn w nc v 160 many → Ok (lp_plan_429 m (nI M) v2 v3 v4 (nI many) v6 K) v Q := by
  have c1 : (100000 : Int32).toInt = 100000 := by decide
  intro t
  induction t with
  | zero =>
    intro m v v3 v4 v6 h1 h2 h
    cases m with
    | zero => omega
    | succ m =>
      unfold lp_plan_429
      refine Ok_ite (fun _ => hK v v3 v4 v6 h) (fun _ => ?_)
      refine ok_plan436 hI hnc hmany hM v2 v6 _ _ (fun v v3 v4 v7 h => Ok_ite (fun _ => Ok_rt (hQ v h)) (fun _ => Ok_ite (fun z => ?_) (fun _ => Ok_rt (hQ v h)))) M 0 fuel v v3 v4 (by omega) (by unfold fuel; omega) h
      exfalso
      have z2 := Int32.le_iff_toInt_le.mp z
      rw [c1] at z2
      omega
  | succ t ih =>
    intro m v v3 v4 v6 h1 h2 h
    cases m with
    | zero => omega
    | succ m =>
      unfold lp_plan_429
      refine Ok_ite (fun _ => hK v v3 v4 v6 h) (fun _ => ?_)
      refine ok_plan436 hI hnc hmany hM v2 v6 _ _ (fun v v3 v4 v7 h => Ok_ite (fun _ => Ok_rt (hQ v h)) (fun _ => Ok_ite (fun z => Ok_li ?_) (fun _ => Ok_rt (hQ v h)))) M 0 fuel v v3 v4 (by omega) (by unfold fuel; omega) h
      have z2 := Int32.le_iff_toInt_le.mp z
      rw [c1] at z2
      have h9 := v6.le_toInt
      have e1 : (v6 + 1).toInt = v6.toInt + 1 := by
        rw [Int32.toInt_add]
        have c9 : (1 : Int32).toInt = 1 := by decide
        rw [c9]
        exact Int.bmod_eq_of_le (by omega) (by omega)
      exact ih m v v3 v4 (v6 + 1) (by rw [e1]; omega) (by omega) h
theorem ok_plan631 {w : GS} {nc : Nat → Nat} (v1 v2 v3 v4 v5 v6 : Int32) (K : Int32 → Int32 → Int32 → Int32 → Int32 → Int32 → Int32 → PG Int32) (Q : Int32 → GS → Prop) (hK : ∀ v v7, PW w v → Ok (K v1 v2 v3 v4 v5 v6 v7) v Q) :
    ∀ (t x m : Nat) (v : GS), x + t = 160 → t < m → PW w v → (∀ y, y < 160 → v.2.2 63 y = true ∧ v.2.2 64 y = true) → Ok (lp_plan_631 m v1 v2 v3 v4 v5 v6 (nI x) K) v Q := by
  intro t
  induction t with
  | zero =>
    intro x m v h1 h2 hP h6
    cases m with
    | zero => omega
    | succ m =>
      have : x = 160 := by omega
      subst this
      unfold lp_plan_631
      exact Ok_ite (fun _ => hK v _ hP) (fun z => absurd (Int32.le_refl _) z)
  | succ t ih =>
    intro x m v h1 h2 hP h6
    cases m with
    | zero => omega
    | succ m =>
      unfold lp_plan_631
      refine Ok_ite (fun z => absurd ((nI_le4 (k := x) (n := 160) (by omega) (by decide)).mp z) (by omega)) (fun _ => ?_)
      refine Ok_rdN rfl (by omega) (by decide) (Am.val (h6 x (by omega)).1) (Ok_wdN rfl (by omega) (by decide) (Ok_rdN rfl (by omega) (by decide) (Am.val (sw_mm (h6 x (by omega)).2)) (Ok_wdN rfl (by omega) (by decide) (Ok_li ?_))))
      rw [nI_1]
      exact ih (x + 1) m _ (by omega) (by omega) ((hP.wd (by decide) _ _).wd (by decide) _ _) (fun y hy => ⟨sw_mm (sw_mm (h6 y hy).1), sw_mm (sw_mm (h6 y hy).2)⟩)
theorem live_pw {N tp n E : Nat} {lg : Nat → En} {s : Nat → GS} {w v : GS} (h : LiveX N tp n E lg s w) (hP : PW w v) : LiveX N tp n E lg s v := by
  have hA := h.2.2.2.2.2.2.2.1
  have hs := (h.2.2.2.2.2.2.1.2.1 n (Nat.le_refl _)).2.2
  obtain ⟨p1, p2, p3⟩ := hP
  refine live_frg h (Nat.le_refl _) (by rw [p1]; exact h.2.1) (by rw [p1]) (by rw [p1]) (p3 52 (by decide)).1 (p3 54 (by decide)).1 (p3 54 (by decide)).2 (fun c hc => by rw [(p3 13 (by decide)).2]; exact hc) ⟨fun k hk hm => ?_, fun k j hk hm => ?_⟩
  · rw [p1, p2]; exact hA.1 k hk hm
  · by_cases hr : 61 ≤ k ∧ k ≤ 71
    · exfalso
      have n61 : ¬ k = 61 := fun z => by subst z; exact absurd hk (by decide)
      have n62 : ¬ k = 62 := fun z => by subst z; exact absurd hk (by decide)
      have n69 : ¬ k = 69 := fun z => by subst z; exact absurd hk (by decide)
      rw [hs.2 k j (Or.inr (Or.inr ⟨by omega, by omega, n69⟩))] at hm
      cases hm
    · rw [(p3 k hr).1, (p3 k hr).2]; exact hA.2 k j hk hm
