/-! ===== the plan, the reference's side: the steps ===== -/
/-- alike but for these rows -/
def Exc (K : List Nat) (v w : GS) : Prop := w.1.1 = v.1.1 ∧ w.2.1 = v.2.1 ∧ ∀ k, ¬ k ∈ K → w.1.2 k = v.1.2 k ∧ w.2.2 k = v.2.2 k
theorem Exc.rf {K : List Nat} (v : GS) : Exc K v v := ⟨rfl, rfl, fun _ _ => ⟨rfl, rfl⟩⟩
theorem Exc.wd {K : List Nat} {v w : GS} (h : Exc K v w) {k : Nat} (hk : k ∈ K) (i x : Int32) : Exc K v (swd k i x w) := ⟨h.1, h.2.1, fun j hj => by
  have a := sw_o (w := w) (k := k) (i := i) (v := x) (k2 := j) (fun z => hj (by rw [z]; exact hk))
  rw [a.1, a.2]
  exact h.2.2 j hj⟩
theorem Exc.trans {K : List Nat} {u v w : GS} (h1 : Exc K u v) (h2 : Exc K v w) : Exc K u w := ⟨h2.1.trans h1.1, h2.2.1.trans h1.2.1, fun k hk => ⟨(h2.2.2 k hk).1.trans (h1.2.2 k hk).1, (h2.2.2 k hk).2.trans (h1.2.2 k hk).2⟩⟩
theorem Exc.up {K K2 : List Nat} {v w : GS} (h : Exc K v w) (hs : ∀ k, k ∈ K → k ∈ K2) : Exc K2 v w := ⟨h.1, h.2.1, fun k hk => h.2.2 k (fun z => hk (hs k z))⟩
theorem Exc.am {K : List Nat} {v w : GS} (h : Exc K v w) {k j : Nat} {x : Int32} (hk : ¬ k ∈ K) (ha : Am v k j x) : Am w k j x := by
  unfold Am
  rw [(h.2.2 k hk).1, (h.2.2 k hk).2]
  exact ha
theorem PW.ex {K : List Nat} {u v w : GS} (h : PW u v) (hE : Exc K v w) (hK : ∀ k, k ∈ K → 61 ≤ k ∧ k ≤ 71) : PW u w := ⟨hE.1.trans h.1, hE.2.1.trans h.2.1, fun k hk => by
  have a := hE.2.2 k (fun z => hk (hK k z))
  rw [a.1, a.2]
  exact h.2.2 k hk⟩
theorem PW.r0 {B : Nat → Int32} {w v : GS} (h : PW w v) (hR : R0 B w) : R0 B v := by
  obtain ⟨h1, h2, h3⟩ := h
  have e := fun k (hk : k < 61) => h3 k (by omega)
  unfold R0 rI rC rF rR rM Am Im nF at hR ⊢
  simp only [h1, h2, (e 0 (by decide)).1, (e 0 (by decide)).2, (e 1 (by decide)).1, (e 1 (by decide)).2, (e 5 (by decide)).1, (e 5 (by decide)).2, (e 6 (by decide)).1, (e 6 (by decide)).2, (e 7 (by decide)).1, (e 7 (by decide)).2, (e 8 (by decide)).1, (e 8 (by decide)).2, (e 9 (by decide)).1, (e 9 (by decide)).2, (e 10 (by decide)).1, (e 10 (by decide)).2, (e 11 (by decide)).1, (e 11 (by decide)).2, (e 12 (by decide)).1, (e 12 (by decide)).2, (e 13 (by decide)).1, (e 13 (by decide)).2, (e 14 (by decide)).1, (e 14 (by decide)).2, (e 15 (by decide)).1, (e 15 (by decide)).2, (e 16 (by decide)).1, (e 16 (by decide)).2, (e 17 (by decide)).1, (e 17 (by decide)).2, (e 18 (by decide)).1, (e 18 (by decide)).2, (e 19 (by decide)).1, (e 19 (by decide)).2, (e 20 (by decide)).1, (e 20 (by decide)).2, (e 21 (by decide)).1, (e 21 (by decide)).2, (e 22 (by decide)).1, (e 22 (by decide)).2, (e 23 (by decide)).1, (e 23 (by decide)).2, (e 24 (by decide)).1, (e 24 (by decide)).2, (e 25 (by decide)).1, (e 25 (by decide)).2, (e 26 (by decide)).1, (e 26 (by decide)).2]
  exact hR
theorem PW.dr {w v : GS} (h : PW w v) {c n : Nat} (hD : Dr w c n) : Dr v c n := by
  have := hD.n37
  rcases (h.kd (Or.inr hD)) with ⟨z, -⟩ | z
  · rcases hD with ⟨s, ⟨-, -, -, -, -, y12, -⟩, -⟩ | ⟨L, ⟨-, -, -, -, -, y12, -⟩, -⟩
    · have y : Am v 12 c 1 := by
        unfold Am
        rw [(h.2.2 12 (by decide)).1, (h.2.2 12 (by decide)).2]
        exact y12
      exact absurd (z.inj y) (by decide)
    · have y : Am v 12 c 2 := by
        unfold Am
        rw [(h.2.2 12 (by decide)).1, (h.2.2 12 (by decide)).2]
        exact y12
      exact absurd (z.inj y) (by decide)
  · exact z
/-- what the reference's planner knows of a fight's state -/
def rst (B : Nat → Int32) (s : PlS) (x : Nat) : Int32 := if pdF B x ∧ ¬ pdV B x then (if (s.2.1 x).isSome = true then 2 else 1) else 0
/-- the base: what doesn't change in the planner's turns -/
def RB (B : Nat → Int32) (w : GS) (v : GS) : Prop := PW w v ∧ ∀ x, pdF B x → ¬ pdV B x → Am v 67 x (pdW B x 0) ∧ Am v 68 x (pdW B x 1)
def RA (B : Nat → Int32) (F : Nat) (s : PlS) (v : GS) : Prop := (∀ f, f < F → Am v 70 f (nI (s.2.2.1 f))) ∧ (∀ m, m < 4 → ∃ g, Am v 71 m (nI g) ∧ (g = s.2.2.2.1 m ∨ (g = 0 ∧ s.2.2.2.1 m = pdT B))) ∧ ∀ x, x < 160 → Am v 65 x (rst B s x) ∧ Am v 63 x (s.2.2.2.2.2.1 x) ∧ Am v 64 x (s.2.2.2.2.2.2 x)
theorem RA.sec {B : Nat → Int32} {F : Nat} {s s2 : PlS} {v : GS} (h : RA B F s v) (e : s2.2 = s.2) : RA B F s2 v := by
  unfold RA rst at h ⊢
  rw [e]
  exact h
def RQu (q : List Nat) (v : GS) : Prop := ∀ k x, q[k]? = some x → Am v 66 k (nI x)
theorem r_rest {B : Nat → Int32} {F : Nat} {v : GS} (hB : PdK B F) (hR : R0 B v) : Im v 4 (nI (pdR B)) := by
  have := hR.1.2.2
  rw [hB.2.2.2.2.2.2.2.2.2.1] at this
  exact this
theorem r_min {B : Nat → Int32} {F : Nat} {v : GS} (hB : PdK B F) (hR : R0 B v) : Im v 3 (nI (pdT B)) := by
  have := hR.1.2.1
  rw [hB.2.2.2.2.2.2.2.2.1] at this
  exact this
theorem r_t68 {B : Nat → Int32} {F x E : Nat} {g : Nat → Nat} {v : GS} {Q : Int32 → GS → Prop} (hB : PdK B F) (hR : R0 B v) (hx : pdF B x) (h68 : Am v 68 x (pdW B x 1)) (hg : ∀ f, f < F → Am v 70 f (nI (g f))) (hgb : ∀ f, f < F → g f < 2 ^ 31) (hE : E + pdR B < 2 ^ 31) (hq : ∀ v1, Exc [70] v v1 → (∀ f, f < F → Am v1 70 f (nI (phd g (pdW B x 1) (E + pdR B) f))) → Q 0 v1) : Ok (prd 68 160 (nI x) (fun x_5 => (if x_5 = (-1) then prt (0 : Int32) else prd 68 160 (nI x) (fun x_9 => prd 68 160 (nI x) (fun x_12 => prd 70 96 x_12 (fun x_15 => prf 4 (fun x_18 => pwd 70 96 x_9 (if x_15 < (nI E + x_18) then (nI E + x_18) else x_15) (prt 0)))))))) v Q := by
  have h160 := (hx.lt hB).2.2.1
  have hF := hB.2.2.2.2.2.1
  refine Ok_rdN rfl h160 (by decide) h68 (Ok_ite (fun hz => Ok_rt (hq v (Exc.rf v) (fun f hf => ?_))) (fun hne => ?_))
  · unfold phd
    rw [if_pos hz]
    exact hg f hf
  · obtain ⟨f, hf, e⟩ := (hB.2.1 x 1 hx (by decide)).resolve_left hne
    rw [e] at h68
    refine Ok_rdN rfl h160 (by decide) h68 (Ok_rdN rfl h160 (by decide) h68 (Ok_rdN rfl (by omega) (by decide) (hg f hf) (Ok_rfN (r_rest hB hR) ?_)))
    rw [nI_add, nI_max (hgb f hf) hE]
    refine Ok_wdN rfl (by omega) (by decide) (Ok_rt (hq _ ((Exc.rf v).wd (by decide) _ _) (fun f2 hf2 => ?_)))
    rw [e]
    unfold phd
    rw [if_neg (nI_ne_1 (by omega)), nI_clamp (by omega)]
    by_cases he : f2 = f
    · rw [he, upN_e]
      exact sw_A (by omega)
    · rw [upN_n he]
      exact sw_An (by omega) he (hg f2 hf2)
theorem r_tires {B : Nat → Int32} {F x E : Nat} {g : Nat → Nat} {w v : GS} {Q : Int32 → GS → Prop} (hB : PdK B F) (hR : R0 B w) (hP : PW w v) (hx : pdF B x) (h67 : Am v 67 x (pdW B x 0)) (h68 : Am v 68 x (pdW B x 1)) (hg : ∀ f, f < F → Am v 70 f (nI (g f))) (hgb : ∀ f, f < F → g f < 1000000) (hE : E + pdR B < 1000000) (hq : ∀ r v1, Exc [70] v v1 → (∀ f, f < F → Am v1 70 f (nI (phd (phd g (pdW B x 0) (E + pdR B)) (pdW B x 1) (E + pdR B) f))) → Q r v1) : Ok (f_tires (nI x) (nI E)) v Q := by
  have h160 := (hx.lt hB).2.2.1
  have hF := hB.2.2.2.2.2.1
  unfold f_tires
  refine Ok_rdN rfl h160 (by decide) h67 (Ok_ite (fun hz => ?_) (fun hne => ?_))
  · refine r_t68 (g := g) hB (hP.r0 hR) hx h68 hg (fun f hf => Nat.lt_trans (hgb f hf) (by decide)) (by omega) (fun v1 h1 h2 => hq 0 v1 h1 (fun f hf => ?_))
    have e : phd g (pdW B x 0) (E + pdR B) = g := by
      unfold phd
      rw [if_pos hz]
    rw [e]
    exact h2 f hf
  · obtain ⟨f, hf, e⟩ := (hB.2.1 x 0 hx (by decide)).resolve_left hne
    have hgf := hgb f hf
    rw [e] at h67
    refine Ok_rdN rfl h160 (by decide) h67 (Ok_rdN rfl h160 (by decide) h67 (Ok_rdN rfl (by omega) (by decide) (hg f hf) (Ok_rfN (r_rest hB (hP.r0 hR)) ?_)))
    rw [nI_add, nI_max (by omega) (by omega)]
    refine Ok_wdN rfl (by omega) (by decide) ?_
    have hEx : Exc [70] v (swd 70 (nI f) (nI (max (g f) (E + pdR B))) v) := (Exc.rf v).wd (by decide) _ _
    refine r_t68 (g := phd g (nI f) (E + pdR B)) hB ((hP.ex hEx (by decide)).r0 hR) hx (hEx.am (by decide) h68) (fun f2 hf2 => ?_) (fun f2 hf2 => Nat.lt_of_le_of_lt (phd_le (N := 1000000) (fun f hf => Nat.le_of_lt (hgb f hf)) (by omega) f2 hf2) (by decide)) (by omega) (fun v1 h1 h2 => hq 0 v1 (hEx.trans h1) (fun f2 hf2 => by rw [e]; exact h2 f2 hf2))
    unfold phd
    rw [if_neg (nI_ne_1 (by omega)), nI_clamp (by omega)]
    by_cases he : f2 = f
    · rw [he, upN_e]
      exact sw_A (by omega)
    · rw [upN_n he]
      exact sw_An (by omega) he (hg f2 hf2)
theorem pbh_some {B : Nat → Int32} {s : PlS} {y : Nat} : pbh B s (some y) = if pdV B y then 0 else (s.2.1 y).elim 1000000 (fun e => e + pdR B) := rfl
theorem r_isOver {B : Nat → Int32} {F d N c j t : Nat} {s : PlS} {w v : GS} (hB : PdK B F) (hR : R0 B w) (hP : PW w v) (hA : RA B F s v) (hI : PlI B d F N s) (hN : N < 1000000) (ht : t < 1000000) (hj : j < 40) (hx : pdF B (40 * c + j)) : Rd (f_isOver (nI c) (nI j) (nI t) (nI d)) v (fun r => r = if pbh B s (some (40 * c + j)) ≤ t then 1 else 0) := by
  have h160 := (hx.lt hB).2.2.1
  obtain ⟨a65, -, a64⟩ := hA.2.2 _ h160
  unfold f_isOver
  refine Rd_li ?_
  rw [ix40, pbh_some]
  by_cases hv : pdV B (40 * c + j)
  · have e : rst B s (40 * c + j) = 0 := by
      unfold rst
      rw [if_neg (fun z => z.2 hv)]
    rw [e] at a65
    rw [if_pos hv, if_pos (Nat.zero_le _)]
    exact Rd_rdN rfl h160 (by decide) a65 (Rd_ite (fun _ => Rd_rt rfl) (fun z => absurd rfl z))
  · rw [if_neg hv]
    cases en : s.2.1 (40 * c + j) with
    | none =>
      have e : rst B s (40 * c + j) = 1 := by
        unfold rst
        rw [if_pos ⟨hx, hv⟩, en, if_neg (by decide)]
      rw [e] at a65
      rw [if_neg (show ¬ (none : Option Nat).elim 1000000 (fun e => e + pdR B) ≤ t from Nat.not_le.mpr ht)]
      refine Rd_rdN rfl h160 (by decide) a65 (Rd_ite (fun z => absurd z (by decide)) (fun _ => ?_))
      exact Rd_rdN rfl h160 (by decide) a65 (Rd_ite (fun z => absurd z (by decide)) (fun _ => Rd_rt rfl))
    | some ed =>
      have e : rst B s (40 * c + j) = 2 := by
        unfold rst
        rw [if_pos ⟨hx, hv⟩, en]
        rfl
      rw [e] at a65
      obtain ⟨b, eb, hb⟩ := hI.2.2.2.2.2.2.2 _ _ en
      have hle := hI.2.2.2.2.1 _ _ en
      rw [eb] at a64
      refine Rd_rdN rfl h160 (by decide) a65 (Rd_ite (fun z => absurd z (by decide)) (fun _ => ?_))
      refine Rd_rdN rfl h160 (by decide) a65 (Rd_ite (fun _ => ?_) (fun z => absurd rfl z))
      refine Rd_rdN rfl h160 (by decide) a64 (Rd_rfN (r_rest hB (hP.r0 hR)) ?_)
      rw [nI_add, nI_add]
      show Rd _ v (fun r => r = if ed + pdR B ≤ t then 1 else 0)
      refine Rd_ite (fun z => Rd_rt ?_) (fun z => Rd_rt ?_)
      · have h1 : ¬ ed + pdR B ≤ t := fun y => absurd (nI_le (a := b + d + pdR B) (b := t) (by omega) (by omega)) (Int32.not_le.mpr z)
        rw [if_neg h1]
      · have h1 : ed + pdR B ≤ t := Nat.not_lt.mp (fun y => z (nI_lt (by omega) (by omega)))
        rw [if_pos h1]
theorem r_mb {B : Nat → Int32} {F d N t x : Nat} {s : PlS} {w v : GS} (hB : PdK B F) (hb : RB B w v) (hA : RA B F s v) (hI : PlI B d F N s) (hN : N < 1000000) (ht : t < 1000000) (hx : pdF B x) (hv : ¬ pdV B x) : Rd (prd 67 160 (nI x) (fun x_9 => (if x_9 = (-1) then prd 68 160 (nI x) (fun x_13 => (if x_13 = (-1) then prt (1 : Int32) else prd 68 160 (nI x) (fun x_17 => prd 70 96 x_17 (fun x_20 => (if nI t < x_20 then prt 0 else prt 1))))) else prd 67 160 (nI x) (fun x_24 => prd 70 96 x_24 (fun x_27 => (if nI t < x_27 then prt 0 else prd 68 160 (nI x) (fun x_31 => (if x_31 = (-1) then prt 1 else prd 68 160 (nI x) (fun x_35 => prd 70 96 x_35 (fun x_38 => (if nI t < x_38 then prt 0 else prt 1))))))))))) v (fun r => r = if (pfr s (pdW B x 0) ≤ t ∧ pfr s (pdW B x 1) ≤ t) then 1 else 0) := by
  have h160 := (hx.lt hB).2.2.1
  have hF := hB.2.2.2.2.2.1
  obtain ⟨a67, a68⟩ := hb.2 x hx hv
  have fv : ∀ k f, f < F → pdW B x k = nI f → pfr s (pdW B x k) = s.2.2.1 f := fun k f hf e => by
    unfold pfr
    rw [e, if_neg (nI_ne_1 (by omega)), nI_clamp (by omega)]
  have f1 : ∀ k, pdW B x k = -1 → pfr s (pdW B x k) = 0 := fun k e => by
    unfold pfr
    rw [if_pos e]
  have cmp : ∀ f, f < F → (nI t < nI (s.2.2.1 f) → ¬ s.2.2.1 f ≤ t) ∧ (¬ nI t < nI (s.2.2.1 f) → s.2.2.1 f ≤ t) := fun f hf => by
    have h1 := hI.2.2.2.1 f hf
    exact ⟨fun z y => absurd (nI_le y (by omega)) (Int32.not_le.mpr z), fun z => Nat.not_lt.mp (fun y => z (nI_lt y (by omega)))⟩
  have hb2 : ∀ P : Prop, (P → pfr s (pdW B x 0) ≤ t) → P → Rd (prd 68 160 (nI x) (fun x_13 => (if x_13 = (-1) then prt (1 : Int32) else prd 68 160 (nI x) (fun x_17 => prd 70 96 x_17 (fun x_20 => (if nI t < x_20 then prt 0 else prt 1)))))) v (fun r => r = if (pfr s (pdW B x 0) ≤ t ∧ pfr s (pdW B x 1) ≤ t) then 1 else 0) := fun P hP p => by
    have h0 := hP p
    refine Rd_rdN rfl h160 (by decide) a68 (Rd_ite (fun z => Rd_rt ?_) (fun hne => ?_))
    · rw [if_pos ⟨h0, by rw [f1 1 z]; exact Nat.zero_le _⟩]
    · obtain ⟨f, hf, e⟩ := (hB.2.1 x 1 hx (by decide)).resolve_left hne
      have a68' := a68
      rw [e] at a68'
      rw [e]
      refine Rd_rdN rfl h160 (by decide) a68' (Rd_rdN rfl (by omega) (by decide) (hA.1 f hf) (Rd_ite (fun z => Rd_rt ?_) (fun z => Rd_rt ?_)))
      · have e2 := fv 1 f hf e
        rw [e] at e2
        rw [if_neg (fun y => (cmp f hf).1 z (by rw [← e2]; exact y.2))]
      · have e2 := fv 1 f hf e
        rw [e] at e2
        rw [if_pos ⟨h0, by rw [e2]; exact (cmp f hf).2 z⟩]
  refine Rd_rdN rfl h160 (by decide) a67 (Rd_ite (fun z => hb2 True (fun _ => by rw [f1 0 z]; exact Nat.zero_le _) trivial) (fun hne => ?_))
  obtain ⟨f, hf, e⟩ := (hB.2.1 x 0 hx (by decide)).resolve_left hne
  have a67' := a67
  rw [e] at a67'
  have e2 := fv 0 f hf e
  refine Rd_rdN rfl h160 (by decide) a67' (Rd_rdN rfl (by omega) (by decide) (hA.1 f hf) (Rd_ite (fun z => Rd_rt ?_) (fun z => ?_)))
  · rw [if_neg (fun y => (cmp f hf).1 z (by rw [← e2]; exact y.1))]
  · exact hb2 True (fun _ => by rw [e2]; exact (cmp f hf).2 z) trivial
theorem bas_ah1 : ∀ L < 6, ∀ r < 6, ∀ i < 32, (1 ≤ r ∧ r < L ∧ bas L r ≤ i ∧ i < bas L (r + 1)) → bas L (r - 1) + 2 * (i - bas L r) = 2 * (i - 2 ^ L / 2) := by decide +kernel
theorem bas_ah2 : ∀ L < 6, ∀ r < 6, ∀ i < 32, (1 ≤ r ∧ r < L ∧ bas L r ≤ i ∧ i < bas L (r + 1)) → 2 ^ L / 2 ≤ i := by decide +kernel
theorem bas_ah3 : ∀ L < 6, ∀ r < 6, ∀ i < 32, (1 ≤ r ∧ r < L ∧ bas L r ≤ i ∧ i < bas L (r + 1)) → 2 * (i - 2 ^ L / 2) + 1 < 2 ^ L - 1 := by decide +kernel
theorem bas_b1 : ∀ L < 6, 3 ≤ L → bas L 0 = 0 ∧ bas L 1 = 2 ^ L / 2 := by decide +kernel
theorem r_mayBegin {B : Nat → Int32} {F d N t x n : Nat} {s : PlS} {w v : GS} (hB : PdK B F) (hR : R0 B w) (hb : RB B w v) (hA : RA B F s v) (hI : PlI B d F N s) (hN : N < 1000000) (ht : t < 1000000) (hx : pdF B x) (hv : ¬ pdV B x) (hD : Dr w (x / 40) n) : Rd (f_mayBegin (nI x) (nI t) (nI d)) v (fun r => r = if per B s x ≤ t then 1 else 0) := by
  have hxl := hx.lt hB
  obtain ⟨c, i, ec, ei⟩ : ∃ c i, x / 40 = c ∧ x % 40 = i := ⟨_, _, rfl, rfl⟩
  have ex : x = 40 * c + i := by omega
  rw [ec] at hD
  have hc : c < 4 := by omega
  have hi40 : i < 40 := by omega
  have hin : i < nFi B c := by
    have := hx.2
    rw [ec, ei] at this
    exact this
  have hDv := hb.1.dr hD
  have hRv := hb.1.r0 hR
  have hn : nFi B c = n := nFi_dr hR hD
  have hmb := r_mb hB hb hA hI hN ht hx hv
  have hper : per B s x ≤ t ↔ ((pfr s (pdW B x 0) ≤ t ∧ pfr s (pdW B x 1) ≤ t) ∧ (pbh B s (pdA B x 0) ≤ t ∧ pbh B s (pdA B x 1) ≤ t)) := by
    unfold per
    rw [Nat.max_le, Nat.max_le, Nat.max_le]
  have go : ∀ {r : Int32}, (pbh B s (pdA B x 0) ≤ t ∧ pbh B s (pdA B x 1) ≤ t) → r = (if (pfr s (pdW B x 0) ≤ t ∧ pfr s (pdW B x 1) ≤ t) then 1 else 0) → r = if per B s x ≤ t then 1 else 0 := fun {r} h e => by
    rw [e]
    by_cases z : pfr s (pdW B x 0) ≤ t ∧ pfr s (pdW B x 1) ≤ t
    · rw [if_pos z, if_pos (hper.mpr ⟨z, h⟩)]
    · rw [if_neg z, if_neg (fun y => z (hper.mp y).1)]
  have no : ¬ (pbh B s (pdA B x 0) ≤ t ∧ pbh B s (pdA B x 1) ≤ t) → (0 : Int32) = if per B s x ≤ t then 1 else 0 := fun h => by
    rw [if_neg (fun y => h (hper.mp y).2)]
  obtain ⟨d1, d2⟩ := div40 c hc i hi40
  have ov : ∀ j, pdF B (40 * c + j) → j < 40 → Rd (f_isOver (nI c) (nI j) (nI t) (nI d)) v (fun r => r = if pbh B s (some (40 * c + j)) ≤ t then 1 else 0) := fun j hj hj4 => r_isOver hB hR hb.1 hA hI hN ht hj4 hj
  have h0A : ∀ k, pdA B x k = none → pbh B s (pdA B x k) ≤ t := fun k e => by
    rw [e]
    exact Nat.zero_le _
  unfold f_mayBegin
  refine Rd_li ?_
  have e40 : nI x / 40 = nI c := by rw [ex]; exact d1
  rw [e40]
  refine Rd_li ?_
  have d3 : nI x - nI c * 40 = nI i := by rw [ex, ← d1]; exact d2
  rw [d3]
  rcases hDv with ⟨sz, hPl, -⟩ | ⟨L, hT, hnL⟩
  · obtain ⟨e6, -⟩ := (hRv.kz hc).1 sz hPl
    have hA0 : ∀ k, pdA B x k = none := fun k => by
      unfold pdA
      rw [ec, if_pos e6]
    obtain ⟨-, -, -, -, -, y12, -⟩ := hPl
    exact Rd_rdN rfl hc (by decide) y12 (Rd_ite (fun z => absurd z (by decide)) (fun _ => Rd.mono hmb (fun r hr => go ⟨h0A 0 (hA0 0), h0A 1 (hA0 1)⟩ hr)))
  · obtain ⟨e6, -, ez⟩ := (hRv.kz hc).2 L hT
    obtain ⟨-, -, L3, L5, -, y12, y13, -⟩ := hT
    have h32 := pow_lt32 L5
    have h8 : 8 ≤ 2 ^ L := by
      rcases (by omega : L = 3 ∨ L = 4 ∨ L = 5) with rfl | rfl | rfl <;> decide
    have hA2 : ∀ k, pdA B x k = (paS (2 ^ L) i k).map (fun j => 40 * c + j) := fun k => by
      unfold pdA
      rw [ec, ei, if_neg (by rw [e6]; decide), ez]
    have Fm : ∀ k y, k < 2 → pdA B x k = some y → pdF B y := fun k y hk e => (hB.2.2.2.1 x k y hx hk e).1
    refine Rd_rdN rfl hc (by decide) y12 (Rd_ite (fun _ => ?_) (fun z => absurd rfl z))
    by_cases hs : i < 2 ^ L - 1
    · refine Rd_clR (ok_isSecond0 v c L i hc L5 (by omega) hs y12 y13) (fun r hr => ?_)
      subst hr
      refine Rd_ite (fun _ => ?_) (fun z => absurd rfl z)
      refine Rd_clR (ok_roundOf v c L i hc L5 hs y13) (fun r hr => ?_)
      obtain ⟨k, rfl, k1, k2, k3⟩ := hr
      have ek := ((bas_st L (by omega) k (by omega) L3).2 i (by omega) hs).1 k2 k3
      refine Rd_ite (fun hr0 => ?_) (fun hr0 => ?_)
      · have hk0 : k = 0 := by
          rcases Nat.eq_zero_or_pos k with z | z
          · exact z
          · exact absurd hr0 (nI_ge (a := 0) z (by omega))
        subst hk0
        have hlt : i < 2 ^ L / 2 := by rw [← (bas_b1 L (by omega) L3).2]; exact k3
        have hA0 : ∀ k, pdA B x k = none := fun k => by
          rw [hA2]
          unfold paS
          rw [if_pos hlt]
          rfl
        exact Rd.mono hmb (fun r hr => go ⟨h0A 0 (hA0 0), h0A 1 (hA0 1)⟩ hr)
      · have hk1 : 1 ≤ k := by
          rcases Nat.eq_zero_or_pos k with z | z
          · subst z
            exact absurd (Int32.le_refl _) hr0
          · exact z
        refine Rd_clR (ok_roundOf v c L i hc L5 hs y13) (fun r hr => ?_)
        obtain ⟨k', rfl, k1', k2', k3'⟩ := hr
        have ek' := ((bas_st L (by omega) k' (by omega) L3).2 i (by omega) hs).1 k2' k3'
        have ekk : k' = k := ek'.symm.trans ek
        subst ekk
        have ep : nI k' - 1 = nI (k' - 1) := nI_sub (b := 1) hk1
        rw [ep]
        refine Rd_clR (ok_base v c L (k' - 1) hc L5 (by omega) y13) (fun r hr => ?_)
        subst hr
        refine Rd_clR (ok_base v c L k' hc L5 (by omega) y13) (fun r hr => Rd_li ?_)
        subst hr
        have hb1 := bas_ah1 L (by omega) k' (by omega) i (by omega) ⟨hk1, k1', k2', k3'⟩
        have hb2 := bas_ah2 L (by omega) k' (by omega) i (by omega) ⟨hk1, k1', k2', k3'⟩
        have hb3 := bas_ah3 L (by omega) k' (by omega) i (by omega) ⟨hk1, k1', k2', k3'⟩
        have ej : nI (bas L (k' - 1)) + 2 * (nI i - nI (bas L k')) = nI (2 * (i - 2 ^ L / 2)) := by
          rw [nI_sub k2']
          have e2 : (2 : Int32) * nI (i - bas L k') = nI (2 * (i - bas L k')) := by rw [← nI_mul]; rfl
          rw [e2, nI_add, hb1]
        rw [ej]
        have eA : ∀ k, pdA B x k = some (40 * c + (2 * (i - 2 ^ L / 2) + k)) := fun k => by
          rw [hA2]
          unfold paS
          rw [if_neg (by omega), if_pos hs]
          rfl
        have F0 := Fm 0 _ (by decide) (eA 0)
        have F1 := Fm 1 _ (by decide) (eA 1)
        refine Rd_clR (ov _ F0 (by omega)) (fun r hr => ?_)
        rw [eA 0, eA 1] at no go
        subst hr
        by_cases z0 : pbh B s (some (40 * c + 2 * (i - 2 ^ L / 2))) ≤ t
        · rw [if_pos z0]
          refine Rd_ite (fun y => absurd y (by decide)) (fun _ => ?_)
          rw [nI_1]
          refine Rd_clR (ov _ F1 (by omega)) (fun r hr => ?_)
          subst hr
          by_cases z1 : pbh B s (some (40 * c + (2 * (i - 2 ^ L / 2) + 1))) ≤ t
          · rw [if_pos z1]
            exact Rd_ite (fun y => absurd y (by decide)) (fun _ => Rd.mono hmb (fun r hr => go ⟨z0, z1⟩ hr))
          · rw [if_neg z1]
            exact Rd_ite (fun _ => Rd_rt (no (fun y => z1 y.2))) (fun y => absurd rfl y)
        · rw [if_neg z0]
          exact Rd_ite (fun _ => Rd_rt (no (fun y => z0 y.1))) (fun y => absurd rfl y)
    · obtain ⟨q, rfl⟩ : ∃ q, i = 2 ^ L - 1 + q := ⟨i - (2 ^ L - 1), by omega⟩
      have hq : q < 2 * (L - 2) := by omega
      have est := (stL_pow L (by omega) L3)
      refine Rd_clR (ok_isSecond1 v c L q hc L5 (by omega) y12 y13) (fun r hr => ?_)
      subst hr
      refine Rd_ite (fun z => absurd z (by decide)) (fun _ => ?_)
      refine Rd_clR (ok_rounds v c L hc L5 (by omega) y13) (fun r hr => ?_)
      subst hr
      have ep : nI (L - 1) - 1 = nI (L - 2) := nI_sub (b := 1) (by omega)
      rw [ep]
      refine Rd_clR (ok_base v c L (L - 2) hc L5 (by omega) y13) (fun r hr => ?_)
      subst hr
      refine Rd_clR (ok_halfStep v c L q hc L3 L5 y13 hq).1 (fun r hr => ?_)
      subst hr
      have hq2 : q / (L - 2) < 2 := (lif_rng2 L (by omega) q (by omega) ⟨L3, by omega⟩).1
      rw [nI_add, est.2.1]
      have eA0 : pdA B x 0 = some (40 * c + (2 ^ L - 4 + q / (L - 2))) := by
        rw [hA2]
        unfold paS
        rw [if_neg (by omega), if_neg hs, if_pos rfl, Nat.add_sub_cancel_left, est.1]
        rfl
      have eA1 : pdA B x 1 = if q % (L - 2) = 0 then none else some (40 * c + (2 ^ L - 1 + q - 1)) := by
        rw [hA2]
        unfold paS
        rw [if_neg (by omega), if_neg hs, if_neg (by decide), Nat.add_sub_cancel_left, est.1]
        split <;> rfl
      have F0 := Fm 0 _ (by decide) eA0
      refine Rd_clR (ov _ F0 (by omega)) (fun r hr => ?_)
      rw [eA0] at no go
      subst hr
      by_cases z0 : pbh B s (some (40 * c + (2 ^ L - 4 + q / (L - 2)))) ≤ t
      · rw [if_pos z0]
        refine Rd_ite (fun y => absurd y (by decide)) (fun _ => ?_)
        refine Rd_clR (ok_halfStep v c L q hc L3 L5 y13 hq).2 (fun r hr => ?_)
        subst hr
        have hlt2 := Nat.mod_lt q (y := L - 2) (by omega)
        by_cases hq0 : q % (L - 2) = 0
        · rw [if_pos hq0] at eA1
          rw [hq0]
          exact Rd_ite (fun _ => Rd.mono hmb (fun r hr => go ⟨z0, h0A 1 eA1⟩ hr)) (fun y => absurd (by decide) y)
        · rw [if_neg hq0] at eA1
          have F1 := Fm 1 _ (by decide) eA1
          rw [eA1] at no go
          refine Rd_ite (fun y => absurd y (show ¬ nI (q % (L - 2) + 1) ≤ nI 1 from nI_ge (by omega) (by omega))) (fun _ => ?_)
          have ei1 : nI (2 ^ L - 1 + q) - 1 = nI (2 ^ L - 1 + q - 1) := nI_sub (b := 1) (by omega)
          rw [ei1]
          refine Rd_clR (ov _ F1 (by omega)) (fun r hr => ?_)
          subst hr
          by_cases z1 : pbh B s (some (40 * c + (2 ^ L - 1 + q - 1))) ≤ t
          · rw [if_pos z1]
            exact Rd_ite (fun y => absurd y (by decide)) (fun _ => Rd.mono hmb (fun r hr => go ⟨z0, z1⟩ hr))
          · rw [if_neg z1]
            exact Rd_ite (fun _ => Rd_rt (no (fun y => z1 y.2))) (fun y => absurd rfl y)
      · rw [if_neg z0]
        exact Rd_ite (fun _ => Rd_rt (no (fun y => z0 y.1))) (fun y => absurd rfl y)

