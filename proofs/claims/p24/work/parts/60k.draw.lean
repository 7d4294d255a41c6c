/-! ===== the draw: what it leaves alone ===== -/
def cb (P : Nat → Bool) : Nat → Nat
  | 0 => 0
  | k + 1 => cb P k + if P k = true then 1 else 0
theorem cb_le {P : Nat → Bool} : ∀ k, cb P k ≤ k := by
  intro k
  induction k with
  | zero => exact Nat.le_refl _
  | succ k ih =>
    unfold cb
    by_cases h : P k = true
    · rw [if_pos h]; omega
    · rw [if_neg h]; omega
theorem cb_mono {P : Nat → Bool} {a b : Nat} (h : a ≤ b) : cb P a ≤ cb P b := by
  induction b with
  | zero =>
    have : a = 0 := by omega
    subst this
    exact Nat.le_refl _
  | succ b ih =>
    rcases Nat.lt_or_ge b a with h1 | h1
    · have : a = b + 1 := by omega
      subst this
      exact Nat.le_refl _
    · have h2 := ih h1
      have h3 : cb P b ≤ cb P (b + 1) := Nat.le_add_right (cb P b) _
      omega
theorem cb_lt {P : Nat → Bool} {a b : Nat} (h : a < b) (hp : P a = true) : cb P a < cb P b := by
  have h1 := cb_mono (P := P) (a := a + 1) (b := b) h
  have h2 : cb P (a + 1) = cb P a + 1 := by
    show cb P a + (if P a = true then 1 else 0) = cb P a + 1
    rw [if_pos hp]
  omega
theorem cb_t {P : Nat → Bool} {k : Nat} (h : P k = true) : cb P (k + 1) = cb P k + 1 := by
  show cb P k + (if P k = true then 1 else 0) = cb P k + 1
  rw [if_pos h]
theorem cb_f {P : Nat → Bool} {k : Nat} (h : ¬ P k = true) : cb P (k + 1) = cb P k := by
  show cb P k + (if P k = true then 1 else 0) = cb P k
  rw [if_neg h]
  rfl
/-- f fights in class c and was weighed -/
def due (w : GS) (c f : Nat) : Bool := decide (w.1.2 5 f = nI c ∧ w.1.2 8 f = 1)
theorem due_iff {w : GS} {c f : Nat} : due w c f = true ↔ w.1.2 5 f = nI c ∧ w.1.2 8 f = 1 := decide_eq_true_iff
theorem ok_weighed {w : GS} (hF : iF w) (hG : iG w) (c : Nat) : Rd (f_weighed (nI c)) w (fun r => r = nI (cb (due w c) (nF w))) := by
  have hlp : ∀ (t f n : Nat), f + t = nF w → t < n → Rd (lp_weighed_4 n (nI c) (nI (cb (due w c) f)) (nI f) (fun v1 v2 v3 => prt v2)) w (fun r => r = nI (cb (due w c) (nF w))) := by
    intro t
    induction t with
    | zero =>
      intro f n h1 h2
      cases n with
      | zero => omega
      | succ n =>
        have : f = nF w := by omega
        subst this
        unfold lp_weighed_4
        exact Rd_rfN ⟨hF.1, hF.2.1⟩ (Rd_ite (fun _ => Rd_eq rfl) (fun z => absurd (Int32.le_refl _) z))
    | succ t ih =>
      intro f n h1 h2
      have h96 := hF.2.2
      cases n with
      | zero => omega
      | succ n =>
        obtain ⟨⟨c2, hc2, h5⟩, -, -, m8, -⟩ := hG f (by omega)
        unfold lp_weighed_4
        refine Rd_rfN ⟨hF.1, hF.2.1⟩ (Rd_ite (fun z => absurd z (nI_ge (by omega) (by omega))) (fun _ => ?_))
        refine Rd_rdN rfl (by omega) (by decide) (Am.val h5.1) (Rd_ite (fun e5 => ?_) (fun e5 => ?_))
        · refine Rd_rdN rfl (by omega) (by decide) (Am.val m8) (Rd_ite (fun e8 => Rd_li (Rd_li ?_)) (fun e8 => Rd_li (Rd_li ?_)))
          · have h9 := ih (f + 1) n (by omega) (by omega)
            rw [cb_t (due_iff.mpr ⟨e5, e8⟩)] at h9
            rw [nI_1, nI_1]
            exact h9
          · have h9 := ih (f + 1) n (by omega) (by omega)
            rw [cb_f (fun z => e8 (due_iff.mp z).2)] at h9
            rw [nI_1, Int32.add_zero]
            exact h9
        · refine Rd_li (Rd_li ?_)
          have h9 := ih (f + 1) n (by omega) (by omega)
          rw [cb_f (fun z => e5 (due_iff.mp z).1)] at h9
          rw [nI_1, Int32.add_zero]
          exact h9
  unfold f_weighed
  exact hlp (nF w) 0 fuel (by omega) (by have := hF.2.2; unfold fuel; omega)
/-- v is w but for the draw of class c -/
def DF (c : Nat) (w v : GS) : Prop := v.1.1 = w.1.1 ∧ v.2.1 = w.2.1 ∧ (∀ k, ¬ k = 10 → ¬ (12 ≤ k ∧ k ≤ 14) → ¬ (57 ≤ k ∧ k ≤ 60) → v.1.2 k = w.1.2 k ∧ v.2.2 k = w.2.2 k) ∧ (∀ k, 12 ≤ k → k ≤ 13 → ∀ j, ¬ j = c → v.1.2 k j = w.1.2 k j ∧ v.2.2 k j = w.2.2 k j) ∧ (∀ j, ¬ (32 * c ≤ j ∧ j < 32 * c + 32) → v.1.2 14 j = w.1.2 14 j ∧ v.2.2 14 j = w.2.2 14 j) ∧ (∀ f, ¬ w.1.2 5 f = nI c → v.1.2 10 f = w.1.2 10 f ∧ v.2.2 10 f = w.2.2 10 f) ∧ ∀ f, w.2.2 10 f = true → v.2.2 10 f = true
theorem DF.rf (c : Nat) (w : GS) : DF c w w := ⟨rfl, rfl, fun _ _ _ _ => ⟨rfl, rfl⟩, fun _ _ _ _ _ => ⟨rfl, rfl⟩, fun _ _ => ⟨rfl, rfl⟩, fun _ _ => ⟨rfl, rfl⟩, fun _ z => z⟩
theorem sw_o {w : GS} {k k2 : Nat} {i v : Int32} (h : ¬ k2 = k) : (swd k i v w).1.2 k2 = w.1.2 k2 ∧ (swd k i v w).2.2 k2 = w.2.2 k2 := by
  refine ⟨if_neg h, ?_⟩
  funext j
  exact if_neg h
theorem sw_on {w : GS} {k j j2 : Nat} {v : Int32} (hj : j < 2 ^ 31) (h : ¬ j2 = j) : (swd k (nI j) v w).1.2 k j2 = w.1.2 k j2 ∧ (swd k (nI j) v w).2.2 k j2 = w.2.2 k j2 := by
  refine ⟨sw_vn hj h, ?_⟩
  rw [sw_m hj, if_neg h]
theorem DF.w12 {c : Nat} {w v : GS} (h : DF c w v) (k : Nat) (x : Int32) (hc : c < 4) (hk : 12 ≤ k ∧ k ≤ 13) : DF c w (swd k (nI c) x v) := by
  obtain ⟨a1, a2, a3, a4, a5, a6, a7⟩ := h
  refine ⟨a1, a2, fun k2 h1 h2 h3 => ?_, fun k2 h1 h2 j hj => ?_, fun j hj => ?_, fun f hf => ?_, fun f hf => sw_mm (a7 f hf)⟩
  · have h9 := sw_o (w := v) (k := k) (i := nI c) (v := x) (k2 := k2) (by omega)
    rw [h9.1, h9.2]
    exact a3 k2 h1 h2 h3
  · by_cases he : k2 = k
    · subst he
      have h9 := sw_on (w := v) (k := k2) (j := c) (v := x) (by omega) hj
      rw [h9.1, h9.2]
      exact a4 k2 h1 h2 j hj
    · have h9 := sw_o (w := v) (k := k) (i := nI c) (v := x) (k2 := k2) he
      rw [h9.1, h9.2]
      exact a4 k2 h1 h2 j hj
  · have h9 := sw_o (w := v) (k := k) (i := nI c) (v := x) (k2 := 14) (by omega)
    rw [h9.1, h9.2]
    exact a5 j hj
  · have h9 := sw_o (w := v) (k := k) (i := nI c) (v := x) (k2 := 10) (by omega)
    rw [h9.1, h9.2]
    exact a6 f hf
theorem DF.w57 {c : Nat} {w v : GS} (h : DF c w v) (k : Nat) (i x : Int32) (hk : 57 ≤ k ∧ k ≤ 60) : DF c w (swd k i x v) := by
  obtain ⟨a1, a2, a3, a4, a5, a6, a7⟩ := h
  refine ⟨a1, a2, fun k2 h1 h2 h3 => ?_, fun k2 h1 h2 j hj => ?_, fun j hj => ?_, fun f hf => ?_, fun f hf => sw_mm (a7 f hf)⟩
  · have h9 := sw_o (w := v) (k := k) (i := i) (v := x) (k2 := k2) (by omega)
    rw [h9.1, h9.2]
    exact a3 k2 h1 h2 h3
  · have h9 := sw_o (w := v) (k := k) (i := i) (v := x) (k2 := k2) (by omega)
    rw [h9.1, h9.2]
    exact a4 k2 h1 h2 j hj
  · have h9 := sw_o (w := v) (k := k) (i := i) (v := x) (k2 := 14) (by omega)
    rw [h9.1, h9.2]
    exact a5 j hj
  · have h9 := sw_o (w := v) (k := k) (i := i) (v := x) (k2 := 10) (by omega)
    rw [h9.1, h9.2]
    exact a6 f hf
theorem DF.w14 {c : Nat} {w v : GS} (h : DF c w v) (p : Nat) (x : Int32) (hc : c < 4) (hp : p < 32) : DF c w (swd 14 (nI (32 * c + p)) x v) := by
  obtain ⟨a1, a2, a3, a4, a5, a6, a7⟩ := h
  refine ⟨a1, a2, fun k2 h1 h2 h3 => ?_, fun k2 h1 h2 j hj => ?_, fun j hj => ?_, fun f hf => ?_, fun f hf => sw_mm (a7 f hf)⟩
  · have h9 := sw_o (w := v) (k := 14) (i := nI (32 * c + p)) (v := x) (k2 := k2) (by omega)
    rw [h9.1, h9.2]
    exact a3 k2 h1 h2 h3
  · have h9 := sw_o (w := v) (k := 14) (i := nI (32 * c + p)) (v := x) (k2 := k2) (by omega)
    rw [h9.1, h9.2]
    exact a4 k2 h1 h2 j hj
  · have h9 := sw_on (w := v) (k := 14) (j := 32 * c + p) (v := x) (j2 := j) (by omega) (by omega)
    rw [h9.1, h9.2]
    exact a5 j hj
  · have h9 := sw_o (w := v) (k := 14) (i := nI (32 * c + p)) (v := x) (k2 := 10) (by omega)
    rw [h9.1, h9.2]
    exact a6 f hf
theorem DF.w10 {c : Nat} {w v : GS} (h : DF c w v) (f : Nat) (x : Int32) (hf : f < 96) (h5 : w.1.2 5 f = nI c) : DF c w (swd 10 (nI f) x v) := by
  obtain ⟨a1, a2, a3, a4, a5, a6, a7⟩ := h
  refine ⟨a1, a2, fun k2 h1 h2 h3 => ?_, fun k2 h1 h2 j hj => ?_, fun j hj => ?_, fun f2 hf2 => ?_, fun f hf => sw_mm (a7 f hf)⟩
  · have h9 := sw_o (w := v) (k := 10) (i := nI f) (v := x) (k2 := k2) h1
    rw [h9.1, h9.2]
    exact a3 k2 h1 h2 h3
  · have h9 := sw_o (w := v) (k := 10) (i := nI f) (v := x) (k2 := k2) (by omega)
    rw [h9.1, h9.2]
    exact a4 k2 h1 h2 j hj
  · have h9 := sw_o (w := v) (k := 10) (i := nI f) (v := x) (k2 := 14) (by omega)
    rw [h9.1, h9.2]
    exact a5 j hj
  · have h9 := sw_on (w := v) (k := 10) (j := f) (v := x) (j2 := f2) (by omega) (fun z => hf2 (z ▸ h5))
    rw [h9.1, h9.2]
    exact a6 f2 hf2
theorem DF.nFe {c : Nat} {w v : GS} (h : DF c w v) : nF v = nF w := by
  unfold nF
  rw [h.1]
theorem DF.plc {c : Nat} {w v : GS} (h : DF c w v) {c2 f : Nat} (hc : c < 4) (hc2 : c2 < 4) (hne : ¬ c2 = c) (hp : Plc w c2 f) : Plc v c2 f := by
  obtain ⟨h1, h2, p, h3, h4⟩ := hp
  have hn := h.nFe
  obtain ⟨a1, a2, a3, a4, a5, a6, a7⟩ := h
  have b5 := a3 5 (by decide) (by decide) (by decide)
  have b13 := a4 13 (by decide) (by decide) c2 hne
  have b10 := a6 f (by rw [h2.2]; exact fun z => hne ((nI_eq (by omega) (by omega)).mp z))
  refine ⟨by rw [hn]; exact h1, ?_, p, ?_, ?_⟩
  · unfold Am
    rw [b5.1, b5.2]
    exact h2
  · unfold szP
    rw [b13.1]
    exact h3
  · unfold Am
    rw [b10.1, b10.2]
    exact h4
theorem DF.drs {c : Nat} {w v : GS} (h : DF c w v) {c2 n : Nat} (hc : c < 4) (hne : ¬ c2 = c) (hp : DrS w c2 n) : DrS v c2 n := by
  obtain ⟨h0, h1, hp⟩ := hp
  have hn := h.nFe
  have hP : ∀ f, Plc w c2 f → Plc v c2 f := fun f z => h.plc hc h1 hne z
  obtain ⟨a1, a2, a3, a4, a5, a6, a7⟩ := h
  have b12 := a4 12 (by decide) (by decide) c2 hne
  have b13 := a4 13 (by decide) (by decide) c2 hne
  have e12 : ∀ x, Am w 12 c2 x → Am v 12 c2 x := fun x z => ⟨b12.2.trans z.1, b12.1.trans z.2⟩
  have e13 : ∀ x, Am w 13 c2 x → Am v 13 c2 x := fun x z => ⟨b13.2.trans z.1, b13.1.trans z.2⟩
  have e14 : ∀ p x, p < 32 → Am w 14 (32 * c2 + p) x → Am v 14 (32 * c2 + p) x := fun p x hp z => ⟨(a5 _ (by omega)).2.trans z.1, (a5 _ (by omega)).1.trans z.2⟩
  have es : szP v c2 = szP w c2 := by unfold szP; rw [b13.1]
  refine ⟨by rw [hn]; exact h0, h1, ?_⟩
  rcases hp with hp | hp
  · obtain ⟨s, g1, g2, g3, g4, g5, g6, g7⟩ := hp
    refine Or.inl ⟨s, g1, g2, es.trans g3, e12 _ g4, e13 _ g5, fun p hp => ?_, g7⟩
    obtain ⟨f, k1, k2⟩ := g6 p hp
    exact ⟨f, e14 p _ (by omega) k1, hP f k2⟩
  · obtain ⟨L, g1, g2, g3, g4, g5, g6, g7, g8⟩ := hp
    have h32 := pow_lt32 g2
    refine Or.inr ⟨L, g1, g2, es.trans g3, e12 _ g4, e13 _ g5, fun p hp => ?_, fun j hj => ?_, g8⟩
    · rcases g6 p hp with k1 | ⟨f, k1, k2⟩
      · exact Or.inl (e14 p _ (by omega) k1)
      · exact Or.inr ⟨f, e14 p _ (by omega) k1, hP f k2⟩
    · obtain ⟨f, k1, k2⟩ := g7 j hj
      exact ⟨f, k1, k2.imp (fun z => e14 (2 * j) _ (by omega) z) (fun z => e14 (2 * j + 1) _ (by omega) z)⟩
theorem DrS.ne0 {w : GS} {c n : Nat} (h : DrS w c n) (h0 : Am w 12 c 0) : False := by
  obtain ⟨-, -, h | h⟩ := h
  · obtain ⟨s, -, -, -, h1, -⟩ := h
    exact absurd (h1.inj h0) (by decide)
  · obtain ⟨L, -, -, -, h1, -⟩ := h
    exact absurd (h1.inj h0) (by decide)
theorem draw_inv {w v : GS} (h : Inv w) (c n : Nat) (hc : c < 4) (h0 : Am w 12 c 0) (hd : DF c w v) (hn : DrS v c n) : Inv v := by
  have hF := hd.nFe
  have hdr : ∀ c2 n2, DrS w c2 n2 → DrS v c2 n2 := fun c2 n2 z => by
    by_cases he : c2 = c
    · subst he
      exact absurd h0 (fun z2 => z.ne0 z2)
    · exact hd.drs hc he z
  have hpl : ∀ c2 n2 f, DrS w c2 n2 → Plc w c2 f → Plc v c2 f := fun c2 n2 f z zp => by
    by_cases he : c2 = c
    · subst he
      exact absurd h0 (fun z2 => z.ne0 z2)
    · exact hd.plc hc z.2.1 he zp
  have hd2 := hd
  obtain ⟨a1, a2, a3, a4, a5, a6, a7⟩ := hd2
  have ea : ∀ k, ¬ k = 10 → ¬ (12 ≤ k ∧ k ≤ 14) → ¬ (57 ≤ k ∧ k ≤ 60) → ∀ j x, Am w k j x → Am v k j x := fun k h1 h2 h3 j x z => ⟨by rw [(a3 k h1 h2 h3).2]; exact z.1, by rw [(a3 k h1 h2 h3).1]; exact z.2⟩
  have em : ∀ k, ¬ k = 10 → ¬ (12 ≤ k ∧ k ≤ 14) → ¬ (57 ≤ k ∧ k ≤ 60) → ∀ j, w.2.2 k j = true → v.2.2 k j = true := fun k h1 h2 h3 j z => by rw [(a3 k h1 h2 h3).2]; exact z
  have hsd : ∀ c2 i2, Sds w c2 i2 → Sds v c2 i2 := by
    intro c2 i2 hs
    obtain ⟨n2, g1, g2, ⟨x, x1, x2⟩, y, y1, y2⟩ := hs
    exact ⟨n2, hdr _ _ g1, g2, ⟨x, ea 16 (by decide) (by decide) (by decide) _ _ x1, hpl _ _ _ g1 x2⟩, y, ea 17 (by decide) (by decide) (by decide) _ _ y1, hpl _ _ _ g1 y2⟩
  have e15 := (a3 15 (by decide) (by decide) (by decide)).1
  have e22 := (a3 22 (by decide) (by decide) (by decide)).1
  obtain ⟨⟨jF, jI, jG, jC, jR, jM, jO⟩, jL, jE⟩ := h
  refine ⟨⟨?_, ?_, ?_, ?_, ?_, ?_, ?_⟩, ?_, ?_⟩
  · unfold iF at jF ⊢
    rw [a1, a2, hF]
    exact jF
  · unfold iI at jI ⊢
    rw [a1, a2]
    exact jI
  · intro f hf
    rw [hF] at hf
    obtain ⟨⟨c2, g1, g1'⟩, ⟨k2, g2, g2'⟩, g3, g4, ⟨q, g5, g5'⟩, g6, g7⟩ := jG f hf
    exact ⟨⟨c2, g1, ea 5 (by decide) (by decide) (by decide) _ _ g1'⟩, ⟨k2, g2, ea 6 (by decide) (by decide) (by decide) _ _ g2'⟩, em 7 (by decide) (by decide) (by decide) _ g3, em 8 (by decide) (by decide) (by decide) _ g4, ⟨q, g5, ea 9 (by decide) (by decide) (by decide) _ _ g5'⟩, a7 f g6, em 11 (by decide) (by decide) (by decide) _ g7⟩
  · intro c2 hc2
    obtain ⟨g1, g2, g3, g4⟩ := jC c2 hc2
    refine ⟨em 0 (by decide) (by decide) (by decide) _ g1, em 1 (by decide) (by decide) (by decide) _ g2, ?_, fun i hi => em 15 (by decide) (by decide) (by decide) _ (g4 i hi)⟩
    by_cases he : c2 = c
    · subst he
      exact Or.inr ⟨n, hn⟩
    · have b12 := a4 12 (by decide) (by decide) c2 he
      exact g3.imp (fun z => ⟨b12.2.trans z.1, b12.1.trans z.2⟩) (fun ⟨n2, z⟩ => ⟨n2, hdr _ _ z⟩)
  · intro c2 hc2 i2 hi2 hne
    rw [e15] at hne ⊢
    obtain ⟨k1, k2⟩ := jR c2 hc2 i2 hi2 hne
    refine ⟨hsd _ _ k1, fun z => ?_⟩
    obtain ⟨⟨f, k3, k4⟩, k5, k6, k7⟩ := k2 z
    obtain ⟨n2, g1, -⟩ := k1
    exact ⟨⟨f, ea 18 (by decide) (by decide) (by decide) _ _ k3, hpl _ _ _ g1 k4⟩, em 19 (by decide) (by decide) (by decide) _ k5, em 20 (by decide) (by decide) (by decide) _ k6, em 21 (by decide) (by decide) (by decide) _ k7⟩
  · intro m2 hm2
    obtain ⟨k1, k2⟩ := jM m2 hm2
    refine ⟨em 22 (by decide) (by decide) (by decide) _ k1, fun z => ?_⟩
    rw [e22] at z
    obtain ⟨⟨c2, i2, l1, l2, l3, l4⟩, l5, l6, l7, l8⟩ := k2 z
    exact ⟨⟨c2, i2, l1, l2, by rw [e22]; exact l3, hsd _ _ l4⟩, em 23 (by decide) (by decide) (by decide) _ l5, l6.imp (fun z => ea 25 (by decide) (by decide) (by decide) _ _ z) (fun z => ea 25 (by decide) (by decide) (by decide) _ _ z), l7.imp (fun z => ea 26 (by decide) (by decide) (by decide) _ _ z) (fun z => ea 26 (by decide) (by decide) (by decide) _ _ z), fun k hk => em 24 (by decide) (by decide) (by decide) _ (l8 k hk)⟩
  · intro c2 hc2 i2 hi2 h1
    rw [e15] at h1
    obtain ⟨m, hm, k1⟩ := jO c2 hc2 i2 hi2 h1
    exact ⟨m, hm, by rw [e22]; exact k1⟩
  · exact jL.fr a1 a2 (fun k h1 h2 => a3 k (by omega) (by omega) (by omega))
  · intro m hm z
    rw [e22] at z
    rw [a1]
    exact jE m hm z

