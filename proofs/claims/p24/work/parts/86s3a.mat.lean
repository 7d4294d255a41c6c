/-! ===== a change at one fight, one mat and those who fought ===== -/
def okM (c i m : Nat) (A : Nat → Prop) (k j : Nat) : Prop := (k ≤ 14 ∧ ¬ k = 11) ∨ (k = 11 ∧ ¬ A j) ∨ (15 ≤ k ∧ k ≤ 21 ∧ ¬ j = 40 * c + i) ∨ ((k = 22 ∨ k = 23 ∨ k = 25 ∨ k = 26) ∧ ¬ j = m) ∨ (k = 24 ∧ (j < 16 * m ∨ 16 * m + 16 ≤ j))
def Tq (c i m : Nat) (A : Nat → Prop) (w v : GS) : Prop := v.1.1 = w.1.1 ∧ v.2.1 = w.2.1 ∧ (∀ k j x, okM c i m A k j → Am w k j x → Am v k j x) ∧ LFr w v
theorem Tq.rf (c i m : Nat) (A : Nat → Prop) (w : GS) : Tq c i m A w w := ⟨rfl, rfl, fun _ _ _ _ z => z, LFr.rf w⟩
theorem Tq.sw {c i m : Nat} {A : Nat → Prop} {w v : GS} (h : Tq c i m A w v) {k j : Nat} (hj : j < 2 ^ 31) (x : Int32) (hk : ¬ okM c i m A k j) (h26 : k ≤ 26) : Tq c i m A w (swd k (nI j) x v) := by
  refine ⟨h.1, h.2.1, fun k2 j2 y h2 ha => (h.2.2.1 k2 j2 y h2 ha).sw hj (fun z => ?_), h.2.2.2.wd (by omega) _ _⟩
  rw [z.1, z.2] at h2
  exact hk h2
def BqM (c i m : Nat) (A : Nat → Prop) (B B2 : Nat → Int32) : Prop := ∀ j, ¬ (fc c i ≤ j ∧ j < fc c i + 8) → ¬ (mc0 m ≤ j ∧ j < mc0 m + 21) → (∀ f, f < 96 → A f → ¬ j = 154 + 7 * f) → B2 j = B j
theorem BqM.rf (c i m : Nat) (A : Nat → Prop) (B : Nat → Int32) : BqM c i m A B B := fun _ _ _ _ => rfl
theorem BqM.up {c i m : Nat} {A : Nat → Prop} {B B2 : Nat → Int32} (h : BqM c i m A B B2) {j : Nat} (x : Int32) (hj : (fc c i ≤ j ∧ j < fc c i + 8) ∨ (mc0 m ≤ j ∧ j < mc0 m + 21) ∨ ∃ f, f < 96 ∧ A f ∧ j = 154 + 7 * f) : BqM c i m A B (upd B2 j x) := fun k h1 h2 h3 => by
  rw [upd_n (fun z => by
    subst z
    rcases hj with y | y | ⟨f, hf, hA, y⟩
    · exact h1 y
    · exact h2 y
    · exact h3 f hf hA y)]
  exact h k h1 h2 h3
theorem R0.mat4 {B B2 : Nat → Int32} {w v : GS} {c i m : Nat} {A : Nat → Prop} (h : R0 B w) (h96 : nF w ≤ 96) (hc : c < 4) (hi : i < 37) (hB : BqM c i m A B B2) (hT : Tq c i m A w v) (hA : ∀ f, f < 96 → A f → Am v 11 f (B2 (154 + 7 * f))) (hR : rR B2 v c i) (hM : m < 4 → rM B2 v m) (hon : m < 4 → ∀ c2 i2, c2 < 4 → i2 < 37 → Am w 22 m (nI (40 * c2 + i2)) → c2 = c ∧ i2 = i) : R0 B2 v := by
  obtain ⟨⟨i2, i3, i4⟩, hC, hF, hN, hR0, hM0⟩ := h
  obtain ⟨e1, e2, hT, -⟩ := hT
  have im : ∀ {k x}, Im w k x → Im v k x := fun z => by
    unfold Im at z ⊢
    rw [e1, e2]
    exact z
  have lo : ∀ j, j < 820 → (∀ f, f < 96 → A f → ¬ j = 154 + 7 * f) → B2 j = B j := fun j hj h3 => hB j (by unfold fc; omega) (by unfold mc0; omega) h3
  have lo2 : ∀ j, j < 148 → B2 j = B j := fun j hj => lo j (by omega) (fun f _ _ => by omega)
  have en : nF v = nF w := by unfold nF; rw [e1]
  have okl : ∀ {k j}, k ≤ 14 → ¬ k = 11 → okM c i m A k j := fun a b => Or.inl ⟨a, b⟩
  refine ⟨⟨?_, ?_, ?_⟩, fun c2 hc2 => ?_, fun f hf => ?_, fun f h1 h2 => ?_, fun c2 hc2 i2 hi2 => ?_, fun m2 hm2 => ?_⟩
  · rw [lo2 2 (by decide)]; exact im i2
  · rw [lo2 0 (by decide)]; exact im i3
  · rw [lo2 1 (by decide)]; exact im i4
  · obtain ⟨a, b, d, e⟩ := hC c2 hc2
    unfold rC
    rw [lo2 _ (by omega), lo2 _ (by omega), lo2 _ (by omega), lo2 _ (by omega)]
    refine ⟨hT _ _ _ (okl (by decide) (by decide)) a, hT _ _ _ (okl (by decide) (by decide)) b, hT _ _ _ (okl (by decide) (by decide)) d, fun z => ⟨hT _ _ _ (okl (by decide) (by decide)) (e z).1, fun p h1 h2 => ?_⟩⟩
    rw [lo2 _ (by omega)]
    exact hT _ _ _ (okl (by decide) (by decide)) ((e z).2 p h1 h2)
  · rw [en] at hf
    obtain ⟨a, b, d, e, f1, g, k⟩ := hF f hf
    have lf : ∀ k, k < 6 → B2 (148 + 7 * f + k) = B (148 + 7 * f + k) := fun k hk => lo _ (by omega) (fun f2 _ _ => by omega)
    unfold rF
    have l0 : B2 (148 + 7 * f) = B (148 + 7 * f) := lf 0 (by decide)
    have l1 : B2 (149 + 7 * f) = B (149 + 7 * f) := by
      have := lf 1 (by decide)
      rw [show 148 + 7 * f + 1 = 149 + 7 * f by omega] at this
      exact this
    have l2 : B2 (150 + 7 * f) = B (150 + 7 * f) := by
      have := lf 2 (by decide)
      rw [show 148 + 7 * f + 2 = 150 + 7 * f by omega] at this
      exact this
    have l3 : B2 (151 + 7 * f) = B (151 + 7 * f) := by
      have := lf 3 (by decide)
      rw [show 148 + 7 * f + 3 = 151 + 7 * f by omega] at this
      exact this
    have l4 : B2 (152 + 7 * f) = B (152 + 7 * f) := by
      have := lf 4 (by decide)
      rw [show 148 + 7 * f + 4 = 152 + 7 * f by omega] at this
      exact this
    have l5 : B2 (153 + 7 * f) = B (153 + 7 * f) := by
      have := lf 5 (by decide)
      rw [show 148 + 7 * f + 5 = 153 + 7 * f by omega] at this
      exact this
    rw [l0, l1, l2, l3, l4, l5]
    refine ⟨hT _ _ _ (okl (by decide) (by decide)) a, hT _ _ _ (okl (by decide) (by decide)) b, hT _ _ _ (okl (by decide) (by decide)) d, hT _ _ _ (okl (by decide) (by decide)) e, hT _ _ _ (okl (by decide) (by decide)) f1, hT _ _ _ (okl (by decide) (by decide)) g, ?_⟩
    by_cases hAf : A f
    · exact hA f (by omega) hAf
    · rw [lo _ (by omega) (fun f2 _ h2 z => hAf (by
        have : f2 = f := by omega
        rw [← this]
        exact h2))]
      exact hT _ _ _ (Or.inr (Or.inl ⟨rfl, hAf⟩)) k
  · rw [en] at h1
    have z := hN f h1 h2
    unfold rN at z ⊢
    rw [lo _ (by omega) (fun f2 _ _ => by omega), lo _ (by omega) (fun f2 _ _ => by omega)]
    exact z
  · by_cases he : c2 = c ∧ i2 = i
    · rw [he.1, he.2]
      exact hR
    · have hne : ¬ 40 * c2 + i2 = 40 * c + i := fun z => he (by omega)
      have q : ∀ k, k < 8 → B2 (fc c2 i2 + k) = B (fc c2 i2 + k) := fun k hk => hB _ (by unfold fc; omega) (by unfold fc mc0; omega) (fun f hf _ => by unfold fc; omega)
      have q0 : B2 (fc c2 i2) = B (fc c2 i2) := q 0 (by decide)
      have ok : ∀ {k}, 15 ≤ k → k ≤ 21 → okM c i m A k (40 * c2 + i2) := fun a b => Or.inr (Or.inr (Or.inl ⟨a, b, hne⟩))
      rcases hR0 c2 hc2 i2 hi2 with ⟨a, b⟩ | ⟨⟨a, b, m2, d, e, f⟩ | ⟨a, b, d, e, f, g⟩, y, z⟩
      · exact Or.inl ⟨q0.trans a, hT _ _ _ (ok (by decide) (by decide)) b⟩
      · refine Or.inr ⟨Or.inl ⟨q0.trans a, hT _ _ _ (ok (by decide) (by decide)) b, m2, d, (q 7 (by decide)).trans e, hT _ _ _ (Or.inr (Or.inr (Or.inr (Or.inl ⟨Or.inl rfl, fun z => ?_⟩)))) f⟩, ?_, ?_⟩
        · exact he (hon (by omega) c2 i2 hc2 hi2 (by rw [← z]; exact f))
        · rw [q 1 (by decide)]; exact hT _ _ _ (ok (by decide) (by decide)) y
        · rw [q 2 (by decide)]; exact hT _ _ _ (ok (by decide) (by decide)) z
      · refine Or.inr ⟨Or.inr ⟨q0.trans a, hT _ _ _ (ok (by decide) (by decide)) b, ?_, ?_, ?_, ?_⟩, ?_, ?_⟩
        · rw [q 3 (by decide)]; exact hT _ _ _ (ok (by decide) (by decide)) d
        · rw [q 4 (by decide)]; exact hT _ _ _ (ok (by decide) (by decide)) e
        · rw [q 5 (by decide)]; exact hT _ _ _ (ok (by decide) (by decide)) f
        · rw [q 6 (by decide)]; exact hT _ _ _ (ok (by decide) (by decide)) g
        · rw [q 1 (by decide)]; exact hT _ _ _ (ok (by decide) (by decide)) y
        · rw [q 2 (by decide)]; exact hT _ _ _ (ok (by decide) (by decide)) z
  · by_cases he : m2 = m
    · rw [he]
      exact hM (by omega)
    · have q : ∀ k, k < 21 → B2 (mc0 m2 + k) = B (mc0 m2 + k) := fun k hk => hB _ (by unfold fc mc0; omega) (by unfold mc0; omega) (fun f hf _ => by unfold mc0; omega)
      have q0 : B2 (mc0 m2) = B (mc0 m2) := q 0 (by decide)
      have ok : ∀ {k}, (k = 22 ∨ k = 23 ∨ k = 25 ∨ k = 26) → okM c i m A k m2 := fun a => Or.inr (Or.inr (Or.inr (Or.inl ⟨a, he⟩)))
      rcases hM0 m2 hm2 with ⟨a, b⟩ | ⟨c2, i2, a, b, d, e, f, g, k, l, n⟩
      · exact Or.inl ⟨(q 1 (by decide)).trans a, hT _ _ _ (ok (Or.inl rfl)) b⟩
      · refine Or.inr ⟨c2, i2, a, b, q0.trans d, (q 1 (by decide)).trans e, hT _ _ _ (ok (Or.inl rfl)) f, ?_, ?_, ?_, fun j hj => ?_⟩
        · rw [q 2 (by decide)]; exact hT _ _ _ (ok (Or.inr (Or.inl rfl))) g
        · rw [q 3 (by decide)]; exact hT _ _ _ (ok (Or.inr (Or.inr (Or.inl rfl)))) k
        · rw [q 4 (by decide)]; exact hT _ _ _ (ok (Or.inr (Or.inr (Or.inr rfl)))) l
        · have e9 : mc0 m2 + 5 + j = mc0 m2 + (5 + j) := by omega
          rw [e9, q (5 + j) (by omega), ← e9]
          exact hT _ _ _ (Or.inr (Or.inr (Or.inr (Or.inr ⟨rfl, by omega⟩)))) (n j hj)
theorem R0.mat {B B2 : Nat → Int32} {w v : GS} {c i m : Nat} {A : Nat → Prop} (h : R0 B w) (h96 : nF w ≤ 96) (hc : c < 4) (hi : i < 37) (hm : m < 4) (hB : BqM c i m A B B2) (hT : Tq c i m A w v) (hA : ∀ f, f < 96 → A f → Am v 11 f (B2 (154 + 7 * f))) (hR : rR B2 v c i) (hM : rM B2 v m) (hon : ∀ c2 i2, c2 < 4 → i2 < 37 → Am w 22 m (nI (40 * c2 + i2)) → c2 = c ∧ i2 = i) : R0 B2 v := h.mat4 h96 hc hi hB hT hA hR (fun _ => hM) (fun _ => hon)
/-! the fight on a mat -/
def OnM (B : Nat → Int32) (w : GS) (m c i : Nat) : Prop := c < 4 ∧ i < 37 ∧ B (mc0 m) = nI c ∧ B (mc0 m + 1) = nI i ∧ Am w 22 m (nI (40 * c + i)) ∧ Am w 23 m (B (mc0 m + 2)) ∧ Am w 25 m (B (mc0 m + 3)) ∧ Am w 26 m (B (mc0 m + 4)) ∧ ∀ k, k < 16 → Am w 24 (16 * m + k) (B (mc0 m + 5 + k))
theorem R0.onm {B : Nat → Int32} {w : GS} {m : Nat} (h : R0 B w) (hm : m < 4) : (B (mc0 m + 1) = -1 ∧ Am w 22 m (-1)) ∨ ∃ c i, OnM B w m c i := (h.2.2.2.2.2 m hm).imp (fun z => z) (fun ⟨c, i, a, b, d, e, f, g, k, l, n⟩ => ⟨c, i, a, b, d, e, f, g, k, l, n⟩)
theorem OnM.un {B : Nat → Int32} {w : GS} {m c i : Nat} (h : OnM B w m c i) (c2 i2 : Nat) (hc2 : c2 < 4) (hi2 : i2 < 37) (ha : Am w 22 m (nI (40 * c2 + i2))) : c2 = c ∧ i2 = i := by
  obtain ⟨hc, hi, -, -, h22, -⟩ := h
  have := (nI_eq (by omega) (by omega)).mp (ha.inj h22)
  omega
theorem OnM.ne {B : Nat → Int32} {w : GS} {m c i : Nat} (h : OnM B w m c i) : ¬ B (mc0 m + 1) = -1 ∧ ¬ w.1.2 22 m = -1 := by
  obtain ⟨hc, hi, -, h1, h22, -⟩ := h
  rw [h1, h22.2]
  exact ⟨nI_ne_1 (by omega), nI_ne_1 (by omega)⟩
/-- one cell of an open mat is written on both sides -/
theorem R0.cell {B : Nat → Int32} {w : GS} {m c i a j k : Nat} (h : R0 B w) (h96 : nF w ≤ 96) (hm : m < 4) (hO : OnM B w m c i) (x : Int32) (hk : (a = 23 ∧ k = 2 ∧ j = m) ∨ (a = 25 ∧ k = 3 ∧ j = m) ∨ (a = 26 ∧ k = 4 ∧ j = m) ∨ (a = 24 ∧ 5 ≤ k ∧ k < 21 ∧ j = 16 * m + (k - 5))) : R0 (upd B (mc0 m + k) x) (swd a (nI j) x w) ∧ OnM (upd B (mc0 m + k) x) (swd a (nI j) x w) m c i := by
  have hO2 := hO
  obtain ⟨hc, hi, b0, b1, o22, o23, o25, o26, o24⟩ := hO2
  have hj : j < 2 ^ 31 := by omega
  have hk21 : 2 ≤ k ∧ k < 21 := by omega
  have hO3 : OnM (upd B (mc0 m + k) x) (swd a (nI j) x w) m c i := by
    refine ⟨hc, hi, ?_, ?_, o22.sw hj (by omega), ?_, ?_, ?_, fun y hy => ?_⟩
    · rw [upd_n (by omega)]; exact b0
    · rw [upd_n (by omega)]; exact b1
    · by_cases hz : k = 2
      · have : a = 23 ∧ j = m := by omega
        rw [hz, upd_e, this.1, this.2]
        exact sw_A (by omega)
      · rw [upd_n (by omega)]
        exact o23.sw hj (by omega)
    · by_cases hz : k = 3
      · have : a = 25 ∧ j = m := by omega
        rw [hz, upd_e, this.1, this.2]
        exact sw_A (by omega)
      · rw [upd_n (by omega)]
        exact o25.sw hj (by omega)
    · by_cases hz : k = 4
      · have : a = 26 ∧ j = m := by omega
        rw [hz, upd_e, this.1, this.2]
        exact sw_A (by omega)
      · rw [upd_n (by omega)]
        exact o26.sw hj (by omega)
    · by_cases hz : k = 5 + y
      · have : a = 24 ∧ j = 16 * m + y := by omega
        have e : mc0 m + 5 + y = mc0 m + (5 + y) := by omega
        rw [hz, e, upd_e, this.1, this.2]
        exact sw_A (by omega)
      · rw [upd_n (by omega)]
        exact (o24 y hy).sw hj (by omega)
  refine ⟨?_, hO3⟩
  have hT : Tq c i m (fun _ => False) w (swd a (nI j) x w) := (Tq.rf _ _ _ _ _).sw hj x (fun z => by unfold okM at z; omega) (by omega)
  refine h.mat h96 hc hi hm (A := fun _ => False) ((BqM.rf _ _ _ _ _).up x (Or.inr (Or.inl (by omega)))) hT (fun _ _ z => z.elim) ?_ (Or.inr ⟨c, i, hO3⟩) hO.un
  have q : ∀ y, y < 8 → upd B (mc0 m + k) x (fc c i + y) = B (fc c i + y) := fun y hy => upd_n (by unfold fc mc0; omega)
  have q0 : upd B (mc0 m + k) x (fc c i) = B (fc c i) := q 0 (by decide)
  have t : ∀ {k2 j2 z}, 15 ≤ k2 → k2 ≤ 22 → Am w k2 j2 z → Am (swd a (nI j) x w) k2 j2 z := fun a1 a2 z => z.sw hj (by omega)
  unfold rR
  rw [q0, q 1 (by decide), q 2 (by decide), q 3 (by decide), q 4 (by decide), q 5 (by decide), q 6 (by decide), q 7 (by decide)]
  rcases h.2.2.2.2.1 c hc i hi with ⟨a1, b⟩ | ⟨⟨a1, b, m2, d, e, f⟩ | ⟨a1, b, d, e, f, g⟩, y, z⟩
  · exact Or.inl ⟨a1, t (by decide) (by decide) b⟩
  · exact Or.inr ⟨Or.inl ⟨a1, t (by decide) (by decide) b, m2, d, e, t (by decide) (by decide) f⟩, t (by decide) (by decide) y, t (by decide) (by decide) z⟩
  · exact Or.inr ⟨Or.inr ⟨a1, t (by decide) (by decide) b, t (by decide) (by decide) d, t (by decide) (by decide) e, t (by decide) (by decide) f, t (by decide) (by decide) g⟩, t (by decide) (by decide) y, t (by decide) (by decide) z⟩

