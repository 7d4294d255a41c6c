/-! ===== the reference's state between two calls ===== -/
/-- what no fight changes: who is drawn where -/
def DrS (w : GS) (c n : Nat) : Prop := nF w ≤ 96 ∧ c < 4 ∧ ((∃ s, 2 ≤ s ∧ s ≤ 5 ∧ szP w c = s ∧ Am w 12 c 1 ∧ Am w 13 c (nI s) ∧ (∀ p, p < s → ∃ f, Am w 14 (32 * c + p) (nI f) ∧ Plc w c f) ∧ n = s * (s - 1) / 2) ∨
  ∃ L, 3 ≤ L ∧ L ≤ 5 ∧ szP w c = 2 ^ L ∧ Am w 12 c 2 ∧ Am w 13 c (nI (2 ^ L)) ∧ (∀ p, p < 2 ^ L → Am w 14 (32 * c + p) (-1) ∨ ∃ f, Am w 14 (32 * c + p) (nI f) ∧ Plc w c f) ∧ (∀ j, 2 * j + 1 < 2 ^ L → ∃ f, f < 96 ∧ (Am w 14 (32 * c + 2 * j) (nI f) ∨ Am w 14 (32 * c + (2 * j + 1)) (nI f))) ∧ n = 2 ^ L - 1 + 2 * (L - 2))
def Res (w : GS) (c : Nat) : Prop := ∀ i, i < 40 → w.2.2 15 (40 * c + i) = true ∧ (w.1.2 15 (40 * c + i) = 2 → ∃ f, Am w 18 (40 * c + i) (nI f) ∧ Plc w c f)
theorem DrS.dr {w : GS} {c n : Nat} (h : DrS w c n) (hr : Res w c) : Dr w c n := by
  obtain ⟨h0, h1, h | h⟩ := h
  · obtain ⟨s, a, b, d, e, f, g, k⟩ := h
    exact Or.inl ⟨s, ⟨h0, h1, a, b, d, e, f, g, hr⟩, k⟩
  · obtain ⟨L, a, b, d, e, f, g, k, z⟩ := h
    exact Or.inr ⟨L, ⟨h0, h1, a, b, d, e, f, g, k, hr⟩, z⟩
theorem DrS.n37 {w : GS} {c n : Nat} (h : DrS w c n) : n ≤ 37 := by
  obtain ⟨h0, h1, h | h⟩ := h
  · obtain ⟨s, a, b, d, e, f, g, rfl⟩ := h
    have hh : ∀ s < 6, s * (s - 1) / 2 ≤ 37 := by decide +kernel
    exact hh s (by omega)
  · obtain ⟨L, a, b, d, e, f, g, k, rfl⟩ := h
    have hh : ∀ L < 6, 2 ^ L - 1 + 2 * (L - 2) ≤ 37 := by decide +kernel
    exact hh L (by omega)
/-- the same people and places -/
def St (w v : GS) : Prop := v.1.1 2 = w.1.1 2 ∧ v.1.2 10 = w.1.2 10 ∧ v.1.2 12 = w.1.2 12 ∧ v.1.2 13 = w.1.2 13 ∧ v.1.2 14 = w.1.2 14 ∧ v.2.2 10 = w.2.2 10 ∧ v.2.2 12 = w.2.2 12 ∧ v.2.2 13 = w.2.2 13 ∧ v.2.2 14 = w.2.2 14 ∧ v.1.2 5 = w.1.2 5 ∧ v.2.2 5 = w.2.2 5
theorem St.plc {w v : GS} (h : St w v) {c f : Nat} (hp : Plc w c f) : Plc v c f := by
  obtain ⟨a, b, d, e, f1, g, k, l, m, x1, x2⟩ := h
  unfold Plc nF szP Am at hp ⊢
  rw [a, b, e, g, x1, x2]
  exact hp
theorem St.drs {w v : GS} (h : St w v) {c n : Nat} (hp : DrS w c n) : DrS v c n := by
  obtain ⟨a, b, d, e, f1, g, k, l, m, x1, x2⟩ := h
  unfold DrS Plc nF szP Am at hp ⊢
  rw [a, b, d, e, f1, g, k, l, m, x1, x2]
  exact hp
def iF (w : GS) : Prop := w.2.1 2 = true ∧ w.1.1 2 = nI (nF w) ∧ nF w ≤ 96
def iI (w : GS) : Prop := w.2.1 3 = true ∧ w.2.1 4 = true ∧ w.2.1 29 = true ∧ w.2.1 30 = true ∧ w.2.1 31 = true ∧ ∃ g, g ≤ 8 ∧ w.1.1 29 = nI g
def iG (w : GS) : Prop := ∀ f, f < nF w → (∃ c, c < 4 ∧ Am w 5 f (nI c)) ∧ (∃ k, k < 16 ∧ Am w 6 f (nI k)) ∧ w.2.2 7 f = true ∧ w.2.2 8 f = true ∧ (∃ q, q ≤ 8 ∧ Am w 9 f (nI q)) ∧ w.2.2 10 f = true ∧ w.2.2 11 f = true
def iC (w : GS) : Prop := ∀ c, c < 4 → w.2.2 0 c = true ∧ w.2.2 1 c = true ∧ (Am w 12 c 0 ∨ ∃ n, DrS w c n) ∧ ∀ i, i < 40 → w.2.2 15 (40 * c + i) = true
/-- those of fight i of class c -/
def Sds (w : GS) (c i : Nat) : Prop := ∃ n, DrS w c n ∧ i < n ∧ (∃ a, Am w 16 (40 * c + i) (nI a) ∧ Plc w c a) ∧ ∃ b, Am w 17 (40 * c + i) (nI b) ∧ Plc w c b
def iR (w : GS) : Prop := ∀ c, c < 4 → ∀ i, i < 40 → ¬ w.1.2 15 (40 * c + i) = 0 → Sds w c i ∧ (w.1.2 15 (40 * c + i) = 2 → (∃ f, Am w 18 (40 * c + i) (nI f) ∧ Plc w c f) ∧ w.2.2 19 (40 * c + i) = true ∧ w.2.2 20 (40 * c + i) = true ∧ w.2.2 21 (40 * c + i) = true)
def Mt (w : GS) (m : Nat) : Prop := (∃ c i, c < 4 ∧ i < 40 ∧ w.1.2 22 m = nI (40 * c + i) ∧ Sds w c i) ∧ w.2.2 23 m = true ∧ (Am w 25 m 0 ∨ Am w 25 m 1) ∧ (Am w 26 m 0 ∨ Am w 26 m 1) ∧ ∀ k, k < 16 → w.2.2 24 (16 * m + k) = true
def iM (w : GS) : Prop := ∀ m, m < 4 → w.2.2 22 m = true ∧ (¬ w.1.2 22 m = -1 → Mt w m)
def iO (w : GS) : Prop := ∀ c, c < 4 → ∀ i, i < 40 → w.1.2 15 (40 * c + i) = 1 → ∃ m, m < 4 ∧ w.1.2 22 m = nI (40 * c + i)
theorem iRes {w : GS} (hC : iC w) (hR : iR w) (c : Nat) (hc : c < 4) : Res w c := fun i hi => ⟨(hC c hc).2.2.2 i hi, fun z => ((hR c hc i hi (by rw [z]; decide)).2 z).1⟩
/-- all but the laws -/
def Iv (w : GS) : Prop := iF w ∧ iI w ∧ iG w ∧ iC w ∧ iR w ∧ iM w ∧ iO w
theorem Iv.dr {w : GS} (h : Iv w) {c n : Nat} (hd : DrS w c n) : Dr w c n := hd.dr (iRes h.2.2.2.1 h.2.2.2.2.1 c hd.2.1)
/-! writes -/
theorem sw_v {w : GS} {k j : Nat} {v : Int32} (hj : j < 2 ^ 31) (j2 : Nat) : (swd k (nI j) v w).1.2 k j2 = if j2 = j then v else w.1.2 k j2 := by
  show (if k = k then upd (w.1.2 k) (nI j).toNatClampNeg v else _) j2 = _
  rw [if_pos rfl, nI_clamp hj]
  rfl
theorem sw_m {w : GS} {k j : Nat} {v : Int32} (hj : j < 2 ^ 31) (j2 : Nat) : (swd k (nI j) v w).2.2 k j2 = if j2 = j then true else w.2.2 k j2 := by
  show (if k = k then (if j2 = (nI j).toNatClampNeg then true else w.2.2 k j2) else _) = _
  rw [if_pos rfl, nI_clamp hj]
theorem sw_mm {w : GS} {k k2 j : Nat} {i v : Int32} (h : w.2.2 k2 j = true) : (swd k i v w).2.2 k2 j = true := by
  show (if k2 = k then (if j = i.toNatClampNeg then true else w.2.2 k j) else w.2.2 k2 j) = true
  by_cases h1 : k2 = k
  · rw [if_pos h1]
    by_cases h2 : j = i.toNatClampNeg
    · rw [if_pos h2]
    · rw [if_neg h2, ← h1]; exact h
  · rw [if_neg h1]; exact h
theorem sw_me {w : GS} {k j : Nat} {v : Int32} (hj : j < 2 ^ 31) : (swd k (nI j) v w).2.2 k j = true := by rw [sw_m hj, if_pos rfl]
theorem sw_ve {w : GS} {k j : Nat} {v : Int32} (hj : j < 2 ^ 31) : (swd k (nI j) v w).1.2 k j = v := by rw [sw_v hj, if_pos rfl]
theorem sw_vn {w : GS} {k j j2 : Nat} {v : Int32} (hj : j < 2 ^ 31) (h : ¬ j2 = j) : (swd k (nI j) v w).1.2 k j2 = w.1.2 k j2 := by rw [sw_v hj, if_neg h]
theorem sw_A {w : GS} {k j : Nat} {v : Int32} (hj : j < 2 ^ 31) : Am (swd k (nI j) v w) k j v := ⟨sw_me hj, sw_ve hj⟩
theorem sw_An {w : GS} {k j j2 : Nat} {v x : Int32} (hj : j < 2 ^ 31) (h : ¬ j2 = j) (ha : Am w k j2 x) : Am (swd k (nI j) v w) k j2 x := ⟨sw_mm ha.1, (sw_vn hj h).trans ha.2⟩
theorem Ok_wdN {β : Type} {k n j : Nat} {ix v : Int32} {p : PG β} {w : GS} {Q : β → GS → Prop} (hi : ix = nI j) (hj : j < n) (hn : n < 2 ^ 31) (h : Ok p (swd k (nI j) v w) Q) : Ok (pwd k n ix v p) w Q := by
  subst hi
  exact Ok_wd (gi_nI hj hn) h
/-! a write that leaves people, results and mats alone -/
theorem Sds.st {w v : GS} (h : St w v) (h16 : v.1.2 16 = w.1.2 16) (h17 : v.1.2 17 = w.1.2 17) (m16 : v.2.2 16 = w.2.2 16) (m17 : v.2.2 17 = w.2.2 17) {c i : Nat} (hs : Sds w c i) : Sds v c i := by
  obtain ⟨n, a, b, ⟨x, x1, x2⟩, y, y1, y2⟩ := hs
  unfold Am at x1 y1
  refine ⟨n, h.drs a, b, ⟨x, ?_, h.plc x2⟩, y, ?_, h.plc y2⟩
  · unfold Am
    rw [h16, m16]
    exact x1
  · unfold Am
    rw [h17, m17]
    exact y1
/-! ===== ends ===== -/
def fin1 (x : Nat) (v l q t : Int32) (a b m : Nat) (w : GS) : GS := swd 22 (nI m) (-1) (swd 11 (nI b) t (swd 11 (nI a) t (swd 21 (nI x) t (swd 20 (nI x) q (swd 19 (nI x) l (swd 18 (nI x) v (swd 15 (nI x) 2 w)))))))
theorem fin1_iG {w : GS} (h : Iv w) (c i m a b : Nat) (v l q t : Int32) (hc : c < 4) (hi : i < 40) (hm : m < 4) (hon : w.1.2 22 m = nI (40 * c + i)) (hS : Sds w c i) (ha : a < 96) (hb : b < 96) (hv : ∃ f, v = nI f ∧ Plc w c f) : iG (fin1 (40 * c + i) v l q t a b m w) := by
  obtain ⟨jF, jI, jG, jC, jR, jM, jO⟩ := h
  have hx : 40 * c + i < 2 ^ 31 := by omega
  have hSt : St w (fin1 (40 * c + i) v l q t a b m w) := ⟨rfl, rfl, rfl, rfl, rfl, rfl, rfl, rfl, rfl, rfl, rfl⟩
  have e15 : ∀ j, (fin1 (40 * c + i) v l q t a b m w).1.2 15 j = if j = 40 * c + i then 2 else w.1.2 15 j := fun j => sw_v (w := w) (k := 15) (v := 2) hx j
  have e22 : ∀ j, (fin1 (40 * c + i) v l q t a b m w).1.2 22 j = if j = m then -1 else w.1.2 22 j := fun j => sw_v (k := 22) (j := m) (by omega) j
  have hSd : ∀ c2 i2, Sds w c2 i2 → Sds (fin1 (40 * c + i) v l q t a b m w) c2 i2 := fun c2 i2 z => z.st hSt rfl rfl rfl rfl
  intro f hf
  obtain ⟨g1, g2, g3, g4, g5, g6, g7⟩ := jG f hf
  exact ⟨g1, g2, g3, g4, g5, g6, by unfold fin1; exact sw_mm (sw_mm (sw_mm (sw_mm (sw_mm (sw_mm (sw_mm (sw_mm g7)))))))⟩
theorem fin1_iC {w : GS} (h : Iv w) (c i m a b : Nat) (v l q t : Int32) (hc : c < 4) (hi : i < 40) (hm : m < 4) (hon : w.1.2 22 m = nI (40 * c + i)) (hS : Sds w c i) (ha : a < 96) (hb : b < 96) (hv : ∃ f, v = nI f ∧ Plc w c f) : iC (fin1 (40 * c + i) v l q t a b m w) := by
  obtain ⟨jF, jI, jG, jC, jR, jM, jO⟩ := h
  have hx : 40 * c + i < 2 ^ 31 := by omega
  have hSt : St w (fin1 (40 * c + i) v l q t a b m w) := ⟨rfl, rfl, rfl, rfl, rfl, rfl, rfl, rfl, rfl, rfl, rfl⟩
  have e15 : ∀ j, (fin1 (40 * c + i) v l q t a b m w).1.2 15 j = if j = 40 * c + i then 2 else w.1.2 15 j := fun j => sw_v (w := w) (k := 15) (v := 2) hx j
  have e22 : ∀ j, (fin1 (40 * c + i) v l q t a b m w).1.2 22 j = if j = m then -1 else w.1.2 22 j := fun j => sw_v (k := 22) (j := m) (by omega) j
  have hSd : ∀ c2 i2, Sds w c2 i2 → Sds (fin1 (40 * c + i) v l q t a b m w) c2 i2 := fun c2 i2 z => z.st hSt rfl rfl rfl rfl
  intro c2 hc2
  obtain ⟨g1, g2, g3, g4⟩ := jC c2 hc2
  refine ⟨g1, g2, g3.imp (fun z => z) (fun ⟨n, z⟩ => ⟨n, hSt.drs z⟩), fun i2 hi2 => sw_mm (k := 15) (v := 0) (g4 i2 hi2)⟩
theorem fin1_iR {w : GS} (h : Iv w) (c i m a b : Nat) (v l q t : Int32) (hc : c < 4) (hi : i < 40) (hm : m < 4) (hon : w.1.2 22 m = nI (40 * c + i)) (hS : Sds w c i) (ha : a < 96) (hb : b < 96) (hv : ∃ f, v = nI f ∧ Plc w c f) : iR (fin1 (40 * c + i) v l q t a b m w) := by
  obtain ⟨jF, jI, jG, jC, jR, jM, jO⟩ := h
  have hx : 40 * c + i < 2 ^ 31 := by omega
  have hSt : St w (fin1 (40 * c + i) v l q t a b m w) := ⟨rfl, rfl, rfl, rfl, rfl, rfl, rfl, rfl, rfl, rfl, rfl⟩
  have e15 : ∀ j, (fin1 (40 * c + i) v l q t a b m w).1.2 15 j = if j = 40 * c + i then 2 else w.1.2 15 j := fun j => sw_v (w := w) (k := 15) (v := 2) hx j
  have e22 : ∀ j, (fin1 (40 * c + i) v l q t a b m w).1.2 22 j = if j = m then -1 else w.1.2 22 j := fun j => sw_v (k := 22) (j := m) (by omega) j
  have hSd : ∀ c2 i2, Sds w c2 i2 → Sds (fin1 (40 * c + i) v l q t a b m w) c2 i2 := fun c2 i2 z => z.st hSt rfl rfl rfl rfl
  intro c2 hc2 i2 hi2 hne
  by_cases he : 40 * c2 + i2 = 40 * c + i
  · have h1 : c2 = c := by omega
    have h2 : i2 = i := by omega
    subst h1
    subst h2
    refine ⟨hSd _ _ hS, fun _ => ⟨?_, sw_me (k := 19) (v := 0) hx, sw_me (k := 20) (v := 0) hx, sw_me (k := 21) (v := 0) hx⟩⟩
    obtain ⟨f, rfl, hf⟩ := hv
    exact ⟨f, sw_A (k := 18) hx, hSt.plc hf⟩
  · have e1 := e15 (40 * c2 + i2)
    rw [if_neg he] at e1
    rw [e1] at hne
    obtain ⟨k1, k2⟩ := jR c2 hc2 i2 hi2 hne
    refine ⟨hSd _ _ k1, fun z => ?_⟩
    rw [e1] at z
    obtain ⟨⟨f, k3, k4⟩, k5, k6, k7⟩ := k2 z
    exact ⟨⟨f, sw_An (k := 18) hx he k3, hSt.plc k4⟩, sw_mm (k := 19) (v := 0) k5, sw_mm (k := 20) (v := 0) k6, sw_mm (k := 21) (v := 0) k7⟩
theorem fin1_iM {w : GS} (h : Iv w) (c i m a b : Nat) (v l q t : Int32) (hc : c < 4) (hi : i < 40) (hm : m < 4) (hon : w.1.2 22 m = nI (40 * c + i)) (hS : Sds w c i) (ha : a < 96) (hb : b < 96) (hv : ∃ f, v = nI f ∧ Plc w c f) : iM (fin1 (40 * c + i) v l q t a b m w) := by
  obtain ⟨jF, jI, jG, jC, jR, jM, jO⟩ := h
  have hx : 40 * c + i < 2 ^ 31 := by omega
  have hSt : St w (fin1 (40 * c + i) v l q t a b m w) := ⟨rfl, rfl, rfl, rfl, rfl, rfl, rfl, rfl, rfl, rfl, rfl⟩
  have e15 : ∀ j, (fin1 (40 * c + i) v l q t a b m w).1.2 15 j = if j = 40 * c + i then 2 else w.1.2 15 j := fun j => sw_v (w := w) (k := 15) (v := 2) hx j
  have e22 : ∀ j, (fin1 (40 * c + i) v l q t a b m w).1.2 22 j = if j = m then -1 else w.1.2 22 j := fun j => sw_v (k := 22) (j := m) (by omega) j
  have hSd : ∀ c2 i2, Sds w c2 i2 → Sds (fin1 (40 * c + i) v l q t a b m w) c2 i2 := fun c2 i2 z => z.st hSt rfl rfl rfl rfl
  intro m2 hm2
  obtain ⟨k1, k2⟩ := jM m2 hm2
  refine ⟨sw_mm (k := 22) (v := 0) k1, fun z => ?_⟩
  have e2 := e22 m2
  by_cases he : m2 = m
  · rw [if_pos he] at e2
    exact absurd e2 z
  · rw [if_neg he] at e2
    rw [e2] at z
    obtain ⟨⟨c2, i2, l1, l2, l3, l4⟩, l5, l6, l7, l8⟩ := k2 z
    exact ⟨⟨c2, i2, l1, l2, e2.trans l3, hSd _ _ l4⟩, l5, l6, l7, l8⟩
theorem fin1_iO {w : GS} (h : Iv w) (c i m a b : Nat) (v l q t : Int32) (hc : c < 4) (hi : i < 40) (hm : m < 4) (hon : w.1.2 22 m = nI (40 * c + i)) (hS : Sds w c i) (ha : a < 96) (hb : b < 96) (hv : ∃ f, v = nI f ∧ Plc w c f) : iO (fin1 (40 * c + i) v l q t a b m w) := by
  obtain ⟨jF, jI, jG, jC, jR, jM, jO⟩ := h
  have hx : 40 * c + i < 2 ^ 31 := by omega
  have hSt : St w (fin1 (40 * c + i) v l q t a b m w) := ⟨rfl, rfl, rfl, rfl, rfl, rfl, rfl, rfl, rfl, rfl, rfl⟩
  have e15 : ∀ j, (fin1 (40 * c + i) v l q t a b m w).1.2 15 j = if j = 40 * c + i then 2 else w.1.2 15 j := fun j => sw_v (w := w) (k := 15) (v := 2) hx j
  have e22 : ∀ j, (fin1 (40 * c + i) v l q t a b m w).1.2 22 j = if j = m then -1 else w.1.2 22 j := fun j => sw_v (k := 22) (j := m) (by omega) j
  have hSd : ∀ c2 i2, Sds w c2 i2 → Sds (fin1 (40 * c + i) v l q t a b m w) c2 i2 := fun c2 i2 z => z.st hSt rfl rfl rfl rfl
  intro c2 hc2 i2 hi2 h1
  by_cases he : 40 * c2 + i2 = 40 * c + i
  · rw [e15, if_pos he] at h1
    exact absurd h1 (by decide)
  · rw [e15, if_neg he] at h1
    obtain ⟨m2, hm2, k1⟩ := jO c2 hc2 i2 hi2 h1
    refine ⟨m2, hm2, ?_⟩
    rw [e22, if_neg ?_]
    · exact k1
    · intro z
      subst z
      rw [hon] at k1
      exact he ((nI_eq hx (by omega)).mp k1).symm
theorem fin1_iF {w : GS} (h : Iv w) (c i m a b : Nat) (v l q t : Int32) (hc : c < 4) (hi : i < 40) (hm : m < 4) (hon : w.1.2 22 m = nI (40 * c + i)) (hS : Sds w c i) (ha : a < 96) (hb : b < 96) (hv : ∃ f, v = nI f ∧ Plc w c f) : iF (fin1 (40 * c + i) v l q t a b m w) ∧ iI (fin1 (40 * c + i) v l q t a b m w) := ⟨h.1, h.2.1⟩
theorem fin1_iv {w : GS} (h : Iv w) (c i m a b : Nat) (v l q t : Int32) (hc : c < 4) (hi : i < 40) (hm : m < 4) (hon : w.1.2 22 m = nI (40 * c + i)) (hS : Sds w c i) (ha : a < 96) (hb : b < 96) (hv : ∃ f, v = nI f ∧ Plc w c f) : Iv (fin1 (40 * c + i) v l q t a b m w) := ⟨(fin1_iF h c i m a b v l q t hc hi hm hon hS ha hb hv).1, (fin1_iF h c i m a b v l q t hc hi hm hon hS ha hb hv).2, fin1_iG h c i m a b v l q t hc hi hm hon hS ha hb hv, fin1_iC h c i m a b v l q t hc hi hm hon hS ha hb hv, fin1_iR h c i m a b v l q t hc hi hm hon hS ha hb hv, fin1_iM h c i m a b v l q t hc hi hm hon hS ha hb hv, fin1_iO h c i m a b v l q t hc hi hm hon hS ha hb hv⟩
theorem ok_ends {w : GS} (h : Iv w) (m sd : Nat) (l q : Int32) (hm : m < 4) (hsd : sd < 2) (hon : ¬ w.1.2 22 m = -1) : Ok (f_ends (nI m) (nI sd) l q) w (fun _ w1 => Iv w1 ∧ w1.1.1 = w.1.1 ∧ w1.2.1 = w.2.1 ∧ (∀ k, ¬ k = 11 → ¬ (15 ≤ k ∧ k ≤ 22) → w1.1.2 k = w.1.2 k ∧ w1.2.2 k = w.2.2 k) ∧ ∀ m2, w1.1.2 22 m2 = -1 ∨ w1.1.2 22 m2 = w.1.2 22 m2) := by
  have jI := h.2.1
  obtain ⟨m22, hmt⟩ := h.2.2.2.2.2.1 m hm
  obtain ⟨⟨c, i, hc, hi, he, hS⟩, -⟩ := hmt hon
  have hS2 := hS
  obtain ⟨n, hn1, hn2, ⟨a, ha, hap⟩, b, hb, hbp⟩ := hS2
  have hx : 40 * c + i < 160 := by omega
  have hf : nF w ≤ 96 := h.1.2.2
  have hfr : ∀ v t, ∀ k, ¬ k = 11 → ¬ (15 ≤ k ∧ k ≤ 22) → (fin1 (40 * c + i) v l q t a b m w).1.2 k = w.1.2 k ∧ (fin1 (40 * c + i) v l q t a b m w).2.2 k = w.2.2 k := by
    intro v t k h1 h2
    have hw : ∀ (k2 : Nat) (i v : Int32) (w : GS), ¬ k = k2 → (swd k2 i v w).1.2 k = w.1.2 k ∧ (swd k2 i v w).2.2 k = w.2.2 k := by
      intro k2 i v w hk
      refine ⟨if_neg hk, ?_⟩
      funext j
      exact if_neg hk
    unfold fin1
    refine ⟨?_, ?_⟩
    · rw [(hw 22 _ _ _ (by omega)).1, (hw 11 _ _ _ h1).1, (hw 11 _ _ _ h1).1, (hw 21 _ _ _ (by omega)).1, (hw 20 _ _ _ (by omega)).1, (hw 19 _ _ _ (by omega)).1, (hw 18 _ _ _ (by omega)).1, (hw 15 _ _ _ (by omega)).1]
    · rw [(hw 22 _ _ _ (by omega)).2, (hw 11 _ _ _ h1).2, (hw 11 _ _ _ h1).2, (hw 21 _ _ _ (by omega)).2, (hw 20 _ _ _ (by omega)).2, (hw 19 _ _ _ (by omega)).2, (hw 18 _ _ _ (by omega)).2, (hw 15 _ _ _ (by omega)).2]
  have hon2 : ∀ v t m2, (fin1 (40 * c + i) v l q t a b m w).1.2 22 m2 = -1 ∨ (fin1 (40 * c + i) v l q t a b m w).1.2 22 m2 = w.1.2 22 m2 := by
    intro v t m2
    have e2 : (fin1 (40 * c + i) v l q t a b m w).1.2 22 m2 = if m2 = m then -1 else w.1.2 22 m2 := sw_v (k := 22) (j := m) (by omega) m2
    rw [e2]
    by_cases hz : m2 = m
    · exact Or.inl (if_pos hz)
    · exact Or.inr (if_neg hz)
  unfold f_ends
  refine Ok_rdN rfl hm (by decide) ⟨m22, he⟩ (Ok_wdN rfl hx (by decide) (Ok_ite (fun _ => ?_) (fun _ => ?_)))
  · refine Ok_rdN rfl hx (by decide) ha (Ok_wdN rfl hx (by decide) (Ok_wdN rfl hx (by decide) (Ok_wdN rfl hx (by decide) (Ok_rf jI.1 (Ok_wdN rfl hx (by decide) ?_)))))
    refine Ok_rdN rfl hx (by decide) ha (Ok_rf jI.1 (Ok_wdN rfl (hap.lt hf) (by decide) ?_))
    refine Ok_rdN rfl hx (by decide) hb (Ok_rf jI.1 (Ok_wdN rfl (hbp.lt hf) (by decide) ?_))
    refine Ok_wdN rfl hm (by decide) (Ok_rdN rfl hx (by decide) (x := nI a) (sw_A (k := 18) (by omega)) (Ok_rt ⟨?_, rfl, rfl, ?_, ?_⟩))
    · exact fin1_iv h c i m a b (nI a) l q _ hc hi hm he hS (hap.lt hf) (hbp.lt hf) ⟨a, rfl, hap⟩
    · exact hfr (nI a) (w.1.1 3)
    · exact hon2 (nI a) (w.1.1 3)
  · refine Ok_rdN rfl hx (by decide) hb (Ok_wdN rfl hx (by decide) (Ok_wdN rfl hx (by decide) (Ok_wdN rfl hx (by decide) (Ok_rf jI.1 (Ok_wdN rfl hx (by decide) ?_)))))
    refine Ok_rdN rfl hx (by decide) ha (Ok_rf jI.1 (Ok_wdN rfl (hap.lt hf) (by decide) ?_))
    refine Ok_rdN rfl hx (by decide) hb (Ok_rf jI.1 (Ok_wdN rfl (hbp.lt hf) (by decide) ?_))
    refine Ok_wdN rfl hm (by decide) (Ok_rdN rfl hx (by decide) (x := nI b) (sw_A (k := 18) (by omega)) (Ok_rt ⟨?_, rfl, rfl, ?_, ?_⟩))
    · exact fin1_iv h c i m a b (nI b) l q _ hc hi hm he hS (hap.lt hf) (hbp.lt hf) ⟨b, rfl, hbp⟩
    · exact hfr (nI b) (w.1.1 3)
    · exact hon2 (nI b) (w.1.1 3)

