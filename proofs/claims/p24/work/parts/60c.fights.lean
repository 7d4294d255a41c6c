/-! ===== pools; any drawn class ===== -/
def Pol (w : GS) (c s : Nat) : Prop := nF w ≤ 96 ∧ c < 4 ∧ 2 ≤ s ∧ s ≤ 5 ∧ szP w c = s ∧ Am w 12 c 1 ∧ Am w 13 c (nI s) ∧ (∀ p, p < s → ∃ f, Am w 14 (32 * c + p) (nI f) ∧ Plc w c f) ∧ (∀ i, i < 40 → w.2.2 15 (40 * c + i) = true ∧ (w.1.2 15 (40 * c + i) = 2 → ∃ f, Am w 18 (40 * c + i) (nI f) ∧ Plc w c f))
def tri (m : Nat) : Nat := m * (m + 1) / 2
theorem tri_s : ∀ m < 6, 1 ≤ m → tri m = m + tri (m - 1) := by decide +kernel
theorem ok_pair_lp (w : GS) (c s i sd : Nat) (hc : c < 4) (hs : s ≤ 5) (hp : Am w 13 c (nI s)) (K : Int32 → Int32 → Int32 → Int32 → Int32 → PG Int32) (R : Int32 → Prop) (hK : ∀ k a, k + a < s → Rd (K (nI c) (nI i) (nI sd) (nI k) (nI a)) w R) : ∀ (m k a n : Nat), a + m = s → k < tri m → m < n → Rd (lp_pair_6 n (nI c) (nI i) (nI sd) (nI k) (nI a) K) w R := by
  intro m
  induction m with
  | zero =>
    intro k a n _ hk _
    exact absurd hk (Nat.not_lt_zero k)
  | succ m ih =>
    intro k a n ha hk hn
    cases n with
    | zero => omega
    | succ n =>
      unfold lp_pair_6
      have h1 := tri_s (m + 1) (by omega) (by omega)
      have h3 : tri (m + 1) < 2 ^ 31 := by
        have hh : ∀ m < 6, tri m < 2 ^ 31 := by decide +kernel
        exact hh (m + 1) (by omega)
      have e1 : nI s - nI a = nI (s - a) := nI_sub (by omega)
      refine Rd_rdN rfl hc (by decide) hp (Rd_ite (fun h => ?_) (fun h => ?_))
      · rw [e1] at h
        have h2 := (nI_ltI (by omega) (by omega)).mp h
        exact hK k a (by omega)
      · rw [e1] at h
        have h2 : s - a ≤ k := Nat.not_lt.mp (fun z => h (nI_lt z (by omega)))
        refine Rd_rdN rfl hc (by decide) hp (Rd_li (Rd_li ?_))
        rw [e1, nI_sub h2, nI_1]
        refine ih _ _ n (by omega) ?_ (by omega)
        have : m + 1 - 1 = m := by omega
        rw [this] at h1
        omega
theorem tri_fights : ∀ s < 6, 2 ≤ s → s * (s - 1) / 2 = tri (s - 1) := by decide +kernel
theorem ok_pair (w : GS) (c s i sd : Nat) (hc : c < 4) (h2 : 2 ≤ s) (hs : s ≤ 5) (hp : Am w 13 c (nI s)) (hi : i < s * (s - 1) / 2) (hsd : sd < 2) : Rd (f_pair (nI c) (nI i) (nI sd)) w (fun r => ∃ p, p < s ∧ r = nI p) := by
  unfold f_pair
  rw [tri_fights s (by omega) h2] at hi
  refine ok_pair_lp w c s i sd hc hs hp _ _ (fun k a hka => ?_) (s - 1) i 1 fuel (by omega) hi (by unfold fuel; omega)
  refine Rd_ite (fun _ => Rd_rt ⟨k, by omega, rfl⟩) (fun _ => Rd_rt ⟨k + a, hka, ?_⟩)
  rw [nI_add]
/-- class c is drawn and has n fights -/
def Dr (w : GS) (c n : Nat) : Prop := (∃ s, Pol w c s ∧ n = s * (s - 1) / 2) ∨ ∃ L, Tre w c L ∧ n = 2 ^ L - 1 + 2 * (L - 2)
theorem Dr.c4 {w : GS} {c n : Nat} (h : Dr w c n) : c < 4 := by
  rcases h with ⟨s, h, -⟩ | ⟨L, h, -⟩
  · exact h.2.1
  · exact h.2.1
theorem Dr.n37 {w : GS} {c n : Nat} (h : Dr w c n) : n ≤ 37 := by
  rcases h with ⟨s, h, rfl⟩ | ⟨L, h, rfl⟩
  · have hh : ∀ s < 6, s * (s - 1) / 2 ≤ 37 := by decide +kernel
    have := h.2.2.2.1
    exact hh s (by omega)
  · have hh : ∀ L < 6, 2 ^ L - 1 + 2 * (L - 2) ≤ 37 := by decide +kernel
    have := h.2.2.2.1
    exact hh L (by omega)
theorem Dr.res {w : GS} {c n : Nat} (h : Dr w c n) : ∀ i, i < 40 → w.2.2 15 (40 * c + i) = true ∧ (w.1.2 15 (40 * c + i) = 2 → ∃ f, Am w 18 (40 * c + i) (nI f) ∧ Plc w c f) := by
  rcases h with ⟨s, h, rfl⟩ | ⟨L, h, rfl⟩
  · exact h.2.2.2.2.2.2.2.2
  · exact h.2.2.2.2.2.2.2.2.2
theorem ok_side_pool (w : GS) (c s i sd d : Nat) (a3 : Int32) (hP : Pol w c s) (hi : i < s * (s - 1) / 2) (hsd : sd < 2) : Rd (fS (d + 1) 0 (nI c) (nI i) (nI sd) a3) w (Val w c) := by
  obtain ⟨hn, hc, h2, h5, hs, h12, h13, hwho, hres⟩ := hP
  unfold fS
  rw [if_pos rfl]
  unfold bd_sideOf
  refine Rd_rdN rfl hc (by decide) h12 (Rd_ite (fun _ => ?_) (fun h => absurd rfl h))
  refine Rd_clR (ok_pair w c s i sd hc h2 h5 h13 hi hsd) (fun z hz => ?_)
  obtain ⟨p, hp, rfl⟩ := hz
  obtain ⟨f, h6, h7⟩ := hwho p hp
  exact Rd_rdN (ix32 c p) (by omega) (by decide) h6 (Rd_rt (Or.inr (Or.inr ⟨f, rfl, h7⟩)))
theorem bas_ex : ∀ L < 6, ∀ i < 32, i < 2 ^ L - 1 → ∃ r, r < L ∧ bas L r ≤ i ∧ i < bas L (r + 1) := by
  have hh : ∀ L < 6, ∀ i < 32, i < 2 ^ L - 1 → (∃ r : Fin 6, r.val < L ∧ bas L r.val ≤ i ∧ i < bas L (r.val + 1)) := by decide +kernel
  intro L h1 i h2 h3
  obtain ⟨r, h⟩ := hh L h1 i h2 h3
  exact ⟨r.val, h⟩
theorem ok_side (w : GS) (c n i sd : Nat) (a3 : Int32) (h : Dr w c n) (hi : i < n) (hsd : sd < 2) : Rd (fS 24 0 (nI c) (nI i) (nI sd) a3) w (Val w c) := by
  rcases h with ⟨s, h, rfl⟩ | ⟨L, h, rfl⟩
  · exact ok_side_pool w c s i sd 23 a3 h hi hsd
  · have hL3 := h.2.2.1
    have hL5 := h.2.2.2.1
    have h32 := pow_lt32 hL5
    by_cases h1 : i < 2 ^ L - 1
    · obtain ⟨r, hr, g1, g2⟩ := bas_ex L (by omega) i (by omega) h1
      exact ((ok_main w c L h r hr).1 24 i sd a3 (by omega) g1 g2 hsd).mono (fun x hx => hx.1)
    · obtain ⟨q, rfl⟩ : ∃ q, i = 2 ^ L - 1 + q := ⟨i - (2 ^ L - 1), by omega⟩
      have hq : q < 2 * (L - 2) := by omega
      have := Nat.mod_lt q (show 0 < L - 2 by omega)
      exact (ok_life w c L h (q % (L - 2))).1 24 q sd a3 hq rfl hsd (by omega)
theorem ok_win (w : GS) (c n i : Nat) (a2 a3 : Int32) (h : Dr w c n) (hi : i < n) : Rd (fS 24 3 (nI c) (nI i) a2 a3) w (Val w c) := by
  have h37 := h.n37
  obtain ⟨g1, g2⟩ := h.res i (by omega)
  have hS : ∀ sd, sd < 2 → Rd (fS 23 0 (nI c) (nI i) (nI sd) 0) w (Val w c) := by
    intro sd hsd
    rcases h with ⟨s, h, rfl⟩ | ⟨L, h, rfl⟩
    · exact ok_side_pool w c s i sd 22 0 h hi hsd
    · have hL3 := h.2.2.1
      have hL5 := h.2.2.2.1
      have h32 := pow_lt32 hL5
      by_cases h1 : i < 2 ^ L - 1
      · obtain ⟨r, hr, g1, g2⟩ := bas_ex L (by omega) i (by omega) h1
        exact ((ok_main w c L h r hr).1 23 i sd 0 (by omega) g1 g2 hsd).mono (fun x hx => hx.1)
      · obtain ⟨q, rfl⟩ : ∃ q, i = 2 ^ L - 1 + q := ⟨i - (2 ^ L - 1), by omega⟩
        have hq : q < 2 * (L - 2) := by omega
        have := Nat.mod_lt q (show 0 < L - 2 by omega)
        exact (ok_life w c L h (q % (L - 2))).1 23 q sd 0 hq rfl hsd (by omega)
  exact ok_win_any w c i h.c4 (by omega) g1 g2 23 a2 a3 hS
theorem ok_fights0 (w : GS) (c : Nat) (hc : c < 4) (h12 : Am w 12 c 0) (h13 : w.2.2 13 c = true) : Rd (f_fights (nI c)) w (fun r => r = nI 0) := by
  unfold f_fights
  exact Rd_rdN rfl hc (by decide) (Am.val h13) (Rd_rdN rfl hc (by decide) h12 (Rd_ite (fun _ => Rd_eq rfl) (fun h => absurd rfl h)))
theorem ok_fights (w : GS) (c n : Nat) (h : Dr w c n) : Rd (f_fights (nI c)) w (fun r => r = nI n) := by
  rcases h with ⟨s, h, rfl⟩ | ⟨L, h, rfl⟩
  · obtain ⟨hn, hc, h2, h5, hs, h12, h13, hwho, hres⟩ := h
    unfold f_fights
    refine Rd_rdN rfl hc (by decide) h13 (Rd_rdN rfl hc (by decide) h12 (Rd_ite (fun h => absurd h (by decide)) (fun _ => ?_)))
    refine Rd_rdN rfl hc (by decide) h12 (Rd_ite (fun _ => Rd_eq ?_) (fun h => absurd rfl h))
    have hh : ∀ s < 6, nI s * (nI s - 1) / 2 = nI (s * (s - 1) / 2) := by decide +kernel
    exact hh s (by omega)
  · obtain ⟨hn, hc, hL3, hL5, hs, h12, h13, hwho, hbye, hres⟩ := h
    unfold f_fights
    refine Rd_rdN rfl hc (by decide) h13 (Rd_rdN rfl hc (by decide) h12 (Rd_ite (fun h => absurd h (by decide)) (fun _ => ?_)))
    refine Rd_rdN rfl hc (by decide) h12 (Rd_ite (fun h => absurd h (by decide)) (fun _ => ?_))
    refine Rd_clR (ok_rounds w c L hc hL5 (by omega) h13) (fun z hz => ?_)
    subst hz
    refine Rd_eq ?_
    have hh : ∀ L < 6, 2 ≤ L → nI (2 ^ L) - 1 + 2 * (nI (L - 1) - 1) = nI (2 ^ L - 1 + 2 * (L - 2)) := by decide +kernel
    exact hh L (by omega) (by omega)
/-- what is known of a class: not drawn, or drawn with n fights -/
def Kd (w : GS) (c n : Nat) : Prop := (Am w 12 c 0 ∧ n = 0) ∨ Dr w c n
theorem ok_fightsK (w : GS) (c n : Nat) (hc : c < 4) (h : Kd w c n) (h13 : w.2.2 13 c = true) : Rd (f_fights (nI c)) w (fun r => r = nI n) := by
  rcases h with ⟨h, rfl⟩ | h
  · exact ok_fights0 w c hc h h13
  · exact ok_fights w c n h
theorem Kd.n37 {w : GS} {c n : Nat} (h : Kd w c n) : n ≤ 37 := by
  rcases h with ⟨h, rfl⟩ | h
  · omega
  · exact h.n37
theorem Kd.dr {w : GS} {c n i : Nat} (h : Kd w c n) (hi : i < n) : Dr w c n := by
  rcases h with ⟨h, rfl⟩ | h
  · omega
  · exact h
theorem ok_isWalk (w : GS) (c n i : Nat) (h : Dr w c n) (hi : i < n) : Rd (f_isWalk (nI c) (nI i)) w (fun r => r = 0 ∨ r = 1) := by
  have hc := h.c4
  have h37 := h.n37
  unfold f_isWalk
  rw [ix40]
  refine Rd_rdN rfl (by omega) (by decide) (Am.val (h.res i (by omega)).1) (Rd_ite (fun _ => ?_) (fun _ => Rd_rt (Or.inl rfl)))
  refine Rd_clR (ok_side w c n i 0 0 h hi (by decide)) (fun a _ => ?_)
  refine Rd_clR (ok_side w c n i 1 0 h hi (by decide)) (fun b _ => ?_)
  repeat (first | exact Rd_rt (Or.inl rfl) | exact Rd_rt (Or.inr rfl) | refine Rd_ite (fun _ => ?_) (fun _ => ?_))

