/-! ===== the draw of a pool ===== -/
theorem DF.at {c : Nat} {w v : GS} (h : DF c w v) {k : Nat} (h1 : ¬ k = 10) (h2 : ¬ (12 ≤ k ∧ k ≤ 14)) (h3 : ¬ (57 ≤ k ∧ k ≤ 60)) {j : Nat} {x : Int32} (ha : Am w k j x) : Am v k j x := ⟨by rw [(h.2.2.1 k h1 h2 h3).2]; exact ha.1, by rw [(h.2.2.1 k h1 h2 h3).1]; exact ha.2⟩
/-- the places below k are given to fighters below f -/
def PlF (w v : GS) (c k f : Nat) : Prop := ∀ p, p < k → ∃ f2, f2 < f ∧ Am v 14 (32 * c + p) (nI f2) ∧ Am w 5 f2 (nI c) ∧ Am v 10 f2 (nI p)
theorem ok_draws_pool {w : GS} (h : Inv w) (c : Nat) (hc : c < 4) (K : Int32 → Int32 → Int32 → Int32 → PG Int32) (Q : Int32 → GS → Prop) (n : Nat) (hn : n = cb (due w c) (nF w)) (hn5 : n ≤ 5) (v2 : Int32) (hK : ∀ v v3 v4, DF c w v → Am v 12 c 1 → Am v 13 c (nI n) → PlF w v c n (nF w) → Ok (K (nI c) v2 v3 v4) v Q) :
    ∀ (t f m : Nat) (v : GS), f + t = nF w → t < m → DF c w v → Am v 12 c 1 → Am v 13 c (nI n) → PlF w v c (cb (due w c) f) f → Ok (lp_draws_31 m (nI c) v2 (nI (cb (due w c) f)) (nI f) K) v Q := by
  intro t
  induction t with
  | zero =>
    intro f m v h1 h2 hd d12 d13 hp
    have hf : f = nF w := by omega
    subst hf
    cases m with
    | zero => omega
    | succ m =>
      unfold lp_draws_31
      have h2 : Im v 2 (nI (nF w)) := ⟨by rw [hd.2.1]; exact h.1.1.1, by rw [hd.1]; exact h.1.1.2.1⟩
      refine Ok_rfN h2 (Ok_ite (fun _ => ?_) (fun z => absurd (Int32.le_refl _) z))
      rw [← hn] at hp
      exact hK v _ _ hd d12 d13 hp
  | succ t ih =>
    intro f m v h1 h2 hd d12 d13 hp
    have h96 := h.1.1.2.2
    cases m with
    | zero => omega
    | succ m =>
      unfold lp_draws_31
      have h2 : Im v 2 (nI (nF w)) := ⟨by rw [hd.2.1]; exact h.1.1.1, by rw [hd.1]; exact h.1.1.2.1⟩
      refine Ok_rfN h2 (Ok_ite (fun z => absurd z (nI_ge (by omega) (by omega))) (fun _ => ?_))
      obtain ⟨⟨c2, hc2, h5⟩, -, -, m8, -⟩ := h.1.2.2.1 f (by omega)
      have hskip : ¬ due w c f = true → Ok (pli (nI f + 1) (fun x => lp_draws_31 m (nI c) v2 (nI (cb (due w c) f)) x K)) v Q := by
        intro hnd
        refine Ok_li ?_
        rw [nI_1]
        have h9 := ih (f + 1) m v (by omega) (by omega) hd d12 d13
        rw [cb_f hnd] at h9
        exact h9 (fun p hp2 => by obtain ⟨f2, k1, k2⟩ := hp p hp2; exact ⟨f2, by omega, k2⟩)
      refine Ok_rdN rfl (by omega) (by decide) (hd.at (by decide) (by decide) (by decide) (Am.val h5.1)) (Ok_ite (fun e5 => ?_) (fun e5 => hskip (fun z => e5 (due_iff.mp z).1)))
      refine Ok_rdN rfl (by omega) (by decide) (hd.at (by decide) (by decide) (by decide) (Am.val m8)) (Ok_ite (fun e8 => ?_) (fun e8 => hskip (fun z => e8 (due_iff.mp z).2)))
      have hdue : due w c f = true := due_iff.mpr ⟨e5, e8⟩
      have hlt : cb (due w c) f < n := by rw [hn]; exact cb_lt (by omega) hdue
      rw [ix32]
      refine Ok_wdN rfl (by omega) (by decide) (Ok_wdN rfl (by omega) (by decide) (Ok_li (Ok_li ?_)))
      rw [nI_1, nI_1]
      have h9 := ih (f + 1) m (swd 10 (nI f) (nI (cb (due w c) f)) (swd 14 (nI (32 * c + cb (due w c) f)) (nI f) v)) (by omega) (by omega) ((hd.w14 _ _ hc (by omega)).w10 f _ (by omega) e5) d12 d13
      rw [cb_t hdue] at h9
      refine h9 (fun p hp2 => ?_)
      by_cases he : p = cb (due w c) f
      · subst he
        exact ⟨f, by omega, sw_A (w := v) (k := 14) (by omega), ⟨h5.1, e5⟩, sw_A (k := 10) (by omega)⟩
      · obtain ⟨f2, k1, k2, k3, k4⟩ := hp p (by omega)
        exact ⟨f2, by omega, sw_An (w := v) (k := 14) (by omega) (by omega) k2, k3, sw_An (w := swd 14 (nI (32 * c + cb (due w c) f)) (nI f) v) (k := 10) (by omega) (by omega) k4⟩
theorem ok_draws_p {w : GS} (h : Inv w) (c : Nat) (hc : c < 4) (h0 : Am w 12 c 0) (n : Nat) (hn : n = cb (due w c) (nF w)) (hn2 : 2 ≤ n) (hn5 : n ≤ 5) : Ok (pwd 12 4 (nI c) 1 (pwd 13 4 (nI c) (nI n) (lp_draws_31 fuel (nI c) (nI n) 0 0 (fun v1 v2 v3 v4 => pcl (f_fights v1) (fun r_461 => prt r_461))))) w (fun _ w1 => Inv w1) := by
  have h96 := h.1.1.2.2
  refine Ok_wdN rfl hc (by decide) (Ok_wdN rfl hc (by decide) ?_)
  have hd : DF c w (swd 13 (nI c) (nI n) (swd 12 (nI c) 1 w)) := ((DF.rf c w).w12 12 1 hc (by decide)).w12 13 (nI n) hc (by decide)
  refine ok_draws_pool h c hc _ _ n hn hn5 (nI n) (fun v v3 v4 hd2 d12 d13 hp => ?_) (nF w) 0 fuel _ (by omega) (by unfold fuel; omega) hd (sw_A (w := w) (k := 12) (by omega)) (sw_A (w := swd 12 (nI c) 1 w) (k := 13) (by omega)) (fun p hp => absurd hp (Nat.not_lt_zero _))
  have hsz : szP v c = n := by
    unfold szP
    rw [d13.2]
    exact nI_clamp (by omega)
  have hdr : DrS v c (n * (n - 1) / 2) := by
    refine ⟨by rw [hd2.nFe]; exact h96, hc, Or.inl ⟨n, hn2, hn5, hsz, d12, d13, fun p hp2 => ?_, rfl⟩⟩
    obtain ⟨f2, k1, k2, k3, k4⟩ := hp p hp2
    exact ⟨f2, k2, by rw [hd2.nFe]; exact k1, hd2.at (by decide) (by decide) (by decide) k3, p, by rw [hsz]; exact hp2, k4⟩
  have hI := draw_inv h c _ hc h0 hd2 hdr
  exact Ok_clR (ok_fights v c _ (hI.1.dr hdr)) (fun r _ => Ok_rt hI)
/-! ===== THE ROW ===== -/
def one (p : Nat) : Nat := if p % 2 = 0 then 2 * p else 2 * p + 1
def rowf : Nat → Nat → Nat
  | 0, _ => 0
  | L + 1, x => if x < 2 ^ L then one (rowf L x) else 4 * rowf L (2 ^ (L + 1) - 1 - x) + 1 - one (rowf L (2 ^ (L + 1) - 1 - x))
theorem rowf_lt : ∀ L < 6, ∀ x < 32, x < 2 ^ L → rowf L x < 2 ^ L := by decide +kernel
theorem rowf_inj : ∀ L < 6, ∀ x < 32, ∀ y < 32, (x < 2 ^ L ∧ y < 2 ^ L ∧ rowf L x = rowf L y) → x = y := by decide +kernel
theorem rowf_sur : ∀ L < 6, ∀ p < 32, p < 2 ^ L → ∃ x : Fin 32, x.val < 2 ^ L ∧ rowf L x.val = p := by decide +kernel
theorem rowf_pair : ∀ L < 6, ∀ j < 16, (3 ≤ L ∧ 2 * j + 1 < 2 ^ L) → ∃ x : Fin 16, x.val < 2 ^ L / 2 ∧ (rowf L x.val = 2 * j ∨ rowf L x.val = 2 * j + 1) := by decide +kernel
theorem one_nI : ∀ p < 32, (nI p - nI p / 2 * 2 = 0 ↔ p % 2 = 0) ∧ (2 : Int32) * nI p = nI (2 * p) ∧ (2 : Int32) * nI p + 1 = nI (2 * p + 1) := by decide +kernel
theorem oth_nI : ∀ p < 32, (4 : Int32) * nI p + 1 - nI (one p) = nI (4 * p + 1 - one p) := by decide +kernel

