/-! ===== begin, both sides ===== -/
theorem bgB_v {B : Nat → Int32} {c i m : Nat} {a b t : Int32} (hc : c < 4) (hi : i < 37) : bgB B c i m a b t (fc c i) = 2 ∧ bgB B c i m a b t (fc c i + 1) = a ∧ bgB B c i m a b t (fc c i + 2) = b ∧ bgB B c i m a b t (fc c i + 7) = nI m ∧ bgB B c i m a b t (mc0 m) = nI c ∧ bgB B c i m a b t (mc0 m + 1) = nI i ∧ bgB B c i m a b t (mc0 m + 2) = t ∧ bgB B c i m a b t (mc0 m + 3) = 0 ∧ bgB B c i m a b t (mc0 m + 4) = 0 ∧ ∀ k, k < 16 → bgB B c i m a b t (mc0 m + 5 + k) = 0 := by
  have hfc : 820 ≤ fc c i ∧ fc c i + 8 ≤ 2004 := by unfold fc; omega
  have hmc : 2004 ≤ mc0 m := by unfold mc0; omega
  have z : ∀ j, j < mc0 m + 5 → bgB B c i m a b t j = bgB1 B c i m a b t j := fun j hj => if_neg (by omega)
  refine ⟨?_, ?_, ?_, ?_, ?_, ?_, ?_, ?_, ?_, fun k hk => if_pos ⟨by omega, by omega⟩⟩
  · rw [z _ (by omega)]; unfold bgB1
    rw [upd_n (by omega), upd_n (by omega), upd_n (by omega), upd_n (by omega), upd_n (by omega), upd_n (by omega), upd_n (by omega), upd_n (by omega), upd_e]
  · rw [z _ (by omega)]; unfold bgB1
    rw [upd_n (by omega), upd_n (by omega), upd_n (by omega), upd_n (by omega), upd_n (by omega), upd_n (by omega), upd_n (by omega), upd_e]
  · rw [z _ (by omega)]; unfold bgB1
    rw [upd_n (by omega), upd_n (by omega), upd_n (by omega), upd_n (by omega), upd_n (by omega), upd_n (by omega), upd_e]
  · rw [z _ (by omega)]; unfold bgB1
    rw [upd_n (by omega), upd_n (by omega), upd_n (by omega), upd_n (by omega), upd_n (by omega), upd_e]
  · rw [z _ (by omega)]; unfold bgB1
    rw [upd_n (by omega), upd_n (by omega), upd_n (by omega), upd_n (by omega), upd_e]
  · rw [z _ (by omega)]; unfold bgB1
    rw [upd_n (by omega), upd_n (by omega), upd_n (by omega), upd_e]
  · rw [z _ (by omega)]; unfold bgB1
    rw [upd_n (by omega), upd_n (by omega), upd_e]
  · rw [z _ (by omega)]; unfold bgB1
    rw [upd_n (by omega), upd_e]
  · rw [z _ (by omega)]; unfold bgB1
    rw [upd_e]
theorem bgB_q {B : Nat → Int32} {c i m : Nat} {a b t : Int32} : BqM c i m (fun _ => False) B (bgB B c i m a b t) := fun j h1 h2 _ => by
  have z : bgB B c i m a b t j = bgB1 B c i m a b t j := if_neg (fun y => h2 ⟨by omega, by omega⟩)
  rw [z]
  unfold bgB1
  rw [upd_n (fun y => h2 (by omega)), upd_n (fun y => h2 (by omega)), upd_n (fun y => h2 (by omega)), upd_n (fun y => h2 (by omega)), upd_n (fun y => h2 (by omega)), upd_n (fun y => h1 (by omega)), upd_n (fun y => h1 (by omega)), upd_n (fun y => h1 (by omega)), upd_n (fun y => h1 (by omega))]
/-- the counts of a mat are cleared -/
def T24 (m : Nat) (w v : GS) : Prop := v.1.1 = w.1.1 ∧ v.2.1 = w.2.1 ∧ (∀ k j x, (¬ k = 24 ∨ j < 16 * m ∨ 16 * m + 16 ≤ j) → Am w k j x → Am v k j x) ∧ LFr w v
theorem r_begins_lp (w : GS) (c i x m : Nat) (hm : m < 4) (K : Int32 → Int32 → Int32 → Int32 → Int32 → PG Int32) (Q : Int32 → GS → Prop) (hK : ∀ v, T24 m w v → (∀ k, k < 16 → Am v 24 (16 * m + k) 0) → Ok (K (nI c) (nI i) (nI m) (nI x) (nI 16)) v Q) :
    ∀ (t k n : Nat) (v : GS), k + t = 16 → t < n → T24 m w v → (∀ j, j < k → Am v 24 (16 * m + j) 0) → Ok (lp_begins_79 n (nI c) (nI i) (nI m) (nI x) (nI k) K) v Q := by
  intro t
  induction t with
  | zero =>
    intro k n v h1 h2 h3 h4
    cases n with
    | zero => omega
    | succ n =>
      have : k = 16 := by omega
      subst this
      unfold lp_begins_79
      exact Ok_ite (fun _ => hK v h3 h4) (fun z => absurd (Int32.le_refl _) z)
  | succ t ih =>
    intro k n v h1 h2 h3 h4
    cases n with
    | zero => omega
    | succ n =>
      unfold lp_begins_79
      refine Ok_ite (fun z => absurd z (nI_ge (b := 16) (by omega) (by decide))) (fun _ => ?_)
      have e1 : (16 : Int32) * nI m + nI k = nI (16 * m + k) := by rw [← nI_add, ← nI_mul]; rfl
      refine Ok_wdN e1 (by omega) (by decide) (Ok_li ?_)
      rw [nI_1]
      refine ih (k + 1) n _ (by omega) (by omega) ⟨h3.1, h3.2.1, fun k2 j x hj ha => (h3.2.2.1 k2 j x hj ha).sw (by omega) (fun z => by omega), h3.2.2.2.wd (by decide) _ _⟩ (fun j hj => ?_)
      by_cases hz : j = k
      · subst hz
        exact sw_A (by omega)
      · exact (h4 j (by omega)).sw (by omega) (fun z => by omega)
theorem r_begins {B : Nat → Int32} {w : GS} {c i n m a b t g : Nat} (hI : Inv w) (hR : R0 B w) (hN : NT B c) (hD : Dr w c n) (hi : i < n) (hm : m < 4) (hmk : mkF B c i = 0) (hva : vS B c i 0 = nI a) (hvb : vS B c i 1 = nI b) (ha : a < 96) (hb : b < 96) (hon : Am w 22 m (-1)) (h27 : Im w 27 (nI t)) (ht : t ≤ 9999) (h28 : Im w 28 (nI g)) (hg : g ≤ 9999) : Ok (f_begins (nI c) (nI i) (nI m)) w (fun r v => r = 1 ∧ R0 (tvB (bgB B c i m (nI a) (nI b) (nI t)) m (nI g)) v ∧ LFr w v) := by
  have hc := hD.c4
  have h37 := hD.n37
  have h96 := hI.1.1.2.2
  have hx : 40 * c + i < 160 := by omega
  obtain ⟨x0, _, s0, rfl, v0⟩ := sv_any hR hN hD hi (sd := 0) (by decide) 0
  obtain ⟨x1, _, s1, rfl, v1⟩ := sv_any hR hN hD hi (sd := 1) (by decide) 0
  rw [v0, hva] at s0
  rw [v1, hvb] at s1
  rename_i w
  have h15 : Am w 15 (40 * c + i) 0 := by
    rcases hR.mk hc (i := i) (by omega) with ⟨z, -⟩ | ⟨-, z⟩ | ⟨-, z, -⟩
    · exact z
    · rw [hmk] at z; exact absurd z (by decide)
    · rw [hmk] at z; exact absurd z (by decide)
  have hq : ∀ v : GS, v.1.2 10 = w.1.2 10 → v.1.2 12 = w.1.2 12 → v.1.2 13 = w.1.2 13 → v.1.2 14 = w.1.2 14 → v.1.2 18 = w.1.2 18 → v.2.2 10 = w.2.2 10 → v.2.2 12 = w.2.2 12 → v.2.2 13 = w.2.2 13 → v.2.2 14 = w.2.2 14 → v.2.2 18 = w.2.2 18 → (∀ j, v.1.2 15 j = (swd 15 (nI (40 * c + i)) 1 w).1.2 15 j) → (∀ j, v.2.2 15 j = (swd 15 (nI (40 * c + i)) 1 w).2.2 15 j) → Eq2 w v := by
    intro v a1 a2 a3 a4 a5 b1 b2 b3 b4 b5 c1 c2
    refine ⟨a1, a2, a3, a4, a5, b1, b2, b3, b4, b5, fun j => ⟨fun z => ?_, ?_⟩⟩
    · rw [c2]
      exact sw_mm z
    · rw [c1, sw_v (by omega)]
      by_cases hz : j = 40 * c + i
      · rw [if_pos hz, hz, h15.2]
        decide
      · rw [if_neg hz]
  have hBv := bgB_v (B := B) (c := c) (i := i) (m := m) (a := nI a) (b := nI b) (t := nI t) hc (by omega)
  obtain ⟨g1, g2, g3, g4, g5, g6, g7, g8, g9, g10⟩ := hBv
  have hBq := bgB_q (B := B) (c := c) (i := i) (m := m) (a := nI a) (b := nI b) (t := nI t)
  generalize hBB : bgB B c i m (nI a) (nI b) (nI t) = B1 at *
  unfold f_begins
  refine Ok_li ?_
  rw [ix40]
  refine Ok_wdN rfl hx (by decide) ?_
  have E1 := hq (swd 15 (nI (40 * c + i)) 1 w) rfl rfl rfl rfl rfl rfl rfl rfl rfl rfl (fun _ => rfl) (fun _ => rfl)
  refine Ok_cl ⟨nI a, _, (sm_fS 24 0 _ _ _ _ w _ E1 _ _ s0).2, ?_⟩
  refine Ok_wdN rfl hx (by decide) ?_
  have E2 := hq (swd 16 (nI (40 * c + i)) (nI a) (swd 15 (nI (40 * c + i)) 1 w)) rfl rfl rfl rfl rfl rfl rfl rfl rfl rfl (fun _ => rfl) (fun _ => rfl)
  refine Ok_cl ⟨nI b, _, (sm_fS 24 0 _ _ _ _ w _ E2 _ _ s1).2, ?_⟩
  refine Ok_wdN rfl hx (by decide) (Ok_wdN rfl hm (by decide) (Ok_rfN (x := nI t) h27 (Ok_wdN rfl hm (by decide) (Ok_wdN rfl hm (by decide) (Ok_wdN rfl hm (by decide) ?_)))))
  rw [nar_b0]
  have no : ∀ {k j}, okM c i m (fun _ => False) k j → ¬ ((15 ≤ k ∧ k ≤ 21 ∧ j = 40 * c + i) ∨ ((k = 22 ∨ k = 23 ∨ k = 25 ∨ k = 26) ∧ j = m) ∨ (k = 24 ∧ 16 * m ≤ j ∧ j < 16 * m + 16)) := fun z => by
    unfold okM at z
    omega
  have hT7 : Tq c i m (fun _ => False) w (swd 26 (nI m) 0 (swd 25 (nI m) 0 (swd 23 (nI m) (nI t) (swd 22 (nI m) (nI (40 * c + i)) (swd 17 (nI (40 * c + i)) (nI b) (swd 16 (nI (40 * c + i)) (nI a) (swd 15 (nI (40 * c + i)) 1 w))))))) := by
    refine ((((((((Tq.rf c i m _ w).sw (by omega) _ (fun z => no z (Or.inl ⟨by decide, by decide, rfl⟩)) (by decide)).sw (by omega) _ (fun z => no z (Or.inl ⟨by decide, by decide, rfl⟩)) (by decide)).sw (by omega) _ (fun z => no z (Or.inl ⟨by decide, by decide, rfl⟩)) (by decide)).sw (by omega) _ (fun z => no z (Or.inr (Or.inl ⟨Or.inl rfl, rfl⟩))) (by decide)).sw (by omega) _ (fun z => no z (Or.inr (Or.inl ⟨Or.inr (Or.inl rfl), rfl⟩))) (by decide)).sw (by omega) _ (fun z => no z (Or.inr (Or.inl ⟨Or.inr (Or.inr (Or.inl rfl)), rfl⟩))) (by decide)).sw (by omega) _ (fun z => no z (Or.inr (Or.inl ⟨Or.inr (Or.inr (Or.inr rfl)), rfl⟩))) (by decide))
  have f15 : Am (swd 26 (nI m) 0 (swd 25 (nI m) 0 (swd 23 (nI m) (nI t) (swd 22 (nI m) (nI (40 * c + i)) (swd 17 (nI (40 * c + i)) (nI b) (swd 16 (nI (40 * c + i)) (nI a) (swd 15 (nI (40 * c + i)) 1 w))))))) 15 (40 * c + i) 1 := ((((((sw_A (w := w) (k := 15) (v := 1) (by omega)).o (by decide)).o (by decide)).o (by decide)).o (by decide)).o (by decide)).o (by decide)
  have f16 : Am (swd 26 (nI m) 0 (swd 25 (nI m) 0 (swd 23 (nI m) (nI t) (swd 22 (nI m) (nI (40 * c + i)) (swd 17 (nI (40 * c + i)) (nI b) (swd 16 (nI (40 * c + i)) (nI a) (swd 15 (nI (40 * c + i)) 1 w))))))) 16 (40 * c + i) (nI a) := (((((sw_A (k := 16) (v := nI a) (by omega)).o (by decide)).o (by decide)).o (by decide)).o (by decide)).o (by decide)
  have f17 : Am (swd 26 (nI m) 0 (swd 25 (nI m) 0 (swd 23 (nI m) (nI t) (swd 22 (nI m) (nI (40 * c + i)) (swd 17 (nI (40 * c + i)) (nI b) (swd 16 (nI (40 * c + i)) (nI a) (swd 15 (nI (40 * c + i)) 1 w))))))) 17 (40 * c + i) (nI b) := ((((sw_A (k := 17) (v := nI b) (by omega)).o (by decide)).o (by decide)).o (by decide)).o (by decide)
  have f22 : Am (swd 26 (nI m) 0 (swd 25 (nI m) 0 (swd 23 (nI m) (nI t) (swd 22 (nI m) (nI (40 * c + i)) (swd 17 (nI (40 * c + i)) (nI b) (swd 16 (nI (40 * c + i)) (nI a) (swd 15 (nI (40 * c + i)) 1 w))))))) 22 m (nI (40 * c + i)) := (((sw_A (k := 22) (v := nI (40 * c + i)) (by omega)).o (by decide)).o (by decide)).o (by decide)
  have f23 : Am (swd 26 (nI m) 0 (swd 25 (nI m) 0 (swd 23 (nI m) (nI t) (swd 22 (nI m) (nI (40 * c + i)) (swd 17 (nI (40 * c + i)) (nI b) (swd 16 (nI (40 * c + i)) (nI a) (swd 15 (nI (40 * c + i)) 1 w))))))) 23 m (nI t) := ((sw_A (k := 23) (v := nI t) (by omega)).o (by decide)).o (by decide)
  have f25 : Am (swd 26 (nI m) 0 (swd 25 (nI m) 0 (swd 23 (nI m) (nI t) (swd 22 (nI m) (nI (40 * c + i)) (swd 17 (nI (40 * c + i)) (nI b) (swd 16 (nI (40 * c + i)) (nI a) (swd 15 (nI (40 * c + i)) 1 w))))))) 25 m 0 := (sw_A (k := 25) (v := 0) (by omega)).o (by decide)
  have f26 : Am (swd 26 (nI m) 0 (swd 25 (nI m) 0 (swd 23 (nI m) (nI t) (swd 22 (nI m) (nI (40 * c + i)) (swd 17 (nI (40 * c + i)) (nI b) (swd 16 (nI (40 * c + i)) (nI a) (swd 15 (nI (40 * c + i)) 1 w))))))) 26 m 0 := sw_A (k := 26) (v := 0) (by omega)
  generalize swd 26 (nI m) 0 (swd 25 (nI m) 0 (swd 23 (nI m) (nI t) (swd 22 (nI m) (nI (40 * c + i)) (swd 17 (nI (40 * c + i)) (nI b) (swd 16 (nI (40 * c + i)) (nI a) (swd 15 (nI (40 * c + i)) 1 w)))))) = w7 at hT7 f15 f16 f17 f22 f23 f25 f26 ⊢
  refine r_begins_lp w7 c i (40 * c + i) m hm _ _ (fun v hv h24 => ?_) 16 0 fuel w7 (by omega) (by unfold fuel; omega) ⟨rfl, rfl, fun _ _ _ _ z => z, LFr.rf _⟩ (fun j hj => absurd hj (Nat.not_lt_zero _))
  obtain ⟨v1, v2, v3, v4⟩ := hv
  have hOn : OnM B1 v m c i := by
    refine ⟨hc, by omega, g5, g6, v3 _ _ _ (Or.inl (by decide)) f22, ?_, ?_, ?_, fun k hk => ?_⟩
    · rw [g7]; exact v3 _ _ _ (Or.inl (by decide)) f23
    · rw [g8]; exact v3 _ _ _ (Or.inl (by decide)) f25
    · rw [g9]; exact v3 _ _ _ (Or.inl (by decide)) f26
    · rw [g10 k hk]; exact h24 k hk
  have hTv : Tq c i m (fun _ => False) w v := by
    refine ⟨v1.trans hT7.1, v2.trans hT7.2.1, fun k j x hk hA => v3 k j x ?_ (hT7.2.2.1 k j x hk hA), hT7.2.2.2.trans v4⟩
    have := no hk
    omega
  have hRv : R0 B1 v := by
    refine hR.mat h96 hc (by omega) hm hBq hTv (fun _ _ z => z.elim) (Or.inr ⟨Or.inl ⟨g1, v3 _ _ _ (Or.inl (by decide)) f15, m, hm, g4, v3 _ _ _ (Or.inl (by decide)) f22⟩, ?_, ?_⟩) (Or.inr ⟨c, i, hOn⟩) (fun c2 i2 hc2 hi2 z => ?_)
    · rw [g2]; exact v3 _ _ _ (Or.inl (by decide)) f16
    · rw [g3]; exact v3 _ _ _ (Or.inl (by decide)) f17
    · exact absurd (hon.inj z).symm (nI_ne_1 (by omega))
  have i27 : Im v 27 (nI t) := ⟨(hTv.2.2.2.1 27 (by decide) (by decide)).2.trans h27.1, (hTv.2.2.2.1 27 (by decide) (by decide)).1.trans h27.2⟩
  have i28 : Im v 28 (nI g) := ⟨(hTv.2.2.2.1 28 (by decide) (by decide)).2.trans h28.1, (hTv.2.2.2.1 28 (by decide) (by decide)).1.trans h28.2⟩
  have hnf : nF v ≤ 96 := by
    unfold nF at h96 ⊢
    rw [hTv.1]
    exact h96
  refine Ok_rfN i27 (Ok_ite (fun h0 => ?_) (fun h0 => Ok_rt ⟨rfl, ?_, hTv.2.2.2⟩))
  · refine Ok_cl (Ok.mono (r_goesOver hRv hnf hm hOn (Or.inl g8) i28 hg) (fun r y hy => Ok_rt ⟨rfl, ?_, hTv.2.2.2.trans hy.2.2.1⟩))
    unfold tvB
    rw [if_neg (fun z => z.elim hOn.ne.1 (fun q => q (by rw [g7, h0]; exact Int32.le_refl _)))]
    exact hy.1
  · unfold tvB
    rw [if_pos (Or.inr (fun q => h0 ?_))]
    · exact hRv
    · rw [g7] at q
      have := (nI_leI (a := t) (b := 0) (by omega) (by decide)).mp q
      have : t = 0 := by omega
      rw [this]
      rfl

