/-! ===== the state that anew() leaves ===== -/
def Az (w : GS) (c : Nat) : Prop := w.2.2 0 c = true ∧ w.2.2 1 c = true ∧ Am w 12 c 0
def Aw (w : GS) (c n : Nat) : Prop := Im w 2 0 ∧ w.2.1 3 = true ∧ w.2.1 4 = true ∧ (∀ d, d < c → Az w d) ∧ ∀ j, j < n → Am w 15 j 0
theorem Az.o {w : GS} {c k j : Nat} {v : Int32} (h : Az w c) (hj : j < 2 ^ 31) (hk : k = 12 → ¬ c = j) : Az (swd k (nI j) v w) c := by
  refine ⟨sw_mm h.1, sw_mm h.2.1, ?_⟩
  by_cases h12 : k = 12
  · subst h12
    exact sw_An hj (hk rfl) h.2.2
  · exact Am.o (fun z => h12 z.symm) h.2.2
theorem ok_anew2_47 (c : Nat) (hc : c < 4) (K : Int32 → Int32 → PG Int32) (Q : Int32 → GS → Prop) (hK : ∀ w, Aw w (c + 1) (40 * (c + 1)) → Ok (K (nI c) (nI 40)) w Q) : ∀ (m k n : Nat) (w : GS), k + m = 40 → m < n → Aw w (c + 1) (40 * c + k) → Ok (lp_anew_47 n (nI c) (nI k) K) w Q := by
  intro m
  induction m with
  | zero =>
    intro k n w hk hn hw
    cases n with
    | zero => exact absurd hn (Nat.not_lt_zero _)
    | succ n =>
      unfold lp_anew_47
      have hk40 : k = 40 := by omega
      subst hk40
      exact Ok_ite (fun _ => hK w hw) (fun h => absurd (Int32.le_refl _) h)
  | succ m ih =>
    intro k n w hk hn hw
    cases n with
    | zero => exact absurd hn (Nat.not_lt_zero _)
    | succ n =>
      unfold lp_anew_47
      refine Ok_ite (fun h => absurd ((nI_le4 (k := k) (n := 40) (by omega) (by decide)).mp h) (by omega)) (fun _ => ?_)
      refine Ok_wdN (ix40 c k) (by omega) (by decide) (Ok_li ?_)
      rw [nI_1]
      refine ih (k + 1) n _ (by omega) (by omega) ⟨hw.1, hw.2.1, hw.2.2.1, fun d hd => (hw.2.2.2.1 d hd).o (by omega) (fun z => absurd z (by decide)), fun j hj => ?_⟩
      by_cases he : j = 40 * c + k
      · rw [he]
        exact sw_A (by omega)
      · exact sw_An (by omega) he (hw.2.2.2.2 j (by omega))
theorem ok_anew2_18 (K : Int32 → PG Int32) (Q : Int32 → GS → Prop) (hK : ∀ w, Aw w 4 160 → Ok (K (nI 4)) w Q) : ∀ (m k n : Nat) (w : GS), k + m = 4 → m < n → Aw w k (40 * k) → Ok (lp_anew_18 n (nI k) K) w Q := by
  intro m
  induction m with
  | zero =>
    intro k n w hk hn hw
    cases n with
    | zero => exact absurd hn (Nat.not_lt_zero _)
    | succ n =>
      unfold lp_anew_18
      have hk4 : k = 4 := by omega
      subst hk4
      exact Ok_ite (fun _ => hK w hw) (fun h => absurd (Int32.le_refl _) h)
  | succ m ih =>
    intro k n w hk hn hw
    cases n with
    | zero => exact absurd hn (Nat.not_lt_zero _)
    | succ n =>
      unfold lp_anew_18
      refine Ok_ite (fun h => absurd ((nI_le4 (k := k) (n := 4) (by omega) (by decide)).mp h) (by omega)) (fun _ => ?_)
      refine Ok_wdN rfl (by omega) (by decide) (Ok_wdN rfl (by omega) (by decide) (Ok_wdN rfl (by omega) (by decide) ?_))
      refine ok_anew2_47 k (by omega) _ Q (fun w2 h2 => ?_) 40 0 fuel _ rfl (by unfold fuel; omega) ⟨hw.1, hw.2.1, hw.2.2.1, fun d hd => ?_, fun j hj => ?_⟩
      · refine Ok_li ?_
        rw [nI_1]
        exact ih (k + 1) n w2 (by omega) (by omega) h2
      · by_cases he : d = k
        · rw [he]
          exact ⟨sw_mm (sw_mm (sw_me (v := 0) (by omega))), sw_mm (sw_me (v := 200000) (by omega)), sw_A (by omega)⟩
        · exact (((hw.2.2.2.1 d (by omega)).o (by omega) (fun z => absurd z (by decide))).o (by omega) (fun z => absurd z (by decide))).o (by omega) (fun _ => he)
      · exact Am.o (by decide) (Am.o (by decide) (Am.o (by decide) (hw.2.2.2.2 j (by omega))))
theorem ok_anew2_79 (w0 : GS) (K : Int32 → PG Int32) (Q : Int32 → GS → Prop) (hK : ∀ w, Aw w 4 160 → (∀ m, m < 4 → Am w 22 m (-1)) → Ok (K (nI 4)) w Q) : ∀ (m k n : Nat) (w : GS), k + m = 4 → m < n → Aw w 4 160 → (∀ m, m < k → Am w 22 m (-1)) → Ok (lp_anew_79 n (nI k) K) w Q := by
  intro m
  induction m with
  | zero =>
    intro k n w hk hn hw h22
    cases n with
    | zero => exact absurd hn (Nat.not_lt_zero _)
    | succ n =>
      unfold lp_anew_79
      have hk4 : k = 4 := by omega
      subst hk4
      exact Ok_ite (fun _ => hK w hw h22) (fun h => absurd (Int32.le_refl _) h)
  | succ m ih =>
    intro k n w hk hn hw h22
    cases n with
    | zero => exact absurd hn (Nat.not_lt_zero _)
    | succ n =>
      unfold lp_anew_79
      refine Ok_ite (fun h => absurd ((nI_le4 (k := k) (n := 4) (by omega) (by decide)).mp h) (by omega)) (fun _ => ?_)
      refine Ok_wdN rfl (by omega) (by decide) (Ok_li ?_)
      rw [nI_1]
      refine ih (k + 1) n _ (by omega) (by omega) ⟨hw.1, hw.2.1, hw.2.2.1, fun d hd => (hw.2.2.2.1 d hd).o (by omega) (fun z => absurd z (by decide)), fun j hj => Am.o (by decide) (hw.2.2.2.2 j hj)⟩ (fun j hj => ?_)
      by_cases he : j = k
      · rw [he]
        exact sw_A (by omega)
      · exact sw_An (by omega) he (h22 j (by omega))
/-- a new hall -/
def Nw (w : GS) : Prop := Aw w 4 160 ∧ (∀ m, m < 4 → Am w 22 m (-1)) ∧ ∀ k, 27 ≤ k → k ≤ 31 → Im w k 0
theorem ok_anew2 (w : GS) : Ok f_anew w (fun _ v => Nw v) := by
  unfold f_anew
  refine Ok_clr (Ok_wf (Ok_wf (Ok_wf ?_)))
  refine ok_anew2_18 _ _ (fun w2 h2 => ?_) 4 0 fuel _ rfl (by unfold fuel; omega) ⟨⟨rfl, rfl⟩, rfl, rfl, fun d hd => absurd hd (Nat.not_lt_zero _), fun j hj => absurd hj (Nat.not_lt_zero _)⟩
  refine ok_anew2_79 w2 _ _ (fun w3 h3 h22 => ?_) 4 0 fuel _ rfl (by unfold fuel; omega) h2 (fun j hj => absurd hj (Nat.not_lt_zero _))
  refine Ok_wf (Ok_wf (Ok_wf (Ok_wf (Ok_wf (Ok_rt ⟨h3, h22, fun k h1 h2 => ?_⟩)))))
  rcases (by omega : k = 27 ∨ k = 28 ∨ k = 29 ∨ k = 30 ∨ k = 31) with rfl | rfl | rfl | rfl | rfl
  · exact ⟨rfl, rfl⟩
  · exact ⟨rfl, rfl⟩
  · exact ⟨rfl, rfl⟩
  · exact ⟨rfl, rfl⟩
  · exact ⟨rfl, rfl⟩
theorem Nw.inv {w : GS} (h : Nw w) : Inv w := by
  obtain ⟨⟨h2, h3, h4, h5, h6⟩, h7, h8⟩ := h
  have hn : nF w = 0 := by unfold nF; rw [h2.2]; rfl
  refine ⟨⟨⟨h2.1, by rw [hn]; exact h2.2, by omega⟩, ⟨h3, h4, (h8 29 (by decide) (by decide)).1, (h8 30 (by decide) (by decide)).1, (h8 31 (by decide) (by decide)).1, 0, by decide, (h8 29 (by decide) (by decide)).2⟩, fun f hf => by omega, fun c hc => ?_, fun c hc i hi z => ?_, fun m hm => ⟨(h7 m hm).1, fun z => absurd (h7 m hm).2 z⟩, fun c hc i hi z => ?_⟩, Or.inl (h8 30 (by decide) (by decide)).2, fun m hm z => absurd (h7 m hm).2 z⟩
  · obtain ⟨a1, a2, a3⟩ := h5 c hc
    exact ⟨a1, a2, Or.inl a3, fun i hi => (h6 _ (by omega)).1⟩
  · exact absurd (h6 (40 * c + i) (by omega)).2 z
  · rw [(h6 (40 * c + i) (by omega)).2] at z
    exact absurd z (by decide)

