/-! ===== both sides anew ===== -/
def Ax (w : GS) (c : Nat) : Prop := Im w 2 0 ∧ Im w 3 0 ∧ Im w 4 10 ∧ ∀ d, d < c → Am w 0 d 0 ∧ Am w 1 d 200000
theorem Ax.o {w : GS} {c k j : Nat} {v : Int32} (h : Ax w c) (hk : ¬ k = 0 ∧ ¬ k = 1) : Ax (swd k (nI j) v w) c := ⟨h.1, h.2.1, h.2.2.1, fun d hd => ⟨Am.o (fun z => hk.1 z.symm) (h.2.2.2 d hd).1, Am.o (fun z => hk.2 z.symm) (h.2.2.2 d hd).2⟩⟩
theorem ax_47 (c : Nat) (hc : c < 4) (K : Int32 → Int32 → PG Int32) (Q : Int32 → GS → Prop) {m : Nat} (hK : ∀ w, Ax w m → Ok (K (nI c) (nI 40)) w Q) : ∀ (t k n : Nat) (w : GS), k + t = 40 → t < n → Ax w m → Ok (lp_anew_47 n (nI c) (nI k) K) w Q := by
  intro t
  induction t with
  | zero =>
    intro k n w hk hn hw
    cases n with
    | zero => exact absurd hn (Nat.not_lt_zero _)
    | succ n =>
      unfold lp_anew_47
      have hk40 : k = 40 := by omega
      subst hk40
      exact Ok_ite (fun _ => hK w hw) (fun h => absurd (Int32.le_refl _) h)
  | succ t ih =>
    intro k n w hk hn hw
    cases n with
    | zero => exact absurd hn (Nat.not_lt_zero _)
    | succ n =>
      unfold lp_anew_47
      refine Ok_ite (fun h => absurd ((nI_le4 (k := k) (n := 40) (by omega) (by decide)).mp h) (by omega)) (fun _ => ?_)
      refine Ok_wdN (ix40 c k) (by omega) (by decide) (Ok_li ?_)
      rw [nI_1]
      exact ih (k + 1) n _ (by omega) (by omega) (hw.o (by decide))
theorem ax_18 (K : Int32 → PG Int32) (Q : Int32 → GS → Prop) (hK : ∀ w, Ax w 4 → Ok (K (nI 4)) w Q) : ∀ (m k n : Nat) (w : GS), k + m = 4 → m < n → Ax w k → Ok (lp_anew_18 n (nI k) K) w Q := by
  intro m
  induction m with
  | zero =>
    intro k n w hk hn hw
    cases n with
    | zero => exact absurd hn (Nat.not_lt_zero _)
    | succ n =>
      unfold lp_anew_18
      have hk4 : k = 4 := by omega
      subst hk4
      exact Ok_ite (fun _ => hK w hw) (fun h => absurd (Int32.le_refl _) h)
  | succ m ih =>
    intro k n w hk hn hw
    cases n with
    | zero => exact absurd hn (Nat.not_lt_zero _)
    | succ n =>
      unfold lp_anew_18
      refine Ok_ite (fun h => absurd ((nI_le4 (k := k) (n := 4) (by omega) (by decide)).mp h) (by omega)) (fun _ => ?_)
      refine Ok_wdN rfl (by omega) (by decide) (Ok_wdN rfl (by omega) (by decide) (Ok_wdN rfl (by omega) (by decide) ?_))
      refine ax_47 k (by omega) _ Q (m := k + 1) (fun w2 h2 => ?_) 40 0 fuel _ rfl (by unfold fuel; omega) ⟨hw.1, hw.2.1, hw.2.2.1, fun d hd => ?_⟩
      · refine Ok_li ?_
        rw [nI_1]
        exact ih (k + 1) n w2 (by omega) (by omega) h2
      · by_cases he : d = k
        · rw [he]
          exact ⟨Am.o (by decide) (Am.o (by decide) (sw_A (by omega))), Am.o (by decide) (sw_A (by omega))⟩
        · obtain ⟨a, b⟩ := hw.2.2.2 d (by omega)
          exact ⟨Am.o (by decide) (Am.o (by decide) (sw_An (by omega) he a)), Am.o (by decide) (sw_An (by omega) he (Am.o (by decide) b))⟩
theorem ax_79 (K : Int32 → PG Int32) (Q : Int32 → GS → Prop) (hK : ∀ w, Ax w 4 → Ok (K (nI 4)) w Q) : ∀ (m k n : Nat) (w : GS), k + m = 4 → m < n → Ax w 4 → Ok (lp_anew_79 n (nI k) K) w Q := by
  intro m
  induction m with
  | zero =>
    intro k n w hk hn hw
    cases n with
    | zero => exact absurd hn (Nat.not_lt_zero _)
    | succ n =>
      unfold lp_anew_79
      have hk4 : k = 4 := by omega
      subst hk4
      exact Ok_ite (fun _ => hK w hw) (fun h => absurd (Int32.le_refl _) h)
  | succ m ih =>
    intro k n w hk hn hw
    cases n with
    | zero => exact absurd hn (Nat.not_lt_zero _)
    | succ n =>
      unfold lp_anew_79
      refine Ok_ite (fun h => absurd ((nI_le4 (k := k) (n := 4) (by omega) (by decide)).mp h) (by omega)) (fun _ => ?_)
      refine Ok_wdN rfl (by omega) (by decide) (Ok_li ?_)
      rw [nI_1]
      exact ih (k + 1) n _ (by omega) (by omega) (hw.o (by decide))
theorem ok_anew3 (w : GS) : Ok f_anew w (fun _ v => Ax v 4) := by
  unfold f_anew
  refine Ok_clr (Ok_wf (Ok_wf (Ok_wf ?_)))
  refine ax_18 _ _ (fun w2 h2 => ?_) 4 0 fuel _ (by omega) (by unfold fuel; omega) ⟨(swf_e.o (by decide)).o (by decide), swf_e.o (by decide), swf_e, fun d hd => absurd hd (Nat.not_lt_zero _)⟩
  refine ax_79 _ _ (fun w3 h3 => ?_) 4 0 fuel w2 (by omega) (by unfold fuel; omega) h2
  exact Ok_wf (Ok_wf (Ok_wf (Ok_wf (Ok_wf (Ok_rt ⟨h3.1, h3.2.1, h3.2.2.1, h3.2.2.2⟩)))))
theorem bk0_c : ∀ c < 4, bk0 (4 + 36 * c) = 0 ∧ bk0 (5 + 36 * c) = 200000 ∧ bk0 (6 + 36 * c) = 0 := by decide +kernel
theorem bk0_f : ∀ f < 96, bk0 (151 + 7 * f) = 0 ∧ bk0 (152 + 7 * f) = 0 ∧ bk0 (154 + 7 * f) = 0 := by decide +kernel
theorem bk0_r : ∀ c < 4, ∀ i < 37, bk0 (fc c i) = 0 := by decide +kernel
theorem bk0_m : ∀ m < 4, bk0 (mc0 m + 1) = -1 := by decide +kernel
theorem bk0_h : bk0 0 = 0 ∧ bk0 1 = 10 ∧ bk0 2 = 0 ∧ bk0 3 = 0 := by decide +kernel
theorem s0_r0 : R0 bk0 s0 ∧ ∀ k, 27 ≤ k → k ≤ 31 → Im s0 k 0 := by
  obtain ⟨r, c0, e, e2, h⟩ := s0_eq
  obtain ⟨r3, c3, e3, hA⟩ := ok_anew3 B0
  rw [e] at e3
  cases e3
  have im : ∀ {k x}, isL k = false → isS k = false → Im c0 k x → Im s0 k x := fun a b z => by
    rw [e2]
    exact ⟨(lf_i a b).trans z.1, z.2⟩
  have am : ∀ {k j x}, k ≤ 26 → Am c0 k j x → Am s0 k j x := fun a z => by
    rw [e2]
    refine ⟨?_, z.2⟩
    rw [lf_a (isA_lt (by omega)) (by omega)]
    exact z.1
  have hn : nF s0 = 0 := by
    have h9 := (im rfl rfl hA.1).2
    unfold nF
    rw [h9]
    rfl
  refine ⟨⟨⟨by rw [bk0_h.2.2.1]; exact im rfl rfl hA.1, by rw [bk0_h.1]; exact im rfl rfl hA.2.1, by rw [bk0_h.2.1]; exact im rfl rfl hA.2.2.1⟩, fun c hc => ?_, fun f hf => ?_, fun f _ h2 => ⟨(bk0_f f h2).1, (bk0_f f h2).2.1⟩, fun c hc i hi => Or.inl ⟨bk0_r c hc i hi, am (by decide) (h.1.2.2.2.2 (40 * c + i) (by omega))⟩, fun m hm => Or.inl ⟨bk0_m m hm, am (by decide) (h.2.1 m hm)⟩⟩, fun k k1 k2 => ?_⟩
  · obtain ⟨b1, b2, b3⟩ := bk0_c c hc
    unfold rC
    rw [b1, b2, b3]
    exact ⟨am (by decide) (hA.2.2.2 c hc).1, am (by decide) (hA.2.2.2 c hc).2, am (by decide) (h.1.2.2.2.1 c hc).2.2, fun z => absurd rfl z⟩
  · rw [hn] at hf
    exact absurd hf (Nat.not_lt_zero _)
  · have h9 := h.2.2 k k1 k2
    have hL : isL k = true := decide_eq_true ⟨k1, k2⟩
    rw [e2]
    refine ⟨?_, h9.2⟩
    rw [lf_li hL, h9.1]
    show (isL k && true) = true
    rw [hL]
    rfl
theorem sm_init {P : LwP} (hP : P.2.2 = L0c) : ∃ r w1, f_anew iu0 = some (r, w1) ∧ SmE P [] 0 0 u0c w1 ∧ TpR 0 u0c w1 ∧ FtR u0c w1 := by
  obtain ⟨r0, c0, a1, a2, a3⟩ := s0_eq
  obtain ⟨v0, f0, g0, -⟩ := det_anew B0 iu0 (B0_ag iu0) (fun z => by cases z) r0 c0 a1
  have hF := fr_anew iu0 r0 v0 f0
  have hF2 := fw_anew iu0 r0 v0 f0
  obtain ⟨hR, hL⟩ := s0_r0
  have hX : LiveX 0 0 0 0 (fun _ => (0, 0, 0, 0)) (fun _ => s0) v0 := by
    refine ⟨by omega, (hF.1 53 rfl).1, (hF.1 55 rfl).1, (hF.1 42 rfl).1, by omega, by omega, ⟨rfl, fun k hk => ?_, fun k hk => absurd hk (Nat.not_lt_zero _)⟩, ?_, fun k hk => absurd hk (Nat.not_lt_zero _), fun j hj => absurd hj (Nat.not_lt_zero _), fun c _ => hF.2.2 c rfl⟩
    · have : k = 0 := by omega
      subst this
      exact ⟨s0_inv.1, s0_inv.2, s0_nos⟩
    · rw [a2]
      exact lf_ag g0
  have hk0 : ∀ c, c < 4 → bk0 (6 + 36 * c) = 0 := fun c hc => (bk0_c c hc).2.2
  have hB : u0c.2 0 = bk0 := rfl
  have hRX : RX P [] 0 bk0 s0 := by
    refine ⟨⟨hR, fun c hc => ⟨fun z => ?_, fun i _ hi hm => ?_⟩⟩, ⟨fun m hm z => absurd (bk0_m m hm) z, fun c hc i hi z => ?_, ⟨⟨0, by decide, bk0_h.1⟩, ⟨10, by decide, bk0_h.2.1⟩, fun f hf => Or.inr ⟨0, by decide, (bk0_f f hf).2.2⟩⟩, fun m hm z => absurd (bk0_m m hm) z⟩, bk0_h.2.2.2, Nat.le_refl _, ?_⟩
    · rw [hk0 c hc] at z
      exact absurd z (by decide)
    · exact absurd ((if_pos hi).trans (bk0_r c hc i hi)) hm
    · rw [bk0_r c hc i hi] at z
      exact absurd z (by decide)
    · show LRel P.2.2 s0
      rw [hP]
      exact ⟨⟨0, 0, by decide, by decide, rfl, rfl⟩, hL 27 (by decide) (by decide), hL 28 (by decide) (by decide), hL 29 (by decide) (by decide), hL 30 (by decide) (by decide), hL 31 (by decide) (by decide), ⟨0, by decide, rfl⟩, 0, by decide, rfl, fun l hl => absurd hl (Nat.not_lt_zero _)⟩
  refine ⟨r0, v0, f0, ⟨0, 0, _, _, fun _ => 0, fun _ => 0, 0, 512, hX, rfl, ⟨rfl, rfl, rfl, by decide, by decide, by decide⟩, fun k hk => absurd hk (Nat.not_lt_zero _), fun i j _ hj => absurd hj (Nat.not_lt_zero _), fun k hk => absurd hk (Nat.not_lt_zero _), by rw [hB]; exact hRX, fun i j _ _ => Nat.le_refl _, fun c hc => ?_, by decide⟩, TpR.zero rfl, ?_, ?_⟩
  · rw [hB]
    refine ⟨fun z => ?_, fun z => ?_⟩
    · rw [hk0 c hc] at z
      exact absurd z (by decide)
    · rw [hk0 c hc] at z
      exact absurd z (by decide)
  · exact (hF2.1 49 rfl).symm
  · exact (hF2.1 50 rfl).symm

