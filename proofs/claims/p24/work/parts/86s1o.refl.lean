/-! ===== the reference's loserTo, exactly ===== -/
def NTw (B : Nat → Int32) (c S : Nat) : Prop := ∀ i, i < S - 1 → mkF B c i = 3 → wnF B c i = tA B c S i ∨ wnF B c i = tB B c S i
def NTp (B : Nat → Int32) (c S : Nat) : Prop := ∀ p f, p < S → f < 96 → pl B c p = nI f → B (153 + 7 * f) = nI p
theorem half2 {L : Nat} (h : 1 ≤ L) : 2 ^ L / 2 + 2 ^ L / 2 = 2 ^ L := by
  obtain ⟨k, rfl⟩ : ∃ k, L = k + 1 := ⟨L - 1, by omega⟩
  rw [Nat.pow_succ]
  omega
theorem stL_pow : ∀ L < 6, 3 ≤ L → stL (2 ^ L) = L - 2 ∧ bas L (L - 2) = 2 ^ L - 4 ∧ bas L (L - 2 + 1) = 2 ^ L - 2 := by decide +kernel
theorem tW_wn {B : Nat → Int32} {c S i f : Nat} (hf : f < 96) (hlt : ¬ i < S / 2) (e : tW B c S i = nI f) : mkF B c i = 3 ∧ wnF B c i = nI f := by
  unfold tW at e
  rw [if_neg (fun z => hlt z.1)] at e
  unfold wF at e
  by_cases hm : mkF B c i = 3
  · rw [if_pos hm] at e
    exact ⟨hm, e⟩
  · rw [if_neg hm] at e
    exact absurd e.symm (nI_ne_1 (by omega))
theorem up_lem {B : Nat → Int32} {c L : Nat} (hL3 : 3 ≤ L) (hL5 : L ≤ 5) (hw : NTw B c (2 ^ L)) : ∀ r, r < L → ∀ i f, bas L r ≤ i → i < bas L (r + 1) → f < 96 → tW B c (2 ^ L) i = nI f → ∃ p, p < 2 ^ L ∧ pl B c p = nI f ∧ i = bas L r + p / 2 ^ (r + 1) := by
  have h32 := pow_lt32 hL5
  have h8 := half2 (L := L) (by omega)
  obtain ⟨b0, b1⟩ := bas_one L (by omega) hL3
  intro r
  induction r with
  | zero =>
    intro hr i f h1 h2 hf e
    have hlt : i < 2 ^ L / 2 := by
      rw [← b1]
      exact h2
    have fin : ∀ b, b < 2 → pl B c (2 * i + b) = nI f → ∃ p, p < 2 ^ L ∧ pl B c p = nI f ∧ i = bas L 0 + p / 2 ^ (0 + 1) := fun b hb q => ⟨2 * i + b, by omega, q, by
      rw [b0]
      show i = 0 + (2 * i + b) / 2
      omega⟩
    unfold tW at e
    by_cases hk : i < 2 ^ L / 2 ∧ (pl B c (2 * i) = -1 ∨ pl B c (2 * i + 1) = -1)
    · rw [if_pos hk] at e
      by_cases h0 : pl B c (2 * i) = -1
      · rw [if_pos h0] at e
        exact fin 1 (by decide) e
      · rw [if_neg h0] at e
        exact fin 0 (by decide) e
    · rw [if_neg hk] at e
      unfold wF at e
      by_cases hm : mkF B c i = 3
      · rw [if_pos hm] at e
        rcases hw i (by omega) hm with z | z
        · unfold tA at z
          rw [if_pos hlt, e] at z
          exact fin 0 (by decide) z.symm
        · unfold tB at z
          rw [if_pos hlt, e] at z
          exact fin 1 (by decide) z.symm
      · rw [if_neg hm] at e
        exact absurd e.symm (nI_ne_1 (by omega))
  | succ r ih =>
    intro hr i f h1 h2 hf e
    have hbm := (bas_mono L (by omega) (r + 1 + 1) (by omega)).2.2.2
    obtain ⟨q1, q2, q3, q4⟩ := bas_rng L (by omega) hL3 (r + 1) (by omega) hr i (by omega) h1 h2
    obtain ⟨g1, g2⟩ := bas_low L (by omega) (r + 1) (by omega) i (by omega) ⟨hL3, by omega, hr, h1, h2⟩
    have q3 : bas L r + 2 * (i - bas L (r + 1)) + 1 < bas L (r + 1) := q3 (by omega)
    have g1 : bas L r + 2 * (i - bas L (r + 1)) = 2 * (i - 2 ^ L / 2) := g1
    obtain ⟨hm, e⟩ := tW_wn hf (by omega) e
    have fin : ∀ b, b < 2 → tW B c (2 ^ L) (2 * (i - 2 ^ L / 2) + b) = nI f → ∃ p, p < 2 ^ L ∧ pl B c p = nI f ∧ i = bas L (r + 1) + p / 2 ^ (r + 1 + 1) := fun b hb q => by
      obtain ⟨p, hp, hpf, hpi⟩ := ih (by omega) _ f (by omega) (by omega) hf q
      refine ⟨p, hp, hpf, ?_⟩
      have e9 : p / 2 ^ (r + 1 + 1) = p / 2 ^ (r + 1) / 2 := by rw [Nat.pow_succ 2 (r + 1), Nat.div_div_eq_div_mul]
      rw [e9]
      omega
    rcases hw i (by omega) hm with z | z
    · unfold tA at z
      rw [if_neg (by omega), e] at z
      exact fin 0 (by decide) z.symm
    · unfold tB at z
      rw [if_neg (by omega), e] at z
      exact fin 1 (by decide) z.symm
theorem pa_lem {B : Nat → Int32} {c L s f : Nat} (hL3 : 3 ≤ L) (hL5 : L ≤ 5) (hw : NTw B c (2 ^ L)) (hs : s < 2) (hf : f < 96) (hF : tF B c (2 ^ L) s = nI f) : ∀ j, j ≤ L - 2 → bas L (L - 2 - j) ≤ paL B c (2 ^ L) s j ∧ paL B c (2 ^ L) s j < bas L (L - 2 - j + 1) ∧ tW B c (2 ^ L) (paL B c (2 ^ L) s j) = nI f := by
  obtain ⟨c1, c2, c3⟩ := stL_pow L (by omega) hL3
  have h32 := pow_lt32 hL5
  have h8 : 8 ≤ 2 ^ L := by
    have hh : ∀ L < 6, 3 ≤ L → 8 ≤ 2 ^ L := by decide
    exact hh L (by omega) hL3
  intro j
  induction j with
  | zero =>
    intro _
    rw [Nat.sub_zero, c2, c3]
    have e0 : paL B c (2 ^ L) s 0 = 2 ^ L - 4 + s := rfl
    rw [e0]
    exact ⟨by omega, by omega, hF⟩
  | succ j ih =>
    intro hj
    obtain ⟨i1, i2, i3⟩ := ih (by omega)
    obtain ⟨r, hr⟩ : ∃ r, L - 2 - j = r + 1 := ⟨L - 2 - j - 1, by omega⟩
    have hr2 : L - 2 - (j + 1) = r := by omega
    rw [hr] at i1 i2
    rw [hr2]
    have e9 : paL B c (2 ^ L) s (j + 1) = 2 * (paL B c (2 ^ L) s j - 2 ^ L / 2) + (if tA B c (2 ^ L) (paL B c (2 ^ L) s j) = tF B c (2 ^ L) s then 0 else 1) := rfl
    rw [e9]
    generalize paL B c (2 ^ L) s j = i at i1 i2 i3 ⊢
    have hbm := (bas_mono L (by omega) (r + 1 + 1) (by omega)).2.2.2
    obtain ⟨q1, q2, q3, q4⟩ := bas_rng L (by omega) hL3 (r + 1) (by omega) (by omega) i (by omega) i1 i2
    obtain ⟨g1, g2⟩ := bas_low L (by omega) (r + 1) (by omega) i (by omega) ⟨hL3, by omega, by omega, i1, i2⟩
    have q3 : bas L r + 2 * (i - bas L (r + 1)) + 1 < bas L (r + 1) := q3 (by omega)
    have g1 : bas L r + 2 * (i - bas L (r + 1)) = 2 * (i - 2 ^ L / 2) := g1
    obtain ⟨hm, ew⟩ := tW_wn hf (by omega) i3
    have ha : tA B c (2 ^ L) i = tW B c (2 ^ L) (2 * (i - 2 ^ L / 2)) := by
      unfold tA
      rw [if_neg (by omega)]
    have hb : tB B c (2 ^ L) i = tW B c (2 ^ L) (2 * (i - 2 ^ L / 2) + 1) := by
      unfold tB
      rw [if_neg (by omega)]
    by_cases hA : tA B c (2 ^ L) i = tF B c (2 ^ L) s
    · rw [if_pos hA, Nat.add_zero]
      exact ⟨by omega, by omega, by rw [← ha, hA, hF]⟩
    · rw [if_neg hA]
      refine ⟨by omega, by omega, ?_⟩
      rcases hw i (by omega) hm with z | z
      · exact absurd (by rw [← z, ew, hF]) hA
      · rw [← hb, ← z, ew]
/-- what the loser of a way is for the reference -/
def LV (B : Nat → Int32) (c S s t : Nat) : Int32 := if tF B c S s = -1 then -1 else if t = 0 then sd0 (loL B c S s 0) else loL B c S s t
theorem sv_loser {B : Nat → Int32} {w : GS} {c L : Nat} (h : R0 B w) (hT : Tre w c L) (hm : NTm B c (2 ^ L)) (hw : NTw B c (2 ^ L)) (hp : NTp B c (2 ^ L)) (d s r : Nat) (a3 : Int32) (hs : s < 2) (hr : r ≤ L - 2) (hd : 2 * L ≤ d) : Rd (fS d 2 (nI c) (nI s) (nI r) a3) w (fun x => x = LV B c (2 ^ L) s r) := by
  have hT2 := hT
  obtain ⟨hn, hc, hL3, hL5, hsz, h12, h13, hwho, hbye, hres⟩ := hT2
  have h32 := pow_lt32 hL5
  obtain ⟨c1, c2, c3⟩ := stL_pow L (by omega) hL3
  cases d with
  | zero => omega
  | succ d =>
    unfold fS
    rw [if_neg (by decide), if_neg (by decide), if_pos rfl]
    unfold bd_loserTo
    refine Rd_clR (ok_rounds w c L hc hL5 (by omega) h13) (fun z hz => ?_)
    subst hz
    have e1 : nI (L - 1) - 1 = nI (L - 1 - 1) := nI_sub (b := 1) (by omega)
    rw [e1, show L - 1 - 1 = L - 2 by omega]
    refine Rd_clR (ok_base w c L (L - 2) hc hL5 (by omega) h13) (fun z hz => ?_)
    subst hz
    rw [nI_add]
    have hsr := semi_rng L (by omega) s hs hL3
    refine Rd_clR ((sv_main h hT hm (L - 2) (by omega)).2 d _ 0 0 (by omega) (by omega) hsr) (fun z hz => ?_)
    have eF : tF B c (2 ^ L) s = tW B c (2 ^ L) (bas L (L - 2) + s) := by
      unfold tF
      rw [c2]
    rw [← eF] at hz
    subst hz
    refine Rd_ite (fun h1 => Rd_rt ?_) (fun h1 => ?_)
    · unfold LV
      rw [if_pos h1]
    · rcases tWT h hT (i := bas L (L - 2) + s) (by omega) with z | ⟨f, hf, z, hP⟩
      · rw [eF] at h1
        exact absurd z h1
      rw [← eF] at z
      refine Rd_clR (ok_base w c L r hc hL5 (by omega) h13) (fun y hy => ?_)
      subst hy
      obtain ⟨p, hpS, hpf, -⟩ := up_lem hL3 hL5 hw (L - 2) (by omega) (bas L (L - 2) + s) f (by omega) hsr hf (by rw [← eF]; exact z)
      have hplace : Am w 10 f (nI p) := by
        rw [← hp p f hpS hf hpf]
        exact (h.2.2.1 f hP.1).2.2.2.2.2.1
      rw [z]
      refine Rd_rdN rfl hf (by decide) hplace (Rd_li ?_)
      rw [nI_1, shrP p (by omega) (r + 1) (by omega), nI_add]
      have hb := plc_rng L (by omega) r (by omega) p (by omega) ⟨by omega, hpS⟩
      have hj : L - 2 - (L - 2 - r) = r := by omega
      obtain ⟨i1, i2, i3⟩ := pa_lem hL3 hL5 hw hs hf z (L - 2 - r) (by omega)
      rw [hj] at i1 i2
      obtain ⟨p2, hp2S, hp2f, hp2i⟩ := up_lem hL3 hL5 hw r (by omega) _ f i1 i2 hf i3
      have epp : p2 = p := (nI_eq (by omega) (by omega)).mp ((hp p2 f hp2S hf hp2f).symm.trans (hp p f hpS hf hpf))
      subst epp
      rw [← hp2i]
      have hmm := (sv_main h hT hm r (by omega)).1
      have elo : loL B c (2 ^ L) s r = if tA B c (2 ^ L) (paL B c (2 ^ L) s (L - 2 - r)) = nI f then tB B c (2 ^ L) (paL B c (2 ^ L) s (L - 2 - r)) else tA B c (2 ^ L) (paL B c (2 ^ L) s (L - 2 - r)) := by
        unfold loL
        rw [if_neg h1, c1, if_pos hr, z]
      generalize paL B c (2 ^ L) s (L - 2 - r) = i at i1 i2 elo ⊢
      refine Rd_clR (hmm d i 0 0 (by omega) i1 i2 (by decide)) (fun a ha => ?_)
      have hres2 : ∀ b, b = SV B c (2 ^ L) i 1 → (if a = nI f then b else a) = LV B c (2 ^ L) s r := fun b hbv => by
        unfold LV
        rw [if_neg h1]
        unfold SV at ha hbv
        by_cases hr0 : r = 0
        · subst hr0
          have hlt : i < 2 ^ L / 2 := by
            rw [← (bas_one L (by omega) hL3).2]
            exact i2
          rw [if_pos hlt] at ha hbv
          rw [if_pos rfl, elo]
          unfold tA tB
          rw [if_pos hlt, if_pos hlt]
          rw [Nat.add_zero] at ha
          have esd : (a = nI f) ↔ pl B c (2 * i) = nI f := by
            rw [ha]
            unfold sd0
            by_cases q : pl B c (2 * i) = -1
            · rw [if_pos q, q]
              exact ⟨fun y => absurd y.symm (nI_ne_2 (by omega)), fun y => absurd y.symm (nI_ne_1 (by omega))⟩
            · rw [if_neg q]
          by_cases q : a = nI f
          · rw [if_pos q, if_pos (esd.mp q), hbv]
          · rw [if_neg q, if_neg (fun y => q (esd.mpr y)), ha]
        · have hlt : ¬ i < 2 ^ L / 2 := by
            have hbm := (bas_mono L (by omega) (r + 1) (by omega)).2.2.2
            have := (bas_low L (by omega) r (by omega) i (by omega) ⟨hL3, by omega, by omega, i1, i2⟩).2
            omega
          rw [if_neg hlt] at ha hbv
          rw [if_neg hr0, elo]
          unfold tA tB
          rw [if_neg hlt, if_neg hlt, ha, hbv]
          rfl
      refine Rd_ite (fun q => ?_) (fun q => Rd_rt ?_)
      · refine Rd_clR (hmm d i 1 0 (by omega) i1 i2 (by decide)) (fun b hb => Rd_rt ?_)
        have y := hres2 b hb
        rw [if_pos q] at y
        exact y
      · have y := hres2 _ rfl
        rw [if_neg q] at y
        exact y

