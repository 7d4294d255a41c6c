/-! ===== sideOf and winnerOf of the reference, exactly: the tree ===== -/
theorem bas_lowA : ∀ L < 6, ∀ r < 5, ∀ i < 32, (3 ≤ L ∧ 1 ≤ r ∧ r < L ∧ bas L r ≤ i ∧ i < bas L (r + 1)) → bas L (r - 1) + 2 * (i - bas L r) = 2 * (i - 2 ^ L / 2) := by decide +kernel
theorem bas_lowB : ∀ L < 6, ∀ r < 5, ∀ i < 32, (3 ≤ L ∧ 1 ≤ r ∧ r < L ∧ bas L r ≤ i ∧ i < bas L (r + 1)) → 2 ^ L / 2 ≤ i := by decide +kernel
theorem bas_low (L : Nat) (h1 : L < 6) (r : Nat) (h2 : r < 5) (i : Nat) (h3 : i < 32) (h : 3 ≤ L ∧ 1 ≤ r ∧ r < L ∧ bas L r ≤ i ∧ i < bas L (r + 1)) : bas L (r - 1) + 2 * (i - bas L r) = 2 * (i - 2 ^ L / 2) ∧ 2 ^ L / 2 ≤ i := ⟨bas_lowA L h1 r h2 i h3 h, bas_lowB L h1 r h2 i h3 h⟩
theorem bas_one : ∀ L < 6, 3 ≤ L → bas L 0 = 0 ∧ bas L 1 = 2 ^ L / 2 := by decide +kernel
theorem Rd.and {β : Type} {p : PG β} {w : GS} {R R2 : β → Prop} (h1 : Rd p w R) (h2 : Rd p w R2) : Rd p w (fun x => R x ∧ R2 x) := by
  obtain ⟨r, v, e1, e2, e3⟩ := h1
  obtain ⟨r2, v2, f1, f2, f3⟩ := h2
  rw [e1] at f1
  cases f1
  exact ⟨r, v, e1, e2, e3, f3⟩
theorem sv_side (w : GS) (c L : Nat) (hT : Tre w c L) (r i sd : Nat) (hr : r < L) (hb1 : bas L r ≤ i) (hb2 : i < bas L (r + 1)) (hsd : sd < 2) (W : Nat → Int32) (F : Nat → Int32 → Int32 → Int32 → Int32 → PG Int32)
    (hF : 1 ≤ r → ∀ i2, bas L (r - 1) ≤ i2 → i2 < bas L (r - 1 + 1) → Rd (F 3 (nI c) (nI i2) 0 0) w (fun x => x = W i2)) :
    Rd (bd_sideOf F (nI c) (nI i) (nI sd)) w (fun x => (1 ≤ r → x = W (2 * (i - 2 ^ L / 2) + sd)) ∧ (r = 0 → x = sd0 (w.1.2 14 (32 * c + (2 * i + sd))))) := by
  obtain ⟨hn, hc, hL3, hL5, hs, h12, h13, hwho, hbye, hres⟩ := hT
  have h32 := pow_lt32 hL5
  have hbm := (bas_mono L (by omega) (r + 1) (by omega)).2.2.2
  obtain ⟨q1, q2, q3, q4⟩ := bas_rng L (by omega) hL3 r (by omega) hr i (by omega) hb1 hb2
  unfold bd_sideOf
  refine Rd_rdN rfl hc (by decide) h12 (Rd_ite (fun h => absurd h (by decide)) (fun _ => ?_))
  have hsec : Rd (f_isSecond (nI c) (nI i)) w (fun x => x = 0) := by
    unfold f_isSecond
    refine Rd_rdN rfl hc (by decide) h12 (Rd_ite (fun _ => ?_) (fun h => absurd rfl h))
    refine Rd_rdN rfl hc (by decide) h13 (Rd_ite (fun _ => Rd_eq rfl) (fun h => absurd ?_ h))
    have e1 : nI (2 ^ L) - 1 = nI (2 ^ L - 1) := nI_sub (b := 1) (by omega)
    rw [e1]
    exact nI_lt (by omega) (by omega)
  refine Rd_clR hsec (fun z hz => ?_)
  subst hz
  refine Rd_ite (fun _ => ?_) (fun h => absurd rfl h)
  refine Rd_clR (ok_roundOf w c L i hc hL5 (by omega) h13) (fun z hz => ?_)
  obtain ⟨k, rfl, hk, hk1, hk2⟩ := hz
  have hkr : k = r := by
    rcases Nat.lt_trichotomy k r with h | h | h
    · have : bas L (k + 1) ≤ bas L r := by
        have hh : ∀ L < 6, ∀ r < 6, ∀ k < r, bas L (k + 1) ≤ bas L r := by decide +kernel
        exact hh L (by omega) r (by omega) k h
      omega
    · exact h
    · have : bas L (r + 1) ≤ bas L k := by
        have hh : ∀ L < 6, ∀ k < 6, ∀ r < k, bas L (r + 1) ≤ bas L k := by decide +kernel
        exact hh L (by omega) k (by omega) r h
      omega
  subst hkr
  refine Rd_clR (ok_base w c L k hc hL5 (by omega) h13) (fun z hz => ?_)
  subst hz
  refine Rd_li ?_
  rw [nI_sub hb1]
  have e2 : (2 : Int32) * nI (i - bas L k) = nI (2 * (i - bas L k)) := by rw [← nI_mul]; rfl
  refine Rd_ite (fun h => ?_) (fun h => ?_)
  · have hk0 : k = 0 := by
      have h9 : nI k = nI 0 := h
      exact (nI_eq (by omega) (by decide)).mp h9
    subst hk0
    have hb0 : bas L 0 = 0 := (bas_mono L (by omega) 0 (by omega)).2.2.1
    rw [hb0, Nat.sub_zero] at e2 q2 ⊢
    have q2 := q2 rfl
    have hm : w.2.2 14 (32 * c + (2 * i + sd)) = true := by
      rcases hwho (2 * i + sd) (by omega) with h1 | ⟨f, h1, h2⟩
      · exact h1.1
      · exact h1.1
    refine Rd_rdN (j := 32 * c + (2 * i + sd)) ?_ (by omega) (by decide) (Am.val hm) ?_
    · rw [e2, ix32, nI_add, Nat.add_assoc]
    · refine Rd_ite (fun h5 => Rd_rt ?_) (fun h5 => Rd_rt ?_)
      · refine ⟨fun z => absurd z (by omega), fun _ => ?_⟩
        unfold sd0
        rw [if_pos h5]
      · refine ⟨fun z => absurd z (by omega), fun _ => ?_⟩
        unfold sd0
        rw [if_neg h5]
  · have hk1' : 1 ≤ k := by
      rcases Nat.eq_zero_or_pos k with h9 | h9
      · subst h9
        exact absurd rfl h
      · exact h9
    have e3 : nI k - 1 = nI (k - 1) := nI_sub (b := 1) hk1'
    rw [e3]
    refine Rd_clR (ok_base w c L (k - 1) hc hL5 (by omega) h13) (fun z hz => ?_)
    subst hz
    rw [e2, nI_add, nI_add]
    obtain ⟨g1, g2⟩ := bas_low L (by omega) k (by omega) i (by omega) ⟨hL3, hk1', hr, hb1, hb2⟩
    refine Rd_clR (hF hk1' _ (by omega) (by have := q3 hk1'; omega)) (fun z hz => ?_)
    refine Rd_rt ⟨fun _ => ?_, fun z => absurd z (by omega)⟩
    rw [hz, g1]
/-- what a side is for the reference: -2 for nobody -/
def SV (B : Nat → Int32) (c S i sd : Nat) : Int32 := if i < S / 2 then sd0 (pl B c (2 * i + sd)) else tW B c S (2 * (i - S / 2) + sd)
/-- no mark is stale: the fights of the tree -/
def NTm (B : Nat → Int32) (c S : Nat) : Prop := ∀ i, i < S - 1 → ¬ mkF B c i = 0 → ¬ tA B c S i = -1 ∧ ¬ tB B c S i = -1
theorem R0.plA {B : Nat → Int32} {w : GS} {c L p : Nat} (h : R0 B w) (hT : Tre w c L) (hp : p < 2 ^ L) : Am w 14 (32 * c + p) (pl B c p) := by
  obtain ⟨hn, hc, hL3, hL5, hs, h12, h13, -⟩ := hT
  have h32 := pow_lt32 hL5
  obtain ⟨-, -, k12, k13⟩ := h.2.1 c hc
  have e6 : B (6 + 36 * c) = 2 := k12.inj h12
  have hne : ¬ B (6 + 36 * c) = 0 := by rw [e6]; decide
  obtain ⟨k13, k14⟩ := k13 hne
  have e7 : B (7 + 36 * c) = nI (2 ^ L) := k13.inj h13
  unfold pl
  rw [if_pos (by omega)]
  exact k14 p (by omega) (by rw [e7]; exact nI_lt hp (by omega))
theorem R0.mk {B : Nat → Int32} {w : GS} {c i : Nat} (h : R0 B w) (hc : c < 4) (hi : i < 37) : (Am w 15 (40 * c + i) 0 ∧ mkF B c i = 0) ∨ (Am w 15 (40 * c + i) 1 ∧ mkF B c i = 2) ∨ (Am w 15 (40 * c + i) 2 ∧ mkF B c i = 3 ∧ Am w 18 (40 * c + i) (wnF B c i)) := by
  unfold mkF wnF
  rw [if_pos hi, if_pos hi]
  rcases h.2.2.2.2.1 c hc i hi with ⟨a, b⟩ | ⟨⟨a, b, -⟩ | ⟨a, b, d, -⟩, -⟩
  · exact Or.inl ⟨b, a⟩
  · exact Or.inr (Or.inl ⟨b, a⟩)
  · exact Or.inr (Or.inr ⟨b, a, d⟩)
theorem plT {B : Nat → Int32} {w : GS} {c L p : Nat} (h : R0 B w) (hT : Tre w c L) (hp : p < 2 ^ L) : pl B c p = -1 ∨ ∃ f, f < 96 ∧ pl B c p = nI f ∧ Plc w c f := by
  rcases hT.2.2.2.2.2.2.2.1 p hp with q | ⟨f, q, hf⟩
  · exact Or.inl ((h.plA hT hp).inj q)
  · exact Or.inr ⟨f, hf.lt hT.1, (h.plA hT hp).inj q, hf⟩
theorem wFT {B : Nat → Int32} {w : GS} {c L i : Nat} (h : R0 B w) (hT : Tre w c L) (hi : i < 37) : wF B c i = -1 ∨ ∃ f, f < 96 ∧ wF B c i = nI f ∧ Plc w c f := by
  unfold wF
  rcases h.mk hT.2.1 hi with ⟨-, e⟩ | ⟨-, e⟩ | ⟨a, e, b⟩
  · rw [e]; exact Or.inl rfl
  · rw [e]; exact Or.inl rfl
  · rw [e, if_pos rfl]
    obtain ⟨f, g1, g2⟩ := (hT.2.2.2.2.2.2.2.2.2 i (by omega)).2 a.2
    exact Or.inr ⟨f, g2.lt hT.1, b.inj g1, g2⟩
theorem tWT {B : Nat → Int32} {w : GS} {c L i : Nat} (h : R0 B w) (hT : Tre w c L) (hi : i < 37) : tW B c (2 ^ L) i = -1 ∨ ∃ f, f < 96 ∧ tW B c (2 ^ L) i = nI f ∧ Plc w c f := by
  have hL3 := hT.2.2.1
  have h8 : 2 ^ L / 2 + 2 ^ L / 2 = 2 ^ L := by
    obtain ⟨k, rfl⟩ : ∃ k, L = k + 1 := ⟨L - 1, by omega⟩
    rw [Nat.pow_succ]; omega
  unfold tW
  by_cases hw : i < 2 ^ L / 2 ∧ (pl B c (2 * i) = -1 ∨ pl B c (2 * i + 1) = -1)
  · rw [if_pos hw]
    by_cases h1 : pl B c (2 * i) = -1
    · rw [if_pos h1]
      exact plT h hT (by omega)
    · rw [if_neg h1]
      exact plT h hT (by omega)
  · rw [if_neg hw]
    exact wFT h hT hi
theorem ne_m2 {x : Int32} {P : Nat → Prop} (h : x = -1 ∨ ∃ f, f < 96 ∧ x = nI f ∧ P f) : ¬ x = -2 := by
  rcases h with rfl | ⟨f, hf, rfl, -⟩
  · decide
  · exact nI_ne_2 (by omega)
theorem sv_win {B : Nat → Int32} {w : GS} {c L i : Nat} (h : R0 B w) (hT : Tre w c L) (hi : i < 2 ^ L - 1) (hN : ¬ mkF B c i = 0 → ¬ tA B c (2 ^ L) i = -1 ∧ ¬ tB B c (2 ^ L) i = -1) (F : Nat → Int32 → Int32 → Int32 → Int32 → PG Int32)
    (hF : ∀ sd, sd < 2 → Rd (F 0 (nI c) (nI i) (nI sd) 0) w (fun x => x = SV B c (2 ^ L) i sd)) :
    Rd (bd_winnerOf F (nI c) (nI i)) w (fun x => x = tW B c (2 ^ L) i) := by
  have hc := hT.2.1
  have hL3 := hT.2.2.1
  have hL5 := hT.2.2.2.1
  have h32 := pow_lt32 hL5
  have h8 : 2 ^ L / 2 + 2 ^ L / 2 = 2 ^ L := by
    obtain ⟨k, rfl⟩ : ∃ k, L = k + 1 := ⟨L - 1, by omega⟩
    rw [Nat.pow_succ]; omega
  have hnot2 : ¬ mkF B c i = 3 → Rd (pcl (F 0 (nI c) (nI i) 0 0) (fun r_5 => pcl (F 0 (nI c) (nI i) 1 0) (fun r_8 => (if r_5 = (-2) then prt r_8 else (if r_8 = (-2) then prt r_5 else prt (-1)))))) w (fun x => x = tW B c (2 ^ L) i) := fun hm => by
    refine Rd_clR (hF 0 (by decide)) (fun a ha => Rd_clR (hF 1 (by decide)) (fun b hb => ?_))
    have hwf : wF B c i = -1 := by unfold wF; rw [if_neg hm]
    unfold SV at ha hb
    by_cases hlt : i < 2 ^ L / 2
    · rw [if_pos hlt] at ha hb
      unfold sd0 at ha hb
      have n0 := ne_m2 (plT h hT (p := 2 * i) (by omega))
      have n1 := ne_m2 (plT h hT (p := 2 * i + 1) (by omega))
      rw [Nat.add_zero] at ha
      by_cases h0 : pl B c (2 * i) = -1
      · rw [if_pos h0] at ha
        have h1 : ¬ pl B c (2 * i + 1) = -1 := fun z => by
          obtain ⟨f, hf, y⟩ := hT.2.2.2.2.2.2.2.2.1 i (by omega)
          rcases y with y | y
          · have := (h.plA hT (p := 2 * i) (by omega)).inj y
            rw [h0] at this
            exact nI_ne_1 (a := f) (by omega) this.symm
          · have := (h.plA hT (p := 2 * i + 1) (by omega)).inj y
            rw [z] at this
            exact nI_ne_1 (a := f) (by omega) this.symm
        rw [if_neg h1] at hb
        have hv : tW B c (2 ^ L) i = pl B c (2 * i + 1) := by
          unfold tW
          rw [if_pos ⟨hlt, Or.inl h0⟩, if_pos h0]
        rw [hv]
        exact Rd_ite (fun _ => Rd_rt hb) (fun z => absurd ha z)
      · rw [if_neg h0] at ha
        by_cases h1 : pl B c (2 * i + 1) = -1
        · rw [if_pos h1] at hb
          have hv : tW B c (2 ^ L) i = pl B c (2 * i) := by
            unfold tW
            rw [if_pos ⟨hlt, Or.inr h1⟩, if_neg h0]
          rw [hv]
          exact Rd_ite (fun z => absurd (ha.symm.trans z) n0) (fun _ => Rd_ite (fun _ => Rd_rt ha) (fun z => absurd hb z))
        · rw [if_neg h1] at hb
          have hv : tW B c (2 ^ L) i = -1 := by
            unfold tW
            rw [if_neg (fun z => z.2.elim h0 h1), hwf]
          rw [hv]
          exact Rd_ite (fun z => absurd (ha.symm.trans z) n0) (fun _ => Rd_ite (fun z => absurd (hb.symm.trans z) n1) (fun _ => Rd_rt rfl))
    · rw [if_neg hlt] at ha hb
      have n0 := ne_m2 (tWT h hT (i := 2 * (i - 2 ^ L / 2) + 0) (by omega))
      have n1 := ne_m2 (tWT h hT (i := 2 * (i - 2 ^ L / 2) + 1) (by omega))
      have hv : tW B c (2 ^ L) i = -1 := by
        unfold tW
        rw [if_neg (fun z => hlt z.1), hwf]
      rw [hv]
      exact Rd_ite (fun z => absurd (ha.symm.trans z) n0) (fun _ => Rd_ite (fun z => absurd (hb.symm.trans z) n1) (fun _ => Rd_rt rfl))
  unfold bd_winnerOf
  rw [ix40]
  rcases h.mk hc (i := i) (by omega) with ⟨a, e⟩ | ⟨a, e⟩ | ⟨a, e, b⟩
  · exact Rd_rdN rfl (by omega) (by decide) a (Rd_ite (fun z => absurd z (by decide)) (fun _ => hnot2 (by rw [e]; decide)))
  · exact Rd_rdN rfl (by omega) (by decide) a (Rd_ite (fun z => absurd z (by decide)) (fun _ => hnot2 (by rw [e]; decide)))
  · refine Rd_rdN rfl (by omega) (by decide) a (Rd_ite (fun _ => Rd_rdN rfl (by omega) (by decide) b (Rd_rt ?_)) (fun z => absurd rfl z))
    obtain ⟨g1, g2⟩ := hN (by rw [e]; decide)
    unfold tA at g1
    unfold tB at g2
    unfold tW wF
    by_cases hlt : i < 2 ^ L / 2
    · rw [if_pos hlt] at g1 g2
      rw [if_neg (fun z => z.2.elim g1 g2), if_pos e]
    · rw [if_neg (fun z => hlt z.1), if_pos e]
theorem sv_mainK {B : Nat → Int32} {w : GS} {c L K : Nat} (h : R0 B w) (hT : Tre w c L) (hN : ∀ i, i < K → i < 2 ^ L - 1 → ¬ mkF B c i = 0 → ¬ tA B c (2 ^ L) i = -1 ∧ ¬ tB B c (2 ^ L) i = -1) : ∀ r, r < L → (∀ d i sd a3, 2 * r + 1 ≤ d → bas L r ≤ i → i < bas L (r + 1) → i ≤ K → sd < 2 → Rd (fS d 0 (nI c) (nI i) (nI sd) a3) w (fun x => x = SV B c (2 ^ L) i sd)) ∧ (∀ d i a2 a3, 2 * r + 2 ≤ d → bas L r ≤ i → i < bas L (r + 1) → i < K → Rd (fS d 3 (nI c) (nI i) a2 a3) w (fun x => x = tW B c (2 ^ L) i)) := by
  have hL3 := hT.2.2.1
  have hL5 := hT.2.2.2.1
  have h32 := pow_lt32 hL5
  obtain ⟨b0, b1⟩ := bas_one L (by omega) hL3
  intro r
  induction r with
  | zero =>
    intro hr
    have hS : ∀ d i sd a3, 2 * 0 + 1 ≤ d → bas L 0 ≤ i → i < bas L (0 + 1) → i ≤ K → sd < 2 → Rd (fS d 0 (nI c) (nI i) (nI sd) a3) w (fun x => x = SV B c (2 ^ L) i sd) := by
      intro d i sd a3 hd h1 h2 hK hsd
      cases d with
      | zero => omega
      | succ d =>
        unfold fS
        rw [if_pos rfl]
        refine (sv_side w c L hT 0 i sd hr h1 h2 hsd (tW B c (2 ^ L)) (fS d) (fun z => absurd z (by omega))).mono (fun x hx => ?_)
        rw [hx.2 rfl]
        unfold SV
        have h2' : i < 2 ^ L / 2 := by
          rw [← b1]
          exact h2
        rw [if_pos h2', (h.plA hT (p := 2 * i + sd) (by omega)).2]
    refine ⟨hS, fun d i a2 a3 hd h1 h2 hK => ?_⟩
    cases d with
    | zero => omega
    | succ d =>
      unfold fS
      rw [if_neg (by decide), if_neg (by decide), if_neg (by decide)]
      have h2' : i < 2 ^ L / 2 := by
        rw [← b1]
        exact h2
      exact sv_win h hT (by omega) (hN i hK (by omega)) (fS d) (fun sd hsd => hS d i sd 0 (by omega) h1 h2 (by omega) hsd)
  | succ r ih =>
    intro hr
    obtain ⟨-, ihW⟩ := ih (by omega)
    have hrng : ∀ i, bas L (r + 1) ≤ i → i < bas L (r + 1 + 1) → i + 1 < 2 ^ L ∧ 2 ^ L / 2 ≤ i := fun i h1 h2 => by
      have hbm := (bas_mono L (by omega) (r + 1 + 1) (by omega)).2.2.2
      obtain ⟨q1, q2, q3, q4⟩ := bas_rng L (by omega) hL3 (r + 1) (by omega) hr i (by omega) h1 h2
      exact ⟨q4, (bas_low L (by omega) (r + 1) (by omega) i (by omega) ⟨hL3, by omega, hr, h1, h2⟩).2⟩
    have hS : ∀ d i sd a3, 2 * (r + 1) + 1 ≤ d → bas L (r + 1) ≤ i → i < bas L (r + 1 + 1) → i ≤ K → sd < 2 → Rd (fS d 0 (nI c) (nI i) (nI sd) a3) w (fun x => x = SV B c (2 ^ L) i sd) := by
      intro d i sd a3 hd h1 h2 hK hsd
      cases d with
      | zero => omega
      | succ d =>
        unfold fS
        rw [if_pos rfl]
        refine (sv_side w c L hT (r + 1) i sd hr h1 h2 hsd (tW B c (2 ^ L)) (fS d) (fun _ i2 g1 g2 => ihW d i2 0 0 (by omega) g1 g2 (Nat.lt_of_lt_of_le g2 (Nat.le_trans h1 hK)))).mono (fun x hx => ?_)
        rw [hx.1 (by omega)]
        unfold SV
        rw [if_neg (by have := (hrng i h1 h2).2; omega)]
    refine ⟨hS, fun d i a2 a3 hd h1 h2 hK => ?_⟩
    cases d with
    | zero => omega
    | succ d =>
      unfold fS
      rw [if_neg (by decide), if_neg (by decide), if_neg (by decide)]
      exact sv_win h hT (by have := (hrng i h1 h2).1; omega) (hN i hK (by have := (hrng i h1 h2).1; omega)) (fS d) (fun sd hsd => hS d i sd 0 (by omega) h1 h2 (by omega) hsd)
theorem sv_main {B : Nat → Int32} {w : GS} {c L : Nat} (h : R0 B w) (hT : Tre w c L) (hN : NTm B c (2 ^ L)) (r : Nat) (hr : r < L) : (∀ d i sd a3, 2 * r + 1 ≤ d → bas L r ≤ i → i < bas L (r + 1) → sd < 2 → Rd (fS d 0 (nI c) (nI i) (nI sd) a3) w (fun x => x = SV B c (2 ^ L) i sd)) ∧ (∀ d i a2 a3, 2 * r + 2 ≤ d → bas L r ≤ i → i < bas L (r + 1) → Rd (fS d 3 (nI c) (nI i) a2 a3) w (fun x => x = tW B c (2 ^ L) i)) := by
  have hL5 := hT.2.2.2.1
  have hb := (bas_mono L (by omega) (r + 1) (by omega)).2.2.2
  obtain ⟨z1, z2⟩ := sv_mainK (K := 64) h hT (fun i _ h2 => hN i h2) r hr
  exact ⟨fun d i sd a3 a b e f => z1 d i sd a3 a b e (by omega) f, fun d i a2 a3 a b e => z2 d i a2 a3 a b e (by omega)⟩

