/-! ===== who stands in a fight: sideOf, second, loserTo, winnerOf ===== -/
def nF (w : GS) : Nat := (w.1.1 2).toNatClampNeg
def szP (w : GS) (c : Nat) : Nat := (w.1.2 13 c).toNatClampNeg
/-- fighter f has a place in class c -/
def Plc (w : GS) (c f : Nat) : Prop := f < nF w ∧ Am w 5 f (nI c) ∧ ∃ p, p < szP w c ∧ Am w 10 f (nI p)
def Val (w : GS) (c : Nat) (x : Int32) : Prop := x = -1 ∨ x = -2 ∨ ∃ f, x = nI f ∧ Plc w c f
def ValW (w : GS) (c : Nat) (x : Int32) : Prop := x = -1 ∨ ∃ f, x = nI f ∧ Plc w c f
theorem ValW.val {w : GS} {c : Nat} {x : Int32} (h : ValW w c x) : Val w c x := h.elim Or.inl (fun z => Or.inr (Or.inr z))
/-- class c is a tree of 2 ^ L places -/
def Tre (w : GS) (c L : Nat) : Prop := nF w ≤ 96 ∧ c < 4 ∧ 3 ≤ L ∧ L ≤ 5 ∧ szP w c = 2 ^ L ∧ Am w 12 c 2 ∧ Am w 13 c (nI (2 ^ L)) ∧ (∀ p, p < 2 ^ L → Am w 14 (32 * c + p) (-1) ∨ ∃ f, Am w 14 (32 * c + p) (nI f) ∧ Plc w c f) ∧ (∀ j, 2 * j + 1 < 2 ^ L → ∃ f, f < 96 ∧ (Am w 14 (32 * c + 2 * j) (nI f) ∨ Am w 14 (32 * c + (2 * j + 1)) (nI f))) ∧ (∀ i, i < 40 → w.2.2 15 (40 * c + i) = true ∧ (w.1.2 15 (40 * c + i) = 2 → ∃ f, Am w 18 (40 * c + i) (nI f) ∧ Plc w c f))
theorem Plc.lt {w : GS} {c f : Nat} (h : Plc w c f) (hn : nF w ≤ 96) : f < 96 := by have := h.1; omega
def sd0 (x : Int32) : Int32 := if x = -1 then -2 else x
theorem bas_rngA : ∀ L < 6, ∀ r < 5, ∀ i < 32, (3 ≤ L ∧ r < L ∧ bas L r ≤ i ∧ i < bas L (r + 1)) → i - bas L r < 2 ^ L / 2 ^ (r + 1) := by decide +kernel
theorem bas_rngC : ∀ L < 6, ∀ i < 32, (3 ≤ L ∧ i < bas L 1) → 2 * i + 1 < 2 ^ L := by decide +kernel
theorem bas_rngD : ∀ L < 6, ∀ r < 5, ∀ i < 32, (3 ≤ L ∧ r < L ∧ bas L r ≤ i ∧ i < bas L (r + 1)) → i + 1 < 2 ^ L := by decide +kernel
theorem bas_rngB : ∀ L < 6, ∀ r < 5, ∀ i < 32, (3 ≤ L ∧ r < L ∧ bas L r ≤ i ∧ i < bas L (r + 1) ∧ 1 ≤ r) → bas L (r - 1) + 2 * (i - bas L r) + 1 < bas L (r - 1 + 1) := by decide +kernel
theorem bas_rng (L : Nat) (h : L < 6) (h3 : 3 ≤ L) (r : Nat) (hr5 : r < 5) (hr : r < L) (i : Nat) (hi : i < 32) (h1 : bas L r ≤ i) (h2 : i < bas L (r + 1)) : i - bas L r < 2 ^ L / 2 ^ (r + 1) ∧ (r = 0 → 2 * (i - bas L r) + 1 < 2 ^ L) ∧ (1 ≤ r → bas L (r - 1) + 2 * (i - bas L r) + 1 < bas L (r - 1 + 1)) ∧ i + 1 < 2 ^ L := by
  have a := bas_rngA L h r hr5 i hi ⟨h3, hr, h1, h2⟩
  have b : r = 0 → 2 * (i - bas L r) + 1 < 2 ^ L := by
    intro z
    subst z
    rw [(bas_mono L h 0 (by omega)).2.2.1, Nat.sub_zero]
    exact bas_rngC L h i hi ⟨h3, h2⟩
  have c := bas_rngD L h r hr5 i hi ⟨h3, hr, h1, h2⟩
  exact ⟨a, b, fun z => bas_rngB L h r hr5 i hi ⟨h3, hr, h1, h2, z⟩, c⟩
theorem ok_side_main (w : GS) (c L : Nat) (hT : Tre w c L) (d r i sd : Nat) (hr : r < L) (hb1 : bas L r ≤ i) (hb2 : i < bas L (r + 1)) (hsd : sd < 2) (F : Nat → Int32 → Int32 → Int32 → Int32 → PG Int32)
    (hF : 1 ≤ r → ∀ i2, bas L (r - 1) ≤ i2 → i2 < bas L (r - 1 + 1) → Rd (F 3 (nI c) (nI i2) 0 0) w (ValW w c)) :
    Rd (bd_sideOf F (nI c) (nI i) (nI sd)) w (fun x => Val w c x ∧ (1 ≤ r → ValW w c x) ∧ (r = 0 → x = sd0 (w.1.2 14 (32 * c + (2 * i + sd))))) := by
  obtain ⟨hn, hc, hL3, hL5, hs, h12, h13, hwho, hbye, hres⟩ := hT
  have h32 := pow_lt32 hL5
  have hbm := (bas_mono L (by omega) (r + 1) (by omega)).2.2.2
  obtain ⟨q1, q2, q3, q4⟩ := bas_rng L (by omega) hL3 r (by omega) hr i (by omega) hb1 hb2
  unfold bd_sideOf
  refine Rd_rdN rfl hc (by decide) h12 (Rd_ite (fun h => absurd h (by decide)) (fun _ => ?_))
  have hsec : Rd (f_isSecond (nI c) (nI i)) w (fun x => x = 0) := by
    unfold f_isSecond
    refine Rd_rdN rfl hc (by decide) h12 (Rd_ite (fun _ => ?_) (fun h => absurd rfl h))
    refine Rd_rdN rfl hc (by decide) h13 (Rd_ite (fun _ => Rd_eq rfl) (fun h => absurd ?_ h))
    have e1 : nI (2 ^ L) - 1 = nI (2 ^ L - 1) := nI_sub (b := 1) (by omega)
    rw [e1]
    exact nI_lt (by omega) (by omega)
  refine Rd_clR hsec (fun z hz => ?_)
  subst hz
  refine Rd_ite (fun _ => ?_) (fun h => absurd rfl h)
  refine Rd_clR (ok_roundOf w c L i hc hL5 (by omega) h13) (fun z hz => ?_)
  obtain ⟨k, rfl, hk, hk1, hk2⟩ := hz
  have hkr : k = r := by
    rcases Nat.lt_trichotomy k r with h | h | h
    · have : bas L (k + 1) ≤ bas L r := by
        have hh : ∀ L < 6, ∀ r < 6, ∀ k < r, bas L (k + 1) ≤ bas L r := by decide +kernel
        exact hh L (by omega) r (by omega) k h
      omega
    · exact h
    · have : bas L (r + 1) ≤ bas L k := by
        have hh : ∀ L < 6, ∀ k < 6, ∀ r < k, bas L (r + 1) ≤ bas L k := by decide +kernel
        exact hh L (by omega) k (by omega) r h
      omega
  subst hkr
  refine Rd_clR (ok_base w c L k hc hL5 (by omega) h13) (fun z hz => ?_)
  subst hz
  refine Rd_li ?_
  rw [nI_sub hb1]
  have e2 : (2 : Int32) * nI (i - bas L k) = nI (2 * (i - bas L k)) := by rw [← nI_mul]; rfl
  refine Rd_ite (fun h => ?_) (fun h => ?_)
  · have hk0 : k = 0 := by
      have h9 : nI k = nI 0 := h
      exact (nI_eq (by omega) (by decide)).mp h9
    subst hk0
    have hb0 : bas L 0 = 0 := (bas_mono L (by omega) 0 (by omega)).2.2.1
    rw [hb0, Nat.sub_zero] at e2 q2 ⊢
    have q2 := q2 rfl
    have hx : ∀ x, Am w 14 (32 * c + (2 * i + sd)) x → Val w c (sd0 x) := by
      intro x hx
      rcases hwho (2 * i + sd) (by omega) with h1 | ⟨f, h1, h2⟩
      · have : x = -1 := hx.inj h1
        subst this
        exact Or.inr (Or.inl rfl)
      · have : x = nI f := hx.inj h1
        subst this
        have hne := nI_ne_1 (a := f) (by have := h2.lt hn; omega)
        unfold sd0
        rw [if_neg hne]
        exact Or.inr (Or.inr ⟨f, rfl, h2⟩)
    have hm : w.2.2 14 (32 * c + (2 * i + sd)) = true := by
      rcases hwho (2 * i + sd) (by omega) with h1 | ⟨f, h1, h2⟩
      · exact h1.1
      · exact h1.1
    refine Rd_rdN (j := 32 * c + (2 * i + sd)) ?_ (by omega) (by decide) (Am.val hm) ?_
    · rw [e2, ix32, nI_add, Nat.add_assoc]
    · have hv := hx _ (Am.val hm)
      unfold sd0 at hv
      refine Rd_ite (fun h5 => Rd_rt ?_) (fun h5 => Rd_rt ?_)
      · rw [if_pos h5] at hv
        refine ⟨hv, fun z => absurd z (by omega), fun _ => ?_⟩
        unfold sd0
        rw [if_pos h5]
      · rw [if_neg h5] at hv
        refine ⟨hv, fun z => absurd z (by omega), fun _ => ?_⟩
        unfold sd0
        rw [if_neg h5]
  · have hk1' : 1 ≤ k := by
      rcases Nat.eq_zero_or_pos k with h9 | h9
      · subst h9
        exact absurd rfl h
      · exact h9
    have e3 : nI k - 1 = nI (k - 1) := nI_sub (b := 1) hk1'
    rw [e3]
    refine Rd_clR (ok_base w c L (k - 1) hc hL5 (by omega) h13) (fun z hz => ?_)
    subst hz
    rw [e2, nI_add, nI_add]
    refine Rd_clR (hF hk1' _ (by omega) (by have := q3 hk1'; omega)) (fun z hz => ?_)
    exact Rd_rt ⟨hz.val, fun _ => hz, fun z => absurd z (by omega)⟩
theorem ok_win_main (w : GS) (c L : Nat) (hT : Tre w c L) (i : Nat) (hi : i < 40) (F : Nat → Int32 → Int32 → Int32 → Int32 → PG Int32) (P : Prop)
    (hF : ∀ sd, sd < 2 → Rd (F 0 (nI c) (nI i) (nI sd) 0) w (fun x => Val w c x ∧ (P → ValW w c x) ∧ (¬ P → x = sd0 (w.1.2 14 (32 * c + (2 * i + sd)))))) (hP : ¬ P → 2 * i + 1 < 2 ^ L) :
    Rd (bd_winnerOf F (nI c) (nI i)) w (ValW w c) := by
  obtain ⟨hn, hc, hL3, hL5, hs, h12, h13, hwho, hbye, hres⟩ := hT
  unfold bd_winnerOf
  rw [ix40]
  obtain ⟨hm, hw2⟩ := hres i hi
  refine Rd_rdN rfl (by omega) (by decide) (Am.val hm) (Rd_ite (fun h => ?_) (fun h => ?_))
  · obtain ⟨f, h1, h2⟩ := hw2 h
    exact Rd_rdN rfl (by omega) (by decide) h1 (Rd_rt (Or.inr ⟨f, rfl, h2⟩))
  · refine Rd_clR (hF 0 (by decide)) (fun a ha => ?_)
    refine Rd_clR (hF 1 (by decide)) (fun b hb => ?_)
    refine Rd_ite (fun h1 => Rd_rt ?_) (fun h1 => Rd_ite (fun h2 => Rd_rt ?_) (fun _ => Rd_rt (Or.inl rfl)))
    · by_cases hp : P
      · exact hb.2.1 hp
      · rcases hb.1 with h5 | h5 | h5
        · exact Or.inl h5
        · obtain ⟨f, hf, h6⟩ := hbye i (hP hp)
          have h7 := ha.2.2 hp
          have h8 := hb.2.2 hp
          rw [h1] at h7
          rw [h5] at h8
          rcases h6 with h6 | h6
          · have h9 : w.1.2 14 (32 * c + 2 * i) = nI f := h6.2
            rw [Nat.add_zero, h9] at h7
            unfold sd0 at h7
            rw [if_neg (nI_ne_1 (by omega))] at h7
            exact absurd h7.symm (nI_ne_2 (by omega))
          · rw [h6.2] at h8
            unfold sd0 at h8
            rw [if_neg (nI_ne_1 (by omega))] at h8
            exact absurd h8.symm (nI_ne_2 (by omega))
        · exact Or.inr h5
    · rcases ha.1 with h5 | h5 | h5
      · exact Or.inl h5
      · exact absurd h5 h1
      · exact Or.inr h5
theorem ok_main (w : GS) (c L : Nat) (hT : Tre w c L) : ∀ r, r < L → (∀ d i sd a3, 2 * r + 1 ≤ d → bas L r ≤ i → i < bas L (r + 1) → sd < 2 → Rd (fS d 0 (nI c) (nI i) (nI sd) a3) w (fun x => Val w c x ∧ (1 ≤ r → ValW w c x) ∧ (r = 0 → x = sd0 (w.1.2 14 (32 * c + (2 * i + sd)))))) ∧ (∀ d i a2 a3, 2 * r + 2 ≤ d → bas L r ≤ i → i < bas L (r + 1) → Rd (fS d 3 (nI c) (nI i) a2 a3) w (ValW w c)) := by
  intro r
  induction r with
  | zero =>
    intro hr
    have hS : ∀ d i sd a3, 2 * 0 + 1 ≤ d → bas L 0 ≤ i → i < bas L (0 + 1) → sd < 2 → Rd (fS d 0 (nI c) (nI i) (nI sd) a3) w (fun x => Val w c x ∧ (1 ≤ 0 → ValW w c x) ∧ (0 = 0 → x = sd0 (w.1.2 14 (32 * c + (2 * i + sd))))) := by
      intro d i sd a3 hd h1 h2 hsd
      cases d with
      | zero => omega
      | succ d =>
        unfold fS
        rw [if_pos rfl]
        exact ok_side_main w c L hT d 0 i sd hr h1 h2 hsd (fS d) (fun z => absurd z (by omega))
    refine ⟨hS, fun d i a2 a3 hd h1 h2 => ?_⟩
    cases d with
    | zero => omega
    | succ d =>
      unfold fS
      rw [if_neg (by decide), if_neg (by decide), if_neg (by decide)]
      have hL5 := hT.2.2.2.1
      have hL3 := hT.2.2.1
      have h32 := pow_lt32 hL5
      have hbm := (bas_mono L (by omega) (0 + 1) (by omega)).2.2.2
      obtain ⟨q1, q2, q3, q4⟩ := bas_rng L (by omega) hL3 0 (by omega) hr i (by omega) h1 h2
      have hb0 : bas L 0 = 0 := (bas_mono L (by omega) 0 (by omega)).2.2.1
      refine ok_win_main w c L hT i (by omega) (fS d) (1 ≤ 0) (fun sd hsd => ?_) (fun _ => ?_)
      · exact (hS d i sd 0 (by omega) h1 h2 hsd).mono (fun x hx => ⟨hx.1, hx.2.1, fun _ => hx.2.2 rfl⟩)
      · have := q2 rfl
        omega
  | succ r ih =>
    intro hr
    obtain ⟨-, ihW⟩ := ih (by omega)
    have hS : ∀ d i sd a3, 2 * (r + 1) + 1 ≤ d → bas L (r + 1) ≤ i → i < bas L (r + 1 + 1) → sd < 2 → Rd (fS d 0 (nI c) (nI i) (nI sd) a3) w (fun x => Val w c x ∧ (1 ≤ r + 1 → ValW w c x) ∧ (r + 1 = 0 → x = sd0 (w.1.2 14 (32 * c + (2 * i + sd))))) := by
      intro d i sd a3 hd h1 h2 hsd
      cases d with
      | zero => omega
      | succ d =>
        unfold fS
        rw [if_pos rfl]
        exact ok_side_main w c L hT d (r + 1) i sd hr h1 h2 hsd (fS d) (fun _ i2 g1 g2 => ihW d i2 0 0 (by omega) g1 g2)
    refine ⟨hS, fun d i a2 a3 hd h1 h2 => ?_⟩
    cases d with
    | zero => omega
    | succ d =>
      unfold fS
      rw [if_neg (by decide), if_neg (by decide), if_neg (by decide)]
      have hL5 := hT.2.2.2.1
      have hL3 := hT.2.2.1
      have hbm := (bas_mono L (by omega) (r + 1 + 1) (by omega)).2.2.2
      refine ok_win_main w c L hT i (by omega) (fS d) (1 ≤ r + 1) (fun sd hsd => ?_) (fun h => absurd (by omega) h)
      exact (hS d i sd 0 (by omega) h1 h2 hsd).mono (fun x hx => ⟨hx.1, hx.2.1, fun z => absurd (by omega) z⟩)
/-! ===== second lives ===== -/
theorem plc_rng : ∀ L < 6, ∀ r < 5, ∀ p < 32, (r < L ∧ p < 2 ^ L) → bas L r + p / 2 ^ (r + 1) < bas L (r + 1) := by decide +kernel
theorem semi_rng : ∀ L < 6, ∀ h < 2, 3 ≤ L → bas L (L - 2) + h < bas L (L - 2 + 1) := by decide +kernel
theorem ok_loserTo (w : GS) (c L : Nat) (hT : Tre w c L) (d h r : Nat) (a3 : Int32) (hh : h < 2) (hr : r ≤ L - 2) (hd : 2 * L ≤ d) : Rd (fS d 2 (nI c) (nI h) (nI r) a3) w (Val w c) := by
  have hT2 := hT
  obtain ⟨hn, hc, hL3, hL5, hs, h12, h13, hwho, hbye, hres⟩ := hT2
  have h32 := pow_lt32 hL5
  cases d with
  | zero => omega
  | succ d =>
    unfold fS
    rw [if_neg (by decide), if_neg (by decide), if_pos rfl]
    unfold bd_loserTo
    refine Rd_clR (ok_rounds w c L hc hL5 (by omega) h13) (fun z hz => ?_)
    subst hz
    have e1 : nI (L - 1) - 1 = nI (L - 1 - 1) := nI_sub (b := 1) (by omega)
    rw [e1, show L - 1 - 1 = L - 2 by omega]
    refine Rd_clR (ok_base w c L (L - 2) hc hL5 (by omega) h13) (fun z hz => ?_)
    subst hz
    rw [nI_add]
    refine Rd_clR ((ok_main w c L hT (L - 2) (by omega)).2 d _ 0 0 (by omega) (by omega) (semi_rng L (by omega) h hh hL3)) (fun z hz => ?_)
    refine Rd_ite (fun _ => Rd_rt (Or.inl rfl)) (fun hz1 => ?_)
    rcases hz with hz | ⟨f, rfl, hf⟩
    · exact absurd hz hz1
    refine Rd_clR (ok_base w c L r hc hL5 (by omega) h13) (fun z hz => ?_)
    subst hz
    have hf96 := hf.lt hn
    obtain ⟨hfn, -, p, hp, hpa⟩ := hf
    rw [hs] at hp
    refine Rd_rdN rfl hf96 (by decide) hpa (Rd_li ?_)
    rw [nI_1, shrP p (by omega) (r + 1) (by omega), nI_add]
    have hb := plc_rng L (by omega) r (by omega) p (by omega) ⟨by omega, hp⟩
    have hm := (ok_main w c L hT r (by omega)).1
    refine Rd_clR ((hm d _ 0 0 (by omega) (Nat.le_add_right _ _) hb (by decide)).mono (fun x hx => hx.1)) (fun a ha => ?_)
    refine Rd_ite (fun _ => ?_) (fun _ => Rd_rt ha)
    exact Rd_clR ((hm d _ 1 0 (by omega) (Nat.le_add_right _ _) hb (by decide)).mono (fun x hx => hx.1)) (fun b hb => Rd_rt hb)
theorem lif_rng : ∀ L < 6, ∀ q < 6, (3 ≤ L ∧ q < 2 * (L - 2)) → nI q / nI (L - 2) = nI (q / (L - 2)) ∧ nI q - nI q / nI (L - 2) * nI (L - 2) + 1 = nI (q % (L - 2) + 1) := by decide +kernel
theorem lif_rng2 : ∀ L < 6, ∀ q < 6, (3 ≤ L ∧ q < 2 * (L - 2)) → q / (L - 2) < 2 ∧ q % (L - 2) + 1 ≤ L - 2 ∧ gz (nI (L - 2)) = true := by decide +kernel
theorem lif_rng3 : ∀ L < 6, ∀ q < 6, (3 ≤ L ∧ q < 2 * (L - 2) ∧ 1 ≤ q % (L - 2)) → q - 1 < 2 * (L - 2) ∧ (q - 1) % (L - 2) = q % (L - 2) - 1 ∧ q / (L - 2) * (L - 2) + (q % (L - 2) + 1) = q + 1 := by decide +kernel
theorem lif_sub {a q : Nat} : nI (a + q) - nI (a + 1) + 1 = nI q := by
  have e : nI (a + q) + 1 = nI q + nI (a + 1) := by rw [nI_1, nI_add]; congr 1; omega
  have e2 : nI (a + q) - nI (a + 1) + 1 = nI (a + q) + 1 - nI (a + 1) := by
    rw [Int32.sub_eq_add_neg, Int32.sub_eq_add_neg, Int32.add_assoc, Int32.add_comm (-_) 1, ← Int32.add_assoc]
  rw [e2, e, Int32.add_sub_cancel]
theorem ok_halfStep (w : GS) (c L q : Nat) (hc : c < 4) (hL3 : 3 ≤ L) (hL5 : L ≤ 5) (h13 : Am w 13 c (nI (2 ^ L))) (hq : q < 2 * (L - 2)) : Rd (f_halfOf (nI c) (nI (2 ^ L - 1 + q))) w (fun r => r = nI (q / (L - 2))) ∧ Rd (f_stepOf (nI c) (nI (2 ^ L - 1 + q))) w (fun r => r = nI (q % (L - 2) + 1)) := by
  have hpos : 1 ≤ 2 ^ L := Nat.one_le_two_pow
  have e1 : nI (L - 1) - 1 = nI (L - 2) := nI_sub (b := 1) (by omega)
  have e2 : nI (2 ^ L - 1 + q) - nI (2 ^ L) + 1 = nI q := by
    have h9 := lif_sub (a := 2 ^ L - 1) (q := q)
    rw [Nat.sub_add_cancel hpos] at h9
    exact h9
  obtain ⟨g1, g2⟩ := lif_rng L (by omega) q (by omega) ⟨hL3, hq⟩
  obtain ⟨-, -, g3⟩ := lif_rng2 L (by omega) q (by omega) ⟨hL3, hq⟩
  constructor
  · unfold f_halfOf
    refine Rd_rdN rfl hc (by decide) h13 (Rd_clR (ok_rounds w c L hc hL5 (by omega) h13) (fun z hz => ?_))
    subst hz
    rw [e1, e2]
    exact Rd_og g3 (Rd_eq g1)
  · unfold f_stepOf
    refine Rd_rdN rfl hc (by decide) h13 (Rd_clR (ok_rounds w c L hc hL5 (by omega) h13) (fun z hz => ?_))
    subst hz
    rw [e1, e2]
    exact Rd_og g3 (Rd_eq g2)
theorem ok_isSecond1 (w : GS) (c L q : Nat) (hc : c < 4) (hL5 : L ≤ 5) (hq : q < 8) (h12 : Am w 12 c 2) (h13 : Am w 13 c (nI (2 ^ L))) : Rd (f_isSecond (nI c) (nI (2 ^ L - 1 + q))) w (fun x => x = 1) := by
  have h32 := pow_lt32 hL5
  have hpos : 1 ≤ 2 ^ L := Nat.one_le_two_pow
  unfold f_isSecond
  refine Rd_rdN rfl hc (by decide) h12 (Rd_ite (fun _ => ?_) (fun h => absurd rfl h))
  refine Rd_rdN rfl hc (by decide) h13 (Rd_ite (fun h => absurd h ?_) (fun _ => Rd_eq rfl))
  have e1 : nI (2 ^ L) - 1 = nI (2 ^ L - 1) := nI_sub (b := 1) (by omega)
  rw [e1]
  exact nI_nlt (by omega) (by omega)
theorem ok_second (w : GS) (c L : Nat) (hT : Tre w c L) (d q sd : Nat) (hq : q < 2 * (L - 2)) (hsd : sd < 2) (hd : 2 * L ≤ d) (hprev : 1 ≤ q % (L - 2) → Rd (fS d 3 (nI c) (nI (2 ^ L - 1 + (q - 1))) 0 0) w (Val w c)) : Rd (bd_second (fS d) (nI c) (nI (q / (L - 2))) (nI (q % (L - 2) + 1)) (nI sd)) w (Val w c) := by
  have hT2 := hT
  obtain ⟨hn, hc, hL3, hL5, hs, h12, h13, hwho, hbye, hres⟩ := hT2
  have h32 := pow_lt32 hL5
  have hpos : 1 ≤ 2 ^ L := Nat.one_le_two_pow
  obtain ⟨g1, g2, g3⟩ := lif_rng2 L (by omega) q (by omega) ⟨hL3, hq⟩
  unfold bd_second
  refine Rd_ite (fun _ => ?_) (fun _ => Rd_ite (fun h => ?_) (fun h => ?_))
  · exact Rd_clR (ok_loserTo w c L hT d _ _ 0 g1 g2 hd) (fun z hz => Rd_rt hz)
  · exact Rd_clR (ok_loserTo w c L hT d _ 0 0 g1 (by omega) hd) (fun z hz => Rd_rt hz)
  · have ht : 1 ≤ q % (L - 2) := by
      rcases Nat.eq_zero_or_pos (q % (L - 2)) with h9 | h9
      · rw [h9] at h
        exact absurd (Int32.le_refl _) h
      · exact h9
    obtain ⟨k1, k2, k3⟩ := lif_rng3 L (by omega) q (by omega) ⟨hL3, hq, ht⟩
    refine Rd_rdN rfl hc (by decide) h13 (Rd_clR (ok_rounds w c L hc hL5 (by omega) h13) (fun z hz => ?_))
    subst hz
    have e1 : nI (L - 1) - 1 = nI (L - 2) := nI_sub (b := 1) (by omega)
    have e2 : nI (2 ^ L) - 1 = nI (2 ^ L - 1) := nI_sub (b := 1) (by omega)
    have e3 : nI (2 ^ L - 1) + nI (q / (L - 2)) * nI (L - 2) + nI (q % (L - 2) + 1) - 2 = nI (2 ^ L - 1 + (q - 1)) := by
      rw [nI_mul, nI_add, nI_add]
      have h9 := nI_sub (a := 2 ^ L - 1 + q / (L - 2) * (L - 2) + (q % (L - 2) + 1)) (b := 2) (by omega)
      refine h9.trans ?_
      congr 1
      omega
    rw [e1, e2, e3]
    exact Rd_clR (hprev ht) (fun z hz => Rd_rt hz)
theorem ok_side_life (w : GS) (c L : Nat) (hT : Tre w c L) (d q sd : Nat) (a3 : Int32) (hq : q < 2 * (L - 2)) (hsd : sd < 2) (hd : 2 * L + 2 ≤ d) (hprev : 1 ≤ q % (L - 2) → Rd (fS (d - 2) 3 (nI c) (nI (2 ^ L - 1 + (q - 1))) 0 0) w (Val w c)) : Rd (fS d 0 (nI c) (nI (2 ^ L - 1 + q)) (nI sd) a3) w (Val w c) := by
  have hT2 := hT
  obtain ⟨hn, hc, hL3, hL5, hs, h12, h13, hwho, hbye, hres⟩ := hT2
  obtain ⟨d, rfl⟩ : ∃ e, d = e + 2 := ⟨d - 2, by omega⟩
  unfold fS
  rw [if_pos rfl]
  unfold bd_sideOf
  refine Rd_rdN rfl hc (by decide) h12 (Rd_ite (fun h => absurd h (by decide)) (fun _ => ?_))
  refine Rd_clR (ok_isSecond1 w c L q hc hL5 (by omega) h12 h13) (fun z hz => ?_)
  subst hz
  refine Rd_ite (fun h => absurd h (by decide)) (fun _ => ?_)
  obtain ⟨k1, k2⟩ := ok_halfStep w c L q hc hL3 hL5 h13 hq
  refine Rd_clR k1 (fun z hz => ?_)
  subst hz
  refine Rd_clR k2 (fun z hz => ?_)
  subst hz
  refine Rd_clR (R := Val w c) ?_ (fun z hz => Rd_rt hz)
  unfold fS
  rw [if_neg (by decide), if_pos rfl]
  exact ok_second w c L hT d q sd hq hsd (by omega) hprev
theorem ok_win_any (w : GS) (c i : Nat) (hc : c < 4) (hi : i < 40) (hm : w.2.2 15 (40 * c + i) = true) (hw2 : w.1.2 15 (40 * c + i) = 2 → ∃ f, Am w 18 (40 * c + i) (nI f) ∧ Plc w c f) (d : Nat) (a2 a3 : Int32) (hF : ∀ sd, sd < 2 → Rd (fS d 0 (nI c) (nI i) (nI sd) 0) w (Val w c)) : Rd (fS (d + 1) 3 (nI c) (nI i) a2 a3) w (Val w c) := by
  unfold fS
  rw [if_neg (by decide), if_neg (by decide), if_neg (by decide)]
  unfold bd_winnerOf
  rw [ix40]
  refine Rd_rdN rfl (by omega) (by decide) (Am.val hm) (Rd_ite (fun h => ?_) (fun h => ?_))
  · obtain ⟨f, h1, h2⟩ := hw2 h
    exact Rd_rdN rfl (by omega) (by decide) h1 (Rd_rt (Or.inr (Or.inr ⟨f, rfl, h2⟩)))
  · refine Rd_clR (hF 0 (by decide)) (fun a ha => ?_)
    refine Rd_clR (hF 1 (by decide)) (fun b hb => ?_)
    exact Rd_ite (fun h1 => Rd_rt hb) (fun h1 => Rd_ite (fun h2 => Rd_rt ha) (fun _ => Rd_rt (Or.inl rfl)))
theorem ok_life (w : GS) (c L : Nat) (hT : Tre w c L) : ∀ (t : Nat), (∀ d q sd a3, q < 2 * (L - 2) → q % (L - 2) = t → sd < 2 → 2 * L + 3 * t + 2 ≤ d → Rd (fS d 0 (nI c) (nI (2 ^ L - 1 + q)) (nI sd) a3) w (Val w c)) ∧ (∀ d q a2 a3, q < 2 * (L - 2) → q % (L - 2) = t → 2 * L + 3 * t + 3 ≤ d → Rd (fS d 3 (nI c) (nI (2 ^ L - 1 + q)) a2 a3) w (Val w c)) := by
  have hT2 := hT
  obtain ⟨hn, hc, hL3, hL5, hs, h12, h13, hwho, hbye, hres⟩ := hT2
  have h32 := pow_lt32 hL5
  intro t
  induction t with
  | zero =>
    have hS : ∀ d q sd a3, q < 2 * (L - 2) → q % (L - 2) = 0 → sd < 2 → 2 * L + 3 * 0 + 2 ≤ d → Rd (fS d 0 (nI c) (nI (2 ^ L - 1 + q)) (nI sd) a3) w (Val w c) := fun d q sd a3 hq h0 hsd hd => ok_side_life w c L hT d q sd a3 hq hsd (by omega) (fun z => absurd z (by omega))
    refine ⟨hS, fun d q a2 a3 hq h0 hd => ?_⟩
    obtain ⟨d, rfl⟩ : ∃ e, d = e + 1 := ⟨d - 1, by omega⟩
    obtain ⟨g1, g2⟩ := hres (2 ^ L - 1 + q) (by omega)
    exact ok_win_any w c _ hc (by omega) g1 g2 d a2 a3 (fun sd hsd => hS d q sd 0 hq h0 hsd (by omega))
  | succ t ih =>
    have hS : ∀ d q sd a3, q < 2 * (L - 2) → q % (L - 2) = t + 1 → sd < 2 → 2 * L + 3 * (t + 1) + 2 ≤ d → Rd (fS d 0 (nI c) (nI (2 ^ L - 1 + q)) (nI sd) a3) w (Val w c) := by
      intro d q sd a3 hq h0 hsd hd
      obtain ⟨k1, k2, -⟩ := lif_rng3 L (by omega) q (by omega) ⟨hL3, hq, by omega⟩
      exact ok_side_life w c L hT d q sd a3 hq hsd (by omega) (fun _ => ih.2 (d - 2) (q - 1) 0 0 k1 (by omega) (by omega))
    refine ⟨hS, fun d q a2 a3 hq h0 hd => ?_⟩
    obtain ⟨d, rfl⟩ : ∃ e, d = e + 1 := ⟨d - 1, by omega⟩
    obtain ⟨g1, g2⟩ := hres (2 ^ L - 1 + q) (by omega)
    exact ok_win_any w c _ hc (by omega) g1 g2 d a2 a3 (fun sd hsd => hS d q sd 0 hq h0 hsd (by omega))

