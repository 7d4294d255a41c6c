/-! ===== strike: what is dropped ===== -/
def StP (B : Nat → Int32) (c k : Nat) : Prop := ¬ B (fc c k) = 0 ∧ ¬ (B (fc c k + 1) = bWh B c k ∧ B (fc c k + 2) = bBl B c k)
noncomputable def drB (B : Nat → Int32) (c k : Nat) : Nat → Int32 := if B (fc c k) = 2 then upd (lvB B (B (fc c k + 7)).toNatClampNeg (B (fc c k + 1)).toNatClampNeg (B (fc c k + 2)).toNatClampNeg (B 0)) (fc c k) 0 else upd B (fc c k) 0
theorem drB_open {B : Nat → Int32} {c k m a b : Nat} (h2 : B (fc c k) = 2) (h7 : B (fc c k + 7) = nI m) (ha : B (fc c k + 1) = nI a) (hb : B (fc c k + 2) = nI b) (hm : m < 4) (ha9 : a < 96) (hb9 : b < 96) : drB B c k = upd (lvB B m a b (B 0)) (fc c k) 0 := by
  unfold drB
  rw [if_pos h2, h7, ha, hb, nI_clamp (by omega), nI_clamp (by omega), nI_clamp (by omega)]
theorem drB_done {B : Nat → Int32} {c k : Nat} (h2 : ¬ B (fc c k) = 2) : drB B c k = upd B (fc c k) 0 := if_neg h2
/-- what a strike changes -/
def FrS (c : Nat) (B B2 : Nat → Int32) : Prop := ∀ j, (∀ k, k < 37 → ¬ j = fc c k) → (∀ f, f < 96 → ¬ j = 154 + 7 * f) → (∀ m, m < 4 → ¬ j = mc0 m + 1) → B2 j = B j
theorem FrS.rf (c : Nat) (B : Nat → Int32) : FrS c B B := fun _ _ _ _ => rfl
theorem FrS.trans {c : Nat} {B B2 B3 : Nat → Int32} (h1 : FrS c B B2) (h2 : FrS c B2 B3) : FrS c B B3 := fun j a b d => (h2 j a b d).trans (h1 j a b d)
theorem FrS.up {c j : Nat} {B B2 : Nat → Int32} (h : FrS c B B2) (x : Int32) (hj : (∃ k, k < 37 ∧ j = fc c k) ∨ (∃ f, f < 96 ∧ j = 154 + 7 * f) ∨ ∃ m, m < 4 ∧ j = mc0 m + 1) : FrS c B (upd B2 j x) := fun i a b d => by
  rw [upd_n (fun z => by
    rcases hj with ⟨k, hk, e⟩ | ⟨f, hf, e⟩ | ⟨m, hm, e⟩
    · exact a k hk (z.trans e)
    · exact b f hf (z.trans e)
    · exact d m hm (z.trans e))]
  exact h i a b d
theorem FrS.lo {c j : Nat} {B B2 : Nat → Int32} (h : FrS c B B2) (hj : j < 154) : B2 j = B j := h j (fun k _ => by unfold fc; omega) (fun f _ => by omega) (fun m _ => by unfold mc0; omega)
theorem FrS.plc {c f : Nat} {B B2 : Nat → Int32} (h : FrS c B B2) (hf : f < 96) : B2 (153 + 7 * f) = B (153 + 7 * f) := h _ (fun k _ => by unfold fc; omega) (fun f2 _ => by omega) (fun m _ => by unfold mc0; omega)
theorem FrS.fgt {c c2 i k : Nat} {B B2 : Nat → Int32} (h : FrS c B B2) (hc : c < 4) (hc2 : c2 < 4) (hi : i < 37) (hk : k < 8) (hne : 1 ≤ k ∨ ¬ c2 = c) : B2 (fc c2 i + k) = B (fc c2 i + k) := h _ (fun k2 hk2 => by unfold fc; omega) (fun f hf => by unfold fc; omega) (fun m hm => by unfold fc mc0; omega)
theorem FrS.fgt0 {c c2 i : Nat} {B B2 : Nat → Int32} (h : FrS c B B2) (hc : c < 4) (hc2 : c2 < 4) (hi : i < 37) (hne : ¬ c2 = c) : B2 (fc c2 i) = B (fc c2 i) := h.fgt (k := 0) hc hc2 hi (by decide) (Or.inr hne)
theorem FrS.pl {c c2 : Nat} {B B2 : Nat → Int32} (h : FrS c B B2) (hc2 : c2 < 4) : pl B2 c2 = pl B c2 := by
  funext p
  show (if p < 32 then B2 (8 + 36 * c2 + p) else 0) = (if p < 32 then B (8 + 36 * c2 + p) else 0)
  by_cases hp : p < 32
  · rw [if_pos hp, if_pos hp, h.lo (by omega)]
  · rw [if_neg hp, if_neg hp]
theorem FrS.zn {c c2 : Nat} {B B2 : Nat → Int32} (h : FrS c B B2) (hc2 : c2 < 4) : zN B2 c2 = zN B c2 ∧ B2 (6 + 36 * c2) = B (6 + 36 * c2) ∧ B2 (7 + 36 * c2) = B (7 + 36 * c2) ∧ nFi B2 c2 = nFi B c2 := by
  have a : B2 (6 + 36 * c2) = B (6 + 36 * c2) := h.lo (by omega)
  have b : B2 (7 + 36 * c2) = B (7 + 36 * c2) := h.lo (by omega)
  have e : zN B2 c2 = zN B c2 := by unfold zN; rw [b]
  refine ⟨e, a, b, ?_⟩
  unfold nFi
  rw [e, a]
theorem FrS.kn {c c2 : Nat} {B B2 : Nat → Int32} (h : FrS c B B2) (hc2 : c2 < 4) (hk : Kn B c2) : Kn B2 c2 := by
  unfold Kn at hk ⊢
  rw [(h.zn hc2).2.1, (h.zn hc2).2.2.1]
  exact hk
theorem FrS.acc {c c2 : Nat} {B B2 : Nat → Int32} (h : FrS c B B2) (hc : c < 4) (hc2 : c2 < 4) (hne : ¬ c2 = c) : Acc B B2 c2 := ⟨fun p hp => h.lo (by omega), fun i hi => ⟨h.fgt0 hc hc2 hi hne, h.fgt hc hc2 hi (by decide) (Or.inl (by decide))⟩, h.lo (by omega), h.lo (by omega)⟩
/-- both sides in the midst of a strike -/
def SI (B : Nat → Int32) (w : GS) (c n K : Nat) : Prop := Inv w ∧ R0 B w ∧ Dr w c n ∧ MB B ∧ (B (6 + 36 * c) = 2 → NTp B c (zN B c)) ∧ ∀ i, i < K → i < n → ¬ StP B c i
theorem SI.skip {B : Nat → Int32} {w : GS} {c n K : Nat} (h : SI B w c n K) (hn : ¬ StP B c K) : SI B w c n (K + 1) := ⟨h.1, h.2.1, h.2.2.1, h.2.2.2.1, h.2.2.2.2.1, fun i hi hin => by
  rcases Nat.lt_or_ge i K with z | z
  · exact h.2.2.2.2.2 i z hin
  · have : i = K := by omega
    rw [this]
    exact hn⟩
theorem SI.skips {B : Nat → Int32} {w : GS} {c n K : Nat} (h : SI B w c n K) {j : Nat} (hn : ∀ i, K ≤ i → i < j → i < n → ¬ StP B c i) : SI B w c n j := ⟨h.1, h.2.1, h.2.2.1, h.2.2.2.1, h.2.2.2.2.1, fun i hi hin => by
  rcases Nat.lt_or_ge i K with z | z
  · exact h.2.2.2.2.2 i z hin
  · exact hn i z hi hin⟩
theorem SI.ntk {B : Nat → Int32} {w : GS} {c n K : Nat} (h : SI B w c n K) : NTK B c K := by
  obtain ⟨hI, hR, hD, hM, hP, hS⟩ := h
  refine NTK.mk hI hR hD.c4 (fun i hi hin h37 hm => ?_) hM.2.1 hP
  rw [nFi_dr hR hD] at hin
  have z := hS i hi hin
  unfold mkF at hm
  rw [if_pos h37] at hm
  exact Classical.byContradiction (fun y => z ⟨hm, y⟩)
/-- a marked fight of the class is dropped: its book is that of the reference again -/
theorem SI.drop {B : Nat → Int32} {w v : GS} {c n k : Nat} (h : SI B w c n k) (hk : k < n) (hmk : ¬ B (fc c k) = 0) (hIv : Inv v) (hRv : R0 (drB B c k) v) (hSt : St w v) : SI (drB B c k) v c n (k + 1) ∧ FrS c B (drB B c k) := by
  obtain ⟨hI, hR, hD, hM, hP, hS⟩ := h
  have hc := hD.c4
  have h37 : k < 37 := by have := hD.n37; omega
  have hfc : 820 ≤ fc c k ∧ fc c k + 8 ≤ 2004 := by unfold fc; omega
  have hMO := hM.2.2.2
  obtain ⟨a, b, -, -, ha, hb, ea, eb⟩ := mk_ge hI hR hc h37 (by unfold mkF; rw [if_pos h37]; exact hmk)
  have hfr : FrS c B (drB B c k) ∧ drB B c k (fc c k) = 0 ∧ (∀ j, j < 37 → ¬ j = k → drB B c k (fc c j) = B (fc c j)) ∧ MB (drB B c k) := by
    by_cases h2 : B (fc c k) = 2
    · obtain ⟨m, hm, e7⟩ : ∃ m, m < 4 ∧ B (fc c k + 7) = nI m := by
        rcases hR.2.2.2.2.1 c hc k h37 with ⟨z, -⟩ | ⟨⟨-, -, m, hm, z, -⟩ | ⟨z, -⟩, -⟩
        · exact absurd z hmk
        · exact ⟨m, hm, z⟩
        · rw [h2] at z; exact absurd z (by decide)
      have hmc : 2004 ≤ mc0 m ∧ mc0 m + 21 ≤ 2088 := by unfold mc0; omega
      have hf1 : FrS c B (upd (lvB B m a b (B 0)) (fc c k) 0) := by
        unfold lvB
        exact ((((FrS.rf c B).up _ (Or.inr (Or.inl ⟨a, ha, rfl⟩))).up _ (Or.inr (Or.inl ⟨b, hb, rfl⟩))).up _ (Or.inr (Or.inr ⟨m, hm, rfl⟩))).up _ (Or.inl ⟨k, h37, rfl⟩)
      have hq : BqM c k m (fun f => f = a ∨ f = b) B (upd (lvB B m a b (B 0)) (fc c k) 0) := by
        unfold lvB
        exact ((((BqM.rf _ _ _ _ _).up _ (Or.inr (Or.inr ⟨a, ha, Or.inl rfl, rfl⟩))).up _ (Or.inr (Or.inr ⟨b, hb, Or.inr rfl, rfl⟩))).up _ (Or.inr (Or.inl (by omega)))).up _ (Or.inl (by omega))
      have z1 : upd (lvB B m a b (B 0)) (fc c k) 0 (mc0 m + 1) = -1 := by
        unfold lvB
        rw [upd_n (by omega), upd_e]
      have z0 : upd (lvB B m a b (B 0)) (fc c k) 0 (fc c k) = 0 := upd_e
      have zt : ∀ f, f = a ∨ f = b → upd (lvB B m a b (B 0)) (fc c k) 0 (154 + 7 * f) = B 0 := fun f hf => by
        unfold lvB
        rw [upd_n (by omega), upd_n (by omega)]
        by_cases hfb : f = b
        · rw [hfb, upd_e]
        · rw [upd_n (by omega), hf.resolve_right hfb, upd_e]
      rw [drB_open h2 e7 ea eb hm ha hb]
      generalize upd (lvB B m a b (B 0)) (fc c k) 0 = B2 at *
      refine ⟨hf1, z0, fun j hj hne => hq.fgt0 hm hc h37 hj (fun z => hne z.2), fun m9 hm9 g1 g2 g3 => ?_, fun c2 hc2 i2 hi2 h3 => ?_, ⟨?_, ?_, fun f hf => ?_⟩, hMO.act hc h37 hm hq (fun _ => e7) (fun z => absurd z1 z)⟩
      · by_cases he : m9 = m
        · rw [he] at g1
          exact absurd z1 g1
        · have q := fun k (hk : k < 21) => hq.mat (k := k) hc h37 hk he
          rw [q 1 (by decide)] at g1
          rw [q 4 (by decide)] at g2
          rw [q 3 (by decide)] at g3
          rw [q 2 (by decide)]
          exact hM.1 m9 hm9 g1 g2 g3
      · by_cases he : c2 = c ∧ i2 = k
        · rw [he.1, he.2, z0] at h3
          exact absurd h3 (by decide)
        · rw [hq.fgt0 hm hc2 h37 hi2 he] at h3
          rw [hq.fgt hm hc2 h37 hi2 (by decide) he, hq.fgt hm hc2 h37 hi2 (by decide) he, hq.fgt hm hc2 h37 hi2 (by decide) he]
          exact hM.2.1 c2 hc2 i2 hi2 h3
      · rw [hq.lo2 (by decide)]; exact hM.2.2.1.1
      · rw [hq.lo2 (by decide)]; exact hM.2.2.1.2.1
      · by_cases hA : f = a ∨ f = b
        · obtain ⟨t, ht, et⟩ := hM.2.2.1.1
          exact Or.inr ⟨t, ht, (zt f hA).trans et⟩
        · rw [hq.lo (by omega) (fun f2 hf2 h2 z => hA (by
            have : f2 = f := by omega
            rw [← this]; exact h2))]
          exact hM.2.2.1.2.2 f hf
    · have hf1 : FrS c B (upd B (fc c k) 0) := (FrS.rf c B).up _ (Or.inl ⟨k, h37, rfl⟩)
      have un : ∀ j, ¬ j = fc c k → upd B (fc c k) 0 j = B j := fun j hj => upd_n hj
      rw [drB_done h2]
      refine ⟨hf1, upd_e, fun j hj hne => un _ (fun z => hne (by unfold fc at z; omega)), fun m9 hm9 g1 g2 g3 => ?_, fun c2 hc2 i2 hi2 h3 => ?_, ⟨?_, ?_, fun f hf => ?_⟩, fun m9 hm9 g1 => ?_⟩
      · rw [un _ (by unfold mc0; omega)] at g1 g2 g3
        rw [un _ (by unfold mc0; omega)]
        exact hM.1 m9 hm9 g1 g2 g3
      · by_cases he : c2 = c ∧ i2 = k
        · rw [he.1, he.2, upd_e] at h3
          exact absurd h3 (by decide)
        · rw [un _ (fun z => he (by unfold fc at z; omega))] at h3
          rw [un _ (fun z => by unfold fc at z; omega), un _ (fun z => by unfold fc at z; omega), un _ (fun z => by unfold fc at z; omega)]
          exact hM.2.1 c2 hc2 i2 hi2 h3
      · rw [un _ (by omega)]; exact hM.2.2.1.1
      · rw [un _ (by omega)]; exact hM.2.2.1.2.1
      · rw [un _ (by omega)]; exact hM.2.2.1.2.2 f hf
      · rw [un _ (by unfold mc0; omega)] at g1
        obtain ⟨c2, i2, hc2, hi2, x1, x2, x3, x4⟩ := hMO m9 hm9 g1
        refine ⟨c2, i2, hc2, hi2, (un _ (by unfold mc0; omega)).trans x1, (un _ (by unfold mc0; omega)).trans x2, (un _ (fun z => ?_)).trans x3, (un _ (fun z => by unfold fc at z; omega)).trans x4⟩
        rw [z] at x3
        exact h2 x3
  obtain ⟨hf, h0, hne, hMB⟩ := hfr
  have hzn := hf.zn hc
  refine ⟨⟨hIv, hRv, hIv.1.dr (hSt.drs hD.drs), hMB, fun hk2 => ?_, fun i hi hin hs => ?_⟩, hf⟩
  · rw [hzn.2.1] at hk2
    rw [hzn.1]
    exact (hP hk2).to (hf.pl hc) (fun f hf9 => hf.plc hf9)
  · obtain ⟨s1, s2⟩ := hs
    have hik : ¬ i = k := fun z => by
      rw [z] at s1
      exact s1 h0
    have hi37 : i < 37 := by omega
    rw [hne i hi37 hik] at s1
    have hw : ∀ j, j < k → wF (drB B c k) c j = wF B c j := fun j hj => by
      unfold wF mkF wnF
      rw [if_pos (show j < 37 by omega), if_pos (show j < 37 by omega), if_pos (show j < 37 by omega), if_pos (show j < 37 by omega), hne j (by omega) (by omega), hf.fgt hc hc (by omega) (by decide) (Or.inl (by decide))]
    obtain ⟨e1, e2⟩ := loc_b (k := k) (kn_of hI hR hc) hzn.2.1 hzn.2.2.1 (hf.pl hc) hw i (by omega) (by rw [nFi_dr hR hD]; exact hin)
    rw [e1, e2, hf.fgt hc hc hi37 (by decide) (Or.inl (by decide)), hf.fgt hc hc hi37 (by decide) (Or.inl (by decide))] at s2
    exact hS i (by omega) hin ⟨s1, s2⟩

