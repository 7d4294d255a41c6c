/-! ===== after the draw ===== -/
theorem FrD.acc {c c2 : Nat} {B0 B : Nat → Int32} (h : FrD c B0 B) (hc : c < 4) (hc2 : c2 < 4) (hne : ¬ c2 = c) : Acc B0 B c2 := by
  refine ⟨fun p hp => h _ (by omega) (fun f hf _ => by omega), fun i hi => ?_, h _ (by omega) (fun f hf _ => by omega), h _ (by omega) (fun f hf _ => by omega)⟩
  unfold fc
  exact ⟨h _ (by omega) (fun f hf _ => by omega), h _ (by omega) (fun f hf _ => by omega)⟩
theorem FrD.hi {c j : Nat} {B0 B : Nat → Int32} (h : FrD c B0 B) (hc : c < 4) (hj : 820 ≤ j) : B j = B0 j := h j (by omega) (fun f hf _ => by omega)
theorem FrD.lo {c j : Nat} {B0 B : Nat → Int32} (h : FrD c B0 B) (hc : c < 4) (hj : j < 4) : B j = B0 j := h j (by omega) (fun f hf _ => by omega)
theorem draw_fin {B0 B : Nat → Int32} {w v : GS} {c : Nat} (h1 : R1 B0 w) (hmb : MB B0) (hI : Inv w) (hI2 : Inv v) (hc : c < 4) (h0 : Am w 12 c 0) (hd : DF c w v) (hF : FrD c B0 B) (e12 : Am v 12 c (B (6 + 36 * c))) (e13 : Am v 13 c (B (7 + 36 * c))) (ep : ∀ p, p < 32 → nI p < B (7 + 36 * c) → Am v 14 (32 * c + p) (B (8 + 36 * c + p))) (e10 : ∀ f, f < nF w → Am v 10 f (B (153 + 7 * f))) (hnt : B (6 + 36 * c) = 2 → NTp B c (zN B c)) : R1 B v ∧ MB B := by
  obtain ⟨hR, hNN⟩ := h1
  have h96 := hI.1.1.2.2
  have hRk := hR
  obtain ⟨⟨i2, i3, i4⟩, hC, hFi, hN, hRo, hM⟩ := hR
  have hi : ∀ j, 820 ≤ j → B j = B0 j := fun j hj => hF.hi hc hj
  have lo : ∀ j, j < 4 → B j = B0 j := fun j hj => hF.lo hc hj
  have dim : ∀ k x, Im w k x → Im v k x := fun k x z => ⟨by rw [hd.2.1]; exact z.1, by rw [hd.1]; exact z.2⟩
  have ft : ∀ f k, k < 5 ∨ k = 6 → B (148 + 7 * f + k) = B0 (148 + 7 * f + k) := fun f k hk => hF.ft hk hc
  have hmk0 : ∀ i, i < 37 → B (fc c i) = 0 := fun i hi37 => by
    rw [hi _ (by unfold fc; omega)]
    have hno : ∀ x, Am w 15 (40 * c + i) x → ¬ x = 0 → False := fun x hx hne => by
      obtain ⟨⟨n, z, -⟩, -⟩ := hI.1.2.2.2.2.1 c hc i (by omega) (by rw [hx.2]; exact hne)
      exact z.ne0 h0
    rcases hRo c hc i hi37 with ⟨a, -⟩ | ⟨⟨-, b, -⟩ | ⟨-, b, -⟩, -⟩
    · exact a
    · exact absurd (by decide) (hno _ b)
    · exact absurd (by decide) (hno _ b)
  have hR2 : R0 B v := by
    refine ⟨⟨?_, ?_, ?_⟩, fun c2 hc2 => ?_, fun f hf => ?_, fun f hf hf2 => ?_, fun c2 hc2 i hi37 => ?_, fun m hm => ?_⟩
    · rw [lo 2 (by decide)]; exact dim _ _ i2
    · rw [lo 0 (by decide)]; exact dim _ _ i3
    · rw [lo 1 (by decide)]; exact dim _ _ i4
    · obtain ⟨a, b, d, e⟩ := hC c2 hc2
      have x4 : B (4 + 36 * c2) = B0 (4 + 36 * c2) := hF _ (by omega) (fun f hf _ => by omega)
      have x5 : B (5 + 36 * c2) = B0 (5 + 36 * c2) := hF _ (by omega) (fun f hf _ => by omega)
      refine ⟨by rw [x4]; exact hd.at (by decide) (by decide) (by decide) a, by rw [x5]; exact hd.at (by decide) (by decide) (by decide) b, ?_, ?_⟩
      · by_cases he : c2 = c
        · rw [he]; exact e12
        · have y := hd.2.2.2.1 12 (by decide) (by decide) c2 he
          rw [(hF.acc hc hc2 he).2.2.1]
          exact ⟨y.2.trans d.1, y.1.trans d.2⟩
      · by_cases he : c2 = c
        · rw [he]
          exact fun _ => ⟨e13, ep⟩
        · have hA := hF.acc hc hc2 he
          rw [hA.2.2.1, hA.2.2.2]
          intro z
          have y := hd.2.2.2.1 13 (by decide) (by decide) c2 he
          refine ⟨⟨y.2.trans (e z).1.1, y.1.trans (e z).1.2⟩, fun p hp hp2 => ?_⟩
          have y := hd.2.2.2.2.1 (32 * c2 + p) (by omega)
          rw [hA.1 p hp]
          exact ⟨y.2.trans ((e z).2 p hp hp2).1, y.1.trans ((e z).2 p hp hp2).2⟩
    · rw [hd.nFe] at hf
      obtain ⟨a5, a6, a7, a8, a9, a10, a11⟩ := hFi f hf
      have y0 := ft f 0 (Or.inl (by decide))
      have y1 := ft f 1 (Or.inl (by decide))
      have y2 := ft f 2 (Or.inl (by decide))
      have y3 := ft f 3 (Or.inl (by decide))
      have y4 := ft f 4 (Or.inl (by decide))
      have y6 := ft f 6 (Or.inr rfl)
      rw [show 148 + 7 * f + 0 = 148 + 7 * f by omega] at y0
      rw [show 148 + 7 * f + 1 = 149 + 7 * f by omega] at y1
      rw [show 148 + 7 * f + 2 = 150 + 7 * f by omega] at y2
      rw [show 148 + 7 * f + 3 = 151 + 7 * f by omega] at y3
      rw [show 148 + 7 * f + 4 = 152 + 7 * f by omega] at y4
      rw [show 148 + 7 * f + 6 = 154 + 7 * f by omega] at y6
      unfold rF
      rw [y0, y1, y2, y3, y4, y6]
      exact ⟨hd.at (by decide) (by decide) (by decide) a5, hd.at (by decide) (by decide) (by decide) a6, hd.at (by decide) (by decide) (by decide) a7, hd.at (by decide) (by decide) (by decide) a8, hd.at (by decide) (by decide) (by decide) a9, e10 f hf, hd.at (by decide) (by decide) (by decide) a11⟩
    · rw [hd.nFe] at hf
      have y3 := ft f 3 (Or.inl (by decide))
      have y4 := ft f 4 (Or.inl (by decide))
      rw [show 148 + 7 * f + 3 = 151 + 7 * f by omega] at y3
      rw [show 148 + 7 * f + 4 = 152 + 7 * f by omega] at y4
      unfold rN
      rw [y3, y4]
      exact hN f hf hf2
    · unfold rR
      have hx : ∀ k, B (fc c2 i + k) = B0 (fc c2 i + k) := fun k => hi _ (by unfold fc; omega)
      have hx0 : B (fc c2 i) = B0 (fc c2 i) := hx 0
      rw [hx0, hx 1, hx 2, hx 3, hx 4, hx 5, hx 6, hx 7]
      have am : ∀ k, 15 ≤ k → k ≤ 22 → ∀ j x, Am w k j x → Am v k j x := fun k h1 h2 j x z => hd.at (by omega) (by omega) (by omega) z
      rcases hRo c2 hc2 i hi37 with ⟨a, b⟩ | ⟨⟨a, b, m, d, e, f⟩ | ⟨a, b, d, e, f, g⟩, y, z⟩
      · exact Or.inl ⟨a, am _ (by decide) (by decide) _ _ b⟩
      · exact Or.inr ⟨Or.inl ⟨a, am _ (by decide) (by decide) _ _ b, m, d, e, am _ (by decide) (by decide) _ _ f⟩, am _ (by decide) (by decide) _ _ y, am _ (by decide) (by decide) _ _ z⟩
      · exact Or.inr ⟨Or.inr ⟨a, am _ (by decide) (by decide) _ _ b, am _ (by decide) (by decide) _ _ d, am _ (by decide) (by decide) _ _ e, am _ (by decide) (by decide) _ _ f, am _ (by decide) (by decide) _ _ g⟩, am _ (by decide) (by decide) _ _ y, am _ (by decide) (by decide) _ _ z⟩
    · unfold rM
      have hx : ∀ k, B (mc0 m + k) = B0 (mc0 m + k) := fun k => hi _ (by unfold mc0; omega)
      have hx0 : B (mc0 m) = B0 (mc0 m) := hx 0
      have am : ∀ k, 22 ≤ k → k ≤ 26 → ∀ j x, Am w k j x → Am v k j x := fun k h1 h2 j x z => hd.at (by omega) (by omega) (by omega) z
      rw [hx0, hx 1, hx 2, hx 3, hx 4]
      rcases hM m hm with ⟨a, b⟩ | ⟨c, i, a, b, d, e, f, g, k, l, n⟩
      · exact Or.inl ⟨a, am _ (by decide) (by decide) _ _ b⟩
      · refine Or.inr ⟨c, i, a, b, d, e, am _ (by decide) (by decide) _ _ f, am _ (by decide) (by decide) _ _ g, am _ (by decide) (by decide) _ _ k, am _ (by decide) (by decide) _ _ l, fun q hq => ?_⟩
        rw [show mc0 m + 5 + q = mc0 m + (5 + q) by omega, hx (5 + q), show mc0 m + (5 + q) = mc0 m + 5 + q by omega]
        exact am _ (by decide) (by decide) _ _ (n q hq)
  obtain ⟨mi, wc, ⟨vb1, vb2, vb3⟩, mo⟩ := hmb
  have hmb2 : MB B := by
    refine ⟨fun m hm => ?_, fun c2 hc2 i hi37 => ?_, ⟨by rw [lo 0 (by decide)]; exact vb1, by rw [lo 1 (by decide)]; exact vb2, fun f hf => ?_⟩, fun m hm => ?_⟩
    · have hx : ∀ k, B (mc0 m + k) = B0 (mc0 m + k) := fun k => hi _ (by unfold mc0; omega)
      rw [hx 1, hx 2, hx 3, hx 4]
      exact mi m hm
    · have hx : ∀ k, B (fc c2 i + k) = B0 (fc c2 i + k) := fun k => hi _ (by unfold fc; omega)
      have hx0 : B (fc c2 i) = B0 (fc c2 i) := hx 0
      rw [hx0, hx 1, hx 2, hx 3]
      exact wc c2 hc2 i hi37
    · have y6 := ft f 6 (Or.inr rfl)
      rw [show 148 + 7 * f + 6 = 154 + 7 * f by omega] at y6
      rw [y6]
      exact vb3 f hf
    · have hx : ∀ k, B (mc0 m + k) = B0 (mc0 m + k) := fun k => hi _ (by unfold mc0; omega)
      have hx0 : B (mc0 m) = B0 (mc0 m) := hx 0
      rw [hx0, hx 1]
      intro z
      obtain ⟨c2, i, a, b, d, e, f, g⟩ := mo m hm z
      exact ⟨c2, i, a, b, d, e, by rw [hi _ (by unfold fc; omega)]; exact f, by rw [hi _ (by unfold fc; omega)]; exact g⟩
  have hNSt : ∀ c2, c2 < 4 → NSt B c2 := fun c2 hc2 => by
    by_cases he : c2 = c
    · rw [he]
      intro i _ hi37 hm
      unfold mkF at hm
      rw [if_pos hi37] at hm
      exact absurd (hmk0 i hi37) hm
    · have hA := hF.acc hc hc2 he
      have hfn := hA.fn
      refine NSt.of (kn_of hI hRk hc2) hA.2.2.1 hA.2.2.2 hfn.1 (fun i => by rw [hA.all.1]) (fun i h1 h2 hm => ?_)
      rw [hfn.2.1] at hm
      rw [hi _ (by unfold fc; omega), hi _ (by unfold fc; omega)]
      exact (hNN c2 hc2).2 i h1 h2 hm
  refine ⟨⟨hR2, fun c2 hc2 => ⟨NT.mk hI2 hR2 hc2 (hNSt c2 hc2) hmb2.2.1 (fun h2 => ?_), hNSt c2 hc2⟩⟩, hmb2⟩
  by_cases he : c2 = c
  · rw [he] at h2 ⊢
    exact hnt h2
  · have hA := hF.acc hc hc2 he
    rw [hA.2.2.1] at h2
    have hzn : zN B c2 = zN B0 c2 := by
      unfold zN
      rw [hA.2.2.2]
    rw [hzn]
    intro p f hp hf hpl
    rw [hA.fn.1] at hpl
    have y := ((hNN c2 hc2).1 h2).2.2.1 p f hp hf hpl
    rw [hF _ (by omega) (fun g hg hg5 => ?_)]
    · exact y
    · intro e
      have hgf : g = f := by omega
      subst hgf
      rcases (hI.1.2.2.2.1 c2 hc2).2.2.1 with z | ⟨n, z⟩
      · exact absurd (h2.symm.trans ((hRk.kd hc2).inj z)) (by decide)
      · have hd2 := hI.1.dr z
        rcases hd2 with ⟨s, hP2, -⟩ | ⟨L, hT, -⟩
        · exact absurd (h2.symm.trans ((hRk.kz hc2).1 s hP2).1) (by decide)
        · obtain ⟨k6, k7, kz⟩ := (hRk.kz hc2).2 L hT
          have h32 := pow_lt32 hT.2.2.2.1
          rw [kz] at hp
          have h14 := ((hRk.2.1 c2 hc2).2.2.2 (by rw [k6]; decide)).2 p (by omega) (by rw [k7]; exact nI_lt hp (by omega))
          unfold pl at hpl
          rw [if_pos (by omega)] at hpl
          rw [hpl] at h14
          rcases hT.2.2.2.2.2.2.2.1 p hp with z | ⟨f2, z1, z2⟩
          · exact nI_ne_1 (by omega) (h14.inj z)
          · have : g = f2 := (nI_eq (by omega) (by have := z2.1; omega)).mp (h14.inj z1)
            subst this
            have a5 := (hFi g z2.1).1
            have : c = c2 := (nI_eq (by omega) (by omega)).mp (hg5.symm.trans (a5.inj z2.2.1))
            exact he this.symm

