/-! ===== a fight ends, both sides ===== -/
theorem finB_v {B : Nat → Int32} {c i m a b : Nat} {v l p : Int32} (hc : c < 4) (hi : i < 37) (ha : a < 96) (hb : b < 96) : finB B c i m a b v l p (fc c i) = 3 ∧ finB B c i m a b v l p (fc c i + 3) = v ∧ finB B c i m a b v l p (fc c i + 4) = l ∧ finB B c i m a b v l p (fc c i + 5) = p ∧ finB B c i m a b v l p (fc c i + 6) = B 0 ∧ finB B c i m a b v l p (154 + 7 * a) = B 0 ∧ finB B c i m a b v l p (154 + 7 * b) = B 0 ∧ finB B c i m a b v l p (mc0 m + 1) = -1 ∧ finB B c i m a b v l p (fc c i + 1) = B (fc c i + 1) ∧ finB B c i m a b v l p (fc c i + 2) = B (fc c i + 2) := by
  have hfc : 820 ≤ fc c i ∧ fc c i + 8 ≤ 2004 := by unfold fc; omega
  have hmc : 2004 ≤ mc0 m := by unfold mc0; omega
  unfold finB lvB
  refine ⟨?_, ?_, ?_, ?_, ?_, ?_, ?_, ?_, ?_, ?_⟩
  · rw [upd_n (by omega), upd_n (by omega), upd_n (by omega), upd_n (by omega), upd_n (by omega), upd_n (by omega), upd_n (by omega), upd_e]
  · rw [upd_n (by omega), upd_n (by omega), upd_n (by omega), upd_n (by omega), upd_n (by omega), upd_n (by omega), upd_e]
  · rw [upd_n (by omega), upd_n (by omega), upd_n (by omega), upd_n (by omega), upd_n (by omega), upd_e]
  · rw [upd_n (by omega), upd_n (by omega), upd_n (by omega), upd_n (by omega), upd_e]
  · rw [upd_n (by omega), upd_n (by omega), upd_n (by omega), upd_e]
  · rw [upd_n (by omega)]
    by_cases h : a = b
    · rw [h, upd_e]
    · rw [upd_n (by omega), upd_e]
  · rw [upd_n (by omega), upd_e]
  · rw [upd_e]
  · rw [upd_n (by omega), upd_n (by omega), upd_n (by omega), upd_n (by omega), upd_n (by omega), upd_n (by omega), upd_n (by omega), upd_n (by omega)]
  · rw [upd_n (by omega), upd_n (by omega), upd_n (by omega), upd_n (by omega), upd_n (by omega), upd_n (by omega), upd_n (by omega), upd_n (by omega)]
theorem finB_q {B : Nat → Int32} {c i m a b : Nat} {v l p : Int32} (ha : a < 96) (hb : b < 96) : BqM c i m (fun f => f = a ∨ f = b) B (finB B c i m a b v l p) := by
  unfold finB lvB
  refine ((((((((BqM.rf _ _ _ _ _).up _ (Or.inl (by omega))).up _ (Or.inl (by omega))).up _ (Or.inl (by omega))).up _ (Or.inl (by omega))).up _ (Or.inl (by omega))).up _ (Or.inr (Or.inr ⟨a, ha, Or.inl rfl, rfl⟩))).up _ (Or.inr (Or.inr ⟨b, hb, Or.inr rfl, rfl⟩))).up _ (Or.inr (Or.inl (by omega)))
theorem R0.s38 {B : Nat → Int32} {w : GS} (h : R0 B w) (f : Nat → Int32) (mk : Nat → Bool) : R0 B (s38 w f mk) := h
theorem LFr.s38 (w : GS) (f : Nat → Int32) (mk : Nat → Bool) : LFr w (s38 w f mk) := by
  refine ⟨fun _ _ _ => ⟨rfl, rfl⟩, fun k h1 h2 => ?_⟩
  have hk : ¬ k = 38 := by omega
  refine ⟨if_neg hk, ?_⟩
  funext j
  exact if_neg hk
/-- ends, exactly -/
theorem r_ends {B : Nat → Int32} {w : GS} {c i m a b sd : Nat} {l p : Int32} (hI : Inv w) (hR : R0 B w) (hO : OnM B w m c i) (hm : m < 4) (hsd : sd < 2) (ha : Am w 16 (40 * c + i) (nI a)) (hb : Am w 17 (40 * c + i) (nI b)) (ha96 : a < 96) (hb96 : b < 96) (hfa : B (fc c i + 1) = nI a) (hfb : B (fc c i + 2) = nI b) : Ok (f_ends (nI m) (nI sd) l p) w (fun r v => r = nI (if sd = 0 then a else b) ∧ R0 (finB B c i m a b r l p) v ∧ LFr w v) := by
  have hO2 := hO
  obtain ⟨hc, hi, b0, b1, o22, o23, o25, o26, o24⟩ := hO2
  have hx : 40 * c + i < 160 := by omega
  have h96 := hI.1.1.2.2
  have key : ∀ x : Nat, R0 (finB B c i m a b (nI x) l p) (fin1 (40 * c + i) (nI x) l p (B 0) a b m w) ∧ LFr w (fin1 (40 * c + i) (nI x) l p (B 0) a b m w) := fun x => by
    obtain ⟨g1, g2, g3, g4, g5, g6, g7, g8, g9, g10⟩ := finB_v (B := B) (c := c) (i := i) (m := m) (a := a) (b := b) (v := nI x) (l := l) (p := p) hc hi ha96 hb96
    have hq := finB_q (B := B) (c := c) (i := i) (m := m) (a := a) (b := b) (v := nI x) (l := l) (p := p) ha96 hb96
    have no : ∀ {k j}, okM c i m (fun f => f = a ∨ f = b) k j → ¬ ((15 ≤ k ∧ k ≤ 21 ∧ j = 40 * c + i) ∨ (k = 22 ∧ j = m) ∨ (k = 11 ∧ (j = a ∨ j = b))) := fun z => by
      unfold okM at z
      omega
    have hT : Tq c i m (fun f => f = a ∨ f = b) w (fin1 (40 * c + i) (nI x) l p (B 0) a b m w) := by
      unfold fin1
      exact (((((((((Tq.rf c i m _ w).sw (by omega) _ (fun z => no z (Or.inl ⟨by decide, by decide, rfl⟩)) (by decide)).sw (by omega) _ (fun z => no z (Or.inl ⟨by decide, by decide, rfl⟩)) (by decide)).sw (by omega) _ (fun z => no z (Or.inl ⟨by decide, by decide, rfl⟩)) (by decide)).sw (by omega) _ (fun z => no z (Or.inl ⟨by decide, by decide, rfl⟩)) (by decide)).sw (by omega) _ (fun z => no z (Or.inl ⟨by decide, by decide, rfl⟩)) (by decide)).sw (by omega) _ (fun z => no z (Or.inr (Or.inr ⟨rfl, Or.inl rfl⟩))) (by decide)).sw (by omega) _ (fun z => no z (Or.inr (Or.inr ⟨rfl, Or.inr rfl⟩))) (by decide)).sw (by omega) _ (fun z => no z (Or.inr (Or.inl ⟨rfl, rfl⟩))) (by decide))
    refine ⟨hR.mat h96 hc hi hm hq hT (fun f hf hA => ?_) (Or.inr ⟨Or.inr ⟨g1, ?_, ?_, ?_, ?_, ?_⟩, ?_, ?_⟩) (Or.inl ⟨g8, ?_⟩) hO.un, hT.2.2.2⟩
    · unfold fin1
      by_cases hb2 : f = b
      · rw [hb2, g7]
        exact (sw_A (k := 11) (by omega)).o (by decide)
      · have ha2 : f = a := hA.resolve_right hb2
        rw [ha2, g6]
        exact ((sw_A (k := 11) (by omega)).sw (by omega) (fun z => hb2 (ha2.trans z.2))).o (by decide)
    · unfold fin1
      exact (((((((sw_A (k := 15) (by omega)).o (by decide)).o (by decide)).o (by decide)).o (by decide)).o (by decide)).o (by decide)).o (by decide)
    · rw [g2]; unfold fin1
      exact ((((((sw_A (k := 18) (by omega)).o (by decide)).o (by decide)).o (by decide)).o (by decide)).o (by decide)).o (by decide)
    · rw [g3]; unfold fin1
      exact (((((sw_A (k := 19) (by omega)).o (by decide)).o (by decide)).o (by decide)).o (by decide)).o (by decide)
    · rw [g4]; unfold fin1
      exact ((((sw_A (k := 20) (by omega)).o (by decide)).o (by decide)).o (by decide)).o (by decide)
    · rw [g5]; unfold fin1
      exact (((sw_A (k := 21) (by omega)).o (by decide)).o (by decide)).o (by decide)
    · rw [g9, hfa]; unfold fin1
      exact (((((((ha.o (by decide)).o (by decide)).o (by decide)).o (by decide)).o (by decide)).o (by decide)).o (by decide)).o (by decide)
    · rw [g10, hfb]; unfold fin1
      exact (((((((hb.o (by decide)).o (by decide)).o (by decide)).o (by decide)).o (by decide)).o (by decide)).o (by decide)).o (by decide)
    · unfold fin1
      exact sw_A (by omega)
  have i3 := hR.1.2.1
  unfold f_ends
  refine Ok_rdN rfl hm (by decide) o22 (Ok_wdN rfl hx (by decide) ?_)
  have h01 : sd = 0 ∨ sd = 1 := by omega
  rcases h01 with rfl | rfl
  · refine Ok_ite (fun _ => ?_) (fun z => absurd rfl z)
    refine Ok_rdN rfl hx (by decide) (ha.o (by decide)) (Ok_wdN rfl hx (by decide) (Ok_wdN rfl hx (by decide) (Ok_wdN rfl hx (by decide) (Ok_rfN i3 (Ok_wdN rfl hx (by decide) ?_)))))
    refine Ok_rdN rfl hx (by decide) (((((ha.o (by decide)).o (by decide)).o (by decide)).o (by decide)).o (by decide)) (Ok_rfN i3 (Ok_wdN rfl ha96 (by decide) ?_))
    refine Ok_rdN rfl hx (by decide) ((((((hb.o (by decide)).o (by decide)).o (by decide)).o (by decide)).o (by decide)).o (by decide)) (Ok_rfN i3 (Ok_wdN rfl hb96 (by decide) ?_))
    refine Ok_wdN rfl hm (by decide) (Ok_rdN rfl hx (by decide) (x := nI a) ((((((sw_A (k := 18) (by omega)).o (by decide)).o (by decide)).o (by decide)).o (by decide)).o (by decide) |>.o (by decide)) (Ok_rt ⟨rfl, ?_⟩))
    exact key a
  · refine Ok_ite (fun z => absurd z (by decide)) (fun _ => ?_)
    refine Ok_rdN rfl hx (by decide) (hb.o (by decide)) (Ok_wdN rfl hx (by decide) (Ok_wdN rfl hx (by decide) (Ok_wdN rfl hx (by decide) (Ok_rfN i3 (Ok_wdN rfl hx (by decide) ?_)))))
    refine Ok_rdN rfl hx (by decide) (((((ha.o (by decide)).o (by decide)).o (by decide)).o (by decide)).o (by decide)) (Ok_rfN i3 (Ok_wdN rfl ha96 (by decide) ?_))
    refine Ok_rdN rfl hx (by decide) ((((((hb.o (by decide)).o (by decide)).o (by decide)).o (by decide)).o (by decide)).o (by decide)) (Ok_rfN i3 (Ok_wdN rfl hb96 (by decide) ?_))
    refine Ok_wdN rfl hm (by decide) (Ok_rdN rfl hx (by decide) (x := nI b) ((((((sw_A (k := 18) (by omega)).o (by decide)).o (by decide)).o (by decide)).o (by decide)).o (by decide) |>.o (by decide)) (Ok_rt ⟨rfl, ?_⟩))
    exact key b
/-- cells of mat m behind its fight alone -/
def MtO (m : Nat) (B B1 : Nat → Int32) : Prop := ∀ j, ¬ (mc0 m + 2 ≤ j ∧ j < mc0 m + 21) → B1 j = B j
theorem MtO.rf (m : Nat) (B : Nat → Int32) : MtO m B B := fun _ _ => rfl
theorem MtO.up {m : Nat} {B B1 : Nat → Int32} (h : MtO m B B1) {j : Nat} (x : Int32) (hj : mc0 m + 2 ≤ j ∧ j < mc0 m + 21) : MtO m B (upd B1 j x) := fun k hk => by
  rw [upd_n (fun z => hk (by omega))]
  exact h k hk
theorem MtO.q {m c i : Nat} {B B1 : Nat → Int32} (h : MtO m B B1) : BqM c i m (fun _ => False) B B1 := fun j _ h2 _ => h j (fun z => h2 (by omega))
theorem MtO.fq {m c i k : Nat} {B B1 : Nat → Int32} (h : MtO m B B1) (hc : c < 4) (hi : i < 37) (hk : k < 8) : B1 (fc c i + k) = B (fc c i + k) := h _ (by unfold fc mc0; omega)
theorem MtO.lo {m j : Nat} {B B1 : Nat → Int32} (h : MtO m B B1) (hj : j < 2004) : B1 j = B j := h _ (by unfold mc0; omega)
theorem MtO.tr {m c i : Nat} {A : Nat → Prop} {B B1 B2 : Nat → Int32} (h : MtO m B B1) (h2 : BqM c i m A B1 B2) : BqM c i m A B B2 := fun j a b d => (h2 j a b d).trans (h j (fun z => b (by omega)))
/-- the same fights, winners and sides -/
theorem NSt.mt {m c : Nat} {B B1 : Nat → Int32} (h : NSt B c) (hc : c < 4) (hM : MtO m B B1) : NSt B1 c := by
  have a : Acc B B1 c := ⟨fun p hp => hM.lo (by omega), fun i hi => ⟨hM.fq (k := 0) hc hi (by decide), hM.fq hc hi (by decide)⟩, hM.lo (by omega), hM.lo (by omega)⟩
  exact h.to a (fun i hi => ⟨hM.fq hc hi (by decide), hM.fq hc hi (by decide)⟩)
/-- an act that leaves the fight on the mat -/
theorem RX.mt {P : LwP} {LW : List LwP} {q c i m : Nat} {B B1 : Nat → Int32} {w v : GS} (h : RX P LW q B w) (hIv : Inv v) (hR : R0 B1 v) (hc : c < 4) (hi : i < 37) (hm : m < 4) (hM : MtO m B B1) (hl : LFr w v) (hMI : B1 (mc0 m + 4) = 0 → B1 (mc0 m + 3) = 0 → ¬ B1 (mc0 m + 2) = 0) : RX P LW q B1 v := by
  have hq : BqM c i m (fun _ => False) B B1 := hM.q
  have hh := h
  obtain ⟨hr1, mb, -⟩ := hh
  have f0 : B1 (fc c i) = B (fc c i) := hM.fq (k := 0) hc hi (by decide)
  refine h.act hIv hR hc hi hm hq hl ((hr1.2 c hc).2.mt hc hM) (fun _ => hMI) (fun z => ?_) (fun _ _ z => z.elim) ?_
  · rw [hM.fq hc hi (by decide), hM.fq hc hi (by decide), hM.fq hc hi (by decide)]
    rw [f0] at z
    exact mb.2.1 c hc i hi z
  · intro m9 hm9 hne
    have e1 : B1 (mc0 m9 + 1) = B (mc0 m9 + 1) := hM _ (by unfold mc0; omega)
    have e0 : B1 (mc0 m9) = B (mc0 m9) := hM _ (by unfold mc0; omega)
    rw [e1] at hne
    obtain ⟨c2, i2, hc2, hi2, a, b, d, e⟩ := mb.2.2.2 m9 hm9 hne
    exact ⟨c2, i2, hc2, hi2, e0.trans a, e1.trans b, (hM.fq (k := 0) hc2 hi2 (by decide)).trans d, (hM.fq hc2 hi2 (by decide)).trans e⟩
/-- an act that ends the fight -/
theorem RX.fin {P : LwP} {LW : List LwP} {q c i m a b : Nat} {B B1 : Nat → Int32} {w v : GS} {x l p : Int32} (h : RX P LW q B w) (hI : Inv w) (hIv : Inv v) (hM : MtO m B B1) (hR : R0 (finB B1 c i m a b x l p) v) (hc : c < 4) (hi : i < 37) (hm : m < 4) (hin : i < nFi B c) (hl : LFr w v) (hmk : B (fc c i) = 2) (hmo : B (fc c i + 7) = nI m) (ha : a < 96) (hb : b < 96) (hfa : B (fc c i + 1) = nI a) (hfb : B (fc c i + 2) = nI b) (hx : x = nI a ∨ x = nI b) : RX P LW q (finB B1 c i m a b x l p) v := by
  obtain ⟨g1, g2, g3, g4, g5, g6, g7, g8, g9, g10⟩ := finB_v (B := B1) (c := c) (i := i) (m := m) (a := a) (b := b) (v := x) (l := l) (p := p) hc hi ha hb
  have hq : BqM c i m (fun f => f = a ∨ f = b) B (finB B1 c i m a b x l p) := hM.tr (finB_q ha hb)
  rw [hM.fq hc hi (by decide), hfa] at g9
  rw [hM.fq hc hi (by decide), hfb] at g10
  have e0 : B1 0 = B 0 := hM.lo (by decide)
  rw [e0] at g6 g7
  have hh := h
  obtain ⟨hr1, ⟨m1, m2, m3, m4⟩, -⟩ := hh
  have hr0 := hr1.1
  have hD := dr_of hI hr0 hc hin
  generalize finB B1 c i m a b x l p = B2 at *
  have hmk0 : mkF B c i = 2 := by
    unfold mkF
    rw [if_pos hi]
    exact hmk
  refine h.act hIv hR hc hi hm hq hl ?_ (fun z => absurd g8 z) (fun _ => ?_) (fun f hf hA => ?_) (m4.act hc hi hm hq (fun _ => hmo) (fun z => absurd g8 z))
  · have hle : ∀ j, Le1 (wF B c j) (wF B2 c j) := fun j => by
      by_cases hj : j = i
      · refine Or.inl ?_
        unfold wF
        rw [hj, hmk0, if_neg (by decide)]
      · refine Or.inr ?_
        unfold wF mkF wnF
        by_cases h37 : j < 37
        · rw [if_pos h37, if_pos h37, if_pos h37, if_pos h37, hq.fgt0 hm hc hi h37 (fun z => hj z.2), hq.fgt hm hc hi h37 (by decide) (fun z => hj z.2)]
        · rw [if_neg h37, if_neg h37, if_neg h37, if_neg h37]
    have en : nFi B2 c = nFi B c := by
      unfold nFi zN
      rw [(hq.zn hc).2.1, (hq.zn hc).2.2]
    intro j hj h37 hmj
    rw [en] at hj
    have hmB : ¬ mkF B c j = 0 := by
      by_cases he : j = i
      · rw [he, hmk0]; decide
      · intro z
        unfold mkF at hmj z
        rw [if_pos h37] at hmj z
        rw [hq.fgt0 hm hc hi h37 (fun y => he y.2)] at hmj
        exact hmj z
    have hcell : B2 (fc c j + 1) = B (fc c j + 1) ∧ B2 (fc c j + 2) = B (fc c j + 2) := by
      by_cases he : j = i
      · rw [he, g9, g10, hfa, hfb]
        exact ⟨rfl, rfl⟩
      · exact ⟨hq.fgt hm hc hi h37 (by decide) (fun y => he y.2), hq.fgt hm hc hi h37 (by decide) (fun y => he y.2)⟩
    obtain ⟨z1, z2⟩ := (hr1.2 c hc).2 j hj h37 hmB
    obtain ⟨a', b', -, -, ha', hb', ea, eb⟩ := mk_ge hI hr0 hc h37 hmB
    obtain ⟨y1, y2⟩ := mon_b hr0 hD (hr1.2 c hc).1 (hq.zn hc).2.1 (hq.zn hc).2.2 (hq.plq hc) hle hj
    rw [hcell.1, hcell.2, z1, z2]
    refine ⟨(y1.eq ?_).symm, (y2.eq ?_).symm⟩
    · rw [← z1, ea]
      exact nI_ne_1 (by omega)
    · rw [← z2, eb]
      exact nI_ne_1 (by omega)
  · rw [g2, g9, g10]
    exact hx
  · obtain ⟨t, ht, et⟩ := m3.1
    refine Or.inr ⟨t, ht, ?_⟩
    rcases hA with rfl | rfl
    · rw [g6, et]
    · rw [g7, et]

