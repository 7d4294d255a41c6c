/-! ===== the small acts ===== -/
theorem inv_w0 {w : GS} (h : Inv w) (i v : Int32) : Inv (swd 0 i v w) := by
  obtain ⟨⟨jF, jI, jG, jC, jR, jM, jO⟩, jL, jE⟩ := h
  refine ⟨⟨jF, jI, jG, fun c hc => ?_, jR, jM, jO⟩, jL, jE⟩
  obtain ⟨g1, g2, g3, g4⟩ := jC c hc
  exact ⟨sw_mm g1, g2, g3, g4⟩
theorem inv_w1 {w : GS} (h : Inv w) (i v : Int32) : Inv (swd 1 i v w) := by
  obtain ⟨⟨jF, jI, jG, jC, jR, jM, jO⟩, jL, jE⟩ := h
  refine ⟨⟨jF, jI, jG, fun c hc => ?_, jR, jM, jO⟩, jL, jE⟩
  obtain ⟨g1, g2, g3, g4⟩ := jC c hc
  exact ⟨g1, sw_mm g2, g3, g4⟩
theorem inv_w7 {w : GS} (h : Inv w) (i v : Int32) : Inv (swd 7 i v w) := by
  obtain ⟨⟨jF, jI, jG, jC, jR, jM, jO⟩, jL, jE⟩ := h
  refine ⟨⟨jF, jI, fun f hf => ?_, jC, jR, jM, jO⟩, jL, jE⟩
  obtain ⟨g1, g2, g3, g4, g5, g6, g7⟩ := jG f hf
  exact ⟨g1, g2, sw_mm g3, g4, g5, g6, g7⟩
theorem inv_w8 {w : GS} (h : Inv w) (i v : Int32) : Inv (swd 8 i v w) := by
  obtain ⟨⟨jF, jI, jG, jC, jR, jM, jO⟩, jL, jE⟩ := h
  refine ⟨⟨jF, jI, fun f hf => ?_, jC, jR, jM, jO⟩, jL, jE⟩
  obtain ⟨g1, g2, g3, g4, g5, g6, g7⟩ := jG f hf
  exact ⟨g1, g2, g3, sw_mm g4, g5, g6, g7⟩
theorem inv_w9 {w : GS} (h : Inv w) (j q : Nat) (hj : j < 2 ^ 31) (hq : q ≤ 8) : Inv (swd 9 (nI j) (nI q) w) := by
  obtain ⟨⟨jF, jI, jG, jC, jR, jM, jO⟩, jL, jE⟩ := h
  refine ⟨⟨jF, jI, fun f hf => ?_, jC, jR, jM, jO⟩, jL, jE⟩
  obtain ⟨g1, g2, g3, g4, g5, g6, g7⟩ := jG f hf
  refine ⟨g1, g2, g3, g4, ?_, g6, g7⟩
  by_cases he : f = j
  · subst he
    exact ⟨q, hq, sw_A hj⟩
  · obtain ⟨q2, k1, k2⟩ := g5
    exact ⟨q2, k1, sw_An hj he k2⟩
theorem inv_f3 {w : GS} (h : Inv w) (v : Int32) : Inv (swf 3 v w) := by
  obtain ⟨⟨jF, ⟨_, i2⟩, jG, jC, jR, jM, jO⟩, jL, jE⟩ := h
  exact ⟨⟨jF, ⟨rfl, i2⟩, jG, jC, jR, jM, jO⟩, jL, jE⟩
theorem inv_f4 {w : GS} (h : Inv w) (v : Int32) : Inv (swf 4 v w) := by
  obtain ⟨⟨jF, ⟨i1, _, i2⟩, jG, jC, jR, jM, jO⟩, jL, jE⟩ := h
  exact ⟨⟨jF, ⟨i1, rfl, i2⟩, jG, jC, jR, jM, jO⟩, jL, jE⟩
theorem ok_weighs {w : GS} (h : Inv w) (f : Nat) (g : Int32) (hf : f < nF w) : Ok (pwd 7 96 (nI f) g (prd 5 96 (nI f) (fun x_20 => prd 0 4 x_20 (fun x_23 => prd 5 96 (nI f) (fun x_26 => prd 1 4 x_26 (fun x_29 => pcl (f_in g.toInt64 x_23.toInt64 x_29.toInt64) (fun r_32 => (if r_32 = 0 then pwd 8 96 (nI f) 2 (prd 8 96 (nI f) (fun x_39 => (if x_39 = 1 then prt (1 : Int32) else prt 0))) else pwd 8 96 (nI f) 1 (prd 8 96 (nI f) (fun x_46 => (if x_46 = 1 then prt 1 else prt 0))))))))))) w (fun _ w1 => Inv w1) := by
  have hf96 : f < 96 := by have := h.1.1.2.2; omega
  obtain ⟨⟨c, hc, h5⟩, -, -, m8, -⟩ := h.1.2.2.1 f hf
  obtain ⟨m0, m1, -⟩ := h.1.2.2.2.1 c hc
  refine Ok_wdN rfl hf96 (by decide) ?_
  have h2 := inv_w7 h (nI f) g
  refine Ok_rdN rfl hf96 (by decide) (w := swd 7 (nI f) g w) h5 (Ok_rdN rfl hc (by decide) (Am.val (w := swd 7 (nI f) g w) (k := 0) m0) (Ok_rdN rfl hf96 (by decide) (w := swd 7 (nI f) g w) h5 (Ok_rdN rfl hc (by decide) (Am.val (w := swd 7 (nI f) g w) (k := 1) m1) ?_)))
  refine Ok_clR (ok_in _ _ _ _) (fun r _ => Ok_ite (fun _ => Ok_wdN rfl hf96 (by decide) ?_) (fun _ => Ok_wdN rfl hf96 (by decide) ?_))
  · exact Ok_rdN rfl hf96 (by decide) (sw_A (by omega)) (Ok_ite (fun _ => Ok_rt (inv_w8 h2 _ _)) (fun _ => Ok_rt (inv_w8 h2 _ _)))
  · exact Ok_rdN rfl hf96 (by decide) (sw_A (by omega)) (Ok_ite (fun _ => Ok_rt (inv_w8 h2 _ _)) (fun _ => Ok_rt (inv_w8 h2 _ _)))
/-! one more fighter -/
def cm1 (n k c : Nat) (w : GS) : GS := swd 11 (nI n) (-1) (swd 10 (nI n) (-1) (swd 9 (nI n) 0 (swd 8 (nI n) 0 (swd 7 (nI n) (-1) (swd 5 (nI n) (nI c) (swd 6 (nI n) (nI k) (swf 2 (nI (n + 1)) w)))))))
theorem cm1_nF {n k c : Nat} {w : GS} (hn : n < 96) : nF (cm1 n k c w) = n + 1 := by
  show (nI (n + 1)).toNatClampNeg = n + 1
  exact nI_clamp (by omega)
theorem cm1_plc {n k c : Nat} {w : GS} (hn : n < 96) (hF : nF w = n) {c2 f : Nat} (h : Plc w c2 f) : Plc (cm1 n k c w) c2 f := by
  obtain ⟨h1, h2, p, h3, h4⟩ := h
  rw [hF] at h1
  refine ⟨by rw [cm1_nF hn]; omega, sw_An (w := swd 6 (nI n) (nI k) (swf 2 (nI (n + 1)) w)) (k := 5) (by omega) (by omega) h2, p, h3, sw_An (w := w) (k := 10) (by omega) (by omega) h4⟩
theorem cm1_drs {n k c : Nat} {w : GS} (hn : n < 96) (hF : nF w = n) {c2 n2 : Nat} (h : DrS w c2 n2) : DrS (cm1 n k c w) c2 n2 := by
  obtain ⟨h0, h1, h | h⟩ := h
  · obtain ⟨s, a, b, d, e, f, g, z⟩ := h
    refine ⟨by rw [cm1_nF hn]; omega, h1, Or.inl ⟨s, a, b, d, e, f, fun p hp => ?_, z⟩⟩
    obtain ⟨x, x1, x2⟩ := g p hp
    exact ⟨x, x1, cm1_plc hn hF x2⟩
  · obtain ⟨L, a, b, d, e, f, g, k2, z⟩ := h
    refine ⟨by rw [cm1_nF hn]; omega, h1, Or.inr ⟨L, a, b, d, e, f, fun p hp => ?_, k2, z⟩⟩
    exact (g p hp).imp (fun z => z) (fun ⟨x, x1, x2⟩ => ⟨x, x1, cm1_plc hn hF x2⟩)
theorem cm1_sds {n k c : Nat} {w : GS} (hn : n < 96) (hF : nF w = n) {c2 i2 : Nat} (h : Sds w c2 i2) : Sds (cm1 n k c w) c2 i2 := by
  obtain ⟨n2, a, b, ⟨x, x1, x2⟩, y, y1, y2⟩ := h
  exact ⟨n2, cm1_drs hn hF a, b, ⟨x, x1, cm1_plc hn hF x2⟩, y, y1, cm1_plc hn hF y2⟩
theorem cm1_inv {n k c : Nat} {w : GS} (h : Inv w) (hn : n < 96) (hF : nF w = n) (hk : k < 16) (hc : c < 4) : Inv (cm1 n k c w) := by
  have h31 : n < 2 ^ 31 := by omega
  obtain ⟨⟨jF, jI, jG, jC, jR, jM, jO⟩, jL, jE⟩ := h
  refine ⟨⟨⟨rfl, ?_, ?_⟩, jI, ?_, ?_, ?_, ?_, jO⟩, jL, jE⟩
  · rw [cm1_nF hn]
    rfl
  · rw [cm1_nF hn]
    omega
  · intro f hf
    rw [cm1_nF hn] at hf
    by_cases he : f = n
    · subst he
      refine ⟨⟨c, hc, sw_A (w := swd 6 (nI f) (nI k) (swf 2 (nI (f + 1)) w)) (k := 5) h31⟩, ⟨k, hk, sw_A (w := swf 2 (nI (f + 1)) w) (k := 6) h31⟩, sw_me (w := w) (k := 7) (v := 0) h31, sw_me (w := w) (k := 8) (v := 0) h31, ⟨0, by decide, sw_A (w := w) (k := 9) h31⟩, sw_me (w := w) (k := 10) (v := 0) h31, sw_me (w := w) (k := 11) (v := 0) h31⟩
    · obtain ⟨⟨c2, g1, g1'⟩, ⟨k2, g2, g2'⟩, g3, g4, g5, g6, g7⟩ := jG f (by rw [hF]; omega)
      refine ⟨⟨c2, g1, sw_An (w := swd 6 (nI n) (nI k) (swf 2 (nI (n + 1)) w)) (k := 5) h31 he g1'⟩, ⟨k2, g2, sw_An (w := swf 2 (nI (n + 1)) w) (k := 6) h31 he g2'⟩, ?_, ?_, ?_, ?_, ?_⟩
      · exact sw_mm (w := w) (k := 7) (i := nI n) (v := 0) g3
      · exact sw_mm (w := w) (k := 8) (i := nI n) (v := 0) g4
      · obtain ⟨q, k3, k4⟩ := g5
        exact ⟨q, k3, sw_An (w := w) (k := 9) h31 he k4⟩
      · exact sw_mm (w := w) (k := 10) (i := nI n) (v := 0) g6
      · exact sw_mm (w := w) (k := 11) (i := nI n) (v := 0) g7
  · intro c2 hc2
    obtain ⟨g1, g2, g3, g4⟩ := jC c2 hc2
    exact ⟨g1, g2, g3.imp (fun z => z) (fun ⟨n2, z⟩ => ⟨n2, cm1_drs hn hF z⟩), g4⟩
  · intro c2 hc2 i2 hi2 hne
    obtain ⟨k1, k2⟩ := jR c2 hc2 i2 hi2 hne
    refine ⟨cm1_sds hn hF k1, fun z => ?_⟩
    obtain ⟨⟨f, k3, k4⟩, k5⟩ := k2 z
    exact ⟨⟨f, k3, cm1_plc hn hF k4⟩, k5⟩
  · intro m2 hm2
    obtain ⟨k1, k2⟩ := jM m2 hm2
    refine ⟨k1, fun z => ?_⟩
    obtain ⟨⟨c2, i2, l1, l2, l3, l4⟩, l5⟩ := k2 z
    exact ⟨⟨c2, i2, l1, l2, l3, cm1_sds hn hF l4⟩, l5⟩
theorem ok_comes {w : GS} (h : Inv w) (k c : Nat) (hk : k < 16) (hc : c < 4) (hn : nF w < 96) : Ok (f_comes (nI k) (nI c)) w (fun _ w1 => Inv w1) := by
  have hF := h.1.1
  unfold f_comes
  refine Ok_rfN ⟨hF.1, hF.2.1⟩ (Ok_rfN ⟨hF.1, hF.2.1⟩ (Ok_wf ?_))
  rw [nI_1]
  refine Ok_wdN rfl hn (by decide) (Ok_wdN rfl hn (by decide) (Ok_wdN rfl hn (by decide) (Ok_wdN rfl hn (by decide) (Ok_wdN rfl hn (by decide) (Ok_wdN rfl hn (by decide) (Ok_wdN rfl hn (by decide) (Ok_rt ?_)))))))
  exact cm1_inv h hn rfl hk hc

