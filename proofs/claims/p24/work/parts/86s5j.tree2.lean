/-! ===== the draw of a tree, both sides, together ===== -/
theorem tree_post {B0 B1 : Nat → Int32} {w v : GS} {c L n ne ch : Nat} {u0 x : MS} (h1 : R1 B0 w) (hmb : MB B0) (h : Inv w) (hc : c < 4) (hL3 : 3 ≤ L) (hL : L ≤ 5) (h0 : Am w 12 c 0) (hnd : n = cb (due w c) (nF w)) (hn : n ≤ 2 ^ L) (hh : 2 ^ L / 2 < n) (hU : CU u0 ne ch L x B1) (hT : TD w v c L n (due w c)) (hS : SD B0 w c (2 ^ L) B1 v) : Ok (pcl (f_fights (nI c)) (fun r => prt r)) v (fun s y => DrawP u0 ne ch B0 w c x s y) := by
  have h32 := pow_lt32 hL
  have h96 := h.1.1.2.2
  obtain ⟨hdr, hpl⟩ := tree_end h hc hL3 hL hnd hn hh hT
  have hI2 := draw_inv h c _ hc h0 hT.1 hdr
  obtain ⟨s14, s10, sF, s7, s6⟩ := hS
  have hz : zN B1 c = 2 ^ L := by
    unfold zN
    rw [s7]
    exact nI_clamp (by omega)
  have hlt : ∀ p, p < 32 → nI p < B1 (7 + 36 * c) → p < 2 ^ L := fun p hp hp2 => by
    rw [s7] at hp2
    exact Nat.lt_of_not_le (fun z => absurd (nI_le z (by omega)) (Int32.not_le.mpr hp2))
  obtain ⟨hR2, hM2⟩ := draw_fin h1 hmb h hI2 hc h0 hT.1 sF (by rw [s6]; exact hT.2.1) (by rw [s7]; exact hT.2.2.1) (fun p hp hp2 => s14 p (hlt p hp hp2)) s10 (fun _ => by
    rw [hz]
    intro p f hp hf hpf
    unfold pl at hpf
    rw [if_pos (by omega)] at hpf
    have a14 := s14 p hp
    rw [hpf] at a14
    obtain ⟨y, hy, hyp⟩ := rowf_sur L (by omega) p (by omega) hp
    rcases Nat.lt_or_ge y.val n with h5 | h5
    · obtain ⟨f2, g1, g2, g3⟩ := hpl y.val h5
      rw [hyp] at g1 g3
      have : f = f2 := (nI_eq (by omega) (by omega)).mp (a14.inj g1)
      subst this
      exact (s10 f g2).inj g3
    · have g := (hT.2.2.2.2.1 y.val h5 hy).2
      rw [hyp] at g
      exact absurd (a14.inj g) (nI_ne_1 (by omega)))
  refine Ok_clR (ok_fights v c _ (hI2.1.dr hdr)) (fun r hr => Ok_rt ?_)
  obtain ⟨c1, c2, c3, c4⟩ := hU
  refine ⟨c1, c4, ?_, ?_, hI2, ?_, hT.1, ?_⟩
  · rw [c2]; exact hR2
  · rw [c2]; exact hM2
  · rw [c2]; exact sF
  · rw [c2, hr, nFi_dr hR2.1 (hI2.1.dr hdr)]
theorem l_tree {B0 : Nat → Int32} {w : GS} {c L n ne ch : Nat} {u0 u : MS} (h1 : R1 B0 w) (hmb : MB B0) (h : Inv w) (hc : c < 4) (hL3 : 3 ≤ L) (hL : L ≤ 5) (h0 : Am w 12 c 0) (hnd : n = cb (due w c) (nF w)) (hn : n ≤ 2 ^ L) (hh : 2 ^ L / 2 < n) (hE : EntS u0 u ne ch) (hB : u.2 0 = B0) (hrw : u.2 13 = u0.2 13 ∧ u.2 14 = u0.2 14 ∧ u.2 15 = u0.2 15 ∧ u.2 16 = u0.2 16) : CQ (acl (x_X1_put (nI (4 + 36 * c + 2)) 2) (fun _ => anl (x_X1_ofClass (nI c) 3) (fun r_19 => acl (x_X1_put r_19 (nI (2 ^ L))) (fun _ => xl_X2_placeAll_63 fuel (nI c) (nI n) 0 (nI (2 ^ L)) 0 (fun v1 v2 v3 v4 v5 => (if v3 = 0 then anl (x_X2_makeRow v4) (fun r_47 => acl (x_X2_placeSeeds v1) (fun r_50 => acl (x_X2_placeOthers v1 v2) (fun r_59 => art 0))) else acl (x_X2_placePool v1) (fun r_68 => art 0))))))) u (fun _ x => Ok (refT c L n) (swd 12 (nI c) 2 w) (fun s y => DrawP u0 ne ch B0 w c x s y)) := by
  have h32 := pow_lt32 hL
  have h96 := h.1.1.2.2
  have hR := h1.1
  have p0 : Pt u u := by
    obtain ⟨ch2, C2, hK⟩ := hE.2.2.2.1.kl
    exact Pt.rf hK
  have hF0 : FrE c B0 B0 := fun _ _ => rfl
  refine CQ_pt p0 hB rfl (by omega) (fun _ u1 p1 b1 => ?_)
  rw [e_ofClass c 3 (show (3 : Int32) = nI 3 from rfl)]
  refine CQ_rd (a := nI (4 + 36 * c + 3)) rfl (CQ_pt p1 b1 rfl (by omega) (fun _ u2 p2 b2 => ?_))
  refine c_all (u0 := u) (B0 := B0) hc h32 (nI n) 0 2 _ _ (fun u3 B3 v5 p3 b3 F3 e7 e8 e6 => ?_) fuel 0 u2 _ (Nat.zero_le _) p2 b2 ((hF0.up _ (by omega)).up _ (by omega)) (by rw [show 7 + 36 * c = 4 + 36 * c + 3 by omega, upd_e]) (by rw [upd_n (by omega), show 6 + 36 * c = 4 + 36 * c + 2 by omega, upd_e]) (fun p hp => absurd hp (Nat.not_lt_zero _))
  refine CQ_ite (fun _ => ?_) (fun z => absurd rfl z)
  refine CQ_nl (CN.mono (c_makeRow u3 L hL) (fun _ u4 y => ?_))
  obtain ⟨s4, hrow⟩ := y
  have rr : ∀ k, k = 13 ∨ k = 14 ∨ k = 15 ∨ k = 16 → u4.2 k = u.2 k := fun k hk => by
    rcases hk with rfl | rfl | rfl | rfl
    · exact (s4.2 13 (by decide)).trans (p3.2.2 13 (by decide))
    · exact (s4.2 14 (by decide)).trans (p3.2.2 14 (by decide))
    · exact (s4.2 15 (by decide)).trans (p3.2.2 15 (by decide))
    · exact (s4.2 16 (by decide)).trans (p3.2.2 16 (by decide))
  have hU4 : CU u0 ne ch L u4 B3 := ⟨(hE.pt p3).same (s4.mono (by decide) (by decide)), (s4.2 0 (by decide)).trans b3, hrow, (rr 13 (by omega)).trans hrw.1, (rr 14 (by omega)).trans hrw.2.1, (rr 15 (by omega)).trans hrw.2.2.1, (rr 16 (by omega)).trans hrw.2.2.2⟩
  refine seeds_then ?_
  intro r x cc dd e
  unfold refT
  refine Ok_wdN rfl hc (by decide) ?_
  have hd : DF c w (swd 13 (nI c) (nI (2 ^ L)) (swd 12 (nI c) 2 w)) := ((DF.rf c w).w12 12 2 hc (by decide)).w12 13 (nI (2 ^ L)) hc (by decide)
  have d12 : Am (swd 13 (nI c) (nI (2 ^ L)) (swd 12 (nI c) 2 w)) 12 c 2 := Am.o (by decide) (sw_A (by omega))
  have d13 : Am (swd 13 (nI c) (nI (2 ^ L)) (swd 12 (nI c) 2 w)) 13 c (nI (2 ^ L)) := sw_A (by omega)
  have k10 : K10 w (swd 13 (nI c) (nI (2 ^ L)) (swd 12 (nI c) 2 w)) := ((K10.rf w).sw (by decide)).sw (by decide)
  refine Ok_rdN rfl hc (by decide) d13 ?_
  refine Ok_cl (Ok.mono (ok_makeRow _ L hL) (fun r9 v hv => ?_))
  obtain ⟨hr, hrow9⟩ := hv
  refine r_150 (w := w) c L hc hL (nI n) _ _ (fun v v3 k10 a1 a2 a3 a4 a5 => ?_) (2 ^ L) 0 fuel v (by omega) (by unfold fuel; omega) (k10.rw hr) (hr.df hd) (hr.at (by decide) (by decide) d12) (hr.at (by decide) (by decide) d13) hrow9 (fun p hp => absurd hp (Nat.not_lt_zero _))
  refine r_187 (w := w) c L n hc hL hn (nI n) _ _ (fun v v3 k10 hT hfr => ?_) (2 ^ L - n) n fuel v (by omega) (by unfold fuel; omega) (Nat.le_refl _) k10 a1 a2 a3 a4 (fun p hp => (a5 p hp).1) (fun x hx => (a5 _ (rowf_lt L (by omega) x (by omega) (by omega))).2) (fun x h1 h2 => by omega)
  have e0 : ∀ f, f < nF w → (fun _ : Nat => false) f = PS w c 1 0 f := by
    intro f _
    cases hz : PS w c 1 0 f with
    | false => rfl
    | true =>
      rcases (PS_iff.mp hz).2.2 with z | z
      · have := (PS_iff.mp hz).2.1
        omega
      · exact absurd z.2 (Nat.not_lt_zero _)
  have ez : ∀ k, cb (fun _ => false) k = 0 := by
    intro k
    induction k with
    | zero => rfl
    | succ k ih =>
      show cb (fun _ => false) k + 0 = 0
      omega
  have ec : cb (PS w c 1 0) (nF w) = 0 := (cb_congr (nF w) e0).symm.trans (ez _)
  have hS : SD B0 w c (2 ^ L) B3 v := by
    refine ⟨fun p hp => ?_, fun f hf => ?_, F3.frd, e7, e6⟩
    · rw [e8 p hp]
      obtain ⟨y, hy, hyp⟩ := rowf_sur L (by omega) p (by omega) hp
      rw [← hyp]
      rcases Nat.lt_or_ge y.val n with h5 | h5
      · rcases hT.2.2.2.2.2.1 y.val h5 with z | ⟨-, f, -, z, -⟩
        · exact z.2
        · cases z
      · exact (hT.2.2.2.2.1 y.val h5 hy).2
    · have a10 := (hR.2.2.1 f hf).2.2.2.2.2.1
      rw [F3 _ (by omega)]
      exact ⟨by rw [k10.2]; exact a10.1, by rw [k10.1]; exact a10.2⟩
  have hs := l_seeds (B0 := B0) (u0 := u0) (ne := ne) (ch := ch) (L := L) hR h hc hL hnd hn (nI n) (fun _ _ _ => acl (x_X2_placeOthers (nI c) (nI n)) (fun _ => art 0)) (fun v1 v2 v3 v4 => lp_draws_307 fuel v1 v2 v3 0 (fun v1 v2 v3 v4 => lp_draws_331 fuel v1 v2 v3 0 (fun v1 v2 v3 v4 => lp_draws_375 fuel v1 v2 v3 0 (fun v1 v2 v3 v4 => pcl (f_fights v1) (fun r_147 => prt r_147))))) (fun _ x s y => DrawP u0 ne ch B0 w c x s y) (fun u5 v5 B5 x1 x2 v3 v4 hU5 hT5 hS5 => ?_) 8 1 fuel fuel u4 v B3 (by omega) (by unfold fuel; omega) (by omega) hU4 (hT.congr e0) (by rw [ec]; exact fun x _ hx => hfr x hx) hS
  · rw [ec] at hs
    exact hs r x cc dd e
  · refine CQ_cl (CQ.mono (?_ : CQ (x_X2_placeOthers (nI c) (nI n)) u5 (fun _ x => Ok (lp_draws_307 fuel (nI c) (nI n) v3 0 (fun v1 v2 v3 v4 => lp_draws_331 fuel v1 v2 v3 0 (fun v1 v2 v3 v4 => lp_draws_375 fuel v1 v2 v3 0 (fun v1 v2 v3 v4 => pcl (f_fights v1) (fun r_147 => prt r_147))))) v5 (fun s y => DrawP u0 ne ch B0 w c x s y))) (fun _ _ z => CQ_rt z))
    unfold x_X2_placeOthers
    refine CQ_FL ?_
    have hU6 := hU5.s12 (v := sf u5 12 (fl 16 0 (u5.2 12))) (Same_sf (by decide))
    intro r x cc dd e
    refine r_307 (B0 := B0) (B := B5) c L n _ (nI n) v3 _ _ (fun v6 v4 hS6 hT6 h59 => ?_) 16 0 fuel v5 (by omega) (by unfold fuel; omega) hS5 hT5 (fun j hj => absurd hj (Nat.not_lt_zero _))
    refine (l_count (B0 := B0) (u0 := u0) (ne := ne) (ch := ch) (L := L) hR h hc (PS w c 9 0) (nI n) v3 (nI n) (fun v1 v2 v3 => xl_X2_placeOthers_84 fuel v1 v2 0 (fun v1 v2 v3 => art 0)) (fun v1 v2 v3 v4 => lp_draws_375 fuel v1 v2 v3 0 (fun v1 v2 v3 v4 => pcl (f_fights v1) (fun r_147 => prt r_147))) (fun _ x s y => DrawP u0 ne ch B0 w c x s y) (fun u7 v7 B7 x3 v4 hU7 hT7 hS7 hO7 => ?_) (nF w) 0 fuel fuel _ v6 B5 (by omega) (by unfold fuel; omega) hU6 hT6 hS6 (fun k hk => ⟨?_, h59 k hk⟩)) r x cc dd e
    · refine CQ.mono (l_turns (B0 := B0) (u0 := u0) (ne := ne) (ch := ch) hR h hc hL hnd hn (nI n) v3 16 0 fuel fuel (fun _ => false) u7 v7 B7 (by omega) (by unfold fuel; omega) (ez _) hU7 (hT7.congr (fun f hf => ?_)) hS7 (fun j hj => ?_)) (fun _ x z => ?_)
      · unfold PS PO
        refine decide_eq_decide.mpr ⟨fun z => ⟨z.1, Or.inl z.2.1⟩, fun z => ?_⟩
        rcases z.2 with y | y | y
        · obtain ⟨-, -, -, -, ⟨q9, hq9, h9⟩, -⟩ := h.1.2.2.1 f hf
          have hsk : sdn w f = q9 := by unfold sdn; rw [h9.2]; exact nI_clamp (by omega)
          exact ⟨z.1, y, Or.inl (by omega)⟩
        · cases y
        · exact absurd y.2 (Nat.not_lt_zero _)
      · unfold Uc Ac
        rw [if_neg (fun z => by cases z), if_neg (fun z => by cases z)]
        exact hO7 j hj
      · obtain ⟨v8, B8, hU8, hT8, hS8, hgo⟩ := z
        exact hgo _ _ (fun v4 => tree_post h1 hmb h hc hL3 hL h0 hnd hn hh hU8 hT8 hS8)
    · rw [sfE]
      unfold fl
      rw [if_pos hk]
      rfl

