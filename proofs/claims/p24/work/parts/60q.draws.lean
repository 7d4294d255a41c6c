/-! ===== the draw ===== -/
theorem Rw.df {c : Nat} {w u v : GS} (h : DF c w u) (hr : Rw u v) : DF c w v := by
  obtain ⟨a1, a2, a3, a4, a5, a6, a7⟩ := h
  obtain ⟨b1, b2, b3⟩ := hr
  refine ⟨b1.trans a1, b2.trans a2, fun k h1 h2 h3 => ?_, fun k h1 h2 j hj => ?_, fun j hj => ?_, fun f hf => ?_, fun f hf => ?_⟩
  · have h9 := b3 k (by omega) (by omega)
    exact ⟨h9.1.trans (a3 k h1 h2 h3).1, h9.2.trans (a3 k h1 h2 h3).2⟩
  · have h9 := b3 k (by omega) (by omega)
    rw [h9.1, h9.2]
    exact a4 k h1 h2 j hj
  · have h9 := b3 14 (by decide) (by decide)
    rw [h9.1, h9.2]
    exact a5 j hj
  · have h9 := b3 10 (by decide) (by decide)
    rw [h9.1, h9.2]
    exact a6 f hf
  · rw [(b3 10 (by decide) (by decide)).2]
    exact a7 f hf
theorem Rw.at {u v : GS} (hr : Rw u v) {k j : Nat} {x : Int32} (h1 : ¬ k = 57) (h2 : ¬ k = 58) (ha : Am u k j x) : Am v k j x := by
  have h9 := hr.2.2 k h1 h2
  unfold Am
  rw [h9.1, h9.2]
  exact ha
theorem ok_draws_t {w : GS} (h : Inv w) (c L n : Nat) (hc : c < 4) (hL3 : 3 ≤ L) (hL : L ≤ 5) (h0 : Am w 12 c 0) (hnd : n = cb (due w c) (nF w)) (hn : n ≤ 2 ^ L) (hh : 2 ^ L / 2 < n) : Ok (pwd 13 4 (nI c) (nI (2 ^ L)) (prd 13 4 (nI c) (fun x_13 => pcl (f_makeRow x_13) (fun r_16 => lp_draws_150 fuel (nI c) (nI n) 0 (fun v1 v2 v3 => lp_draws_187 fuel v1 v2 v2 (fun v1 v2 v3 => lp_draws_220 fuel v1 v2 0 1 (fun v1 v2 v3 v4 => lp_draws_307 fuel v1 v2 v3 0 (fun v1 v2 v3 v4 => lp_draws_331 fuel v1 v2 v3 0 (fun v1 v2 v3 v4 => lp_draws_375 fuel v1 v2 v3 0 (fun v1 v2 v3 v4 => pcl (f_fights v1) (fun r_147 => prt r_147))))))))))) (swd 12 (nI c) 2 w) (fun _ w1 => Inv w1) := by
  have h32 := pow_lt32 hL
  have h96 := h.1.1.2.2
  refine Ok_wdN rfl hc (by decide) ?_
  have hd : DF c w (swd 13 (nI c) (nI (2 ^ L)) (swd 12 (nI c) 2 w)) := ((DF.rf c w).w12 12 2 hc (by decide)).w12 13 (nI (2 ^ L)) hc (by decide)
  have d12 : Am (swd 13 (nI c) (nI (2 ^ L)) (swd 12 (nI c) 2 w)) 12 c 2 := Am.o (by decide) (sw_A (by omega))
  have d13 : Am (swd 13 (nI c) (nI (2 ^ L)) (swd 12 (nI c) 2 w)) 13 c (nI (2 ^ L)) := sw_A (by omega)
  refine Ok_rdN rfl hc (by decide) d13 ?_
  refine Ok_cl (Ok.mono (ok_makeRow _ L hL) (fun r v hv => ?_))
  obtain ⟨hr, hrow⟩ := hv
  refine ok_draws150 (w := w) c L hc hL (nI n) _ _ (fun v v3 a1 a2 a3 a4 a5 => ?_) (2 ^ L) 0 fuel v (by omega) (by unfold fuel; omega) (hr.df hd) (hr.at (by decide) (by decide) d12) (hr.at (by decide) (by decide) d13) hrow (fun p hp => absurd hp (Nat.not_lt_zero _))
  refine ok_draws187 (w := w) c L n hc hL hn (nI n) _ _ (fun v v3 hT hfr => ?_) (2 ^ L - n) n fuel v (by omega) (by unfold fuel; omega) (Nat.le_refl _) a1 a2 a3 a4 (fun p hp => (a5 p hp).1) (fun x hx => (a5 _ (rowf_lt L (by omega) x (by omega) (by omega))).2) (fun x h1 h2 => by omega)
  have e0 : ∀ f, f < nF w → (fun _ : Nat => false) f = PS w c 1 0 f := by
    intro f _
    cases hz : PS w c 1 0 f with
    | false => rfl
    | true =>
      rcases (PS_iff.mp hz).2.2 with z | z
      · have := (PS_iff.mp hz).2.1
        omega
      · exact absurd z.2 (Nat.not_lt_zero _)
  have ez : ∀ k, cb (fun _ => false) k = 0 := by
    intro k
    induction k with
    | zero => rfl
    | succ k ih =>
      show cb (fun _ => false) k + 0 = 0
      omega
  have ec : cb (PS w c 1 0) (nF w) = 0 := (cb_congr (nF w) e0).symm.trans (ez _)
  have hs := ok_draws220 h c L n hc hL hnd hn (nI n) (fun v1 v2 v3 v4 => lp_draws_307 fuel v1 v2 v3 0 (fun v1 v2 v3 v4 => lp_draws_331 fuel v1 v2 v3 0 (fun v1 v2 v3 v4 => lp_draws_375 fuel v1 v2 v3 0 (fun v1 v2 v3 v4 => pcl (f_fights v1) (fun r_147 => prt r_147))))) (fun _ w1 => Inv w1) (fun v v3 v4 hT2 => ?_) 8 1 fuel v (by omega) (by unfold fuel; omega) (by omega) (hT.congr e0) (by rw [ec]; exact fun x _ hx => hfr x hx)
  · rw [ec] at hs
    exact hs
  · refine ok_draws307 c L n _ (nI n) v3 _ _ (fun v v4 hT3 h59 => ?_) 16 0 fuel v (by omega) (by unfold fuel; omega) hT2 (fun j hj => absurd hj (Nat.not_lt_zero _))
    refine ok_draws331 h c L n _ (nI n) v3 _ _ (fun v v4 hT4 hO => ?_) (nF w) 0 fuel v (by omega) (by unfold fuel; omega) hT3 (fun k hk => ⟨0, by omega, h59 k hk⟩)
    refine ok_draws375 h c L n hc hL hnd hn (nI n) v3 _ _ (fun v v4 hT5 => ?_) 16 0 fuel v (fun _ => false) (by omega) (by unfold fuel; omega) (ez _) (hT4.congr (fun f hf => ?_)) hO
    · obtain ⟨b1, b2, b3, b4, b5, b6, b7⟩ := hT5
      have hall := cb_all n (b7.trans hnd.symm)
      have hsz : szP v c = 2 ^ L := by
        unfold szP
        rw [b3.2]
        exact nI_clamp (by omega)
      have hpl : ∀ x, x < n → ∃ f, Am v 14 (32 * c + rowf L x) (nI f) ∧ Plc v c f := by
        intro x hx
        rcases b6 x hx with ⟨z, -⟩ | ⟨-, f, g1, g2, g3, g4, g5⟩
        · have h9 := hall x hx
          unfold tkn at h9
          rw [z.2] at h9
          exact absurd h9 (by decide)
        · exact ⟨f, g4, by rw [b1.nFe]; exact g1, b1.at (by decide) (by decide) (by decide) g3, rowf L x, by rw [hsz]; exact rowf_lt L (by omega) x (by omega) (by omega), g5⟩
      have hdr : DrS v c (2 ^ L - 1 + 2 * (L - 2)) := by
        refine ⟨by rw [b1.nFe]; exact h96, hc, Or.inr ⟨L, hL3, hL, hsz, b2, b3, fun p hp => ?_, fun j hj => ?_, rfl⟩⟩
        · obtain ⟨x, hx, hxp⟩ := rowf_sur L (by omega) p (by omega) hp
          rw [← hxp]
          rcases Nat.lt_or_ge x.val n with h5 | h5
          · exact Or.inr (hpl x.val h5)
          · exact Or.inl (b5 x.val h5 hx).2
        · obtain ⟨x, hx, hxp⟩ := rowf_pair L (by omega) j (by omega) ⟨hL3, hj⟩
          obtain ⟨f, k1, k2⟩ := hpl x.val (by omega)
          refine ⟨f, ?_, hxp.imp (fun z => by rw [z] at k1; exact k1) (fun z => by rw [z] at k1; exact k1)⟩
          have := k2.1
          rw [b1.nFe] at this
          omega
      have hI := draw_inv h c _ hc h0 b1 hdr
      exact Ok_clR (ok_fights v c _ (hI.1.dr hdr)) (fun r _ => Ok_rt hI)
    · have h9 : PS w c 9 0 f = PO w c (fun _ => false) 0 0 f := by
        unfold PS PO
        refine decide_eq_decide.mpr ⟨fun z => ⟨z.1, Or.inl z.2.1⟩, fun z => ?_⟩
        rcases z.2 with y | y | y
        · obtain ⟨-, -, -, -, ⟨q9, hq9, h9⟩, -⟩ := h.1.2.2.1 f hf
          have hsk : sdn w f = q9 := by unfold sdn; rw [h9.2]; exact nI_clamp (by omega)
          exact ⟨z.1, y, Or.inl (by omega)⟩
        · cases y
        · exact absurd y.2 (Nat.not_lt_zero _)
      exact h9
theorem ok_draws {w : GS} (h : Inv w) (c : Nat) (hc : c < 4) (h0 : Am w 12 c 0) (h2 : 2 ≤ cb (due w c) (nF w)) (h32 : cb (due w c) (nF w) ≤ 32) : Ok (f_draws (nI c)) w (fun _ w1 => Inv w1) := by
  unfold f_draws
  refine Ok_clR (ok_weighed h.1.1 h.1.2.2.1 c) (fun r hr => ?_)
  subst hr
  refine Ok_ite (fun h6 => Ok_wdN rfl hc (by decide) (Ok_ite (fun h16 => Ok_ite (fun h8 => ?_) (fun h8 => ?_)) (fun h16 => ?_))) (fun h6 => ?_)
  · have h6 := (nI_leI (a := 6) (by decide) (by omega)).mp h6
    have h8 := (nI_leI (b := 8) (by omega) (by decide)).mp h8
    exact ok_draws_t h c 3 _ hc (by decide) (by decide) h0 rfl (by omega) (by omega)
  · have h8 : ¬ cb (due w c) (nF w) ≤ 8 := fun z => h8 (nI_le z (by decide))
    have h16 := (nI_leI (b := 16) (by omega) (by decide)).mp h16
    exact ok_draws_t h c 4 _ hc (by decide) (by decide) h0 rfl (by omega) (by omega)
  · have h16 : ¬ cb (due w c) (nF w) ≤ 16 := fun z => h16 (nI_le z (by decide))
    exact ok_draws_t h c 5 _ hc (by decide) (by decide) h0 rfl (by omega) (by omega)
  · have h6 : ¬ 6 ≤ cb (due w c) (nF w) := fun z => h6 (nI_le (a := 6) z (by omega))
    exact ok_draws_p h c hc h0 _ rfl h2 (by omega)

