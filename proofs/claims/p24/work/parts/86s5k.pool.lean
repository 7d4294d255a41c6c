/-! ===== the draw of a pool, both sides ===== -/
def PU (u0 : MS) (n ch : Nat) (u : MS) (B : Nat → Int32) : Prop := EntS u0 u n ch ∧ u.2 0 = B ∧ u.2 13 = u0.2 13 ∧ u.2 14 = u0.2 14 ∧ u.2 15 = u0.2 15 ∧ u.2 16 = u0.2 16
theorem PU.pt {u0 u v : MS} {n ch : Nat} {B B2 : Nat → Int32} (h : PU u0 n ch u B) (hp : Pt u v) (hB : v.2 0 = B2) : PU u0 n ch v B2 := by
  obtain ⟨a, b, e1, e2, e3, e4⟩ := h
  exact ⟨a.pt hp, hB, (hp.2.2 13 (by decide)).trans e1, (hp.2.2 14 (by decide)).trans e2, (hp.2.2 15 (by decide)).trans e3, (hp.2.2 16 (by decide)).trans e4⟩
theorem PU.kl {u0 u : MS} {n ch : Nat} {B : Nat → Int32} (h : PU u0 n ch u B) : Pt u u := by
  obtain ⟨ch2, C2, hK⟩ := h.1.2.2.2.1.kl
  exact Pt.rf hK
def SDP (B0 : Nat → Int32) (w : GS) (c n k : Nat) (B : Nat → Int32) (v : GS) : Prop := (∀ p, p < k → Am v 14 (32 * c + p) (B (8 + 36 * c + p))) ∧ (∀ f, f < nF w → Am v 10 f (B (153 + 7 * f))) ∧ FrD c B0 B ∧ B (7 + 36 * c) = nI n ∧ B (6 + 36 * c) = 1
theorem SDP.place {B0 B : Nat → Int32} {w v : GS} {c n k f : Nat} (h : SDP B0 w c n k B v) (hc : c < 4) (hk : k < 32) (h96 : nF w ≤ 96) (hf : f < nF w) (hcl : B0 (148 + 7 * f) = nI c) : SDP B0 w c n (k + 1) (upd (upd B (8 + 36 * c + k) (nI f)) (153 + 7 * f) (nI k)) (swd 10 (nI f) (nI k) (swd 14 (nI (32 * c + k)) (nI f) v)) := by
  obtain ⟨a, b, d, e⟩ := h
  refine ⟨fun q hq => ?_, fun g hg => ?_, (d.up1 _ (by omega)).up2 _ (by omega) hcl, ?_⟩
  · rw [upd_n (by omega)]
    refine Am.o (by decide) ?_
    by_cases he : q = k
    · rw [he, upd_e]
      exact sw_A (by omega)
    · rw [upd_n (by omega)]
      exact (a q (by omega)).sw (by omega) (fun z => by omega)
  · by_cases he : g = f
    · rw [he, upd_e]
      exact sw_A (by omega)
    · rw [upd_n (by omega), upd_n (by omega)]
      exact ((b g hg).o (by decide)).sw (by omega) (fun z => he z.2)
  · rw [upd_n (by omega), upd_n (by omega), upd_n (by omega), upd_n (by omega)]
    exact e
section
variable {B0 : Nat → Int32} {w : GS} {c n : Nat} {u0 : MS} {ne ch : Nat}
theorem l_pool (hR : R0 B0 w) (h : Inv w) (hc : c < 4) (hnd : n = cb (due w c) (nF w)) (hn5 : n ≤ 5) (v2 : Int32) (KR : Int32 → Int32 → Int32 → Int32 → PG Int32) (Q : MS → Int32 → GS → Prop)
    (hK : ∀ u v B v3 v4, PU u0 ne ch u B → DF c w v → Am v 12 c 1 → Am v 13 c (nI n) → PlF w v c n (nF w) → SDP B0 w c n n B v → Ok (KR (nI c) v2 v3 v4) v (Q u)) :
    ∀ (t f m g : Nat) (u : MS) (v : GS) (B : Nat → Int32), f + t = nF w → t < m → PU u0 ne ch u B → DF c w v → Am v 12 c 1 → Am v 13 c (nI n) → PlF w v c (cb (due w c) f) f → SDP B0 w c n (cb (due w c) f) B v → CQ (xl_X2_placePool_4 g (nI c) (nI (cb (due w c) f)) (nI f) (fun _ _ _ => art 0)) u (fun _ x => Ok (lp_draws_31 m (nI c) v2 (nI (cb (due w c) f)) (nI f) KR) v (Q x)) := by
  have h96 := h.1.1.2.2
  have eF : B0 2 = nI (nF w) := hR.nf.symm.trans h.1.1.2.1
  intro t
  induction t with
  | zero =>
    intro f m g u v B h1 h2 hU hd d12 d13 hp hS
    have hf : f = nF w := by omega
    subst hf
    cases g with
    | zero => exact fun r w c d e => by cases e
    | succ g =>
      cases m with
      | zero => omega
      | succ m =>
        unfold xl_X2_placePool_4
        rw [← hnd] at hp hS ⊢
        refine CQ_at (j := 2) (x := nI (nF w)) rfl (by decide) ?_ (CQ_ite (fun _ => CQ_rt ?_) (fun z => absurd (Int32.le_refl _) z))
        · rw [hU.2.1, hS.2.2.1 2 (by omega) (fun f _ _ => by omega), eF]
        · unfold lp_draws_31
          exact Ok_rfN (hd.im2 h.1.1) (Ok_ite (fun _ => hK u v B _ _ hU hd d12 d13 hp hS) (fun z => absurd (Int32.le_refl _) z))
  | succ t ih =>
    intro f m g u v B h1 h2 hU hd d12 d13 hp hS
    cases g with
    | zero => exact fun r w c d e => by cases e
    | succ g =>
      cases m with
      | zero => omega
      | succ m =>
        obtain ⟨k6, q9, hk6, hq9, eb6, eb9, ecl, esd, h6, h9, a5, a8⟩ := ftr_of hR h (show f < nF w by omega)
        have hle : ¬ nI (nF w) ≤ nI f := fun z => absurd ((nI_leI (by omega) (by omega)).mp z) (by omega)
        unfold xl_X2_placePool_4
        refine CQ_at (j := 2) (x := nI (nF w)) rfl (by decide) ?_ (CQ_ite (fun z => absurd z hle) (fun _ => CQ_rd (e_isWeighed hU.2.1 hS.2.2.1 hR (by omega) (by omega) hc) ?_))
        · rw [hU.2.1, hS.2.2.1 2 (by omega) (fun f _ _ => by omega), eF]
        by_cases hdue : due w c f = true
        · rw [if_pos hdue]
          have hlt : cb (due w c) f < n := by rw [hnd]; exact cb_lt (by omega) hdue
          have e5 : B0 (148 + 7 * f) = nI c := a5.2.symm.trans (due_iff.mp hdue).1
          refine CQ_ite (fun z => absurd z (by decide)) (fun _ => CQ_one hU.kl hU.2.1 hc (by omega) (by omega) (fun _ u1 p1 b1 => CQ_li (CQ_li ?_)))
          have hp2 : PlF w (swd 10 (nI f) (nI (cb (due w c) f)) (swd 14 (nI (32 * c + cb (due w c) f)) (nI f) v)) c (cb (due w c) f + 1) (f + 1) := fun p hp2 => by
            by_cases he : p = cb (due w c) f
            · subst he
              exact ⟨f, by omega, sw_A (w := v) (k := 14) (by omega), ⟨a5.1, (due_iff.mp hdue).1⟩, sw_A (k := 10) (by omega)⟩
            · obtain ⟨f2, k1, k2, k3, k4⟩ := hp p (by omega)
              exact ⟨f2, by omega, sw_An (w := v) (k := 14) (by omega) (by omega) k2, k3, sw_An (w := swd 14 (nI (32 * c + cb (due w c) f)) (nI f) v) (k := 10) (by omega) (by omega) k4⟩
          have h8 := ih (f + 1) m g u1 (swd 10 (nI f) (nI (cb (due w c) f)) (swd 14 (nI (32 * c + cb (due w c) f)) (nI f) v)) _ (by omega) (by omega) (hU.pt p1 b1) ((hd.w14 _ _ hc (by omega)).w10 f _ (by omega) (due_iff.mp hdue).1) d12 d13
          rw [cb_t hdue] at h8
          have h8 := h8 hp2 (hS.place hc (by omega) h96 (by omega) e5)
          rw [nI_1 f, nI_1 (cb (due w c) f)]
          refine CQ.mono h8 (fun r x z => ?_)
          unfold lp_draws_31
          refine Ok_rfN (hd.im2 h.1.1) (Ok_ite (fun z => absurd z hle) (fun _ => ?_))
          refine Ok_rdN rfl (by omega) (by decide) (hd.at (by decide) (by decide) (by decide) a5) (Ok_ite (fun _ => ?_) (fun y => absurd e5 y))
          refine Ok_rdN rfl (by omega) (by decide) (hd.at (by decide) (by decide) (by decide) a8) (Ok_ite (fun _ => ?_) (fun y => absurd (a8.2.symm.trans (due_iff.mp hdue).2) y))
          rw [ix32]
          refine Ok_wdN rfl (by omega) (by decide) (Ok_wdN rfl (by omega) (by decide) (Ok_li (Ok_li ?_)))
          rw [nI_1 f, nI_1 (cb (due w c) f)]
          exact z
        · rw [if_neg hdue]
          have h8 := ih (f + 1) m g u v B (by omega) (by omega) hU hd d12 d13
          rw [cb_f hdue] at h8
          have h8 := h8 (fun p hp2 => by obtain ⟨f2, k1, k2⟩ := hp p hp2; exact ⟨f2, by omega, k2⟩) hS
          refine CQ_ite (fun _ => CQ_li ?_) (fun z => absurd rfl z)
          rw [nI_1 f]
          refine CQ.mono h8 (fun r x z => ?_)
          unfold lp_draws_31
          rw [← nI_1 f] at z
          refine Ok_rfN (hd.im2 h.1.1) (Ok_ite (fun z => absurd z hle) (fun _ => ?_))
          refine Ok_rdN rfl (by omega) (by decide) (hd.at (by decide) (by decide) (by decide) a5) (Ok_ite (fun e5 => ?_) (fun y => z))
          refine Ok_rdN rfl (by omega) (by decide) (hd.at (by decide) (by decide) (by decide) a8) (Ok_ite (fun e8 => ?_) (fun y => z))
          exact absurd (due_iff.mpr ⟨a5.2.trans e5, a8.2.trans e8⟩) hdue
end
def refP (c n : Nat) : PG Int32 := pwd 12 4 (nI c) 1 (pwd 13 4 (nI c) (nI n) (lp_draws_31 fuel (nI c) (nI n) 0 0 (fun v1 v2 v3 v4 => pcl (f_fights v1) (fun r_461 => prt r_461))))
theorem pool_post {B0 B1 : Nat → Int32} {w v : GS} {c n ne ch : Nat} {u0 x : MS} (h1 : R1 B0 w) (hmb : MB B0) (h : Inv w) (hc : c < 4) (h0 : Am w 12 c 0) (hn2 : 2 ≤ n) (hn5 : n ≤ 5) (hU : PU u0 ne ch x B1) (hd2 : DF c w v) (d12 : Am v 12 c 1) (d13 : Am v 13 c (nI n)) (hp : PlF w v c n (nF w)) (hS : SDP B0 w c n n B1 v) : Ok (pcl (f_fights (nI c)) (fun r => prt r)) v (fun s y => DrawP u0 ne ch B0 w c x s y) := by
  have h96 := h.1.1.2.2
  have hsz : szP v c = n := by
    unfold szP
    rw [d13.2]
    exact nI_clamp (by omega)
  have hdr : DrS v c (n * (n - 1) / 2) := by
    refine ⟨by rw [hd2.nFe]; exact h96, hc, Or.inl ⟨n, hn2, hn5, hsz, d12, d13, fun p hp2 => ?_, rfl⟩⟩
    obtain ⟨f2, k1, k2, k3, k4⟩ := hp p hp2
    exact ⟨f2, k2, by rw [hd2.nFe]; exact k1, hd2.at (by decide) (by decide) (by decide) k3, p, by rw [hsz]; exact hp2, k4⟩
  have hI2 := draw_inv h c _ hc h0 hd2 hdr
  obtain ⟨s14, s10, sF, s7, s6⟩ := hS
  have hlt : ∀ p, p < 32 → nI p < B1 (7 + 36 * c) → p < n := fun p hp hp2 => by
    rw [s7] at hp2
    exact Nat.lt_of_not_le (fun z => absurd (nI_le z (by omega)) (Int32.not_le.mpr hp2))
  obtain ⟨hR2, hM2⟩ := draw_fin h1 hmb h hI2 hc h0 hd2 sF (by rw [s6]; exact d12) (by rw [s7]; exact d13) (fun p hp hp2 => s14 p (hlt p hp hp2)) s10 (fun z => absurd (s6.symm.trans z) (by decide))
  refine Ok_clR (ok_fights v c _ (hI2.1.dr hdr)) (fun r hr => Ok_rt ?_)
  obtain ⟨c1, c2, c4⟩ := hU
  refine ⟨c1, c4, ?_, ?_, hI2, ?_, hd2, ?_⟩
  · rw [c2]; exact hR2
  · rw [c2]; exact hM2
  · rw [c2]; exact sF
  · rw [c2, hr, nFi_dr hR2.1 (hI2.1.dr hdr)]
theorem l_poolall {B0 : Nat → Int32} {w : GS} {c n ne ch : Nat} {u0 u : MS} (h1 : R1 B0 w) (hmb : MB B0) (h : Inv w) (hc : c < 4) (h0 : Am w 12 c 0) (hnd : n = cb (due w c) (nF w)) (hn2 : 2 ≤ n) (hn5 : n ≤ 5) (hE : EntS u0 u ne ch) (hB : u.2 0 = B0) (hrw : u.2 13 = u0.2 13 ∧ u.2 14 = u0.2 14 ∧ u.2 15 = u0.2 15 ∧ u.2 16 = u0.2 16) : CQ (acl (x_X1_put (nI (4 + 36 * c + 2)) 1) (fun _ => anl (x_X1_ofClass (nI c) 3) (fun r_19 => acl (x_X1_put r_19 (nI n)) (fun _ => xl_X2_placeAll_63 fuel (nI c) (nI n) 1 (nI n) 0 (fun v1 v2 v3 v4 v5 => (if v3 = 0 then anl (x_X2_makeRow v4) (fun r_47 => acl (x_X2_placeSeeds v1) (fun r_50 => acl (x_X2_placeOthers v1 v2) (fun r_59 => art 0))) else acl (x_X2_placePool v1) (fun r_68 => art 0))))))) u (fun _ x => Ok (refP c n) w (fun s y => DrawP u0 ne ch B0 w c x s y)) := by
  have h96 := h.1.1.2.2
  have hR := h1.1
  have p0 : Pt u u := by
    obtain ⟨ch2, C2, hK⟩ := hE.2.2.2.1.kl
    exact Pt.rf hK
  have hF0 : FrE c B0 B0 := fun _ _ => rfl
  refine CQ_pt p0 hB rfl (by omega) (fun _ u1 p1 b1 => ?_)
  rw [e_ofClass c 3 (show (3 : Int32) = nI 3 from rfl)]
  refine CQ_rd (a := nI (4 + 36 * c + 3)) rfl (CQ_pt p1 b1 rfl (by omega) (fun _ u2 p2 b2 => ?_))
  refine c_all (u0 := u) (B0 := B0) hc (by omega) (nI n) 1 1 _ _ (fun u3 B3 v5 p3 b3 F3 e7 e8 e6 => ?_) fuel 0 u2 _ (Nat.zero_le _) p2 b2 ((hF0.up _ (by omega)).up _ (by omega)) (by rw [show 7 + 36 * c = 4 + 36 * c + 3 by omega, upd_e]) (by rw [upd_n (by omega), show 6 + 36 * c = 4 + 36 * c + 2 by omega, upd_e]) (fun p hp => absurd hp (Nat.not_lt_zero _))
  refine CQ_ite (fun z => absurd z (by decide)) (fun _ => ?_)
  have hU3 : PU u0 ne ch u3 B3 := ⟨hE.pt p3, b3, (p3.2.2 13 (by decide)).trans hrw.1, (p3.2.2 14 (by decide)).trans hrw.2.1, (p3.2.2 15 (by decide)).trans hrw.2.2.1, (p3.2.2 16 (by decide)).trans hrw.2.2.2⟩
  refine CQ_cl (CQ.mono (?_ : CQ (x_X2_placePool (nI c)) u3 (fun _ x => Ok (refP c n) w (fun s y => DrawP u0 ne ch B0 w c x s y))) (fun _ _ z => CQ_rt z))
  unfold x_X2_placePool
  have hd : DF c w (swd 13 (nI c) (nI n) (swd 12 (nI c) 1 w)) := ((DF.rf c w).w12 12 1 hc (by decide)).w12 13 (nI n) hc (by decide)
  refine CQ.mono (l_pool (B0 := B0) (u0 := u0) (ne := ne) (ch := ch) hR h hc hnd hn5 (nI n) (fun v1 v2 v3 v4 => pcl (f_fights v1) (fun r_461 => prt r_461)) (fun x s y => DrawP u0 ne ch B0 w c x s y) (fun u v B v3 v4 a1 a2 a3 a4 a5 a6 => pool_post h1 hmb h hc h0 hn2 hn5 a1 a2 a3 a4 a5 a6) (nF w) 0 fuel fuel u3 (swd 13 (nI c) (nI n) (swd 12 (nI c) 1 w)) B3 (by omega) (by unfold fuel; omega) hU3 hd (sw_A (w := w) (k := 12) (by omega)) (sw_A (w := swd 12 (nI c) 1 w) (k := 13) (by omega)) (fun p hp => absurd hp (Nat.not_lt_zero _)) ⟨fun p hp => absurd hp (Nat.not_lt_zero _), fun f hf => ?_, F3.frd, e7, e6⟩) (fun _ x z => ?_)
  · rw [F3 _ (by omega)]
    exact Am.o (by decide) (Am.o (by decide) (hR.2.2.1 f hf).2.2.2.2.2.1)
  · unfold refP
    exact Ok_wdN rfl hc (by decide) (Ok_wdN rfl hc (by decide) z)

