/-! ===== draw ===== -/
theorem l_alldraw {B0 : Nat → Int32} {w : GS} {c k ne ch : Nat} {u0 u : MS} (h1 : R1 B0 w) (hmb : MB B0) (h : Inv w) (hc : c < 4) (h0 : Am w 12 c 0) (hk : k = cb (due w c) (nF w)) (h2 : 2 ≤ k) (h32 : k ≤ 32) (hE : EntS u0 u ne ch) (hB : u.2 0 = B0) (hrw : u.2 13 = u0.2 13 ∧ u.2 14 = u0.2 14 ∧ u.2 15 = u0.2 15 ∧ u.2 16 = u0.2 16) : CQ (x_X2_placeAll (nI c) (nI k)) u (fun _ x => Ok (f_draws (nI c)) w (fun s y => DrawP u0 ne ch B0 w c x s y)) := by
  unfold x_X2_placeAll
  have hlt : ∀ a, a < 100 → (nI a < nI k ↔ a < k) := fun a ha => by
    rw [Int32.lt_iff_toInt_lt, nI_toInt (by omega), nI_toInt (by omega)]
    omega
  refine CQ_ite (fun h5 => ?_) (fun h5 => ?_)
  · have h5 : 5 < k := (hlt 5 (by decide)).mp h5
    refine CQ_ite (fun _ => ?_) (fun z => absurd rfl z)
    have go : ∀ L, 3 ≤ L → L ≤ 5 → k ≤ 2 ^ L → 2 ^ L / 2 < k → x_X2_placesFor (nI k) u = some (nI (2 ^ L), u) → (∀ Q, Ok (refT c L k) (swd 12 (nI c) 2 w) Q → Ok (f_draws (nI c)) w Q) → CQ (anl (x_X2_placesFor (nI k)) (fun r_3 => anl (x_X1_ofClass (nI c) 2) (fun r_6 => (if (0 : Int32) = 0 then acl (x_X1_put r_6 2) (fun r_10 => anl (x_X1_ofClass (nI c) 3) (fun r_19 => acl (x_X1_put r_19 r_3) (fun r_22 => xl_X2_placeAll_63 fuel (nI c) (nI k) 0 r_3 0 (fun v1 v2 v3 v4 v5 => (if v3 = 0 then anl (x_X2_makeRow v4) (fun r_47 => acl (x_X2_placeSeeds v1) (fun r_50 => acl (x_X2_placeOthers v1 v2) (fun r_59 => art 0))) else acl (x_X2_placePool v1) (fun r_68 => art 0)))))) else acl (x_X1_put r_6 1) (fun r_77 => anl (x_X1_ofClass (nI c) 3) (fun r_86 => acl (x_X1_put r_86 r_3) (fun r_89 => xl_X2_placeAll_63 fuel (nI c) (nI k) 0 r_3 0 (fun v1 v2 v3 v4 v5 => (if v3 = 0 then anl (x_X2_makeRow v4) (fun r_114 => acl (x_X2_placeSeeds v1) (fun r_117 => acl (x_X2_placeOthers v1 v2) (fun r_126 => art 0))) else acl (x_X2_placePool v1) (fun r_135 => art 0)))))))))) u (fun _ x => Ok (f_draws (nI c)) w (fun s y => DrawP u0 ne ch B0 w c x s y)) := fun L hL3 hL5 hkL hh ep href => by
      refine CQ_rd ep ?_
      rw [e_ofClass c 2 (show (2 : Int32) = nI 2 from rfl)]
      refine CQ_rd (a := nI (4 + 36 * c + 2)) rfl (CQ_ite (fun _ => ?_) (fun z => absurd rfl z))
      exact CQ.mono (l_tree h1 hmb h hc hL3 hL5 h0 hk hkL hh hE hB hrw) (fun _ x z => href _ z)
    have head : ∀ Q, (6 ≤ k → Ok (pwd 12 4 (nI c) 2 ((if nI k ≤ 16 then (if nI k ≤ 8 then refT c 3 k else refT c 4 k) else refT c 5 k))) w Q) → Ok (f_draws (nI c)) w Q := fun Q hq => by
      unfold f_draws
      refine Ok_clR (ok_weighed h.1.1 h.1.2.2.1 c) (fun r hr => ?_)
      subst hr
      rw [← hk]
      refine Ok_ite (fun h6 => ?_) (fun h6 => absurd (nI_le (a := 6) (by omega) (by omega)) h6)
      exact hq (by omega)
    rcases Nat.lt_or_ge 8 k with h8 | h8
    · rcases Nat.lt_or_ge 16 k with h16 | h16
      · refine go 5 (by decide) (by decide) h32 (by omega) ?_ (fun Q z => head Q (fun _ => Ok_wdN rfl hc (by decide) (Ok_ite (fun z => ?_) (fun _ => z))))
        · unfold x_X2_placesFor
          rw [if_pos (show (8 : Int32) < nI k from (hlt 8 (by decide)).mpr h8), if_pos (show (16 : Int32) < nI k from (hlt 16 (by decide)).mpr h16)]
          rfl
        · exact absurd z (Int32.not_le.mpr ((hlt 16 (by decide)).mpr h16))
      · refine go 4 (by decide) (by decide) h16 (by omega) ?_ (fun Q z => head Q (fun _ => Ok_wdN rfl hc (by decide) (Ok_ite (fun _ => Ok_ite (fun z => ?_) (fun _ => z)) (fun z => ?_))))
        · unfold x_X2_placesFor
          rw [if_pos (show (8 : Int32) < nI k from (hlt 8 (by decide)).mpr h8), if_neg (fun z : (16 : Int32) < nI k => absurd ((hlt 16 (by decide)).mp z) (by omega))]
          rfl
        · exact absurd z (Int32.not_le.mpr ((hlt 8 (by decide)).mpr h8))
        · exact absurd (nI_le (b := 16) h16 (by decide)) z
    · refine go 3 (by decide) (by decide) h8 (by omega) ?_ (fun Q z => head Q (fun _ => Ok_wdN rfl hc (by decide) (Ok_ite (fun _ => Ok_ite (fun _ => z) (fun z => ?_)) (fun z => ?_))))
      · unfold x_X2_placesFor
        rw [if_neg (fun z : (8 : Int32) < nI k => absurd ((hlt 8 (by decide)).mp z) (by omega))]
        rfl
      · exact absurd (nI_le (b := 8) h8 (by decide)) z
      · exact absurd (nI_le (b := 16) (by omega) (by decide)) z
  · have h5 : k ≤ 5 := Nat.le_of_not_lt (fun z => h5 ((hlt 5 (by decide)).mpr z))
    refine CQ_ite (fun z => absurd z (by decide)) (fun _ => ?_)
    rw [e_ofClass c 2 (show (2 : Int32) = nI 2 from rfl)]
    refine CQ_rd (a := nI (4 + 36 * c + 2)) rfl (CQ_ite (fun z => absurd z (by decide)) (fun _ => ?_))
    refine CQ.mono (l_poolall h1 hmb h hc h0 hk h2 h5 hE hB hrw) (fun _ x z => ?_)
    unfold f_draws
    refine Ok_clR (ok_weighed h.1.1 h.1.2.2.1 c) (fun r hr => ?_)
    subst hr
    rw [← hk]
    refine Ok_ite (fun h6 => ?_) (fun _ => z)
    have := (nI_leI (a := 6) (b := k) (by decide) (by omega)).mp h6
    omega
theorem DF.lfr {c : Nat} {w v : GS} (h : DF c w v) : LFr w v := ⟨fun k _ _ => ⟨by rw [h.1], by rw [h.2.1]⟩, fun k a b => h.2.2.1 k (by omega) (by omega) (by omega)⟩
theorem sim_draw {P : LwP} {LW : List LwP} {N tp n E ch C : Nat} {u v : MS} {w : GS} {lg : Nat → En} {s : Nat → GS} {p q : Nat → Nat} {a r : Int32} {c1 d1 : Nat} (h : SmX P LW N tp u w n E lg s p q ch C) (hN : N ≤ 24000) (e : x_X11_draw a u = some (r, v, c1, d1)) : Ok (f_draw a) w (fun r2 w2 => r2 = r ∧ SmE P LW N tp v w2) := by
  have hn := h.le
  have h1 := h.2.1
  have hK := h.2.2.1
  have hRw := h.r0
  have hRs := h.rs
  have hI := h.inv
  have hIw := h.1.inv
  obtain ⟨hR1, hmb, hb3, hql, hlr⟩ := h.rx
  unfold x_X11_draw at e
  unfold f_draw
  refine Ok_clR (ok_isClass a w) (fun q9 hq => ?_)
  rcases cls_cases a with ⟨e1, hno⟩ | ⟨e1, c, hc, rfl⟩
  · rw [e1] at e
    have e := anl_at (a := 0) (v := u) rfl e
    rw [if_pos rfl] at e
    cases e
    rcases hq with ⟨-, hq⟩ | ⟨rfl, -⟩
    · exact absurd hq hno
    · exact Ok_ite (fun _ => Ok_rt ⟨rfl, h.e⟩) (fun z => absurd rfl z)
  rw [e1] at e
  have e := anl_at (a := 1) (v := u) rfl e
  rw [if_neg (by decide)] at e
  rcases hq with ⟨rfl, -⟩ | ⟨-, hq⟩
  rotate_left
  · exact absurd ⟨c, hc, rfl⟩ hq
  refine Ok_ite (fun z => absurd z (by decide)) (fun _ => Ok_rdN rfl hc (by decide) (hRw.kd hc) ?_)
  have e := anl_at (e_isDrawn hc) e
  by_cases hk0 : u.2 0 (6 + 36 * c) = 0
  rotate_left
  · rw [if_neg hk0, if_neg (by decide)] at e
    cases e
    exact Ok_ite (fun z => absurd z hk0) (fun _ => Ok_rt ⟨rfl, h.e⟩)
  rw [if_pos hk0, if_pos rfl] at e
  refine Ok_ite (fun _ => ?_) (fun z => absurd hk0 z)
  refine Ok_clR (ok_weighed hIw.1.1 hIw.1.2.2.1 c) (fun r9 hr9 => ?_)
  subst hr9
  obtain ⟨r8, v8, e8, e9⟩ := anl_some e
  clear e
  obtain ⟨g1, g2⟩ := c_weighedOf (u := u) rfl hRw hIw hc r8 v8 e8
  obtain ⟨g3, -⟩ := c_weighedOf (u := u) rfl hRs hI hc r8 v8 e8
  have hcw : cb (due w c) (nF w) ≤ 96 := Nat.le_trans (cb_le _) hIw.1.1.2.2
  have hcs : cb (due (s n) c) (nF (s n)) ≤ 96 := Nat.le_trans (cb_le _) hI.1.1.2.2
  have heq : cb (due w c) (nF w) = cb (due (s n) c) (nF (s n)) := (nI_eq (by omega) (by omega)).mp (g1.symm.trans g3)
  rw [heq]
  subst g2
  have e := e9
  clear e9
  rw [g3] at e
  generalize hk : cb (due (s n) c) (nF (s n)) = k at *
  refine Ok_clR (ok_in _ _ _ w) (fun q8 hq8 => ?_)
  have t32 : (32 : Int64).toInt = 32 := by decide
  have t2 : (2 : Int64).toInt = 2 := by decide
  rw [Int32.toInt_toInt64, nI_toInt (by omega), t32, t2] at hq8
  have hl2 : nI k < 2 ↔ k < 2 := by
    rw [Int32.lt_iff_toInt_lt, nI_toInt (by omega)]
    have : (2 : Int32).toInt = 2 := by decide
    omega
  by_cases h2 : k < 2
  · rw [if_pos (hl2.mpr h2)] at e
    cases e
    rcases hq8 with ⟨-, y⟩ | ⟨rfl, -⟩
    · omega
    · exact Ok_ite (fun _ => Ok_rt ⟨rfl, h.e⟩) (fun z => absurd rfl z)
  rw [if_neg (fun z => h2 (hl2.mp z))] at e
  by_cases h32 : k ≤ 32
  rotate_left
  · rw [if_neg (fun z : nI k ≤ (32 : Int32) => h32 ((nI_leI (b := 32) (by omega) (by decide)).mp z))] at e
    cases e
    rcases hq8 with ⟨-, y⟩ | ⟨rfl, -⟩
    · omega
    · exact Ok_ite (fun _ => Ok_rt ⟨rfl, h.e⟩) (fun z => absurd rfl z)
  rw [if_pos (show nI k ≤ (32 : Int32) from nI_le (b := 32) h32 (by decide))] at e
  rcases hq8 with ⟨rfl, -⟩ | ⟨-, y⟩
  rotate_left
  · exact absurd ⟨by omega, by omega⟩ y
  refine Ok_ite (fun z => absurd z (by decide)) (fun _ => ?_)
  have h0s : Am (s n) 12 c 0 := by
    have := hRs.kd hc
    rw [hk0] at this
    exact this
  have hdr := ok_draws hI c hc h0s (by omega) (by omega)
  obtain ⟨r0, sv, hd0, hIv⟩ := hdr
  refine sim_fin h hN (by decide) (r0 := r0) (sv := sv) ?_ hIv ?_
  · rw [does_5]
    unfold pcl
    rw [hd0]
    rfl
  have hcl : CQ (anl x_X1_isFull (fun r_14 => (if r_14 = 0 then anl (x_X1_openEntry) (fun r_18 => acl (x_X2_placeAll (nI c) (nI k)) (fun r_21 => anl (x_X0_settle (nI c)) (fun r_30 => anl (x_X0_fightsOf (nI c)) (fun r_33 => art r_33)))) else art (-4)))) v8 (fun r v => (n = 500 ∧ r = -4 ∧ v = v8) ∨ (n < 500 ∧ r = r0 ∧ EntS v8 v n ch ∧ RX P LW (q n) (v.2 0) sv ∧ ∀ c, c < 4 → Bd (v.2 0) c v)) := by
    refine CQ_full h1 hn (fun h5 => ?_) (fun h5 => Or.inl ⟨h5, rfl, rfl⟩)
    refine CQ_open hK h5 h1 (fun _ v1 hE hK1 hB1 hS1 => ?_)
    refine CQ_cl (CQ.mono (l_alldraw hR1 hmb hI hc h0s hk.symm (by omega) h32 hE.s hB1 ⟨hS1.2 13 (by decide), hS1.2 14 (by decide), hS1.2 15 (by decide), hS1.2 16 (by decide)⟩) (fun _ x z => ?_))
    obtain ⟨s9, y9, ez, d1, ⟨d21, d22, d23, d24⟩, d3, d4, d5, d6, d7, d8⟩ := z
    rw [hd0] at ez
    cases ez
    refine CQ_settle (B0 := v8.2 0) d1 hc (kn_of d5 d3.1 hc) (fun c2 hc2 hne => d6.acc hc hc2 hne) (fun c2 hc2 => (h.bd c2 hc2).to (Acc.rf _ _) (fun i2 _ => ?_)) (fun v4 hE4 hB4 hb4 => ?_)
    · unfold Rws
      rw [d21, d22, d23, d24]
      exact ⟨rfl, rfl, rfl, rfl⟩
    · refine CQ_rd (e_fightsOf hB4 hc (kn_of d5 d3.1 hc)) (CQ_rt (Or.inr ⟨h5, d8.symm, hE4, ?_, hb4⟩))
      rw [hB4]
      exact ⟨d3, d4, (d6.lo hc (by decide)).trans hb3, hql, hlr.fr d7.lfr⟩
  exact hcl r v c1 d1 e

