theorem anl_at {α β : Type} {p : NG α} {q : α → AG β} {u v : MS} {a : α} {y : β × MS × Nat × Nat} (h : p u = some (a, v)) (e : anl p q u = some y) : q a v = some y := by
  obtain ⟨a2, v2, e1, e2⟩ := anl_some e
  rw [h] at e1
  cases e1
  exact e2
theorem dr_of {B : Nat → Int32} {w : GS} {c i : Nat} (hI : Inv w) (hR : R0 B w) (hc : c < 4) (hi : i < nFi B c) : Dr w c (nFi B c) := by
  rcases (hI.1.2.2.2.1 c hc).2.2.1 with z | ⟨n, z⟩
  · rw [nFi_0 ((hR.kd hc).inj z)] at hi
    omega
  · have y := hI.1.dr z
    rw [nFi_dr hR y]
    exact y
theorem vS_val {B : Nat → Int32} {w : GS} {c n i sd : Nat} (hR : R0 B w) (hN : NT B c) (hD : Dr w c n) (hi : i < n) (hsd : sd < 2) : Val w c (vS B c i sd) := by
  obtain ⟨x, v, e1, -, h1⟩ := sv_any hR hN hD hi hsd 0
  obtain ⟨y, v2, e2, -, h2⟩ := ok_side w c n i sd 0 hD hi hsd
  rw [e1] at e2
  cases e2
  rw [← h1]
  exact h2
theorem mkF_or {B : Nat → Int32} {w : GS} {c i : Nat} (hR : R0 B w) (hc : c < 4) (hi : i < 37) : mkF B c i = 0 ∨ mkF B c i = 2 ∨ mkF B c i = 3 := by
  rcases hR.mk hc hi with ⟨-, z⟩ | ⟨-, z⟩ | ⟨-, z, -⟩
  · exact Or.inl z
  · exact Or.inr (Or.inl z)
  · exact Or.inr (Or.inr z)
theorem val_lt {w : GS} {c : Nat} {x : Int32} (h96 : nF w ≤ 96) (h : Val w c x) : (x < 0 ∧ (x = -1 ∨ x = -2)) ∨ (¬ x < 0 ∧ ¬ x = -1 ∧ ¬ x = -2 ∧ ∃ f, f < 96 ∧ x = nI f ∧ Plc w c f) := by
  rcases h with rfl | rfl | ⟨f, rfl, hf⟩
  · exact Or.inl ⟨by decide, Or.inl rfl⟩
  · exact Or.inl ⟨by decide, Or.inr rfl⟩
  · have := hf.lt h96
    exact Or.inr ⟨nI_nn (by omega), nI_ne_1 (by omega), nI_ne_2 (by omega), f, this, rfl, hf⟩
/-- ready, as the rows have it and as the reference has it -/
theorem rdy_iff {w : GS} {c : Nat} {m a b : Int32} (h96 : nF w ≤ 96) (hm : m = 0 ∨ m = 2 ∨ m = 3) (ha : Val w c a) (hb : Val w c b) : stV m a b = 1 ↔ (m = 0 ∧ ¬ a < 0 ∧ ¬ b < 0) := by
  unfold stV
  rcases hm with rfl | rfl | rfl
  · rw [if_pos rfl]
    rcases val_lt h96 ha with ⟨a1, a2⟩ | ⟨a1, a2, a3, -⟩
    · refine ⟨fun z => ?_, fun z => absurd a1 z.2.1⟩
      rcases a2 with rfl | rfl
      · by_cases y : (-1 : Int32) = -2 ∨ b = -2
        · rw [if_pos y] at z; exact absurd z (by decide)
        · rw [if_neg y, if_pos (Or.inl rfl)] at z; exact absurd z (by decide)
      · rw [if_pos (Or.inl rfl)] at z; exact absurd z (by decide)
    · rcases val_lt h96 hb with ⟨b1, b2⟩ | ⟨b1, b2, b3, -⟩
      · refine ⟨fun z => ?_, fun z => absurd b1 z.2.2⟩
        rcases b2 with rfl | rfl
        · rw [if_neg (fun y => y.elim a3 (by decide)), if_pos (Or.inr rfl)] at z; exact absurd z (by decide)
        · rw [if_pos (Or.inr rfl)] at z; exact absurd z (by decide)
      · rw [if_neg (fun y => y.elim a3 b3), if_neg (fun y => y.elim a2 b2)]
        exact ⟨fun _ => ⟨rfl, a1, b1⟩, fun _ => rfl⟩
  · rw [if_neg (by decide)]
    exact ⟨fun z => absurd z (by decide), fun z => absurd z.1 (by decide)⟩
  · rw [if_neg (by decide)]
    exact ⟨fun z => absurd z (by decide), fun z => absurd z.1 (by decide)⟩
theorem e_stateOf {c i : Nat} (hc : c < 4) (hi : i < 37) (u : MS) : x_X0_stateOf (nI c) (nI i) u = some (u.2 16 (37 * c + i), u) := by
  unfold x_X0_stateOf
  rw [e_slot]
  show some (rg (u.2 16) 148 (nI (37 * c + i)), u) = _
  rw [rg_in (by omega) (by decide)]
theorem tvB_q {c i m : Nat} {A : Nat → Prop} {B B2 : Nat → Int32} (h : BqM c i m A B B2) (g : Int32) : BqM c i m A B (tvB B2 m g) := by
  unfold tvB
  by_cases hk : B2 (mc0 m + 1) = -1 ∨ ¬ B2 (mc0 m + 2) ≤ 0
  · rw [if_pos hk]; exact h
  · rw [if_neg hk]; exact goB_q h g
theorem goB_hi {B : Nat → Int32} {m j : Nat} (g : Int32) (hj : j < mc0 m + 2) : goB B m g j = B j := by
  unfold goB
  by_cases hk : B (mc0 m + 3) = 0 ∧ ¬ g ≤ 0
  · rw [if_pos hk, upd_n (by omega), upd_n (by omega)]
  · rw [if_neg hk, upd_n (by omega)]
theorem tvB_hi {B : Nat → Int32} {m j : Nat} (g : Int32) (hj : j < mc0 m + 2) : tvB B m g j = B j := by
  unfold tvB
  by_cases hk : B (mc0 m + 1) = -1 ∨ ¬ B (mc0 m + 2) ≤ 0
  · rw [if_pos hk]
  · rw [if_neg hk, goB_hi g hj]
/-- after turnOver a mat goes on ahead of golden time with seconds left alone -/
theorem tvB_mi {B : Nat → Int32} {m : Nat} {g : Int32} (h1 : ¬ tvB B m g (mc0 m + 1) = -1) (h4 : tvB B m g (mc0 m + 4) = 0) (h3 : tvB B m g (mc0 m + 3) = 0) : ¬ tvB B m g (mc0 m + 2) = 0 := by
  rw [tvB_hi g (by omega)] at h1
  unfold tvB at h4 h3 ⊢
  by_cases hk : B (mc0 m + 1) = -1 ∨ ¬ B (mc0 m + 2) ≤ 0
  · rw [if_pos hk]
    intro z
    rcases hk with y | y
    · exact h1 y
    · exact y (by rw [z]; exact Int32.le_refl _)
  · rw [if_neg hk] at h4 h3 ⊢
    unfold goB at h4 h3 ⊢
    by_cases hg : B (mc0 m + 3) = 0 ∧ ¬ g ≤ 0
    · rw [if_pos hg, upd_n (by omega), upd_e] at h3
      exact absurd h3 (by decide)
    · rw [if_neg hg, upd_e] at h4
      exact absurd h4 (by decide)
theorem sim_begin {P : LwP} {LW : List LwP} {N tp n E ch C : Nat} {u v : MS} {w : GS} {lg : Nat → En} {s : Nat → GS} {p q : Nat → Nat} {a b d r : Int32} {c1 d1 : Nat} (h : SmX P LW N tp u w n E lg s p q ch C) (hN : N ≤ 24000) (e : x_X11_begin (fun u => (lnw P LW u).2.2) a b d u = some (r, v, c1, d1)) : Ok (f_begin a b d) w (fun r2 w2 => r2 = r ∧ SmE P LW N tp v w2) := by
  have hn := h.le
  have h1 := h.2.1
  have hK := h.2.2.1
  have hRw := h.r0
  have hRs := h.rs
  have hI := h.inv
  have hIw := h.1.inv
  have h13 := h.1.2.2.2.2.2.2.2.2.2.2
  have hrx := h.rx
  have hln := h.ln
  obtain ⟨⟨-, hNT⟩, ⟨mi, wc, vb, mo⟩, hb3, hql, hlr⟩ := hrx
  have hkn : ∀ c, c < 4 → Kn (u.2 0) c := fun c hc => kn_of hI hRs hc
  have h96 := hI.1.1.2.2
  unfold x_X11_begin at e
  unfold f_begin
  rcases c_has (B := u.2 0) rfl hkn a b with ⟨e1, c, i, hc, rfl, rfl, hi⟩ | ⟨e1, hno⟩
  rotate_left
  · have e := anl_at e1 e
    rw [if_pos rfl] at e
    cases e
    refine Ok_clR (r_isFight hRw _ _ (hIw.kd h13)) (fun q hq => ?_)
    rcases hq with ⟨-, hq⟩ | ⟨rfl, -⟩
    · exact absurd hq hno
    · exact Ok_ite (fun _ => Ok_rt ⟨rfl, h.e⟩) (fun z => absurd rfl z)
  have e := anl_at e1 e
  rw [if_neg (by decide)] at e
  have h37 := (hkn c hc).n37
  have hi37 : i < 37 := by omega
  refine Ok_clR (r_isFight hRw _ _ (hIw.kd h13)) (fun q hq => ?_)
  rcases hq with ⟨rfl, -⟩ | ⟨-, hq⟩
  rotate_left
  · exact absurd ⟨c, i, hc, rfl, rfl, hi⟩ hq
  refine Ok_ite (fun z => absurd z (by decide)) (fun _ => ?_)
  refine Ok_clR (ok_isMat d w) (fun q hq => ?_)
  rcases mat_cases d with ⟨e2, hno⟩ | ⟨e2, m, hm, rfl⟩
  · rw [e2] at e
    have e := anl_at (a := 0) (v := u) rfl e
    rw [if_pos rfl] at e
    cases e
    rcases hq with ⟨-, hq⟩ | ⟨rfl, -⟩
    · exact absurd hq hno
    · exact Ok_ite (fun _ => Ok_rt ⟨rfl, h.e⟩) (fun z => absurd rfl z)
  rw [e2] at e
  have e := anl_at (a := 1) (v := u) rfl e
  rw [if_neg (by decide)] at e
  rcases hq with ⟨rfl, -⟩ | ⟨-, hq⟩
  rotate_left
  · exact absurd ⟨m, hm, rfl⟩ hq
  refine Ok_ite (fun z => absurd z (by decide)) (fun _ => ?_)
  have hD := dr_of hI hRs hc hi
  have hDw := dr_of hIw hRw hc hi
  obtain ⟨rw1, rw2, rw3, rw4⟩ := (h.bd c hc).rows hRs hD hi
  have hst := bSt_v hRs (hNT c hc).1 hD hi
  have va := vS_val hRs (hNT c hc).1 hD hi (sd := 0) (by decide)
  have vbv := vS_val hRs (hNT c hc).1 hD hi (sd := 1) (by decide)
  have hrd := rdy_iff h96 (mkF_or hRs hc hi37) va vbv
  have e := anl_at (e_stateOf hc hi37 u) e
  rw [rw4, hst] at e
  have hL : (fun u => (lnw P LW u).2.2) u = (lnq P LW (q n)).2.2 := by show (lnw P LW u).2.2 = _; rw [hln]
  obtain ⟨⟨t, g, ht, hg, eL0, eL1⟩, l27, l28, l29, l30, l31, -, nl, hnl, eL3, -⟩ := hlr
  have lw30 : Im w 30 (nI nl) := by
    have := h.ag.im (k := 30) (by decide) l30
    rw [eL3] at this
    exact this
  refine Ok_rfN lw30 ?_
  by_cases hready : stV (mkF (u.2 0) c i) (vS (u.2 0) c i 0) (vS (u.2 0) c i 1) = 1
  rotate_left
  · rw [if_neg hready] at e
    have e := anl_at (p := nLW (fun u => (lnw P LW u).2.2)) (a := (lnq P LW (q n)).2.2) (v := u) (by show some _ = _; rw [hL]) e
    have e9 : art (-3 : Int32) u = some (r, v, c1, d1) := by
      by_cases z : (lnq P LW (q n)).2.2.1 3 = 0
      · rw [if_pos z] at e; exact e
      · rw [if_neg z, if_pos rfl] at e; exact e
    cases e9
    refine Ok_ite (fun _ => Ok_rt ⟨rfl, h.e⟩) (fun _ => ?_)
    refine Ok_clR (sv_isReady hRw (hNT c hc).1 hDw hi) (fun q hq => ?_)
    rw [if_neg (fun z => hready (hrd.mpr z))] at hq
    subst hq
    exact Ok_ite (fun _ => Ok_rt ⟨rfl, h.e⟩) (fun z => absurd rfl z)
  rw [if_pos hready] at e
  have e := anl_at (p := nLW (fun u => (lnw P LW u).2.2)) (a := (lnq P LW (q n)).2.2) (v := u) (by show some _ = _; rw [hL]) e
  rw [eL3] at e
  by_cases hnl0 : nI nl = 0
  · rw [if_pos hnl0] at e
    cases e
    exact Ok_ite (fun _ => Ok_rt ⟨rfl, h.e⟩) (fun z => absurd hnl0 z)
  rw [if_neg hnl0, if_neg (by decide)] at e
  refine Ok_ite (fun z => absurd z hnl0) (fun _ => ?_)
  refine Ok_clR (sv_isReady hRw (hNT c hc).1 hDw hi) (fun q9 hq => ?_)
  obtain ⟨hmk, hva0, hvb0⟩ := hrd.mp hready
  rw [if_pos ⟨hmk, hva0, hvb0⟩] at hq
  subst hq
  refine Ok_ite (fun z => absurd z (by decide)) (fun _ => ?_)
  have e := anl_at (e_isFree (u := u) hm) e
  rcases hRs.onm hm with ⟨hfr, hon⟩ | ⟨c9, i9, hOn⟩
  rotate_left
  · rw [if_neg hOn.ne.1, if_pos rfl] at e
    cases e
    have hOw := hOn.2.2.2.2.1
    have hc9 := hOn.1
    have hi9 := hOn.2.1
    exact Ok_rdN rfl hm (by decide) (h.ag.am (by decide) hOw) (Ok_ite (fun z => absurd z (nI_ne_1 (by omega))) (fun _ => Ok_rt ⟨rfl, h.e⟩))
  rw [if_pos hfr, if_neg (by decide)] at e
  refine Ok_rdN rfl hm (by decide) (h.ag.am (by decide) hon) (Ok_ite (fun _ => ?_) (fun z => absurd rfl z))
  rcases val_lt h96 va with ⟨z, -⟩ | ⟨-, na1, na2, fa, hfa, eva, pa⟩
  · exact absurd z hva0
  rcases val_lt h96 vbv with ⟨z, -⟩ | ⟨-, nb1, nb2, fb, hfb, evb, pb⟩
  · exact absurd z hvb0
  obtain ⟨ew, eb⟩ := rows_v hRs hD hi
  rw [mx2_id na2, eva] at ew
  rw [mx2_id nb2, evb] at eb
  rw [ew] at rw1
  rw [eb] at rw2
  have hnfw : nF w = nF (s n) := (h.ag.nFe hI.1.1)
  refine Ok_clR (sv_any hRw (hNT c hc).1 hDw hi (sd := 0) (by decide) 0) (fun x hx => ?_)
  rw [eva] at hx
  subst hx
  refine Ok_clR (r_rests hRw (fun m hm => (hIw.1.2.2.2.2.2.1 m hm).1) mo vb (f := fa) (by rw [hnfw]; exact pa.1) hfa) (fun x hx => ?_)
  have e := anl_at (e_wO hc hi37 u).2.1 e
  rw [rw1] at e
  rcases c_isHeld (u := u) rfl hRs mo vb hfa with ⟨e3, hh⟩ | ⟨e3, hh⟩
  · have e := anl_at e3 e
    rw [if_neg (by decide)] at e
    cases e
    rcases hx with ⟨rfl, -⟩ | ⟨-, y⟩
    · exact Ok_ite (fun z => absurd z (by decide)) (fun _ => Ok_rt ⟨rfl, h.e⟩)
    · exact absurd hh y
  have e := anl_at e3 e
  rw [if_pos rfl] at e
  rcases hx with ⟨-, y⟩ | ⟨rfl, -⟩
  · exact absurd y hh
  refine Ok_ite (fun _ => ?_) (fun z => absurd rfl z)
  refine Ok_clR (sv_any hRw (hNT c hc).1 hDw hi (sd := 1) (by decide) 0) (fun x hx => ?_)
  rw [evb] at hx
  subst hx
  refine Ok_clR (r_rests hRw (fun m hm => (hIw.1.2.2.2.2.2.1 m hm).1) mo vb (f := fb) (by rw [hnfw]; exact pb.1) hfb) (fun x hx => ?_)
  have e := anl_at (e_wO hc hi37 u).2.2 e
  rw [rw2] at e
  rcases c_isHeld (u := u) rfl hRs mo vb hfb with ⟨e4, hh2⟩ | ⟨e4, hh2⟩
  · have e := anl_at e4 e
    rw [if_neg (by decide)] at e
    cases e
    rcases hx with ⟨rfl, -⟩ | ⟨-, y⟩
    · exact Ok_ite (fun z => absurd z (by decide)) (fun _ => Ok_rt ⟨rfl, h.e⟩)
    · exact absurd hh2 y
  have e := anl_at e4 e
  rw [if_pos rfl] at e
  rcases hx with ⟨-, y⟩ | ⟨rfl, -⟩
  · exact absurd y hh2
  refine Ok_ite (fun _ => ?_) (fun z => absurd rfl z)
  -- the act
  have hmk0 : u.2 0 (fc c i) = 0 := by
    unfold mkF at hmk
    rw [if_pos hi37] at hmk
    exact hmk
  rw [eL0] at l27
  rw [eL1] at l28
  have hok := r_begins hI hRs (hNT c hc).1 hD hi hm hmk eva evb hfa hfb hon l27 ht l28 hg
  rw [eva] at hva0
  obtain ⟨r0, sv, hd0, er0, hRv, hlf⟩ := hok
  have hd : f_does 8 (nI c) (nI i) (nI m) (s n) = some (1, sv) := by
    rw [does_8]
    show pcl (f_begins (nI c) (nI i) (nI m)) (fun r => prt r) (s n) = _
    unfold pcl
    rw [hd0, er0]
    rfl
  have hln0 : ¬ (s n).1.1 30 = 0 := by
    rw [l30.2, eL3]
    exact hnl0
  have hIv : Inv sv := by
    obtain ⟨x0, w0, s0, hw0, v0⟩ := sv_any hRs (hNT c hc).1 hD hi (sd := 0) (by decide) 0
    obtain ⟨x1, w1, s1, hw1, v1⟩ := sv_any hRs (hNT c hc).1 hD hi (sd := 1) (by decide) 0
    subst hw0
    rw [hw1, v1, evb] at s1
    rw [v0, eva] at s0
    have h150 : (s n).1.2 15 (40 * c + i) = 0 := by
      rcases hRs.mk hc hi37 with ⟨z, -⟩ | ⟨-, z⟩ | ⟨-, z, -⟩
      · exact z.2
      · rw [hmk] at z; exact absurd z (by decide)
      · rw [hmk] at z; exact absurd z (by decide)
    obtain ⟨r9, w9, q9, q8⟩ := ok_begins hI c i _ m fa fb hm hi hD.drs ⟨pa, pb, s0, s1, h150⟩ hon.2 hln0
    rw [hd0] at q9
    cases q9
    exact q8
  refine sim_fin h hN (by decide) hd hIv ?_
  have hcl : CQ (anl x_X1_isFull (fun r_97 => (if r_97 = 0 then anl (x_X1_openEntry) (fun r_101 => anl (nLW (fun u => (lnw P LW u).2.2)) (fun L_103 => acl (x_X3_start (L_103.1 0) (nI c) (nI i) (nI m)) (fun r_108 => anl (nLW (fun u => (lnw P LW u).2.2)) (fun L_116 => acl (x_X3_turnOver L_116 (nI m)) (fun r_121 => anl (x_X0_settle (nI c)) (fun r_130 => art 1)))))) else art (-4)))) u (fun (r : Int32) (v : MS) => (n = 500 ∧ r = -4 ∧ v = u) ∨ (n < 500 ∧ r = 1 ∧ EntS u v n ch ∧ v.2 0 = tvB (bgB (u.2 0) c i m (nI fa) (nI fb) (nI t)) m (nI g) ∧ ∀ c, c < 4 → Bd (v.2 0) c v)) := by
    refine CQ_full h1 hn (fun h5 => ?_) (fun h5 => Or.inl ⟨h5, rfl, rfl⟩)
    refine CQ_open hK h5 h1 (fun _ v1 hE hK1 hB1 hS1 => ?_)
    have hlv : ∀ v9 : MS, v9.2 0 3 = u.2 0 3 → (lnw P LW v9).2.2 = (lnq P LW (q n)).2.2 := fun v9 y => by
      rw [lnw_q (y.trans hb3) hql h.2.2.2.2.2.2.2.2.2]
    refine CQ_rd (p := nLW (fun u => (lnw P LW u).2.2)) (a := (lnq P LW (q n)).2.2) (by show some _ = _; rw [← hlv v1 (by rw [hB1])]) ?_
    rw [eL0]
    refine CQ_start (Pt.rf hK1) hB1 hm hc hi37 (fun _ v2 p2 b2 => ?_)
    rw [hS1.2 13 (by decide), hS1.2 14 (by decide), rw1, rw2] at b2
    have hq2 := bgB_q (B := u.2 0) (c := c) (i := i) (m := m) (a := nI fa) (b := nI fb) (t := nI t)
    refine CQ_rd (p := nLW (fun u => (lnw P LW u).2.2)) (a := (lnq P LW (q n)).2.2) (by
      show some _ = _
      rw [← hlv v2 (by rw [b2]; exact hq2.lo2 (by decide))]) ?_
    refine CQ_over (B := bgB (u.2 0) c i m (nI fa) (nI fb) (nI t)) p2 b2 hm (fun _ v3 p3 b3 => ?_)
    rw [eL1] at b3
    have hq3 := tvB_q hq2 (nI g)
    rw [← b3] at hq3
    refine CQ_settle (B0 := u.2 0) (hE.s.pt p3) hc (hq3.kn hc (hkn c hc)) (fun c2 hc2 hne => hq3.acc hm hi37 hc2 hne) (fun c2 hc2 => (h.bd c2 hc2).to (Acc.rf _ _) (fun i2 _ => ?_)) (fun v4 hE4 hB4 hb4 => CQ_rt (Or.inr ⟨h5, rfl, hE4, hB4.trans b3, hb4⟩))
    unfold Rws
    rw [p3.2.2 13 (by decide), p3.2.2 14 (by decide), p3.2.2 15 (by decide), p3.2.2 16 (by decide), hS1.2 13 (by decide), hS1.2 14 (by decide), hS1.2 15 (by decide), hS1.2 16 (by decide)]
    exact ⟨rfl, rfl, rfl, rfl⟩
  have hc9 := hcl r v c1 d1 e
  refine hc9.imp (fun z => z) (fun z => ?_)
  obtain ⟨z1, z2, z3, z4, z5⟩ := z
  refine ⟨z1, z2, z3, ?_, z5⟩
  rw [z4]
  obtain ⟨g1, g2, g3, g4, g5, g6, -⟩ := bgB_v (B := u.2 0) (c := c) (i := i) (m := m) (a := nI fa) (b := nI fb) (t := nI t) hc hi37
  have hfc : fc c i + 8 ≤ 2004 := by unfold fc; omega
  have hmc : 2004 ≤ mc0 m := by unfold mc0; omega
  have t0 : ∀ k, k < 8 → tvB (bgB (u.2 0) c i m (nI fa) (nI fb) (nI t)) m (nI g) (fc c i + k) = bgB (u.2 0) c i m (nI fa) (nI fb) (nI t) (fc c i + k) := fun k hk => tvB_hi _ (by omega)
  have t00 : tvB (bgB (u.2 0) c i m (nI fa) (nI fb) (nI t)) m (nI g) (fc c i) = 2 := (t0 0 (by decide)).trans g1
  have tm1 : tvB (bgB (u.2 0) c i m (nI fa) (nI fb) (nI t)) m (nI g) (mc0 m + 1) = nI i := (tvB_hi _ (by omega)).trans g6
  have tm0 : tvB (bgB (u.2 0) c i m (nI fa) (nI fb) (nI t)) m (nI g) (mc0 m) = nI c := (tvB_hi _ (by omega)).trans g5
  have t1 := (t0 1 (by decide)).trans g2
  have t2 := (t0 2 (by decide)).trans g3
  have t7 := (t0 7 (by decide)).trans g4
  have hq2 := bgB_q (B := u.2 0) (c := c) (i := i) (m := m) (a := nI fa) (b := nI fb) (t := nI t)
  have hq3 := tvB_q hq2 (nI g)
  have hmi := fun x y z => tvB_mi (B := bgB (u.2 0) c i m (nI fa) (nI fb) (nI t)) (m := m) (g := nI g) x y z
  generalize tvB (bgB (u.2 0) c i m (nI fa) (nI fb) (nI t)) m (nI g) = B2 at *
  have hrx2 : RX P LW (q n) (u.2 0) (s n) := h.rx
  refine hrx2.act hIv hRv hc hi37 hm hq3 hlf ?_ hmi (fun z => absurd (t00.symm.trans z) (by decide)) (fun _ _ z => z.elim) ?_
  · refine NSt.of (hkn c hc) (hq3.zn hc).2.1 (hq3.zn hc).2.2 (hq3.plq hc) (fun j => ?_) (fun j hj hj37 hmj => ?_)
    · unfold wF mkF wnF
      by_cases hj : j < 37
      · rw [if_pos hj, if_pos hj, if_pos hj, if_pos hj]
        by_cases he : j = i
        · rw [he, t00, hmk0, if_neg (by decide), if_neg (by decide)]
        · rw [hq3.fgt0 hm hc hi37 hj (fun z => he z.2), hq3.fgt hm hc hi37 hj (by decide) (fun z => he z.2)]
      · rw [if_neg hj, if_neg hj, if_neg hj, if_neg hj]
    · by_cases he : j = i
      · rw [he, t1, t2, ew, eb]
        exact ⟨rfl, rfl⟩
      · have y := (hNT c hc).2 j hj hj37 (by
          unfold mkF at hmj ⊢
          rw [if_pos hj37] at hmj ⊢
          rw [hq3.fgt0 hm hc hi37 hj37 (fun z => he z.2)] at hmj
          exact hmj)
        rw [hq3.fgt hm hc hi37 hj37 (by decide) (fun z => he z.2), hq3.fgt hm hc hi37 hj37 (by decide) (fun z => he z.2)]
        exact y
  · exact mo.act hc hi37 hm hq3 (fun z => absurd (hmk0.symm.trans z) (by decide)) (fun _ => ⟨tm0, tm1, t00, t7⟩)

