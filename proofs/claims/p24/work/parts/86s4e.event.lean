/-! ===== decide, event, tick, both sides ===== -/
theorem side_cases (a : Int32) : (x_X11_isSide a = nrt 0 ∧ ¬ ∃ d, d < 2 ∧ a = nI d) ∨ (x_X11_isSide a = nrt 1 ∧ ∃ d, d < 2 ∧ a = nI d) := by
  unfold x_X11_isSide
  by_cases h0 : a = 0
  · exact Or.inr ⟨if_pos h0, 0, by decide, h0⟩
  · rw [if_neg h0]
    by_cases h1 : a = 1
    · exact Or.inr ⟨if_pos h1, 1, by decide, h1⟩
    · refine Or.inl ⟨if_neg h1, ?_⟩
      rintro ⟨d, hd, rfl⟩
      have h01 : d = 0 ∨ d = 1 := by omega
      rcases h01 with rfl | rfl
      · exact h0 rfl
      · exact h1 rfl
theorem r_side (a : Int32) (w : GS) : Rd (f_in a.toInt64 0 1) w (fun r => (r = 1 ∧ ∃ d, d < 2 ∧ a = nI d) ∨ (r = 0 ∧ ¬ ∃ d, d < 2 ∧ a = nI d)) := by
  refine Rd.mono (ok_in _ _ _ w) (fun r hr => ?_)
  have h0 : (0 : Int64).toInt = 0 := by decide
  have h1 : (1 : Int64).toInt = 1 := by decide
  rw [Int32.toInt_toInt64, h0, h1] at hr
  rcases hr with ⟨hr, h2, h3⟩ | ⟨hr, hn⟩
  · exact Or.inl ⟨hr, a.toInt.toNat, by omega, nI_ofT h2⟩
  · refine Or.inr ⟨hr, ?_⟩
    rintro ⟨d, hd, rfl⟩
    rw [nI_toInt (by omega)] at hn
    omega
theorem e_waits {u : MS} {m : Nat} (hm : m < 4) : x_X3_waits (nI m) u = some (if u.2 0 (mc0 m + 1) = -1 then 0 else if u.2 0 (mc0 m + 4) = 1 then 1 else 0, u) := by
  have r4 : x_X3_on (nI m) 4 u = some (u.2 0 (mc0 m + 4), u) := e_on hm (k := 4) (by decide) rfl
  unfold x_X3_waits
  refine ncl_eq (e_isFree hm) ?_
  by_cases h : u.2 0 (mc0 m + 1) = -1
  · rw [if_pos h, if_pos h]; rfl
  · rw [if_neg h, if_neg h, if_pos rfl]
    refine ncl_eq r4 ?_
    by_cases h4 : u.2 0 (mc0 m + 4) = 1
    · rw [if_pos h4, if_pos h4]; rfl
    · rw [if_neg h4, if_neg h4]; rfl
theorem e_goesOn {u : MS} {m : Nat} (hm : m < 4) : x_X3_goesOn (nI m) u = some (if u.2 0 (mc0 m + 1) = -1 then 0 else if u.2 0 (mc0 m + 4) = 0 then 1 else 0, u) := by
  have r4 : x_X3_on (nI m) 4 u = some (u.2 0 (mc0 m + 4), u) := e_on hm (k := 4) (by decide) rfl
  unfold x_X3_goesOn
  refine ncl_eq (e_isFree hm) ?_
  by_cases h : u.2 0 (mc0 m + 1) = -1
  · rw [if_pos h, if_pos h]; rfl
  · rw [if_neg h, if_neg h, if_pos rfl]
    refine ncl_eq r4 ?_
    by_cases h4 : u.2 0 (mc0 m + 4) = 0
    · rw [if_pos h4, if_pos h4]; rfl
    · rw [if_neg h4, if_neg h4]; rfl
/-- the whole of an open mat -/
def MatF (B : Nat → Int32) (w : GS) (m c i a b : Nat) : Prop := OnM B w m c i ∧ B (fc c i) = 2 ∧ B (fc c i + 7) = nI m ∧ i < nFi B c ∧ a < 96 ∧ b < 96 ∧ B (fc c i + 1) = nI a ∧ B (fc c i + 2) = nI b ∧ Am w 16 (40 * c + i) (nI a) ∧ Am w 17 (40 * c + i) (nI b) ∧ (B (mc0 m + 3) = 0 ∨ B (mc0 m + 3) = 1) ∧ (B (mc0 m + 4) = 0 ∨ B (mc0 m + 4) = 1)
theorem MatF.on {B : Nat → Int32} {w : GS} {m c i a b : Nat} (h : MatF B w m c i a b) : OnM B w m c i := h.1
theorem MatF.k2 {B : Nat → Int32} {w : GS} {m c i a b : Nat} (h : MatF B w m c i a b) : B (fc c i) = 2 := h.2.1
theorem MatF.mo {B : Nat → Int32} {w : GS} {m c i a b : Nat} (h : MatF B w m c i a b) : B (fc c i + 7) = nI m := h.2.2.1
theorem MatF.inn {B : Nat → Int32} {w : GS} {m c i a b : Nat} (h : MatF B w m c i a b) : i < nFi B c := h.2.2.2.1
theorem MatF.a96 {B : Nat → Int32} {w : GS} {m c i a b : Nat} (h : MatF B w m c i a b) : a < 96 := h.2.2.2.2.1
theorem MatF.b96 {B : Nat → Int32} {w : GS} {m c i a b : Nat} (h : MatF B w m c i a b) : b < 96 := h.2.2.2.2.2.1
theorem MatF.fa {B : Nat → Int32} {w : GS} {m c i a b : Nat} (h : MatF B w m c i a b) : B (fc c i + 1) = nI a := h.2.2.2.2.2.2.1
theorem MatF.fb {B : Nat → Int32} {w : GS} {m c i a b : Nat} (h : MatF B w m c i a b) : B (fc c i + 2) = nI b := h.2.2.2.2.2.2.2.1
theorem MatF.wa {B : Nat → Int32} {w : GS} {m c i a b : Nat} (h : MatF B w m c i a b) : Am w 16 (40 * c + i) (nI a) := h.2.2.2.2.2.2.2.2.1
theorem MatF.wb {B : Nat → Int32} {w : GS} {m c i a b : Nat} (h : MatF B w m c i a b) : Am w 17 (40 * c + i) (nI b) := h.2.2.2.2.2.2.2.2.2.1
theorem MatF.x01 {B : Nat → Int32} {w : GS} {m c i a b : Nat} (h : MatF B w m c i a b) : (B (mc0 m + 3) = 0 ∨ B (mc0 m + 3) = 1) := h.2.2.2.2.2.2.2.2.2.2.1
theorem MatF.w01 {B : Nat → Int32} {w : GS} {m c i a b : Nat} (h : MatF B w m c i a b) : (B (mc0 m + 4) = 0 ∨ B (mc0 m + 4) = 1) := h.2.2.2.2.2.2.2.2.2.2.2
theorem matF_of {B : Nat → Int32} {w : GS} {m : Nat} (hI : Inv w) (hR : R0 B w) (hO : MO B) (hm : m < 4) : (B (mc0 m + 1) = -1 ∧ Am w 22 m (-1)) ∨ ∃ c i a b, MatF B w m c i a b := by
  rcases hR.onm2 hO hm with z | ⟨c, i, hOn, hmk, hmo⟩
  · exact Or.inl z
  · have hc := hOn.1
    have hi := hOn.2.1
    obtain ⟨a, b, pa, pb, h1, h2, h3, h4, h5, h6⟩ := hR.two hI hc hi (by rw [hmk]; decide)
    have hMt := (hI.1.2.2.2.2.2.1 m hm).2 hOn.ne.2
    obtain ⟨⟨c2, i2, hc2, hi2, l1, n, hd, hin, -⟩, -, k3, k4, -⟩ := hMt
    have he := hOn.un
    have o22 := hOn.2.2.2.2.1
    have e9 := (nI_eq (by omega) (by omega)).mp (o22.2.symm.trans l1)
    have ec : c2 = c := by omega
    have ei : i2 = i := by omega
    subst ec
    subst ei
    have hin2 : i2 < nFi B c2 := by rw [nFi_dr hR (hI.1.dr hd)]; exact hin
    refine Or.inr ⟨c2, i2, a, b, hOn, hmk, hmo, hin2, h1, h2, h3, h4, h5, h6, ?_, ?_⟩
    · exact k3.imp (fun z => (hOn.2.2.2.2.2.2.1.inj z)) (fun z => (hOn.2.2.2.2.2.2.1.inj z))
    · exact k4.imp (fun z => (hOn.2.2.2.2.2.2.2.1.inj z)) (fun z => (hOn.2.2.2.2.2.2.2.1.inj z))
theorem MatF.up {B B1 : Nat → Int32} {w w1 : GS} {m c i a b : Nat} (h : MatF B w m c i a b) (hM : MtO m B B1) (hO : OnM B1 w1 m c i) (wa : Am w1 16 (40 * c + i) (nI a)) (wb : Am w1 17 (40 * c + i) (nI b)) (h3 : B1 (mc0 m + 3) = 0 ∨ B1 (mc0 m + 3) = 1) (h4 : B1 (mc0 m + 4) = 0 ∨ B1 (mc0 m + 4) = 1) : MatF B1 w1 m c i a b := by
  have hc := h.on.1
  have hi := h.on.2.1
  refine ⟨hO, (hM.fq (k := 0) hc hi (by decide)).trans h.k2, (hM.fq hc hi (by decide)).trans h.mo, ?_, h.a96, h.b96, (hM.fq hc hi (by decide)).trans h.fa, (hM.fq hc hi (by decide)).trans h.fb, wa, wb, h3, h4⟩
  have en : nFi B1 c = nFi B c := by
    unfold nFi zN
    rw [hM.lo (by omega), hM.lo (by omega)]
  rw [en]
  exact h.inn
/-- finish and settle, the class's end of a fight -/
theorem CQ_fins {β : Type} {u0 u : MS} {B0 B1 : Nat → Int32} {w : GS} {m c i a b sd n ch : Nat} {l p : Int32} {q : Int32 → AG β} {Q : β → MS → Prop} (hE : EntS u0 u n ch) (hB : u.2 0 = B1) (hm : m < 4) (hsd : sd < 2) (h : MatF B1 w m c i a b) (hq : ∀ v, EntS u0 v n ch → Same [0, 60, 65] [0, 1, 2] u v → v.2 0 = finB B1 c i m a b (nI (if sd = 0 then a else b)) l p → CQ (q (nI (if sd = 0 then a else b))) v Q) : CQ (acl (x_X3_finish (nI m) (nI sd) l p) q) u Q := by
  obtain ⟨ch2, C2, hK⟩ := hE.2.2.2.1.kl
  exact CQ_finish (Pt.rf hK) hB hm h.on.1 h.on.2.1 hsd h.on.2.2.1 h.on.2.2.2.1 h.fa h.fb h.a96 h.b96 (fun v p1 b1 => hq v (hE.pt p1) p1.2 b1)
theorem CQ_ends {β : Type} {u0 u : MS} {B0 : Nat → Int32} {n ch c m : Nat} {A : Nat → Prop} {i : Nat} {q : Int32 → AG β} {Q : β → MS → Prop} (hE : EntS u0 u n ch) (hm : m < 4) (hc : c < 4) (hi : i < 37) (hbq : BqM c i m A B0 (u.2 0)) (hk : Kn B0 c) (e0 : u.2 0 (mc0 m) = nI c) (hb : ∀ c2, c2 < 4 → Bd B0 c2 u) (h : ∀ v, EntS u0 v n ch → v.2 0 = u.2 0 → (∀ c2, c2 < 4 → Bd (v.2 0) c2 v) → CQ (q 0) v Q) : CQ (anl (x_X3_classOn (nI m)) (fun r => anl (x_X0_settle r) q)) u Q := by
  have r0 : x_X3_classOn (nI m) u = some (nI c, u) := by
    unfold x_X3_classOn
    refine ncl_eq (e_on (z := 0) hm (k := 0) (by decide) rfl) ?_
    rw [Nat.add_zero, e0]
    rfl
  exact CQ_rd r0 (CQ_settle hE hc (hbq.kn hc hk) (fun c2 hc2 hne => hbq.acc hm hi hc2 hne) hb h)
theorem rows_same {B : Nat → Int32} {u v : MS} (h : ∀ c, c < 4 → Bd B c u) (hs : v.2 13 = u.2 13 ∧ v.2 14 = u.2 14 ∧ v.2 15 = u.2 15 ∧ v.2 16 = u.2 16) : ∀ c, c < 4 → Bd B c v := fun c hc => (h c hc).to (Acc.rf _ _) (fun i _ => by
  unfold Rws
  rw [hs.1, hs.2.1, hs.2.2.1, hs.2.2.2]
  exact ⟨rfl, rfl, rfl, rfl⟩)
theorem sim_decide {P : LwP} {LW : List LwP} {N tp n E ch C : Nat} {u v : MS} {w : GS} {lg : Nat → En} {s : Nat → GS} {p q : Nat → Nat} {a b r : Int32} {c1 d1 : Nat} (h : SmX P LW N tp u w n E lg s p q ch C) (hN : N ≤ 24000) (e : x_X11_decide a b u = some (r, v, c1, d1)) : Ok (f_decide a b) w (fun r2 w2 => r2 = r ∧ SmE P LW N tp v w2) := by
  have hn := h.le
  have h1 := h.2.1
  have hK := h.2.2.1
  have hRw := h.r0
  have hRs := h.rs
  have hI := h.inv
  have hrx := h.rx
  obtain ⟨⟨-, hNT⟩, ⟨mi, wc, vb, mo⟩, hb3, hql, hlr⟩ := hrx
  have hkn : ∀ c, c < 4 → Kn (u.2 0) c := fun c hc => kn_of hI hRs hc
  unfold x_X11_decide at e
  unfold f_decide
  refine Ok_clR (ok_isMat a w) (fun q9 hq => ?_)
  rcases mat_cases a with ⟨e2, hno⟩ | ⟨e2, m, hm, rfl⟩
  · rw [e2] at e
    have e := anl_at (a := 0) (v := u) rfl e
    rw [if_pos rfl] at e
    cases e
    rcases hq with ⟨-, hq⟩ | ⟨rfl, -⟩
    · exact absurd hq hno
    · exact Ok_ite (fun _ => Ok_rt ⟨rfl, h.e⟩) (fun z => absurd rfl z)
  rw [e2] at e
  have e := anl_at (a := 1) (v := u) rfl e
  rw [if_neg (by decide)] at e
  rcases hq with ⟨rfl, -⟩ | ⟨-, hq⟩
  rotate_left
  · exact absurd ⟨m, hm, rfl⟩ hq
  refine Ok_ite (fun z => absurd z (by decide)) (fun _ => ?_)
  refine Ok_clR (r_side b w) (fun q9 hq => ?_)
  rcases side_cases b with ⟨e2, hno⟩ | ⟨e2, sd, hsd, rfl⟩
  · rw [e2] at e
    have e := anl_at (a := 0) (v := u) rfl e
    rw [if_pos rfl] at e
    cases e
    rcases hq with ⟨-, hq⟩ | ⟨rfl, -⟩
    · exact absurd hq hno
    · exact Ok_ite (fun _ => Ok_rt ⟨rfl, h.e⟩) (fun z => absurd rfl z)
  rw [e2] at e
  have e := anl_at (a := 1) (v := u) rfl e
  rw [if_neg (by decide)] at e
  rcases hq with ⟨rfl, -⟩ | ⟨-, hq⟩
  rotate_left
  · exact absurd ⟨sd, hsd, rfl⟩ hq
  refine Ok_ite (fun z => absurd z (by decide)) (fun _ => ?_)
  have e := anl_at (e_waits (u := u) hm) e
  rcases matF_of hI hRs mo hm with ⟨hfr, hon⟩ | ⟨c, i, fa, fb, hF⟩
  · rw [if_pos hfr, if_pos rfl] at e
    cases e
    exact Ok_rdN rfl hm (by decide) (h.ag.am (by decide) hon) (Ok_ite (fun _ => Ok_rt ⟨rfl, h.e⟩) (fun z => absurd rfl z))
  have hOn := hF.on
  have hc := hOn.1
  have hi := hOn.2.1
  rw [if_neg hOn.ne.1] at e
  refine Ok_rdN rfl hm (by decide) (h.ag.am (by decide) hOn.2.2.2.2.1) (Ok_ite (fun z => absurd z (nI_ne_1 (by omega))) (fun _ => ?_))
  refine Ok_rdN rfl hm (by decide) (h.ag.am (by decide) hOn.2.2.2.2.2.2.2.1) ?_
  by_cases hw1 : u.2 0 (mc0 m + 4) = 1
  rotate_left
  · rw [if_neg hw1, if_pos rfl] at e
    cases e
    exact Ok_ite (fun _ => Ok_rt ⟨rfl, h.e⟩) (fun z => absurd (hF.w01.resolve_right hw1) z)
  rw [if_pos hw1, if_neg (by decide)] at e
  refine Ok_ite (fun z => absurd (hw1.symm.trans z) (by decide)) (fun _ => ?_)
  obtain ⟨r0, sv, hd0, er0, hRv, hlf⟩ := r_ends (sd := sd) (l := -1) (p := 0) hI hRs hOn hm hsd hF.wa hF.wb hF.a96 hF.b96 hF.fa hF.fb
  have hd : f_does 11 (nI m) (nI sd) 0 (s n) = some (r0, sv) := by
    rw [does_11]
    show pcl (f_ends (nI m) (nI sd) (-1) 0) (fun r => prt r) (s n) = _
    unfold pcl
    rw [hd0]
    rfl
  have hIv : Inv sv := by
    obtain ⟨r9, w9, q9, q8⟩ := ok_endsI hI m sd (-1) 0 hm hsd hOn.ne.2
    rw [hd0] at q9
    cases q9
    exact q8
  refine sim_fin h hN (by decide) hd hIv ?_
  have hcl : CQ (anl x_X1_isFull (fun r_13 => (if r_13 = 0 then anl (x_X1_openEntry) (fun r_17 => acl (x_X3_finish (nI m) (nI sd) (-1) 0) (fun r_20 => anl (x_X3_classOn (nI m)) (fun r_29 => anl (x_X0_settle r_29) (fun r_32 => art r_20)))) else art (-4)))) u (fun (r : Int32) (v : MS) => (n = 500 ∧ r = -4 ∧ v = u) ∨ (n < 500 ∧ r = nI (if sd = 0 then fa else fb) ∧ EntS u v n ch ∧ v.2 0 = finB (u.2 0) c i m fa fb (nI (if sd = 0 then fa else fb)) (-1) 0 ∧ ∀ c, c < 4 → Bd (v.2 0) c v)) := by
    refine CQ_full h1 hn (fun h5 => ?_) (fun h5 => Or.inl ⟨h5, rfl, rfl⟩)
    refine CQ_open hK h5 h1 (fun _ v1 hE hK1 hB1 hS1 => ?_)
    refine CQ_fins (B0 := u.2 0) (w := s n) hE.s hB1 hm hsd hF (fun v2 hE2 hS2 b2 => ?_)
    have hq := finB_q (B := u.2 0) (c := c) (i := i) (m := m) (a := fa) (b := fb) (v := nI (if sd = 0 then fa else fb)) (l := -1) (p := 0) hF.a96 hF.b96
    rw [← b2] at hq
    refine CQ_ends (B0 := u.2 0) hE2 hm hc hi hq (hkn c hc) ?_ (rows_same h.bd ⟨(hS2.2 13 (by decide)).trans (hS1.2 13 (by decide)), (hS2.2 14 (by decide)).trans (hS1.2 14 (by decide)), (hS2.2 15 (by decide)).trans (hS1.2 15 (by decide)), (hS2.2 16 (by decide)).trans (hS1.2 16 (by decide))⟩) (fun v3 hE3 hB3 hb3 => CQ_rt (Or.inr ⟨h5, rfl, hE3, hB3.trans b2, hb3⟩))
    rw [b2]
    unfold finB lvB
    rw [upd_n (by omega), upd_n (by unfold mc0; have := hF.b96; omega), upd_n (by unfold mc0; have := hF.a96; omega), upd_n (by unfold fc mc0; omega), upd_n (by unfold fc mc0; omega), upd_n (by unfold fc mc0; omega), upd_n (by unfold fc mc0; omega), upd_n (by unfold fc mc0; omega)]
    exact hOn.2.2.1
  refine (hcl r v c1 d1 e).imp (fun z => z) (fun z => ?_)
  obtain ⟨z1, z2, z3, z4, z5⟩ := z
  refine ⟨z1, z2.trans er0.symm, z3, ?_, z5⟩
  rw [z4]
  rw [er0] at hRv
  refine h.rx.fin hI hIv (MtO.rf _ _) hRv hc hi hm hF.inn hlf hF.k2 hF.mo hF.a96 hF.b96 hF.fa hF.fb ?_
  by_cases hz : sd = 0
  · rw [if_pos hz]; exact Or.inl rfl
  · rw [if_neg hz]; exact Or.inr rfl

