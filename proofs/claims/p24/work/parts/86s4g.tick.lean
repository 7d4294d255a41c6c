/-! ===== tick, both sides ===== -/
theorem r_tickA (a : Int32) (w : GS) : Rd (f_in a.toInt64 1 9999) w (fun r => (r = 1 ∧ ¬ a < 1 ∧ a ≤ 9999) ∨ (r = 0 ∧ (a < 1 ∨ ¬ a ≤ 9999))) := by
  refine Rd.mono (ok_in _ _ _ w) (fun r hr => ?_)
  have h0 : (9999 : Int64).toInt = 9999 := by decide
  have h1 : (1 : Int64).toInt = 1 := by decide
  have h2 : (9999 : Int32).toInt = 9999 := by decide
  rw [Int32.toInt_toInt64, h0, h1] at hr
  rw [Int32.lt_iff_toInt_lt, Int32.le_iff_toInt_le, i32_1, h2]
  rcases hr with ⟨hr, h2, h3⟩ | ⟨hr, hn⟩
  · exact Or.inl ⟨hr, by omega, by omega⟩
  · exact Or.inr ⟨hr, by omega⟩
theorem Ok_ret {β : Type} {p : PG β} {w : GS} {Q : β → GS → Prop} (h : Ok p w Q) : Ok (pcl p (fun r => prt r)) w Q := Ok_cl (Ok.mono h (fun _ _ z => Ok_rt z))
theorem sim_tick {P : LwP} {LW : List LwP} {N tp n E ch C : Nat} {u v : MS} {w : GS} {lg : Nat → En} {s : Nat → GS} {p q : Nat → Nat} {a b r : Int32} {c1 d1 : Nat} (h : SmX P LW N tp u w n E lg s p q ch C) (hN : N ≤ 24000) (e : x_X11_tick (fun u => (lnw P LW u).2.2) a b u = some (r, v, c1, d1)) : Ok (f_tick a b) w (fun r2 w2 => r2 = r ∧ SmE P LW N tp v w2) := by
  have hn := h.le
  have h1 := h.2.1
  have hK := h.2.2.1
  have hRw := h.r0
  have hRs := h.rs
  have hI := h.inv
  have hrx := h.rx
  have hln := h.ln
  obtain ⟨⟨-, hNT⟩, ⟨mi, wc, vb, mo⟩, hb3, hql, hlr⟩ := hrx
  have hkn : ∀ c, c < 4 → Kn (u.2 0) c := fun c hc => kn_of hI hRs hc
  obtain ⟨⟨t, g, ht, hg, eL0, eL1⟩, -, l28, -, l30, -, -, nl, hnl, eL3, hLn⟩ := hlr
  rw [eL3] at l30
  rw [eL1] at l28
  unfold x_X11_tick at e
  unfold f_tick
  refine Ok_clR (ok_isMat a w) (fun q9 hq => ?_)
  rcases mat_cases a with ⟨e2, hno⟩ | ⟨e2, m, hm, rfl⟩
  · rw [e2] at e
    have e := anl_at (a := 0) (v := u) rfl e
    rw [if_pos rfl] at e
    cases e
    rcases hq with ⟨-, hq⟩ | ⟨rfl, -⟩
    · exact absurd hq hno
    · exact Ok_ite (fun _ => Ok_rt ⟨rfl, h.e⟩) (fun z => absurd rfl z)
  rw [e2] at e
  have e := anl_at (a := 1) (v := u) rfl e
  rw [if_neg (by decide)] at e
  rcases hq with ⟨rfl, -⟩ | ⟨-, hq⟩
  rotate_left
  · exact absurd ⟨m, hm, rfl⟩ hq
  refine Ok_ite (fun z => absurd z (by decide)) (fun _ => ?_)
  refine Ok_clR (r_tickA b w) (fun q9 hq => ?_)
  by_cases hb1 : b < 1
  · rw [if_pos hb1] at e
    cases e
    rcases hq with ⟨-, hq, -⟩ | ⟨rfl, -⟩
    · exact absurd hb1 hq
    · exact Ok_ite (fun _ => Ok_rt ⟨rfl, h.e⟩) (fun z => absurd rfl z)
  rw [if_neg hb1] at e
  by_cases hb9 : b ≤ 9999
  rotate_left
  · rw [if_neg hb9] at e
    cases e
    rcases hq with ⟨-, -, hq⟩ | ⟨rfl, -⟩
    · exact absurd hq hb9
    · exact Ok_ite (fun _ => Ok_rt ⟨rfl, h.e⟩) (fun z => absurd rfl z)
  rw [if_pos hb9] at e
  rcases hq with ⟨rfl, -⟩ | ⟨-, hq⟩
  rotate_left
  · exact absurd hq (fun z => z.elim hb1 (fun y => y hb9))
  refine Ok_ite (fun z => absurd z (by decide)) (fun _ => ?_)
  have e := anl_at (e_goesOn (u := u) hm) e
  rcases matF_of hI hRs mo hm with ⟨hfr, hon⟩ | ⟨c, i, fa, fb, hF⟩
  · rw [if_pos hfr, if_pos rfl] at e
    cases e
    exact Ok_rdN rfl hm (by decide) (h.ag.am (by decide) hon) (Ok_ite (fun _ => Ok_rt ⟨rfl, h.e⟩) (fun z => absurd rfl z))
  have hOn := hF.on
  have hc := hOn.1
  have hi := hOn.2.1
  rw [if_neg hOn.ne.1] at e
  refine Ok_rdN rfl hm (by decide) (h.ag.am (by decide) hOn.2.2.2.2.1) (Ok_ite (fun z => absurd z (nI_ne_1 (by omega))) (fun _ => ?_))
  refine Ok_rdN rfl hm (by decide) (h.ag.am (by decide) hOn.2.2.2.2.2.2.2.1) ?_
  by_cases hw0 : u.2 0 (mc0 m + 4) = 0
  rotate_left
  · rw [if_neg hw0, if_pos rfl] at e
    cases e
    exact Ok_ite (fun z => absurd z hw0) (fun _ => Ok_rt ⟨rfl, h.e⟩)
  rw [if_pos hw0, if_neg (by decide)] at e
  refine Ok_ite (fun _ => ?_) (fun z => absurd hw0 z)
  refine Ok_rdN rfl hm (by decide) (h.ag.am (by decide) hOn.2.2.2.2.2.1) ?_
  rw [e_ofMat m 2 (show (2 : Int32) = nI 2 from rfl)] at e
  have e := anl_at (a := nI (mc0 m + 2)) (v := u) rfl e
  have e := anl_at (p := nGT 0 2088 (nI (mc0 m + 2))) (a := u.2 0 (mc0 m + 2)) (v := u) (by
    show some (rg (u.2 0) 2088 (nI (mc0 m + 2)), u) = _
    rw [rdB _ (by unfold mc0; omega)]) e
  by_cases hle : b ≤ u.2 0 (mc0 m + 2)
  rotate_left
  · rw [if_neg hle] at e
    cases e
    exact Ok_ite (fun z => absurd z hle) (fun _ => Ok_rt ⟨rfl, h.e⟩)
  rw [if_pos hle] at e
  refine Ok_ite (fun _ => ?_) (fun z => absurd hle z)
  -- the book behind the seconds
  have hMt : MtO m (u.2 0) (upd (u.2 0) (mc0 m + 2) (u.2 0 (mc0 m + 2) - b)) := (MtO.rf _ _).up _ (by omega)
  obtain ⟨hR1, hO1⟩ := hRs.cell (a := 23) (k := 2) (j := m) hI.1.1.2.2 hm hOn (u.2 0 (mc0 m + 2) - b) (Or.inl ⟨rfl, rfl, rfl⟩)
  have hI1 := inv_w23 hI m (u.2 0 (mc0 m + 2) - b)
  have hl1 : LFr (s n) (swd 23 (nI m) (u.2 0 (mc0 m + 2) - b) (s n)) := (LFr.rf _).wd (by decide) _ _
  have hF1 := hF.up hMt hO1 (hF.wa.o (by decide)) (hF.wb.o (by decide)) (by rw [upd_n (by omega)]; exact hF.x01) (by rw [upd_n (by omega)]; exact hF.w01)
  have e3 : upd (u.2 0) (mc0 m + 2) (u.2 0 (mc0 m + 2) - b) (mc0 m + 3) = u.2 0 (mc0 m + 3) := upd_n (by omega)
  have e4 : upd (u.2 0) (mc0 m + 2) (u.2 0 (mc0 m + 2) - b) (mc0 m + 4) = u.2 0 (mc0 m + 4) := upd_n (by omega)
  have e2u : upd (u.2 0) (mc0 m + 2) (u.2 0 (mc0 m + 2) - b) (mc0 m + 2) = u.2 0 (mc0 m + 2) - b := upd_e
  have hIok := ok_passes hI m b hm hOn.ne.2
  have x3 := hOn.2.2.2.2.2.2.1
  have x2 := hOn.2.2.2.2.2.1
  generalize hx : u.2 0 (mc0 m + 2) - b = x at *
  generalize hB1 : upd (u.2 0) (mc0 m + 2) x = B1 at *
  generalize hw1 : swd 23 (nI m) x (s n) = w1 at *
  have hl30 : Im w1 30 (nI nl) := ⟨(hl1.1 30 (by decide) (by decide)).2.trans l30.1, (hl1.1 30 (by decide) (by decide)).1.trans l30.2⟩
  have hl28 : Im w1 28 (nI g) := ⟨(hl1.1 28 (by decide) (by decide)).2.trans l28.1, (hl1.1 28 (by decide) (by decide)).1.trans l28.2⟩
  have hLn1 : ∀ l, l < nl → LnR (lnq P LW (q n)).2.2 w1 l := fun l hl => (hLn l hl).fr hl1
  have hend : ∀ over : Int32, (over = 0 ↔ ¬ (B1 (mc0 m + 3) = 1 ∨ B1 (mc0 m + 2) = 0)) → Ok (pcl (f_asked (nI m) over) (fun r_26 => (if r_26 = (-1) then prd 23 4 (nI m) (fun x_30 => (if x_30 ≤ 0 then pcl (f_goesOver (nI m)) (fun r_34 => prt (-1)) else prt r_26)) else prt r_26))) w1 (fun r v => (r = -1 ∧ (∀ l, l < nl → ∀ sd, sd < 2 → ¬ hvL (lnq P LW (q n)).2.2 B1 m l sd = 1) ∧ R0 (tvB B1 m (nI g)) v ∧ LFr w1 v) ∨ ∃ l d, l < nl ∧ d < 2 ∧ FstL (fun l sd => hvL (lnq P LW (q n)).2.2 B1 m l sd = 1) l d ∧ r = nI l ∧ R0 (finB B1 c i m fa fb (nI (if d = 0 then fa else fb)) (nI l) ((lnq P LW (q n)).2.2.2 2 l)) v ∧ LFr w1 v) := fun over hov => by
    refine Ok_cl (Ok.mono (r_ask hI1 hR1 hF1 hm hnl hl30 hov hLn1) (fun r v y => ?_))
    rcases y with ⟨rfl, y2, f9, mk9, rfl⟩ | ⟨l, d9, y1, y2, y3, rfl, y5, y6⟩
    · have hO9 := hO1.s38 f9 mk9
      refine Ok_ite (fun _ => Ok_rdN rfl hm (by decide) hO9.2.2.2.2.2.1 (Ok_ite (fun z => ?_) (fun z => Ok_rt (Or.inl ⟨rfl, y2, ?_, LFr.s38 _ _ _⟩)))) (fun z => absurd rfl z)
      · refine Ok_cl (Ok.mono (r_goesOver (hR1.s38 f9 mk9) hI1.1.1.2.2 hm hO9 hF1.x01 hl28 hg) (fun r3 v3 y3 => Ok_rt (Or.inl ⟨rfl, y2, ?_, (LFr.s38 _ _ _).trans y3.2.2.1⟩)))
        unfold tvB
        rw [if_neg (fun q => q.elim hO9.ne.1 (fun k => k z))]
        exact y3.1
      · unfold tvB
        rw [if_pos (Or.inr z)]
        exact hR1.s38 f9 mk9
    · exact Ok_ite (fun z => absurd z (nI_ne_1 (by omega))) (fun _ => Ok_rt (Or.inr ⟨l, d9, y1, y2, y3, rfl, y5, y6⟩))
  have hgo : Ok (f_does 10 (nI m) b 0) (s n) (fun r v => (r = -1 ∧ (∀ l, l < nl → ∀ sd, sd < 2 → ¬ hvL (lnq P LW (q n)).2.2 B1 m l sd = 1) ∧ R0 (tvB B1 m (nI g)) v ∧ LFr w1 v) ∨ ∃ l d, l < nl ∧ d < 2 ∧ FstL (fun l sd => hvL (lnq P LW (q n)).2.2 B1 m l sd = 1) l d ∧ r = nI l ∧ R0 (finB B1 c i m fa fb (nI (if d = 0 then fa else fb)) (nI l) ((lnq P LW (q n)).2.2.2 2 l)) v ∧ LFr w1 v) := by
    rw [does_10]
    refine Ok_ret ?_
    unfold f_passes
    refine Ok_rdN rfl hm (by decide) x2 ?_
    rw [hx]
    refine Ok_wdN rfl hm (by decide) ?_
    rw [hw1]
    refine Ok_rdN rfl hm (by decide) hO1.2.2.2.2.2.2.1 (Ok_ite (fun z3 => Ok_rdN rfl hm (by decide) hO1.2.2.2.2.2.1 (Ok_ite (fun z2 => ?_) (fun z2 => ?_))) (fun z3 => ?_))
    · exact hend 1 ⟨fun y => absurd y (by decide), fun y => absurd (Or.inr z2) y⟩
    · exact hend 0 ⟨fun _ y => y.elim (fun k => absurd (z3.symm.trans k) (by decide)) z2, fun _ => rfl⟩
    · exact hend 1 ⟨fun y => absurd y (by decide), fun y => absurd (Or.inl (hF1.x01.resolve_left z3)) y⟩
  obtain ⟨r0, sv, hd, hask⟩ := hgo
  have hIv : Inv sv := by
    obtain ⟨r9, w9, q9, q8⟩ := Ok_ret hIok
    rw [does_10, q9] at hd
    cases hd
    exact q8
  refine sim_fin h hN (by decide) hd hIv ?_
  have hcl : CQ (anl x_X1_isFull (fun r_19 => (if r_19 = 0 then anl (x_X1_openEntry) (fun r_23 => acl (x_X3_letPass (nI m) b) (fun r_26 => anl (nLW (fun u => (lnw P LW u).2.2)) (fun L_34 => acl (x_X3_ask L_34 (nI m)) (fun r_39 => anl (nLW (fun u => (lnw P LW u).2.2)) (fun L_47 => acl (x_X3_turnOver L_47 (nI m)) (fun r_52 => anl (x_X3_classOn (nI m)) (fun r_61 => anl (x_X0_settle r_61) (fun r_64 => art r_39)))))))) else art (-4)))) u (fun (r : Int32) (v : MS) => (n = 500 ∧ r = -4 ∧ v = u) ∨ (n < 500 ∧ EntS u v n ch ∧ (∀ c, c < 4 → Bd (v.2 0) c v) ∧ ((r = -1 ∧ (∀ l, l < nl → ∀ sd, sd < 2 → ¬ hvL (lnq P LW (q n)).2.2 B1 m l sd = 1) ∧ v.2 0 = tvB B1 m (nI g)) ∨ ∃ l d, l < nl ∧ d < 2 ∧ FstL (fun l sd => hvL (lnq P LW (q n)).2.2 B1 m l sd = 1) l d ∧ r = nI l ∧ v.2 0 = finB B1 c i m fa fb (nI (if d = 0 then fa else fb)) (nI l) ((lnq P LW (q n)).2.2.2 2 l)))) := by
    refine CQ_full h1 hn (fun h5 => ?_) (fun h5 => Or.inl ⟨h5, rfl, rfl⟩)
    refine CQ_open hK h5 h1 (fun _ v1 hE hK1 hB9 hS1 => ?_)
    refine CQ_pass (Pt.rf hK1) hB9 hm (fun _ v2 p2 b2 => ?_)
    have b2 : v2.2 0 = B1 := by
      rw [b2, hx, hB1]
    have hlv : ∀ v9 : MS, v9.2 0 3 = u.2 0 3 → (lnw P LW v9).2.2 = (lnq P LW (q n)).2.2 := fun v9 y => by
      rw [lnw_q (y.trans hb3) hql h.2.2.2.2.2.2.2.2.2]
    have b13 : B1 3 = u.2 0 3 := hMt.lo (by decide)
    refine CQ_rd (p := nLW (fun u => (lnw P LW u).2.2)) (a := (lnq P LW (q n)).2.2) (by show some _ = _; rw [← hlv v2 (by rw [b2]; exact b13)]) ?_
    refine CQ_cl (CQ.mono (CQ_ask (hE.s.pt p2) b2 hF1 hm hnl eL3 hLn1) (fun r3 v3 y => ?_))
    obtain ⟨hE3, hS3, hy⟩ := y
    have hrow : ∀ c2, c2 < 4 → Bd (u.2 0) c2 v3 := rows_same h.bd ⟨((hS3.2 13 (by decide)).trans (p2.2.2 13 (by decide))).trans (hS1.2 13 (by decide)), ((hS3.2 14 (by decide)).trans (p2.2.2 14 (by decide))).trans (hS1.2 14 (by decide)), ((hS3.2 15 (by decide)).trans (p2.2.2 15 (by decide))).trans (hS1.2 15 (by decide)), ((hS3.2 16 (by decide)).trans (p2.2.2 16 (by decide))).trans (hS1.2 16 (by decide))⟩
    obtain ⟨ch3, C3, hK3⟩ := hE3.2.2.2.1.kl
    have hrow4 : ∀ v4, Pt v3 v4 → ∀ c2, c2 < 4 → Bd (u.2 0) c2 v4 := fun v4 p4 => rows_same hrow ⟨p4.2.2 13 (by decide), p4.2.2 14 (by decide), p4.2.2 15 (by decide), p4.2.2 16 (by decide)⟩
    rcases hy with ⟨y1, y2, y3⟩ | ⟨l, d9, y1, y2, y3, y4, y5⟩
    · refine CQ_rd (p := nLW (fun u => (lnw P LW u).2.2)) (a := (lnq P LW (q n)).2.2) (by show some _ = _; rw [← hlv v3 (by rw [y3]; exact b13)]) ?_
      refine CQ_over (B := B1) (Pt.rf hK3) y3 hm (fun _ v4 p4 b4 => ?_)
      rw [eL1] at b4
      have hq : BqM c i m (fun _ => False) (u.2 0) (v4.2 0) := by rw [b4]; exact tvB_q hMt.q (nI g)
      exact CQ_ends (B0 := u.2 0) (hE3.pt p4) hm hc hi hq (hkn c hc) (by rw [b4, tvB_hi _ (by omega)]; exact hO1.2.2.1) (hrow4 v4 p4) (fun v5 hE5 hB5 hb5 => CQ_rt (Or.inr ⟨h5, hE5, hb5, Or.inl ⟨y1, y2, hB5.trans b4⟩⟩))
    · have f3 := (finB_m0 (B := B1) (c := c) (i := i) (m := m) (a := fa) (b := fb) (x := nI (if d9 = 0 then fa else fb)) (l := nI l) (p := (lnq P LW (q n)).2.2.2 2 l) hc hi hF.a96 hF.b96)
      refine CQ_rd (p := nLW (fun u => (lnw P LW u).2.2)) (a := (lnq P LW (q n)).2.2) (by show some _ = _; rw [← hlv v3 (by rw [y5]; exact f3.2.trans b13)]) ?_
      refine CQ_over (B := v3.2 0) (Pt.rf hK3) rfl hm (fun _ v4 p4 b4 => ?_)
      have b4 : v4.2 0 = v3.2 0 := by
        rw [b4]
        unfold tvB
        rw [if_pos (Or.inl ?_)]
        rw [y5]
        exact (finB_v hc hi hF.a96 hF.b96).2.2.2.2.2.2.2.1
      have hq : BqM c i m (fun f => f = fa ∨ f = fb) (u.2 0) (v4.2 0) := by rw [b4, y5]; exact hMt.tr (finB_q hF.a96 hF.b96)
      exact CQ_ends (B0 := u.2 0) (hE3.pt p4) hm hc hi hq (hkn c hc) (by rw [b4, y5, f3.1]; exact hO1.2.2.1) (hrow4 v4 p4) (fun v5 hE5 hB5 hb5 => CQ_rt (Or.inr ⟨h5, hE5, hb5, Or.inr ⟨l, d9, y1, y2, y3, y4, (hB5.trans b4).trans y5⟩⟩))
  refine (hcl r v c1 d1 e).imp (fun z => z) (fun z => ?_)
  obtain ⟨z1, z2, z3, z4⟩ := z
  rcases hask with ⟨a1, a2, a3, a4⟩ | ⟨l, d9, a1, a2, a3, a4, a5, a6⟩
  · rcases z4 with ⟨b1, b2, b3⟩ | ⟨l2, d2, b1, b2, b3, -⟩
    · refine ⟨z1, b1.trans a1.symm, z2, ?_, z3⟩
      rw [b3]
      have hMt2 : MtO m (u.2 0) (tvB B1 m (nI g)) := by
        unfold tvB
        by_cases hk : B1 (mc0 m + 1) = -1 ∨ ¬ B1 (mc0 m + 2) ≤ 0
        · rw [if_pos hk]; exact hMt
        · rw [if_neg hk]
          unfold goB
          by_cases hk2 : B1 (mc0 m + 3) = 0 ∧ ¬ nI g ≤ 0
          · rw [if_pos hk2]; exact (hMt.up _ (by omega)).up _ (by omega)
          · rw [if_neg hk2]; exact hMt.up _ (by omega)
      refine h.rx.mt hIv a3 hc hi hm hMt2 (hl1.trans a4) (fun y1 y2 => tvB_mi ?_ y1 y2)
      rw [tvB_hi _ (by omega)]
      exact hO1.ne.1
    · exact absurd b3.1 (a2 l2 b1 d2 b2)
  · rcases z4 with ⟨b1, b2, b3⟩ | ⟨l2, d2, b1, b2, b3, b4, b5⟩
    · exact absurd a3.1 (b2 l a1 d9 a2)
    · obtain ⟨el, ed⟩ := a3.un b3 a2 b2
      subst el
      subst ed
      refine ⟨z1, b4.trans a4.symm, z2, ?_, z3⟩
      rw [b5]
      refine h.rx.fin hI hIv hMt a5 hc hi hm hF.inn (hl1.trans a6) hF.k2 hF.mo hF.a96 hF.b96 hF.fa hF.fb ?_
      by_cases hz : d9 = 0
      · rw [if_pos hz]; exact Or.inl rfl
      · rw [if_neg hz]; exact Or.inr rfl

