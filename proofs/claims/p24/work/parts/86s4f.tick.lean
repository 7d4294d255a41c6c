/-! ===== event, tick, both sides ===== -/
theorem LnR.fr {L : MS} {u v : GS} {l : Nat} (h : LnR L u l) (hf : LFr u v) : LnR L v l := by
  have am : ∀ {k j x}, 34 ≤ k → k ≤ 37 → Am u k j x → Am v k j x := fun a b z => by
    unfold Am at z ⊢
    rw [(hf.2 _ a b).1, (hf.2 _ a b).2]
    exact z
  obtain ⟨pt, p1, p2, p3, x, y, q1, q2, q3, q4, q5, q6, q7, T, t1, t2, t3⟩ := h
  refine ⟨pt, p1, p2, am (by decide) (by decide) p3, x, y, q1, q2, am (by decide) (by decide) q3, am (by decide) (by decide) q4, q5, q6, q7, T, t1, t2, fun k k1 k2 => ?_⟩
  obtain ⟨y1, kd, f, y2, y3, y4, y5, y6⟩ := t3 k k1 k2
  exact ⟨y1, kd, f, am (by decide) (by decide) y2, am (by decide) (by decide) y3, y4, y5, y6⟩
theorem sgn_eq (x : Int32) : (if x < 99 then x else 99) = (if 99 < x then 99 else x) := by
  by_cases h : x < 99
  · rw [if_pos h]
    by_cases h2 : 99 < x
    · rw [Int32.lt_iff_toInt_lt] at h h2
      omega
    · rw [if_neg h2]
  · rw [if_neg h]
    by_cases h2 : 99 < x
    · rw [if_pos h2]
    · rw [if_neg h2]
      rw [Int32.lt_iff_toInt_lt] at h h2
      exact Int32.toInt_inj.mp (by omega)
/-- what the question leaves, in the reference -/
def AskR (L : MS) (B1 : Nat → Int32) (w1 : GS) (m c i a b nl : Nat) (r : Int32) (v : GS) : Prop := (r = -1 ∧ (∀ l, l < nl → ∀ sd, sd < 2 → ¬ hvL L B1 m l sd = 1) ∧ ∃ f mk, v = s38 w1 f mk) ∨ ∃ l d, l < nl ∧ d < 2 ∧ FstL (fun l sd => hvL L B1 m l sd = 1) l d ∧ r = nI l ∧ R0 (finB B1 c i m a b (nI (if d = 0 then a else b)) (nI l) (L.2 2 l)) v ∧ LFr w1 v
theorem r_ask {L : MS} {B1 : Nat → Int32} {w1 : GS} {m c i a b nl : Nat} {over : Int32} (hI : Inv w1) (hR : R0 B1 w1) (hF : MatF B1 w1 m c i a b) (hm : m < 4) (hnl : nl ≤ 20) (h30 : Im w1 30 (nI nl)) (hov : over = 0 ↔ ¬ (B1 (mc0 m + 3) = 1 ∨ B1 (mc0 m + 2) = 0)) (hL : ∀ l, l < nl → LnR L w1 l) : Ok (f_asked (nI m) over) w1 (AskR L B1 w1 m c i a b nl) := by
  refine r_asked hm hnl h30 hF.on hov hF.x01 hL (fun hno f mk => Or.inl ⟨rfl, hno, f, mk, rfl⟩) (fun l sd hl hsd hf f mk => ?_)
  refine Ok_cl (Ok.mono (r_ends (w := s38 w1 f mk) (inv_s38 hI f mk) (hR.s38 f mk) (hF.on.s38 f mk) hm hsd hF.wa hF.wb hF.a96 hF.b96 hF.fa hF.fb) (fun r v y => Ok_rt (Or.inr ⟨l, sd, hl, hsd, hf, rfl, ?_, (LFr.s38 w1 f mk).trans y.2.2⟩)))
  obtain ⟨y1, y2, -⟩ := y
  rw [y1] at y2
  exact y2
/-- what the question leaves, in the class -/
def AskC (u0 : MS) (L : MS) (B1 : Nat → Int32) (m c i a b nl n ch : Nat) (u : MS) (r : Int32) (v : MS) : Prop := EntS u0 v n ch ∧ Same [0, 16, 60, 65] [0, 1, 2, 18] u v ∧ ((r = -1 ∧ (∀ l, l < nl → ∀ sd, sd < 2 → ¬ hvL L B1 m l sd = 1) ∧ v.2 0 = B1) ∨ ∃ l d, l < nl ∧ d < 2 ∧ FstL (fun l sd => hvL L B1 m l sd = 1) l d ∧ r = nI l ∧ v.2 0 = finB B1 c i m a b (nI (if d = 0 then a else b)) (nI l) (L.2 2 l))
theorem CQ_ask {u0 u L : MS} {B1 : Nat → Int32} {w1 : GS} {m c i a b nl n ch : Nat} (hE : EntS u0 u n ch) (hB : u.2 0 = B1) (hF : MatF B1 w1 m c i a b) (hm : m < 4) (hnl : nl ≤ 20) (e3 : L.1 3 = nI nl) (hL : ∀ l, l < nl → LnR L w1 l) : CQ (x_X3_ask L (nI m)) u (AskC u0 L B1 m c i a b nl n ch u) := by
  refine c_ask hB hm hnl e3 hF.x01 hL (fun hno v hs => ⟨hE.same (hs.mono (by decide) (by decide)), hs.mono (by decide) (by decide), Or.inl ⟨rfl, hno, (hs.2 0 (by decide)).trans hB⟩⟩) (fun l sd hl hsd hf v hs => ?_)
  refine CQ_fins (B0 := B1) (w := w1) (hE.same (hs.mono (by decide) (by decide))) ((hs.2 0 (by decide)).trans hB) hm hsd hF (fun v2 hE2 hS2 b2 => CQ_rt ⟨hE2, (hs.mono (by decide) (by decide)).trans (hS2.mono (by decide) (by decide)), Or.inr ⟨l, sd, hl, hsd, hf, rfl, b2⟩⟩)
theorem finB_m0 {B : Nat → Int32} {c i m a b : Nat} {x l p : Int32} (hc : c < 4) (hi : i < 37) (ha : a < 96) (hb : b < 96) : finB B c i m a b x l p (mc0 m) = B (mc0 m) ∧ finB B c i m a b x l p 3 = B 3 := by
  unfold finB lvB
  refine ⟨?_, ?_⟩
  · rw [upd_n (by omega), upd_n (by unfold mc0; omega), upd_n (by unfold mc0; omega), upd_n (by unfold fc mc0; omega), upd_n (by unfold fc mc0; omega), upd_n (by unfold fc mc0; omega), upd_n (by unfold fc mc0; omega), upd_n (by unfold fc mc0; omega)]
  · rw [upd_n (by unfold mc0; omega), upd_n (by omega), upd_n (by omega), upd_n (by unfold fc; omega), upd_n (by unfold fc; omega), upd_n (by unfold fc; omega), upd_n (by unfold fc; omega), upd_n (by unfold fc; omega)]
theorem sim_event {P : LwP} {LW : List LwP} {N tp n E ch C : Nat} {u v : MS} {w : GS} {lg : Nat → En} {s : Nat → GS} {p q : Nat → Nat} {a b d r : Int32} {c1 d1 : Nat} (h : SmX P LW N tp u w n E lg s p q ch C) (hN : N ≤ 24000) (e : x_X11_event (fun u => (lnw P LW u).2.2) a b d u = some (r, v, c1, d1)) : Ok (f_event a b d) w (fun r2 w2 => r2 = r ∧ SmE P LW N tp v w2) := by
  have hn := h.le
  have h1 := h.2.1
  have hK := h.2.2.1
  have hRw := h.r0
  have hRs := h.rs
  have hI := h.inv
  have hrx := h.rx
  have hln := h.ln
  obtain ⟨⟨-, hNT⟩, ⟨mi, wc, vb, mo⟩, hb3, hql, hlr⟩ := hrx
  have hkn : ∀ c, c < 4 → Kn (u.2 0) c := fun c hc => kn_of hI hRs hc
  have hL : (fun u => (lnw P LW u).2.2) u = (lnq P LW (q n)).2.2 := by show (lnw P LW u).2.2 = _; rw [hln]
  obtain ⟨-, -, -, l29, l30, -, ⟨sg, hsg8, esg⟩, nl, hnl, eL3, hLn⟩ := hlr
  rw [esg] at l29
  rw [eL3] at l30
  unfold x_X11_event at e
  unfold f_event
  refine Ok_clR (ok_isMat a w) (fun q9 hq => ?_)
  rcases mat_cases a with ⟨e2, hno⟩ | ⟨e2, m, hm, rfl⟩
  · rw [e2] at e
    have e := anl_at (a := 0) (v := u) rfl e
    rw [if_pos rfl] at e
    cases e
    rcases hq with ⟨-, hq⟩ | ⟨rfl, -⟩
    · exact absurd hq hno
    · exact Ok_ite (fun _ => Ok_rt ⟨rfl, h.e⟩) (fun z => absurd rfl z)
  rw [e2] at e
  have e := anl_at (a := 1) (v := u) rfl e
  rw [if_neg (by decide)] at e
  rcases hq with ⟨rfl, -⟩ | ⟨-, hq⟩
  rotate_left
  · exact absurd ⟨m, hm, rfl⟩ hq
  refine Ok_ite (fun z => absurd z (by decide)) (fun _ => ?_)
  refine Ok_clR (r_side b w) (fun q9 hq => ?_)
  rcases side_cases b with ⟨e2, hno⟩ | ⟨e2, sd, hsd, rfl⟩
  · rw [e2] at e
    have e := anl_at (a := 0) (v := u) rfl e
    rw [if_pos rfl] at e
    cases e
    rcases hq with ⟨-, hq⟩ | ⟨rfl, -⟩
    · exact absurd hq hno
    · exact Ok_ite (fun _ => Ok_rt ⟨rfl, h.e⟩) (fun z => absurd rfl z)
  rw [e2] at e
  have e := anl_at (a := 1) (v := u) rfl e
  rw [if_neg (by decide)] at e
  rcases hq with ⟨rfl, -⟩ | ⟨-, hq⟩
  rotate_left
  · exact absurd ⟨sd, hsd, rfl⟩ hq
  refine Ok_ite (fun z => absurd z (by decide)) (fun _ => Ok_rfN (h.ag.im (by decide) l29) ?_)
  refine Ok_clR (ok_in _ _ _ w) (fun q9 hq => ?_)
  rw [Int32.toInt_toInt64, show (0 : Int64).toInt = 0 by decide, i64s1 sg (by omega)] at hq
  by_cases hd0 : d < 0
  · rw [if_pos hd0] at e
    cases e
    rw [Int32.lt_iff_toInt_lt, i32_0] at hd0
    rcases hq with ⟨-, hq⟩ | ⟨rfl, -⟩
    · omega
    · exact Ok_ite (fun _ => Ok_rt ⟨rfl, h.e⟩) (fun z => absurd rfl z)
  rw [if_neg hd0] at e
  have e := anl_at (p := nLW (fun u => (lnw P LW u).2.2)) (a := (lnq P LW (q n)).2.2) (v := u) (by show some _ = _; rw [hL]) e
  obtain ⟨k, hk31, rfl⟩ := nI_of hd0
  rw [nI_toInt hk31] at hq
  rw [esg] at e
  by_cases hks : k < sg
  rotate_left
  · rw [if_neg (show ¬ nI k < nI sg from fun z => hks ((nI_ltI hk31 (by omega)).mp z))] at e
    cases e
    rcases hq with ⟨-, hq⟩ | ⟨rfl, -⟩
    · omega
    · exact Ok_ite (fun _ => Ok_rt ⟨rfl, h.e⟩) (fun z => absurd rfl z)
  rw [if_pos (show nI k < nI sg from (nI_ltI hk31 (by omega)).mpr hks)] at e
  rcases hq with ⟨rfl, -⟩ | ⟨-, hq⟩
  rotate_left
  · omega
  refine Ok_ite (fun z => absurd z (by decide)) (fun _ => ?_)
  have e := anl_at (e_goesOn (u := u) hm) e
  rcases matF_of hI hRs mo hm with ⟨hfr, hon⟩ | ⟨c, i, fa, fb, hF⟩
  · rw [if_pos hfr, if_pos rfl] at e
    cases e
    exact Ok_rdN rfl hm (by decide) (h.ag.am (by decide) hon) (Ok_ite (fun _ => Ok_rt ⟨rfl, h.e⟩) (fun z => absurd rfl z))
  have hOn := hF.on
  have hc := hOn.1
  have hi := hOn.2.1
  rw [if_neg hOn.ne.1] at e
  refine Ok_rdN rfl hm (by decide) (h.ag.am (by decide) hOn.2.2.2.2.1) (Ok_ite (fun z => absurd z (nI_ne_1 (by omega))) (fun _ => ?_))
  refine Ok_rdN rfl hm (by decide) (h.ag.am (by decide) hOn.2.2.2.2.2.2.2.1) ?_
  by_cases hw0 : u.2 0 (mc0 m + 4) = 0
  rotate_left
  · rw [if_neg hw0, if_pos rfl] at e
    cases e
    exact Ok_ite (fun z => absurd z hw0) (fun _ => Ok_rt ⟨rfl, h.e⟩)
  rw [if_pos hw0, if_neg (by decide)] at e
  refine Ok_ite (fun _ => ?_) (fun z => absurd hw0 z)
  have hs8 : k < 8 := by omega
  have hkx : 5 ≤ 5 + (8 * sd + k) ∧ 5 + (8 * sd + k) < 21 := by omega
  -- the book behind the sign
  have hMt : MtO m (u.2 0) (upd (u.2 0) (mc0 m + (5 + (8 * sd + k))) (if 99 < u.2 0 (mc0 m + (5 + (8 * sd + k))) + 1 then 99 else u.2 0 (mc0 m + (5 + (8 * sd + k))) + 1)) := (MtO.rf _ _).up _ (by omega)
  obtain ⟨hR1, hO1⟩ := hRs.cell (a := 24) (k := 5 + (8 * sd + k)) (j := 16 * m + (8 * sd + k)) hI.1.1.2.2 hm hOn (if 99 < u.2 0 (mc0 m + (5 + (8 * sd + k))) + 1 then 99 else u.2 0 (mc0 m + (5 + (8 * sd + k))) + 1) (Or.inr (Or.inr (Or.inr ⟨rfl, by omega, by omega, by omega⟩)))
  have hI1 := inv_w24 hI (16 * m + (8 * sd + k)) (if 99 < u.2 0 (mc0 m + (5 + (8 * sd + k))) + 1 then 99 else u.2 0 (mc0 m + (5 + (8 * sd + k))) + 1)
  have hl1 : LFr (s n) (swd 24 (nI (16 * m + (8 * sd + k))) (if 99 < u.2 0 (mc0 m + (5 + (8 * sd + k))) + 1 then 99 else u.2 0 (mc0 m + (5 + (8 * sd + k))) + 1) (s n)) := (LFr.rf _).wd (by decide) _ _
  have hF1 := hF.up hMt hO1 (hF.wa.o (by decide)) (hF.wb.o (by decide)) (by rw [upd_n (by omega)]; exact hF.x01) (by rw [upd_n (by omega)]; exact hF.w01)
  have h24 : Am (s n) 24 (16 * m + (8 * sd + k)) (u.2 0 (mc0 m + (5 + (8 * sd + k)))) := by
    have := hOn.2.2.2.2.2.2.2.2 (8 * sd + k) (by omega)
    rw [Nat.add_assoc] at this
    exact this
  have e3 : upd (u.2 0) (mc0 m + (5 + (8 * sd + k))) (if 99 < u.2 0 (mc0 m + (5 + (8 * sd + k))) + 1 then 99 else u.2 0 (mc0 m + (5 + (8 * sd + k))) + 1) (mc0 m + 3) = u.2 0 (mc0 m + 3) := upd_n (by omega)
  have e22 : upd (u.2 0) (mc0 m + (5 + (8 * sd + k))) (if 99 < u.2 0 (mc0 m + (5 + (8 * sd + k))) + 1 then 99 else u.2 0 (mc0 m + (5 + (8 * sd + k))) + 1) (mc0 m + 2) = u.2 0 (mc0 m + 2) := upd_n (by omega)
  have e4 : upd (u.2 0) (mc0 m + (5 + (8 * sd + k))) (if 99 < u.2 0 (mc0 m + (5 + (8 * sd + k))) + 1 then 99 else u.2 0 (mc0 m + (5 + (8 * sd + k))) + 1) (mc0 m + 4) = u.2 0 (mc0 m + 4) := upd_n (by omega)
  have hsB : ∀ (u1 : MS) (B9 : Nat → Int32), B9 = u.2 0 → upd B9 (mc0 m + (5 + (8 * sd + k))) (if 99 < B9 (mc0 m + (5 + (8 * sd + k))) + 1 then 99 else B9 (mc0 m + (5 + (8 * sd + k))) + 1) = upd (u.2 0) (mc0 m + (5 + (8 * sd + k))) (if 99 < u.2 0 (mc0 m + (5 + (8 * sd + k))) + 1 then 99 else u.2 0 (mc0 m + (5 + (8 * sd + k))) + 1) := fun _ B9 y => by rw [y]
  have hgo : Ok (f_does 9 (nI m) (nI sd) (nI k)) (s n) (AskR (lnq P LW (q n)).2.2 (upd (u.2 0) (mc0 m + (5 + (8 * sd + k))) (if 99 < u.2 0 (mc0 m + (5 + (8 * sd + k))) + 1 then 99 else u.2 0 (mc0 m + (5 + (8 * sd + k))) + 1)) (swd 24 (nI (16 * m + (8 * sd + k))) (if 99 < u.2 0 (mc0 m + (5 + (8 * sd + k))) + 1 then 99 else u.2 0 (mc0 m + (5 + (8 * sd + k))) + 1) (s n)) m c i fa fb nl) := by
    rw [does_9]
    refine Ok_li ?_
    rw [(ix16 hm hsd hs8).1]
    refine Ok_rdN rfl (by omega) (by decide) h24 ?_
    rw [sgn_eq]
    refine Ok_wdN rfl (by omega) (by decide) (Ok_rdN rfl hm (by decide) (hOn.2.2.2.2.2.2.1.o (by decide)) ?_)
    refine Ok_cl (Ok.mono (r_ask hI1 hR1 hF1 hm hnl ⟨(hl1.1 30 (by decide) (by decide)).2.trans l30.1, (hl1.1 30 (by decide) (by decide)).1.trans l30.2⟩ ?_ (fun l hl => (hLn l hl).fr hl1)) (fun r v y => Ok_rt y))
    rw [e3, e22]
    refine ⟨fun z y => ?_, fun z => ?_⟩
    · rcases y with y | y
      · rw [z] at y; exact absurd y (by decide)
      · exact mi m hm hOn.ne.1 hw0 z y
    · exact hF.x01.resolve_right (fun y => z (Or.inl y))
  have hIok := ok_event hI m sd k hm hsd hs8 hOn.ne.2
  rw [← does_9] at hIok
  generalize hx : (if 99 < u.2 0 (mc0 m + (5 + (8 * sd + k))) + 1 then (99 : Int32) else u.2 0 (mc0 m + (5 + (8 * sd + k))) + 1) = x at *
  generalize hB1 : upd (u.2 0) (mc0 m + (5 + (8 * sd + k))) x = B1 at *
  obtain ⟨r0, sv, hd, hask⟩ := hgo
  have hIv : Inv sv := by
    obtain ⟨r9, w9, q9, q8⟩ := hIok
    rw [hd] at q9
    cases q9
    exact q8
  refine sim_fin h hN (by decide) hd hIv ?_
  have hcl : CQ (anl x_X1_isFull (fun r_19 => (if r_19 = 0 then anl (x_X1_openEntry) (fun r_23 => acl (x_X3_giveSign (nI m) (nI sd) (nI k)) (fun r_26 => anl (nLW (fun u => (lnw P LW u).2.2)) (fun L_34 => acl (x_X3_ask L_34 (nI m)) (fun r_39 => anl (x_X3_classOn (nI m)) (fun r_48 => anl (x_X0_settle r_48) (fun r_51 => art r_39)))))) else art (-4)))) u (fun (r : Int32) (v : MS) => (n = 500 ∧ r = -4 ∧ v = u) ∨ (n < 500 ∧ EntS u v n ch ∧ (∀ c, c < 4 → Bd (v.2 0) c v) ∧ ((r = -1 ∧ (∀ l, l < nl → ∀ sd, sd < 2 → ¬ hvL (lnq P LW (q n)).2.2 B1 m l sd = 1) ∧ v.2 0 = B1) ∨ ∃ l d, l < nl ∧ d < 2 ∧ FstL (fun l sd => hvL (lnq P LW (q n)).2.2 B1 m l sd = 1) l d ∧ r = nI l ∧ v.2 0 = finB B1 c i m fa fb (nI (if d = 0 then fa else fb)) (nI l) ((lnq P LW (q n)).2.2.2 2 l)))) := by
    refine CQ_full h1 hn (fun h5 => ?_) (fun h5 => Or.inl ⟨h5, rfl, rfl⟩)
    refine CQ_open hK h5 h1 (fun _ v1 hE hK1 hB9 hS1 => ?_)
    refine CQ_sign (Pt.rf hK1) hB9 hm hsd hs8 (fun _ v2 p2 b2 => ?_)
    have b2 : v2.2 0 = B1 := by
      rw [b2, hx, hB1]
    have hlv : (lnw P LW v2).2.2 = (lnq P LW (q n)).2.2 := by
      rw [lnw_q (q := q n) ?_ hql h.2.2.2.2.2.2.2.2.2]
      rw [b2, ← hb3]
      exact hMt.lo (by decide)
    refine CQ_rd (p := nLW (fun u => (lnw P LW u).2.2)) (a := (lnq P LW (q n)).2.2) (by show some _ = _; rw [← hlv]) ?_
    refine CQ_cl (CQ.mono (CQ_ask (hE.s.pt p2) b2 hF1 hm hnl eL3 (fun l hl => (hLn l hl).fr hl1)) (fun r3 v3 y => ?_))
    obtain ⟨hE3, hS3, hy⟩ := y
    have hrow : ∀ c2, c2 < 4 → Bd (u.2 0) c2 v3 := rows_same h.bd ⟨((hS3.2 13 (by decide)).trans (p2.2.2 13 (by decide))).trans (hS1.2 13 (by decide)), ((hS3.2 14 (by decide)).trans (p2.2.2 14 (by decide))).trans (hS1.2 14 (by decide)), ((hS3.2 15 (by decide)).trans (p2.2.2 15 (by decide))).trans (hS1.2 15 (by decide)), ((hS3.2 16 (by decide)).trans (p2.2.2 16 (by decide))).trans (hS1.2 16 (by decide))⟩
    rcases hy with ⟨y1, y2, y3⟩ | ⟨l, d9, y1, y2, y3, y4, y5⟩
    · have hq : BqM c i m (fun _ => False) (u.2 0) (v3.2 0) := by rw [y3]; exact hMt.q
      exact CQ_ends (B0 := u.2 0) hE3 hm hc hi hq (hkn c hc) (by rw [y3]; exact hO1.2.2.1) hrow (fun v4 hE4 hB4 hb4 => CQ_rt (Or.inr ⟨h5, hE4, hb4, Or.inl ⟨y1, y2, hB4.trans y3⟩⟩))
    · have hq : BqM c i m (fun f => f = fa ∨ f = fb) (u.2 0) (v3.2 0) := by rw [y5]; exact hMt.tr (finB_q hF.a96 hF.b96)
      exact CQ_ends (B0 := u.2 0) hE3 hm hc hi hq (hkn c hc) (by rw [y5, (finB_m0 hc hi hF.a96 hF.b96).1]; exact hO1.2.2.1) hrow (fun v4 hE4 hB4 hb4 => CQ_rt (Or.inr ⟨h5, hE4, hb4, Or.inr ⟨l, d9, y1, y2, y3, y4, hB4.trans y5⟩⟩))
  refine (hcl r v c1 d1 e).imp (fun z => z) (fun z => ?_)
  obtain ⟨z1, z2, z3, z4⟩ := z
  rcases hask with ⟨a1, a2, f9, mk9, a3⟩ | ⟨l, d9, a1, a2, a3, a4, a5, a6⟩
  · rcases z4 with ⟨b1, b2, b3⟩ | ⟨l2, d2, b1, b2, b3, -⟩
    · refine ⟨z1, b1.trans a1.symm, z2, ?_, z3⟩
      rw [b3]
      have hRv : R0 B1 sv := by rw [a3]; exact hR1.s38 f9 mk9
      refine h.rx.mt hIv hRv hc hi hm hMt ?_ (fun y1 y2 => ?_)
      · rw [a3]; exact hl1.trans (LFr.s38 _ f9 mk9)
      · rw [e4] at y1
        rw [e3] at y2
        rw [e22]
        exact mi m hm hOn.ne.1 y1 y2
    · exact absurd b3.1 (a2 l2 b1 d2 b2)
  · rcases z4 with ⟨b1, b2, b3⟩ | ⟨l2, d2, b1, b2, b3, b4, b5⟩
    · exact absurd a3.1 (b2 l a1 d9 a2)
    · obtain ⟨el, ed⟩ := a3.un b3 a2 b2
      subst el
      subst ed
      refine ⟨z1, b4.trans a4.symm, z2, ?_, z3⟩
      rw [b5]
      refine h.rx.fin hI hIv hMt a5 hc hi hm hF.inn (hl1.trans a6) hF.k2 hF.mo hF.a96 hF.b96 hF.fa hF.fb ?_
      by_cases hz : d9 = 0
      · rw [if_pos hz]; exact Or.inl rfl
      · rw [if_neg hz]; exact Or.inr rfl

