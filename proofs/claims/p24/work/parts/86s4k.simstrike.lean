/-! ===== strike, both sides ===== -/
theorem st3_iff {m a b : Int32} : stV m a b = 3 ↔ m = 3 := by
  unfold stV
  by_cases h : m = 0
  · rw [if_pos h, h]
    refine ⟨fun z => ?_, fun z => absurd z (by decide)⟩
    by_cases h1 : a = -2 ∨ b = -2
    · rw [if_pos h1] at z; exact absurd z (by decide)
    · rw [if_neg h1] at z
      by_cases h2 : a = -1 ∨ b = -1
      · rw [if_pos h2] at z; exact absurd z (by decide)
      · rw [if_neg h2] at z; exact absurd z (by decide)
  · rw [if_neg h]
theorem SI.of {P : LwP} {LW : List LwP} {q c n : Nat} {B : Nat → Int32} {w : GS} (h : RX P LW q B w) (hI : Inv w) (hD : Dr w c n) : SI B w c n n := by
  have hc := hD.c4
  have hnn := nFi_dr h.1.1 hD
  refine ⟨hI, h.1.1, hD, h.2.1, fun hk => (((h.1.2 c hc).1) hk).2.2.1, fun i hi _ hs => ?_⟩
  have h37 : i < 37 := by have := hD.n37; omega
  exact hs.2 ((h.1.2 c hc).2 i (by omega) h37 (by unfold mkF; rw [if_pos h37]; exact hs.1))
theorem SI.rx {P : LwP} {LW : List LwP} {q c n : Nat} {B B2 : Nat → Int32} {w v : GS} (h : RX P LW q B w) (hS : SI B2 v c n n) (hF : FrS c B B2) (hl : LFr w v) : RX P LW q B2 v := by
  obtain ⟨hIv, hRv, hD, hM, hP, hSt⟩ := hS
  have hc := hD.c4
  have hnn := nFi_dr hRv hD
  refine ⟨⟨hRv, fun c2 hc2 => ?_⟩, hM, (hF.lo (by decide)).trans h.2.2.1, h.2.2.2.1, h.2.2.2.2.fr hl⟩
  have hS2 : NSt B2 c2 := by
    by_cases he : c2 = c
    · rw [he]
      intro i hi h37 hm
      rw [hnn] at hi
      unfold mkF at hm
      rw [if_pos h37] at hm
      exact Classical.byContradiction (fun y => hSt i hi hi ⟨hm, y⟩)
    · exact (h.1.2 c2 hc2).2.to (hF.acc hc hc2 he) (fun i hi => ⟨hF.fgt hc hc2 hi (by decide) (Or.inl (by decide)), hF.fgt hc hc2 hi (by decide) (Or.inl (by decide))⟩)
  refine ⟨NT.mk hIv hRv hc2 hS2 hM.2.1 (fun hk => ?_), hS2⟩
  rw [(hF.zn hc2).2.1] at hk
  rw [(hF.zn hc2).1]
  exact ((h.1.2 c2 hc2).1 hk).2.2.1.to (hF.pl hc2) (fun f hf => hF.plc hf)
theorem sim_strike {P : LwP} {LW : List LwP} {N tp n E ch C : Nat} {u v : MS} {w : GS} {lg : Nat → En} {s : Nat → GS} {p q : Nat → Nat} {a b r : Int32} {c1 d1 : Nat} (h : SmX P LW N tp u w n E lg s p q ch C) (hN : N ≤ 24000) (e : x_X11_strike a b u = some (r, v, c1, d1)) : Ok (f_strike a b) w (fun r2 w2 => r2 = r ∧ SmE P LW N tp v w2) := by
  have hn := h.le
  have h1 := h.2.1
  have hK := h.2.2.1
  have hRw := h.r0
  have hRs := h.rs
  have hI := h.inv
  have hIw := h.1.inv
  have h13 := h.1.2.2.2.2.2.2.2.2.2.2
  have hrx := h.rx
  obtain ⟨⟨-, hNT⟩, -⟩ := hrx
  have hkn : ∀ c, c < 4 → Kn (u.2 0) c := fun c hc => kn_of hI hRs hc
  unfold x_X11_strike at e
  unfold f_strike
  rcases c_has (B := u.2 0) rfl hkn a b with ⟨e1, c, i, hc, rfl, rfl, hi⟩ | ⟨e1, hno⟩
  rotate_left
  · have e := anl_at e1 e
    rw [if_pos rfl] at e
    cases e
    refine Ok_clR (r_isFight hRw _ _ (hIw.kd h13)) (fun q hq => ?_)
    rcases hq with ⟨-, hq⟩ | ⟨rfl, -⟩
    · exact absurd hq hno
    · exact Ok_ite (fun _ => Ok_rt ⟨rfl, h.e⟩) (fun z => absurd rfl z)
  have e := anl_at e1 e
  rw [if_neg (by decide)] at e
  have h37 := (hkn c hc).n37
  have hi37 : i < 37 := by omega
  refine Ok_clR (r_isFight hRw _ _ (hIw.kd h13)) (fun q9 hq => ?_)
  rcases hq with ⟨rfl, -⟩ | ⟨-, hq⟩
  rotate_left
  · exact absurd ⟨c, i, hc, rfl, rfl, hi⟩ hq
  refine Ok_ite (fun z => absurd z (by decide)) (fun _ => ?_)
  have hD := dr_of hI hRs hc hi
  obtain ⟨rw1, rw2, rw3, rw4⟩ := (h.bd c hc).rows hRs hD hi
  have hst := bSt_v hRs (hNT c hc).1 hD hi
  have e := anl_at (e_stateOf hc hi37 u) e
  rw [rw4, hst] at e
  have hmkB : mkF (u.2 0) c i = u.2 0 (fc c i) := by
    unfold mkF
    rw [if_pos hi37]
  rw [ix40]
  have h15 : ∃ x, Am w 15 (40 * c + i) x ∧ (x = 2 ↔ u.2 0 (fc c i) = 3) := by
    rcases hRw.2.2.2.2.1 c hc i hi37 with ⟨z, y⟩ | ⟨⟨h2, w15, -⟩ | ⟨h3, w15, -⟩, -⟩
    · exact ⟨0, y, fun q => absurd q (by decide), fun q => absurd (z.symm.trans q) (by decide)⟩
    · exact ⟨1, w15, fun q => absurd q (by decide), fun q => absurd (h2.symm.trans q) (by decide)⟩
    · exact ⟨2, w15, fun _ => h3, fun _ => rfl⟩
  obtain ⟨x, hx15, hx2⟩ := h15
  refine Ok_rdN rfl (by omega) (by decide) hx15 ?_
  by_cases h3 : u.2 0 (fc c i) = 3
  rotate_left
  · rw [if_neg (fun z => h3 (hmkB.symm.trans (st3_iff.mp z)))] at e
    cases e
    exact Ok_ite (fun z => absurd (hx2.mp z) h3) (fun _ => Ok_rt ⟨rfl, h.e⟩)
  rw [if_pos (st3_iff.mpr (hmkB.trans h3))] at e
  refine Ok_ite (fun _ => ?_) (fun z => absurd (hx2.mpr h3) z)
  have hSI := SI.of h.rx hI hD
  generalize hnn : nFi (u.2 0) c = nn at *
  obtain ⟨r0, sv, hd0, g', er0, hSv, eg, hFv, hlf⟩ := r_struck hSI hi h3
  have hd : f_does 12 (nI c) (nI i) 0 (s n) = some (r0, sv) := by
    rw [does_12]
    show pcl (f_struck (nI c) (nI i)) (fun r => prt r) (s n) = _
    unfold pcl
    rw [hd0]
    rfl
  refine sim_fin h hN (by decide) hd hSv.1 ?_
  have hcl : CQ (anl x_X1_isFull (fun r_9 => (if r_9 = 0 then anl (x_X1_openEntry) (fun r_13 => acl (x_X3_strikeFrom (nI c) (nI i)) (fun r_16 => art r_16)) else art (-4)))) u (fun (r : Int32) (v : MS) => (n = 500 ∧ r = -4 ∧ v = u) ∨ (n < 500 ∧ r = nI (strk c (nn - (i + 1)) (i + 1) (drB (u.2 0) c i) 1).2 ∧ EntS u v n ch ∧ v.2 0 = (strk c (nn - (i + 1)) (i + 1) (drB (u.2 0) c i) 1).1 ∧ ∀ c, c < 4 → Bd (v.2 0) c v)) := by
    refine CQ_full h1 hn (fun h5 => ?_) (fun h5 => Or.inl ⟨h5, rfl, rfl⟩)
    refine CQ_open hK h5 h1 (fun _ v1 hE hK1 hB1 hS1 => ?_)
    obtain ⟨f1, hf1⟩ : ∃ f, fuel = f + 1 := ⟨fuel - 1, by unfold fuel; omega⟩
    refine CQ_cl (CQ.mono (?_ : CQ (x_X3_strikeFrom (nI c) (nI i)) v1 (fun r v => r = nI (strk c (nn - (i + 1)) (i + 1) (drB (u.2 0) c i) 1).2 ∧ v.2 0 = (strk c (nn - (i + 1)) (i + 1) (drB (u.2 0) c i) 1).1 ∧ EntS u v n ch ∧ ∀ c, c < 4 → Bd (v.2 0) c v)) (fun r v y => CQ_rt (Or.inr ⟨h5, y.1, y.2.2.1, y.2.1, y.2.2.2⟩)))
    unfold x_X3_strikeFrom
    rw [hf1]
    unfold xl_X3_strikeFrom_8
    refine CQ_ite (fun z => absurd z (by decide)) (fun _ => CQ_ite (fun z => absurd z (nI_ne_1 (by omega))) (fun _ => ?_))
    have hSi : SI (u.2 0) (s n) c nn i := ⟨hSI.1, hSI.2.1, hSI.2.2.1, hSI.2.2.2.1, hSI.2.2.2.2.1, fun j hj hjn => hSI.2.2.2.2.2 j hjn hjn⟩
    have hmk : ¬ u.2 0 (fc c i) = 0 := by rw [h3]; decide
    obtain ⟨w2, hS2, hF2⟩ := hSi.next hi hmk
    refine CQ_drop (Pt.rf hK1) hB1 hSi hi hmk (fun _ v2 p2 b2 => CQ_li ?_)
    have hrow : ∀ c2, c2 < 4 → Bd (u.2 0) c2 v2 := rows_same h.bd ⟨(p2.2.2 13 (by decide)).trans (hS1.2 13 (by decide)), (p2.2.2 14 (by decide)).trans (hS1.2 14 (by decide)), (p2.2.2 15 (by decide)).trans (hS1.2 15 (by decide)), (p2.2.2 16 (by decide)).trans (hS1.2 16 (by decide))⟩
    rw [← b2] at hF2 hS2
    rw [← b2]
    refine CQ_settle (B0 := u.2 0) (hE.s.pt p2) hc (hF2.kn hc (hkn c hc)) (fun c2 hc2 hne => hF2.acc hc hc2 hne) hrow (fun v3 hE3 hB3 hb3 => ?_)
    have hk3 : Kn (v3.2 0) c := by rw [hB3]; exact hF2.kn hc (hkn c hc)
    have hn3 : nFi (v3.2 0) c = nn := by rw [hB3]; exact nFi_dr hS2.2.1 hS2.2.2.1
    rw [← hB3] at hS2
    rw [← hB3]
    have eps : (0 : Int32) + 1 = nI 1 := rfl
    rcases c_stale (u := v3) rfl hc hk3 hn3 (hb3 c hc) with e9 | ⟨e9, hno2⟩ | ⟨j2, hj2, e9, hs2, hno2⟩
    · refine CQ_nl (fun r v4 e => ?_)
      rw [e9] at e
      cases e
    · refine CQ_rd e9 (CQ_li ?_)
      rw [eps]
      exact c_strike_lp hc (nI i) f1 v3 w2 (v3.2 0) (i + 1) 1 1 (-1) rfl hS2 (by omega) (by omega) hE3 hb3 (Or.inl ⟨rfl, hno2⟩)
    · refine CQ_rd e9 (CQ_li ?_)
      rw [eps]
      refine c_strike_lp hc (nI i) f1 v3 w2 (v3.2 0) (i + 1) 1 1 (nI j2) rfl hS2 (by omega) (by omega) hE3 hb3 (Or.inr ⟨j2, hj2, ?_, rfl, hs2, hno2⟩)
      rcases Nat.lt_or_ge j2 (i + 1) with z | z
      · exact absurd hs2 (hS2.2.2.2.2.2 j2 z hj2)
      · exact z
  refine (hcl r v c1 d1 e).imp (fun z => z) (fun z => ?_)
  obtain ⟨z1, z2, z3, z4, z5⟩ := z
  refine ⟨z1, z2.trans ?_, z3, ?_, z5⟩
  · rw [er0, eg]
  · rw [z4]
    exact SI.rx h.rx hSv hFv hlf

