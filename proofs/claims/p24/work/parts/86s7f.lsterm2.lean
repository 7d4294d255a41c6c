/-! ===== a term, in step: with the reference ===== -/
theorem RP.fr {T : Nat → Nat} {N a b : Nat} {v w : GS} (h : RP T N a b v) (hi : ∀ k, (k = 41 ∨ (43 ≤ k ∧ k ≤ 47)) → w.1.1 k = v.1.1 k ∧ w.2.1 k = v.2.1 k) (ha : ∀ k, (k = 40 ∨ k = 56) → w.1.2 k = v.1.2 k ∧ w.2.2 k = v.2.2 k) : RP T N a b w := by
  obtain ⟨⟨⟨q1, q2, q3, q4⟩, q5, q6⟩, p2, p3, p4, p5, p6, p7, p8⟩ := h
  have im : ∀ j y, (j = 41 ∨ (43 ≤ j ∧ j ≤ 47)) → Im v j y → Im w j y := fun j y hj z => ⟨(hi j hj).2.trans z.1, (hi j hj).1.trans z.2⟩
  have e41 := hi 41 (Or.inl rfl)
  have q2' : w.1.1 41 = 0 ∨ ∀ j, j < N → w.2.2 56 j = true := by
    rcases q2 with z | z
    · exact Or.inl (e41.1.trans z)
    · refine Or.inr (fun j hj => ?_)
      rw [(ha 56 (Or.inr rfl)).2]
      exact z j hj
  refine ⟨⟨⟨e41.2.trans q1, q2', im _ _ (by decide) q3, q4⟩, trivial, fun i hi => ⟨(q6 i hi).1, ?_⟩⟩, p2, p3, p4, im _ _ (by decide) p5, im _ _ (by decide) p6, im _ _ (by decide) p7, fun z => im _ _ (by decide) (p8 z)⟩
  rw [← (q6 i hi).2]
  exact rz_fr e41.1 (ha 40 (Or.inl rfl)).1 (ha 56 (Or.inr rfl)).1
theorem RP.pv {T : Nat → Nat} {N a b : Nat} {v : GS} (h : RP T N a b v) (e kd f : Nat) : RP T N a b (pv v e kd f) := h.fr (fun k hk => swf_o (w := swd 37 (nI e) (nI f) (swd 36 (nI e) (nI (opK kd)) v)) (show ¬ k = 31 by omega)) (fun k hk => by
  rcases hk with rfl | rfl
  · exact ⟨rfl, rfl⟩
  · exact ⟨rfl, rfl⟩)
theorem RP.wf {T : Nat → Nat} {N a b : Nat} {v : GS} (h : RP T N a b v) {k : Nat} (x : Int32) (hk : ¬ (k = 41 ∨ (43 ≤ k ∧ k ≤ 47))) : RP T N a b (swf k x v) := h.fr (fun j hj => swf_o (fun z => hk (by rw [← z]; exact hj))) (fun _ _ => ⟨rfl, rfl⟩)
section
variable {T : Nat → Nat} {N ns : Nat} {st sz : Nat → Nat} {u0 : MS} {v0 : GS} {a b m h o sg cm : Nat} {cs : List (Nat × Nat)} {S : List Nat}
theorem nm_syn {p kd : Nat} (hE : TkE T N a b) (hk : ¬ tkk T N a b = 2) : To (AN T N u0 a b cs S p sg cm kd) (FP 1 a) := by
  rintro c u ⟨g, n, rfl, hn, hC, hX, h13⟩ Q hq
  have hle := tkk_le a b hE
  unfold LQ
  refine CN_RFx hC.2.2.2.2.2.2.1 (tk14 hX.2.1 ?_)
  unfold x_X5_takeTermName
  refine CN_ite (fun z => absurd ((nI_eq (a := tkk T N a b) (b := 2) (by omega) (by decide)).mp z) hk) (fun _ => CN_app (c_fail 1) (fun _ v y => CN_rt ?_))
  subst y
  exact run_fault ⟨(siO (by decide)).trans (siE _ _ _), (siE _ _ _).trans hC.2.2.2.2.1⟩ ⟨by decide, by decide⟩ hq
theorem nm_none {p kd : Nat} (hSC : SgC ns st sz u0) (hSN : SgN N ns st sz) (hk : tkk T N a b = 2) (hF : FindR T a b ns st sz (-1)) : To (AN T N u0 a b cs S p sg cm kd) (FP 2 a) := by
  rintro c u ⟨g, n, rfl, hn, hC, hX, h13⟩ Q hq
  have hSu := hSC.sm hX.1 (by decide) (by decide) (by decide)
  unfold LQ
  refine CN_RFx hC.2.2.2.2.2.2.1 (tk14 hX.2.1 ?_)
  rw [hk]
  unfold x_X5_takeTermName
  refine CN_ite (fun _ => CN_app (c_find hC hSu hSN) (fun r v y => ?_)) (fun z => absurd rfl z)
  obtain ⟨rfl, y⟩ := y
  have := y.un hF
  subst this
  refine CN_ite (fun _ => CN_app (c_fail 2) (fun _ v y => CN_rt ?_)) (fun z => absurd rfl z)
  subst y
  exact run_fault ⟨(siO (by decide)).trans (siE _ _ _), (siE _ _ _).trans hC.2.2.2.2.1⟩ ⟨by decide, by decide⟩ hq
theorem nm_some {p kd s a2 b2 : Nat} (hSC : SgC ns st sz u0) (hSN : SgN N ns st sz) (hk : tkk T N a b = 2) (hs8 : s < 8) (hF : FindR T a b ns st sz (nI s)) (hl : cs.length + 1 + (sgl sg).length ≤ 300) (hsg : sg < 100) (hR : Run tBl T N b a2) (hE2 : TkE T N a2 b2) : To (AN T N u0 a b cs S (p + 1) sg cm kd) (TPC T N u0 cs S p sg cm (a2, b2, kd, s)) := by
  rintro c u ⟨g, n, rfl, hn, hC, hX, h13⟩ Q hq
  have hSu := hSC.sm hX.1 (by decide) (by decide) (by decide)
  unfold LQ
  refine CN_RFx hC.2.2.2.2.2.2.1 (tk14 hX.2.1 ?_)
  rw [hk]
  unfold x_X5_takeTermName
  refine CN_ite (fun _ => CN_app (c_find hC hSu hSN) (fun r v y => ?_)) (fun z => absurd rfl z)
  obtain ⟨e0, y⟩ := y
  rw [e0]
  have := y.un hF
  subst this
  refine CN_ite (fun z => absurd z (nI_ne_1 (by omega))) (fun _ => CN_RFx h13 (CN_app (c_find hC hSu hSN) (fun r v y => ?_)))
  obtain ⟨e0, y⟩ := y
  rw [e0]
  have := y.un hF
  subst this
  refine CN_app (c_emitTerm hX.2.2.2.1 hX.2.2.2.2.2.2.2.2.1 hsg hl) (fun _ w y => ?_)
  obtain ⟨y1, y2, y3⟩ := y
  have hX2 := (hX.emit y1 y2 y3).w12 15
  have hC2 := (hC.sm y1 (fun k h1 h2 h3 => by simp at h3; omega) (by decide)).sm (LI := [12]) (LA := []) (v := si w 12 (nI 15)) (Same_si (by decide)) (fun k h1 h2 h3 => by simp at h3; omega) (by decide)
  refine CN_WFx (CN_rt ?_)
  exact on_next hC2 (by omega) hn hX2 (by decide) hR hE2 (fun g2 n2 u2 y1 y2 y3 _ => hq _ _ ⟨g2, n2, rfl, y1, y2, y3⟩)
theorem r_isK {v : GS} (hP : RP T N a b v) (k j : Nat) (hk1 : 1 ≤ k) (hk : k < 25) (hj : kc k = j) : Rd (f_is k) v (fun r => (tkk T N a b = j ∧ r = 1) ∨ (¬ tkk T N a b = j ∧ r = 0)) := Rd.mono (r_is hP k hk1 hk) (fun r hr => by
  rw [hj] at hr
  by_cases z : tkk T N a b = j
  · rw [if_pos z] at hr; exact Or.inl ⟨z, hr⟩
  · rw [if_neg z] at hr; exact Or.inr ⟨z, hr⟩)
theorem ls_term {v : GS} (hSC : SgC ns st sz u0) (hSV : SgV T ns st sz v0) (hSN : SgN N ns st sz) (hm : m < 17) (hl : cs.length + h ≤ 300) (hsg : sg < 100) (hsh : (sgl sg).length ≤ h) (hP : RP T N a b v) (hV : XV v0 cs h o v) : Ok f_readTerm v (fun ro w => LSd (AT T N u0 a b m cs S (cs.length + h) sg cm) (TPV T N v0 cs h o) (TPC T N u0 cs S (cs.length + h) sg cm) ro w) := by
  have hE := hP.2.1
  have h44 := hP.2.2.2.2.1
  have hw := tkk_word hE
  have hr4 : rkk T N a b ≤ 4 := by
    unfold rkk
    repeat' split
    all_goals decide
  have full : (tkk T N a b = 3 ∨ tkk T N a b = 14 ∨ tkk T N a b = 15 ∨ tkk T N a b = 16) → cs.length + h = 300 → LSd (AT T N u0 a b m cs S (cs.length + h) sg cm) (TPV T N v0 cs h o) (TPC T N u0 cs S (cs.length + h) sg cm) none (wr v 3 a) := fun hk hf => Or.inl ⟨rfl, 3, a, by decide, by decide, wr_f _ _ _, to_full hE hk hf⟩
  have val : ∀ kd f : Nat, tkk T N a b = kd → ((kd = 3 ∧ f = vl T a (min 4 (b - a))) ∨ (kd = 16 ∧ f = 0)) → cs.length + h < 300 → ∀ k x : Int32, k = nI (opK kd) → x = nI f → Ok (pcl (f_put k x) (fun _ => pcl f_scan (fun _ => prt (some (0 : Int32))))) v (fun ro w => LSd (AT T N u0 a b m cs S (cs.length + h) sg cm) (TPV T N v0 cs h o) (TPC T N u0 cs S (cs.length + h) sg cm) ro w) := fun kd f hk hkd hlt k x e1 e2 => by
    refine Ok_cl (Ok.mono (r_put hV.2.1.1 (by omega) e1 e2) (fun _ w y => ?_))
    subst y
    have hV2 := hV.put (kd := kd) (f := f) (by omega)
    have hP2 := hP.pv cs.length kd f
    refine Ok_cl (Ok.mono (r_scan hP2) (fun _ w y => Ok_rt ?_))
    obtain ⟨y1, a2, b2, y2, y3⟩ := y
    refine Or.inr ⟨rfl, (a2, b2, kd, f), ⟨y3, hV2.sc y1, hlt, ?_⟩, to_val hE hk hkd hlt (by omega) hsg hm y2 y3.2.1⟩
    rcases hkd with ⟨z1, z2⟩ | ⟨z1, z2⟩
    · exact Or.inl ⟨z1, by rw [z2]; exact num_lt hE (by omega)⟩
    · exact Or.inr (Or.inl ⟨z1, z2⟩)
  have name : ∀ kd : Nat, tkk T N a b = kd → (kd = 14 ∨ kd = 15) → ∀ k : Int32, k = nI (opK kd) → Ok (pcl f_counts (fun r_16 => pot r_16 (prt none) (fun r_19 => pcl f_scan (fun r_20 => pcl f_name (fun r_23 => pot r_23 (prt none) (fun r_26 => pcl f_findSign (fun r_27 => (if r_27 = (-1) then prf 44 (fun x_37 => pcl (f_wrong 2 x_37) (fun r_39 => prt none)) else pcl (f_put k r_27) (fun r_31 => pcl f_scan (fun r_34 => prt (some 0))))))))))) v (fun ro w => LSd (AT T N u0 a b m cs S (cs.length + h) sg cm) (TPV T N v0 cs h o) (TPC T N u0 cs S (cs.length + h) sg cm) ro w) := fun kd hk hkd k e1 => by
    refine Ok_cl (Ok.mono (r_counts hV h44 hl) (fun ro w y => ?_))
    rcases y with ⟨y1, rfl, rfl⟩ | ⟨y1, rfl, rfl⟩
    · exact Ok_otN (Ok_rt (full (by omega) y1))
    refine Ok_otS (Ok_cl (Ok.mono (r_scan hP) (fun _ w2 y => ?_)))
    obtain ⟨s1, a2, b2, s2, hP2⟩ := y
    have hV2 := hV.sc s1
    have hTo : To (AT T N u0 a b m cs S (cs.length + h) sg cm) (AN T N u0 a2 b2 cs S (cs.length + h + 1) sg cm kd) := to_whose hk hkd y1 hm s2 hP2.2.1
    refine Ok_cl (Ok.mono (r_name hP2) (fun ro w3 y => ?_))
    rcases y with ⟨z1, rfl, rfl⟩ | ⟨z1, rfl, rfl⟩
    rotate_left
    · exact Ok_otN (Ok_rt (Or.inl ⟨rfl, 1, a2, by decide, by decide, wr_f _ _ _, hTo.trans (nm_syn hP2.2.1 z1)⟩))
    refine Ok_otS (Ok_clR (r_find hP2 (hSV.rv hV2.1) hSN) (fun r hF => ?_))
    have hF2 := hF
    rcases hF2 with ⟨rfl, -⟩ | ⟨s, hs, rfl, -⟩
    · refine Ok_ite (fun _ => Ok.mono (r_wrong 2 rfl hP2.2.2.2.2.1) (fun ro w4 y => ?_)) (fun z => absurd rfl z)
      obtain ⟨rfl, rfl⟩ := y
      exact Or.inl ⟨rfl, 2, a2, by decide, by decide, wr_f _ _ _, hTo.trans (nm_none hSC hSN z1 hF)⟩
    · have hs8 : s < 8 := by have := hSN.1; omega
      refine Ok_ite (fun z => absurd z (nI_ne_1 (by omega))) (fun _ => ?_)
      refine Ok_cl (Ok.mono (r_put hV2.2.1.1 (by omega) e1 rfl) (fun _ w4 y => ?_))
      subst y
      have hV3 := hV2.put (kd := kd) (f := s) (by omega)
      have hP3 := hP2.pv cs.length kd s
      refine Ok_cl (Ok.mono (r_scan hP3) (fun _ w5 y => Ok_rt ?_))
      obtain ⟨t1, a3, b3, t2, t3⟩ := y
      exact Or.inr ⟨rfl, (a3, b3, kd, s), ⟨t3, hV3.sc t1, y1, Or.inr (Or.inr ⟨hkd, hs8⟩)⟩, hTo.trans (nm_some hSC hSN z1 hs8 hF (by omega) hsg t2 t3.2.1)⟩
  unfold f_readTerm
  refine Ok_rfN hP.2.2.2.2.2.2.1 (Ok_ite (fun z => ?_) (fun z => ?_))
  · have z2 := (nI_eq (a := rkk T N a b) (b := 2) (by omega) (by decide)).mp z
    have hk := hw.2.mp z2
    refine Ok_cl (Ok.mono (r_counts hV h44 hl) (fun ro w y => ?_))
    rcases y with ⟨y1, rfl, rfl⟩ | ⟨y1, rfl, rfl⟩
    · exact Ok_otN (Ok_rt (full (Or.inl hk) y1))
    · exact Ok_otS (Ok_rfN (hP.2.2.2.2.2.2.2 z2) (val 3 _ hk (Or.inl ⟨rfl, rfl⟩) y1 _ _ rfl rfl))
  have n3 : ¬ tkk T N a b = 3 := fun y => z (by rw [hw.2.mpr y]; rfl)
  refine Ok_clR (r_isK hP 13 16 (by decide) (by decide) rfl) (fun r hr => ?_)
  rcases hr with ⟨hk, rfl⟩ | ⟨n16, rfl⟩
  · refine Ok_ite (fun z => absurd z (by decide)) (fun _ => Ok_cl (Ok.mono (r_counts hV h44 hl) (fun ro w y => ?_)))
    rcases y with ⟨y1, rfl, rfl⟩ | ⟨y1, rfl, rfl⟩
    · exact Ok_otN (Ok_rt (full (Or.inr (Or.inr (Or.inr hk))) y1))
    · exact Ok_otS (val 16 0 hk (Or.inr ⟨rfl, rfl⟩) y1 _ _ rfl rfl)
  refine Ok_ite (fun _ => ?_) (fun z => absurd rfl z)
  refine Ok_clR (r_isK hP 11 14 (by decide) (by decide) rfl) (fun r hr => ?_)
  rcases hr with ⟨hk, rfl⟩ | ⟨n14, rfl⟩
  · refine Ok_ite (fun z => absurd z (by decide)) (fun _ => Ok_clR (r_isK hP 11 14 (by decide) (by decide) rfl) (fun r hr => ?_))
    rcases hr with ⟨-, rfl⟩ | ⟨q, -⟩
    · exact Ok_ite (fun z => absurd z (by decide)) (fun _ => name 14 hk (Or.inl rfl) _ rfl)
    · exact absurd hk q
  refine Ok_ite (fun _ => ?_) (fun z => absurd rfl z)
  refine Ok_clR (r_isK hP 12 15 (by decide) (by decide) rfl) (fun r hr => ?_)
  rcases hr with ⟨hk, rfl⟩ | ⟨n15, rfl⟩
  · refine Ok_ite (fun z => absurd z (by decide)) (fun _ => Ok_clR (r_isK hP 11 14 (by decide) (by decide) rfl) (fun r hr => ?_))
    rcases hr with ⟨q, -⟩ | ⟨-, rfl⟩
    · omega
    · exact Ok_ite (fun _ => name 15 hk (Or.inr rfl) _ rfl) (fun z => absurd rfl z)
  refine Ok_ite (fun _ => Ok.mono (r_wrong 1 rfl h44) (fun ro w y => ?_)) (fun z => absurd rfl z)
  obtain ⟨rfl, rfl⟩ := y
  exact Or.inl ⟨rfl, 1, a, by decide, by decide, wr_f _ _ _, to_bad ⟨n3, n14, n15, n16⟩ hE⟩
end
