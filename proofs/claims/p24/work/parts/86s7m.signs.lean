/-! ===== head and signs, in step ===== -/
theorem hvv_o {u : MS} {m : Nat} {x : Int32} (h : ¬ m = 1 ∧ ¬ m = 4) : hvv u m x = u := (if_neg h.1).trans (if_neg h.2)
section
variable {T : Nat → Nat} {N ns : Nat} {st sz : Nat → Nat} {u0 : MS} {v0 : GS} {a b m : Nat} {D2 : Type} {PV2 : D2 → GS → Prop} {PC2 : D2 → NG Int32 → MS → Prop}
theorem hd_need {j kd : Nat} {K : PG (Option Int32)} {v : GS} (hj1 : 1 ≤ j) (hj : j < 25) (hjk : kc j = kd) (hm6 : m < 6) (hkd : nI kd = hd6 m) (hm : ¬ m = 1 ∧ ¬ m = 4) (hnz : ¬ kd = 0) (hkd2 : kd < 100) (hP : RP T N a b v) (hq : ∀ a2 b2 w, ScF v w → RP T N a2 b2 w → Ok K w (fun ro w2 => LSd (HdC T N u0 (m + 1) a2 b2) PV2 PC2 ro w2)) : Ok (pcl (f_need j) (fun r => pot r (prt none) (fun _ => K))) v (fun ro w => LSd (HdC T N u0 m a b) PV2 PC2 ro w) := by
  have hle := tkk_le a b hP.2.1
  refine Ok_cl (Ok.mono (r_need hP j kd hj1 hj hjk) (fun ro w y => ?_))
  rcases y with ⟨hk, rfl, sF, a2, b2, s2, hP2⟩ | ⟨hk, rfl, rfl⟩
  · have t : To (HdC T N u0 m a b) (HdC T N (hvv u0 m 0) (m + 1) a2 b2) := to_head hm6 (by rw [hk]; exact hkd) (by omega) (fun z => by omega) s2 hP2.2.1
    rw [hvv_o hm] at t
    exact Ok_otS (Ok.mono (hq a2 b2 w sF hP2) (fun ro w y => LSd.pre t y))
  · exact Ok_otN (Ok_rt (ls_wr ⟨by decide, by decide⟩ (to_head1 hm6 (fun z => hk ((nI_eq (a := tkk T N a b) (b := kd) (by omega) (by omega)).mp (z.trans hkd.symm))))))
theorem hd_num {K : Int32 → PG (Option Int32)} {v : GS} (hm : m = 1 ∨ m = 4) (hP : RP T N a b v) (hq : ∀ x a2 b2 w, x ≤ 9999 → ScF v w → RP T N a2 b2 w → Ok (K (nI x)) w (fun ro w2 => LSd (HdC T N (hvv u0 m (nI x)) (m + 1) a2 b2) PV2 PC2 ro w2)) : Ok (pcl f_number (fun r => pot r (prt none) K)) v (fun ro w => LSd (HdC T N u0 m a b) PV2 PC2 ro w) := by
  have hle := tkk_le a b hP.2.1
  have hkd : nI 3 = hd6 m := by
    rcases hm with rfl | rfl
    · rfl
    · rfl
  refine Ok_cl (Ok.mono (r_number hP) (fun ro w y => ?_))
  rcases y with ⟨hk, rfl, sF, a2, b2, s2, hP2⟩ | ⟨hk, rfl, rfl⟩
  · have hlt := num_lt hP.2.1 hk
    have t : To (HdC T N u0 m a b) (HdC T N (hvv u0 m (nI (vl T a (min 4 (b - a))))) (m + 1) a2 b2) := to_head (by omega) (by rw [hk]; exact hkd) (by omega) (fun _ => ⟨hk, rfl⟩) s2 hP2.2.1
    exact Ok_otS (Ok.mono (hq _ a2 b2 w (by omega) sF hP2) (fun ro w y => LSd.pre t y))
  · exact Ok_otN (Ok_rt (ls_wr ⟨by decide, by decide⟩ (to_head1 (by omega) (fun z => hk ((nI_eq (a := tkk T N a b) (b := 3) (by omega) (by decide)).mp (z.trans hkd.symm))))))
theorem ls_head {K : PG (Option Int32)} {v : GS} (hP : RP T N a b v) (hV : HV v) (h29 : Im v 29 (nI 0)) (hK : ∀ t g a2 b2 w, t ≤ 9999 → g ≤ 9999 → RP T N a2 b2 w → HV w → Im w 29 (nI 0) → Im w 27 (nI t) → Im w 28 (nI g) → Ok K w (fun ro w2 => LSd (HdC T N (si (si u0 20 (nI t)) 21 (nI g)) 6 a2 b2) PV2 PC2 ro w2)) : Ok (pcl (f_need 1) (fun r_14 => pot r_14 (prt none) (fun _ => pcl (f_number) (fun r_18 => pot r_18 (prt none) (fun r_21 => pwf 27 r_21 (pcl (f_need 14) (fun r_24 => pot r_24 (prt none) (fun _ => pcl (f_need 2) (fun r_28 => pot r_28 (prt none) (fun _ => pcl (f_number) (fun r_32 => pot r_32 (prt none) (fun r_35 => pwf 28 r_35 (pcl (f_need 14) (fun r_38 => pot r_38 (prt none) (fun _ => K))))))))))))))) v (fun ro w => LSd (HdC T N u0 0 a b) PV2 PC2 ro w) := by
  refine hd_need (kd := 4) (by decide) (by decide) rfl (by decide) rfl (by decide) (by decide) (by decide) hP (fun a1 b1 w1 s1 p1 => ?_)
  have v1 := hV.sc s1
  have i1 := h29.sc s1 (by decide)
  refine hd_num (Or.inl rfl) p1 (fun t a2 b2 w2 ht s2 p2 => ?_)
  have v2 := (v1.sc s2).wf (k := 27) (nI t) (by decide)
  have i2 := (i1.sc s2 (by decide)).o (k := 27) (x := nI t) (by decide)
  have j2 : Im (swf 27 (nI t) w2) 27 (nI t) := swf_e
  have e2 : hvv u0 1 (nI t) = si u0 20 (nI t) := if_pos rfl
  rw [e2]
  refine Ok_wf ?_
  refine hd_need (kd := 19) (by decide) (by decide) rfl (by decide) rfl (by decide) (by decide) (by decide) (p2.wf (k := 27) (nI t) (by decide)) (fun a3 b3 w3 s3 p3 => ?_)
  refine hd_need (kd := 5) (by decide) (by decide) rfl (by decide) rfl (by decide) (by decide) (by decide) p3 (fun a4 b4 w4 s4 p4 => ?_)
  refine hd_num (Or.inr rfl) p4 (fun g a5 b5 w5 hg s5 p5 => ?_)
  have v5 := (((v2.sc s3).sc s4).sc s5).wf (k := 28) (nI g) (by decide)
  have i5 := (((i2.sc s3 (by decide)).sc s4 (by decide)).sc s5 (by decide)).o (k := 28) (x := nI g) (by decide)
  have j5 := (((j2.sc s3 (by decide)).sc s4 (by decide)).sc s5 (by decide)).o (k := 28) (x := nI g) (by decide)
  have k5 : Im (swf 28 (nI g) w5) 28 (nI g) := swf_e
  have e5 : hvv (si u0 20 (nI t)) 4 (nI g) = si (si u0 20 (nI t)) 21 (nI g) := (if_neg (by decide)).trans (if_pos rfl)
  rw [e5]
  refine Ok_wf ?_
  refine hd_need (kd := 19) (by decide) (by decide) rfl (by decide) rfl (by decide) (by decide) (by decide) (p5.wf (k := 28) (nI g) (by decide)) (fun a6 b6 w6 s6 p6 => ?_)
  exact hK t g a6 b6 w6 ht hg p6 (v5.sc s6) (i5.sc s6 (by decide)) (j5.sc s6 (by decide)) (k5.sc s6 (by decide))
/-- a sign's name -/
def sgb (u : MS) (ns a z : Nat) : MS := si (sf (sf u 5 (upd (u.2 5) ns (nI a))) 6 (upd (u.2 6) ns (nI z))) 22 (nI (ns + 1))
theorem sgb_same (u : MS) (ns a z : Nat) : Same [22] [5, 6] u (sgb u ns a z) := ((Same_sf (by decide)).trans (Same_sf (by decide))).trans (Same_si (by decide))
theorem XC.sgn1 {u : MS} {m p sg cm a z : Nat} {cs : List (Nat × Nat)} {S : List Nat} (h : XC u0 m cs S p sg cm u) : XC (sgb u0 ns a z) m cs S p sg cm (sgb u ns a z) := by
  have e5 : u.2 5 = u0.2 5 := h.1.2 5 (by decide)
  have e6 : u.2 6 = u0.2 6 := h.1.2 6 (by decide)
  unfold sgb
  rw [e5, e6]
  exact ((h.ba (j := 5) (by decide) _).ba (j := 6) (by decide) _).b (j := 22) (by decide) _
theorem to_sign {a2 b2 : Nat} (hk : tkk T N a b = 6) (hns : ns < 8) (h22 : u0.1 22 = nI ns) (hR : Run tBl T N b a2) (hE2 : TkE T N a2 b2) : To (HdC T N u0 6 a b) (HdC T N u0 7 a2 b2) := by
  rintro c u ⟨sg, cm, g, n, rfl, hn, hC, hX⟩ Q hq
  unfold LQ
  refine CN_RFx hC.2.2.2.2.2.2.1 (tk6 hX.2.1 ?_)
  rw [hk]
  have e22 : u.1 22 = nI ns := (hX.1.1 22 (by decide)).trans h22
  unfold x_X5_takeSignOrLine
  refine CN_ite (fun z => absurd z (by decide)) (fun _ => CN_ite (fun _ => CN_RFx hX.2.1 (CN_ite (fun _ => CN_RFx e22 (CN_ite (fun z => absurd ((nI_leI (a := 8) (b := ns) (by decide) (by omega)).mp z) (by omega)) (fun _ => ?_))) (fun z => absurd rfl z))) (fun z => absurd rfl z))
  refine CN_app c_room1 (fun _ v y => CN_rt ?_)
  subst y
  exact on_next (hC.sm (LI := [12]) (LA := []) (v := si u 12 (nI 7)) (Same_si (by decide)) (fun k h1 h2 h3 => by simp at h3; omega) (by decide)) (by omega) hn (hX.w12 7) (by decide) hR hE2 (fun g2 n2 u2 y1 y2 y3 _ => hq _ _ ⟨sg, cm, g2, n2, rfl, y1, y2, y3⟩)
theorem to_sign3 (hk : tkk T N a b = 6) (h22 : u0.1 22 = nI 8) : To (HdC T N u0 6 a b) (FP 3 a) := by
  rintro c u ⟨sg, cm, g, n, rfl, hn, hC, hX⟩ Q hq
  unfold LQ
  refine CN_RFx hC.2.2.2.2.2.2.1 (tk6 hX.2.1 ?_)
  rw [hk]
  have e22 : u.1 22 = nI 8 := (hX.1.1 22 (by decide)).trans h22
  unfold x_X5_takeSignOrLine
  refine CN_ite (fun z => absurd z (by decide)) (fun _ => CN_ite (fun _ => CN_RFx hX.2.1 (CN_ite (fun _ => CN_RFx e22 (CN_ite (fun _ => ?_) (fun z => absurd (Int32.le_refl _) z))) (fun z => absurd rfl z))) (fun z => absurd rfl z))
  refine CN_app c_room0 (fun _ v y => CN_rt ?_)
  subst y
  exact run_fault ⟨(siO (by decide)).trans (siE _ _ _), (siE _ _ _).trans hC.2.2.2.2.1⟩ ⟨by decide, by decide⟩ hq
theorem to_name {a2 b2 : Nat} (hk : tkk T N a b = 2) (hSC : SgC ns st sz u0) (hSN : SgN N ns st sz) (hns : ns < 8) (hF : FindR T a b ns st sz (-1)) (hR : Run tBl T N b a2) (hE2 : TkE T N a2 b2) : To (HdC T N u0 7 a b) (HdC T N (sgb u0 ns a (b - a)) 8 a2 b2) := by
  rintro c u ⟨sg, cm, g, n, rfl, hn, hC, hX⟩ Q hq
  unfold LQ
  refine CN_RFx hC.2.2.2.2.2.2.1 (tk7 hX.2.1 ?_)
  rw [hk]
  have e22 : u.1 22 = nI ns := (hX.1.1 22 (by decide)).trans hSC.1
  have hSu := hSC.sm hX.1 (by decide) (by decide) (by decide)
  have h5 := hC.2.2.2.2.1
  have h3 := hC.2.2.2.2.2.1
  have hab := hC.2.2.1
  unfold x_X5_takeSignName
  refine CN_ite (fun _ => CN_app (c_find hC hSu hSN) (fun r v y => ?_)) (fun z => absurd rfl z)
  obtain ⟨rfl, y⟩ := y
  have := y.un hF
  subst this
  refine CN_ite (fun _ => ?_) (fun z => absurd rfl z)
  refine CN_RFx e22 (CN_RFx h5 (CN_ST (CN_RFx e22 ?_)))
  refine CN_cl (?_ : CN x_X10_tokenSize _ _)
  unfold x_X10_tokenSize
  refine CN_RFx h3 (CN_RFx h5 (CN_rt ?_))
  rw [nI_sub hab, wrN _ hns (by decide)]
  refine CN_ST ?_
  rw [wrN _ hns (by decide)]
  have e91 : nI ns + 1 = nI (ns + 1) := by rw [nI_1]
  refine CN_RFx e22 (CN_WFx (CN_WFx (CN_rt ?_)))
  rw [e91]
  have hX2 := (hX.sgn1 (ns := ns) (a := a) (z := b - a)).w12 8
  have hC2 := (hC.sm (sgb_same v ns a (b - a)) (fun k h1 h2 h3 => by simp at h3; omega) (by decide)).sm (LI := [12]) (LA := []) (v := si (sgb v ns a (b - a)) 12 (nI 8)) (Same_si (by decide)) (fun k h1 h2 h3 => by simp at h3; omega) (by decide)
  exact on_next hC2 (by omega) hn hX2 (by decide) hR hE2 (fun g2 n2 u2 y1 y2 y3 _ => hq _ _ ⟨sg, cm, g2, n2, rfl, y1, y2, y3⟩)
theorem to_name2 {s : Nat} (hk : tkk T N a b = 2) (hs : s < 8) (hSC : SgC ns st sz u0) (hSN : SgN N ns st sz) (hF : FindR T a b ns st sz (nI s)) : To (HdC T N u0 7 a b) (FP 2 a) := by
  rintro c u ⟨sg, cm, g, n, rfl, hn, hC, hX⟩ Q hq
  unfold LQ
  refine CN_RFx hC.2.2.2.2.2.2.1 (tk7 hX.2.1 ?_)
  rw [hk]
  have hSu := hSC.sm hX.1 (by decide) (by decide) (by decide)
  unfold x_X5_takeSignName
  refine CN_ite (fun _ => CN_app (c_find hC hSu hSN) (fun r v y => ?_)) (fun z => absurd rfl z)
  obtain ⟨rfl, y⟩ := y
  have := y.un hF
  subst this
  refine CN_ite (fun z => absurd z (nI_ne_1 (by omega))) (fun _ => CN_app (c_fail 2) (fun _ v y => CN_rt ?_))
  subst y
  exact run_fault ⟨(siO (by decide)).trans (siE _ _ _), (siE _ _ _).trans hC.2.2.2.2.1⟩ ⟨by decide, by decide⟩ hq
theorem to_name1 (hE : TkE T N a b) (hk : ¬ tkk T N a b = 2) : To (HdC T N u0 7 a b) (FP 1 a) := by
  rintro c u ⟨sg, cm, g, n, rfl, hn, hC, hX⟩ Q hq
  have hle := tkk_le a b hE
  unfold LQ
  refine CN_RFx hC.2.2.2.2.2.2.1 (tk7 hX.2.1 ?_)
  unfold x_X5_takeSignName
  refine CN_ite (fun z => absurd ((nI_eq (a := tkk T N a b) (b := 2) (by omega) (by decide)).mp z) hk) (fun _ => CN_app (c_fail 1) (fun _ v y => CN_rt ?_))
  subst y
  exact run_fault ⟨(siO (by decide)).trans (siE _ _ _), (siE _ _ _).trans hC.2.2.2.2.1⟩ ⟨by decide, by decide⟩ hq
theorem to_semi8 {a2 b2 : Nat} (hk : tkk T N a b = 19) (hR : Run tBl T N b a2) (hE2 : TkE T N a2 b2) : To (HdC T N u0 8 a b) (HdC T N u0 6 a2 b2) := by
  rintro c u ⟨sg, cm, g, n, rfl, hn, hC, hX⟩ Q hq
  unfold LQ
  refine CN_RFx hC.2.2.2.2.2.2.1 (tk8 hX.2.1 ?_)
  rw [hk, if_pos (show nI 19 = 19 from rfl)]
  refine CN.mono c_goIf1 (fun _ v y => ?_)
  subst y
  exact on_next (hC.sm (LI := [12]) (LA := []) (v := si u 12 (nI 6)) (Same_si (by decide)) (fun k h1 h2 h3 => by simp at h3; omega) (by decide)) (by omega) hn (hX.w12 6) (by decide) hR hE2 (fun g2 n2 u2 y1 y2 y3 _ => hq _ _ ⟨sg, cm, g2, n2, rfl, y1, y2, y3⟩)
theorem to_semi81 (hE : TkE T N a b) (hk : ¬ tkk T N a b = 19) : To (HdC T N u0 8 a b) (FP 1 a) := by
  rintro c u ⟨sg, cm, g, n, rfl, hn, hC, hX⟩ Q hq
  have hle := tkk_le a b hE
  unfold LQ
  refine CN_RFx hC.2.2.2.2.2.2.1 (tk8 hX.2.1 ?_)
  rw [if_neg (show ¬ nI (tkk T N a b) = 19 from fun z => hk ((nI_eq (a := tkk T N a b) (b := 19) (by omega) (by decide)).mp z))]
  refine CN.mono c_goIf0 (fun _ v y => ?_)
  subst y
  exact run_fault ⟨(siO (by decide)).trans (siE _ _ _), (siE _ _ _).trans hC.2.2.2.2.1⟩ ⟨by decide, by decide⟩ hq
end
