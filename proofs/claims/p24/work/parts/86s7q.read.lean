/-! ===== readLaws on both sides ===== -/
theorem nI_ex (x : Int32) : ∃ k, x = nI k := ⟨x.toUInt32.toNat, by
  apply Int32.toBitVec_inj.mp
  show x.toBitVec = BitVec.ofNat 32 x.toBitVec.toNat
  rw [BitVec.ofNat_toNat, BitVec.setWidth_eq]⟩
theorem TyR.fn {es : List (Nat × Nat)} {U : List Bool} : ∀ {K : List Bool}, TyR K es U → ∃ F : Nat → List Bool, F 0 = K ∧ F es.length = U ∧ ∀ i, i < es.length → (F i).length ≤ 63 ∧ (at0 es i).2 < 10000 ∧ CdT (F i) (F (i + 1)) (at0 es i).1 (at0 es i).2 := by
  induction es with
  | nil =>
    intro K h
    rw [TyR_nil] at h
    exact ⟨fun _ => K, rfl, h, fun i hi => absurd hi (Nat.not_lt_zero _)⟩
  | cons x es ih =>
    intro K h
    rw [TyR_cons] at h
    obtain ⟨h1, h2, V, h3, h4⟩ := h
    obtain ⟨F, f1, f2, f3⟩ := ih h4
    refine ⟨fun i => if i = 0 then K else F (i - 1), if_pos rfl, (if_neg (by rw [List.length_cons]; omega)).trans (by rw [List.length_cons, Nat.add_sub_cancel]; exact f2), fun i hi => ?_⟩
    cases i with
    | zero =>
      have e0 : at0 (x :: es) 0 = x := rfl
      have g0 : (if (0 : Nat) = 0 then K else F (0 - 1)) = K := if_pos rfl
      have g1 : (if (0 : Nat) + 1 = 0 then K else F (0 + 1 - 1)) = F 0 := if_neg (by decide)
      rw [e0]
      show (if (0 : Nat) = 0 then K else F (0 - 1)).length ≤ 63 ∧ x.2 < 10000 ∧ CdT (if (0 : Nat) = 0 then K else F (0 - 1)) (if (0 : Nat) + 1 = 0 then K else F (0 + 1 - 1)) x.1 x.2
      rw [g0, g1, f1]
      exact ⟨h1, h2, h3⟩
    | succ i =>
      have e0 : at0 (x :: es) (i + 1) = at0 es i := rfl
      have g0 : (if i + 1 = 0 then K else F (i + 1 - 1)) = F i := if_neg (by omega)
      have g1 : (if i + 1 + 1 = 0 then K else F (i + 1 + 1 - 1)) = F (i + 1) := if_neg (by omega)
      rw [e0]
      show (if i + 1 = 0 then K else F (i + 1 - 1)).length ≤ 63 ∧ (at0 es i).2 < 10000 ∧ CdT (if i + 1 = 0 then K else F (i + 1 - 1)) (if i + 1 + 1 = 0 then K else F (i + 1 + 1 - 1)) (at0 es i).1 (at0 es i).2
      rw [g0, g1]
      exact f3 i (by rw [List.length_cons] at hi; omega)
theorem at0_m {pre es post : List (Nat × Nat)} {i : Nat} (hi : i < es.length) : at0 (pre ++ (es ++ post)) (pre.length + i) = at0 es i := by
  unfold at0
  rw [List.getD_eq_getElem?_getD, List.getD_eq_getElem?_getD, List.getElem?_append_right (by omega), show pre.length + i - pre.length = i by omega, List.getElem?_append_left hi]
section
variable {T : Nat → Nat} {N : Nat}
theorem Fn_rel {t g : Nat} {d : MS × List (Nat × Nat)} {w : GS} {u : MS} {sg cm : Nat} (ht : t ≤ 9999) (hg : g ≤ 9999) (hV : FnV T N t g d w) (hX : XC d.1 17 d.2 [] d.2.length sg cm u) : LRel (dL u) w := by
  obtain ⟨ns, st, sz, nl, en, pt, a, b, ⟨U1, U2, U3, U4, U5⟩, ⟨D1, D2, D3, D4, D5⟩, hSN, ⟨h1, h2, h3, h4, h5, h6, h7, h8, h9⟩⟩ := hV
  have e : ∀ k, ¬ k ∈ [3, 4, 5, 6, 7, 8, 9, 10, 11, 12, 13, 14, 15, 24, 25] → u.1 k = d.1.1 k := hX.1.1
  have ea : ∀ k, ¬ k ∈ [7, 8] → u.2 k = d.1.2 k := hX.1.2
  have l0 : (dL u).1 0 = nI t := (e 20 (by decide)).trans U1
  have l1 : (dL u).1 1 = nI g := (e 21 (by decide)).trans U2
  have l2 : (dL u).1 2 = nI ns := (e 22 (by decide)).trans U3.1
  have l3 : (dL u).1 3 = nI nl := (e 23 (by decide)).trans U4
  have l4 : (dL u).1 4 = nI d.2.length := hX.2.2.2.2.2.1
  have a1 : (dL u).2 1 = d.1.2 9 := ea 9 (by decide)
  have a2 : (dL u).2 2 = d.1.2 10 := ea 10 (by decide)
  have hcg := hX.2.2.2.1.2
  refine ⟨⟨t, g, ht, hg, l0, l1⟩, by rw [l0]; exact h2, by rw [l1]; exact h3, by rw [l2]; exact h4.1, by rw [l3]; exact h5, by rw [l4]; exact h6.1, ⟨ns, hSN.1, l2⟩, nl, D1, l3, fun l hl => ?_⟩
  obtain ⟨q1, pre, es, post, q2, q3, q4, q5⟩ := D5 l hl
  have hlen : d.2.length = pre.length + (es.length + post.length) := by
    rw [q2, List.length_append, List.length_append]
  refine ⟨pt l, q1, by rw [a2]; exact (U5 l hl).2, h9 l hl, en l, en (l + 1), by omega, by omega, h8 l (by omega), h8 (l + 1) (by omega), fun z => by rw [z]; exact D2, fun z => ?_, by rw [a1]; exact (U5 l hl).1, ?_⟩
  · rw [a1]
    have := (U5 (l - 1) (by omega)).1
    rw [show l - 1 + 1 = l by omega] at this
    exact this
  · obtain ⟨F, f1, f2, f3⟩ := TyR.fn q5
    refine ⟨fun k => F (k - en l), ?_, ?_, fun k k1 k2 => ?_⟩
    · show F (en l - en l) = []
      rw [Nat.sub_self]
      exact f1
    · show F (en (l + 1) - en l) = [true]
      rw [show en (l + 1) - en l = es.length by omega]
      exact f2
    · obtain ⟨g1, g2, g3⟩ := f3 (k - en l) (by omega)
      have ek : at0 d.2 k = at0 es (k - en l) := by
        have h10 := at0_m (pre := pre) (es := es) (post := post) (i := k - en l) (by omega)
        rw [← q2, show pre.length + (k - en l) = k by omega] at h10
        exact h10
      have hk := h6.2 k (by omega)
      have hk2 := hcg k (by omega)
      rw [ek] at hk hk2
      refine ⟨g1, (at0 es (k - en l)).1, (at0 es (k - en l)).2, hk.1, hk.2, hk2, g2, ?_⟩
      show CdT (F (k - en l)) (F (k + 1 - en l)) _ _
      rw [show k + 1 - en l = k - en l + 1 by omega]
      exact g3
theorem run_first {u : MS} {g m : Nat} (hT : TC T N u) (h3 : u.1 3 = nI 0) (hf : u.1 11 = 0) (hm : u.1 12 = nI m) (hm17 : m < 17) {Q : Int32 → MS → Prop} (h : ∀ g2 u2 a b, Same [3, 4, 5, 6] [] u u2 → Run tBl T N 0 a → CP T N a b u2 → CN (LQ g2 0) u2 Q) : CN (RN g 0) u Q := by
  cases g with
  | zero => exact fun r w e => by cases e
  | succ g =>
    unfold RN xl_X5_readLaws_46
    refine CN_ite (fun z => absurd z (by decide)) (fun _ => CN_RFx hf (CN_ite (fun _ => CN_RFx hm (CN_ite (fun z => absurd ((nI_eq (a := m) (b := 17) (by omega) (by decide)).mp z) (by omega)) (fun _ => ?_))) (fun z => absurd rfl z)))
    refine CN_cl (CN.mono (c_token hT h3 (Nat.zero_le _)) (fun _ u2 y => ?_))
    obtain ⟨a, b, y1, y2, y3, y4, y5, y6, y7⟩ := y
    exact h g u2 a b y3 y1 ⟨hT.sm y3 (by decide) (by decide), y2, y2.le.1, y2.le.2.1, y4, y5, y6, y7⟩
def u00 (u : MS) : MS := si (si (si (si (si (si (si (si (si (si (si (si (si u 20 0) 21 0) 22 0) 23 0) 24 0) 25 0) 3 0) 11 0) 10 (-1)) 12 0) 7 0) 8 0) 9 0
theorem c_start {u : MS} {Q : Int32 → MS → Prop} (h : CN (RN fuel 0) (u00 u) Q) : CN x_X5_readLaws u Q := by
  unfold x_X5_readLaws
  refine CN_app (P := fun _ v => v = si (si (si (si (si (si u 20 0) 21 0) 22 0) 23 0) 24 0) 25 0) ?_ (fun _ v y => ?_)
  · unfold x_X4_clear
    exact CN_WFx (CN_WFx (CN_WFx (CN_WFx (CN_WFx (CN_WFx (CN_rt rfl))))))
  subst y
  refine CN_app (P := fun _ v => v = si (si (si (si (si (si (si u 20 0) 21 0) 22 0) 23 0) 24 0) 25 0) 3 0) ?_ (fun _ v y => ?_)
  · unfold x_X10_rewind
    exact CN_WFx (CN_rt rfl)
  subst y
  exact CN_WFx (CN_WFx (CN_WFx (CN_WFx (CN_WFx (CN_WFx h)))))
def PVr (T : Nat → Nat) (N : Nat) (d : MS × List (Nat × Nat)) (w : GS) : Prop := ∃ t g, t ≤ 9999 ∧ g ≤ 9999 ∧ FnV T N t g d w
theorem LSd.post {D : Type} {A : NG Int32 → MS → Prop} {PV PV2 : D → GS → Prop} {PC : D → NG Int32 → MS → Prop} {ro : Option Int32} {v : GS} (h : LSd A PV PC ro v) (hp : ∀ d w, PV d w → PV2 d w) : LSd A PV2 PC ro v := by
  rcases h with ⟨e, f, p, h1, h2, h3, h4⟩ | ⟨e, d, h1, h2⟩
  · exact Or.inl ⟨e, f, p, h1, h2, h3, h4⟩
  · exact Or.inr ⟨e, d, hp d v h1, h2⟩
theorem ls_readAll {u : MS} {v : GS} (hTC : TC T N u) (hTR : TR T N v) : Ok f_readLaws v (fun ro w => (ro = none ∧ ∃ f p, 1 ≤ f ∧ f ≤ 3 ∧ FaultV f p w ∧ CN x_X5_readLaws u (fun r u2 => r = 0 ∧ FaultC f p u2)) ∨ (ro = some 0 ∧ CN x_X5_readLaws u (fun r u2 => r = 1 ∧ u2.1 11 = 0 ∧ LRel (dL u2) w))) := by
  have hsame : Same [3, 7, 8, 9, 10, 11, 12, 20, 21, 22, 23, 24, 25] [] u (u00 u) := by
    refine ⟨fun k hk => ?_, fun k _ => rfl⟩
    simp only [List.mem_cons, List.not_mem_nil, or_false, not_or] at hk
    obtain ⟨h3, h7, h8, h9, h10, h11, h12, h20, h21, h22, h23, h24, h25⟩ := hk
    unfold u00
    rw [siO h9, siO h8, siO h7, siO h12, siO h10, siO h11, siO h3, siO h25, siO h24, siO h23, siO h22, siO h21, siO h20]
  have hT0 := hTC.sm hsame (by decide) (by decide)
  have c3 : (u00 u).1 3 = nI 0 := rfl
  have c7 : (u00 u).1 7 = nI 0 := rfl
  have c8 : (u00 u).1 8 = nI 0 := rfl
  have c9 : (u00 u).1 9 = nI 0 := rfl
  have c11 : (u00 u).1 11 = 0 := rfl
  have c12 : (u00 u).1 12 = nI 0 := rfl
  have c22 : (u00 u).1 22 = nI 0 := rfl
  have c23 : (u00 u).1 23 = nI 0 := rfl
  have c24 : (u00 u).1 24 = nI 0 := rfl
  have c25 : (u00 u).1 25 = nI 0 := rfl
  generalize hu1 : u00 u = u1 at hT0 c3 c7 c8 c9 c11 c12 c22 c23 c24 c25
  obtain ⟨sg, hsg⟩ := nI_ex (u1.1 14)
  obtain ⟨cm, hcm⟩ := nI_ex (u1.1 15)
  have start : ∀ (a b : Nat) (Q : Int32 → MS → Prop), Run tBl T N 0 a → TkE T N a b → (∀ c w, HdC T N u1 0 a b c w → CN c w Q) → CN x_X5_readLaws u Q := fun a b Q hR hE hq => by
    refine c_start ?_
    rw [hu1]
    refine run_first hT0 c3 c11 c12 (by decide) (fun g2 u2 a2 b2 s1 s2 s3 => ?_)
    have e1 := s2.un hR
    subst e1
    have e2 := s3.2.1.un hE
    subst e2
    have e : ∀ k, ¬ k ∈ [3, 4, 5, 6] → u2.1 k = u1.1 k := s1.1
    refine hq _ _ ⟨sg, cm, g2, 0, rfl, Nat.zero_le _, s3, s1.mono (by decide) (by decide), (e 12 (by decide)).trans c12, (e 11 (by decide)).trans c11, ⟨(e 25 (by decide)).trans c25, fun i hi => absurd hi (Nat.not_lt_zero _)⟩, ⟨(e 7 (by decide)).trans c7, fun i hi => absurd hi (Nat.not_lt_zero _)⟩, (e 24 (by decide)).trans c24, (e 8 (by decide)).trans c8, (e 9 (by decide)).trans c9, (e 14 (by decide)).trans hsg, (e 15 (by decide)).trans hcm⟩
  have hTR1 : TR T N (swf 45 (nI 0) (swf 51 (nI 0) (swf 31 (nI 0) (swf 30 (nI 0) (swf 29 (nI 0) (sclL v)))))) := by
    obtain ⟨⟨q1, q2, q3, q4⟩, -, q6⟩ := hTR
    refine ⟨⟨?_, ?_, ?_, q4⟩, trivial, fun i hi => ⟨(q6 i hi).1, ?_⟩⟩
    · exact q1
    · exact q2
    · exact ⟨q3.1, q3.2⟩
    · rw [← (q6 i hi).2]
      exact rz_fr rfl rfl rfl
  unfold f_readLaws
  show Ok _ (sclL v) _
  refine Ok_wf (Ok_wf (Ok_wf (Ok_wf (Ok_wf ?_))))
  have i29 : Im (swf 45 (nI 0) (swf 51 (nI 0) (swf 31 (nI 0) (swf 30 (nI 0) (swf 29 (nI 0) (sclL v)))))) 29 (nI 0) := ⟨rfl, rfl⟩
  have i30 : Im (swf 45 (nI 0) (swf 51 (nI 0) (swf 31 (nI 0) (swf 30 (nI 0) (swf 29 (nI 0) (sclL v)))))) 30 (nI 0) := ⟨rfl, rfl⟩
  have i31 : Im (swf 45 (nI 0) (swf 51 (nI 0) (swf 31 (nI 0) (swf 30 (nI 0) (swf 29 (nI 0) (sclL v)))))) 31 (nI 0) := ⟨rfl, rfl⟩
  have i51 : Im (swf 45 (nI 0) (swf 51 (nI 0) (swf 31 (nI 0) (swf 30 (nI 0) (swf 29 (nI 0) (sclL v)))))) 51 (nI 0) := ⟨rfl, rfl⟩
  have i45 : Im (swf 45 (nI 0) (swf 51 (nI 0) (swf 31 (nI 0) (swf 30 (nI 0) (swf 29 (nI 0) (sclL v)))))) 45 (nI 0) := ⟨rfl, rfl⟩
  have e0 : swf 45 (0 : Int32) (swf 51 0 (swf 31 0 (swf 30 0 (swf 29 0 (sclL v))))) = swf 45 (nI 0) (swf 51 (nI 0) (swf 31 (nI 0) (swf 30 (nI 0) (swf 29 (nI 0) (sclL v))))) := rfl
  rw [e0]
  generalize swf 45 (nI 0) (swf 51 (nI 0) (swf 31 (nI 0) (swf 30 (nI 0) (swf 29 (nI 0) (sclL v))))) = v1 at hTR1 i29 i30 i31 i51 i45
  refine Ok_cl (Ok.mono (r_token hTR1 i45 (Nat.zero_le _)) (fun _ v2 y => ?_))
  obtain ⟨a, b, y1, y2, y3, y4, y5, y6, y7⟩ := y
  have hP : RP T N a b v2 := ⟨hTR1.sc y3, y2, y2.le.1, y2.le.2.1, y4, y5, y6, y7⟩
  have hHV : HV v2 := HV.sc ⟨i30, i31, i51⟩ y3
  have main : Ok (pcl (f_need 1) (fun r_14 => pot r_14 (prt none) (fun _ => pcl (f_number) (fun r_18 => pot r_18 (prt none) (fun r_21 => pwf 27 r_21 (pcl (f_need 14) (fun r_24 => pot r_24 (prt none) (fun _ => pcl (f_need 2) (fun r_28 => pot r_28 (prt none) (fun _ => pcl (f_number) (fun r_32 => pot r_32 (prt none) (fun r_35 => pwf 28 r_35 (pcl (f_need 14) (fun r_38 => pot r_38 (prt none) (fun _ => lp_readLaws_73 fuel (pwd 34 21 0 0 (lp_readLaws_223 fuel Ken))))))))))))))))) v2 (fun ro w => LSd (HdC T N u1 0 a b) (PVr T N) FnC ro w) := by
    refine ls_head hP hHV (i29.sc y3 (by decide)) (fun t g a2 b2 w ht hg hP2 hHV2 j29 j27 j28 => ?_)
    have hSC0 : SgC 0 (fun _ => 0) (fun _ => 0) (si (si u1 20 (nI t)) 21 (nI g)) := ⟨c22, fun l hl => absurd hl (Nat.not_lt_zero _)⟩
    have hU0 : HU t g (si (si u1 20 (nI t)) 21 (nI g)) := ⟨(siO (by decide)).trans (siE _ _ _), siE _ _ _, c23⟩
    have hSN0 : SgN N 0 (fun _ => 0) (fun _ => 0) := ⟨Nat.zero_le _, fun l hl => absurd hl (Nat.not_lt_zero _)⟩
    refine ls_signs (t := t) (g := g) (fun ns st sz u3 a3 b3 w3 hSC hU hSN hV hk => ?_) fuel 0 _ _ _ a2 b2 w (by unfold fuel; omega) hSC0 hU0 hSN0 ⟨hP2, hHV2, j27, j28, j29, fun l hl => absurd hl (Nat.not_lt_zero _)⟩
    obtain ⟨s1, ⟨s30, s31, s51⟩, s27, s28, sS⟩ := hV
    refine Ok_wdN (j := 0) rfl (by decide) (by decide) ?_
    have hLU : LiU t g ns st sz 0 (fun _ => 0) (fun _ => 0) u3 := ⟨hU.1, hU.2.1, hSC, hU.2.2, fun l hl => absurd hl (Nat.not_lt_zero _)⟩
    have hLD : LnD 0 [] (fun _ => 0) (fun _ => 0) := ⟨Nat.zero_le _, rfl, rfl, Nat.zero_le _, fun l hl => absurd hl (Nat.not_lt_zero _)⟩
    have hLV : LiV T N t g ns st sz 0 [] (fun _ => 0) (fun _ => 0) a3 b3 (swd 34 (nI 0) 0 w3) := ⟨s1.wd _ _ (by decide), s27, s28, sS.wd _ _ (by decide), s30, ⟨s31, fun i hi => absurd hi (Nat.not_lt_zero _)⟩, s51, fun l hl => by
      have : l = 0 := by omega
      subst this
      exact sw_A (by decide), fun l hl => absurd hl (Nat.not_lt_zero _)⟩
    exact Ok.mono (ls_lines hSN fuel 6 0 [] _ _ u3 a3 b3 _ (by unfold fuel; omega) (Or.inl rfl) (fun _ => hk) hLD hLU hLV) (fun ro w y => y.post (fun d w2 z => ⟨t, g, ht, hg, z⟩))
  refine Ok.mono main (fun ro w y => ?_)
  rcases y with ⟨e, f, p, h1, h2, h3, h4⟩ | ⟨e, d, ⟨t, g, ht, hg, h1⟩, h2⟩
  · exact Or.inl ⟨e, f, p, h1, h2, h3, start a b _ y1 y2 (fun c w hc => h4 c w hc _ (fun c2 w2 hc2 => by
      obtain ⟨rfl, hF⟩ := hc2
      exact CN_rt ⟨rfl, hF⟩))⟩
  · exact Or.inr ⟨e, start a b _ y1 y2 (fun c w3 hc => h2 c w3 hc _ (fun c2 w2 hc2 => by
      obtain ⟨rfl, sg, cm, hX⟩ := hc2
      exact CN_rt ⟨rfl, hX.2.2.1, Fn_rel ht hg h1 hX⟩))⟩
end
