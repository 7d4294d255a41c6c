/-! ===== the plan, the reference's side: the whole day ===== -/
/-- what the reference holds of the book while it plans -/
def Wst (B : Nat → Int32) (w : GS) : Prop := Inv w ∧ (∀ c, c < 4 → w.2.2 13 c = true) ∧ R0 B w ∧ (∀ c, c < 4 → NT B c) ∧ MO B ∧ (∀ c, c < 4 → Kd w c (nFi B c)) ∧ ∀ c i, c < 4 → i < nFi B c → Dr w c (nFi B c)
theorem Wst.dr {B : Nat → Int32} {w : GS} (h : Wst B w) : ∀ x, pdF B x → ∃ n, Dr w (x / 40) n ∧ x % 40 < n := fun x hx => ⟨nFi B (x / 40), h.2.2.2.2.2.2 _ _ hx.1 hx.2, hx.2⟩
theorem pdS_st {B : Nat → Int32} {w : GS} {c i : Nat} (h : Wst B w) (hc : c < 4) (hi : i < nFi B c) (h40 : i < 40) : pdS B (40 * c + i) = stV (mkF B c i) (vS B c i 0) (vS B c i 1) := by
  unfold pdS
  rw [(d40 h40).1, (d40 h40).2]
  exact bSt_v h.2.2.1 (h.2.2.2.1 c hc) (h.2.2.2.2.2.2 c i hc hi) hi
theorem r_145 {B : Nat → Int32} {F d c : Nat} {w : GS} (hB : PdK B F) (hm : Pmt B) (hW : Wst B w) (hF : nF w = F) (hd : d ≤ 60) (hc : c < 4) (v1 : Int32) (K : Int32 → Int32 → Int32 → Int32 → Int32 → Int32 → Int32 → PG Int32) (Q : Int32 → GS → Prop) (hK : ∀ v v7 q, RS B F d w (40 * (c + 1)) q v → Ok (K v1 (nI d) (nI q.length) (nI (pLE B d (40 * (c + 1)))) (nI q.length) (nI c) v7) v Q) : ∀ (t i m : Nat) (q : List Nat) (v : GS), i + t = 40 → t < m → RS B F d w (40 * c + i) q v → Ok (lp_plan_145 m v1 (nI d) (nI q.length) (nI (pLE B d (40 * c + i))) (nI q.length) (nI c) (nI i) K) v Q := by
  have h96 := hB.2.2.2.2.2.1
  have hT := hB.2.2.2.2.2.2.1
  have hRr := hB.2.2.2.2.2.2.2.1
  obtain ⟨hI, h13, hR, hNT, hMO, hKd, hDr⟩ := id hW
  have hn37 := (hB.1 c hc).n37
  intro t
  induction t with
  | zero =>
    intro i m q v h1 h2 h
    cases m with
    | zero => omega
    | succ m =>
      have : i = 40 := by omega
      subst this
      unfold lp_plan_145
      exact Ok_ite (fun _ => hK v _ q h) (fun z => absurd (Int32.le_refl _) z)
  | succ t ih =>
    intro i m q v h1 h2 h
    cases m with
    | zero => omega
    | succ m =>
      have hx : 40 * c + i < 160 := by omega
      have hnext : ∀ (v : GS) (q2 : List Nat), RS B F d w (40 * c + i + 1) q2 v → Ok (pli (nI i + 1) (fun x_67 => lp_plan_145 m v1 (nI d) (nI q2.length) (nI (pLE B d (40 * c + i + 1))) (nI q2.length) (nI c) x_67 K)) v Q := fun v q2 h => by
        refine Ok_li ?_
        rw [nI_1]
        exact ih (i + 1) m q2 v (by omega) (by omega) h
      have eLE : ¬ pdO B (40 * c + i) = true → pLE B d (40 * c + i + 1) = pLE B d (40 * c + i) := fun z => by
        unfold pLE
        rw [pkl_eq (pOX_s z) (fun _ => rfl)]
      unfold lp_plan_145
      refine Ok_ite (fun z => absurd ((nI_le4 (k := i) (n := 40) (by omega) (by decide)).mp z) (by omega)) (fun _ => Ok_li ?_)
      rw [ix40]
      refine Ok_wdN rfl hx (by decide) (Ok_wdN rfl hx (by decide) (Ok_wdN rfl hx (by decide) ?_))
      have hE0 : Exc [63, 64, 65] v (swd 64 (nI (40 * c + i)) (-1) (swd 63 (nI (40 * c + i)) (-1) (swd 65 (nI (40 * c + i)) 0 v))) := (((Exc.rf v).wd (by decide) _ _).wd (by decide) _ _).wd (by decide) _ _
      have a65 : Am (swd 64 (nI (40 * c + i)) (-1) (swd 63 (nI (40 * c + i)) (-1) (swd 65 (nI (40 * c + i)) 0 v))) 65 (40 * c + i) 0 := Am.o (by decide) (Am.o (by decide) (sw_A (by omega)))
      have a63 : Am (swd 64 (nI (40 * c + i)) (-1) (swd 63 (nI (40 * c + i)) (-1) (swd 65 (nI (40 * c + i)) 0 v))) 63 (40 * c + i) (-1) := Am.o (by decide) (sw_A (by omega))
      have a64 : Am (swd 64 (nI (40 * c + i)) (-1) (swd 63 (nI (40 * c + i)) (-1) (swd 65 (nI (40 * c + i)) 0 v))) 64 (40 * c + i) (-1) := sw_A (by omega)
      have ho : ∀ x, ¬ x = 40 * c + i → ∀ k z, Am v k x z → k = 63 ∨ k = 64 ∨ k = 65 → Am (swd 64 (nI (40 * c + i)) (-1) (swd 63 (nI (40 * c + i)) (-1) (swd 65 (nI (40 * c + i)) 0 v))) k x z := fun x hne k z ha hk => by
        rcases hk with rfl | rfl | rfl
        · exact Am.o (by decide) (sw_An (by omega) hne (Am.o (by decide) ha))
        · exact sw_An (by omega) hne (Am.o (by decide) (Am.o (by decide) ha))
        · exact Am.o (by decide) (Am.o (by decide) (sw_An (by omega) hne ha))
      generalize swd 64 (nI (40 * c + i)) (-1) (swd 63 (nI (40 * c + i)) (-1) (swd 65 (nI (40 * c + i)) 0 v)) = y0 at hE0 a65 a63 a64 ho ⊢
      have skip : ¬ (pdF B (40 * c + i) ∧ ¬ pdV B (40 * c + i)) → Ok (pli (nI i + 1) (fun x_67 => lp_plan_145 m v1 (nI d) (nI q.length) (nI (pLE B d (40 * c + i))) (nI q.length) (nI c) x_67 K)) y0 Q := fun z => by
        have hno : ¬ pdO B (40 * c + i) = true := fun y => by
          have y2 := of_decide_eq_true y
          refine z ⟨y2.1, fun w => ?_⟩
          unfold pdV at w
          rw [y2.2] at w
          revert w
          decide
        rw [← eLE hno]
        exact hnext y0 q (h.skip hE0 ho a65 a63 a64 z)
      have hP0 : PW w y0 := h.1.ex hE0 (by decide)
      have hK0 := hP0.kd (hKd c hc)
      have hI0 := hP0.inv hI
      have hR0 := hP0.r0 hR
      have m13 : y0.2.2 13 c = true := by rw [(hP0.2.2 13 (by decide)).2]; exact h13 c hc
      refine Ok_clR (ok_fightsK y0 c (nFi B c) hc hK0 m13) (fun r hr => ?_)
      subst hr
      obtain ⟨d1, d2⟩ := d40 (c := c) (i := i) (by omega)
      refine Ok_ite (fun hle => skip (fun z => ?_)) (fun hlt => ?_)
      · have z2 := z.1.2
        rw [d1, d2] at z2
        exact absurd hle (nI_ge z2 (by omega))
      have hi : i < nFi B c := Nat.not_le.mp (fun z => hlt (nI_le z (by omega)))
      have hxF : pdF B (40 * c + i) := ⟨by rw [d1]; exact hc, by rw [d1, d2]; exact hi⟩
      have hDw := hDr c i hc hi
      have hD0 := hP0.dr hDw
      have est := pdS_st hW hc hi (by omega)
      have va := vS_val hR (hNT c hc) hDw hi (sd := 0) (by decide)
      have vb := vS_val hR (hNT c hc) hDw hi (sd := 1) (by decide)
      have h96w : nF w ≤ 96 := by omega
      have rv := rows_v hR hDw hi
      have eW0 : pdW B (40 * c + i) 0 = mx2 (vS B c i 0) := by
        unfold pdW
        rw [if_pos rfl, d1, d2]
        exact rv.1
      have eW1 : pdW B (40 * c + i) 1 = mx2 (vS B c i 1) := by
        unfold pdW
        rw [if_neg (by decide), d1, d2]
        exact rv.2
      have mk0 := hR0.mk hc (i := i) (by omega)
      have done3 : mkF B c i = 3 → ¬ (pdF B (40 * c + i) ∧ ¬ pdV B (40 * c + i)) := fun e z => z.2 (Or.inl (by rw [est, e]; rfl))
      have go : (mkF B c i = 0 ∨ mkF B c i = 2) → Ok (pcl (f_isWalk (nI c) (nI i)) (fun r_75 => (if r_75 = 0 then pcl (fS 24 0 (nI c) (nI i) 0 0) (fun r_79 => pwd 67 160 (nI (40 * c + i)) (if (-1) < r_79 then r_79 else (-1)) (pcl (fS 24 0 (nI c) (nI i) 1 0) (fun r_85 => pwd 68 160 (nI (40 * c + i)) (if (-1) < r_85 then r_85 else (-1)) (prd 15 160 (nI (40 * c + i)) (fun x_91 => (if x_91 = 1 then pwd 65 160 (nI (40 * c + i)) 2 (pcl (f_matOf (nI c) (nI i)) (fun r_129 => pwd 63 160 (nI (40 * c + i)) r_129 (prf 3 (fun x_135 => pwd 64 160 (nI (40 * c + i)) x_135 (prf 3 (fun x_140 => pli (if (nI (pLE B d (40 * c + i))) < (x_140 + (nI d)) then (x_140 + (nI d)) else (nI (pLE B d (40 * c + i)))) (fun x_142 => prf 3 (fun x_144 => pcl (f_tires (nI (40 * c + i)) (x_144 + (nI d))) (fun r_146 => pli ((nI i) + 1) (fun x_149 => lp_plan_145 m v1 (nI d) (nI q.length) x_142 (nI q.length) (nI c) x_149 K)))))))))) else pwd 65 160 (nI (40 * c + i)) 1 (pli ((nI q.length) + 1) (fun x_98 => lp_plan_350 fuel v1 (nI d) x_98 (nI (pLE B d (40 * c + i))) (nI q.length) (nI c) (nI i) (nI (40 * c + i)) (nI q.length) (fun v1 v2 v3 v4 v5 v6 v7 v8 v9 => pwd 66 160 v9 v8 (pli (v5 + 1) (fun x_122 => pli (v7 + 1) (fun x_124 => lp_plan_145 m v1 v2 v3 v4 x_122 v6 x_124 K)))))))))))) else pli ((nI i) + 1) (fun x_151 => lp_plan_145 m v1 (nI d) (nI q.length) (nI (pLE B d (40 * c + i))) (nI q.length) (nI c) x_151 K)))) y0 Q := fun hmk => by
        refine Ok_clR (sv_isWalk hR0 (hNT c hc) hD0 hi) (fun r hr => ?_)
        by_cases hwk : mkF B c i = 0 ∧ (vS B c i 0 = -2 ∨ vS B c i 1 = -2)
        · rw [if_pos hwk] at hr
          subst hr
          refine Ok_ite (fun z => absurd z (by decide)) (fun _ => skip (fun z => z.2 (Or.inr ?_)))
          rw [est]
          unfold stV
          rw [if_pos hwk.1, if_pos hwk.2]
        · rw [if_neg hwk] at hr
          subst hr
          refine Ok_ite (fun _ => ?_) (fun z => absurd rfl z)
          refine Ok_clR (sv_any hR0 (hNT c hc) hD0 hi (sd := 0) (by decide) 0) (fun ra hra => Ok_wdN rfl hx (by decide) ?_)
          subst hra
          rw [max_mx2 h96w va, ← eW0]
          have hE1 : Exc [63, 64, 65, 67, 68] v (swd 67 (nI (40 * c + i)) (pdW B (40 * c + i) 0) y0) := (hE0.up (K2 := [63, 64, 65, 67, 68]) (by decide)).wd (by decide) _ _
          have b65 : Am (swd 67 (nI (40 * c + i)) (pdW B (40 * c + i) 0) y0) 65 (40 * c + i) 0 := Am.o (by decide) a65
          have b63 : Am (swd 67 (nI (40 * c + i)) (pdW B (40 * c + i) 0) y0) 63 (40 * c + i) (-1) := Am.o (by decide) a63
          have b64 : Am (swd 67 (nI (40 * c + i)) (pdW B (40 * c + i) 0) y0) 64 (40 * c + i) (-1) := Am.o (by decide) a64
          have b67 : Am (swd 67 (nI (40 * c + i)) (pdW B (40 * c + i) 0) y0) 67 (40 * c + i) (pdW B (40 * c + i) 0) := sw_A (by omega)
          have ho1 : ∀ x, ¬ x = 40 * c + i → ∀ k z, Am v k x z → k = 63 ∨ k = 64 ∨ k = 65 ∨ k = 67 ∨ k = 68 → Am (swd 67 (nI (40 * c + i)) (pdW B (40 * c + i) 0) y0) k x z := fun x hne k z ha hk => by
            rcases hk with rfl | rfl | rfl | rfl | rfl
            · exact Am.o (by decide) (ho x hne _ _ ha (by decide))
            · exact Am.o (by decide) (ho x hne _ _ ha (by decide))
            · exact Am.o (by decide) (ho x hne _ _ ha (by decide))
            · exact sw_An (by omega) hne (hE0.am (by decide) ha)
            · exact Am.o (by decide) (hE0.am (by decide) ha)
          generalize swd 67 (nI (40 * c + i)) (pdW B (40 * c + i) 0) y0 = y1 at hE1 b65 b63 b64 b67 ho1 ⊢
          have hP1 : PW w y1 := h.1.ex hE1 (by decide)
          refine Ok_clR (sv_any (hP1.r0 hR) (hNT c hc) (hP1.dr hDw) hi (sd := 1) (by decide) 0) (fun rb hrb => Ok_wdN rfl hx (by decide) ?_)
          subst hrb
          rw [max_mx2 h96w vb, ← eW1]
          have hE2 : Exc [63, 64, 65, 67, 68] v (swd 68 (nI (40 * c + i)) (pdW B (40 * c + i) 1) y1) := hE1.wd (by decide) _ _
          have c65 : Am (swd 68 (nI (40 * c + i)) (pdW B (40 * c + i) 1) y1) 65 (40 * c + i) 0 := Am.o (by decide) b65
          have c63 : Am (swd 68 (nI (40 * c + i)) (pdW B (40 * c + i) 1) y1) 63 (40 * c + i) (-1) := Am.o (by decide) b63
          have c64 : Am (swd 68 (nI (40 * c + i)) (pdW B (40 * c + i) 1) y1) 64 (40 * c + i) (-1) := Am.o (by decide) b64
          have c67 : Am (swd 68 (nI (40 * c + i)) (pdW B (40 * c + i) 1) y1) 67 (40 * c + i) (pdW B (40 * c + i) 0) := Am.o (by decide) b67
          have c68 : Am (swd 68 (nI (40 * c + i)) (pdW B (40 * c + i) 1) y1) 68 (40 * c + i) (pdW B (40 * c + i) 1) := sw_A (by omega)
          have ho2 : ∀ x, ¬ x = 40 * c + i → ∀ k z, Am v k x z → k = 63 ∨ k = 64 ∨ k = 65 ∨ k = 67 ∨ k = 68 → Am (swd 68 (nI (40 * c + i)) (pdW B (40 * c + i) 1) y1) k x z := fun x hne k z ha hk => by
            by_cases h68 : k = 68
            · subst h68
              exact sw_An (by omega) hne (ho1 x hne _ _ ha (by decide))
            · exact Am.o (by omega) (ho1 x hne _ _ ha hk)
          generalize swd 68 (nI (40 * c + i)) (pdW B (40 * c + i) 1) y1 = y2 at hE2 c65 c63 c64 c67 c68 ho2 ⊢
          have hP2 : PW w y2 := h.1.ex hE2 (by decide)
          have hR2 := hP2.r0 hR
          rcases hmk with hmk | hmk
          · -- it waits
            have hH : pdH B (40 * c + i) := by
              have hns : ¬ (vS B c i 0 = -2 ∨ vS B c i 1 = -2) := fun z => hwk ⟨hmk, z⟩
              unfold pdH
              rw [est]
              unfold stV
              rw [if_pos hmk, if_neg hns]
              by_cases z : vS B c i 0 = -1 ∨ vS B c i 1 = -1
              · rw [if_pos z]
                exact Or.inl rfl
              · rw [if_neg z]
                exact Or.inr rfl
            have hV := hH.nv
            have hno : ¬ pdO B (40 * c + i) = true := fun y => by
              have y2 := (of_decide_eq_true y).2
              unfold pdH at hH
              rw [y2] at hH
              revert hH
              decide
            have m15 : Am y2 15 (40 * c + i) 0 := by
              rcases hR2.mk hc (i := i) (by omega) with ⟨a, -⟩ | ⟨-, e⟩ | ⟨-, e, -⟩
              · exact a
              · rw [hmk] at e
                exact absurd e (by decide)
              · rw [hmk] at e
                exact absurd e (by decide)
            refine Ok_rdN rfl hx (by decide) m15 (Ok_ite (fun z => absurd z (by decide)) (fun _ => Ok_wdN rfl hx (by decide) (Ok_li ?_)))
            have hE3 : Exc [63, 64, 65, 67, 68] v (swd 65 (nI (40 * c + i)) 1 y2) := hE2.wd (by decide) _ _
            have e65 : Am (swd 65 (nI (40 * c + i)) 1 y2) 65 (40 * c + i) 1 := sw_A (by omega)
            have e63 : Am (swd 65 (nI (40 * c + i)) 1 y2) 63 (40 * c + i) (-1) := Am.o (by decide) c63
            have e64 : Am (swd 65 (nI (40 * c + i)) 1 y2) 64 (40 * c + i) (-1) := Am.o (by decide) c64
            have e67 : Am (swd 65 (nI (40 * c + i)) 1 y2) 67 (40 * c + i) (pdW B (40 * c + i) 0) := Am.o (by decide) c67
            have e68 : Am (swd 65 (nI (40 * c + i)) 1 y2) 68 (40 * c + i) (pdW B (40 * c + i) 1) := Am.o (by decide) c68
            have ho3 : ∀ x, ¬ x = 40 * c + i → ∀ k z, Am v k x z → k = 63 ∨ k = 64 ∨ k = 65 ∨ k = 67 ∨ k = 68 → Am (swd 65 (nI (40 * c + i)) 1 y2) k x z := fun x hne k z ha hk => by
              by_cases h65 : k = 65
              · subst h65
                exact sw_An (by omega) hne (ho2 x hne _ _ ha (by decide))
              · exact Am.o (by omega) (ho2 x hne _ _ ha hk)
            generalize swd 65 (nI (40 * c + i)) 1 y2 = y3 at hE3 e65 e63 e64 e67 e68 ho3 ⊢
            have hP3 : PW w y3 := h.1.ex hE3 (by decide)
            obtain ⟨-, a2, a3, a4, a5, a6, a7, a8⟩ := h
            have hql := q_len hB a7 (fun y hy => ((a8 y).mp hy).1)
            refine r_350 (x := 40 * c + i) hB hR (hW.dr) hP3 hxF (fun y hy => ((a8 y).mp hy).1) (by omega) _ _ _ _ _ _ _ _ (fun y4 p hE4 hp k1 k2 k3 => ?_) q.length fuel y3 (by unfold fuel; omega) (Exc.rf y3) (Nat.le_refl _) (fun k y _ e => hE3.am (by decide) (a6 k y e)) (fun k y hk e => absurd (List.getElem?_eq_some_iff.mp e).1 (by omega))
            refine Ok_wdN rfl (by omega) (by decide) (Ok_li ?_)
            have el : nI q.length + 1 = nI (q.take p ++ (40 * c + i) :: q.drop p).length := by
              rw [nI_1, List.length_append, List.length_cons, List.length_take, List.length_drop, Nat.min_eq_left hp]
              congr 1
              omega
            rw [el, ← eLE hno]
            refine hnext _ _ ?_
            have eO := pkl_eq (B := B) (d := d) (M := pdMs B) (M2 := pdMs B) (pOX_s hno) (fun _ => rfl)
            have hE5 : Exc [63, 64, 65, 66, 67, 68] v (swd 66 (nI p) (nI (40 * c + i)) y4) := by
              have q1 : Exc [63, 64, 65, 66, 67, 68] v y3 := hE3.up (by decide)
              have q2 : Exc [63, 64, 65, 66, 67, 68] y3 y4 := hE4.up (by decide)
              exact (q1.trans q2).wd (by decide) _ _
            have up : ∀ k x z, ¬ k = 66 → Am y3 k x z → Am (swd 66 (nI p) (nI (40 * c + i)) y4) k x z := fun k x z hk ha => Am.o hk (hE4.am (by simpa using hk) ha)
            refine ⟨hP3.ex ((hE4.wd (by decide) _ _)) (by decide), fun f hf => ?_, fun j hj => ?_, fun x hxx => ?_, fun x hxx hxF2 hxV => ?_, fun k y e => ?_, ins_srt hB a7 (fun y hy => ⟨((a8 y).mp hy).1, ((a8 y).mp hy).2.2⟩) hx hp (fun k y hk e => (k2 k y hk e).2) k3, fun y => ?_⟩
            · rw [eO]
              exact hE5.am (by decide) (a2 f hf)
            · obtain ⟨g, g1, g2⟩ := a3 j hj
              exact ⟨g, hE5.am (by decide) g1, g2⟩
            · by_cases he : x = 40 * c + i
              · subst he
                have s65 : rst B (pS B d) (40 * c + i) = 1 := by
                  unfold rst
                  have : (pS B d).2.1 (40 * c + i) = none := if_neg hno
                  rw [if_pos ⟨hxF, hV⟩, this, if_neg (by decide)]
                have s63 : (pS B d).2.2.2.2.2.1 (40 * c + i) = -1 := if_neg hno
                have s64 : (pS B d).2.2.2.2.2.2 (40 * c + i) = -1 := if_neg hno
                rw [s65, s63, s64]
                exact ⟨up _ _ _ (by decide) e65, up _ _ _ (by decide) e63, up _ _ _ (by decide) e64⟩
              · obtain ⟨z1, z2, z3⟩ := a4 x (by omega)
                exact ⟨up _ _ _ (by decide) (ho3 x he _ _ z1 (by decide)), up _ _ _ (by decide) (ho3 x he _ _ z2 (by decide)), up _ _ _ (by decide) (ho3 x he _ _ z3 (by decide))⟩
            · by_cases he : x = 40 * c + i
              · subst he
                exact ⟨up _ _ _ (by decide) e67, up _ _ _ (by decide) e68⟩
              · obtain ⟨z1, z2⟩ := a5 x (by omega) hxF2 hxV
                exact ⟨up _ _ _ (by decide) (ho3 x he _ _ z1 (by decide)), up _ _ _ (by decide) (ho3 x he _ _ z2 (by decide))⟩
            · rw [ins_get hp] at e
              by_cases z1 : k < p
              · rw [if_pos z1] at e
                exact sw_An (by omega) (by omega) (k1 k y z1 e)
              · rw [if_neg z1] at e
                by_cases z2 : k = p
                · rw [if_pos z2] at e
                  have e3 : 40 * c + i = y := Option.some.inj e
                  rw [z2, ← e3]
                  exact sw_A (by omega)
                · rw [if_neg z2] at e
                  have hkl := (List.getElem?_eq_some_iff.mp e).1
                  have := (k2 (k - 1) y (by omega) e).1
                  rw [show k - 1 + 1 = k from by omega] at this
                  exact sw_An (by omega) z2 this
            · rw [ins_mem, a8 y]
              refine ⟨fun z => ?_, fun z => ?_⟩
              · rcases z with ⟨z1, z2, z3⟩ | rfl
                · exact ⟨z1, z2, by omega⟩
                · exact ⟨hxF, hH, by omega⟩
              · obtain ⟨z1, z2, z3⟩ := z
                by_cases he : y = 40 * c + i
                · exact Or.inr he
                · exact Or.inl ⟨z1, z2, by omega⟩
          · -- it is open
            have h2 : pdS B (40 * c + i) = 2 := by
              rw [est, hmk]
              rfl
            have hO : pdO B (40 * c + i) = true := decide_eq_true ⟨hxF, h2⟩
            have hV : ¬ pdV B (40 * c + i) := fun z => by
              unfold pdV at z
              rw [h2] at z
              revert z
              decide
            obtain ⟨j, hj, ej⟩ := hm.2 _ hxF h2
            obtain ⟨-, -, eb, -⟩ := hm.1 j hj _ ej
            have m15 : Am y2 15 (40 * c + i) 1 := by
              rcases hR2.mk hc (i := i) (by omega) with ⟨-, e⟩ | ⟨a, -⟩ | ⟨-, e, -⟩
              · rw [hmk] at e
                exact absurd e (by decide)
              · exact a
              · rw [hmk] at e
                exact absurd e (by decide)
            refine Ok_rdN rfl hx (by decide) m15 (Ok_ite (fun _ => Ok_wdN rfl hx (by decide) ?_) (fun z => absurd rfl z))
            have hE3 : Exc [63, 64, 65, 67, 68] v (swd 65 (nI (40 * c + i)) 2 y2) := hE2.wd (by decide) _ _
            have hP3 : PW w (swd 65 (nI (40 * c + i)) 2 y2) := h.1.ex hE3 (by decide)
            have hI3 := hP3.inv hI
            refine Ok_clR (r_matOf (hP3.r0 hR) (fun m hm => (hI3.1.2.2.2.2.2.1 m hm).1) hMO hc (by omega)) (fun r hr => Ok_wdN rfl hx (by decide) ?_)
            rw [if_pos hmk] at hr
            have er : r = pdB B (40 * c + i) := by
              unfold pdB
              rw [d1, d2]
              exact hr
            have hE4 : Exc [63, 64, 65, 67, 68] v (swd 63 (nI (40 * c + i)) r (swd 65 (nI (40 * c + i)) 2 y2)) := hE3.wd (by decide) _ _
            have hP4 := h.1.ex hE4 (by decide)
            refine Ok_rfN (r_min hB (hP4.r0 hR)) (Ok_wdN rfl hx (by decide) ?_)
            have hE5 : Exc [63, 64, 65, 67, 68] v (swd 64 (nI (40 * c + i)) (nI (pdT B)) (swd 63 (nI (40 * c + i)) r (swd 65 (nI (40 * c + i)) 2 y2))) := hE4.wd (by decide) _ _
            have f65 : Am (swd 64 (nI (40 * c + i)) (nI (pdT B)) (swd 63 (nI (40 * c + i)) r (swd 65 (nI (40 * c + i)) 2 y2))) 65 (40 * c + i) 2 := Am.o (by decide) (Am.o (by decide) (sw_A (by omega)))
            have f63 : Am (swd 64 (nI (40 * c + i)) (nI (pdT B)) (swd 63 (nI (40 * c + i)) r (swd 65 (nI (40 * c + i)) 2 y2))) 63 (40 * c + i) r := Am.o (by decide) (sw_A (by omega))
            have f64 : Am (swd 64 (nI (40 * c + i)) (nI (pdT B)) (swd 63 (nI (40 * c + i)) r (swd 65 (nI (40 * c + i)) 2 y2))) 64 (40 * c + i) (nI (pdT B)) := sw_A (by omega)
            have f67 : Am (swd 64 (nI (40 * c + i)) (nI (pdT B)) (swd 63 (nI (40 * c + i)) r (swd 65 (nI (40 * c + i)) 2 y2))) 67 (40 * c + i) (pdW B (40 * c + i) 0) := Am.o (by decide) (Am.o (by decide) (Am.o (by decide) c67))
            have f68 : Am (swd 64 (nI (40 * c + i)) (nI (pdT B)) (swd 63 (nI (40 * c + i)) r (swd 65 (nI (40 * c + i)) 2 y2))) 68 (40 * c + i) (pdW B (40 * c + i) 1) := Am.o (by decide) (Am.o (by decide) (Am.o (by decide) c68))
            have ho5 : ∀ x, ¬ x = 40 * c + i → ∀ k z, Am v k x z → k = 63 ∨ k = 64 ∨ k = 65 ∨ k = 67 ∨ k = 68 → Am (swd 64 (nI (40 * c + i)) (nI (pdT B)) (swd 63 (nI (40 * c + i)) r (swd 65 (nI (40 * c + i)) 2 y2))) k x z := fun x hne k z ha hk => by
              have h0 := ho2 x hne k z ha hk
              have s1 : Am (swd 65 (nI (40 * c + i)) 2 y2) k x z := by
                by_cases hk2 : k = 65
                · subst hk2
                  exact sw_An (by omega) hne h0
                · exact Am.o hk2 h0
              have s2 : Am (swd 63 (nI (40 * c + i)) r (swd 65 (nI (40 * c + i)) 2 y2)) k x z := by
                by_cases hk2 : k = 63
                · subst hk2
                  exact sw_An (by omega) hne s1
                · exact Am.o hk2 s1
              by_cases hk2 : k = 64
              · subst hk2
                exact sw_An (by omega) hne s2
              · exact Am.o hk2 s2
            generalize swd 64 (nI (40 * c + i)) (nI (pdT B)) (swd 63 (nI (40 * c + i)) r (swd 65 (nI (40 * c + i)) 2 y2)) = y5 at hE5 f65 f63 f64 f67 f68 ho5 ⊢
            have hP5 : PW w y5 := h.1.ex hE5 (by decide)
            obtain ⟨-, a2, a3, a4, a5, a6, a7, a8⟩ := h
            obtain ⟨pb1, pb2⟩ := pkl_b (O := pOX B (40 * c + i)) (M := pdMs B) hB hd
            have eM : ∀ k, pdMs B k = true ↔ (pdMs B k = true ∨ k = j) := fun k => ⟨Or.inl, fun z => by
              rcases z with z | z
              · exact z
              · rw [z]
                unfold pdMs
                rw [ej]
                rfl⟩
            obtain ⟨-, q2, -, q4, -⟩ := pkl_put (F := F) (d := d) (O := pOX B (40 * c + i)) (M := pdMs B) (O2 := pOX B (40 * c + i + 1)) (M2 := pdMs B) hB hxF eb (pOX_o hO) eM
            refine Ok_rfN (r_min hB (hP5.r0 hR)) (Ok_li (Ok_rfN (r_min hB (hP5.r0 hR)) ?_))
            rw [nI_add]
            refine Ok_cl (r_tires (g := (pkl B d (pOX B (40 * c + i)) (pdMs B)).2.2.1) hB hR hP5 hxF f67 f68 (fun f hf => hE5.am (by decide) (a2 f hf)) pb1 (by omega) (fun r2 y6 hE6 h70 => ?_))
            have elx : (if nI (pLE B d (40 * c + i)) < nI (pdT B + d) then nI (pdT B + d) else nI (pLE B d (40 * c + i))) = nI (pLE B d (40 * c + i + 1)) := by
              have pb2' : pLE B d (40 * c + i) < 1000000 := pb2
              rw [nI_max (by omega) (by omega)]
              exact congrArg nI q4
            rw [elx]
            refine hnext y6 q ?_
            refine ⟨hP5.ex hE6 (by decide), fun f hf => ?_, fun k hk => ?_, fun x hxx => ?_, fun x hxx hxF2 hxV => ?_, fun k y e => hE6.am (by decide) (hE5.am (by decide) (a6 k y e)), a7, fun y => ?_⟩
            · rw [← q2 f hf]
              exact h70 f hf
            · obtain ⟨g, g1, g2⟩ := a3 k hk
              exact ⟨g, hE6.am (by decide) (hE5.am (by decide) g1), g2⟩
            · by_cases he : x = 40 * c + i
              · subst he
                have s65 : rst B (pS B d) (40 * c + i) = 2 := by
                  unfold rst
                  have : (pS B d).2.1 (40 * c + i) = some (pdT B + d) := if_pos hO
                  rw [if_pos ⟨hxF, hV⟩, this]
                  rfl
                have s63 : (pS B d).2.2.2.2.2.1 (40 * c + i) = pdB B (40 * c + i) := if_pos hO
                have s64 : (pS B d).2.2.2.2.2.2 (40 * c + i) = nI (pdT B) := if_pos hO
                rw [s65, s63, s64]
                rw [er] at f63
                exact ⟨hE6.am (by decide) f65, hE6.am (by decide) f63, hE6.am (by decide) f64⟩
              · obtain ⟨z1, z2, z3⟩ := a4 x (by omega)
                exact ⟨hE6.am (by decide) (ho5 x he _ _ z1 (by decide)), hE6.am (by decide) (ho5 x he _ _ z2 (by decide)), hE6.am (by decide) (ho5 x he _ _ z3 (by decide))⟩
            · by_cases he : x = 40 * c + i
              · subst he
                exact ⟨hE6.am (by decide) f67, hE6.am (by decide) f68⟩
              · obtain ⟨z1, z2⟩ := a5 x (by omega) hxF2 hxV
                exact ⟨hE6.am (by decide) (ho5 x he _ _ z1 (by decide)), hE6.am (by decide) (ho5 x he _ _ z2 (by decide))⟩
            · rw [a8 y]
              refine ⟨fun ⟨z1, z2, z3⟩ => ⟨z1, z2, by omega⟩, fun ⟨z1, z2, z3⟩ => ⟨z1, z2, ?_⟩⟩
              have hne : ¬ y = 40 * c + i := fun z => by
                rw [z] at z2
                unfold pdH at z2
                rw [h2] at z2
                revert z2
                decide
              omega
      rcases mk0 with ⟨a, e⟩ | ⟨a, e⟩ | ⟨a, e, -⟩
      · exact Ok_rdN rfl hx (by decide) a (Ok_ite (fun z => absurd z (by decide)) (fun _ => go (Or.inl e)))
      · exact Ok_rdN rfl hx (by decide) a (Ok_ite (fun z => absurd z (by decide)) (fun _ => go (Or.inr e)))
      · exact Ok_rdN rfl hx (by decide) a (Ok_ite (fun _ => skip (done3 e)) (fun z => absurd rfl z))
theorem r_136 {B : Nat → Int32} {F d : Nat} {w : GS} (hB : PdK B F) (hm : Pmt B) (hW : Wst B w) (hF : nF w = F) (hd : d ≤ 60) (v1 : Int32) (K : Int32 → Int32 → Int32 → Int32 → Int32 → Int32 → PG Int32) (Q : Int32 → GS → Prop) (hK : ∀ v v6 q, RS B F d w 160 q v → Ok (K v1 (nI d) (nI q.length) (nI (pLE B d 160)) (nI q.length) v6) v Q) : ∀ (t c m : Nat) (q : List Nat) (v : GS), c + t = 4 → t < m → RS B F d w (40 * c) q v → Ok (lp_plan_136 m v1 (nI d) (nI q.length) (nI (pLE B d (40 * c))) (nI q.length) (nI c) K) v Q := by
  intro t
  induction t with
  | zero =>
    intro c m q v h1 h2 h
    cases m with
    | zero => omega
    | succ m =>
      have : c = 4 := by omega
      subst this
      unfold lp_plan_136
      exact Ok_ite (fun _ => hK v _ q h) (fun z => absurd (Int32.le_refl _) z)
  | succ t ih =>
    intro c m q v h1 h2 h
    cases m with
    | zero => omega
    | succ m =>
      unfold lp_plan_136
      refine Ok_ite (fun z => absurd ((nI_le4 (k := c) (n := 4) (by omega) (by decide)).mp z) (by omega)) (fun _ => ?_)
      refine r_145 (c := c) hB hm hW hF hd (by omega) v1 _ _ (fun v v7 q h => Ok_li ?_) 40 0 fuel q v (by omega) (by unfold fuel; omega) h
      rw [nI_1]
      exact ih (c + 1) m q v (by omega) (by omega) h

