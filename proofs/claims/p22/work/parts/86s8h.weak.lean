/-! ===== medal, planned look only; plan keeps the live state ===== -/
theorem rd_planned {w : GS} (hI : Inv w) (h13 : ∀ c, c < 4 → w.2.2 13 c = true) (a b d : Int32) : Rd (f_planned a b d) w (fun _ => True) := by
  unfold f_planned
  refine Ok_clR (ok_isFight w a b (hI.kd h13)) (fun r hr => Ok_ite (fun _ => Ok_rt ⟨rfl, trivial⟩) (fun hne => ?_))
  rcases hr with ⟨-, c, i, n, rfl, rfl, hD, hi⟩ | hr
  · have hc := hD.c4
    have hi40 : i < 40 := by have := hD.n37; omega
    refine Ok_uf (Ok_ite (fun _ => Ok_rt ⟨rfl, trivial⟩) (fun _ => Ok_clR (ok_inB _ _ _ w) (fun r _ => Ok_ite (fun _ => Ok_rt ⟨rfl, trivial⟩) (fun _ => Ok_ite (fun _ => ?_) (fun _ => ?_)))))
    · exact Ok_udN (ix40 c i) (by omega) (by decide) rfl (Ok_rt ⟨rfl, trivial⟩)
    · exact Ok_udN (ix40 c i) (by omega) (by decide) rfl (Ok_rt ⟨rfl, trivial⟩)
  · exact absurd hr hne
theorem planX {N tp n E : Nat} {lg : Nat → En} {s : Nat → GS} {w : GS} (h : LiveX N tp n E lg s w) (a b : Int32) : Ok (f_plan a b) w (fun _ v => LiveX N tp n E lg s v) := by
  have hI := h.inv
  have h13 := h.2.2.2.2.2.2.2.2.2.2
  have hkd := hI.kd h13
  obtain ⟨nc, hnc⟩ : ∃ nc : Nat → Nat, ∀ c, c < 4 → Kd w c (nc c) := by
    obtain ⟨n0, h0⟩ := (hkd 0 (by decide)).2
    obtain ⟨n1, h1⟩ := (hkd 1 (by decide)).2
    obtain ⟨n2, h2⟩ := (hkd 2 (by decide)).2
    obtain ⟨n3, h3⟩ := (hkd 3 (by decide)).2
    refine ⟨fun c => if c = 0 then n0 else if c = 1 then n1 else if c = 2 then n2 else n3, fun c hc => ?_⟩
    rcases (by omega : c = 0 ∨ c = 1 ∨ c = 2 ∨ c = 3) with rfl | rfl | rfl | rfl
    · exact h0
    · exact h1
    · exact h2
    · exact h3
  have hP0 : PW w w := ⟨rfl, rfl, fun _ _ => ⟨rfl, rfl⟩⟩
  have hpw : ∀ v, PW w v → LiveX N tp n E lg s v := fun v hv => live_pw h hv
  have hpw2 : ∀ v, PW w v → LiveX N tp n E lg s (swf 69 1 v) := fun v hv => by
    have h9 := live_pw h hv
    exact (live_frg h9 (Nat.le_refl _) ((swf_o (by decide)).1.trans h9.2.1) (swf_o (by decide)).1 (swf_o (by decide)).1 rfl rfl rfl (fun _ z => z) (h9.2.2.2.2.2.2.2.1.wfU rfl _))
  have h96 := hI.1.1.2.2
  unfold f_plan
  refine Ok_clR (ok_in _ _ _ w) (fun r hr => Ok_ite (fun _ => Ok_rt h) (fun hne => ?_))
  have c1 : (1 : Int64).toInt = 1 := by decide
  have c4 : (4 : Int64).toInt = 4 := by decide
  rw [Int32.toInt_toInt64, c1, c4] at hr
  rcases hr with ⟨-, k1, k2⟩ | ⟨z, -⟩
  · have e := nI_ofT (x := a) (by omega)
    have hM : a.toInt.toNat ≤ 4 := by omega
    generalize a.toInt.toNat = M at e hM
    subst e
    refine Ok_clR (ok_inB _ _ _ w) (fun r _ => Ok_ite (fun _ => Ok_rt h) (fun _ => Ok_rf hI.1.2.1.1 ?_))
    refine ok_plan41 hI (nc := nc) _ _ _ _ _ _ _ (fun v v6 hP h70 => ?_) (nF w) 0 fuel w (by omega) (by unfold fuel; omega) hP0 (fun g hg => absurd hg (Nat.not_lt_zero _))
    refine ok_plan93 hI (nc := nc) _ _ _ _ _ _ _ (fun v v6 hPn => ?_) 4 0 fuel v (by omega) (by unfold fuel; omega) hP h70 (fun g hg => absurd hg (Nat.not_lt_zero _))
    refine ok_plan136 hI h13 hnc _ _ _ _ (fun v v3 v4 v6 many hmany hPn => ?_) 4 0 fuel 0 v _ _ (by omega) (by unfold fuel; omega) (by omega) hPn
    have hI2 := hPn.1.inv hI
    refine Ok_rf hI2.1.2.1.1 ?_
    generalize v.1.1 3 = mn
    have hmn := mn.le_toInt
    refine ok_plan429 hI hnc hmany hM b _ _ (fun v hv => hpw v hv.1) (fun v v3 v4 v6 hPn => ?_) (100001 - mn.toInt).toNat fuel v v3 v4 mn (by omega) (by unfold fuel; omega) hPn
    refine ok_plan631 (w := w) (nc := nc) _ _ _ _ _ _ _ _ (fun v v7 hP => Ok_wf (Ok_rt (Q := fun _ v => LiveX N tp n E lg s v) (hpw2 v hP))) 160 0 fuel v (by omega) (by unfold fuel; omega) hPn.1 (fun y hy => ⟨(hPn.2.2.2.1 y hy).1, (hPn.2.2.2.1 y hy).2.1⟩)
  · exact absurd z hne

