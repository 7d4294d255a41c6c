/-! ===== medal, planned look only; plan keeps the live state ===== -/
theorem rd_medal {w : GS} (hI : Inv w) (h13 : ∀ c, c < 4 → w.2.2 13 c = true) (a b : Int32) : Rd (f_medal a b) w (fun _ => True) := by
  unfold f_medal
  refine Rd_clR (ok_isClass a w) (fun r hr => Rd_ite (fun _ => Rd_rt trivial) (fun hne => ?_))
  rcases hr with ⟨-, c, hc, rfl⟩ | ⟨hr, -⟩
  · refine Rd_rdN rfl hc (by decide) (Am.val (hI.m12 hc)) (Rd_ite (fun _ => Rd_rt trivial) (fun h12 => Rd_ite (fun hb => ?_) (fun _ => Rd_rt trivial)))
    have hb0 : 0 ≤ b.toInt := by
      have h9 := Int32.le_iff_toInt_le.mp hb
      have : (0 : Int32).toInt = 0 := by decide
      omega
    have hd : ∃ n2, DrS w c n2 := by
      rcases (hI.1.2.2.2.1 c hc).2.2.1 with z | z
      · exact absurd z.2 h12
      · exact z
    obtain ⟨n, hd⟩ := hd
    have hD := hI.1.dr hd
    rcases hD with ⟨s, hP, hns⟩ | ⟨L, hT, hnL⟩
    · have hDD : Dr w c n := Or.inl ⟨s, hP, hns⟩
      obtain ⟨-, -, s2, s5, -, y12, y13, hw, -⟩ := hP
      refine Rd_rdN rfl hc (by decide) y12 (Rd_ite (fun _ => ?_) (fun z => absurd rfl z))
      refine Rd_rdN rfl hc (by decide) y13 (Rd_ite (fun _ => Rd_rt trivial) (fun _ => ?_))
      refine Rd_clR (ok_about hI h13 (nI c) 5) (fun r hr => ?_)
      have hr2 := hr rfl c n hc rfl hDD
      refine Rd_clR (ok_fights w c n hDD) (fun r2 hr3 => ?_)
      subst hr3
      refine Rd_ite (fun e => ?_) (fun _ => Rd_rt trivial)
      have hn := hDD.n37
      have hcb := cb_le (P := dn w c) n
      rw [hr2] at e
      have e2 : cb (dn w c) n = n := (nI_eq (by omega) (by omega)).mp e
      have hA : Ad w c n := fun i hi => by
        have h2 : w.1.2 15 (40 * c + i) = 2 := of_decide_eq_true (cb_full n e2 i hi)
        obtain ⟨-, h3⟩ := hI.1.2.2.2.2.1 c hc i (by omega) (by rw [h2]; decide)
        obtain ⟨⟨f, f1, -⟩, -, m20, -⟩ := h3 h2
        exact ⟨f1.1, m20⟩
      exact Rd_clR (ok_ordered hI hDD hA s5 y13 (fun p hp => by obtain ⟨f, f1, f2⟩ := hw p hp; exact ⟨f, f1, f2.1⟩) b) (fun _ _ => Rd_rt trivial)
    · have hDD : Dr w c n := Or.inr ⟨L, hT, hnL⟩
      obtain ⟨-, -, L3, L5, -, y12, y13, -⟩ := hT
      have h32 := pow_lt32 L5
      have h8 : 8 ≤ 2 ^ L := by
        rcases (by omega : L = 3 ∨ L = 4 ∨ L = 5) with rfl | rfl | rfl <;> decide
      have hfin : Rd (f_finalOf (nI c)) w (fun r => r = nI (2 ^ L - 2)) := by
        unfold f_finalOf
        exact Rd_rdN rfl hc (by decide) y13 (Rd_rt (nI_sub (b := 2) (by omega)))
      refine Rd_rdN rfl hc (by decide) y12 (Rd_ite (fun z => absurd z (by decide)) (fun _ => Rd_ite (fun b3 => Rd_ite (fun _ => ?_) (fun b1 => ?_)) (fun _ => Rd_rt trivial)))
      · refine Rd_clR hfin (fun r hr => ?_)
        subst hr
        refine Rd_clR (ok_win w c n (2 ^ L - 2) 0 0 hDD (by omega)) (fun r _ => Rd_ite (fun _ => Rd_rt trivial) (fun _ => Rd_ite (fun _ => Rd_rt trivial) (fun _ => ?_)))
        refine Rd_clR hfin (fun r2 hr => ?_)
        subst hr
        refine Rd_clR (ok_side w c n (2 ^ L - 2) 0 0 hDD (by omega) (by decide)) (fun r2 _ => Rd_ite (fun _ => ?_) (fun _ => ?_))
        · refine Rd_clR hfin (fun r2 hr => ?_)
          subst hr
          exact Rd_clR (ok_side w c n (2 ^ L - 2) 1 0 hDD (by omega) (by decide)) (fun _ _ => Rd_rt trivial)
        · refine Rd_clR hfin (fun r2 hr => ?_)
          subst hr
          exact Rd_clR (ok_side w c n (2 ^ L - 2) 0 0 hDD (by omega) (by decide)) (fun _ _ => Rd_rt trivial)
      · have e := nI_ofT hb0
        generalize b.toInt.toNat = k at e
        have hk31 : k < 2 ^ 31 ∨ ¬ k < 2 ^ 31 := Nat.lt_or_ge _ _ |>.imp id (fun z => by omega)
        have hb3 := Int32.le_iff_toInt_le.mp b3
        have hb1 : ¬ b.toInt ≤ (1 : Int32).toInt := fun z => b1 (Int32.le_iff_toInt_le.mpr z)
        have c3 : (3 : Int32).toInt = 3 := by decide
        have c1 : (1 : Int32).toInt = 1 := by decide
        have e3 : b.toInt = 2 ∨ b.toInt = 3 := by omega
        have eb : b = nI 2 ∨ b = nI 3 := by
          rcases e3 with z | z
          · exact Or.inl (Int32.toInt_inj.mp (by rw [z, nI_toInt (by decide)]; rfl))
          · exact Or.inr (Int32.toInt_inj.mp (by rw [z, nI_toInt (by decide)]; rfl))
        refine Rd_rdN rfl hc (by decide) y13 (Rd_clR (ok_rounds w c L hc L5 (by omega) y13) (fun r hr => ?_))
        subst hr
        have ei : ∃ i, i < n ∧ nI (2 ^ L) - 2 + (b - 1) * (nI (L - 1) - 1) = nI i := by
          rw [hnL]
          rcases (by omega : L = 3 ∨ L = 4 ∨ L = 5) with rfl | rfl | rfl <;> rcases eb with rfl | rfl
          · exact ⟨7, by decide, by decide⟩
          · exact ⟨8, by decide, by decide⟩
          · exact ⟨16, by decide, by decide⟩
          · exact ⟨18, by decide, by decide⟩
          · exact ⟨33, by decide, by decide⟩
          · exact ⟨36, by decide, by decide⟩
        obtain ⟨i, hi, ei⟩ := ei
        rw [ei]
        exact Rd_clR (ok_win w c n i 0 0 hDD hi) (fun _ _ => Rd_rt trivial)
  · exact absurd hr hne
theorem planX {N tp n E : Nat} {lg : Nat → En} {s : Nat → GS} {w : GS} (h : LiveX N tp n E lg s w) (a b : Int32) : Ok (f_plan a b) w (fun _ v => LiveX N tp n E lg s v) := by
  have hI := h.inv
  have h13 := h.2.2.2.2.2.2.2.2.2.2
  have hkd := hI.kd h13
  obtain ⟨nc, hnc⟩ : ∃ nc : Nat → Nat, ∀ c, c < 4 → Kd w c (nc c) := by
    obtain ⟨n0, h0⟩ := (hkd 0 (by decide)).2
    obtain ⟨n1, h1⟩ := (hkd 1 (by decide)).2
    obtain ⟨n2, h2⟩ := (hkd 2 (by decide)).2
    obtain ⟨n3, h3⟩ := (hkd 3 (by decide)).2
    refine ⟨fun c => if c = 0 then n0 else if c = 1 then n1 else if c = 2 then n2 else n3, fun c hc => ?_⟩
    rcases (by omega : c = 0 ∨ c = 1 ∨ c = 2 ∨ c = 3) with rfl | rfl | rfl | rfl
    · exact h0
    · exact h1
    · exact h2
    · exact h3
  have hP0 : PW w w := ⟨rfl, rfl, fun _ _ => ⟨rfl, rfl⟩⟩
  have hpw : ∀ v, PW w v → LiveX N tp n E lg s v := fun v hv => live_pw h hv
  have hpw2 : ∀ v, PW w v → LiveX N tp n E lg s (swf 69 1 v) := fun v hv => by
    have h9 := live_pw h hv
    exact (live_frg h9 (Nat.le_refl _) ((swf_o (by decide)).1.trans h9.2.1) (swf_o (by decide)).1 (swf_o (by decide)).1 rfl rfl rfl (fun _ z => z) (h9.2.2.2.2.2.2.2.1.wfU rfl _))
  have h96 := hI.1.1.2.2
  unfold f_plan
  refine Ok_clR (ok_in _ _ _ w) (fun r hr => Ok_ite (fun _ => Ok_rt h) (fun hne => ?_))
  have c1 : (1 : Int64).toInt = 1 := by decide
  have c4 : (4 : Int64).toInt = 4 := by decide
  rw [Int32.toInt_toInt64, c1, c4] at hr
  rcases hr with ⟨-, k1, k2⟩ | ⟨z, -⟩
  · have e := nI_ofT (x := a) (by omega)
    have hM : a.toInt.toNat ≤ 4 := by omega
    generalize a.toInt.toNat = M at e hM
    subst e
    refine Ok_clR (ok_inB _ _ _ w) (fun r _ => Ok_ite (fun _ => Ok_rt h) (fun _ => Ok_rf hI.1.2.1.1 ?_))
    refine ok_plan41 hI (nc := nc) _ _ _ _ _ _ _ (fun v v6 hP h70 => ?_) (nF w) 0 fuel w (by omega) (by unfold fuel; omega) hP0 (fun g hg => absurd hg (Nat.not_lt_zero _))
    refine ok_plan93 hI (nc := nc) _ _ _ _ _ _ _ (fun v v6 hPn => ?_) 4 0 fuel v (by omega) (by unfold fuel; omega) hP h70 (fun g hg => absurd hg (Nat.not_lt_zero _))
    refine ok_plan136 hI h13 hnc _ _ _ _ (fun v v3 v4 v6 many hmany hPn => ?_) 4 0 fuel 0 v _ _ (by omega) (by unfold fuel; omega) (by omega) hPn
    have hI2 := hPn.1.inv hI
    refine Ok_rf hI2.1.2.1.1 ?_
    generalize v.1.1 3 = mn
    have hmn := mn.le_toInt
    refine ok_plan429 hI hnc hmany hM b _ _ (fun v hv => hpw v hv.1) (fun v v3 v4 v6 hPn => ?_) (100001 - mn.toInt).toNat fuel v v3 v4 mn (by omega) (by unfold fuel; omega) hPn
    refine ok_plan631 (w := w) (nc := nc) _ _ _ _ _ _ _ _ (fun v v7 hP => Ok_wf (Ok_rt (Q := fun _ v => LiveX N tp n E lg s v) (hpw2 v hP))) 160 0 fuel v (by omega) (by unfold fuel; omega) hPn.1 (fun y hy => ⟨(hPn.2.2.2.1 y hy).1, (hPn.2.2.2.1 y hy).2.1⟩)
  · exact absurd z hne

