/-! ===== the reference's act() and undo(), with what they answer ===== -/
theorem act_ex {N tp n E : Nat} {lg : Nat → En} {s : Nat → GS} {w : GS} (h : LiveX N tp n E lg s w) (hN : N ≤ 24000) {a0 a1 a2 a3 r0 : Int32} {sv : GS} (h0 : ¬ a0 = 0) (hd : f_does a0 a1 a2 a3 (s n) = some (r0, sv)) (hI : Inv sv) : Ok (f_act a0 a1 a2 a3) w (fun r v => (n = 500 ∧ r = -4 ∧ v = w) ∨ (n < 500 ∧ r = r0 ∧ LiveX N tp (n + 1) E (fun k => if k = n then (a0, a1, a2, a3) else lg k) (fun k => if k = n + 1 then sv else s k) v)) := by
  have hL := h
  obtain ⟨hn, e53, e55, e42, htp, hE, hR, hA, hlg, h54, h13⟩ := h
  unfold f_act
  refine Ok_uf' (fun x hx => ?_)
  have ex : x = nI n := hx.symm.trans e53
  subst ex
  refine Ok_ite (fun he => Ok_rt (Or.inl ⟨(nI_eq (a := n) (b := 500) (by omega) (by decide)).mp he, rfl, rfl⟩)) (fun hne => ?_)
  have hn5 : n < 500 := by
    rcases Nat.lt_or_ge n 500 with y | y
    · exact y
    · have : n = 500 := by omega
      subst this
      exact absurd rfl hne
  refine Ok_uf' (fun x hx => ?_)
  have ex : x = nI n := hx.symm.trans e53
  subst ex
  refine Ok_wdN (j := 4 * n) (ix4 n) (by omega) (by decide) (Ok_uf' (fun x hx => ?_))
  have ex : x = nI n := hx.symm.trans e53
  subst ex
  refine Ok_wdN (j := 4 * n + 1) (by rw [ix4, nI_1]) (by omega) (by decide) (Ok_uf' (fun x hx => ?_))
  have ex : x = nI n := hx.symm.trans e53
  subst ex
  refine Ok_wdN (j := 4 * n + 2) (by rw [ix4]; exact nI_add (4 * n) 2) (by omega) (by decide) (Ok_uf' (fun x hx => ?_))
  have ex : x = nI n := hx.symm.trans e53
  subst ex
  refine Ok_wdN (j := 4 * n + 3) (by rw [ix4]; exact nI_add (4 * n) 3) (by omega) (by decide) (Ok_uf' (fun x hx => ?_))
  have ex : x = nI n := hx.symm.trans e53
  subst ex
  rw [nI_1]
  refine Ok_wf ?_
  have hnn := hR.2.1 n (Nat.le_refl _)
  have hF0 := fr_does _ _ _ _ h0 (s n) r0 sv hd
  have eL : ∀ j, (swd 52 (nI (4 * n + 3)) a3 (swd 52 (nI (4 * n + 2)) a2 (swd 52 (nI (4 * n + 1)) a1 (swd 52 (nI (4 * n)) a0 w)))).1.2 52 j = if j = 4 * n + 3 then a3 else if j = 4 * n + 2 then a2 else if j = 4 * n + 1 then a1 else if j = 4 * n then a0 else w.1.2 52 j := fun j => by
    rw [sw_v (by omega), sw_v (by omega), sw_v (by omega), sw_v (by omega)]
  have eo : ∀ k, ¬ k = 52 → (swd 52 (nI (4 * n + 3)) a3 (swd 52 (nI (4 * n + 2)) a2 (swd 52 (nI (4 * n + 1)) a1 (swd 52 (nI (4 * n)) a0 w)))).1.2 k = w.1.2 k ∧ (swd 52 (nI (4 * n + 3)) a3 (swd 52 (nI (4 * n + 2)) a2 (swd 52 (nI (4 * n + 1)) a1 (swd 52 (nI (4 * n)) a0 w)))).2.2 k = w.2.2 k := fun k hk => by
    rw [(sw_o hk).1, (sw_o hk).1, (sw_o hk).1, (sw_o hk).1, (sw_o hk).2, (sw_o hk).2, (sw_o hk).2, (sw_o hk).2]
    exact ⟨rfl, rfl⟩
  have ei : (swd 52 (nI (4 * n + 3)) a3 (swd 52 (nI (4 * n + 2)) a2 (swd 52 (nI (4 * n + 1)) a1 (swd 52 (nI (4 * n)) a0 w)))).1.1 = w.1.1 := rfl
  have hA2 : Ag (s n) (swd 52 (nI (4 * n + 3)) a3 (swd 52 (nI (4 * n + 2)) a2 (swd 52 (nI (4 * n + 1)) a1 (swd 52 (nI (4 * n)) a0 w)))) := (((hA.wdU rfl _ _).wdU rfl _ _).wdU rfl _ _).wdU rfl _ _
  generalize swd 52 (nI (4 * n + 3)) a3 (swd 52 (nI (4 * n + 2)) a2 (swd 52 (nI (4 * n + 1)) a1 (swd 52 (nI (4 * n)) a0 w))) = y at eL eo ei hA2 ⊢
  have hA3 : Ag (s n) (swf 53 (nI (n + 1)) y) := hA2.wfU rfl _
  have y54 := eo 54 (by decide)
  obtain ⟨v1, f1, g1, -⟩ := det_does _ _ _ _ _ (swf 53 (nI (n + 1)) y) hA3 (fun z => by cases z) _ _ hd
  have hF := (fr_does _ _ _ _ h0 _ r0 v1 f1).weak
  refine Ok_cl ⟨r0, v1, f1, Ok_rt (Or.inr ⟨hn5, rfl, by omega, ?_, ?_, ?_, htp, hE, ?_, ?_, ?_, ?_, ?_⟩)⟩
  · exact (hF.1 53 rfl).1.trans (swf_e (w := y) (k := 53)).2
  · exact (hF.1 55 rfl).1.trans ((swf_o (w := y) (k := 53) (by decide)).1.trans ((congrFun ei 55).trans e55))
  · exact (hF.1 42 rfl).1.trans ((swf_o (w := y) (k := 53) (by decide)).1.trans ((congrFun ei 42).trans e42))
  · have e54 : v1.1.2 54 = w.1.2 54 := (hF.2.1 54 rfl).1.trans y54.1
    rw [e54]
    exact hR.more (by omega) (a0, a1, a2, a3) sv (Or.inr ⟨h0, r0, hd⟩) hI (hnn.2.2.fr hF0) (fun z => absurd z h0) (fun _ => hF0)
  · have es : (fun k => if k = n + 1 then sv else s k) (n + 1) = sv := if_pos rfl
    rw [es]
    exact g1
  · intro k hk
    have e52 : v1.1.2 52 = y.1.2 52 := (hF.2.1 52 rfl).1
    rw [e52, eL, eL, eL, eL]
    by_cases hkn : k = n
    · subst hkn
      have es : (fun j => if j = k then (a0, a1, a2, a3) else lg j) k = (a0, a1, a2, a3) := if_pos rfl
      rw [es, if_neg (by omega), if_neg (by omega), if_neg (by omega), if_pos rfl, if_neg (by omega), if_neg (by omega), if_pos rfl, if_neg (by omega), if_pos rfl, if_pos rfl]
      exact ⟨rfl, rfl, rfl, rfl⟩
    · have es : (fun j => if j = n then (a0, a1, a2, a3) else lg j) k = lg k := if_neg hkn
      rw [es, if_neg (by omega), if_neg (by omega), if_neg (by omega), if_neg (by omega), if_neg (by omega), if_neg (by omega), if_neg (by omega), if_neg (by omega), if_neg (by omega), if_neg (by omega), if_neg (by omega), if_neg (by omega), if_neg (by omega), if_neg (by omega), if_neg (by omega), if_neg (by omega)]
      exact hlg k (by omega)
  · intro j hj
    rw [(hF.2.1 54 rfl).2]
    show y.2.2 54 j = true
    rw [y54.2]
    exact h54 j hj
  · intro c hc
    refine hF.2.2 c ?_
    show y.2.2 13 c = true
    rw [(eo 13 (by decide)).2]
    exact h13 c hc
theorem undo_ex {N tp n E : Nat} {lg : Nat → En} {s : Nat → GS} {w : GS} (h : LiveX N tp n E lg s w) : Ok f_undo w (fun r v => (n = 0 ∧ r = -1 ∧ v = w) ∨ (1 ≤ n ∧ r = nI (n - 1) ∧ LiveX N tp (n - 1) E lg s v)) := by
  have hL := h
  obtain ⟨hn, e53, e55, e42, htp, hE, hR, hA, hlg, h54, h13⟩ := h
  unfold f_undo
  refine Ok_uf' (fun x hx => ?_)
  have ex : x = nI n := hx.symm.trans e53
  subst ex
  refine Ok_ite (fun he => Ok_rt (Or.inl ⟨(nI_eq (a := n) (b := 0) (by omega) (by decide)).mp he, rfl, rfl⟩)) (fun hne => ?_)
  have hn1 : 1 ≤ n := by
    rcases Nat.eq_zero_or_pos n with z | z
    · subst z
      exact absurd rfl hne
    · exact z
  refine Ok_uf' (fun x hx => ?_)
  have ex : x = nI n := hx.symm.trans e53
  subst ex
  have ep : nI n - 1 = nI (n - 1) := nI_sub (b := 1) hn1
  rw [ep]
  refine Ok_wf ?_
  have i53 : (swf 53 (nI (n - 1)) w).1.1 53 = nI (n - 1) := (swf_e (w := w) (k := 53)).2
  have io : ∀ k, ¬ k = 53 → (swf 53 (nI (n - 1)) w).1.1 k = w.1.1 k := fun k hk => (swf_o hk).1
  have ia : (swf 53 (nI (n - 1)) w).1.2 = w.1.2 ∧ (swf 53 (nI (n - 1)) w).2.2 = w.2.2 := ⟨rfl, rfl⟩
  generalize swf 53 (nI (n - 1)) w = y at i53 io ia ⊢
  obtain ⟨r0, c0, a1, a2, a3⟩ := s0_eq
  obtain ⟨v0, f0, g0, -⟩ := det_anew B0 y (B0_ag y) (fun z => by cases z) r0 c0 a1
  have hF0 := fr_anew y r0 v0 f0
  refine Ok_cl ⟨r0, v0, f0, ?_⟩
  have hlg2 : lgOk y lg (n - 1) := fun k hk => by rw [ia.1]; exact hlg k (by omega)
  refine ok_undo_lp (hR.less (m := n - 1) (by omega)) (by omega) i53 hlg2 (by rw [ia.1]) (fun j hj => by rw [ia.2]; exact h54 j hj) _ _ (fun v x ha hF => ?_) (n - 1) 0 fuel v0 (by omega) (by unfold fuel; omega) (by rw [hR.1, a2]; exact lf_ag g0) hF0
  refine Ok_uf' (fun x hx => Ok_rt (Or.inr ⟨hn1, hx.symm.trans ((hF.1 53 rfl).1.trans i53), ?_⟩))
  refine live_frg hL (m := n - 1) (by omega) ((hF.1 53 rfl).1.trans i53) ((hF.1 55 rfl).1.trans (io 55 (by decide))) ((hF.1 42 rfl).1.trans (io 42 (by decide))) ?_ ?_ ?_ (fun c hc => hF.2.2 c ?_) ha
  · rw [(hF.2.1 52 rfl).1, ia.1]
  · rw [(hF.2.1 54 rfl).1, ia.1]
  · rw [(hF.2.1 54 rfl).2, ia.2]
  · rw [ia.2]; exact hc

