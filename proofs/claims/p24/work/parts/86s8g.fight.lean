/-! ===== fight() on both sides ===== -/
section
variable {P : LwP} {LW : List LwP} {N tp n E ch C : Nat} {u v : MS} {w : GS} {lg : Nat → En} {s : Nat → GS} {p q : Nat → Nat}
theorem rd148 (f : Nat → Int32) {j : Nat} (hj : j < 148) : rg f 148 (nI j) = f j := rg_in hj (by decide)
theorem e_row {c i k : Nat} (hc : c < 4) (hi : i < 37) : ncl (x_X0_slot (nI c) (nI i)) (fun r => ncl (nGT k 148 r) (fun x => nrt x)) u = some (u.2 k (37 * c + i), u) := by
  rw [e_slot]
  show some (rg (u.2 k) 148 (nI (37 * c + i)), u) = _
  rw [rd148 _ (by omega)]
theorem e_whiteOf {c i : Nat} (hc : c < 4) (hi : i < 37) : x_X0_whiteOf (nI c) (nI i) u = some (u.2 13 (37 * c + i), u) := e_row hc hi
theorem e_blueOf {c i : Nat} (hc : c < 4) (hi : i < 37) : x_X0_blueOf (nI c) (nI i) u = some (u.2 14 (37 * c + i), u) := e_row hc hi
theorem e_winnerOf {c i : Nat} (hc : c < 4) (hi : i < 37) : x_X0_winnerOf (nI c) (nI i) u = some (u.2 15 (37 * c + i), u) := e_row hc hi
theorem e_rcell {c i k : Nat} {z : Int32} (hc : c < 4) (hi : i < 37) (hk : k < 8) (hz : z = nI k) : ncl (x_X1_ofFight (nI c) (nI i) z) (fun r => ncl (nGT 0 2088 r) (fun x => nrt x)) u = some (u.2 0 (fc c i + k), u) := by
  rw [e_ofFight c i k hz]
  show some (rg (u.2 0) 2088 (nI (fc c i + k)), u) = _
  rw [rdB _ (by unfold fc; omega)]
theorem max_mx2 {x : Int32} (h96 : nF w ≤ 96) {c : Nat} (h : Val w c x) : (if (-1) < x then x else (-1)) = mx2 x := by
  unfold mx2
  rcases val_lt h96 h with ⟨-, rfl | rfl⟩ | ⟨h0, h1, h2, -⟩
  · decide
  · decide
  · rw [if_neg h2, if_pos]
    rw [Int32.lt_iff_toInt_lt] at h0 ⊢
    have e1 : (-1 : Int32).toInt = -1 := by decide
    have e2 : (0 : Int32).toInt = 0 := by decide
    omega
/-- the mat of a fight, in the reference -/
theorem r_matOf {B : Nat → Int32} {c i : Nat} (hR : R0 B w) (hM : ∀ m, m < 4 → w.2.2 22 m = true) (hO : MO B) (hc : c < 4) (hi : i < 37) : Rd (f_matOf (nI c) (nI i)) w (fun r => r = if mkF B c i = 2 then B (fc c i + 7) else -1) := by
  have on : ∀ m, m < 4 → w.1.2 22 m = nI (40 * c + i) → B (fc c i) = 2 ∧ B (fc c i + 7) = nI m := fun m hm e => by
    rcases hR.onm2 hO hm with ⟨-, z⟩ | ⟨c2, i2, z, z2, z3⟩
    · rw [z.2] at e
      exact absurd e.symm (nI_ne_1 (by omega))
    · obtain ⟨e1, e2⟩ := z.un c i hc hi ⟨hM m hm, e⟩
      subst e1
      subst e2
      exact ⟨z2, z3⟩
  refine Rd.mono (ok_matOf hM c i) (fun r z => ?_)
  rcases z with ⟨m, hm, rfl, e⟩ | ⟨rfl, hno⟩
  · obtain ⟨h2, h7⟩ := on m hm e
    have h2' : mkF B c i = 2 := (if_pos hi).trans h2
    rw [if_pos h2', h7]
  · by_cases h2 : mkF B c i = 2
    · have h2' : B (fc c i) = 2 := (show mkF B c i = B (fc c i) from if_pos hi).symm.trans h2
      rcases hR.2.2.2.2.1 c hc i hi with ⟨a, -⟩ | ⟨⟨-, -, m, hm, -, f⟩ | ⟨a, -⟩, -⟩
      · rw [h2'] at a
        exact absurd a (by decide)
      · exact absurd f.2 (hno m hm)
      · rw [h2'] at a
        exact absurd a (by decide)
    · rw [if_neg h2]
theorem stV_cases {m a b : Int32} (hm : m = 0 ∨ m = 2 ∨ m = 3) : (m = 3 ∧ stV m a b = 3) ∨ (m = 2 ∧ stV m a b = 2) ∨ (m = 0 ∧ (stV m a b = 4 ∨ stV m a b = 0 ∨ stV m a b = 1)) := by
  rcases hm with rfl | rfl | rfl
  · refine Or.inr (Or.inr ⟨rfl, ?_⟩)
    unfold stV
    rw [if_pos rfl]
    split
    · exact Or.inl rfl
    · split
      · exact Or.inr (Or.inl rfl)
      · exact Or.inr (Or.inr rfl)
  · exact Or.inr (Or.inl ⟨rfl, rfl⟩)
  · exact Or.inl ⟨rfl, rfl⟩
/-- the state of a fight, in the reference, where it isn't done -/
theorem r_state {B : Nat → Int32} {c n2 i : Nat} (hR : R0 B w) (hN : NT B c) (hD : Dr w c n2) (hi : i < n2) (h96 : nF w ≤ 96) (hm : ¬ mkF B c i = 3) : Rd (prd 15 160 (nI (40 * c + i)) (fun x_25 => (if x_25 = 1 then prt 2 else pcl (f_isWalk (nI c) (nI i)) (fun r_29 => (if r_29 = 0 then pcl (f_isReady (nI c) (nI i)) (fun r_33 => (if r_33 = 0 then prt 0 else prt 1)) else prt 4))))) w (fun r => r = stV (mkF B c i) (vS B c i 0) (vS B c i 1)) := by
  have hc := hD.c4
  have h37 := hD.n37
  have va := vS_val hR hN hD hi (sd := 0) (by decide)
  have vb := vS_val hR hN hD hi (sd := 1) (by decide)
  have hi37 : i < 37 := by omega
  have hrd := rdy_iff h96 (mkF_or hR hc hi37) va vb
  rcases hR.mk hc (i := i) (by omega) with ⟨a, e⟩ | ⟨a, e⟩ | ⟨-, e, -⟩
  · refine Rd_rdN rfl (by omega) (by decide) a (Rd_ite (fun z => absurd z (by decide)) (fun _ => ?_))
    refine Rd_clR (sv_isWalk hR hN hD hi) (fun r hr => ?_)
    by_cases hk : vS B c i 0 = -2 ∨ vS B c i 1 = -2
    · rw [if_pos ⟨e, hk⟩] at hr
      subst hr
      refine Rd_ite (fun z => absurd z (by decide)) (fun _ => Rd_rt ?_)
      unfold stV
      rw [if_pos e, if_pos hk]
    · rw [if_neg (fun z => hk z.2)] at hr
      subst hr
      refine Rd_ite (fun _ => Rd_clR (sv_isReady hR hN hD hi) (fun r hr => ?_)) (fun z => absurd rfl z)
      by_cases hy : mkF B c i = 0 ∧ ¬ vS B c i 0 < 0 ∧ ¬ vS B c i 1 < 0
      · rw [if_pos hy] at hr
        subst hr
        exact Rd_ite (fun z => absurd z (by decide)) (fun _ => Rd_rt (hrd.mpr hy).symm)
      · rw [if_neg hy] at hr
        subst hr
        refine Rd_ite (fun _ => Rd_rt ?_) (fun z => absurd rfl z)
        rcases stV_cases (m := mkF B c i) (a := vS B c i 0) (b := vS B c i 1) (mkF_or hR hc (by omega)) with ⟨z, -⟩ | ⟨z, -⟩ | ⟨-, z | z | z⟩
        · exact absurd z hm
        · rw [e] at z
          exact absurd z (by decide)
        · unfold stV at z
          rw [if_pos e, if_neg hk] at z
          exfalso
          revert z
          split <;> decide
        · exact z.symm
        · exact absurd (hrd.mp z) hy
  · refine Rd_rdN rfl (by omega) (by decide) a (Rd_ite (fun _ => Rd_rt ?_) (fun z => absurd rfl z))
    rw [e]
    rfl
  · exact absurd e hm
theorem sim_fight {a b d r : Int32} (h : SmX P LW N tp u w n E lg s p q ch C) (e : x_X11_fight a b d u = some (r, v)) : Rd (f_fight a b d) w (fun r2 => r2 = r) := by
  have hRw := h.r0
  have hRs := h.rs
  have hI := h.inv
  have hIw := h.1.inv
  have h13 := h.1.2.2.2.2.2.2.2.2.2.2
  have hrx := h.rx
  obtain ⟨⟨-, hNT⟩, ⟨-, -, -, mo⟩, -⟩ := hrx
  have hkn : ∀ c, c < 4 → Kn (u.2 0) c := fun c hc => kn_of hI hRs hc
  have h96 := hIw.1.1.2.2
  unfold x_X11_fight at e
  unfold f_fight
  rcases c_has (B := u.2 0) rfl hkn a b with ⟨e1, c, i, hc, rfl, rfl, hi⟩ | ⟨e1, hno⟩
  rotate_left
  · have e := ncl_at e1 e
    rw [if_pos rfl] at e
    refine Rd_clR (r_isFight hRw _ _ (hIw.kd h13)) (fun q hq => ?_)
    rcases hq with ⟨-, hq⟩ | ⟨rfl, -⟩
    · exact absurd hq hno
    · exact Rd_ite (fun _ => Rd_rt (nrt_at e).1.symm) (fun z => absurd rfl z)
  have e := ncl_at e1 e
  rw [if_neg (by decide)] at e
  have h37 := (hkn c hc).n37
  have hi37 : i < 37 := by omega
  refine Rd_clR (r_isFight hRw _ _ (hIw.kd h13)) (fun q hq => ?_)
  rcases hq with ⟨rfl, -⟩ | ⟨-, hq⟩
  rotate_left
  · exact absurd ⟨c, i, hc, rfl, rfl, hi⟩ hq
  refine Rd_ite (fun z => absurd z (by decide)) (fun _ => Rd_li ?_)
  have hD := dr_of hI hRs hc hi
  have hDw := dr_of hIw hRw hc hi
  have hN := (hNT c hc).1
  obtain ⟨rw1, rw2, rw3, rw4⟩ := (h.bd c hc).rows hRs hD hi
  have hst := bSt_v hRs hN hD hi
  obtain ⟨rv1, rv2⟩ := rows_v hRw hDw hi
  have va := vS_val hRw hN hDw hi (sd := 0) (by decide)
  have vb := vS_val hRw hN hDw hi (sd := 1) (by decide)
  have hM22 : ∀ m, m < 4 → w.2.2 22 m = true := fun m hm => (hIw.1.2.2.2.2.2.1 m hm).1
  have hmat := r_matOf hRw hM22 mo hc hi37
  have s0 := sv_any hRw hN hDw hi (sd := 0) (by decide) 0
  have s1 := sv_any hRw hN hDw hi (sd := 1) (by decide) 0
  have sw := wv_any hRw hN hDw hi 0 0
  have e := ncl_at (e_stateOf hc hi37 u) e
  rw [rw4, hst] at e
  rw [ix40]
  have m0 := max_mx2 h96 va
  have m1 := max_mx2 h96 vb
  -- what both branches share: the sides, the winner, and behind it
  have sides : ∀ (R : PG Int32) (K : NG Int32), (¬ d = 0 → ¬ d = 1 → ¬ d = 2 → K u = some (r, v) → Rd R w (fun r2 => r2 = r)) → (if d = 0 then ncl (x_X0_whiteOf (nI c) (nI i)) (fun r_59 => nrt r_59) else if d = 1 then ncl (x_X0_blueOf (nI c) (nI i)) (fun r_63 => nrt r_63) else if d = 2 then ncl (x_X0_winnerOf (nI c) (nI i)) (fun r_67 => nrt r_67) else K) u = some (r, v) → Rd (if d = 0 then pcl (fS 24 0 (nI c) (nI i) 0 0) (fun r_57 => prt (if (-1) < r_57 then r_57 else (-1))) else if d = 1 then pcl (fS 24 0 (nI c) (nI i) 1 0) (fun r_61 => prt (if (-1) < r_61 then r_61 else (-1))) else if d = 2 then pcl (fS 24 3 (nI c) (nI i) 0 0) (fun r_65 => prt r_65) else R) w (fun r2 => r2 = r) := fun R K hK e => by
    by_cases h0 : d = 0
    · rw [if_pos h0] at e ⊢
      have e := ncl_at (e_whiteOf hc hi37) e
      refine Rd_clR s0 (fun r2 hr => Rd_rt ?_)
      subst hr
      rw [m0, (nrt_at e).1, rw1, rv1]
    rw [if_neg h0] at e ⊢
    by_cases h1 : d = 1
    · rw [if_pos h1] at e ⊢
      have e := ncl_at (e_blueOf hc hi37) e
      refine Rd_clR s1 (fun r2 hr => Rd_rt ?_)
      subst hr
      rw [m1, (nrt_at e).1, rw2, rv2]
    rw [if_neg h1] at e ⊢
    by_cases h2 : d = 2
    · rw [if_pos h2] at e ⊢
      have e := ncl_at (e_winnerOf hc hi37) e
      refine Rd_clR sw (fun r2 hr => Rd_rt ?_)
      subst hr
      rw [(nrt_at e).1, rw3]
    rw [if_neg h2] at e ⊢
    exact hK h0 h1 h2 e
  rcases hRw.2.2.2.2.1 c hc i hi37 with ⟨k0, a15⟩ | ⟨⟨k0, a15, -⟩ | ⟨k0, a15, a18, a19, a20, a21⟩, -⟩
  · have k0' : mkF (u.2 0) c i = 0 := (if_pos hi37).trans k0
    have hn3 : ¬ mkF (u.2 0) c i = 3 := by rw [k0']; decide
    have hs3 : ¬ stV (mkF (u.2 0) c i) (vS (u.2 0) c i 0) (vS (u.2 0) c i 1) = 3 := fun z => hn3 (st3_iff.mp z)
    rw [if_neg hs3] at e
    refine Rd_rdN rfl (by omega) (by decide) a15 (Rd_ite (fun z => absurd z (by decide)) (fun _ => sides _ _ (fun _ _ _ e => ?_) e))
    by_cases h3 : d = 3
    · rw [if_pos h3] at e ⊢
      rw [if_pos rfl]
      refine Rd.mono (r_state hRw hN hDw hi h96 hn3) (fun r2 hr => hr.trans (nrt_at e).1.symm)
    rw [if_neg h3] at e ⊢
    by_cases h4 : d = 4
    · rw [if_pos h4, if_pos rfl] at e
      rw [if_pos h4, if_pos rfl]
      exact Rd_rt (nrt_at e).1.symm
    rw [if_neg h4] at e ⊢
    by_cases h5 : d = 5
    · rw [if_pos h5, if_pos rfl] at e
      rw [if_pos h5, if_pos rfl]
      exact Rd_rt (nrt_at e).1.symm
    rw [if_neg h5] at e ⊢
    by_cases h6 : d = 6
    · rw [if_pos h6] at e ⊢
      have hs2 : ¬ stV (mkF (u.2 0) c i) (vS (u.2 0) c i 0) (vS (u.2 0) c i 1) = 2 := fun z => by
        rcases stV_cases (m := mkF (u.2 0) c i) (a := vS (u.2 0) c i 0) (b := vS (u.2 0) c i 1) (Or.inl k0') with ⟨y, -⟩ | ⟨y, -⟩ | ⟨-, y | y | y⟩
        · exact hn3 y
        · rw [k0'] at y; exact absurd y (by decide)
        · rw [z] at y; exact absurd y (by decide)
        · rw [z] at y; exact absurd y (by decide)
        · rw [z] at y; exact absurd y (by decide)
      rw [if_neg hs2] at e
      refine Rd_clR hmat (fun r2 hr => Rd_rt ?_)
      rw [if_neg (by rw [k0']; decide)] at hr
      exact hr.trans (nrt_at e).1.symm
    rw [if_neg h6] at e ⊢
    by_cases h7 : d = 7
    · rw [if_pos h7, if_pos rfl] at e
      rw [if_pos h7, if_pos rfl]
      exact Rd_rt (nrt_at e).1.symm
    rw [if_neg h7] at e ⊢
    exact Rd_rt (nrt_at e).1.symm
  · have k0' : mkF (u.2 0) c i = 2 := (if_pos hi37).trans k0
    have hn3 : ¬ mkF (u.2 0) c i = 3 := by rw [k0']; decide
    have hs3 : ¬ stV (mkF (u.2 0) c i) (vS (u.2 0) c i 0) (vS (u.2 0) c i 1) = 3 := fun z => hn3 (st3_iff.mp z)
    rw [if_neg hs3] at e
    refine Rd_rdN rfl (by omega) (by decide) a15 (Rd_ite (fun z => absurd z (by decide)) (fun _ => sides _ _ (fun _ _ _ e => ?_) e))
    by_cases h3 : d = 3
    · rw [if_pos h3] at e ⊢
      rw [if_pos rfl]
      refine Rd.mono (r_state hRw hN hDw hi h96 hn3) (fun r2 hr => hr.trans (nrt_at e).1.symm)
    rw [if_neg h3] at e ⊢
    by_cases h4 : d = 4
    · rw [if_pos h4, if_pos rfl] at e
      rw [if_pos h4, if_pos rfl]
      exact Rd_rt (nrt_at e).1.symm
    rw [if_neg h4] at e ⊢
    by_cases h5 : d = 5
    · rw [if_pos h5, if_pos rfl] at e
      rw [if_pos h5, if_pos rfl]
      exact Rd_rt (nrt_at e).1.symm
    rw [if_neg h5] at e ⊢
    by_cases h6 : d = 6
    · rw [if_pos h6] at e ⊢
      have hs2 : stV (mkF (u.2 0) c i) (vS (u.2 0) c i 0) (vS (u.2 0) c i 1) = 2 := by rw [k0']; rfl
      rw [if_pos hs2, e_rcell (k := 7) (z := 7) hc hi37 (by decide) rfl] at e
      cases e
      refine Rd_clR hmat (fun r2 hr => Rd_rt ?_)
      rw [if_pos k0'] at hr
      exact hr
    rw [if_neg h6] at e ⊢
    by_cases h7 : d = 7
    · rw [if_pos h7, if_pos rfl] at e
      rw [if_pos h7, if_pos rfl]
      exact Rd_rt (nrt_at e).1.symm
    rw [if_neg h7] at e ⊢
    exact Rd_rt (nrt_at e).1.symm
  · have k0' : mkF (u.2 0) c i = 3 := (if_pos hi37).trans k0
    have hs3 : stV (mkF (u.2 0) c i) (vS (u.2 0) c i 0) (vS (u.2 0) c i 1) = 3 := st3_iff.mpr k0'
    rw [if_pos hs3] at e
    refine Rd_rdN rfl (by omega) (by decide) a15 (Rd_ite (fun _ => sides _ _ (fun _ _ _ e => ?_) e) (fun z => absurd rfl z))
    by_cases h3 : d = 3
    · rw [if_pos h3] at e ⊢
      rw [if_neg (by decide)]
      refine Rd_rt ?_
      rw [(nrt_at e).1, hs3]
    rw [if_neg h3] at e ⊢
    by_cases h4 : d = 4
    · rw [if_pos h4, if_neg (by decide), e_rcell (k := 4) (z := 4) hc hi37 (by decide) rfl] at e
      cases e
      rw [if_pos h4, if_neg (by decide)]
      exact Rd_rdN rfl (by omega) (by decide) a19 (Rd_rt rfl)
    rw [if_neg h4] at e ⊢
    by_cases h5 : d = 5
    · rw [if_pos h5, if_neg (by decide), e_rcell (k := 5) (z := 5) hc hi37 (by decide) rfl] at e
      cases e
      rw [if_pos h5, if_neg (by decide)]
      exact Rd_rdN rfl (by omega) (by decide) a20 (Rd_rt rfl)
    rw [if_neg h5] at e ⊢
    by_cases h6 : d = 6
    · rw [if_pos h6] at e ⊢
      have hs2 : ¬ stV (mkF (u.2 0) c i) (vS (u.2 0) c i 0) (vS (u.2 0) c i 1) = 2 := by rw [hs3]; decide
      rw [if_neg hs2] at e
      refine Rd_clR hmat (fun r2 hr => Rd_rt ?_)
      rw [if_neg (by rw [k0']; decide)] at hr
      exact hr.trans (nrt_at e).1.symm
    rw [if_neg h6] at e ⊢
    by_cases h7 : d = 7
    · rw [if_pos h7, if_neg (by decide), e_rcell (k := 6) (z := 6) hc hi37 (by decide) rfl] at e
      cases e
      rw [if_pos h7, if_neg (by decide)]
      exact Rd_rdN rfl (by omega) (by decide) a21 (Rd_rt rfl)
    rw [if_neg h7] at e ⊢
    exact Rd_rt (nrt_at e).1.symm
end
