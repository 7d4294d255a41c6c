/-! ===== the signs, in step: with the reference ===== -/
theorem nar_sb : ∀ t < 256, vp_nar .byte (sb t) = sb t := by decide +kernel
/-- the reference's cells while a name is copied -/
def CpE (T : Nat → Nat) (a g : Nat) (v x : GS) (k : Nat) : Prop := x.1.1 = v.1.1 ∧ x.2.1 = v.2.1 ∧ (∀ j, ¬ j = 32 → x.1.2 j = v.1.2 j ∧ x.2.2 j = v.2.2 j) ∧ (∀ j y, j < 10 * g → Am v 32 j y → Am x 32 j y) ∧ ∀ j, j < k → Am x 32 (10 * g + j) (sb (T (a + j)))
theorem r_copy {T : Nat → Nat} {N a b g : Nat} {v : GS} (hP : RP T N a b v) (h29 : Im v 29 (nI g)) (hg : g < 8) (h33 : Am v 33 g (nI (b - a))) (hz : b - a ≤ 10) (K : Int32 → PG (Option Int32)) (Q : Option Int32 → GS → Prop) (hK : ∀ x v1, CpE T a g v x (b - a) → Ok (K v1) x Q) :
    ∀ (t k m : Nat) (x : GS), k + t = b - a → t < m → CpE T a g v x k → Ok (lp_readLaws_148 m (nI k) K) x Q := by
  have hN := hP.1.1.2.2.2
  have hab := hP.2.2.1
  have hbN := hP.2.2.2.1
  intro t
  induction t with
  | zero =>
    intro k m x h1 h2 hc
    cases m with
    | zero => omega
    | succ m =>
      have e : k = b - a := by omega
      subst e
      have h29' : Im x 29 (nI g) := ⟨by rw [hc.2.1]; exact h29.1, by rw [hc.1]; exact h29.2⟩
      have h33' : Am x 33 g (nI (b - a)) := ⟨by rw [(hc.2.2.1 33 (by decide)).2]; exact h33.1, by rw [(hc.2.2.1 33 (by decide)).1]; exact h33.2⟩
      unfold lp_readLaws_148
      exact Ok_rfN h29' (Ok_rdN rfl hg (by decide) h33' (Ok_ite (fun _ => hK x _ hc) (fun z => absurd (Int32.le_refl _) z)))
  | succ t ih =>
    intro k m x h1 h2 hc
    cases m with
    | zero => omega
    | succ m =>
      have h29' : Im x 29 (nI g) := ⟨by rw [hc.2.1]; exact h29.1, by rw [hc.1]; exact h29.2⟩
      have h33' : Am x 33 g (nI (b - a)) := ⟨by rw [(hc.2.2.1 33 (by decide)).2]; exact h33.1, by rw [(hc.2.2.1 33 (by decide)).1]; exact h33.2⟩
      have hPx : RP T N a b x := hP.fr (fun k _ => ⟨by rw [hc.1], by rw [hc.2.1]⟩) (fun k hk => hc.2.2.1 k (by omega))
      unfold lp_readLaws_148
      refine Ok_rfN h29' (Ok_rdN rfl hg (by decide) h33' (Ok_ite (fun z => absurd z (nI_ge (by omega) (by omega))) (fun _ => ?_)))
      refine Ok_rfN h29' (Ok_rfN hPx.2.2.2.2.1 ?_)
      rw [nI_add]
      refine Ok_srT hPx.1 rfl (by omega) ?_
      rw [nar_sb _ (hP.1.2.2 (a + k) (by omega)).1]
      have e1 : (10 : Int32) * nI g + nI k = nI (10 * g + k) := by rw [← nI_add, ← nI_mul]; rfl
      refine Ok_wdN e1 (by omega) (by decide) (Ok_li ?_)
      rw [nI_1]
      refine ih (k + 1) m _ (by omega) (by omega) ⟨hc.1, hc.2.1, fun a2 ha2 => ?_, fun j y hj hy => ?_, fun j hj => ?_⟩
      · have h9 := sw_o (w := x) (k := 32) (i := nI (10 * g + k)) (v := sb (T (a + k))) (k2 := a2) ha2
        exact ⟨h9.1.trans (hc.2.2.1 a2 ha2).1, h9.2.trans (hc.2.2.1 a2 ha2).2⟩
      · exact sw_An (by omega) (by omega) (hc.2.2.2.1 j y hj hy)
      · by_cases he : j = k
        · subst he
          exact sw_A (by omega)
        · exact sw_An (by omega) (by omega) (hc.2.2.2.2 j (by omega))
def HU (t g : Nat) (u : MS) : Prop := u.1 20 = nI t ∧ u.1 21 = nI g ∧ u.1 23 = nI 0
theorem HU.sgn1 {t g ns a z : Nat} {u : MS} (h : HU t g u) : HU t g (sgb u ns a z) := by
  have hs := sgb_same u ns a z
  exact ⟨(hs.1 20 (by decide)).trans h.1, (hs.1 21 (by decide)).trans h.2.1, (hs.1 23 (by decide)).trans h.2.2⟩
def SiV (T : Nat → Nat) (N t g ns : Nat) (st sz : Nat → Nat) (a b : Nat) (v : GS) : Prop := RP T N a b v ∧ HV v ∧ Im v 27 (nI t) ∧ Im v 28 (nI g) ∧ SgV T ns st sz v
def fup (st : Nat → Nat) (n x : Nat) : Nat → Nat := fun l => if l = n then x else st l
theorem fup_e (st : Nat → Nat) (n x : Nat) : fup st n x n = x := if_pos rfl
theorem fup_o {st : Nat → Nat} {n x l : Nat} (h : ¬ l = n) : fup st n x l = st l := if_neg h
theorem SgC.sgn1 {ns a z : Nat} {st sz : Nat → Nat} {u : MS} (h : SgC ns st sz u) : SgC (ns + 1) (fup st ns a) (fup sz ns z) (sgb u ns a z) := by
  refine ⟨siE _ _ _, fun l hl => ?_⟩
  have e5 : (sgb u ns a z).2 5 = upd (u.2 5) ns (nI a) := rfl
  have e6 : (sgb u ns a z).2 6 = upd (u.2 6) ns (nI z) := rfl
  rw [e5, e6]
  by_cases e : l = ns
  · rw [e, upd_e, upd_e, fup_e, fup_e]
    exact ⟨rfl, rfl⟩
  · rw [upd_n e, upd_n e, fup_o e, fup_o e]
    exact h.2 l (by omega)
theorem SgN.sgn1 {T : Nat → Nat} {N ns a b : Nat} {st sz : Nat → Nat} (h : SgN N ns st sz) (hns : ns < 8) (hz : b - a ≤ 10) (hab : a ≤ b) (hb : b ≤ N) : SgN N (ns + 1) (fup st ns a) (fup sz ns (b - a)) := by
  refine ⟨hns, fun l hl => ?_⟩
  by_cases e : l = ns
  · rw [e, fup_e, fup_e]
    exact ⟨hz, by omega⟩
  · rw [fup_o e, fup_o e]
    exact h.2 l (by omega)
theorem kind2_len {T : Nat → Nat} {N a b : Nat} (hE : TkE T N a b) (h : tkk T N a b = 2) : b - a ≤ 10 := by
  have hm := mkk_inv (T a) (eqn T N (a + 1))
  unfold tkk at h
  by_cases h1 : a < N
  · rw [if_pos h1] at h
    by_cases h2 : tLe (T a)
    · rw [if_pos h2] at h
      by_cases h3 : b - a ≤ 10
      · exact h3
      · rw [if_neg h3] at h
        omega
    · rw [if_neg h2] at h
      by_cases h3 : tDi (T a)
      · rw [if_pos h3] at h
        by_cases h4 : b - a ≤ 4
        · rw [if_pos h4] at h; omega
        · rw [if_neg h4] at h; omega
      · rw [if_neg h3] at h
        omega
  · rw [if_neg h1] at h
    omega
section
variable {T : Nat → Nat} {N t g : Nat} {D2 : Type} {PV2 : D2 → GS → Prop} {PC2 : D2 → NG Int32 → MS → Prop}
theorem SiV.sc {ns a b a2 b2 : Nat} {st sz : Nat → Nat} {v w : GS} (h : SiV T N t g ns st sz a b v) (hs : ScF v w) (hP : RP T N a2 b2 w) : SiV T N t g ns st sz a2 b2 w := by
  obtain ⟨h1, h2, h3, h4, h5, h6⟩ := h
  refine ⟨hP, h2.sc hs, h3.sc hs (by decide), h4.sc hs (by decide), h5.sc hs (by decide), fun l hl => ?_⟩
  unfold Am
  rw [hs.1, hs.2.1]
  exact h6 l hl
theorem ls_signs {K : PG (Option Int32)} (hK : ∀ ns st sz u0 a b v, SgC ns st sz u0 → HU t g u0 → SgN N ns st sz → SiV T N t g ns st sz a b v → ¬ tkk T N a b = 6 → Ok K v (fun ro w => LSd (HdC T N u0 6 a b) PV2 PC2 ro w)) : ∀ (n ns : Nat) (st sz : Nat → Nat) (u0 : MS) (a b : Nat) (v : GS), 9 ≤ n + ns → SgC ns st sz u0 → HU t g u0 → SgN N ns st sz → SiV T N t g ns st sz a b v → Ok (lp_readLaws_73 n K) v (fun ro w => LSd (HdC T N u0 6 a b) PV2 PC2 ro w) := by
  intro n
  induction n with
  | zero =>
    intro ns st sz u0 a b v h1 hSC hU hSN
    have := hSN.1
    omega
  | succ n ih =>
    intro ns st sz u0 a b v h1 hSC hU hSN hV
    have hP := hV.1
    have h44 := hP.2.2.2.2.1
    have h29 := hV.2.2.2.2.1
    have hns8 := hSN.1
    unfold lp_readLaws_73
    refine Ok_clR (r_isK hP 3 6 (by decide) (by decide) rfl) (fun r hr => ?_)
    rcases hr with ⟨hk, rfl⟩ | ⟨n6, rfl⟩
    rotate_left
    · exact Ok_ite (fun _ => hK ns st sz u0 a b v hSC hU hSN hV n6) (fun z => absurd rfl z)
    refine Ok_ite (fun z => absurd z (by decide)) (fun _ => Ok_rfN h29 (Ok_ite (fun z => ?_) (fun z => ?_)))
    · have e := (nI_eq (a := ns) (b := 8) (by omega) (by decide)).mp z
      subst e
      refine Ok.mono (r_wrong 3 rfl h44) (fun ro w y => ?_)
      obtain ⟨rfl, rfl⟩ := y
      exact ls_wr ⟨by decide, by decide⟩ (to_sign3 hk hSC.1)
    have hns : ns < 8 := by
      have : ¬ ns = 8 := fun y => z (by rw [y]; rfl)
      omega
    refine Ok_cl (Ok.mono (r_scan hP) (fun _ v1 y => ?_))
    obtain ⟨s1, a1, b1, s2, hP1⟩ := y
    have hV1 := hV.sc s1 hP1
    have t1 : To (HdC T N u0 6 a b) (HdC T N u0 7 a1 b1) := to_sign hk hns hSC.1 s2 hP1.2.1
    refine Ok.mono (Q := fun ro w => LSd (HdC T N u0 7 a1 b1) PV2 PC2 ro w) ?_ (fun ro w y => LSd.pre t1 y)
    refine Ok_cl (Ok.mono (r_name hP1) (fun ro v2 y => ?_))
    rcases y with ⟨hk1, rfl, rfl⟩ | ⟨hk1, rfl, rfl⟩
    rotate_left
    · exact Ok_otN (Ok_rt (ls_wr ⟨by decide, by decide⟩ (to_name1 hP1.2.1 hk1)))
    have hz := kind2_len hP1.2.1 hk1
    have hab := hP1.2.2.1
    have hbN := hP1.2.2.2.1
    refine Ok_otS (Ok_clR (r_find hP1 hV1.2.2.2.2 hSN) (fun r hF => ?_))
    rcases hF with ⟨rfl, hno⟩ | ⟨s, hs, rfl, hyes⟩
    rotate_left
    · refine Ok_ite (fun z => absurd z (nI_ne_1 (by omega))) (fun _ => Ok.mono (r_wrong 2 rfl hP1.2.2.2.2.1) (fun ro w y => ?_))
      obtain ⟨rfl, rfl⟩ := y
      exact ls_wr ⟨by decide, by decide⟩ (to_name2 hk1 (by omega) hSC hSN (Or.inr ⟨s, hs, rfl, hyes⟩))
    refine Ok_ite (fun _ => ?_) (fun z => absurd rfl z)
    have hF : FindR T a1 b1 ns st sz (-1) := Or.inl ⟨rfl, hno⟩
    have h29' := hV1.2.2.2.2.1
    refine Ok_rfN h29' (Ok_rfN hP1.2.2.2.2.2.1 (Ok_rfN hP1.2.2.2.2.1 (Ok_wdN rfl hns (by decide) ?_)))
    rw [nI_sub hab]
    have hP2 : RP T N a1 b1 (swd 33 (nI ns) (nI (b1 - a1)) v2) := hP1.fr (fun k _ => ⟨rfl, rfl⟩) (fun k hk => sw_o (by omega))
    refine r_copy hP2 h29' hns (sw_A (by omega)) hz _ _ (fun x v3 hc => ?_) (b1 - a1) 0 fuel _ (by omega) (by unfold fuel; omega) ⟨rfl, rfl, fun _ _ => ⟨rfl, rfl⟩, fun _ _ _ h => h, fun j hj => absurd hj (Nat.not_lt_zero _)⟩
    have h29x : Im x 29 (nI ns) := ⟨by rw [hc.2.1]; exact h29'.1, by rw [hc.1]; exact h29'.2⟩
    refine Ok_rfN h29x (Ok_wf ?_)
    rw [nI_1]
    have imx : ∀ k y, ¬ k = 29 → Im v2 k y → Im (swf 29 (nI (ns + 1)) x) k y := fun k y hk hi => Im.o hk ⟨by rw [hc.2.1]; exact hi.1, by rw [hc.1]; exact hi.2⟩
    have hPx : RP T N a1 b1 x := hP2.fr (fun k _ => ⟨by rw [hc.1], by rw [hc.2.1]⟩) (fun k hk => hc.2.2.1 k (by omega))
    have hV3 : SiV T N t g (ns + 1) (fup st ns a1) (fup sz ns (b1 - a1)) a1 b1 (swf 29 (nI (ns + 1)) x) := by
      obtain ⟨-, ⟨i30, i31, i51⟩, i27, i28, -, hsg⟩ := hV1
      refine ⟨hPx.wf _ (by decide), ⟨imx _ _ (by decide) i30, imx _ _ (by decide) i31, imx _ _ (by decide) i51⟩, imx _ _ (by decide) i27, imx _ _ (by decide) i28, swf_e, fun l hl => ?_⟩
      have am33 : ∀ l y, Am (swd 33 (nI ns) (nI (b1 - a1)) v2) 33 l y → Am (swf 29 (nI (ns + 1)) x) 33 l y := fun l y hy => ⟨by show x.2.2 33 l = true; rw [(hc.2.2.1 33 (by decide)).2]; exact hy.1, by show x.1.2 33 l = _; rw [(hc.2.2.1 33 (by decide)).1]; exact hy.2⟩
      by_cases e : l = ns
      · rw [e, fup_e, fup_e]
        exact ⟨am33 _ _ (sw_A (by omega)), fun j hj => hc.2.2.2.2 j hj⟩
      · obtain ⟨g1, g2⟩ := hsg l (by omega)
        have hsz := (hSN.2 l (by omega)).1
        rw [fup_o e, fup_o e]
        exact ⟨am33 _ _ (sw_An (by omega) e g1), fun j hj => hc.2.2.2.1 _ _ (by omega) (Am.o (by decide) (g2 j hj))⟩
    have hSN2 : SgN N (ns + 1) (fup st ns a1) (fup sz ns (b1 - a1)) := SgN.sgn1 (T := T) hSN hns hz hab hbN
    generalize swf 29 (nI (ns + 1)) x = y2 at hV3
    refine Ok_cl (Ok.mono (r_scan hV3.1) (fun _ v4 y => ?_))
    obtain ⟨s3, a4, b4, s4, hP4⟩ := y
    have hV4 := hV3.sc s3 hP4
    have t2 : To (HdC T N u0 7 a1 b1) (HdC T N (sgb u0 ns a1 (b1 - a1)) 8 a4 b4) := to_name hk1 hSC hSN hns hF s4 hP4.2.1
    refine Ok.mono (Q := fun ro w => LSd (HdC T N (sgb u0 ns a1 (b1 - a1)) 8 a4 b4) PV2 PC2 ro w) ?_ (fun ro w y => LSd.pre t2 y)
    refine Ok_cl (Ok.mono (r_need hP4 14 19 (by decide) (by decide) rfl) (fun ro v5 y => ?_))
    rcases y with ⟨hk5, rfl, s5, a6, b6, s6, hP6⟩ | ⟨hk5, rfl, rfl⟩
    rotate_left
    · exact Ok_otN (Ok_rt (ls_wr ⟨by decide, by decide⟩ (to_semi81 hP4.2.1 hk5)))
    have t3 : To (HdC T N (sgb u0 ns a1 (b1 - a1)) 8 a4 b4) (HdC T N (sgb u0 ns a1 (b1 - a1)) 6 a6 b6) := to_semi8 hk5 s6 hP6.2.1
    exact Ok_otS (Ok.mono (ih (ns + 1) _ _ _ a6 b6 v5 (by omega) (hSC.sgn1 (a := a1) (z := b1 - a1)) hU.sgn1 hSN2 (hV4.sc s5 hP6)) (fun ro w y => LSd.pre t3 y))
end
