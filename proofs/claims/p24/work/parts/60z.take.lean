/-! ===== takeLaws ===== -/
/-- what taking laws leaves alone -/
def TF (u v : GS) : Prop := (∀ k, ¬ (27 ≤ k ∧ k ≤ 31) → ¬ (41 ≤ k ∧ k ≤ 51 ∧ ¬ k = 42) → v.1.1 k = u.1.1 k ∧ v.2.1 k = u.2.1 k) ∧ ∀ k, ¬ (32 ≤ k ∧ k ≤ 37) → ¬ k = 56 → v.1.2 k = u.1.2 k ∧ v.2.2 k = u.2.2 k
/-- laws stand, or none -/
def LwOk (v : GS) : Prop := (∃ g, g ≤ 8 ∧ Im v 29 (nI g)) ∧ v.2.1 30 = true ∧ v.2.1 31 = true ∧ iL v
theorem Ok_uf' {β : Type} {k : Nat} {c : Int32 → PG β} {w : GS} {Q : β → GS → Prop} (h : ∀ x, w.1.1 k = x → Ok (c x) w Q) : Ok (puf k c) w Q := h _ rfl
def K56 (u x : GS) (k : Nat) : Prop := x.1.1 = u.1.1 ∧ x.2.1 = u.2.1 ∧ (∀ a, ¬ a = 56 → x.1.2 a = u.1.2 a ∧ x.2.2 a = u.2.2 a) ∧ ∀ j, j < k → x.2.2 56 j = true
theorem ok_take_lp {u : GS} (a n : Nat) (ha : a + n ≤ 24000) (hn : n ≤ 3000) (h54 : ∀ k, k < n → u.2.2 54 (a + k) = true) (K : Int32 → Int32 → Int32 → PG Int32) (Q : Int32 → GS → Prop) (hK : ∀ x v3, K56 u x n → Ok (K (nI a) (nI n) v3) x Q) :
    ∀ (t k m : Nat) (x : GS), k + t = n → t < m → K56 u x k → Ok (lp_takeLaws_2 m (nI a) (nI n) (nI k) K) x Q := by
  intro t
  induction t with
  | zero =>
    intro k m x h1 h2 hc
    cases m with
    | zero => omega
    | succ m =>
      have e : k = n := by omega
      subst e
      unfold lp_takeLaws_2
      exact Ok_ite (fun _ => hK x _ hc) (fun z => absurd (Int32.le_refl _) z)
  | succ t ih =>
    intro k m x h1 h2 hc
    cases m with
    | zero => omega
    | succ m =>
      unfold lp_takeLaws_2
      refine Ok_ite (fun z => absurd z (nI_ge (by omega) (by omega))) (fun _ => ?_)
      have hm : x.2.2 54 (a + k) = true := by rw [(hc.2.2.1 54 (by decide)).2]; exact h54 k (by omega)
      refine Ok_rdN (nI_add a k) (by omega) (by decide) (Am.val hm) (Ok_wdN rfl (by omega) (by decide) (Ok_li ?_))
      rw [nI_1]
      refine ih (k + 1) m _ (by omega) (by omega) ⟨hc.1, hc.2.1, fun a2 ha2 => ?_, fun j hj => ?_⟩
      · have h9 := sw_o (w := x) (k := 56) (i := nI k) (v := vp_nar .byte (x.1.2 54 (a + k))) (k2 := a2) ha2
        exact ⟨h9.1.trans (hc.2.2.1 a2 ha2).1, h9.2.trans (hc.2.2.1 a2 ha2).2⟩
      · by_cases he : j = k
        · subst he
          exact sw_me (v := vp_nar .byte (x.1.2 54 (a + j))) (by omega)
        · exact sw_mm (hc.2.2.2 j (by omega))
theorem PX.tf {u x v : GS} {n : Nat} {y z : Int32} (hc : K56 u x n) (h : PX (swf 43 z (swf 41 y x)) v) : TF u v := by
  refine ⟨fun k h1 h2 => ?_, fun k h1 h2 => ?_⟩
  · have a1 := h.1.1 k h1 (by omega)
    have a2 := swf_o (w := swf 41 y x) (k := 43) (x := z) (k2 := k) (by omega)
    have a3 := swf_o (w := x) (k := 41) (x := y) (k2 := k) (by omega)
    rw [a1.1, a1.2, a2.1, a2.2, a3.1, a3.2, hc.1, hc.2.1]
    exact ⟨rfl, rfl⟩
  · have a1 := h.1.2 k h1
    exact ⟨a1.1.trans (hc.2.2.1 k h2).1, a1.2.trans (hc.2.2.1 k h2).2⟩
theorem TF.wf {u v : GS} (h : TF u v) (k : Nat) (x : Int32) (hk : (27 ≤ k ∧ k ≤ 31) ∨ (41 ≤ k ∧ k ≤ 51 ∧ ¬ k = 42)) : TF u (swf k x v) := by
  refine ⟨fun k2 h1 h2 => ?_, h.2⟩
  have a := swf_o (w := v) (k := k) (x := x) (k2 := k2) (by omega)
  rw [a.1, a.2]
  exact h.1 k2 h1 h2
theorem LwOk.w4 {v : GS} (h : LwOk v) (k : Nat) (x : Int32) (hk : k = 49 ∨ k = 50) : LwOk (swf k x v) := by
  obtain ⟨⟨g, g1, g2⟩, h2, h3, h4⟩ := h
  refine ⟨⟨g, g1, g2.o (by omega)⟩, (swf_o (by omega)).2.trans h2, (swf_o (by omega)).2.trans h3, ?_⟩
  rcases h4 with h4 | ⟨l1, l2, ln, l3, l4, l5⟩
  · exact Or.inl ((swf_o (by omega)).1.trans h4)
  · exact Or.inr ⟨(swf_o (by omega)).2.trans l1, (swf_o (by omega)).2.trans l2, ln, l3, (swf_o (by omega)).1.trans l4, l5⟩
theorem ok_takeLaws {u : GS} (a n : Nat) (ha : a + n ≤ 24000) (hn : n ≤ 3000) (h54 : ∀ k, k < n → u.2.2 54 (a + k) = true) : Ok (f_takeLaws (nI a) (nI n)) u (fun _ v => TF u v ∧ LwOk v ∧ v.1.1 49 = u.1.1 49 ∧ v.1.1 50 = u.1.1 50) := by
  unfold f_takeLaws
  refine ok_take_lp a n ha hn h54 _ _ (fun x v3 hc => ?_) n 0 fuel u (by omega) (by unfold fuel; omega) ⟨rfl, rfl, fun _ _ => ⟨rfl, rfl⟩, fun j hj => absurd hj (Nat.not_lt_zero _)⟩
  refine Ok_wf (Ok_wf ?_)
  have hT : Tx (swf 43 (nI n) (swf 41 1 x)) n := ⟨(swf_o (by decide)).2.trans (swf_e (w := x) (k := 41) (x := 1)).1, Or.inr hc.2.2.2, swf_e, hn⟩
  have e49 : (swf 43 (nI n) (swf 41 1 x)).1.1 49 = u.1.1 49 := by
    rw [(swf_o (w := swf 41 1 x) (k := 43) (x := nI n) (k2 := 49) (by decide)).1, (swf_o (w := x) (k := 41) (x := 1) (k2 := 49) (by decide)).1, hc.1]
  have e50 : (swf 43 (nI n) (swf 41 1 x)).1.1 50 = u.1.1 50 := by
    rw [(swf_o (w := swf 41 1 x) (k := 43) (x := nI n) (k2 := 50) (by decide)).1, (swf_o (w := x) (k := 41) (x := 1) (k2 := 50) (by decide)).1, hc.1]
  refine Ok_uf' (fun x49 h49 => Ok_uf' (fun x50 h50 => ?_))
  rw [e49] at h49
  rw [e50] at h50
  refine Ok_cl (Ok.mono (ok_readLaws hT) (fun r v z => ?_))
  rcases z with ⟨rfl, z⟩ | ⟨rfl, z, ln, p, hp, hl⟩
  · have hTF := PX.tf hc z
    obtain ⟨-, ⟨g, g1, g2⟩, m30, m31⟩ := z
    refine Ok_otN (Ok_wf (Ok_wf (Ok_wf ?_)))
    have hL0 : LwOk (swf 30 0 v) := ⟨⟨g, g1, g2.o (by decide)⟩, (swf_e (w := v) (k := 30) (x := 0)).1, (swf_o (by decide)).2.trans m31, Or.inl (swf_e (w := v) (k := 30) (x := 0)).2⟩
    have hL := (hL0.w4 49 x49 (Or.inl rfl)).w4 50 x50 (Or.inr rfl)
    refine Ok_rf hL.2.1 (Ok_rt ⟨((hTF.wf 30 0 (by decide)).wf 49 x49 (by decide)).wf 50 x50 (by decide), hL, ?_, ?_⟩)
    · exact (swf_o (by decide)).1.trans ((swf_e (w := swf 30 0 v) (k := 49) (x := x49)).2.trans h49.symm)
    · exact (swf_e (k := 50)).2.trans h50.symm
  · have hTF := PX.tf hc z
    obtain ⟨-, ⟨g, g1, g2⟩, m30, m31⟩ := z
    have hL0 : LwOk v := ⟨⟨g, g1, g2⟩, m30, m31, Or.inr (hl.lw hp)⟩
    have hL := (hL0.w4 49 x49 (Or.inl rfl)).w4 50 x50 (Or.inr rfl)
    refine Ok_otS (Ok_wf (Ok_wf (Ok_rf hL.2.1 (Ok_rt ⟨(hTF.wf 49 x49 (by decide)).wf 50 x50 (by decide), hL, ?_, ?_⟩))))
    · exact (swf_o (by decide)).1.trans ((swf_e (w := v) (k := 49) (x := x49)).2.trans h49.symm)
    · exact (swf_e (k := 50)).2.trans h50.symm
theorem Iv.fr {w v : GS} (h : Iv w) (h2 : v.1.1 2 = w.1.1 2) (m2 : v.2.1 2 = w.2.1 2) (hI : iI v) (ha : ∀ k, k ≤ 26 → v.1.2 k = w.1.2 k ∧ v.2.2 k = w.2.2 k) : Iv v := by
  obtain ⟨jF, jI, jG, jC, jR, jM, jO⟩ := h
  have e0 := ha 0 (by decide)
  have e1 := ha 1 (by decide)
  have e5 := ha 5 (by decide)
  have e6 := ha 6 (by decide)
  have e7 := ha 7 (by decide)
  have e8 := ha 8 (by decide)
  have e9 := ha 9 (by decide)
  have e10 := ha 10 (by decide)
  have e11 := ha 11 (by decide)
  have e12 := ha 12 (by decide)
  have e13 := ha 13 (by decide)
  have e14 := ha 14 (by decide)
  have e15 := ha 15 (by decide)
  have e16 := ha 16 (by decide)
  have e17 := ha 17 (by decide)
  have e18 := ha 18 (by decide)
  have e19 := ha 19 (by decide)
  have e20 := ha 20 (by decide)
  have e21 := ha 21 (by decide)
  have e22 := ha 22 (by decide)
  have e23 := ha 23 (by decide)
  have e24 := ha 24 (by decide)
  have e25 := ha 25 (by decide)
  have e26 := ha 26 (by decide)
  refine ⟨?_, hI, ?_, ?_, ?_, ?_, ?_⟩
  · unfold iF nF at jF ⊢
    rw [h2, m2]; exact jF
  · unfold iG nF Am at jG ⊢
    simp only [h2, e5.1, e5.2, e6.1, e6.2, e7.2, e8.2, e9.1, e9.2, e10.2, e11.2]
    exact jG
  · unfold iC DrS Plc nF szP Am at jC ⊢
    simp only [h2, e0.2, e1.2, e5.1, e5.2, e10.1, e10.2, e12.1, e12.2, e13.1, e13.2, e14.1, e14.2, e15.2]
    exact jC
  · unfold iR Sds DrS Plc nF szP Am at jR ⊢
    simp only [h2, e5.1, e5.2, e10.1, e10.2, e12.1, e12.2, e13.1, e13.2, e14.1, e14.2, e15.1, e16.1, e16.2, e17.1, e17.2, e18.1, e18.2, e19.2, e20.2, e21.2]
    exact jR
  · unfold iM Mt Sds DrS Plc nF szP Am at jM ⊢
    simp only [h2, e5.1, e5.2, e10.1, e10.2, e12.1, e12.2, e13.1, e13.2, e14.1, e14.2, e16.1, e16.2, e17.1, e17.2, e22.1, e22.2, e23.2, e24.2, e25.1, e25.2, e26.1, e26.2]
    exact jM
  · unfold iO at jO ⊢
    simp only [e15.1, e22.1]
    exact jO
