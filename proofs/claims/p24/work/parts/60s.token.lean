/-! ===== a token ===== -/
theorem tk_leaf {w v : GS} {N a b : Nat} (hT : Tx w N) (hs : ScF w v) (ha : Im v 44 (nI a)) (hb : Im v 45 (nI b)) (hab : a ≤ b) (hbN : b ≤ N) (h : Int32) (h2 : h = 2 → v.2.1 47 = true) (h1 : h = 1 → b - a ≤ 10) : Ok (pwf 46 h (prt (0 : Int32))) v (fun _ v1 => ScF w v1 ∧ ∃ a b, Tk v1 N a b) := by
  have hs2 := hs.wf 46 h (by decide)
  obtain ⟨t1, t2, t3, t4⟩ := hT.sc hs2
  have e46 : Im (swf 46 h v) 46 h := swf_e
  refine Ok_wf (Ok_rt ⟨hs2, a, b, t1, t2, t3, t4, ha.o (by decide), hb.o (by decide), hab, hbN, e46.1, fun z => ?_, fun z => ?_⟩)
  · rw [e46.2] at z
    exact (swf_o (by decide)).2.trans (h2 z)
  · rw [e46.2] at z
    exact h1 z
theorem tk_mark {w v : GS} {N b : Nat} (hT : Tx w N) (hs : ScF w v) (ha : Im v 44 (nI b)) (hb : Im v 45 (nI b)) (hbN : b + 1 ≤ N) (h : Int32) (hh : ¬ h = 1 ∧ ¬ h = 2) (P : Prop) [Decidable P] (hP : ¬ P → b + 2 ≤ N) : Ok (pwf 46 h (prf 45 (fun x => (if P then pwf 45 (x + 1) (prt (0 : Int32)) else pwf 45 (x + 2) (prt 0))))) v (fun _ v1 => ScF w v1 ∧ ∃ a b, Tk v1 N a b) := by
  have hs2 := hs.wf 46 h (by decide)
  have e46 : Im (swf 46 h v) 46 h := swf_e
  have hfin : ∀ d, b + d ≤ N → Ok (pwf 45 (nI (b + d)) (prt (0 : Int32))) (swf 46 h v) (fun _ v1 => ScF w v1 ∧ ∃ a b, Tk v1 N a b) := by
    intro d hd
    have hs3 := hs2.wf 45 (nI (b + d)) (by decide)
    obtain ⟨t1, t2, t3, t4⟩ := hT.sc hs3
    have e46' : Im (swf 45 (nI (b + d)) (swf 46 h v)) 46 h := e46.o (by decide)
    refine Ok_wf (Ok_rt ⟨hs3, b, b + d, t1, t2, t3, t4, (ha.o (by decide)).o (by decide), swf_e, Nat.le_add_right _ _, hd, e46'.1, fun z => ?_, fun z => ?_⟩)
    · rw [e46'.2] at z
      exact absurd z hh.2
    · rw [e46'.2] at z
      exact absurd z hh.1
  refine Ok_wf (Ok_rfN (hb.o (by decide)) (Ok_ite (fun _ => ?_) (fun z => ?_)))
  · have e1 : nI b + 1 = nI (b + 1) := nI_1 b
    rw [e1]
    exact hfin 1 hbN
  · have e1 : nI b + 2 = nI (b + 2) := nI_add b 2
    rw [e1]
    exact hfin 2 (hP z)
theorem ok_scan {w : GS} {N b0 : Nat} (hT : Tx w N) (h45 : Im w 45 (nI b0)) (hb0 : b0 ≤ N) : Ok f_scan w (fun _ v1 => ScF w v1 ∧ ∃ a b, Tk v1 N a b) := by
  have h4 := hT.2.2.2
  unfold f_scan
  refine ok_scan0 N w hT _ _ (fun v b hs hb hbN => ?_) (N - b0) b0 fuel w (by omega) (by unfold fuel; omega) (ScF.rf w) h45
  refine Ok_rfN hb (Ok_wf ?_)
  have hs2 := hs.wf 44 (nI b) (by decide)
  have ha2 : Im (swf 44 (nI b) v) 44 (nI b) := swf_e
  have hb2 : Im (swf 44 (nI b) v) 45 (nI b) := hb.o (by decide)
  generalize swf 44 (nI b) v = u at hs2 ha2 hb2 ⊢
  have hTu := hT.sc hs2
  refine Ok_rfN ha2 (Ok_clR (ok_byteAt hTu b (by omega)) (fun r hr => Ok_rfN ha2 (Ok_rfN hTu.2.2.1 (Ok_ite (fun _ => ?_) (fun hne => ?_)))))
  · exact tk_leaf hT hs2 ha2 hb2 (Nat.le_refl _) hbN 0 (fun z => absurd z (by decide)) (fun z => absurd z (by decide))
  · have hlt : b < N := by
      rcases Nat.lt_or_ge b N with z | z
      · exact z
      · have : b = N := by omega
        subst this
        exact absurd rfl hne
    obtain ⟨j, hj, rfl⟩ : ∃ j, j < 256 ∧ r = nI j := by
      rcases hr with ⟨rfl, -⟩ | ⟨-, z⟩
      · exact ⟨0, by decide, rfl⟩
      · exact z
    refine Ok_clR (ok_isLetter u _) (fun r2 _ => Ok_ite (fun _ => ?_) (fun _ => ?_))
    · refine Ok_clR (ok_isDigit u _) (fun r3 _ => Ok_ite (fun _ => ?_) (fun _ => ?_))
      · refine Ok_rfN ha2 ?_
        rw [nI_1]
        refine Ok_clR (ok_byteAt hTu (b + 1) (by omega)) (fun r4 hr4 => Ok_ite (fun e61 => ?_) (fun _ => ?_))
        · have hb3 : b + 2 ≤ N := by
            rcases hr4 with ⟨z, -⟩ | ⟨z, -⟩
            · rw [z] at e61
              exact absurd e61 (by decide)
            · omega
          repeat (first | exact tk_mark hT hs2 ha2 hb2 (by omega) 3 (by decide) _ (fun _ => hb3) | exact tk_mark hT hs2 ha2 hb2 (by omega) 4 (by decide) _ (fun _ => hb3) | refine Ok_oiS (idx_some j hj) (fun _ => ?_) | refine Ok_ite (fun _ => ?_) (fun _ => ?_))
        · repeat (first | exact tk_mark hT hs2 ha2 hb2 (by omega) 3 (by decide) _ (fun z => absurd rfl z) | exact tk_mark hT hs2 ha2 hb2 (by omega) 4 (by decide) _ (fun z => absurd rfl z) | refine Ok_oiS (idx_some j hj) (fun _ => ?_) | refine Ok_ite (fun _ => ?_) (fun _ => ?_))
      · refine Ok_wf ?_
        refine ok_scan160 N b w hT (nI j) _ _ (fun v' b' k1 k2 k3 k4 k5 k6 => ?_) (N - b) b fuel _ (by omega) (by unfold fuel; omega) (hs2.wf 47 0 (by decide)) (ha2.o (by decide)) (hb2.o (by decide)) (swf_e (x := 0)).1 (Nat.le_refl _)
        refine Ok_rfN k3 (Ok_rfN k2 (Ok_ite (fun _ => ?_) (fun _ => ?_)))
        · exact tk_leaf hT k1 k2 k3 k5 k6 2 (fun _ => k4) (fun z => absurd z (by decide))
        · exact tk_leaf hT k1 k2 k3 k5 k6 4 (fun z => absurd z (by decide)) (fun z => absurd z (by decide))
    · refine ok_scan95 N b w hT (nI j) _ _ (fun v' b' k1 k2 k3 k5 k6 => ?_) (N - b) b fuel _ (by omega) (by unfold fuel; omega) hs2 ha2 hb2 (Nat.le_refl _)
      refine Ok_rfN k3 (Ok_rfN k2 (Ok_ite (fun z => ?_) (fun _ => ?_)))
      · rw [nI_sub k5] at z
        have z2 := (nI_leI (a := b' - b) (b := 10) (by omega) (by decide)).mp z
        exact tk_leaf hT k1 k2 k3 k5 k6 1 (fun z => absurd z (by decide)) (fun _ => z2)
      · exact tk_leaf hT k1 k2 k3 k5 k6 4 (fun z => absurd z (by decide)) (fun z => absurd z (by decide))
theorem Tk.scan {w : GS} {N a b : Nat} (h : Tk w N a b) : Ok f_scan w (fun _ v1 => ScF w v1 ∧ ∃ a b, Tk v1 N a b) := ok_scan h.tx h.2.2.2.2.2.1 h.2.2.2.2.2.2.2.1
/-! ===== is(w) ===== -/
def sln (k : Nat) : Nat := ((fj_len k).getD 0).toNatClampNeg
theorem sln_eq : ∀ k < 25, fj_len k = some (nI (sln k)) ∧ sln k ≤ 8 := by decide +kernel
theorem chr_some : ∀ k < 25, ∀ j < 8, j < sln k → (fj_charAt k (nI j)).isSome = true := by decide +kernel
theorem ok_isText {w : GS} {N a b : Nat} (h : Tk w N a b) (s : Nat) (hs : s < 25) : Rd (f_isText s) w (fun _ => True) := by
  have hT := h.tx
  have hN := hT.2.2.2
  obtain ⟨-, -, -, -, h44, h45, hab, hbN, -⟩ := h
  obtain ⟨e1, e2⟩ := sln_eq s hs
  have hlp : ∀ (t k m : Nat) (v2 : Int32), (v2 = 0 ∨ (v2 = 1 ∧ b - a = sln s)) → k + t = sln s → t < m → Rd (lp_isText_24 s m v2 (nI k) (fun v2 v3 => pog (gb v2) (prt v2))) w (fun _ => True) := by
    intro t
    induction t with
    | zero =>
      intro k m v2 hv hk hm
      cases m with
      | zero => omega
      | succ m =>
        have : k = sln s := by omega
        subst this
        have hg : gb v2 = true := by rcases hv with rfl | ⟨rfl, -⟩ <;> decide
        unfold lp_isText_24
        exact Ok_oi e1 (Rd_ite (fun _ => Rd_og hg (Rd_rt trivial)) (fun z => absurd (Int32.le_refl _) z))
    | succ t ih =>
      intro k m v2 hv hk hm
      cases m with
      | zero => omega
      | succ m =>
        have hg : gb v2 = true := by rcases hv with rfl | ⟨rfl, -⟩ <;> decide
        unfold lp_isText_24
        refine Ok_oi e1 (Rd_ite (fun _ => Rd_og hg (Rd_rt trivial)) (fun _ => Rd_ite (fun _ => Rd_og hg (Rd_rt trivial)) (fun z => ?_)))
        have hv2 := hv.resolve_left z
        refine Ok_rfN h44 ?_
        rw [nI_add]
        refine Ok_srN hT rfl (by omega) (fun x => Ok_oiS (chr_some s hs k (by omega) (by omega)) (fun y => Rd_ite (fun _ => Rd_li ?_) (fun _ => Rd_li ?_)))
        · rw [nI_1]
          exact ih (k + 1) m 1 (Or.inr ⟨rfl, hv2.2⟩) (by omega) (by omega)
        · rw [nI_1]
          exact ih (k + 1) m 0 (Or.inl rfl) (by omega) (by omega)
  unfold f_isText
  refine Rd_rfN h45 (Rd_rfN h44 (Ok_oi e1 (Rd_ite (fun z => ?_) (fun _ => ?_))))
  · rw [nI_sub hab] at z
    exact hlp (sln s) 0 fuel 1 (Or.inr ⟨rfl, (nI_eq (by omega) (by omega)).mp z⟩) (by omega) (by unfold fuel; omega)
  · exact hlp (sln s) 0 fuel 0 (Or.inl rfl) (by omega) (by unfold fuel; omega)
theorem ok_is {w : GS} {N a b : Nat} (h : Tk w N a b) (s : Nat) (hs : s < 25) : Rd (f_is s) w (fun r => r = 0 ∨ r = 1) := by
  have m46 := h.2.2.2.2.2.2.2.2.1
  unfold f_is
  refine Ok_rf m46 (Rd_ite (fun _ => ?_) (fun _ => Ok_rf m46 (Rd_ite (fun _ => ?_) (fun _ => Rd_rt (Or.inl rfl)))))
  · exact Rd_clR (ok_isText h s hs) (fun r _ => Rd_ite (fun _ => Rd_rt (Or.inl rfl)) (fun _ => Rd_rt (Or.inr rfl)))
  · exact Rd_clR (ok_isText h s hs) (fun r _ => Rd_ite (fun _ => Rd_rt (Or.inl rfl)) (fun _ => Rd_rt (Or.inr rfl)))
theorem ok_isQuoted {w : GS} {N a b : Nat} (h : Tk w N a b) : Rd f_isQuoted w (fun _ => True) := by
  unfold f_isQuoted
  repeat (first | exact Rd_rt trivial | refine Rd_clR (ok_is h _ (by decide)) (fun _ _ => ?_) | refine Rd_ite (fun _ => ?_) (fun _ => ?_))
/-- the names of the first g signs -/
def Sg (w : GS) (g : Nat) : Prop := ∀ s, s < g → ∃ z, z ≤ 10 ∧ Am w 33 s (nI z) ∧ ∀ k, k < z → w.2.2 32 (10 * s + k) = true
theorem ok_findSign {w : GS} {N a b g : Nat} (h : Tk w N a b) (hg8 : g ≤ 8) (h29 : Im w 29 (nI g)) (hS : Sg w g) : Rd f_findSign w (fun r => r = -1 ∨ ∃ s, s < g ∧ r = nI s) := by
  have hT := h.tx
  have hN := hT.2.2.2
  obtain ⟨-, -, -, -, h44, h45, hab, hbN, -⟩ := h
  have hin : ∀ (s z : Nat), s < g → z ≤ 10 → Am w 33 s (nI z) → (∀ k, k < z → w.2.2 32 (10 * s + k) = true) → ∀ (K : Int32 → Int32 → Int32 → PG Int32) (R : Int32 → Prop), (∀ v2 v3, Rd (K (nI s) v2 v3) w R) → ∀ (t k m : Nat) (v2 : Int32), (v2 = 0 ∨ b - a = z) → k + t = z → t < m → Rd (lp_findSign_36 m (nI s) v2 (nI k) K) w R := by
    intro s z hs hz h33 h32 K R hK t
    induction t with
    | zero =>
      intro k m v2 hv hk hm
      cases m with
      | zero => omega
      | succ m =>
        have : k = z := by omega
        subst this
        unfold lp_findSign_36
        exact Rd_rdN rfl (by omega) (by decide) h33 (Rd_ite (fun _ => hK _ _) (fun y => absurd (Int32.le_refl _) y))
    | succ t ih =>
      intro k m v2 hv hk hm
      cases m with
      | zero => omega
      | succ m =>
        unfold lp_findSign_36
        refine Rd_rdN rfl (by omega) (by decide) h33 (Rd_ite (fun _ => hK _ _) (fun _ => Rd_ite (fun _ => hK _ _) (fun y => ?_)))
        have hv2 := hv.resolve_left y
        have e1 : (10 : Int32) * nI s + nI k = nI (10 * s + k) := by rw [← nI_add, ← nI_mul]; rfl
        refine Rd_rdN e1 (by omega) (by decide) (Am.val (h32 k (by omega))) (Rd_rfN h44 ?_)
        rw [nI_add]
        refine Ok_srN hT rfl (by omega) (fun x => Rd_ite (fun _ => Rd_li ?_) (fun _ => Rd_li ?_))
        · rw [nI_1]
          exact ih (k + 1) m 1 (Or.inr hv2) (by omega) (by omega)
        · rw [nI_1]
          exact ih (k + 1) m 0 (Or.inl rfl) (by omega) (by omega)
  have hout : ∀ (t s m : Nat), s + t = g → t < m → Rd (lp_findSign_2 m (nI s) (fun v1 => prt (-1))) w (fun r => r = -1 ∨ ∃ s, s < g ∧ r = nI s) := by
    intro t
    induction t with
    | zero =>
      intro s m hs hm
      cases m with
      | zero => omega
      | succ m =>
        have : s = g := by omega
        subst this
        unfold lp_findSign_2
        exact Rd_rfN h29 (Rd_ite (fun _ => Rd_rt (Or.inl rfl)) (fun y => absurd (Int32.le_refl _) y))
    | succ t ih =>
      intro s m hs hm
      cases m with
      | zero => omega
      | succ m =>
        unfold lp_findSign_2
        refine Rd_rfN h29 (Rd_ite (fun y => absurd y (nI_ge (by omega) (by omega))) (fun _ => ?_))
        obtain ⟨z, hz, h33, h32⟩ := hS s (by omega)
        have hfin : ∀ v2 v3 : Int32, Rd (if v2 = 0 then pli (nI s + 1) (fun x => lp_findSign_2 m x (fun v1 => prt (-1))) else prt (nI s)) w (fun r => r = -1 ∨ ∃ s, s < g ∧ r = nI s) := by
          intro v2 v3
          refine Rd_ite (fun _ => Rd_li ?_) (fun _ => Rd_rt (Or.inr ⟨s, by omega, rfl⟩))
          rw [nI_1]
          exact ih (s + 1) m (by omega) (by omega)
        refine Rd_rdN rfl (by omega) (by decide) h33 (Rd_rfN h45 (Rd_rfN h44 (Rd_ite (fun y => ?_) (fun _ => ?_))))
        · rw [nI_sub hab] at y
          have y2 := (nI_eq (a := z) (b := b - a) (by omega) (by omega)).mp y
          exact hin s z (by omega) hz h33 h32 _ _ hfin z 0 fuel 1 (Or.inr y2.symm) (by omega) (by unfold fuel; omega)
        · exact hin s z (by omega) hz h33 h32 _ _ hfin z 0 fuel 0 (Or.inl rfl) (by omega) (by unfold fuel; omega)
  unfold f_findSign
  exact hout g 0 fuel (by omega) (by unfold fuel; omega)

