/-! ===== the signs of the laws; readLaws ===== -/
def Cp (v x : GS) (g k : Nat) : Prop := x.1.1 = v.1.1 ∧ x.2.1 = v.2.1 ∧ (∀ a, ¬ a = 32 → x.1.2 a = v.1.2 a ∧ x.2.2 a = v.2.2 a) ∧ (∀ j, v.2.2 32 j = true → x.2.2 32 j = true) ∧ ∀ j, j < k → x.2.2 32 (10 * g + j) = true
theorem ok_copyName {v : GS} {N a b g : Nat} (hT : Tk v N a b) (h29 : Im v 29 (nI g)) (hg : g < 8) (h33 : Am v 33 g (nI (b - a))) (hz : b - a ≤ 10) (K : Int32 → PG (Option Int32)) (Q : Option Int32 → GS → Prop) (hK : ∀ x v1, Cp v x g (b - a) → Ok (K v1) x Q) :
    ∀ (t k m : Nat) (x : GS), k + t = b - a → t < m → Cp v x g k → Ok (lp_readLaws_148 m (nI k) K) x Q := by
  have hN := hT.2.2.2.1
  have hab := hT.2.2.2.2.2.2.1
  have hbN := hT.2.2.2.2.2.2.2.1
  intro t
  induction t with
  | zero =>
    intro k m x h1 h2 hc
    cases m with
    | zero => omega
    | succ m =>
      have e : k = b - a := by omega
      subst e
      have h29' : Im x 29 (nI g) := ⟨by rw [hc.2.1]; exact h29.1, by rw [hc.1]; exact h29.2⟩
      have h33' : Am x 33 g (nI (b - a)) := ⟨by rw [(hc.2.2.1 33 (by decide)).2]; exact h33.1, by rw [(hc.2.2.1 33 (by decide)).1]; exact h33.2⟩
      unfold lp_readLaws_148
      exact Ok_rfN h29' (Ok_rdN rfl hg (by decide) h33' (Ok_ite (fun _ => hK x _ hc) (fun z => absurd (Int32.le_refl _) z)))
  | succ t ih =>
    intro k m x h1 h2 hc
    cases m with
    | zero => omega
    | succ m =>
      have h29' : Im x 29 (nI g) := ⟨by rw [hc.2.1]; exact h29.1, by rw [hc.1]; exact h29.2⟩
      have h33' : Am x 33 g (nI (b - a)) := ⟨by rw [(hc.2.2.1 33 (by decide)).2]; exact h33.1, by rw [(hc.2.2.1 33 (by decide)).1]; exact h33.2⟩
      have hTx : Tk x N a b := hT.fr (fun k _ _ => ⟨by rw [hc.1], by rw [hc.2.1]⟩) (hc.2.2.1 56 (by decide)).2
      unfold lp_readLaws_148
      refine Ok_rfN h29' (Ok_rdN rfl hg (by decide) h33' (Ok_ite (fun z => absurd z (nI_ge (by omega) (by omega))) (fun _ => ?_)))
      refine Ok_rfN h29' (Ok_rfN hTx.2.2.2.2.1 ?_)
      rw [nI_add]
      refine Ok_srN hTx.tx rfl (by omega) (fun y => ?_)
      have e1 : (10 : Int32) * nI g + nI k = nI (10 * g + k) := by rw [← nI_add, ← nI_mul]; rfl
      refine Ok_wdN e1 (by omega) (by decide) (Ok_li ?_)
      rw [nI_1]
      refine ih (k + 1) m _ (by omega) (by omega) ⟨hc.1, hc.2.1, fun a2 ha2 => ?_, fun j hj => sw_mm (hc.2.2.2.1 j hj), fun j hj => ?_⟩
      · have h9 := sw_o (w := x) (k := 32) (i := nI (10 * g + k)) (v := vp_nar .byte y) (k2 := a2) ha2
        exact ⟨h9.1.trans (hc.2.2.1 a2 ha2).1, h9.2.trans (hc.2.2.1 a2 ha2).2⟩
      · by_cases he : j = k
        · subst he
          exact sw_me (v := vp_nar .byte y) (by omega)
        · exact sw_mm (hc.2.2.2.2 j (by omega))
theorem PI.sign {w v x : GS} {N g p q z : Nat} (h : PI w v N g p q) (hg : g < 8) (hz : z ≤ 10) (hc : Cp (swd 33 (nI g) (nI z) v) x g z) : PI w (swf 29 (nI (g + 1)) x) N (g + 1) p q := by
  obtain ⟨⟨f1, f2⟩, ⟨a, b, hT⟩, h2, h3, h4, h5, h6, h7, h8⟩ := h
  obtain ⟨c1, c2, c3, c4, c5⟩ := hc
  have ei : ∀ k, ¬ k = 29 → (swf 29 (nI (g + 1)) x).1.1 k = v.1.1 k ∧ (swf 29 (nI (g + 1)) x).2.1 k = v.2.1 k := fun k hk => by
    have h9 := swf_o (w := x) (k := 29) (x := nI (g + 1)) (k2 := k) hk
    rw [h9.1, h9.2, c1, c2]
    exact ⟨rfl, rfl⟩
  have ea : ∀ k, ¬ k = 32 → ¬ k = 33 → (swf 29 (nI (g + 1)) x).1.2 k = v.1.2 k ∧ (swf 29 (nI (g + 1)) x).2.2 k = v.2.2 k := fun k h32 h33 => by
    have h9 := sw_o (w := v) (k := 33) (i := nI g) (v := nI z) (k2 := k) h33
    exact ⟨(c3 k h32).1.trans h9.1, (c3 k h32).2.trans h9.2⟩
  refine ⟨⟨fun k k1 k2 => ?_, fun k hk => ?_⟩, ⟨a, b, hT.fr (fun k _ _ => ei k (by omega)) (ea 56 (by decide) (by decide)).2⟩, swf_e, by omega, ?_, ?_, ?_, h7, ?_⟩
  · exact ⟨(ei k (by omega)).1.trans (f1 k k1 k2).1, (ei k (by omega)).2.trans (f1 k k1 k2).2⟩
  · exact ⟨(ea k (by omega) (by omega)).1.trans (f2 k hk).1, (ea k (by omega) (by omega)).2.trans (f2 k hk).2⟩
  · intro s hs
    by_cases he : s = g
    · subst he
      have h9 : Am (swd 33 (nI s) (nI z) v) 33 s (nI z) := sw_A (by omega)
      exact ⟨z, hz, ⟨by show x.2.2 33 s = true; rw [(c3 33 (by decide)).2]; exact h9.1, by show x.1.2 33 s = _; rw [(c3 33 (by decide)).1]; exact h9.2⟩, fun k hk => c5 k hk⟩
    · obtain ⟨z2, a1, a2, a3⟩ := h4 s (by omega)
      have h9 : Am (swd 33 (nI g) (nI z) v) 33 s (nI z2) := sw_An (by omega) he a2
      exact ⟨z2, a1, ⟨by show x.2.2 33 s = true; rw [(c3 33 (by decide)).2]; exact h9.1, by show x.1.2 33 s = _; rw [(c3 33 (by decide)).1]; exact h9.2⟩, fun k hk => c4 _ (sw_mm (a3 k hk))⟩
  · exact ⟨(ei 31 (by decide)).2.trans h5.1, (ei 31 (by decide)).1.trans h5.2⟩
  · exact ⟨(ei 51 (by decide)).2.trans h6.1, (ei 51 (by decide)).1.trans h6.2⟩
  · exact (ei 30 (by decide)).2.trans h8
theorem PI.name1 {w u : GS} {N g p q : Nat} (h : PI w u N g p q) : Ok f_name u (fun r v => (r = none ∧ PX w v) ∨ (r = some 0 ∧ v = u ∧ u.1.1 46 = 1)) := by
  obtain ⟨a, b, hT⟩ := h.2.1
  have m46 := hT.2.2.2.2.2.2.2.2.1
  unfold f_name
  refine Ok_rf m46 (Ok_ite (fun e => ?_) (fun _ => ok_wrongP h.px h.m44 1 _ (fun v1 z => Or.inl ⟨rfl, z⟩)))
  exact Ok_clR (ok_isQuoted hT) (fun r _ => Ok_ite (fun _ => Ok_rt (Or.inr ⟨rfl, rfl, e⟩)) (fun _ => ok_wrongP h.px h.m44 1 _ (fun v1 z => Or.inl ⟨rfl, z⟩)))
/-- while signs are read -/
def SgI (w v : GS) (N g : Nat) : Prop := PI w v N g 0 0 ∧ Im v 30 (nI 0) ∧ v.2.1 27 = true ∧ v.2.1 28 = true
theorem SgI.sc {w u v : GS} {N g : Nat} (h : SgI w u N g) (hp : PI w v N g 0 0) (hs : ScF u v) : SgI w v N g := by
  have a := hs.2.2 30 (by decide)
  have b := hs.2.2 27 (by decide)
  have c := hs.2.2 28 (by decide)
  exact ⟨hp, ⟨a.2.trans h.2.1.1, a.1.trans h.2.1.2⟩, b.2.trans h.2.2.1, c.2.trans h.2.2.2⟩
theorem ok_signs {w : GS} {N : Nat} (K : PG (Option Int32)) (Q : Option Int32 → GS → Prop) (hn : ∀ v, PX w v → Q none v) (hK : ∀ v g, SgI w v N g → Ok K v Q) :
    ∀ (t g m : Nat) (v : GS), g + t = 8 → t < m → SgI w v N g → Ok (lp_readLaws_73 m K) v Q := by
  intro t
  induction t with
  | zero =>
    intro g m v h1 h2 hI
    have e : g = 8 := by omega
    subst e
    cases m with
    | zero => omega
    | succ m =>
      have h := hI.1
      unfold lp_readLaws_73
      refine Ok_clR (h.is 3 (by decide)) (fun r _ => Ok_ite (fun _ => hK v 8 hI) (fun _ => ?_))
      exact Ok_rfN h.2.2.1 (Ok_ite (fun _ => ok_wrongP h.px h.m44 3 _ hn) (fun z => absurd rfl z))
  | succ t ih =>
    intro g m v h1 h2 hI
    cases m with
    | zero => omega
    | succ m =>
      have h := hI.1
      unfold lp_readLaws_73
      refine Ok_clR (h.is 3 (by decide)) (fun r _ => Ok_ite (fun _ => hK v g hI) (fun _ => ?_))
      refine Ok_rfN h.2.2.1 (Ok_ite (fun _ => ok_wrongP h.px h.m44 3 _ hn) (fun _ => ?_))
      refine Ok_cl (Ok.mono h.scan (fun _ v1 z1 => ?_))
      have hI1 := hI.sc z1.1 z1.2
      refine Ok_cl (Ok.mono z1.1.name1 (fun r v2 z2 => ?_))
      rcases z2 with ⟨rfl, z2⟩ | ⟨rfl, rfl, e46⟩
      · exact Ok_otN (Ok_rt (hn _ z2))
      · refine Ok_otS ?_
        have hP := hI1.1
        obtain ⟨a, b, hT⟩ := hP.2.1
        have hz : b - a ≤ 10 := hT.2.2.2.2.2.2.2.2.2.2 e46
        refine Ok_clR (ok_findSign hT hP.2.2.2.1 hP.2.2.1 hP.2.2.2.2.1) (fun r hr => Ok_ite (fun _ => ?_) (fun _ => ok_wrongP hP.px hP.m44 2 _ hn))
        refine Ok_rfN hP.2.2.1 (Ok_rfN hT.2.2.2.2.2.1 (Ok_rfN hT.2.2.2.2.1 (Ok_wdN rfl (by omega) (by decide) ?_)))
        rw [nI_sub hT.2.2.2.2.2.2.1]
        have hT2 : Tk (swd 33 (nI g) (nI (b - a)) v2) N a b := hT.fr (fun k _ _ => ⟨rfl, rfl⟩) (sw_o (by decide)).2
        refine ok_copyName hT2 hP.2.2.1 (by omega) (sw_A (by omega)) hz _ Q (fun x v3 hc => ?_) (b - a) 0 fuel _ (by omega) (by unfold fuel; omega) ⟨rfl, rfl, fun _ _ => ⟨rfl, rfl⟩, fun _ hj => hj, fun j hj => absurd hj (Nat.not_lt_zero _)⟩
        have h29x : Im x 29 (nI g) := ⟨by rw [hc.2.1]; exact hP.2.2.1.1, by rw [hc.1]; exact hP.2.2.1.2⟩
        refine Ok_rfN h29x (Ok_wf ?_)
        rw [nI_1]
        have hP2 := hP.sign (by omega) hz hc
        have ei : ∀ k, ¬ k = 29 → (swf 29 (nI (g + 1)) x).1.1 k = v2.1.1 k ∧ (swf 29 (nI (g + 1)) x).2.1 k = v2.2.1 k := fun k hk => by
          have h9 := swf_o (w := x) (k := 29) (x := nI (g + 1)) (k2 := k) hk
          rw [h9.1, h9.2, hc.1, hc.2.1]
          exact ⟨rfl, rfl⟩
        have hI2 : SgI w (swf 29 (nI (g + 1)) x) N (g + 1) := ⟨hP2, ⟨(ei 30 (by decide)).2.trans hI1.2.1.1, (ei 30 (by decide)).1.trans hI1.2.1.2⟩, (ei 27 (by decide)).2.trans hI1.2.2.1, (ei 28 (by decide)).2.trans hI1.2.2.2⟩
        generalize swf 29 (nI (g + 1)) x = y at hP2 hI2 ⊢
        refine Ok_cl (Ok.mono hP2.scan (fun _ v4 z4 => ?_))
        have hI3 := hI2.sc z4.1 z4.2
        refine Ok_cl (Ok.mono (hI3.1.need 14 (by decide)) (fun r v5 z5 => ?_))
        rcases z5 with ⟨rfl, z5⟩ | ⟨rfl, c1, c2⟩
        · exact Ok_otN (Ok_rt (hn _ z5))
        · exact Ok_otS (ih (g + 1) m v5 (by omega) (by omega) (hI3.sc c1 c2))
theorem PI.w2 {w u : GS} {N g p q : Nat} (h : PI w u N g p q) (k : Nat) (hk : k = 27 ∨ k = 28) (x : Int32) : PI w (swf k x u) N g p q := by
  obtain ⟨⟨f1, f2⟩, ⟨a, b, hT⟩, h2, h3, h4, h5, h6, h7, h8⟩ := h
  exact ⟨⟨fun k2 h1 h2 => ⟨(swf_o (by omega)).1.trans (f1 k2 h1 h2).1, (swf_o (by omega)).2.trans (f1 k2 h1 h2).2⟩, f2⟩, ⟨a, b, hT.fr (fun k2 _ _ => swf_o (by omega)) rfl⟩, h2.o (by omega), h3, h4, h5.o (by omega), h6.o (by omega), h7, (swf_o (by omega)).2.trans h8⟩
theorem swf_same {u : GS} {k : Nat} {y : Int32} (h : Im u k y) : swf k y u = u := by
  unfold swf si
  refine Prod.ext (Prod.ext ?_ rfl) (Prod.ext ?_ rfl)
  · funext j
    show (if j = k then y else u.1.1 j) = u.1.1 j
    by_cases hj : j = k
    · rw [if_pos hj, hj]; exact h.2.symm
    · rw [if_neg hj]
  · funext j
    show (if j = k then true else u.2.1 j) = u.2.1 j
    by_cases hj : j = k
    · rw [if_pos hj, hj]; exact h.1.symm
    · rw [if_neg hj]
def RdL (w : GS) (r : Option Int32) (v : GS) : Prop := (r = none ∧ PX w v) ∨ (r = some 0 ∧ PX w v ∧ ∃ ln p, p ≤ 300 ∧ Ls v ln p)
theorem ok_readLaws0 {w : GS} {N : Nat} (hT : Tx w N) : Ok (pwf 29 0 (pwf 30 0 (pwf 31 0 (pwf 51 0 (pwf 45 0 (pcl (f_scan) (fun r_11 => pcl (f_need 1) (fun r_14 => pot r_14 (prt none) (fun r_17 => pcl (f_number) (fun r_18 => pot r_18 (prt none) (fun r_21 => pwf 27 r_21 (pcl (f_need 14) (fun r_24 => pot r_24 (prt none) (fun r_27 => pcl (f_need 2) (fun r_28 => pot r_28 (prt none) (fun r_31 => pcl (f_number) (fun r_32 => pot r_32 (prt none) (fun r_35 => pwf 28 r_35 (pcl (f_need 14) (fun r_38 => pot r_38 (prt none) (fun r_41 => lp_readLaws_73 fuel  (pwd 34 21 0 0 (lp_readLaws_223 fuel  (prf 46 (fun x_193 => (if x_193 = 0 then prt (some 0) else prf 44 (fun x_196 => pcl (f_wrong 1 x_196) (fun r_198 => prt none)))))))))))))))))))))))))))) w (RdL w) := by
  have hn : ∀ v, PX w v → RdL w none v := fun v z => Or.inl ⟨rfl, z⟩
  refine Ok_wf (Ok_wf (Ok_wf (Ok_wf (Ok_wf ?_))))
  have e45 : Im (swf 45 0 (swf 51 0 (swf 31 0 (swf 30 0 (swf 29 0 w))))) 45 (nI 0) := swf_e
  have e51 : Im (swf 45 0 (swf 51 0 (swf 31 0 (swf 30 0 (swf 29 0 w))))) 51 (nI 0) := swf_e.o (by decide)
  have e31 : Im (swf 45 0 (swf 51 0 (swf 31 0 (swf 30 0 (swf 29 0 w))))) 31 (nI 0) := (swf_e.o (by decide)).o (by decide)
  have e30 : Im (swf 45 0 (swf 51 0 (swf 31 0 (swf 30 0 (swf 29 0 w))))) 30 (nI 0) := ((swf_e.o (by decide)).o (by decide)).o (by decide)
  have e29 : Im (swf 45 0 (swf 51 0 (swf 31 0 (swf 30 0 (swf 29 0 w))))) 29 (nI 0) := (((swf_e.o (by decide)).o (by decide)).o (by decide)).o (by decide)
  have ei : ∀ k, ¬ (29 ≤ k ∧ k ≤ 31) → ¬ k = 45 → ¬ k = 51 → (swf 45 0 (swf 51 0 (swf 31 0 (swf 30 0 (swf 29 0 w))))).1.1 k = w.1.1 k ∧ (swf 45 0 (swf 51 0 (swf 31 0 (swf 30 0 (swf 29 0 w))))).2.1 k = w.2.1 k := fun k h1 h2 h3 => by
    have a1 := swf_o (w := swf 51 0 (swf 31 0 (swf 30 0 (swf 29 0 w)))) (k := 45) (x := 0) h2
    have a2 := swf_o (w := swf 31 0 (swf 30 0 (swf 29 0 w))) (k := 51) (x := 0) h3
    have a3 := swf_o (w := swf 30 0 (swf 29 0 w)) (k := 31) (x := 0) (k2 := k) (by omega)
    have a4 := swf_o (w := swf 29 0 w) (k := 30) (x := 0) (k2 := k) (by omega)
    have a5 := swf_o (w := w) (k := 29) (x := 0) (k2 := k) (by omega)
    exact ⟨a1.1.trans (a2.1.trans (a3.1.trans (a4.1.trans a5.1))), a1.2.trans (a2.2.trans (a3.2.trans (a4.2.trans a5.2)))⟩
  have ea : (swf 45 0 (swf 51 0 (swf 31 0 (swf 30 0 (swf 29 0 w))))).1.2 = w.1.2 ∧ (swf 45 0 (swf 51 0 (swf 31 0 (swf 30 0 (swf 29 0 w))))).2.2 = w.2.2 := ⟨rfl, rfl⟩
  generalize swf 45 0 (swf 51 0 (swf 31 0 (swf 30 0 (swf 29 0 w)))) = v0 at e45 e51 e31 e30 e29 ei ea ⊢
  have hT0 : Tx v0 N := by
    obtain ⟨h1, h2, h3, h4⟩ := hT
    have e41 := ei 41 (by decide) (by decide) (by decide)
    have e43 := ei 43 (by decide) (by decide) (by decide)
    refine ⟨e41.2.trans h1, ?_, ⟨e43.2.trans h3.1, e43.1.trans h3.2⟩, h4⟩
    rw [e41.1, ea.2]
    exact h2
  refine Ok_cl (Ok.mono (ok_scan hT0 e45 (Nat.zero_le _)) (fun _ v1 z1 => ?_))
  obtain ⟨hs, hTk⟩ := z1
  have im : ∀ k x, ¬ (44 ≤ k ∧ k ≤ 47) → Im v0 k x → Im v1 k x := fun k x hk z => ⟨(hs.2.2 k hk).2.trans z.1, (hs.2.2 k hk).1.trans z.2⟩
  have hP : PI w v1 N 0 0 0 := by
    refine ⟨⟨fun k k1 k2 => ?_, fun k _ => ⟨by rw [hs.1, ea.1], by rw [hs.2.1, ea.2]⟩⟩, hTk, im 29 _ (by decide) e29, by decide, fun s hs => absurd hs (Nat.not_lt_zero _), im 31 _ (by decide) e31, im 51 _ (by decide) e51, by decide, (im 30 _ (by decide) e30).1⟩
    have a1 := hs.2.2 k (by omega)
    have a2 := ei k (by omega) (by omega) (by omega)
    exact ⟨a1.1.trans a2.1, a1.2.trans a2.2⟩
  have h30 : Im v1 30 (nI 0) := im 30 _ (by decide) e30
  clear hTk im hs e45 e51 e31 e30 e29 ei ea hT0
  refine Ok_cl (Ok.mono (hP.need 1 (by decide)) (fun r v2 z2 => ?_))
  rcases z2 with ⟨rfl, z2⟩ | ⟨rfl, hP2, s2⟩
  · exact Ok_otN (Ok_rt (hn _ z2))
  have h302 : Im v2 30 (nI 0) := ⟨(s2.2.2 30 (by decide)).2.trans h30.1, (s2.2.2 30 (by decide)).1.trans h30.2⟩
  refine Ok_otS (Ok_cl (Ok.mono (ok_number hP2) (fun r v3 z3 => ?_)))
  rcases z3 with ⟨rfl, z3⟩ | ⟨x3, rfl, hP3, s3⟩
  · exact Ok_otN (Ok_rt (hn _ z3))
  have h303 : Im (swf 27 x3 v3) 30 (nI 0) := Im.o (by decide) ⟨(s3.2.2 30 (by decide)).2.trans h302.1, (s3.2.2 30 (by decide)).1.trans h302.2⟩
  refine Ok_otS (Ok_wf ?_)
  have hP4 := hP3.w2 27 (Or.inl rfl) x3
  have m27 : (swf 27 x3 v3).2.1 27 = true := (swf_e (w := v3) (k := 27) (x := x3)).1
  generalize swf 27 x3 v3 = v4 at h303 hP4 m27 ⊢
  refine Ok_cl (Ok.mono (hP4.need 14 (by decide)) (fun r v5 z5 => ?_))
  rcases z5 with ⟨rfl, z5⟩ | ⟨rfl, hP5, s5⟩
  · exact Ok_otN (Ok_rt (hn _ z5))
  refine Ok_otS (Ok_cl (Ok.mono (hP5.need 2 (by decide)) (fun r v6 z6 => ?_)))
  rcases z6 with ⟨rfl, z6⟩ | ⟨rfl, hP6, s6⟩
  · exact Ok_otN (Ok_rt (hn _ z6))
  refine Ok_otS (Ok_cl (Ok.mono (ok_number hP6) (fun r v7 z7 => ?_)))
  rcases z7 with ⟨rfl, z7⟩ | ⟨x7, rfl, hP7, s7⟩
  · exact Ok_otN (Ok_rt (hn _ z7))
  have s47 : ScF v4 v7 := s5.trans (s6.trans s7)
  have h307 : Im (swf 28 x7 v7) 30 (nI 0) := Im.o (by decide) ⟨(s47.2.2 30 (by decide)).2.trans h303.1, (s47.2.2 30 (by decide)).1.trans h303.2⟩
  have m277 : (swf 28 x7 v7).2.1 27 = true := (swf_o (by decide)).2.trans ((s47.2.2 27 (by decide)).2.trans m27)
  refine Ok_otS (Ok_wf ?_)
  have hP8 := hP7.w2 28 (Or.inr rfl) x7
  have m28 : (swf 28 x7 v7).2.1 28 = true := (swf_e (w := v7) (k := 28) (x := x7)).1
  generalize swf 28 x7 v7 = v8 at h307 hP8 m277 m28 ⊢
  have hI8 : SgI w v8 N 0 := ⟨hP8, h307, m277, m28⟩
  refine Ok_cl (Ok.mono (hP8.need 14 (by decide)) (fun r v9 z9 => ?_))
  rcases z9 with ⟨rfl, z9⟩ | ⟨rfl, hP9, s9⟩
  · exact Ok_otN (Ok_rt (hn _ z9))
  refine Ok_otS (ok_signs _ _ hn (fun v g hI => ?_) 8 0 fuel v9 (by omega) (by unfold fuel; omega) (hI8.sc hP9 s9))
  refine Ok_wdN (j := 0) rfl (by decide) (by decide) ?_
  have hPw := hI.1.w34 0 0 (nI 0)
  have e0 : swf 30 (nI 0) v = v := swf_same hI.2.1
  rw [e0] at hPw
  have hLs : Ls (swd 34 (nI 0) 0 v) 0 0 := ⟨hI.2.1, by decide, hI.2.2.1, hI.2.2.2, sw_A (by decide), fun l hl => absurd hl (Nat.not_lt_zero _)⟩
  refine ok_lines _ _ hn (fun u ln p hu hl => ?_) 20 0 0 fuel _ (by omega) (by unfold fuel; omega) hPw hLs
  obtain ⟨a, b, hTk⟩ := hu.2.1
  refine Ok_rf hTk.2.2.2.2.2.2.2.2.1 (Ok_ite (fun _ => Ok_rt (Or.inr ⟨rfl, hu.px, ln, p, ?_, hl⟩)) (fun _ => ok_wrongP hu.px hu.m44 1 _ hn))
  have := hu.2.2.2.2.2.2.2.1
  omega
theorem sclL_i {w : GS} {k : Nat} (h : ¬ (27 ≤ k ∧ k ≤ 31)) : (sclL w).2.1 k = w.2.1 k := by
  show (if [27, 28, 29, 30, 31].contains k = true then false else w.2.1 k) = w.2.1 k
  rw [if_neg]
  intro z
  have h2 := List.contains_iff_mem.mp z
  simp only [List.mem_cons, List.not_mem_nil, or_false] at h2
  omega
theorem sclL_a {w : GS} {k : Nat} (h : ¬ (32 ≤ k ∧ k ≤ 37)) : (sclL w).2.2 k = w.2.2 k := by
  funext j
  show (if [32, 33, 34, 35, 36, 37].contains k = true then false else w.2.2 k j) = w.2.2 k j
  rw [if_neg]
  intro z
  have h2 := List.contains_iff_mem.mp z
  simp only [List.mem_cons, List.not_mem_nil, or_false] at h2
  omega
theorem PX.clL {w v : GS} (h : PX (sclL w) v) : PX w v := ⟨⟨fun k h1 h2 => ⟨(h.1.1 k h1 h2).1, (h.1.1 k h1 h2).2.trans (sclL_i h1)⟩, fun k h1 => ⟨(h.1.2 k h1).1, (h.1.2 k h1).2.trans (sclL_a h1)⟩⟩, h.2⟩
theorem ok_readLaws {w : GS} {N : Nat} (hT : Tx w N) : Ok f_readLaws w (RdL w) := by
  unfold f_readLaws
  have hT2 : Tx (sclL w) N := ⟨(sclL_i (by decide)).trans hT.1, by rw [sclL_a (by decide)]; exact hT.2.1, ⟨(sclL_i (by decide)).trans hT.2.2.1.1, hT.2.2.1.2⟩, hT.2.2.2⟩
  refine Ok.mono (w := sclL w) (ok_readLaws0 hT2) (fun r v z => ?_)
  rcases z with ⟨z1, z2⟩ | ⟨z1, z2, z3⟩
  · exact Or.inl ⟨z1, z2.clL⟩
  · exact Or.inr ⟨z1, z2.clL, z3⟩

