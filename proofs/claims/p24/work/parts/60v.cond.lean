/-! ===== readNot, readAnd, readOr ===== -/
theorem PI.need {w u : GS} {N g p q : Nat} (h : PI w u N g p q) (s : Nat) (hs : s < 25) : Ok (f_need s) u (fun r v => (r = none ∧ PX w v) ∨ (r = some 0 ∧ PI w v N g p q ∧ ScF u v)) := by
  unfold f_need
  refine Ok_clR (h.is s hs) (fun r _ => Ok_ite (fun _ => ok_wrongP h.px h.m44 1 _ (fun v1 z => Or.inl ⟨rfl, z⟩)) (fun _ => ?_))
  exact Ok_cl (Ok.mono h.scan (fun _ v z => Ok_rt (Or.inr ⟨rfl, z.1, z.2⟩)))
theorem PI.opens {w u : GS} {N g p q o : Nat} (h : PI w u N g p q) (ho : o ≤ 8) (h48 : Im u 48 (nI o)) : Ok f_opens u (fun r v => (r = none ∧ PX w v) ∨ (r = some 0 ∧ o < 8 ∧ PI w v N g p q ∧ EG u v p ∧ Im v 48 (nI (o + 1)))) := by
  unfold f_opens
  refine Ok_rfN h48 (Ok_ite (fun _ => ok_wrongP h.px h.m44 3 _ (fun v1 z => Or.inl ⟨rfl, z⟩)) (fun z => Ok_rfN h48 (Ok_wf ?_)))
  have ho8 : o < 8 := by
    rcases Nat.lt_or_ge o 8 with y | y
    · exact y
    · have : o = 8 := by omega
      subst this
      exact absurd rfl z
  rw [nI_1]
  obtain ⟨h2, hE⟩ := h.w48 (nI (o + 1))
  exact Ok_cl (Ok.mono h2.scan (fun _ v z => Ok_rt (Or.inr ⟨rfl, ho8, z.1, hE.trans (z.2.eg p) (Nat.le_refl _), z.2.i48 swf_e⟩)))
def Spc (w : GS) (N g o : Nat) (P : PG (Option Int32)) : Prop := ∀ u p q, PI w u N g p q → Im u 48 (nI o) → Ok P u (Pst w u N g p q (nI o))
theorem spc_sum (w : GS) (N g o : Nat) : Spc w N g o f_readSum := fun _ _ _ a b => ok_readSum a b
theorem ok_cmp {w u : GS} {N g p p2 q o : Nat} {v : GS} (op : Int32) (h5 : 5 < op) (h6 : ¬ op = 6) (hm : ¬ op = -1) (hp : p < p2) (h : PI w v N g p2 q) (hG : EG u v p) (hX : Ex v p p2) (h48 : Im v 48 (nI o)) : Ok (if op = (-1) then prf 44 (fun x_100 => pcl (f_wrong 1 x_100) (fun r_102 => prt none)) else pcl (f_hold) (fun r_86 => pot r_86 (prt none) (fun r_89 => pcl (f_scan) (fun r_90 => pcl (f_readSum) (fun r_93 => pot r_93 (prt none) (fun r_96 => pcl (f_release op) (fun r_97 => prt (some 0)))))))) v (Pst w u N g p q (nI o)) := by
  refine Ok_ite (fun z => absurd z hm) (fun _ => ?_)
  exact ok_bin f_readSum (spc_sum w N g o) op h5 h6 _ _ (fun v z => Or.inl ⟨rfl, z⟩) hp h hG hX h48 (fun v p3 a0 a1 a2 a3 a4 => Ok_rt (Or.inr ⟨0, p3, rfl, by omega, a1, a2, a3, a4⟩))
theorem spc_not (w : GS) (N g o : Nat) (ho : o ≤ 8) (F : Nat → Int32 → Int32 → Int32 → Int32 → PG (Option Int32)) (h0 : o < 8 → Spc w N g (o + 1) (F 0 0 0 0 0)) (h2 : o < 8 → Spc w N g (o + 1) (F 2 0 0 0 0)) : Spc w N g o (bd_readNot F) := by
  intro u p q h h48
  unfold bd_readNot
  refine Ok_clR (h.is 8 (by decide)) (fun r _ => Ok_ite (fun _ => ?_) (fun _ => ?_))
  · refine Ok_clR (h.is 15 (by decide)) (fun r _ => Ok_ite (fun _ => ?_) (fun _ => ?_))
    · have hword : ∀ op1 op2 : Int32, ¬ 5 < op1 → ¬ 5 < op2 → ¬ (op1 = 1 ∨ op1 = 2) → ¬ (op2 = 1 ∨ op2 = 2) → Ok (pcl (f_counts) (fun r_205 => pot r_205 (prt none) (fun r_208 => pcl (f_is 9) (fun r_209 => (if r_209 = 0 then pcl (f_put op1 0) (fun r_213 => pcl (f_scan) (fun r_216 => prt (some (0 : Int32)))) else pcl (f_put op2 0) (fun r_219 => pcl (f_scan) (fun r_222 => prt (some 0)))))))) u (Pst w u N g p q (nI o)) := by
        intro op1 op2 a1 a2 a3 a4
        refine Ok_cl (Ok.mono h.counts (fun r v z => ?_))
        rcases z with ⟨rfl, z⟩ | ⟨rfl, rfl, hlt⟩
        · exact Ok_otN (Ok_rt (Or.inl ⟨rfl, z⟩))
        · refine Ok_otS (Ok_clR (h.is 9 (by decide)) (fun _ _ => Ok_ite (fun _ => ?_) (fun _ => ?_)))
          · exact ok_putScan h (EG.rf _ _) h48 hlt op1 0 a1 (fun z => absurd z a3)
          · exact ok_putScan h (EG.rf _ _) h48 hlt op2 0 a2 (fun z => absurd z a4)
      refine Ok_clR (h.is 9 (by decide)) (fun r _ => Ok_ite (fun _ => ?_) (fun _ => hword 5 4 (by decide) (by decide) (by decide) (by decide)))
      refine Ok_clR (h.is 10 (by decide)) (fun r _ => Ok_ite (fun _ => ?_) (fun _ => hword 5 4 (by decide) (by decide) (by decide) (by decide)))
      refine Ok_cl (Ok.mono (ok_readSum h h48) (fun r v z => ?_))
      rcases z with ⟨rfl, z⟩ | ⟨x, p2, rfl, hp, k1, k2, k3, k4⟩
      · exact Ok_otN (Ok_rt (Or.inl ⟨rfl, z⟩))
      · refine Ok_otS ?_
        refine Ok_clR (k1.is 17 (by decide)) (fun r _ => Ok_ite (fun _ => ?_) (fun _ => ok_cmp 9 (by decide) (by decide) (by decide) hp k1 k2 k3 k4))
        refine Ok_clR (k1.is 18 (by decide)) (fun r _ => Ok_ite (fun _ => ?_) (fun _ => ok_cmp 10 (by decide) (by decide) (by decide) hp k1 k2 k3 k4))
        refine Ok_clR (k1.is 19 (by decide)) (fun r _ => Ok_ite (fun _ => ?_) (fun _ => ok_cmp 11 (by decide) (by decide) (by decide) hp k1 k2 k3 k4))
        refine Ok_clR (k1.is 20 (by decide)) (fun r _ => Ok_ite (fun _ => ?_) (fun _ => ok_cmp 12 (by decide) (by decide) (by decide) hp k1 k2 k3 k4))
        refine Ok_clR (k1.is 21 (by decide)) (fun r _ => Ok_ite (fun _ => ?_) (fun _ => ok_cmp 13 (by decide) (by decide) (by decide) hp k1 k2 k3 k4))
        refine Ok_clR (k1.is 22 (by decide)) (fun r _ => Ok_ite (fun _ => ?_) (fun _ => ok_cmp 14 (by decide) (by decide) (by decide) hp k1 k2 k3 k4))
        exact Ok_ite (fun _ => ok_wrongP k1.px k1.m44 1 _ (fun v1 z => Or.inl ⟨rfl, z⟩)) (fun z => absurd rfl z)
    · refine Ok_cl (Ok.mono (h.opens ho h48) (fun r v z => ?_))
      rcases z with ⟨rfl, z⟩ | ⟨rfl, ho8, k1, k2, k3⟩
      · exact Ok_otN (Ok_rt (Or.inl ⟨rfl, z⟩))
      · refine Ok_otS (Ok_cl (Ok.mono (h0 ho8 v p q k1 k3) (fun r v2 z2 => ?_)))
        rcases z2 with ⟨rfl, z2⟩ | ⟨x, p2, rfl, hp, l1, l2, l3, l4⟩
        · exact Ok_otN (Ok_rt (Or.inl ⟨rfl, z2⟩))
        · refine Ok_otS (Ok_cl (Ok.mono (l1.need 16 (by decide)) (fun r v3 z3 => ?_)))
          rcases z3 with ⟨rfl, z3⟩ | ⟨rfl, m1, m2⟩
          · exact Ok_otN (Ok_rt (Or.inl ⟨rfl, z3⟩))
          · refine Ok_otS (Ok_rfN (m2.i48 l4) (Ok_wf (Ok_rt ?_)))
            rw [nI_pred]
            obtain ⟨n1, n2⟩ := m1.w48 (nI o)
            have g1 : EG v2 (swf 48 (nI o) v3) p2 := (m2.eg p2).trans n2 (Nat.le_refl _)
            exact Or.inr ⟨0, p2, rfl, hp, n1, k2.trans (l2.trans g1 (by omega)) (Nat.le_refl _), l3.eg g1 (Nat.le_refl _), swf_e⟩
  · refine Ok_cl (Ok.mono h.counts (fun r v z => ?_))
    rcases z with ⟨rfl, z⟩ | ⟨rfl, rfl, hlt⟩
    · exact Ok_otN (Ok_rt (Or.inl ⟨rfl, z⟩))
    · refine Ok_otS (Ok_rfN h.2.2.2.2.2.2.1 (Ok_wf ?_))
      rw [nI_1]
      obtain ⟨b1, b2⟩ := h.w51 (q + 1) (by omega)
      refine Ok_cl (Ok.mono (b1.opens ho (h48.o (by decide))) (fun r v2 z2 => ?_))
      rcases z2 with ⟨rfl, z2⟩ | ⟨rfl, ho8, k1, k2, k3⟩
      · exact Ok_otN (Ok_rt (Or.inl ⟨rfl, z2⟩))
      · refine Ok_otS (Ok_cl (Ok.mono (h2 ho8 v2 p (q + 1) k1 k3) (fun r v3 z3 => ?_)))
        rcases z3 with ⟨rfl, z3⟩ | ⟨x, p2, rfl, hp, l1, l2, l3, l4⟩
        · exact Ok_otN (Ok_rt (Or.inl ⟨rfl, z3⟩))
        · refine Ok_otS (Ok_rfN l4 (Ok_wf ?_))
          rw [nI_pred]
          obtain ⟨n1, n2⟩ := l1.w48 (nI o)
          refine Ok_cl (Ok.mono (n1.release 6) (fun _ v4 z4 => Ok_rt ?_))
          obtain ⟨m1, m2, m3, m4, m5⟩ := z4
          have g1 : EG v3 v4 p2 := n2.trans m2 (Nat.le_refl _)
          exact Or.inr ⟨0, p2 + 1, rfl, by omega, m1, b2.trans (k2.trans (l2.trans g1 (by omega)) (Nat.le_refl _)) (Nat.le_refl _), Ex_not (l3.eg g1 (Nat.le_refl _)) m3 m4, m5 _ swf_e⟩
theorem spc_and (w : GS) (N g o : Nat) (F : Nat → Int32 → Int32 → Int32 → Int32 → PG (Option Int32)) (h2 : Spc w N g o (F 2 0 0 0 0)) : Spc w N g o (bd_readAnd F) := by
  intro u p q h h48
  have hlp : ∀ (t p2 m : Nat) (v : GS), 301 ≤ p2 + t → t < m → p < p2 → PI w v N g p2 q → EG u v p → Ex v p p2 → Im v 48 (nI o) → Ok (lp_readAnd_4 F m (prt (some 0))) v (Pst w u N g p q (nI o)) := by
    intro t
    induction t with
    | zero =>
      intro p2 m v h1 h2 hp hI
      have := hI.2.2.2.2.2.2.2.1
      omega
    | succ t ih =>
      intro p2 m v h1 h2' hp hI hG hX h48v
      cases m with
      | zero => omega
      | succ m =>
        unfold lp_readAnd_4
        refine Ok_clR (hI.is 7 (by decide)) (fun _ _ => Ok_ite (fun _ => Ok_rt (Or.inr ⟨0, p2, rfl, hp, hI, hG, hX, h48v⟩)) (fun _ => ?_))
        exact ok_bin (F 2 0 0 0 0) h2 15 (by decide) (by decide) _ _ (fun v z => Or.inl ⟨rfl, z⟩) hp hI hG hX h48v (fun v p3 h3 a1 a2 a3 a4 => ih p3 m v (by omega) (by omega) (by omega) a1 a2 a3 a4)
  unfold bd_readAnd
  refine Ok_cl (Ok.mono (h2 u p q h h48) (fun r v z => ?_))
  rcases z with ⟨rfl, z⟩ | ⟨x, p2, rfl, hp, k1, k2, k3, k4⟩
  · exact Ok_otN (Ok_rt (Or.inl ⟨rfl, z⟩))
  · exact Ok_otS (hlp 301 p2 fuel v (by omega) (by unfold fuel; omega) hp k1 k2 k3 k4)
theorem spc_or (w : GS) (N g o : Nat) (F : Nat → Int32 → Int32 → Int32 → Int32 → PG (Option Int32)) (h2 : Spc w N g o (F 1 0 0 0 0)) : Spc w N g o (bd_readOr F) := by
  intro u p q h h48
  have hlp : ∀ (t p2 m : Nat) (v : GS), 301 ≤ p2 + t → t < m → p < p2 → PI w v N g p2 q → EG u v p → Ex v p p2 → Im v 48 (nI o) → Ok (lp_readOr_4 F m (prt (some 0))) v (Pst w u N g p q (nI o)) := by
    intro t
    induction t with
    | zero =>
      intro p2 m v h1 h2 hp hI
      have := hI.2.2.2.2.2.2.2.1
      omega
    | succ t ih =>
      intro p2 m v h1 h2' hp hI hG hX h48v
      cases m with
      | zero => omega
      | succ m =>
        unfold lp_readOr_4
        refine Ok_clR (hI.is 6 (by decide)) (fun _ _ => Ok_ite (fun _ => Ok_rt (Or.inr ⟨0, p2, rfl, hp, hI, hG, hX, h48v⟩)) (fun _ => ?_))
        exact ok_bin (F 1 0 0 0 0) h2 16 (by decide) (by decide) _ _ (fun v z => Or.inl ⟨rfl, z⟩) hp hI hG hX h48v (fun v p3 h3 a1 a2 a3 a4 => ih p3 m v (by omega) (by omega) (by omega) a1 a2 a3 a4)
  unfold bd_readOr
  refine Ok_cl (Ok.mono (h2 u p q h h48) (fun r v z => ?_))
  rcases z with ⟨rfl, z⟩ | ⟨x, p2, rfl, hp, k1, k2, k3, k4⟩
  · exact Ok_otN (Ok_rt (Or.inl ⟨rfl, z⟩))
  · exact Ok_otS (hlp 301 p2 fuel v (by omega) (by unfold fuel; omega) hp k1 k2 k3 k4)
theorem spc_fP (w : GS) (N g : Nat) : ∀ d o, o ≤ 8 → (3 * (8 - o) + 3 ≤ d → Spc w N g o (fP d 0 0 0 0 0)) ∧ (3 * (8 - o) + 2 ≤ d → Spc w N g o (fP d 1 0 0 0 0)) ∧ (3 * (8 - o) + 1 ≤ d → Spc w N g o (fP d 2 0 0 0 0)) := by
  intro d
  induction d with
  | zero => intro o ho; exact ⟨fun z => by omega, fun z => by omega, fun z => by omega⟩
  | succ d ih =>
    intro o ho
    refine ⟨fun z => ?_, fun z => ?_, fun z => ?_⟩
    · have e : fP (d + 1) 0 0 0 0 0 = bd_readOr (fP d) := by unfold fP; rw [if_pos rfl]
      rw [e]
      exact spc_or w N g o (fP d) ((ih o ho).2.1 (by omega))
    · have e : fP (d + 1) 1 0 0 0 0 = bd_readAnd (fP d) := by unfold fP; rw [if_neg (by decide), if_pos rfl]
      rw [e]
      exact spc_and w N g o (fP d) ((ih o ho).2.2 (by omega))
    · have e : fP (d + 1) 2 0 0 0 0 = bd_readNot (fP d) := by unfold fP; rw [if_neg (by decide), if_neg (by decide)]
      rw [e]
      exact spc_not w N g o ho (fP d) (fun h8 => (ih (o + 1) (by omega)).1 (by omega)) (fun h8 => (ih (o + 1) (by omega)).2.2 (by omega))

