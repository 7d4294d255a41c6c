/-! ===== readTerm, readSum, readNot, readAnd, readOr ===== -/
def Pst (w u : GS) (N g p q : Nat) (O : Int32) (r : Option Int32) (v : GS) : Prop := (r = none ∧ PX w v) ∨ ∃ x p2, r = some x ∧ p < p2 ∧ PI w v N g p2 q ∧ EG u v p ∧ Ex v p p2 ∧ Im v 48 O
theorem ScF.i48 {u v : GS} {O : Int32} (h : ScF u v) (hi : Im u 48 O) : Im v 48 O := ⟨(h.2.2 48 (by decide)).2.trans hi.1, (h.2.2 48 (by decide)).1.trans hi.2⟩
theorem ok_tail {w u v : GS} {N g p p2 q : Nat} {O : Int32} (hp : p < p2) (h : PI w v N g p2 q) (hE : EG u v p) (hX : Ex v p p2) (h48 : Im v 48 O) : Ok (pcl f_scan (fun _ => prt (some (0 : Int32)))) v (Pst w u N g p q O) := by
  refine Ok_cl (Ok.mono h.scan (fun _ v1 z => Ok_rt (Or.inr ⟨0, p2, rfl, hp, z.1, ?_, ?_, z.2.i48 h48⟩)))
  · exact hE.trans (z.2.eg p) (Nat.le_refl _)
  · exact hX.eg (z.2.eg p2) (Nat.le_refl _)
theorem pt1_48 {p : Nat} {op pf O : Int32} {u : GS} (h : Im u 48 O) : Im (pt1 p op pf u) 48 O := ⟨(swf_o (by decide)).2.trans h.1, (swf_o (by decide)).1.trans h.2⟩
theorem ok_putScan {w u v : GS} {N g p q : Nat} {O : Int32} (h : PI w v N g p q) (hE : EG u v p) (h48 : Im v 48 O) (hlt : p + q < 300) (op pf : Int32) (h5 : ¬ 5 < op) (hs : (op = 1 ∨ op = 2) → ∃ s, s < 8 ∧ pf = nI s) : Ok (pcl (f_put op pf) (fun _ => pcl f_scan (fun _ => prt (some (0 : Int32))))) v (Pst w u N g p q O) := by
  refine Ok_cl (Ok.mono (h.put hlt op pf) (fun _ v1 z => ?_))
  obtain ⟨e, hI⟩ := z
  have hk := pt1_36 p op pf v (by omega)
  rw [← e] at hk
  have hE2 := pt1_eg p op pf v (by omega)
  rw [← e] at hE2
  have h482 := pt1_48 (p := p) (op := op) (pf := pf) h48
  rw [← e] at h482
  exact ok_tail (by omega) hI (hE.trans hE2 (Nat.le_refl _)) (Ex_one hk.1 hk.2 h5 hs) h482
theorem PI.name {w u : GS} {N g p q : Nat} (h : PI w u N g p q) : Ok f_name u (fun r v => (r = none ∧ PX w v) ∨ (r = some 0 ∧ v = u)) := by
  obtain ⟨a, b, hT⟩ := h.2.1
  have m46 := hT.2.2.2.2.2.2.2.2.1
  unfold f_name
  refine Ok_rf m46 (Ok_ite (fun _ => ?_) (fun _ => ok_wrongP h.px h.m44 1 _ (fun v1 z => Or.inl ⟨rfl, z⟩)))
  exact Ok_clR (ok_isQuoted hT) (fun r _ => Ok_ite (fun _ => Ok_rt (Or.inr ⟨rfl, rfl⟩)) (fun _ => ok_wrongP h.px h.m44 1 _ (fun v1 z => Or.inl ⟨rfl, z⟩)))
theorem ok_named {w u : GS} {N g p q : Nat} {O : Int32} (h : PI w u N g p q) (h48 : Im u 48 O) (op : Int32) (h5 : ¬ 5 < op) : Ok (pcl (f_counts) (fun r_76 => pot r_76 (prt none) (fun r_79 => pcl (f_scan) (fun r_80 => pcl (f_name) (fun r_83 => pot r_83 (prt none) (fun r_86 => pcl (f_findSign) (fun r_87 => (if r_87 = (-1) then prf 44 (fun x_97 => pcl (f_wrong 2 x_97) (fun r_99 => prt none)) else pcl (f_put op r_87) (fun r_91 => pcl (f_scan) (fun r_94 => prt (some (0 : Int32)))))))))))) u (Pst w u N g p q O) := by
  refine Ok_cl (Ok.mono h.counts (fun r v z => ?_))
  rcases z with ⟨rfl, z⟩ | ⟨rfl, rfl, hlt⟩
  · exact Ok_otN (Ok_rt (Or.inl ⟨rfl, z⟩))
  · refine Ok_otS (Ok_cl (Ok.mono h.scan (fun _ v1 z1 => ?_)))
    refine Ok_cl (Ok.mono z1.1.name (fun r v2 z2 => ?_))
    rcases z2 with ⟨rfl, z2⟩ | ⟨rfl, rfl⟩
    · exact Ok_otN (Ok_rt (Or.inl ⟨rfl, z2⟩))
    · refine Ok_otS ?_
      obtain ⟨a, b, hT⟩ := z1.1.2.1
      refine Ok_clR (ok_findSign hT z1.1.2.2.2.1 z1.1.2.2.1 z1.1.2.2.2.2.1) (fun r hr => ?_)
      rcases hr with rfl | ⟨s, hs, rfl⟩
      · exact Ok_ite (fun _ => ok_wrongP z1.1.px z1.1.m44 2 _ (fun v1 y => Or.inl ⟨rfl, y⟩)) (fun y => absurd rfl y)
      · have hg := z1.1.2.2.2.1
        exact Ok_ite (fun y => absurd y (nI_ne_1 (by omega))) (fun _ => ok_putScan z1.1 (z1.2.eg p) (z1.2.i48 h48) hlt op (nI s) h5 (fun _ => ⟨s, by omega, rfl⟩))
theorem ok_readTerm {w u : GS} {N g p q : Nat} {O : Int32} (h : PI w u N g p q) (h48 : Im u 48 O) : Ok f_readTerm u (Pst w u N g p q O) := by
  obtain ⟨a, b, hT⟩ := h.2.1
  have m46 := hT.2.2.2.2.2.2.2.2.1
  have h47 := hT.2.2.2.2.2.2.2.2.2.1
  unfold f_readTerm
  refine Ok_rf m46 (Ok_ite (fun e => ?_) (fun _ => ?_))
  · refine Ok_cl (Ok.mono h.counts (fun r v z => ?_))
    rcases z with ⟨rfl, z⟩ | ⟨rfl, rfl, hlt⟩
    · exact Ok_otN (Ok_rt (Or.inl ⟨rfl, z⟩))
    · exact Ok_otS (Ok_rf (h47 e) (ok_putScan h (EG.rf _ _) h48 hlt 0 _ (by decide) (fun z => absurd z (by decide))))
  · refine Ok_clR (h.is 13 (by decide)) (fun r _ => Ok_ite (fun _ => ?_) (fun _ => ?_))
    · repeat (first | exact ok_named h h48 1 (by decide) | exact ok_named h h48 2 (by decide) | exact ok_wrongP h.px h.m44 1 _ (fun v1 y => Or.inl ⟨rfl, y⟩) | refine Ok_clR (h.is _ (by decide)) (fun _ _ => ?_) | refine Ok_ite (fun _ => ?_) (fun _ => ?_))
    · refine Ok_cl (Ok.mono h.counts (fun r v z => ?_))
      rcases z with ⟨rfl, z⟩ | ⟨rfl, rfl, hlt⟩
      · exact Ok_otN (Ok_rt (Or.inl ⟨rfl, z⟩))
      · exact Ok_otS (ok_putScan h (EG.rf _ _) h48 hlt 3 0 (by decide) (fun z => absurd z (by decide)))
theorem PI.hold {w u : GS} {N g p q : Nat} (h : PI w u N g p q) : Ok f_hold u (fun r v => (r = none ∧ PX w v) ∨ (r = some 0 ∧ v = swf 51 (nI (q + 1)) u ∧ p + q < 300)) := by
  unfold f_hold
  refine Ok_cl (Ok.mono h.counts (fun r v z => ?_))
  rcases z with ⟨rfl, z⟩ | ⟨rfl, rfl, hlt⟩
  · exact Ok_otN (Ok_rt (Or.inl ⟨rfl, z⟩))
  · refine Ok_otS (Ok_rfN h.2.2.2.2.2.2.1 (Ok_wf (Ok_rt (Or.inr ⟨rfl, ?_, hlt⟩))))
    rw [nI_1]
theorem PI.release {w u : GS} {N g p q : Nat} (h : PI w u N g p (q + 1)) (op : Int32) : Ok (f_release op) u (fun _ v => PI w v N g (p + 1) q ∧ EG u v p ∧ Am v 36 p op ∧ Am v 37 p 0 ∧ ∀ O, Im u 48 O → Im v 48 O) := by
  have h300 := h.2.2.2.2.2.2.2.1
  unfold f_release
  refine Ok_rfN h.2.2.2.2.2.2.1 (Ok_wf ?_)
  rw [nI_pred]
  obtain ⟨h2, hE⟩ := h.w51 q (by omega)
  refine Ok_cl (Ok.mono (h2.put (by omega) op 0) (fun _ v z => Ok_rt ?_))
  obtain ⟨e, hI⟩ := z
  have hk := pt1_36 p op 0 (swf 51 (nI q) u) (by omega)
  have hE2 := pt1_eg p op 0 (swf 51 (nI q) u) (by omega)
  refine ⟨hI, hE.trans (by rw [e]; exact hE2) (Nat.le_refl _), by rw [e]; exact hk.1, by rw [e]; exact hk.2, fun O hO => ?_⟩
  rw [e]
  exact pt1_48 (hO.o (by decide))
theorem ok_bin {w u v : GS} {N g p p2 q : Nat} {O : Int32} (E : PG (Option Int32)) (hEs : ∀ u p q, PI w u N g p q → Im u 48 O → Ok E u (Pst w u N g p q O)) (op : Int32) (h5 : 5 < op) (h6 : ¬ op = 6) (REST : PG (Option Int32)) (Q : Option Int32 → GS → Prop) (hn : ∀ v, PX w v → Q none v) (hp : p < p2) (h : PI w v N g p2 q) (hG : EG u v p) (hX : Ex v p p2) (h48 : Im v 48 O)
    (hR : ∀ v p3, p2 < p3 → PI w v N g p3 q → EG u v p → Ex v p p3 → Im v 48 O → Ok REST v Q) : Ok (pcl (f_hold) (fun r_49 => pot r_49 (prt none) (fun r_52 => pcl (f_scan) (fun r_53 => pcl E (fun r_56 => pot r_56 (prt none) (fun r_59 => pcl (f_release op) (fun r_60 => REST))))))) v Q := by
  refine Ok_cl (Ok.mono h.hold (fun r v1 z => ?_))
  rcases z with ⟨rfl, z⟩ | ⟨rfl, rfl, hlt⟩
  · exact Ok_otN (Ok_rt (hn _ z))
  · obtain ⟨h2, hE2⟩ := h.w51 (q + 1) (by omega)
    refine Ok_otS (Ok_cl (Ok.mono h2.scan (fun _ v2 z2 => ?_)))
    have g2 : EG v v2 p2 := hE2.trans (z2.2.eg p2) (Nat.le_refl _)
    refine Ok_cl (Ok.mono (hEs v2 p2 (q + 1) z2.1 (z2.2.i48 (h48.o (by decide)))) (fun r v3 z3 => ?_))
    rcases z3 with ⟨rfl, z3⟩ | ⟨x, p3, rfl, hp3, k1, k2, k3, k4⟩
    · exact Ok_otN (Ok_rt (hn _ z3))
    · refine Ok_otS (Ok_cl (Ok.mono (k1.release op) (fun _ v4 z4 => ?_)))
      obtain ⟨l1, l2, l3, l4, l5⟩ := z4
      have g3 : EG v v3 p2 := g2.trans k2 (Nat.le_refl _)
      have g4 : EG v v4 p2 := g3.trans l2 (by omega)
      exact hR v4 (p3 + 1) (by omega) l1 (hG.trans g4 (by omega)) (Ex_bin (hX.eg g4 (Nat.le_refl _)) (k3.eg l2 (Nat.le_refl _)) l3 l4 h5 h6) (l5 O k4)
theorem ok_readSum {w u : GS} {N g p q : Nat} {O : Int32} (h : PI w u N g p q) (h48 : Im u 48 O) : Ok f_readSum u (Pst w u N g p q O) := by
  have hlp : ∀ (t p2 m : Nat) (v : GS), 301 ≤ p2 + t → t < m → p < p2 → PI w v N g p2 q → EG u v p → Ex v p p2 → Im v 48 O → Ok (lp_readSum_4 m (prt (some 0))) v (Pst w u N g p q O) := by
    intro t
    induction t with
    | zero =>
      intro p2 m v h1 h2 hp hI
      have := hI.2.2.2.2.2.2.2.1
      omega
    | succ t ih =>
      intro p2 m v h1 h2 hp hI hG hX h48v
      cases m with
      | zero => omega
      | succ m =>
        have hR : ∀ v p3, p2 < p3 → PI w v N g p3 q → EG u v p → Ex v p p3 → Im v 48 O → Ok (lp_readSum_4 m (prt (some 0))) v (Pst w u N g p q O) := fun v p3 h3 a1 a2 a3 a4 => ih p3 m v (by omega) (by omega) (by omega) a1 a2 a3 a4
        have hno : ∀ v, PX w v → Pst w u N g p q O none v := fun v z => Or.inl ⟨rfl, z⟩
        unfold lp_readSum_4
        repeat (first | (with_reducible refine Ok_clR (hI.is _ (by decide)) (fun _ _ => ?_)) | (with_reducible refine Ok_ite (fun _ => ?_) (fun _ => ?_)) | (with_reducible exact ok_bin f_readTerm (fun u p q a b => ok_readTerm a b) 7 (by decide) (by decide) _ _ hno hp hI hG hX h48v hR) | (with_reducible exact ok_bin f_readTerm (fun u p q a b => ok_readTerm a b) 8 (by decide) (by decide) _ _ hno hp hI hG hX h48v hR) | exact Ok_rt (Or.inr ⟨0, p2, rfl, hp, hI, hG, hX, h48v⟩))
  unfold f_readSum
  refine Ok_cl (Ok.mono (ok_readTerm h h48) (fun r v z => ?_))
  rcases z with ⟨rfl, z⟩ | ⟨x, p2, rfl, hp, k1, k2, k3, k4⟩
  · exact Ok_otN (Ok_rt (Or.inl ⟨rfl, z⟩))
  · exact Ok_otS (hlp 301 p2 fuel v (by omega) (by unfold fuel; omega) hp k1 k2 k3 k4)

