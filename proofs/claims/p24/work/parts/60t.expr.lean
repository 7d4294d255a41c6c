/-! ===== the code of a condition ===== -/
theorem StpG.congr {w : GS} {g g2 : Nat → Nat} {k : Nat} (h : StpG w g k) (h1 : g2 k = g k) (h2 : g2 (k + 1) = g (k + 1)) : StpG w g2 k := by
  unfold StpG at h ⊢
  rw [h1, h2]
  exact h
theorem Ex_one {v : GS} {p : Nat} {op pf : Int32} (h36 : Am v 36 p op) (h37 : Am v 37 p pf) (h5 : ¬ 5 < op) (hs : (op = 1 ∨ op = 2) → ∃ s, s < 8 ∧ pf = nI s) : Ex v p (p + 1) := by
  refine ⟨by omega, fun h => ⟨fun k => if k = p then h else h + 1, if_pos rfl, if_neg (by omega), fun k h1 h2 => ?_⟩⟩
  have : k = p := by omega
  subst this
  exact ⟨op, pf, h36, h37, Or.inl ⟨h5, by show (if k + 1 = k then h else h + 1) = (if k = k then h else h + 1) + 1; rw [if_neg (by omega), if_pos rfl], hs⟩⟩
theorem Ex_not {v : GS} {p p1 : Nat} {pf : Int32} (hE : Ex v p p1) (h36 : Am v 36 p1 6) (h37 : Am v 37 p1 pf) : Ex v p (p1 + 1) := by
  obtain ⟨h0, hE⟩ := hE
  refine ⟨by omega, fun h => ?_⟩
  obtain ⟨g, g1, g2, g3⟩ := hE h
  refine ⟨fun k => if k ≤ p1 then g k else h + 1, (if_pos h0).trans g1, if_neg (by omega), fun k h1 h2 => ?_⟩
  by_cases hk : k = p1
  · subst hk
    refine ⟨6, pf, h36, h37, Or.inr (Or.inl ⟨rfl, ?_, ?_⟩)⟩
    · show 1 ≤ (if k ≤ k then g k else h + 1)
      rw [if_pos (Nat.le_refl _), g2]; omega
    · show (if k + 1 ≤ k then g (k + 1) else h + 1) = (if k ≤ k then g k else h + 1)
      rw [if_neg (by omega), if_pos (Nat.le_refl _), g2]
  · exact (g3 k h1 (by omega)).congr (if_pos (by omega)) (if_pos (by omega))
theorem Ex_bin {v : GS} {p p1 p2 : Nat} {op pf : Int32} (hE : Ex v p p1) (hE2 : Ex v p1 p2) (h36 : Am v 36 p2 op) (h37 : Am v 37 p2 pf) (h5 : 5 < op) (h6 : ¬ op = 6) : Ex v p (p2 + 1) := by
  obtain ⟨h0, hE⟩ := hE
  obtain ⟨h02, hE2⟩ := hE2
  refine ⟨by omega, fun h => ?_⟩
  obtain ⟨g, g1, g2, g3⟩ := hE h
  obtain ⟨f, f1, f2, f3⟩ := hE2 (h + 1)
  have ea : ∀ k, k ≤ p1 → (if k ≤ p1 then g k else if k ≤ p2 then f k else h + 1) = g k := fun k hk => if_pos hk
  have eb : ∀ k, p1 ≤ k → k ≤ p2 → (if k ≤ p1 then g k else if k ≤ p2 then f k else h + 1) = f k := fun k hk hk2 => by
    by_cases hz : k = p1
    · subst hz
      rw [if_pos (Nat.le_refl _), g2, f1]
    · rw [if_neg (by omega), if_pos hk2]
  have ec : (if p2 + 1 ≤ p1 then g (p2 + 1) else if p2 + 1 ≤ p2 then f (p2 + 1) else h + 1) = h + 1 := by rw [if_neg (by omega), if_neg (by omega)]
  refine ⟨fun k => if k ≤ p1 then g k else if k ≤ p2 then f k else h + 1, (ea p h0).trans g1, ec, fun k h1 h2 => ?_⟩
  by_cases hk : k = p2
  · subst hk
    refine ⟨op, pf, h36, h37, Or.inr (Or.inr ⟨h5, h6, ?_, ?_⟩)⟩
    · show 2 ≤ (if k ≤ p1 then g k else if k ≤ k then f k else h + 1)
      rw [eb k h02 (Nat.le_refl _), f2]; omega
    · show (if k + 1 ≤ p1 then g (k + 1) else if k + 1 ≤ k then f (k + 1) else h + 1) + 1 = (if k ≤ p1 then g k else if k ≤ k then f k else h + 1)
      rw [ec, eb k h02 (Nat.le_refl _), f2]
  · by_cases hz : k < p1
    · exact (g3 k h1 hz).congr (ea k (by omega)) (ea (k + 1) (by omega))
    · exact (f3 k (by omega) (by omega)).congr (eb k (by omega) (by omega)) (eb (k + 1) (by omega) (by omega))
/-- what reading leaves alone -/
def PF (w v : GS) : Prop := (∀ k, ¬ (27 ≤ k ∧ k ≤ 31) → ¬ (44 ≤ k ∧ k ≤ 51) → v.1.1 k = w.1.1 k ∧ v.2.1 k = w.2.1 k) ∧ ∀ k, ¬ (32 ≤ k ∧ k ≤ 37) → v.1.2 k = w.1.2 k ∧ v.2.2 k = w.2.2 k
def PX (w v : GS) : Prop := PF w v ∧ (∃ g, g ≤ 8 ∧ Im v 29 (nI g)) ∧ v.2.1 30 = true ∧ v.2.1 31 = true
def PI (w v : GS) (N g p q : Nat) : Prop := PF w v ∧ (∃ a b, Tk v N a b) ∧ Im v 29 (nI g) ∧ g ≤ 8 ∧ Sg v g ∧ Im v 31 (nI p) ∧ Im v 51 (nI q) ∧ p + q ≤ 300 ∧ v.2.1 30 = true
/-- v has u's code below p -/
def EG (u v : GS) (p : Nat) : Prop := (∀ k, ¬ k = 31 → ¬ (44 ≤ k ∧ k ≤ 51) → v.1.1 k = u.1.1 k ∧ v.2.1 k = u.2.1 k) ∧ (∀ k, ¬ (36 ≤ k ∧ k ≤ 37) → v.1.2 k = u.1.2 k ∧ v.2.2 k = u.2.2 k) ∧ ∀ k, 36 ≤ k → k ≤ 37 → ∀ j, j < p → v.1.2 k j = u.1.2 k j ∧ v.2.2 k j = u.2.2 k j
theorem EG.rf (u : GS) (p : Nat) : EG u u p := ⟨fun _ _ _ => ⟨rfl, rfl⟩, fun _ _ => ⟨rfl, rfl⟩, fun _ _ _ _ _ => ⟨rfl, rfl⟩⟩
theorem EG.trans {u v w : GS} {p p2 : Nat} (h1 : EG u v p) (h2 : EG v w p2) (hp : p ≤ p2) : EG u w p := ⟨fun k a b => ⟨(h2.1 k a b).1.trans (h1.1 k a b).1, (h2.1 k a b).2.trans (h1.1 k a b).2⟩, fun k a => ⟨(h2.2.1 k a).1.trans (h1.2.1 k a).1, (h2.2.1 k a).2.trans (h1.2.1 k a).2⟩, fun k a b j hj => ⟨(h2.2.2 k a b j (by omega)).1.trans (h1.2.2 k a b j hj).1, (h2.2.2 k a b j (by omega)).2.trans (h1.2.2 k a b j hj).2⟩⟩
theorem Ex.eg {u v : GS} {p a b : Nat} (hE : Ex u a b) (h : EG u v p) (hb : b ≤ p) : Ex v a b := by
  obtain ⟨h0, hE⟩ := hE
  refine ⟨h0, fun hh => ?_⟩
  obtain ⟨g, g1, g2, g3⟩ := hE hh
  refine ⟨g, g1, g2, fun k h1 h2 => ?_⟩
  obtain ⟨op, pf, k1, k2, k3⟩ := g3 k h1 h2
  have e36 := h.2.2 36 (by decide) (by decide) k (by omega)
  have e37 := h.2.2 37 (by decide) (by decide) k (by omega)
  exact ⟨op, pf, ⟨e36.2.trans k1.1, e36.1.trans k1.2⟩, ⟨e37.2.trans k2.1, e37.1.trans k2.2⟩, k3⟩
theorem EG.pf {w u v : GS} {p : Nat} (h : EG u v p) (hp : PF w u) : PF w v := ⟨fun k a b => ⟨(h.1 k (by omega) b).1.trans (hp.1 k a b).1, (h.1 k (by omega) b).2.trans (hp.1 k a b).2⟩, fun k a => ⟨(h.2.1 k (by omega)).1.trans (hp.2 k a).1, (h.2.1 k (by omega)).2.trans (hp.2 k a).2⟩⟩
theorem ScF.eg {u v : GS} (h : ScF u v) (p : Nat) : EG u v p := ⟨fun k a b => h.2.2 k (by omega), fun k _ => ⟨by rw [h.1], by rw [h.2.1]⟩, fun k _ _ j _ => ⟨by rw [h.1], by rw [h.2.1]⟩⟩
theorem EG.sg {u v : GS} {p g : Nat} (h : EG u v p) (hs : Sg u g) : Sg v g := by
  intro s hs2
  obtain ⟨z, a1, a2, a3⟩ := hs s hs2
  have e32 := h.2.1 32 (by decide)
  have e33 := h.2.1 33 (by decide)
  refine ⟨z, a1, ?_, fun k hk => ?_⟩
  · unfold Am
    rw [e33.1, e33.2]
    exact a2
  · rw [e32.2]
    exact a3 k hk
theorem PI.px {w v : GS} {N g p q : Nat} (h : PI w v N g p q) : PX w v := ⟨h.1, ⟨g, h.2.2.2.1, h.2.2.1⟩, h.2.2.2.2.2.2.2.2, h.2.2.2.2.2.1.1⟩
theorem PX.w4 {w v : GS} (h : PX w v) (k : Nat) (x : Int32) (hk : 49 ≤ k ∧ k ≤ 50) : PX w (swf k x v) := by
  obtain ⟨⟨a1, a2⟩, ⟨g, a3, a4⟩, a5, a6⟩ := h
  refine ⟨⟨fun k2 h1 h2 => ?_, a2⟩, ⟨g, a3, a4.o (by omega)⟩, (swf_o (by omega)).2.trans a5, (swf_o (by omega)).2.trans a6⟩
  have h9 := swf_o (w := v) (k := k) (x := x) (k2 := k2) (by omega)
  rw [h9.1, h9.2]
  exact a1 k2 h1 h2
theorem ok_wrongP {w v : GS} (h : PX w v) (m44 : v.2.1 44 = true) (e : Int32) (Q : Option Int32 → GS → Prop) (hQ : ∀ v1, PX w v1 → Q none v1) : Ok (prf 44 (fun x => pcl (f_wrong e x) (fun _ => prt (none : Option Int32)))) v Q := by
  refine Ok_rf m44 ?_
  unfold f_wrong
  exact Ok_cl (Ok_wf (Ok_wf (Ok_rt (Ok_rt (hQ _ ((h.w4 49 _ (by decide)).w4 50 _ (by decide)))))))
theorem PI.m44 {w v : GS} {N g p q : Nat} (h : PI w v N g p q) : v.2.1 44 = true := by
  obtain ⟨a, b, hT⟩ := h.2.1
  exact hT.2.2.2.2.1.1
theorem PI.scan {w u : GS} {N g p q : Nat} (h : PI w u N g p q) : Ok f_scan u (fun _ v => PI w v N g p q ∧ ScF u v) := by
  obtain ⟨h1, ⟨a, b, hT⟩, h2, h3, h4, h5, h6, h7, h8⟩ := h
  refine Ok.mono hT.scan (fun _ v hv => ⟨⟨?_, hv.2, ?_, h3, ?_, ?_, ?_, h7, ?_⟩, hv.1⟩)
  · exact (hv.1.eg 0).pf h1
  · exact ⟨(hv.1.2.2 29 (by decide)).2.trans h2.1, (hv.1.2.2 29 (by decide)).1.trans h2.2⟩
  · exact (hv.1.eg 0).sg h4
  · exact ⟨(hv.1.2.2 31 (by decide)).2.trans h5.1, (hv.1.2.2 31 (by decide)).1.trans h5.2⟩
  · exact ⟨(hv.1.2.2 51 (by decide)).2.trans h6.1, (hv.1.2.2 51 (by decide)).1.trans h6.2⟩
  · exact (hv.1.2.2 30 (by decide)).2.trans h8
theorem PI.is {w u : GS} {N g p q : Nat} (h : PI w u N g p q) (s : Nat) (hs : s < 25) : Rd (f_is s) u (fun r => r = 0 ∨ r = 1) := by
  obtain ⟨a, b, hT⟩ := h.2.1
  exact ok_is hT s hs
theorem PI.counts {w u : GS} {N g p q : Nat} (h : PI w u N g p q) : Ok f_counts u (fun r v => (r = none ∧ PX w v) ∨ (r = some 0 ∧ v = u ∧ p + q < 300)) := by
  have h2 := h
  obtain ⟨h1, hT, -, h3, h4, h5, h6, h7, h8⟩ := h2
  unfold f_counts
  refine Ok_rfN h5 (Ok_rfN h6 (Ok_ite (fun _ => ok_wrongP h.px h.m44 3 _ (fun v1 z => Or.inl ⟨rfl, z⟩)) (fun z => Ok_rt (Or.inr ⟨rfl, rfl, ?_⟩))))
  rw [nI_add] at z
  rcases Nat.lt_or_ge (p + q) 300 with y | y
  · exact y
  · have : p + q = 300 := by omega
    rw [this] at z
    exact absurd rfl z
/-- the tail of a part that is put -/
def pt1 (p : Nat) (op pf : Int32) (u : GS) : GS := swf 31 (nI (p + 1)) (swd 37 (nI p) pf (swd 36 (nI p) op u))
theorem pt1_eg (p : Nat) (op pf : Int32) (u : GS) (hp : p < 300) : EG u (pt1 p op pf u) p := by
  refine ⟨fun k h1 h2 => swf_o h1, fun k hk => ?_, fun k h1 h2 j hj => ?_⟩
  · have a1 := sw_o (w := swd 36 (nI p) op u) (k := 37) (i := nI p) (v := pf) (k2 := k) (by omega)
    have a2 := sw_o (w := u) (k := 36) (i := nI p) (v := op) (k2 := k) (by omega)
    exact ⟨a1.1.trans a2.1, a1.2.trans a2.2⟩
  · rcases (by omega : k = 36 ∨ k = 37) with rfl | rfl
    · have a1 := sw_o (w := swd 36 (nI p) op u) (k := 37) (i := nI p) (v := pf) (k2 := 36) (by omega)
      have a2 := sw_on (w := u) (k := 36) (j := p) (v := op) (j2 := j) (by omega) (by omega)
      exact ⟨(congrFun a1.1 j).trans a2.1, (congrFun a1.2 j).trans a2.2⟩
    · have a1 := sw_on (w := swd 36 (nI p) op u) (k := 37) (j := p) (v := pf) (j2 := j) (by omega) (by omega)
      have a2 := sw_o (w := u) (k := 36) (i := nI p) (v := op) (k2 := 37) (by omega)
      exact ⟨a1.1.trans (congrFun a2.1 j), a1.2.trans (congrFun a2.2 j)⟩
theorem pt1_36 (p : Nat) (op pf : Int32) (u : GS) (hp : p < 300) : Am (pt1 p op pf u) 36 p op ∧ Am (pt1 p op pf u) 37 p pf := ⟨Am.o (w := swd 36 (nI p) op u) (k := 37) (i := nI p) (v := pf) (by decide) (sw_A (by omega)), sw_A (w := swd 36 (nI p) op u) (k := 37) (by omega)⟩
theorem Tk.fr {u v : GS} {N a b : Nat} (h : Tk u N a b) (hi : ∀ k, 41 ≤ k → k ≤ 47 → v.1.1 k = u.1.1 k ∧ v.2.1 k = u.2.1 k) (h56 : v.2.2 56 = u.2.2 56) : Tk v N a b := by
  unfold Tk Im at h ⊢
  rw [(hi 41 (by decide) (by decide)).1, (hi 41 (by decide) (by decide)).2, (hi 43 (by decide) (by decide)).1, (hi 43 (by decide) (by decide)).2, (hi 44 (by decide) (by decide)).1, (hi 44 (by decide) (by decide)).2, (hi 45 (by decide) (by decide)).1, (hi 45 (by decide) (by decide)).2, (hi 46 (by decide) (by decide)).1, (hi 46 (by decide) (by decide)).2, (hi 47 (by decide) (by decide)).2, h56]
  exact h
theorem PI.put {w u : GS} {N g p q : Nat} (h : PI w u N g p q) (hlt : p + q < 300) (op pf : Int32) : Ok (f_put op pf) u (fun _ v => v = pt1 p op pf u ∧ PI w v N g (p + 1) q) := by
  obtain ⟨h1, ⟨a, b, hT⟩, h2, h3, h4, h5, h6, h7, h8⟩ := h
  have hp : p < 300 := by omega
  have hE := pt1_eg p op pf u hp
  unfold f_put
  refine Ok_rfN h5 (Ok_wdN rfl hp (by decide) (Ok_rfN h5 (Ok_wdN rfl hp (by decide) (Ok_rfN h5 (Ok_wf (Ok_rt ?_))))))
  rw [nI_1]
  refine ⟨rfl, hE.pf h1, ⟨a, b, hT.fr (fun k _ _ => swf_o (by omega)) (hE.2.1 56 (by decide)).2⟩, ?_, h3, hE.sg h4, swf_e, ?_, by omega, ?_⟩
  · exact ⟨(hE.1 29 (by decide) (by decide)).2.trans h2.1, (hE.1 29 (by decide) (by decide)).1.trans h2.2⟩
  · exact h6.o (by decide)
  · exact (swf_o (by decide)).2.trans h8
theorem PI.w51 {w u : GS} {N g p q : Nat} (h : PI w u N g p q) (q2 : Nat) (hq : p + q2 ≤ 300) : PI w (swf 51 (nI q2) u) N g p q2 ∧ EG u (swf 51 (nI q2) u) p := by
  obtain ⟨h1, ⟨a, b, hT⟩, h2, h3, h4, h5, h6, h7, h8⟩ := h
  have hE : EG u (swf 51 (nI q2) u) p := ⟨fun k _ h2 => swf_o (by omega), fun _ _ => ⟨rfl, rfl⟩, fun _ _ _ _ _ => ⟨rfl, rfl⟩⟩
  exact ⟨⟨hE.pf h1, ⟨a, b, hT.fr (fun k _ _ => swf_o (by omega)) rfl⟩, h2.o (by decide), h3, hE.sg h4, h5.o (by decide), swf_e, hq, (swf_o (by decide)).2.trans h8⟩, hE⟩
theorem PI.w48 {w u : GS} {N g p q : Nat} (h : PI w u N g p q) (x : Int32) : PI w (swf 48 x u) N g p q ∧ EG u (swf 48 x u) p := by
  obtain ⟨h1, ⟨a, b, hT⟩, h2, h3, h4, h5, h6, h7, h8⟩ := h
  have hE : EG u (swf 48 x u) p := ⟨fun k _ h2 => swf_o (by omega), fun _ _ => ⟨rfl, rfl⟩, fun _ _ _ _ _ => ⟨rfl, rfl⟩⟩
  exact ⟨⟨hE.pf h1, ⟨a, b, hT.fr (fun k _ _ => swf_o (by omega)) rfl⟩, h2.o (by decide), h3, hE.sg h4, h5.o (by decide), h6.o (by decide), h7, (swf_o (by decide)).2.trans h8⟩, hE⟩

