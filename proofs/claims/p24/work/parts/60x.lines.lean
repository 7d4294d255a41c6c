/-! ===== the lines of the laws ===== -/
theorem PI.w34 {w u : GS} {N g p q : Nat} (h : PI w u N g p q) (j : Nat) (x y : Int32) : PI w (swd 34 (nI j) x (swf 30 y u)) N g p q := by
  obtain ⟨⟨f1, f2⟩, ⟨a, b, hT⟩, h2, h3, h4, h5, h6, h7, h8⟩ := h
  refine ⟨⟨fun k k1 k2 => ?_, fun k hk => ?_⟩, ⟨a, b, hT.fr (fun k _ _ => swf_o (w := u) (k := 30) (x := y) (by omega)) (sw_o (w := swf 30 y u) (by decide)).2⟩, Im.o (k := 30) (x := y) (by decide) h2, h3, ?_, Im.o (k := 30) (x := y) (by decide) h5, Im.o (k := 30) (x := y) (by decide) h6, h7, (swf_e (w := u) (k := 30) (x := y)).1⟩
  · have h9 := swf_o (w := u) (k := 30) (x := y) (k2 := k) (by omega)
    exact ⟨h9.1.trans (f1 k k1 k2).1, h9.2.trans (f1 k k1 k2).2⟩
  · have h9 := sw_o (w := swf 30 y u) (k := 34) (i := nI j) (v := x) (k2 := k) (by omega)
    rw [h9.1, h9.2]
    exact f2 k hk
  · intro s hs
    obtain ⟨z, a1, a2, a3⟩ := h4 s hs
    exact ⟨z, a1, Am.o (w := swf 30 y u) (by decide) a2, fun k hk => sw_mm (w := swf 30 y u) (a3 k hk)⟩
theorem Ex.w34 {u : GS} {a b j : Nat} {x y : Int32} (h : Ex u a b) : Ex (swd 34 (nI j) x (swf 30 y u)) a b := by
  obtain ⟨h0, hE⟩ := h
  refine ⟨h0, fun hh => ?_⟩
  obtain ⟨gg, k1, k2, k3⟩ := hE hh
  refine ⟨gg, k1, k2, fun k l1 l2 => ?_⟩
  obtain ⟨op, pf, o1, o2, o3⟩ := k3 k l1 l2
  exact ⟨op, pf, Am.o (w := swf 30 y u) (by decide) o1, Am.o (w := swf 30 y u) (by decide) o2, o3⟩
theorem Ls.next {u : GS} {ln p p2 : Nat} (h : Ls u ln p) (hl : ln < 20) (hp : p ≤ p2) (m35 : u.2.2 35 ln = true) (hX : Ex u p p2) : Ls (swd 34 (nI (ln + 1)) (nI p2) (swf 30 (nI (ln + 1)) u)) (ln + 1) p2 := by
  obtain ⟨h1, h2, h3, h4, h5, h6⟩ := h
  have k34 : ∀ j x, ¬ j = ln + 1 → Am u 34 j x → Am (swd 34 (nI (ln + 1)) (nI p2) (swf 30 (nI (ln + 1)) u)) 34 j x := fun j x hj z => sw_An (w := swf 30 (nI (ln + 1)) u) (by omega) hj z
  refine ⟨swf_e (w := u) (k := 30) (x := nI (ln + 1)), by omega, (swf_o (w := u) (k := 30) (x := nI (ln + 1)) (by decide)).2.trans h3, (swf_o (w := u) (k := 30) (x := nI (ln + 1)) (by decide)).2.trans h4, sw_A (w := swf 30 (nI (ln + 1)) u) (by omega), fun l hl2 => ?_⟩
  by_cases he : l = ln
  · subst he
    exact ⟨sw_mm (w := swf 30 (nI (l + 1)) u) m35, p, p2, Nat.le_refl _, k34 _ _ (by omega) h5, sw_A (w := swf 30 (nI (l + 1)) u) (by omega), hX.w34⟩
  · obtain ⟨n35, a, b, hb, g1, g2, g3⟩ := h6 l (by omega)
    exact ⟨sw_mm (w := swf 30 (nI (ln + 1)) u) n35, a, b, by omega, k34 _ _ (by omega) g1, k34 _ _ (by omega) g2, g3.w34⟩
theorem ok_lineTail {w v : GS} {N g p q ln : Nat} (h : PI w v N g p q) (hL : Ls v ln p) (hl : ln < 20) (m35 : v.2.2 35 ln = true) (REST : PG (Option Int32)) (Q : Option Int32 → GS → Prop) (hn : ∀ v, PX w v → Q none v)
    (hR : ∀ v p2, PI w v N g p2 q → Ls v (ln + 1) p2 → Ok REST v Q) : Ok (pcl (f_need 5) (fun r_129 => pot r_129 (prt none) (fun r_132 => pwf 48 0 (pcl (fP 32 0 0 0 0 0) (fun r_135 => pot r_135 (prt none) (fun r_138 => pcl (f_need 14) (fun r_139 => pot r_139 (prt none) (fun r_142 => prf 30 (fun x_143 => pwf 30 (x_143 + 1) (prf 30 (fun x_147 => prf 31 (fun x_149 => pwd 34 21 x_147 x_149 REST)))))))))))) v Q := by
  refine Ok_cl (Ok.mono (h.need 5 (by decide)) (fun r v1 z1 => ?_))
  rcases z1 with ⟨rfl, z1⟩ | ⟨rfl, a1, a2⟩
  · exact Ok_otN (Ok_rt (hn _ z1))
  · refine Ok_otS (Ok_wf ?_)
    obtain ⟨b1, b2⟩ := a1.w48 0
    have g1 : EG v (swf 48 0 v1) p := (a2.eg p).trans b2 (Nat.le_refl _)
    refine Ok_cl (Ok.mono ((spc_fP w N g 32 0 (by omega)).1 (by omega) _ p q b1 (swf_e (x := 0))) (fun r v2 z2 => ?_))
    rcases z2 with ⟨rfl, z2⟩ | ⟨x, p2, rfl, hp, k1, k2, k3, k4⟩
    · exact Ok_otN (Ok_rt (hn _ z2))
    · refine Ok_otS (Ok_cl (Ok.mono (k1.need 14 (by decide)) (fun r v3 z3 => ?_)))
      rcases z3 with ⟨rfl, z3⟩ | ⟨rfl, c1, c2⟩
      · exact Ok_otN (Ok_rt (hn _ z3))
      · have g2 : EG v v3 p := g1.trans (k2.trans (c2.eg p) (Nat.le_refl _)) (Nat.le_refl _)
        have hL3 := hL.eg g2
        have hX3 : Ex v3 p p2 := k3.eg (c2.eg p2) (Nat.le_refl _)
        have n35 : v3.2.2 35 ln = true := by rw [(g2.2.1 35 (by decide)).2]; exact m35
        refine Ok_otS (Ok_rfN hL3.1 (Ok_wf ?_))
        rw [nI_1]
        refine Ok_rfN (swf_e (w := v3) (k := 30)) (Ok_rfN (c1.2.2.2.2.2.1.o (by decide)) (Ok_wdN rfl (by omega) (by decide) ?_))
        exact hR _ p2 (c1.w34 _ _ _) (hL3.next hl (by omega) n35 hX3)
theorem ok_lines {w : GS} {N g q : Nat} (K : PG (Option Int32)) (Q : Option Int32 → GS → Prop) (hn : ∀ v, PX w v → Q none v) (hK : ∀ v ln p, PI w v N g p q → Ls v ln p → Ok K v Q) :
    ∀ (t ln p m : Nat) (v : GS), ln + t = 20 → t < m → PI w v N g p q → Ls v ln p → Ok (lp_readLaws_223 m K) v Q := by
  intro t
  induction t with
  | zero =>
    intro ln p m v h1 h2 h hL
    have e : ln = 20 := by omega
    subst e
    cases m with
    | zero => omega
    | succ m =>
      unfold lp_readLaws_223
      refine Ok_clR (h.is 4 (by decide)) (fun r _ => Ok_ite (fun _ => hK v 20 p h hL) (fun _ => ?_))
      exact Ok_rfN hL.1 (Ok_ite (fun _ => ok_wrongP h.px h.m44 3 _ hn) (fun z => absurd rfl z))
  | succ t ih =>
    intro ln p m v h1 h2 h hL
    cases m with
    | zero => omega
    | succ m =>
      have hnext : ∀ v p2, PI w v N g p2 q → Ls v (ln + 1) p2 → Ok (lp_readLaws_223 m K) v Q := fun v p2 a b => ih (ln + 1) p2 m v (by omega) (by omega) a b
      unfold lp_readLaws_223
      refine Ok_clR (h.is 4 (by decide)) (fun r _ => Ok_ite (fun _ => hK v ln p h hL) (fun _ => ?_))
      refine Ok_rfN hL.1 (Ok_ite (fun _ => ok_wrongP h.px h.m44 3 _ hn) (fun _ => ?_))
      refine Ok_cl (Ok.mono h.scan (fun _ v1 z1 => ?_))
      have hL1 := hL.eg (z1.2.eg p)
      refine Ok_rfN hL1.1 (Ok_wdN rfl (by omega) (by decide) ?_)
      have h2 := z1.1.w35 ln 1
      have hL2 := hL1.w35 ln 1
      have m35 : (swd 35 (nI ln) 1 v1).2.2 35 ln = true := sw_me (v := 1) (by omega)
      generalize swd 35 (nI ln) 1 v1 = v2 at h2 hL2 m35 ⊢
      obtain ⟨a, b, hT⟩ := h2.2.1
      refine Ok_rf hT.2.2.2.2.2.2.2.2.1 (Ok_ite (fun _ => ?_) (fun _ => ok_lineTail h2 hL2 (by omega) m35 _ Q hn hnext))
      refine Ok_rfN hL2.1 (Ok_cl (Ok.mono (ok_number h2) (fun r v3 z3 => ?_)))
      rcases z3 with ⟨rfl, z3⟩ | ⟨x, rfl, c1, c2⟩
      · exact Ok_otN (Ok_rt (hn _ z3))
      · refine Ok_otS (Ok_wdN rfl (by omega) (by decide) ?_)
        exact ok_lineTail (c1.w35 ln x) ((hL2.eg (c2.eg p)).w35 ln x) (by omega) (sw_me (v := x) (by omega)) _ Q hn hnext

