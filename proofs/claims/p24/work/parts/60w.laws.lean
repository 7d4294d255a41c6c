/-! ===== readLaws ===== -/
theorem ok_number {w u : GS} {N g p q : Nat} (h : PI w u N g p q) : Ok f_number u (fun r v => (r = none ∧ PX w v) ∨ ∃ x, r = some x ∧ PI w v N g p q ∧ ScF u v) := by
  obtain ⟨a, b, hT⟩ := h.2.1
  have m46 := hT.2.2.2.2.2.2.2.2.1
  have h47 := hT.2.2.2.2.2.2.2.2.2.1
  unfold f_number
  refine Ok_rf m46 (Ok_ite (fun e => Ok_rf (h47 e) ?_) (fun _ => ok_wrongP h.px h.m44 1 _ (fun v1 z => Or.inl ⟨rfl, z⟩)))
  exact Ok_cl (Ok.mono h.scan (fun _ v z => Ok_rt (Or.inr ⟨_, rfl, z.1, z.2⟩)))
/-- lines read so far: ln of them, the code of each stands -/
def Ls (v : GS) (ln p : Nat) : Prop := Im v 30 (nI ln) ∧ ln ≤ 20 ∧ v.2.1 27 = true ∧ v.2.1 28 = true ∧ Am v 34 ln (nI p) ∧ ∀ l, l < ln → v.2.2 35 l = true ∧ ∃ a b, b ≤ p ∧ Am v 34 l (nI a) ∧ Am v 34 (l + 1) (nI b) ∧ Ex v a b
theorem Ls.eg {u v : GS} {ln p : Nat} (h : Ls u ln p) (hE : EG u v p) : Ls v ln p := by
  obtain ⟨h1, h2, h3, h4, h5, h6⟩ := h
  have i27 := hE.1 27 (by decide) (by decide)
  have i28 := hE.1 28 (by decide) (by decide)
  have i30 := hE.1 30 (by decide) (by decide)
  have e34 := hE.2.1 34 (by decide)
  have e35 := hE.2.1 35 (by decide)
  have k34 : ∀ j x, Am u 34 j x → Am v 34 j x := fun j x z => ⟨by rw [e34.2]; exact z.1, by rw [e34.1]; exact z.2⟩
  refine ⟨⟨i30.2.trans h1.1, i30.1.trans h1.2⟩, h2, i27.2.trans h3, i28.2.trans h4, k34 _ _ h5, fun l hl => ?_⟩
  obtain ⟨m35, a, b, hb, g1, g2, g3⟩ := h6 l hl
  exact ⟨by rw [e35.2]; exact m35, a, b, hb, k34 _ _ g1, k34 _ _ g2, g3.eg hE hb⟩
theorem Ls.lw {v : GS} {ln p : Nat} (h : Ls v ln p) (hp : p ≤ 300) : Lw v := by
  obtain ⟨h1, h2, h3, h4, h5, h6⟩ := h
  refine ⟨h3, h4, ln, h2, h1.2, fun l hl => ?_⟩
  obtain ⟨m35, a, b, hb, g⟩ := h6 l hl
  exact ⟨m35, a, b, by omega, g⟩
/-- a write to linePoints -/
theorem PI.w35 {w u : GS} {N g p q : Nat} (h : PI w u N g p q) (j : Nat) (x : Int32) : PI w (swd 35 (nI j) x u) N g p q := by
  obtain ⟨⟨f1, f2⟩, ⟨a, b, hT⟩, h2, h3, h4, h5, h6, h7, h8⟩ := h
  refine ⟨⟨f1, fun k hk => ?_⟩, ⟨a, b, hT.fr (fun k _ _ => ⟨rfl, rfl⟩) (sw_o (by decide)).2⟩, h2, h3, ?_, h5, h6, h7, h8⟩
  · have h9 := sw_o (w := u) (k := 35) (i := nI j) (v := x) (k2 := k) (by omega)
    rw [h9.1, h9.2]
    exact f2 k hk
  · intro s hs
    obtain ⟨z, a1, a2, a3⟩ := h4 s hs
    exact ⟨z, a1, a2.o (by decide), fun k hk => sw_mm (a3 k hk)⟩
theorem Ls.w35 {u : GS} {ln p : Nat} (h : Ls u ln p) (j : Nat) (x : Int32) : Ls (swd 35 (nI j) x u) ln p := by
  obtain ⟨h1, h2, h3, h4, h5, h6⟩ := h
  refine ⟨h1, h2, h3, h4, h5.o (by decide), fun l hl => ?_⟩
  obtain ⟨m35, a, b, hb, g1, g2, g0, g3⟩ := h6 l hl
  refine ⟨sw_mm m35, a, b, hb, g1.o (by decide), g2.o (by decide), g0, fun hh => ?_⟩
  obtain ⟨gg, k1, k2, k3⟩ := g3 hh
  refine ⟨gg, k1, k2, fun k l1 l2 => ?_⟩
  obtain ⟨op, pf, o1, o2, o3⟩ := k3 k l1 l2
  exact ⟨op, pf, o1.o (by decide), o2.o (by decide), o3⟩

