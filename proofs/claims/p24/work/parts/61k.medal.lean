/-! ===== medal ===== -/
theorem cb_full {P : Nat → Bool} : ∀ k, cb P k = k → ∀ i, i < k → P i = true := by
  intro k
  induction k with
  | zero => intro _ i hi; omega
  | succ k ih =>
    intro h i hi
    have hle := cb_le (P := P) k
    by_cases hp : P k = true
    · rw [cb_t hp] at h
      by_cases he : i = k
      · rw [he]; exact hp
      · exact ih (by omega) i (by omega)
    · rw [cb_f hp] at h
      omega
def Ad (w : GS) (c n : Nat) : Prop := ∀ i, i < n → w.2.2 18 (40 * c + i) = true ∧ w.2.2 20 (40 * c + i) = true
theorem ok_won {w : GS} {c n : Nat} (hD : Dr w c n) (hA : Ad w c n) (x : Int32) : Rd (f_won (nI c) x) w (fun _ => True) := by
  have hn := hD.n37
  have hc := hD.c4
  have hlp : ∀ (t i m : Nat) (v3 : Int32), i + t = n → t < m → Rd (lp_won_5 m (nI c) x v3 (nI i) (fun v1 v2 v3 v4 => prt v3)) w (fun _ => True) := by
    intro t
    induction t with
    | zero =>
      intro i m v3 h1 h2
      cases m with
      | zero => omega
      | succ m =>
        have : i = n := by omega
        subst this
        unfold lp_won_5
        refine Rd_clR (ok_fights w c i hD) (fun r hr => ?_)
        subst hr
        exact Rd_ite (fun _ => Rd_rt trivial) (fun z => absurd (Int32.le_refl _) z)
    | succ t ih =>
      intro i m v3 h1 h2
      cases m with
      | zero => omega
      | succ m =>
        unfold lp_won_5
        refine Rd_clR (ok_fights w c n hD) (fun r hr => ?_)
        subst hr
        refine Rd_ite (fun z => absurd z (nI_ge (by omega) (by omega))) (fun _ => Rd_rdN (ix40 c i) (by omega) (by decide) (Am.val (hA i (by omega)).1) (Rd_ite (fun _ => Rd_li (Rd_li ?_)) (fun _ => Rd_li (Rd_li ?_))))
        · rw [nI_1]; exact ih (i + 1) m _ (by omega) (by omega)
        · rw [nI_1]; exact ih (i + 1) m _ (by omega) (by omega)
  exact hlp n 0 fuel 0 (by omega) (by unfold fuel; omega)
theorem ok_sum {w : GS} {c n : Nat} (hD : Dr w c n) (hA : Ad w c n) (x : Int32) : Rd (f_sum (nI c) x) w (fun _ => True) := by
  have hn := hD.n37
  have hc := hD.c4
  have hlp : ∀ (t i m : Nat) (v3 : Int32), i + t = n → t < m → Rd (lp_sum_5 m (nI c) x v3 (nI i) (fun v1 v2 v3 v4 => prt v3)) w (fun _ => True) := by
    intro t
    induction t with
    | zero =>
      intro i m v3 h1 h2
      cases m with
      | zero => omega
      | succ m =>
        have : i = n := by omega
        subst this
        unfold lp_sum_5
        refine Rd_clR (ok_fights w c i hD) (fun r hr => ?_)
        subst hr
        exact Rd_ite (fun _ => Rd_rt trivial) (fun z => absurd (Int32.le_refl _) z)
    | succ t ih =>
      intro i m v3 h1 h2
      cases m with
      | zero => omega
      | succ m =>
        unfold lp_sum_5
        refine Rd_clR (ok_fights w c n hD) (fun r hr => ?_)
        subst hr
        refine Rd_ite (fun z => absurd z (nI_ge (by omega) (by omega))) (fun _ => Rd_rdN (ix40 c i) (by omega) (by decide) (Am.val (hA i (by omega)).1) (Rd_ite (fun _ => ?_) (fun _ => Rd_li (Rd_li ?_))))
        · refine Rd_rdN (ix40 c i) (by omega) (by decide) (Am.val (hA i (by omega)).2) (Rd_li (Rd_li ?_))
          rw [nI_1]; exact ih (i + 1) m _ (by omega) (by omega)
        · rw [nI_1]; exact ih (i + 1) m _ (by omega) (by omega)
  exact hlp n 0 fuel 0 (by omega) (by unfold fuel; omega)
theorem ok_alike {w : GS} {c n s : Nat} (hD : Dr w c n) (hA : Ad w c n) (hs : s ≤ 5) (h13 : Am w 13 c (nI s)) (h14 : ∀ p, p < s → w.2.2 14 (32 * c + p) = true) (x : Int32) : Rd (f_alike (nI c) x) w (fun _ => True) := by
  have hc := hD.c4
  have hlp : ∀ (t p m : Nat) (v3 : Int32), p + t = s → t < m → Rd (lp_alike_5 m (nI c) x v3 (nI p) (fun v1 v2 v3 v4 => prt v3)) w (fun _ => True) := by
    intro t
    induction t with
    | zero =>
      intro p m v3 h1 h2
      cases m with
      | zero => omega
      | succ m =>
        have : p = s := by omega
        subst this
        unfold lp_alike_5
        exact Rd_rdN rfl hc (by decide) h13 (Rd_ite (fun _ => Rd_rt trivial) (fun z => absurd (Int32.le_refl _) z))
    | succ t ih =>
      intro p m v3 h1 h2
      cases m with
      | zero => omega
      | succ m =>
        have hn : ∀ v3, Rd (pli (nI p + 1) (fun x_35 => lp_alike_5 m (nI c) x v3 x_35 (fun v1 v2 v3 v4 => prt v3))) w (fun _ => True) := fun v3 => by
          refine Rd_li ?_
          rw [nI_1]; exact ih (p + 1) m _ (by omega) (by omega)
        unfold lp_alike_5
        refine Rd_rdN rfl hc (by decide) h13 (Rd_ite (fun z => absurd z (nI_ge (by omega) (by omega))) (fun _ => Rd_rdN (ix32 c p) (by omega) (by decide) (Am.val (h14 p (by omega))) ?_))
        refine Rd_clR (ok_won hD hA _) (fun _ _ => Rd_clR (ok_won hD hA _) (fun _ _ => Rd_ite (fun _ => ?_) (fun _ => Rd_li (hn _))))
        refine Rd_rdN (ix32 c p) (by omega) (by decide) (Am.val (h14 p (by omega))) (Rd_clR (ok_sum hD hA _) (fun _ _ => Rd_clR (ok_sum hD hA _) (fun _ _ => Rd_ite (fun _ => Rd_li (hn _)) (fun _ => Rd_li (hn _)))))
  exact hlp s 0 fuel 0 (by omega) (by unfold fuel; omega)
theorem ok_isAhead {w : GS} (hI : Inv w) {c n s f g : Nat} (hD : Dr w c n) (hA : Ad w c n) (hs : s ≤ 5) (h13 : Am w 13 c (nI s)) (h14 : ∀ p, p < s → w.2.2 14 (32 * c + p) = true) (hf : f < nF w) (hg : g < nF w) : Rd (f_isAhead (nI c) (nI f) (nI g)) w (fun _ => True) := by
  have h96 := hI.1.1.2.2
  have hc := hD.c4
  have hn := hD.n37
  obtain ⟨-, -, f7, -⟩ := hI.1.2.2.1 f hf
  obtain ⟨-, -, g7, -⟩ := hI.1.2.2.1 g hg
  have htail : Rd (prd 7 96 (nI f) (fun x_70 => prd 7 96 (nI g) (fun x_73 => (if x_70 = x_73 then (if nI g ≤ nI f then prt (0 : Int32) else prt 1) else prd 7 96 (nI f) (fun x_78 => prd 7 96 (nI g) (fun x_81 => (if x_81 ≤ x_78 then prt 0 else prt 1))))))) w (fun _ => True) := by
    refine Rd_rdN rfl (by omega) (by decide) (Am.val f7) (Rd_rdN rfl (by omega) (by decide) (Am.val g7) (Rd_ite (fun _ => Rd_ite (fun _ => Rd_rt trivial) (fun _ => Rd_rt trivial)) (fun _ => ?_)))
    exact Rd_rdN rfl (by omega) (by decide) (Am.val f7) (Rd_rdN rfl (by omega) (by decide) (Am.val g7) (Rd_ite (fun _ => Rd_rt trivial) (fun _ => Rd_rt trivial)))
  have hlp : ∀ (t i m : Nat), i + t = n → t < m → Rd (lp_isAhead_85 m (nI c) (nI f) (nI g) (nI i) (fun v1 v2 v3 v4 => prd 7 96 v2 (fun x_70 => prd 7 96 v3 (fun x_73 => (if x_70 = x_73 then (if v3 ≤ v2 then prt 0 else prt 1) else prd 7 96 v2 (fun x_78 => prd 7 96 v3 (fun x_81 => (if x_81 ≤ x_78 then prt 0 else prt 1)))))))) w (fun _ => True) := by
    intro t
    induction t with
    | zero =>
      intro i m h1 h2
      cases m with
      | zero => omega
      | succ m =>
        have : i = n := by omega
        subst this
        unfold lp_isAhead_85
        refine Rd_clR (ok_fights w c i hD) (fun r hr => ?_)
        subst hr
        exact Rd_ite (fun _ => htail) (fun z => absurd (Int32.le_refl _) z)
    | succ t ih =>
      intro i m h1 h2
      cases m with
      | zero => omega
      | succ m =>
        have hnx := ih (i + 1) m (by omega) (by omega)
        have hwn : Rd (prd 18 160 ((40 * nI c) + nI i) (fun x_56 => (if x_56 = nI f then prt (1 : Int32) else prt 0))) w (fun _ => True) := Rd_rdN (ix40 c i) (by omega) (by decide) (Am.val (hA i (by omega)).1) (Rd_ite (fun _ => Rd_rt trivial) (fun _ => Rd_rt trivial))
        rw [← nI_1] at hnx
        unfold lp_isAhead_85
        refine Rd_clR (ok_fights w c n hD) (fun r hr => ?_)
        subst hr
        refine Rd_ite (fun z => absurd z (nI_ge (by omega) (by omega))) (fun _ => ?_)
        refine Rd_clR (ok_side w c n i 0 0 hD (by omega) (by decide)) (fun _ _ => Rd_clR (ok_side w c n i 1 0 hD (by omega) (by decide)) (fun _ _ => ?_))
        refine Rd_ite (fun _ => Rd_ite (fun _ => hwn) (fun _ => Rd_ite (fun _ => Rd_ite (fun _ => hwn) (fun _ => Rd_li hnx)) (fun _ => Rd_li hnx))) (fun _ => Rd_ite (fun _ => Rd_ite (fun _ => hwn) (fun _ => Rd_li hnx)) (fun _ => Rd_li hnx))
  unfold f_isAhead
  refine Rd_clR (ok_won hD hA _) (fun _ _ => Rd_clR (ok_won hD hA _) (fun _ _ => Rd_ite (fun _ => ?_) (fun _ => ?_)))
  · refine Rd_clR (ok_sum hD hA _) (fun _ _ => Rd_clR (ok_sum hD hA _) (fun _ _ => Rd_ite (fun _ => ?_) (fun _ => ?_)))
    · refine Rd_clR (ok_alike hD hA hs h13 h14 _) (fun _ _ => Rd_ite (fun _ => ?_) (fun _ => htail))
      exact hlp n 0 fuel (by omega) (by unfold fuel; omega)
    · exact Rd_clR (ok_sum hD hA _) (fun _ _ => Rd_clR (ok_sum hD hA _) (fun _ _ => Rd_ite (fun _ => Rd_rt trivial) (fun _ => Rd_rt trivial)))
  · exact Rd_clR (ok_won hD hA _) (fun _ _ => Rd_clR (ok_won hD hA _) (fun _ _ => Rd_ite (fun _ => Rd_rt trivial) (fun _ => Rd_rt trivial)))
theorem ok_ordered {w : GS} (hI : Inv w) {c n s : Nat} (hD : Dr w c n) (hA : Ad w c n) (hs : s ≤ 5) (h13 : Am w 13 c (nI s)) (hw : ∀ p, p < s → ∃ f, Am w 14 (32 * c + p) (nI f) ∧ f < nF w) (k : Int32) : Rd (f_ordered (nI c) k) w (fun _ => True) := by
  have hc := hD.c4
  have h14 : ∀ p, p < s → w.2.2 14 (32 * c + p) = true := fun p hp => by
    obtain ⟨f, f1, -⟩ := hw p hp
    exact f1.1
  have hin : ∀ (p f : Nat), f < nF w → ∀ (K : Int32 → Int32 → Int32 → Int32 → Int32 → Int32 → PG Int32), (∀ v5 v6, Rd (K (nI c) k (nI p) (nI f) v5 v6) w (fun _ => True)) → ∀ (t q m : Nat) (v5 : Int32), q + t = s → t < m → Rd (lp_ordered_31 m (nI c) k (nI p) (nI f) v5 (nI q) K) w (fun _ => True) := by
    intro p f hf K hK t
    induction t with
    | zero =>
      intro q m v5 h1 h2
      cases m with
      | zero => omega
      | succ m =>
        have : q = s := by omega
        subst this
        unfold lp_ordered_31
        exact Rd_rdN rfl hc (by decide) h13 (Rd_ite (fun _ => hK _ _) (fun z => absurd (Int32.le_refl _) z))
    | succ t ih =>
      intro q m v5 h1 h2
      cases m with
      | zero => omega
      | succ m =>
        have hn : ∀ v5, Rd (pli (nI q + 1) (fun x_35 => lp_ordered_31 m (nI c) k (nI p) (nI f) v5 x_35 K)) w (fun _ => True) := fun v5 => by
          refine Rd_li ?_
          rw [nI_1]; exact ih (q + 1) m _ (by omega) (by omega)
        obtain ⟨g, g1, g2⟩ := hw q (by omega)
        unfold lp_ordered_31
        refine Rd_rdN rfl hc (by decide) h13 (Rd_ite (fun _ => hK _ _) (fun _ => Rd_ite (fun _ => Rd_li (hn _)) (fun _ => ?_)))
        exact Rd_rdN (ix32 c q) (by omega) (by decide) g1 (Rd_clR (ok_isAhead hI hD hA hs h13 h14 g2 hf) (fun _ _ => Rd_ite (fun _ => Rd_li (hn _)) (fun _ => Rd_li (hn _))))
  have hlp : ∀ (t p m : Nat), p + t = s → t < m → Rd (lp_ordered_2 m (nI c) k (nI p) (fun v1 v2 v3 => prt (-1))) w (fun _ => True) := by
    intro t
    induction t with
    | zero =>
      intro p m h1 h2
      cases m with
      | zero => omega
      | succ m =>
        have : p = s := by omega
        subst this
        unfold lp_ordered_2
        exact Rd_rdN rfl hc (by decide) h13 (Rd_ite (fun _ => Rd_rt trivial) (fun z => absurd (Int32.le_refl _) z))
    | succ t ih =>
      intro p m h1 h2
      cases m with
      | zero => omega
      | succ m =>
        obtain ⟨f, f1, f2⟩ := hw p (by omega)
        unfold lp_ordered_2
        refine Rd_rdN rfl hc (by decide) h13 (Rd_ite (fun _ => Rd_rt trivial) (fun _ => Rd_rdN (ix32 c p) (by omega) (by decide) f1 ?_))
        refine hin p f f2 _ (fun v5 v6 => Rd_ite (fun _ => Rd_rt trivial) (fun _ => Rd_li ?_)) s 0 fuel 0 (by omega) (by unfold fuel; omega)
        rw [nI_1]
        exact ih (p + 1) m (by omega) (by omega)
  exact hlp s 0 fuel (by omega) (by unfold fuel; omega)
