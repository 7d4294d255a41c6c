/-! ===== asked, goesOver, passes; writes to a mat's cells ===== -/
theorem iL.fr {w v : GS} (h : iL w) (hi : v.1.1 = w.1.1) (hm : v.2.1 = w.2.1) (ha : ∀ k, 34 ≤ k → k ≤ 37 → v.1.2 k = w.1.2 k ∧ v.2.2 k = w.2.2 k) : iL v := by
  unfold iL Lw Ex StpG Am at h ⊢
  rw [hi, hm, (ha 34 (by decide) (by decide)).1, (ha 34 (by decide) (by decide)).2, (ha 35 (by decide) (by decide)).2, (ha 36 (by decide) (by decide)).1, (ha 36 (by decide) (by decide)).2, (ha 37 (by decide) (by decide)).1, (ha 37 (by decide) (by decide)).2]
  exact h
theorem ok_endsI {w : GS} (h : Inv w) (m sd : Nat) (l q : Int32) (hm : m < 4) (hsd : sd < 2) (hon : ¬ w.1.2 22 m = -1) : Ok (f_ends (nI m) (nI sd) l q) w (fun _ w1 => Inv w1) := by
  obtain ⟨h1, h2, h3⟩ := h
  refine Ok.mono (ok_ends h1 m sd l q hm hsd hon) (fun _ w1 z => ?_)
  obtain ⟨k1, k2, k3, k4, k5⟩ := z
  refine ⟨k1, h2.fr k2 k3 (fun k z1 z2 => k4 k (by omega) (by omega)), fun m2 hm2 hz => ?_⟩
  rw [k2]
  rcases k5 m2 with z | z
  · exact absurd z hz
  · rw [z] at hz
    exact h3 m2 hm2 hz
theorem inv_s38 {w : GS} (h : Inv w) (f : Nat → Int32) (mk : Nat → Bool) : Inv (s38 w f mk) := by
  obtain ⟨⟨jF, jI, jG, jC, jR, jM, jO⟩, jL, jE⟩ := h
  exact ⟨⟨jF, jI, jG, jC, jR, jM, jO⟩, jL, jE⟩
theorem Mt.mk {w : GS} {m : Nat} (h : Mt w m) : Mk w m := ⟨h.2.1, h.2.2.1, h.2.2.2.2⟩
theorem ok_asked {w : GS} (h : Inv w) (m : Nat) (over : Int32) (hm : m < 4) (hon : ¬ w.1.2 22 m = -1) : Ok (f_asked (nI m) over) w (fun r w1 => (r = -1 ∧ ∃ f mk, w1 = s38 w f mk) ∨ (¬ r = -1 ∧ Inv w1)) := by
  have hMt := (h.1.2.2.2.2.2.1 m hm).2 hon
  have hln : ¬ w.1.1 30 = 0 := h.2.2 m hm hon
  obtain ⟨m27, m28, ln, hln20, e30, hL⟩ : Lw w := h.2.1.resolve_left hln
  have m30 : w.2.1 30 = true := h.1.2.1.2.2.2.1
  have hin : ∀ (l : Nat), l < ln → ∀ (K : Int32 → Int32 → Int32 → Int32 → PG Int32) (Q : Int32 → GS → Prop), (∀ f mk, Ok (K (nI m) over (nI l) (nI 2)) (s38 w f mk) Q) → (∀ r w1, ¬ r = -1 ∧ Inv w1 → Q r w1) → ∀ (t sd n : Nat) (f : Nat → Int32) (mk : Nat → Bool), sd + t = 2 → t < n → Ok (lp_asked_13 n (nI m) over (nI l) (nI sd) K) (s38 w f mk) Q := by
    intro l hl K Q hK hQ t
    induction t with
    | zero =>
      intro sd n f mk h1 h2
      cases n with
      | zero => omega
      | succ n =>
        have : sd = 2 := by omega
        subst this
        unfold lp_asked_13
        exact Ok_ite (fun _ => hK f mk) (fun z => absurd (Int32.le_refl _) z)
    | succ t ih =>
      intro sd n f mk h1 h2
      cases n with
      | zero => omega
      | succ n =>
        unfold lp_asked_13
        refine Ok_ite (fun z => absurd z (nI_ge (b := 2) (by omega) (by decide))) (fun _ => ?_)
        refine Ok_cl (Ok.mono (ok_holds (s38 w f mk) l m sd ln over hl hln20 hm (by omega) hMt.mk (hL l hl).2) (fun r w1 hw => ?_))
        obtain ⟨f2, mk2, rfl⟩ := hw
        have hid : s38 (s38 w f mk) f2 mk2 = s38 w f2 mk2 := by
          unfold s38
          refine Prod.ext (Prod.ext rfl ?_) (Prod.ext rfl ?_)
          · funext a
            show (if a = 38 then f2 else if a = 38 then f else w.1.2 a) = if a = 38 then f2 else w.1.2 a
            by_cases hz : a = 38
            · rw [if_pos hz, if_pos hz]
            · rw [if_neg hz, if_neg hz, if_neg hz]
          · funext a j
            show (if a = 38 then mk2 j else if a = 38 then mk j else w.2.2 a j) = if a = 38 then mk2 j else w.2.2 a j
            by_cases hz : a = 38
            · rw [if_pos hz, if_pos hz]
            · rw [if_neg hz, if_neg hz, if_neg hz]
        rw [hid]
        refine Ok_ite (fun _ => Ok_li ?_) (fun _ => ?_)
        · rw [nI_1]
          exact ih (sd + 1) n f2 mk2 (by omega) (by omega)
        · refine Ok_rdN rfl (by omega) (by decide) (Am.val (w := s38 w f2 mk2) (k := 35) (j := l) (hL l hl).1) ?_
          refine Ok_cl (Ok.mono (ok_endsI (inv_s38 h f2 mk2) m sd _ _ hm (by omega) hon) (fun r2 w2 hw2 => Ok_rt (hQ _ _ ⟨nI_ne_1 (by omega), hw2⟩)))
  have hout : ∀ (t l n : Nat) (f : Nat → Int32) (mk : Nat → Bool), l + t = ln → t < n → Ok (lp_asked_2 n (nI m) over (nI l) (fun v1 v2 v3 => prt (-1))) (s38 w f mk) (fun r w1 => (r = -1 ∧ ∃ f mk, w1 = s38 w f mk) ∨ (¬ r = -1 ∧ Inv w1)) := by
    intro t
    induction t with
    | zero =>
      intro l n f mk h1 h2
      cases n with
      | zero => omega
      | succ n =>
        have : l = ln := by omega
        subst this
        unfold lp_asked_2
        exact Ok_rfN (w := s38 w f mk) ⟨m30, e30⟩ (Ok_ite (fun _ => Ok_rt (Or.inl ⟨rfl, f, mk, rfl⟩)) (fun z => absurd (Int32.le_refl _) z))
    | succ t ih =>
      intro l n f mk h1 h2
      cases n with
      | zero => omega
      | succ n =>
        unfold lp_asked_2
        refine Ok_rfN (w := s38 w f mk) ⟨m30, e30⟩ (Ok_ite (fun z => absurd z (nI_ge (by omega) (by omega))) (fun _ => ?_))
        refine hin l (by omega) _ _ (fun f2 mk2 => Ok_li ?_) (fun r w1 z => Or.inr z) 2 0 fuel f mk (by omega) (by unfold fuel; omega)
        rw [nI_1]
        exact ih (l + 1) n f2 mk2 (by omega) (by omega)
  unfold f_asked
  have h9 := hout ln 0 fuel (w.1.2 38) (w.2.2 38) (by omega) (by unfold fuel; omega)
  rw [s38_id] at h9
  exact h9
theorem inv_w23 {w : GS} (h : Inv w) (j : Nat) (v : Int32) : Inv (swd 23 (nI j) v w) := by
  obtain ⟨⟨jF, jI, jG, jC, jR, jM, jO⟩, jL, jE⟩ := h
  refine ⟨⟨jF, jI, jG, jC, jR, fun m hm => ⟨(jM m hm).1, fun z => ?_⟩, jO⟩, jL, jE⟩
  obtain ⟨k1, k2, k3, k4, k5⟩ := (jM m hm).2 z
  exact ⟨k1, sw_mm k2, k3, k4, k5⟩
theorem inv_w24 {w : GS} (h : Inv w) (j : Nat) (v : Int32) : Inv (swd 24 (nI j) v w) := by
  obtain ⟨⟨jF, jI, jG, jC, jR, jM, jO⟩, jL, jE⟩ := h
  refine ⟨⟨jF, jI, jG, jC, jR, fun m hm => ⟨(jM m hm).1, fun z => ?_⟩, jO⟩, jL, jE⟩
  obtain ⟨k1, k2, k3, k4, k5⟩ := (jM m hm).2 z
  exact ⟨k1, k2, k3, k4, fun k hk => sw_mm (k5 k hk)⟩
theorem sw_01 {w : GS} {k j : Nat} {v : Int32} (hj : j < 2 ^ 31) (hv : v = 0 ∨ v = 1) (m : Nat) (h : Am w k m 0 ∨ Am w k m 1) : Am (swd k (nI j) v w) k m 0 ∨ Am (swd k (nI j) v w) k m 1 := by
  by_cases hz : m = j
  · subst hz
    rcases hv with rfl | rfl
    · exact Or.inl (sw_A hj)
    · exact Or.inr (sw_A hj)
  · exact h.imp (fun z => sw_An hj hz z) (fun z => sw_An hj hz z)
theorem inv_w25 {w : GS} (h : Inv w) (j : Nat) (v : Int32) (hj : j < 2 ^ 31) (hv : v = 0 ∨ v = 1) : Inv (swd 25 (nI j) v w) := by
  obtain ⟨⟨jF, jI, jG, jC, jR, jM, jO⟩, jL, jE⟩ := h
  refine ⟨⟨jF, jI, jG, jC, jR, fun m hm => ⟨(jM m hm).1, fun z => ?_⟩, jO⟩, jL, jE⟩
  obtain ⟨k1, k2, k3, k4, k5⟩ := (jM m hm).2 z
  exact ⟨k1, k2, sw_01 hj hv m k3, k4, k5⟩
theorem inv_w26 {w : GS} (h : Inv w) (j : Nat) (v : Int32) (hj : j < 2 ^ 31) (hv : v = 0 ∨ v = 1) : Inv (swd 26 (nI j) v w) := by
  obtain ⟨⟨jF, jI, jG, jC, jR, jM, jO⟩, jL, jE⟩ := h
  refine ⟨⟨jF, jI, jG, jC, jR, fun m hm => ⟨(jM m hm).1, fun z => ?_⟩, jO⟩, jL, jE⟩
  obtain ⟨k1, k2, k3, k4, k5⟩ := (jM m hm).2 z
  exact ⟨k1, k2, k3, sw_01 hj hv m k4, k5⟩
theorem nar_b1 : vp_nar .boolean (1 : Int32) = 1 := by decide
theorem nar_b0 : vp_nar .boolean (0 : Int32) = 0 := by decide
theorem ok_goesOver {w : GS} (h : Inv w) (m : Nat) (hm : m < 4) (m25 : w.2.2 25 m = true) (m28 : w.2.1 28 = true) : Ok (f_goesOver (nI m)) w (fun _ w1 => Inv w1) := by
  unfold f_goesOver
  rw [nar_b1]
  refine Ok_rdN rfl hm (by decide) (Am.val m25) (Ok_ite (fun _ => Ok_rf m28 (Ok_ite (fun _ => ?_) (fun _ => ?_))) (fun _ => ?_))
  · exact Ok_wdN rfl hm (by decide) (Ok_rt (inv_w26 h m 1 (by omega) (Or.inr rfl)))
  · exact Ok_wdN rfl hm (by decide) (Ok_rf (w := swd 25 (nI m) 1 w) m28 (Ok_wdN rfl hm (by decide) (Ok_rt (inv_w23 (inv_w25 h m 1 (by omega) (Or.inr rfl)) m _))))
  · exact Ok_wdN rfl hm (by decide) (Ok_rt (inv_w26 h m 1 (by omega) (Or.inr rfl)))
theorem ok_passes1 {w : GS} (h : Inv w) (m : Nat) (over : Int32) (hm : m < 4) (hon : ¬ w.1.2 22 m = -1) : Ok (pcl (f_asked (nI m) over) (fun r => (if r = (-1) then prd 23 4 (nI m) (fun x => (if x ≤ 0 then pcl (f_goesOver (nI m)) (fun _ => prt (-1)) else prt r)) else prt r))) w (fun _ w1 => Inv w1) := by
  have hMt := (h.1.2.2.2.2.2.1 m hm).2 hon
  have m23 := hMt.2.1
  have m25 : w.2.2 25 m = true := hMt.2.2.1.elim (fun z => z.1) (fun z => z.1)
  have m28 : w.2.1 28 = true := (h.2.1.resolve_left (h.2.2 m hm hon)).2.1
  refine Ok_cl (Ok.mono (ok_asked h m over hm hon) (fun r w1 hr => ?_))
  rcases hr with ⟨rfl, f, mk, rfl⟩ | ⟨hr, hI⟩
  · refine Ok_ite (fun _ => ?_) (fun z => absurd rfl z)
    refine Ok_rdN rfl hm (by decide) (Am.val (w := s38 w f mk) (k := 23) (j := m) m23) (Ok_ite (fun _ => ?_) (fun _ => Ok_rt (inv_s38 h f mk)))
    exact Ok_cl (Ok.mono (ok_goesOver (inv_s38 h f mk) m hm m25 m28) (fun r w2 hw => Ok_rt hw))
  · exact Ok_ite (fun z => absurd z hr) (fun _ => Ok_rt hI)
theorem ok_passes {w : GS} (h : Inv w) (m : Nat) (s : Int32) (hm : m < 4) (hon : ¬ w.1.2 22 m = -1) : Ok (f_passes (nI m) s) w (fun _ w1 => Inv w1) := by
  have hMt := (h.1.2.2.2.2.2.1 m hm).2 hon
  have m23 := hMt.2.1
  have m25 : w.2.2 25 m = true := hMt.2.2.1.elim (fun z => z.1) (fun z => z.1)
  unfold f_passes
  refine Ok_rdN rfl hm (by decide) (Am.val m23) (Ok_wdN rfl hm (by decide) ?_)
  have h2 := inv_w23 h m (w.1.2 23 m - s)
  have n23 : (swd 23 (nI m) (w.1.2 23 m - s) w).2.2 23 m = true := sw_mm m23
  refine Ok_rdN rfl hm (by decide) (Am.val (w := swd 23 (nI m) (w.1.2 23 m - s) w) (k := 25) (j := m) m25) (Ok_ite (fun _ => ?_) (fun _ => ?_))
  · refine Ok_rdN rfl hm (by decide) (Am.val n23) (Ok_ite (fun _ => ?_) (fun _ => ?_))
    · exact ok_passes1 h2 m 1 hm hon
    · exact ok_passes1 h2 m 0 hm hon
  · exact ok_passes1 h2 m 1 hm hon
theorem ok_event {w : GS} (h : Inv w) (m sd s : Nat) (hm : m < 4) (hsd : sd < 2) (hs : s < 8) (hon : ¬ w.1.2 22 m = -1) : Ok (pli ((((2 * nI m) + nI sd) * 8) + nI s) (fun x_74 => prd 24 64 x_74 (fun x_76 => pwd 24 64 x_74 (if (x_76 + 1) < 99 then (x_76 + 1) else 99) (prd 25 4 (nI m) (fun x_82 => pcl (f_asked (nI m) x_82) (fun r_85 => prt r_85)))))) w (fun _ w1 => Inv w1) := by
  have hMt := (h.1.2.2.2.2.2.1 m hm).2 hon
  have m25 : w.2.2 25 m = true := hMt.2.2.1.elim (fun z => z.1) (fun z => z.1)
  refine Ok_li ?_
  rw [(ix16 hm hsd hs).1]
  refine Ok_rdN rfl (by omega) (by decide) (Am.val (hMt.2.2.2.2 (8 * sd + s) (by omega))) (Ok_wdN rfl (by omega) (by decide) ?_)
  have h2 := inv_w24 h (16 * m + (8 * sd + s)) (if (w.1.2 24 (16 * m + (8 * sd + s)) + 1) < 99 then (w.1.2 24 (16 * m + (8 * sd + s)) + 1) else 99)
  refine Ok_rdN rfl hm (by decide) (Am.val (w := swd 24 (nI (16 * m + (8 * sd + s))) (if (w.1.2 24 (16 * m + (8 * sd + s)) + 1) < 99 then (w.1.2 24 (16 * m + (8 * sd + s)) + 1) else 99) w) (k := 25) (j := m) m25) ?_
  refine Ok_cl (Ok.mono (ok_asked h2 m _ hm hon) (fun r w1 hr => Ok_rt ?_))
  rcases hr with ⟨rfl, f, mk, rfl⟩ | ⟨hr, hI⟩
  · exact inv_s38 h2 f mk
  · exact hI

