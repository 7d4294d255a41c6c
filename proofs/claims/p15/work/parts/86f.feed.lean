/-! ===== feed, with its answers ===== -/
theorem feed_okr (a b c d e : Int32) (u : MS) (tp : Nat) (ht : tp ≤ 3000) (h2 : u.1 2 = nI tp) : ∃ r v, x_X11_feed a b c d e u = some (r, v) ∧ Same [2] [4] u v ∧ ((tp + 20 ≤ 3000 ∧ r = nI (tp + 20) ∧ v.1 2 = nI (tp + 20)) ∨ (¬ tp + 20 ≤ 3000 ∧ r = -4 ∧ v.1 2 = nI tp)) := by
  have e20 : u.1 2 + 20 = nI (tp + 20) := by rw [h2]; exact nI_add tp 20
  unfold x_X11_feed
  by_cases h : tp + 20 ≤ 3000
  · obtain ⟨v1, f1, g1, s1⟩ := push_ok a u tp h2
    obtain ⟨v2, f2, g2, s2⟩ := push_ok b v1 _ g1
    obtain ⟨v3, f3, g3, s3⟩ := push_ok c v2 _ g2
    obtain ⟨v4, f4, g4, s4⟩ := push_ok d v3 _ g3
    obtain ⟨v5, f5, g5, s5⟩ := push_ok e v4 _ g4
    refine ⟨v5.1 2, v5, ?_, s1.trans (s2.trans (s3.trans (s4.trans s5))), Or.inl ⟨h, by rw [g5], by rw [g5]⟩⟩
    refine ncl_eq (a := u.1 2) (v := u) rfl ?_
    have hle : u.1 2 + 20 ≤ 3000 := by rw [e20]; exact nI_le (b := 3000) h (by decide)
    rw [if_pos hle]
    exact ncl_eq f1 (ncl_eq f2 (ncl_eq f3 (ncl_eq f4 (ncl_eq f5 rfl))))
  · refine ⟨-4, u, ?_, Same.rf u, Or.inr ⟨h, rfl, h2⟩⟩
    refine ncl_eq (a := u.1 2) (v := u) rfl ?_
    have hle : ¬ u.1 2 + 20 ≤ 3000 := by
      rw [e20]
      exact fun z => h ((nI_leI (a := tp + 20) (b := 3000) (by omega) (by decide)).mp z)
    rw [if_neg hle]
    rfl
theorem live_feedr {N tp : Nat} {w : GS} (h : Live N tp w) (a b c d e : Int32) : Ok (f_feed a b c d e) w (fun r v => (tp + 20 ≤ 3000 ∧ r = nI (tp + 20) ∧ Live (N + 20) (tp + 20) v) ∨ (¬ tp + 20 ≤ 3000 ∧ r = -4 ∧ Live (N + 20) tp v)) := by
  obtain ⟨n, E, lg, s, h⟩ := h
  have htp := h.2.2.2.2.1
  unfold f_feed
  refine Ok_uf' (fun x hx => ?_)
  have ex : x = nI tp := hx.symm.trans h.2.2.2.1
  subst ex
  have e20 : nI tp + 20 = nI (tp + 20) := nI_add tp 20
  rw [e20]
  refine Ok_ite (fun z => ?_) (fun z => Ok_rt (Or.inr ⟨?_, rfl, n, E, lg, s, ?_⟩))
  · have h20 : tp + 20 ≤ 3000 := (nI_leI (a := tp + 20) (b := 3000) (by omega) (by decide)).mp z
    refine Ok_cl (Ok.mono (ok_lay a (by omega) h) (fun _ v1 h1 => ?_))
    refine Ok_cl (Ok.mono (ok_lay b (by omega) h1) (fun _ v2 h2 => ?_))
    refine Ok_cl (Ok.mono (ok_lay c (by omega) h2) (fun _ v3 h3 => ?_))
    refine Ok_cl (Ok.mono (ok_lay d (by omega) h3) (fun _ v4 h4 => ?_))
    refine Ok_cl (Ok.mono (ok_lay e (by omega) h4) (fun _ v5 h5 => ?_))
    exact Ok_uf' (fun x hx => Ok_rt (Or.inl ⟨h20, hx.symm.trans h5.2.2.2.1, n, E, lg, s, h5⟩))
  · intro y
    exact z (nI_le y (by decide))
  · obtain ⟨h1, h2, h3, h4, h5, h6, h7⟩ := h
    exact ⟨h1, h2, h3, h4, h5, by omega, h7⟩

