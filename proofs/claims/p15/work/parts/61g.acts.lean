/-! ===== the acts of the reference, as they are called ===== -/
theorem does_1 (a1 a2 a3 : Int32) : f_does 1 a1 a2 a3 = pwd 0 4 a1 a2 (pwd 1 4 a1 a3 (prt 1)) := by
  unfold f_does
  rw [if_neg (by decide), if_pos rfl]
theorem does_2 (a1 a2 a3 : Int32) : f_does 2 a1 a2 a3 = pcl (f_comes a1 a2) (fun r_13 => prt r_13) := by
  unfold f_does
  rw [if_neg (by decide), if_neg (by decide), if_pos rfl]
theorem does_3 (a1 a2 a3 : Int32) : f_does 3 a1 a2 a3 = pwd 7 96 a1 a2 (prd 5 96 a1 (fun x_20 => prd 0 4 x_20 (fun x_23 => prd 5 96 a1 (fun x_26 => prd 1 4 x_26 (fun x_29 => pcl (f_in a2.toInt64 x_23.toInt64 x_29.toInt64) (fun r_32 => (if r_32 = 0 then pwd 8 96 a1 2 (prd 8 96 a1 (fun x_39 => (if x_39 = 1 then prt 1 else prt 0))) else pwd 8 96 a1 1 (prd 8 96 a1 (fun x_46 => (if x_46 = 1 then prt 1 else prt 0)))))))))) := by
  unfold f_does
  rw [if_neg (by decide), if_neg (by decide), if_neg (by decide), if_pos rfl]
theorem does_4 (a1 a2 a3 : Int32) : f_does 4 a1 a2 a3 = prd 9 96 a1 (fun x_51 => pwd 9 96 a1 a2 (prt x_51)) := by
  unfold f_does
  rw [if_neg (by decide), if_neg (by decide), if_neg (by decide), if_neg (by decide), if_pos rfl]
theorem does_5 (a1 a2 a3 : Int32) : f_does 5 a1 a2 a3 = pcl (f_draws a1) (fun r_58 => prt r_58) := by
  unfold f_does
  rw [if_neg (by decide), if_neg (by decide), if_neg (by decide), if_neg (by decide), if_neg (by decide), if_pos rfl]
theorem does_6 (a1 a2 a3 : Int32) : f_does 6 a1 a2 a3 = pwf 3 a1 (prt a1) := by
  unfold f_does
  rw [if_neg (by decide), if_neg (by decide), if_neg (by decide), if_neg (by decide), if_neg (by decide), if_neg (by decide), if_pos rfl]
theorem does_7 (a1 a2 a3 : Int32) : f_does 7 a1 a2 a3 = prf 4 (fun x_65 => pwf 4 a1 (prt x_65)) := by
  unfold f_does
  rw [if_neg (by decide), if_neg (by decide), if_neg (by decide), if_neg (by decide), if_neg (by decide), if_neg (by decide), if_neg (by decide), if_pos rfl]
theorem does_8 (a1 a2 a3 : Int32) : f_does 8 a1 a2 a3 = pcl (f_begins a1 a2 a3) (fun r_70 => prt r_70) := by
  unfold f_does
  rw [if_neg (by decide), if_neg (by decide), if_neg (by decide), if_neg (by decide), if_neg (by decide), if_neg (by decide), if_neg (by decide), if_neg (by decide), if_pos rfl]
theorem does_9 (a1 a2 a3 : Int32) : f_does 9 a1 a2 a3 = pli ((((2 * a1) + a2) * 8) + a3) (fun x_74 => prd 24 64 x_74 (fun x_76 => pwd 24 64 x_74 (if (x_76 + 1) < 99 then (x_76 + 1) else 99) (prd 25 4 a1 (fun x_82 => pcl (f_asked a1 x_82) (fun r_85 => prt r_85))))) := by
  unfold f_does
  rw [if_neg (by decide), if_neg (by decide), if_neg (by decide), if_neg (by decide), if_neg (by decide), if_neg (by decide), if_neg (by decide), if_neg (by decide), if_neg (by decide), if_pos rfl]
theorem does_10 (a1 a2 a3 : Int32) : f_does 10 a1 a2 a3 = pcl (f_passes a1 a2) (fun r_89 => prt r_89) := by
  unfold f_does
  rw [if_neg (by decide), if_neg (by decide), if_neg (by decide), if_neg (by decide), if_neg (by decide), if_neg (by decide), if_neg (by decide), if_neg (by decide), if_neg (by decide), if_neg (by decide), if_pos rfl]
theorem does_11 (a1 a2 a3 : Int32) : f_does 11 a1 a2 a3 = pcl (f_ends a1 a2 (-1) 0) (fun r_93 => prt r_93) := by
  unfold f_does
  rw [if_neg (by decide), if_neg (by decide), if_neg (by decide), if_neg (by decide), if_neg (by decide), if_neg (by decide), if_neg (by decide), if_neg (by decide), if_neg (by decide), if_neg (by decide), if_neg (by decide), if_pos rfl]
theorem does_12 (a1 a2 a3 : Int32) : f_does 12 a1 a2 a3 = pcl (f_struck a1 a2) (fun r_96 => prt r_96) := by
  unfold f_does
  rw [if_neg (by decide), if_neg (by decide), if_neg (by decide), if_neg (by decide), if_neg (by decide), if_neg (by decide), if_neg (by decide), if_neg (by decide), if_neg (by decide), if_neg (by decide), if_neg (by decide), if_neg (by decide)]
theorem nI_ofT {x : Int32} (h0 : 0 ≤ x.toInt) : x = nI x.toInt.toNat := by
  have h1 := x.toInt_lt
  refine Int32.toInt_inj.mp ?_
  rw [nI_toInt (by omega)]
  omega
theorem ok_inR (x : Int32) (hi : Int64) (h : Nat) (hh : hi.toInt = h) (w : GS) : Rd (f_in x.toInt64 0 hi) w (fun r => r = 0 ∨ (r = 1 ∧ ∃ k, k ≤ h ∧ x = nI k)) := by
  refine Rd.mono (ok_in _ _ _ w) (fun r hr => ?_)
  have h0 : (0 : Int64).toInt = 0 := by decide
  rw [Int32.toInt_toInt64, h0, hh] at hr
  rcases hr with ⟨hr, h1, h2⟩ | ⟨hr, -⟩
  · exact Or.inr ⟨hr, x.toInt.toNat, by omega, nI_ofT h1⟩
  · exact Or.inl hr
theorem ok_inB (a b c : Int64) (w : GS) : Rd (f_in a b c) w (fun r => r = 0 ∨ r = 1) := Rd.mono (ok_in a b c w) (fun _ h => h.elim (fun z => Or.inr z.1) (fun z => Or.inl z.1))
theorem gb01 {r : Int32} (h : r = 0 ∨ r = 1) : gb r = true := by rcases h with rfl | rfl <;> decide
theorem sub1_64 : ∀ n < 97, ((nI n).toInt64 - 1).toInt = (n : Int) - 1 := by decide +kernel
theorem ok_isFighter {w : GS} (hF : iF w) (x : Int32) : Rd (f_isFighter x) w (fun r => r = 0 ∨ (r = 1 ∧ ∃ f, f < nF w ∧ x = nI f)) := by
  unfold f_isFighter
  refine Rd_rfN ⟨hF.1, hF.2.1⟩ (Rd_clR (ok_in _ _ _ w) (fun r hr => ?_))
  have h0 : (0 : Int64).toInt = 0 := by decide
  rw [Int32.toInt_toInt64, h0, sub1_64 (nF w) (by have := hF.2.2; omega)] at hr
  rcases hr with ⟨hr, h1, h2⟩ | ⟨hr, -⟩
  · exact Rd_og (gb01 (Or.inr hr)) (Rd_rt (Or.inr ⟨hr, x.toInt.toNat, by omega, nI_ofT h1⟩))
  · exact Rd_og (gb01 (Or.inl hr)) (Rd_rt (Or.inl hr))
theorem Inv.m12 {w : GS} (h : Inv w) {c : Nat} (hc : c < 4) : w.2.2 12 c = true := by
  rcases (h.1.2.2.2.1 c hc).2.2.1 with z | ⟨n, -, -, ⟨s, -, -, -, z, -⟩ | ⟨L, -, -, -, z, -⟩⟩
  · exact z.1
  · exact z.1
  · exact z.1
theorem Inv.kd {w : GS} (h : Inv w) (h13 : ∀ c, c < 4 → w.2.2 13 c = true) : ∀ c, c < 4 → w.2.2 13 c = true ∧ ∃ n, Kd w c n := fun c hc => by
  refine ⟨h13 c hc, ?_⟩
  rcases (h.1.2.2.2.1 c hc).2.2.1 with z | ⟨n, z⟩
  · exact ⟨0, Or.inl ⟨z, rfl⟩⟩
  · exact ⟨n, Or.inr (h.1.dr z)⟩
theorem act_ret {N tp : Nat} {w : GS} {p : PG Int32} (h : Ok p w (fun _ v => Live N tp v)) : Ok (pcl p (fun r => prt r)) w (fun _ v => Live N tp v) := Ok_cl (Ok.mono h (fun _ _ z => Ok_rt z))
theorem Ag.nFq {u v : GS} (h : Ag u v) (hu : Inv u) : nF u = nF v := (h.nFe hu.1.1).symm
theorem live_now {N tp : Nat} {w : GS} (h : Live N tp w) (hN : N ≤ 24000) (a : Int32) : Ok (f_now a) w (fun _ v => Live N tp v) := by
  unfold f_now
  refine Ok_rf h.inv.1.2.1.1 (Ok_clR (ok_inB _ _ _ w) (fun r _ => Ok_ite (fun _ => Ok_rt h) (fun _ => act_ret (live_act h hN (by decide) (fun u hu _ => ?_)))))
  rw [does_6]
  exact Ok_wf (Ok_rt (inv_f3 hu a))
theorem live_rest {N tp : Nat} {w : GS} (h : Live N tp w) (hN : N ≤ 24000) (a : Int32) : Ok (f_rest a) w (fun _ v => Live N tp v) := by
  unfold f_rest
  refine Ok_clR (ok_inB _ _ _ w) (fun r _ => Ok_ite (fun _ => Ok_rt h) (fun _ => act_ret (live_act h hN (by decide) (fun u hu _ => ?_))))
  rw [does_7]
  exact Ok_rf hu.1.2.1.2.1 (Ok_wf (Ok_rt (inv_f4 hu a)))
theorem live_enter {N tp : Nat} {w : GS} (h : Live N tp w) (hN : N ≤ 24000) (a b : Int32) : Ok (f_enter a b) w (fun _ v => Live N tp v) := by
  have hI := h.inv
  unfold f_enter
  refine Ok_clR (ok_inR a 15 15 (by decide) w) (fun r hr => Ok_ite (fun _ => Ok_rt h) (fun hne => ?_))
  obtain ⟨-, k, hk, rfl⟩ := hr.resolve_left hne
  refine Ok_clR (ok_isClass b w) (fun r hr => Ok_ite (fun _ => Ok_rt h) (fun hne => ?_))
  rcases hr with ⟨-, c, hc, rfl⟩ | ⟨hr, -⟩
  · refine Ok_rdN rfl hc (by decide) (Am.val (hI.m12 hc)) (Ok_ite (fun _ => ?_) (fun _ => Ok_rt h))
    refine Ok_rfN ⟨hI.1.1.1, hI.1.1.2.1⟩ (Ok_ite (fun _ => Ok_rt h) (fun h96 => act_ret (live_act h hN (by decide) (fun u hu ha => ?_))))
    have hn : nF u < 96 := by
      rw [ha.nFq hu]
      rcases Nat.lt_or_ge (nF w) 96 with y | y
      · exact y
      · have : nF w = 96 := by have := hI.1.1.2.2; omega
        rw [this] at h96
        exact absurd rfl h96
    rw [does_2]
    exact Ok_cl (Ok.mono (ok_comes hu k c (by omega) hc hn) (fun _ _ z => Ok_rt z))
  · exact absurd hr hne
theorem live_weigh {N tp : Nat} {w : GS} (h : Live N tp w) (hN : N ≤ 24000) (a b : Int32) : Ok (f_weigh a b) w (fun _ v => Live N tp v) := by
  have hI := h.inv
  have h96 := hI.1.1.2.2
  unfold f_weigh
  refine Ok_clR (ok_isFighter hI.1.1 a) (fun r hr => Ok_ite (fun _ => Ok_rt h) (fun hne => ?_))
  obtain ⟨-, f, hf, rfl⟩ := hr.resolve_left hne
  refine Ok_clR (ok_inB _ _ _ w) (fun r _ => Ok_ite (fun _ => Ok_rt h) (fun _ => ?_))
  obtain ⟨⟨c, hc, h5⟩, -⟩ := hI.1.2.2.1 f hf
  refine Ok_rdN rfl (by omega) (by decide) h5 (Ok_rdN rfl hc (by decide) (Am.val (hI.m12 hc)) (Ok_ite (fun _ => act_ret (live_act h hN (by decide) (fun u hu ha => ?_))) (fun _ => Ok_rt h)))
  rw [does_3]
  exact ok_weighs hu f b (by rw [ha.nFq hu]; exact hf)
theorem live_seed {N tp : Nat} {w : GS} (h : Live N tp w) (hN : N ≤ 24000) (a b : Int32) : Ok (f_seed a b) w (fun _ v => Live N tp v) := by
  have hI := h.inv
  have h96 := hI.1.1.2.2
  unfold f_seed
  refine Ok_clR (ok_isFighter hI.1.1 a) (fun r hr => Ok_ite (fun _ => Ok_rt h) (fun hne => ?_))
  obtain ⟨-, f, hf, rfl⟩ := hr.resolve_left hne
  refine Ok_clR (ok_inR b 8 8 (by decide) w) (fun r hr => Ok_ite (fun _ => Ok_rt h) (fun hne => ?_))
  obtain ⟨-, q, hq, rfl⟩ := hr.resolve_left hne
  obtain ⟨⟨c, hc, h5⟩, -⟩ := hI.1.2.2.1 f hf
  have hK : ∀ v3 v4 : Int32, Ok (if v3 = 0 then pcl (f_act 4 (nI f) (nI q) 0) (fun r_44 => prt r_44) else prt (-3)) w (fun _ v => Live N tp v) := fun v3 v4 => by
    refine Ok_ite (fun _ => act_ret (live_act h hN (by decide) (fun u hu ha => ?_))) (fun _ => Ok_rt h)
    have hfu : f < nF u := by rw [ha.nFq hu]; exact hf
    obtain ⟨-, -, -, -, ⟨q2, -, h9⟩, -⟩ := hu.1.2.2.1 f hfu
    have h96u := hu.1.1.2.2
    rw [does_4]
    exact Ok_rdN rfl (by omega) (by decide) h9 (Ok_wdN rfl (by omega) (by decide) (Ok_rt (inv_w9 hu f q (by omega) hq)))
  have hlp : ∀ (t g m : Nat) (v3 : Int32), g + t = nF w → t < m → Ok (lp_seed_46 m (nI f) (nI q) v3 (nI g) (fun v1 v2 v3 v4 => (if v3 = 0 then pcl (f_act 4 v1 v2 0) (fun r_44 => prt r_44) else prt (-3)))) w (fun _ v => Live N tp v) := by
    intro t
    induction t with
    | zero =>
      intro g m v3 h1 h2
      cases m with
      | zero => omega
      | succ m =>
        have : g = nF w := by omega
        subst this
        unfold lp_seed_46
        exact Ok_rfN ⟨hI.1.1.1, hI.1.1.2.1⟩ (Ok_ite (fun _ => hK v3 (nI (nF w))) (fun z => absurd (Int32.le_refl _) z))
    | succ t ih =>
      intro g m v3 h1 h2
      cases m with
      | zero => omega
      | succ m =>
        have hn : ∀ v3, Ok (pli (nI g + 1) (fun x_24 => lp_seed_46 m (nI f) (nI q) v3 x_24 (fun v1 v2 v3 v4 => (if v3 = 0 then pcl (f_act 4 v1 v2 0) (fun r_44 => prt r_44) else prt (-3))))) w (fun _ v => Live N tp v) := fun v3 => by
          refine Ok_li ?_
          rw [nI_1]
          exact ih (g + 1) m v3 (by omega) (by omega)
        obtain ⟨⟨c2, hc2, g5⟩, -, -, -, ⟨q2, -, g9⟩, -⟩ := hI.1.2.2.1 g (by omega)
        unfold lp_seed_46
        refine Ok_rfN ⟨hI.1.1.1, hI.1.1.2.1⟩ (Ok_ite (fun _ => hK v3 (nI g)) (fun _ => Ok_ite (fun _ => hK v3 (nI g)) (fun _ => Ok_ite (fun _ => Ok_ite (fun _ => hn 0) (fun _ => ?_)) (fun _ => hn 1))))
        refine Ok_rdN rfl (by omega) (by decide) g5 (Ok_rdN rfl (by omega) (by decide) h5 (Ok_ite (fun _ => ?_) (fun _ => hn 0)))
        exact Ok_rdN rfl (by omega) (by decide) g9 (Ok_ite (fun _ => hn 1) (fun _ => hn 0))
  refine Ok_rdN rfl (by omega) (by decide) h5 (Ok_rdN rfl hc (by decide) (Am.val (hI.m12 hc)) (Ok_ite (fun _ => ?_) (fun _ => ?_)))
  · exact hlp (nF w) 0 fuel 0 (by omega) (by unfold fuel; omega)
  · exact hlp (nF w) 0 fuel 1 (by omega) (by unfold fuel; omega)
theorem live_limit {N tp : Nat} {w : GS} (h : Live N tp w) (hN : N ≤ 24000) (a b d : Int32) : Ok (f_limit a b d) w (fun _ v => Live N tp v) := by
  have hI := h.inv
  have h96 := hI.1.1.2.2
  unfold f_limit
  refine Ok_clR (ok_isClass a w) (fun r hr => Ok_ite (fun _ => Ok_rt h) (fun hne => ?_))
  rcases hr with ⟨-, c, hc, rfl⟩ | ⟨hr, -⟩
  · refine Ok_clR (ok_inB _ _ _ w) (fun r _ => Ok_ite (fun _ => Ok_rt h) (fun _ => ?_))
    refine Ok_clR (ok_inB _ _ _ w) (fun r _ => Ok_ite (fun _ => Ok_rt h) (fun _ => ?_))
    have hK : ∀ v4 v5 : Int32, Ok (if v4 = 0 then pcl (f_act 1 (nI c) b d) (fun r_38 => prt r_38) else prt (-3)) w (fun _ v => Live N tp v) := fun v4 v5 =>
      Ok_ite (fun _ => act_ret (live_act h hN (by decide) (fun u hu ha => by rw [does_1]; exact Ok_wdN rfl hc (by decide) (Ok_wdN rfl hc (by decide) (Ok_rt (inv_w1 (inv_w0 hu _ _) _ _)))))) (fun _ => Ok_rt h)
    have hlp : ∀ (t g m : Nat) (v4 : Int32), g + t = nF w → t < m → Ok (lp_limit_54 m (nI c) b d v4 (nI g) (fun v1 v2 v3 v4 v5 => (if v4 = 0 then pcl (f_act 1 v1 v2 v3) (fun r_38 => prt r_38) else prt (-3)))) w (fun _ v => Live N tp v) := by
      intro t
      induction t with
      | zero =>
        intro g m v4 h1 h2
        cases m with
        | zero => omega
        | succ m =>
          have : g = nF w := by omega
          subst this
          unfold lp_limit_54
          exact Ok_rfN ⟨hI.1.1.1, hI.1.1.2.1⟩ (Ok_ite (fun _ => hK v4 (nI (nF w))) (fun z => absurd (Int32.le_refl _) z))
      | succ t ih =>
        intro g m v4 h1 h2
        cases m with
        | zero => omega
        | succ m =>
          have hn : ∀ v4, Ok (pli (nI g + 1) (fun x_24 => lp_limit_54 m (nI c) b d v4 x_24 (fun v1 v2 v3 v4 v5 => (if v4 = 0 then pcl (f_act 1 v1 v2 v3) (fun r_38 => prt r_38) else prt (-3))))) w (fun _ v => Live N tp v) := fun v4 => by
            refine Ok_li ?_
            rw [nI_1]
            exact ih (g + 1) m v4 (by omega) (by omega)
          obtain ⟨⟨c2, hc2, g5⟩, -, -, g8, -⟩ := hI.1.2.2.1 g (by omega)
          unfold lp_limit_54
          refine Ok_rfN ⟨hI.1.1.1, hI.1.1.2.1⟩ (Ok_ite (fun _ => hK v4 (nI g)) (fun _ => Ok_ite (fun _ => ?_) (fun _ => hn 1)))
          refine Ok_rdN rfl (by omega) (by decide) g5 (Ok_ite (fun _ => ?_) (fun _ => hn 0))
          exact Ok_rdN rfl (by omega) (by decide) (Am.val g8) (Ok_ite (fun _ => hn 0) (fun _ => hn 1))
    refine Ok_rdN rfl hc (by decide) (Am.val (hI.m12 hc)) (Ok_ite (fun _ => ?_) (fun _ => ?_))
    · exact hlp (nF w) 0 fuel 0 (by omega) (by unfold fuel; omega)
    · exact hlp (nF w) 0 fuel 1 (by omega) (by unfold fuel; omega)
  · exact absurd hr hne
