theorem Ag.onq {u v : GS} (h : Ag u v) (hu : Inv u) {m : Nat} (hm : m < 4) : u.1.2 22 m = v.1.2 22 m := (h.va rfl (hu.1.2.2.2.2.2.1 m hm).1).symm
theorem live_begin {N tp : Nat} {w : GS} (h : Live N tp w) (hN : N ≤ 24000) (a b d : Int32) : Ok (f_begin a b d) w (fun _ v => Live N tp v) := by
  have hI := h.inv
  unfold f_begin
  refine Ok_clR (ok_isFight w a b (hI.kd h.m13)) (fun r hr => Ok_ite (fun _ => Ok_rt h) (fun hne => ?_))
  rcases hr with ⟨-, c, i, n, rfl, rfl, hD, hi⟩ | hr
  · refine Ok_clR (ok_isMat d w) (fun r hr => Ok_ite (fun _ => Ok_rt h) (fun hne2 => ?_))
    rcases hr with ⟨-, m, hm, rfl⟩ | ⟨hr, -⟩
    · refine Ok_rf hI.1.2.1.2.2.2.1 (Ok_ite (fun _ => Ok_rt h) (fun hln => ?_))
      refine Ok_clR (ok_readyS hD hi) (fun r hr => Ok_ite (fun _ => Ok_rt h) (fun hne3 => ?_))
      obtain ⟨a, b, hR⟩ := hr.resolve_left hne3
      obtain ⟨ra, rb, ea, eb, r0⟩ := hR
      refine Ok_rdN rfl hm (by decide) (Am.val (hI.1.2.2.2.2.2.1 m hm).1) (Ok_ite (fun hon => ?_) (fun _ => Ok_rt h))
      refine Ok_clR (R := fun r => r = nI a) ⟨nI a, w, ea, rfl, rfl⟩ (fun r hr => ?_)
      subst hr
      refine Ok_clR (ok_rests hI a ra.1) (fun r _ => Ok_ite (fun _ => ?_) (fun _ => Ok_rt h))
      refine Ok_clR (R := fun r => r = nI b) ⟨nI b, w, eb, rfl, rfl⟩ (fun r hr => ?_)
      subst hr
      refine Ok_clR (ok_rests hI b rb.1) (fun r _ => Ok_ite (fun _ => act_ret (live_act h hN (by decide) (fun u hu ha => ?_))) (fun _ => Ok_rt h))
      rw [does_8]
      have hDu := ha.drsR hu hD.drs
      have hDu2 := hu.1.dr hDu
      have hc := hD.c4
      have hi40 : i < 40 := by have := hD.n37; omega
      obtain ⟨x1, e1, e2, v1, -⟩ := Rd.carry (R2 := fun r => r = nI a) (det_fS false 24 0 (nI c) (nI i) 0 0) ha (ok_side u c n i 0 0 hDu2 hi (by decide)) ⟨nI a, w, ea, rfl, rfl⟩
      obtain ⟨x2, e3, e4, v2, -⟩ := Rd.carry (R2 := fun r => r = nI b) (det_fS false 24 0 (nI c) (nI i) 1 0) ha (ok_side u c n i 1 0 hDu2 hi (by decide)) ⟨nI b, w, eb, rfl, rfl⟩
      rw [ea] at e2
      rw [eb] at e4
      cases e2
      cases e4
      have ha96 : a < 96 := ra.lt hI.1.1.2.2
      have hb96 : b < 96 := rb.lt hI.1.1.2.2
      have pa : Plc u c a := by
        rcases v1 with z | z | ⟨f, z, hf⟩
        · exact absurd z (nI_ne_1 (by omega))
        · exact absurd z (nI_ne_2 (by omega))
        · have := hf.lt hu.1.1.2.2
          have e : a = f := (nI_eq (by omega) (by omega)).mp z
          rw [e]; exact hf
      have pb : Plc u c b := by
        rcases v2 with z | z | ⟨f, z, hf⟩
        · exact absurd z (nI_ne_1 (by omega))
        · exact absurd z (nI_ne_2 (by omega))
        · have := hf.lt hu.1.1.2.2
          have e : b = f := (nI_eq (by omega) (by omega)).mp z
          rw [e]; exact hf
      have r0u : u.1.2 15 (40 * c + i) = 0 := (ha.va rfl ((hu.1.2.2.2.1 c hc).2.2.2 i hi40)).symm.trans r0
      refine Ok_cl (Ok.mono (ok_begins hu c i n m a b hm hi hDu ⟨pa, pb, e1, e3, r0u⟩ ((ha.onq hu hm).trans hon) (fun z => hln ((ha.vi rfl hu.1.2.1.2.2.2.1).trans z))) (fun _ _ z => Ok_rt z))
    · exact absurd hr hne2
  · exact absurd hr hne
theorem i64s1 : ∀ g < 9, ((nI g).toInt64 - 1).toInt = (g : Int) - 1 := by decide +kernel
theorem ok_inS {w : GS} (g : Nat) (hg : g ≤ 8) (x : Int32) : Rd (f_in x.toInt64 0 (((nI g).toInt64 : Int64) - (1 : Int64))) w (fun r => r = 0 ∨ (r = 1 ∧ ∃ k, k < g ∧ x = nI k)) := by
  refine Rd.mono (ok_in _ _ _ w) (fun r hr => ?_)
  have h0 : (0 : Int64).toInt = 0 := by decide
  rw [Int32.toInt_toInt64, h0, i64s1 g (by omega)] at hr
  rcases hr with ⟨hr, h1, h2⟩ | ⟨hr, -⟩
  · exact Or.inr ⟨hr, x.toInt.toNat, by omega, nI_ofT h1⟩
  · exact Or.inl hr
theorem live_event {N tp : Nat} {w : GS} (h : Live N tp w) (hN : N ≤ 24000) (a b d : Int32) : Ok (f_event a b d) w (fun _ v => Live N tp v) := by
  have hI := h.inv
  unfold f_event
  refine Ok_clR (ok_isMat a w) (fun r hr => Ok_ite (fun _ => Ok_rt h) (fun hne => ?_))
  rcases hr with ⟨-, m, hm, rfl⟩ | ⟨hr, -⟩
  · refine Ok_clR (ok_inR b 1 1 (by decide) w) (fun r hr => Ok_ite (fun _ => Ok_rt h) (fun hne2 => ?_))
    obtain ⟨-, sd, hsd, rfl⟩ := hr.resolve_left hne2
    obtain ⟨g, g8, eg⟩ := hI.1.2.1.2.2.2.2.2
    refine Ok_rfN ⟨hI.1.2.1.2.2.1, eg⟩ (Ok_clR (ok_inS g g8 d) (fun r hr => Ok_ite (fun _ => Ok_rt h) (fun hne3 => ?_)))
    obtain ⟨-, sg, hsg, rfl⟩ := hr.resolve_left hne3
    obtain ⟨m22, hM⟩ := hI.1.2.2.2.2.2.1 m hm
    refine Ok_rdN rfl hm (by decide) (Am.val m22) (Ok_ite (fun _ => Ok_rt h) (fun hon => ?_))
    obtain ⟨-, -, -, m26, -⟩ := hM hon
    have m26' : w.2.2 26 m = true := m26.elim (fun z => z.1) (fun z => z.1)
    refine Ok_rdN rfl hm (by decide) (Am.val m26') (Ok_ite (fun _ => act_ret (live_act h hN (by decide) (fun u hu ha => ?_))) (fun _ => Ok_rt h))
    rw [does_9]
    exact ok_event hu m sd sg hm (by omega) (by omega) (fun z => hon ((ha.onq hu hm).symm.trans z))
  · exact absurd hr hne
theorem live_tick {N tp : Nat} {w : GS} (h : Live N tp w) (hN : N ≤ 24000) (a b : Int32) : Ok (f_tick a b) w (fun _ v => Live N tp v) := by
  have hI := h.inv
  unfold f_tick
  refine Ok_clR (ok_isMat a w) (fun r hr => Ok_ite (fun _ => Ok_rt h) (fun hne => ?_))
  rcases hr with ⟨-, m, hm, rfl⟩ | ⟨hr, -⟩
  · refine Ok_clR (ok_inB _ _ _ w) (fun r _ => Ok_ite (fun _ => Ok_rt h) (fun _ => ?_))
    obtain ⟨m22, hM⟩ := hI.1.2.2.2.2.2.1 m hm
    refine Ok_rdN rfl hm (by decide) (Am.val m22) (Ok_ite (fun _ => Ok_rt h) (fun hon => ?_))
    obtain ⟨-, m23, -, m26, -⟩ := hM hon
    have m26' : w.2.2 26 m = true := m26.elim (fun z => z.1) (fun z => z.1)
    refine Ok_rdN rfl hm (by decide) (Am.val m26') (Ok_ite (fun _ => ?_) (fun _ => Ok_rt h))
    refine Ok_rdN rfl hm (by decide) (Am.val m23) (Ok_ite (fun _ => act_ret (live_act h hN (by decide) (fun u hu ha => ?_))) (fun _ => Ok_rt h))
    rw [does_10]
    exact Ok_cl (Ok.mono (ok_passes hu m b hm (fun z => hon ((ha.onq hu hm).symm.trans z))) (fun _ _ z => Ok_rt z))
  · exact absurd hr hne
theorem live_decide {N tp : Nat} {w : GS} (h : Live N tp w) (hN : N ≤ 24000) (a b : Int32) : Ok (f_decide a b) w (fun _ v => Live N tp v) := by
  have hI := h.inv
  unfold f_decide
  refine Ok_clR (ok_isMat a w) (fun r hr => Ok_ite (fun _ => Ok_rt h) (fun hne => ?_))
  rcases hr with ⟨-, m, hm, rfl⟩ | ⟨hr, -⟩
  · refine Ok_clR (ok_inR b 1 1 (by decide) w) (fun r hr => Ok_ite (fun _ => Ok_rt h) (fun hne2 => ?_))
    obtain ⟨-, sd, hsd, rfl⟩ := hr.resolve_left hne2
    obtain ⟨m22, hM⟩ := hI.1.2.2.2.2.2.1 m hm
    refine Ok_rdN rfl hm (by decide) (Am.val m22) (Ok_ite (fun _ => Ok_rt h) (fun hon => ?_))
    obtain ⟨-, -, -, m26, -⟩ := hM hon
    have m26' : w.2.2 26 m = true := m26.elim (fun z => z.1) (fun z => z.1)
    refine Ok_rdN rfl hm (by decide) (Am.val m26') (Ok_ite (fun _ => Ok_rt h) (fun _ => act_ret (live_act h hN (by decide) (fun u hu ha => ?_))))
    rw [does_11]
    exact Ok_cl (Ok.mono (ok_endsI hu m sd (-1) 0 hm (by omega) (fun z => hon ((ha.onq hu hm).symm.trans z))) (fun _ _ z => Ok_rt z))
  · exact absurd hr hne
theorem live_strike {N tp : Nat} {w : GS} (h : Live N tp w) (hN : N ≤ 24000) (a b : Int32) : Ok (f_strike a b) w (fun _ v => Live N tp v) := by
  have hI := h.inv
  unfold f_strike
  refine Ok_clR (ok_isFight w a b (hI.kd h.m13)) (fun r hr => Ok_ite (fun _ => Ok_rt h) (fun hne => ?_))
  rcases hr with ⟨-, c, i, n, rfl, rfl, hD, hi⟩ | hr
  · have hc := hD.c4
    have hi40 : i < 40 := by have := hD.n37; omega
    refine Ok_rdN (ix40 c i) (by omega) (by decide) (Am.val (hD.res i hi40).1) (Ok_ite (fun _ => act_ret (live_act h hN (by decide) (fun u hu ha => ?_))) (fun _ => Ok_rt h))
    rw [does_12]
    exact Ok_cl (Ok.mono (ok_struck hu c i n (ha.drsR hu hD.drs) hi) (fun _ _ z => Ok_rt z))
  · exact absurd hr hne
/-! ===== readers ===== -/
theorem Rd.live {N tp : Nat} {w : GS} {p : PG Int32} {R : Int32 → Prop} (h : Live N tp w) (hr : Rd p w R) : Ok p w (fun _ v => Live N tp v) := Ok.mono hr (fun _ v z => by rw [z.1]; exact h)
theorem live_fighter {N tp : Nat} {w : GS} (h : Live N tp w) (a b : Int32) : Ok (f_fighter a b) w (fun _ v => Live N tp v) := by
  have hI := h.inv
  have h96 := hI.1.1.2.2
  refine Rd.live h (R := fun _ => True) ?_
  unfold f_fighter
  refine Rd_clR (ok_isFighter hI.1.1 a) (fun r hr => Rd_ite (fun _ => Rd_rt trivial) (fun hne => ?_))
  obtain ⟨-, f, hf, rfl⟩ := hr.resolve_left hne
  obtain ⟨⟨c, -, g5⟩, ⟨k, -, g6⟩, g7, g8, ⟨q, -, g9⟩, g10, g11⟩ := hI.1.2.2.1 f hf
  refine Rd_ite (fun _ => Rd_rdN rfl (by omega) (by decide) g5 (Rd_rt trivial)) (fun _ => ?_)
  refine Rd_ite (fun _ => Rd_rdN rfl (by omega) (by decide) g6 (Rd_rt trivial)) (fun _ => ?_)
  refine Rd_ite (fun _ => Rd_rdN rfl (by omega) (by decide) (Am.val g7) (Rd_rt trivial)) (fun _ => ?_)
  refine Rd_ite (fun _ => Rd_rdN rfl (by omega) (by decide) (Am.val g8) (Rd_rt trivial)) (fun _ => ?_)
  refine Rd_ite (fun _ => Rd_rdN rfl (by omega) (by decide) g9 (Rd_rt trivial)) (fun _ => ?_)
  refine Rd_ite (fun _ => Rd_rdN rfl (by omega) (by decide) (Am.val g10) (Rd_rt trivial)) (fun _ => ?_)
  exact Rd_ite (fun _ => Rd_rdN rfl (by omega) (by decide) (Am.val g11) (Rd_rt trivial)) (fun _ => Rd_rt trivial)
theorem live_fault {N tp : Nat} {w : GS} (h : Live N tp w) (a : Int32) : Ok (f_fault a) w (fun _ v => Live N tp v) := by
  unfold f_fault
  exact Ok_ite (fun _ => Ok_uf (Ok_rt h)) (fun _ => Ok_ite (fun _ => Ok_uf (Ok_rt h)) (fun _ => Ok_rt h))
theorem live_count {N tp : Nat} {w : GS} (h : Live N tp w) (a : Int32) : Ok (f_count a) w (fun _ v => Live N tp v) := by
  have hI := h.inv
  have hlp : ∀ (t m n : Nat) (v2 : Int32), m + t = 4 → t < n → Rd (lp_count_84 n a v2 (nI m) (fun v1 v2 v3 => prt v2)) w (fun _ => True) := by
    intro t
    induction t with
    | zero =>
      intro m n v2 h1 h2
      cases n with
      | zero => omega
      | succ n =>
        have : m = 4 := by omega
        subst this
        unfold lp_count_84
        exact Rd_ite (fun _ => Rd_rt trivial) (fun z => absurd (Int32.le_refl _) z)
    | succ t ih =>
      intro m n v2 h1 h2
      cases n with
      | zero => omega
      | succ n =>
        unfold lp_count_84
        refine Rd_ite (fun z => absurd ((nI_le4 (k := m) (n := 4) (by omega) (by decide)).mp z) (by omega)) (fun _ => ?_)
        refine Rd_rdN rfl (by omega) (by decide) (Am.val (hI.1.2.2.2.2.2.1 m (by omega)).1) (Rd_ite (fun _ => Rd_li (Rd_li ?_)) (fun _ => Rd_li (Rd_li ?_)))
        · rw [nI_1]; exact ih (m + 1) n _ (by omega) (by omega)
        · rw [nI_1]; exact ih (m + 1) n _ (by omega) (by omega)
  refine Rd.live h (R := fun _ => True) ?_
  unfold f_count
  refine Rd_ite (fun _ => Ok_rf hI.1.1.1 (Rd_rt trivial)) (fun _ => ?_)
  refine Rd_ite (fun _ => Ok_rf hI.1.2.1.1 (Rd_rt trivial)) (fun _ => ?_)
  refine Rd_ite (fun _ => Ok_rf hI.1.2.1.2.1 (Rd_rt trivial)) (fun _ => ?_)
  refine Rd_ite (fun _ => Ok_rf hI.1.2.1.2.2.1 (Rd_rt trivial)) (fun _ => ?_)
  refine Rd_ite (fun _ => Ok_rf hI.1.2.1.2.2.2.1 (Rd_rt trivial)) (fun _ => ?_)
  refine Rd_ite (fun _ => Ok_rf hI.1.2.1.2.2.2.2.1 (Rd_rt trivial)) (fun _ => ?_)
  refine Rd_ite (fun _ => hlp 4 0 fuel 0 (by omega) (by unfold fuel; omega)) (fun _ => ?_)
  refine Rd_ite (fun _ => Ok_uf (Rd_rt trivial)) (fun _ => ?_)
  exact Rd_ite (fun _ => Ok_uf (Rd_rt trivial)) (fun _ => Rd_rt trivial)
theorem live_planned {N tp : Nat} {w : GS} (h : Live N tp w) (a b d : Int32) : Ok (f_planned a b d) w (fun _ v => Live N tp v) := by
  have hI := h.inv
  unfold f_planned
  refine Ok_clR (ok_isFight w a b (hI.kd h.m13)) (fun r hr => Ok_ite (fun _ => Ok_rt h) (fun hne => ?_))
  rcases hr with ⟨-, c, i, n, rfl, rfl, hD, hi⟩ | hr
  · have hc := hD.c4
    have hi40 : i < 40 := by have := hD.n37; omega
    refine Ok_uf (Ok_ite (fun _ => Ok_rt h) (fun _ => Ok_clR (ok_inB _ _ _ w) (fun r _ => Ok_ite (fun _ => Ok_rt h) (fun _ => Ok_ite (fun _ => ?_) (fun _ => ?_)))))
    · exact Ok_udN (ix40 c i) (by omega) (by decide) rfl (Ok_rt h)
    · exact Ok_udN (ix40 c i) (by omega) (by decide) rfl (Ok_rt h)
  · exact absurd hr hne
theorem live_fight {N tp : Nat} {w : GS} (h : Live N tp w) (a b d : Int32) : Ok (f_fight a b d) w (fun _ v => Live N tp v) := by
  have hI := h.inv
  refine Rd.live h (R := fun _ => True) ?_
  unfold f_fight
  refine Rd_clR (ok_isFight w a b (hI.kd h.m13)) (fun r hr => Rd_ite (fun _ => Rd_rt trivial) (fun hne => ?_))
  rcases hr with ⟨-, c, i, n, rfl, rfl, hD, hi⟩ | hr
  · have hc := hD.c4
    have hi40 : i < 40 := by have := hD.n37; omega
    have m15 := (hD.res i hi40).1
    have e40 := ix40 c i
    refine Rd_li ?_
    rw [e40]
    refine Rd_rdN rfl (by omega) (by decide) (Am.val m15) (Rd_ite (fun h2 => ?_) (fun _ => ?_))
    · obtain ⟨-, hR⟩ := hI.1.2.2.2.2.1 c hc i hi40 (by rw [h2]; decide)
      obtain ⟨-, m19, m20, m21⟩ := hR h2
      refine Rd_ite (fun _ => Rd_clR (ok_side w c n i 0 0 hD hi (by decide)) (fun _ _ => Rd_rt trivial)) (fun _ => ?_)
      refine Rd_ite (fun _ => Rd_clR (ok_side w c n i 1 0 hD hi (by decide)) (fun _ _ => Rd_rt trivial)) (fun _ => ?_)
      refine Rd_ite (fun _ => Rd_clR (ok_win w c n i 0 0 hD hi) (fun _ _ => Rd_rt trivial)) (fun _ => ?_)
      refine Rd_ite (fun _ => Rd_ite (fun z => absurd z (by decide)) (fun _ => Rd_rt trivial)) (fun _ => ?_)
      refine Rd_ite (fun _ => Rd_ite (fun z => absurd z (by decide)) (fun _ => Rd_rdN rfl (by omega) (by decide) (Am.val m19) (Rd_rt trivial))) (fun _ => ?_)
      refine Rd_ite (fun _ => Rd_ite (fun z => absurd z (by decide)) (fun _ => Rd_rdN rfl (by omega) (by decide) (Am.val m20) (Rd_rt trivial))) (fun _ => ?_)
      refine Rd_ite (fun _ => Rd_clR (ok_matOf (fun m hm => (hI.1.2.2.2.2.2.1 m hm).1) c i) (fun _ _ => Rd_rt trivial)) (fun _ => ?_)
      exact Rd_ite (fun _ => Rd_ite (fun z => absurd z (by decide)) (fun _ => Rd_rdN rfl (by omega) (by decide) (Am.val m21) (Rd_rt trivial))) (fun _ => Rd_rt trivial)
    · refine Rd_ite (fun _ => Rd_clR (ok_side w c n i 0 0 hD hi (by decide)) (fun _ _ => Rd_rt trivial)) (fun _ => ?_)
      refine Rd_ite (fun _ => Rd_clR (ok_side w c n i 1 0 hD hi (by decide)) (fun _ _ => Rd_rt trivial)) (fun _ => ?_)
      refine Rd_ite (fun _ => Rd_clR (ok_win w c n i 0 0 hD hi) (fun _ _ => Rd_rt trivial)) (fun _ => ?_)
      refine Rd_ite (fun _ => Rd_ite (fun _ => ?_) (fun z => absurd rfl z)) (fun _ => ?_)
      · refine Rd_rdN rfl (by omega) (by decide) (Am.val m15) (Rd_ite (fun _ => Rd_rt trivial) (fun _ => ?_))
        refine Rd_clR (ok_isWalk w c n i hD hi) (fun _ _ => Rd_ite (fun _ => ?_) (fun _ => Rd_rt trivial))
        exact Rd_clR (ok_isReady w c n i hD hi) (fun _ _ => Rd_ite (fun _ => Rd_rt trivial) (fun _ => Rd_rt trivial))
      refine Rd_ite (fun _ => Rd_ite (fun _ => Rd_rt trivial) (fun z => absurd rfl z)) (fun _ => ?_)
      refine Rd_ite (fun _ => Rd_ite (fun _ => Rd_rt trivial) (fun z => absurd rfl z)) (fun _ => ?_)
      refine Rd_ite (fun _ => Rd_clR (ok_matOf (fun m hm => (hI.1.2.2.2.2.2.1 m hm).1) c i) (fun _ _ => Rd_rt trivial)) (fun _ => ?_)
      exact Rd_ite (fun _ => Rd_ite (fun _ => Rd_rt trivial) (fun z => absurd rfl z)) (fun _ => Rd_rt trivial)
  · exact absurd hr hne
