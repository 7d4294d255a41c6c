/-! ===== draw, begin, event, tick, decide, strike ===== -/
theorem Ag.drsR {u v : GS} (h : Ag u v) (hu : Inv u) {c n : Nat} (hd : DrS v c n) : DrS u c n := by
  have hc := hd.2.1
  have e12 : v.1.2 12 c = u.1.2 12 c := h.va rfl (hu.m12 hc)
  rcases (hu.1.2.2.2.1 c hc).2.2.1 with z | ⟨n2, z⟩
  · exfalso
    rw [z.2] at e12
    obtain ⟨-, -, ⟨s, -, -, -, y, -⟩ | ⟨L, -, -, -, y, -⟩⟩ := hd
    · rw [y.2] at e12; exact absurd e12 (by decide)
    · rw [y.2] at e12; exact absurd e12 (by decide)
  · have z2 := h.drs hu.1.1 z
    have e : n2 = n := by
      obtain ⟨-, -, ⟨s, s2, s5, sz, y, -, -, e1⟩ | ⟨L, L3, L5, sz, y, -, -, -, e1⟩⟩ := hd
      · obtain ⟨-, -, ⟨s', -, -, sz', y', -, -, e2⟩ | ⟨L, -, -, -, y', -⟩⟩ := z2
        · have : s = s' := sz.symm.trans sz'
          subst this
          rw [e1, e2]
        · exact absurd (y.inj y') (by decide)
      · obtain ⟨-, -, ⟨s', -, -, -, y', -⟩ | ⟨L', L3', L5', sz', y', -, -, -, e2⟩⟩ := z2
        · exact absurd (y'.inj y) (by decide)
        · have hp : 2 ^ L = 2 ^ L' := sz.symm.trans sz'
          have : L = L' := by
            rcases (by omega : L = 3 ∨ L = 4 ∨ L = 5) with rfl | rfl | rfl <;> rcases (by omega : L' = 3 ∨ L' = 4 ∨ L' = 5) with rfl | rfl | rfl <;> first | rfl | exact absurd hp (by decide)
          subst this
          rw [e1, e2]
    subst e
    exact z
theorem Dr.drs {w : GS} {c n : Nat} (h : Dr w c n) : DrS w c n := by
  rcases h with ⟨s, ⟨h0, h1, a, b, d, e, f, g, -⟩, k⟩ | ⟨L, ⟨h0, h1, a, b, d, e, f, g, g2, -⟩, k⟩
  · exact ⟨h0, h1, Or.inl ⟨s, a, b, d, e, f, g, k⟩⟩
  · exact ⟨h0, h1, Or.inr ⟨L, a, b, d, e, f, g, g2, k⟩⟩
/-- a reader that ends at u ends alike at w -/
theorem Rd.carry {p : PG Int32} {u w : GS} {R R2 : Int32 → Prop} (hd : Det false p) (ha : Ag u w) (hu : Rd p u R) (hw : Rd p w R2) : ∃ r, p u = some (r, u) ∧ p w = some (r, w) ∧ R r ∧ R2 r := by
  obtain ⟨r, u1, e, rfl, hr⟩ := hu
  obtain ⟨v1, f1, -⟩ := hd u1 w ha (fun z => by cases z) r u1 e
  obtain ⟨r2, w2, e2, rfl, hr2⟩ := hw
  rw [f1] at e2
  cases e2
  exact ⟨_, e, f1, hr, hr2⟩
theorem live_draw {N tp : Nat} {w : GS} (h : Live N tp w) (hN : N ≤ 24000) (a : Int32) : Ok (f_draw a) w (fun _ v => Live N tp v) := by
  have hI := h.inv
  have h96 := hI.1.1.2.2
  unfold f_draw
  refine Ok_clR (ok_isClass a w) (fun r hr => Ok_ite (fun _ => Ok_rt h) (fun hne => ?_))
  rcases hr with ⟨-, c, hc, rfl⟩ | ⟨hr, -⟩
  · refine Ok_rdN rfl hc (by decide) (Am.val (hI.m12 hc)) (Ok_ite (fun h0 => ?_) (fun _ => Ok_rt h))
    refine Ok_clR (ok_weighed hI.1.1 hI.1.2.2.1 c) (fun r hr => ?_)
    subst hr
    have hle : cb (due w c) (nF w) ≤ nF w := cb_le _
    refine Ok_clR (ok_in _ _ _ w) (fun r hr => Ok_ite (fun _ => Ok_rt h) (fun hne2 => act_ret (live_act h hN (by decide) (fun u hu ha => ?_))))
    have h2 : (2 : Int64).toInt = 2 := by decide
    have h32 : (32 : Int64).toInt = 32 := by decide
    rw [Int32.toInt_toInt64, nI_toInt (by omega), h2, h32] at hr
    rcases hr with ⟨-, k1, k2⟩ | ⟨hr, -⟩
    · rw [does_5]
      have hu0 : Am u 12 c 0 := ⟨hu.m12 hc, (ha.va rfl (hu.m12 hc)).symm.trans h0⟩
      have e : cb (due u c) (nF u) = cb (due w c) (nF w) := by
        rw [ha.nFq hu]
        have hh : ∀ k, k ≤ nF w → cb (due u c) k = cb (due w c) k := by
          intro k
          induction k with
          | zero => intro _; rfl
          | succ k ih =>
            intro hk
            have hku : k < nF u := by rw [ha.nFq hu]; omega
            obtain ⟨⟨c2, -, g5⟩, -, -, g8, -⟩ := hu.1.2.2.1 k hku
            have e5 : w.1.2 5 k = u.1.2 5 k := ha.va rfl g5.1
            have e8 : w.1.2 8 k = u.1.2 8 k := ha.va rfl g8
            unfold cb
            rw [ih (by omega)]
            have ed : due w c k = due u c k := by unfold due; rw [e5, e8]
            rw [ed]
        exact hh (nF w) (Nat.le_refl _)
      exact Ok_cl (Ok.mono (ok_draws hu c hc hu0 (by rw [e]; omega) (by rw [e]; omega)) (fun _ _ z => Ok_rt z))
    · exact absurd hr hne2
  · exact absurd hr hne
theorem ok_rests {w : GS} (hI : Inv w) (f : Nat) (hf : f < nF w) : Rd (f_rests (nI f)) w (fun r => r = 0 ∨ r = 1) := by
  have h96 := hI.1.1.2.2
  have hlp : ∀ (t m n : Nat) (v2 : Int32), (v2 = 0 ∨ v2 = 1) → m + t = 4 → t < n → Rd (lp_rests_36 n (nI f) v2 (nI m) (fun v1 v2 v3 => pog (gb v2) (prt v2))) w (fun r => r = 0 ∨ r = 1) := by
    intro t
    induction t with
    | zero =>
      intro m n v2 hv h1 h2
      cases n with
      | zero => omega
      | succ n =>
        have : m = 4 := by omega
        subst this
        unfold lp_rests_36
        exact Rd_ite (fun _ => Rd_og (gb01 hv) (Rd_rt hv)) (fun z => absurd (Int32.le_refl _) z)
    | succ t ih =>
      intro m n v2 hv h1 h2
      cases n with
      | zero => omega
      | succ n =>
        have hn : ∀ v2 : Int32, (v2 = 0 ∨ v2 = 1) → Rd (pli (nI m + 1) (fun x => lp_rests_36 n (nI f) v2 x (fun v1 v2 v3 => pog (gb v2) (prt v2)))) w (fun r => r = 0 ∨ r = 1) := fun v2 hv => by
          refine Rd_li ?_
          rw [nI_1]
          exact ih (m + 1) n v2 hv (by omega) (by omega)
        obtain ⟨m22, hM⟩ := hI.1.2.2.2.2.2.1 m (by omega)
        unfold lp_rests_36
        refine Rd_ite (fun z => absurd ((nI_le4 (k := m) (n := 4) (by omega) (by decide)).mp z) (by omega)) (fun _ => Rd_ite (fun _ => ?_) (fun _ => hn 1 (Or.inr rfl)))
        refine Rd_rdN rfl (by omega) (by decide) (Am.val m22) (Rd_ite (fun _ => hn 0 (Or.inl rfl)) (fun hne => ?_))
        obtain ⟨⟨c, i, hc, hi, he, n2, -, -, ⟨a, ha, -⟩, b, hb, -⟩, -⟩ := hM hne
        refine Rd_rdN rfl (by omega) (by decide) ⟨m22, he⟩ (Rd_rdN rfl (by omega) (by decide) ha (Rd_ite (fun _ => hn 1 (Or.inr rfl)) (fun _ => ?_)))
        exact Rd_rdN rfl (by omega) (by decide) ⟨m22, he⟩ (Rd_rdN rfl (by omega) (by decide) hb (Rd_ite (fun _ => hn 1 (Or.inr rfl)) (fun _ => hn 0 (Or.inl rfl))))
  obtain ⟨-, -, -, -, -, -, g11⟩ := hI.1.2.2.1 f hf
  unfold f_rests
  refine Rd_rdN rfl (by omega) (by decide) (Am.val g11) (Rd_ite (fun _ => hlp 4 0 fuel 0 (Or.inl rfl) (by omega) (by unfold fuel; omega)) (fun _ => ?_))
  refine Ok_rf hI.1.2.1.1 (Rd_rdN rfl (by omega) (by decide) (Am.val g11) (Ok_rf hI.1.2.1.2.1 (Rd_ite (fun _ => ?_) (fun _ => ?_))))
  · exact hlp 4 0 fuel 0 (Or.inl rfl) (by omega) (by unfold fuel; omega)
  · exact hlp 4 0 fuel 1 (Or.inr rfl) (by omega) (by unfold fuel; omega)
theorem ok_readyS {w : GS} {c n i : Nat} (h : Dr w c n) (hi : i < n) : Rd (f_isReady (nI c) (nI i)) w (fun r => r = 0 ∨ ∃ a b, Rdy w c i a b) := by
  have hc := h.c4
  have hi40 : i < 40 := by have := h.n37; omega
  have m15 := (h.res i hi40).1
  obtain ⟨ra1, wa1, ea, rfl, va⟩ := ok_side w c n i 0 0 h hi (by decide)
  obtain ⟨rb1, wb1, eb, rfl, vb⟩ := ok_side wa1 c n i 1 0 h hi (by decide)
  have ea' : fS 24 0 (nI c) (nI i) 0 0 wb1 = some (ra1, wb1) := ea
  have eb' : fS 24 0 (nI c) (nI i) 1 0 wb1 = some (rb1, wb1) := eb
  have hneg : ∀ x : Int32, (x = -1 ∨ x = -2) → x < 0 := fun x hx => by rcases hx with rfl | rfl <;> decide
  unfold f_isReady
  refine Rd_rdN (ix40 c i) (by omega) (by decide) (Am.val m15) (Rd_ite (fun h0 => ?_) (fun _ => Rd_rt (Or.inl rfl)))
  refine Rd_clR (R := fun r => r = ra1) ⟨ra1, wb1, ea', rfl, rfl⟩ (fun r hr => ?_)
  subst hr
  refine Rd_ite (fun _ => Rd_rt (Or.inl rfl)) (fun hna => ?_)
  refine Rd_clR (R := fun r => r = rb1) ⟨rb1, wb1, eb', rfl, rfl⟩ (fun r hr => ?_)
  subst hr
  refine Rd_ite (fun _ => Rd_rt (Or.inl rfl)) (fun hnb => Rd_rt (Or.inr ?_))
  rcases va with va | va | ⟨a, rfl, ha⟩
  · exact absurd (hneg _ (Or.inl va)) hna
  · exact absurd (hneg _ (Or.inr va)) hna
  · rcases vb with vb | vb | ⟨b, rfl, hb⟩
    · exact absurd (hneg _ (Or.inl vb)) hnb
    · exact absurd (hneg _ (Or.inr vb)) hnb
    · exact ⟨a, b, ha, hb, ea', eb', h0⟩
