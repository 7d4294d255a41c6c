/-! ===== the others, in step ===== -/
theorem CQ_ST {β : Type} {a n : Nat} {i x : Int32} {q : Unit → AG β} {u : MS} {Q : β → MS → Prop} (h : CQ (q ()) (sf u a (rs (u.2 a) n i x)) Q) : CQ (anl (nST a n i x) q) u Q := h
def oc (w : GS) (c k f : Nat) : Nat := cb (fun g => decide (due w c g = true ∧ sdn w g = 0 ∧ clb w g = k)) f
theorem oc_t {w : GS} {c k f : Nat} (h : due w c f = true ∧ sdn w f = 0 ∧ clb w f = k) : oc w c k (f + 1) = oc w c k f + 1 := cb_t (decide_eq_true h)
theorem oc_f {w : GS} {c k f : Nat} (h : ¬ (due w c f = true ∧ sdn w f = 0 ∧ clb w f = k)) : oc w c k (f + 1) = oc w c k f := cb_f (by rw [decide_eq_false h]; decide)
theorem oc_0 {w : GS} {c k F : Nat} (h : oc w c k F = 0) : ∀ f, f < F → ¬ (due w c f = true ∧ sdn w f = 0 ∧ clb w f = k) := fun f hf hd => by
  have h1 := cb_lt (P := fun g => decide (due w c g = true ∧ sdn w g = 0 ∧ clb w g = k)) hf (decide_eq_true hd)
  have h2 : cb (fun g => decide (due w c g = true ∧ sdn w g = 0 ∧ clb w g = k)) F = 0 := h
  omega
theorem oc_le {w : GS} {c k F : Nat} : oc w c k F ≤ F := cb_le F
section
variable {B0 : Nat → Int32} {w : GS} {c L n : Nat} {u0 : MS} {ne ch : Nat}
theorem e_isSeed {B : Nat → Int32} {u : MS} {k q9 : Nat} (hB : u.2 0 = B) (hF : FrD c B0 B) (hc : c < 4) (hk : k < 96) (e9 : B0 (152 + 7 * k) = nI q9) (hq : q9 ≤ 8) : x_X2_isSeed (nI k) u = some (if q9 = 0 then 0 else 1, u) := by
  have b9 : B (148 + 7 * k + 4) = nI q9 := by
    rw [hF.ft (k := 4) (Or.inl (by decide)) hc, show 148 + 7 * k + 4 = 152 + 7 * k by omega]
    exact e9
  unfold x_X2_isSeed
  rw [e_ofFighter k 4 (show (4 : Int32) = nI 4 from rfl), ncl_rt]
  have g : nGT 0 2088 (nI (148 + 7 * k + 4)) u = some (nI q9, u) := by
    show some (rg (u.2 0) 2088 (nI (148 + 7 * k + 4)), u) = _
    rw [rdB _ (by omega), hB, b9]
  refine ncl_eq g ?_
  by_cases h0 : q9 = 0
  · rw [if_pos h0, h0, if_pos (show nI 0 ≤ 0 from Int32.le_refl _)]
    rfl
  · rw [if_neg h0, if_neg (fun z => h0 (by
      have := (nI_leI (a := q9) (b := 0) (by omega) (by decide)).mp z
      omega))]
    rfl
theorem l_count (hR : R0 B0 w) (h : Inv w) (hc : c < 4) (P : Nat → Bool) (v2 v3 : Int32) (x2 : Int32) (KC : Int32 → Int32 → Int32 → AG Int32) (KR : Int32 → Int32 → Int32 → Int32 → PG Int32) (Q : Int32 → MS → Int32 → GS → Prop)
    (hK : ∀ u v B x3 v4, CU u0 ne ch L u B → TD w v c L n P → SD B0 w c (2 ^ L) B v → (∀ k, k < 16 → u.2 12 k = nI (oc w c k (nF w)) ∧ Am v 59 k (nI (oc w c k (nF w)))) → CQ (KC (nI c) x2 x3) u (fun r x => Ok (KR (nI c) v2 v3 v4) v (Q r x))) :
    ∀ (t f m g : Nat) (u : MS) (v : GS) (B : Nat → Int32), f + t = nF w → t < m → CU u0 ne ch L u B → TD w v c L n P → SD B0 w c (2 ^ L) B v → (∀ k, k < 16 → u.2 12 k = nI (oc w c k f) ∧ Am v 59 k (nI (oc w c k f))) → CQ (xl_X2_placeOthers_10 g (nI c) x2 (nI f) KC) u (fun r x => Ok (lp_draws_331 m (nI c) v2 v3 (nI f) KR) v (Q r x)) := by
  have h96 := h.1.1.2.2
  have eF : B0 2 = nI (nF w) := hR.nf.symm.trans h.1.1.2.1
  intro t
  induction t with
  | zero =>
    intro f m g u v B h1 h2 hU hT hS hO
    have : f = nF w := by omega
    subst this
    cases g with
    | zero => exact fun r w c d e => by cases e
    | succ g =>
      cases m with
      | zero => omega
      | succ m =>
        unfold xl_X2_placeOthers_10
        refine CQ_at (j := 2) (x := nI (nF w)) rfl (by decide) ?_ (CQ_ite (fun _ => (hK u v B _ (nI (nF w)) hU hT hS hO).mono (fun r x z => ?_)) (fun z => absurd (Int32.le_refl _) z))
        · rw [hU.2.1, hS.2.2.1 2 (by omega) (fun f _ _ => by omega), eF]
        · unfold lp_draws_331
          exact Ok_rfN (hT.1.im2 h.1.1) (Ok_ite (fun _ => z) (fun z => absurd (Int32.le_refl _) z))
  | succ t ih =>
    intro f m g u v B h1 h2 hU hT hS hO
    cases g with
    | zero => exact fun r w c d e => by cases e
    | succ g =>
      cases m with
      | zero => omega
      | succ m =>
        obtain ⟨k6, q9, hk6, hq9, eb6, eb9, ecl, esd, h6, h9, a5, a8⟩ := ftr_of hR h (show f < nF w by omega)
        have hle : ¬ nI (nF w) ≤ nI f := fun z => absurd ((nI_leI (by omega) (by omega)).mp z) (by omega)
        have hskip : ¬ (due w c f = true ∧ sdn w f = 0) → CQ (ali (nI f + 1) (fun x => xl_X2_placeOthers_10 g (nI c) x2 x KC)) u (fun r x => Ok (lp_draws_331 (m + 1) (nI c) v2 v3 (nI f) KR) v (Q r x)) := fun hno => by
          have h8 := ih (f + 1) m g u v B (by omega) (by omega) hU hT hS (fun k hk => by rw [oc_f (fun z => hno ⟨z.1, z.2.1⟩)]; exact hO k hk)
          rw [← nI_1 f] at h8
          refine CQ.mono (p := xl_X2_placeOthers_10 g (nI c) x2 (nI f + 1) KC) h8 (fun r x z => ?_)
          unfold lp_draws_331
          refine Ok_rfN (hT.1.im2 h.1.1) (Ok_ite (fun z => absurd z hle) (fun _ => ?_))
          refine Ok_clR (ok_isOther h.1.2.2.1 h96 c f (by omega) hT.1) (fun r hr => ?_)
          rcases hr with ⟨-, hr⟩ | ⟨rfl, -⟩
          · exact absurd hr hno
          · exact Ok_ite (fun _ => z) (fun z => absurd rfl z)
        unfold xl_X2_placeOthers_10
        refine CQ_at (j := 2) (x := nI (nF w)) rfl (by decide) ?_ (CQ_ite (fun z => absurd z hle) (fun _ => CQ_rd (e_isWeighed hU.2.1 hS.2.2.1 hR (by omega) (by omega) hc) ?_))
        · rw [hU.2.1, hS.2.2.1 2 (by omega) (fun f _ _ => by omega), eF]
        by_cases hdue : due w c f = true
        rotate_left
        · rw [if_neg hdue]
          exact CQ_ite (fun _ => hskip (fun z => hdue z.1)) (fun z => absurd rfl z)
        rw [if_pos hdue]
        refine CQ_ite (fun z => absurd z (by decide)) (fun _ => CQ_rd (e_isSeed hU.2.1 hS.2.2.1 hc (by omega) eb9 hq9) ?_)
        by_cases hs0 : q9 = 0
        rotate_left
        · rw [if_neg hs0]
          exact CQ_ite (fun z => absurd z (by decide)) (fun _ => hskip (fun z => hs0 (by rw [← esd]; exact z.2)))
        rw [if_pos hs0]
        refine CQ_ite (fun _ => ?_) (fun z => absurd rfl z)
        have e6 : B (148 + 7 * f + 1) = nI k6 := by
          rw [hS.2.2.1.ft (k := 1) (Or.inl (by decide)) hc, show 148 + 7 * f + 1 = 149 + 7 * f by omega]
          exact eb6
        obtain ⟨o1, o2⟩ := hO k6 hk6
        refine CQ_oP (k := 1) rfl (CQ_at (x := nI k6) rfl (by omega) (by rw [hU.2.1]; exact e6) ?_)
        have g12 : nGT 12 16 (nI k6) u = some (nI (oc w c k6 f), u) := by
          show some (rg (u.2 12) 16 (nI k6), u) = _
          rw [rg_in hk6 (by decide), o1]
        refine CQ_rd g12 (CQ_ST ?_)
        rw [wrN _ hk6 (by decide), nI_1 (oc w c k6 f)]
        have hU1 := hU.s12 (v := sf u 12 (upd (u.2 12) k6 (nI (oc w c k6 f + 1)))) (Same_sf (by decide))
        have h8 := ih (f + 1) m g _ (swd 59 (nI k6) (nI (oc w c k6 f + 1)) v) B (by omega) (by omega) hU1 (hT.w59 _ _) (hS.w (by decide)) (fun k hk => by
          rw [sfE]
          by_cases he : k = k6
          · rw [he, upd_e, oc_t ⟨hdue, by rw [esd]; exact hs0, ecl⟩]
            exact ⟨rfl, sw_A (by omega)⟩
          · rw [upd_n he, oc_f (fun z => he (z.2.2.symm.trans ecl))]
            exact ⟨(hO k hk).1, (hO k hk).2.sw (by omega) (fun z => he z.2)⟩)
        rw [← nI_1 f] at h8
        refine CQ.mono (p := xl_X2_placeOthers_10 g (nI c) x2 (nI f + 1) KC) h8 (fun r x z => ?_)
        unfold lp_draws_331
        refine Ok_rfN (hT.1.im2 h.1.1) (Ok_ite (fun z => absurd z hle) (fun _ => ?_))
        refine Ok_clR (ok_isOther h.1.2.2.1 h96 c f (by omega) hT.1) (fun r hr => ?_)
        rcases hr with ⟨rfl, -⟩ | ⟨-, hr⟩
        · refine Ok_ite (fun z => absurd z (by decide)) (fun _ => Ok_rdN rfl (by omega) (by decide) (hT.1.at (by decide) (by decide) (by decide) h6) (Ok_rdN rfl hk6 (by decide) o2 ?_))
          rw [nI_1]
          exact Ok_wdN rfl hk6 (by decide) z
        · exact absurd ⟨hdue, by rw [esd]; exact hs0⟩ hr
/-- the first of the largest -/
def FstM (f : Nat → Int32) (b : Nat) : Prop := b < 16 ∧ (∀ y, y < 16 → f y ≤ f b) ∧ ∀ y, y < b → f y < f b
theorem c_large (u : MS) : CN x_X2_largestClub u (fun r v => v = u ∧ ∃ b, r = nI b ∧ FstM (u.2 12) b) := by
  have hlp : ∀ (n x b : Nat), x ≤ 16 → b < 16 → b < x → (∀ y, y < x → u.2 12 y ≤ u.2 12 b) → (∀ y, y < b → u.2 12 y < u.2 12 b) → CN (xl_X2_largestClub_4 n (nI b) (nI x) (fun v1 v2 => nrt v1)) u (fun r v => v = u ∧ ∃ b, r = nI b ∧ FstM (u.2 12) b) := by
    intro n
    induction n with
    | zero => exact fun x b _ _ _ _ _ r w e => by cases e
    | succ n ih =>
      intro x b hx hb hbx h1 h2
      unfold xl_X2_largestClub_4
      by_cases h16 : 16 ≤ x
      · have : x = 16 := by omega
        subst this
        exact CN_ite (fun _ => CN_rt ⟨rfl, b, rfl, hb, h1, h2⟩) (fun z => absurd (Int32.le_refl _) z)
      · refine CN_ite (fun z => absurd ((nI_leI (a := 16) (b := x) (by decide) (by omega)).mp z) h16) (fun _ => CN_GT (CN_GT ?_))
        rw [rg_in (by omega) (by decide), rg_in hb (by decide)]
        refine CN_ite (fun hle => CN_li ?_) (fun hle => CN_li ?_)
        · rw [nI_1]
          refine ih (x + 1) b (by omega) hb (by omega) (fun y hy => ?_) h2
          by_cases he : y = x
          · rw [he]; exact hle
          · exact h1 y (by omega)
        · rw [nI_1]
          refine ih (x + 1) x (by omega) (by omega) (by omega) (fun y hy => ?_) (fun y hy => ?_)
          · by_cases he : y = x
            · rw [he]; exact Int32.le_refl _
            · have h5 := h1 y (by omega)
              rw [Int32.le_iff_toInt_le] at h5 hle ⊢
              omega
          · have h5 := h1 y (by omega)
            rw [Int32.le_iff_toInt_le] at h5 hle
            rw [Int32.lt_iff_toInt_lt]
            omega
  unfold x_X2_largestClub
  exact hlp fuel 1 0 (by decide) (by decide) (by decide) (fun y hy => by
    have : y = 0 := by omega
    rw [this]
    exact Int32.le_refl _) (fun y hy => absurd hy (Nat.not_lt_zero _))
theorem r_large {v : GS} (c : Nat) (v2 v3 v4 : Int32) (hm : ∀ k, k < 16 → v.2.2 59 k = true) (K : Int32 → Int32 → Int32 → Int32 → Int32 → Int32 → PG Int32) (Q : Int32 → GS → Prop) (b0 : Nat) (hb0 : FstM (v.1.2 59) b0) (hK : ∀ v6, Ok (K (nI c) v2 v3 v4 (nI b0) v6) v Q) :
    ∀ (t x b m : Nat), x + t = 16 → t < m → b < 16 → b < x → (∀ y, y < x → v.1.2 59 y ≤ v.1.2 59 b) → (∀ y, y < b → v.1.2 59 y < v.1.2 59 b) → Ok (lp_draws_388 m (nI c) v2 v3 v4 (nI b) (nI x) K) v Q := by
  intro t
  induction t with
  | zero =>
    intro x b m h1 h2 hb hbx h3 h4
    cases m with
    | zero => omega
    | succ m =>
      have : x = 16 := by omega
      subst this
      have : b = b0 := by
        obtain ⟨k1, k2, k3⟩ := hb0
        rcases Nat.lt_trichotomy b b0 with z | z | z
        · have a := k3 b z
          have d := h3 b0 k1
          rw [Int32.lt_iff_toInt_lt] at a
          rw [Int32.le_iff_toInt_le] at d
          omega
        · exact z
        · have a := h4 b0 z
          have d := k2 b hb
          rw [Int32.lt_iff_toInt_lt] at a
          rw [Int32.le_iff_toInt_le] at d
          omega
      subst this
      unfold lp_draws_388
      exact Ok_ite (fun _ => hK _) (fun z => absurd (Int32.le_refl _) z)
  | succ t ih =>
    intro x b m h1 h2 hb hbx h3 h4
    cases m with
    | zero => omega
    | succ m =>
      unfold lp_draws_388
      refine Ok_ite (fun z => absurd z (nI_ge (b := 16) (by omega) (by decide))) (fun _ => ?_)
      refine Ok_rdN rfl (by omega) (by decide) (Am.val (hm x (by omega))) (Ok_rdN rfl hb (by decide) (Am.val (hm b hb)) (Ok_ite (fun hle => Ok_li ?_) (fun hle => Ok_li ?_)))
      · rw [nI_1]
        refine ih (x + 1) b m (by omega) (by omega) hb (by omega) (fun y hy => ?_) h4
        by_cases he : y = x
        · rw [he]; exact hle
        · exact h3 y (by omega)
      · rw [nI_1]
        refine ih (x + 1) x m (by omega) (by omega) (by omega) (by omega) (fun y hy => ?_) (fun y hy => ?_)
        · by_cases he : y = x
          · rw [he]; exact Int32.le_refl _
          · have h5 := h3 y (by omega)
            rw [Int32.le_iff_toInt_le] at h5 hle ⊢
            omega
        · have h5 := h3 y (by omega)
          rw [Int32.le_iff_toInt_le] at h5 hle
          rw [Int32.lt_iff_toInt_lt]
          omega
theorem fst_ex (f : Nat → Int32) : ∃ b, FstM f b := by
  have key : ∀ x, 1 ≤ x → x ≤ 16 → ∃ b, b < x ∧ (∀ y, y < x → f y ≤ f b) ∧ ∀ y, y < b → f y < f b := by
    intro x
    induction x with
    | zero => intro h; omega
    | succ x ih =>
      intro h1 h2
      rcases Nat.eq_zero_or_pos x with z | z
      · subst z
        exact ⟨0, by omega, fun y hy => by
          have : y = 0 := by omega
          rw [this]; exact Int32.le_refl _, fun y hy => absurd hy (Nat.not_lt_zero _)⟩
      · obtain ⟨b, k1, k2, k3⟩ := ih z (by omega)
        by_cases hle : f x ≤ f b
        · refine ⟨b, by omega, fun y hy => ?_, k3⟩
          by_cases he : y = x
          · rw [he]; exact hle
          · exact k2 y (by omega)
        · refine ⟨x, by omega, fun y hy => ?_, fun y hy => ?_⟩
          · by_cases he : y = x
            · rw [he]; exact Int32.le_refl _
            · have h5 := k2 y (by omega)
              rw [Int32.le_iff_toInt_le] at h5 hle ⊢
              omega
          · have h5 := k2 y (by omega)
            rw [Int32.le_iff_toInt_le] at h5 hle
            rw [Int32.lt_iff_toInt_lt]
            omega
  obtain ⟨b, k1, k2, k3⟩ := key 16 (by decide) (by decide)
  exact ⟨b, k1, k2, k3⟩
theorem FstM.un {f : Nat → Int32} {b b0 : Nat} (h1 : FstM f b) (h2 : FstM f b0) : b = b0 := by
  obtain ⟨k1, k2, k3⟩ := h1
  obtain ⟨j1, j2, j3⟩ := h2
  rcases Nat.lt_trichotomy b b0 with z | z | z
  · have a := j3 b z
    have d := k2 b0 j1
    rw [Int32.lt_iff_toInt_lt] at a
    rw [Int32.le_iff_toInt_le] at d
    omega
  · exact z
  · have a := k3 b0 z
    have d := j2 b k1
    rw [Int32.lt_iff_toInt_lt] at a
    rw [Int32.le_iff_toInt_le] at d
    omega
/-- no one of that club is to be placed: the reference passes over all -/
theorem r_clubskip (h : Inv w) (P : Nat → Bool) (b : Nat) (hb : b < 16) (hno : ∀ f, f < nF w → ¬ (due w c f = true ∧ sdn w f = 0 ∧ clb w f = b)) (v2 v3 v4 : Int32) (K : Int32 → Int32 → Int32 → Int32 → Int32 → Int32 → PG Int32) (Q : Int32 → GS → Prop) {v : GS} (hT : TD w v c L n P) (hK : ∀ v6, Ok (K (nI c) v2 v3 v4 (nI b) v6) v Q) : ∀ (t k m : Nat), k + t = nF w → t < m → Ok (lp_draws_425 m (nI c) v2 v3 v4 (nI b) (nI k) K) v Q := by
  have h96 := h.1.1.2.2
  intro t
  induction t with
  | zero =>
    intro k m h1 h2
    cases m with
    | zero => omega
    | succ m =>
      have hk : k = nF w := by omega
      rw [hk]
      unfold lp_draws_425
      exact Ok_rfN (hT.1.im2 h.1.1) (Ok_ite (fun _ => hK _) (fun z => absurd (Int32.le_refl _) z))
  | succ t ih =>
    intro k m h1 h2
    cases m with
    | zero => omega
    | succ m =>
      unfold lp_draws_425
      refine Ok_rfN (hT.1.im2 h.1.1) (Ok_ite (fun z => absurd z (nI_ge (by omega) (by omega))) (fun _ => ?_))
      obtain ⟨⟨c2, hc2, h5⟩, ⟨k6, hk6, h6⟩, -⟩ := h.1.2.2.1 k (by omega)
      have hcl : clb w k = k6 := by unfold clb; rw [h6.2]; exact nI_clamp (by omega)
      have hskip : Ok (pli (nI k + 1) (fun x => lp_draws_425 m (nI c) v2 v3 v4 (nI b) x K)) v Q := by
        refine Ok_li ?_
        rw [nI_1]
        exact ih (k + 1) m (by omega) (by omega)
      refine Ok_rdN rfl (by omega) (by decide) (hT.1.at (by decide) (by decide) (by decide) h6) (Ok_ite (fun e6 => ?_) (fun e6 => hskip))
      have hkb : k6 = b := (nI_eq (by omega) (by omega)).mp e6
      refine Ok_clR (ok_isOther h.1.2.2.1 h96 c k (by omega) hT.1) (fun r hr => ?_)
      rcases hr with ⟨-, hr⟩ | ⟨rfl, -⟩
      · exact absurd ⟨hr.1, hr.2, hcl.trans hkb⟩ (hno k (by omega))
      · exact Ok_ite (fun _ => hskip) (fun z => absurd rfl z)
end
