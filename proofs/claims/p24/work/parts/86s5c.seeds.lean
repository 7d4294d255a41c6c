/-! ===== the seeds, in step ===== -/
def CU (u0 : MS) (n ch L : Nat) (u : MS) (B : Nat → Int32) : Prop := EntS u0 u n ch ∧ u.2 0 = B ∧ RowU u L ∧ u.2 13 = u0.2 13 ∧ u.2 14 = u0.2 14 ∧ u.2 15 = u0.2 15 ∧ u.2 16 = u0.2 16
theorem CU.pt {u0 u v : MS} {n ch L : Nat} {B B2 : Nat → Int32} (h : CU u0 n ch L u B) (hp : Pt u v) (hB : v.2 0 = B2) : CU u0 n ch L v B2 := by
  obtain ⟨a, b, d, e1, e2, e3, e4⟩ := h
  refine ⟨a.pt hp, hB, fun x hx => ?_, (hp.2.2 13 (by decide)).trans e1, (hp.2.2 14 (by decide)).trans e2, (hp.2.2 15 (by decide)).trans e3, (hp.2.2 16 (by decide)).trans e4⟩
  rw [hp.2.2 11 (by decide)]
  exact d x hx
theorem CU.s12 {u0 u v : MS} {n ch L : Nat} {B : Nat → Int32} (h : CU u0 n ch L u B) (hs : Same [] [12] u v) : CU u0 n ch L v B := by
  obtain ⟨a, b, d, e1, e2, e3, e4⟩ := h
  refine ⟨a.same (hs.mono (by decide) (by decide)), (hs.2 0 (by decide)).trans b, fun x hx => ?_, (hs.2 13 (by decide)).trans e1, (hs.2 14 (by decide)).trans e2, (hs.2 15 (by decide)).trans e3, (hs.2 16 (by decide)).trans e4⟩
  rw [hs.2 11 (by decide)]
  exact d x hx
theorem CU.kl {u0 u : MS} {n ch L : Nat} {B : Nat → Int32} (h : CU u0 n ch L u B) : Pt u u := by
  obtain ⟨ch2, C2, hK⟩ := h.1.2.2.2.1.kl
  exact Pt.rf hK
/-- a fighter's cells, on both sides -/
theorem ftr_of {B0 : Nat → Int32} {w : GS} {k : Nat} (hR : R0 B0 w) (hI : Inv w) (hk : k < nF w) : ∃ k6 q9, k6 < 16 ∧ q9 ≤ 8 ∧ B0 (149 + 7 * k) = nI k6 ∧ B0 (152 + 7 * k) = nI q9 ∧ clb w k = k6 ∧ sdn w k = q9 ∧ Am w 6 k (nI k6) ∧ Am w 9 k (nI q9) ∧ Am w 5 k (B0 (148 + 7 * k)) ∧ Am w 8 k (B0 (151 + 7 * k)) := by
  obtain ⟨-, ⟨k6, hk6, h6⟩, -, -, ⟨q9, hq9, h9⟩, -⟩ := hI.1.2.2.1 k hk
  obtain ⟨a5, a6, a7, a8, a9, -⟩ := hR.2.2.1 k hk
  refine ⟨k6, q9, hk6, hq9, a6.inj h6, a9.inj h9, ?_, ?_, h6, h9, a5, a8⟩
  · unfold clb; rw [h6.2]; exact nI_clamp (by omega)
  · unfold sdn; rw [h9.2]; exact nI_clamp (by omega)
section
variable {B0 : Nat → Int32} {w : GS} {c L n : Nat} {u0 : MS} {ne ch : Nat}
theorem l_seeds1 (hR : R0 B0 w) (h : Inv w) (hc : c < 4) (hL : L ≤ 5) (hnd : n = cb (due w c) (nF w)) (hn : n ≤ 2 ^ L) (q : Nat) (hq1 : 1 ≤ q) (hq8 : q ≤ 8) (v2 : Int32) (KC : Int32 → Int32 → Int32 → Int32 → AG Int32) (KR : Int32 → Int32 → Int32 → Int32 → Int32 → PG Int32) (Q : Int32 → MS → Int32 → GS → Prop)
    (hK : ∀ u v B k4 v5, CU u0 ne ch L u B → TD w v c L n (PS w c (q + 1) 0) → Fre v L n (cb (PS w c (q + 1) 0) (nF w)) → SD B0 w c (2 ^ L) B v → CQ (KC (nI c) (nI (cb (PS w c (q + 1) 0) (nF w))) (nI q) k4) u (fun r x => Ok (KR (nI c) v2 (nI (cb (PS w c (q + 1) 0) (nF w))) (nI q) v5) v (Q r x))) :
    ∀ (t k m f : Nat) (u : MS) (v : GS) (B : Nat → Int32), k + t = nF w → t < m → CU u0 ne ch L u B → TD w v c L n (PS w c q k) → Fre v L n (cb (PS w c q k) (nF w)) → SD B0 w c (2 ^ L) B v → CQ (xl_X2_placeSeeds_13 f (nI c) (nI (cb (PS w c q k) (nF w))) (nI q) (nI k) KC) u (fun r x => Ok (lp_draws_230 m (nI c) v2 (nI (cb (PS w c q k) (nF w))) (nI q) (nI k) KR) v (Q r x)) := by
  have h32 := pow_lt32 hL
  have h96 := h.1.1.2.2
  have eF : B0 2 = nI (nF w) := hR.nf.symm.trans h.1.1.2.1
  intro t
  induction t with
  | zero =>
    intro k m f u v B h1 h2 hU hT hFr hS
    have hk : k = nF w := by omega
    cases f with
    | zero => exact fun r w c d e => by cases e
    | succ f =>
      cases m with
      | zero => omega
      | succ m =>
        rw [hk] at hT hFr ⊢
        have he : ∀ f, f < nF w → PS w c q (nF w) f = PS w c (q + 1) 0 f := by
          intro f hf
          refine PS_ext ⟨fun z => ⟨z.1, z.2.1, ?_⟩, fun z => ⟨z.1, z.2.1, ?_⟩⟩
          · rcases z.2.2 with z2 | z2
            · exact Or.inl (by omega)
            · exact Or.inl (by omega)
          · rcases z.2.2 with z2 | z2
            · by_cases h9 : sdn w f = q
              · exact Or.inr ⟨h9, hf⟩
              · exact Or.inl (by omega)
            · exact absurd z2.2 (Nat.not_lt_zero _)
        have e2 := cb_congr (nF w) he
        rw [e2] at hFr ⊢
        have hgo : ∀ r x, Ok (KR (nI c) v2 (nI (cb (PS w c (q + 1) 0) (nF w))) (nI q) (nI (nF w))) v (Q r x) → Ok (lp_draws_230 (m + 1) (nI c) v2 (nI (cb (PS w c (q + 1) 0) (nF w))) (nI q) (nI (nF w)) KR) v (Q r x) := fun r x z => by
          unfold lp_draws_230
          exact Ok_rfN (hT.1.im2 h.1.1) (Ok_ite (fun _ => z) (fun z => absurd (Int32.le_refl _) z))
        unfold xl_X2_placeSeeds_13
        refine CQ_at (j := 2) (x := nI (nF w)) rfl (by decide) ?_ (CQ_ite (fun _ => (hK u v B _ (nI (nF w)) hU (hT.congr he) hFr hS).mono (fun r x z => hgo r x z)) (fun z => absurd (Int32.le_refl _) z))
        rw [hU.2.1, hS.2.2.1 2 (by omega) (fun f _ _ => by omega), eF]
  | succ t ih =>
    intro k m f u v B h1 h2 hU hT hFr hS
    cases f with
    | zero => exact fun r w c d e => by cases e
    | succ f =>
      cases m with
      | zero => omega
      | succ m =>
        obtain ⟨k6, q9, hk6, hq9, eb6, eb9, ecl, esd, h6, h9, a5, a8⟩ := ftr_of hR h (show k < nF w by omega)
        have hle : ¬ nI (nF w) ≤ nI k := fun z => absurd ((nI_leI (by omega) (by omega)).mp z) (by omega)
        have e9 : B (148 + 7 * k + 4) = nI q9 := by
          rw [hS.2.2.1.ft (k := 4) (Or.inl (by decide)) hc, show 148 + 7 * k + 4 = 152 + 7 * k by omega]
          exact eb9
        have rskip : ¬ (due w c k = true ∧ sdn w k = q) → ∀ Q' : Int32 → GS → Prop, Ok (pli (nI k + 1) (fun x => lp_draws_230 m (nI c) v2 (nI (cb (PS w c q k) (nF w))) (nI q) x KR)) v Q' → Ok (lp_draws_230 (m + 1) (nI c) v2 (nI (cb (PS w c q k) (nF w))) (nI q) (nI k) KR) v Q' := fun hno Q' hQ => by
          unfold lp_draws_230
          refine Ok_rfN (hT.1.im2 h.1.1) (Ok_ite (fun z => absurd z hle) (fun _ => ?_))
          refine Ok_rdN rfl (by omega) (by decide) (hT.1.at (by decide) (by decide) (by decide) a5) (Ok_ite (fun e5 => ?_) (fun e5 => hQ))
          refine Ok_rdN rfl (by omega) (by decide) (hT.1.at (by decide) (by decide) (by decide) a8) (Ok_ite (fun e8 => ?_) (fun e8 => hQ))
          refine Ok_rdN rfl (by omega) (by decide) (hT.1.at (by decide) (by decide) (by decide) h9) (Ok_ite (fun z9 => ?_) (fun z9 => hQ))
          exact absurd ⟨due_iff.mpr ⟨a5.2.trans e5, a8.2.trans e8⟩, by rw [esd]; exact (nI_eq (by omega) (by omega)).mp z9⟩ hno
        have hskip : ¬ (due w c k = true ∧ sdn w k = q) → CQ (ali (nI k + 1) (fun x => xl_X2_placeSeeds_13 f (nI c) (nI (cb (PS w c q k) (nF w))) (nI q) x KC)) u (fun r x => Ok (lp_draws_230 (m + 1) (nI c) v2 (nI (cb (PS w c q k) (nF w))) (nI q) (nI k) KR) v (Q r x)) := fun hno => by
          have he : ∀ f, f < nF w → PS w c q k f = PS w c q (k + 1) f := by
            intro f hf
            refine PS_ext ⟨fun z => ⟨z.1, z.2.1, z.2.2.imp id (fun y => ⟨y.1, by omega⟩)⟩, fun z => ⟨z.1, z.2.1, z.2.2.imp id (fun y => ⟨y.1, ?_⟩)⟩⟩
            by_cases hz : f = k
            · subst hz
              exact absurd ⟨z.1, y.1⟩ hno
            · omega
          have e2 := cb_congr (nF w) he
          have h8 := ih (k + 1) m f u v B (by omega) (by omega) hU (hT.congr he) (by rw [← e2]; exact hFr) hS
          rw [← e2, ← nI_1 k] at h8
          exact CQ.mono (p := xl_X2_placeSeeds_13 f (nI c) (nI (cb (PS w c q k) (nF w))) (nI q) (nI k + 1) KC) h8 (fun r x z => rskip hno _ z)
        unfold xl_X2_placeSeeds_13
        refine CQ_at (j := 2) (x := nI (nF w)) rfl (by decide) ?_ (CQ_ite (fun z => absurd z hle) (fun _ => CQ_rd (e_isWeighed hU.2.1 hS.2.2.1 hR (by omega) (by omega) hc) ?_))
        · rw [hU.2.1, hS.2.2.1 2 (by omega) (fun f _ _ => by omega), eF]
        by_cases hdue : due w c k = true
        rotate_left
        · rw [if_neg hdue]
          exact CQ_ite (fun _ => hskip (fun z => hdue z.1)) (fun z => absurd rfl z)
        rw [if_pos hdue]
        refine CQ_ite (fun z => absurd z (by decide)) (fun _ => CQ_oP (k := 4) rfl (CQ_at (x := nI q9) rfl (by omega) (by rw [hU.2.1]; exact e9) (CQ_ite (fun z9 => ?_) (fun z9 => hskip (fun z => z9 (by rw [← esd, z.2]))))))
        have hqq : q9 = q := (nI_eq (by omega) (by omega)).mp z9
        have hP : PS w c q k k = false := by
          cases hz : PS w c q k k with
          | false => rfl
          | true =>
            have := PS_iff.mp hz
            rcases this.2.2 with z | z
            · omega
            · omega
        have hQ : PS w c q (k + 1) k = true := PS_iff.mpr ⟨hdue, by omega, Or.inr ⟨by omega, by omega⟩⟩
        have hPQ : ∀ g, ¬ g = k → PS w c q (k + 1) g = PS w c q k g := by
          intro g hg
          refine PS_ext ⟨fun z => ⟨z.1, z.2.1, z.2.2.imp id (fun y => ⟨y.1, by omega⟩)⟩, fun z => ⟨z.1, z.2.1, z.2.2.imp id (fun y => ⟨y.1, by omega⟩)⟩⟩
        have hlt : cb (PS w c q k) (nF w) < n := by
          rw [hnd]
          exact cb_sub_lt (nF w) k (by omega) (fun g _ z => (PS_iff.mp z).1) hP hdue
        have hcb := cb_add (P := PS w c q k) (Q := PS w c q (k + 1)) k hP hQ hPQ (nF w) (by omega)
        have hp := rowf_lt L (by omega) (cb (PS w c q k) (nF w)) (by omega) (by omega)
        have e5 : B0 (148 + 7 * k) = nI c := a5.2.symm.trans (due_iff.mp hdue).1
        have hT2 := td_settle hT hc hL hn h96 (cb (PS w c q k) (nF w)) k hlt (hFr _ (Nat.le_refl _) hlt) (by omega) hP hQ hPQ ⟨a5.1, (due_iff.mp hdue).1⟩
        have hS2 := hS.st1 hc h32 h96 (f := k) (by omega) hp e5
        have hFr2 : Fre (st1 c k (rowf L (cb (PS w c q k) (nF w))) v) L n (cb (PS w c q (k + 1)) (nF w)) := by
          rw [hcb]
          exact fun x hx1 hx2 => st1_60n c k _ v (by omega) _ 0 (fun he => by
            have := rowf_inj L (by omega) x (by omega) (cb (PS w c q k) (nF w)) (by omega) ⟨by omega, by omega, he⟩
            omega) (hFr x (by omega) hx2)
        have g11 : nGT 11 32 (nI (cb (PS w c q k) (nF w))) u = some (nI (rowf L (cb (PS w c q k) (nF w))), u) := by
          show some (rg (u.2 11) 32 (nI (cb (PS w c q k) (nF w))), u) = _
          rw [rg_in (by omega) (by decide), hU.2.2.1 _ (by omega)]
        refine CQ_rd g11 (CQ_one hU.kl hU.2.1 hc (by omega) (by omega) (fun _ u1 p1 b1 => ?_))
        have h8 := ih (k + 1) m f u1 _ _ (by omega) (by omega) (hU.pt p1 b1) hT2 hFr2 hS2
        rw [hcb, ← nI_1 k, ← nI_1 (cb (PS w c q k) (nF w))] at h8
        refine CQ_li (CQ_li (CQ.mono h8 (fun r x z => ?_)))
        unfold lp_draws_230
        refine Ok_rfN (hT.1.im2 h.1.1) (Ok_ite (fun z => absurd z hle) (fun _ => ?_))
        refine Ok_rdN rfl (by omega) (by decide) (hT.1.at (by decide) (by decide) (by decide) a5) (Ok_ite (fun _ => ?_) (fun y => absurd e5 y))
        refine Ok_rdN rfl (by omega) (by decide) (hT.1.at (by decide) (by decide) (by decide) a8) (Ok_ite (fun _ => ?_) (fun y => absurd (a8.2.symm.trans (due_iff.mp hdue).2) y))
        refine Ok_rdN rfl (by omega) (by decide) (hT.1.at (by decide) (by decide) (by decide) h9) (Ok_ite (fun _ => ?_) (fun y => absurd z9 y))
        refine Ok_rdN rfl (by omega) (by decide) (hT.2.2.2.1 _ (by omega)) ?_
        exact Ok_cl (ok_settle c k _ hc (by omega) (by omega) _ (Ok_li (Ok_li z)))
theorem l_seeds (hR : R0 B0 w) (h : Inv w) (hc : c < 4) (hL : L ≤ 5) (hnd : n = cb (due w c) (nF w)) (hn : n ≤ 2 ^ L) (v2 : Int32) (KC : Int32 → Int32 → Int32 → AG Int32) (KR : Int32 → Int32 → Int32 → Int32 → PG Int32) (Q : Int32 → MS → Int32 → GS → Prop)
    (hK : ∀ u v B x1 x2 v3 v4, CU u0 ne ch L u B → TD w v c L n (PS w c 9 0) → SD B0 w c (2 ^ L) B v → CQ (KC (nI c) x1 x2) u (fun r x => Ok (KR (nI c) v2 v3 v4) v (Q r x))) :
    ∀ (t q m f : Nat) (u : MS) (v : GS) (B : Nat → Int32), q + t = 9 → t < m → 1 ≤ q → CU u0 ne ch L u B → TD w v c L n (PS w c q 0) → Fre v L n (cb (PS w c q 0) (nF w)) → SD B0 w c (2 ^ L) B v → CQ (xl_X2_placeSeeds_4 f (nI c) (nI (cb (PS w c q 0) (nF w))) (nI q) KC) u (fun r x => Ok (lp_draws_220 m (nI c) v2 (nI (cb (PS w c q 0) (nF w))) (nI q) KR) v (Q r x)) := by
  intro t
  induction t with
  | zero =>
    intro q m f u v B h1 h2 hq hU hT hFr hS
    cases f with
    | zero => exact fun r w c d e => by cases e
    | succ f =>
      cases m with
      | zero => omega
      | succ m =>
        have : q = 9 := by omega
        subst this
        unfold xl_X2_placeSeeds_4
        refine CQ_ite (fun _ => (hK u v B _ _ (nI (cb (PS w c 9 0) (nF w))) (nI 9) hU hT hS).mono (fun r x z => ?_)) (fun z => absurd (by decide) z)
        unfold lp_draws_220
        exact Ok_ite (fun _ => z) (fun z => absurd (by decide) z)
  | succ t ih =>
    intro q m f u v B h1 h2 hq hU hT hFr hS
    cases f with
    | zero => exact fun r w c d e => by cases e
    | succ f =>
      cases m with
      | zero => omega
      | succ m =>
        have h8 : ¬ 8 < nI q := nI_nlt (b := q) (a := 8) (by omega) (by decide)
        unfold xl_X2_placeSeeds_4
        refine CQ_ite (fun z => absurd z h8) (fun _ => ?_)
        refine CQ.mono (l_seeds1 hR h hc hL hnd hn q hq (by omega) v2 _ (fun v1 v2 v3 v4 v5 => pli (v4 + 1) (fun x_75 => lp_draws_220 m v1 v2 v3 x_75 KR)) Q (fun u' v' B' k4 v5 a1 a2 a3 a4 => ?_) (nF w) 0 fuel fuel u v B (by omega) (by have := h.1.1.2.2; unfold fuel; omega) hU hT hFr hS) (fun r x z => ?_)
        · have h9 := ih (q + 1) m f u' v' B' (by omega) (by omega) (by omega) a1 a2 a3 a4
          rw [← nI_1 q] at h9
          exact h9
        · unfold lp_draws_220
          exact Ok_ite (fun z => absurd z h8) (fun _ => z)
end
