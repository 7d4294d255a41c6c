/-! ===== a club's turn, in step ===== -/
section
variable {B0 : Nat → Int32} {w : GS} {c L n : Nat} {u0 : MS} {ne ch : Nat}
def ClubP (B0 : Nat → Int32) (w : GS) (c L n : Nat) (u0 : MS) (ne ch b : Nat) (C : Nat → Bool) (v2 v3 v4 : Int32) (U A : Nat → Int32) (m k : Nat) (v : GS) (u1 : MS) : Prop := ∃ v1 B1, CU u0 ne ch L u1 B1 ∧ TD w v1 c L n (PO w c C b (nF w)) ∧ SD B0 w c (2 ^ L) B1 v1 ∧ (∀ j, j < 16 → u1.2 12 j = U j ∧ Am v1 59 j (A j)) ∧ ∀ (K : Int32 → Int32 → Int32 → Int32 → Int32 → Int32 → PG Int32) (Q : Int32 → GS → Prop), (∀ v6, Ok (K (nI c) v2 v3 v4 (nI b) v6) v1 Q) → Ok (lp_draws_425 m (nI c) v2 v3 v4 (nI b) (nI k) K) v Q
theorem l_club (hR : R0 B0 w) (h : Inv w) (hc : c < 4) (hL : L ≤ 5) (hnd : n = cb (due w c) (nF w)) (hn : n ≤ 2 ^ L) {b : Nat} (hb : b < 16) (C : Nat → Bool) (hCb : C b = false) {q : Nat} (hq : 0 < q) (hq96 : q ≤ 96) (v2 v3 v4 : Int32) (U A : Nat → Int32) (hUb : U b = nI q) :
    ∀ (t k m g : Nat) (u : MS) (v : GS) (B : Nat → Int32), k + t = nF w → t < m → CU u0 ne ch L u B → TD w v c L n (PO w c C b k) → SD B0 w c (2 ^ L) B v → (∀ j, j < 16 → u.2 12 j = U j ∧ Am v 59 j (A j)) → CQ (xl_X2_placeClub_3 g (nI c) (nI b) (nI n) (nI k) (fun _ _ _ _ => art 0)) u (fun _ u1 => ClubP B0 w c L n u0 ne ch b C v2 v3 v4 U A m k v u1) := by
  have h96 := h.1.1.2.2
  have h32 := pow_lt32 hL
  have eF : B0 2 = nI (nF w) := hR.nf.symm.trans h.1.1.2.1
  intro t
  induction t with
  | zero =>
    intro k m g u v B h1 h2 hU hT hS hO
    have hk : k = nF w := by omega
    cases g with
    | zero => exact fun r w c d e => by cases e
    | succ g =>
      cases m with
      | zero => omega
      | succ m =>
        rw [hk] at hT ⊢
        unfold xl_X2_placeClub_3
        refine CQ_at (j := 2) (x := nI (nF w)) rfl (by decide) ?_ (CQ_ite (fun _ => CQ_rt ⟨v, B, hU, hT, hS, hO, fun K Q hK => ?_⟩) (fun z => absurd (Int32.le_refl _) z))
        · rw [hU.2.1, hS.2.2.1 2 (by omega) (fun f _ _ => by omega), eF]
        · unfold lp_draws_425
          exact Ok_rfN (hT.1.im2 h.1.1) (Ok_ite (fun _ => hK _) (fun z => absurd (Int32.le_refl _) z))
  | succ t ih =>
    intro k m g u v B h1 h2 hU hT hS hO
    cases g with
    | zero => exact fun r w c d e => by cases e
    | succ g =>
      cases m with
      | zero => omega
      | succ m =>
        obtain ⟨k6, q9, hk6, hq9, eb6, eb9, ecl, esd, h6, h9, a5, a8⟩ := ftr_of hR h (show k < nF w by omega)
        have hle : ¬ nI (nF w) ≤ nI k := fun z => absurd ((nI_leI (by omega) (by omega)).mp z) (by omega)
        have hskip : ¬ (due w c k = true ∧ sdn w k = 0 ∧ clb w k = b) → CQ (ali (nI k + 1) (fun x => xl_X2_placeClub_3 g (nI c) (nI b) (nI n) x (fun _ _ _ _ => art 0))) u (fun _ u1 => ClubP B0 w c L n u0 ne ch b C v2 v3 v4 U A (m + 1) k v u1) := fun hno => by
          have h8 := ih (k + 1) m g u v B (by omega) (by omega) hU (hT.congr (fun f hf => PO_ext ⟨fun z => ⟨z.1, z.2.imp id (fun y => y.imp id (fun u => ⟨u.1, by omega⟩))⟩, fun z => ⟨z.1, by
            rcases z.2 with y | y | y
            · exact Or.inl y
            · exact Or.inr (Or.inl y)
            · by_cases he : f = k
              · subst he
                by_cases hs : sdn w f = 0
                · exact absurd ⟨z.1, hs, y.1⟩ hno
                · exact Or.inl (by omega)
              · exact Or.inr (Or.inr ⟨y.1, by omega⟩)⟩⟩)) hS hO
          rw [← nI_1 k] at h8
          refine CQ.mono (p := xl_X2_placeClub_3 g (nI c) (nI b) (nI n) (nI k + 1) (fun _ _ _ _ => art 0)) h8 (fun r u1 z => ?_)
          obtain ⟨v1, B1, z1, z2, z3, z4, z5⟩ := z
          rw [← nI_1 k] at z5
          refine ⟨v1, B1, z1, z2, z3, z4, fun K Q hK => ?_⟩
          unfold lp_draws_425
          refine Ok_rfN (hT.1.im2 h.1.1) (Ok_ite (fun z => absurd z hle) (fun _ => Ok_rdN rfl (by omega) (by decide) (hT.1.at (by decide) (by decide) (by decide) h6) (Ok_ite (fun e6 => ?_) (fun e6 => z5 K Q hK))))
          refine Ok_clR (ok_isOther h.1.2.2.1 h96 c k (by omega) hT.1) (fun r hr => ?_)
          rcases hr with ⟨-, hr⟩ | ⟨rfl, -⟩
          · exact absurd ⟨hr.1, hr.2, ecl.trans ((nI_eq (by omega) (by omega)).mp e6)⟩ hno
          · exact Ok_ite (fun _ => z5 K Q hK) (fun z => absurd rfl z)
        have b6 : B (148 + 7 * k + 1) = nI k6 := by
          rw [hS.2.2.1.ft (k := 1) (Or.inl (by decide)) hc, show 148 + 7 * k + 1 = 149 + 7 * k by omega]
          exact eb6
        have g12 : nGT 12 16 (nI b) u = some (nI q, u) := by
          show some (rg (u.2 12) 16 (nI b), u) = _
          rw [rg_in hb (by decide), (hO b hb).1, hUb]
        unfold xl_X2_placeClub_3
        refine CQ_at (j := 2) (x := nI (nF w)) rfl (by decide) ?_ (CQ_ite (fun z => absurd z hle) (fun _ => CQ_rd g12 (CQ_ite (fun z => absurd ((nI_leI (a := q) (b := 0) (by omega) (by decide)).mp z) (by omega)) (fun _ => CQ_oP (k := 1) rfl (CQ_at (x := nI k6) rfl (by omega) (by rw [hU.2.1]; exact b6) (CQ_ite (fun e6 => ?_) (fun e6 => CQ_ite (fun _ => hskip (fun z => e6 (by rw [← ecl, z.2.2]))) (fun z => absurd rfl z))))))))
        · rw [hU.2.1, hS.2.2.1 2 (by omega) (fun f _ _ => by omega), eF]
        refine CQ_ite (fun z => absurd z (by decide)) (fun _ => CQ_rd (e_isWeighed hU.2.1 hS.2.2.1 hR (by omega) (by omega) hc) ?_)
        by_cases hdue : due w c k = true
        rotate_left
        · rw [if_neg hdue]
          exact CQ_ite (fun _ => hskip (fun z => hdue z.1)) (fun z => absurd rfl z)
        rw [if_pos hdue]
        refine CQ_ite (fun z => absurd z (by decide)) (fun _ => CQ_rd (e_isSeed hU.2.1 hS.2.2.1 hc (by omega) eb9 hq9) ?_)
        by_cases hs0 : q9 = 0
        rotate_left
        · rw [if_neg hs0]
          exact CQ_ite (fun z => absurd z (by decide)) (fun _ => hskip (fun z => hs0 (by rw [← esd]; exact z.2.1)))
        rw [if_pos hs0]
        refine CQ_ite (fun _ => CQ_nl (CN.mono (c_best (k := b) hU.2.1 hR h.1.2.2.1 h96 hc hL hn hT hS hU.2.2.1) (fun r0 u9 y => ?_))) (fun z => absurd rfl z)
        obtain ⟨rfl, y2⟩ := y
        have hkb : k6 = b := (nI_eq (by omega) (by omega)).mp e6
        have hsd0 : sdn w k = 0 := by rw [esd]; exact hs0
        have hP : PO w c C b k k = false := by
          cases hz : PO w c C b k k with
          | false => rfl
          | true =>
            rcases (PO_iff.mp hz).2 with y | y | y
            · omega
            · rw [ecl, hkb, hCb] at y
              cases y
            · omega
        have hQ : PO w c C b (k + 1) k = true := PO_iff.mpr ⟨hdue, Or.inr (Or.inr ⟨by omega, by omega⟩)⟩
        have hPQ : ∀ g, ¬ g = k → PO w c C b (k + 1) g = PO w c C b k g := fun g hg => PO_ext ⟨fun z => ⟨z.1, z.2.imp id (fun y => y.imp id (fun u => ⟨u.1, by omega⟩))⟩, fun z => ⟨z.1, z.2.imp id (fun y => y.imp id (fun u => ⟨u.1, by omega⟩))⟩⟩
        have hfree : ∃ x, x < n ∧ tkn v L x = false := by
          refine cb_free n ?_
          rw [hT.2.2.2.2.2.2, hnd]
          exact cb_sub_lt (nF w) k (by omega) (fun g _ z => (PO_iff.mp z).1) hP hdue
        have y3 := y2.and (ok_bestPlace h.1.2.2.1 h96 c L n _ hc hL hn hT hfree (nI b))
        obtain ⟨r9, v9, -, -, hr9, x, hx, hr8, hx0⟩ := y3
        have hr0 : r0 = nI (rowf L x) := hr9.symm.trans hr8
        subst hr0
        have hp := rowf_lt L (by omega) x (by omega) (by omega)
        have e5 : B0 (148 + 7 * k) = nI c := a5.2.symm.trans (due_iff.mp hdue).1
        refine CQ_one hU.kl hU.2.1 hc (by omega) (by omega) (fun _ u1 p1 b1 => ?_)
        have hO2 : ∀ j, j < 16 → u1.2 12 j = U j ∧ Am (st1 c k (rowf L x) v) 59 j (A j) := fun j hj => by
          obtain ⟨o1, o2⟩ := hO j hj
          unfold st1
          exact ⟨by rw [p1.2.2 12 (by decide)]; exact o1, Am.o (by decide) (Am.o (by decide) (Am.o (by decide) o2))⟩
        have h8 := ih (k + 1) m g u1 _ _ (by omega) (by omega) (hU.pt p1 b1) (td_settle hT hc hL hn h96 x k hx hx0 (by omega) hP hQ hPQ ⟨a5.1, (due_iff.mp hdue).1⟩) (hS.st1 hc h32 h96 (f := k) (by omega) hp e5) hO2
        rw [← nI_1 k] at h8
        refine CQ_li (CQ.mono h8 (fun r u2 z => ?_))
        obtain ⟨v1, B1, z1, z2, z3, z4, z5⟩ := z
        rw [← nI_1 k] at z5
        refine ⟨v1, B1, z1, z2, z3, z4, fun K Q hK => ?_⟩
        unfold lp_draws_425
        refine Ok_rfN (hT.1.im2 h.1.1) (Ok_ite (fun z => absurd z hle) (fun _ => Ok_rdN rfl (by omega) (by decide) (hT.1.at (by decide) (by decide) (by decide) h6) (Ok_ite (fun _ => ?_) (fun y => absurd e6 y))))
        refine Ok_clR (ok_isOther h.1.2.2.1 h96 c k (by omega) hT.1) (fun r hr => ?_)
        rcases hr with ⟨rfl, -⟩ | ⟨-, hr⟩
        · refine Ok_ite (fun z => absurd z (by decide)) (fun _ => ?_)
          refine Ok_rdN rfl hc (by decide) hT.2.2.1 (Ok_clR y2 (fun r hr => ?_))
          rw [hr]
          exact Ok_cl (ok_settle c k _ hc (by omega) (by omega) _ (Ok_li (z5 K Q hK)))
        · exact absurd ⟨hdue, hsd0⟩ hr
end
