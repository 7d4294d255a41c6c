/-! ===== the clubs' turns, in step ===== -/
section
variable {B0 : Nat → Int32} {w : GS} {c L n : Nat} {u0 : MS} {ne ch : Nat}
def Uc (w : GS) (c : Nat) (C : Nat → Bool) (j : Nat) : Int32 := nI (if C j = true then 0 else oc w c j (nF w))
def Ac (w : GS) (c : Nat) (C : Nat → Bool) (j : Nat) : Int32 := if C j = true then -1 else nI (oc w c j (nF w))
def TurnP (B0 : Nat → Int32) (w : GS) (c L n : Nat) (u0 : MS) (ne ch : Nat) (v2 v3 : Int32) (m k : Nat) (v : GS) (u1 : MS) : Prop := ∃ v1 B1, CU u0 ne ch L u1 B1 ∧ TD w v1 c L n (due w c) ∧ SD B0 w c (2 ^ L) B1 v1 ∧ ∀ (K : Int32 → Int32 → Int32 → Int32 → PG Int32) (Q : Int32 → GS → Prop), (∀ v4, Ok (K (nI c) v2 v3 v4) v1 Q) → Ok (lp_draws_375 m (nI c) v2 v3 (nI k) K) v Q
theorem PO_next {w : GS} {c b : Nat} {C : Nat → Bool} {f : Nat} (hf : f < nF w) : PO w c C b (nF w) f = PO w c (fun j => if j = b then true else C j) 0 0 f := by
  refine PO_ext ⟨fun z => ⟨z.1, ?_⟩, fun z => ⟨z.1, ?_⟩⟩
  · rcases z.2 with y | y | y
    · exact Or.inl y
    · refine Or.inr (Or.inl ?_)
      show (if clb w f = b then true else C (clb w f)) = true
      rw [y]
      exact ite_self _
    · refine Or.inr (Or.inl ?_)
      show (if clb w f = b then true else C (clb w f)) = true
      rw [if_pos y.1]
  · rcases z.2 with y | y | y
    · exact Or.inl y
    · have y2 : (if clb w f = b then true else C (clb w f)) = true := y
      by_cases he : clb w f = b
      · exact Or.inr (Or.inr ⟨he, hf⟩)
      · rw [if_neg he] at y2
        exact Or.inr (Or.inl y2)
    · exact absurd y.2 (Nat.not_lt_zero _)
theorem PO_zero {w : GS} {c b : Nat} {C : Nat → Bool} {f : Nat} : PO w c C 0 0 f = PO w c C b 0 f := PO_ext ⟨fun z => ⟨z.1, z.2.imp id (fun y => y.imp id (fun u => absurd u.2 (Nat.not_lt_zero _)))⟩, fun z => ⟨z.1, z.2.imp id (fun y => y.imp id (fun u => absurd u.2 (Nat.not_lt_zero _)))⟩⟩
theorem Uc_in {w : GS} {c b : Nat} {C : Nat → Bool} {j : Nat} : Uc w c (fun j => if j = b then true else C j) j = if j = b then 0 else Uc w c C j := by
  unfold Uc
  by_cases h : j = b
  · simp only [h, if_true]
    rfl
  · simp only [h, if_false]
theorem Ac_in {w : GS} {c b : Nat} {C : Nat → Bool} {j : Nat} : Ac w c (fun j => if j = b then true else C j) j = if j = b then -1 else Ac w c C j := by
  unfold Ac
  by_cases h : j = b
  · simp only [h, if_true]
  · simp only [h, if_false]
theorem l_turns (hR : R0 B0 w) (h : Inv w) (hc : c < 4) (hL : L ≤ 5) (hnd : n = cb (due w c) (nF w)) (hn : n ≤ 2 ^ L) (v2 v3 : Int32) :
    ∀ (t k m g : Nat) (C : Nat → Bool) (u : MS) (v : GS) (B : Nat → Int32), k + t = 16 → t < m → cb C 16 = k → CU u0 ne ch L u B → TD w v c L n (PO w c C 0 0) → SD B0 w c (2 ^ L) B v → (∀ j, j < 16 → u.2 12 j = Uc w c C j ∧ Am v 59 j (Ac w c C j)) → CQ (xl_X2_placeOthers_84 g (nI c) (nI n) (nI k) (fun _ _ _ => art 0)) u (fun _ u1 => TurnP B0 w c L n u0 ne ch v2 v3 m k v u1) := by
  have h96 := h.1.1.2.2
  have eF : B0 2 = nI (nF w) := hR.nf.symm.trans h.1.1.2.1
  intro t
  induction t with
  | zero =>
    intro k m g C u v B h1 h2 hC hU hT hS hO
    cases g with
    | zero => exact fun r w c d e => by cases e
    | succ g =>
      cases m with
      | zero => omega
      | succ m =>
        have : k = 16 := by omega
        subst this
        unfold xl_X2_placeOthers_84
        refine CQ_ite (fun _ => CQ_rt ⟨v, B, hU, hT.congr (fun f hf => ?_), hS, fun K Q hK => ?_⟩) (fun z => absurd (Int32.le_refl _) z)
        · obtain ⟨-, ⟨k6, hk6, h6⟩, -⟩ := h.1.2.2.1 f hf
          have hcl : clb w f = k6 := by unfold clb; rw [h6.2]; exact nI_clamp (by omega)
          have hall := cb_all 16 hC k6 hk6
          cases hd : due w c f with
          | true => exact PO_iff.mpr ⟨hd, Or.inr (Or.inl (by rw [hcl]; exact hall))⟩
          | false =>
            cases hz : PO w c C 0 0 f with
            | false => rfl
            | true =>
              have := (PO_iff.mp hz).1
              rw [hd] at this
              cases this
        · unfold lp_draws_375
          exact Ok_ite (fun _ => hK _) (fun z => absurd (Int32.le_refl _) z)
  | succ t ih =>
    intro k m g C u v B h1 h2 hC hU hT hS hO
    cases g with
    | zero => exact fun r w c d e => by cases e
    | succ g =>
      cases m with
      | zero => omega
      | succ m =>
        have h16 : ¬ 16 ≤ nI k := nI_ge (b := 16) (by omega) (by decide)
        obtain ⟨b0, hM⟩ := fst_ex (v.1.2 59)
        have hb0 := hM.1
        have hmk : ∀ j, j < 16 → v.2.2 59 j = true := fun j hj => (hO j hj).2.1
        have hv : ∀ j, j < 16 → v.1.2 59 j = Ac w c C j := fun j hj => (hO j hj).2.2
        have hle96 : ∀ j, oc w c j (nF w) ≤ 96 := fun j => Nat.le_trans oc_le h96
        have hCb : C b0 = false := by
          cases hz : C b0 with
          | false => rfl
          | true =>
            obtain ⟨y, hy, hy2⟩ := cb_free (P := C) 16 (by omega)
            have h5 := hM.2.1 y hy
            rw [hv y hy, hv b0 hb0] at h5
            unfold Ac at h5
            rw [if_neg (by rw [hy2]; decide), if_pos hz, Int32.le_iff_toInt_le, nI_toInt (by have := hle96 y; omega)] at h5
            have h6 : (-1 : Int32).toInt = -1 := by decide
            omega
        have hCb2 : ¬ C b0 = true := by rw [hCb]; decide
        have hCi : cb (fun j => if j = b0 then true else C j) 16 = k + 1 := by
          rw [cb_add (P := C) (Q := fun j => if j = b0 then true else C j) b0 hCb (by simp) (fun g hg => by simp [hg]) 16 hb0, hC]
        have eA : v.1.2 59 b0 = nI (oc w c b0 (nF w)) := by
          rw [hv b0 hb0]
          unfold Ac
          rw [if_neg hCb2]
        have eU : u.2 12 b0 = nI (oc w c b0 (nF w)) := by
          rw [(hO b0 hb0).1]
          unfold Uc
          rw [if_neg hCb2]
        have hmax : ∀ y, y < 16 → ¬ C y = true → oc w c y (nF w) ≤ oc w c b0 (nF w) := fun y hy hcy => by
          have h5 := hM.2.1 y hy
          rw [hv y hy, eA] at h5
          unfold Ac at h5
          rw [if_neg hcy] at h5
          exact (nI_leI (by have := hle96 y; omega) (by have := hle96 b0; omega)).mp h5
        have hT1 : TD w v c L n (PO w c C b0 0) := hT.congr (fun f _ => PO_zero)
        have hbig : ∀ (K : Int32 → Int32 → Int32 → Int32 → Int32 → Int32 → PG Int32) (Q : Int32 → GS → Prop), (∀ v6, Ok (K (nI c) v2 v3 (nI k) (nI b0) v6) v Q) → Ok (lp_draws_388 fuel (nI c) v2 v3 (nI k) 0 1 K) v Q := fun K Q hK => r_large c v2 v3 (nI k) hmk K Q b0 hM hK 15 1 0 fuel (by omega) (by unfold fuel; omega) (by omega) (by omega) (fun y hy => by
          have : y = 0 := by omega
          rw [this]
          exact Int32.le_refl _) (fun y hy => absurd hy (Nat.not_lt_zero _))
        unfold xl_X2_placeOthers_84
        refine CQ_ite (fun z => absurd z h16) (fun _ => CQ_nl (CN.mono (c_large u) (fun r0 u9 y => ?_)))
        obtain ⟨rfl, b, rfl, hF⟩ := y
        by_cases h0 : oc w c b0 (nF w) = 0
        · -- nobody is left to be placed in this way
          have hb := hF.1
          have ub0 : u9.2 12 b = 0 := by
            rw [(hO b hb).1]
            unfold Uc
            by_cases hz : C b = true
            · rw [if_pos hz]
              rfl
            · have := hmax b hb hz
              rw [if_neg hz, show oc w c b (nF w) = 0 by omega]
              rfl
          have hcl : CQ (x_X2_placeClub (nI c) (nI b) (nI n)) u9 (fun _ v => v = u9) := by
            unfold x_X2_placeClub
            unfold fuel
            unfold xl_X2_placeClub_3
            have g12 : nGT 12 16 (nI b) u9 = some (0, u9) := by
              show some (rg (u9.2 12) 16 (nI b), u9) = _
              rw [rg_in hb (by decide), ub0]
            refine CQ_at (j := 2) (x := nI (nF w)) rfl (by decide) ?_ (CQ_ite (fun _ => CQ_rt rfl) (fun _ => CQ_rd g12 (CQ_ite (fun _ => CQ_rt rfl) (fun z => absurd (Int32.le_refl _) z))))
            rw [hU.2.1, hS.2.2.1 2 (by omega) (fun f _ _ => by omega), eF]
          refine CQ_cl (CQ.mono hcl (fun _ v9 ev => ?_))
          subst ev
          refine CQ_ST ?_
          rw [wrN _ hb (by decide)]
          have hno := oc_0 h0
          have hT2 : TD w (swd 59 (nI b0) (-1) v) c L n (PO w c (fun j => if j = b0 then true else C j) 0 0) := (hT1.congr (fun f hf => by
            rw [← PO_next hf]
            refine PO_ext ⟨fun z => ⟨z.1, z.2.imp id (fun y => y.imp id (fun u => ⟨u.1, hf⟩))⟩, fun z => ⟨z.1, ?_⟩⟩
            rcases z.2 with y | y | y
            · exact Or.inl y
            · exact Or.inr (Or.inl y)
            · by_cases hs : sdn w f = 0
              · exact absurd ⟨z.1, hs, y.1⟩ (hno f hf)
              · exact Or.inl (by omega))).w59 _ _
          have h8 := ih (k + 1) m g (fun j => if j = b0 then true else C j) _ _ B (by omega) (by omega) hCi (hU.s12 (v := sf v9 12 (upd (v9.2 12) b 0)) (Same_sf (by decide))) hT2 (hS.w (by decide)) (fun j hj => by
            rw [sfE, Uc_in, Ac_in]
            refine ⟨?_, ?_⟩
            · have e0 : (if j = b0 then 0 else Uc w c C j) = v9.2 12 j := by
                by_cases he : j = b0
                · rw [if_pos he, he, eU, h0]
                  rfl
                · rw [if_neg he, (hO j hj).1]
              rw [e0]
              by_cases he : j = b
              · rw [he, upd_e, ub0]
              · rw [upd_n he]
            · by_cases he : j = b0
              · rw [if_pos he, he]
                exact sw_A (by omega)
              · rw [if_neg he]
                exact (hO j hj).2.sw (by omega) (fun z => he z.2))
          rw [← nI_1 k] at h8
          refine CQ_li (CQ.mono h8 (fun r u2 z => ?_))
          obtain ⟨v1, B1, z1, z2, z3, z5⟩ := z
          rw [← nI_1 k] at z5
          refine ⟨v1, B1, z1, z2, z3, fun K Q hK => ?_⟩
          unfold lp_draws_375
          refine Ok_ite (fun z => absurd z h16) (fun _ => hbig _ Q (fun v6 => ?_))
          exact r_clubskip h _ b0 hb0 hno v2 v3 (nI k) _ Q hT1 (fun v6 => Ok_wdN rfl hb0 (by decide) (Ok_li (z5 K Q hK))) (nF w) 0 fuel (by omega) (by unfold fuel; omega)
        · have hFb : FstM (u9.2 12) b0 := by
            refine ⟨hb0, fun y hy => ?_, fun y hy => ?_⟩
            · rw [eU, (hO y hy).1]
              unfold Uc
              by_cases hz : C y = true
              · rw [if_pos hz]
                exact (nI_leI (by omega) (by have := hle96 b0; omega)).mpr (by omega)
              · rw [if_neg hz]
                exact (nI_leI (by have := hle96 y; omega) (by have := hle96 b0; omega)).mpr (hmax y hy hz)
            · have hy16 : y < 16 := by omega
              rw [eU, (hO y hy16).1]
              unfold Uc
              by_cases hz : C y = true
              · rw [if_pos hz]
                exact Int32.not_le.mp (fun z => absurd ((nI_leI (by have := hle96 b0; omega) (by omega)).mp z) (by omega))
              · rw [if_neg hz]
                have h5 := hM.2.2 y hy
                rw [hv y hy16, eA] at h5
                unfold Ac at h5
                rw [if_neg hz] at h5
                exact h5
          have hbb := hF.un hFb
          subst hbb
          refine CQ_cl (CQ.mono (l_club hR h hc hL hnd hn hb0 C hCb (by omega) (hle96 b) v2 v3 (nI k) (Uc w c C) (Ac w c C) (by unfold Uc; rw [if_neg hCb2]) (nF w) 0 fuel fuel u9 v B (by omega) (by unfold fuel; omega) hU hT1 hS hO) (fun _ u3 z => ?_))
          obtain ⟨v3', B3, y1, y2, y3, y4, y5⟩ := z
          refine CQ_ST ?_
          rw [wrN _ hb0 (by decide)]
          have hT2 : TD w (swd 59 (nI b) (-1) v3') c L n (PO w c (fun j => if j = b then true else C j) 0 0) := (y2.congr (fun f hf => PO_next hf)).w59 _ _
          have h8 := ih (k + 1) m g (fun j => if j = b then true else C j) _ _ B3 (by omega) (by omega) hCi (y1.s12 (v := sf u3 12 (upd (u3.2 12) b 0)) (Same_sf (by decide))) hT2 (y3.w (by decide)) (fun j hj => by
            rw [sfE, Uc_in, Ac_in]
            by_cases he : j = b
            · rw [if_pos he, if_pos he, he, upd_e]
              exact ⟨rfl, sw_A (by omega)⟩
            · rw [if_neg he, if_neg he, upd_n he]
              exact ⟨(y4 j hj).1, (y4 j hj).2.sw (by omega) (fun z => he z.2)⟩)
          rw [← nI_1 k] at h8
          refine CQ_li (CQ.mono h8 (fun r u2 z => ?_))
          obtain ⟨v1, B1, z1, z2, z3, z5⟩ := z
          rw [← nI_1 k] at z5
          refine ⟨v1, B1, z1, z2, z3, fun K Q hK => ?_⟩
          unfold lp_draws_375
          refine Ok_ite (fun z => absurd z h16) (fun _ => hbig _ Q (fun v6 => ?_))
          exact y5 _ Q (fun v6 => Ok_wdN rfl hb0 (by decide) (Ok_li (z5 K Q hK)))
end
