/-! ===== the plan, the reference's side: plan() ===== -/
theorem r_41 {B : Nat → Int32} {F : Nat} {w : GS} (hB : PdK B F) (hW : Wst B w) (hF : nF w = F) (v1 v2 v3 v4 v5 : Int32) (K : Int32 → Int32 → Int32 → Int32 → Int32 → Int32 → PG Int32) (Q : Int32 → GS → Prop) (hK : ∀ v v6, PW w v → (∀ f, f < F → Am v 70 f (nI (pz0 B f))) → Ok (K v1 v2 v3 v4 v5 v6) v Q) : ∀ (t f m : Nat) (v : GS), f + t = F → t < m → PW w v → (∀ g, g < f → Am v 70 g (nI (pz0 B g))) → Ok (lp_plan_41 m v1 v2 v3 v4 v5 (nI f) K) v Q := by
  have h96 := hB.2.2.2.2.2.1
  have e2 := hB.2.2.2.2.2.2.2.2.2.2.1
  obtain ⟨hI, h13, hR, hNT, hMO, hKd, hDr⟩ := id hW
  intro t
  induction t with
  | zero =>
    intro f m v h1 h2 hP h70
    cases m with
    | zero => omega
    | succ m =>
      have : f = F := by omega
      subst this
      have i2 := (hP.r0 hR).1.1
      rw [e2] at i2
      unfold lp_plan_41
      exact Ok_rfN i2 (Ok_ite (fun _ => hK v _ hP h70) (fun z => absurd (Int32.le_refl _) z))
  | succ t ih =>
    intro f m v h1 h2 hP h70
    cases m with
    | zero => omega
    | succ m =>
      have hRv := hP.r0 hR
      have i2 := hRv.1.1
      rw [e2] at i2
      have hnv : nF v = F := by
        unfold nF
        rw [hP.1]
        exact hF
      have h11 := (hRv.2.2.1 f (by omega)).2.2.2.2.2.2
      have hs : ∀ z, z = nI (pz0 B f) → (∀ g, g < f + 1 → Am (swd 70 (nI f) z v) 70 g (nI (pz0 B g))) := fun z hz g hg => by
        by_cases he : g = f
        · rw [he, ← hz]
          exact sw_A (by omega)
        · exact sw_An (by omega) he (h70 g (by omega))
      have hz := (pz0_b hB (f := f) (by omega)).2
      unfold lp_plan_41
      refine Ok_rfN i2 (Ok_ite (fun z => absurd z (nI_ge (by omega) (by omega))) (fun _ => Ok_rdN rfl (by omega) (by decide) h11 ?_))
      rcases hz with e | ⟨z, hz1, e, ez⟩
      · rw [e]
        refine Ok_ite (fun _ => Ok_wdN rfl (by omega) (by decide) (Ok_li ?_)) (fun z => absurd rfl z)
        rw [nI_1]
        refine ih (f + 1) m _ (by omega) (by omega) (hP.wd (by decide) _ _) (hs 0 ?_)
        unfold pz0
        rw [if_pos e]
        rfl
      · rw [e] at h11
        rw [e]
        refine Ok_ite (fun y => absurd y (nI_ne_1 (by omega))) (fun _ => Ok_rdN rfl (by omega) (by decide) h11 (Ok_rfN (r_rest hB hRv) (Ok_wdN rfl (by omega) (by decide) (Ok_li ?_))))
        rw [nI_1, nI_add]
        exact ih (f + 1) m _ (by omega) (by omega) (hP.wd (by decide) _ _) (hs _ (by rw [ez]))
theorem r_93 {B : Nat → Int32} {F d : Nat} {w : GS} (hB : PdK B F) (hW : Wst B w) (v1 v3 v4 v5 : Int32) (K : Int32 → Int32 → Int32 → Int32 → Int32 → Int32 → PG Int32) (Q : Int32 → GS → Prop) (hK : ∀ v v6, RS B F d w 0 [] v → Ok (K v1 (nI d) v3 v4 v5 v6) v Q) : ∀ (t j m : Nat) (v : GS), j + t = 4 → t < m → PW w v → (∀ f, f < F → Am v 70 f (nI (pz0 B f))) → (∀ k, k < j → ∃ g, Am v 71 k (nI g) ∧ (g = (pS B d).2.2.2.1 k ∨ (g = 0 ∧ (pS B d).2.2.2.1 k = pdT B))) → Ok (lp_plan_93 m v1 (nI d) v3 v4 v5 (nI j) K) v Q := by
  have h96 := hB.2.2.2.2.2.1
  obtain ⟨hI, h13, hR, hNT, hMO, hKd, hDr⟩ := id hW
  intro t
  induction t with
  | zero =>
    intro j m v h1 h2 hP h70 h71
    cases m with
    | zero => omega
    | succ m =>
      have : j = 4 := by omega
      subst this
      unfold lp_plan_93
      refine Ok_ite (fun _ => hK v _ ⟨hP, fun f hf => ?_, h71, fun x hx => absurd hx (Nat.not_lt_zero _), fun x hx => absurd hx (Nat.not_lt_zero _), fun k x e => by simp at e, List.Pairwise.nil, fun x => ⟨fun z => absurd z List.not_mem_nil, fun z => absurd z.2.2 (Nat.not_lt_zero _)⟩⟩) (fun z => absurd (Int32.le_refl _) z)
      have e : (pkl B d (pOX B 0) (pdMs B)).2.2.1 f = pz0 B f := pfO_no (fun x z => by
        unfold pOX at z
        rw [Bool.and_eq_true, decide_eq_true_iff] at z
        exact absurd z.1 (Nat.not_lt_zero _))
      rw [e]
      exact h70 f hf
  | succ t ih =>
    intro j m v h1 h2 hP h70 h71
    cases m with
    | zero => omega
    | succ m =>
      have hRv := hP.r0 hR
      have hs : ∀ g, (g = (pS B d).2.2.2.1 j ∨ (g = 0 ∧ (pS B d).2.2.2.1 j = pdT B)) → (∀ k, k < j + 1 → ∃ g2, Am (swd 71 (nI j) (nI g) v) 71 k (nI g2) ∧ (g2 = (pS B d).2.2.2.1 k ∨ (g2 = 0 ∧ (pS B d).2.2.2.1 k = pdT B))) := fun g hg k hk => by
        by_cases he : k = j
        · rw [he]
          exact ⟨g, sw_A (by omega), hg⟩
        · obtain ⟨g2, z1, z2⟩ := h71 k (by omega)
          exact ⟨g2, sw_An (by omega) he z1, z2⟩
      have em : (pS B d).2.2.2.1 j = if pdMs B j = true then pdT B + d else pdT B := rfl
      unfold lp_plan_93
      refine Ok_ite (fun z => absurd ((nI_le4 (k := j) (n := 4) (by omega) (by decide)).mp z) (by omega)) (fun _ => ?_)
      rcases hRv.2.2.2.2.2 j (by omega) with ⟨e, a⟩ | ⟨c, i, hc, hi, e0, e1, a, -⟩
      · have hn : ¬ pdMs B j = true := by
          unfold pdMs pdM
          rw [if_pos e]
          decide
        rw [if_neg hn] at em
        refine Ok_rdN rfl (by omega) (by decide) a (Ok_ite (fun _ => Ok_wdN rfl (by omega) (by decide) (Ok_li ?_)) (fun z => absurd rfl z))
        rw [nI_1]
        exact ih (j + 1) m _ (by omega) (by omega) (hP.wd (by decide) _ _) (fun f hf => Am.o (by decide) (h70 f hf)) (hs 0 (Or.inr ⟨rfl, em⟩))
      · have hn : pdMs B j = true := by
          unfold pdMs pdM
          rw [if_neg (by rw [e1]; exact nI_ne_1 (by omega))]
          rfl
        rw [if_pos hn] at em
        refine Ok_rdN rfl (by omega) (by decide) a (Ok_ite (fun z => absurd z (nI_ne_1 (by omega))) (fun _ => Ok_rfN (r_min hB hRv) (Ok_wdN rfl (by omega) (by decide) (Ok_li ?_))))
        rw [nI_1, nI_add]
        exact ih (j + 1) m _ (by omega) (by omega) (hP.wd (by decide) _ _) (fun f hf => Am.o (by decide) (h70 f hf)) (hs _ (Or.inl em.symm))
theorem r_631 {B : Nat → Int32} {R : PlS} (v1 v2 v3 v4 v5 v6 : Int32) (K : Int32 → Int32 → Int32 → Int32 → Int32 → Int32 → Int32 → PG Int32) (Q : Int32 → GS → Prop) (hK : ∀ v v7, (∀ x, x < 160 → v.1.2 61 x = R.2.2.2.2.2.1 x ∧ v.1.2 62 x = R.2.2.2.2.2.2 x) → Ok (K v1 v2 v3 v4 v5 v6 v7) v Q) : ∀ (t x m : Nat) (v : GS), x + t = 160 → t < m → (∀ y, y < 160 → Am v 63 y (R.2.2.2.2.2.1 y) ∧ Am v 64 y (R.2.2.2.2.2.2 y)) → (∀ y, y < x → v.1.2 61 y = R.2.2.2.2.2.1 y ∧ v.1.2 62 y = R.2.2.2.2.2.2 y) → Ok (lp_plan_631 m v1 v2 v3 v4 v5 v6 (nI x) K) v Q := by
  intro t
  induction t with
  | zero =>
    intro x m v h1 h2 h6 h7
    cases m with
    | zero => omega
    | succ m =>
      have : x = 160 := by omega
      subst this
      unfold lp_plan_631
      exact Ok_ite (fun _ => hK v _ h7) (fun z => absurd (Int32.le_refl _) z)
  | succ t ih =>
    intro x m v h1 h2 h6 h7
    cases m with
    | zero => omega
    | succ m =>
      obtain ⟨a, b⟩ := h6 x (by omega)
      unfold lp_plan_631
      refine Ok_ite (fun z => absurd ((nI_le4 (k := x) (n := 160) (by omega) (by decide)).mp z) (by omega)) (fun _ => ?_)
      refine Ok_rdN rfl (by omega) (by decide) a (Ok_wdN rfl (by omega) (by decide) (Ok_rdN rfl (by omega) (by decide) (Am.o (by decide) b) (Ok_wdN rfl (by omega) (by decide) (Ok_li ?_))))
      rw [nI_1]
      refine ih (x + 1) m _ (by omega) (by omega) (fun y hy => ⟨Am.o (by decide) (Am.o (by decide) (h6 y hy).1), Am.o (by decide) (Am.o (by decide) (h6 y hy).2)⟩) (fun y hy => ?_)
      by_cases he : y = x
      · rw [he]
        refine ⟨?_, ?_⟩
        · rw [(sw_o (by decide)).1]
          exact (sw_A (w := v) (by omega)).2
        · exact (sw_A (by omega)).2
      · obtain ⟨z1, z2⟩ := h7 y (by omega)
        refine ⟨?_, ?_⟩
        · rw [(sw_o (by decide)).1, (sw_on (by omega) he).1]
          exact z1
        · rw [(sw_on (by omega) he).1, (sw_o (by decide)).1]
          exact z2
theorem r_plan {B : Nat → Int32} {F d M : Nat} {w : GS} {l : List Nat} (hl : l = plO B 3360) (hB : PdK B F) (hm : Pmt B) (hW : Wst B w) (hF : nF w = F) (hd : d ≤ 60) (hd1 : 1 ≤ d) (hM1 : 1 ≤ M) (hM4 : M ≤ 4) : Ok (f_plan (nI M) (nI d)) w (fun r v => r = nI (prun B d M 296 (pdT B) (pini B d l)).2.2.2.2.1 ∧ v.1.1 69 = 1 ∧ ∀ x, x < 160 → v.1.2 61 x = (prun B d M 296 (pdT B) (pini B d l)).2.2.2.2.2.1 x ∧ v.1.2 62 x = (prun B d M 296 (pdT B) (pini B d l)).2.2.2.2.2.2 x) := by
  have hT := hB.2.2.2.2.2.2.1
  have hP := pini_PI hl hB hd
  have hlen := hP.len hB
  obtain ⟨hend, hPe⟩ := prun_end hB hM1 hM4 hd 296 (pdT B) 1620 (pini B d l) hP (by omega) (by omega) (Or.inl (by omega))
  generalize hRr : prun B d M 296 (pdT B) (pini B d l) = R at hend hPe ⊢
  have i1 : (nI M).toInt64.toInt = (M : Int) := by rw [Int32.toInt_toInt64, nI_toInt (by omega)]
  have i2 : (nI d).toInt64.toInt = (d : Int) := by rw [Int32.toInt_toInt64, nI_toInt (by omega)]
  have c1 : (1 : Int64).toInt = 1 := by decide
  have c4 : (4 : Int64).toInt = 4 := by decide
  have c60 : (60 : Int64).toInt = 60 := by decide
  unfold f_plan
  refine Ok_clR (ok_in _ _ _ w) (fun r hr => ?_)
  rw [i1, c1, c4] at hr
  rcases hr with ⟨rfl, -⟩ | ⟨-, z⟩
  rotate_left
  · exact absurd ⟨by omega, by omega⟩ z
  refine Ok_ite (fun z => absurd z (by decide)) (fun _ => Ok_clR (ok_in _ _ _ w) (fun r hr => ?_))
  rw [i2, c1, c60] at hr
  rcases hr with ⟨rfl, -⟩ | ⟨-, z⟩
  rotate_left
  · exact absurd ⟨by omega, by omega⟩ z
  refine Ok_ite (fun z => absurd z (by decide)) (fun _ => Ok_rfN (r_min hB hW.2.2.1) ?_)
  refine r_41 hB hW hF _ _ _ _ _ _ _ (fun v v6 hPv h70 => ?_) F 0 fuel w (by omega) (by have := hB.2.2.2.2.2.1; unfold fuel; omega) ⟨rfl, rfl, fun _ _ => ⟨rfl, rfl⟩⟩ (fun g hg => absurd hg (Nat.not_lt_zero _))
  refine r_93 hB hW _ _ _ _ _ _ (fun v v6 h => ?_) 4 0 fuel v (by omega) (by unfold fuel; omega) hPv h70 (fun g hg => absurd hg (Nat.not_lt_zero _))
  have eL0 : pLE B d (40 * 0) = pdT B := by
    unfold pLE
    exact pfL_no (fun x z => by
      unfold pOX at z
      rw [Bool.and_eq_true, decide_eq_true_iff] at z
      exact absurd z.1 (Nat.not_lt_zero _))
  show Ok (lp_plan_136 fuel (nI M) (nI d) (nI ([] : List Nat).length) (nI (pdT B)) (nI ([] : List Nat).length) (nI 0) _) v _
  rw [← eL0]
  refine r_136 hB hm hW hF hd (nI M) _ _ (fun v v6 q hS => ?_) 4 0 fuel [] v (by omega) (by unfold fuel; omega) h
  obtain ⟨a1, a2, a3, a4, a5, a6, a7, a8⟩ := hS
  have eq0 : q = plO B 3360 := srt_eq a7 (plO_srt hB 3360) (fun x => by
    rw [a8 x, plO_mem hB]
    refine ⟨fun ⟨z1, z2, z3⟩ => ⟨z1, z2, ?_⟩, fun ⟨z1, z2, z3⟩ => ⟨z1, z2, (z1.lt hB).2.2.1⟩⟩
    have := hB.2.2.2.2.1 x z1
    unfold pky
    omega)
  have eq1 : q = l := eq0.trans hl.symm
  have eO : (fun x => pOX B 160 x) = pdO B := funext (fun x => by
    unfold pOX
    by_cases hx : pdO B x = true
    · have := ((of_decide_eq_true hx).1.lt hB).2.2.1
      rw [decide_eq_true this, Bool.true_and]
    · have h2 : pdO B x = false := by simpa using hx
      rw [h2, Bool.and_false])
  have eO2 : pOX B 160 = pdO B := eO
  have e2 : (pini B d l).2 = (pS B d).2 := rfl
  have hle : pLE B d 160 = (pini B d l).2.2.2.2.1 := by
    rw [e2]
    unfold pLE pS
    rw [eO2]
  have hRR : RR B F w q (pini B d l) v := by
    refine ⟨⟨a1, fun x hx hv => a5 x (hx.lt hB).2.2.1 hx hv⟩, (show RA B F (pS B d) v from ⟨fun f hf => ?_, a3, fun x hx => a4 x hx⟩).sec e2, a6, ?_, ?_, fun x hx => ?_⟩
    · have := a2 f hf
      rw [eO2] at this
      exact this
    · show l = q.filter (fun x => ((pini B d l).2.1 x).isNone)
      rw [← eq1]
      refine (List.filter_eq_self.mpr (fun x hx => ?_)).symm
      have hx2 : x ∈ l := by
        rw [← eq1]
        exact hx
      have h9 := (hP.2.1 x hx2).2.2
      rw [eq1, h9]
      rfl
    · rw [eq1, hl]
      exact plO_len hB 3360
    · obtain ⟨z1, z2, -⟩ := (a8 x).mp hx
      exact ⟨z1, z2⟩
  refine Ok_rfN (r_min hB (a1.r0 hW.2.2.1)) ?_
  rw [hle]
  subst eq1
  refine r_429 (q := q) hB hW.2.2.1 (fun x hx => ?_) hd hM1 hM4 _ _ R hend (fun v v6 hR2 => ?_) 296 0 (pdT B) (pdT B) 1620 fuel (pini B d q) v (by omega) (Nat.le_refl _) (by unfold fuel; omega) hRR hP (by omega) (Nat.le_refl _) (fun _ => by omega) (fun t' h1 h2 => by omega) hRr
  · obtain ⟨n, z, -⟩ := hW.dr x hx
    exact ⟨n, z⟩
  · refine r_631 (R := R) (B := B) _ _ _ _ _ _ _ _ (fun v7 _ h7 => Ok_wf (Ok_rt ⟨rfl, ?_, h7⟩)) 160 0 fuel v (by omega) (by unfold fuel; omega) (fun y hy => (hR2.2.1.2.2 y hy).2) (fun y hy => absurd hy (Nat.not_lt_zero _))
    rfl

