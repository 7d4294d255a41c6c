/-! ===== Board.settle, exactly: lives, pool, all ===== -/
def lW (B : Nat → Int32) (c S s t : Nat) : Int32 := if t = 1 ∧ ¬ tF B c S s = -1 ∧ loL B c S s 0 = -1 then loL B c S s 1 else wF B c (S - 2 + s * stL S + t)
def lA (B : Nat → Int32) (c S s t : Nat) : Int32 := if t ≤ 1 then loL B c S s 0 else lW B c S s (t - 1)
def lS (B : Nat → Int32) (c S s t : Nat) : Int32 := if t = 1 ∧ ¬ tF B c S s = -1 ∧ loL B c S s 0 = -1 then 4 else sF B c (S - 2 + s * stL S + t) (lA B c S s t) (loL B c S s t)
theorem CN_lives {u0 : MS} {c S s : Nat} (hc : c < 4) (hS : Siz S) (hs : s < 2) {p1 p2 p3 p4 : Nat → Int32} (e1 : ∀ t, 1 ≤ t → t ≤ stL S → p1 (S - 2 + s * stL S + t) = lA (u0.2 0) c S s t) (e2 : ∀ t, 1 ≤ t → t ≤ stL S → p2 (S - 2 + s * stL S + t) = loL (u0.2 0) c S s t) (e3 : ∀ t, 1 ≤ t → t ≤ stL S → p3 (S - 2 + s * stL S + t) = lW (u0.2 0) c S s t) (e4 : ∀ t, 1 ≤ t → t ≤ stL S → p4 (S - 2 + s * stL S + t) = lS (u0.2 0) c S s t) (K : Int32 → Int32 → Int32 → Int32 → Int32 → Int32 → Int32 → NG Int32) (Q : Int32 → MS → Prop) (hK : ∀ v x y, Bs u0 c p1 p2 p3 p4 (S - 2 + s * stL S + (stL S + 1)) v → CN (K (nI c) (nI S) (nI s) (nI (stL S)) (tF (u0.2 0) c S s) x y) v Q) : ∀ (n t : Nat) (v : MS), 1 ≤ t → t ≤ stL S + 1 → Bs u0 c p1 p2 p3 p4 (S - 2 + s * stL S + t) v → (∀ t, t < 4 → v.2 17 t = loL (u0.2 0) c S s t) → CN (xl_X0_settleLives_40 n (nI c) (nI S) (nI s) (nI (stL S)) (tF (u0.2 0) c S s) (lA (u0.2 0) c S s t) (nI t) K) v Q := by
  obtain ⟨t1, t2, t3⟩ := hS.st
  obtain ⟨s1, s2, s3, s4⟩ := hS.h2
  have hss : s * stL S ≤ stL S := by
    have h01 : s = 0 ∨ s = 1 := by omega
    rcases h01 with rfl | rfl <;> omega
  intro n
  induction n with
  | zero => exact fun t v _ _ _ _ r w e => by cases e
  | succ n ih =>
    intro t v ht1 ht h h17
    unfold xl_X0_settleLives_40
    by_cases hlt : stL S < t
    · rw [if_pos ((nI_ltI (by omega) (by omega)).mpr hlt)]
      have : t = stL S + 1 := by omega
      subst this
      exact hK v _ _ h
    · rw [if_neg (fun z => hlt ((nI_ltI (by omega) (by omega)).mp z))]
      have ex : ((nI S - 2) + (nI s * nI (stL S))) + nI t = nI (S - 2 + s * stL S + t) := by
        have q : nI S - 2 = nI (S - 2) := nI_sub (b := 2) (by omega)
        rw [q, nI_mul, nI_add, nI_add]
      rw [ex]
      refine CN_li ?_
      have a1 := e1 t ht1 (by omega)
      have a2 := e2 t ht1 (by omega)
      have a3 := e3 t ht1 (by omega)
      have a4 := e4 t ht1 (by omega)
      have hi : S - 2 + s * stL S + t < 37 := by omega
      have g17 : rg (v.2 17) 4 (nI t) = loL (u0.2 0) c S s t := (rg_in (by omega) (by decide)).trans (h17 t (by omega))
      have eA : lA (u0.2 0) c S s (t + 1) = lW (u0.2 0) c S s t := by
        unfold lA
        rw [if_neg (by omega), Nat.add_sub_cancel]
      have hnext : ∀ v2, Bs u0 c p1 p2 p3 p4 (S - 2 + s * stL S + t + 1) v2 → v2.2 17 = v.2 17 → CN (ncl (x_X0_winnerOf (nI c) (nI (S - 2 + s * stL S + t))) (fun r => nli (nI t + 1) (fun x => xl_X0_settleLives_40 n (nI c) (nI S) (nI s) (nI (stL S)) (tF (u0.2 0) c S s) r x K))) v2 Q := fun v2 h2 hv => by
        refine CN_rd (e_wO hc hi v2).1 ?_
        have w3 : v2.2 15 (37 * c + (S - 2 + s * stL S + t)) = lA (u0.2 0) c S s (t + 1) := by
          rw [eA]
          exact ((h2.2.1 _ (by omega)).2.2.1).trans a3
        rw [w3, nI_1]
        exact ih (t + 1) v2 (by omega) (by omega) h2 (fun k hk => by rw [hv]; exact h17 k hk)
      refine CN_ite (fun z1 => ?_) (fun z1 => ?_)
      · have ht : t = 1 := (nI_eq (a := t) (b := 1) (by omega) (by decide)).mp z1
        have hA1 : lA (u0.2 0) c S s t = loL (u0.2 0) c S s 0 := by
          unfold lA
          rw [if_pos (by omega)]
        refine CN_ite (fun zF => CN_GT ?_) (fun zF => CN_ite (fun zl => CN_GT ?_) (fun zl => CN_GT ?_))
        · rw [g17]
          have hno : ¬ (t = 1 ∧ ¬ tF (u0.2 0) c S s = -1 ∧ loL (u0.2 0) c S s 0 = -1) := fun z => z.2.1 zF
          refine CN_sF7 h hc hi a1 a2 ?_ ?_ hnext
          · rw [a3]; unfold lW; rw [if_neg hno]
          · rw [a4]; unfold lS; rw [if_neg hno]
        · rw [g17]
          have hyes : t = 1 ∧ ¬ tF (u0.2 0) c S s = -1 ∧ loL (u0.2 0) c S s 0 = -1 := ⟨ht, zF, hA1.symm.trans zl⟩
          refine CN_sW7 h hc hi (a1.trans zl) a2 ?_ ?_ hnext
          · rw [a3]; unfold lW; rw [if_pos hyes, if_pos rfl, ht]
          · rw [a4]; unfold lS; rw [if_pos hyes]
        · rw [g17]
          have hno : ¬ (t = 1 ∧ ¬ tF (u0.2 0) c S s = -1 ∧ loL (u0.2 0) c S s 0 = -1) := fun z => zl (hA1.trans z.2.2)
          refine CN_sF7 h hc hi a1 a2 ?_ ?_ hnext
          · rw [a3]; unfold lW; rw [if_neg hno]
          · rw [a4]; unfold lS; rw [if_neg hno]
      · refine CN_GT ?_
        rw [g17]
        have hno : ¬ (t = 1 ∧ ¬ tF (u0.2 0) c S s = -1 ∧ loL (u0.2 0) c S s 0 = -1) := fun z => z1 (by rw [z.1]; rfl)
        refine CN_sF7 h hc hi a1 a2 ?_ ?_ hnext
        · rw [a3]; unfold lW; rw [if_neg hno]
        · rw [a4]; unfold lS; rw [if_neg hno]
theorem CN_settleLives {β : Type} {u0 v : MS} {c S s : Nat} (hc : c < 4) (hS : Siz S) (hs : s < 2) {p1 p2 p3 p4 : Nat → Int32} (d1 : ∀ i, i < S - 1 → p1 i = tA (u0.2 0) c S i) (d2 : ∀ i, i < S - 1 → p2 i = tB (u0.2 0) c S i) (d3 : ∀ i, i < S - 1 → p3 i = tW (u0.2 0) c S i) (e1 : ∀ t, 1 ≤ t → t ≤ stL S → p1 (S - 2 + s * stL S + t) = lA (u0.2 0) c S s t) (e2 : ∀ t, 1 ≤ t → t ≤ stL S → p2 (S - 2 + s * stL S + t) = loL (u0.2 0) c S s t) (e3 : ∀ t, 1 ≤ t → t ≤ stL S → p3 (S - 2 + s * stL S + t) = lW (u0.2 0) c S s t) (e4 : ∀ t, 1 ≤ t → t ≤ stL S → p4 (S - 2 + s * stL S + t) = lS (u0.2 0) c S s t) (h : Bs u0 c p1 p2 p3 p4 (S - 1 + s * stL S) v) {q : Int32 → NG β} {Q : β → MS → Prop} (hq : ∀ v2, Bs u0 c p1 p2 p3 p4 (S - 1 + s * stL S + stL S) v2 → CN (q 0) v2 Q) : CN (ncl (x_X0_settleLives (nI c) (nI S) (nI s)) q) v Q := by
  obtain ⟨t1, t2, t3⟩ := hS.st
  obtain ⟨s1, s2, s3, s4⟩ := hS.h2
  refine CN_cl (CN.mono (?_ : CN (x_X0_settleLives (nI c) (nI S) (nI s)) v (fun r v2 => r = 0 ∧ Bs u0 c p1 p2 p3 p4 (S - 1 + s * stL S + stL S) v2)) (fun r v2 y => by
    rw [y.1]
    exact hq v2 y.2))
  unfold x_X0_settleLives
  have ef : ((nI S - 4) + nI s) = nI (S - 4 + s) := by
    have q : nI S - 4 = nI (S - 4) := nI_sub (b := 4) (by omega)
    rw [q, nI_add]
  rw [e_steps hS, ncl_rt, ef]
  refine CN_rd (e_wO hc (by omega) v).1 ?_
  have wf : v.2 15 (37 * c + (S - 4 + s)) = tF (u0.2 0) c S s := ((h.2.1 _ (by omega)).2.2.1).trans (d3 _ (by omega))
  rw [wf]
  have hl : CN (x_X0_findLosersTo (nI c) (nI S) (nI s) (tF (u0.2 0) c S s)) v (fun r v2 => Bs u0 c p1 p2 p3 p4 (S - 1 + s * stL S) v2 ∧ ∀ t, t < 4 → v2.2 17 t = loL (u0.2 0) c S s t) := by
    unfold x_X0_findLosersTo
    show CN (nli ((nI S - 4) + nI s) (fun x_5 => ncl (x_X0_stepsOf (nI S)) (fun r_7 => xl_X0_findLosersTo_21 fuel (nI c) (nI S) (nI s) (tF (u0.2 0) c S s) x_5 r_7 (fun v1 v2 v3 v4 v5 v6 => nrt 0)))) (sf v 17 (fl 4 (-1) (v.2 17))) _
    rw [ef, e_steps hS]
    show CN (xl_X0_findLosersTo_21 fuel (nI c) (nI S) (nI s) (tF (u0.2 0) c S s) (nI (S - 4 + s)) (nI (stL S)) (fun v1 v2 v3 v4 v5 v6 => nrt 0)) (sf v 17 (fl 4 (-1) (v.2 17))) _
    have h0 : ∀ t, t < 4 → (sf v 17 (fl 4 (-1) (v.2 17))).2 17 t = -1 := fun t ht => by
      rw [sfE]
      exact if_pos ht
    by_cases hF : tF (u0.2 0) c S s = -1
    · refine losers_out fuel _ _ _ _ _ _ _ _ _ (Or.inr hF) (fun x y => CN_rt ⟨h.f17 _, fun t ht => ?_⟩)
      rw [h0 t ht]
      unfold loL
      rw [if_pos hF]
    · refine CN_losers (J := S - 1 + s * stL S) hc hS hs (by omega) d1 d2 hF _ _ (fun v2 x y hb h7 => CN_rt ⟨hb, h7⟩) fuel 0 _ (by omega) (h.f17 _) (fun t ht => ?_)
      rw [h0 t ht]
      by_cases hl : stL S - 0 < t
      · rw [if_pos hl]
        unfold loL
        rw [if_neg hF, if_neg (by omega)]
      · rw [if_neg hl]
  refine CN_cl (CN.mono hl (fun r v2 y => ?_))
  refine CN_GT ?_
  have g0 : rg (v2.2 17) 4 0 = lA (u0.2 0) c S s 1 := by
    have q : rg (v2.2 17) 4 (nI 0) = v2.2 17 0 := rg_in (by decide) (by decide)
    have q2 : lA (u0.2 0) c S s 1 = loL (u0.2 0) c S s 0 := by
      unfold lA
      rw [if_pos (by decide)]
    rw [q2, ← y.2 0 (by decide)]
    exact q
  rw [g0]
  have ei : S - 1 + s * stL S = S - 2 + s * stL S + 1 := by omega
  have ei2 : S - 1 + s * stL S + stL S = S - 2 + s * stL S + (stL S + 1) := by omega
  refine CN_lives hc hS hs e1 e2 e3 e4 _ _ (fun v3 x z hb => CN_rt ⟨rfl, by rw [ei2]; exact hb⟩) fuel 1 v2 (by decide) (by omega) ?_ y.2
  rw [← ei]
  exact y.1
/-! the pool of size S: fights by distance -/
def off (S : Nat) : Nat → Nat
  | 0 => 0
  | 1 => 0
  | g + 1 => off S g + (S - g)
def prP : Nat → Nat → Nat → Nat → Nat × Nat
  | 0, _, k, a => (k, a)
  | n + 1, S, k, a => if S - a ≤ k then prP n S (k - (S - a)) (a + 1) else (k, a)
def qA (B : Nat → Int32) (c S i : Nat) : Int32 := pl B c (prP 5 S i 1).1
def qB (B : Nat → Int32) (c S i : Nat) : Int32 := pl B c ((prP 5 S i 1).1 + (prP 5 S i 1).2)
theorem prP_off : ∀ S < 6, ∀ g < 6, ∀ f < 6, (1 ≤ g ∧ f + g < S) → prP 5 S (off S g + f) 1 = (f, g) := by decide +kernel
theorem off_rng : ∀ S < 6, ∀ g < 6, (1 ≤ g ∧ g < S) → off S (g + 1) = off S g + (S - g) ∧ off S g + (S - g) ≤ S * (S - 1) / 2 := by decide +kernel
theorem off_end : ∀ S < 6, 2 ≤ S → off S S = S * (S - 1) / 2 ∧ S * (S - 1) / 2 ≤ 10 := by decide +kernel
theorem CN_pool1 {u0 : MS} {c S g : Nat} (hc : c < 4) (hS : 2 ≤ S ∧ S ≤ 5) (hg : 1 ≤ g ∧ g < S) {p1 p2 p3 p4 : Nat → Int32} (e1 : ∀ i, i < S * (S - 1) / 2 → p1 i = qA (u0.2 0) c S i) (e2 : ∀ i, i < S * (S - 1) / 2 → p2 i = qB (u0.2 0) c S i) (e3 : ∀ i, i < S * (S - 1) / 2 → p3 i = wF (u0.2 0) c i) (e4 : ∀ i, i < S * (S - 1) / 2 → p4 i = sF (u0.2 0) c i (qA (u0.2 0) c S i) (qB (u0.2 0) c S i)) (K : Int32 → Int32 → Int32 → Int32 → Int32 → NG Int32) (Q : Int32 → MS → Prop) (hK : ∀ v x, Bs u0 c p1 p2 p3 p4 (off S g + (S - g)) v → CN (K (nI c) (nI S) (nI (off S g + (S - g))) (nI g) x) v Q) : ∀ (n f : Nat) (v : MS), f + g ≤ S → Bs u0 c p1 p2 p3 p4 (off S g + f) v → CN (xl_X0_settlePool_14 n (nI c) (nI S) (nI (off S g + f)) (nI g) (nI f) K) v Q := by
  obtain ⟨o1, o2⟩ := off_rng S (by omega) g (by omega) hg
  obtain ⟨o3, o4⟩ := off_end S (by omega) hS.1
  intro n
  induction n with
  | zero => exact fun f v _ _ r w e => by cases e
  | succ n ih =>
    intro f v hf h
    unfold xl_X0_settlePool_14
    rw [nI_add]
    by_cases hlt : S ≤ f + g
    · rw [if_pos (nI_le hlt (by omega))]
      have : f = S - g := by omega
      subst this
      exact hK v _ h
    · rw [if_neg (fun z => hlt ((nI_leI (by omega) (by omega)).mp z))]
      have i1 : (4 : Int32) + nI f = nI (4 + f) := by rw [← nI_add]; rfl
      have i2 : nI (4 + f) + nI g = nI (4 + (f + g)) := by rw [nI_add, Nat.add_assoc]
      have hp := prP_off S (by omega) g (by omega) f (by omega) ⟨hg.1, by omega⟩
      rw [i1]
      refine rd_pl h hc (by omega) rfl ?_
      rw [i2]
      refine rd_pl h hc (by omega) rfl ?_
      have hi : off S g + f < S * (S - 1) / 2 := by omega
      have a1 : p1 (off S g + f) = pl (u0.2 0) c f := by
        rw [e1 _ hi]
        unfold qA
        rw [hp]
      have a2 : p2 (off S g + f) = pl (u0.2 0) c (f + g) := by
        rw [e2 _ hi]
        unfold qB
        rw [hp]
      refine CN_sF h hc (by omega) a1 a2 (e3 _ hi) ?_ (fun v2 h2 => ?_)
      · rw [e4 _ hi, ← e1 _ hi, ← e2 _ hi, a1, a2]
      · rw [nI_1, nI_1]
        exact ih (f + 1) v2 (by omega) h2
theorem CN_pool2 {u0 : MS} {c S : Nat} (hc : c < 4) (hS : 2 ≤ S ∧ S ≤ 5) {p1 p2 p3 p4 : Nat → Int32} (e1 : ∀ i, i < S * (S - 1) / 2 → p1 i = qA (u0.2 0) c S i) (e2 : ∀ i, i < S * (S - 1) / 2 → p2 i = qB (u0.2 0) c S i) (e3 : ∀ i, i < S * (S - 1) / 2 → p3 i = wF (u0.2 0) c i) (e4 : ∀ i, i < S * (S - 1) / 2 → p4 i = sF (u0.2 0) c i (qA (u0.2 0) c S i) (qB (u0.2 0) c S i)) (K : Int32 → Int32 → Int32 → Int32 → NG Int32) (Q : Int32 → MS → Prop) (hK : ∀ v, Bs u0 c p1 p2 p3 p4 (S * (S - 1) / 2) v → CN (K (nI c) (nI S) (nI (S * (S - 1) / 2)) (nI S)) v Q) : ∀ (n g : Nat) (v : MS), 1 ≤ g → g ≤ S → Bs u0 c p1 p2 p3 p4 (off S g) v → CN (xl_X0_settlePool_5 n (nI c) (nI S) (nI (off S g)) (nI g) K) v Q := by
  obtain ⟨o3, o4⟩ := off_end S (by omega) hS.1
  intro n
  induction n with
  | zero => exact fun g v _ _ _ r w e => by cases e
  | succ n ih =>
    intro g v h1 h2 h
    unfold xl_X0_settlePool_5
    by_cases hlt : S ≤ g
    · rw [if_pos (nI_le hlt (by omega))]
      have : g = S := by omega
      subst this
      rw [o3] at h ⊢
      exact hK v h
    · rw [if_neg (fun z => hlt ((nI_leI (by omega) (by omega)).mp z))]
      obtain ⟨o1, o2⟩ := off_rng S (by omega) g (by omega) ⟨h1, by omega⟩
      refine CN_pool1 hc hS ⟨h1, by omega⟩ e1 e2 e3 e4 _ _ (fun v2 x hb => ?_) fuel 0 v (by omega) h
      show CN (nli (nI g + 1) (fun x_24 => xl_X0_settlePool_5 n (nI c) (nI S) (nI (off S g + (S - g))) x_24 K)) v2 Q
      rw [nI_1, ← o1]
      rw [← o1] at hb
      exact ih (g + 1) v2 (by omega) (by omega) hb

