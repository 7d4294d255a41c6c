/-! ===== strike, the class ===== -/
theorem Bd.rowsK {B : Nat → Int32} {c i : Nat} {u : MS} (hb : Bd B c u) (hk : Kn B c) (hi : i < nFi B c) : u.2 13 (37 * c + i) = bWh B c i ∧ u.2 14 (37 * c + i) = bBl B c i ∧ u.2 15 (37 * c + i) = bWn B c i ∧ u.2 16 (37 * c + i) = bSt B c i := by
  rcases hk with hk | ⟨hk, S, h2, h5, hz⟩ | ⟨hk, S, hS, hz⟩
  · rw [nFi_0 hk] at hi
    omega
  · have ez : zN B c = S := by
      unfold zN
      rw [hz, nI_clamp (by omega)]
    unfold nFi at hi
    rw [if_pos hk, ez] at hi
    unfold bWh bBl bWn bSt
    rw [if_pos hk, if_pos hk, if_pos hk, if_pos hk, ez]
    exact hb.1 hk S h2 h5 hz i hi
  · have ez : zN B c = S := by
      unfold zN
      rw [hz, nI_clamp (by have := hS.h2; omega)]
    have hne : ¬ B (6 + 36 * c) = 1 := by rw [hk]; decide
    unfold nFi at hi
    rw [if_neg hne, if_pos hk, ez] at hi
    unfold bWh bBl bWn bSt
    rw [if_neg hne, if_neg hne, if_neg hne, if_neg hne, ez]
    exact hb.2 hk S hS hz i hi
theorem c_stale {B : Nat → Int32} {u : MS} {c n : Nat} (hB : u.2 0 = B) (hc : c < 4) (hk : Kn B c) (hn : nFi B c = n) (hb : Bd B c u) : (x_X0_firstStale (nI c) u = none) ∨ (x_X0_firstStale (nI c) u = some (-1, u) ∧ ∀ j, j < n → ¬ StP B c j) ∨ ∃ j, j < n ∧ x_X0_firstStale (nI c) u = some (nI j, u) ∧ StP B c j ∧ ∀ i, i < j → ¬ StP B c i := by
  have h37 : n ≤ 37 := by rw [← hn]; exact hk.n37
  have ef := e_fightsOf hB hc hk
  rw [hn] at ef
  have hlp : ∀ (f j : Nat), j ≤ n → (∀ i, i < j → ¬ StP B c i) → (xl_X0_firstStale_2 f (nI c) (nI j) (fun v1 v2 => nrt (-1)) u = none) ∨ (xl_X0_firstStale_2 f (nI c) (nI j) (fun v1 v2 => nrt (-1)) u = some (-1, u) ∧ ∀ j, j < n → ¬ StP B c j) ∨ ∃ i, i < n ∧ xl_X0_firstStale_2 f (nI c) (nI j) (fun v1 v2 => nrt (-1)) u = some (nI i, u) ∧ StP B c i ∧ ∀ i2, i2 < i → ¬ StP B c i2 := by
    intro f
    induction f with
    | zero => exact fun j _ _ => Or.inl rfl
    | succ f ih =>
      intro j hj hno
      unfold xl_X0_firstStale_2
      by_cases hle : n ≤ j
      · have : j = n := by omega
        subst this
        exact Or.inr (Or.inl ⟨ncl_eq2 ef (by rw [if_pos (Int32.le_refl _)]; rfl), hno⟩)
      · have hj37 : j < 37 := by omega
        obtain ⟨r1, r2, -, -⟩ := hb.rowsK hk (show j < nFi B c by omega)
        have g : ∀ k, k < 8 → nGT 0 2088 (nI (fc c j + k)) u = some (B (fc c j + k), u) := fun k hk8 => by
          show some (rg (u.2 0) 2088 (nI (fc c j + k)), u) = _
          rw [rdB _ (by unfold fc; omega), hB]
        have g0 : nGT 0 2088 (nI (fc c j + 0)) u = some (B (fc c j), u) := g 0 (by decide)
        have w1 := (e_wO hc hj37 u).2.1
        have w2 := (e_wO hc hj37 u).2.2
        rw [r1] at w1
        rw [r2] at w2
        have next : ¬ StP B c j → (nli (nI j + 1) (fun x => xl_X0_firstStale_2 f (nI c) x (fun v1 v2 => nrt (-1))) u = none) ∨ (nli (nI j + 1) (fun x => xl_X0_firstStale_2 f (nI c) x (fun v1 v2 => nrt (-1))) u = some (-1, u) ∧ ∀ j, j < n → ¬ StP B c j) ∨ ∃ i, i < n ∧ nli (nI j + 1) (fun x => xl_X0_firstStale_2 f (nI c) x (fun v1 v2 => nrt (-1))) u = some (nI i, u) ∧ StP B c i ∧ ∀ i2, i2 < i → ¬ StP B c i2 := fun hns => by
          rw [nI_1]
          refine ih (j + 1) (by omega) (fun i hi => ?_)
          rcases Nat.lt_or_ge i j with z | z
          · exact hno i z
          · have : i = j := by omega
            rw [this]
            exact hns
        have key : ∀ (p : NG Int32), (∀ y, y = nli (nI j + 1) (fun x => xl_X0_firstStale_2 f (nI c) x (fun v1 v2 => nrt (-1))) u → ¬ StP B c j → p u = y) → (StP B c j → p u = some (nI j, u)) → (p u = none) ∨ (p u = some (-1, u) ∧ ∀ j, j < n → ¬ StP B c j) ∨ ∃ i, i < n ∧ p u = some (nI i, u) ∧ StP B c i ∧ ∀ i2, i2 < i → ¬ StP B c i2 := fun p h1 h2 => by
          by_cases hs : StP B c j
          · exact Or.inr (Or.inr ⟨j, by omega, h2 hs, hs, hno⟩)
          · rw [h1 _ rfl hs]
            exact next hs
        refine key _ (fun y hy hns => ncl_eq2 ef ?_) (fun hs => ncl_eq2 ef ?_)
        · rw [if_neg (fun z => hle ((nI_leI (by omega) (by omega)).mp z)), e_ofFight c j 0 (show (0 : Int32) = nI 0 from rfl), e_ofFight c j 1 (show (1 : Int32) = nI 1 from rfl), e_ofFight c j 2 (show (2 : Int32) = nI 2 from rfl), ncl_rt, ncl_rt]
          refine ncl_eq2 g0 ?_
          by_cases h0 : B (fc c j) = 0
          · rw [if_pos h0]
            refine ncl_eq2 (g 1 (by decide)) (ncl_eq2 w1 ?_)
            by_cases h1 : B (fc c j + 1) = bWh B c j
            · rw [if_pos h1, ncl_rt]
              refine ncl_eq2 (g 2 (by decide)) (ncl_eq2 w2 ?_)
              by_cases h2 : B (fc c j + 2) = bBl B c j
              · rw [if_pos h2, if_pos rfl]; exact hy.symm
              · rw [if_neg h2, if_pos rfl]; exact hy.symm
            · rw [if_neg h1, if_pos rfl]; exact hy.symm
          · rw [if_neg h0, ncl_rt]
            refine ncl_eq2 (g 1 (by decide)) (ncl_eq2 w1 ?_)
            by_cases h1 : B (fc c j + 1) = bWh B c j
            · rw [if_pos h1, ncl_rt]
              refine ncl_eq2 (g 2 (by decide)) (ncl_eq2 w2 ?_)
              by_cases h2 : B (fc c j + 2) = bBl B c j
              · rw [if_pos h2, if_neg (by decide), if_neg (by decide)]; exact hy.symm
              · exact absurd ⟨h0, fun q => h2 q.2⟩ hns
            · exact absurd ⟨h0, fun q => h1 q.1⟩ hns
        · obtain ⟨h0, hs2⟩ := hs
          rw [if_neg (fun z => hle ((nI_leI (by omega) (by omega)).mp z)), e_ofFight c j 0 (show (0 : Int32) = nI 0 from rfl), e_ofFight c j 1 (show (1 : Int32) = nI 1 from rfl), e_ofFight c j 2 (show (2 : Int32) = nI 2 from rfl), ncl_rt, ncl_rt]
          refine ncl_eq2 g0 ?_
          rw [if_neg h0, ncl_rt]
          refine ncl_eq2 (g 1 (by decide)) (ncl_eq2 w1 ?_)
          by_cases h1 : B (fc c j + 1) = bWh B c j
          · rw [if_pos h1, ncl_rt]
            refine ncl_eq2 (g 2 (by decide)) (ncl_eq2 w2 ?_)
            have h2 : ¬ B (fc c j + 2) = bBl B c j := fun q => hs2 ⟨h1, q⟩
            rw [if_neg h2, if_neg (by decide), if_pos rfl]
            rfl
          · rw [if_neg h1, if_neg (by decide), if_pos rfl]
            rfl
  exact hlp fuel 0 (by omega) (fun _ z => absurd z (Nat.not_lt_zero _))
/-- a marked fight can be dropped in the class: what leave() reads -/
theorem CQ_drop {β : Type} {u0 u : MS} {B : Nat → Int32} {w : GS} {c n k : Nat} {q : Int32 → AG β} {Q : β → MS → Prop} (h0 : Pt u0 u) (hB : u.2 0 = B) (hS : SI B w c n k) (hk : k < n) (hmk : ¬ B (fc c k) = 0) (h : ∀ r v, Pt u0 v → v.2 0 = drB B c k → CQ (q r) v Q) : CQ (acl (x_X3_drop (nI c) (nI k)) q) u Q := by
  refine CQ_cl (CQ.mono (?_ : CQ (x_X3_drop (nI c) (nI k)) u (fun r v => Pt u0 v ∧ v.2 0 = drB B c k)) (fun r v y => h r v y.1 y.2))
  obtain ⟨hI, hR0, hD, hM, hP, hSt⟩ := hS
  have hc := hD.c4
  have h37 : k < 37 := by have := hD.n37; omega
  have hfc : 820 ≤ fc c k ∧ fc c k + 8 ≤ 2004 := by unfold fc; omega
  obtain ⟨a, b, -, -, ha, hb, ea, eb, wa, wb⟩ := hR0.two hI hc h37 hmk
  unfold x_X3_drop
  refine CQ_oF (k := 0) rfl (CQ_at (x := B (fc c k)) rfl (by omega) (by rw [hB]; rfl) (CQ_ite (fun h2 => ?_) (fun h2 => ?_)))
  · obtain ⟨m, hm, e7, w22⟩ : ∃ m, m < 4 ∧ B (fc c k + 7) = nI m ∧ Am w 22 m (nI (40 * c + k)) := by
      rcases hR0.2.2.2.2.1 c hc k h37 with ⟨z, -⟩ | ⟨⟨-, -, m, hm, z, y⟩ | ⟨z, -⟩, -⟩
      · exact absurd z hmk
      · exact ⟨m, hm, z, y⟩
      · rw [h2] at z; exact absurd z (by decide)
    have hon : B (mc0 m) = nI c ∧ B (mc0 m + 1) = nI k := by
      rcases hR0.onm hm with ⟨-, z⟩ | ⟨c2, i2, hOn⟩
      · exact absurd (z.inj w22).symm (nI_ne_1 (by omega))
      · obtain ⟨e1, e2⟩ := hOn.un c k hc h37 w22
        subst e1
        subst e2
        exact ⟨hOn.2.2.1, hOn.2.2.2.1⟩
    refine CQ_oF (k := 7) rfl (CQ_at (x := nI m) rfl (by omega) (by rw [hB]; exact e7) ?_)
    refine CQ_leave h0 hB hm hc h37 hon.1 hon.2 ea eb ha hb (fun _ v1 p1 b1 => CQ_oF (k := 0) rfl (CQ_pt p1 b1 rfl (by omega) (fun _ v2 p2 b2 => CQ_rt ⟨p2, ?_⟩)))
    rw [b2, drB_open h2 e7 ea eb hm ha hb, Nat.add_zero]
  · refine CQ_oF (k := 0) rfl (CQ_pt h0 hB rfl (by omega) (fun _ v2 p2 b2 => CQ_rt ⟨p2, ?_⟩))
    rw [b2, drB_done h2, Nat.add_zero]
theorem strk_at {c n K j g : Nat} {B : Nat → Int32} (hKj : K ≤ j) (hj : j < n) (hno : ∀ i, K ≤ i → i < j → ¬ StP B c i) (hs : StP B c j) : strk c (n - K) K B g = strk c (n - (j + 1)) (j + 1) (drB B c j) (g + 1) := by
  have h1 := strk_skip (c := c) (g := g) (B := B) (j - K) (n - j) K (fun i a b => hno i a (by omega))
  rw [show j - K + (n - j) = n - K by omega, show K + (j - K) = j by omega] at h1
  rw [h1, show n - j = (n - (j + 1)) + 1 by omega, strk_y hs]
theorem strk_no {c n K g : Nat} {B : Nat → Int32} (hno : ∀ i, K ≤ i → i < n → ¬ StP B c i) : strk c (n - K) K B g = (B, g) := by
  rcases Nat.lt_or_ge K n with z | z
  · have h1 := strk_skip (c := c) (g := g) (B := B) (n - K) 0 K (fun i a b => hno i a (by omega))
    rw [Nat.add_zero] at h1
    rw [h1]
    rfl
  · rw [show n - K = 0 by omega]
    rfl
/-- the state of SI behind a drop -/
theorem SI.next {B : Nat → Int32} {w : GS} {c n k : Nat} (h : SI B w c n k) (hk : k < n) (hmk : ¬ B (fc c k) = 0) : ∃ v, SI (drB B c k) v c n (k + 1) ∧ FrS c B (drB B c k) := by
  obtain ⟨r, v, -, hq⟩ := r_soTail h hk hmk (prt 0) (fun _ v => SI (drB B c k) v c n (k + 1) ∧ FrS c B (drB B c k)) (fun v y1 y2 _ => Ok_rt ⟨y1, y2⟩)
  exact ⟨v, hq⟩
theorem c_strike_lp {u0 : MS} {c n ne ch : Nat} (hc : c < 4) (i0 : Int32) : ∀ (f : Nat) (v : MS) (w : GS) (B : Nat → Int32) (K g ps : Nat) (nx : Int32), v.2 0 = B → SI B w c n K → K ≤ n → ps ≤ K → EntS u0 v ne ch → (∀ c2, c2 < 4 → Bd B c2 v) → ((nx = -1 ∧ ∀ j, j < n → ¬ StP B c j) ∨ ∃ j, j < n ∧ K ≤ j ∧ nx = nI j ∧ StP B c j ∧ ∀ i, i < j → ¬ StP B c i) → CQ (xl_X3_strikeFrom_8 f (nI c) i0 (nI g) nx (nI ps) (fun v1 v2 v3 v4 v5 => art v3)) v (fun r v2 => r = nI (strk c (n - K) K B g).2 ∧ v2.2 0 = (strk c (n - K) K B g).1 ∧ EntS u0 v2 ne ch ∧ ∀ c2, c2 < 4 → Bd (v2.2 0) c2 v2) := by
  intro f
  induction f with
  | zero => exact fun v w B K g ps nx _ _ _ _ _ _ _ r w c d e => by cases e
  | succ f ih =>
    intro v w B K g ps nx hB hS hKn hps hE hb hnx
    have hD := hS.2.2.1
    have h37 := hD.n37
    unfold xl_X3_strikeFrom_8
    have hout : (∀ j, j < n → ¬ StP B c j) → CQ (art (nI g)) v (fun r v2 => r = nI (strk c (n - K) K B g).2 ∧ v2.2 0 = (strk c (n - K) K B g).1 ∧ EntS u0 v2 ne ch ∧ ∀ c2, c2 < 4 → Bd (v2.2 0) c2 v2) := fun hno => by
      have e := strk_no (c := c) (n := n) (K := K) (g := g) (B := B) (fun i _ h => hno i h)
      rw [e]
      exact CQ_rt ⟨rfl, hB, hE, by rw [hB]; exact hb⟩
    rcases hnx with ⟨rfl, hno⟩ | ⟨j, hj, hKj, rfl, hs, hno⟩
    · exact CQ_ite (fun _ => hout hno) (fun _ => CQ_ite (fun _ => hout hno) (fun z => absurd rfl z))
    · refine CQ_ite (fun z => absurd ((nI_leI (a := 37) (b := ps) (by decide) (by omega)).mp z) (by omega)) (fun _ => CQ_ite (fun z => absurd z (nI_ne_1 (by omega))) (fun _ => ?_))
      have hSj : SI B w c n j := hS.skips (fun i _ h2 _ => hno i h2)
      obtain ⟨w2, hS2, hF2⟩ := hSj.next hj hs.1
      obtain ⟨ch2, C2, hK2⟩ := hE.2.2.2.1.kl
      refine CQ_drop (Pt.rf hK2) hB hSj hj hs.1 (fun _ v1 p1 b1 => CQ_li ?_)
      have hE1 := hE.pt p1
      have hkn : ∀ c2, c2 < 4 → Kn B c2 := fun c2 hc2 => kn_of hS.1 hS.2.1 hc2
      have hrow : ∀ c2, c2 < 4 → Bd B c2 v1 := rows_same hb ⟨p1.2.2 13 (by decide), p1.2.2 14 (by decide), p1.2.2 15 (by decide), p1.2.2 16 (by decide)⟩
      rw [← b1] at hF2 hS2
      refine CQ_settle (B0 := B) hE1 hc (hF2.kn hc (hkn c hc)) (fun c2 hc2 hne => hF2.acc hc hc2 hne) hrow (fun v2 hE2 hB2 hb2 => ?_)
      have hk2 : Kn (v2.2 0) c := by rw [hB2]; exact hF2.kn hc (hkn c hc)
      have hn2 : nFi (v2.2 0) c = n := by rw [hB2]; exact nFi_dr hS2.2.1 hS2.2.2.1
      rw [← hB2] at hS2
      have est := strk_at (c := c) (n := n) (K := K) (j := j) (g := g) (B := B) hKj hj (fun i _ h => hno i h) hs
      rw [est, ← b1, ← hB2]
      rcases c_stale (u := v2) rfl hc hk2 hn2 (hb2 c hc) with e9 | ⟨e9, hno2⟩ | ⟨j2, hj2, e9, hs2, hno2⟩
      · refine CQ_nl (fun r v3 e => ?_)
        rw [e9] at e
        cases e
      · refine CQ_rd e9 (CQ_li ?_)
        rw [nI_1, nI_1]
        exact ih v2 w2 (v2.2 0) (j + 1) (g + 1) (ps + 1) (-1) rfl hS2 (by omega) (by omega) hE2 hb2 (Or.inl ⟨rfl, hno2⟩)
      · refine CQ_rd e9 (CQ_li ?_)
        rw [nI_1, nI_1]
        refine ih v2 w2 (v2.2 0) (j + 1) (g + 1) (ps + 1) (nI j2) rfl hS2 (by omega) (by omega) hE2 hb2 (Or.inr ⟨j2, hj2, ?_, rfl, hs2, hno2⟩)
        rcases Nat.lt_or_ge j2 (j + 1) with z | z
        · exact absurd hs2 (hS2.2.2.2.2.2 j2 z hj2)
        · exact z

