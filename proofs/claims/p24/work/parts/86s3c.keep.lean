/-! ===== NT from cells that are not stale; what a win leaves; what hangs on lower numbers ===== -/
/-- the two of a fight that is marked are somebody -/
theorem mk_ge {B : Nat → Int32} {w : GS} {c i : Nat} (hI : Inv w) (hR : R0 B w) (hc : c < 4) (hi : i < 37) (hm : ¬ mkF B c i = 0) : ∃ a b, Plc w c a ∧ Plc w c b ∧ a < 96 ∧ b < 96 ∧ B (fc c i + 1) = nI a ∧ B (fc c i + 2) = nI b := by
  unfold mkF at hm
  rw [if_pos hi] at hm
  have hne : ¬ w.1.2 15 (40 * c + i) = 0 := by
    rcases hR.2.2.2.2.1 c hc i hi with ⟨a, b⟩ | ⟨⟨a, b, -⟩ | ⟨a, b, -⟩, -⟩
    · exact absurd a hm
    · rw [b.2]; decide
    · rw [b.2]; decide
  obtain ⟨⟨n, -, -, ⟨a, ha, hap⟩, b, hb, hbp⟩, -⟩ := hI.1.2.2.2.2.1 c hc i (by omega) hne
  have h96 := hI.1.1.2.2
  refine ⟨a, b, hap, hbp, hap.lt h96, hbp.lt h96, ?_, ?_⟩
  · rcases hR.2.2.2.2.1 c hc i hi with ⟨z, -⟩ | ⟨-, y, -⟩
    · exact absurd z hm
    · exact y.inj ha
  · rcases hR.2.2.2.2.1 c hc i hi with ⟨z, -⟩ | ⟨-, -, y⟩
    · exact absurd z hm
    · exact y.inj hb
theorem bWh_t {B : Nat → Int32} {c i S : Nat} (hk : B (6 + 36 * c) = 2) (ez : zN B c = S) : bWh B c i = q1 B c S i ∧ bBl B c i = q2 B c S i := by
  unfold bWh bBl
  rw [if_neg (by rw [hk]; decide), if_neg (by rw [hk]; decide), ez]
  exact ⟨rfl, rfl⟩
theorem NTK.mk {B : Nat → Int32} {w : GS} {c K : Nat} (hI : Inv w) (hR : R0 B w) (hc : c < 4) (hS : ∀ i, i < K → i < nFi B c → i < 37 → ¬ mkF B c i = 0 → B (fc c i + 1) = bWh B c i ∧ B (fc c i + 2) = bBl B c i) (hW : WC B) (hP : B (6 + 36 * c) = 2 → NTp B c (zN B c)) : NTK B c K := fun hk L h3 h5 ez => by
  have h32 := pow_lt32 h5
  have h8 := (siz_pow L (by omega) h3).h2.2.2.1
  have est := (stL_pow L (by omega) h3).1
  have e9 := (siz_pow L (by omega) h3).st.2.2
  rw [est] at e9
  have enF : nFi B c = 2 ^ L - 1 + 2 * (L - 2) := by
    unfold nFi
    rw [if_neg (by rw [hk]; decide), if_pos hk, ez, est]
  have key : ∀ i, i < K → i < nFi B c → ¬ mkF B c i = 0 → (¬ bWh B c i = -1 ∧ ¬ bBl B c i = -1) ∧ (mkF B c i = 3 → wnF B c i = bWh B c i ∨ wnF B c i = bBl B c i) := fun i h1 h2 hm => by
    have hi : i < 37 := by omega
    obtain ⟨a, b, -, -, ha, hb, ea, eb⟩ := mk_ge hI hR hc hi hm
    obtain ⟨z1, z2⟩ := hS i h1 h2 hi hm
    refine ⟨⟨?_, ?_⟩, fun hm3 => ?_⟩
    · rw [← z1, ea]
      exact nI_ne_1 (by omega)
    · rw [← z2, eb]
      exact nI_ne_1 (by omega)
    · unfold mkF at hm3
      unfold wnF
      rw [if_pos hi] at hm3 ⊢
      rw [← z1, ← z2]
      exact hW c hc i hi hm3
  have eq : ∀ i, bWh B c i = q1 B c (2 ^ L) i ∧ bBl B c i = q2 B c (2 ^ L) i := fun i => bWh_t hk ez
  refine ⟨fun i h1 h2 hm => ?_, fun i h1 h2 hm => ?_, by rw [← ez]; exact hP hk, fun q h1 h2 hm => ?_⟩
  · have z := (key i h1 (by omega) hm).1
    rw [(eq i).1, (eq i).2] at z
    unfold q1 q2 at z
    rw [if_pos h2, if_pos h2] at z
    exact z
  · have z := (key i h1 (by omega) (by rw [hm]; decide)).2 hm
    rw [(eq i).1, (eq i).2] at z
    unfold q1 q2 at z
    rw [if_pos h2, if_pos h2] at z
    exact z
  · have z := (key (2 ^ L - 1 + q) h2 (by omega) hm).1
    rw [(eq _).1, (eq _).2] at z
    unfold q1 q2 at z
    rw [if_neg (by omega), if_neg (by omega), Nat.add_sub_cancel_left, est] at z
    exact z
theorem NT.mk {B : Nat → Int32} {w : GS} {c : Nat} (hI : Inv w) (hR : R0 B w) (hc : c < 4) (hS : NSt B c) (hW : WC B) (hP : B (6 + 36 * c) = 2 → NTp B c (zN B c)) : NT B c := by
  rcases (hI.1.2.2.2.1 c hc).2.2.1 with z | ⟨n, z⟩
  · intro hk
    exact absurd (hk.symm.trans ((hR.kd hc).inj z)) (by decide)
  · rcases hI.1.dr z with ⟨s, hP2, -⟩ | ⟨L, hT, -⟩
    · intro hk
      exact absurd (hk.symm.trans ((hR.kz hc).1 s hP2).1) (by decide)
    · exact (NTK.mk (K := 37) hI hR hc (fun i _ h1 h2 h3 => hS i h1 h2 h3) hW hP).nt hT.2.2.1 hT.2.2.2.1 ((hR.kz hc).2 L hT).2.2
/-! what hangs on lower numbers alone -/
theorem loc_t {B B2 : Nat → Int32} {c S k : Nat} (hS : Siz S) (hp : pl B2 c = pl B c) (hw : ∀ i, i < k → wF B2 c i = wF B c i) : (∀ i, i < k → tW B2 c S i = tW B c S i) ∧ ∀ i, i ≤ k → i < S - 1 → tA B2 c S i = tA B c S i ∧ tB B2 c S i = tB B c S i := by
  obtain ⟨s1, s2, s3, s4⟩ := hS.h2
  have t : ∀ i, i < k → tW B2 c S i = tW B c S i := fun i hi => by
    unfold tW
    rw [hp, hw i hi]
  refine ⟨t, fun i hi h1 => ?_⟩
  unfold tA tB
  by_cases hlt : i < S / 2
  · rw [if_pos hlt, if_pos hlt, if_pos hlt, if_pos hlt, hp]
    exact ⟨rfl, rfl⟩
  · rw [if_neg hlt, if_neg hlt, if_neg hlt, if_neg hlt, t _ (by omega), t _ (by omega)]
    exact ⟨rfl, rfl⟩
theorem loc_l {B B2 : Nat → Int32} {c S k s : Nat} (hS : Siz S) (hs : s < 2) (hk : S - 1 ≤ k) (hp : pl B2 c = pl B c) (hw : ∀ i, i < k → wF B2 c i = wF B c i) : (∀ t, loL B2 c S s t = loL B c S s t) ∧ tF B2 c S s = tF B c S s ∧ (∀ t, S - 2 + s * stL S + t < k → lW B2 c S s t = lW B c S s t) := by
  obtain ⟨s1, s2, s3, s4⟩ := hS.h2
  obtain ⟨tw, tab⟩ := loc_t hS hp hw
  have f : tF B2 c S s = tF B c S s := tw _ (by omega)
  have p : ∀ j, j ≤ stL S → paL B2 c S s j = paL B c S s j := by
    intro j
    induction j with
    | zero => exact fun _ => rfl
    | succ j ih =>
      intro hj
      have hr := (pa_rng (B := B) (c := c) hS hs j (by omega)).1 (by omega)
      show 2 * (paL B2 c S s j - S / 2) + (if tA B2 c S (paL B2 c S s j) = tF B2 c S s then 0 else 1) = 2 * (paL B c S s j - S / 2) + (if tA B c S (paL B c S s j) = tF B c S s then 0 else 1)
      rw [ih (by omega), (tab _ (by omega) (by omega)).1, f]
  have l : ∀ t, loL B2 c S s t = loL B c S s t := fun t => by
    unfold loL
    rw [f]
    by_cases ht : t ≤ stL S
    · rw [if_pos ht, if_pos ht, p _ (by omega)]
      have hr := pa_rng (B := B) (c := c) hS hs (stL S - t) (by omega)
      have h1 : paL B c S s (stL S - t) < S - 1 := by
        rcases Nat.lt_or_ge (stL S - t) (stL S) with z | z
        · exact (hr.1 z).2
        · have := hr.2 (by omega)
          omega
      rw [(tab _ (by omega) h1).1, (tab _ (by omega) h1).2]
    · rw [if_neg ht, if_neg ht]
  refine ⟨l, f, fun t ht => ?_⟩
  unfold lW
  rw [l, l, f, hw _ ht]
theorem loc_b {B B2 : Nat → Int32} {c k : Nat} (hKn : Kn B c) (h6 : B2 (6 + 36 * c) = B (6 + 36 * c)) (h7 : B2 (7 + 36 * c) = B (7 + 36 * c)) (hp : pl B2 c = pl B c) (hw : ∀ i, i < k → wF B2 c i = wF B c i) : ∀ i, i ≤ k → i < nFi B c → bWh B2 c i = bWh B c i ∧ bBl B2 c i = bBl B c i := fun i hi hn => by
  have ez : zN B2 c = zN B c := by unfold zN; rw [h7]
  unfold bWh bBl
  rw [h6, ez]
  rcases hKn with hk | ⟨hk, S, hS2, hS5, hz⟩ | ⟨hk, S, hS, hz⟩
  · unfold nFi at hn
    rw [if_neg (by rw [hk]; decide), if_neg (by rw [hk]; decide)] at hn
    omega
  · rw [if_pos hk, if_pos hk, if_pos hk, if_pos hk]
    unfold qA qB
    rw [hp]
    exact ⟨rfl, rfl⟩
  · obtain ⟨s1, s2, s3, s4⟩ := hS.h2
    obtain ⟨t1, t2, t3⟩ := hS.st
    have e : zN B c = S := by
      unfold zN
      rw [hz, nI_clamp (by omega)]
    have hk2 : ¬ B (6 + 36 * c) = 1 := by rw [hk]; decide
    have hn2 : i < S - 1 + 2 * stL S := by
      unfold nFi at hn
      rw [if_neg hk2, if_pos hk, e] at hn
      exact hn
    rw [if_neg hk2, if_neg hk2, if_neg hk2, if_neg hk2, e]
    unfold q1 q2
    by_cases h1 : i < S - 1
    · rw [if_pos h1, if_pos h1, if_pos h1, if_pos h1]
      exact (loc_t hS hp hw).2 i hi h1
    · rw [if_neg h1, if_neg h1, if_neg h1, if_neg h1]
      have hd : (i - (S - 1)) / stL S < 2 := (Nat.div_lt_iff_lt_mul (by omega)).mpr (by omega)
      have hdm := Nat.div_add_mod (i - (S - 1)) (stL S)
      have hml := Nat.mod_lt (i - (S - 1)) (show 0 < stL S by omega)
      obtain ⟨l, f, lw⟩ := loc_l hS hd (by omega : S - 1 ≤ k) hp hw
      generalize (i - (S - 1)) / stL S = s at *
      generalize (i - (S - 1)) % stL S = t at *
      refine ⟨?_, l _⟩
      unfold lA
      rw [l]
      by_cases ht : t + 1 ≤ 1
      · rw [if_pos ht, if_pos ht]
      · rw [if_neg ht, if_neg ht, Nat.add_sub_cancel]
        refine lw t ?_
        rw [Nat.mul_comm]
        omega
/-! a win is seen by those above; who is known stays known -/
def Le1 (x y : Int32) : Prop := x = -1 ∨ y = x
theorem Le1.rf (x : Int32) : Le1 x x := Or.inr rfl
theorem Le1.eq {x y : Int32} (h : Le1 x y) (hx : ¬ x = -1) : y = x := h.resolve_left hx
theorem mon_t {B B2 : Nat → Int32} {c S : Nat} (hp : pl B2 c = pl B c) (hw : ∀ i, Le1 (wF B c i) (wF B2 c i)) : ∀ i, Le1 (tW B c S i) (tW B2 c S i) ∧ Le1 (tA B c S i) (tA B2 c S i) ∧ Le1 (tB B c S i) (tB B2 c S i) := by
  have t : ∀ i, Le1 (tW B c S i) (tW B2 c S i) := fun i => by
    unfold tW
    rw [hp]
    by_cases hk : i < S / 2 ∧ (pl B c (2 * i) = -1 ∨ pl B c (2 * i + 1) = -1)
    · rw [if_pos hk, if_pos hk]
      exact Le1.rf _
    · rw [if_neg hk, if_neg hk]
      exact hw i
  refine fun i => ⟨t i, ?_, ?_⟩
  · unfold tA
    by_cases hlt : i < S / 2
    · rw [if_pos hlt, if_pos hlt, hp]
      exact Le1.rf _
    · rw [if_neg hlt, if_neg hlt]
      exact t _
  · unfold tB
    by_cases hlt : i < S / 2
    · rw [if_pos hlt, if_pos hlt, hp]
      exact Le1.rf _
    · rw [if_neg hlt, if_neg hlt]
      exact t _
theorem mon_l {B B2 : Nat → Int32} {w : GS} {c L s : Nat} (hR : R0 B w) (hT : Tre w c L) (hN : NT B c) (hs : s < 2) (hp : pl B2 c = pl B c) (hw : ∀ i, Le1 (wF B c i) (wF B2 c i)) : (∀ t, Le1 (loL B c (2 ^ L) s t) (loL B2 c (2 ^ L) s t)) ∧ (¬ tF B c (2 ^ L) s = -1 → tF B2 c (2 ^ L) s = tF B c (2 ^ L) s ∧ ∀ t, loL B2 c (2 ^ L) s t = loL B c (2 ^ L) s t) := by
  have hL3 := hT.2.2.1
  have hL5 := hT.2.2.2.1
  have h32 := pow_lt32 hL5
  have hS := siz_pow L (by omega) hL3
  obtain ⟨s1, s2, s3, s4⟩ := hS.h2
  obtain ⟨e6, e7, ez⟩ := (hR.kz hT.2.1).2 L hT
  obtain ⟨n1, n2, n3, n4⟩ := hN e6
  rw [ez] at n1 n2 n3 n4
  have mt := mon_t (S := 2 ^ L) hp hw
  have est := (stL_pow L (by omega) hL3).1
  have hyes : ¬ tF B c (2 ^ L) s = -1 → tF B2 c (2 ^ L) s = tF B c (2 ^ L) s ∧ ∀ t, loL B2 c (2 ^ L) s t = loL B c (2 ^ L) s t := fun hF => by
    have f : tF B2 c (2 ^ L) s = tF B c (2 ^ L) s := ((mt _).1).eq hF
    obtain ⟨g, hg, eg⟩ : ∃ g, g < 96 ∧ tF B c (2 ^ L) s = nI g := by
      rcases tWT hR hT (i := 2 ^ L - 4 + s) (by omega) with y | ⟨g, hg, y, -⟩
      · exact absurd y hF
      · exact ⟨g, hg, y⟩
    have ab : ∀ j, j ≤ stL (2 ^ L) → tA B2 c (2 ^ L) (paL B c (2 ^ L) s j) = tA B c (2 ^ L) (paL B c (2 ^ L) s j) ∧ tB B2 c (2 ^ L) (paL B c (2 ^ L) s j) = tB B c (2 ^ L) (paL B c (2 ^ L) s j) := fun j hj => by
      obtain ⟨i1, i2, i3⟩ := pa_lem hL3 hL5 n2 hs hg eg j (by omega)
      have hr := pa_rng (B := B) (c := c) hS hs j hj
      rcases Nat.lt_or_ge j (stL (2 ^ L)) with z | z
      · obtain ⟨r1, r2⟩ := hr.1 z
        obtain ⟨hm, -⟩ := tW_wn hg (by omega) i3
        obtain ⟨k1, k2⟩ := n1 _ r2 (by rw [hm]; decide)
        exact ⟨(mt _).2.1.eq k1, (mt _).2.2.eq k2⟩
      · have r1 := hr.2 (by omega)
        unfold tA tB
        rw [if_pos r1, if_pos r1, if_pos r1, if_pos r1, hp]
        exact ⟨rfl, rfl⟩
    have p : ∀ j, j ≤ stL (2 ^ L) → paL B2 c (2 ^ L) s j = paL B c (2 ^ L) s j := by
      intro j
      induction j with
      | zero => exact fun _ => rfl
      | succ j ih =>
        intro hj
        show 2 * (paL B2 c (2 ^ L) s j - 2 ^ L / 2) + (if tA B2 c (2 ^ L) (paL B2 c (2 ^ L) s j) = tF B2 c (2 ^ L) s then 0 else 1) = 2 * (paL B c (2 ^ L) s j - 2 ^ L / 2) + (if tA B c (2 ^ L) (paL B c (2 ^ L) s j) = tF B c (2 ^ L) s then 0 else 1)
        rw [ih (by omega), (ab j (by omega)).1, f]
    refine ⟨f, fun t => ?_⟩
    unfold loL
    rw [f]
    by_cases ht : t ≤ stL (2 ^ L)
    · rw [if_pos ht, if_pos ht, p _ (by omega), (ab _ (by omega)).1, (ab _ (by omega)).2]
    · rw [if_neg ht, if_neg ht]
  refine ⟨fun t => ?_, hyes⟩
  by_cases hF : tF B c (2 ^ L) s = -1
  · refine Or.inl ?_
    unfold loL
    rw [if_pos hF]
  · exact Or.inr ((hyes hF).2 t)
theorem mon_w {B B2 : Nat → Int32} {w : GS} {c L s t : Nat} (hR : R0 B w) (hT : Tre w c L) (hN : NT B c) (hs : s < 2) (ht1 : 1 ≤ t) (ht2 : t ≤ stL (2 ^ L)) (hp : pl B2 c = pl B c) (hw : ∀ i, Le1 (wF B c i) (wF B2 c i)) : Le1 (lW B c (2 ^ L) s t) (lW B2 c (2 ^ L) s t) := by
  obtain ⟨e6, e7, ez⟩ := (hR.kz hT.2.1).2 L hT
  obtain ⟨n1, n2, n3, n4⟩ := hN e6
  rw [ez] at n1 n2 n3 n4
  obtain ⟨ml, my⟩ := mon_l hR hT hN hs hp hw
  by_cases hF : tF B c (2 ^ L) s = -1
  · have hlo : ∀ t, loL B c (2 ^ L) s t = -1 := fun t => by
      unfold loL
      rw [if_pos hF]
    have e1 : lW B c (2 ^ L) s t = wF B c (2 ^ L - 2 + s * stL (2 ^ L) + t) := by
      unfold lW
      rw [if_neg (fun z => z.2.1 hF)]
    rw [e1]
    by_cases h1 : t = 1
    · refine Or.inl ?_
      have hm : mkF B c (2 ^ L - 2 + s * stL (2 ^ L) + t) = 0 := by
        by_cases z : mkF B c (2 ^ L - 2 + s * stL (2 ^ L) + t) = 0
        · exact z
        · exact absurd (hlo t) (n4 s t hs ht1 ht2 z).2
      unfold wF
      rw [if_neg (by rw [hm]; decide)]
    · unfold lW
      rw [if_neg (fun z => h1 z.1)]
      exact hw _
  · obtain ⟨f, lo⟩ := my hF
    unfold lW
    rw [f, lo, lo]
    by_cases hk : t = 1 ∧ ¬ tF B c (2 ^ L) s = -1 ∧ loL B c (2 ^ L) s 0 = -1
    · rw [if_pos hk, if_pos hk]
      exact Le1.rf _
    · rw [if_neg hk, if_neg hk]
      exact hw _
theorem mon_b {B B2 : Nat → Int32} {w : GS} {c n i : Nat} (hR : R0 B w) (hD : Dr w c n) (hN : NT B c) (h6 : B2 (6 + 36 * c) = B (6 + 36 * c)) (h7 : B2 (7 + 36 * c) = B (7 + 36 * c)) (hp : pl B2 c = pl B c) (hw : ∀ i, Le1 (wF B c i) (wF B2 c i)) (hi : i < n) : Le1 (bWh B c i) (bWh B2 c i) ∧ Le1 (bBl B c i) (bBl B2 c i) := by
  have ezz : zN B2 c = zN B c := by unfold zN; rw [h7]
  unfold bWh bBl
  rw [h6, ezz]
  rcases hD with ⟨s, hP, rfl⟩ | ⟨L, hT, rfl⟩
  · obtain ⟨e6, e7, ez⟩ := (hR.kz hP.2.1).1 s hP
    rw [if_pos e6, if_pos e6, if_pos e6, if_pos e6]
    unfold qA qB
    rw [hp]
    exact ⟨Le1.rf _, Le1.rf _⟩
  · obtain ⟨e6, e7, ez⟩ := (hR.kz hT.2.1).2 L hT
    have hL3 := hT.2.2.1
    have hL5 := hT.2.2.2.1
    have hk2 : ¬ B (6 + 36 * c) = 1 := by rw [e6]; decide
    rw [if_neg hk2, if_neg hk2, if_neg hk2, if_neg hk2, ez]
    unfold q1 q2
    by_cases h1 : i < 2 ^ L - 1
    · rw [if_pos h1, if_pos h1, if_pos h1, if_pos h1]
      exact (mon_t hp hw i).2
    · rw [if_neg h1, if_neg h1, if_neg h1, if_neg h1]
      obtain ⟨q, rfl⟩ : ∃ q, i = 2 ^ L - 1 + q := ⟨i - (2 ^ L - 1), by omega⟩
      have hq : q < 2 * (L - 2) := by omega
      obtain ⟨g1, g2⟩ := lif_dm hL3 hL5 hq
      rw [Nat.add_sub_cancel_left, (stL_pow L (by omega) hL3).1]
      obtain ⟨ml, my⟩ := mon_l hR hT hN g1 hp hw
      refine ⟨?_, ml _⟩
      unfold lA
      by_cases ht : q % (L - 2) + 1 ≤ 1
      · rw [if_pos ht, if_pos ht]
        exact ml _
      · rw [if_neg ht, if_neg ht, Nat.add_sub_cancel]
        exact mon_w hR hT hN g1 (by omega) (by omega) hp hw

