/-! ===== the reference's second lives and pools, exactly ===== -/
def NTl (B : Nat → Int32) (c S : Nat) : Prop := ∀ s t, s < 2 → 1 ≤ t → t ≤ stL S → ¬ mkF B c (S - 2 + s * stL S + t) = 0 → ¬ lA B c S s t = -1 ∧ ¬ loL B c S s t = -1
theorem siz_pow : ∀ L < 6, 3 ≤ L → Siz (2 ^ L) := by
  intro L h1 h2
  have h : L = 3 ∨ L = 4 ∨ L = 5 := by omega
  rcases h with rfl | rfl | rfl
  · exact Or.inl rfl
  · exact Or.inr (Or.inl rfl)
  · exact Or.inr (Or.inr rfl)
theorem tABT {B : Nat → Int32} {w : GS} {c L i : Nat} (h : R0 B w) (hT : Tre w c L) (hi : i < 2 ^ L - 1) : (tA B c (2 ^ L) i = -1 ∨ ∃ f, f < 96 ∧ tA B c (2 ^ L) i = nI f ∧ Plc w c f) ∧ (tB B c (2 ^ L) i = -1 ∨ ∃ f, f < 96 ∧ tB B c (2 ^ L) i = nI f ∧ Plc w c f) := by
  have hL3 := hT.2.2.1
  have h32 := pow_lt32 hT.2.2.2.1
  have h8 := half2 (L := L) (by omega)
  unfold tA tB
  by_cases hlt : i < 2 ^ L / 2
  · rw [if_pos hlt, if_pos hlt]
    exact ⟨plT h hT (by omega), plT h hT (by omega)⟩
  · rw [if_neg hlt, if_neg hlt]
    exact ⟨tWT h hT (by omega), tWT h hT (by omega)⟩
theorem loT {B : Nat → Int32} {w : GS} {c L s t : Nat} (h : R0 B w) (hT : Tre w c L) (hs : s < 2) : loL B c (2 ^ L) s t = -1 ∨ ∃ f, f < 96 ∧ loL B c (2 ^ L) s t = nI f ∧ Plc w c f := by
  have hL3 := hT.2.2.1
  have hL5 := hT.2.2.2.1
  have hS := siz_pow L (by omega) hL3
  have h8 := half2 (L := L) (by omega)
  obtain ⟨s1, s2, s3, s4⟩ := hS.h2
  unfold loL
  by_cases hF : tF B c (2 ^ L) s = -1
  · rw [if_pos hF]
    exact Or.inl rfl
  · rw [if_neg hF]
    by_cases ht : t ≤ stL (2 ^ L)
    · rw [if_pos ht]
      obtain ⟨z1, z2⟩ := pa_rng (B := B) (c := c) hS hs (stL (2 ^ L) - t) (by omega)
      have hi : paL B c (2 ^ L) s (stL (2 ^ L) - t) < 2 ^ L - 1 := by
        rcases Nat.lt_or_ge (stL (2 ^ L) - t) (stL (2 ^ L)) with y | y
        · exact (z1 y).2
        · have := z2 (by omega)
          omega
      obtain ⟨g1, g2⟩ := tABT h hT hi
      by_cases hA : tA B c (2 ^ L) (paL B c (2 ^ L) s (stL (2 ^ L) - t)) = tF B c (2 ^ L) s
      · rw [if_pos hA]; exact g2
      · rw [if_neg hA]; exact g1
    · rw [if_neg ht]
      exact Or.inl rfl
theorem lWT {B : Nat → Int32} {w : GS} {c L s t : Nat} (h : R0 B w) (hT : Tre w c L) (hs : s < 2) (ht : t ≤ stL (2 ^ L)) : lW B c (2 ^ L) s t = -1 ∨ ∃ f, f < 96 ∧ lW B c (2 ^ L) s t = nI f ∧ Plc w c f := by
  have hL3 := hT.2.2.1
  have hL5 := hT.2.2.2.1
  have hS := siz_pow L (by omega) hL3
  obtain ⟨t1, t2, t3⟩ := hS.st
  have hss : s * stL (2 ^ L) ≤ stL (2 ^ L) := by
    have h01 : s = 0 ∨ s = 1 := by omega
    rcases h01 with rfl | rfl <;> omega
  unfold lW
  by_cases hk : t = 1 ∧ ¬ tF B c (2 ^ L) s = -1 ∧ loL B c (2 ^ L) s 0 = -1
  · rw [if_pos hk]
    exact loT h hT hs
  · rw [if_neg hk]
    exact wFT h hT (by omega)
/-- the first side of a second life, for the reference -/
def LA (B : Nat → Int32) (c S s t : Nat) : Int32 := if t ≤ 1 then LV B c S s 0 else lW B c S s (t - 1)
theorem sv_side_life {B : Nat → Int32} {w : GS} {c L : Nat} (h : R0 B w) (hT : Tre w c L) (hm : NTm B c (2 ^ L)) (hw : NTw B c (2 ^ L)) (hp : NTp B c (2 ^ L)) (d q sd : Nat) (a3 : Int32) (hq : q < 2 * (L - 2)) (hsd : sd < 2) (hd : 2 * L + 2 ≤ d) (hprev : 1 ≤ q % (L - 2) → Rd (fS (d - 2) 3 (nI c) (nI (2 ^ L - 1 + (q - 1))) 0 0) w (fun x => x = lW B c (2 ^ L) (q / (L - 2)) (q % (L - 2)))) : Rd (fS d 0 (nI c) (nI (2 ^ L - 1 + q)) (nI sd) a3) w (fun x => x = if sd = 0 then LA B c (2 ^ L) (q / (L - 2)) (q % (L - 2) + 1) else LV B c (2 ^ L) (q / (L - 2)) (q % (L - 2) + 1)) := by
  have hT2 := hT
  obtain ⟨hn, hc, hL3, hL5, hs, h12, h13, hwho, hbye, hres⟩ := hT2
  have h32 := pow_lt32 hL5
  have hpos : 1 ≤ 2 ^ L := Nat.one_le_two_pow
  obtain ⟨g1, g2, g3⟩ := lif_rng2 L (by omega) q (by omega) ⟨hL3, hq⟩
  obtain ⟨d, rfl⟩ : ∃ e, d = e + 2 := ⟨d - 2, by omega⟩
  have hprev : 1 ≤ q % (L - 2) → Rd (fS d 3 (nI c) (nI (2 ^ L - 1 + (q - 1))) 0 0) w (fun x => x = lW B c (2 ^ L) (q / (L - 2)) (q % (L - 2))) := hprev
  unfold fS
  rw [if_pos rfl]
  unfold bd_sideOf
  refine Rd_rdN rfl hc (by decide) h12 (Rd_ite (fun h => absurd h (by decide)) (fun _ => ?_))
  refine Rd_clR (ok_isSecond1 w c L q hc hL5 (by omega) h12 h13) (fun z hz => ?_)
  subst hz
  refine Rd_ite (fun h => absurd h (by decide)) (fun _ => ?_)
  obtain ⟨k1, k2⟩ := ok_halfStep w c L q hc hL3 hL5 h13 hq
  refine Rd_clR k1 (fun z hz => ?_)
  subst hz
  refine Rd_clR k2 (fun z hz => ?_)
  subst hz
  refine Rd_clR (R := fun x => x = if sd = 0 then LA B c (2 ^ L) (q / (L - 2)) (q % (L - 2) + 1) else LV B c (2 ^ L) (q / (L - 2)) (q % (L - 2) + 1)) ?_ (fun z hz => Rd_rt hz)
  unfold fS
  rw [if_neg (by decide), if_pos rfl]
  unfold bd_second
  refine Rd_ite (fun h1 => ?_) (fun h1 => Rd_ite (fun h2 => ?_) (fun h2 => ?_))
  · have e : sd = 1 := (nI_eq (a := sd) (b := 1) (by omega) (by decide)).mp h1
    subst e
    exact Rd_clR (sv_loser h hT hm hw hp d _ _ 0 g1 g2 (by omega)) (fun z hz => Rd_rt hz)
  · have e : sd = 0 := by
      have : ¬ sd = 1 := fun z => h1 (by rw [z]; rfl)
      omega
    subst e
    have h3 : q % (L - 2) + 1 ≤ 1 := (nI_leI (a := q % (L - 2) + 1) (b := 1) (by omega) (by decide)).mp h2
    refine Rd_clR (sv_loser h hT hm hw hp d _ 0 0 g1 (by omega) (by omega)) (fun z hz => Rd_rt ?_)
    rw [hz, if_pos rfl]
    unfold LA
    rw [if_pos h3]
  · have e : sd = 0 := by
      have : ¬ sd = 1 := fun z => h1 (by rw [z]; rfl)
      omega
    subst e
    have ht : 1 ≤ q % (L - 2) := by
      rcases Nat.eq_zero_or_pos (q % (L - 2)) with h9 | h9
      · rw [h9] at h2
        exact absurd (Int32.le_refl _) h2
      · exact h9
    obtain ⟨k1, k2, k3⟩ := lif_rng3 L (by omega) q (by omega) ⟨hL3, hq, ht⟩
    refine Rd_rdN rfl hc (by decide) h13 (Rd_clR (ok_rounds w c L hc hL5 (by omega) h13) (fun z hz => ?_))
    subst hz
    have e1 : nI (L - 1) - 1 = nI (L - 2) := nI_sub (b := 1) (by omega)
    have e2 : nI (2 ^ L) - 1 = nI (2 ^ L - 1) := nI_sub (b := 1) (by omega)
    have e3 : nI (2 ^ L - 1) + nI (q / (L - 2)) * nI (L - 2) + nI (q % (L - 2) + 1) - 2 = nI (2 ^ L - 1 + (q - 1)) := by
      rw [nI_mul, nI_add, nI_add]
      have h9 := nI_sub (a := 2 ^ L - 1 + q / (L - 2) * (L - 2) + (q % (L - 2) + 1)) (b := 2) (by omega)
      refine h9.trans ?_
      congr 1
      omega
    rw [e1, e2, e3]
    refine Rd_clR (hprev ht) (fun z hz => Rd_rt ?_)
    rw [hz, if_pos rfl]
    unfold LA
    rw [if_neg (by omega), Nat.add_sub_cancel]
theorem sv_win_life {B : Nat → Int32} {w : GS} {c L : Nat} (h : R0 B w) (hT : Tre w c L) (d q : Nat) (hl : ¬ mkF B c (2 ^ L - 1 + q) = 0 → ¬ lA B c (2 ^ L) (q / (L - 2)) (q % (L - 2) + 1) = -1 ∧ ¬ loL B c (2 ^ L) (q / (L - 2)) (q % (L - 2) + 1) = -1) (a2 a3 : Int32) (hq : q < 2 * (L - 2)) (hF : ∀ sd, sd < 2 → Rd (fS d 0 (nI c) (nI (2 ^ L - 1 + q)) (nI sd) 0) w (fun x => x = if sd = 0 then LA B c (2 ^ L) (q / (L - 2)) (q % (L - 2) + 1) else LV B c (2 ^ L) (q / (L - 2)) (q % (L - 2) + 1))) : Rd (fS (d + 1) 3 (nI c) (nI (2 ^ L - 1 + q)) a2 a3) w (fun x => x = lW B c (2 ^ L) (q / (L - 2)) (q % (L - 2) + 1)) := by
  have hT2 := hT
  obtain ⟨hn, hc, hL3, hL5, hs, h12, h13, hwho, hbye, hres⟩ := hT2
  have h32 := pow_lt32 hL5
  have hpos : 1 ≤ 2 ^ L := Nat.one_le_two_pow
  obtain ⟨g1, g2, g3⟩ := lif_rng2 L (by omega) q (by omega) ⟨hL3, hq⟩
  have est := (stL_pow L (by omega) hL3).1
  have h8 := (siz_pow L (by omega) hL3).h2.2.2.1
  have hdm := Nat.div_add_mod q (L - 2)
  have eix : 2 ^ L - 2 + q / (L - 2) * stL (2 ^ L) + (q % (L - 2) + 1) = 2 ^ L - 1 + q := by
    rw [est, Nat.mul_comm]
    omega
  have hF0 := hF 0 (by decide)
  have hF1 := hF 1 (by decide)
  have hN := hl
  have eW : lW B c (2 ^ L) (q / (L - 2)) (q % (L - 2) + 1) = if q % (L - 2) + 1 = 1 ∧ ¬ tF B c (2 ^ L) (q / (L - 2)) = -1 ∧ loL B c (2 ^ L) (q / (L - 2)) 0 = -1 then loL B c (2 ^ L) (q / (L - 2)) 1 else wF B c (2 ^ L - 1 + q) := by
    unfold lW
    rw [eix]
  have hlo0 := ne_m2 (loT h hT (t := 0) g1)
  have hlot := ne_m2 (loT h hT (t := q % (L - 2) + 1) g1)
  have hlw := fun y : 1 ≤ q % (L - 2) => ne_m2 (lWT h hT (t := q % (L - 2)) g1 (by omega))
  generalize hs9 : q / (L - 2) = s at *
  generalize ht9 : q % (L - 2) + 1 = t at *
  have hnot2 : ¬ mkF B c (2 ^ L - 1 + q) = 3 → Rd (pcl (fS d 0 (nI c) (nI (2 ^ L - 1 + q)) 0 0) (fun r_5 => pcl (fS d 0 (nI c) (nI (2 ^ L - 1 + q)) 1 0) (fun r_8 => (if r_5 = (-2) then prt r_8 else (if r_8 = (-2) then prt r_5 else prt (-1)))))) w (fun x => x = lW B c (2 ^ L) s t) := fun hm => by
    refine Rd_clR hF0 (fun a ha => Rd_clR hF1 (fun b hb => ?_))
    rw [if_pos rfl] at ha
    rw [if_neg (by decide)] at hb
    have hb2 : ¬ b = -2 := by
      rw [hb]
      unfold LV
      by_cases z : tF B c (2 ^ L) s = -1
      · rw [if_pos z]; decide
      · rw [if_neg z, if_neg (by omega)]
        exact hlot
    rw [eW]
    by_cases hk : t = 1 ∧ ¬ tF B c (2 ^ L) s = -1 ∧ loL B c (2 ^ L) s 0 = -1
    · have ha2 : a = -2 := by
        rw [ha]
        unfold LA LV sd0
        rw [if_pos (by omega), if_neg hk.2.1, if_pos rfl, if_pos hk.2.2]
      have hb3 : b = loL B c (2 ^ L) s 1 := by
        rw [hb]
        unfold LV
        rw [if_neg hk.2.1, if_neg (by omega), hk.1]
      have hv : (if t = 1 ∧ ¬ tF B c (2 ^ L) s = -1 ∧ loL B c (2 ^ L) s 0 = -1 then loL B c (2 ^ L) s 1 else wF B c (2 ^ L - 1 + q)) = loL B c (2 ^ L) s 1 := if_pos hk
      rw [hv]
      exact Rd_ite (fun _ => Rd_rt hb3) (fun z => absurd ha2 z)
    · have ha2 : ¬ a = -2 := by
        rw [ha]
        unfold LA LV sd0
        by_cases ht1 : t ≤ 1
        · rw [if_pos ht1]
          by_cases z : tF B c (2 ^ L) s = -1
          · rw [if_pos z]; decide
          · rw [if_neg z, if_pos rfl]
            by_cases y : loL B c (2 ^ L) s 0 = -1
            · exact absurd ⟨by omega, z, y⟩ hk
            · rw [if_neg y]
              exact hlo0
        · rw [if_neg ht1]
          have e9 : t - 1 = q % (L - 2) := by omega
          rw [e9]
          exact hlw (by omega)
      have hv : (if t = 1 ∧ ¬ tF B c (2 ^ L) s = -1 ∧ loL B c (2 ^ L) s 0 = -1 then loL B c (2 ^ L) s 1 else wF B c (2 ^ L - 1 + q)) = -1 := by
        rw [if_neg hk]
        unfold wF
        rw [if_neg hm]
      rw [hv]
      exact Rd_ite (fun z => absurd z ha2) (fun _ => Rd_ite (fun z => absurd z hb2) (fun _ => Rd_rt rfl))
  unfold fS
  rw [if_neg (by decide), if_neg (by decide), if_neg (by decide)]
  unfold bd_winnerOf
  rw [ix40]
  rcases h.mk hc (i := 2 ^ L - 1 + q) (by omega) with ⟨a, e⟩ | ⟨a, e⟩ | ⟨a, e, b⟩
  · exact Rd_rdN rfl (by omega) (by decide) a (Rd_ite (fun z => absurd z (by decide)) (fun _ => hnot2 (by rw [e]; decide)))
  · exact Rd_rdN rfl (by omega) (by decide) a (Rd_ite (fun z => absurd z (by decide)) (fun _ => hnot2 (by rw [e]; decide)))
  · refine Rd_rdN rfl (by omega) (by decide) a (Rd_ite (fun _ => Rd_rdN rfl (by omega) (by decide) b (Rd_rt ?_)) (fun z => absurd rfl z))
    obtain ⟨y1, y2⟩ := hN (by rw [e]; decide)
    have hk : ¬ (t = 1 ∧ ¬ tF B c (2 ^ L) s = -1 ∧ loL B c (2 ^ L) s 0 = -1) := fun z => y1 (by
      unfold lA
      rw [if_pos (by omega)]
      exact z.2.2)
    rw [eW, if_neg hk]
    unfold wF
    rw [if_pos e]
theorem sv_lifeK {B : Nat → Int32} {w : GS} {c L K : Nat} (h : R0 B w) (hT : Tre w c L) (hm : NTm B c (2 ^ L)) (hw : NTw B c (2 ^ L)) (hp : NTp B c (2 ^ L)) (hl : ∀ q, q < 2 * (L - 2) → 2 ^ L - 1 + q < K → ¬ mkF B c (2 ^ L - 1 + q) = 0 → ¬ lA B c (2 ^ L) (q / (L - 2)) (q % (L - 2) + 1) = -1 ∧ ¬ loL B c (2 ^ L) (q / (L - 2)) (q % (L - 2) + 1) = -1) : ∀ (t : Nat), (∀ d q sd a3, q < 2 * (L - 2) → q % (L - 2) = t → 2 ^ L - 1 + q ≤ K → sd < 2 → 2 * L + 3 * t + 2 ≤ d → Rd (fS d 0 (nI c) (nI (2 ^ L - 1 + q)) (nI sd) a3) w (fun x => x = if sd = 0 then LA B c (2 ^ L) (q / (L - 2)) (t + 1) else LV B c (2 ^ L) (q / (L - 2)) (t + 1))) ∧ (∀ d q a2 a3, q < 2 * (L - 2) → q % (L - 2) = t → 2 ^ L - 1 + q < K → 2 * L + 3 * t + 3 ≤ d → Rd (fS d 3 (nI c) (nI (2 ^ L - 1 + q)) a2 a3) w (fun x => x = lW B c (2 ^ L) (q / (L - 2)) (t + 1))) := by
  have hT2 := hT
  obtain ⟨hn, hc, hL3, hL5, hs, h12, h13, hwho, hbye, hres⟩ := hT2
  intro t
  induction t with
  | zero =>
    have hS : ∀ d q sd a3, q < 2 * (L - 2) → q % (L - 2) = 0 → 2 ^ L - 1 + q ≤ K → sd < 2 → 2 * L + 3 * 0 + 2 ≤ d → Rd (fS d 0 (nI c) (nI (2 ^ L - 1 + q)) (nI sd) a3) w (fun x => x = if sd = 0 then LA B c (2 ^ L) (q / (L - 2)) (0 + 1) else LV B c (2 ^ L) (q / (L - 2)) (0 + 1)) := fun d q sd a3 hq h0 hK hsd hd => by
      have z := sv_side_life h hT hm hw hp d q sd a3 hq hsd (by omega) (fun z => absurd z (by omega))
      rw [h0] at z
      exact z
    refine ⟨hS, fun d q a2 a3 hq h0 hK hd => ?_⟩
    obtain ⟨d, rfl⟩ : ∃ e, d = e + 1 := ⟨d - 1, by omega⟩
    have z := sv_win_life h hT d q (hl q hq hK) a2 a3 hq (fun sd hsd => by
      rw [h0]
      exact hS d q sd 0 hq h0 (by omega) hsd (by omega))
    rw [h0] at z
    exact z
  | succ t ih =>
    obtain ⟨-, ihW⟩ := ih
    have hS : ∀ d q sd a3, q < 2 * (L - 2) → q % (L - 2) = t + 1 → 2 ^ L - 1 + q ≤ K → sd < 2 → 2 * L + 3 * (t + 1) + 2 ≤ d → Rd (fS d 0 (nI c) (nI (2 ^ L - 1 + q)) (nI sd) a3) w (fun x => x = if sd = 0 then LA B c (2 ^ L) (q / (L - 2)) (t + 1 + 1) else LV B c (2 ^ L) (q / (L - 2)) (t + 1 + 1)) := fun d q sd a3 hq h0 hK hsd hd => by
      obtain ⟨k1, k2, k3⟩ := lif_rng3 L (by omega) q (by omega) ⟨hL3, hq, by omega⟩
      have hdq : (q - 1) / (L - 2) = q / (L - 2) := by
        have h1 := Nat.div_add_mod q (L - 2)
        have e : q - 1 = (L - 2) * (q / (L - 2)) + (q % (L - 2) - 1) := by omega
        have hlt := Nat.mod_lt q (show 0 < L - 2 by omega)
        have h2 : q % (L - 2) - 1 < L - 2 := by omega
        rw [e, Nat.mul_add_div (by omega), Nat.div_eq_of_lt h2]
        rfl
      have z := sv_side_life h hT hm hw hp d q sd a3 hq hsd (by omega) (fun _ => by
        have y := ihW (d - 2) (q - 1) 0 0 k1 (by omega) (by omega) (by omega)
        rw [hdq] at y
        rw [h0]
        exact y)
      rw [h0] at z
      exact z
    refine ⟨hS, fun d q a2 a3 hq h0 hK hd => ?_⟩
    obtain ⟨d, rfl⟩ : ∃ e, d = e + 1 := ⟨d - 1, by omega⟩
    have z := sv_win_life h hT d q (hl q hq hK) a2 a3 hq (fun sd hsd => by
      rw [h0]
      exact hS d q sd 0 hq h0 (by omega) hsd (by omega))
    rw [h0] at z
    exact z
theorem NTl.at {B : Nat → Int32} {c L : Nat} (hL3 : 3 ≤ L) (hL5 : L ≤ 5) (hl : NTl B c (2 ^ L)) : ∀ q, q < 2 * (L - 2) → ¬ mkF B c (2 ^ L - 1 + q) = 0 → ¬ lA B c (2 ^ L) (q / (L - 2)) (q % (L - 2) + 1) = -1 ∧ ¬ loL B c (2 ^ L) (q / (L - 2)) (q % (L - 2) + 1) = -1 := fun q hq => by
  obtain ⟨g1, g2, g3⟩ := lif_rng2 L (by omega) q (by omega) ⟨hL3, hq⟩
  have est := (stL_pow L (by omega) hL3).1
  have h8 := (siz_pow L (by omega) hL3).h2.2.2.1
  have hdm := Nat.div_add_mod q (L - 2)
  have eix : 2 ^ L - 2 + q / (L - 2) * stL (2 ^ L) + (q % (L - 2) + 1) = 2 ^ L - 1 + q := by
    rw [est, Nat.mul_comm]
    omega
  have hN := hl (q / (L - 2)) (q % (L - 2) + 1) g1 (by omega) (by omega)
  rw [eix] at hN
  exact hN
theorem NTl.of {B : Nat → Int32} {c L : Nat} (hL3 : 3 ≤ L) (hL5 : L ≤ 5) (h : ∀ q, q < 2 * (L - 2) → ¬ mkF B c (2 ^ L - 1 + q) = 0 → ¬ lA B c (2 ^ L) (q / (L - 2)) (q % (L - 2) + 1) = -1 ∧ ¬ loL B c (2 ^ L) (q / (L - 2)) (q % (L - 2) + 1) = -1) : NTl B c (2 ^ L) := fun s t hs h1 h2 hm => by
  have est := (stL_pow L (by omega) hL3).1
  have h8 := (siz_pow L (by omega) hL3).h2.2.2.1
  rw [est] at h2 hm
  have hq : s * (L - 2) + (t - 1) < 2 * (L - 2) := by
    have h01 : s = 0 ∨ s = 1 := by omega
    rcases h01 with rfl | rfl <;> omega
  have e1 : (s * (L - 2) + (t - 1)) / (L - 2) = s := by
    rw [Nat.mul_comm, Nat.mul_add_div (by omega), Nat.div_eq_of_lt (by omega)]
    rfl
  have e2 : (s * (L - 2) + (t - 1)) % (L - 2) + 1 = t := by
    rw [Nat.mul_comm, Nat.mul_add_mod, Nat.mod_eq_of_lt (by omega)]
    omega
  have z := h (s * (L - 2) + (t - 1)) hq
  rw [e1, e2] at z
  have ei : 2 ^ L - 1 + (s * (L - 2) + (t - 1)) = 2 ^ L - 2 + s * (L - 2) + t := by omega
  rw [ei] at z
  exact z hm

