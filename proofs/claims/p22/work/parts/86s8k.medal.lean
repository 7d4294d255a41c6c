/-! ===== medal() of a tree, on both sides ===== -/
theorem e_sizeOf2 {u : MS} {c : Nat} (hc : c < 4) : x_X0_sizeOf (nI c) u = some (u.2 0 (7 + 36 * c), u) := by
  unfold x_X0_sizeOf
  rw [e_ofClass c 3 (show (3 : Int32) = nI 3 from rfl)]
  have e : 4 + 36 * c + 3 = 7 + 36 * c := by omega
  show some (rg (u.2 0) 2088 (nI (4 + 36 * c + 3)), u) = _
  rw [e, rdB _ (by omega)]
theorem e_loserOf {u : MS} {c i : Nat} (hc : c < 4) (hi : i < 37) : x_X0_loserOf (nI c) (nI i) u = some (if u.2 15 (37 * c + i) = -1 then -1 else if u.2 13 (37 * c + i) = u.2 15 (37 * c + i) then u.2 14 (37 * c + i) else u.2 13 (37 * c + i), u) := by
  unfold x_X0_loserOf
  refine ncl_eq2 (e_winnerOf hc hi) ?_
  by_cases h1 : u.2 15 (37 * c + i) = -1
  · rw [if_pos h1, if_pos h1]
    rfl
  · rw [if_neg h1, if_neg h1]
    refine ncl_eq2 (e_whiteOf hc hi) ?_
    by_cases h2 : u.2 13 (37 * c + i) = u.2 15 (37 * c + i)
    · rw [if_pos h2, if_pos h2]
      exact ncl_eq2 (e_blueOf hc hi) rfl
    · rw [if_neg h2, if_neg h2]
      exact ncl_eq2 (e_whiteOf hc hi) rfl
theorem fin_ne {B : Nat → Int32} {w : GS} {c L sd : Nat} (h : R0 B w) (hT : Tre w c L) (hsd : sd < 2) : ¬ vS B c (2 ^ L - 2) sd = -2 := by
  obtain ⟨e6, e7, ez⟩ := (h.kz hT.2.1).2 L hT
  have hL3 := hT.2.2.1
  have hL5 := hT.2.2.2.1
  have h32 := pow_lt32 hL5
  have h8 := half2 (L := L) (by omega)
  have h9 : 8 ≤ 2 ^ L := by
    rcases (by omega : L = 3 ∨ L = 4 ∨ L = 5) with rfl | rfl | rfl <;> decide
  have hne : ¬ B (6 + 36 * c) = 1 := by rw [e6]; decide
  unfold vS
  rw [if_neg hne, ez, if_pos (by omega)]
  unfold SV
  rw [if_neg (by omega)]
  have hsd2 : sd = 0 ∨ sd = 1 := by omega
  rcases hsd2 with rfl | rfl
  · exact ne_m2 (tWT h hT (i := 2 * (2 ^ L - 2 - 2 ^ L / 2) + 0) (by omega))
  · exact ne_m2 (tWT h hT (i := 2 * (2 ^ L - 2 - 2 ^ L / 2) + 1) (by omega))
section
variable {B : Nat → Int32} {u v : MS} {w : GS} {c : Nat}
/-- the class's medal in a tree of 2 ^ L places -/
def mdT (u : MS) (c last st : Nat) (b : Int32) : Int32 := if b = 0 then u.2 15 (37 * c + last) else if b = 1 then (if u.2 15 (37 * c + last) = -1 then -1 else if u.2 13 (37 * c + last) = u.2 15 (37 * c + last) then u.2 14 (37 * c + last) else u.2 13 (37 * c + last)) else if b = 2 then u.2 15 (37 * c + (last + st)) else if b = 3 then u.2 15 (37 * c + (last + 2 * st)) else -1
theorem e_ofTree {last st : Nat} {b : Int32} (hc : c < 4) (h1 : last + 2 * st < 37) (e1 : u.2 0 (7 + 36 * c) - 2 = nI last) (e2 : x_X0_fightsOf (nI c) u = some (nI (last + 1 + 2 * st), u)) : x_X7_ofTree (nI c) b u = some (mdT u c last st b, u) := by
  unfold x_X7_ofTree mdT
  refine ncl_eq2 (e_sizeOf2 hc) ?_
  show ncl (x_X0_fightsOf (nI c)) _ u = _
  refine ncl_eq2 e2 ?_
  have e3 : ((nI (last + 1 + 2 * st) - nI last) - 1) / 2 = nI st := by
    have hd : ∀ s < 19, ((nI (2 * s + 1) - 1 : Int32)) / 2 = nI s := by decide
    have e4 : nI (last + 1 + 2 * st) - nI last = nI (2 * st + 1) := by
      rw [nI_sub (by omega)]
      congr 1
      omega
    rw [e4]
    exact hd st (by omega)
  show (fun x_9 => (if b = 0 then ncl (x_X0_winnerOf (nI c) (u.2 0 (7 + 36 * c) - 2)) (fun r_12 => nrt r_12) else if b = 1 then ncl (x_X0_loserOf (nI c) (u.2 0 (7 + 36 * c) - 2)) (fun r_16 => nrt r_16) else if b = 2 then ncl (x_X0_winnerOf (nI c) (u.2 0 (7 + 36 * c) - 2 + x_9)) (fun r_20 => nrt r_20) else if b = 3 then ncl (x_X0_winnerOf (nI c) (u.2 0 (7 + 36 * c) - 2 + (2 * x_9))) (fun r_24 => nrt r_24) else nrt (-1) : NG Int32)) (((nI (last + 1 + 2 * st) - (u.2 0 (7 + 36 * c) - 2)) - 1) / 2) u = _
  rw [e1, e3]
  have e5 : nI last + nI st = nI (last + st) := nI_add _ _
  have e6 : nI last + 2 * nI st = nI (last + 2 * st) := by
    have e7 : (2 : Int32) * nI st = nI (2 * st) := by rw [← nI_mul]; rfl
    rw [e7, nI_add]
  show (if b = 0 then ncl (x_X0_winnerOf (nI c) (nI last)) (fun r_12 => nrt r_12) else if b = 1 then ncl (x_X0_loserOf (nI c) (nI last)) (fun r_16 => nrt r_16) else if b = 2 then ncl (x_X0_winnerOf (nI c) (nI last + nI st)) (fun r_20 => nrt r_20) else if b = 3 then ncl (x_X0_winnerOf (nI c) (nI last + (2 * nI st))) (fun r_24 => nrt r_24) else nrt (-1) : NG Int32) u = _
  rw [e5, e6]
  by_cases h0 : b = 0
  · rw [if_pos h0, if_pos h0]
    exact ncl_eq2 (e_winnerOf hc (by omega)) rfl
  rw [if_neg h0, if_neg h0]
  by_cases h0 : b = 1
  · rw [if_pos h0, if_pos h0]
    exact ncl_eq2 (e_loserOf hc (by omega)) rfl
  rw [if_neg h0, if_neg h0]
  by_cases h0 : b = 2
  · rw [if_pos h0, if_pos h0]
    exact ncl_eq2 (e_winnerOf hc (by omega)) rfl
  rw [if_neg h0, if_neg h0]
  by_cases h0 : b = 3
  · rw [if_pos h0, if_pos h0]
    exact ncl_eq2 (e_winnerOf hc (by omega)) rfl
  rw [if_neg h0, if_neg h0]
  rfl
theorem r_medalT {L : Nat} {b : Int32} (hR : R0 B w) (hN : NT B c) (hB : u.2 0 = B) (hb : Bd B c u) (hT : Tre w c L) : Rd (f_medal (nI c) b) w (fun r => r = mdT u c (2 ^ L - 2) (L - 2) b) := by
  have hT2 := hT
  obtain ⟨-, hc, L3, L5, -, y12, y13, -⟩ := hT2
  have hD : Dr w c (2 ^ L - 1 + 2 * (L - 2)) := Or.inr ⟨L, hT, rfl⟩
  have h32 := pow_lt32 L5
  have h8 : 8 ≤ 2 ^ L := by
    rcases (by omega : L = 3 ∨ L = 4 ∨ L = 5) with rfl | rfl | rfl <;> decide
  have hfin : Rd (f_finalOf (nI c)) w (fun r => r = nI (2 ^ L - 2)) := by
    unfold f_finalOf
    exact Rd_rdN rfl hc (by decide) y13 (Rd_rt (nI_sub (b := 2) (by omega)))
  have hl : 2 ^ L - 2 < 2 ^ L - 1 + 2 * (L - 2) := by omega
  have rows := fun i (hi : i < 2 ^ L - 1 + 2 * (L - 2)) => hb.rows hR hD hi
  have win := fun i (hi : i < 2 ^ L - 1 + 2 * (L - 2)) => wv_any hR hN hD hi 0 0
  have sd0 := sv_any hR hN hD hl (sd := 0) (by decide) 0
  have sd1 := sv_any hR hN hD hl (sd := 1) (by decide) 0
  obtain ⟨w1, w2, w3, -⟩ := rows _ hl
  obtain ⟨v1, v2⟩ := rows_v hR hD hl
  have x1 : bWh B c (2 ^ L - 2) = vS B c (2 ^ L - 2) 0 := v1.trans (mx2_id (fin_ne hR hT (by decide)))
  have x2 : bBl B c (2 ^ L - 2) = vS B c (2 ^ L - 2) 1 := v2.trans (mx2_id (fin_ne hR hT (by decide)))
  unfold f_medal mdT
  refine Rd_clR (ok_isClass (nI c) w) (fun r hr => ?_)
  rcases hr with ⟨rfl, -⟩ | ⟨-, hr⟩
  rotate_left
  · exact absurd ⟨c, hc, rfl⟩ hr
  refine Rd_ite (fun z => absurd z (by decide)) (fun _ => ?_)
  refine Rd_rdN rfl hc (by decide) y12 (Rd_ite (fun z => absurd z (by decide)) (fun _ => ?_))
  have c3 : (3 : Int32).toInt = 3 := by decide
  have c2 : (2 : Int32).toInt = 2 := by decide
  have c1 : (1 : Int32).toInt = 1 := by decide
  have c0 : (0 : Int32).toInt = 0 := by decide
  by_cases h0 : b = 0
  · subst h0
    rw [if_pos rfl]
    refine Rd_ite (fun _ => Rd_rdN rfl hc (by decide) y12 (Rd_ite (fun z => absurd z (by decide)) (fun _ => Rd_ite (fun _ => Rd_ite (fun _ => ?_) (fun z => absurd (by decide) z)) (fun z => absurd (by decide) z)))) (fun z => absurd (by decide) z)
    refine Rd_clR hfin (fun r hr => ?_)
    subst hr
    refine Rd_clR (win _ hl) (fun r hr => ?_)
    rw [← w3] at hr
    exact Rd_ite (fun _ => Rd_rt hr) (fun _ => Rd_ite (fun _ => Rd_rt hr) (fun z => absurd rfl z))
  rw [if_neg h0]
  by_cases h1 : b = 1
  · subst h1
    rw [if_pos rfl]
    refine Rd_ite (fun _ => Rd_rdN rfl hc (by decide) y12 (Rd_ite (fun z => absurd z (by decide)) (fun _ => Rd_ite (fun _ => Rd_ite (fun _ => ?_) (fun z => absurd (by decide) z)) (fun z => absurd (by decide) z)))) (fun z => absurd (by decide) z)
    refine Rd_clR hfin (fun r hr => ?_)
    subst hr
    refine Rd_clR (win _ hl) (fun r hr => ?_)
    rw [← w3] at hr
    subst hr
    refine Rd_ite (fun z => Rd_rt ?_) (fun z => Rd_ite (fun y => absurd y (by decide)) (fun _ => ?_))
    · rw [if_pos z]
      exact z
    · rw [if_neg z]
      refine Rd_clR hfin (fun r hr => ?_)
      subst hr
      refine Rd_clR sd0 (fun r hr => ?_)
      rw [← x1, ← w1] at hr
      subst hr
      refine Rd_ite (fun z2 => ?_) (fun z2 => ?_)
      · rw [if_pos z2]
        refine Rd_clR hfin (fun r hr => ?_)
        subst hr
        refine Rd_clR sd1 (fun r hr => Rd_rt ?_)
        rw [hr, w2, x2]
      · rw [if_neg z2]
        refine Rd_clR hfin (fun r hr => ?_)
        subst hr
        refine Rd_clR sd0 (fun r hr => Rd_rt ?_)
        rw [hr, w1, x1]
  rw [if_neg h1]
  have tail : (b = 2 ∨ b = 3) → ∀ i, i < 2 ^ L - 1 + 2 * (L - 2) → nI (2 ^ L) - 2 + (b - 1) * (nI (L - 1) - 1) = nI i → ∀ y, y = u.2 15 (37 * c + i) → Rd (if 0 ≤ b then prd 12 4 (nI c) (fun x_10 => (if x_10 = 1 then prd 13 4 (nI c) (fun x_52 => (if x_52 ≤ b then prt (-1) else pcl (f_about (nI c) 5) (fun r_56 => pcl (f_fights (nI c)) (fun r_59 => (if r_56 = r_59 then pcl (f_ordered (nI c) b) (fun r_63 => prt r_63) else prt (-1)))))) else (if b ≤ 3 then (if b ≤ 1 then pcl (f_finalOf (nI c)) (fun r_16 => pcl (fS 24 3 (nI c) r_16 0 0) (fun r_19 => (if r_19 = (-1) then prt r_19 else (if b = 0 then prt r_19 else pcl (f_finalOf (nI c)) (fun r_24 => pcl (fS 24 0 (nI c) r_24 0 0) (fun r_27 => (if r_27 = r_19 then pcl (f_finalOf (nI c)) (fun r_37 => pcl (fS 24 0 (nI c) r_37 1 0) (fun r_40 => prt r_40)) else pcl (f_finalOf (nI c)) (fun r_31 => pcl (fS 24 0 (nI c) r_31 0 0) (fun r_34 => prt r_34))))))))) else prd 13 4 (nI c) (fun x_43 => pcl (f_rounds (nI c)) (fun r_46 => pcl (fS 24 3 (nI c) ((x_43 - 2) + ((b - 1) * (r_46 - 1))) 0 0) (fun r_49 => prt r_49)))) else prt (-1)))) else prt (-1)) w (fun r => r = y) := fun hb23 i hi ei y hy => by
    have g0 : (0 : Int32) ≤ b := by rcases hb23 with rfl | rfl <;> decide
    have g3 : b ≤ 3 := by rcases hb23 with rfl | rfl <;> decide
    have g1 : ¬ b ≤ 1 := by rcases hb23 with rfl | rfl <;> decide
    refine Rd_ite (fun _ => Rd_rdN rfl hc (by decide) y12 (Rd_ite (fun z => absurd z (by decide)) (fun _ => Rd_ite (fun _ => Rd_ite (fun z => absurd z g1) (fun _ => ?_)) (fun z => absurd g3 z)))) (fun z => absurd g0 z)
    refine Rd_rdN rfl hc (by decide) y13 (Rd_clR (ok_rounds w c L hc L5 (by omega) y13) (fun r hr => ?_))
    subst hr
    rw [ei]
    refine Rd_clR (win i hi) (fun r hr => Rd_rt ?_)
    rw [hr, hy, (rows i hi).2.2.1]
  by_cases h2 : b = 2
  · rw [if_pos h2]
    refine tail (Or.inl h2) (2 ^ L - 2 + (L - 2)) (by omega) ?_ _ rfl
    subst h2
    rcases (by omega : L = 3 ∨ L = 4 ∨ L = 5) with rfl | rfl | rfl <;> decide
  rw [if_neg h2]
  by_cases h3 : b = 3
  · rw [if_pos h3]
    refine tail (Or.inr h3) (2 ^ L - 2 + 2 * (L - 2)) (by omega) ?_ _ rfl
    subst h3
    rcases (by omega : L = 3 ∨ L = 4 ∨ L = 5) with rfl | rfl | rfl <;> decide
  rw [if_neg h3]
  have n : ∀ k : Int32, ¬ b = k → ¬ b.toInt = k.toInt := fun k hk z => hk (Int32.toInt_inj.mp z)
  have n0 := n 0 h0
  have n1 := n 1 h1
  have n2 := n 2 h2
  have n3 := n 3 h3
  refine Rd_ite (fun z => Rd_rdN rfl hc (by decide) y12 (Rd_ite (fun z => absurd z (by decide)) (fun _ => Rd_ite (fun z2 => ?_) (fun _ => Rd_rt rfl)))) (fun _ => Rd_rt rfl)
  exfalso
  rw [Int32.le_iff_toInt_le] at z z2
  omega
end
