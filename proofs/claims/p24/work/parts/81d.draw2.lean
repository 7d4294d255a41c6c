/-! ===== the draw: best places, clubs, the row, the whole ===== -/
def Br (p : NG Int32) (u : MS) : Prop := ∀ r v, p u = some (r, v) → -1 ≤ r.toInt ∧ r.toInt ≤ 31
theorem Br_cl {α : Type} {p : NG α} {q : α → NG Int32} {u : MS} (hp : T [] [] p) (h : ∀ a, Br (q a) u) : Br (ncl p q) u := fun r v e => by
  obtain ⟨a, w, e1, e2⟩ := ncl_some e
  obtain ⟨a', e3⟩ := hp.pure u
  rw [e3] at e1
  cases e1
  exact h _ r v e2
theorem Br_GT {a n : Nat} {i : Int32} {q : Int32 → NG Int32} {u : MS} (h : Br (q (rg (u.2 a) n i)) u) : Br (ncl (nGT a n i) q) u := h
theorem Br_ite {b : Prop} [Decidable b] {p q : NG Int32} {u : MS} (h1 : Br p u) (h2 : Br q u) : Br (if b then p else q) u := by
  by_cases h : b
  · rw [if_pos h]; exact h1
  · rw [if_neg h]; exact h2
theorem Br_li {x : Int32} {q : Int32 → NG Int32} {u : MS} (h : Br (q x) u) : Br (nli x q) u := h
theorem Br_rt {x : Int32} {u : MS} (h : -1 ≤ x.toInt ∧ x.toInt ≤ 31) : Br (nrt x) u := fun r v e => by cases e; exact h
theorem br_best : ∀ (n : Nat) (v1 v2 v3 v4 v5 v6 : Int32) (u : MS), Rww u → (-1 ≤ v4.toInt ∧ v4.toInt ≤ 31) → Br (xl_X2_bestPlace_9 n v1 v2 v3 v4 v5 v6 (fun v1 v2 v3 v4 v5 v6 => nrt v4)) u := by
  intro n
  induction n with
  | zero => intro v1 v2 v3 v4 v5 v6 u _ _ r v e; cases e
  | succ n ih =>
    intro v1 v2 v3 v4 v5 v6 u hR h4
    unfold xl_X2_bestPlace_9
    refine Br_ite (Br_rt h4) (Br_GT (Br_cl (tt_x_X1_ofClass _ _) (fun _ => Br_GT (Br_ite (Br_cl (tt_x_X2_firstMeeting _ _ _) (fun _ => Br_ite (Br_li (ih _ _ _ _ _ _ u hR h4)) (Br_li (ih _ _ _ _ _ _ u hR (rg_row hR v6))))) (Br_li (ih _ _ _ _ _ _ u hR h4))))))
theorem best_ok {u : MS} (hR : Rww u) (a b c : Int32) : ∃ r, x_X2_bestPlace a b c u = some (r, u) ∧ -1 ≤ r.toInt ∧ r.toInt ≤ 31 := by
  obtain ⟨r, e⟩ := (tt_x_X2_bestPlace a b c).pure u
  refine ⟨r, e, ?_⟩
  have e2 := e
  unfold x_X2_bestPlace at e2
  exact br_best fuel a b c (-1) (-1) 0 u hR (by decide) r u e2
theorem aq_club {x : Int32} {W : Nat → Bool} {m : Nat} (hm : m < 4) (hx : x.toInt ≤ bB) (v2 v3 : Int32) : ∀ (t k n : Nat) (u : MS) (ch C : Nat), k + t = x.toInt.toNat → t < n → Kb u ch C → PSc (nI m) x W u → ch + 2 * (cb W x.toInt.toNat - cb W k) ≤ 1048576 → AQ dI dA (2 * (cb W x.toInt.toNat - cb W k)) (xl_X2_placeClub_3 n (nI m) v2 v3 (nI k) (fun v1 v2 v3 v4 => art 0)) u ch C (fun _ v _ _ => PSc (nI m) x W v) := by
  intro t
  induction t with
  | zero =>
    intro k n u ch C hk hn hKb hP hch
    cases n with
    | zero => omega
    | succ n =>
      have e : k = x.toInt.toNat := by omega
      unfold xl_X2_placeClub_3
      refine AQ_n0 (a := x) (by show some (rg (u.2 0) 2088 2, u) = _; rw [hP.1]) (AQ_ite (fun _ => AQ_rt hKb hP) (fun z => absurd ?_ z))
      rw [e]
      exact x_ge hx
  | succ t ih =>
    intro k n u ch C hk hn hKb hP hch
    cases n with
    | zero => omega
    | succ n =>
      have hkx : k < x.toInt.toNat := by omega
      have hmono := cb_mono (P := W) (a := k) (b := k + 1) (by omega)
      have hmono2 := cb_mono (P := W) (a := k + 1) (b := x.toInt.toNat) (by omega)
      have hskip : AQ dI dA (2 * (cb W x.toInt.toNat - cb W k)) (ali (nI k + 1) (fun x_11 => xl_X2_placeClub_3 n (nI m) v2 v3 x_11 (fun v1 v2 v3 v4 => art 0))) u ch C (fun _ v _ _ => PSc (nI m) x W v) := by
        refine AQ_li ?_
        rw [nI_1]
        exact (ih (k + 1) n u ch C (by omega) (by omega) hKb hP (by omega)).up (by omega)
      unfold xl_X2_placeClub_3
      refine AQ_n0 (a := x) (by show some (rg (u.2 0) 2088 2, u) = _; rw [hP.1]) (AQ_ite (fun z => absurd z (x_le hx hkx)) (fun _ => ?_))
      refine AQ_n0 (a := rg (u.2 12) 16 v2) rfl (AQ_ite (fun _ => AQ_rt hKb hP) (fun _ => ?_))
      refine AQ_n0 (a := 148 + nI k * 7 + 1) rfl (AQ_n0 (a := rg (u.2 0) 2088 (148 + nI k * 7 + 1)) rfl (AQ_ite (fun _ => AQ_ite (fun z => absurd z (by decide)) (fun _ => ?_)) (fun _ => AQ_ite (fun _ => hskip) (fun z => absurd rfl z))))
      refine AQ_n0 (isWeighed_eq u (nI m) k) ?_
      rw [hP.2.1 k hkx]
      by_cases hw : W k = true
      · rw [if_pos hw]
        refine AQ_ite (fun z => absurd z (by decide)) (fun _ => ?_)
        obtain ⟨sd, es⟩ := (tt_x_X2_isSeed (nI k)).pure u
        refine AQ_n0 es (AQ_ite (fun _ => ?_) (fun _ => hskip))
        obtain ⟨p, ep, p1, p2⟩ := best_ok hP.2.2 (nI m) v2 v3
        refine AQ_n0 ep ?_
        rw [cb_t hw] at hmono2
        have e2 : 2 * (cb W x.toInt.toNat - cb W k) = 2 + 2 * (cb W x.toInt.toNat - cb W (k + 1)) := by
          rw [cb_t hw]
          omega
        rw [e2]
        refine AQ_cl (l1 := [0, 60, 65]) (l2 := [0, 1, 2]) (by decide) (by decide) ?_
        obtain ⟨r, v, c1, d1, ch', C', b1, b2, b3, b4, b5, b6, b7, b8, b9⟩ := aq_placeOne hm hx hkx p1 p2 hKb hP (by omega)
        refine ⟨r, v, c1, d1, ch', C', b1, b2, b3, b4, b5, b6, b7, b8, fun hKv _ => AQ_li ?_⟩
        rw [nI_1]
        exact ih (k + 1) n v ch' C' (by omega) (by omega) hKv b9 (by rw [cb_t hw]; omega)
      · rw [if_neg hw]
        exact AQ_ite (fun _ => hskip) (fun z => absurd rfl z)
theorem PSc.w12 {c x : Int32} {W : Nat → Bool} {u v : MS} (h : PSc c x W u) (hs : Same [] [12] u v) : PSc c x W v := by
  obtain ⟨a, b, d⟩ := h
  have e0 := hs.2 0 (by decide)
  have e11 := hs.2 11 (by decide)
  refine ⟨by rw [e0]; exact a, fun k hk => by rw [e0]; exact b k hk, ?_⟩
  unfold Rww
  rw [e11]
  exact d
theorem aq_others84 {x : Int32} {W : Nat → Bool} {m : Nat} (hm : m < 4) (hx : x.toInt ≤ bB) (v2 : Int32) : ∀ (t s n : Nat) (u : MS) (ch C : Nat), s + t = 16 → t < n → Kb u ch C → PSc (nI m) x W u → ch + 2 * t * cb W x.toInt.toNat ≤ 1048576 → AQ dI dA (2 * t * cb W x.toInt.toNat) (xl_X2_placeOthers_84 n (nI m) v2 (nI s) (fun v1 v2 v3 => art 0)) u ch C (fun _ v _ _ => PSc (nI m) x W v) := by
  intro t
  induction t with
  | zero =>
    intro s n u ch C hs hn hKb hP hch
    cases n with
    | zero => omega
    | succ n =>
      have : s = 16 := by omega
      subst this
      unfold xl_X2_placeOthers_84
      exact AQ_ite (fun _ => AQ_rt hKb hP) (fun z => absurd (Int32.le_refl _) z)
  | succ t ih =>
    intro s n u ch C hs hn hKb hP hch
    cases n with
    | zero => omega
    | succ n =>
      unfold xl_X2_placeOthers_84
      refine AQ_ite (fun _ => AQ_rt hKb hP) (fun _ => ?_)
      obtain ⟨cl, ec⟩ := tt_x_X2_largestClub.pure u
      refine AQ_n0 ec ?_
      have e : 2 * (t + 1) * cb W x.toInt.toNat = 2 * cb W x.toInt.toNat + 2 * t * cb W x.toInt.toNat := by
        rw [Nat.mul_add, Nat.add_mul, Nat.mul_one, Nat.add_comm]
      rw [e] at hch ⊢
      refine AQ_cl (l1 := dI) (l2 := dA) (by decide) (by decide) ?_
      have h9 := aq_club (W := W) hm hx cl v2 x.toInt.toNat 0 fuel u ch C (by omega) (by unfold bB at hx; unfold fuel; omega) hKb hP (by show ch + 2 * (cb W x.toInt.toNat - 0) ≤ _; omega)
      obtain ⟨r, v, c1, d1, ch', C', b1, b2, b3, b4, b5, b6, b7, b8, b9⟩ := h9
      refine ⟨r, v, c1, d1, ch', C', b1, b2, b3, b4, b5, b6, b7, b8, fun hKv hch' => ?_⟩
      have hs12 : Same [] [12] v (sf v 12 (rs (v.2 12) 16 cl 0)) := Same_sf (by decide)
      refine AQ_nl (a := ()) (v := sf v 12 (rs (v.2 12) 16 cl 0)) rfl hs12 (by decide) (by decide) (AQ_li ?_)
      rw [nI_1]
      exact ih (s + 1) n _ ch' C' (by omega) (by omega) (hKv.same hs12 (by decide) (by decide)) (b9.w12 hs12) (by omega)
theorem aq_others10 {x : Int32} {W : Nat → Bool} {m : Nat} (hm : m < 4) (hx : x.toInt ≤ bB) (v2 : Int32) (kK : Nat) (K : Int32 → Int32 → Int32 → AG Int32) (Q : Int32 → MS → Nat → Nat → Prop) (chM : Nat) (hK : ∀ v3 u C, Kb u chM C → PSc (nI m) x W u → AQ dI dA kK (K (nI m) v2 v3) u chM C Q) : ∀ (t k n : Nat) (u : MS) (C : Nat), k + t = x.toInt.toNat → t < n → Kb u chM C → PSc (nI m) x W u → AQ dI dA kK (xl_X2_placeOthers_10 n (nI m) v2 (nI k) K) u chM C Q := by
  intro t
  induction t with
  | zero =>
    intro k n u C hk hn hKb hP
    cases n with
    | zero => omega
    | succ n =>
      have e : k = x.toInt.toNat := by omega
      unfold xl_X2_placeOthers_10
      refine AQ_n0 (a := x) (by show some (rg (u.2 0) 2088 2, u) = _; rw [hP.1]) (AQ_ite (fun _ => hK _ u C hKb hP) (fun z => absurd ?_ z))
      rw [e]
      exact x_ge hx
  | succ t ih =>
    intro k n u C hk hn hKb hP
    cases n with
    | zero => omega
    | succ n =>
      have hkx : k < x.toInt.toNat := by omega
      have hskip : AQ dI dA kK (ali (nI k + 1) (fun x_11 => xl_X2_placeOthers_10 n (nI m) v2 x_11 K)) u chM C Q := by
        refine AQ_li ?_
        rw [nI_1]
        exact ih (k + 1) n u C (by omega) (by omega) hKb hP
      unfold xl_X2_placeOthers_10
      refine AQ_n0 (a := x) (by show some (rg (u.2 0) 2088 2, u) = _; rw [hP.1]) (AQ_ite (fun z => absurd z (x_le hx hkx)) (fun _ => ?_))
      refine AQ_n0 (isWeighed_eq u (nI m) k) (AQ_ite (fun _ => hskip) (fun _ => ?_))
      obtain ⟨sd, es⟩ := (tt_x_X2_isSeed (nI k)).pure u
      refine AQ_n0 es (AQ_ite (fun _ => ?_) (fun _ => hskip))
      refine AQ_n0 (a := 148 + nI k * 7 + 1) rfl (AQ_n0 (a := rg (u.2 0) 2088 (148 + nI k * 7 + 1)) rfl (AQ_n0 (a := rg (u.2 12) 16 (rg (u.2 0) 2088 (148 + nI k * 7 + 1))) rfl ?_))
      have hs12 : Same [] [12] u (sf u 12 (rs (u.2 12) 16 (rg (u.2 0) 2088 (148 + nI k * 7 + 1)) (rg (u.2 12) 16 (rg (u.2 0) 2088 (148 + nI k * 7 + 1)) + 1))) := Same_sf (by decide)
      refine AQ_nl (a := ()) rfl hs12 (by decide) (by decide) (AQ_li ?_)
      rw [nI_1]
      exact ih (k + 1) n _ C (by omega) (by omega) (hKb.same hs12 (by decide) (by decide)) (hP.w12 hs12)
theorem aq_others {x : Int32} {W : Nat → Bool} {m : Nat} (hm : m < 4) (hx : x.toInt ≤ bB) (v2 : Int32) (u : MS) (ch C : Nat) (hKb : Kb u ch C) (hP : PSc (nI m) x W u) (hch : ch + 32 * cb W x.toInt.toNat ≤ 1048576) : AQ dI dA (32 * cb W x.toInt.toNat) (x_X2_placeOthers (nI m) v2) u ch C (fun _ v _ _ => PSc (nI m) x W v) := by
  have hs12 : Same [] [12] u (sf u 12 (fl 16 0 (u.2 12))) := Same_sf (by decide)
  unfold x_X2_placeOthers
  refine AQ_nl (a := ()) rfl hs12 (by decide) (by decide) ?_
  refine aq_others10 hm hx v2 (32 * cb W x.toInt.toNat) _ _ ch (fun v3 u C hKb hP => ?_) x.toInt.toNat 0 fuel _ C (by omega) (by unfold bB at hx; unfold fuel; omega) (hKb.same hs12 (by decide) (by decide)) (hP.w12 hs12)
  exact aq_others84 hm hx v2 16 0 fuel u ch C (by omega) (by unfold fuel; omega) hKb hP hch
/-! the row -/
def Mi (h k : Nat) (f : Nat → Int32) : Prop := (∀ j, j < 32 → 0 ≤ (f j).toInt ∧ (f j).toInt ≤ 31) ∧ (∀ j, k ≤ j → j < h → (f j).toInt < h) ∧ (∀ j, j < k → (f j).toInt < 2 * h) ∧ ∀ j, 2 * h ≤ j + k → j < 2 * h → (f j).toInt < 2 * h
theorem rowv : ∀ y < 16, (2 : Int32) * nI y + (nI y - nI y / 2 * 2) = nI (2 * y + y % 2) ∧ (2 : Int32) * nI y + 1 - (nI y - nI y / 2 * 2) = nI (2 * y + 1 - y % 2) := by decide +kernel
def Rr (p : NG Int32) (u : MS) : Prop := ∀ r v, p u = some (r, v) → Rww v
theorem rr_row18 {h : Nat} (hh : h ≤ 16) (v1 : Int32) (K : Int32 → Int32 → Int32 → NG Int32) (hK : ∀ v3 u, Mi h h (u.2 11) → Rr (K v1 (nI h) v3) u) : ∀ (t k n : Nat) (u : MS), k + t = h → Mi h k (u.2 11) → Rr (xl_X2_makeRow_18 n v1 (nI h) (nI k) K) u := by
  intro t
  induction t with
  | zero =>
    intro k n u hk hM
    cases n with
    | zero => intro r v e; cases e
    | succ n =>
      have : k = h := by omega
      subst this
      unfold xl_X2_makeRow_18
      rw [if_pos (Int32.le_refl _)]
      exact hK _ u hM
  | succ t ih =>
    intro k n u hk hM
    cases n with
    | zero => intro r v e; cases e
    | succ n =>
      have hkh : k < h := by omega
      have hk0 := hM.1 k (by omega)
      have hk1 := hM.2.1 k (Nat.le_refl _) hkh
      have ey := nI_ofT hk0.1
      have hy : ((u.2 11) k).toInt.toNat < h := by omega
      unfold xl_X2_makeRow_18
      rw [if_neg (nI_ge hkh (by omega))]
      have erg : rg (u.2 11) 32 (nI k) = nI ((u.2 11) k).toInt.toNat := by
        rw [rg_in (by omega) (by decide)]
        exact ey
      generalize ((u.2 11) k).toInt.toNat = y at hy erg ey
      obtain ⟨r1, r2⟩ := rowv y (by omega)
      have eix : (2 : Int32) * nI h - 1 - nI k = nI (2 * h - 1 - k) := by
        have e2 : (2 : Int32) * nI h = nI (2 * h) := by rw [← nI_mul]; rfl
        have e3 : nI (2 * h) - 1 = nI (2 * h - 1) := nI_sub (b := 1) (by omega)
        rw [e2, e3, nI_sub (by omega)]
      show Rr (fun u => xl_X2_makeRow_18 n v1 (nI h) (nI k + 1) K (sf (sf u 11 (rs (u.2 11) 32 (nI k) (2 * rg (u.2 11) 32 (nI k) + (rg (u.2 11) 32 (nI k) - rg (u.2 11) 32 (nI k) / 2 * 2)))) 11 (rs (rs (u.2 11) 32 (nI k) (2 * rg (u.2 11) 32 (nI k) + (rg (u.2 11) 32 (nI k) - rg (u.2 11) 32 (nI k) / 2 * 2))) 32 (2 * nI h - 1 - nI k) (2 * rg (u.2 11) 32 (nI k) + 1 - (rg (u.2 11) 32 (nI k) - rg (u.2 11) 32 (nI k) / 2 * 2))))) u
      intro r v e
      dsimp only at e
      rw [erg, r1, r2, eix, nI_1] at e
      refine ih (k + 1) n _ (by omega) ?_ r v e
      have ef : ∀ j, (sf (sf u 11 (rs (u.2 11) 32 (nI k) (nI (2 * y + y % 2)))) 11 (rs (rs (u.2 11) 32 (nI k) (nI (2 * y + y % 2))) 32 (nI (2 * h - 1 - k)) (nI (2 * y + 1 - y % 2)))).2 11 j = if j = 2 * h - 1 - k then nI (2 * y + 1 - y % 2) else if j = k then nI (2 * y + y % 2) else u.2 11 j := fun j => by
        show rs (rs (u.2 11) 32 (nI k) (nI (2 * y + y % 2))) 32 (nI (2 * h - 1 - k)) (nI (2 * y + 1 - y % 2)) j = _
        rw [rs_in (by omega) (by decide), rs_in (by omega) (by decide)]
      have t1 : (nI (2 * y + y % 2)).toInt = ((2 * y + y % 2 : Nat) : Int) := nI_toInt (by omega)
      have t2 : (nI (2 * y + 1 - y % 2)).toInt = ((2 * y + 1 - y % 2 : Nat) : Int) := nI_toInt (by omega)
      obtain ⟨m1, m2, m3, m4⟩ := hM
      refine ⟨fun j hj => ?_, fun j h1 h2 => ?_, fun j h1 => ?_, fun j h1 h2 => ?_⟩
      · rw [ef]
        by_cases c1 : j = 2 * h - 1 - k
        · rw [if_pos c1, t2]; omega
        · rw [if_neg c1]
          by_cases c2 : j = k
          · rw [if_pos c2, t1]; omega
          · rw [if_neg c2]; exact m1 j hj
      · rw [ef, if_neg (by omega), if_neg (by omega)]
        exact m2 j (by omega) h2
      · rw [ef]
        by_cases c1 : j = 2 * h - 1 - k
        · rw [if_pos c1, t2]; omega
        · rw [if_neg c1]
          by_cases c2 : j = k
          · rw [if_pos c2, t1]; omega
          · rw [if_neg c2]; exact m3 j (by omega)
      · rw [ef]
        by_cases c1 : j = 2 * h - 1 - k
        · rw [if_pos c1, t2]; omega
        · rw [if_neg c1]
          by_cases c2 : j = k
          · rw [if_pos c2, t1]; omega
          · rw [if_neg c2]; exact m4 j (by omega) h2
theorem rr_row11 (v1 : Int32) (h1 : v1.toInt ≤ 32) : ∀ (t j n : Nat) (u : MS), j + t = 5 → Rww u → (∀ i, i < 2 ^ j → ((u.2 11) i).toInt < ((2 ^ j : Nat) : Int)) → Rr (xl_X2_makeRow_11 n v1 (nI (2 ^ j)) (fun v1 v2 => nrt 0)) u := by
  intro t
  induction t with
  | zero =>
    intro j n u hj hR _
    cases n with
    | zero => intro r v e; cases e
    | succ n =>
      have : j = 5 := by omega
      subst this
      unfold xl_X2_makeRow_11
      have hle : v1 ≤ nI (2 ^ 5) := by
        rw [Int32.le_iff_toInt_le]
        have : (nI (2 ^ 5)).toInt = 32 := by decide
        omega
      rw [if_pos hle]
      intro r v e
      cases e
      exact hR
  | succ t ih =>
    intro j n u hj hR hM
    cases n with
    | zero => intro r v e; cases e
    | succ n =>
      have hp : 2 ^ j ≤ 16 := by
        have h9 := Nat.pow_le_pow_right (n := 2) (by decide) (by omega : j ≤ 4)
        exact h9
      unfold xl_X2_makeRow_11
      by_cases hle : v1 ≤ nI (2 ^ j)
      · rw [if_pos hle]
        intro r v e
        cases e
        exact hR
      · rw [if_neg hle]
        have h0 : (0 : Int32) = nI 0 := rfl
        rw [h0]
        refine rr_row18 hp v1 _ (fun v3 u' hM' => ?_) (2 ^ j) 0 fuel u (by omega) ⟨hR, fun i _ hi => hM i hi, fun i hi => absurd hi (Nat.not_lt_zero _), fun i h1 h2 => by omega⟩
        have e : nI (2 ^ j) * 2 = nI (2 ^ (j + 1)) := by
          have h9 := nI_mul (2 ^ j) 2
          rw [Nat.pow_succ]
          exact h9
        show Rr (xl_X2_makeRow_11 n v1 (nI (2 ^ j) * 2) (fun v1 v2 => nrt 0)) u'
        rw [e]
        refine ih (j + 1) n u' (by omega) hM'.1 (fun i hi => ?_)
        have ep : 2 ^ (j + 1) = 2 * 2 ^ j := by rw [Nat.pow_succ, Nat.mul_comm]
        rw [ep] at hi ⊢
        have m3 := hM'.2.2.1 i
        have m4 := hM'.2.2.2 i
        generalize 2 ^ j = h at hi m3 m4 ⊢
        by_cases c : i < h
        · have := m3 c
          omega
        · have := m4 (by omega) hi
          omega
theorem makeRow_ok {u : MS} (hR : Rww u) (a : Int32) (ha : a.toInt ≤ 32) : ∃ r v, x_X2_makeRow a u = some (r, v) ∧ Same [] [11] u v ∧ Rww v := by
  obtain ⟨r, v, e, hs⟩ := tt_x_X2_makeRow a ha u
  refine ⟨r, v, e, hs, ?_⟩
  have e2 : xl_X2_makeRow_11 fuel a (nI (2 ^ 0)) (fun v1 v2 => nrt 0) (sf u 11 (rs (u.2 11) 32 0 0)) = some (r, v) := e
  have ef : ∀ j, (sf u 11 (rs (u.2 11) 32 0 0)).2 11 j = if j = 0 then 0 else u.2 11 j := fun j => rs_in (f := u.2 11) (n := 32) (j := 0) (x := 0) (by decide) (by decide) j
  refine rr_row11 a ha 5 0 fuel _ (by omega) (fun j hj => ?_) (fun i hi => ?_) r v e2
  · rw [ef]
    by_cases c : j = 0
    · rw [if_pos c]; decide
    · rw [if_neg c]; exact hR j hj
  · have : i = 0 := by
      have h1 : (2 : Nat) ^ 0 = 1 := rfl
      omega
    rw [ef, if_pos this]
    decide

