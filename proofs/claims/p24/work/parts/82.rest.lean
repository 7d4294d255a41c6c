/-! ===== undo, tape, the number of lines ===== -/
theorem ncl_eq {α β : Type} {p : NG α} {q : α → NG β} {u v : MS} {a : α} {y : β × MS} (h : p u = some (a, v)) (h2 : q a v = some y) : ncl p q u = some y := by
  unfold ncl
  rw [h]
  exact h2
theorem nli_eq {β : Type} {x : Int32} {q : Int32 → NG β} {u : MS} {y : β × MS} (h : q x u = some y) : nli x q u = some y := h
theorem tb_lp {u0 : MS} {n ch C : Nat} (st : Nat) (K : Int32 → Int32 → NG Int32) (Q : Int32 → MS → Prop) (hK : ∀ v2 u, Kb u ch C → u.1 = u0.1 → (∀ k, ¬ k = 0 → u.2 k = u0.2 k) → ∃ r v, K (nI st) v2 u = some (r, v) ∧ Q r v) : ∀ (t k n : Nat) (u : MS), k = st + t → k ≤ ch → t < n → Kb u ch C → u.1 = u0.1 → (∀ k, ¬ k = 0 → u.2 k = u0.2 k) → ∃ r v, xl_X1_takeBack_33 n (nI st) (nI k - 1) K u = some (r, v) ∧ Q r v := by
  intro t
  induction t with
  | zero =>
    intro k n u hk hkc hn hKb h1 h2
    cases n with
    | zero => omega
    | succ n =>
      have : k = st := by omega
      subst this
      have hC := hKb.C
      have h4 := hKb.2.2.2.1
      have hlt : nI k - 1 < nI k := by
        rw [Int32.lt_iff_toInt_lt]
        have e : nI k - 1 = nI k + (-1) := Int32.sub_eq_add_neg _ _
        have hk1 : (nI k).toInt = k := nI_toInt (by omega)
        rw [e, i32_add _ (-1) (by rw [i32_m1, hk1]; omega) (by rw [i32_m1, hk1]; omega), i32_m1, hk1]
        omega
      unfold xl_X1_takeBack_33
      rw [if_pos hlt]
      exact hK _ u hKb h1 h2
  | succ t ih =>
    intro k n u hk hkc hn hKb h1 h2
    cases n with
    | zero => omega
    | succ n =>
      have hC := hKb.C
      have h4 := hKb.2.2.2.1
      have ep : nI k - 1 = nI (k - 1) := nI_sub (b := 1) (by omega)
      unfold xl_X1_takeBack_33
      rw [ep, if_neg (fun z => absurd ((nI_ltI (by omega) (by omega)).mp z) (by omega))]
      have e1 : rg (u.2 1) (u.1 60).toNatClampNeg (nI (k - 1)) = u.2 1 (k - 1) := by
        rw [hKb.2.1, nI_clamp (by omega), rg_in (by omega) (by omega)]
      have e2 : rg (u.2 2) (u.1 65).toNatClampNeg (nI (k - 1)) = u.2 2 (k - 1) := by
        rw [hKb.2.2.1, nI_clamp (by omega), rg_in (by omega) (by omega)]
      show ∃ r v, xl_X1_takeBack_33 n (nI st) (nI (k - 1) + (-1)) K (sf u 0 (rs (u.2 0) 2088 (rg (u.2 1) (u.1 60).toNatClampNeg (nI (k - 1))) (rg (u.2 2) (u.1 65).toNatClampNeg (nI (k - 1))))) = some (r, v) ∧ Q r v
      rw [e1, e2]
      have em : nI (k - 1) + (-1) = nI (k - 1) - 1 := (Int32.sub_eq_add_neg _ _).symm
      rw [em]
      refine ih (k - 1) n _ (by omega) (by omega) (by omega) ?_ h1 (fun j hj => (if_neg hj).trans (h2 j hj))
      obtain ⟨a, b, c, d, e, b0, b2, hJ⟩ := hKb
      refine ⟨a, b, c, d, e, ?_, ?_, hJ⟩
      · show (rs (u.2 0) 2088 (u.2 1 (k - 1)) (u.2 2 (k - 1)) 0).toInt ≤ bB
        rcases rs_at (f := u.2 0) (n := 2088) (i := u.2 1 (k - 1)) (x := u.2 2 (k - 1)) 0 with z | ⟨z, y⟩
        · rw [z]; exact b0
        · rw [z]; exact hJ (k - 1) (by omega) (Or.inl y)
      · show (rs (u.2 0) 2088 (u.2 1 (k - 1)) (u.2 2 (k - 1)) 2).toInt ≤ bB
        rcases rs_at (f := u.2 0) (n := 2088) (i := u.2 1 (k - 1)) (x := u.2 2 (k - 1)) 2 with z | ⟨z, y⟩
        · rw [z]; exact b2
        · rw [z]; exact hJ (k - 1) (by omega) (Or.inr y)
theorem Kb.less {u v : MS} {ch ch2 C : Nat} (h : Kb u ch C) (hc : ch2 ≤ ch) (h0 : v.1 0 = nI ch2) (h60 : v.1 60 = u.1 60) (h65 : v.1 65 = u.1 65) (ha : v.2 0 = u.2 0 ∧ v.2 1 = u.2 1 ∧ v.2 2 = u.2 2) : Kb v ch2 C := by
  obtain ⟨a, b, c, d, e, b0, b2, hJ⟩ := h
  refine ⟨h0, h60.trans b, h65.trans c, by omega, e, by rw [ha.1]; exact b0, by rw [ha.1]; exact b2, fun k hk => ?_⟩
  rw [ha.2.1, ha.2.2]
  exact hJ k (by omega)
theorem tb_ok {u : MS} {n ch C : Nat} (h : CS u n ch C) (hn : 1 ≤ n) : ∃ r v ch', x_X1_takeBack u = some (r, v) ∧ CS v (n - 1) ch' C ∧ ch' ≤ ch ∧ v.1 2 = u.1 2 := by
  obtain ⟨hKb, ⟨e1, hn5, p, hp, hm⟩, hR⟩ := h
  have hC := hKb.C
  have h4 := hKb.2.2.2.1
  obtain ⟨p1, p2⟩ := hp (n - 1) (by omega)
  have ep : nI n - 1 = nI (n - 1) := nI_sub (b := 1) hn
  have e500 : rg (u.2 3) 500 (nI (n - 1)) = nI (p (n - 1)) := by rw [rg_in (by omega) (by decide)]; exact p1
  have emax : (if nI (p (n - 1)) < 0 then (0 : Int32) else nI (p (n - 1))) = nI (p (n - 1)) := if_neg (nI_nn (by omega))
  have hK1 : Kb (si u 1 (nI (n - 1))) ch C := hKb.same (l1 := [1]) (l2 := []) (Same_si (by decide)) (by decide) (by decide)
  have h9 := tb_lp (u0 := si u 1 (nI (n - 1))) (n := n) (ch := ch) (C := C) (p (n - 1)) (fun v1 v2 => ncl (nWF 0 v1) (fun _ => nrt (0 : Int32))) (fun _ v => CS v (n - 1) (p (n - 1)) C ∧ v.1 2 = u.1 2) (fun v2 w hKw hw1 hw2 => by
    refine ⟨0, si w 0 (nI (p (n - 1))), rfl, ⟨hKw.less p2 rfl rfl rfl ⟨rfl, rfl, rfl⟩, ⟨?_, by omega, p, fun e he => ?_, fun e e' a b => hm e e' a (by omega)⟩, ?_⟩, ?_⟩
    · show w.1 1 = nI (n - 1)
      rw [hw1]
      rfl
    · refine ⟨?_, hm e (n - 1) (by omega) (by omega)⟩
      show w.2 3 e = nI (p e)
      rw [hw2 3 (by decide)]
      exact (hp e (by omega)).1
    · intro j hj
      show 0 ≤ (w.2 11 j).toInt ∧ (w.2 11 j).toInt ≤ 31
      rw [hw2 11 (by decide)]
      exact hR j hj
    · show w.1 2 = u.1 2
      rw [hw1]
      rfl) (ch - p (n - 1)) ch fuel (si u 1 (nI (n - 1))) (by omega) (Nat.le_refl _) (by unfold fuel; omega) hK1 rfl (fun _ _ => rfl)
  obtain ⟨r, v, e, q⟩ := h9
  refine ⟨r, v, p (n - 1), ?_, q.1, p2, q.2⟩
  unfold x_X1_takeBack
  refine ncl_eq (a := u.1 1) (v := u) rfl (ncl_eq (a := ()) (v := si u 1 (u.1 1 - 1)) rfl (ncl_eq (a := u.1 1 - 1) (v := si u 1 (u.1 1 - 1)) rfl (ncl_eq (a := rg (u.2 3) 500 (u.1 1 - 1)) (v := si u 1 (u.1 1 - 1)) rfl ?_)))
  rw [e1, ep, e500, emax]
  exact nli_eq (ncl_eq (a := nI ch) (v := si u 1 (nI (n - 1))) (by rw [← hKb.1]; rfl) (nli_eq e))
theorem tt_undo21 : ∀ (n : Nat) (v1 : Int32), msr v1 ≤ n → T [] [13, 14, 15, 16, 17] (xl_X11_undo_21 n v1 (fun v1 => ncl (nRF 1) (fun x_15 => nrt x_15))) := by
  intro n
  induction n with
  | zero =>
    intro v1 hm
    exact absurd hm (msr_0 _)
  | succ n ih =>
    intro v1 hm
    unfold xl_X11_undo_21
    exact T_ite (fun _ => T_cl T_RF (fun _ => T_rt _)) (fun h => T_cl ((tt_x_X0_settle _).mono (by decide) (by decide)) (fun _ => T_li (ih _ (msr_up h hm))))
theorem cs_undo {u : MS} {n ch C : Nat} (h : CS u n ch C) : ∃ r v n' ch', x_X11_undo u = some (r, v) ∧ CS v n' ch' C ∧ ch' ≤ ch ∧ v.1 2 = u.1 2 := by
  have e1 := h.2.1.1
  have hn5 := h.2.1.2.1
  rcases Nat.eq_zero_or_pos n with z | z
  · refine ⟨-1, u, n, ch, ?_, h, Nat.le_refl _, rfl⟩
    unfold x_X11_undo
    have hz : nI 0 = (0 : Int32) := rfl
    refine ncl_eq (a := nI 0) (v := u) (by rw [← z, ← e1]; rfl) ?_
    rw [if_pos hz]
    rfl
  · obtain ⟨r, v, ch', e, hv, hc, h2⟩ := tb_ok h z
    obtain ⟨r2, w, e2, hs⟩ := tt_undo21 fuel 0 (msr_fuel _) v
    refine ⟨r2, w, n - 1, ch', ?_, hv.same hs (by decide) (by decide), hc, (hs.1 2 (by decide)).trans h2⟩
    unfold x_X11_undo
    have hne : ¬ nI n = 0 := fun q => by
      have := (nI_eq (a := n) (b := 0) (by omega) (by decide)).mp q
      omega
    refine ncl_eq (a := nI n) (v := u) (by rw [← e1]; rfl) ?_
    rw [if_neg hne]
    exact ncl_eq e e2
/-! the tape -/
theorem push_lp (a : Int32) : ∀ (t n : Nat) (u : MS) (tp : Nat), t ≤ 4 → t < n → u.1 2 = nI tp → ∃ v, xl_X10_push_3 n a (nI (8 * t) - 8) (fun v1 v2 => nrt 0) u = some (0, v) ∧ v.1 2 = nI (tp + t) ∧ Same [2] [4] u v := by
  intro t
  induction t with
  | zero =>
    intro n u tp ht hn h2
    cases n with
    | zero => omega
    | succ n =>
      unfold xl_X10_push_3
      exact ⟨u, rfl, h2, Same.rf u⟩
  | succ t ih =>
    intro n u tp ht hn h2
    cases n with
    | zero => omega
    | succ n =>
      have e8 : nI (8 * (t + 1)) - 8 = nI (8 * t) := nI_sub (b := 8) (by omega)
      have em : nI (8 * t) + (-8) = nI (8 * t) - 8 := (Int32.sub_eq_add_neg _ _).symm
      unfold xl_X10_push_3
      rw [e8, if_neg (nI_nn (by omega))]
      have hs : Same [2] [4] u (si (sf u 4 (rs (u.2 4) 3000 (u.1 2) ((a >>> (nI (8 * t) &&& 31)) &&& 255))) 2 (u.1 2 + 1)) := (Same_sf (by decide)).trans (Same_si (by decide))
      have h3 : (si (sf u 4 (rs (u.2 4) 3000 (u.1 2) ((a >>> (nI (8 * t) &&& 31)) &&& 255))) 2 (u.1 2 + 1)).1 2 = nI (tp + 1) := by
        show u.1 2 + 1 = nI (tp + 1)
        rw [h2, nI_1]
      obtain ⟨v, e, hv, hs2⟩ := ih n _ (tp + 1) (by omega) (by omega) h3
      refine ⟨v, ?_, by rw [hv]; congr 1; omega, hs.trans hs2⟩
      show xl_X10_push_3 n a (nI (8 * t) + (-8)) (fun v1 v2 => nrt 0) (si (sf u 4 (rs (u.2 4) 3000 (u.1 2) ((a >>> (nI (8 * t) &&& 31)) &&& 255))) 2 (u.1 2 + 1)) = _
      rw [em]
      exact e
theorem push_ok (a : Int32) (u : MS) (tp : Nat) (h2 : u.1 2 = nI tp) : ∃ v, x_X10_push a u = some (0, v) ∧ v.1 2 = nI (tp + 4) ∧ Same [2] [4] u v := push_lp a 4 fuel u tp (by omega) (by unfold fuel; omega) h2
theorem end_ok (a : Int32) (u : MS) (tp : Nat) (ht : tp ≤ 3000) (h2 : u.1 2 = nI tp) : ∃ r v, x_X11_end a u = some (r, v) ∧ Same [2] [] u v ∧ ((0 ≤ a.toInt ∧ a.toInt ≤ tp ∧ r = a ∧ v.1 2 = nI a.toInt.toNat) ∨ (¬ (0 ≤ a.toInt ∧ a.toInt ≤ tp) ∧ r = -1 ∧ v.1 2 = nI tp)) := by
  have etp : (nI tp).toInt = tp := nI_toInt (by omega)
  unfold x_X11_end
  by_cases h : a < 0
  · refine ⟨-1, u, by rw [if_pos h]; rfl, Same.rf u, Or.inr ⟨?_, rfl, h2⟩⟩
    rw [Int32.lt_iff_toInt_lt, i32_0] at h
    omega
  · rw [if_neg h]
    have h0 : 0 ≤ a.toInt := by
      rw [Int32.lt_iff_toInt_lt, i32_0] at h
      omega
    by_cases h3 : a ≤ nI tp
    · refine ⟨a, si u 2 a, ?_, Same_si (by decide), Or.inl ⟨h0, ?_, rfl, nI_ofT h0⟩⟩
      · refine ncl_eq (a := nI tp) (v := u) (by rw [← h2]; rfl) ?_
        rw [if_pos h3]
        rfl
      · have := Int32.le_iff_toInt_le.mp h3
        omega
    · refine ⟨-1, u, ?_, Same.rf u, Or.inr ⟨?_, rfl, h2⟩⟩
      · refine ncl_eq (a := nI tp) (v := u) (by rw [← h2]; rfl) ?_
        rw [if_neg h3]
        rfl
      · have := i32_nle h3
        omega
/-! the lines of the draft -/
def E0 {β : Type} (p : NG β) : Prop := ∀ u r v, p u = some (r, v) → v.1 23 = u.1 23
def E1 {β : Type} (p : NG β) : Prop := ∀ u r v, p u = some (r, v) → v.1 23 = u.1 23 ∨ v.1 23 = u.1 23 + 1
theorem T.e0 {β : Type} {l1 l2 : List Nat} {p : NG β} (h : T l1 l2 p) (h23 : ¬ 23 ∈ l1) : E0 p := fun u r v e => by
  obtain ⟨r2, v2, e2, hs⟩ := h u
  rw [e] at e2
  cases e2
  exact hs.1 23 h23
theorem E0.e1 {β : Type} {p : NG β} (h : E0 p) : E1 p := fun u r v e => Or.inl (h u r v e)
theorem E1_c0 {α β : Type} {p : NG α} {q : α → NG β} (hp : E0 p) (hq : ∀ a, E1 (q a)) : E1 (ncl p q) := fun u r v e => by
  obtain ⟨a, w, e1, e2⟩ := ncl_some e
  have h1 := hp u a w e1
  have h2 := hq a w r v e2
  rw [h1] at h2
  exact h2
theorem E1_c1 {α β : Type} {p : NG α} {q : α → NG β} (hp : E1 p) (hq : ∀ a, E0 (q a)) : E1 (ncl p q) := fun u r v e => by
  obtain ⟨a, w, e1, e2⟩ := ncl_some e
  have h1 := hp u a w e1
  rw [hq a w r v e2]
  exact h1
theorem E1_ite {β : Type} {b : Prop} [Decidable b] {p q : NG β} (h1 : E1 p) (h2 : E1 q) : E1 (if b then p else q) := by
  by_cases h : b
  · rw [if_pos h]; exact h1
  · rw [if_neg h]; exact h2
theorem e1_endLine : E1 x_X4_endLine := fun u r v e => by
  unfold x_X4_endLine at e
  cases e
  exact Or.inr rfl
theorem e1_rt (x : Int32) : E1 (nrt x) := fun u r v e => by cases e; exact Or.inl rfl
theorem e1_tbc (a : Int32) : E1 (x_X5_takeBehindCond a) := by
  unfold x_X5_takeBehindCond
  have hend : E1 (ncl (x_X5_emitBinders 9) (fun r_25 => ncl (x_X4_endLine) (fun r_28 => ncl (nWF 12 9) (fun _ => nrt (0 : Int32))))) := E1_c0 ((tt_x_X5_emitBinders 9).e0 (by decide)) (fun _ => E1_c1 e1_endLine (fun _ => T.e0 (l1 := [12]) (l2 := []) (T_cl (T_WF (by decide)) (fun _ => T_rt _)) (by decide)))
  repeat (first | (with_reducible exact hend) | (with_reducible exact e1_rt _) | (with_reducible refine E1_ite ?_ ?_) | (with_reducible refine E1_c0 ((tt_x_X5_takePart _).e0 (by decide)) (fun _ => ?_)) | (with_reducible refine E1_c0 ((tt_x_X5_emitBinders _).e0 (by decide)) (fun _ => ?_)) | (with_reducible refine E1_c0 ((tt_x_X5_hold _).e0 (by decide)) (fun _ => ?_)) | (with_reducible refine E1_c0 ((tt_x_X5_fail _).e0 (by decide)) (fun _ => ?_)) | (with_reducible refine E1_c0 (tt_x_X5_closeBracket.e0 (by decide)) (fun _ => ?_)) | (with_reducible refine E1_c0 (T.e0 (l1 := []) (l2 := []) T_RF (by decide)) (fun _ => ?_)) | (with_reducible refine E1_c0 (T.e0 (l1 := [12]) (l2 := []) (T_WF (by decide)) (by decide)) (fun _ => ?_)))
theorem e1_take (a : Int32) : E1 (x_X5_take a) := by
  unfold x_X5_take
  have h0 : E1 (ncl (x_X5_takeBehindCond a) (fun r_63 => nrt (0 : Int32))) := E1_c1 (e1_tbc a) (fun _ => (T_rt (LI := []) (LA := []) _).e0 (by decide))
  repeat (first | (with_reducible exact h0) | (with_reducible exact e1_rt _) | (with_reducible refine E1_ite ?_ ?_) | (with_reducible refine E1_c0 (T.e0 (l1 := []) (l2 := []) T_RF (by decide)) (fun _ => ?_)) | (with_reducible refine E1_c0 ((tt_x_X5_takeSignOrLine _).e0 (by decide)) (fun _ => ?_)) | (with_reducible refine E1_c0 ((tt_x_X5_takeSignName _).e0 (by decide)) (fun _ => ?_)) | (with_reducible refine E1_c0 ((tt_x_X5_goIf _ _).e0 (by decide)) (fun _ => ?_)) | (with_reducible refine E1_c0 ((tt_x_X5_takePoints _).e0 (by decide)) (fun _ => ?_)) | (with_reducible refine E1_c0 ((tt_x_X5_takeCond _).e0 (by decide)) (fun _ => ?_)) | (with_reducible refine E1_c0 ((tt_x_X5_takeTerm _).e0 (by decide)) (fun _ => ?_)) | (with_reducible refine E1_c0 ((tt_x_X5_takeTermName _).e0 (by decide)) (fun _ => ?_)) | (with_reducible refine E1_c0 ((tt_x_X5_takeBehindTerm _).e0 (by decide)) (fun _ => ?_)) | (with_reducible refine E1_c0 (tt_x_X5_endComparison.e0 (by decide)) (fun _ => ?_)) | (with_reducible refine E1_c0 ((tt_x_X5_takeHead _).e0 (by decide)) (fun _ => ?_)))
theorem lines_lp : ∀ (t j n : Nat) (u : MS) (l : Nat), j + t = 3001 → u.1 23 = nI l → l ≤ j → ∀ r v, xl_X5_readLaws_46 n (nI j) (fun v1 => ncl (nRF 11) (fun x_54 => (if x_54 = 0 then nrt (1 : Int32) else nrt 0))) u = some (r, v) → ∃ l', v.1 23 = nI l' ∧ l' ≤ 3001 := by
  have hK : ∀ (u : MS) (l : Nat), u.1 23 = nI l → l ≤ 3001 → ∀ r v, ncl (nRF 11) (fun x_54 => (if x_54 = 0 then nrt (1 : Int32) else nrt 0)) u = some (r, v) → ∃ l', v.1 23 = nI l' ∧ l' ≤ 3001 := fun u l h1 h2 r v e => by
    have h := T.e0 (l1 := []) (l2 := []) (p := ncl (nRF 11) (fun x_54 => (if x_54 = 0 then nrt (1 : Int32) else nrt 0))) (T_cl T_RF (fun _ => T_ite (fun _ => T_rt _) (fun _ => T_rt _))) (by decide) u r v e
    exact ⟨l, h.trans h1, h2⟩
  intro t
  induction t with
  | zero =>
    intro j n u l hj h1 h2 r v e
    cases n with
    | zero => cases e
    | succ n =>
      have : j = 3001 := by omega
      subst this
      unfold xl_X5_readLaws_46 at e
      have h3 : (3000 : Int32) < nI 3001 := by decide
      rw [if_pos h3] at e
      exact hK u l h1 (by omega) r v e
  | succ t ih =>
    intro j n u l hj h1 h2 r v e
    cases n with
    | zero => cases e
    | succ n =>
      unfold xl_X5_readLaws_46 at e
      have h3 : ¬ (3000 : Int32) < nI j := fun z => by
        have := (nI_ltI (a := 3000) (b := j) (by decide) (by omega)).mp z
        omega
      rw [if_neg h3] at e
      obtain ⟨a1, w1, e1, e⟩ := ncl_some e
      cases e1
      by_cases c1 : u.1 11 = 0
      · rw [if_pos c1] at e
        obtain ⟨a2, w2, e2, e⟩ := ncl_some e
        cases e2
        by_cases c2 : u.1 12 = 17
        · rw [if_pos c2] at e
          exact hK u l h1 (by omega) r v e
        · rw [if_neg c2] at e
          obtain ⟨a3, w3, e3, e⟩ := ncl_some e
          have g3 := tt_x_X10_readToken.e0 (by decide) u a3 w3 e3
          obtain ⟨a4, w4, e4, e⟩ := ncl_some e
          cases e4
          obtain ⟨a5, w5, e5, e⟩ := ncl_some e
          have g5 := e1_take _ w3 a5 w5 e5
          have e' : xl_X5_readLaws_46 n (nI j + 1) (fun v1 => ncl (nRF 11) (fun x_54 => (if x_54 = 0 then nrt (1 : Int32) else nrt 0))) w5 = some (r, v) := e
          rw [nI_1] at e'
          rcases g5 with g5 | g5
          · exact ih (j + 1) n w5 l (by omega) (g5.trans (g3.trans h1)) (by omega) r v e'
          · refine ih (j + 1) n w5 (l + 1) (by omega) ?_ (by omega) r v e'
            rw [g5, g3, h1, nI_1]
      · rw [if_neg c1] at e
        exact hK u l h1 (by omega) r v e
theorem readLaws_ok (u : MS) : ∃ r v, x_X5_readLaws u = some (r, v) ∧ Same [3, 4, 5, 6, 7, 8, 9, 10, 11, 12, 13, 14, 15, 20, 21, 22, 23, 24, 25] [5, 6, 7, 8, 9, 10] u v ∧ (v.1 23).toInt ≤ bB := by
  obtain ⟨r, v, e, hs⟩ := tt_x_X5_readLaws u
  refine ⟨r, v, e, hs, ?_⟩
  have e2 := e
  unfold x_X5_readLaws at e2
  obtain ⟨a1, w1, e1, e2⟩ := ncl_some e2
  have g1 : w1.1 23 = nI 0 := by
    unfold x_X4_clear at e1
    cases e1
    rfl
  obtain ⟨a3, w3, e3, e2⟩ := ncl_some e2
  have g3 := tt_x_X10_rewind.e0 (by decide) w1 a3 w3 e3
  have e4 : xl_X5_readLaws_46 fuel (nI 0) (fun v1 => ncl (nRF 11) (fun x_54 => (if x_54 = 0 then nrt (1 : Int32) else nrt 0))) (si (si (si (si (si (si w3 11 0) 10 (-1)) 12 0) 7 0) 8 0) 9 0) = some (r, v) := e2
  obtain ⟨l, hl, hle⟩ := lines_lp 3001 0 fuel (si (si (si (si (si (si w3 11 0) 10 (-1)) 12 0) 7 0) 8 0) 9 0) 0 (by omega) (g3.trans g1) (Nat.le_refl _) r v e4
  rw [hl, nI_toInt (by omega)]
  unfold bB
  omega

