/-! ===== the law's calls: what holds between them ===== -/
theorem lnw_le {P : gLw} {LW : List gLw} (hP : (P.2.2.1 3).toInt ≤ bB) (hW : ∀ x ∈ LW, (x.2.2.1 3).toInt ≤ bB) (u : MS) : (((lnw P LW u).2.2).1 3).toInt ≤ bB := by
  unfold lnw
  split
  · exact hP
  · split
    · exact hP
    · rw [List.getD_eq_getElem?_getD]
      cases hx : LW[(rg (u.2 0) 2088 3 - 1).toNatClampNeg]? with
      | none => exact hP
      | some x => exact hW x (List.mem_of_getElem? hx)
def LI (G : gG) (Z : gC) (s : State) (A : Nat → Prop) (q1 q3 N : Nat) (H : Heap) (locs : List Loc) (cells slots : Nat) : Prop := ∃ (Q : Nat → Nat) (D : Nat × Nat) (mc : Int32) (o : gOa) (T1 : va_W) (P : gLw) (LW : List gLw) (u : MS) (n ch C tp M : Nat) (Qm : Nat → Nat) (v : GS), Q 0 = q1 ∧ Qm 72 = q3 ∧ mOK Qm ∧ bH G Q D (tlC Z Q mc LW.length o ++ T1) u Qm v.1 A s H locs ∧ toldC G Q T1 P LW o ∧ LW.length ≤ N ∧ (P.2.2.1 3).toInt ≤ bB ∧ (∀ x ∈ LW, (x.2.2.1 3).toInt ≤ bB) ∧ CS u n ch C ∧ ch ≤ 1570 * N ∧ u.1 2 = nI tp ∧ tp ≤ 3000 ∧ M ≤ 20 * N ∧ Bo P LW M tp u v ∧ 256 * cells ≤ 51200 + 2048 * N + C ∧ slots ≤ 50000 + 901 * N + 4 * C
theorem LI.up {G : gG} {Z : gC} {s : State} {A : Nat → Prop} {q1 q3 N : Nat} {H : Heap} {locs : List Loc} {cells slots : Nat} (h : LI G Z s A q1 q3 N H locs cells slots) : LI G Z s A q1 q3 (N + 1) H locs cells slots := by
  obtain ⟨Q, D, mc, o, T1, P, LW, u, n, ch, C, tp, M, Qm, v, h1, h2, hQ, hH, hT, hLW, hPb, hWb, hS, hch, htp, htp3, hM, hLv, hce, hsl⟩ := h
  exact ⟨Q, D, mc, o, T1, P, LW, u, n, ch, C, tp, M, Qm, v, h1, h2, hQ, hH, hT, by omega, hPb, hWb, hS, by omega, htp, htp3, by omega, hLv, by omega, by omega⟩
/-- laws(), the class's side -/
theorem laws_pure {u : MS} {n ch C : Nat} (h : CS u n ch C) (hch : ch + 1 ≤ 1048576) : (∃ r v, x_lawsNo u = some (r, v) ∧ CS v n ch C ∧ v.1 2 = nI 0) ∨ (∃ r5 u5 r6 u6 C1 C2 n1 ch1 Cn, x_lawsYes u = some (r5, u5) ∧ x_X1_put 3 (rg (u5.2 0) 2088 3 + 1) (dnew u5) = some (r6, u6, C1, C2) ∧ CS u6 n1 ch1 Cn ∧ ch1 ≤ ch + 1 ∧ C ≤ Cn ∧ C2 = 4 * (Cn - C) ∧ 256 * C1 ≤ Cn - C ∧ u6.1 2 = nI 0 ∧ (u5.1 23).toInt ≤ bB) := by
  obtain ⟨k1, u2, e1, hs1⟩ := tt_x_X3_openFights u
  have e0 := hs1.nil
  subst e0
  have hsi : ∀ w : MS, CS w n ch C → CS (si w 2 0) n ch C := fun w hw => hw.same (l1 := [2]) (l2 := []) (Same_si (by decide)) (by decide) (by decide)
  have hz : ∀ w : MS, (si w 2 0).1 2 = nI 0 := fun w => rfl
  by_cases c1 : k1 ≤ 0
  · obtain ⟨r3, u3, e3, hs3, h23⟩ := readLaws_ok u2
    have hC3 : CS u3 n ch C := h.same hs3 (by decide) (by decide)
    have e4 : nWF 2 0 u3 = some ((), si u3 2 0) := rfl
    by_cases c2 : r3 = 0
    · refine Or.inl ⟨-1, si u3 2 0, ?_, hsi _ hC3, hz _⟩
      unfold x_lawsNo
      refine ncl_eq e1 ?_
      rw [if_pos c1]
      refine ncl_eq e3 (ncl_eq e4 ?_)
      rw [if_pos c2]
      rfl
    · rcases isFull_eq (hsi _ hC3) with ⟨hn, e5⟩ | ⟨hn, e5⟩
      · obtain ⟨v5, e6, hC5, hs5, -⟩ := (hsi _ hC3).opn hn
        have hsd : Same [20, 21, 22, 23, 24, 25] [8, 9, 10] v5 (dnew v5) := ⟨fun k hk => by
          show (if [20, 21, 22, 23, 24, 25].contains k = true then 0 else v5.1 k) = v5.1 k
          rw [if_neg (fun z => hk (List.contains_iff_mem.mp z))], fun k hk => by
          show (if k = 8 then _ else if k = 9 then _ else if k = 10 then _ else v5.2 k) = v5.2 k
          have h8 : ¬ k = 8 := fun z => hk (by rw [z]; decide)
          have h9 : ¬ k = 9 := fun z => hk (by rw [z]; decide)
          have h10 : ¬ k = 10 := fun z => hk (by rw [z]; decide)
          rw [if_neg h8, if_neg h9, if_neg h10]⟩
        have hC6 : CS (dnew v5) (n + 1) ch C := hC5.same hsd (by decide) (by decide)
        obtain ⟨r6, u6, c6, d6, n6, ch6, C6, e7, hC7, hch7, hCC, hd7, hc7, hs7⟩ := AS_of (ap_put 3 (rg (v5.2 0) 2088 3 + 1) (Or.inr (by decide))) (by decide) (dnew v5) (n + 1) ch C hC6 hch
        refine Or.inr ⟨0, v5, r6, u6, c6, d6, n6, ch6, C6, ?_, e7, hC7, hch7, hCC, hd7, hc7, ?_, ?_⟩
        · unfold x_lawsYes
          refine ncl_eq e1 ?_
          rw [if_pos c1]
          refine ncl_eq e3 (ncl_eq e4 ?_)
          rw [if_neg c2]
          refine ncl_eq e5 ?_
          rw [if_pos rfl]
          exact ncl_eq e6 rfl
        · have a1 := hs7.1 2 (by decide)
          have a2 := hsd.1 2 (by decide)
          have a3 := hs5.1 2 (by decide)
          rw [a1, a2, a3]
          exact hz _
        · have a3 := hs5.1 23 (by decide)
          rw [a3]
          exact h23
      · refine Or.inl ⟨-4, si u3 2 0, ?_, hsi _ hC3, hz _⟩
        unfold x_lawsNo
        refine ncl_eq e1 ?_
        rw [if_pos c1]
        refine ncl_eq e3 (ncl_eq e4 ?_)
        rw [if_neg c2]
        refine ncl_eq e5 ?_
        rw [if_neg (by decide)]
        rfl
  · refine Or.inl ⟨-3, si u2 2 0, ?_, hsi _ h, hz _⟩
    unfold x_lawsNo
    refine ncl_eq e1 ?_
    rw [if_neg c1]
    exact ncl_eq (show nWF 2 0 u2 = some ((), si u2 2 0) from rfl) rfl

