/-! ===== the names of signs, on both sides ===== -/
def SgC (ns : Nat) (st sz : Nat → Nat) (u : MS) : Prop := u.1 22 = nI ns ∧ ∀ l, l < ns → u.2 5 l = nI (st l) ∧ u.2 6 l = nI (sz l)
def SgV (T : Nat → Nat) (ns : Nat) (st sz : Nat → Nat) (v : GS) : Prop := Im v 29 (nI ns) ∧ ∀ l, l < ns → Am v 33 l (nI (sz l)) ∧ ∀ j, j < sz l → Am v 32 (10 * l + j) (sb (T (st l + j)))
def SgN (N ns : Nat) (st sz : Nat → Nat) : Prop := ns ≤ 8 ∧ ∀ l, l < ns → sz l ≤ 10 ∧ st l + sz l ≤ N
def Wd (T : Nat → Nat) (a b s z : Nat) : Prop := b - a = z ∧ ∀ j, j < z → T (a + j) = T (s + j)
def FindR (T : Nat → Nat) (a b ns : Nat) (st sz : Nat → Nat) (r : Int32) : Prop := (r = -1 ∧ ∀ l, l < ns → ¬ Wd T a b (st l) (sz l)) ∨ ∃ l, l < ns ∧ r = nI l ∧ Wd T a b (st l) (sz l) ∧ ∀ k, k < l → ¬ Wd T a b (st k) (sz k)
theorem FindR.un {T : Nat → Nat} {a b ns : Nat} {st sz : Nat → Nat} {r q : Int32} (h1 : FindR T a b ns st sz r) (h2 : FindR T a b ns st sz q) : r = q := by
  rcases h1 with ⟨rfl, x⟩ | ⟨l, x1, rfl, x2, x3⟩ <;> rcases h2 with ⟨rfl, y⟩ | ⟨k, y1, rfl, y2, y3⟩
  · rfl
  · exact absurd y2 (x k y1)
  · exact absurd x2 (y l x1)
  · rcases Nat.lt_trichotomy l k with z | z | z
    · exact absurd x2 (y3 l z)
    · rw [z]
    · exact absurd y2 (x3 k z)
section
variable {T : Nat → Nat} {N : Nat}
theorem c_wordAt {u : MS} {a b s z : Nat} (h : CP T N a b u) (hsz : s + z ≤ N) : CN (x_X10_isWordAt (nI s) (nI z)) u (fun r w => w = u ∧ ((r = 1 ∧ Wd T a b s z) ∨ (r = 0 ∧ ¬ Wd T a b s z))) := by
  obtain ⟨hT, -, hab, hbN, h5, h3, -⟩ := h
  have hN := hT.1
  unfold x_X10_isWordAt
  refine CN_RFx h3 (CN_RFx h5 ?_)
  rw [nI_sub hab]
  refine CN_ite (fun z0 => ?_) (fun z0 => CN_rt ⟨rfl, Or.inr ⟨rfl, fun y => z0 (by rw [y.1])⟩⟩)
  have hl : b - a = z := (nI_eq (by omega) (by omega)).mp z0
  have hlp : ∀ (g j : Nat), j ≤ z → (∀ i, i < j → T (a + i) = T (s + i)) → CN (xl_X10_isWordAt_17 g (nI s) (nI z) (nI j) (fun v1 v2 v3 => nrt 1)) u (fun r w => w = u ∧ ((r = 1 ∧ Wd T a b s z) ∨ (r = 0 ∧ ¬ Wd T a b s z))) := by
    intro g
    induction g with
    | zero => exact fun j _ _ r w e => by cases e
    | succ g ih =>
      intro j hj hp
      unfold xl_X10_isWordAt_17
      refine CN_ite (fun y => CN_rt ⟨rfl, Or.inl ⟨rfl, hl, ?_⟩⟩) (fun y => CN_RFx h5 ?_)
      · have := (nI_leI (by omega) (by omega)).mp y
        have hj2 : j = z := by omega
        rw [← hj2]
        exact hp
      · have hlt : j < z := Nat.not_le.mp (fun q => y (nI_le q (by omega)))
        rw [nI_add, nI_add]
        refine CN_GT (CN_GT ?_)
        rw [hT.gt (by omega), hT.gt (by omega)]
        have t1 := (hT.2.2 (a + j) (by omega)).1
        have t2 := (hT.2.2 (s + j) (by omega)).1
        refine CN_ite (fun q => CN_li ?_) (fun q => CN_rt ⟨rfl, Or.inr ⟨rfl, fun y => q (by rw [y.2 j hlt])⟩⟩)
        rw [nI_1]
        refine ih (j + 1) (by omega) (fun i hi => ?_)
        by_cases he : i = j
        · rw [he]
          exact (nI_eq (by omega) (by omega)).mp q
        · exact hp i (by omega)
  exact hlp fuel 0 (Nat.zero_le _) (fun i hi => absurd hi (Nat.not_lt_zero _))
theorem c_find {u : MS} {a b ns : Nat} {st sz : Nat → Nat} (h : CP T N a b u) (hS : SgC ns st sz u) (hN : SgN N ns st sz) : CN x_X5_signOfToken u (fun r w => w = u ∧ FindR T a b ns st sz r) := by
  have h3 := h.1.1
  have hlp : ∀ (g l : Nat), l ≤ ns → (∀ k, k < l → ¬ Wd T a b (st k) (sz k)) → CN (xl_X5_signOfToken_2 g (nI l) (fun v1 => nrt (-1))) u (fun r w => w = u ∧ FindR T a b ns st sz r) := by
    intro g
    induction g with
    | zero => exact fun l _ _ r w e => by cases e
    | succ g ih =>
      intro l hl hp
      unfold xl_X5_signOfToken_2
      refine CN_RFx hS.1 (CN_ite (fun y => CN_rt ⟨rfl, Or.inl ⟨rfl, fun k hk => hp k ?_⟩⟩) (fun y => CN_GT (CN_GT ?_)))
      · have := (nI_leI (a := ns) (b := l) (by have := hN.1; omega) (by have := hN.1; omega)).mp y
        omega
      · have hlt : l < ns := Nat.not_le.mp (fun q => y (nI_le q (by have := hN.1; omega)))
        have h8 := hN.1
        obtain ⟨n1, n2⟩ := hN.2 l hlt
        rw [rg_in (by omega) (by decide), rg_in (by omega) (by decide), (hS.2 l hlt).1, (hS.2 l hlt).2]
        refine CN_cl (CN.mono (c_wordAt h n2) (fun r w z => ?_))
        obtain ⟨rfl, z⟩ := z
        rcases z with ⟨rfl, z⟩ | ⟨rfl, z⟩
        · exact CN_ite (fun q => absurd q (by decide)) (fun _ => CN_rt ⟨rfl, Or.inr ⟨l, hlt, rfl, z, hp⟩⟩)
        · refine CN_ite (fun _ => CN_li ?_) (fun q => absurd rfl q)
          rw [nI_1]
          refine ih (l + 1) (by omega) (fun k hk => ?_)
          by_cases he : k = l
          · rw [he]; exact z
          · exact hp k (by omega)
  exact hlp fuel 0 (Nat.zero_le _) (fun k hk => absurd hk (Nat.not_lt_zero _))
theorem r_find {v : GS} {a b ns : Nat} {st sz : Nat → Nat} (h : RP T N a b v) (hS : SgV T ns st sz v) (hN : SgN N ns st sz) : Rd f_findSign v (fun r => FindR T a b ns st sz r) := by
  obtain ⟨hT, -, hab, hbN, h44, h45, -⟩ := h
  have h3 := hT.1.2.2.2
  have h8 := hN.1
  have hin : ∀ (l : Nat), l < ns → ∀ (K : Int32 → Int32 → Int32 → PG Int32) (R : Int32 → Prop), (Wd T a b (st l) (sz l) → ∀ x, Rd (K (nI l) 1 x) v R) → (¬ Wd T a b (st l) (sz l) → ∀ x, Rd (K (nI l) 0 x) v R) → Rd (if nI (sz l) = nI (b - a) then lp_findSign_36 fuel (nI l) 1 0 K else lp_findSign_36 fuel (nI l) 0 0 K) v R := fun l hl K R k1 k0 => by
    obtain ⟨n1, n2⟩ := hN.2 l hl
    obtain ⟨s1, s2⟩ := hS.2 l hl
    have hz : ∀ (m : Nat) (x : Int32), ¬ Wd T a b (st l) (sz l) → Rd (lp_findSign_36 (m + 1) (nI l) 0 x K) v R := fun m x hno => by
      unfold lp_findSign_36
      exact Rd_rdN rfl (by omega) (by decide) s1 (Rd_ite (fun _ => k0 hno _) (fun _ => Rd_ite (fun _ => k0 hno _) (fun z => absurd rfl z)))
    have hlp : b - a = sz l → ∀ (t j m : Nat), j + t = sz l → t < m → (∀ i, i < j → T (a + i) = T (st l + i)) → Rd (lp_findSign_36 (m + 1) (nI l) 1 (nI j) K) v R := fun hl2 => by
      intro t
      induction t with
      | zero =>
        intro j m hj hm hp
        have hjz : j = sz l := by omega
        unfold lp_findSign_36
        rw [hjz] at hp ⊢
        exact Rd_rdN rfl (by omega) (by decide) s1 (Rd_ite (fun _ => k1 ⟨hl2, hp⟩ _) (fun z => absurd (Int32.le_refl _) z))
      | succ t ih =>
        intro j m hj hm hp
        have t1 := (hT.2.2 (a + j) (by omega)).1
        have t2 := (hT.2.2 (st l + j) (by omega)).1
        have ei : (10 : Int32) * nI l + nI j = nI (10 * l + j) := by
          have a1 : (10 : Int32) * nI l = nI (10 * l) := by rw [← nI_mul]; rfl
          rw [a1, nI_add]
        unfold lp_findSign_36
        refine Rd_rdN rfl (by omega) (by decide) s1 (Rd_ite (fun z => absurd z (nI_ge (by omega) (by omega))) (fun _ => Rd_ite (fun z => absurd z (by decide)) (fun _ => ?_)))
        refine Rd_rdN ei (by omega) (by decide) (s2 j (by omega)) (Ok_rfN h44 ?_)
        rw [nI_add]
        refine Ok_srT hT rfl (by omega) (Rd_ite (fun z => Rd_li ?_) (fun z => Rd_li ?_))
        · rw [nI_1]
          cases m with
          | zero => omega
          | succ m =>
            refine ih (j + 1) m (by omega) (by omega) (fun i hi => ?_)
            by_cases he : i = j
            · rw [he]
              exact ((sb_inj t2 t1).mp z).symm
            · exact hp i (by omega)
        · cases m with
          | zero => omega
          | succ m => exact hz m _ (fun y => z (by rw [y.2 j (by omega)]))
    refine Rd_ite (fun z => ?_) (fun z => ?_)
    · have e : b - a = sz l := ((nI_eq (by omega) (by omega)).mp z).symm
      exact hlp e (sz l) 0 (fuel - 1) (by omega) (by unfold fuel; omega) (fun i hi => absurd hi (Nat.not_lt_zero _))
    · exact hz (fuel - 1) 0 (fun y => z (by rw [← y.1]))
  have hlp : ∀ (t l m : Nat), l + t = ns → t < m → (∀ k, k < l → ¬ Wd T a b (st k) (sz k)) → Rd (lp_findSign_2 m (nI l) (fun v1 => prt (-1))) v (fun r => FindR T a b ns st sz r) := by
    intro t
    induction t with
    | zero =>
      intro l m hl hm hp
      cases m with
      | zero => omega
      | succ m =>
        have : l = ns := by omega
        subst this
        unfold lp_findSign_2
        exact Rd_rfN hS.1 (Rd_ite (fun _ => Rd_rt (Or.inl ⟨rfl, hp⟩)) (fun z => absurd (Int32.le_refl _) z))
    | succ t ih =>
      intro l m hl hm hp
      cases m with
      | zero => omega
      | succ m =>
        have hlt : l < ns := by omega
        unfold lp_findSign_2
        refine Rd_rfN hS.1 (Rd_ite (fun z => absurd z (nI_ge (by omega) (by omega))) (fun _ => ?_))
        refine Rd_rdN rfl (by omega) (by decide) (hS.2 l hlt).1 (Rd_rfN h45 (Rd_rfN h44 ?_))
        rw [nI_sub hab]
        refine hin l hlt _ _ (fun y x => Rd_ite (fun z => absurd z (by decide)) (fun _ => Rd_rt (Or.inr ⟨l, hlt, rfl, y, hp⟩))) (fun y x => Rd_ite (fun _ => Rd_li ?_) (fun z => absurd rfl z))
        rw [nI_1]
        refine ih (l + 1) m (by omega) (by omega) (fun k hk => ?_)
        by_cases he : k = l
        · rw [he]; exact y
        · exact hp k (by omega)
  unfold f_findSign
  exact hlp ns 0 fuel (by omega) (by unfold fuel; omega) (fun k hk => absurd hk (Nat.not_lt_zero _))
end
