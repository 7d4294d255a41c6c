/-! ===== limit, both sides ===== -/
theorem ranyS_lp {B : Nat → Int32} {w : GS} {F c : Nat} (hR : R0 B w) (hF : B 2 = nI F) (h96 : F ≤ 96) (b d : Int32) (K : Int32 → Int32 → Int32 → Int32 → Int32 → PG Int32) (Q : Int32 → GS → Prop) : ∀ (t k n : Nat) (v4 : Int32), k + t = F → t < n → (v4 = 0 ∨ v4 = 1) → (∀ v, ((v = 1 ∧ (v4 = 1 ∨ anyS B F c k)) ∨ (v = 0 ∧ v4 = 0 ∧ ¬ anyS B F c k)) → Ok (K (nI c) b d v (nI F)) w Q) → Ok (lp_limit_54 n (nI c) b d v4 (nI k) K) w Q := by
  have hn : nF w = F := by
    unfold nF
    rw [hR.nf, hF, nI_clamp (by omega)]
  intro t
  induction t with
  | zero =>
    intro k n v4 hk hn1 h4 hK
    cases n with
    | zero => omega
    | succ n =>
      have : k = F := by omega
      subst this
      unfold lp_limit_54
      refine Ok_rfN hR.1.1 ?_
      rw [hF]
      refine Ok_ite (fun _ => hK v4 ?_) (fun z => absurd (Int32.le_refl _) z)
      rcases h4 with z | z
      · exact Or.inr ⟨z, z, fun ⟨f, q1, q2, _⟩ => by omega⟩
      · exact Or.inl ⟨z, Or.inl z⟩
  | succ t ih =>
    intro k n v4 hk hn1 h4 hK
    cases n with
    | zero => omega
    | succ n =>
      have hlt : ¬ nI F ≤ nI k := fun z => absurd ((nI_leI (by omega) (by omega)).mp z) (by omega)
      have hf := hR.2.2.1 k (by omega)
      have hno : ∀ {P : Prop}, ¬ (B (148 + 7 * k) = nI c ∧ ¬ B (151 + 7 * k) = 0) → (∀ v, ((v = 1 ∧ (v4 = 1 ∨ anyS B F c (k + 1))) ∨ (v = 0 ∧ v4 = 0 ∧ ¬ anyS B F c (k + 1))) → Ok (K (nI c) b d v (nI F)) w Q) := fun hh v hv => hK v (by rw [anyS_next hh]; exact hv)
      unfold lp_limit_54
      refine Ok_rfN hR.1.1 ?_
      rw [hF]
      refine Ok_ite (fun z => absurd z hlt) (fun _ => Ok_ite (fun z4 => ?_) (fun z4 => ?_))
      · refine Ok_rdN rfl (by omega) (by decide) hf.1 (Ok_ite (fun h1 => Ok_rdN rfl (by omega) (by decide) hf.2.2.2.1 (Ok_ite (fun h2 => Ok_li ?_) (fun h2 => Ok_li ?_))) (fun h1 => Ok_li ?_))
        · rw [nI_1]
          refine ih (k + 1) n 0 (by omega) (by omega) (Or.inl rfl) ?_
          subst z4
          exact hno (P := True) (fun q => q.2 h2)
        · rw [nI_1]
          refine ih (k + 1) n 1 (by omega) (by omega) (Or.inr rfl) (fun v hv => hK v (Or.inl ⟨?_, Or.inr ⟨k, Nat.le_refl _, by omega, h1, h2⟩⟩))
          rcases hv with z | z
          · exact z.1
          · exact absurd z.2.1 (by decide)
        · rw [nI_1]
          refine ih (k + 1) n 0 (by omega) (by omega) (Or.inl rfl) ?_
          subst z4
          exact hno (P := True) (fun q => h1 q.1)
      · have e1 : v4 = 1 := h4.resolve_left z4
        refine Ok_li ?_
        rw [nI_1]
        refine ih (k + 1) n 1 (by omega) (by omega) (Or.inr rfl) (fun v hv => hK v (Or.inl ⟨?_, Or.inl e1⟩))
        rcases hv with z | z
        · exact z.1
        · exact absurd z.2.1 (by decide)
theorem grams_cases (a : Int32) : (x_X11_isGrams a = nrt 0 ∧ ¬ (0 ≤ a.toInt ∧ a.toInt ≤ 200000)) ∨ (x_X11_isGrams a = nrt 1 ∧ (0 ≤ a.toInt ∧ a.toInt ≤ 200000)) := by
  have c9 : (200000 : Int32).toInt = 200000 := by decide
  unfold x_X11_isGrams
  by_cases h : a < 0
  · have h2 := h
    rw [Int32.lt_iff_toInt_lt, i32_0] at h2
    exact Or.inl ⟨if_pos h, fun y => by omega⟩
  · have h2 := h
    rw [Int32.lt_iff_toInt_lt, i32_0] at h2
    rw [if_neg h]
    by_cases h3 : 200000 < a
    · have h4 := h3
      rw [Int32.lt_iff_toInt_lt, c9] at h4
      exact Or.inl ⟨if_pos h3, fun y => by omega⟩
    · have h4 := h3
      rw [Int32.lt_iff_toInt_lt, c9] at h4
      exact Or.inr ⟨if_neg h3, by omega, by omega⟩
theorem sim_limit {P : LwP} {LW : List LwP} {N tp n E ch C : Nat} {u v : MS} {w : GS} {lg : Nat → En} {s : Nat → GS} {p q : Nat → Nat} {a b d r : Int32} {c1 d1 : Nat} (h : SmX P LW N tp u w n E lg s p q ch C) (hN : N ≤ 24000) (e : x_X11_limit a b d u = some (r, v, c1, d1)) : Ok (f_limit a b d) w (fun r2 w2 => r2 = r ∧ SmE P LW N tp v w2) := by
  have hn := h.le
  have h1 := h.2.1
  have hK := h.2.2.1
  have hRw := h.r0
  have hRs := h.rs
  have hI := h.inv
  have h0 : SmE P LW N tp u w := h.e
  obtain ⟨F, h96, hF, -⟩ := hRs.ppl hI
  have hcl : CQ (x_X11_limit a b d) u (fun r v => (r = -2 ∧ v = u ∧ ¬ ((∃ c, c < 4 ∧ a = nI c) ∧ (0 ≤ b.toInt ∧ b.toInt ≤ 200000) ∧ (b.toInt ≤ d.toInt ∧ d.toInt ≤ 200000))) ∨ ((0 ≤ b.toInt ∧ b.toInt ≤ 200000) ∧ (b.toInt ≤ d.toInt ∧ d.toInt ≤ 200000) ∧ ∃ c, c < 4 ∧ a = nI c ∧ ((r = -3 ∧ v = u ∧ (¬ u.2 0 (6 + 36 * c) = 0 ∨ anyS (u.2 0) F c 0)) ∨ ((u.2 0 (6 + 36 * c) = 0 ∧ ¬ anyS (u.2 0) F c 0) ∧ ((n = 500 ∧ r = -4 ∧ v = u) ∨ (n < 500 ∧ r = 1 ∧ Ent u v n ch ∧ v.2 0 = upd (upd (u.2 0) (4 + 36 * c) b) (5 + 36 * c) d)))))) := by
    unfold x_X11_limit
    rcases cls_cases a with ⟨e1, hno⟩ | ⟨e1, c, hc, rfl⟩
    · rw [e1]
      exact CQ_rd (a := 0) rfl (CQ_ite (fun _ => CQ_rt (Or.inl ⟨rfl, rfl, fun y => hno y.1⟩)) (fun z => absurd rfl z))
    rw [e1]
    refine CQ_rd (a := 1) rfl (CQ_ite (fun z => absurd z (by decide)) (fun _ => ?_))
    rcases grams_cases b with ⟨e2, hb⟩ | ⟨e2, hb⟩
    · rw [e2]
      exact CQ_rd (a := 0) rfl (CQ_ite (fun _ => CQ_rt (Or.inl ⟨rfl, rfl, fun y => hb y.2.1⟩)) (fun z => absurd rfl z))
    rw [e2]
    refine CQ_rd (a := 1) rfl (CQ_ite (fun z => absurd z (by decide)) (fun _ => ?_))
    rcases grams_cases d with ⟨e3, hd⟩ | ⟨e3, hd⟩
    · rw [e3]
      exact CQ_rd (a := 0) rfl (CQ_ite (fun _ => CQ_rt (Or.inl ⟨rfl, rfl, fun y => hd ⟨by omega, y.2.2.2⟩⟩)) (fun z => absurd rfl z))
    rw [e3]
    refine CQ_rd (a := 1) rfl (CQ_ite (fun z => absurd z (by decide)) (fun _ => CQ_ite (fun hbd => ?_) (fun hbd => CQ_rt (Or.inl ⟨rfl, rfl, fun y => hbd (Int32.le_iff_toInt_le.mpr y.2.2.1)⟩))))
    have hbd2 := Int32.le_iff_toInt_le.mp hbd
    refine CQ_rd (e_isDrawn hc) ?_
    by_cases hk : u.2 0 (6 + 36 * c) = 0
    · rw [if_pos hk]
      refine CQ_ite (fun _ => ?_) (fun z => absurd rfl z)
      rcases any_lp (u := u) (c := c) hF h96 F 0 fuel (by omega) (by unfold fuel; omega) with ⟨ha, e4⟩ | ⟨ha, e4⟩
      · refine CQ_rd (a := 1) e4 (CQ_ite (fun z => absurd z (by decide)) (fun _ => CQ_rt (Or.inr ⟨hb, ⟨hbd2, hd.2⟩, c, hc, rfl, Or.inl ⟨rfl, rfl, Or.inr ha⟩⟩)))
      · refine CQ_rd (a := 0) e4 (CQ_ite (fun _ => CQ_full h1 hn (fun h5 => ?_) (fun h5 => Or.inr ⟨hb, ⟨hbd2, hd.2⟩, c, hc, rfl, Or.inr ⟨⟨hk, ha⟩, Or.inl ⟨h5, rfl, rfl⟩⟩⟩)) (fun z => absurd rfl z))
        refine CQ_open hK h5 h1 (fun _ v1 hE hK1 hB1 _ => ?_)
        rw [e_ofClass c 0 (show (0 : Int32) = nI 0 from rfl)]
        refine CQ_rd (a := nI (4 + 36 * c + 0)) rfl (CQ_put hK1 (fun _ v2 hs hB2 hS => ?_))
        obtain ⟨ch2, C2, hK2⟩ := hs.kl
        rw [e_ofClass c 1 (show (1 : Int32) = nI 1 from rfl)]
        refine CQ_rd (a := nI (4 + 36 * c + 1)) rfl (CQ_put hK2 (fun _ v3 hs3 hB3 hS3 => CQ_rt (Or.inr ⟨hb, ⟨hbd2, hd.2⟩, c, hc, rfl, Or.inr ⟨⟨hk, ha⟩, Or.inr ⟨h5, rfl, (hE.put hs hS).put hs3 hS3, ?_⟩⟩⟩)))
        rw [hB3, hB2, hB1, wrB _ _ (by omega), wrB _ _ (by omega)]
        have q1 : 4 + 36 * c + 1 = 5 + 36 * c := by omega
        rw [q1]
        rfl
    · rw [if_neg hk]
      exact CQ_ite (fun z => absurd z (by decide)) (fun _ => CQ_rt (Or.inr ⟨hb, ⟨hbd2, hd.2⟩, c, hc, rfl, Or.inl ⟨rfl, rfl, Or.inl hk⟩⟩))
  have hc := hcl r v c1 d1 e
  have e9 : (200000 : Int64).toInt = 200000 := by decide
  have e8 : (0 : Int64).toInt = 0 := by decide
  unfold f_limit
  refine Ok_clR (ok_isClass a w) (fun q hq => ?_)
  rcases hq with ⟨rfl, c, hc4, rfl⟩ | ⟨rfl, hq⟩
  · refine Ok_ite (fun z => absurd z (by decide)) (fun _ => Ok_clR (ok_in _ _ _ w) (fun q hq => ?_))
    rw [Int32.toInt_toInt64, e9, e8] at hq
    rcases hq with ⟨rfl, hq⟩ | ⟨rfl, hq⟩
    · refine Ok_ite (fun z => absurd z (by decide)) (fun _ => Ok_clR (ok_in _ _ _ w) (fun q hq2 => ?_))
      rw [Int32.toInt_toInt64, Int32.toInt_toInt64, e9] at hq2
      rcases hq2 with ⟨rfl, hq2⟩ | ⟨rfl, hq2⟩
      · refine Ok_ite (fun z => absurd z (by decide)) (fun _ => ?_)
        rcases hc with ⟨-, -, z⟩ | ⟨-, -, c2, hc2, ec, z⟩
        · exact absurd ⟨⟨c, hc4, rfl⟩, hq, hq2⟩ z
        have ecc : c2 = c := ((nI_eq (by omega) (by omega)).mp ec).symm
        subst ecc
        have hK2 : ∀ v4 : Int32, ((v4 = 1 ∧ (¬ u.2 0 (6 + 36 * c2) = 0 ∨ anyS (u.2 0) F c2 0)) ∨ (v4 = 0 ∧ u.2 0 (6 + 36 * c2) = 0 ∧ ¬ anyS (u.2 0) F c2 0)) → Ok (if v4 = 0 then pcl (f_act 1 (nI c2) b d) (fun r => prt r) else prt (-3)) w (fun r2 w2 => r2 = r ∧ SmE P LW N tp v w2) := fun v4 hv => by
          rcases hv with ⟨rfl, hv⟩ | ⟨rfl, hv1, hv2⟩
          · refine Ok_ite (fun z => absurd z (by decide)) (fun _ => Ok_rt ?_)
            rcases z with ⟨z1, z2, -⟩ | ⟨⟨z1, z2⟩, -⟩
            · subst z2
              exact ⟨z1.symm, h0⟩
            · exact absurd hv (fun q => q.elim (fun k => k z1) z2)
          · refine Ok_ite (fun _ => ?_) (fun z => absurd rfl z)
            rcases z with ⟨-, -, z3⟩ | ⟨-, z3⟩
            · exact absurd z3 (fun q => q.elim (fun k => k hv1) hv2)
            · refine sim_finQ h hN (by decide) (r0 := 1) (sv := swd 1 (nI c2) d (swd 0 (nI c2) b (s n))) ?_ (inv_w1 (inv_w0 hI _ _) _ _) (((LFr.rf _).wd (by decide) _ _).wd (by decide) _ _) ?_
              · rw [does_1]
                obtain ⟨r1, w1, q1, q2⟩ := Ok_wdN (k := 0) (n := 4) (j := c2) (ix := nI c2) (v := b) (p := pwd 1 4 (nI c2) d (prt (1 : Int32))) (w := s n) (Q := fun r v => r = 1 ∧ v = swd 1 (nI c2) d (swd 0 (nI c2) b (s n))) rfl hc4 (by decide) (Ok_wdN rfl hc4 (by decide) (Ok_rt ⟨rfl, rfl⟩))
                rw [q1, q2.1, q2.2]
              · rcases z3 with z4 | ⟨z4, z5, z6, z7⟩
                · exact Or.inl z4
                · refine Or.inr ⟨z4, z5, z6, ?_, by rw [z7]; exact ((Qd.rf _ _).up _ ⟨fun z => absurd z (by omega), fun z => absurd z (by omega), fun f hf z => absurd z (by omega)⟩ (Or.inr (Or.inl ⟨c2, hc4, Or.inl rfl⟩))).up _ ⟨fun z => absurd z (by omega), fun z => absurd z (by omega), fun f hf z => absurd z (by omega)⟩ (Or.inr (Or.inl ⟨c2, hc4, Or.inr rfl⟩))⟩
                  rw [z7]
                  exact hRs.lim hc4 b d
        refine Ok_rdN rfl hc4 (by decide) (hRw.kd hc4) (Ok_ite (fun hk => ?_) (fun hk => ?_))
        · refine ranyS_lp hRw hF h96 b d _ _ F 0 fuel 0 (by omega) (by unfold fuel; omega) (Or.inl rfl) (fun v4 hv => hK2 v4 ?_)
          rcases hv with ⟨q1, q2⟩ | ⟨q1, -, q2⟩
          · exact Or.inl ⟨q1, Or.inr (q2.resolve_left (by decide))⟩
          · exact Or.inr ⟨q1, hk, q2⟩
        · refine ranyS_lp hRw hF h96 b d _ _ F 0 fuel 1 (by omega) (by unfold fuel; omega) (Or.inr rfl) (fun v4 hv => hK2 v4 ?_)
          rcases hv with ⟨q1, q2⟩ | ⟨-, q1, -⟩
          · exact Or.inl ⟨q1, Or.inl hk⟩
          · exact absurd q1 (by decide)
      · refine Ok_ite (fun _ => Ok_rt ?_) (fun z => absurd rfl z)
        rcases hc with ⟨z1, z2, -⟩ | ⟨-, z, -⟩
        · subst z2
          exact ⟨z1.symm, h0⟩
        · exact absurd z hq2
    · refine Ok_ite (fun _ => Ok_rt ?_) (fun z => absurd rfl z)
      rcases hc with ⟨z1, z2, -⟩ | ⟨z, -⟩
      · subst z2
        exact ⟨z1.symm, h0⟩
      · exact absurd z hq
  · refine Ok_ite (fun _ => Ok_rt ?_) (fun z => absurd rfl z)
    rcases hc with ⟨z1, z2, -⟩ | ⟨-, -, c, hc, ec, -⟩
    · subst z2
      exact ⟨z1.symm, h0⟩
    · exact absurd ⟨c, hc, ec⟩ hq

