/-! ===== weigh, seed ===== -/
theorem rF_all {B : Nat → Int32} {w : GS} {f : Nat} : rF B w f ↔ ∀ k, k < 7 → Am w (5 + k) f (B (148 + 7 * f + k)) := by
  have e : ∀ k, 148 + 7 * f + k = (148 + k) + 7 * f := fun k => by omega
  refine ⟨fun h k hk => ?_, fun h => ?_⟩
  · rw [e]
    obtain ⟨a0, a1, a2, a3, a4, a5, a6⟩ := h
    match k, hk with
    | 0, _ => exact a0
    | 1, _ => exact a1
    | 2, _ => exact a2
    | 3, _ => exact a3
    | 4, _ => exact a4
    | 5, _ => exact a5
    | 6, _ => exact a6
  · have g : ∀ k, k < 7 → Am w (5 + k) f (B ((148 + k) + 7 * f)) := fun k hk => by rw [← e]; exact h k hk
    exact ⟨g 0 (by decide), g 1 (by decide), g 2 (by decide), g 3 (by decide), g 4 (by decide), g 5 (by decide), g 6 (by decide)⟩
/-- a change of one field of a fighter -/
theorem R0.fgt {B : Nat → Int32} {w : GS} (h : R0 B w) {f k : Nat} (hf : f < nF w) (hf96 : f < 96) (hk : k < 7) (x : Int32) : R0 (upd B (148 + 7 * f + k) x) (swd (5 + k) (nI f) x w) := by
  have hB : ∀ j, ¬ j = 148 + 7 * f + k → upd B (148 + 7 * f + k) x j = B j := fun j h1 => upd_n h1
  have am : ∀ {k2 j z}, ¬ k2 = 5 + k → Am w k2 j z → Am (swd (5 + k) (nI f) x w) k2 j z := fun h1 q => by
    unfold Am at q ⊢
    rw [(sw_o h1).1, (sw_o h1).2]
    exact q
  obtain ⟨⟨i2, i3, i4⟩, hC, hF, hN, hR, hM⟩ := h
  refine ⟨⟨?_, ?_, ?_⟩, fun d hd => ?_, fun g hg => ?_, fun g h1 h2 => ?_, fun d hd i hi => ?_, fun m hm => ?_⟩
  · rw [hB _ (by omega)]; exact i2
  · rw [hB _ (by omega)]; exact i3
  · rw [hB _ (by omega)]; exact i4
  · have z := hC d hd
    unfold rC at z ⊢
    rw [hB _ (by omega), hB _ (by omega), hB _ (by omega), hB _ (by omega)]
    exact ⟨am (by omega) z.1, am (by omega) z.2.1, am (by omega) z.2.2.1, fun q => ⟨am (by omega) (z.2.2.2 q).1, fun p h1 h2 => by rw [hB _ (by omega)]; exact am (by omega) ((z.2.2.2 q).2 p h1 h2)⟩⟩
  · refine rF_all.mpr (fun k2 hk2 => ?_)
    have z := rF_all.mp (hF g hg) k2 hk2
    by_cases hkk : k2 = k
    · subst hkk
      by_cases hgf : g = f
      · subst hgf
        rw [upd_e]
        exact sw_A (by omega)
      · rw [hB _ (by omega)]
        exact sw_An (by omega) hgf z
    · rw [hB _ (by omega)]
      exact am (by omega) z
  · have hg : nF w ≤ g := h1
    have z := hN g hg h2
    unfold rN at z ⊢
    rw [hB _ (by omega), hB _ (by omega)]
    exact z
  · have q : ∀ j, upd B (148 + 7 * f + k) x (fc d i + j) = B (fc d i + j) := fun j => hB _ (by unfold fc; omega)
    have q0 : upd B (148 + 7 * f + k) x (fc d i) = B (fc d i) := q 0
    rcases hR d hd i hi with ⟨a, b⟩ | ⟨⟨a, b, m, d2, e, f2⟩ | ⟨a, b, d2, e, f2, g⟩, y2, z⟩
    · exact Or.inl ⟨q0.trans a, am (by omega) b⟩
    · refine Or.inr ⟨Or.inl ⟨q0.trans a, am (by omega) b, m, d2, (q 7).trans e, am (by omega) f2⟩, ?_, ?_⟩
      · rw [q 1]; exact am (by omega) y2
      · rw [q 2]; exact am (by omega) z
    · refine Or.inr ⟨Or.inr ⟨q0.trans a, am (by omega) b, ?_, ?_, ?_, ?_⟩, ?_, ?_⟩
      · rw [q 3]; exact am (by omega) d2
      · rw [q 4]; exact am (by omega) e
      · rw [q 5]; exact am (by omega) f2
      · rw [q 6]; exact am (by omega) g
      · rw [q 1]; exact am (by omega) y2
      · rw [q 2]; exact am (by omega) z
  · have q : ∀ j, upd B (148 + 7 * f + k) x (mc0 m + j) = B (mc0 m + j) := fun j => hB _ (by unfold mc0; omega)
    have q0 : upd B (148 + 7 * f + k) x (mc0 m) = B (mc0 m) := q 0
    rcases hM m hm with ⟨a, b⟩ | ⟨d, i, a, b, d2, e, f2, g, k3, l, n⟩
    · exact Or.inl ⟨(q 1).trans a, am (by omega) b⟩
    · refine Or.inr ⟨d, i, a, b, q0.trans d2, (q 1).trans e, am (by omega) f2, ?_, ?_, ?_, fun j hj => ?_⟩
      · rw [q 2]; exact am (by omega) g
      · rw [q 3]; exact am (by omega) k3
      · rw [q 4]; exact am (by omega) l
      · have e9 : mc0 m + 5 + j = mc0 m + (5 + j) := by omega
        rw [e9, q (5 + j), ← e9]
        exact am (by omega) (n j hj)
theorem e_has {u : MS} {F : Nat} (hF : u.2 0 2 = nI F) (h96 : F ≤ 96) (a : Int32) : ((∃ f, f < F ∧ a = nI f) ∧ x_X8_has a u = some (1, u)) ∨ (¬ (∃ f, f < F ∧ a = nI f) ∧ x_X8_has a u = some (0, u)) := by
  unfold x_X8_has
  by_cases h1 : a < 0
  · refine Or.inr ⟨?_, by rw [if_pos h1]; rfl⟩
    rintro ⟨f, hf, rfl⟩
    exact nI_nn (by omega) h1
  · obtain ⟨j, hj, rfl⟩ := nI_of h1
    rw [if_neg h1]
    have e1 : ∀ q : Int32 → NG Int32, ncl x_X8_people q u = q (nI F) u := fun q => by
      unfold ncl
      rw [e_people, hF]
    rw [e1]
    by_cases h2 : nI F ≤ nI j
    · refine Or.inr ⟨?_, by rw [if_pos h2]; rfl⟩
      rintro ⟨f, hf, e⟩
      have e2 := (nI_eq (a := j) (b := f) hj (by omega)).mp e
      have e3 := (nI_leI (a := F) (b := j) (by omega) hj).mp h2
      omega
    · exact Or.inl ⟨⟨j, Nat.not_le.mp (fun z => h2 (nI_le z hj)), rfl⟩, by rw [if_neg h2]; rfl⟩
theorem ok_isFt {B : Nat → Int32} {w : GS} {F : Nat} (hR : R0 B w) (hF : B 2 = nI F) (h96 : F ≤ 96) (x : Int32) : Rd (f_isFighter x) w (fun r => (r = 0 ∧ ¬ ∃ f, f < F ∧ x = nI f) ∨ (r = 1 ∧ ∃ f, f < F ∧ x = nI f)) := by
  unfold f_isFighter
  refine Rd_rfN hR.1.1 (Rd_clR (ok_in _ _ _ w) (fun r hr => ?_))
  have h0 : (0 : Int64).toInt = 0 := by decide
  rw [hF, Int32.toInt_toInt64, h0, sub1_64 F (by omega)] at hr
  rcases hr with ⟨hr, h1, h2⟩ | ⟨hr, hn⟩
  · exact Rd_og (gb01 (Or.inr hr)) (Rd_rt (Or.inr ⟨hr, x.toInt.toNat, by omega, nI_ofT h1⟩))
  · refine Rd_og (gb01 (Or.inl hr)) (Rd_rt (Or.inl ⟨hr, ?_⟩))
    rintro ⟨f, hf, rfl⟩
    rw [nI_toInt (by omega)] at hn
    omega
theorem sim_weigh {P : LwP} {LW : List LwP} {N tp n E ch C : Nat} {u v : MS} {w : GS} {lg : Nat → En} {s : Nat → GS} {p q : Nat → Nat} {a b r : Int32} {c1 d1 : Nat} (h : SmX P LW N tp u w n E lg s p q ch C) (hN : N ≤ 24000) (e : x_X11_weigh a b u = some (r, v, c1, d1)) : Ok (f_weigh a b) w (fun r2 w2 => r2 = r ∧ SmE P LW N tp v w2) := by
  have hn := h.le
  have h1 := h.2.1
  have hK := h.2.2.1
  have hRw := h.r0
  have hRs := h.rs
  have hI := h.inv
  have h0 : SmE P LW N tp u w := h.e
  obtain ⟨F, h96, hF, hnF⟩ := hRs.ppl hI
  have hcs : ∀ f, f < F → ∃ c, c < 4 ∧ u.2 0 (148 + 7 * f) = nI c := fun f hf => by
    obtain ⟨⟨c, hc, h5⟩, -⟩ := hI.1.2.2.1 f (by omega)
    exact ⟨c, hc, (hRs.2.2.1 f (by omega)).1.inj h5⟩
  let fits := fun c : Nat => u.2 0 (4 + 36 * c) ≤ b ∧ b ≤ u.2 0 (5 + 36 * c)
  have hcl : CQ (x_X11_weigh a b) u (fun r v => (r = -2 ∧ v = u ∧ ¬ ((∃ f, f < F ∧ a = nI f) ∧ (0 ≤ b.toInt ∧ b.toInt ≤ 200000))) ∨ ((0 ≤ b.toInt ∧ b.toInt ≤ 200000) ∧ ∃ f c, f < F ∧ c < 4 ∧ a = nI f ∧ u.2 0 (148 + 7 * f) = nI c ∧ ((r = -3 ∧ v = u ∧ ¬ u.2 0 (6 + 36 * c) = 0) ∨ (u.2 0 (6 + 36 * c) = 0 ∧ ((n = 500 ∧ r = -4 ∧ v = u) ∨ (n < 500 ∧ Ent u v n ch ∧ ((u.2 0 (4 + 36 * c) ≤ b ∧ b ≤ u.2 0 (5 + 36 * c)) ∧ r = 1 ∧ v.2 0 = upd (upd (u.2 0) (148 + 7 * f + 2) b) (148 + 7 * f + 3) 1 ∨ ¬ (u.2 0 (4 + 36 * c) ≤ b ∧ b ≤ u.2 0 (5 + 36 * c)) ∧ r = 0 ∧ v.2 0 = upd (upd (u.2 0) (148 + 7 * f + 2) b) (148 + 7 * f + 3) 2))))))) := by
    unfold x_X11_weigh
    rcases e_has hF h96 a with ⟨⟨f, hf, rfl⟩, e1⟩ | ⟨hno, e1⟩
    · refine CQ_rd e1 (CQ_ite (fun z => absurd z (by decide)) (fun _ => ?_))
      rcases grams_cases b with ⟨e2, hb⟩ | ⟨e2, hb⟩
      · rw [e2]
        exact CQ_rd (a := 0) rfl (CQ_ite (fun _ => CQ_rt (Or.inl ⟨rfl, rfl, fun y => hb y.2⟩)) (fun z => absurd rfl z))
      rw [e2]
      refine CQ_rd (a := 1) rfl (CQ_ite (fun z => absurd z (by decide)) (fun _ => CQ_rd (e_classOf (by omega)) ?_))
      obtain ⟨c, hc, ec⟩ := hcs f hf
      rw [ec]
      refine CQ_rd (e_isDrawn hc) ?_
      by_cases hk : u.2 0 (6 + 36 * c) = 0
      · rw [if_pos hk]
        refine CQ_ite (fun _ => CQ_full h1 hn (fun h5 => ?_) (fun h5 => Or.inr ⟨hb, f, c, hf, hc, rfl, ec, Or.inr ⟨hk, Or.inl ⟨h5, rfl, rfl⟩⟩⟩)) (fun z => absurd rfl z)
        refine CQ_open hK h5 h1 (fun _ v1 hE hK1 hB1 _ => CQ_cl ?_)
        have eB : v1.2 0 = u.2 0 := hB1
        have put2 : ∀ (x y z : Int32) (P : Prop), P → CQ (anl (x_X1_ofFighter (nI f) 2) (fun r_12 => acl (x_X1_put r_12 b) (fun r_15 => anl (x_X1_ofFighter (nI f) 3) (fun r_24 => acl (x_X1_put r_24 y) (fun r_28 => art z))))) v1 (fun r v => P ∧ r = z ∧ Ent u v n ch ∧ v.2 0 = upd (upd (u.2 0) (148 + 7 * f + 2) b) (148 + 7 * f + 3) y) := fun x y z P hP => by
          rw [e_ofFighter f 2 (show (2 : Int32) = nI 2 from rfl)]
          refine CQ_rd (a := nI (148 + 7 * f + 2)) rfl (CQ_put hK1 (fun _ v2 hs hB2 hS2 => ?_))
          obtain ⟨ch2, C2, hK2⟩ := hs.kl
          rw [e_ofFighter f 3 (show (3 : Int32) = nI 3 from rfl)]
          refine CQ_rd (a := nI (148 + 7 * f + 3)) rfl (CQ_put hK2 (fun _ v3 hs3 hB3 hS3 => CQ_rt ⟨hP, rfl, (hE.put hs hS2).put hs3 hS3, ?_⟩))
          rw [hB3, hB2, eB, wrB _ _ (by omega), wrB _ _ (by omega)]
        have hsc : CQ (x_X8_putOnScales (nI f) b) v1 (fun q v => ((u.2 0 (4 + 36 * c) ≤ b ∧ b ≤ u.2 0 (5 + 36 * c)) ∧ q = 1 ∧ Ent u v n ch ∧ v.2 0 = upd (upd (u.2 0) (148 + 7 * f + 2) b) (148 + 7 * f + 3) 1) ∨ (¬ (u.2 0 (4 + 36 * c) ≤ b ∧ b ≤ u.2 0 (5 + 36 * c)) ∧ q = 0 ∧ Ent u v n ch ∧ v.2 0 = upd (upd (u.2 0) (148 + 7 * f + 2) b) (148 + 7 * f + 3) 2)) := by
          unfold x_X8_putOnScales
          refine CQ_rd (e_classOf (by omega)) ?_
          rw [eB, ec, e_ofClass c 0 (show (0 : Int32) = nI 0 from rfl)]
          refine CQ_rd (a := nI (4 + 36 * c + 0)) rfl (CQ_GT ?_)
          rw [eB, rdB _ (by omega)]
          refine CQ_ite (fun z => ?_) (fun z => ?_)
          · exact CQ.mono (put2 0 2 0 (¬ (u.2 0 (4 + 36 * c) ≤ b ∧ b ≤ u.2 0 (5 + 36 * c))) (fun y => absurd z (Int32.not_lt.mpr y.1))) (fun q v y => Or.inr y)
          · rw [e_ofClass c 1 (show (1 : Int32) = nI 1 from rfl)]
            refine CQ_rd (a := nI (4 + 36 * c + 1)) rfl (CQ_GT ?_)
            have q1 : 4 + 36 * c + 1 = 5 + 36 * c := by omega
            rw [eB, q1, rdB _ (by omega)]
            refine CQ_ite (fun z2 => ?_) (fun z2 => ?_)
            · exact CQ.mono (put2 0 2 0 (¬ (u.2 0 (4 + 36 * c) ≤ b ∧ b ≤ u.2 0 (5 + 36 * c))) (fun y => absurd z2 (Int32.not_lt.mpr y.2))) (fun q v y => Or.inr y)
            · exact CQ.mono (put2 0 1 1 (u.2 0 (4 + 36 * c) ≤ b ∧ b ≤ u.2 0 (5 + 36 * c)) ⟨Int32.not_lt.mp z, Int32.not_lt.mp z2⟩) (fun q v y => Or.inl y)
        refine CQ.mono hsc (fun q v2 y => ?_)
        rcases y with ⟨y1, rfl, y3, y4⟩ | ⟨y1, rfl, y3, y4⟩
        · exact CQ_ite (fun z => absurd z (by decide)) (fun _ => CQ_rt (Or.inr ⟨hb, f, c, hf, hc, rfl, ec, Or.inr ⟨hk, Or.inr ⟨h5, y3, Or.inl ⟨y1, rfl, y4⟩⟩⟩⟩))
        · exact CQ_ite (fun _ => CQ_rt (Or.inr ⟨hb, f, c, hf, hc, rfl, ec, Or.inr ⟨hk, Or.inr ⟨h5, y3, Or.inr ⟨y1, rfl, y4⟩⟩⟩⟩)) (fun z => absurd rfl z)
      · rw [if_neg hk]
        exact CQ_ite (fun z => absurd z (by decide)) (fun _ => CQ_rt (Or.inr ⟨hb, f, c, hf, hc, rfl, ec, Or.inl ⟨rfl, rfl, hk⟩⟩))
    · exact CQ_rd e1 (CQ_ite (fun _ => CQ_rt (Or.inl ⟨rfl, rfl, fun y => hno y.1⟩)) (fun z => absurd rfl z))
  have hc := hcl r v c1 d1 e
  have e9 : (200000 : Int64).toInt = 200000 := by decide
  have e8 : (0 : Int64).toInt = 0 := by decide
  unfold f_weigh
  refine Ok_clR (ok_isFt hRw hF h96 a) (fun q hq => ?_)
  rcases hq with ⟨rfl, hq⟩ | ⟨rfl, f, hf, rfl⟩
  · refine Ok_ite (fun _ => Ok_rt ?_) (fun z => absurd rfl z)
    rcases hc with ⟨z1, z2, -⟩ | ⟨-, f, c, hf, -, ef, -⟩
    · subst z2
      exact ⟨z1.symm, h0⟩
    · exact absurd ⟨f, hf, ef⟩ hq
  refine Ok_ite (fun z => absurd z (by decide)) (fun _ => Ok_clR (ok_in _ _ _ w) (fun q hq => ?_))
  rw [Int32.toInt_toInt64, e9, e8] at hq
  rcases hq with ⟨rfl, hq⟩ | ⟨rfl, hq⟩
  · refine Ok_ite (fun z => absurd z (by decide)) (fun _ => ?_)
    rcases hc with ⟨-, -, z⟩ | ⟨-, f2, c, hf2, hc4, ef, ec, z⟩
    · exact absurd ⟨⟨f, hf, rfl⟩, hq⟩ z
    have eff : f2 = f := ((nI_eq (by omega) (by omega)).mp ef).symm
    subst eff
    have hnw : nF w = F := by
      unfold nF
      rw [hRw.nf, hF, nI_clamp (by omega)]
    have h5 : Am w 5 f2 (nI c) := by
      rw [← ec]
      exact (hRw.2.2.1 f2 (by omega)).1
    refine Ok_rdN rfl (by omega) (by decide) h5 (Ok_rdN rfl hc4 (by decide) (hRw.kd hc4) (Ok_ite (fun hk => ?_) (fun hk => Ok_rt ?_)))
    · rcases z with ⟨-, -, z3⟩ | ⟨-, z3⟩
      · exact absurd hk z3
      have s5 : Am (s n) 5 f2 (nI c) := by
        rw [← ec]
        exact (hRs.2.2.1 f2 (by omega)).1
      have key : ∃ q, f_does 3 (nI f2) b 0 (s n) = some (q, swd 8 (nI f2) (if q = 1 then 1 else 2) (swd 7 (nI f2) b (s n))) ∧ ((q = 1 ∧ (u.2 0 (4 + 36 * c) ≤ b ∧ b ≤ u.2 0 (5 + 36 * c))) ∨ (q = 0 ∧ ¬ (u.2 0 (4 + 36 * c) ≤ b ∧ b ≤ u.2 0 (5 + 36 * c)))) := by
        have hok : Ok (f_does 3 (nI f2) b 0) (s n) (fun q v => v = swd 8 (nI f2) (if q = 1 then 1 else 2) (swd 7 (nI f2) b (s n)) ∧ ((q = 1 ∧ (u.2 0 (4 + 36 * c) ≤ b ∧ b ≤ u.2 0 (5 + 36 * c))) ∨ (q = 0 ∧ ¬ (u.2 0 (4 + 36 * c) ≤ b ∧ b ≤ u.2 0 (5 + 36 * c))))) := by
          rw [does_3]
          have am7 : ∀ {k j z}, ¬ k = 7 → Am (s n) k j z → Am (swd 7 (nI f2) b (s n)) k j z := fun h1 q => by
            unfold Am at q ⊢
            rw [(sw_o h1).1, (sw_o h1).2]
            exact q
          refine Ok_wdN rfl (by omega) (by decide) (Ok_rdN rfl (by omega) (by decide) (am7 (by decide) s5) (Ok_rdN rfl hc4 (by decide) (am7 (by decide) (hRs.2.1 c hc4).1) (Ok_rdN rfl (by omega) (by decide) (am7 (by decide) s5) (Ok_rdN rfl hc4 (by decide) (am7 (by decide) (hRs.2.1 c hc4).2.1) (Ok_clR (ok_in _ _ _ _) (fun q hq => ?_))))))
          rw [Int32.toInt_toInt64, Int32.toInt_toInt64, Int32.toInt_toInt64, ← Int32.le_iff_toInt_le, ← Int32.le_iff_toInt_le] at hq
          rcases hq with ⟨rfl, hq⟩ | ⟨rfl, hq⟩
          · refine Ok_ite (fun z => absurd z (by decide)) (fun _ => Ok_wdN rfl (by omega) (by decide) (Ok_rdN rfl (by omega) (by decide) (sw_A (by omega)) (Ok_ite (fun _ => Ok_rt ⟨rfl, Or.inl ⟨rfl, hq⟩⟩) (fun z => absurd rfl z))))
          · refine Ok_ite (fun _ => Ok_wdN rfl (by omega) (by decide) (Ok_rdN rfl (by omega) (by decide) (sw_A (by omega)) (Ok_ite (fun z => absurd z (by decide)) (fun _ => Ok_rt ⟨rfl, Or.inr ⟨rfl, hq⟩⟩)))) (fun z => absurd rfl z)
        obtain ⟨q, w1, q1, q2, q3⟩ := hok
        rw [q2] at q1
        exact ⟨q, q1, q3⟩
      obtain ⟨q, hd, hq3⟩ := key
      have hIv : Inv (swd 8 (nI f2) (if q = 1 then 1 else 2) (swd 7 (nI f2) b (s n))) := by
        have hx := ok_weighs hI f2 b (by omega)
        rw [← does_3 _ _ 0] at hx
        obtain ⟨r9, w9, q9, q8⟩ := hx
        rw [hd] at q9
        cases q9
        exact q8
      refine sim_finQ h hN (by decide) hd hIv (((LFr.rf _).wd (by decide) _ _).wd (by decide) _ _) ?_
      rcases z3 with z4 | ⟨z4, z5, z6⟩
      · exact Or.inl z4
      · have hR1 := (hRs.fgt (f := f2) (k := 2) (by omega) (by omega) (by decide) b)
        have hnn : nF (swd 7 (nI f2) b (s n)) = nF (s n) := rfl
        rcases z6 with ⟨z7, z8, z9⟩ | ⟨z7, z8, z9⟩
        · rcases hq3 with ⟨rfl, -⟩ | ⟨-, y⟩
          · refine Or.inr ⟨z4, z8, z5, ?_, by rw [z9]; exact ((Qd.rf _ _).up _ ⟨fun z => absurd z (by omega), fun z => absurd z (by omega), fun f hf z => absurd z (by omega)⟩ (Or.inr (Or.inr ⟨f2, 2, by omega, by decide, rfl, fun z => absurd z (by decide)⟩))).up _ ⟨fun z => absurd z (by omega), fun z => absurd z (by omega), fun f hf z => absurd z (by omega)⟩ (Or.inr (Or.inr ⟨f2, 3, by omega, by decide, rfl, fun z => absurd z (by decide)⟩))⟩
            rw [z9]
            exact hR1.fgt (f := f2) (k := 3) (by show f2 < nF (s n); omega) (by omega) (by decide) 1
          · exact absurd z7 y
        · rcases hq3 with ⟨-, y⟩ | ⟨rfl, -⟩
          · exact absurd y z7
          · refine Or.inr ⟨z4, z8, z5, ?_, by rw [z9]; exact ((Qd.rf _ _).up _ ⟨fun z => absurd z (by omega), fun z => absurd z (by omega), fun f hf z => absurd z (by omega)⟩ (Or.inr (Or.inr ⟨f2, 2, by omega, by decide, rfl, fun z => absurd z (by decide)⟩))).up _ ⟨fun z => absurd z (by omega), fun z => absurd z (by omega), fun f hf z => absurd z (by omega)⟩ (Or.inr (Or.inr ⟨f2, 3, by omega, by decide, rfl, fun z => absurd z (by decide)⟩))⟩
            rw [z9]
            exact hR1.fgt (f := f2) (k := 3) (by show f2 < nF (s n); omega) (by omega) (by decide) 2
    · rcases z with ⟨z1, z2, -⟩ | ⟨z1, -⟩
      · subst z2
        exact ⟨z1.symm, h0⟩
      · exact absurd z1 hk
  · refine Ok_ite (fun _ => Ok_rt ?_) (fun z => absurd rfl z)
    rcases hc with ⟨z1, z2, -⟩ | ⟨z, -⟩
    · subst z2
      exact ⟨z1.symm, h0⟩
    · exact absurd z hq

