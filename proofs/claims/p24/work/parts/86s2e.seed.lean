/-! ===== seed ===== -/
def othS (B : Nat → Int32) (F f q k : Nat) : Prop := ∃ g, k ≤ g ∧ g < F ∧ ¬ g = f ∧ B (148 + 7 * g) = B (148 + 7 * f) ∧ B (152 + 7 * g) = nI q
theorem othS_next {B : Nat → Int32} {F f q k : Nat} (h : ¬ (¬ k = f ∧ B (148 + 7 * k) = B (148 + 7 * f) ∧ B (152 + 7 * k) = nI q)) : othS B F f q k ↔ othS B F f q (k + 1) := by
  refine ⟨?_, ?_⟩
  · rintro ⟨g, h1, h2, h3⟩
    rcases Nat.lt_or_ge k g with z | z
    · exact ⟨g, z, h2, h3⟩
    · have : g = k := by omega
      subst this
      exact absurd h3 h
  · rintro ⟨g, h1, h2, h3⟩
    exact ⟨g, by omega, h2, h3⟩
theorem rd_ft {u : MS} {f k : Nat} (hf : f < 96) (hk : k < 7) {z : Int32} (hz : z = nI k) (q : Int32 → NG Int32) : ncl (x_X1_ofFighter (nI f) z) (fun r => ncl (nGT 0 2088 r) q) u = q (u.2 0 (148 + 7 * f + k)) u := by
  rw [e_ofFighter f k hz]
  show q (rg (u.2 0) 2088 (nI (148 + 7 * f + k))) u = _
  rw [rdB _ (by omega)]
theorem rd_cl {u : MS} {f : Nat} (hf : f < 96) (q : Int32 → NG Int32) : ncl (x_X8_classOf (nI f)) q u = q (u.2 0 (148 + 7 * f)) u := by
  unfold ncl
  rw [e_classOf hf]
theorem rd_pp {u : MS} (q : Int32 → NG Int32) : ncl x_X8_people q u = q (u.2 0 2) u := by
  unfold ncl
  rw [e_people]
theorem oth_lp {u : MS} {F f q : Nat} (hF : u.2 0 2 = nI F) (h96 : F ≤ 96) (hf : f < F) (hq : 1 ≤ q ∧ q ≤ 8) : ∀ (t k n : Nat), k + t = F → t < n → (othS (u.2 0) F f q k ∧ xl_X8_isSeedOfAnother_2 n (nI f) (nI q) (nI k) (fun v1 v2 v3 => nrt 0) u = some (1, u)) ∨ (¬ othS (u.2 0) F f q k ∧ xl_X8_isSeedOfAnother_2 n (nI f) (nI q) (nI k) (fun v1 v2 v3 => nrt 0) u = some (0, u)) := by
  have hq0 : ¬ nI q ≤ 0 := fun z => absurd ((nI_leI (a := q) (b := 0) (by omega) (by decide)).mp z) (by omega)
  intro t
  induction t with
  | zero =>
    intro k n hk hn
    cases n with
    | zero => omega
    | succ n =>
      refine Or.inr ⟨fun ⟨f, h1, h2, _⟩ => by omega, ?_⟩
      unfold xl_X8_isSeedOfAnother_2
      rw [rd_pp, hF, if_pos (nI_le (by omega) (by omega))]
      rfl
  | succ t ih =>
    intro k n hk hn
    cases n with
    | zero => omega
    | succ n =>
      have hlt : ¬ nI F ≤ nI k := fun z => absurd ((nI_leI (by omega) (by omega)).mp z) (by omega)
      have e52 : 148 + 7 * k + 4 = 152 + 7 * k := by omega
      by_cases hh : ¬ k = f ∧ u.2 0 (148 + 7 * k) = u.2 0 (148 + 7 * f) ∧ u.2 0 (152 + 7 * k) = nI q
      · refine Or.inl ⟨⟨k, Nat.le_refl _, by omega, hh⟩, ?_⟩
        have hkf : ¬ nI k = nI f := fun z => hh.1 ((nI_eq (by omega) (by omega)).mp z)
        unfold xl_X8_isSeedOfAnother_2
        rw [rd_pp, hF, if_neg hlt, if_neg hq0, if_neg hkf, rd_cl (by omega), rd_cl (by omega), if_pos hh.2.1, if_neg (by decide), rd_ft (f := k) (k := 4) (by omega) (by decide) (show (4 : Int32) = nI 4 from rfl), e52, if_pos hh.2.2]
        rfl
      · have hr : xl_X8_isSeedOfAnother_2 (n + 1) (nI f) (nI q) (nI k) (fun v1 v2 v3 => nrt 0) u = xl_X8_isSeedOfAnother_2 n (nI f) (nI q) (nI (k + 1)) (fun v1 v2 v3 => nrt 0) u := by
          have hs : ∀ v : Int32, nli (nI k + 1) (fun x => xl_X8_isSeedOfAnother_2 n (nI f) (nI q) x (fun v1 v2 v3 => nrt 0)) u = xl_X8_isSeedOfAnother_2 n (nI f) (nI q) (nI (k + 1)) (fun v1 v2 v3 => nrt 0) u := fun _ => by
            rw [nI_1]
            rfl
          show xl_X8_isSeedOfAnother_2 (n + 1) (nI f) (nI q) (nI k) (fun v1 v2 v3 => nrt 0) u = _
          rw [xl_X8_isSeedOfAnother_2, rd_pp, hF, if_neg hlt, if_neg hq0]
          by_cases hkf : k = f
          · rw [if_pos (by rw [hkf]), if_pos rfl]
            exact hs 0
          · rw [if_neg (fun z => hkf ((nI_eq (by omega) (by omega)).mp z)), rd_cl (by omega), rd_cl (by omega)]
            by_cases hcc : u.2 0 (148 + 7 * k) = u.2 0 (148 + 7 * f)
            · rw [if_pos hcc, if_neg (by decide), rd_ft (f := k) (k := 4) (by omega) (by decide) (show (4 : Int32) = nI 4 from rfl), e52, if_neg (fun z => hh ⟨hkf, hcc, z⟩)]
              exact hs 0
            · rw [if_neg hcc, if_pos rfl]
              exact hs 0
        rw [hr, othS_next hh]
        exact ih (k + 1) n (by omega) (by omega)
theorem rothS_lp {B : Nat → Int32} {w : GS} {F f q : Nat} (hR : R0 B w) (hF : B 2 = nI F) (h96 : F ≤ 96) (hf : f < F) (hq : 1 ≤ q ∧ q ≤ 8) (K : Int32 → Int32 → Int32 → Int32 → PG Int32) (Q : Int32 → GS → Prop) : ∀ (t k n : Nat) (v3 : Int32), k + t = F → t < n → (v3 = 0 ∨ v3 = 1) → (∀ v y, ((v = 1 ∧ (v3 = 1 ∨ othS B F f q k)) ∨ (v = 0 ∧ v3 = 0 ∧ ¬ othS B F f q k)) → Ok (K (nI f) (nI q) v y) w Q) → Ok (lp_seed_46 n (nI f) (nI q) v3 (nI k) K) w Q := by
  have hn : nF w = F := by
    unfold nF
    rw [hR.nf, hF, nI_clamp (by omega)]
  have hq0 : ¬ nI q ≤ 0 := fun z => absurd ((nI_leI (a := q) (b := 0) (by omega) (by decide)).mp z) (by omega)
  intro t
  induction t with
  | zero =>
    intro k n v3 hk hn1 h4 hK
    cases n with
    | zero => omega
    | succ n =>
      have : k = F := by omega
      subst this
      unfold lp_seed_46
      refine Ok_rfN hR.1.1 ?_
      rw [hF]
      refine Ok_ite (fun _ => hK v3 _ ?_) (fun z => absurd (Int32.le_refl _) z)
      rcases h4 with z | z
      · exact Or.inr ⟨z, z, fun ⟨f, q1, q2, _⟩ => by omega⟩
      · exact Or.inl ⟨z, Or.inl z⟩
  | succ t ih =>
    intro k n v3 hk hn1 h4 hK
    cases n with
    | zero => omega
    | succ n =>
      have hlt : ¬ nI F ≤ nI k := fun z => absurd ((nI_leI (by omega) (by omega)).mp z) (by omega)
      have hk5 := hR.2.2.1 k (by omega)
      have hf5 := hR.2.2.1 f (by omega)
      have hno : ¬ (¬ k = f ∧ B (148 + 7 * k) = B (148 + 7 * f) ∧ B (152 + 7 * k) = nI q) → (∀ v y, ((v = 1 ∧ (v3 = 1 ∨ othS B F f q (k + 1))) ∨ (v = 0 ∧ v3 = 0 ∧ ¬ othS B F f q (k + 1))) → Ok (K (nI f) (nI q) v y) w Q) := fun hh v y hv => hK v y (by rw [othS_next hh]; exact hv)
      unfold lp_seed_46
      refine Ok_rfN hR.1.1 ?_
      rw [hF]
      refine Ok_ite (fun z => absurd z hlt) (fun _ => Ok_ite (fun z => absurd z hq0) (fun _ => Ok_ite (fun z4 => ?_) (fun z4 => ?_)))
      · refine Ok_ite (fun hkf => Ok_li ?_) (fun hkf => Ok_rdN rfl (by omega) (by decide) hk5.1 (Ok_rdN rfl (by omega) (by decide) hf5.1 (Ok_ite (fun hcc => Ok_rdN rfl (by omega) (by decide) hk5.2.2.2.2.1 (Ok_ite (fun h2 => Ok_li ?_) (fun h2 => Ok_li ?_))) (fun hcc => Ok_li ?_))))
        · rw [nI_1]
          refine ih (k + 1) n 0 (by omega) (by omega) (Or.inl rfl) ?_
          subst z4
          exact hno (fun y => y.1 ((nI_eq (by omega) (by omega)).mp hkf))
        · rw [nI_1]
          refine ih (k + 1) n 1 (by omega) (by omega) (Or.inr rfl) (fun v y hv => hK v y (Or.inl ⟨?_, Or.inr ⟨k, Nat.le_refl _, by omega, fun z => hkf (by rw [z]), hcc, h2⟩⟩))
          rcases hv with z | z
          · exact z.1
          · exact absurd z.2.1 (by decide)
        · rw [nI_1]
          refine ih (k + 1) n 0 (by omega) (by omega) (Or.inl rfl) ?_
          subst z4
          exact hno (fun y => h2 y.2.2)
        · rw [nI_1]
          refine ih (k + 1) n 0 (by omega) (by omega) (Or.inl rfl) ?_
          subst z4
          exact hno (fun y => hcc y.2.1)
      · have e1 : v3 = 1 := h4.resolve_left z4
        refine Ok_li ?_
        rw [nI_1]
        refine ih (k + 1) n 1 (by omega) (by omega) (Or.inr rfl) (fun v y hv => hK v y (Or.inl ⟨?_, Or.inl e1⟩))
        rcases hv with z | z
        · exact z.1
        · exact absurd z.2.1 (by decide)
theorem sim_seed {P : LwP} {LW : List LwP} {N tp n E ch C : Nat} {u v : MS} {w : GS} {lg : Nat → En} {s : Nat → GS} {p q : Nat → Nat} {a b r : Int32} {c1 d1 : Nat} (h : SmX P LW N tp u w n E lg s p q ch C) (hN : N ≤ 24000) (e : x_X11_seed a b u = some (r, v, c1, d1)) : Ok (f_seed a b) w (fun r2 w2 => r2 = r ∧ SmE P LW N tp v w2) := by
  have hn := h.le
  have h1 := h.2.1
  have hK := h.2.2.1
  have hRw := h.r0
  have hRs := h.rs
  have hI := h.inv
  have h0 : SmE P LW N tp u w := h.e
  obtain ⟨F, h96, hF, hnF⟩ := hRs.ppl hI
  have hcs : ∀ f, f < F → ∃ c, c < 4 ∧ u.2 0 (148 + 7 * f) = nI c := fun f hf => by
    obtain ⟨⟨c, hc, h5⟩, -⟩ := hI.1.2.2.1 f (by omega)
    exact ⟨c, hc, (hRs.2.2.1 f (by omega)).1.inj h5⟩
  have e9 : (8 : Int32).toInt = 8 := by decide
  let no := fun (c f q : Nat) => u.2 0 (6 + 36 * c) = 0 ∧ ¬ (1 ≤ q ∧ othS (u.2 0) F f q 0)
  have hcl : CQ (x_X11_seed a b) u (fun r v => (r = -2 ∧ v = u ∧ ¬ ((∃ f, f < F ∧ a = nI f) ∧ (0 ≤ b.toInt ∧ b.toInt ≤ 8))) ∨ (∃ f c q, f < F ∧ c < 4 ∧ q ≤ 8 ∧ a = nI f ∧ b = nI q ∧ u.2 0 (148 + 7 * f) = nI c ∧ ((r = -3 ∧ v = u ∧ ¬ (u.2 0 (6 + 36 * c) = 0 ∧ ¬ (1 ≤ q ∧ othS (u.2 0) F f q 0))) ∨ ((u.2 0 (6 + 36 * c) = 0 ∧ ¬ (1 ≤ q ∧ othS (u.2 0) F f q 0)) ∧ ((n = 500 ∧ r = -4 ∧ v = u) ∨ (n < 500 ∧ r = u.2 0 (152 + 7 * f) ∧ Ent u v n ch ∧ v.2 0 = upd (u.2 0) (148 + 7 * f + 4) (nI q))))))) := by
    unfold x_X11_seed
    rcases e_has hF h96 a with ⟨⟨f, hf, rfl⟩, e1⟩ | ⟨hno, e1⟩
    · refine CQ_rd e1 (CQ_ite (fun z => absurd z (by decide)) (fun _ => CQ_ite (fun z => CQ_rt (Or.inl ⟨rfl, rfl, fun y => ?_⟩)) (fun z => CQ_ite (fun z2 => ?_) (fun z2 => CQ_rt (Or.inl ⟨rfl, rfl, fun y => ?_⟩)))))
      · rw [Int32.lt_iff_toInt_lt, i32_0] at z
        omega
      · obtain ⟨q, hq31, rfl⟩ := nI_of z
        have hq8 : q ≤ 8 := (nI_leI (a := q) (b := 8) hq31 (by decide)).mp z2
        obtain ⟨c, hc, ec⟩ := hcs f hf
        refine CQ_rd (e_classOf (by omega)) ?_
        rw [ec]
        refine CQ_rd (e_isDrawn hc) ?_
        by_cases hk : u.2 0 (6 + 36 * c) = 0
        · rw [if_pos hk]
          refine CQ_ite (fun _ => ?_) (fun z => absurd rfl z)
          have hin : ¬ (1 ≤ q ∧ othS (u.2 0) F f q 0) → CQ (anl (x_X1_isFull) (fun r_18 => (if r_18 = 0 then anl (x_X1_openEntry) (fun r_22 => anl (x_X1_ofFighter (nI f) 4) (fun r_25 => anl (nGT 0 2088 r_25) (fun x_28 => anl (x_X1_ofFighter (nI f) 4) (fun r_32 => acl (x_X1_put r_32 (nI q)) (fun r_35 => art x_28))))) else art (-4)))) u (fun r v => (r = -2 ∧ v = u ∧ ¬ ((∃ f2, f2 < F ∧ nI f = nI f2) ∧ (0 ≤ (nI q).toInt ∧ (nI q).toInt ≤ 8))) ∨ (∃ f2 c q2, f2 < F ∧ c < 4 ∧ q2 ≤ 8 ∧ nI f = nI f2 ∧ nI q = nI q2 ∧ u.2 0 (148 + 7 * f2) = nI c ∧ ((r = -3 ∧ v = u ∧ ¬ (u.2 0 (6 + 36 * c) = 0 ∧ ¬ (1 ≤ q2 ∧ othS (u.2 0) F f2 q2 0))) ∨ ((u.2 0 (6 + 36 * c) = 0 ∧ ¬ (1 ≤ q2 ∧ othS (u.2 0) F f2 q2 0)) ∧ ((n = 500 ∧ r = -4 ∧ v = u) ∨ (n < 500 ∧ r = u.2 0 (152 + 7 * f2) ∧ Ent u v n ch ∧ v.2 0 = upd (u.2 0) (148 + 7 * f2 + 4) (nI q2))))))) := fun ha => by
            refine CQ_full h1 hn (fun h5 => ?_) (fun h5 => Or.inr ⟨f, c, q, hf, hc, hq8, rfl, rfl, ec, Or.inr ⟨⟨hk, ha⟩, Or.inl ⟨h5, rfl, rfl⟩⟩⟩)
            refine CQ_open hK h5 h1 (fun _ v1 hE hK1 hB1 _ => ?_)
            rw [e_ofFighter f 4 (show (4 : Int32) = nI 4 from rfl)]
            refine CQ_rd (a := nI (148 + 7 * f + 4)) rfl (CQ_GT (CQ_rd (a := nI (148 + 7 * f + 4)) rfl (CQ_put hK1 (fun _ v2 hs hB2 hS => CQ_rt (Or.inr ⟨f, c, q, hf, hc, hq8, rfl, rfl, ec, Or.inr ⟨⟨hk, ha⟩, Or.inr ⟨h5, ?_, hE.put hs hS, ?_⟩⟩⟩)))))
            · have e52 : 148 + 7 * f + 4 = 152 + 7 * f := by omega
              rw [hB1, rdB _ (by omega), e52]
            · rw [hB2, hB1, wrB _ _ (by omega)]
          rcases Nat.eq_zero_or_pos q with hq0 | hq0
          · subst hq0
            have e4 : x_X8_isSeedOfAnother (nI f) (nI 0) u = some (0, u) := by
              unfold x_X8_isSeedOfAnother
              have ef : fuel = (fuel - 1) + 1 := by unfold fuel; omega
              rw [ef, xl_X8_isSeedOfAnother_2, rd_pp]
              by_cases q9 : u.2 0 2 ≤ 0
              · rw [if_pos q9]; rfl
              · rw [if_neg q9, if_pos (show nI 0 ≤ 0 from Int32.le_refl _)]; rfl
            exact CQ_rd e4 (CQ_ite (fun _ => hin (fun y => absurd y.1 (by omega))) (fun z => absurd rfl z))
          · rcases oth_lp (u := u) (f := f) (q := q) hF h96 hf ⟨hq0, hq8⟩ F 0 fuel (by omega) (by unfold fuel; omega) with ⟨ha, e4⟩ | ⟨ha, e4⟩
            · exact CQ_rd (a := 1) e4 (CQ_ite (fun z => absurd z (by decide)) (fun _ => CQ_rt (Or.inr ⟨f, c, q, hf, hc, hq8, rfl, rfl, ec, Or.inl ⟨rfl, rfl, fun y => y.2 ⟨hq0, ha⟩⟩⟩)))
            · exact CQ_rd (a := 0) e4 (CQ_ite (fun _ => hin (fun y => ha y.2)) (fun z => absurd rfl z))
        · rw [if_neg hk]
          exact CQ_ite (fun z => absurd z (by decide)) (fun _ => CQ_rt (Or.inr ⟨f, c, q, hf, hc, hq8, rfl, rfl, ec, Or.inl ⟨rfl, rfl, fun y => hk y.1⟩⟩))
      · rw [Int32.le_iff_toInt_le] at z2
        omega
    · exact CQ_rd e1 (CQ_ite (fun _ => CQ_rt (Or.inl ⟨rfl, rfl, fun y => hno y.1⟩)) (fun z => absurd rfl z))
  have hc := hcl r v c1 d1 e
  have g9 : (8 : Int64).toInt = 8 := by decide
  have g8 : (0 : Int64).toInt = 0 := by decide
  unfold f_seed
  refine Ok_clR (ok_isFt hRw hF h96 a) (fun q hq => ?_)
  rcases hq with ⟨rfl, hq⟩ | ⟨rfl, f, hf, rfl⟩
  · refine Ok_ite (fun _ => Ok_rt ?_) (fun z => absurd rfl z)
    rcases hc with ⟨z1, z2, -⟩ | ⟨f, c, q, hf, -, -, ef, -⟩
    · subst z2
      exact ⟨z1.symm, h0⟩
    · exact absurd ⟨f, hf, ef⟩ hq
  refine Ok_ite (fun z => absurd z (by decide)) (fun _ => Ok_clR (ok_in _ _ _ w) (fun q hq => ?_))
  rw [Int32.toInt_toInt64, g9, g8] at hq
  rcases hq with ⟨rfl, hq⟩ | ⟨rfl, hq⟩
  · refine Ok_ite (fun z => absurd z (by decide)) (fun _ => ?_)
    rcases hc with ⟨-, -, z⟩ | ⟨f2, c, q, hf2, hc4, hq8, ef, rfl, ec, z⟩
    · exact absurd ⟨⟨f, hf, rfl⟩, hq⟩ z
    have eff : f2 = f := ((nI_eq (by omega) (by omega)).mp ef).symm
    subst eff
    have hnw : nF w = F := by
      unfold nF
      rw [hRw.nf, hF, nI_clamp (by omega)]
    have h5 : Am w 5 f2 (nI c) := by
      rw [← ec]
      exact (hRw.2.2.1 f2 (by omega)).1
    have hK2 : ∀ v3 : Int32, ((v3 = 1 ∧ ¬ (u.2 0 (6 + 36 * c) = 0 ∧ ¬ (1 ≤ q ∧ othS (u.2 0) F f2 q 0))) ∨ (v3 = 0 ∧ (u.2 0 (6 + 36 * c) = 0 ∧ ¬ (1 ≤ q ∧ othS (u.2 0) F f2 q 0)))) → Ok (if v3 = 0 then pcl (f_act 4 (nI f2) (nI q) 0) (fun r => prt r) else prt (-3)) w (fun r2 w2 => r2 = r ∧ SmE P LW N tp v w2) := fun v3 hv => by
      rcases hv with ⟨rfl, hv⟩ | ⟨rfl, hv⟩
      · refine Ok_ite (fun z => absurd z (by decide)) (fun _ => Ok_rt ?_)
        rcases z with ⟨z1, z2, -⟩ | ⟨z1, -⟩
        · subst z2
          exact ⟨z1.symm, h0⟩
        · exact absurd z1 hv
      · refine Ok_ite (fun _ => ?_) (fun z => absurd rfl z)
        rcases z with ⟨-, -, z3⟩ | ⟨-, z3⟩
        · exact absurd hv z3
        · have hd : f_does 4 (nI f2) (nI q) 0 (s n) = some (u.2 0 (152 + 7 * f2), swd 9 (nI f2) (nI q) (s n)) := by
            rw [does_4]
            obtain ⟨r1, w1, q1, q2⟩ := Ok_rdN (k := 9) (n := 96) (j := f2) (ix := nI f2) (x := u.2 0 (152 + 7 * f2)) (c := fun x => pwd 9 96 (nI f2) (nI q) (prt x)) (w := s n) (Q := fun r v => r = u.2 0 (152 + 7 * f2) ∧ v = swd 9 (nI f2) (nI q) (s n)) rfl (by omega) (by decide) (hRs.2.2.1 f2 (by omega)).2.2.2.2.1 (Ok_wdN rfl (by omega) (by decide) (Ok_rt ⟨rfl, rfl⟩))
            rw [q1, q2.1, q2.2]
          refine sim_finQ h hN (by decide) hd (inv_w9 hI f2 q (by omega) hq8) ((LFr.rf _).wd (by decide) _ _) ?_
          rcases z3 with z4 | ⟨z4, z5, z6, z7⟩
          · exact Or.inl z4
          · refine Or.inr ⟨z4, z5, z6, ?_, by rw [z7]; exact (Qd.rf _ _).up _ ⟨fun z => absurd z (by omega), fun z => absurd z (by omega), fun f hf z => absurd z (by omega)⟩ (Or.inr (Or.inr ⟨f2, 4, by omega, by decide, rfl, fun z => absurd z (by decide)⟩))⟩
            rw [z7]
            exact hRs.fgt (f := f2) (k := 4) (by omega) (by omega) (by decide) (nI q)
    have hpre : ∀ v3 : Int32, (v3 = 0 ∨ v3 = 1) → ((v3 = 1 ∧ ¬ u.2 0 (6 + 36 * c) = 0) ∨ (v3 = 0 ∧ u.2 0 (6 + 36 * c) = 0)) → Ok (lp_seed_46 fuel (nI f2) (nI q) v3 (nI 0) (fun v1 v2 v3 v4 => (if v3 = 0 then pcl (f_act 4 v1 v2 0) (fun r_44 => prt r_44) else prt (-3)))) w (fun r2 w2 => r2 = r ∧ SmE P LW N tp v w2) := fun v3 h01 hv => by
      rcases Nat.eq_zero_or_pos q with hq0 | hq0
      · subst hq0
        have hK3 := hK2 v3 (by
          rcases hv with ⟨a1, a2⟩ | ⟨a1, a2⟩
          · exact Or.inl ⟨a1, fun y => a2 y.1⟩
          · exact Or.inr ⟨a1, a2, fun y => absurd y.1 (by omega)⟩)
        have ef : fuel = (fuel - 1) + 1 := by unfold fuel; omega
        rw [ef, lp_seed_46]
        exact Ok_rfN hRw.1.1 (Ok_ite (fun _ => hK3) (fun _ => Ok_ite (fun _ => hK3) (fun z => absurd (show nI 0 ≤ 0 from Int32.le_refl _) z)))
      · refine rothS_lp hRw hF h96 hf2 ⟨hq0, hq8⟩ _ _ F 0 fuel v3 (by omega) (by unfold fuel; omega) h01 (fun v y hv2 => hK2 v ?_)
        rcases hv2 with ⟨b1, b2⟩ | ⟨b1, b2, b3⟩
        · refine Or.inl ⟨b1, fun y => ?_⟩
          rcases b2 with b2 | b2
          · rcases hv with ⟨-, a2⟩ | ⟨a1, -⟩
            · exact a2 y.1
            · rw [b2] at a1
              exact absurd a1 (by decide)
          · exact y.2 ⟨hq0, b2⟩
        · refine Or.inr ⟨b1, ?_, fun y => b3 y.2⟩
          rcases hv with ⟨a1, -⟩ | ⟨-, a2⟩
          · rw [b2] at a1
            exact absurd a1 (by decide)
          · exact a2
    refine Ok_rdN rfl (by omega) (by decide) h5 (Ok_rdN rfl hc4 (by decide) (hRw.kd hc4) (Ok_ite (fun hk => ?_) (fun hk => ?_)))
    · exact hpre 0 (Or.inl rfl) (Or.inr ⟨rfl, hk⟩)
    · exact hpre 1 (Or.inr rfl) (Or.inl ⟨rfl, hk⟩)
  · refine Ok_ite (fun _ => Ok_rt ?_) (fun z => absurd rfl z)
    rcases hc with ⟨z1, z2, -⟩ | ⟨f2, c, q, -, -, hq8, -, rfl, -⟩
    · subst z2
      exact ⟨z1.symm, h0⟩
    · refine absurd ?_ hq
      rw [nI_toInt (by omega)]
      omega

