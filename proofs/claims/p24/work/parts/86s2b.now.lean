/-! ===== now, rest ===== -/
theorem sim_now {P : LwP} {LW : List LwP} {N tp n E ch C : Nat} {u v : MS} {w : GS} {lg : Nat → En} {s : Nat → GS} {p q : Nat → Nat} {a r : Int32} {c d : Nat} (h : SmX P LW N tp u w n E lg s p q ch C) (hN : N ≤ 24000) (e : x_X11_now a u = some (r, v, c, d)) : Ok (f_now a) w (fun r2 w2 => r2 = r ∧ SmE P LW N tp v w2) := by
  have hn := h.le
  have hL := h.1
  have h1 := h.2.1
  have hK := h.2.2.1
  have hRw := h.r0
  have hRs := h.rs
  have hI := h.inv
  have h0 : SmE P LW N tp u w := h.e
  have i3 : Im w 3 (u.2 0 0) := hRw.1.2.1
  have hcl : CQ (x_X11_now a) u (fun r v => (r = -2 ∧ v = u ∧ ¬ ((u.2 0 0).toInt ≤ a.toInt ∧ a.toInt ≤ 1440)) ∨ (((u.2 0 0).toInt ≤ a.toInt ∧ a.toInt ≤ 1440) ∧ ((n = 500 ∧ r = -4 ∧ v = u) ∨ (n < 500 ∧ r = a ∧ Ent u v n ch ∧ v.2 0 = upd (u.2 0) 0 a)))) := by
    unfold x_X11_now
    refine CQ_GT ?_
    have e0 : rg (u.2 0) 2088 0 = u.2 0 0 := rdB (u.2 0) (j := 0) (by decide)
    rw [e0]
    refine CQ_ite (fun z => CQ_rt (Or.inl ⟨rfl, rfl, fun y => ?_⟩)) (fun z => CQ_ite (fun z2 => CQ_full h1 hn (fun h5 => ?_) (fun h5 => Or.inr ⟨?_, Or.inl ⟨h5, rfl, rfl⟩⟩)) (fun z2 => CQ_rt (Or.inl ⟨rfl, rfl, fun y => ?_⟩)))
    · rw [Int32.lt_iff_toInt_lt] at z
      omega
    · refine CQ_open hK h5 h1 (fun _ v1 hE hK1 hB1 _ => CQ_put hK1 (fun _ v2 hs hB2 hS => CQ_rt (Or.inr ⟨?_, Or.inr ⟨h5, rfl, hE.put hs hS, ?_⟩⟩)))
      · rw [Int32.lt_iff_toInt_lt] at z
        rw [Int32.le_iff_toInt_le] at z2
        have e9 : (1440 : Int32).toInt = 1440 := by decide
        omega
      · rw [hB2, hB1]
        exact wrB (j := 0) _ _ (by decide)
    · rw [Int32.lt_iff_toInt_lt] at z
      rw [Int32.le_iff_toInt_le] at z2
      have e9 : (1440 : Int32).toInt = 1440 := by decide
      omega
    · rw [Int32.le_iff_toInt_le] at z2
      have e9 : (1440 : Int32).toInt = 1440 := by decide
      omega
  have hc := hcl r v c d e
  have hd : f_does 6 a 0 0 (s n) = some (a, swf 3 a (s n)) := by rw [does_6]; rfl
  unfold f_now
  refine Ok_rfN i3 (Ok_clR (ok_in _ _ _ w) (fun q hq => ?_))
  rw [Int32.toInt_toInt64, Int32.toInt_toInt64] at hq
  have e9 : (1440 : Int64).toInt = 1440 := by decide
  rw [e9] at hq
  rcases hq with ⟨rfl, hq⟩ | ⟨rfl, hq⟩
  · refine Ok_ite (fun z => absurd z (by decide)) (fun _ => ?_)
    rcases hc with ⟨-, -, z⟩ | ⟨-, z⟩
    · exact absurd hq z
    · have hav : ∃ t, t ≤ 1440 ∧ a = nI t := by
        obtain ⟨t0, ht0, et0⟩ := h.rx.2.1.2.2.1.1
        rw [et0, nI_toInt (by omega)] at hq
        exact ⟨a.toInt.toNat, by omega, nI_ofT (by omega)⟩
      refine sim_finQ h hN (by decide) hd (inv_f3 hI a) ((LFr.rf _).wf (by decide) _) (z.imp (fun z => z) (fun z => ?_))
      obtain ⟨z1, z2, z3, z4⟩ := z
      refine ⟨z1, z2, z3, ?_, by rw [z4]; exact (Qd.rf _ _).up _ ⟨fun _ => hav, fun z => absurd z (by decide), fun f hf z => absurd z (by omega)⟩ (Or.inl (by decide))⟩
      rw [z4]
      refine hRs.hd (fun j hj => upd_n (by omega)) rfl rfl ?_ ?_ ?_ (upd_n (by decide))
      · rw [upd_n (by decide)]
        exact ⟨(swf_o (w := s n) (k := 3) (k2 := 2) (x := a) (by decide)).2.trans hRs.1.1.1, (swf_o (w := s n) (k := 3) (k2 := 2) (x := a) (by decide)).1.trans hRs.1.1.2⟩
      · rw [upd_e]
        exact swf_e
      · rw [upd_n (by decide)]
        exact ⟨(swf_o (w := s n) (k := 3) (k2 := 4) (x := a) (by decide)).2.trans hRs.1.2.2.1, (swf_o (w := s n) (k := 3) (k2 := 4) (x := a) (by decide)).1.trans hRs.1.2.2.2⟩
  · refine Ok_ite (fun _ => Ok_rt ?_) (fun z => absurd rfl z)
    rcases hc with ⟨z1, z2, -⟩ | ⟨z, -⟩
    · subst z2
      exact ⟨z1.symm, h0⟩
    · exact absurd z hq
theorem sim_rest {P : LwP} {LW : List LwP} {N tp n E ch C : Nat} {u v : MS} {w : GS} {lg : Nat → En} {s : Nat → GS} {p q : Nat → Nat} {a r : Int32} {c d : Nat} (h : SmX P LW N tp u w n E lg s p q ch C) (hN : N ≤ 24000) (e : x_X11_rest a u = some (r, v, c, d)) : Ok (f_rest a) w (fun r2 w2 => r2 = r ∧ SmE P LW N tp v w2) := by
  have hn := h.le
  have hL := h.1
  have h1 := h.2.1
  have hK := h.2.2.1
  have hRs := h.rs
  have hI := h.inv
  have h0 : SmE P LW N tp u w := h.e
  have e9 : (120 : Int32).toInt = 120 := by decide
  have hcl : CQ (x_X11_rest a) u (fun r v => (r = -2 ∧ v = u ∧ ¬ (0 ≤ a.toInt ∧ a.toInt ≤ 120)) ∨ ((0 ≤ a.toInt ∧ a.toInt ≤ 120) ∧ ((n = 500 ∧ r = -4 ∧ v = u) ∨ (n < 500 ∧ r = u.2 0 1 ∧ Ent u v n ch ∧ v.2 0 = upd (u.2 0) 1 a)))) := by
    unfold x_X11_rest
    refine CQ_ite (fun z => CQ_rt (Or.inl ⟨rfl, rfl, fun y => ?_⟩)) (fun z => CQ_ite (fun z2 => CQ_full h1 hn (fun h5 => ?_) (fun h5 => Or.inr ⟨?_, Or.inl ⟨h5, rfl, rfl⟩⟩)) (fun z2 => CQ_rt (Or.inl ⟨rfl, rfl, fun y => ?_⟩)))
    · rw [Int32.lt_iff_toInt_lt, i32_0] at z
      omega
    · refine CQ_open hK h5 h1 (fun _ v1 hE hK1 hB1 _ => CQ_GT ?_)
      have e0 : rg (v1.2 0) 2088 1 = u.2 0 1 := by
        rw [hB1]
        exact rdB (u.2 0) (j := 1) (by decide)
      rw [e0]
      refine CQ_put hK1 (fun _ v2 hs hB2 hS => CQ_rt (Or.inr ⟨?_, Or.inr ⟨h5, rfl, hE.put hs hS, ?_⟩⟩))
      · rw [Int32.lt_iff_toInt_lt, i32_0] at z
        rw [Int32.le_iff_toInt_le] at z2
        omega
      · rw [hB2, hB1]
        exact wrB (j := 1) _ _ (by decide)
    · rw [Int32.lt_iff_toInt_lt, i32_0] at z
      rw [Int32.le_iff_toInt_le] at z2
      omega
    · rw [Int32.le_iff_toInt_le] at z2
      omega
  have hc := hcl r v c d e
  have hd : f_does 7 a 0 0 (s n) = some (u.2 0 1, swf 4 a (s n)) := by
    rw [does_7]
    obtain ⟨r1, w1, q1, q2⟩ := Ok_rfN (k := 4) (x := u.2 0 1) (c := fun x => pwf 4 a (prt x)) (Q := fun r v => r = u.2 0 1 ∧ v = swf 4 a (s n)) hRs.1.2.2 (Ok_wf (Ok_rt ⟨rfl, rfl⟩))
    rw [q1, q2.1, q2.2]
  unfold f_rest
  refine Ok_clR (ok_in _ _ _ w) (fun q hq => ?_)
  have e8 : (120 : Int64).toInt = 120 := by decide
  have e7 : (0 : Int64).toInt = 0 := by decide
  rw [Int32.toInt_toInt64, e8, e7] at hq
  rcases hq with ⟨rfl, hq⟩ | ⟨rfl, hq⟩
  · refine Ok_ite (fun z => absurd z (by decide)) (fun _ => ?_)
    rcases hc with ⟨-, -, z⟩ | ⟨-, z⟩
    · exact absurd hq z
    · have hav : ∃ t, t ≤ 120 ∧ a = nI t := ⟨a.toInt.toNat, by omega, nI_ofT hq.1⟩
      refine sim_finQ h hN (by decide) hd (inv_f4 hI a) ((LFr.rf _).wf (by decide) _) (z.imp (fun z => z) (fun z => ?_))
      obtain ⟨z1, z2, z3, z4⟩ := z
      refine ⟨z1, z2, z3, ?_, by rw [z4]; exact (Qd.rf _ _).up _ ⟨fun z => absurd z (by decide), fun _ => hav, fun f hf z => absurd z (by omega)⟩ (Or.inl (by decide))⟩
      rw [z4]
      refine hRs.hd (fun j hj => upd_n (by omega)) rfl rfl ?_ ?_ ?_ (upd_n (by decide))
      · rw [upd_n (by decide)]
        exact ⟨(swf_o (w := s n) (k := 4) (k2 := 2) (x := a) (by decide)).2.trans hRs.1.1.1, (swf_o (w := s n) (k := 4) (k2 := 2) (x := a) (by decide)).1.trans hRs.1.1.2⟩
      · rw [upd_n (by decide)]
        exact ⟨(swf_o (w := s n) (k := 4) (k2 := 3) (x := a) (by decide)).2.trans hRs.1.2.1.1, (swf_o (w := s n) (k := 4) (k2 := 3) (x := a) (by decide)).1.trans hRs.1.2.1.2⟩
      · rw [upd_e]
        exact swf_e
  · refine Ok_ite (fun _ => Ok_rt ?_) (fun z => absurd rfl z)
    rcases hc with ⟨z1, z2, -⟩ | ⟨z, -⟩
    · subst z2
      exact ⟨z1.symm, h0⟩
    · exact absurd z hq
/-- a change of the limits of a class: cells 4 + 36 c, 5 + 36 c -/
theorem R0.lim {B : Nat → Int32} {w : GS} (h : R0 B w) {c : Nat} (hc : c < 4) (x y : Int32) : R0 (upd (upd B (4 + 36 * c) x) (5 + 36 * c) y) (swd 1 (nI c) y (swd 0 (nI c) x w)) := by
  have hB : ∀ j, ¬ j = 4 + 36 * c → ¬ j = 5 + 36 * c → upd (upd B (4 + 36 * c) x) (5 + 36 * c) y j = B j := fun j h1 h2 => (upd_n h2).trans (upd_n h1)
  have am : ∀ {k j z}, ¬ k = 0 → ¬ k = 1 → Am w k j z → Am (swd 1 (nI c) y (swd 0 (nI c) x w)) k j z := fun h1 h2 q => by
    unfold Am at q ⊢
    rw [(sw_o h2).1, (sw_o h2).2, (sw_o h1).1, (sw_o h1).2]
    exact q
  have en : nF (swd 1 (nI c) y (swd 0 (nI c) x w)) = nF w := rfl
  obtain ⟨⟨i2, i3, i4⟩, hC, hF, hN, hR, hM⟩ := h
  refine ⟨⟨?_, ?_, ?_⟩, fun d hd => ?_, fun f hf => ?_, fun f h1 h2 => ?_, fun d hd i hi => ?_, fun m hm => ?_⟩
  · rw [hB _ (by omega) (by omega)]; exact i2
  · rw [hB _ (by omega) (by omega)]; exact i3
  · rw [hB _ (by omega) (by omega)]; exact i4
  · have z := hC d hd
    unfold rC at z ⊢
    refine ⟨?_, ?_, ?_, fun q => ?_⟩
    · by_cases hcd : d = c
      · subst hcd
        rw [upd_n (by omega), upd_e]
        have q : Am (swd 0 (nI d) x w) 0 d x := sw_A (by omega)
        unfold Am at q ⊢
        rw [(sw_o (by decide)).1, (sw_o (by decide)).2]
        exact q
      · rw [hB _ (by omega) (by omega)]
        have q : Am (swd 0 (nI c) x w) 0 d (B (4 + 36 * d)) := sw_An (by omega) hcd z.1
        unfold Am at q ⊢
        rw [(sw_o (by decide)).1, (sw_o (by decide)).2]
        exact q
    · by_cases hcd : d = c
      · subst hcd
        rw [upd_e]
        exact sw_A (by omega)
      · rw [hB _ (by omega) (by omega)]
        refine sw_An (by omega) hcd ?_
        have q := z.2.1
        unfold Am at q ⊢
        rw [(sw_o (by decide)).1, (sw_o (by decide)).2]
        exact q
    · rw [hB _ (by omega) (by omega)]
      exact am (by decide) (by decide) z.2.2.1
    · rw [hB _ (by omega) (by omega)] at q
      refine ⟨?_, fun p h1 h2 => ?_⟩
      · rw [hB _ (by omega) (by omega)]
        exact am (by decide) (by decide) (z.2.2.2 q).1
      · rw [hB _ (by omega) (by omega)] at h2 ⊢
        exact am (by decide) (by decide) ((z.2.2.2 q).2 p h1 h2)
  · have z := hF f hf
    unfold rF at z ⊢
    rw [hB _ (by omega) (by omega), hB _ (by omega) (by omega), hB _ (by omega) (by omega), hB _ (by omega) (by omega), hB _ (by omega) (by omega), hB _ (by omega) (by omega), hB _ (by omega) (by omega)]
    exact ⟨am (by decide) (by decide) z.1, am (by decide) (by decide) z.2.1, am (by decide) (by decide) z.2.2.1, am (by decide) (by decide) z.2.2.2.1, am (by decide) (by decide) z.2.2.2.2.1, am (by decide) (by decide) z.2.2.2.2.2.1, am (by decide) (by decide) z.2.2.2.2.2.2⟩
  · have z := hN f h1 h2
    unfold rN at z ⊢
    rw [hB _ (by omega) (by omega), hB _ (by omega) (by omega)]
    exact z
  · have q : ∀ k, upd (upd B (4 + 36 * c) x) (5 + 36 * c) y (fc d i + k) = B (fc d i + k) := fun k => hB _ (by unfold fc; omega) (by unfold fc; omega)
    have q0 : upd (upd B (4 + 36 * c) x) (5 + 36 * c) y (fc d i) = B (fc d i) := q 0
    rcases hR d hd i hi with ⟨a, b⟩ | ⟨⟨a, b, m, d2, e, f⟩ | ⟨a, b, d2, e, f, g⟩, y2, z⟩
    · exact Or.inl ⟨q0.trans a, am (by decide) (by decide) b⟩
    · refine Or.inr ⟨Or.inl ⟨q0.trans a, am (by decide) (by decide) b, m, d2, (q 7).trans e, am (by decide) (by decide) f⟩, ?_, ?_⟩
      · rw [q 1]; exact am (by decide) (by decide) y2
      · rw [q 2]; exact am (by decide) (by decide) z
    · refine Or.inr ⟨Or.inr ⟨q0.trans a, am (by decide) (by decide) b, ?_, ?_, ?_, ?_⟩, ?_, ?_⟩
      · rw [q 3]; exact am (by decide) (by decide) d2
      · rw [q 4]; exact am (by decide) (by decide) e
      · rw [q 5]; exact am (by decide) (by decide) f
      · rw [q 6]; exact am (by decide) (by decide) g
      · rw [q 1]; exact am (by decide) (by decide) y2
      · rw [q 2]; exact am (by decide) (by decide) z
  · have q : ∀ k, upd (upd B (4 + 36 * c) x) (5 + 36 * c) y (mc0 m + k) = B (mc0 m + k) := fun k => hB _ (by unfold mc0; omega) (by unfold mc0; omega)
    have q0 : upd (upd B (4 + 36 * c) x) (5 + 36 * c) y (mc0 m) = B (mc0 m) := q 0
    rcases hM m hm with ⟨a, b⟩ | ⟨d, i, a, b, d2, e, f, g, k, l, n⟩
    · exact Or.inl ⟨(q 1).trans a, am (by decide) (by decide) b⟩
    · refine Or.inr ⟨d, i, a, b, q0.trans d2, (q 1).trans e, am (by decide) (by decide) f, ?_, ?_, ?_, fun j hj => ?_⟩
      · rw [q 2]; exact am (by decide) (by decide) g
      · rw [q 3]; exact am (by decide) (by decide) k
      · rw [q 4]; exact am (by decide) (by decide) l
      · have e9 : mc0 m + 5 + j = mc0 m + (5 + j) := by omega
        rw [e9, q (5 + j), ← e9]
        exact am (by decide) (by decide) (n j hj)
/-- was one of the class at the scales -/
def anyS (B : Nat → Int32) (F c k : Nat) : Prop := ∃ f, k ≤ f ∧ f < F ∧ B (148 + 7 * f) = nI c ∧ ¬ B (151 + 7 * f) = 0
theorem anyS_next {B : Nat → Int32} {F c k : Nat} (h : ¬ (B (148 + 7 * k) = nI c ∧ ¬ B (151 + 7 * k) = 0)) : anyS B F c k ↔ anyS B F c (k + 1) := by
  refine ⟨?_, ?_⟩
  · rintro ⟨f, h1, h2, h3⟩
    rcases Nat.lt_or_ge k f with z | z
    · exact ⟨f, z, h2, h3⟩
    · have : f = k := by omega
      subst this
      exact absurd h3 h
  · rintro ⟨f, h1, h2, h3⟩
    exact ⟨f, by omega, h2, h3⟩
theorem e_classOf {u : MS} {f : Nat} (hf : f < 96) : x_X8_classOf (nI f) u = some (u.2 0 (148 + 7 * f), u) := by
  unfold x_X8_classOf
  rw [e_ofFighter f 0 (show (0 : Int32) = nI 0 from rfl)]
  show some (rg (u.2 0) 2088 (nI (148 + 7 * f + 0)), u) = _
  rw [rdB _ (by omega)]
  rfl
theorem any_lp {u : MS} {F c : Nat} (hF : u.2 0 2 = nI F) (h96 : F ≤ 96) : ∀ (t k n : Nat), k + t = F → t < n → (anyS (u.2 0) F c k ∧ xl_X8_wasAnyAtScales_2 n (nI c) (nI k) (fun v1 v2 => nrt 0) u = some (1, u)) ∨ (¬ anyS (u.2 0) F c k ∧ xl_X8_wasAnyAtScales_2 n (nI c) (nI k) (fun v1 v2 => nrt 0) u = some (0, u)) := by
  intro t
  induction t with
  | zero =>
    intro k n hk hn
    cases n with
    | zero => omega
    | succ n =>
      refine Or.inr ⟨fun ⟨f, h1, h2, _⟩ => by omega, ?_⟩
      unfold xl_X8_wasAnyAtScales_2
      refine ncl_eq e_people ?_
      rw [hF, if_pos (nI_le (by omega) (by omega))]
      rfl
  | succ t ih =>
    intro k n hk hn
    cases n with
    | zero => omega
    | succ n =>
      have hlt : ¬ nI F ≤ nI k := fun z => absurd ((nI_leI (by omega) (by omega)).mp z) (by omega)
      have e3 : ∀ q : Int32 → NG Int32, ncl (x_X1_ofFighter (nI k) 3) (fun r_11 => ncl (nGT 0 2088 r_11) q) u = q (u.2 0 (151 + 7 * k)) u := fun q => by
        rw [e_ofFighter k 3 (show (3 : Int32) = nI 3 from rfl)]
        show q (rg (u.2 0) 2088 (nI (148 + 7 * k + 3))) u = _
        rw [rdB _ (by omega)]
        have e : 148 + 7 * k + 3 = 151 + 7 * k := by omega
        rw [e]
      have step : ∀ y, ncl x_X8_people (fun r_1 => (if r_1 ≤ nI k then (fun v1 v2 => nrt 0) (nI c) (nI k) else ncl (x_X8_classOf (nI k)) (fun r_5 => (if r_5 = nI c then ncl (x_X1_ofFighter (nI k) 3) (fun r_11 => ncl (nGT 0 2088 r_11) (fun x_14 => (if x_14 = 0 then nli (nI k + 1) (fun x_19 => xl_X8_wasAnyAtScales_2 n (nI c) x_19 (fun v1 v2 => nrt 0)) else nrt 1))) else nli (nI k + 1) (fun x_9 => xl_X8_wasAnyAtScales_2 n (nI c) x_9 (fun v1 v2 => nrt 0)))))) u = y → xl_X8_wasAnyAtScales_2 (n + 1) (nI c) (nI k) (fun v1 v2 => nrt 0) u = y := fun y hy => hy
      by_cases hh : u.2 0 (148 + 7 * k) = nI c ∧ ¬ u.2 0 (151 + 7 * k) = 0
      · refine Or.inl ⟨⟨k, Nat.le_refl _, by omega, hh⟩, step _ ?_⟩
        refine ncl_eq e_people ?_
        rw [hF, if_neg hlt]
        refine ncl_eq (e_classOf (by omega)) ?_
        rw [if_pos hh.1, e3, if_neg hh.2]
        rfl
      · have hr : xl_X8_wasAnyAtScales_2 (n + 1) (nI c) (nI k) (fun v1 v2 => nrt 0) u = xl_X8_wasAnyAtScales_2 n (nI c) (nI (k + 1)) (fun v1 v2 => nrt 0) u := by
          refine step _ ?_
          refine (show ncl x_X8_people _ u = _ from ?_)
          have e1 : ∀ q : Int32 → NG Int32, ncl x_X8_people q u = q (nI F) u := fun q => by
            unfold ncl
            rw [e_people, hF]
          rw [e1, if_neg hlt]
          have e2 : ∀ q : Int32 → NG Int32, ncl (x_X8_classOf (nI k)) q u = q (u.2 0 (148 + 7 * k)) u := fun q => by
            unfold ncl
            rw [e_classOf (by omega)]
          rw [e2]
          by_cases h1 : u.2 0 (148 + 7 * k) = nI c
          · have h2 : u.2 0 (151 + 7 * k) = 0 := by
              by_cases h3 : u.2 0 (151 + 7 * k) = 0
              · exact h3
              · exact absurd ⟨h1, h3⟩ hh
            rw [if_pos h1, e3, if_pos h2]
            show xl_X8_wasAnyAtScales_2 n (nI c) (nI k + 1) _ u = _
            rw [nI_1]
          · rw [if_neg h1]
            show xl_X8_wasAnyAtScales_2 n (nI c) (nI k + 1) _ u = _
            rw [nI_1]
        rw [hr, anyS_next hh]
        exact ih (k + 1) n (by omega) (by omega)

