/-! ===== strike, both sides ===== -/
noncomputable def strk (c : Nat) : Nat → Nat → (Nat → Int32) → Nat → (Nat → Int32) × Nat
  | 0, _, B, g => (B, g)
  | t + 1, k, B, g => if ¬ B (fc c k) = 0 ∧ ¬ (B (fc c k + 1) = bWh B c k ∧ B (fc c k + 2) = bBl B c k) then strk c t (k + 1) (drB B c k) (g + 1) else strk c t (k + 1) B g
theorem strk_y {c t k g : Nat} {B : Nat → Int32} (h : StP B c k) : strk c (t + 1) k B g = strk c t (k + 1) (drB B c k) (g + 1) := by
  rw [strk]
  exact if_pos h
theorem strk_n {c t k g : Nat} {B : Nat → Int32} (h : ¬ StP B c k) : strk c (t + 1) k B g = strk c t (k + 1) B g := by
  rw [strk]
  exact if_neg h
theorem strk_skip {c g : Nat} {B : Nat → Int32} : ∀ (d t k : Nat), (∀ i, k ≤ i → i < k + d → ¬ StP B c i) → strk c (d + t) k B g = strk c t (k + d) B g := by
  intro d
  induction d with
  | zero => intro t k _; rw [Nat.zero_add]; rfl
  | succ d ih =>
    intro t k h
    have e : d + 1 + t = (d + t) + 1 := by omega
    rw [e, strk_n (h k (Nat.le_refl _) (by omega)), ih t (k + 1) (fun i h1 h2 => h i (by omega) (by omega))]
    congr 1
    omega
theorem r_soTail {B : Nat → Int32} {w : GS} {c n k : Nat} (h : SI B w c n k) (hk : k < n) (hmk : ¬ B (fc c k) = 0) (R : PG Int32) (Q : Int32 → GS → Prop) (hR : ∀ v, SI (drB B c k) v c n (k + 1) → FrS c B (drB B c k) → LFr w v → Ok R v Q) : Ok (prd 15 160 (nI (40 * c + k)) (fun x_24 => (if x_24 = 1 then pcl (f_matOf (nI c) (nI k)) (fun r_35 => pwd 22 4 r_35 (-1) (prd 16 160 (nI (40 * c + k)) (fun x_41 => prf 3 (fun x_44 => pwd 11 96 x_41 x_44 (prd 17 160 (nI (40 * c + k)) (fun x_49 => prf 3 (fun x_52 => pwd 11 96 x_49 x_52 (pwd 15 160 (nI (40 * c + k)) 0 R)))))))) else pwd 15 160 (nI (40 * c + k)) 0 R))) w Q := by
  have h9 := h
  obtain ⟨hI, hR0, hD, hM, hP, hS⟩ := h9
  have hc := hD.c4
  have h37 : k < 37 := by have := hD.n37; omega
  have hx : 40 * c + k < 160 := by omega
  have h96 := hI.1.1.2.2
  obtain ⟨a, b, -, -, ha, hb, ea, eb, wa, wb⟩ := hR0.two hI hc h37 hmk
  have i3 := hR0.1.2.1
  have hfc : 820 ≤ fc c k ∧ fc c k + 8 ≤ 2004 := by unfold fc; omega
  rcases hR0.2.2.2.2.1 c hc k h37 with ⟨z, -⟩ | ⟨⟨h2, w15, m, hm, e7, w22⟩ | ⟨h3, w15, -⟩, -⟩
  · exact absurd z hmk
  · have hmc : 2004 ≤ mc0 m ∧ mc0 m + 21 ≤ 2088 := by unfold mc0; omega
    refine Ok_rdN rfl hx (by decide) w15 (Ok_ite (fun _ => ?_) (fun z => absurd rfl z))
    refine Ok_clR (ok_matOf (fun m hm => (hI.1.2.2.2.2.2.1 m hm).1) c k) (fun r hr => ?_)
    have er : r = nI m := by
      rcases hr with ⟨m2, hm2, rfl, hon⟩ | ⟨-, hno⟩
      · rcases hR0.onm2 hM.2.2.2 hm2 with ⟨-, z⟩ | ⟨c2, i2, hOn, hk2, h7⟩
        · exact absurd (hon.symm.trans z.2) (nI_ne_1 (by omega))
        · have hc2 := hOn.1
          have hi2 := hOn.2.1
          have e9 := (nI_eq (by omega) (by omega)).mp (hOn.2.2.2.2.1.2.symm.trans hon)
          have ec : c2 = c := by omega
          have ei : i2 = k := by omega
          rw [ec, ei, e7] at h7
          exact h7.symm
      · exact absurd w22.2 (hno m hm)
    subst er
    refine Ok_wdN rfl hm (by decide) (Ok_rdN rfl hx (by decide) (wa.o (by decide)) (Ok_rfN i3 (Ok_wdN rfl ha (by decide) ?_)))
    refine Ok_rdN rfl hx (by decide) ((wb.o (by decide)).o (by decide)) (Ok_rfN i3 (Ok_wdN rfl hb (by decide) (Ok_wdN rfl hx (by decide) ?_)))
    have hIv := so1_inv hI c k a b m (B 0) hc (by omega) hm w22.2
    have hSt : St w (so1 (40 * c + k) a b m (B 0) w) := ⟨rfl, rfl, rfl, rfl, rfl, rfl, rfl, rfl, rfl, rfl, rfl⟩
    have hq : BqM c k m (fun f => f = a ∨ f = b) B (upd (lvB B m a b (B 0)) (fc c k) 0) := by
      unfold lvB
      exact ((((BqM.rf _ _ _ _ _).up _ (Or.inr (Or.inr ⟨a, ha, Or.inl rfl, rfl⟩))).up _ (Or.inr (Or.inr ⟨b, hb, Or.inr rfl, rfl⟩))).up _ (Or.inr (Or.inl (by omega)))).up _ (Or.inl (by omega))
    have z1 : upd (lvB B m a b (B 0)) (fc c k) 0 (mc0 m + 1) = -1 := by
      unfold lvB
      rw [upd_n (by omega), upd_e]
    have zt : ∀ f, f = a ∨ f = b → upd (lvB B m a b (B 0)) (fc c k) 0 (154 + 7 * f) = B 0 := fun f hf => by
      unfold lvB
      rw [upd_n (by omega), upd_n (by omega)]
      by_cases hfb : f = b
      · rw [hfb, upd_e]
      · rw [upd_n (by omega), hf.resolve_right hfb, upd_e]
    have no : ∀ {k2 j}, okM c k m (fun f => f = a ∨ f = b) k2 j → ¬ ((k2 = 15 ∧ j = 40 * c + k) ∨ (k2 = 22 ∧ j = m) ∨ (k2 = 11 ∧ (j = a ∨ j = b))) := fun z => by
      unfold okM at z
      omega
    have hT : Tq c k m (fun f => f = a ∨ f = b) w (so1 (40 * c + k) a b m (B 0) w) := by
      unfold so1
      exact (((((Tq.rf c k m _ w).sw (by omega) _ (fun z => no z (Or.inr (Or.inl ⟨rfl, rfl⟩))) (by decide)).sw (by omega) _ (fun z => no z (Or.inr (Or.inr ⟨rfl, Or.inl rfl⟩))) (by decide)).sw (by omega) _ (fun z => no z (Or.inr (Or.inr ⟨rfl, Or.inr rfl⟩))) (by decide)).sw (by omega) _ (fun z => no z (Or.inl ⟨rfl, rfl⟩)) (by decide))
    have hun : ∀ c2 i2, c2 < 4 → i2 < 37 → Am w 22 m (nI (40 * c2 + i2)) → c2 = c ∧ i2 = k := fun c2 i2 hc2 hi2 z => by
      have := (nI_eq (by omega) (by omega)).mp (z.inj w22)
      omega
    have hRv : R0 (drB B c k) (so1 (40 * c + k) a b m (B 0) w) := by
      rw [drB_open h2 e7 ea eb hm ha hb]
      refine hR0.mat h96 hc h37 hm hq hT (fun f hf hA => ?_) (Or.inl ⟨upd_e, ?_⟩) (Or.inl ⟨z1, ?_⟩) hun
      · rw [zt f hA]
        unfold so1
        by_cases hfb : f = b
        · rw [hfb]
          exact (sw_A (k := 11) (by omega)).o (by decide)
        · have hfa : f = a := hA.resolve_right hfb
          rw [hfa]
          exact ((sw_A (k := 11) (by omega)).sw (by omega) (fun z => hfb (hfa.trans z.2))).o (by decide)
      · unfold so1
        exact sw_A (by omega)
      · unfold so1
        exact (((sw_A (k := 22) (by omega)).o (by decide)).o (by decide)).o (by decide)
    obtain ⟨y1, y2⟩ := h.drop hk hmk hIv hRv hSt
    exact hR _ y1 y2 hT.2.2.2
  · refine Ok_rdN rfl hx (by decide) w15 (Ok_ite (fun z => absurd z (by decide)) (fun _ => Ok_wdN rfl hx (by decide) ?_))
    have hne2 : ¬ B (fc c k) = 2 := by rw [h3]; decide
    have hRv : R0 (drB B c k) (swd 15 (nI (40 * c + k)) 0 w) := by
      rw [drB_done hne2]
      have hT : Tq c k 4 (fun _ => False) w (swd 15 (nI (40 * c + k)) 0 w) := (Tq.rf c k 4 _ w).sw (by omega) _ (fun z => by unfold okM at z; omega) (by decide)
      exact hR0.mat4 h96 hc h37 (A := fun _ => False) (m := 4) ((BqM.rf _ _ _ _ _).up _ (Or.inl (by omega))) hT (fun _ _ z => z.elim) (Or.inl ⟨upd_e, sw_A (by omega)⟩) (fun z => absurd z (by decide)) (fun z => absurd z (by decide))
    obtain ⟨y1, y2⟩ := h.drop hk hmk (inv_r0 hI _ (by omega)) hRv ⟨rfl, rfl, rfl, rfl, rfl, rfl, rfl, rfl, rfl, rfl, rfl⟩
    exact hR _ y1 y2 ((LFr.rf _).wd (by decide) _ _)
theorem mx2_iff {x : Int32} {a : Nat} (ha : a < 96) : mx2 x = nI a ↔ x = nI a := by
  unfold mx2
  by_cases h : x = -2
  · rw [if_pos h, h]
    exact ⟨fun z => absurd z.symm (nI_ne_1 (by omega)), fun z => absurd z.symm (nI_ne_2 (by omega))⟩
  · rw [if_neg h]
theorem r_struck_in (c n : Nat) (i0 : Int32) (K : Int32 → Int32 → Int32 → Int32 → Int32 → PG Int32) (Q : Int32 → GS → Prop) : ∀ (t k f : Nat) (w : GS) (B : Nat → Int32) (g : Nat) (v4 : Int32), k + t = n → t < f → SI B w c n k → (∀ v B' g' v4', SI B' v c n n → strk c t k B g = (B', g') → FrS c B B' → LFr w v → ((v4' = v4 ∧ B' = B ∧ g' = g) ∨ (v4' = 1 ∧ g < g')) → Ok (K (nI c) i0 (nI g') v4' (nI n)) v Q) → Ok (lp_struck_28 f (nI c) i0 (nI g) v4 (nI k) K) w Q := by
  intro t
  induction t with
  | zero =>
    intro k f w B g v4 h1 h2 hS hK
    cases f with
    | zero => omega
    | succ f =>
      have : k = n := by omega
      subst this
      unfold lp_struck_28
      refine Ok_clR (ok_fights w c k hS.2.2.1) (fun r hr => ?_)
      subst hr
      exact Ok_ite (fun _ => hK w B g v4 hS rfl (FrS.rf _ _) (LFr.rf _) (Or.inl ⟨rfl, rfl, rfl⟩)) (fun z => absurd (Int32.le_refl _) z)
  | succ t ih =>
    intro k f w B g v4 h1 h2 hS hK
    have h9 := hS
    obtain ⟨hI, hR0, hD, hM, hP, hSt⟩ := h9
    have hc := hD.c4
    have h37n := hD.n37
    have h37 : k < 37 := by omega
    have hkn : k < n := by omega
    cases f with
    | zero => omega
    | succ f =>
      unfold lp_struck_28
      refine Ok_clR (ok_fights w c n hD) (fun r hr => ?_)
      subst hr
      refine Ok_ite (fun z => absurd z (nI_ge (by omega) (by omega))) (fun _ => Ok_li ?_)
      rw [ix40]
      have hskip : ¬ StP B c k → Ok (pli (nI k + 1) (fun x => lp_struck_28 f (nI c) i0 (nI g) v4 x K)) w Q := fun hn => by
        refine Ok_li ?_
        rw [nI_1]
        refine ih (k + 1) f w B g v4 (by omega) (by omega) (hS.skip hn) (fun v B' g' v4' y1 y2 y3 y4 y5 => hK v B' g' v4' y1 ?_ y3 y4 y5)
        rw [strk_n hn]
        exact y2
      have hdrop : StP B c k → ∀ v, SI (drB B c k) v c n (k + 1) → FrS c B (drB B c k) → LFr w v → Ok (pli (nI g + 1) (fun x => pli (nI k + 1) (fun y => lp_struck_28 f (nI c) i0 x 1 y K))) v Q := fun hs v y1 y2 y3 => by
        refine Ok_li (Ok_li ?_)
        rw [nI_1, nI_1]
        refine ih (k + 1) f v _ (g + 1) 1 (by omega) (by omega) y1 (fun v2 B' g' v4' z1 z2 z3 z4 z5 => hK v2 B' g' v4' z1 ?_ (y2.trans z3) (y3.trans z4) (Or.inr ?_))
        · rw [strk_y hs]
          exact z2
        · rcases z5 with z | z
          · exact ⟨z.1, by omega⟩
          · exact ⟨z.1, by omega⟩
      have h15 : ∃ x, Am w 15 (40 * c + k) x ∧ (x = 0 ↔ B (fc c k) = 0) := by
        rcases hR0.2.2.2.2.1 c hc k h37 with ⟨z, y⟩ | ⟨⟨h2, w15, -⟩ | ⟨h3, w15, -⟩, -⟩
        · exact ⟨0, y, fun _ => z, fun _ => rfl⟩
        · exact ⟨1, w15, fun q => absurd q (by decide), fun q => absurd (h2.symm.trans q) (by decide)⟩
        · exact ⟨2, w15, fun q => absurd q (by decide), fun q => absurd (h3.symm.trans q) (by decide)⟩
      obtain ⟨x, hx15, hx0⟩ := h15
      refine Ok_rdN rfl (by omega) (by decide) hx15 (Ok_ite (fun z => hskip (fun y => y.1 (hx0.mp z))) (fun z => ?_))
      have hmk : ¬ B (fc c k) = 0 := fun y => z (hx0.mpr y)
      obtain ⟨a, b, -, -, ha, hb, ea, eb, wa, wb⟩ := hR0.two hI hc h37 hmk
      obtain ⟨r1, r2⟩ := rows_v hR0 hD hkn
      have s0 := sv_anyK hR0 hS.ntk hD hkn (Nat.le_refl _) (sd := 0) (by decide) 0
      have s1 := sv_anyK hR0 hS.ntk hD hkn (Nat.le_refl _) (sd := 1) (by decide) 0
      refine Ok_clR s0 (fun x0 hx0 => Ok_rdN rfl (by omega) (by decide) wa (Ok_ite (fun y0 => ?_) (fun y0 => ?_)))
      · refine Ok_clR s1 (fun x1 hx1 => Ok_rdN rfl (by omega) (by decide) wb (Ok_ite (fun y1 => hskip (fun y => y.2 ⟨?_, ?_⟩)) (fun y1 => ?_)))
        · rw [r1, ea, ← hx0, y0]
          exact ((mx2_iff ha).mpr rfl).symm
        · rw [r2, eb, ← hx1, y1]
          exact ((mx2_iff hb).mpr rfl).symm
        · refine r_soTail hS hkn hmk _ Q (hdrop ⟨hmk, fun q => y1 ?_⟩)
          have := q.2
          rw [r2, eb] at this
          rw [hx1]
          exact (mx2_iff hb).mp this.symm
      · refine r_soTail hS hkn hmk _ Q (hdrop ⟨hmk, fun q => y0 ?_⟩)
        have := q.1
        rw [r1, ea] at this
        rw [hx0]
        exact (mx2_iff ha).mp this.symm
theorem strk_fix {c n : Nat} {B : Nat → Int32} {g : Nat} (h : ∀ i, i < n → ¬ StP B c i) : strk c n 0 B g = (B, g) := by
  have := strk_skip (c := c) (g := g) (B := B) n 0 0 (fun i _ h2 => h i (by omega))
  rw [Nat.add_zero] at this
  rw [this]
  rfl
theorem r_struck {B : Nat → Int32} {w : GS} {c n i : Nat} (hS : SI B w c n n) (hi : i < n) (h3 : B (fc c i) = 3) : Ok (f_struck (nI c) (nI i)) w (fun r v => ∃ g', r = nI g' ∧ SI (strk c (n - (i + 1)) (i + 1) (drB B c i) 1).1 v c n n ∧ g' = (strk c (n - (i + 1)) (i + 1) (drB B c i) 1).2 ∧ FrS c B (strk c (n - (i + 1)) (i + 1) (drB B c i) 1).1 ∧ LFr w v) := by
  have h9 := hS
  obtain ⟨hI, hR0, hD, hM, hP, hSt⟩ := h9
  have hc := hD.c4
  have h37n := hD.n37
  have h37 : i < 37 := by omega
  have hfc : 820 ≤ fc c i ∧ fc c i + 8 ≤ 2004 := by unfold fc; omega
  have hSi : SI B w c n i := ⟨hI, hR0, hD, hM, hP, fun j hj hjn => hSt j hjn hjn⟩
  have hmk : ¬ B (fc c i) = 0 := by rw [h3]; decide
  have hne2 : ¬ B (fc c i) = 2 := by rw [h3]; decide
  have hRv : R0 (drB B c i) (swd 15 (nI (40 * c + i)) 0 w) := by
    rw [drB_done hne2]
    have hT : Tq c i 4 (fun _ => False) w (swd 15 (nI (40 * c + i)) 0 w) := (Tq.rf c i 4 _ w).sw (by omega) _ (fun z => by unfold okM at z; omega) (by decide)
    exact hR0.mat4 hI.1.1.2.2 hc h37 (A := fun _ => False) (m := 4) ((BqM.rf _ _ _ _ _).up _ (Or.inl (by omega))) hT (fun _ _ z => z.elim) (Or.inl ⟨upd_e, sw_A (by omega)⟩) (fun z => absurd z (by decide)) (fun z => absurd z (by decide))
  obtain ⟨y1, y2⟩ := hSi.drop hi hmk (inv_r0 hI _ (by omega)) hRv ⟨rfl, rfl, rfl, rfl, rfl, rfl, rfl, rfl, rfl, rfl, rfl⟩
  have hl : LFr w (swd 15 (nI (40 * c + i)) 0 w) := (LFr.rf _).wd (by decide) _ _
  have y0 : SI (drB B c i) (swd 15 (nI (40 * c + i)) 0 w) c n 0 := ⟨y1.1, y1.2.1, y1.2.2.1, y1.2.2.2.1, y1.2.2.2.2.1, fun j hj => absurd hj (Nat.not_lt_zero _)⟩
  have est : strk c n 0 (drB B c i) 1 = strk c (n - (i + 1)) (i + 1) (drB B c i) 1 := by
    have := strk_skip (c := c) (g := 1) (B := drB B c i) (i + 1) (n - (i + 1)) 0 (fun j _ h2 => y1.2.2.2.2.2 j (by omega) (by omega))
    rw [show i + 1 + (n - (i + 1)) = n by omega, Nat.zero_add] at this
    exact this
  unfold f_struck
  rw [ix40]
  refine Ok_wdN rfl (by omega) (by decide) ?_
  obtain ⟨f1, hf1⟩ : ∃ f, fuel = f + 1 := ⟨fuel - 1, by unfold fuel; omega⟩
  obtain ⟨f2, hf2⟩ : ∃ f, f1 = f + 1 := ⟨f1 - 1, by unfold fuel at hf1; omega⟩
  obtain ⟨f3, hf3⟩ : ∃ f, f2 = f + 1 := ⟨f2 - 1, by unfold fuel at hf1; omega⟩
  have hfin : ∀ (f : Nat) (v : GS) (B' : Nat → Int32) (g' : Nat), SI B' v c n n → strk c (n - (i + 1)) (i + 1) (drB B c i) 1 = (B', g') → FrS c (drB B c i) B' → LFr w v → Ok (lp_struck_17 (f + 1) (nI c) (nI i) (nI g') 0 (fun v1 v2 v3 v4 => prt v3)) v (fun r v => ∃ g', r = nI g' ∧ SI (strk c (n - (i + 1)) (i + 1) (drB B c i) 1).1 v c n n ∧ g' = (strk c (n - (i + 1)) (i + 1) (drB B c i) 1).2 ∧ FrS c B (strk c (n - (i + 1)) (i + 1) (drB B c i) 1).1 ∧ LFr w v) := fun f v B' g' z1 z2 z3 z4 => by
    unfold lp_struck_17
    refine Ok_ite (fun _ => Ok_rt ⟨g', rfl, ?_, ?_, ?_, z4⟩) (fun z => absurd rfl z)
    · rw [z2]; exact z1
    · rw [z2]
    · rw [z2]; exact y2.trans z3
  have h17 : Ok (lp_struck_17 (f3 + 1 + 1 + 1) (nI c) (nI i) (nI 1) 1 (fun v1 v2 v3 v4 => prt v3)) (swd 15 (nI (40 * c + i)) 0 w) (fun r v => ∃ g', r = nI g' ∧ SI (strk c (n - (i + 1)) (i + 1) (drB B c i) 1).1 v c n n ∧ g' = (strk c (n - (i + 1)) (i + 1) (drB B c i) 1).2 ∧ FrS c B (strk c (n - (i + 1)) (i + 1) (drB B c i) 1).1 ∧ LFr w v) := by
    unfold lp_struck_17
    refine Ok_ite (fun z => absurd z (by decide)) (fun _ => ?_)
    refine r_struck_in c n (nI i) _ _ n 0 fuel _ (drB B c i) 1 0 (by omega) (by unfold fuel; omega) y0 (fun v B' g' v4' z1 z2 z3 z4 z5 => ?_)
    rw [est] at z2
    rcases z5 with ⟨z6, -⟩ | ⟨z6, -⟩
    · subst z6
      exact hfin _ v B' g' z1 z2 z3 (hl.trans z4)
    · subst z6
      show Ok (lp_struck_17 (f3 + 1 + 1) (nI c) (nI i) (nI g') 1 (fun v1 v2 v3 v4 => prt v3)) v _
      unfold lp_struck_17
      refine Ok_ite (fun z => absurd z (by decide)) (fun _ => ?_)
      have y00 : SI B' v c n 0 := ⟨z1.1, z1.2.1, z1.2.2.1, z1.2.2.2.1, z1.2.2.2.2.1, fun j hj => absurd hj (Nat.not_lt_zero _)⟩
      refine r_struck_in c n (nI i) _ _ n 0 fuel _ B' g' 0 (by omega) (by unfold fuel; omega) y00 (fun v2 B2 g2 v42 x1 x2 x3 x4 x5 => ?_)
      have hfix := strk_fix (c := c) (n := n) (B := B') (g := g') (fun j hj => z1.2.2.2.2.2 j hj hj)
      rw [hfix] at x2
      cases x2
      rcases x5 with ⟨x6, -⟩ | ⟨-, x6⟩
      · subst x6
        exact hfin _ v2 B' g' x1 z2 z3 ((hl.trans z4).trans x4)
      · omega
  rw [hf1, hf2, hf3]
  exact h17

