/-! ===== a line's code at work, in the reference ===== -/
theorem e_joined {kd : Nat} {a b : Int32} (w : GS) (hk : kd = 9 ∨ kd = 10 ∨ (20 ≤ kd ∧ kd ≤ 27)) (h01 : (kd = 9 ∨ kd = 10) → (a = 0 ∨ a = 1) ∧ (b = 0 ∨ b = 1)) : Rd (f_joined (nI (opK kd)) a b) w (fun r => r = cj kd a b) := by
  have sp : ∀ (p : Prop) [Decidable p] (x y : Int32), Rd (if p then prt x else prt y) w (fun r => r = if p then x else y) := fun p _ x y => by
    by_cases hp : p
    · rw [if_pos hp]; exact Rd_rt (if_pos hp).symm
    · rw [if_neg hp]; exact Rd_rt (if_neg hp).symm
  have hk2 : kd = 9 ∨ kd = 10 ∨ kd = 20 ∨ kd = 21 ∨ kd = 22 ∨ kd = 23 ∨ kd = 24 ∨ kd = 25 ∨ kd = 26 ∨ kd = 27 := by omega
  rcases hk2 with rfl | rfl | rfl | rfl | rfl | rfl | rfl | rfl | rfl | rfl
  · obtain ⟨ha, hb⟩ := h01 (Or.inl rfl)
    rcases ha with rfl | rfl <;> rcases hb with rfl | rfl <;> exact Rd_rt rfl
  · obtain ⟨ha, hb⟩ := h01 (Or.inr rfl)
    rcases ha with rfl | rfl <;> rcases hb with rfl | rfl <;> exact Rd_rt rfl
  · exact Rd_rt rfl
  · exact Rd_rt rfl
  · exact sp (b ≤ a) 0 1
  · exact sp (b < a) 0 1
  · exact sp (a ≤ b) 0 1
  · exact sp (a < b) 0 1
  · exact sp (a = b) 1 0
  · exact sp (a = b) 0 1
theorem r_termOf {B : Nat → Int32} {w : GS} {m c i k kd f sd : Nat} {over : Int32} (hm : m < 4) (hsd : sd < 2) (hO : OnM B w m c i) (h01 : B (mc0 m + 3) = 0 ∨ B (mc0 m + 3) = 1) (hov : over = 0 ↔ ¬ (B (mc0 m + 3) = 1 ∨ B (mc0 m + 2) = 0)) (hk3 : k < 300) (h36 : Am w 36 k (nI (opK kd))) (h37 : Am w 37 k (nI f)) (hk : kd = 3 ∨ kd = 12 ∨ kd = 13 ∨ ((kd = 14 ∨ kd = 15) ∧ f < 8) ∨ kd = 16) : Rd (f_termOf (nI k) (nI m) (nI sd) over) w (fun r => r = valT B m sd kd f) := by
  obtain ⟨hc, hi, -, -, -, o23, o25, -, o24⟩ := hO
  unfold f_termOf valT
  refine Rd_rdN rfl hk3 (by decide) h36 ?_
  rcases hk with rfl | rfl | rfl | ⟨rfl | rfl, hf⟩ | rfl
  · rw [if_pos (show nI (opK 3) = 0 from rfl)]
    exact Rd_rdN rfl hk3 (by decide) h37 (Rd_rt rfl)
  · rw [if_neg (show ¬ nI (opK 12) = 0 by decide), if_neg (show ¬ nI (opK 12) = 1 by decide), if_neg (show ¬ nI (opK 12) = 2 by decide), if_neg (show ¬ nI (opK 12) = 3 by decide), if_pos (show nI (opK 12) = 4 from rfl), if_pos rfl]
    refine Rd_ite (fun z => Rd_rt ?_) (fun z => Rd_rt ?_)
    · have y := hov.mp z
      rw [if_neg (fun q => y (Or.inl q)), if_neg (fun q => y (Or.inr q))]
    · by_cases h3 : B (mc0 m + 3) = 1
      · rw [if_pos h3]
      · rw [if_neg h3]
        by_cases h2 : B (mc0 m + 2) = 0
        · rw [if_pos h2]
        · exact absurd (hov.mpr (fun q => q.elim h3 h2)) z
  · rw [if_neg (show ¬ nI (opK 13) = 0 by decide), if_neg (show ¬ nI (opK 13) = 1 by decide), if_neg (show ¬ nI (opK 13) = 2 by decide), if_neg (show ¬ nI (opK 13) = 3 by decide), if_neg (show ¬ nI (opK 13) = 4 by decide), if_neg (by decide), if_pos rfl]
    refine Rd_rdN rfl hm (by decide) o25 (Rd_ite (fun z => Rd_rt z.symm) (fun z => Rd_rt (h01.resolve_left z).symm))
  · rw [if_neg (show ¬ nI (opK 14) = 0 by decide), if_pos (show nI (opK 14) = 1 from rfl), if_neg (by decide), if_neg (by decide), if_pos rfl]
    exact Rd_rdN rfl hk3 (by decide) h37 (Rd_rdN (ix16 hm hsd hf).1 (by omega) (by decide) (o24 (8 * sd + f) (by omega)) (Rd_rt rfl))
  · rw [if_neg (show ¬ nI (opK 15) = 0 by decide), if_neg (show ¬ nI (opK 15) = 1 by decide), if_pos (show nI (opK 15) = 2 from rfl), if_neg (by decide), if_neg (by decide), if_neg (by decide), if_pos rfl]
    exact Rd_rdN rfl hk3 (by decide) h37 (Rd_rdN (ix16 hm hsd hf).2 (by omega) (by decide) (o24 (8 * (1 - sd) + f) (by omega)) (Rd_rt rfl))
  · rw [if_neg (show ¬ nI (opK 16) = 0 by decide), if_neg (show ¬ nI (opK 16) = 1 by decide), if_neg (show ¬ nI (opK 16) = 2 by decide), if_pos (show nI (opK 16) = 3 from rfl), if_neg (by decide), if_neg (by decide), if_neg (by decide), if_neg (by decide), if_pos rfl]
    exact Rd_rdN rfl hm (by decide) o23 (Rd_rt rfl)
theorem opK_t : ∀ kd < 28, (kd = 3 ∨ kd = 9 ∨ kd = 10 ∨ kd = 11 ∨ kd = 12 ∨ kd = 13 ∨ kd = 14 ∨ kd = 15 ∨ kd = 16 ∨ 20 ≤ kd) → opK kd ≤ 16 ∧ (5 < opK kd ↔ (kd = 9 ∨ kd = 10 ∨ kd = 11 ∨ 20 ≤ kd)) ∧ (opK kd = 6 ↔ kd = 11) := by decide +kernel
theorem OnM.s38 {B : Nat → Int32} {w : GS} {m c i : Nat} (h : OnM B w m c i) (f : Nat → Int32) (mk : Nat → Bool) : OnM B (s38 w f mk) m c i := h
theorem r_holds_lp {L : MS} {B : Nat → Int32} {w : GS} {l m sd a b c i : Nat} {over : Int32} {T : Nat → List Bool} (hm : m < 4) (hsd : sd < 2) (hl : l < 20) (hO : OnM B w m c i) (hov : over = 0 ↔ ¬ (B (mc0 m + 3) = 1 ∨ B (mc0 m + 2) = 0)) (h34 : Am w 34 (l + 1) (nI b)) (hb3 : b ≤ 300) (h01 : B (mc0 m + 3) = 0 ∨ B (mc0 m + 3) = 1) (hT : ∀ k, a ≤ k → k < b → (T k).length ≤ 63 ∧ ∃ kd f, Am w 36 k (nI (opK kd)) ∧ Am w 37 k (nI f) ∧ L.2 0 k = nI (kd * 10000 + f) ∧ f < 10000 ∧ CdT (T k) (T (k + 1)) kd f) (K : Int32 → Int32 → Int32 → Int32 → Int32 → Int32 → PG Int32) (Q : Int32 → GS → Prop) (Sf : List Int32) (hK : ∀ f mk, (∀ j, j < Sf.length → mk j = true) → RpS f Sf → Ok (K (nI l) (nI m) (nI sd) over (nI Sf.length) (nI b)) (s38 w f mk) Q) : ∀ (t k n : Nat) (f : Nat → Int32) (mk : Nat → Bool) (S : List Int32), k + t = b → t < n → a ≤ k → (∀ j, j < S.length → mk j = true) → RpS f S → TyS S (T k) → evS L (valT B m sd) t k S = Sf → Ok (lp_holds_11 n (nI l) (nI m) (nI sd) over (nI S.length) (nI k) K) (s38 w f mk) Q := by
  intro t
  induction t with
  | zero =>
    intro k n f mk S hk hn hak hmk hrp hty hev
    cases n with
    | zero => omega
    | succ n =>
      have hkb : k = b := by omega
      subst hkb
      have he : S = Sf := hev
      subst he
      unfold lp_holds_11
      rw [nI_1]
      exact Ok_rdN rfl (by omega) (by decide) h34 (Ok_ite (fun _ => hK f mk hmk hrp) (fun h => absurd (Int32.le_refl _) h))
  | succ t ih =>
    intro k n f mk S hk hn hak hmk hrp hty hev
    cases n with
    | zero => omega
    | succ n =>
      obtain ⟨hlen, kd, f9, h36, h37, hcode, hf, hcd⟩ := hT k hak (by omega)
      obtain ⟨hkd, hkl⟩ := hcd.kd
      have hSl := hty.len
      have hty2 := stepS_ty (vl := valT B m sd) (fun z => valT01 h01 z) hty hcd
      rw [evS_succ, cdA_e hcode hf hkd] at hev
      have hup : ∀ (R : List Int32) (r : Int32), (∀ j, j < R.length → mk j = true) → RpS f R → TyS (r :: R) (T (k + 1)) → evS L (valT B m sd) t (k + 1) (r :: R) = Sf → Ok (pli (nI k + 1) (fun x => lp_holds_11 n (nI l) (nI m) (nI sd) over (nI (R.length + 1)) x K)) (s38 w (upd f R.length r) (fun i => if i = R.length then true else mk i)) Q := fun R r g1 g2 g3 g4 => by
        refine Ok_li ?_
        rw [nI_1]
        refine ih (k + 1) n _ _ (r :: R) (by omega) (by omega) (by omega) (fun j hj => ?_) g2.push g3 g4
        show (if j = R.length then true else mk j) = true
        by_cases hz : j = R.length
        · rw [if_pos hz]
        · rw [if_neg hz]
          have hj2 : j < R.length + 1 := hj
          exact g1 j (by omega)
      unfold lp_holds_11
      rw [nI_1]
      refine Ok_rdN rfl (by omega) (by decide) h34 (Ok_ite (fun h => absurd h (nI_ge (by omega) (by omega))) (fun _ => ?_))
      obtain ⟨o16, o5, o6⟩ := opK_t kd (by omega) hkl
      have hop : 5 < nI (opK kd) ↔ 5 < opK kd := nI_ltI (a := 5) (b := opK kd) (by decide) (by omega)
      refine Ok_rdN rfl (by omega) (by decide) h36 (Ok_ite (fun h5 => ?_) (fun h5 => ?_))
      · have h5 := hop.mp h5
        refine Ok_rdN rfl (by omega) (by decide) h36 (Ok_ite (fun h6 => ?_) (fun h6 => ?_))
        · have hk1 : kd = 11 := o6.mp ((nI_eq (a := opK kd) (b := 6) (by omega) (by decide)).mp h6)
          have hT1 : ∃ R, T k = true :: R := by
            rcases hcd with ⟨-, y⟩ | ⟨-, y⟩ | ⟨-, -, R, y⟩ | ⟨y, -⟩ | ⟨y, -⟩ | ⟨y, -⟩
            · omega
            · omega
            · exact ⟨R, y⟩
            · omega
            · omega
            · omega
          obtain ⟨R, e⟩ := hT1
          have hty' := hty
          rw [e] at hty'
          obtain ⟨x, R2, rfl, hx, -⟩ := hty'.one
          have hl3 : R2.length + 1 ≤ 63 := by
            have : (x :: R2).length = R2.length + 1 := rfl
            omega
          have est : stepS (valT B m sd) kd f9 (x :: R2) = (1 - x) :: R2 := by
            unfold stepS
            rw [if_pos hk1]
          rw [est] at hev hty2
          have e1 : nI (x :: R2).length - 1 = nI R2.length := by
            have : (x :: R2).length = R2.length + 1 := rfl
            rw [this]
            exact nI_sub (b := 1) (by omega)
          rw [e1]
          have hmj := hmk R2.length (by show R2.length < R2.length + 1; omega)
          refine Ok_rdN (x := f R2.length) rfl (by omega) (by decide) ⟨hmj, rfl⟩ ?_
          rw [hrp.1]
          refine Ok_ite (fun hz => ?_) (fun hz => ?_)
          · refine Ok_wdN rfl (by omega) (by decide) ?_
            rw [s38_sw _ _ _ _ _ (by omega)]
            have h9 := hup R2 1 (fun j hj => hmk j (by show j < R2.length + 1; omega)) hrp.2 (by rw [hz] at hty2; exact hty2) (by rw [hz] at hev; exact hev)
            exact h9
          · refine Ok_wdN rfl (by omega) (by decide) ?_
            rw [s38_sw _ _ _ _ _ (by omega)]
            have hx1 := (hx rfl).resolve_left hz
            have h9 := hup R2 0 (fun j hj => hmk j (by show j < R2.length + 1; omega)) hrp.2 (by rw [hx1] at hty2; exact hty2) (by rw [hx1] at hev; exact hev)
            exact h9
        · have n11 : ¬ kd = 11 := fun y => h6 (by rw [y]; rfl)
          have hk3 : kd = 9 ∨ kd = 10 ∨ (20 ≤ kd ∧ kd ≤ 27) := by
            have := o5.mp h5
            omega
          have hT2 : ∃ p1 p2 R, T k = p1 :: p2 :: R ∧ ((kd = 9 ∨ kd = 10) → p1 = true ∧ p2 = true) := by
            rcases hcd with ⟨-, y⟩ | ⟨-, y⟩ | ⟨y, -⟩ | ⟨y2, R, y, -⟩ | ⟨y2, -, R, y, -⟩ | ⟨-, R, y, -⟩
            · omega
            · omega
            · omega
            · exact ⟨_, _, R, y, fun z => by omega⟩
            · exact ⟨_, _, R, y, fun z => by omega⟩
            · exact ⟨_, _, R, y, fun _ => ⟨rfl, rfl⟩⟩
          obtain ⟨p1, p2, R, e, hp⟩ := hT2
          have hty' := hty
          rw [e] at hty'
          obtain ⟨y, R2, rfl, hy, hR⟩ := hty'.one
          obtain ⟨x, R3, rfl, hx, -⟩ := hR.one
          have hl2 : (y :: x :: R3).length = R3.length + 2 := rfl
          have est : stepS (valT B m sd) kd f9 (y :: x :: R3) = cj kd x y :: R3 := by
            unfold stepS
            rw [if_neg n11, if_pos (by omega)]
          rw [est] at hev hty2
          have e1 : nI (y :: x :: R3).length + -1 = nI (R3.length + 1) := by
            rw [hl2, ← Int32.sub_eq_add_neg]
            exact nI_sub (a := R3.length + 2) (b := 1) (by omega)
          have e2 : nI (R3.length + 1) - 1 = nI R3.length := nI_sub (a := R3.length + 1) (b := 1) (by omega)
          refine Ok_li ?_
          rw [e1, e2]
          refine Ok_rdN rfl (by omega) (by decide) h36 ?_
          refine Ok_rdN (x := f R3.length) rfl (by omega) (by decide) ⟨hmk R3.length (by omega), rfl⟩ ?_
          refine Ok_rdN (x := f (R3.length + 1)) rfl (by omega) (by decide) ⟨hmk (R3.length + 1) (by omega), rfl⟩ ?_
          have v1 : f (R3.length + 1) = y := hrp.1
          have v2 : f R3.length = x := hrp.2.1
          rw [v1, v2]
          refine Ok_clR (e_joined _ hk3 (fun z => ⟨hx (hp z).2, hy (hp z).1⟩)) (fun r hr => ?_)
          subst hr
          refine Ok_wdN rfl (by omega) (by decide) ?_
          rw [s38_sw _ _ _ _ _ (by omega)]
          exact hup R3 _ (fun j hj => hmk j (by omega)) hrp.2.2 hty2 hev
      · have h5 : ¬ 5 < opK kd := fun z => h5 (hop.mpr z)
        have hkv : kd = 3 ∨ kd = 12 ∨ kd = 13 ∨ ((kd = 14 ∨ kd = 15) ∧ f9 < 8) ∨ kd = 16 := by
          have h6 : ¬ (kd = 9 ∨ kd = 10 ∨ kd = 11 ∨ 20 ≤ kd) := fun z => h5 (o5.mpr z)
          rcases hcd with ⟨-, y⟩ | ⟨-, y⟩ | ⟨y, -⟩ | ⟨y, -⟩ | ⟨y, -⟩ | ⟨y, -⟩ <;> omega
        have est : stepS (valT B m sd) kd f9 S = valT B m sd kd f9 :: S := by
          unfold stepS
          rw [if_neg (by omega), if_neg (by omega)]
        rw [est] at hev hty2
        refine Ok_clR (r_termOf (w := s38 w f mk) hm hsd (hO.s38 f mk) h01 hov (by omega) h36 h37 hkv) (fun r hr => ?_)
        subst hr
        refine Ok_wdN rfl (by omega) (by decide) ?_
        rw [s38_sw _ _ _ _ _ (by omega)]
        refine Ok_li ?_
        rw [nI_1 S.length]
        exact hup S _ hmk hrp hty2 hev

