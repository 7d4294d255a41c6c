/-! ===== a line's code at work, purely ===== -/
def valT (B : Nat → Int32) (m sd kd f : Nat) : Int32 := if kd = 12 then (if B (mc0 m + 3) = 1 then 1 else if B (mc0 m + 2) = 0 then 1 else 0) else if kd = 13 then B (mc0 m + 3) else if kd = 14 then B (mc0 m + 5 + (8 * sd + f)) else if kd = 15 then B (mc0 m + 5 + (8 * (1 - sd) + f)) else if kd = 16 then B (mc0 m + 2) else nI f
def cj (kd : Nat) (a b : Int32) : Int32 := if kd = 9 then a ||| b else if kd = 10 then a &&& b else if kd = 20 then a + b else if kd = 21 then a - b else if kd = 22 then (if b ≤ a then 0 else 1) else if kd = 23 then (if b < a then 0 else 1) else if kd = 24 then (if a ≤ b then 0 else 1) else if kd = 25 then (if a < b then 0 else 1) else if kd = 26 then (if a = b then 1 else 0) else (if a = b then 0 else 1)
def stepS (vl : Nat → Nat → Int32) (kd f : Nat) (S : List Int32) : List Int32 := if kd = 11 then (match S with
  | x :: R => (1 - x) :: R
  | [] => []) else if kd = 10 ∨ kd = 9 ∨ 20 ≤ kd then (match S with
  | y :: x :: R => cj kd x y :: R
  | _ => []) else vl kd f :: S
def TyS : List Int32 → List Bool → Prop
  | [], [] => True
  | x :: S, t :: T => (t = true → x = 0 ∨ x = 1) ∧ TyS S T
  | _, _ => False
theorem TyS.len : ∀ {S : List Int32} {T : List Bool}, TyS S T → S.length = T.length := by
  intro S
  induction S with
  | nil =>
    intro T h
    cases T with
    | nil => rfl
    | cons t T => exact h.elim
  | cons x S ih =>
    intro T h
    cases T with
    | nil => exact h.elim
    | cons t T => exact congrArg (· + 1) (ih h.2)
theorem TyS.one {S : List Int32} {t : Bool} {T : List Bool} (h : TyS S (t :: T)) : ∃ x R, S = x :: R ∧ (t = true → x = 0 ∨ x = 1) ∧ TyS R T := by
  cases S with
  | nil => exact h.elim
  | cons x R => exact ⟨x, R, rfl, h.1, h.2⟩
theorem and01 {a b : Int32} (ha : a = 0 ∨ a = 1) (hb : b = 0 ∨ b = 1) : (a &&& b = 0 ∨ a &&& b = 1) ∧ (a ||| b = 0 ∨ a ||| b = 1) := by
  rcases ha with rfl | rfl <;> rcases hb with rfl | rfl <;> decide
theorem ite01 (b : Prop) [Decidable b] (x y : Int32) (hx : x = 0 ∨ x = 1) (hy : y = 0 ∨ y = 1) : (if b then x else y) = 0 ∨ (if b then x else y) = 1 := by
  by_cases h : b
  · rw [if_pos h]; exact hx
  · rw [if_neg h]; exact hy
theorem cj01 {kd : Nat} (h1 : 22 ≤ kd) (h2 : kd ≤ 27) (a b : Int32) : cj kd a b = 0 ∨ cj kd a b = 1 := by
  have o : (0 : Int32) = 0 ∨ (0 : Int32) = 1 := Or.inl rfl
  have l : (1 : Int32) = 0 ∨ (1 : Int32) = 1 := Or.inr rfl
  unfold cj
  rw [if_neg (by omega), if_neg (by omega), if_neg (by omega), if_neg (by omega)]
  exact ite01 _ _ _ (ite01 _ _ _ o l) (ite01 _ _ _ (ite01 _ _ _ o l) (ite01 _ _ _ (ite01 _ _ _ o l) (ite01 _ _ _ (ite01 _ _ _ o l) (ite01 _ _ _ (ite01 _ _ _ l o) (ite01 _ _ _ o l)))))
theorem stepS_ty {vl : Nat → Nat → Int32} {kd f : Nat} {S : List Int32} {T U : List Bool} (hv : (kd = 12 ∨ kd = 13) → vl kd f = 0 ∨ vl kd f = 1) (h : TyS S T) (hc : CdT T U kd f) : TyS (stepS vl kd f S) U := by
  unfold stepS
  rcases hc with ⟨rfl, hk⟩ | ⟨rfl, hk⟩ | ⟨rfl, rfl, R, rfl⟩ | ⟨hk, R, rfl, rfl⟩ | ⟨h1, h2, R, rfl, rfl⟩ | ⟨hk, R, rfl, rfl⟩
  · rw [if_neg (by omega), if_neg (by omega)]
    exact ⟨fun z => absurd z (by decide), h⟩
  · rw [if_neg (by omega), if_neg (by omega)]
    exact ⟨fun _ => hv hk, h⟩
  · obtain ⟨x, R2, rfl, hx, hR⟩ := h.one
    rw [if_pos rfl]
    refine ⟨fun z => ?_, hR⟩
    rcases hx rfl with rfl | rfl <;> decide
  · obtain ⟨y, R2, rfl, hy, hR⟩ := h.one
    obtain ⟨x, R3, rfl, hx, hR3⟩ := hR.one
    rw [if_neg (by omega), if_pos (by omega)]
    exact ⟨fun z => absurd z (by decide), hR3⟩
  · obtain ⟨y, R2, rfl, hy, hR⟩ := h.one
    obtain ⟨x, R3, rfl, hx, hR3⟩ := hR.one
    rw [if_neg (by omega), if_pos (by omega)]
    exact ⟨fun _ => cj01 h1 h2 _ _, hR3⟩
  · obtain ⟨y, R2, rfl, hy, hR⟩ := h.one
    obtain ⟨x, R3, rfl, hx, hR3⟩ := hR.one
    rw [if_neg (by omega), if_pos (by omega)]
    refine ⟨fun _ => ?_, hR3⟩
    obtain ⟨z1, z2⟩ := and01 (hx rfl) (hy rfl)
    unfold cj
    rcases hk with rfl | rfl
    · rw [if_pos rfl]; exact z2
    · rw [if_neg (by decide), if_pos rfl]; exact z1
def cdA (L : MS) (k : Nat) : Nat × Nat := ((L.2 0 k).toNatClampNeg / 10000, (L.2 0 k).toNatClampNeg % 10000)
def evS (L : MS) (vl : Nat → Nat → Int32) : Nat → Nat → List Int32 → List Int32
  | 0, _, S => S
  | t + 1, k, S => evS L vl t (k + 1) (stepS vl (cdA L k).1 (cdA L k).2 S)
theorem evS_succ (L : MS) (vl : Nat → Nat → Int32) (t k : Nat) (S : List Int32) : evS L vl (t + 1) k S = evS L vl t (k + 1) (stepS vl (cdA L k).1 (cdA L k).2 S) := rfl
/-- the line from a to b holds -/
def hdS (S : List Int32) : Int32 := S.headD 0
theorem cdA_e {L : MS} {k kd f : Nat} (h : L.2 0 k = nI (kd * 10000 + f)) (hf : f < 10000) (hk : kd ≤ 27) : cdA L k = (kd, f) := by
  unfold cdA
  rw [h, nI_clamp (by omega)]
  have e1 : (kd * 10000 + f) / 10000 = kd := by omega
  have e2 : (kd * 10000 + f) % 10000 = f := by omega
  rw [e1, e2]
theorem CdT.kd {T U : List Bool} {kd f : Nat} (h : CdT T U kd f) : kd ≤ 27 ∧ (kd = 3 ∨ kd = 9 ∨ kd = 10 ∨ kd = 11 ∨ kd = 12 ∨ kd = 13 ∨ kd = 14 ∨ kd = 15 ∨ kd = 16 ∨ 20 ≤ kd) := by
  rcases h with ⟨-, hk⟩ | ⟨-, hk⟩ | ⟨hk, -⟩ | ⟨hk, -⟩ | ⟨h1, h2, -⟩ | ⟨hk, -⟩ <;> omega
theorem nI_div4 {x : Nat} (hx : x < 2 ^ 31) : nI x / 10000 = nI (x / 10000) := by
  refine Int32.toInt_inj.mp ?_
  rw [Int32.toInt_div, nI_toInt hx, nI_toInt (by omega)]
  have e : (10000 : Int32).toInt = 10000 := by decide
  rw [e, Int.tdiv_eq_ediv_of_nonneg (by omega), Int.bmod_eq_of_le (by omega) (by omega)]
  omega
/-- a stack in an array -/
def RpS (f : Nat → Int32) : List Int32 → Prop
  | [] => True
  | x :: R => f R.length = x ∧ RpS f R
theorem RpS.up {f : Nat → Int32} {j : Nat} {x : Int32} : ∀ {S : List Int32}, S.length ≤ j → RpS f S → RpS (upd f j x) S := by
  intro S
  induction S with
  | nil => exact fun _ _ => trivial
  | cons y R ih =>
    intro hj h
    have hj2 : R.length + 1 ≤ j := hj
    exact ⟨(upd_n (by omega)).trans h.1, ih (by omega) h.2⟩
theorem RpS.push {f : Nat → Int32} {x : Int32} {S : List Int32} (h : RpS f S) : RpS (upd f S.length x) (x :: S) := ⟨upd_e, h.up (Nat.le_refl _)⟩
/-! the class -/
def Stk (u : MS) (S : List Int32) : Prop := u.1 16 = nI S.length ∧ RpS (u.2 18) S
theorem CN_push {β : Type} {u : MS} {S : List Int32} {x : Int32} {q : Int32 → NG β} {Q : β → MS → Prop} (h : Stk u S) (hl : S.length < 64) (hq : ∀ v, Same [16] [18] u v → Stk v (x :: S) → CN (q 0) v Q) : CN (ncl (x_X3_push x) q) u Q := by
  have e : x_X3_push x u = some (0, si (sf u 18 (rs (u.2 18) 64 (u.1 16) x)) 16 (u.1 16 + 1)) := rfl
  refine CN_cl (fun r v e2 => ?_)
  rw [e] at e2
  cases e2
  refine hq _ ((Same_sf (by decide)).trans (Same_si (by decide))) ⟨?_, ?_⟩
  · show u.1 16 + 1 = nI (S.length + 1)
    rw [h.1, nI_1]
  · show RpS (rs (u.2 18) 64 (u.1 16) x) (x :: S)
    rw [h.1, wrN x hl (by decide)]
    exact h.2.push
theorem CN_pop {β : Type} {u : MS} {x : Int32} {S : List Int32} {q : Int32 → NG β} {Q : β → MS → Prop} (h : Stk u (x :: S)) (hl : S.length < 64) (hq : ∀ v, Same [16] [18] u v → Stk v S → CN (q x) v Q) : CN (ncl x_X3_pop q) u Q := by
  have hl2 : (x :: S).length = S.length + 1 := rfl
  have e0 : u.1 16 - 1 = nI S.length := by
    rw [h.1, hl2]
    exact nI_sub (b := 1) (by omega)
  have e : x_X3_pop u = some (rg (u.2 18) 64 (if u.1 16 - 1 < 0 then 0 else u.1 16 - 1), si u 16 (if u.1 16 - 1 < 0 then 0 else u.1 16 - 1)) := rfl
  refine CN_cl (fun r v e2 => ?_)
  rw [e, e0, if_neg (nI_nn (by omega)), rg_in (by omega) (by decide), h.2.1] at e2
  cases e2
  exact hq _ (Same_si (by decide)) ⟨rfl, h.2.2⟩
theorem e_work {kd : Nat} (hk : kd = 9 ∨ kd = 10 ∨ (20 ≤ kd ∧ kd ≤ 27)) (a b : Int32) : x_X3_workOn (nI kd) a b = nrt (cj kd a b) := by
  have sp : ∀ (p : Prop) [Decidable p] (x y : Int32), (if p then nrt x else nrt y) = nrt (if p then x else y) := fun p _ x y => by
    by_cases hp : p
    · rw [if_pos hp, if_pos hp]
    · rw [if_neg hp, if_neg hp]
  have hk2 : kd = 9 ∨ kd = 10 ∨ kd = 20 ∨ kd = 21 ∨ kd = 22 ∨ kd = 23 ∨ kd = 24 ∨ kd = 25 ∨ kd = 26 ∨ kd = 27 := by omega
  unfold x_X3_workOn cj
  rcases hk2 with rfl | rfl | rfl | rfl | rfl | rfl | rfl | rfl | rfl | rfl
  · rfl
  · rfl
  · rfl
  · rfl
  · exact sp _ _ _
  · exact sp _ _ _
  · exact sp _ _ _
  · exact sp _ _ _
  · exact sp _ _ _
  · exact sp _ _ _
theorem e_valueOf {u : MS} {m sd kd f : Nat} (hm : m < 4) (hsd : sd < 2) (hk : kd = 3 ∨ kd = 12 ∨ kd = 13 ∨ ((kd = 14 ∨ kd = 15) ∧ f < 8) ∨ kd = 16) : x_X3_valueOf (nI kd) (nI f) (nI m) (nI sd) u = some (valT (u.2 0) m sd kd f, u) := by
  have r2 : x_X3_on (nI m) 2 u = some (u.2 0 (mc0 m + 2), u) := e_on hm (k := 2) (by decide) rfl
  have r3 : x_X3_on (nI m) 3 u = some (u.2 0 (mc0 m + 3), u) := e_on hm (k := 3) (by decide) rfl
  have sg : ∀ sd, sd < 2 → f < 8 → x_X3_signsOf (nI m) (nI sd) (nI f) u = some (u.2 0 (mc0 m + 5 + (8 * sd + f)), u) := fun sd hsd hf => by
    have ez : ((5 : Int32) + nI sd * 8) + nI f = nI (5 + (8 * sd + f)) := by
      have hh : ∀ sd < 2, ∀ s < 8, ((5 : Int32) + nI sd * 8) + nI s = nI (5 + (8 * sd + s)) := by decide +kernel
      exact hh sd hsd f hf
    unfold x_X3_signsOf
    refine ncl_eq (e_on hm (k := 5 + (8 * sd + f)) (by omega) ez) ?_
    rw [← Nat.add_assoc]
    rfl
  unfold x_X3_valueOf valT
  rcases hk with rfl | rfl | rfl | ⟨rfl | rfl, hf⟩ | rfl
  · rfl
  · rw [if_pos (show nI 12 = 12 from rfl), if_pos rfl]
    refine ncl_eq r3 ?_
    by_cases h3 : u.2 0 (mc0 m + 3) = 1
    · rw [if_pos h3, if_pos h3]; rfl
    · rw [if_neg h3, if_neg h3]
      refine ncl_eq r2 ?_
      by_cases h2 : u.2 0 (mc0 m + 2) = 0
      · rw [if_pos h2, if_pos h2]; rfl
      · rw [if_neg h2, if_neg h2]; rfl
  · rw [if_neg (show ¬ nI 13 = 12 by decide), if_pos (show nI 13 = 13 from rfl), if_neg (by decide), if_pos rfl]
    exact ncl_eq r3 rfl
  · rw [if_neg (show ¬ nI 14 = 12 by decide), if_neg (show ¬ nI 14 = 13 by decide), if_pos (show nI 14 = 14 from rfl), if_neg (by decide), if_neg (by decide), if_pos rfl]
    exact ncl_eq (sg sd hsd hf) rfl
  · have e1 : (1 : Int32) - nI sd = nI (1 - sd) := nI_sub (a := 1) (by omega)
    rw [if_neg (show ¬ nI 15 = 12 by decide), if_neg (show ¬ nI 15 = 13 by decide), if_neg (show ¬ nI 15 = 14 by decide), if_pos (show nI 15 = 15 from rfl), if_neg (by decide), if_neg (by decide), if_neg (by decide), if_pos rfl, e1]
    exact ncl_eq (sg (1 - sd) (by omega) hf) rfl
  · rw [if_neg (show ¬ nI 16 = 12 by decide), if_neg (show ¬ nI 16 = 13 by decide), if_neg (show ¬ nI 16 = 14 by decide), if_neg (show ¬ nI 16 = 15 by decide), if_pos (show nI 16 = 16 from rfl), if_neg (by decide), if_neg (by decide), if_neg (by decide), if_neg (by decide), if_pos rfl]
    exact ncl_eq r2 rfl
theorem valT01 {B : Nat → Int32} {m sd kd f : Nat} (h : B (mc0 m + 3) = 0 ∨ B (mc0 m + 3) = 1) (hk : kd = 12 ∨ kd = 13) : valT B m sd kd f = 0 ∨ valT B m sd kd f = 1 := by
  unfold valT
  rcases hk with rfl | rfl
  · rw [if_pos rfl]
    exact ite01 _ _ _ (Or.inr rfl) (ite01 _ _ _ (Or.inr rfl) (Or.inl rfl))
  · rw [if_neg (by decide), if_pos rfl]
    exact h
theorem c_holds_lp {L u0 : MS} {B : Nat → Int32} {l m sd a b : Nat} {w : GS} {T : Nat → List Bool} (hB : u0.2 0 = B) (hm : m < 4) (hsd : sd < 2) (hl : l < 20) (hb : L.2 1 l = nI b) (hb3 : b ≤ 300) (h01 : B (mc0 m + 3) = 0 ∨ B (mc0 m + 3) = 1) (hT : ∀ k, a ≤ k → k < b → (T k).length ≤ 63 ∧ ∃ kd f, Am w 36 k (nI (opK kd)) ∧ Am w 37 k (nI f) ∧ L.2 0 k = nI (kd * 10000 + f) ∧ f < 10000 ∧ CdT (T k) (T (k + 1)) kd f) (K : Int32 → Int32 → Int32 → Int32 → NG Int32) (Q : Int32 → MS → Prop) (Sf : List Int32) (hKS : ∀ v, Same [16] [18] u0 v → Stk v Sf → CN (K (nI l) (nI m) (nI sd) (nI b)) v Q) : ∀ (t k n : Nat) (v : MS) (S : List Int32), k + t = b → a ≤ k → Same [16] [18] u0 v → Stk v S → TyS S (T k) → evS L (valT B m sd) t k S = Sf → CN (xl_X3_holds_12 L n (nI l) (nI m) (nI sd) (nI k) K) v Q := by
  intro t
  induction t with
  | zero =>
    intro k n v S hk hak hs hst hty hev
    cases n with
    | zero => exact fun r w e => by cases e
    | succ n =>
      have : k = b := by omega
      subst this
      unfold xl_X3_holds_12
      rw [rg_in hl (by decide), hb, if_pos (Int32.le_refl _)]
      have he : S = Sf := hev
      rw [← he] at hKS
      exact hKS v hs hst
  | succ t ih =>
    intro k n v S hk hak hs hst hty hev
    cases n with
    | zero => exact fun r w e => by cases e
    | succ n =>
      obtain ⟨hlen, kd, f, -, -, hcode, hf, hcd⟩ := hT k hak (by omega)
      obtain ⟨hkd, hkl⟩ := hcd.kd
      have hSl := hty.len
      have hty2 := stepS_ty (vl := valT B m sd) (fun z => valT01 h01 z) hty hcd
      rw [evS_succ, cdA_e hcode hf hkd] at hev
      have go : ∀ v2, Same [16] [18] u0 v2 → Stk v2 (stepS (valT B m sd) kd f S) → CN (nli (nI k + 1) (fun x => xl_X3_holds_12 L n (nI l) (nI m) (nI sd) x K)) v2 Q := fun v2 h1 h2 => by
        rw [nI_1]
        exact ih (k + 1) n v2 _ (by omega) (by omega) h1 h2 hty2 hev
      have ek : x_X4_kindAt L (nI k) = nrt (nI kd) := by
        unfold x_X4_kindAt
        rw [rg_in (by omega) (by decide), hcode, nI_div4 (by omega)]
        have : (kd * 10000 + f) / 10000 = kd := by omega
        rw [this]
      have ev : x_X4_valueAt L (nI k) = nrt (nI f) := by
        unfold x_X4_valueAt
        rw [rg_in (by omega) (by decide), hcode, nI_div4 (by omega)]
        have e1 : (kd * 10000 + f) / 10000 = kd := by omega
        have e2 : nI kd * 10000 = nI (kd * 10000) := nI_mul kd 10000
        rw [e1, e2, nI_sub (by omega)]
        congr 2
        omega
      have two : (kd = 9 ∨ kd = 10 ∨ (20 ≤ kd ∧ kd ≤ 27)) → CN (ncl x_X3_pop (fun r_14 => ncl x_X3_pop (fun r_17 => ncl (x_X3_workOn (nI kd) r_17 r_14) (fun r_20 => ncl (x_X3_push r_20) (fun r_23 => nli (nI k + 1) (fun x_26 => xl_X3_holds_12 L n (nI l) (nI m) (nI sd) x_26 K)))))) v Q := fun hk3 => by
        have hS2 : ∃ y x R, S = y :: x :: R := by
          have hT2 : ∃ p1 p2 R, T k = p1 :: p2 :: R := by
            rcases hcd with ⟨-, y⟩ | ⟨-, y⟩ | ⟨y, -⟩ | ⟨-, R, y, -⟩ | ⟨-, -, R, y, -⟩ | ⟨-, R, y, -⟩
            · omega
            · omega
            · omega
            · exact ⟨_, _, R, y⟩
            · exact ⟨_, _, R, y⟩
            · exact ⟨_, _, R, y⟩
          obtain ⟨p1, p2, R, e⟩ := hT2
          rw [e] at hty
          obtain ⟨y, R2, rfl, -, hR⟩ := hty.one
          obtain ⟨x, R3, rfl, -, -⟩ := hR.one
          exact ⟨y, x, R3, rfl⟩
        obtain ⟨y, x, R, rfl⟩ := hS2
        have hl3 : R.length + 2 ≤ 63 := by
          have : (y :: x :: R).length = R.length + 2 := rfl
          omega
        refine CN_pop hst (by show R.length + 1 < 64; omega) (fun v1 s1 t1 => CN_pop t1 (by omega) (fun v2 s2 t2 => ?_))
        rw [e_work hk3, ncl_rt]
        refine CN_push t2 (by omega) (fun v3 s3 t3 => go v3 (((hs.trans s1).trans s2).trans s3) ?_)
        unfold stepS
        rw [if_neg (by omega), if_pos (by omega)]
        exact t3
      unfold xl_X3_holds_12
      rw [rg_in hl (by decide), hb, if_neg (fun z => absurd ((nI_leI (by omega) (by omega)).mp z) (by omega)), ek, ncl_rt]
      have h9 : ∀ j, j ≤ 27 → (nI kd = nI j ↔ kd = j) := fun j hj => nI_eq (by omega) (by omega)
      have hlt20 : nI kd < 20 ↔ kd < 20 := nI_ltI (a := kd) (b := 20) (by omega) (by decide)
      refine CN_ite (fun z => ?_) (fun z => CN_ite (fun z2 => ?_) (fun z2 => CN_ite (fun z3 => ?_) (fun z3 => CN_ite (fun z4 => ?_) (fun z4 => ?_))))
      · have hk1 : kd = 11 := (h9 11 (by decide)).mp z
        have hT1 : ∃ p1 R, T k = p1 :: R := by
          rcases hcd with ⟨-, y⟩ | ⟨-, y⟩ | ⟨-, -, R, y⟩ | ⟨y, -⟩ | ⟨y, -⟩ | ⟨y, -⟩
          · omega
          · omega
          · exact ⟨_, R, y⟩
          · omega
          · omega
          · omega
        obtain ⟨p1, R, e⟩ := hT1
        rw [e] at hty
        obtain ⟨x, R2, rfl, -, -⟩ := hty.one
        have hl3 : R2.length + 1 ≤ 63 := by
          have : (x :: R2).length = R2.length + 1 := rfl
          omega
        refine CN_pop hst (by omega) (fun v1 s1 t1 => CN_push t1 (by omega) (fun v3 s3 t3 => go v3 ((hs.trans s1).trans s3) ?_))
        unfold stepS
        rw [if_pos hk1]
        exact t3
      · exact two (Or.inr (Or.inl ((h9 10 (by decide)).mp z2)))
      · exact two (Or.inl ((h9 9 (by decide)).mp z3))
      · have hk4 := hlt20.mp z4
        have n9 : ¬ kd = 9 := fun y => z3 (by rw [y]; rfl)
        have n10 : ¬ kd = 10 := fun y => z2 (by rw [y]; rfl)
        have n11 : ¬ kd = 11 := fun y => z (by rw [y]; rfl)
        have hkv : kd = 3 ∨ kd = 12 ∨ kd = 13 ∨ ((kd = 14 ∨ kd = 15) ∧ f < 8) ∨ kd = 16 := by
          rcases hcd with ⟨-, y⟩ | ⟨-, y⟩ | ⟨y, -⟩ | ⟨y, -⟩ | ⟨y, -⟩ | ⟨y, -⟩ <;> omega
        rw [ev, ncl_rt]
        have hBv : v.2 0 = B := (hs.2 0 (by decide)).trans hB
        have evv := e_valueOf (u := v) (f := f) hm hsd hkv
        rw [hBv] at evv
        refine CN_rd evv (CN_push hst (by omega) (fun v3 s3 t3 => go v3 (hs.trans s3) ?_))
        unfold stepS
        rw [if_neg n11, if_neg (by omega)]
        exact t3
      · have hk4 : ¬ kd < 20 := fun y => z4 (hlt20.mpr y)
        exact two (Or.inr (Or.inr ⟨by omega, hkd⟩))

