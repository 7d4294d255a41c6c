/-! ===== what the class holds back: nots, brackets, ands and ors ===== -/
theorem nI_pred1 {k : Nat} : nI (k + 1) - 1 = nI k := nI_sub (a := k + 1) (b := 1) (by omega)
theorem getD_c {x : Nat} {S : List Nat} {k : Nat} (h : 1 ≤ k) : (x :: S).getD k 0 = S.getD (k - 1) 0 := by
  obtain ⟨j, rfl⟩ : ∃ j, k = j + 1 := ⟨k - 1, by omega⟩
  rw [Nat.add_sub_cancel]
  exact List.getD_cons_succ
theorem StC.top {x : Nat} {S : List Nat} {u : MS} (h : StC (x :: S) u) : u.1 7 = nI (S.length + 1) ∧ u.2 7 S.length = nI x := by
  refine ⟨h.1, ?_⟩
  have := h.2 S.length (Nat.lt_succ_self _)
  rw [show (x :: S).length - 1 - S.length = 0 by rw [List.length_cons]; omega] at this
  exact this
theorem StC.pop {x : Nat} {S : List Nat} {u v : MS} (h : StC (x :: S) u) (h7 : v.1 7 = nI S.length) (ha : v.2 7 = u.2 7) : StC S v := by
  refine ⟨h7, fun i hi => ?_⟩
  rw [ha]
  have := h.2 i (by rw [List.length_cons]; omega)
  rw [List.length_cons, getD_c (by omega)] at this
  rw [this]
  congr 2
  omega
theorem StC.push {x : Nat} {S : List Nat} {u v : MS} (h : StC S u) (h7 : v.1 7 = nI (S.length + 1)) (ha : v.2 7 = upd (u.2 7) S.length (nI x)) : StC (x :: S) v := by
  refine ⟨h7, fun i hi => ?_⟩
  rw [List.length_cons] at hi ⊢
  rw [ha]
  by_cases e : i = S.length
  · subst e
    rw [upd_e, show S.length + 1 - 1 - S.length = 0 by omega]
    rfl
  · rw [upd_n e, h.2 i (by omega), getD_c (by omega)]
    congr 2
    omega
/-- the parser's book: lines of it that emit changes -/
theorem XC.em {u0 u : MS} {m p sg cm kd f : Nat} {cs : List (Nat × Nat)} {S : List Nat} (h : XC u0 m cs S p sg cm u) (hl : cs.length < 300) : XC u0 m (cs ++ [(kd, f)]) S p sg cm (em8 u cs.length kd f) := by
  have hc := h.2.2.2.1.snoc (kd := kd) (f := f) hl
  have hs := em8_same u cs.length kd f
  generalize em8 u cs.length kd f = v at hc hs
  obtain ⟨a1, a2, a3, ⟨a4, a5⟩, ⟨a6, a7⟩, a8, a9, a10, a11, a12⟩ := h
  have e : ∀ k, ¬ k ∈ [25] → v.1 k = u.1 k := hs.1
  exact ⟨a1.trans (hs.mono (by decide) (by decide)), (e 12 (by decide)).trans a2, (e 11 (by decide)).trans a3, hc, ⟨(e 7 (by decide)).trans a6, fun i hi => by rw [hs.2 7 (by decide)]; exact a7 i hi⟩, (e 24 (by decide)).trans a8, (e 8 (by decide)).trans a9, (e 9 (by decide)).trans a10, (e 14 (by decide)).trans a11, (e 15 (by decide)).trans a12⟩
/-- the stack alone changes -/
theorem XC.st {u0 u v : MS} {m p sg cm : Nat} {cs : List (Nat × Nat)} {S S2 : List Nat} (h : XC u0 m cs S p sg cm u) (hs : Same [7, 8, 9] [7] u v) (h1 : StC S2 v) (h2 : v.1 8 = nI (nOp S2)) (h3 : v.1 9 = nI (nBr S2)) : XC u0 m cs S2 p sg cm v := by
  obtain ⟨a1, a2, a3, ⟨a4, a5⟩, ⟨a6, a7⟩, a8, a9, a10, a11, a12⟩ := h
  have e : ∀ k, ¬ k ∈ [7, 8, 9] → v.1 k = u.1 k := hs.1
  exact ⟨a1.trans (hs.mono (by decide) (by decide)), (e 12 (by decide)).trans a2, (e 11 (by decide)).trans a3, ⟨(e 25 (by decide)).trans a4, fun i hi => by rw [hs.2 8 (by decide)]; exact a5 i hi⟩, h1, (e 24 (by decide)).trans a8, h2, h3, (e 14 (by decide)).trans a11, (e 15 (by decide)).trans a12⟩
theorem nOp_o {x : Nat} {S : List Nat} (h : ¬ x = 11 ∧ ¬ x = 17) : nOp (x :: S) = nOp S := by
  show (if x = 11 ∨ x = 17 then 1 else 0) + nOp S = nOp S
  rw [if_neg (by omega), Nat.zero_add]
theorem nOp_i {x : Nat} {S : List Nat} (h : x = 11 ∨ x = 17) : nOp (x :: S) = nOp S + 1 := by
  show (if x = 11 ∨ x = 17 then 1 else 0) + nOp S = nOp S + 1
  rw [if_pos h, Nat.add_comm]
theorem nBr_o {x : Nat} {S : List Nat} (h : ¬ x = 17) : nBr (x :: S) = nBr S := by
  show (if x = 17 then 1 else 0) + nBr S = nBr S
  rw [if_neg h, Nat.zero_add]
theorem nBr_i {S : List Nat} : nBr (17 :: S) = nBr S + 1 := by
  show (if 17 = 17 then 1 else 0) + nBr S = nBr S + 1
  rw [if_pos rfl, Nat.add_comm]
def Hd (S : List Nat) (P : Nat → Prop) : Prop := ∀ x R, S = x :: R → ¬ P x
def Lt100 (S : List Nat) : Prop := ∀ x ∈ S, x < 100
theorem c_closeNots {u0 : MS} {m p sg cm : Nat} {S : List Nat} (hH : Hd S (fun x => x = 11)) (hL : Lt100 S) : ∀ (n g : Nat) (cs : List (Nat × Nat)) (u : MS), XC u0 m cs (List.replicate n 11 ++ S) p sg cm u → cs.length + n ≤ 300 → (List.replicate n 11 ++ S).length ≤ 64 → CN (xl_X5_closeNots_0 g (nrt (0 : Int32))) u (fun _ v => XC u0 m (cs ++ List.replicate n (11, 0)) S p sg cm v ∧ Same [7, 8, 25] [8] u v) := by
  intro n
  induction n with
  | zero =>
    intro g cs u hX hl h64
    cases g with
    | zero => exact fun r w e => by cases e
    | succ g =>
      rw [show List.replicate 0 11 ++ S = S from rfl] at hX h64
      rw [show cs ++ List.replicate 0 (11, 0) = cs from List.append_nil cs]
      have hS := hX.2.2.2.2.1
      unfold xl_X5_closeNots_0
      cases S with
      | nil =>
        exact CN_RFx hS.1 (CN_ite (fun _ => CN_rt ⟨hX, Same.rf _⟩) (fun z => absurd (Int32.le_refl _) z))
      | cons x R =>
        obtain ⟨e7, et⟩ := hS.top
        have hR : R.length < 64 := h64
        have hx := hL x (List.mem_cons_self)
        refine CN_RFx e7 (CN_ite (fun _ => CN_rt ⟨hX, Same.rf _⟩) (fun _ => CN_RFx e7 ?_))
        rw [nI_pred1]
        refine CN_GT ?_
        rw [rg_in hR (by decide), et]
        exact CN_ite (fun z => absurd ((nI_eq (a := x) (b := 11) (by omega) (by decide)).mp z) (hH x R rfl)) (fun _ => CN_rt ⟨hX, Same.rf _⟩)
  | succ n ih =>
    intro g cs u hX hl h64
    cases g with
    | zero => exact fun r w e => by cases e
    | succ g =>
      have eS : List.replicate (n + 1) 11 ++ S = 11 :: (List.replicate n 11 ++ S) := rfl
      rw [eS] at hX h64
      generalize hR : List.replicate n 11 ++ S = R at hX h64
      have hS := hX.2.2.2.2.1
      obtain ⟨e7, et⟩ := hS.top
      have hR64 : R.length < 64 := h64
      have h8 := hX.2.2.2.2.2.2.1
      have h9 := hX.2.2.2.2.2.2.2.1
      rw [nOp_i (Or.inl rfl)] at h8
      rw [nBr_o (by decide)] at h9
      unfold xl_X5_closeNots_0
      refine CN_RFx e7 (CN_ite (fun z => absurd ((nI_leI (a := R.length + 1) (b := 0) (by omega) (by decide)).mp z) (by omega)) (fun _ => CN_RFx e7 ?_))
      rw [nI_pred1]
      refine CN_GT ?_
      rw [rg_in hR64 (by decide), et]
      refine CN_ite (fun _ => ?_) (fun z => absurd rfl z)
      refine CN_RFx e7 ?_
      rw [nI_pred1]
      refine CN_WFx (CN_RFx ((siO (by decide)).trans h8) ?_)
      rw [nI_pred1]
      refine CN_WFx ?_
      have hs1 : Same [7, 8, 9] [7] u (si (si u 7 (nI R.length)) 8 (nI (nOp R))) := (Same_si (by decide)).trans (Same_si (by decide))
      have hs2 : Same [7, 8, 25] [8] u (si (si u 7 (nI R.length)) 8 (nI (nOp R))) := (Same_si (by decide)).trans (Same_si (by decide))
      have hX1 := hX.st hs1 (hS.pop ((siO (by decide)).trans (siE _ _ _)) rfl) (siE _ _ _) ((siO (by decide)).trans ((siO (by decide)).trans h9))
      generalize si (si u 7 (nI R.length)) 8 (nI (nOp R)) = u1 at hX1 hs2
      refine CN_app (c_emit hX1.2.2.2.1.1 (by omega) (show (11 : Int32) = nI 11 from rfl) (show (0 : Int32) = nI 0 from rfl)) (fun _ v y => ?_)
      subst y
      have hX2 := hX1.em (kd := 11) (f := 0) (by omega)
      have hs3 : Same [7, 8, 25] [8] u1 (em8 u1 cs.length 11 0) := (em8_same _ _ _ _).mono (by decide) (by decide)
      generalize em8 u1 cs.length 11 0 = u2 at hX2 hs3
      subst hR
      refine (ih g (cs ++ [(11, 0)]) u2 hX2 (by rw [List.length_append]; have : [((11 : Nat), (0 : Nat))].length = 1 := rfl; omega) (by omega)).mono (fun _ v y => ⟨?_, (hs2.trans hs3).trans y.2⟩)
      have e : cs ++ List.replicate (n + 1) (11, 0) = cs ++ [(11, 0)] ++ List.replicate n (11, 0) := by
        rw [List.append_assoc]
        rfl
      rw [e]
      exact y.1
theorem c_closeNots_fr : ∀ (g : Nat) (u : MS), CN (xl_X5_closeNots_0 g (nrt (0 : Int32))) u (fun _ v => Same [7, 8, 25] [8] u v) := by
  intro g
  induction g with
  | zero => exact fun u r w e => by cases e
  | succ g ih =>
    intro u
    unfold xl_X5_closeNots_0
    refine CN_RF (CN_ite (fun _ => CN_rt (Same.rf _)) (fun _ => CN_RF (CN_GT (CN_ite (fun _ => CN_RF (CN_WF (CN_RF (CN_WF ?_)))) (fun _ => CN_rt (Same.rf _))))))
    refine CN_app c_emit_fr (fun _ v y => (ih v).mono (fun _ w z => ?_))
    exact (((Same_si (by decide)).trans (Same_si (by decide))).trans (y.mono (by decide) (by decide))).trans z
/-- ands and ors are written out -/
def bcs (P : List Nat) : List (Nat × Nat) := P.map (fun x => (x, 0))
theorem bcs_l (P : List Nat) : (bcs P).length = P.length := List.length_map _
theorem c_bindlp {u0 : MS} {m p sg cm w : Nat} {S : List Nat} {k : Int32} (hw : w = 9 ∨ w = 10) (hH : Hd S (fun x => x = 10 ∨ x = w)) (hL : Lt100 S) : ∀ (P : List Nat) (g : Nat) (cs : List (Nat × Nat)) (u : MS), (∀ x ∈ P, x = 10 ∨ x = w) → XC u0 m cs (P ++ S) p sg cm u → cs.length + P.length ≤ 300 → (P ++ S).length ≤ 64 → CN (xl_X5_emitBinders_14 g k (nI w) (fun _ _ => nrt (0 : Int32))) u (fun _ v => XC u0 m (cs ++ bcs P) S p sg cm v ∧ Same [7, 25] [8] u v) := by
  intro P
  induction P with
  | nil =>
    intro g cs u hP hX hl h64
    cases g with
    | zero => exact fun r w e => by cases e
    | succ g =>
      rw [List.nil_append] at hX h64
      rw [show cs ++ bcs [] = cs from List.append_nil cs]
      have hS := hX.2.2.2.2.1
      unfold xl_X5_emitBinders_14
      cases S with
      | nil =>
        exact CN_RFx hS.1 (CN_ite (fun _ => CN_rt ⟨hX, Same.rf _⟩) (fun z => absurd (Int32.le_refl _) z))
      | cons x R =>
        obtain ⟨e7, et⟩ := hS.top
        have hR : R.length < 64 := h64
        have hx := hL x (List.mem_cons_self)
        have hh := hH x R rfl
        refine CN_RFx e7 (CN_ite (fun _ => CN_rt ⟨hX, Same.rf _⟩) (fun _ => CN_RFx e7 ?_))
        rw [nI_pred1]
        refine CN_GT ?_
        rw [rg_in hR (by decide), et]
        refine CN_ite (fun z => absurd (Or.inl ((nI_eq (a := x) (b := 10) (by omega) (by decide)).mp z)) hh) (fun _ => CN_RFx e7 ?_)
        rw [nI_pred1]
        refine CN_GT ?_
        rw [rg_in hR (by decide), et]
        exact CN_ite (fun z => absurd (Or.inr ((nI_eq (a := x) (b := w) (by omega) (by omega)).mp z)) hh) (fun _ => CN_rt ⟨hX, Same.rf _⟩)
  | cons x P ih =>
    intro g cs u hP hX hl h64
    cases g with
    | zero => exact fun r w e => by cases e
    | succ g =>
      have eS : x :: P ++ S = x :: (P ++ S) := rfl
      rw [eS] at hX h64
      generalize hR : P ++ S = R at hX h64
      have hx := hP x (List.mem_cons_self)
      have hS := hX.2.2.2.2.1
      obtain ⟨e7, et⟩ := hS.top
      have hR64 : R.length < 64 := h64
      have h8 := hX.2.2.2.2.2.2.1
      have h9 := hX.2.2.2.2.2.2.2.1
      rw [nOp_o (by omega)] at h8
      rw [nBr_o (by omega)] at h9
      have hs1 : Same [7, 8, 9] [7] u (si u 7 (nI R.length)) := Same_si (by decide)
      have hs2 : Same [7, 25] [8] u (si u 7 (nI R.length)) := Same_si (by decide)
      have hX1 := hX.st hs1 (hS.pop (siE _ _ _) rfl) ((siO (by decide)).trans h8) ((siO (by decide)).trans h9)
      have e71 : (si u 7 (nI R.length)).1 7 = nI R.length := siE _ _ _
      have et1 : (si u 7 (nI R.length)).2 7 R.length = nI x := et
      have hl1 : cs.length + (P.length + 1) ≤ 300 := hl
      have fin : CN (ncl (nRF 7) (fun x_24 => ncl (nGT 7 64 x_24) (fun x_28 => ncl (x_X4_emit x_28 0) (fun _ => xl_X5_emitBinders_14 g k (nI w) (fun _ _ => nrt (0 : Int32)))))) (si u 7 (nI R.length)) (fun _ v => XC u0 m (cs ++ bcs (x :: P)) S p sg cm v ∧ Same [7, 25] [8] u v) := by
        refine CN_RFx e71 (CN_GT ?_)
        rw [rg_in hR64 (by decide), et1]
        generalize si u 7 (nI R.length) = u1 at hX1 hs2
        refine CN_app (c_emit hX1.2.2.2.1.1 (by omega) rfl (show (0 : Int32) = nI 0 from rfl)) (fun _ v y => ?_)
        subst y
        have hX2 := hX1.em (kd := x) (f := 0) (by omega)
        have hs3 : Same [7, 25] [8] u1 (em8 u1 cs.length x 0) := (em8_same _ _ _ _).mono (by decide) (by decide)
        generalize em8 u1 cs.length x 0 = u2 at hX2 hs3
        subst hR
        refine (ih g (cs ++ [(x, 0)]) u2 (fun y hy => hP y (List.mem_cons_of_mem _ hy)) hX2 (by rw [List.length_append]; have : [(x, (0 : Nat))].length = 1 := rfl; omega) (by omega)).mono (fun _ v y => ⟨?_, (hs2.trans hs3).trans y.2⟩)
        have e : cs ++ bcs (x :: P) = cs ++ [(x, 0)] ++ bcs P := by
          rw [List.append_assoc]
          rfl
        rw [e]
        exact y.1
      unfold xl_X5_emitBinders_14
      refine CN_RFx e7 (CN_ite (fun z => absurd ((nI_leI (a := R.length + 1) (b := 0) (by omega) (by decide)).mp z) (by omega)) (fun _ => CN_RFx e7 ?_))
      rw [nI_pred1]
      refine CN_GT ?_
      rw [rg_in hR64 (by decide), et]
      refine CN_ite (fun _ => CN_RFx e7 ?_) (fun n10 => CN_RFx e7 ?_)
      · rw [nI_pred1]
        exact CN_WFx fin
      · rw [nI_pred1]
        refine CN_GT ?_
        rw [rg_in hR64 (by decide), et]
        refine CN_ite (fun _ => CN_RFx e7 ?_) (fun nw => ?_)
        · rw [nI_pred1]
          exact CN_WFx fin
        · rcases hx with rfl | rfl
          · exact absurd rfl n10
          · exact absurd rfl nw
theorem c_bind {u0 : MS} {m p sg cm w : Nat} {S P : List Nat} {cs : List (Nat × Nat)} {u : MS} (hw : w = 9 ∨ w = 10) (hH : Hd S (fun x => x = 10 ∨ x = w)) (hL : Lt100 S) (hP : ∀ x ∈ P, x = 10 ∨ x = w) (hX : XC u0 m cs (P ++ S) p sg cm u) (hl : cs.length + P.length ≤ 300) (h64 : (P ++ S).length ≤ 64) : CN (x_X5_emitBinders (nI w)) u (fun _ v => XC u0 m (cs ++ bcs P) S p sg cm v ∧ Same [7, 25] [8] u v) := by
  unfold x_X5_emitBinders
  rcases hw with rfl | rfl
  · exact CN_ite (fun _ => c_bindlp (w := 9) (Or.inl rfl) hH hL P _ cs u hP hX hl h64) (fun z => absurd rfl z)
  · exact CN_ite (fun z => absurd z (by decide)) (fun _ => c_bindlp (w := 10) (Or.inr rfl) hH hL P _ cs u hP hX hl h64)
theorem c_bindlp_fr {k w : Int32} : ∀ (g : Nat) (u : MS), CN (xl_X5_emitBinders_14 g k w (fun _ _ => nrt (0 : Int32))) u (fun _ v => Same [7, 25] [8] u v) := by
  intro g
  induction g with
  | zero => exact fun u r w e => by cases e
  | succ g ih =>
    intro u
    have fin : ∀ (y : Int32), CN (ncl (nRF 7) (fun x_24 => ncl (nGT 7 64 x_24) (fun x_28 => ncl (x_X4_emit x_28 0) (fun _ => xl_X5_emitBinders_14 g k w (fun _ _ => nrt (0 : Int32)))))) (si u 7 y) (fun _ v => Same [7, 25] [8] u v) := fun y => by
      refine CN_RF (CN_GT (CN_app c_emit_fr (fun _ v y => (ih v).mono (fun _ w z => ?_))))
      exact ((Same_si (by decide)).trans (y.mono (by decide) (by decide))).trans z
    unfold xl_X5_emitBinders_14
    exact CN_RF (CN_ite (fun _ => CN_rt (Same.rf _)) (fun _ => CN_RF (CN_GT (CN_ite (fun _ => CN_RF (CN_WF (fin _))) (fun _ => CN_RF (CN_GT (CN_ite (fun _ => CN_RF (CN_WF (fin _))) (fun _ => CN_rt (Same.rf _)))))))))
theorem c_bind_fr {k : Int32} (u : MS) : CN (x_X5_emitBinders k) u (fun _ v => Same [7, 25] [8] u v) := by
  unfold x_X5_emitBinders
  exact CN_ite (fun _ => c_bindlp_fr _ _) (fun _ => c_bindlp_fr _ _)
/-- one more is held -/
def hd7 (u : MS) (n x : Nat) : MS := si (sf u 7 (upd (u.2 7) n (nI x))) 7 (nI (n + 1))
theorem c_hold {u : MS} {n x : Nat} (h7 : u.1 7 = nI n) (hn : n < 64) {k : Int32} (hk : k = nI x) : CN (x_X5_hold k) u (fun _ v => v = hd7 u n x) := by
  subst hk
  unfold x_X5_hold
  refine CN_RFx h7 (CN_ST (CN_RFx h7 (CN_WFx ?_)))
  rw [wrN _ hn (by decide), nI_1]
  exact CN_rt rfl
theorem hd7_same (u : MS) (n x : Nat) : Same [7] [7] u (hd7 u n x) := (Same_sf (by decide)).trans (Same_si (by decide))
theorem hd7_st {S : List Nat} {u : MS} {x : Nat} (h : StC S u) : StC (x :: S) (hd7 u S.length x) := h.push (siE _ _ _) (by
  unfold hd7
  rw [siA, sfE])
theorem c_hold_fr {k : Int32} (u : MS) : CN (x_X5_hold k) u (fun _ v => Same [7] [7] u v) := by
  unfold x_X5_hold
  exact CN_RF (CN_ST (CN_RF (CN_WF (CN_rt ((Same_sf (by decide)).trans (Same_si (by decide)))))))
theorem c_openThing_fault {u : MS} {a : Nat} {k : Int32} (hF : FaultC 3 a u) (h5 : u.1 5 = nI a) : CN (x_X5_openThing k) u (fun _ v => FaultC 3 a v) := by
  unfold x_X5_openThing
  refine CN_RF (CN_ite (fun _ => CN_RF (CN_WF (CN_app (c_hold_fr _) (fun _ v y => CN_rt ?_)))) (fun _ => CN_app (c_fail 3) (fun _ v y => CN_rt ?_)))
  · exact (hF.sm (LI := [8]) (LA := []) (Same_si (by decide)) (by decide) (by decide)).sm y (by decide) (by decide)
  · subst y
    exact ⟨(siO (by decide)).trans (siE _ _ _), (siE _ _ _).trans h5⟩
theorem c_openThing_full {u : MS} {a : Nat} {k : Int32} (h8 : u.1 8 = nI 8) (h5 : u.1 5 = nI a) : CN (x_X5_openThing k) u (fun _ v => FaultC 3 a v) := by
  unfold x_X5_openThing
  refine CN_RFx h8 (CN_ite (fun z => absurd z (by decide)) (fun _ => CN_app (c_fail 3) (fun _ v y => CN_rt ?_)))
  subst y
  exact ⟨(siO (by decide)).trans (siE _ _ _), (siE _ _ _).trans h5⟩
theorem c_openThing {u0 u : MS} {m p sg cm x : Nat} {cs : List (Nat × Nat)} {S : List Nat} (hX : XC u0 m cs S p sg cm u) (hx : x = 11 ∨ x = 17) (ho : nOp S < 8) (hS : S.length < 64) : CN (x_X5_openThing (nI x)) u (fun _ v => Same [7, 8] [7] u v ∧ StC (x :: S) v ∧ v.1 8 = nI (nOp (x :: S))) := by
  have h8 := hX.2.2.2.2.2.2.1
  unfold x_X5_openThing
  refine CN_RFx h8 (CN_ite (fun _ => CN_RFx h8 (CN_WFx ?_)) (fun z => absurd ((nI_ltI (a := nOp S) (b := 8) (by omega) (by decide)).mpr ho) z))
  rw [nI_1]
  have hSt := hX.2.2.2.2.1
  have h7 : (si u 8 (nI (nOp S + 1))).1 7 = nI S.length := (siO (by decide)).trans hSt.1
  have hSt1 : StC S (si u 8 (nI (nOp S + 1))) := ⟨h7, hSt.2⟩
  have e8 : (si u 8 (nI (nOp S + 1))).1 8 = nI (nOp S + 1) := siE _ _ _
  have hs : Same [7, 8] [7] u (si u 8 (nI (nOp S + 1))) := Same_si (by decide)
  generalize si u 8 (nI (nOp S + 1)) = u1 at h7 hSt1 hs e8
  refine CN_app (c_hold h7 hS rfl) (fun _ v y => CN_rt ?_)
  subst y
  have h1 := hd7_same u1 S.length x
  refine ⟨hs.trans (h1.mono (by decide) (by decide)), hd7_st hSt1, ?_⟩
  rw [nOp_i hx]
  exact (h1.1 8 (by decide)).trans e8

