/-! ===== the class's draw ===== -/
abbrev dI : List Nat := [0, 60, 65]
abbrev dA : List Nat := [0, 1, 2, 11, 12]
theorem AQ_rt {β : Type} {LI LA : List Nat} {k : Nat} {x : β} {u : MS} {ch C : Nat} {Q : β → MS → Nat → Nat → Prop} (h : Kb u ch C) (hq : Q x u ch C) : AQ LI LA k (art x) u ch C Q := ⟨x, u, 0, 0, ch, C, rfl, h, by omega, by omega, by omega, by omega, by omega, Same.rf u, hq⟩
theorem AQ.up {β : Type} {LI LA : List Nat} {k k2 : Nat} {p : AG β} {u : MS} {ch C : Nat} {Q : β → MS → Nat → Nat → Prop} (h : AQ LI LA k p u ch C Q) (hk : k ≤ k2) : AQ LI LA k2 p u ch C Q := by
  obtain ⟨r, v, c, d, ch', C', b1, b2, b3, b4, b5⟩ := h
  exact ⟨r, v, c, d, ch', C', b1, b2, b3, by omega, b5⟩
theorem AQ_cl {α β : Type} {l1 l2 LI LA : List Nat} {k1 k2 : Nat} {p : AG α} {q : α → AG β} {u : MS} {ch C : Nat} {Q : β → MS → Nat → Nat → Prop} (h3 : ∀ k ∈ l1, k ∈ LI) (h4 : ∀ k ∈ l2, k ∈ LA) (hp : AQ l1 l2 k1 p u ch C (fun r v ch' C' => Kb v ch' C' → ch' ≤ ch + k1 → AQ LI LA k2 (q r) v ch' C' Q)) : AQ LI LA (k1 + k2) (acl p q) u ch C Q := by
  obtain ⟨a, v, c, d, ch', C', b1, b2, b3, b4, b5, b6, b7, b8, b9⟩ := hp
  obtain ⟨r, w, c2, d2, ch2, C2, e1, e2, e3, e4, e5, e6, e7, e8, e9⟩ := b9 b2 b4
  exact ⟨r, w, c + c2, d + d2, ch2, C2, acl_eq b1 e1, e2, by omega, by omega, by omega, by omega, by omega, (b8.mono h3 h4).trans e8, e9⟩
theorem AQ_nl {α β : Type} {l1 l2 LI LA : List Nat} {k : Nat} {p : NG α} {q : α → AG β} {u v : MS} {a : α} {ch C : Nat} {Q : β → MS → Nat → Nat → Prop} (e : p u = some (a, v)) (hs : Same l1 l2 u v) (h3 : ∀ k ∈ l1, k ∈ LI) (h4 : ∀ k ∈ l2, k ∈ LA) (hq : AQ LI LA k (q a) v ch C Q) : AQ LI LA k (anl p q) u ch C Q := by
  obtain ⟨r, w, c2, d2, ch2, C2, e1, e2, e3, e4, e5, e6, e7, e8, e9⟩ := hq
  exact ⟨r, w, c2, d2, ch2, C2, anl_eq e e1, e2, e3, e4, e5, e6, e7, (hs.mono h3 h4).trans e8, e9⟩
theorem AQ_n0 {α β : Type} {LI LA : List Nat} {k : Nat} {p : NG α} {q : α → AG β} {u : MS} {a : α} {ch C : Nat} {Q : β → MS → Nat → Nat → Prop} (e : p u = some (a, u)) (hq : AQ LI LA k (q a) u ch C Q) : AQ LI LA k (anl p q) u ch C Q := by
  obtain ⟨r, w, c2, d2, ch2, C2, e1, e2⟩ := hq
  exact ⟨r, w, c2, d2, ch2, C2, anl_eq e e1, e2⟩
theorem T.pure {α : Type} {p : NG α} (h : T [] [] p) (u : MS) : ∃ a, p u = some (a, u) := by
  obtain ⟨a, v, e, hs⟩ := h u
  rw [hs.nil] at e
  exact ⟨a, e⟩
theorem AQ_ite {β : Type} {LI LA : List Nat} {k : Nat} {b : Prop} [Decidable b] {p q : AG β} {u : MS} {ch C : Nat} {Q : β → MS → Nat → Nat → Prop} (h1 : b → AQ LI LA k p u ch C Q) (h2 : ¬ b → AQ LI LA k q u ch C Q) : AQ LI LA k (if b then p else q) u ch C Q := by
  by_cases h : b
  · rw [if_pos h]; exact h1 h
  · rw [if_neg h]; exact h2 h
theorem AQ_li {β : Type} {LI LA : List Nat} {k : Nat} {x : Int32} {q : Int32 → AG β} {u : MS} {ch C : Nat} {Q : β → MS → Nat → Nat → Prop} (h : AQ LI LA k (q x) u ch C Q) : AQ LI LA k (ali x q) u ch C Q := h
/-! who is weighed -/
def wq (f : Nat → Int32) (c : Int32) (k : Nat) : Bool := decide (rg f 2088 (148 + nI k * 7 + 0) = c ∧ rg f 2088 (148 + nI k * 7 + 3) = 1)
theorem isWeighed_eq (u : MS) (c : Int32) (k : Nat) : x_X8_isWeighed (nI k) c u = some ((if wq (u.2 0) c k = true then 1 else 0), u) := by
  unfold x_X8_isWeighed
  show (if rg (u.2 0) 2088 (148 + nI k * 7 + 0) = c then ncl (x_X1_ofFighter (nI k) 3) (fun r_9 => ncl (nGT 0 2088 r_9) (fun x_12 => (if x_12 = 1 then nrt (1 : Int32) else nrt 0))) else nrt 0) u = _
  by_cases h1 : rg (u.2 0) 2088 (148 + nI k * 7 + 0) = c
  · rw [if_pos h1]
    show (if rg (u.2 0) 2088 (148 + nI k * 7 + 3) = 1 then nrt (1 : Int32) else nrt 0) u = _
    by_cases h2 : rg (u.2 0) 2088 (148 + nI k * 7 + 3) = 1
    · have hw : wq (u.2 0) c k = true := decide_eq_true ⟨h1, h2⟩
      rw [if_pos h2, if_pos hw]; rfl
    · rw [if_neg h2, if_neg (by unfold wq; rw [decide_eq_false (fun z => h2 z.2)]; decide)]; rfl
  · rw [if_neg h1, if_neg (by unfold wq; rw [decide_eq_false (fun z => h1 z.1)]; decide)]; rfl
/-- x have come, W says who of them is weighed -/
def PSc (c x : Int32) (W : Nat → Bool) (u : MS) : Prop := rg (u.2 0) 2088 2 = x ∧ (∀ k, k < x.toInt.toNat → wq (u.2 0) c k = W k) ∧ Rww u
theorem x_le {x : Int32} (hx : x.toInt ≤ bB) {k : Nat} (hk : k < x.toInt.toNat) : ¬ x ≤ nI k := by
  intro z
  unfold bB at hx
  rw [Int32.le_iff_toInt_le, nI_toInt (by omega)] at z
  omega
theorem x_ge {x : Int32} (hx : x.toInt ≤ bB) : x ≤ nI x.toInt.toNat := by
  unfold bB at hx
  rw [Int32.le_iff_toInt_le, nI_toInt (by omega)]
  omega
theorem weighedOf_eq (u : MS) (c : Int32) (hx : (rg (u.2 0) 2088 2).toInt ≤ bB) : x_X8_weighedOf c u = some (nI (cb (wq (u.2 0) c) (rg (u.2 0) 2088 2).toInt.toNat), u) := by
  have hlp : ∀ (t k n : Nat), k + t = (rg (u.2 0) 2088 2).toInt.toNat → t < n → xl_X8_weighedOf_4 n c (nI (cb (wq (u.2 0) c) k)) (nI k) (fun v1 v2 v3 => nrt v2) u = some (nI (cb (wq (u.2 0) c) (rg (u.2 0) 2088 2).toInt.toNat), u) := by
    intro t
    induction t with
    | zero =>
      intro k n hk hn
      cases n with
      | zero => omega
      | succ n =>
        have e : k = (rg (u.2 0) 2088 2).toInt.toNat := by omega
        rw [e]
        unfold xl_X8_weighedOf_4
        show (if rg (u.2 0) 2088 2 ≤ nI (rg (u.2 0) 2088 2).toInt.toNat then nrt (nI (cb (wq (u.2 0) c) (rg (u.2 0) 2088 2).toInt.toNat)) else _) u = _
        rw [if_pos (x_ge hx)]
        rfl
    | succ t ih =>
      intro k n hk hn
      cases n with
      | zero => omega
      | succ n =>
        unfold xl_X8_weighedOf_4
        show (if rg (u.2 0) 2088 2 ≤ nI k then nrt (nI (cb (wq (u.2 0) c) k)) else ncl (x_X8_isWeighed (nI k) c) (fun r_5 => (if r_5 = 0 then nli (nI (cb (wq (u.2 0) c) k) + 0) (fun x_9 => nli (nI k + 1) (fun x_11 => xl_X8_weighedOf_4 n c x_9 x_11 (fun v1 v2 v3 => nrt v2))) else nli (nI (cb (wq (u.2 0) c) k) + 1) (fun x_13 => nli (nI k + 1) (fun x_15 => xl_X8_weighedOf_4 n c x_13 x_15 (fun v1 v2 v3 => nrt v2)))))) u = _
        rw [if_neg (x_le hx (by omega))]
        unfold ncl
        rw [isWeighed_eq]
        by_cases hw : wq (u.2 0) c k = true
        · rw [if_pos hw]
          show (if (1 : Int32) = 0 then _ else nli (nI (cb (wq (u.2 0) c) k) + 1) (fun x_13 => nli (nI k + 1) (fun x_15 => xl_X8_weighedOf_4 n c x_13 x_15 (fun v1 v2 v3 => nrt v2)))) u = _
          rw [if_neg (by decide)]
          show xl_X8_weighedOf_4 n c (nI (cb (wq (u.2 0) c) k) + 1) (nI k + 1) (fun v1 v2 v3 => nrt v2) u = _
          rw [nI_1, nI_1, ← cb_t hw]
          exact ih (k + 1) n (by omega) (by omega)
        · rw [if_neg hw]
          show (if (0 : Int32) = 0 then nli (nI (cb (wq (u.2 0) c) k) + 0) (fun x_9 => nli (nI k + 1) (fun x_11 => xl_X8_weighedOf_4 n c x_9 x_11 (fun v1 v2 v3 => nrt v2))) else _) u = _
          rw [if_pos rfl]
          show xl_X8_weighedOf_4 n c (nI (cb (wq (u.2 0) c) k) + 0) (nI k + 1) (fun v1 v2 v3 => nrt v2) u = _
          rw [nI_1, Int32.add_zero, ← cb_f hw]
          exact ih (k + 1) n (by omega) (by omega)
  unfold x_X8_weighedOf
  exact hlp (rg (u.2 0) 2088 2).toInt.toNat 0 fuel (by omega) (by unfold bB at hx; unfold fuel; omega)
/-! cells that a placing leaves alone -/
theorem rg_rs_ne {f : Nat → Int32} {n : Nat} {i j x : Int32} (h : ¬ i = j) : rg (rs f n i x) n j = rg f n j := by
  unfold rg
  by_cases h1 : j < 0
  · rw [if_pos h1, if_pos h1]
  · rw [if_neg h1, if_neg h1]
    by_cases h2 : nI n ≤ j
    · rw [if_pos h2, if_pos h2]
    · rw [if_neg h2, if_neg h2]
      rcases rs_at (f := f) (n := n) (i := i) (x := x) j.toNatClampNeg with z | ⟨-, z⟩
      · exact z
      · exfalso
        apply h
        rw [z]
        have h0 : 0 ≤ j.toInt := by
          rw [Int32.lt_iff_toInt_lt, i32_0] at h1
          omega
        exact (nI_ofT h0).symm
theorem fCell (k d : Nat) : (148 : Int32) + nI k * 7 + nI d = nI (148 + 7 * k + d) := by
  have e7 : nI k * 7 = nI (7 * k) := by
    have h := nI_mul k 7
    rw [Nat.mul_comm] at h
    exact h
  have e1 : (148 : Int32) + nI (7 * k) = nI (148 + 7 * k) := nI_add 148 (7 * k)
  rw [e7, e1, nI_add]
/-- a write to a cell below 148 (not 2), or to a PLACE -/
theorem PSc.w {c x : Int32} {W : Nat → Bool} {u v : MS} (h : PSc c x W u) (hx : x.toInt ≤ bB) (i y : Int32) (hi : (∃ j, j < 148 ∧ ¬ j = 2 ∧ i = nI j) ∨ ∃ k, k < x.toInt.toNat ∧ i = nI (148 + 7 * k + 5)) (h0 : v.2 0 = rs (u.2 0) 2088 i y) (h11 : v.2 11 = u.2 11) : PSc c x W v := by
  obtain ⟨a, b, d⟩ := h
  unfold bB at hx
  refine ⟨?_, fun k hk => ?_, ?_⟩
  · rw [h0, rg_rs_ne ?_]
    · exact a
    · intro z
      rcases hi with ⟨j, j1, j2, rfl⟩ | ⟨k, k1, rfl⟩
      · exact j2 ((nI_eq (a := j) (b := 2) (by omega) (by decide)).mp z)
      · have := (nI_eq (a := 148 + 7 * k + 5) (b := 2) (by omega) (by decide)).mp z
        omega
  · rw [← b k hk]
    have e0 : ∀ d, d = 0 ∨ d = 3 → rg (rs (u.2 0) 2088 i y) 2088 (148 + nI k * 7 + nI d) = rg (u.2 0) 2088 (148 + nI k * 7 + nI d) := fun d hd => by
      refine rg_rs_ne (fun z => ?_)
      rw [fCell] at z
      rcases hi with ⟨j, j1, j2, rfl⟩ | ⟨k2, k1, rfl⟩
      · have := (nI_eq (by omega) (by omega)).mp z
        omega
      · have := (nI_eq (by omega) (by omega)).mp z
        omega
    have q0 := e0 0 (Or.inl rfl)
    have q3 := e0 3 (Or.inr rfl)
    unfold wq
    rw [h0]
    have z0 : nI 0 = (0 : Int32) := rfl
    have z3 : nI 3 = (3 : Int32) := rfl
    rw [z0] at q0
    rw [z3] at q3
    rw [q0, q3]
  · unfold Rww
    rw [h11]
    exact d
theorem cCell {m : Nat} (hm : m < 4) {p : Int32} (h1 : -1 ≤ p.toInt) (h2 : p.toInt ≤ 31) : ∃ j, j < 148 ∧ ¬ j = 2 ∧ (4 : Int32) + nI m * 36 + (4 + p) = nI j := by
  refine ⟨(8 + 36 * m + p.toInt).toNat, by omega, by omega, ?_⟩
  have e36 : nI m * 36 = nI (36 * m) := by
    have h := nI_mul m 36
    rw [Nat.mul_comm] at h
    exact h
  have e4 : (4 : Int32) + nI (36 * m) = nI (4 + 36 * m) := nI_add 4 (36 * m)
  rw [e36, e4]
  refine Int32.toInt_inj.mp ?_
  have c4 : (4 : Int32).toInt = 4 := by decide
  have s1 := i32_add 4 p (by rw [c4]; omega) (by rw [c4]; omega)
  rw [i32_add _ _ (by rw [nI_toInt (by omega), s1, c4]; omega) (by rw [nI_toInt (by omega), s1, c4]; omega), s1, c4, nI_toInt (by omega), nI_toInt (by omega)]
  omega
theorem aq_placeOne {c x : Int32} {W : Nat → Bool} {u : MS} {ch C m k : Nat} {p : Int32} (hm : m < 4) (hx : x.toInt ≤ bB) (hk : k < x.toInt.toNat) (h1 : -1 ≤ p.toInt) (h2 : p.toInt ≤ 31) (hK : Kb u ch C) (hP : PSc c x W u) (hch : ch + 2 ≤ 1048576) : AQ [0, 60, 65] [0, 1, 2] 2 (x_X2_placeOne (nI m) (nI k) p) u ch C (fun _ v _ _ => PSc c x W v) := by
  have hx2 := hx
  unfold bB at hx2
  have hv : (nI k).toInt ≤ bB := by rw [nI_toInt (by omega)]; unfold bB; omega
  obtain ⟨j, j1, j2, ej⟩ := cCell hm h1 h2
  have hc5 : ¬ (148 : Int32) + nI k * 7 + 5 = 0 ∧ ¬ (148 : Int32) + nI k * 7 + 5 = 2 := by
    have e := fCell k 5
    have z5 : nI 5 = (5 : Int32) := rfl
    rw [z5] at e
    rw [e]
    refine ⟨fun z => ?_, fun z => ?_⟩
    · have := (nI_eq (a := 148 + 7 * k + 5) (b := 0) (by omega) (by decide)).mp z
      omega
    · have := (nI_eq (a := 148 + 7 * k + 5) (b := 2) (by omega) (by decide)).mp z
      omega
  unfold x_X2_placeOne
  refine AQ_n0 (a := 4 + nI m * 36 + (4 + p)) rfl ?_
  refine AQ_cl (l1 := [0, 60, 65]) (l2 := [0, 1, 2]) (k1 := 1) (k2 := 1) (by decide) (by decide) ?_
  obtain ⟨r, v, c1, d1, ch', C', b1, b2, b3, b4, b5, b6, b7, b8, b9⟩ := aq_put (4 + nI m * 36 + (4 + p)) (nI k) (Or.inl hv) u ch C hK (by omega)
  refine ⟨r, v, c1, d1, ch', C', b1, b2, b3, b4, b5, b6, b7, b8, fun hKv hch' => ?_⟩
  have hPv : PSc c x W v := hP.w hx _ _ (Or.inl ⟨j, j1, j2, ej⟩) b9 (b8.2 11 (by decide))
  refine AQ_n0 (a := 148 + nI k * 7 + 5) rfl ?_
  refine AQ_cl (l1 := [0, 60, 65]) (l2 := [0, 1, 2]) (k1 := 1) (k2 := 0) (by decide) (by decide) ?_
  obtain ⟨r2, v2, c2, d2, ch2, C2, e1, e2, e3, e4, e5, e6, e7, e8, e9⟩ := aq_put (148 + nI k * 7 + 5) p (Or.inr hc5) v ch' C' hKv (by omega)
  refine ⟨r2, v2, c2, d2, ch2, C2, e1, e2, e3, e4, e5, e6, e7, e8, fun hKw _ => AQ_rt hKw ?_⟩
  refine hPv.w hx _ _ (Or.inr ⟨k, hk, ?_⟩) e9 (e8.2 11 (by decide))
  have e := fCell k 5
  exact e
/-! the pool, the seeds -/
theorem aq_pool {x : Int32} {W : Nat → Bool} {m : Nat} (hm : m < 4) (hx : x.toInt ≤ bB) (hN : cb W x.toInt.toNat ≤ 31) : ∀ (t k n : Nat) (u : MS) (ch C : Nat), k + t = x.toInt.toNat → t < n → Kb u ch C → PSc (nI m) x W u → ch + 2 * (cb W x.toInt.toNat - cb W k) ≤ 1048576 → AQ dI dA (2 * (cb W x.toInt.toNat - cb W k)) (xl_X2_placePool_4 n (nI m) (nI (cb W k)) (nI k) (fun v1 v2 v3 => art 0)) u ch C (fun _ v _ _ => PSc (nI m) x W v) := by
  intro t
  induction t with
  | zero =>
    intro k n u ch C hk hn hK hP hch
    cases n with
    | zero => omega
    | succ n =>
      have e : k = x.toInt.toNat := by omega
      unfold xl_X2_placePool_4
      refine AQ_n0 (a := x) (by show some (rg (u.2 0) 2088 2, u) = _; rw [hP.1]) (AQ_ite (fun _ => AQ_rt hK hP) (fun z => absurd ?_ z))
      rw [e]
      exact x_ge hx
  | succ t ih =>
    intro k n u ch C hk hn hK hP hch
    cases n with
    | zero => omega
    | succ n =>
      have hkx : k < x.toInt.toNat := by omega
      unfold xl_X2_placePool_4
      refine AQ_n0 (a := x) (by show some (rg (u.2 0) 2088 2, u) = _; rw [hP.1]) (AQ_ite (fun z => absurd z (x_le hx hkx)) (fun _ => ?_))
      refine AQ_n0 (isWeighed_eq u (nI m) k) ?_
      rw [hP.2.1 k hkx]
      by_cases hw : W k = true
      · rw [if_pos hw]
        refine AQ_ite (fun z => absurd z (by decide)) (fun _ => ?_)
        have hlt := cb_lt hkx hw
        have e2 : 2 * (cb W x.toInt.toNat - cb W k) = 2 + 2 * (cb W x.toInt.toNat - cb W (k + 1)) := by
          rw [cb_t hw]
          omega
        rw [e2]
        have hp : (nI (cb W k)).toInt = cb W k := nI_toInt (by omega)
        refine AQ_cl (l1 := [0, 60, 65]) (l2 := [0, 1, 2]) (by decide) (by decide) ?_
        obtain ⟨r, v, c1, d1, ch', C', b1, b2, b3, b4, b5, b6, b7, b8, b9⟩ := aq_placeOne hm hx hkx (p := nI (cb W k)) (by rw [hp]; omega) (by rw [hp]; omega) hK hP (by omega)
        refine ⟨r, v, c1, d1, ch', C', b1, b2, b3, b4, b5, b6, b7, b8, fun hKv _ => AQ_li (AQ_li ?_)⟩
        rw [nI_1, nI_1, ← cb_t hw]
        exact ih (k + 1) n v ch' C' (by omega) (by omega) hKv b9 (by omega)
      · rw [if_neg hw]
        refine AQ_ite (fun _ => AQ_li ?_) (fun z => absurd rfl z)
        rw [nI_1, ← cb_f hw]
        exact ih (k + 1) n u ch C (by omega) (by omega) hK hP (by rw [cb_f hw]; exact hch)
theorem rg_row {u : MS} (h : Rww u) (i : Int32) : -1 ≤ (rg (u.2 11) 32 i).toInt ∧ (rg (u.2 11) 32 i).toInt ≤ 31 := by
  unfold rg
  by_cases h1 : i < 0
  · rw [if_pos h1]; decide
  · rw [if_neg h1]
    by_cases h2 : nI 32 ≤ i
    · rw [if_pos h2]; decide
    · rw [if_neg h2]
      have h3 := i32_nle h2
      have c9 : (nI 32).toInt = 32 := by decide
      rw [Int32.lt_iff_toInt_lt, i32_0] at h1
      have h4 : i.toNatClampNeg = i.toInt.toNat := rfl
      have h5 := h i.toNatClampNeg (by omega)
      omega
theorem aq_seeds13 {x : Int32} {W : Nat → Bool} {m : Nat} (hm : m < 4) (hx : x.toInt ≤ bB) (kK : Nat) (v3 : Int32) (K : Int32 → Int32 → Int32 → Int32 → AG Int32) (Q : Int32 → MS → Nat → Nat → Prop) (chM : Nat) (hK : ∀ v2 v4 u ch C, Kb u ch C → PSc (nI m) x W u → ch ≤ chM → AQ dI dA kK (K (nI m) v2 v3 v4) u ch C Q) : ∀ (t k n : Nat) (v2 : Int32) (u : MS) (ch C : Nat), k + t = x.toInt.toNat → t < n → Kb u ch C → PSc (nI m) x W u → ch + 2 * (cb W x.toInt.toNat - cb W k) ≤ chM → chM ≤ 1048576 → AQ dI dA (2 * (cb W x.toInt.toNat - cb W k) + kK) (xl_X2_placeSeeds_13 n (nI m) v2 v3 (nI k) K) u ch C Q := by
  intro t
  induction t with
  | zero =>
    intro k n v2 u ch C hk hn hKb hP hch hcM
    cases n with
    | zero => omega
    | succ n =>
      have e : k = x.toInt.toNat := by omega
      unfold xl_X2_placeSeeds_13
      refine AQ_n0 (a := x) (by show some (rg (u.2 0) 2088 2, u) = _; rw [hP.1]) (AQ_ite (fun _ => (hK _ _ u ch C hKb hP (by omega)).up (by omega)) (fun z => absurd ?_ z))
      rw [e]
      exact x_ge hx
  | succ t ih =>
    intro k n v2 u ch C hk hn hKb hP hch hcM
    cases n with
    | zero => omega
    | succ n =>
      have hkx : k < x.toInt.toNat := by omega
      have hmono := cb_mono (P := W) (a := k) (b := k + 1) (by omega)
      have hmono2 := cb_mono (P := W) (a := k + 1) (b := x.toInt.toNat) (by omega)
      unfold xl_X2_placeSeeds_13
      refine AQ_n0 (a := x) (by show some (rg (u.2 0) 2088 2, u) = _; rw [hP.1]) (AQ_ite (fun z => absurd z (x_le hx hkx)) (fun _ => ?_))
      refine AQ_n0 (isWeighed_eq u (nI m) k) ?_
      rw [hP.2.1 k hkx]
      have hskip : AQ dI dA (2 * (cb W x.toInt.toNat - cb W k) + kK) (ali (nI k + 1) (fun x_11 => xl_X2_placeSeeds_13 n (nI m) v2 v3 x_11 K)) u ch C Q := by
        refine AQ_li ?_
        rw [nI_1]
        exact (ih (k + 1) n v2 u ch C (by omega) (by omega) hKb hP (by omega) hcM).up (by omega)
      by_cases hw : W k = true
      · rw [if_pos hw]
        refine AQ_ite (fun z => absurd z (by decide)) (fun _ => ?_)
        refine AQ_n0 (a := 148 + nI k * 7 + 4) rfl (AQ_n0 (a := rg (u.2 0) 2088 (148 + nI k * 7 + 4)) rfl (AQ_ite (fun _ => ?_) (fun _ => hskip)))
        have e2 : 2 * (cb W x.toInt.toNat - cb W k) + kK = 2 + (2 * (cb W x.toInt.toNat - cb W (k + 1)) + kK) := by
          rw [cb_t hw] at hmono2 ⊢
          omega
        rw [e2]
        have hr := rg_row hP.2.2 v2
        refine AQ_n0 (a := rg (u.2 11) 32 v2) rfl (AQ_cl (l1 := [0, 60, 65]) (l2 := [0, 1, 2]) (by decide) (by decide) ?_)
        rw [cb_t hw] at hmono2
        obtain ⟨r, v, c1, d1, ch', C', b1, b2, b3, b4, b5, b6, b7, b8, b9⟩ := aq_placeOne hm hx hkx hr.1 hr.2 hKb hP (by omega)
        refine ⟨r, v, c1, d1, ch', C', b1, b2, b3, b4, b5, b6, b7, b8, fun hKv _ => AQ_li (AQ_li ?_)⟩
        rw [nI_1]
        exact ih (k + 1) n _ v ch' C' (by omega) (by omega) hKv b9 (by rw [cb_t hw]; omega) hcM
      · rw [if_neg hw]
        exact AQ_ite (fun _ => hskip) (fun z => absurd rfl z)
theorem aq_seeds {x : Int32} {W : Nat → Bool} {m : Nat} (hm : m < 4) (hx : x.toInt ≤ bB) (u : MS) (ch C : Nat) (hKb : Kb u ch C) (hP : PSc (nI m) x W u) (hch : ch + 16 * cb W x.toInt.toNat ≤ 1048576) : AQ dI dA (16 * cb W x.toInt.toNat) (x_X2_placeSeeds (nI m)) u ch C (fun _ v _ _ => PSc (nI m) x W v) := by
  have hlp : ∀ (t s n : Nat) (v2 : Int32) (u : MS) (ch C : Nat), s + t = 9 → t < n → Kb u ch C → PSc (nI m) x W u → ch + 2 * t * cb W x.toInt.toNat ≤ 1048576 → AQ dI dA (2 * t * cb W x.toInt.toNat) (xl_X2_placeSeeds_4 n (nI m) v2 (nI s) (fun v1 v2 v3 => art 0)) u ch C (fun _ v _ _ => PSc (nI m) x W v) := by
    intro t
    induction t with
    | zero =>
      intro s n v2 u ch C hs hn hKb hP hch
      cases n with
      | zero => omega
      | succ n =>
        have : s = 9 := by omega
        subst this
        unfold xl_X2_placeSeeds_4
        exact AQ_ite (fun _ => AQ_rt hKb hP) (fun z => absurd (by decide) z)
    | succ t ih =>
      intro s n v2 u ch C hs hn hKb hP hch
      cases n with
      | zero => omega
      | succ n =>
        unfold xl_X2_placeSeeds_4
        refine AQ_ite (fun _ => AQ_rt hKb hP) (fun _ => ?_)
        have e : 2 * (t + 1) * cb W x.toInt.toNat = 2 * cb W x.toInt.toNat + 2 * t * cb W x.toInt.toNat := by
          rw [Nat.mul_add, Nat.add_mul, Nat.mul_one, Nat.add_comm]
        rw [e] at hch ⊢
        have h9 := aq_seeds13 (W := W) hm hx (2 * t * cb W x.toInt.toNat) (nI s) (fun v1 v2 v3 v4 => ali (v3 + 1) (fun x_40 => xl_X2_placeSeeds_4 n v1 v2 x_40 (fun v1 v2 v3 => art 0))) (fun _ v _ _ => PSc (nI m) x W v) (ch + 2 * cb W x.toInt.toNat) (fun v2 v4 u ch2 C hKb hP hch2 => by
          refine AQ_li ?_
          rw [nI_1]
          exact ih (s + 1) n v2 u ch2 C (by omega) (by omega) hKb hP (by omega)) x.toInt.toNat 0 fuel v2 u ch C (by omega) (by unfold bB at hx; unfold fuel; omega) hKb hP (by show ch + 2 * (cb W x.toInt.toNat - 0) ≤ _; omega) (by omega)
        exact h9
  have e : 16 * cb W x.toInt.toNat = 2 * 8 * cb W x.toInt.toNat := rfl
  rw [e] at hch ⊢
  unfold x_X2_placeSeeds
  exact hlp 8 1 fuel 0 u ch C (by omega) (by unfold fuel; omega) hKb hP hch

