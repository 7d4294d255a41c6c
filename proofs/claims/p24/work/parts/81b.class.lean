/-! ===== the class's state between two calls; its acts but the draw ===== -/
def Stt (u : MS) (n ch : Nat) : Prop := u.1 1 = nI n ∧ n ≤ 500 ∧ ∃ p : Nat → Nat, (∀ e, e < n → u.2 3 e = nI (p e) ∧ p e ≤ ch) ∧ ∀ e e', e ≤ e' → e' < n → p e ≤ p e'
def Rww (u : MS) : Prop := ∀ j, j < 32 → 0 ≤ (u.2 11 j).toInt ∧ (u.2 11 j).toInt ≤ 31
def CS (u : MS) (n ch C : Nat) : Prop := Kb u ch C ∧ Stt u n ch ∧ Rww u
def scI : List Nat := [0, 1, 16, 60, 65]
def scA : List Nat := [0, 1, 2, 3, 11, 12, 13, 14, 15, 16, 17, 18]
def AS {β : Type} (k : Nat) (p : AG β) : Prop := ∀ u n ch C, CS u n ch C → ch + k ≤ 1048576 → ∃ r v c d n' ch' C', p u = some (r, v, c, d) ∧ CS v n' ch' C' ∧ ch' ≤ ch + k ∧ C ≤ C' ∧ d = 4 * (C' - C) ∧ 256 * c ≤ C' - C ∧ Same scI scA u v
theorem Stt.up {u v : MS} {n ch ch' : Nat} (h : Stt u n ch) (h1 : v.1 1 = u.1 1) (h3 : v.2 3 = u.2 3) (hc : ch ≤ ch') : Stt v n ch' := by
  obtain ⟨a, b, p, hp, hm⟩ := h
  exact ⟨h1.trans a, b, p, fun e he => ⟨by rw [h3]; exact (hp e he).1, by have := (hp e he).2; omega⟩, hm⟩
theorem AS_of {β : Type} {l1 l2 : List Nat} {k : Nat} {p : AG β} (h : AP l1 l2 k p) (h1 : (decide (¬ 1 ∈ l1 ∧ ¬ 3 ∈ l2 ∧ ¬ 11 ∈ l2) && l1.all (fun k => scI.contains k) && l2.all (fun k => scA.contains k)) = true) : AS k p := fun u n ch C hC hch => by
  have g1 := Bool.and_eq_true_iff.mp h1
  have g2 := Bool.and_eq_true_iff.mp g1.1
  have g3 := of_decide_eq_true g2.1
  obtain ⟨r, v, c, d, ch', C', b1, b2, b3, b4, b5, b6, b7, b8⟩ := h u ch C hC.1 hch
  refine ⟨r, v, c, d, n, ch', C', b1, ⟨b2, hC.2.1.up (b8.1 1 g3.1) (b8.2 3 g3.2.1) b3, ?_⟩, b4, b5, b6, b7, b8.mono (fun k hk => List.contains_iff_mem.mp (List.all_eq_true.mp g2.2 k hk)) (fun k hk => List.contains_iff_mem.mp (List.all_eq_true.mp g1.2 k hk))⟩
  unfold Rww
  rw [b8.2 11 g3.2.2]
  exact hC.2.2
theorem AS_rt {β : Type} {k : Nat} (x : β) : AS k (art x) := fun u n ch C h _ => ⟨x, u, 0, 0, n, ch, C, rfl, h, by omega, by omega, by omega, by omega, Same.rf u⟩
theorem AS_ite {β : Type} {k : Nat} {b : Prop} [Decidable b] {p q : AG β} (h1 : b → AS k p) (h2 : ¬ b → AS k q) : AS k (if b then p else q) := by
  by_cases h : b
  · rw [if_pos h]; exact h1 h
  · rw [if_neg h]; exact h2 h
theorem CS.same {l1 l2 : List Nat} {u v : MS} {n ch C : Nat} (h : CS u n ch C) (hs : Same l1 l2 u v) (h1 : ¬ 0 ∈ l1 ∧ ¬ 60 ∈ l1 ∧ ¬ 65 ∈ l1 ∧ ¬ 1 ∈ l1) (h2 : ¬ 0 ∈ l2 ∧ ¬ 1 ∈ l2 ∧ ¬ 2 ∈ l2 ∧ ¬ 3 ∈ l2 ∧ ¬ 11 ∈ l2) : CS v n ch C := by
  refine ⟨h.1.same hs ⟨h1.1, h1.2.1, h1.2.2.1⟩ ⟨h2.1, h2.2.1, h2.2.2.1⟩, h.2.1.up (hs.1 1 h1.2.2.2) (hs.2 3 h2.2.2.2.1) (Nat.le_refl _), ?_⟩
  unfold Rww
  rw [hs.2 11 h2.2.2.2.2]
  exact h.2.2
theorem AS_ng {α β : Type} {l1 l2 : List Nat} {k : Nat} {p : NG α} {q : α → AG β} (hp : T l1 l2 p) (h : (decide (¬ 0 ∈ l1 ∧ ¬ 60 ∈ l1 ∧ ¬ 65 ∈ l1 ∧ ¬ 1 ∈ l1) && decide (¬ 0 ∈ l2 ∧ ¬ 1 ∈ l2 ∧ ¬ 2 ∈ l2 ∧ ¬ 3 ∈ l2 ∧ ¬ 11 ∈ l2) && l1.all (fun k => scI.contains k) && l2.all (fun k => scA.contains k)) = true) (hq : ∀ a, AS k (q a)) : AS k (anl p q) := fun u n ch C hC hch => by
  have h1 := Bool.and_eq_true_iff.mp h
  have h2 := Bool.and_eq_true_iff.mp h1.1
  have h3 := Bool.and_eq_true_iff.mp h2.1
  obtain ⟨a, v, e, hs⟩ := hp u
  obtain ⟨r, w, c, d, n', ch', C', b1, b2, b4, b5, b6, b7, b8⟩ := hq a v n ch C (hC.same hs (of_decide_eq_true h3.1) (of_decide_eq_true h3.2)) hch
  exact ⟨r, w, c, d, n', ch', C', anl_eq e b1, b2, b4, b5, b6, b7, (hs.mono (fun k hk => List.contains_iff_mem.mp (List.all_eq_true.mp h2.2 k hk)) (fun k hk => List.contains_iff_mem.mp (List.all_eq_true.mp h1.2 k hk))).trans b8⟩
theorem AS_ap {α β : Type} {k1 k2 : Nat} {p : AG α} {q : α → AG β} (hp : AS k1 p) (hq : ∀ a, AS k2 (q a)) : AS (k1 + k2) (acl p q) := fun u n ch C hC hch => by
  obtain ⟨a, v, c, d, n', ch', C', b1, b2, b4, b5, b6, b7, b8⟩ := hp u n ch C hC (by omega)
  obtain ⟨r, w, c2, d2, n2, ch2, C2, e1, e2, e4, e5, e6, e7, e8⟩ := hq a v n' ch' C' b2 (by omega)
  exact ⟨r, w, c + c2, d + d2, n2, ch2, C2, acl_eq b1 e1, e2, by omega, by omega, by omega, by omega, b8.trans e8⟩
theorem AS.up {β : Type} {k k2 : Nat} {p : AG β} (h : AS k p) (hk : k ≤ k2) : AS k2 p := fun u n ch C hK hch => by
  obtain ⟨r, v, c, d, n', ch', C', b1, b2, b4, b5⟩ := h u n ch C hK (by omega)
  exact ⟨r, v, c, d, n', ch', C', b1, b2, by omega, b5⟩
theorem AS_put {β : Type} {k : Nat} {a0 a1 : Int32} {q : Int32 → AG β} (hv : a1.toInt ≤ bB ∨ (¬ a0 = 0 ∧ ¬ a0 = 2)) (hq : ∀ a, AS k (q a)) : AS (k + 1) (acl (x_X1_put a0 a1) q) := by
  have h := AS_ap (AS_of (ap_put a0 a1 hv) (by decide)) hq
  rw [Nat.add_comm] at h
  exact h
theorem AS_nrt {α β : Type} {k : Nat} {c : α} {q : α → AG β} (h : AS k (q c)) : AS k (anl (nrt c) q) := h
theorem AS_GT {β : Type} {k a n : Nat} {i : Int32} {q : Int32 → AG β} (hq : ∀ x, AS k (q x)) : AS k (anl (nGT a n i) q) := fun u m ch C h hch => hq (rg (u.2 a) n i) u m ch C h hch
/-- an entry of the log is opened where there is room -/
theorem CS.opn {u : MS} {n ch C : Nat} (h : CS u n ch C) (hn : n < 500) : ∃ v, x_X1_openEntry u = some (0, v) ∧ CS v (n + 1) ch C ∧ Same [1] [3] u v ∧ v.2 0 = u.2 0 := by
  obtain ⟨hK, ⟨e1, hn5, p, hp, hm⟩, hR⟩ := h
  have e0 := hK.1
  have hs : Same [1] [3] u (si (sf u 3 (rs (u.2 3) 500 (nI n) (nI ch))) 1 (nI (n + 1))) := (Same_sf (by decide)).trans (Same_si (by decide))
  refine ⟨si (sf u 3 (rs (u.2 3) 500 (nI n) (nI ch))) 1 (nI (n + 1)), ?_, ⟨hK.same hs (by decide) (by decide), ⟨rfl, by omega, fun e => if e = n then ch else p e, fun e he => ?_, fun e e' h1 h2 => ?_⟩, hR⟩, hs, rfl⟩
  · unfold x_X1_openEntry
    show some ((0 : Int32), si (sf u 3 (rs (u.2 3) 500 (u.1 1) (u.1 0))) 1 (u.1 1 + 1)) = _
    rw [e1, e0, nI_1]
  · have e3 : (si (sf u 3 (rs (u.2 3) 500 (nI n) (nI ch))) 1 (nI (n + 1))).2 3 e = rs (u.2 3) 500 (nI n) (nI ch) e := rfl
    rw [e3, rs_in hn (by decide)]
    by_cases he2 : e = n
    · rw [if_pos he2]
      show nI ch = nI (if e = n then ch else p e) ∧ (if e = n then ch else p e) ≤ ch
      rw [if_pos he2]
      exact ⟨rfl, Nat.le_refl _⟩
    · rw [if_neg he2]
      show u.2 3 e = nI (if e = n then ch else p e) ∧ (if e = n then ch else p e) ≤ ch
      rw [if_neg he2]
      exact hp e (by omega)
  · show (if e = n then ch else p e) ≤ (if e' = n then ch else p e')
    by_cases h3 : e' = n
    · rw [if_pos h3]
      by_cases h4 : e = n
      · rw [if_pos h4]; omega
      · rw [if_neg h4]; exact (hp e (by omega)).2
    · rw [if_neg h3, if_neg (by omega)]
      exact hm e e' h1 (by omega)
theorem isFull_eq {u : MS} {n ch C : Nat} (h : CS u n ch C) : (n < 500 ∧ x_X1_isFull u = some (0, u)) ∨ (n = 500 ∧ x_X1_isFull u = some (1, u)) := by
  obtain ⟨-, ⟨e1, hn5, -⟩, -⟩ := h
  unfold x_X1_isFull
  show (n < 500 ∧ (if u.1 1 < 500 then nrt (0 : Int32) else nrt 1) u = _) ∨ (n = 500 ∧ (if u.1 1 < 500 then nrt (0 : Int32) else nrt 1) u = _)
  rw [e1]
  rcases Nat.lt_or_ge n 500 with z | z
  · refine Or.inl ⟨z, ?_⟩
    have h5 : nI n < (500 : Int32) := nI_lt (b := 500) z (by decide)
    rw [if_pos h5]
    rfl
  · have : n = 500 := by omega
    subst this
    exact Or.inr ⟨rfl, rfl⟩
theorem AS_full {k : Nat} {b : Int32 → AG Int32} (hb : ∀ r, AS k (b r)) : AS k (anl x_X1_isFull (fun r => (if r = 0 then anl x_X1_openEntry b else art (-4)))) := fun u n ch C hC hch => by
  rcases isFull_eq hC with ⟨hn, e⟩ | ⟨hn, e⟩
  · obtain ⟨v, ev, hv, hs, -⟩ := hC.opn hn
    obtain ⟨r, w, c, d, n', ch', C', b1, b2, b4, b5, b6, b7, b8⟩ := hb 0 v (n + 1) ch C hv hch
    exact ⟨r, w, c, d, n', ch', C', anl_eq e (anl_eq ev b1), b2, b4, b5, b6, b7, (hs.mono (by decide) (by decide)).trans b8⟩
  · exact ⟨-4, u, 0, 0, n, ch, C, anl_eq e rfl, hC, by omega, by omega, by omega, by omega, Same.rf u⟩
theorem isGrams_c (a : Int32) : x_X11_isGrams a = nrt 0 ∨ (x_X11_isGrams a = nrt 1 ∧ a.toInt ≤ 200000) := by
  unfold x_X11_isGrams
  by_cases h : a < 0
  · rw [if_pos h]; exact Or.inl rfl
  · rw [if_neg h]
    by_cases h2 : 200000 < a
    · rw [if_pos h2]; exact Or.inl rfl
    · rw [if_neg h2]
      have h3 := i32_nlt h2
      have c9 : (200000 : Int32).toInt = 200000 := by decide
      exact Or.inr ⟨rfl, by omega⟩
theorem isMat_c (a : Int32) : x_X11_isMat a = nrt 0 ∨ (x_X11_isMat a = nrt 1 ∧ ∃ m, m < 4 ∧ a = nI m) := by
  unfold x_X11_isMat
  by_cases h : a < 0
  · rw [if_pos h]; exact Or.inl rfl
  · rw [if_neg h]
    by_cases h2 : 4 ≤ a
    · rw [if_pos h2]; exact Or.inl rfl
    · rw [if_neg h2]
      have h3 := i32_nle h2
      have c9 : (4 : Int32).toInt = 4 := by decide
      rw [Int32.lt_iff_toInt_lt, i32_0] at h
      exact Or.inr ⟨rfl, a.toInt.toNat, by omega, nI_ofT (by omega)⟩
theorem isClass_c (a : Int32) : x_X11_isClass a = nrt 0 ∨ (x_X11_isClass a = nrt 1 ∧ ∃ m, m < 4 ∧ a = nI m) := isMat_c a
theorem bB_200 {x : Int32} (h : x.toInt ≤ 200000) : x.toInt ≤ bB := by unfold bB; omega
theorem as_limit (a b d : Int32) : AS 2 (x_X11_limit a b d) := by
  unfold x_X11_limit
  refine AS_ng (tt_x_X11_isClass _) (by decide) (fun _ => AS_ite (fun _ => AS_rt _) (fun _ => ?_))
  rcases isGrams_c b with e | ⟨e, hb⟩
  · rw [e]; exact AS_nrt (AS_ite (fun _ => AS_rt _) (fun z => absurd rfl z))
  · rw [e]
    refine AS_nrt (AS_ite (fun _ => AS_rt _) (fun _ => ?_))
    rcases isGrams_c d with e | ⟨e, hd⟩
    · rw [e]; exact AS_nrt (AS_ite (fun _ => AS_rt _) (fun z => absurd rfl z))
    · rw [e]
      refine AS_nrt (AS_ite (fun _ => AS_rt _) (fun _ => AS_ite (fun _ => ?_) (fun _ => AS_rt _)))
      refine AS_ng (tt_x_X0_isDrawn _) (by decide) (fun _ => AS_ite (fun _ => ?_) (fun _ => AS_rt _))
      refine AS_ng (tt_x_X8_wasAnyAtScales _) (by decide) (fun _ => AS_ite (fun _ => AS_full (fun _ => ?_)) (fun _ => AS_rt _))
      exact AS_ng (tt_x_X1_ofClass _ _) (by decide) (fun _ => AS_put (Or.inl (bB_200 hb)) (fun _ => AS_ng (tt_x_X1_ofClass _ _) (by decide) (fun _ => AS_put (Or.inl (bB_200 hd)) (fun _ => AS_rt _))))
theorem as_now (a : Int32) : AS 1 (x_X11_now a) := by
  unfold x_X11_now
  refine AS_GT (fun _ => AS_ite (fun _ => AS_rt _) (fun _ => AS_ite (fun h => AS_full (fun _ => AS_put (Or.inl ?_) (fun _ => AS_rt _))) (fun _ => AS_rt _)))
  have h3 := Int32.le_iff_toInt_le.mp h
  have c9 : (1440 : Int32).toInt = 1440 := by decide
  unfold bB
  omega
theorem as_rest (a : Int32) : AS 1 (x_X11_rest a) := by
  unfold x_X11_rest
  exact AS_ite (fun _ => AS_rt _) (fun _ => AS_ite (fun h => AS_full (fun _ => AS_GT (fun _ => AS_put (Or.inr (by decide)) (fun _ => AS_rt _)))) (fun _ => AS_rt _))
theorem as_seed (a b : Int32) : AS 1 (x_X11_seed a b) := by
  unfold x_X11_seed
  refine AS_ng (tt_x_X8_has _) (by decide) (fun _ => AS_ite (fun _ => AS_rt _) (fun _ => AS_ite (fun _ => AS_rt _) (fun _ => AS_ite (fun h => ?_) (fun _ => AS_rt _))))
  refine AS_ng (tt_x_X8_classOf _) (by decide) (fun _ => AS_ng (tt_x_X0_isDrawn _) (by decide) (fun _ => AS_ite (fun _ => ?_) (fun _ => AS_rt _)))
  refine AS_ng (tt_x_X8_isSeedOfAnother _ _) (by decide) (fun _ => AS_ite (fun _ => AS_full (fun _ => ?_)) (fun _ => AS_rt _))
  refine AS_ng (tt_x_X1_ofFighter _ _) (by decide) (fun _ => AS_GT (fun _ => AS_ng (tt_x_X1_ofFighter _ _) (by decide) (fun _ => AS_put (Or.inl ?_) (fun _ => AS_rt _))))
  have h3 := Int32.le_iff_toInt_le.mp h
  have c9 : (8 : Int32).toInt = 8 := by decide
  unfold bB
  omega
theorem ap_putOnScales (a b : Int32) (hb : b.toInt ≤ bB) : AP [0, 60, 65] [0, 1, 2] 2 (x_X8_putOnScales a b) := by
  unfold x_X8_putOnScales
  have ht : ∀ (c : Int32) (x y : Int32), AP [0, 60, 65] [0, 1, 2] 2 (anl (x_X1_ofFighter a 2) (fun r_12 => acl (x_X1_put r_12 b) (fun r_15 => anl (x_X1_ofFighter a 3) (fun r_24 => (if c = 0 then acl (x_X1_put r_24 2) (fun r_28 => art x) else acl (x_X1_put r_24 1) (fun r_37 => art y)))))) := fun c x y =>
    AP_ng (tt_x_X1_ofFighter _ _) (by decide) (fun _ => AP_put (Or.inl hb) (by decide) (by decide) (fun _ => AP_ng (tt_x_X1_ofFighter _ _) (by decide) (fun _ => AP_ite (fun _ => AP_put (Or.inl (by decide)) (by decide) (by decide) (fun _ => AP_rt _)) (fun _ => AP_put (Or.inl (by decide)) (by decide) (by decide) (fun _ => AP_rt _)))))
  refine AP_ng (tt_x_X8_classOf _) (by decide) (fun _ => AP_ng (tt_x_X1_ofClass _ _) (by decide) (fun _ => AP_GA (fun _ => AP_ite (fun _ => ht _ _ _) (fun _ => ?_))))
  exact AP_ng (tt_x_X1_ofClass _ _) (by decide) (fun _ => AP_GA (fun _ => AP_ite (fun _ => ht _ _ _) (fun _ => ht _ _ _)))
theorem as_weigh (a b : Int32) : AS 2 (x_X11_weigh a b) := by
  unfold x_X11_weigh
  refine AS_ng (tt_x_X8_has _) (by decide) (fun _ => AS_ite (fun _ => AS_rt _) (fun _ => ?_))
  rcases isGrams_c b with e | ⟨e, hb⟩
  · rw [e]; exact AS_nrt (AS_ite (fun _ => AS_rt _) (fun z => absurd rfl z))
  · rw [e]
    refine AS_nrt (AS_ite (fun _ => AS_rt _) (fun _ => ?_))
    refine AS_ng (tt_x_X8_classOf _) (by decide) (fun _ => AS_ng (tt_x_X0_isDrawn _) (by decide) (fun _ => AS_ite (fun _ => AS_full (fun _ => ?_)) (fun _ => AS_rt _)))
    exact AS_ap (k1 := 2) (k2 := 0) (AS_of (ap_putOnScales _ _ (bB_200 hb)) (by decide)) (fun _ => AS_ite (fun _ => AS_rt _) (fun _ => AS_rt _))
theorem ap_add {u : MS} {ch C : Nat} (a b : Int32) (ha : a.toInt ≤ bB) (hb : b.toInt ≤ bB) (h : Kb u ch C) (h96 : ¬ 96 ≤ rg (u.2 0) 2088 2) (hch : ch + 6 ≤ 1048576) : APu [0, 60, 65] [0, 1, 2] 6 (x_X8_add a b) u ch C := by
  have h1 : (rg (u.2 0) 2088 2 + 1).toInt ≤ bB := by
    have h3 := i32_nle h96
    have c9 : (96 : Int32).toInt = 96 := by decide
    have h4 := i32_b (rg (u.2 0) 2088 2)
    rw [i32_add _ 1 (by rw [i32_1]; omega) (by rw [i32_1]; omega), i32_1]
    unfold bB
    omega
  have hq : AP [0, 60, 65] [0, 1, 2] 6 (acl (x_X1_put 2 (rg (u.2 0) 2088 2 + 1)) (fun r_4 => anl (x_X1_ofFighter (rg (u.2 0) 2088 2) 0) (fun r_13 => acl (x_X1_put r_13 b) (fun r_16 => anl (x_X1_ofFighter (rg (u.2 0) 2088 2) 1) (fun r_25 => acl (x_X1_put r_25 a) (fun r_28 => anl (x_X1_ofFighter (rg (u.2 0) 2088 2) 2) (fun r_37 => acl (x_X1_put r_37 (-1)) (fun r_40 => anl (x_X1_ofFighter (rg (u.2 0) 2088 2) 5) (fun r_49 => acl (x_X1_put r_49 (-1)) (fun r_52 => anl (x_X1_ofFighter (rg (u.2 0) 2088 2) 6) (fun r_61 => acl (x_X1_put r_61 (-1)) (fun r_64 => art (rg (u.2 0) 2088 2)))))))))))) ) := by
    refine AP_put (Or.inl h1) (by decide) (by decide) (fun _ => AP_ng (tt_x_X1_ofFighter _ _) (by decide) (fun _ => AP_put (Or.inl hb) (by decide) (by decide) (fun _ => AP_ng (tt_x_X1_ofFighter _ _) (by decide) (fun _ => AP_put (Or.inl ha) (by decide) (by decide) (fun _ => ?_)))))
    refine AP_ng (tt_x_X1_ofFighter _ _) (by decide) (fun _ => AP_put (Or.inl (by decide)) (by decide) (by decide) (fun _ => ?_))
    refine AP_ng (tt_x_X1_ofFighter _ _) (by decide) (fun _ => AP_put (Or.inl (by decide)) (by decide) (by decide) (fun _ => ?_))
    exact AP_ng (tt_x_X1_ofFighter _ _) (by decide) (fun _ => AP_put (Or.inl (by decide)) (by decide) (by decide) (fun _ => AP_rt _))
  exact hq u ch C h hch
theorem as_enter (a b : Int32) : AS 6 (x_X11_enter a b) := by
  unfold x_X11_enter
  refine AS_ite (fun _ => AS_rt _) (fun _ => AS_ite (fun _ => AS_rt _) (fun h16 => ?_))
  have ha : a.toInt ≤ bB := by
    have h3 := i32_nle h16
    have c9 : (16 : Int32).toInt = 16 := by decide
    unfold bB
    omega
  rcases isClass_c b with e | ⟨e, m, hm, rfl⟩
  · rw [e]; exact AS_nrt (AS_ite (fun _ => AS_rt _) (fun z => absurd rfl z))
  · rw [e]
    have hb : (nI m).toInt ≤ bB := by rw [nI_toInt (by omega)]; unfold bB; omega
    refine AS_nrt (AS_ite (fun _ => AS_rt _) (fun _ => AS_ng (tt_x_X0_isDrawn _) (by decide) (fun _ => AS_ite (fun _ => ?_) (fun _ => AS_rt _))))
    intro u n ch C hC hch
    have ep : x_X8_people u = some (rg (u.2 0) 2088 2, u) := rfl
    by_cases h96 : 96 ≤ rg (u.2 0) 2088 2
    · exact ⟨-4, u, 0, 0, n, ch, C, anl_eq ep (by rw [if_pos h96]; rfl), hC, by omega, by omega, by omega, by omega, Same.rf u⟩
    · rcases isFull_eq hC with ⟨hn, ef⟩ | ⟨hn, ef⟩
      · obtain ⟨v, ev, hv, hs, h0⟩ := hC.opn hn
        obtain ⟨r, w, c, d, ch', C', b1, b2, b3, b4, b5, b6, b7, b8⟩ := ap_add a (nI m) ha hb hv.1 (by rw [h0]; exact h96) hch
        refine ⟨r, w, c + 0, d + 0, n + 1, ch', C', anl_eq ep (by rw [if_neg h96]; refine anl_eq ef ?_; rw [if_pos rfl]; refine anl_eq ev ?_; exact acl_eq b1 rfl), ⟨b2, hv.2.1.up (b8.1 1 (by decide)) (b8.2 3 (by decide)) b3, ?_⟩, b4, b5, by omega, by omega, (hs.mono (by decide) (by decide)).trans (b8.mono (by decide) (by decide))⟩
        unfold Rww
        rw [b8.2 11 (by decide)]
        exact hv.2.2
      · exact ⟨-4, u, 0, 0, n, ch, C, anl_eq ep (by rw [if_neg h96]; exact anl_eq ef rfl), hC, by omega, by omega, by omega, by omega, Same.rf u⟩
theorem as_decide (a b : Int32) : AS 8 (x_X11_decide a b) := by
  unfold x_X11_decide
  refine AS_ng (tt_x_X11_isMat _) (by decide) (fun _ => AS_ite (fun _ => AS_rt _) (fun _ => AS_ng (tt_x_X11_isSide _) (by decide) (fun _ => AS_ite (fun _ => AS_rt _) (fun _ => ?_))))
  refine AS_ng (tt_x_X3_waits _) (by decide) (fun _ => AS_ite (fun _ => AS_rt _) (fun _ => AS_full (fun _ => ?_)))
  exact AS_ap (k1 := 8) (k2 := 0) (AS_of (ap_finish _ _ _ _ (by decide)) (by decide)) (fun _ => AS_ng (tt_x_X3_classOn _) (by decide) (fun _ => AS_ng (tt_x_X0_settle _) (by decide) (fun _ => AS_rt _)))
theorem as_strike (a b : Int32) : AS 148 (x_X11_strike a b) := by
  unfold x_X11_strike
  refine AS_ng (tt_x_X0_has _ _) (by decide) (fun _ => AS_ite (fun _ => AS_rt _) (fun _ => AS_ng (tt_x_X0_stateOf _ _) (by decide) (fun _ => AS_ite (fun _ => AS_full (fun _ => ?_)) (fun _ => AS_rt _))))
  exact AS_ap (k1 := 148) (k2 := 0) (AS_of (ap_strikeFrom _ _) (by decide)) (fun _ => AS_rt _)
theorem AS_LW {β : Type} {k : Nat} {LN : MS → MS} (hLN : ∀ u, ((LN u).1 3).toInt ≤ bB) {q : MS → AG β} (hq : ∀ L : MS, (L.1 3).toInt ≤ bB → AS k (q L)) : AS k (anl (nLW LN) q) := fun u n ch C h hch => hq (LN u) (hLN u) u n ch C h hch
theorem as_begin (LN : MS → MS) (hLN : ∀ u, ((LN u).1 3).toInt ≤ bB) (a b d : Int32) : AS 27 (x_X11_begin LN a b d) := by
  unfold x_X11_begin
  refine AS_ng (tt_x_X0_has _ _) (by decide) (fun _ => AS_ite (fun _ => AS_rt _) (fun _ => ?_))
  rcases isMat_c d with e | ⟨e, m, hm, rfl⟩
  · rw [e]; exact AS_nrt (AS_ite (fun _ => AS_rt _) (fun z => absurd rfl z))
  · rw [e]
    refine AS_nrt (AS_ite (fun _ => AS_rt _) (fun _ => AS_ng (tt_x_X0_stateOf _ _) (by decide) (fun _ => ?_)))
    have ht : ∀ c : Int32, AS 27 (anl (nLW LN) (fun L_72 => (if (L_72.1 3) = 0 then art (-3) else (if c = 0 then art (-3) else anl (x_X3_isFree (nI m)) (fun r_79 => (if r_79 = 0 then art (-3) else anl (x_X0_whiteOf a b) (fun r_83 => anl (x_X3_isHeld r_83) (fun r_86 => (if r_86 = 0 then anl (x_X0_blueOf a b) (fun r_90 => anl (x_X3_isHeld r_90) (fun r_93 => (if r_93 = 0 then anl (x_X1_isFull) (fun r_97 => (if r_97 = 0 then anl (x_X1_openEntry) (fun r_101 => anl (nLW LN) (fun L_103 => acl (x_X3_start (L_103.1 0) a b (nI m)) (fun r_108 => anl (nLW LN) (fun L_116 => acl (x_X3_turnOver L_116 (nI m)) (fun r_121 => anl (x_X0_settle a) (fun r_130 => art (1 : Int32))))))) else art (-4))) else art (-5)))) else art (-5)))))))))) := fun c => by
      refine AS_LW hLN (fun L _ => AS_ite (fun _ => AS_rt _) (fun _ => AS_ite (fun _ => AS_rt _) (fun _ => ?_)))
      refine AS_ng (tt_x_X3_isFree _) (by decide) (fun _ => AS_ite (fun _ => AS_rt _) (fun _ => ?_))
      refine AS_ng (tt_x_X0_whiteOf _ _) (by decide) (fun _ => AS_ng (tt_x_X3_isHeld _) (by decide) (fun _ => AS_ite (fun _ => ?_) (fun _ => AS_rt _)))
      refine AS_ng (tt_x_X0_blueOf _ _) (by decide) (fun _ => AS_ng (tt_x_X3_isHeld _) (by decide) (fun _ => AS_ite (fun _ => AS_full (fun _ => ?_)) (fun _ => AS_rt _)))
      refine AS_LW hLN (fun L2 _ => AS_ap (k1 := 25) (k2 := 2) (AS_of (ap_start _ _ _ m hm) (by decide)) (fun _ => AS_LW hLN (fun L3 _ => ?_)))
      exact AS_ap (k1 := 2) (k2 := 0) (AS_of (ap_turnOver _ m hm) (by decide)) (fun _ => AS_ng (tt_x_X0_settle _) (by decide) (fun _ => AS_rt _))
    exact AS_ite (fun _ => ht 1) (fun _ => ht 0)
theorem as_event (LN : MS → MS) (hLN : ∀ u, ((LN u).1 3).toInt ≤ bB) (a b d : Int32) : AS 9 (x_X11_event LN a b d) := by
  unfold x_X11_event
  refine AS_ng (tt_x_X11_isMat _) (by decide) (fun _ => AS_ite (fun _ => AS_rt _) (fun _ => AS_ng (tt_x_X11_isSide _) (by decide) (fun _ => AS_ite (fun _ => AS_rt _) (fun _ => AS_ite (fun _ => AS_rt _) (fun _ => ?_)))))
  refine AS_LW hLN (fun L _ => AS_ite (fun _ => ?_) (fun _ => AS_rt _))
  refine AS_ng (tt_x_X3_goesOn _) (by decide) (fun _ => AS_ite (fun _ => AS_rt _) (fun _ => AS_full (fun _ => ?_)))
  refine AS_ap (k1 := 1) (k2 := 8) (AS_of (ap_giveSign _ _ _) (by decide)) (fun _ => AS_LW hLN (fun L2 h2 => ?_))
  exact AS_ap (k1 := 8) (k2 := 0) (AS_of (ap_ask _ h2 _) (by decide)) (fun _ => AS_ng (tt_x_X3_classOn _) (by decide) (fun _ => AS_ng (tt_x_X0_settle _) (by decide) (fun _ => AS_rt _)))
theorem as_tick (LN : MS → MS) (hLN : ∀ u, ((LN u).1 3).toInt ≤ bB) (a b : Int32) : AS 11 (x_X11_tick LN a b) := by
  unfold x_X11_tick
  rcases isMat_c a with e | ⟨e, m, hm, rfl⟩
  · rw [e]; exact AS_nrt (AS_ite (fun _ => AS_rt _) (fun z => absurd rfl z))
  · rw [e]
    refine AS_nrt (AS_ite (fun _ => AS_rt _) (fun _ => AS_ite (fun _ => AS_rt _) (fun _ => AS_ite (fun _ => ?_) (fun _ => AS_rt _))))
    refine AS_ng (tt_x_X3_goesOn _) (by decide) (fun _ => AS_ite (fun _ => AS_rt _) (fun _ => ?_))
    refine AS_ng (tt_x_X1_ofMat _ _) (by decide) (fun _ => AS_GT (fun _ => AS_ite (fun _ => AS_full (fun _ => ?_)) (fun _ => AS_rt _)))
    refine AS_ap (k1 := 1) (k2 := 10) (AS_of (ap_letPass _ m hm) (by decide)) (fun _ => AS_LW hLN (fun L2 h2 => ?_))
    refine AS_ap (k1 := 8) (k2 := 2) (AS_of (ap_ask _ h2 _) (by decide)) (fun _ => AS_LW hLN (fun L3 _ => ?_))
    exact AS_ap (k1 := 2) (k2 := 0) (AS_of (ap_turnOver _ m hm) (by decide)) (fun _ => AS_ng (tt_x_X3_classOn _) (by decide) (fun _ => AS_ng (tt_x_X0_settle _) (by decide) (fun _ => AS_rt _)))

