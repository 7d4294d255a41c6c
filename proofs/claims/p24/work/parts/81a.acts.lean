/-! ===== programs that put ===== -/
theorem Kb.same {l1 l2 : List Nat} {u v : MS} {ch C : Nat} (h : Kb u ch C) (hs : Same l1 l2 u v) (h1 : ¬ 0 ∈ l1 ∧ ¬ 60 ∈ l1 ∧ ¬ 65 ∈ l1) (h2 : ¬ 0 ∈ l2 ∧ ¬ 1 ∈ l2 ∧ ¬ 2 ∈ l2) : Kb v ch C := by
  obtain ⟨a, b, c, d, e, f, g, k⟩ := h
  unfold Kb
  rw [hs.1 0 h1.1, hs.1 60 h1.2.1, hs.1 65 h1.2.2, hs.2 0 h2.1, hs.2 1 h2.2.1, hs.2 2 h2.2.2]
  exact ⟨a, b, c, d, e, f, g, k⟩
theorem AP_rt {β : Type} {LI LA : List Nat} {k : Nat} (x : β) : AP LI LA k (art x) := fun u ch C h _ => ⟨x, u, 0, 0, ch, C, rfl, h, by omega, by omega, by omega, by omega, by omega, Same.rf u⟩
theorem AP_li {β : Type} {LI LA : List Nat} {k : Nat} {x : Int32} {q : Int32 → AG β} (h : AP LI LA k (q x)) : AP LI LA k (ali x q) := h
theorem AP_ite {β : Type} {LI LA : List Nat} {k : Nat} {b : Prop} [Decidable b] {p q : AG β} (h1 : b → AP LI LA k p) (h2 : ¬ b → AP LI LA k q) : AP LI LA k (if b then p else q) := by
  by_cases h : b
  · rw [if_pos h]; exact h1 h
  · rw [if_neg h]; exact h2 h
theorem AP_nlS {α β : Type} {l1 l2 LI LA : List Nat} {k : Nat} {p : NG α} {q : α → AG β} (hp : T l1 l2 p) (h1 : ¬ 0 ∈ l1 ∧ ¬ 60 ∈ l1 ∧ ¬ 65 ∈ l1) (h2 : ¬ 0 ∈ l2 ∧ ¬ 1 ∈ l2 ∧ ¬ 2 ∈ l2) (h3 : ∀ k ∈ l1, k ∈ LI) (h4 : ∀ k ∈ l2, k ∈ LA) (hq : ∀ a, AP LI LA k (q a)) : AP LI LA k (anl p q) := fun u ch C h hch => by
  obtain ⟨a, v, e, hs⟩ := hp u
  obtain ⟨r, w, c, d, ch', C', b1, b2, b3, b4, b5, b6, b7, b8⟩ := hq a v ch C (h.same hs h1 h2) hch
  exact ⟨r, w, c, d, ch', C', anl_eq e b1, b2, b3, b4, b5, b6, b7, (hs.mono h3 h4).trans b8⟩
theorem AP_GT {β : Type} {LI LA : List Nat} {k : Nat} {i : Int32} {q : Int32 → AG β} (hq : ∀ x, ((i = 0 ∨ i = 2) → x.toInt ≤ bB) → AP LI LA k (q x)) : AP LI LA k (anl (nGT 0 2088 i) q) := fun u ch C h hch => by
  refine hq (rg (u.2 0) 2088 i) (fun z => ?_) u ch C h hch
  obtain ⟨-, -, -, -, -, b0, b2, -⟩ := h
  rcases z with rfl | rfl
  · have e : rg (u.2 0) 2088 0 = u.2 0 0 := rg_in (j := 0) (by decide) (by decide)
    rw [e]; exact b0
  · have e : rg (u.2 0) 2088 2 = u.2 0 2 := rg_in (j := 2) (by decide) (by decide)
    rw [e]; exact b2
theorem AP_GA {β : Type} {LI LA : List Nat} {k a n : Nat} {i : Int32} {q : Int32 → AG β} (hq : ∀ x, AP LI LA k (q x)) : AP LI LA k (anl (nGT a n i) q) := fun u ch C h hch => hq (rg (u.2 a) n i) u ch C h hch
theorem AP_ap {α β : Type} {l1 l2 LI LA : List Nat} {k1 k2 : Nat} {p : AG α} {q : α → AG β} (hp : AP l1 l2 k1 p) (h3 : ∀ k ∈ l1, k ∈ LI) (h4 : ∀ k ∈ l2, k ∈ LA) (hq : ∀ a, AP LI LA k2 (q a)) : AP LI LA (k1 + k2) (acl p q) := fun u ch C h hch => by
  obtain ⟨a, v, c, d, ch', C', b1, b2, b3, b4, b5, b6, b7, b8⟩ := hp u ch C h (by omega)
  obtain ⟨r, w, c2, d2, ch2, C2, e1, e2, e3, e4, e5, e6, e7, e8⟩ := hq a v ch' C' b2 (by omega)
  exact ⟨r, w, c + c2, d + d2, ch2, C2, acl_eq b1 e1, e2, by omega, by omega, by omega, by omega, by omega, (b8.mono h3 h4).trans e8⟩
theorem AP.up {β : Type} {LI LA : List Nat} {k k2 : Nat} {p : AG β} (h : AP LI LA k p) (hk : k ≤ k2) : AP LI LA k2 p := fun u ch C hK hch => by
  obtain ⟨r, v, c, d, ch', C', b1, b2, b3, b4, b5⟩ := h u ch C hK (by omega)
  exact ⟨r, v, c, d, ch', C', b1, b2, b3, by omega, b5⟩
theorem AP.mono {β : Type} {l1 l2 LI LA : List Nat} {k : Nat} {p : AG β} (h : AP l1 l2 k p) (h3 : ∀ k ∈ l1, k ∈ LI) (h4 : ∀ k ∈ l2, k ∈ LA) : AP LI LA k p := fun u ch C hK hch => by
  obtain ⟨r, v, c, d, ch', C', b1, b2, b3, b4, b5, b6, b7, b8⟩ := h u ch C hK hch
  exact ⟨r, v, c, d, ch', C', b1, b2, b3, b4, b5, b6, b7, b8.mono h3 h4⟩
theorem AP_put {β : Type} {LI LA : List Nat} {k : Nat} {a0 a1 : Int32} {q : Int32 → AG β} (hv : a1.toInt ≤ bB ∨ (¬ a0 = 0 ∧ ¬ a0 = 2)) (h3 : ∀ k ∈ [0, 60, 65], k ∈ LI) (h4 : ∀ k ∈ [0, 1, 2], k ∈ LA) (hq : ∀ a, AP LI LA k (q a)) : AP LI LA (k + 1) (acl (x_X1_put a0 a1) q) := by
  have h := AP_ap (ap_put a0 a1 hv) h3 h4 hq
  rw [Nat.add_comm] at h
  exact h
theorem oF_ne (r : Int32) (f : Nat) (hf : f = 0 ∨ f = 1 ∨ f = 2 ∨ f = 3 ∨ f = 5 ∨ f = 7) : ¬ (820 + r * 8 + nI f = 0) ∧ ¬ (820 + r * 8 + nI f = 2) := by
  have hm : (820 + r * 8 + nI f).toBitVec.toNat % 8 = (4 + f) % 8 := by
    have e : (820 + r * 8 + nI f).toBitVec = 820#32 + r.toBitVec * 8#32 + (nI f).toBitVec := rfl
    rw [e, BitVec.toNat_add, BitVec.toNat_add, BitVec.toNat_mul]
    have e1 : (820#32).toNat = 820 := rfl
    have e2 : (8#32).toNat = 8 := rfl
    have e3 : (nI f).toBitVec.toNat = f := by
      rcases hf with rfl | rfl | rfl | rfl | rfl | rfl <;> rfl
    rw [e1, e2, e3]
    omega
  refine ⟨fun z => ?_, fun z => ?_⟩
  · rw [z] at hm
    have e : (0 : Int32).toBitVec.toNat = 0 := rfl
    rw [e] at hm
    omega
  · rw [z] at hm
    have e : (2 : Int32).toBitVec.toNat = 2 := rfl
    rw [e] at hm
    omega
theorem AP_oF {β : Type} {LI LA : List Nat} {k : Nat} {a b : Int32} {q : Int32 → AG β} (f : Nat) (hf : f = 0 ∨ f = 1 ∨ f = 2 ∨ f = 3 ∨ f = 5 ∨ f = 7) (hq : ∀ r, (¬ r = 0 ∧ ¬ r = 2) → AP LI LA k (q r)) : AP LI LA k (anl (x_X1_ofFight a b (nI f)) q) := fun u ch C h hch => hq (820 + (a * 37 + b) * 8 + nI f) (oF_ne _ f hf) u ch C h hch
theorem oM_ne : ∀ m < 4, ∀ f < 5, ¬ ((2004 : Int32) + nI m * 21 + nI f = 0) ∧ ¬ ((2004 : Int32) + nI m * 21 + nI f = 2) := by decide +kernel
theorem AP_oM {β : Type} {LI LA : List Nat} {k m : Nat} {q : Int32 → AG β} (hm : m < 4) (f : Nat) (hf : f < 5) (hq : ∀ r, (¬ r = 0 ∧ ¬ r = 2) → AP LI LA k (q r)) : AP LI LA k (anl (x_X1_ofMat (nI m) (nI f)) q) := fun u ch C h hch => hq (2004 + nI m * 21 + nI f) (oM_ne m hm f hf) u ch C h hch
theorem AP_ng {α β : Type} {l1 l2 LI LA : List Nat} {k : Nat} {p : NG α} {q : α → AG β} (hp : T l1 l2 p) (h : (decide (¬ 0 ∈ l1 ∧ ¬ 60 ∈ l1 ∧ ¬ 65 ∈ l1) && decide (¬ 0 ∈ l2 ∧ ¬ 1 ∈ l2 ∧ ¬ 2 ∈ l2) && l1.all (fun k => LI.contains k) && l2.all (fun k => LA.contains k)) = true) (hq : ∀ a, AP LI LA k (q a)) : AP LI LA k (anl p q) := by
  have h1 := Bool.and_eq_true_iff.mp h
  have h2 := Bool.and_eq_true_iff.mp h1.1
  have h3 := Bool.and_eq_true_iff.mp h2.1
  refine AP_nlS hp (of_decide_eq_true h3.1) (of_decide_eq_true h3.2) (fun k hk => ?_) (fun k hk => ?_) hq
  · exact List.contains_iff_mem.mp (List.all_eq_true.mp h2.2 k hk)
  · exact List.contains_iff_mem.mp (List.all_eq_true.mp h1.2 k hk)
/-! leave, finish, ask -/
theorem ap_leave (a : Int32) : AP [0, 60, 65] [0, 1, 2] 3 (x_X3_leave a) := by
  unfold x_X3_leave
  refine AP_ng (tt_x_X3_fighterOn _ _) (by decide) (fun _ => AP_ng (tt_x_X1_ofFighter _ _) (by decide) (fun _ => AP_GT (fun x hx => AP_put (Or.inl (hx (Or.inl rfl))) (by decide) (by decide) (fun _ => ?_))))
  refine AP_ng (tt_x_X3_fighterOn _ _) (by decide) (fun _ => AP_ng (tt_x_X1_ofFighter _ _) (by decide) (fun _ => AP_GT (fun x hx => AP_put (Or.inl (hx (Or.inl rfl))) (by decide) (by decide) (fun _ => ?_))))
  exact AP_ng (tt_x_X1_ofMat _ _) (by decide) (fun _ => AP_put (Or.inl (by decide)) (by decide) (by decide) (fun _ => AP_rt _))
theorem ap_finish (a b c d : Int32) (hc : c.toInt ≤ bB) : AP [0, 60, 65] [0, 1, 2] 8 (x_X3_finish a b c d) := by
  unfold x_X3_finish
  refine AP_ng (tt_x_X3_on _ _) (by decide) (fun _ => AP_ng (tt_x_X3_on _ _) (by decide) (fun _ => AP_ng (tt_x_X3_fighterOn _ _) (by decide) (fun _ => ?_)))
  refine AP_oF 0 (by decide) (fun r hr => AP_put (Or.inr hr) (by decide) (by decide) (fun _ => ?_))
  refine AP_oF 3 (by decide) (fun r hr => AP_put (Or.inr hr) (by decide) (by decide) (fun _ => ?_))
  refine AP_ng (tt_x_X1_ofFight _ _ _) (by decide) (fun _ => AP_put (Or.inl hc) (by decide) (by decide) (fun _ => ?_))
  refine AP_oF 5 (by decide) (fun r hr => AP_put (Or.inr hr) (by decide) (by decide) (fun _ => ?_))
  refine AP_ng (tt_x_X1_ofFight _ _ _) (by decide) (fun _ => AP_GT (fun x hx => AP_put (Or.inl (hx (Or.inl rfl))) (by decide) (by decide) (fun _ => ?_)))
  exact AP_ap (k1 := 3) (k2 := 0) (ap_leave _) (by decide) (by decide) (fun _ => AP_rt _)
theorem ap_ask_13 (L : MS) (v2 v3 : Int32) (h3 : v3.toInt ≤ bB) (K : Int32 → Int32 → Int32 → AG Int32) (hK : ∀ v4, AP [0, 16, 60, 65] [0, 1, 2, 18] 8 (K v2 v3 v4)) : ∀ (n : Nat) (v4 : Int32), msr v4 ≤ n → AP [0, 16, 60, 65] [0, 1, 2, 18] 8 (xl_X3_ask_13 L n v2 v3 v4 K) := by
  intro n
  induction n with
  | zero =>
    intro v4 hm
    exact absurd hm (msr_0 _)
  | succ n ih =>
    intro v4 hm
    unfold xl_X3_ask_13
    refine AP_ite (fun _ => hK _) (fun h => AP_ng (tt_x_X3_holds _ _ _ _) (by decide) (fun _ => AP_ite (fun _ => AP_li (ih _ (msr_up h hm))) (fun _ => ?_)))
    exact AP_ap (k1 := 8) (k2 := 0) (ap_finish _ _ _ _ h3) (by decide) (by decide) (fun _ => AP_rt _)
theorem ap_ask_2 (L : MS) (hL : (L.1 3).toInt ≤ bB) (v2 : Int32) (K : Int32 → Int32 → AG Int32) (hK : ∀ v3, AP [0, 16, 60, 65] [0, 1, 2, 18] 8 (K v2 v3)) : ∀ (n : Nat) (v3 : Int32), msr v3 ≤ n → AP [0, 16, 60, 65] [0, 1, 2, 18] 8 (xl_X3_ask_2 L n v2 v3 K) := by
  intro n
  induction n with
  | zero =>
    intro v3 hm
    exact absurd hm (msr_0 _)
  | succ n ih =>
    intro v3 hm
    unfold xl_X3_ask_2
    refine AP_ite (fun _ => hK _) (fun h => ?_)
    have h3 : v3.toInt ≤ bB := by
      have := i32_nle h
      omega
    exact ap_ask_13 L v2 v3 h3 _ (fun _ => AP_li (ih _ (msr_up h hm))) fuel 0 (msr_fuel _)
theorem ap_ask (L : MS) (hL : (L.1 3).toInt ≤ bB) (a : Int32) : AP [0, 16, 60, 65] [0, 1, 2, 18] 8 (x_X3_ask L a) := by
  unfold x_X3_ask
  exact ap_ask_2 L hL a _ (fun _ => AP_rt _) fuel 0 (msr_fuel _)
theorem ap_drop (a b : Int32) : AP [0, 60, 65] [0, 1, 2] 4 (x_X3_drop a b) := by
  unfold x_X3_drop
  refine AP_ng (tt_x_X1_ofFight _ _ _) (by decide) (fun _ => AP_GA (fun _ => AP_ite (fun _ => ?_) (fun _ => ?_)))
  · refine AP_ng (tt_x_X1_ofFight _ _ _) (by decide) (fun _ => AP_GA (fun _ => ?_))
    refine AP_ap (k1 := 3) (k2 := 1) (ap_leave _) (by decide) (by decide) (fun _ => ?_)
    exact AP_ng (tt_x_X1_ofFight _ _ _) (by decide) (fun _ => AP_put (Or.inl (by decide)) (by decide) (by decide) (fun _ => AP_rt _))
  · exact AP_ng (tt_x_X1_ofFight _ _ _) (by decide) (fun _ => AP_put (k := 3) (Or.inl (by decide)) (by decide) (by decide) (fun _ => AP_rt _))
theorem ap_strikeFrom_8 (v1 v2 : Int32) (K : Int32 → Int32 → Int32 → Int32 → Int32 → AG Int32) (hK : ∀ v3 v4 v5, AP [0, 60, 65] [0, 1, 2, 13, 14, 15, 16, 17] 0 (K v1 v2 v3 v4 v5)) : ∀ (t j n : Nat) (v3 v4 : Int32), j + t = 37 → t < n → AP [0, 60, 65] [0, 1, 2, 13, 14, 15, 16, 17] (4 * t) (xl_X3_strikeFrom_8 n v1 v2 v3 v4 (nI j) K) := by
  intro t
  induction t with
  | zero =>
    intro j n v3 v4 hj hn
    cases n with
    | zero => omega
    | succ n =>
      have : j = 37 := by omega
      subst this
      unfold xl_X3_strikeFrom_8
      exact AP_ite (fun _ => hK _ _ _) (fun h => absurd (Int32.le_refl _) h)
  | succ t ih =>
    intro j n v3 v4 hj hn
    cases n with
    | zero => omega
    | succ n =>
      unfold xl_X3_strikeFrom_8
      refine AP_ite (fun _ => (hK _ _ _).up (by omega)) (fun _ => AP_ite (fun _ => (hK _ _ _).up (by omega)) (fun _ => ?_))
      have e : 4 * (t + 1) = 4 + 4 * t := by omega
      rw [e]
      refine AP_ap (ap_drop _ _) (by decide) (by decide) (fun _ => AP_li (AP_ng (tt_x_X0_settle _) (by decide) (fun _ => AP_ng (tt_x_X0_firstStale _) (by decide) (fun _ => AP_li ?_))))
      rw [nI_1]
      exact ih (j + 1) n _ _ (by omega) (by omega)
theorem ap_strikeFrom (a b : Int32) : AP [0, 60, 65] [0, 1, 2, 13, 14, 15, 16, 17] 148 (x_X3_strikeFrom a b) := by
  unfold x_X3_strikeFrom
  exact ap_strikeFrom_8 a b _ (fun _ _ _ => AP_rt _) 37 0 fuel 0 b (by omega) (by unfold fuel; omega)
theorem ap_start_147 (v1 v2 v3 v4 : Int32) (K : Int32 → Int32 → Int32 → Int32 → Int32 → AG Int32) (hK : ∀ v5, AP [0, 60, 65] [0, 1, 2] 0 (K v1 v2 v3 v4 v5)) : ∀ (t j n : Nat), j + t = 16 → t < n → AP [0, 60, 65] [0, 1, 2] t (xl_X3_start_147 n v1 v2 v3 v4 (nI j) K) := by
  intro t
  induction t with
  | zero =>
    intro j n hj hn
    cases n with
    | zero => omega
    | succ n =>
      have : j = 16 := by omega
      subst this
      unfold xl_X3_start_147
      exact AP_ite (fun _ => hK _) (fun h => absurd (Int32.le_refl _) h)
  | succ t ih =>
    intro j n hj hn
    cases n with
    | zero => omega
    | succ n =>
      unfold xl_X3_start_147
      refine AP_ite (fun _ => (hK _).up (by omega)) (fun _ => AP_ng (tt_x_X1_ofMat _ _) (by decide) (fun _ => AP_put (Or.inl (by decide)) (by decide) (by decide) (fun _ => AP_li ?_)))
      rw [nI_1]
      exact ih (j + 1) n (by omega) (by omega)
theorem ap_start (a b d : Int32) (m : Nat) (hm : m < 4) : AP [0, 60, 65] [0, 1, 2] 25 (x_X3_start a b d (nI m)) := by
  unfold x_X3_start
  refine AP_oF 0 (by decide) (fun r hr => AP_put (Or.inr hr) (by decide) (by decide) (fun _ => ?_))
  refine AP_oF 1 (by decide) (fun r hr => AP_ng (tt_x_X0_whiteOf _ _) (by decide) (fun _ => AP_put (Or.inr hr) (by decide) (by decide) (fun _ => ?_)))
  refine AP_oF 2 (by decide) (fun r hr => AP_ng (tt_x_X0_blueOf _ _) (by decide) (fun _ => AP_put (Or.inr hr) (by decide) (by decide) (fun _ => ?_)))
  refine AP_oF 7 (by decide) (fun r hr => AP_put (Or.inr hr) (by decide) (by decide) (fun _ => ?_))
  refine AP_oM hm 0 (by decide) (fun r hr => AP_put (Or.inr hr) (by decide) (by decide) (fun _ => ?_))
  refine AP_oM hm 1 (by decide) (fun r hr => AP_put (Or.inr hr) (by decide) (by decide) (fun _ => ?_))
  refine AP_oM hm 2 (by decide) (fun r hr => AP_put (Or.inr hr) (by decide) (by decide) (fun _ => ?_))
  refine AP_oM hm 3 (by decide) (fun r hr => AP_put (Or.inr hr) (by decide) (by decide) (fun _ => ?_))
  refine AP_oM hm 4 (by decide) (fun r hr => AP_put (Or.inr hr) (by decide) (by decide) (fun _ => ?_))
  exact ap_start_147 _ _ _ _ _ (fun _ => AP_rt _) 16 0 fuel (by omega) (by unfold fuel; omega)
theorem ap_turnOver (L : MS) (m : Nat) (hm : m < 4) : AP [0, 60, 65] [0, 1, 2] 2 (x_X3_turnOver L (nI m)) := by
  unfold x_X3_turnOver
  refine AP_ng (tt_x_X3_isFree _) (by decide) (fun _ => AP_ite (fun _ => AP_ng (tt_x_X3_on _ _) (by decide) (fun _ => AP_ite (fun _ => AP_ng (tt_x_X3_on _ _) (by decide) (fun _ => AP_ite (fun _ => AP_ite (fun _ => ?_) (fun _ => ?_)) (fun _ => ?_))) (fun _ => AP_rt _))) (fun _ => AP_rt _))
  · exact AP_ng (tt_x_X1_ofMat _ _) (by decide) (fun _ => AP_put (k := 1) (Or.inl (by decide)) (by decide) (by decide) (fun _ => AP_rt _))
  · refine AP_ng (tt_x_X1_ofMat _ _) (by decide) (fun _ => AP_put (Or.inl (by decide)) (by decide) (by decide) (fun _ => ?_))
    exact AP_oM hm 2 (by decide) (fun r hr => AP_put (Or.inr hr) (by decide) (by decide) (fun _ => AP_rt _))
  · exact AP_ng (tt_x_X1_ofMat _ _) (by decide) (fun _ => AP_put (k := 1) (Or.inl (by decide)) (by decide) (by decide) (fun _ => AP_rt _))
theorem ap_giveSign (a b d : Int32) : AP [0, 60, 65] [0, 1, 2] 1 (x_X3_giveSign a b d) := by
  unfold x_X3_giveSign
  refine AP_ng (tt_x_X3_signsOf _ _ _) (by decide) (fun r => AP_ng (tt_x_X1_ofMat _ _) (by decide) (fun _ => AP_put (Or.inl ?_) (by decide) (by decide) (fun _ => AP_rt _)))
  by_cases h : 99 < (r + 1)
  · rw [if_pos h]; decide
  · rw [if_neg h]
    have h1 := i32_nlt h
    have c9 : (99 : Int32).toInt = 99 := by decide
    unfold bB
    omega
theorem ap_letPass (a : Int32) (m : Nat) (hm : m < 4) : AP [0, 60, 65] [0, 1, 2] 1 (x_X3_letPass (nI m) a) := by
  unfold x_X3_letPass
  exact AP_oM hm 2 (by decide) (fun r hr => AP_ng (tt_x_X3_on _ _) (by decide) (fun _ => AP_put (Or.inr hr) (by decide) (by decide) (fun _ => AP_rt _)))

