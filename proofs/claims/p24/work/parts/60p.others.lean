/-! ===== the others' places ===== -/
def clb (w : GS) (f : Nat) : Nat := (w.1.2 6 f).toNatClampNeg
def PO (w : GS) (c : Nat) (C : Nat → Bool) (b k f : Nat) : Bool := decide (due w c f = true ∧ (1 ≤ sdn w f ∨ C (clb w f) = true ∨ (clb w f = b ∧ f < k)))
theorem PO_iff {w : GS} {c : Nat} {C : Nat → Bool} {b k f : Nat} : PO w c C b k f = true ↔ (due w c f = true ∧ (1 ≤ sdn w f ∨ C (clb w f) = true ∨ (clb w f = b ∧ f < k))) := decide_eq_true_iff
theorem PO_ext {w : GS} {c : Nat} {C D : Nat → Bool} {b k b2 k2 f : Nat} (h : (due w c f = true ∧ (1 ≤ sdn w f ∨ C (clb w f) = true ∨ (clb w f = b ∧ f < k))) ↔ (due w c f = true ∧ (1 ≤ sdn w f ∨ D (clb w f) = true ∨ (clb w f = b2 ∧ f < k2)))) : PO w c C b k f = PO w c D b2 k2 f := by
  unfold PO
  exact decide_eq_decide.mpr h
/-- the clubs that were chosen have -1, the others a number -/
def OT (v : GS) (C : Nat → Bool) : Prop := ∀ k, k < 16 → (C k = true → Am v 59 k (-1)) ∧ (C k = false → ∃ q, q ≤ 96 ∧ Am v 59 k (nI q))
theorem OT.mk {v : GS} {C : Nat → Bool} (h : OT v C) {k : Nat} (hk : k < 16) : v.2.2 59 k = true := by
  obtain ⟨h1, h2⟩ := h k hk
  cases hz : C k with
  | true => exact (h1 hz).1
  | false =>
    obtain ⟨q, -, h3⟩ := h2 hz
    exact h3.1
theorem ok_isOther {w v : GS} (hG : iG w) (h96 : nF w ≤ 96) (c k : Nat) (hk : k < nF w) (hd : DF c w v) : Rd (f_isOther (nI c) (nI k)) v (fun r => (r = 1 ∧ due w c k = true ∧ sdn w k = 0) ∨ (r = 0 ∧ ¬ (due w c k = true ∧ sdn w k = 0))) := by
  obtain ⟨⟨c2, hc2, h5⟩, -, -, m8, ⟨q9, hq9, h9⟩, -⟩ := hG k hk
  have hsk : sdn w k = q9 := by unfold sdn; rw [h9.2]; exact nI_clamp (by omega)
  unfold f_isOther
  refine Rd_rdN rfl (by omega) (by decide) (hd.at (by decide) (by decide) (by decide) (Am.val h5.1)) (Rd_ite (fun e5 => ?_) (fun e5 => Rd_rt (Or.inr ⟨rfl, fun z => e5 (due_iff.mp z.1).1⟩)))
  refine Rd_rdN rfl (by omega) (by decide) (hd.at (by decide) (by decide) (by decide) (Am.val m8)) (Rd_ite (fun e8 => ?_) (fun e8 => Rd_rt (Or.inr ⟨rfl, fun z => e8 (due_iff.mp z.1).2⟩)))
  refine Rd_rdN rfl (by omega) (by decide) (hd.at (by decide) (by decide) (by decide) h9) (Rd_ite (fun e9 => Rd_rt (Or.inl ⟨rfl, due_iff.mpr ⟨e5, e8⟩, ?_⟩)) (fun e9 => Rd_rt (Or.inr ⟨rfl, fun z => e9 ?_⟩)))
  · have h0 : nI q9 = nI 0 := e9
    rw [hsk]
    exact (nI_eq (by omega) (by decide)).mp h0
  · rw [← hsk, z.2]
    rfl
theorem ok_draws307 {w : GS} (c L n : Nat) (P : Nat → Bool) (v2 v3 : Int32) (K : Int32 → Int32 → Int32 → Int32 → PG Int32) (Q : Int32 → GS → Prop) (hK : ∀ v v4, TD w v c L n P → (∀ k, k < 16 → Am v 59 k 0) → Ok (K (nI c) v2 v3 v4) v Q) :
    ∀ (t k m : Nat) (v : GS), k + t = 16 → t < m → TD w v c L n P → (∀ j, j < k → Am v 59 j 0) → Ok (lp_draws_307 m (nI c) v2 v3 (nI k) K) v Q := by
  intro t
  induction t with
  | zero =>
    intro k m v h1 h2 hT h3
    cases m with
    | zero => omega
    | succ m =>
      have : k = 16 := by omega
      subst this
      unfold lp_draws_307
      exact Ok_ite (fun _ => hK v _ hT h3) (fun z => absurd (Int32.le_refl _) z)
  | succ t ih =>
    intro k m v h1 h2 hT h3
    cases m with
    | zero => omega
    | succ m =>
      unfold lp_draws_307
      refine Ok_ite (fun z => absurd z (nI_ge (b := 16) (by omega) (by decide))) (fun _ => Ok_wdN rfl (by omega) (by decide) (Ok_li ?_))
      rw [nI_1]
      refine ih (k + 1) m _ (by omega) (by omega) (hT.w59 _ _) (fun j hj => ?_)
      by_cases he : j = k
      · subst he
        exact sw_A (by omega)
      · exact sw_An (by omega) he (h3 j (by omega))
theorem ok_draws331 {w : GS} (h : Inv w) (c L n : Nat) (P : Nat → Bool) (v2 v3 : Int32) (K : Int32 → Int32 → Int32 → Int32 → PG Int32) (Q : Int32 → GS → Prop) (hK : ∀ v v4, TD w v c L n P → OT v (fun _ => false) → Ok (K (nI c) v2 v3 v4) v Q) :
    ∀ (t f m : Nat) (v : GS), f + t = nF w → t < m → TD w v c L n P → (∀ k, k < 16 → ∃ q, q ≤ f ∧ Am v 59 k (nI q)) → Ok (lp_draws_331 m (nI c) v2 v3 (nI f) K) v Q := by
  have h96 := h.1.1.2.2
  intro t
  induction t with
  | zero =>
    intro f m v h1 h2 hT h3
    cases m with
    | zero => omega
    | succ m =>
      have : f = nF w := by omega
      subst this
      unfold lp_draws_331
      refine Ok_rfN (hT.1.im2 h.1.1) (Ok_ite (fun _ => hK v _ hT (fun k hk => ⟨fun z => (by cases z), fun _ => ?_⟩)) (fun z => absurd (Int32.le_refl _) z))
      obtain ⟨q, g1, g2⟩ := h3 k hk
      exact ⟨q, by omega, g2⟩
  | succ t ih =>
    intro f m v h1 h2 hT h3
    cases m with
    | zero => omega
    | succ m =>
      unfold lp_draws_331
      refine Ok_rfN (hT.1.im2 h.1.1) (Ok_ite (fun z => absurd z (nI_ge (by omega) (by omega))) (fun _ => ?_))
      refine Ok_clR (ok_isOther h.1.2.2.1 h96 c f (by omega) hT.1) (fun r _ => Ok_ite (fun _ => Ok_li ?_) (fun _ => ?_))
      · rw [nI_1]
        exact ih (f + 1) m v (by omega) (by omega) hT (fun k hk => by obtain ⟨q, g1, g2⟩ := h3 k hk; exact ⟨q, by omega, g2⟩)
      · obtain ⟨-, ⟨k6, hk6, h6⟩, -⟩ := h.1.2.2.1 f (by omega)
        obtain ⟨q, g1, g2⟩ := h3 k6 hk6
        refine Ok_rdN rfl (by omega) (by decide) (hT.1.at (by decide) (by decide) (by decide) h6) (Ok_rdN rfl hk6 (by decide) g2 (Ok_wdN rfl hk6 (by decide) (Ok_li ?_)))
        rw [nI_1, nI_1]
        refine ih (f + 1) m _ (by omega) (by omega) (hT.w59 _ _) (fun k hk => ?_)
        by_cases he : k = k6
        · subst he
          exact ⟨q + 1, by omega, sw_A (by omega)⟩
        · obtain ⟨q2, g3, g4⟩ := h3 k hk
          exact ⟨q2, by omega, sw_An (by omega) he g4⟩
theorem ok_draws388 {v : GS} (c : Nat) (v2 v3 v4 : Int32) (hm : ∀ k, k < 16 → v.2.2 59 k = true) (K : Int32 → Int32 → Int32 → Int32 → Int32 → Int32 → PG Int32) (Q : Int32 → GS → Prop) (hK : ∀ b v6, b < 16 → (∀ y, y < 16 → v.1.2 59 y ≤ v.1.2 59 b) → Ok (K (nI c) v2 v3 v4 (nI b) v6) v Q) :
    ∀ (t x b m : Nat), x + t = 16 → t < m → b < 16 → (∀ y, y < x → v.1.2 59 y ≤ v.1.2 59 b) → Ok (lp_draws_388 m (nI c) v2 v3 v4 (nI b) (nI x) K) v Q := by
  intro t
  induction t with
  | zero =>
    intro x b m h1 h2 hb h3
    cases m with
    | zero => omega
    | succ m =>
      have : x = 16 := by omega
      subst this
      unfold lp_draws_388
      exact Ok_ite (fun _ => hK b _ hb h3) (fun z => absurd (Int32.le_refl _) z)
  | succ t ih =>
    intro x b m h1 h2 hb h3
    cases m with
    | zero => omega
    | succ m =>
      unfold lp_draws_388
      refine Ok_ite (fun z => absurd z (nI_ge (b := 16) (by omega) (by decide))) (fun _ => ?_)
      refine Ok_rdN rfl (by omega) (by decide) (Am.val (hm x (by omega))) (Ok_rdN rfl hb (by decide) (Am.val (hm b hb)) (Ok_ite (fun hle => Ok_li ?_) (fun hle => Ok_li ?_)))
      · rw [nI_1]
        refine ih (x + 1) b m (by omega) (by omega) hb (fun y hy => ?_)
        by_cases he : y = x
        · rw [he]; exact hle
        · exact h3 y (by omega)
      · rw [nI_1]
        refine ih (x + 1) x m (by omega) (by omega) (by omega) (fun y hy => ?_)
        by_cases he : y = x
        · rw [he]; exact Int32.le_refl _
        · have h5 := h3 y (by omega)
          rw [Int32.le_iff_toInt_le] at h5 hle ⊢
          omega
theorem ok_draws425 {w : GS} (h : Inv w) (c L n b : Nat) (C : Nat → Bool) (hc : c < 4) (hL : L ≤ 5) (hnd : n = cb (due w c) (nF w)) (hn : n ≤ 2 ^ L) (hb : b < 16) (hCb : C b = false) (v2 v3 v4 : Int32) (K : Int32 → Int32 → Int32 → Int32 → Int32 → Int32 → PG Int32) (Q : Int32 → GS → Prop) (hK : ∀ v v6, TD w v c L n (PO w c C b (nF w)) → OT v C → Ok (K (nI c) v2 v3 v4 (nI b) v6) v Q) :
    ∀ (t k m : Nat) (v : GS), k + t = nF w → t < m → TD w v c L n (PO w c C b k) → OT v C → Ok (lp_draws_425 m (nI c) v2 v3 v4 (nI b) (nI k) K) v Q := by
  have h96 := h.1.1.2.2
  have h32 := pow_lt32 hL
  intro t
  induction t with
  | zero =>
    intro k m v h1 h2 hT hO
    cases m with
    | zero => omega
    | succ m =>
      have hk : k = nF w := by omega
      rw [hk] at hT ⊢
      unfold lp_draws_425
      exact Ok_rfN (hT.1.im2 h.1.1) (Ok_ite (fun _ => hK v _ hT hO) (fun z => absurd (Int32.le_refl _) z))
  | succ t ih =>
    intro k m v h1 h2 hT hO
    cases m with
    | zero => omega
    | succ m =>
      unfold lp_draws_425
      refine Ok_rfN (hT.1.im2 h.1.1) (Ok_ite (fun z => absurd z (nI_ge (by omega) (by omega))) (fun _ => ?_))
      obtain ⟨⟨c2, hc2, h5⟩, ⟨k6, hk6, h6⟩, -⟩ := h.1.2.2.1 k (by omega)
      have hcl : clb w k = k6 := by unfold clb; rw [h6.2]; exact nI_clamp (by omega)
      have hskip : ¬ (due w c k = true ∧ sdn w k = 0 ∧ clb w k = b) → Ok (pli (nI k + 1) (fun x => lp_draws_425 m (nI c) v2 v3 v4 (nI b) x K)) v Q := by
        intro hno
        refine Ok_li ?_
        rw [nI_1]
        refine ih (k + 1) m v (by omega) (by omega) (hT.congr (fun f hf => PO_ext ⟨fun z => ⟨z.1, z.2.imp id (fun y => y.imp id (fun u => ⟨u.1, by omega⟩))⟩, fun z => ⟨z.1, ?_⟩⟩)) hO
        rcases z.2 with y | y | y
        · exact Or.inl y
        · exact Or.inr (Or.inl y)
        · by_cases he : f = k
          · subst he
            by_cases hs : sdn w f = 0
            · exact absurd ⟨z.1, hs, y.1⟩ hno
            · exact Or.inl (by omega)
          · exact Or.inr (Or.inr ⟨y.1, by omega⟩)
      refine Ok_rdN rfl (by omega) (by decide) (hT.1.at (by decide) (by decide) (by decide) h6) (Ok_ite (fun e6 => ?_) (fun e6 => hskip (fun z => e6 (by rw [← hcl, z.2.2]))))
      have hkb : k6 = b := (nI_eq (by omega) (by omega)).mp e6
      refine Ok_clR (ok_isOther h.1.2.2.1 h96 c k (by omega) hT.1) (fun r hr => ?_)
      rcases hr with ⟨rfl, hdue, hs0⟩ | ⟨rfl, hno⟩
      · refine Ok_ite (fun z => absurd z (by decide)) (fun _ => ?_)
        have hP : PO w c C b k k = false := by
          cases hz : PO w c C b k k with
          | false => rfl
          | true =>
            rcases (PO_iff.mp hz).2 with y | y | y
            · omega
            · rw [hcl, hkb, hCb] at y
              cases y
            · omega
        have hQ : PO w c C b (k + 1) k = true := PO_iff.mpr ⟨hdue, Or.inr (Or.inr ⟨by omega, by omega⟩)⟩
        have hPQ : ∀ g, ¬ g = k → PO w c C b (k + 1) g = PO w c C b k g := fun g hg => PO_ext ⟨fun z => ⟨z.1, z.2.imp id (fun y => y.imp id (fun u => ⟨u.1, by omega⟩))⟩, fun z => ⟨z.1, z.2.imp id (fun y => y.imp id (fun u => ⟨u.1, by omega⟩))⟩⟩
        have hfree : ∃ x, x < n ∧ tkn v L x = false := by
          refine cb_free n ?_
          rw [hT.2.2.2.2.2.2, hnd]
          exact cb_sub_lt (nF w) k (by omega) (fun g _ z => (PO_iff.mp z).1) hP hdue
        refine Ok_rdN rfl hc (by decide) hT.2.2.1 ?_
        refine Ok_clR (ok_bestPlace h.1.2.2.1 h96 c L n _ hc hL hn hT hfree (nI b)) (fun r hr => ?_)
        obtain ⟨x, hx, rfl, hx0⟩ := hr
        have hp := rowf_lt L (by omega) x (by omega) (by omega)
        refine Ok_cl (ok_settle c k _ hc (by omega) (by omega) _ (Ok_li ?_))
        rw [nI_1]
        refine ih (k + 1) m _ (by omega) (by omega) (td_settle hT hc hL hn h96 x k hx hx0 (by omega) hP hQ hPQ ⟨h5.1, (due_iff.mp hdue).1⟩) (fun j hj => ?_)
        obtain ⟨o1, o2⟩ := hO j hj
        unfold st1
        refine ⟨fun z => Am.o (by decide) (Am.o (by decide) (Am.o (by decide) (o1 z))), fun z => ?_⟩
        obtain ⟨q, q1, q2⟩ := o2 z
        exact ⟨q, q1, Am.o (by decide) (Am.o (by decide) (Am.o (by decide) q2))⟩
      · exact Ok_ite (fun _ => hskip (fun z => hno ⟨z.1, z.2.1⟩)) (fun z => absurd rfl z)
theorem ok_draws375 {w : GS} (h : Inv w) (c L n : Nat) (hc : c < 4) (hL : L ≤ 5) (hnd : n = cb (due w c) (nF w)) (hn : n ≤ 2 ^ L) (v2 v3 : Int32) (K : Int32 → Int32 → Int32 → Int32 → PG Int32) (Q : Int32 → GS → Prop) (hK : ∀ v v4, TD w v c L n (due w c) → Ok (K (nI c) v2 v3 v4) v Q) :
    ∀ (t k m : Nat) (v : GS) (C : Nat → Bool), k + t = 16 → t < m → cb C 16 = k → TD w v c L n (PO w c C 0 0) → OT v C → Ok (lp_draws_375 m (nI c) v2 v3 (nI k) K) v Q := by
  have h96 := h.1.1.2.2
  intro t
  induction t with
  | zero =>
    intro k m v C h1 h2 hC hT hO
    cases m with
    | zero => omega
    | succ m =>
      have : k = 16 := by omega
      subst this
      unfold lp_draws_375
      refine Ok_ite (fun _ => hK v _ (hT.congr (fun f hf => ?_))) (fun z => absurd (Int32.le_refl _) z)
      obtain ⟨-, ⟨k6, hk6, h6⟩, -⟩ := h.1.2.2.1 f hf
      have hcl : clb w f = k6 := by unfold clb; rw [h6.2]; exact nI_clamp (by omega)
      have hall := cb_all 16 hC k6 hk6
      cases hd : due w c f with
      | true => exact PO_iff.mpr ⟨hd, Or.inr (Or.inl (by rw [hcl]; exact hall))⟩
      | false =>
        cases hz : PO w c C 0 0 f with
        | false => rfl
        | true =>
          have := (PO_iff.mp hz).1
          rw [hd] at this
          cases this
  | succ t ih =>
    intro k m v C h1 h2 hC hT hO
    cases m with
    | zero => omega
    | succ m =>
      unfold lp_draws_375
      refine Ok_ite (fun z => absurd z (nI_ge (b := 16) (by omega) (by decide))) (fun _ => ?_)
      refine ok_draws388 c v2 v3 (nI k) (fun j hj => hO.mk hj) _ Q (fun b v6 hb hmax => ?_) 15 1 0 fuel (by omega) (by unfold fuel; omega) (by omega) (fun y hy => by
        have : y = 0 := by omega
        rw [this]
        exact Int32.le_refl _)
      have hCb : C b = false := by
        cases hz : C b with
        | false => rfl
        | true =>
          obtain ⟨u, hu, hu2⟩ := cb_free (P := C) 16 (by omega)
          obtain ⟨q, hq, hq2⟩ := (hO u hu).2 hu2
          have h5 := hmax u hu
          rw [hq2.2, ((hO b hb).1 hz).2, Int32.le_iff_toInt_le, nI_toInt (by omega)] at h5
          have h6 : (-1 : Int32).toInt = -1 := by decide
          omega
      have hT1 : TD w v c L n (PO w c C b 0) := hT.congr (fun f _ => PO_ext ⟨fun z => ⟨z.1, z.2.imp id (fun y => y.imp id (fun u => absurd u.2 (Nat.not_lt_zero _)))⟩, fun z => ⟨z.1, z.2.imp id (fun y => y.imp id (fun u => absurd u.2 (Nat.not_lt_zero _)))⟩⟩)
      refine ok_draws425 h c L n b C hc hL hnd hn hb hCb v2 v3 (nI k) _ Q (fun v' v6' g1 g2 => Ok_wdN rfl hb (by decide) (Ok_li ?_)) (nF w) 0 fuel v (by omega) (by unfold fuel; omega) hT1 hO
      rw [nI_1]
      refine ih (k + 1) m _ (fun j => if j = b then true else C j) (by omega) (by omega) ?_ ((g1.w59 _ _).congr (fun f hf => PO_ext ⟨fun z => ⟨z.1, ?_⟩, fun z => ⟨z.1, ?_⟩⟩)) (fun j hj => ?_)
      · rw [cb_add (P := C) (Q := fun j => if j = b then true else C j) b hCb (by simp) (fun g hg => by simp [hg]) 16 hb, hC]
      · rcases z.2 with y | y | y
        · exact Or.inl y
        · refine Or.inr (Or.inl ?_)
          show (if clb w f = b then true else C (clb w f)) = true
          rw [y]
          exact ite_self _
        · refine Or.inr (Or.inl ?_)
          show (if clb w f = b then true else C (clb w f)) = true
          rw [if_pos y.1]
      · rcases z.2 with y | y | y
        · exact Or.inl y
        · have y2 : (if clb w f = b then true else C (clb w f)) = true := y
          by_cases he : clb w f = b
          · exact Or.inr (Or.inr ⟨he, hf⟩)
          · rw [if_neg he] at y2
            exact Or.inr (Or.inl y2)
        · exact absurd y.2 (Nat.not_lt_zero _)
      · by_cases he : j = b
        · subst he
          refine ⟨fun _ => sw_A (by omega), fun z => ?_⟩
          have z2 : (if j = j then true else C j) = false := z
          rw [if_pos rfl] at z2
          cases z2
        · obtain ⟨o1, o2⟩ := g2 j hj
          refine ⟨fun z => ?_, fun z => ?_⟩
          · have z2 : (if j = b then true else C j) = true := z
            rw [if_neg he] at z2
            exact sw_An (by omega) he (o1 z2)
          · have z2 : (if j = b then true else C j) = false := z
            rw [if_neg he] at z2
            obtain ⟨q, q1, q2⟩ := o2 z2
            exact ⟨q, q1, sw_An (by omega) he q2⟩

