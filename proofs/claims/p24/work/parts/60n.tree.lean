/-! ===== the draw of a tree: places that are taken ===== -/
theorem cb_congr {P Q : Nat → Bool} : ∀ k, (∀ j, j < k → P j = Q j) → cb P k = cb Q k := by
  intro k
  induction k with
  | zero => intro _; rfl
  | succ k ih =>
    intro h
    show cb P k + (if P k = true then 1 else 0) = cb Q k + (if Q k = true then 1 else 0)
    rw [ih (fun j hj => h j (by omega)), h k (by omega)]
theorem cb_add {P Q : Nat → Bool} (f : Nat) (hp : P f = false) (hq : Q f = true) (ho : ∀ g, ¬ g = f → Q g = P g) : ∀ k, f < k → cb Q k = cb P k + 1 := by
  intro k
  induction k with
  | zero => intro h; omega
  | succ k ih =>
    intro h
    show cb Q k + (if Q k = true then 1 else 0) = cb P k + (if P k = true then 1 else 0) + 1
    by_cases hk : k = f
    · subst hk
      rw [hp, hq, cb_congr k (fun j hj => ho j (by omega)), if_pos rfl, if_neg (by decide)]
    · rw [ih (by omega), ho k hk]
      omega
theorem cb_sub {P D : Nat → Bool} : ∀ k, (∀ g, g < k → P g = true → D g = true) → cb P k ≤ cb D k := by
  intro k
  induction k with
  | zero => intro _; exact Nat.le_refl _
  | succ k ih =>
    intro h
    show cb P k + (if P k = true then 1 else 0) ≤ cb D k + (if D k = true then 1 else 0)
    have h1 := ih (fun g hg => h g (by omega))
    by_cases hz : P k = true
    · rw [if_pos hz, if_pos (h k (by omega) hz)]
      omega
    · rw [if_neg hz]
      omega
theorem cb_sub_lt {P D : Nat → Bool} (N f : Nat) (hf : f < N) (hs : ∀ g, g < N → P g = true → D g = true) (hp : P f = false) (hd : D f = true) : cb P N < cb D N := by
  have h1 := cb_add (P := P) (Q := fun g => if g = f then true else P g) f hp (by simp) (fun g hg => by simp [hg]) N hf
  have h2 := cb_sub (P := fun g => if g = f then true else P g) (D := D) N (fun g hg hz => by
    by_cases he : g = f
    · rw [he]; exact hd
    · have hz2 : (if g = f then true else P g) = true := hz
      rw [if_neg he] at hz2
      exact hs g hg hz2)
  omega
theorem cb_all {P : Nat → Bool} : ∀ k, cb P k = k → ∀ j, j < k → P j = true := by
  intro k
  induction k with
  | zero => intro _ j hj; omega
  | succ k ih =>
    intro h j hj
    have h0 : cb P k + (if P k = true then 1 else 0) = k + 1 := h
    have h1 := cb_le (P := P) k
    by_cases hz : P k = true
    · rw [if_pos hz] at h0
      by_cases he : j = k
      · rw [he]; exact hz
      · exact ih (by omega) j (by omega)
    · rw [if_neg hz] at h0
      omega
theorem cb_free {P : Nat → Bool} : ∀ k, cb P k < k → ∃ j, j < k ∧ P j = false := by
  intro k
  induction k with
  | zero => intro h; omega
  | succ k ih =>
    intro h
    have h0 : cb P k + (if P k = true then 1 else 0) < k + 1 := h
    by_cases hz : P k = true
    · rw [if_pos hz] at h0
      obtain ⟨j, hj, hj2⟩ := ih (by omega)
      exact ⟨j, by omega, hj2⟩
    · exact ⟨k, by omega, by cases hq : P k with
        | true => exact absurd hq hz
        | false => rfl⟩
def tkn (v : GS) (L x : Nat) : Bool := decide (v.1.2 60 (rowf L x) = 1)
def TD (w v : GS) (c L n : Nat) (P : Nat → Bool) : Prop := DF c w v ∧ Am v 12 c 2 ∧ Am v 13 c (nI (2 ^ L)) ∧ (∀ x, x < 2 ^ L → Am v 57 x (nI (rowf L x))) ∧ (∀ x, n ≤ x → x < 2 ^ L → Am v 60 (rowf L x) 1 ∧ Am v 14 (32 * c + rowf L x) (-1)) ∧ (∀ x, x < n → (Am v 60 (rowf L x) 0 ∧ Am v 14 (32 * c + rowf L x) (-1)) ∨ (Am v 60 (rowf L x) 1 ∧ ∃ f, f < nF w ∧ P f = true ∧ Am w 5 f (nI c) ∧ Am v 14 (32 * c + rowf L x) (nI f) ∧ Am v 10 f (nI (rowf L x)))) ∧ cb (tkn v L) n = cb P (nF w)
theorem TD.congr {w v : GS} {c L n : Nat} {P Q : Nat → Bool} (h : TD w v c L n P) (he : ∀ f, f < nF w → P f = Q f) : TD w v c L n Q := by
  obtain ⟨a1, a2, a3, a4, a5, a6, a7⟩ := h
  refine ⟨a1, a2, a3, a4, a5, fun x hx => ?_, a7.trans (cb_congr _ he)⟩
  rcases a6 x hx with h1 | ⟨h1, f, h2, h3, h4⟩
  · exact Or.inl h1
  · exact Or.inr ⟨h1, f, h2, (he f h2).symm.trans h3, h4⟩
/-- writes to the other scratch arrays -/
theorem TD.w59 {w v : GS} {c L n : Nat} {P : Nat → Bool} (h : TD w v c L n P) (i x : Int32) : TD w (swd 59 i x v) c L n P := by
  obtain ⟨a1, a2, a3, a4, a5, a6, a7⟩ := h
  exact ⟨a1.w57 59 i x (by decide), a2, a3, a4, a5, a6, a7⟩
def st1 (c f p : Nat) (v : GS) : GS := swd 60 (nI p) 1 (swd 10 (nI f) (nI p) (swd 14 (nI (32 * c + p)) (nI f) v))
theorem Am.o {w : GS} {k k2 j : Nat} {i v x : Int32} (h : ¬ k2 = k) (ha : Am w k2 j x) : Am (swd k i v w) k2 j x := ⟨sw_mm ha.1, by rw [(sw_o h).1]; exact ha.2⟩
theorem st1_60 (c f p : Nat) (v : GS) (hp : p < 2 ^ 31) : Am (st1 c f p v) 60 p 1 := sw_A (w := swd 10 (nI f) (nI p) (swd 14 (nI (32 * c + p)) (nI f) v)) (k := 60) hp
theorem st1_60v (c f p : Nat) (v : GS) (hp : p < 2 ^ 31) (q : Nat) : (st1 c f p v).1.2 60 q = if q = p then 1 else v.1.2 60 q := sw_v (w := swd 10 (nI f) (nI p) (swd 14 (nI (32 * c + p)) (nI f) v)) (k := 60) (v := 1) hp q
theorem st1_60n (c f p : Nat) (v : GS) (hp : p < 2 ^ 31) (q : Nat) (y : Int32) (h : ¬ q = p) (z : Am v 60 q y) : Am (st1 c f p v) 60 q y := sw_An (w := swd 10 (nI f) (nI p) (swd 14 (nI (32 * c + p)) (nI f) v)) (k := 60) hp h z
theorem st1_14 (c f p : Nat) (v : GS) (hp : 32 * c + p < 2 ^ 31) : Am (st1 c f p v) 14 (32 * c + p) (nI f) := sw_A (w := v) (k := 14) hp
theorem st1_14n (c f p : Nat) (v : GS) (hp : 32 * c + p < 2 ^ 31) (q : Nat) (y : Int32) (h : ¬ q = 32 * c + p) (z : Am v 14 q y) : Am (st1 c f p v) 14 q y := sw_An (w := v) (k := 14) hp h z
theorem st1_10 (c f p : Nat) (v : GS) (hf : f < 2 ^ 31) : Am (st1 c f p v) 10 f (nI p) := Am.o (by decide) (sw_A (w := swd 14 (nI (32 * c + p)) (nI f) v) (k := 10) hf)
theorem st1_10n (c f p : Nat) (v : GS) (hf : f < 2 ^ 31) (q : Nat) (y : Int32) (h : ¬ q = f) (z : Am v 10 q y) : Am (st1 c f p v) 10 q y := Am.o (by decide) (sw_An (w := swd 14 (nI (32 * c + p)) (nI f) v) (k := 10) hf h (Am.o (by decide) z))
theorem st1_o (c f p : Nat) (v : GS) (k q : Nat) (y : Int32) (hk : k = 12 ∨ k = 13 ∨ k = 57) (z : Am v k q y) : Am (st1 c f p v) k q y := by
  rcases hk with rfl | rfl | rfl
  · exact z
  · exact z
  · exact z
theorem st1_df {w : GS} (c f p : Nat) (v : GS) (a1 : DF c w v) (hc : c < 4) (hp : p < 32) (hf : f < 96) (h5 : w.1.2 5 f = nI c) : DF c w (st1 c f p v) := ((a1.w14 p (nI f) hc hp).w10 f (nI p) hf h5).w57 60 (nI p) 1 (by decide)
theorem td_settle {w v : GS} {c L n : Nat} {P Q : Nat → Bool} (h : TD w v c L n P) (hc : c < 4) (hL : L ≤ 5) (hn : n ≤ 2 ^ L) (h96 : nF w ≤ 96) (x0 f : Nat) (hx0 : x0 < n) (hfree : Am v 60 (rowf L x0) 0) (hf : f < nF w) (hP : P f = false) (hQ : Q f = true) (hPQ : ∀ g, ¬ g = f → Q g = P g) (h5 : Am w 5 f (nI c)) : TD w (st1 c f (rowf L x0) v) c L n Q := by
  have h32 := pow_lt32 hL
  have hp := rowf_lt L (by omega) x0 (by omega) (by omega)
  have hne : ∀ x, x < 2 ^ L → ¬ x = x0 → ¬ rowf L x = rowf L x0 := fun x hx hz he => hz (rowf_inj L (by omega) x (by omega) x0 (by omega) ⟨hx, by omega, he⟩)
  obtain ⟨a1, a2, a3, a4, a5, a6, a7⟩ := h
  have q31 : rowf L x0 < 2 ^ 31 := by omega
  have f31 : f < 2 ^ 31 := by omega
  have p31 : 32 * c + rowf L x0 < 2 ^ 31 := by omega
  have k60 : ∀ x y, x < 2 ^ L → ¬ x = x0 → Am v 60 (rowf L x) y → Am (st1 c f (rowf L x0) v) 60 (rowf L x) y := fun x y hx hz z => st1_60n c f _ v q31 _ y (hne x hx hz) z
  have k14 : ∀ x y, x < 2 ^ L → ¬ x = x0 → Am v 14 (32 * c + rowf L x) y → Am (st1 c f (rowf L x0) v) 14 (32 * c + rowf L x) y := fun x y hx hz z => st1_14n c f _ v p31 _ y (fun e => hne x hx hz (by omega)) z
  refine ⟨st1_df c f _ v a1 hc (by omega) (by omega) h5.2, st1_o c f _ v 12 c 2 (by decide) a2, st1_o c f _ v 13 c _ (by decide) a3, fun x hx => st1_o c f _ v 57 x _ (by decide) (a4 x hx), ?_, ?_, ?_⟩
  · intro x hx1 hx2
    obtain ⟨g1, g2⟩ := a5 x hx1 hx2
    exact ⟨k60 x 1 hx2 (by omega) g1, k14 x _ hx2 (by omega) g2⟩
  · intro x hx
    by_cases he : x = x0
    · subst he
      exact Or.inr ⟨st1_60 c f _ v q31, f, hf, hQ, h5, st1_14 c f _ v p31, st1_10 c f _ v f31⟩
    · rcases a6 x hx with ⟨g1, g2⟩ | ⟨g1, f2, g2, g3, g4, g5, g6⟩
      · exact Or.inl ⟨k60 x 0 (by omega) he g1, k14 x _ (by omega) he g2⟩
      · have hff : ¬ f2 = f := fun z => by rw [z, hP] at g3; cases g3
        exact Or.inr ⟨k60 x 1 (by omega) he g1, f2, g2, (hPQ f2 hff).trans g3, g4, k14 x _ (by omega) he g5, st1_10n c f _ v f31 f2 _ hff g6⟩
  · rw [cb_add (P := P) (Q := Q) f hP hQ hPQ (nF w) hf, ← a7]
    have hc2 : cb (tkn (st1 c f (rowf L x0) v) L) n = cb (fun x => if x = x0 then true else tkn v L x) n := by
      refine cb_congr n (fun x hx => ?_)
      unfold tkn
      rw [st1_60v c f _ v q31]
      by_cases he : x = x0
      · rw [if_pos he, he, if_pos rfl]
        exact decide_eq_true rfl
      · rw [if_neg he, if_neg (hne x (by omega) he)]
    rw [hc2]
    refine cb_add (P := tkn v L) x0 ?_ (by simp) (fun g hg => by simp [hg]) n hx0
    unfold tkn
    rw [hfree.2]
    decide
theorem ok_settle {v : GS} (c f p : Nat) (hc : c < 4) (hf : f < 96) (hp : p < 32) (Q : Int32 → GS → Prop) (h : Q 0 (st1 c f p v)) : Ok (f_settle (nI c) (nI f) (nI p)) v Q := by
  unfold f_settle
  rw [ix32, nar_b1]
  exact Ok_wdN rfl (by omega) (by decide) (Ok_wdN rfl hf (by decide) (Ok_wdN rfl hp (by decide) (Ok_rt h)))
/-! the byes -/
theorem ok_draws150 {w : GS} (c L : Nat) (hc : c < 4) (hL : L ≤ 5) (v2 : Int32) (K : Int32 → Int32 → Int32 → PG Int32) (Q : Int32 → GS → Prop)
    (hK : ∀ v v3, DF c w v → Am v 12 c 2 → Am v 13 c (nI (2 ^ L)) → (∀ x, x < 2 ^ L → Am v 57 x (nI (rowf L x))) → (∀ p, p < 2 ^ L → Am v 14 (32 * c + p) (-1) ∧ Am v 60 p 0) → Ok (K (nI c) v2 v3) v Q) :
    ∀ (t k m : Nat) (v : GS), k + t = 2 ^ L → t < m → DF c w v → Am v 12 c 2 → Am v 13 c (nI (2 ^ L)) → (∀ x, x < 2 ^ L → Am v 57 x (nI (rowf L x))) → (∀ p, p < k → Am v 14 (32 * c + p) (-1) ∧ Am v 60 p 0) → Ok (lp_draws_150 m (nI c) v2 (nI k) K) v Q := by
  have h32 := pow_lt32 hL
  intro t
  induction t with
  | zero =>
    intro k m v h1 h2 a1 a2 a3 a4 a5
    cases m with
    | zero => omega
    | succ m =>
      have : k = 2 ^ L := by omega
      subst this
      unfold lp_draws_150
      exact Ok_rdN rfl hc (by decide) a3 (Ok_ite (fun _ => hK v _ a1 a2 a3 a4 a5) (fun z => absurd (Int32.le_refl _) z))
  | succ t ih =>
    intro k m v h1 h2 a1 a2 a3 a4 a5
    cases m with
    | zero => omega
    | succ m =>
      unfold lp_draws_150
      refine Ok_rdN rfl hc (by decide) a3 (Ok_ite (fun z => absurd z (nI_ge (by omega) (by omega))) (fun _ => ?_))
      rw [ix32, nar_b0]
      refine Ok_wdN rfl (by omega) (by decide) (Ok_wdN rfl (by omega) (by decide) (Ok_li ?_))
      rw [nI_1]
      refine ih (k + 1) m _ (by omega) (by omega) ((a1.w14 k _ hc (by omega)).w57 60 _ _ (by decide)) a2 a3 a4 (fun p hp => ?_)
      by_cases he : p = k
      · subst he
        exact ⟨sw_A (w := v) (k := 14) (by omega), sw_A (by omega)⟩
      · obtain ⟨g1, g2⟩ := a5 p (by omega)
        exact ⟨sw_An (w := v) (k := 14) (by omega) (by omega) g1, sw_An (w := swd 14 (nI (32 * c + k)) (-1) v) (k := 60) (by omega) he g2⟩
theorem ok_draws187 {w : GS} (c L n : Nat) (hc : c < 4) (hL : L ≤ 5) (hn : n ≤ 2 ^ L) (v2 : Int32) (K : Int32 → Int32 → Int32 → PG Int32) (Q : Int32 → GS → Prop)
    (hK : ∀ v v3, TD w v c L n (fun _ => false) → (∀ x, x < n → Am v 60 (rowf L x) 0) → Ok (K (nI c) v2 v3) v Q) :
    ∀ (t k m : Nat) (v : GS), k + t = 2 ^ L → t < m → n ≤ k → DF c w v → Am v 12 c 2 → Am v 13 c (nI (2 ^ L)) → (∀ x, x < 2 ^ L → Am v 57 x (nI (rowf L x))) → (∀ p, p < 2 ^ L → Am v 14 (32 * c + p) (-1)) → (∀ x, x < n → Am v 60 (rowf L x) 0) → (∀ x, n ≤ x → x < k → Am v 60 (rowf L x) 1) → Ok (lp_draws_187 m (nI c) v2 (nI k) K) v Q := by
  have h32 := pow_lt32 hL
  intro t
  induction t with
  | zero =>
    intro k m v h1 h2 hk a1 a2 a3 a4 a5 a6 a7
    cases m with
    | zero => omega
    | succ m =>
      have : k = 2 ^ L := by omega
      subst this
      unfold lp_draws_187
      refine Ok_rdN rfl hc (by decide) a3 (Ok_ite (fun _ => hK v _ ⟨a1, a2, a3, a4, fun x h1 h2 => ⟨a7 x h1 h2, a5 _ (rowf_lt L (by omega) x (by omega) h2)⟩, fun x hx => Or.inl ⟨a6 x hx, a5 _ (rowf_lt L (by omega) x (by omega) (by omega))⟩, ?_⟩ a6) (fun z => absurd (Int32.le_refl _) z))
      have e1 : cb (tkn v L) n = cb (fun _ => false) n := cb_congr n (fun x hx => by unfold tkn; rw [(a6 x hx).2]; decide)
      have e2 : ∀ k, cb (fun _ => false) k = 0 := by
        intro k
        induction k with
        | zero => rfl
        | succ k ih =>
          show cb (fun _ => false) k + 0 = 0
          omega
      rw [e1, e2, e2]
  | succ t ih =>
    intro k m v h1 h2 hk a1 a2 a3 a4 a5 a6 a7
    cases m with
    | zero => omega
    | succ m =>
      have hp := rowf_lt L (by omega) k (by omega) (by omega)
      unfold lp_draws_187
      refine Ok_rdN rfl hc (by decide) a3 (Ok_ite (fun z => absurd z (nI_ge (by omega) (by omega))) (fun _ => ?_))
      refine Ok_rdN rfl (by omega) (by decide) (a4 k (by omega)) ?_
      rw [nar_b1]
      refine Ok_wdN rfl (by omega) (by decide) (Ok_li ?_)
      rw [nI_1]
      have hne : ∀ x, x < 2 ^ L → ¬ x = k → ¬ rowf L x = rowf L k := fun x hx hz he => hz (rowf_inj L (by omega) x (by omega) k (by omega) ⟨hx, by omega, he⟩)
      refine ih (k + 1) m _ (by omega) (by omega) (by omega) (a1.w57 60 _ _ (by decide)) a2 a3 a4 a5 (fun x hx => sw_An (by omega) (hne x (by omega) (by omega)) (a6 x hx)) (fun x g1 g2 => ?_)
      by_cases he : x = k
      · subst he
        exact sw_A (by omega)
      · exact sw_An (by omega) (hne x (by omega) he) (a7 x g1 (by omega))

