/-! ===== medal() of a pool, the reference ===== -/
section
variable {B : Nat → Int32} {w : GS} {c S n : Nat}
/-- what the reference's state says of a pool where all is done -/
def MdR (B : Nat → Int32) (c S n : Nat) (w : GS) : Prop := c < 4 ∧ 2 ≤ S ∧ S ≤ 5 ∧ n = S * (S - 1) / 2 ∧ Dr w c n ∧ Am w 13 c (nI S) ∧ (∀ p, p < S → Am w 14 (32 * c + p) (pl B c p)) ∧ (∀ i, i < n → Am w 18 (40 * c + i) (B (fc c i + 3)) ∧ Am w 20 (40 * c + i) (B (fc c i + 5))) ∧ (∀ i, i < n → ∀ sd, sd < 2 → Rd (fS 24 0 (nI c) (nI i) (nI sd) 0) w (fun x => x = if sd = 0 then qA B c S i else qB B c S i)) ∧ (∀ p, p < S → ∃ f, f < 96 ∧ pl B c p = nI f ∧ Am w 7 f (B (150 + 7 * f))) ∧ (∀ p q, p < S → q < S → pl B c p = pl B c q → p = q) ∧ W2 B c S n
theorem MdR.le10 (h : MdR B c S n w) : n ≤ 10 := by
  rw [h.2.2.2.1]
  exact n10 h.2.2.1
theorem r_won (h : MdR B c S n w) (x : Int32) : Rd (f_won (nI c) x) w (fun r => r = wo B c x n) := by
  have hn := h.le10
  obtain ⟨hc, -, -, -, hD, -, -, hA, -⟩ := h
  have hlp : ∀ (t i m : Nat), i + t = n → t < m → Rd (lp_won_5 m (nI c) x (wo B c x i) (nI i) (fun v1 v2 v3 v4 => prt v3)) w (fun r => r = wo B c x n) := by
    intro t
    induction t with
    | zero =>
      intro i m h1 h2
      cases m with
      | zero => omega
      | succ m =>
        have : i = n := by omega
        subst this
        unfold lp_won_5
        refine Rd_clR (ok_fights w c i hD) (fun r hr => ?_)
        subst hr
        exact Rd_ite (fun _ => Rd_rt rfl) (fun z => absurd (Int32.le_refl _) z)
    | succ t ih =>
      intro i m h1 h2
      cases m with
      | zero => omega
      | succ m =>
        have h9 := ih (i + 1) m (by omega) (by omega)
        rw [wo_s] at h9
        unfold lp_won_5
        refine Rd_clR (ok_fights w c n hD) (fun r hr => ?_)
        subst hr
        refine Rd_ite (fun z => absurd z (nI_ge (by omega) (by omega))) (fun _ => Rd_rdN (ix40 c i) (by omega) (by decide) (hA i (by omega)).1 (Rd_ite (fun e => Rd_li (Rd_li ?_)) (fun e => Rd_li (Rd_li ?_))))
        · rw [if_pos e] at h9
          rw [nI_1]
          exact h9
        · rw [if_neg e] at h9
          rw [nI_1]
          exact h9
  exact hlp n 0 fuel (by omega) (by unfold fuel; omega)
theorem r_sum (h : MdR B c S n w) (x : Int32) : Rd (f_sum (nI c) x) w (fun r => r = so B c x n) := by
  have hn := h.le10
  obtain ⟨hc, -, -, -, hD, -, -, hA, -⟩ := h
  have hlp : ∀ (t i m : Nat), i + t = n → t < m → Rd (lp_sum_5 m (nI c) x (so B c x i) (nI i) (fun v1 v2 v3 v4 => prt v3)) w (fun r => r = so B c x n) := by
    intro t
    induction t with
    | zero =>
      intro i m h1 h2
      cases m with
      | zero => omega
      | succ m =>
        have : i = n := by omega
        subst this
        unfold lp_sum_5
        refine Rd_clR (ok_fights w c i hD) (fun r hr => ?_)
        subst hr
        exact Rd_ite (fun _ => Rd_rt rfl) (fun z => absurd (Int32.le_refl _) z)
    | succ t ih =>
      intro i m h1 h2
      cases m with
      | zero => omega
      | succ m =>
        have h9 := ih (i + 1) m (by omega) (by omega)
        rw [so_s] at h9
        unfold lp_sum_5
        refine Rd_clR (ok_fights w c n hD) (fun r hr => ?_)
        subst hr
        refine Rd_ite (fun z => absurd z (nI_ge (by omega) (by omega))) (fun _ => Rd_rdN (ix40 c i) (by omega) (by decide) (hA i (by omega)).1 (Rd_ite (fun e => Rd_rdN (ix40 c i) (by omega) (by decide) (hA i (by omega)).2 (Rd_li (Rd_li ?_))) (fun e => Rd_li (Rd_li ?_))))
        · rw [if_pos e] at h9
          rw [nI_1]
          exact h9
        · rw [if_neg e] at h9
          rw [nI_1]
          exact h9
  exact hlp n 0 fuel (by omega) (by unfold fuel; omega)
theorem r_alike (h : MdR B c S n w) (x : Int32) : Rd (f_alike (nI c) x) w (fun r => r = nI (alN B c n x S)) := by
  have hM := h
  obtain ⟨hc, -, hS, -, hD, h13, h14, -⟩ := h
  have hlp : ∀ (t p m : Nat), p + t = S → t < m → Rd (lp_alike_5 m (nI c) x (nI (alN B c n x p)) (nI p) (fun v1 v2 v3 v4 => prt v3)) w (fun r => r = nI (alN B c n x S)) := by
    intro t
    induction t with
    | zero =>
      intro p m h1 h2
      cases m with
      | zero => omega
      | succ m =>
        have : p = S := by omega
        subst this
        unfold lp_alike_5
        exact Rd_rdN rfl hc (by decide) h13 (Rd_ite (fun _ => Rd_rt rfl) (fun z => absurd (Int32.le_refl _) z))
    | succ t ih =>
      intro p m h1 h2
      cases m with
      | zero => omega
      | succ m =>
        have h9 := ih (p + 1) m (by omega) (by omega)
        rw [alN_s] at h9
        have no : ¬ Alk B c n (pl B c p) x → Rd (lp_alike_5 m (nI c) x (nI (alN B c n x p) + 0) (nI p + 1) (fun v1 v2 v3 v4 => prt v3)) w (fun r => r = nI (alN B c n x S)) := fun e => by
          rw [if_neg e] at h9
          rw [nI_1, show nI (alN B c n x p) + 0 = nI (alN B c n x p + 0) from nI_add _ 0]
          exact h9
        have a14 := h14 p (by omega)
        have ix : 32 * nI c + nI p = nI (32 * c + p) := by
          have e1 : (32 : Int32) * nI c = nI (32 * c) := by rw [← nI_mul]; rfl
          rw [e1, nI_add]
        unfold lp_alike_5
        refine Rd_rdN rfl hc (by decide) h13 (Rd_ite (fun z => absurd z (nI_ge (by omega) (by omega))) (fun _ => ?_))
        refine Rd_rdN ix (by omega) (by decide) a14 (Rd_clR (r_won hM (pl B c p)) (fun r1 hr1 => Rd_clR (r_won hM x) (fun r2 hr2 => ?_)))
        subst hr1
        subst hr2
        refine Rd_ite (fun e1 => ?_) (fun e1 => Rd_li (Rd_li (no (fun z => e1 z.1))))
        refine Rd_rdN ix (by omega) (by decide) a14 (Rd_clR (r_sum hM (pl B c p)) (fun r1 hr1 => Rd_clR (r_sum hM x) (fun r2 hr2 => ?_)))
        subst hr1
        subst hr2
        refine Rd_ite (fun e2 => Rd_li (Rd_li ?_)) (fun e2 => Rd_li (Rd_li (no (fun z => e2 z.2))))
        rw [if_pos ⟨e1, e2⟩] at h9
        rw [nI_1, nI_1]
        exact h9
  exact hlp S 0 fuel (by omega) (by unfold fuel; omega)
/-- the fight of two, in the reference -/
theorem r_pair {o f : Int32} {i0 : Nat} (h : MdR B c S n w) (hof : ¬ o = f) (hi0 : i0 < n) (hp : Pair B c S o f i0) (hu : ∀ j, j < n → Pair B c S o f j → j = i0) (K : Int32 → Int32 → Int32 → Int32 → PG Int32) : ∀ (t i m : Nat), i + t = i0 → t < m → Rd (lp_isAhead_85 m (nI c) o f (nI i) K) w (fun r => r = if B (fc c i0 + 3) = o then 1 else 0) := by
  have hn := h.le10
  obtain ⟨hc, -, hS, -, hD, h13, h14, hA, hs, -⟩ := h
  intro t
  induction t with
  | zero =>
    intro i m h1 h2
    cases m with
    | zero => omega
    | succ m =>
      have : i = i0 := by omega
      subst this
      have s0 := hs i hi0 0 (by decide)
      have s1 := hs i hi0 1 (by decide)
      rw [if_pos rfl] at s0
      rw [if_neg (by decide)] at s1
      have fin : Rd (prd 18 160 ((40 * nI c) + nI i) (fun x_56 => (if x_56 = o then prt 1 else prt (0 : Int32)))) w (fun r => r = if B (fc c i + 3) = o then 1 else 0) := Rd_rdN (ix40 c i) (by omega) (by decide) (hA i hi0).1 (Rd_ite (fun e => Rd_rt (by rw [if_pos e])) (fun e => Rd_rt (by rw [if_neg e])))
      unfold lp_isAhead_85
      refine Rd_clR (ok_fights w c n hD) (fun r hr => ?_)
      subst hr
      refine Rd_ite (fun z => absurd z (nI_ge (by omega) (by omega))) (fun _ => Rd_clR s0 (fun r hr => Rd_clR s1 (fun r2 hr2 => ?_)))
      subst hr
      subst hr2
      rcases hp with ⟨a, b⟩ | ⟨a, b⟩
      · rw [a, b]
        exact Rd_ite (fun _ => Rd_ite (fun _ => fin) (fun z => absurd rfl z)) (fun z => absurd rfl z)
      · rw [a, b]
        exact Rd_ite (fun z => absurd z.symm hof) (fun _ => Rd_ite (fun _ => Rd_ite (fun _ => fin) (fun z => absurd rfl z)) (fun z => absurd rfl z))
  | succ t ih =>
    intro i m h1 h2
    cases m with
    | zero => omega
    | succ m =>
      have s0 := hs i (by omega) 0 (by decide)
      have s1 := hs i (by omega) 1 (by decide)
      rw [if_pos rfl] at s0
      rw [if_neg (by decide)] at s1
      have nx : Rd (pli (nI i + 1) (fun x_64 => lp_isAhead_85 m (nI c) o f x_64 K)) w (fun r => r = if B (fc c i0 + 3) = o then 1 else 0) := by
        refine Rd_li ?_
        rw [nI_1]
        exact ih (i + 1) m (by omega) (by omega)
      have hno : ¬ Pair B c S o f i := fun z => absurd (hu i (by omega) z) (by omega)
      unfold lp_isAhead_85
      refine Rd_clR (ok_fights w c n hD) (fun r hr => ?_)
      subst hr
      refine Rd_ite (fun z => absurd z (nI_ge (by omega) (by omega))) (fun _ => Rd_clR s0 (fun r hr => Rd_clR s1 (fun r2 hr2 => ?_)))
      subst hr
      subst hr2
      refine Rd_ite (fun e1 => Rd_ite (fun e2 => absurd (Or.inl ⟨e1, e2⟩) hno) (fun e2 => Rd_ite (fun e3 => Rd_ite (fun e4 => absurd (Or.inr ⟨e3, e4⟩) hno) (fun _ => nx)) (fun _ => nx))) (fun e1 => Rd_ite (fun e3 => Rd_ite (fun e4 => absurd (Or.inr ⟨e3, e4⟩) hno) (fun _ => nx)) (fun _ => nx))
theorem r_isAhead {x y : Nat} (h : MdR B c S n w) (hx : x < S) (hy : y < S) (hne : ¬ x = y) : Rd (f_isAhead (nI c) (pl B c x) (pl B c y)) w (fun r => r = isAw B c S n (pl B c x) (pl B c y) (alN B c n (pl B c x) S)) := by
  have hM := h
  obtain ⟨hc, -, hS, hnS, hD, h13, h14, hA, hs, hg, hinj, hW⟩ := h
  have hn := hM.le10
  obtain ⟨a, ha, ea, ga⟩ := hg x hx
  obtain ⟨b, hb, eb, gb2⟩ := hg y hy
  have hof : ¬ pl B c x = pl B c y := fun z => hne (hinj x y hx hy z)
  have hal := alN_le B c n (pl B c x) S
  have grams : Rd (prd 7 96 (pl B c x) (fun x_19 => prd 7 96 (pl B c y) (fun x_22 => (if x_19 = x_22 then (if pl B c y ≤ pl B c x then prt (0 : Int32) else prt 1) else prd 7 96 (pl B c x) (fun x_27 => prd 7 96 (pl B c y) (fun x_30 => (if x_30 ≤ x_27 then prt 0 else prt 1))))))) w (fun r => r = if grm B (pl B c x) = grm B (pl B c y) then (if pl B c y ≤ pl B c x then 0 else 1) else (if grm B (pl B c y) ≤ grm B (pl B c x) then 0 else 1)) := by
    rw [ea, eb]
    have e1 : grm B (nI a) = B (150 + 7 * a) := by unfold grm; rw [nI_clamp (by omega)]
    have e2 : grm B (nI b) = B (150 + 7 * b) := by unfold grm; rw [nI_clamp (by omega)]
    rw [e1, e2]
    refine Rd_rdN rfl ha (by decide) ga (Rd_rdN rfl hb (by decide) gb2 (Rd_ite (fun e => ?_) (fun e => ?_)))
    · rw [if_pos e]
      exact Rd_ite (fun z => Rd_rt (by rw [if_pos z])) (fun z => Rd_rt (by rw [if_neg z]))
    · rw [if_neg e]
      exact Rd_rdN rfl ha (by decide) ga (Rd_rdN rfl hb (by decide) gb2 (Rd_ite (fun z => Rd_rt (by rw [if_pos z])) (fun z => Rd_rt (by rw [if_neg z]))))
  unfold f_isAhead
  refine Rd_clR (r_won hM _) (fun r1 hr1 => Rd_clR (r_won hM _) (fun r2 hr2 => ?_))
  subst hr1
  subst hr2
  refine Rd_ite (fun e1 => ?_) (fun e1 => ?_)
  · refine Rd_clR (r_sum hM _) (fun r1 hr1 => Rd_clR (r_sum hM _) (fun r2 hr2 => ?_))
    subst hr1
    subst hr2
    refine Rd_ite (fun e2 => ?_) (fun e2 => ?_)
    · have ev : isAw B c S n (pl B c x) (pl B c y) (alN B c n (pl B c x) S) = tie B c S n (pl B c x) (pl B c y) (alN B c n (pl B c x) S) := if_pos ⟨e1, e2⟩
      rw [ev]
      refine Rd_clR (r_alike hM _) (fun r3 hr3 => ?_)
      subst hr3
      refine Rd_ite (fun e3 => ?_) (fun e3 => ?_)
      · have ev2 : tie B c S n (pl B c x) (pl B c y) (alN B c n (pl B c x) S) = btv B c S (pl B c x) (pl B c y) n 0 := if_pos ((nI_eq (a := alN B c n (pl B c x) S) (b := 2) (by omega) (by decide)).mp e3)
        rw [ev2]
        obtain ⟨i0, hi0, hp⟩ := pair_ex (B := B) (c := c) hS hx hy hne
        rw [← hnS] at hi0
        have hu : ∀ j, j < n → Pair B c S (pl B c x) (pl B c y) j → j = i0 := fun j hj hp2 => pair_un hS hinj (by rw [← hnS]; exact hj) (by rw [← hnS]; exact hi0) hp2 hp
        rw [btv_at hW hof hi0 hp hu n 0 (by omega) (Nat.zero_le _)]
        exact r_pair hM hof hi0 hp hu _ i0 0 fuel (by omega) (by unfold fuel; omega)
      · have ev2 : tie B c S n (pl B c x) (pl B c y) (alN B c n (pl B c x) S) = (if grm B (pl B c x) = grm B (pl B c y) then (if pl B c y ≤ pl B c x then 0 else 1) else (if grm B (pl B c y) ≤ grm B (pl B c x) then 0 else 1)) := if_neg (fun z => e3 (by rw [z]; rfl))
        rw [ev2]
        exact grams
    · have ev : isAw B c S n (pl B c x) (pl B c y) (alN B c n (pl B c x) S) = (if so B c (pl B c x) n ≤ so B c (pl B c y) n then 0 else 1) := (if_neg (fun z => e2 z.2)).trans (if_pos e1)
      rw [ev]
      refine Rd_clR (r_sum hM _) (fun r1 hr1 => Rd_clR (r_sum hM _) (fun r2 hr2 => ?_))
      subst hr1
      subst hr2
      exact Rd_ite (fun z => Rd_rt (by rw [if_pos z])) (fun z => Rd_rt (by rw [if_neg z]))
  · have ev : isAw B c S n (pl B c x) (pl B c y) (alN B c n (pl B c x) S) = (if wo B c (pl B c x) n ≤ wo B c (pl B c y) n then 0 else 1) := (if_neg (fun z => e1 z.1)).trans (if_neg e1)
    rw [ev]
    refine Rd_clR (r_won hM _) (fun r1 hr1 => Rd_clR (r_won hM _) (fun r2 hr2 => ?_))
    subst hr1
    subst hr2
    exact Rd_ite (fun z => Rd_rt (by rw [if_pos z])) (fun z => Rd_rt (by rw [if_neg z]))
theorem r_ordered31 {p0 : Nat} {k : Int32} (h : MdR B c S n w) (hp0 : p0 < S) (K : Int32 → Int32 → Int32 → Int32 → Int32 → Int32 → PG Int32) (R : Int32 → Prop) (hK : Rd (K (nI c) k (nI p0) (pl B c p0) (nI (ahv B c S n (pl B c p0) S)) (nI S)) w R) : ∀ (t q m : Nat), q + t = S → t < m → Rd (lp_ordered_31 m (nI c) k (nI p0) (pl B c p0) (nI (ahv B c S n (pl B c p0) q)) (nI q) K) w R := by
  have hM := h
  obtain ⟨hc, -, hS, hnS, hD, h13, h14, hA, hs, hg, hinj, hW⟩ := h
  intro t
  induction t with
  | zero =>
    intro q m h1 h2
    cases m with
    | zero => omega
    | succ m =>
      have : q = S := by omega
      subst this
      unfold lp_ordered_31
      exact Rd_rdN rfl hc (by decide) h13 (Rd_ite (fun _ => hK) (fun z => absurd (Int32.le_refl _) z))
  | succ t ih =>
    intro q m h1 h2
    cases m with
    | zero => omega
    | succ m =>
      have h9 := ih (q + 1) m (by omega) (by omega)
      rw [ahv_s] at h9
      have ix : 32 * nI c + nI q = nI (32 * c + q) := by
        have e1 : (32 : Int32) * nI c = nI (32 * c) := by rw [← nI_mul]; rfl
        rw [e1, nI_add]
      unfold lp_ordered_31
      refine Rd_rdN rfl hc (by decide) h13 (Rd_ite (fun z => absurd z (nI_ge (by omega) (by omega))) (fun _ => Rd_ite (fun e => Rd_li (Rd_li ?_)) (fun e => ?_)))
      · have e2 : q = p0 := (nI_eq (by omega) (by omega)).mp e
        rw [if_pos (by rw [e2])] at h9
        rw [nI_1, show nI (ahv B c S n (pl B c p0) q) + 0 = nI (ahv B c S n (pl B c p0) q + 0) from nI_add _ 0]
        exact h9
      · have e2 : ¬ q = p0 := fun z => e (by rw [z])
        have e3 : ¬ pl B c q = pl B c p0 := fun z => e2 (hinj q p0 (by omega) hp0 z)
        rw [if_neg e3] at h9
        refine Rd_rdN ix (by omega) (by decide) (h14 q (by omega)) (Rd_clR (r_isAhead hM (by omega) hp0 e2) (fun r hr => ?_))
        have e4 : isAw B c S n (pl B c q) (pl B c p0) (alN B c n (pl B c q) S) = isAw B c S n (pl B c q) (pl B c p0) (alN B c n (pl B c p0) S) := by
          unfold isAw
          by_cases e5 : Alk B c n (pl B c q) (pl B c p0)
          · rw [if_pos e5, if_pos e5, alN_eq e5]
          · rw [if_neg e5, if_neg e5]
        rw [e4] at hr
        subst hr
        refine Rd_ite (fun z => Rd_li (Rd_li ?_)) (fun z => Rd_li (Rd_li ?_))
        · rw [if_pos z] at h9
          rw [nI_1, show nI (ahv B c S n (pl B c p0) q) + 0 = nI (ahv B c S n (pl B c p0) q + 0) from nI_add _ 0]
          exact h9
        · rw [if_neg z] at h9
          rw [nI_1, nI_1]
          exact h9
theorem r_ordered {k : Int32} (h : MdR B c S n w) : Rd (f_ordered (nI c) k) w (fun r => r = mres B c S n k S 0) := by
  have hM := h
  obtain ⟨hc, -, hS, hnS, hD, h13, h14, hA, hs, hg, hinj, hW⟩ := h
  have hlp : ∀ (t p m : Nat), p + t = S → t < m → Rd (lp_ordered_2 m (nI c) k (nI p) (fun v1 v2 v3 => prt (-1))) w (fun r => r = mres B c S n k t p) := by
    intro t
    induction t with
    | zero =>
      intro p m h1 h2
      cases m with
      | zero => omega
      | succ m =>
        have : p = S := by omega
        subst this
        unfold lp_ordered_2
        exact Rd_rdN rfl hc (by decide) h13 (Rd_ite (fun _ => Rd_rt rfl) (fun z => absurd (Int32.le_refl _) z))
    | succ t ih =>
      intro p m h1 h2
      cases m with
      | zero => omega
      | succ m =>
        have h9 := ih (p + 1) m (by omega) (by omega)
        have ix : 32 * nI c + nI p = nI (32 * c + p) := by
          have e1 : (32 : Int32) * nI c = nI (32 * c) := by rw [← nI_mul]; rfl
          rw [e1, nI_add]
        unfold lp_ordered_2
        refine Rd_rdN rfl hc (by decide) h13 (Rd_ite (fun z => absurd z (nI_ge (by omega) (by omega))) (fun _ => ?_))
        refine Rd_rdN ix (by omega) (by decide) (h14 p (by omega)) ?_
        refine r_ordered31 hM (by omega) _ _ ?_ S 0 fuel (by omega) (by unfold fuel; omega)
        rw [mres_s]
        refine Rd_ite (fun z => Rd_rt ?_) (fun z => Rd_li ?_)
        · rw [if_pos z]
        · rw [if_neg z, nI_1]
          exact h9
  exact hlp S 0 fuel (by omega) (by unfold fuel; omega)
end
