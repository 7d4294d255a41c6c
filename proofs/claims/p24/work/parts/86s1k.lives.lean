/-! ===== Board.settle, exactly: the second lives ===== -/
theorem Bs.f17 {u0 v : MS} {c i : Nat} {p1 p2 p3 p4 : Nat → Int32} (h : Bs u0 c p1 p2 p3 p4 i v) (f : Nat → Int32) : Bs u0 c p1 p2 p3 p4 i (sf v 17 f) := by
  obtain ⟨hs, h1, h2⟩ := h
  refine ⟨hs.trans (Same_sf (by decide)), fun k hk => ?_, fun x hx => ?_⟩
  · rw [sfN (by decide), sfN (by decide), sfN (by decide), sfN (by decide)]
    exact h1 k hk
  · rw [sfN (by decide), sfN (by decide), sfN (by decide), sfN (by decide)]
    exact h2 x hx
theorem s4_17 (K a b w s : Int32) (u : MS) : (s4 K a b w s u).2 17 = u.2 17 := by
  unfold s4
  rw [sfN (by decide), sfN (by decide), sfN (by decide), sfN (by decide)]
theorem CN_sF7 {β : Type} {u0 v : MS} {c i : Nat} {p1 p2 p3 p4 : Nat → Int32} {a b : Int32} {q : Int32 → NG β} {Q : β → MS → Prop} (h : Bs u0 c p1 p2 p3 p4 i v) (hc : c < 4) (hi : i < 37) (e1 : p1 i = a) (e2 : p2 i = b) (e3 : p3 i = wF (u0.2 0) c i) (e4 : p4 i = sF (u0.2 0) c i a b) (hq : ∀ v2, Bs u0 c p1 p2 p3 p4 (i + 1) v2 → v2.2 17 = v.2 17 → CN (q 0) v2 Q) : CN (ncl (x_X0_settleFight (nI c) (nI i) a b) q) v Q := CN_cl (fun r v2 e => by
  rw [e_sF hc hi, h.b] at e
  cases e
  exact hq _ (h.step hc hi e1 e2 e3 e4) (s4_17 _ _ _ _ _ _))
theorem CN_sW7 {β : Type} {u0 v : MS} {c i : Nat} {p1 p2 p3 p4 : Nat → Int32} {a b : Int32} {q : Int32 → NG β} {Q : β → MS → Prop} (h : Bs u0 c p1 p2 p3 p4 i v) (hc : c < 4) (hi : i < 37) (e1 : p1 i = a) (e2 : p2 i = b) (e3 : p3 i = if a = -1 then b else a) (e4 : p4 i = 4) (hq : ∀ v2, Bs u0 c p1 p2 p3 p4 (i + 1) v2 → v2.2 17 = v.2 17 → CN (q 0) v2 Q) : CN (ncl (x_X0_settleWalk (nI c) (nI i) a b) q) v Q := CN_cl (fun r v2 e => by
  rw [e_sW] at e
  cases e
  exact hq _ (h.step hc hi e1 e2 e3 e4) (s4_17 _ _ _ _ _ _))
def stL (S : Nat) : Nat := if S ≤ 8 then 1 else if S ≤ 16 then 2 else 3
theorem e_steps {S : Nat} (hS : Siz S) : x_X0_stepsOf (nI S) = nrt (nI (stL S)) := by
  unfold x_X0_stepsOf
  rcases hS with rfl | rfl | rfl
  · rw [if_neg (by decide)]; rfl
  · rw [if_pos (by decide), if_neg (by decide)]; rfl
  · rw [if_pos (by decide), if_pos (by decide)]; rfl
theorem Siz.st {S : Nat} (h : Siz S) : 1 ≤ stL S ∧ stL S ≤ 3 ∧ S - 1 + 2 * stL S ≤ 37 := by
  rcases h with rfl | rfl | rfl <;> decide
def tF (B : Nat → Int32) (c S s : Nat) : Int32 := tW B c S (S - 4 + s)
def paL (B : Nat → Int32) (c S s : Nat) : Nat → Nat
  | 0 => S - 4 + s
  | k + 1 => 2 * (paL B c S s k - S / 2) + (if tA B c S (paL B c S s k) = tF B c S s then 0 else 1)
theorem pa_rng {B : Nat → Int32} {c S s : Nat} (hS : Siz S) (hs : s < 2) : ∀ j, j ≤ stL S → (j < stL S → S / 2 ≤ paL B c S s j ∧ paL B c S s j < S - 1) ∧ (j = stL S → paL B c S s j < S / 2) := by
  have hb : ∀ k, paL B c S s (k + 1) ≤ 2 * (paL B c S s k - S / 2) + 1 ∧ 2 * (paL B c S s k - S / 2) ≤ paL B c S s (k + 1) := fun k => by
    have e : paL B c S s (k + 1) = 2 * (paL B c S s k - S / 2) + (if tA B c S (paL B c S s k) = tF B c S s then 0 else 1) := rfl
    rw [e]
    split <;> omega
  have b0 : paL B c S s 0 = S - 4 + s := rfl
  have b1 : paL B c S s 1 ≤ 2 * (paL B c S s 0 - S / 2) + 1 ∧ 2 * (paL B c S s 0 - S / 2) ≤ paL B c S s 1 := hb 0
  have b2 : paL B c S s 2 ≤ 2 * (paL B c S s 1 - S / 2) + 1 ∧ 2 * (paL B c S s 1 - S / 2) ≤ paL B c S s 2 := hb 1
  have b3 : paL B c S s 3 ≤ 2 * (paL B c S s 2 - S / 2) + 1 ∧ 2 * (paL B c S s 2 - S / 2) ≤ paL B c S s 3 := hb 2
  intro j hj
  rcases hS with rfl | rfl | rfl
  · have e : stL 8 = 1 := rfl
    rw [e] at hj ⊢
    have h : j = 0 ∨ j = 1 := by omega
    rcases h with rfl | rfl <;> omega
  · have e : stL 16 = 2 := rfl
    rw [e] at hj ⊢
    have h : j = 0 ∨ j = 1 ∨ j = 2 := by omega
    rcases h with rfl | rfl | rfl <;> omega
  · have e : stL 32 = 3 := rfl
    rw [e] at hj ⊢
    have h : j = 0 ∨ j = 1 ∨ j = 2 ∨ j = 3 := by omega
    rcases h with rfl | rfl | rfl | rfl <;> omega
def loL (B : Nat → Int32) (c S s t : Nat) : Int32 := if tF B c S s = -1 then -1 else if t ≤ stL S then (if tA B c S (paL B c S s (stL S - t)) = tF B c S s then tB B c S (paL B c S s (stL S - t)) else tA B c S (paL B c S s (stL S - t))) else -1
theorem nI_dec {k : Nat} (h : 1 ≤ k) : nI k + (-1) = nI (k - 1) := by
  have e : nI k + (-1) = nI k - 1 := (Int32.sub_eq_add_neg _ _).symm
  rw [e]
  exact nI_sub (b := 1) h
theorem losers_out (n : Nat) (v1 v2 v3 v4 x y : Int32) (K : Int32 → Int32 → Int32 → Int32 → Int32 → Int32 → NG Int32) (u : MS) (Q : Int32 → MS → Prop) (hy : y < 0 ∨ v4 = -1) (hK : ∀ x y, CN (K v1 v2 v3 v4 x y) u Q) : CN (xl_X0_findLosersTo_21 n v1 v2 v3 v4 x y K) u Q := by
  cases n with
  | zero => exact fun r w e => by cases e
  | succ n =>
    unfold xl_X0_findLosersTo_21
    refine CN_ite (fun _ => hK x y) (fun z => CN_ite (fun _ => hK x y) (fun z2 => ?_))
    exact absurd hy (fun q => q.elim z z2)
theorem CN_losers {u0 : MS} {c S s J : Nat} (hc : c < 4) (hS : Siz S) (hs : s < 2) (hJ : S - 1 ≤ J) {p1 p2 p3 p4 : Nat → Int32} (e1 : ∀ i, i < S - 1 → p1 i = tA (u0.2 0) c S i) (e2 : ∀ i, i < S - 1 → p2 i = tB (u0.2 0) c S i) (hF : ¬ tF (u0.2 0) c S s = -1) (K : Int32 → Int32 → Int32 → Int32 → Int32 → Int32 → NG Int32) (Q : Int32 → MS → Prop) (hK : ∀ v x y, Bs u0 c p1 p2 p3 p4 J v → (∀ t, t < 4 → v.2 17 t = loL (u0.2 0) c S s t) → CN (K (nI c) (nI S) (nI s) (tF (u0.2 0) c S s) x y) v Q) : ∀ (n j : Nat) (v : MS), j ≤ stL S → Bs u0 c p1 p2 p3 p4 J v → (∀ t, t < 4 → v.2 17 t = if stL S - j < t then loL (u0.2 0) c S s t else -1) → CN (xl_X0_findLosersTo_21 n (nI c) (nI S) (nI s) (tF (u0.2 0) c S s) (nI (paL (u0.2 0) c S s j)) (nI (stL S - j)) K) v Q := by
  obtain ⟨t1, t2, t3⟩ := hS.st
  obtain ⟨s1, s2, s3, s4⟩ := hS.h2
  intro n
  induction n with
  | zero => exact fun j v _ _ _ r w e => by cases e
  | succ n ih =>
    intro j v hj h h17
    obtain ⟨q1, q2⟩ := pa_rng (B := u0.2 0) (c := c) hS hs j hj
    have hp : paL (u0.2 0) c S s j < S - 1 := by
      rcases Nat.lt_or_ge j (stL S) with z | z
      · exact (q1 z).2
      · have := q2 (by omega)
        omega
    have a1 : v.2 13 (37 * c + paL (u0.2 0) c S s j) = tA (u0.2 0) c S (paL (u0.2 0) c S s j) := ((h.2.1 _ (by omega)).1).trans (e1 _ hp)
    have a2 : v.2 14 (37 * c + paL (u0.2 0) c S s j) = tB (u0.2 0) c S (paL (u0.2 0) c S s j) := ((h.2.1 _ (by omega)).2.1).trans (e2 _ hp)
    have hr : stL S - (stL S - j) = j := by omega
    have elo : loL (u0.2 0) c S s (stL S - j) = if tA (u0.2 0) c S (paL (u0.2 0) c S s j) = tF (u0.2 0) c S s then tB (u0.2 0) c S (paL (u0.2 0) c S s j) else tA (u0.2 0) c S (paL (u0.2 0) c S s j) := by
      unfold loL
      rw [if_neg hF, if_pos (by omega), hr]
    have hset : ∀ f : Nat → Int32, f = upd (v.2 17) (stL S - j) (loL (u0.2 0) c S s (stL S - j)) → ∀ t, t < 4 → (sf v 17 f).2 17 t = if stL S - j < t + 1 then loL (u0.2 0) c S s t else -1 := fun f hf t ht => by
      rw [sfE, hf]
      by_cases htj : t = stL S - j
      · subst htj
        rw [upd_e, if_pos (by omega)]
      · rw [upd_n htj, h17 t ht]
        by_cases hl : stL S - j < t
        · rw [if_pos hl, if_pos (by omega)]
        · rw [if_neg hl, if_neg (by omega)]
    have hgo : ∀ (f : Nat → Int32) (d : Nat) (x : Int32), f = upd (v.2 17) (stL S - j) (loL (u0.2 0) c S s (stL S - j)) → x = nI d → d = (if tA (u0.2 0) c S (paL (u0.2 0) c S s j) = tF (u0.2 0) c S s then 0 else 1) → CN (ncl (x_X0_lowerBelow (nI S) (nI (paL (u0.2 0) c S s j))) (fun r => nli (r + x) (fun y => nli (nI (stL S - j) + (-1)) (fun z => xl_X0_findLosersTo_21 n (nI c) (nI S) (nI s) (tF (u0.2 0) c S s) y z K)))) (sf v 17 f) Q := fun f d x hf hx hd => by
      rcases Nat.lt_or_ge j (stL S) with z | z
      · rw [e_low hS (q1 z).1, ncl_rt, hx, nI_add, nI_dec (by omega)]
        have ed : 2 * (paL (u0.2 0) c S s j - S / 2) + d = paL (u0.2 0) c S s (j + 1) := by rw [hd]; rfl
        have ej : stL S - j - 1 = stL S - (j + 1) := by omega
        rw [ed, ej]
        refine ih (j + 1) _ (by omega) (h.f17 f) (fun t ht => ?_)
        rw [hset f hf t ht]
        by_cases hl : stL S - (j + 1) < t
        · rw [if_pos hl, if_pos (by omega)]
        · rw [if_neg hl, if_neg (by omega)]
      · have ej : stL S - j = 0 := by omega
        have em : nI (stL S - j) + (-1) = -1 := by rw [ej]; rfl
        rw [em]
        show CN (xl_X0_findLosersTo_21 n (nI c) (nI S) (nI s) (tF (u0.2 0) c S s) _ (-1) K) _ Q
        refine losers_out n _ _ _ _ _ _ K _ Q (Or.inl (by decide)) (fun x y => hK _ x y (h.f17 f) (fun t ht => ?_))
        rw [hset f hf t ht, if_pos (by omega)]
    unfold xl_X0_findLosersTo_21
    refine CN_ite (fun z => absurd z (nI_nn (by omega))) (fun _ => CN_ite (fun z => absurd z hF) (fun _ => CN_rd (e_wO hc (by omega) v).2.1 ?_))
    rw [a1]
    have ew : ∀ x, rs (v.2 17) 4 (nI (stL S - j)) x = upd (v.2 17) (stL S - j) x := fun x => wrN x (by omega) (by decide)
    refine CN_ite (fun hw => ?_) (fun hw => ?_)
    · rw [if_pos hw] at elo
      refine CN_ite (fun z => absurd z (by decide)) (fun _ => CN_rd (e_wO hc (by omega) v).2.2 ?_)
      rw [a2]
      refine CN_ST ?_
      rw [ew, ← elo]
      have hz : ∀ r : Int32, (if (1 : Int32) = 0 then nli (r + 1) (fun x => nli (nI (stL S - j) + (-1)) (fun y => xl_X0_findLosersTo_21 n (nI c) (nI S) (nI s) (tF (u0.2 0) c S s) x y K)) else nli (r + 0) (fun x => nli (nI (stL S - j) + (-1)) (fun y => xl_X0_findLosersTo_21 n (nI c) (nI S) (nI s) (tF (u0.2 0) c S s) x y K))) = nli (r + 0) (fun x => nli (nI (stL S - j) + (-1)) (fun y => xl_X0_findLosersTo_21 n (nI c) (nI S) (nI s) (tF (u0.2 0) c S s) x y K)) := fun r => if_neg (by decide)
      simp only [hz]
      exact hgo _ 0 0 rfl rfl (by rw [if_pos hw])
    · rw [if_neg hw] at elo
      refine CN_ite (fun _ => CN_rd (e_wO hc (by omega) v).2.1 ?_) (fun z => absurd rfl z)
      rw [a1]
      refine CN_ST ?_
      rw [ew, ← elo]
      have hz : ∀ r : Int32, (if (0 : Int32) = 0 then nli (r + 1) (fun x => nli (nI (stL S - j) + (-1)) (fun y => xl_X0_findLosersTo_21 n (nI c) (nI S) (nI s) (tF (u0.2 0) c S s) x y K)) else nli (r + 0) (fun x => nli (nI (stL S - j) + (-1)) (fun y => xl_X0_findLosersTo_21 n (nI c) (nI S) (nI s) (tF (u0.2 0) c S s) x y K))) = nli (r + 1) (fun x => nli (nI (stL S - j) + (-1)) (fun y => xl_X0_findLosersTo_21 n (nI c) (nI S) (nI s) (tF (u0.2 0) c S s) x y K)) := fun r => if_pos rfl
      simp only [hz]
      exact hgo _ 1 1 rfl rfl (by rw [if_neg hw])

