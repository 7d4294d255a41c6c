/-! ===== the board's rows tell the book ===== -/
def q1 (B : Nat → Int32) (c S i : Nat) : Int32 := if i < S - 1 then tA B c S i else lA B c S ((i - (S - 1)) / stL S) ((i - (S - 1)) % stL S + 1)
def q2 (B : Nat → Int32) (c S i : Nat) : Int32 := if i < S - 1 then tB B c S i else loL B c S ((i - (S - 1)) / stL S) ((i - (S - 1)) % stL S + 1)
def q3 (B : Nat → Int32) (c S i : Nat) : Int32 := if i < S - 1 then tW B c S i else lW B c S ((i - (S - 1)) / stL S) ((i - (S - 1)) % stL S + 1)
def q4 (B : Nat → Int32) (c S i : Nat) : Int32 := if i < S - 1 then tS B c S i else lS B c S ((i - (S - 1)) / stL S) ((i - (S - 1)) % stL S + 1)
theorem lif_ix {S s t : Nat} (hS : Siz S) (h1 : 1 ≤ t) (h2 : t ≤ stL S) : ¬ S - 2 + s * stL S + t < S - 1 ∧ (S - 2 + s * stL S + t - (S - 1)) / stL S = s ∧ (S - 2 + s * stL S + t - (S - 1)) % stL S + 1 = t := by
  obtain ⟨s1, s2, s3, s4⟩ := hS.h2
  have e : S - 2 + s * stL S + t - (S - 1) = stL S * s + (t - 1) := by rw [Nat.mul_comm]; omega
  have ht : t - 1 < stL S := by omega
  refine ⟨by omega, ?_, ?_⟩
  · rw [e, Nat.mul_add_div (by omega), Nat.div_eq_of_lt ht]
    rfl
  · rw [e, Nat.mul_add_mod, Nat.mod_eq_of_lt ht]
    omega
def Bd (B : Nat → Int32) (c : Nat) (v : MS) : Prop := (B (6 + 36 * c) = 1 → ∀ S, 2 ≤ S → S ≤ 5 → B (7 + 36 * c) = nI S → ∀ i, i < S * (S - 1) / 2 → v.2 13 (37 * c + i) = qA B c S i ∧ v.2 14 (37 * c + i) = qB B c S i ∧ v.2 15 (37 * c + i) = wF B c i ∧ v.2 16 (37 * c + i) = sF B c i (qA B c S i) (qB B c S i)) ∧ (B (6 + 36 * c) = 2 → ∀ S, Siz S → B (7 + 36 * c) = nI S → ∀ i, i < S - 1 + 2 * stL S → v.2 13 (37 * c + i) = q1 B c S i ∧ v.2 14 (37 * c + i) = q2 B c S i ∧ v.2 15 (37 * c + i) = q3 B c S i ∧ v.2 16 (37 * c + i) = q4 B c S i)
def Kn (B : Nat → Int32) (c : Nat) : Prop := B (6 + 36 * c) = 0 ∨ (B (6 + 36 * c) = 1 ∧ ∃ S, 2 ≤ S ∧ S ≤ 5 ∧ B (7 + 36 * c) = nI S) ∨ (B (6 + 36 * c) = 2 ∧ ∃ S, Siz S ∧ B (7 + 36 * c) = nI S)
def Rws (u v : MS) (x : Nat) : Prop := v.2 13 x = u.2 13 x ∧ v.2 14 x = u.2 14 x ∧ v.2 15 x = u.2 15 x ∧ v.2 16 x = u.2 16 x
theorem Siz.inj {S T : Nat} (h1 : Siz S) (h2 : Siz T) (e : nI S = nI T) : S = T := (nI_eq (by have := h1.h2.2.1; omega) (by have := h2.h2.2.1; omega)).mp e
theorem e_sizeOf {u : MS} {c : Nat} (hc : c < 4) : x_X0_sizeOf (nI c) u = some (u.2 0 (7 + 36 * c), u) := by
  unfold x_X0_sizeOf
  rw [e_ofClass c 3 (show (3 : Int32) = nI 3 from rfl)]
  have e : 4 + 36 * c + 3 = 7 + 36 * c := by omega
  show some (rg (u.2 0) 2088 (nI (4 + 36 * c + 3)), u) = _
  rw [e, rdB _ (by omega)]
theorem CN_settle {β : Type} {u : MS} {c : Nat} (hc : c < 4) (hk : Kn (u.2 0) c) {q : Int32 → NG β} {Q : β → MS → Prop} (hq : ∀ v, Same [] [13, 14, 15, 16, 17] u v → Bd (u.2 0) c v → (∀ x, (x < 37 * c ∨ 37 * c + 37 ≤ x) → Rws u v x) → CN (q 0) v Q) : CN (ncl (x_X0_settle (nI c)) q) u Q := by
  refine CN_cl (CN.mono (?_ : CN (x_X0_settle (nI c)) u (fun r v => r = 0 ∧ Same [] [13, 14, 15, 16, 17] u v ∧ Bd (u.2 0) c v ∧ ∀ x, (x < 37 * c ∨ 37 * c + 37 ≤ x) → Rws u v x)) (fun r v y => by
    rw [y.1]
    exact hq v y.2.1 y.2.2.1 y.2.2.2))
  unfold x_X0_settle
  refine CN_rd (e_kindOf hc) ?_
  rcases hk with hk | ⟨hk, S, hS2, hS5, hz⟩ | ⟨hk, S, hS, hz⟩
  · rw [hk]
    refine CN_ite (fun z => absurd z (by decide)) (fun _ => CN_rd (e_kindOf hc) ?_)
    rw [hk]
    refine CN_ite (fun z => absurd z (by decide)) (fun _ => CN_rt ⟨rfl, Same.rf _, ⟨fun z => ?_, fun z => ?_⟩, fun x _ => ⟨rfl, rfl, rfl, rfl⟩⟩)
    · rw [hk] at z
      exact absurd z (by decide)
    · rw [hk] at z
      exact absurd z (by decide)
  · rw [hk]
    refine CN_ite (fun _ => CN_rd (e_sizeOf hc) ?_) (fun z => absurd rfl z)
    rw [hz]
    have hp : CN (x_X0_settlePool (nI c) (nI S)) u (fun r v => Bs u c (qA (u.2 0) c S) (qB (u.2 0) c S) (wF (u.2 0) c) (fun i => sF (u.2 0) c i (qA (u.2 0) c S i) (qB (u.2 0) c S i)) (S * (S - 1) / 2) v) := by
      unfold x_X0_settlePool
      exact CN_pool2 hc ⟨hS2, hS5⟩ (fun _ _ => rfl) (fun _ _ => rfl) (fun _ _ => rfl) (fun _ _ => rfl) _ _ (fun v hb r w e => by cases e; exact hb) fuel 1 u (by decide) (by omega) ⟨Same.rf _, fun k hk => absurd hk (Nat.not_lt_zero k), fun x _ => ⟨rfl, rfl, rfl, rfl⟩⟩
    refine CN_cl (CN.mono hp (fun r v hb => CN_rd (e_kindOf hc) ?_))
    rw [hb.b, hk]
    refine CN_ite (fun z => absurd z (by decide)) (fun _ => CN_rt ⟨rfl, hb.1, ⟨fun _ T h2 h5 hT i hi => ?_, fun z => ?_⟩, hb.2.2⟩)
    · have : T = S := (nI_eq (by omega) (by omega)).mp (hT.symm.trans hz)
      subst this
      exact hb.2.1 i hi
    · rw [hk] at z
      exact absurd z (by decide)
  · rw [hk]
    refine CN_ite (fun z => absurd z (by decide)) (fun _ => CN_rd (e_kindOf hc) ?_)
    rw [hk]
    refine CN_ite (fun _ => CN_rd (e_sizeOf hc) ?_) (fun z => absurd rfl z)
    rw [hz]
    obtain ⟨t1, t2, t3⟩ := hS.st
    obtain ⟨s1, s2, s3, s4⟩ := hS.h2
    have d1 : ∀ i, i < S - 1 → q1 (u.2 0) c S i = tA (u.2 0) c S i := fun i hi => if_pos hi
    have d2 : ∀ i, i < S - 1 → q2 (u.2 0) c S i = tB (u.2 0) c S i := fun i hi => if_pos hi
    have d3 : ∀ i, i < S - 1 → q3 (u.2 0) c S i = tW (u.2 0) c S i := fun i hi => if_pos hi
    have d4 : ∀ i, i < S - 1 → q4 (u.2 0) c S i = tS (u.2 0) c S i := fun i hi => if_pos hi
    have f1 : ∀ s t, 1 ≤ t → t ≤ stL S → q1 (u.2 0) c S (S - 2 + s * stL S + t) = lA (u.2 0) c S s t := fun s t h1 h2 => by
      obtain ⟨g1, g2, g3⟩ := lif_ix (s := s) hS h1 h2
      unfold q1
      rw [if_neg g1, g2, g3]
    have f2 : ∀ s t, 1 ≤ t → t ≤ stL S → q2 (u.2 0) c S (S - 2 + s * stL S + t) = loL (u.2 0) c S s t := fun s t h1 h2 => by
      obtain ⟨g1, g2, g3⟩ := lif_ix (s := s) hS h1 h2
      unfold q2
      rw [if_neg g1, g2, g3]
    have f3 : ∀ s t, 1 ≤ t → t ≤ stL S → q3 (u.2 0) c S (S - 2 + s * stL S + t) = lW (u.2 0) c S s t := fun s t h1 h2 => by
      obtain ⟨g1, g2, g3⟩ := lif_ix (s := s) hS h1 h2
      unfold q3
      rw [if_neg g1, g2, g3]
    have f4 : ∀ s t, 1 ≤ t → t ≤ stL S → q4 (u.2 0) c S (S - 2 + s * stL S + t) = lS (u.2 0) c S s t := fun s t h1 h2 => by
      obtain ⟨g1, g2, g3⟩ := lif_ix (s := s) hS h1 h2
      unfold q4
      rw [if_neg g1, g2, g3]
    have ht : CN (x_X0_settleTree (nI c) (nI S)) u (fun r v => Bs u c (q1 (u.2 0) c S) (q2 (u.2 0) c S) (q3 (u.2 0) c S) (q4 (u.2 0) c S) (S - 1) v) := by
      unfold x_X0_settleTree
      refine CN_tree1 hc hS d1 d2 d3 d4 _ _ (fun v hb => ?_) fuel 0 u (by omega) ⟨Same.rf _, fun k hk => absurd hk (Nat.not_lt_zero k), fun x _ => ⟨rfl, rfl, rfl, rfl⟩⟩
      show CN (xl_X0_settleTree_92 fuel (nI c) (nI S) (nI S / 2) (fun v1 v2 v3 => nrt 0)) v _
      rw [s1]
      exact CN_tree2 hc hS d1 d2 d3 d4 _ _ (fun v2 hb2 r w e => by cases e; exact hb2) fuel (S / 2) v (Nat.le_refl _) (by omega) hb
    refine CN_cl (CN.mono ht (fun r v hb => CN_rd (e_sizeOf hc) ?_))
    rw [hb.b, hz]
    have hb0 : Bs u c (q1 (u.2 0) c S) (q2 (u.2 0) c S) (q3 (u.2 0) c S) (q4 (u.2 0) c S) (S - 1 + 0 * stL S) v := by
      rw [Nat.zero_mul, Nat.add_zero]
      exact hb
    refine CN_settleLives (s := 0) hc hS (by decide) d1 d2 d3 (f1 0) (f2 0) (f3 0) (f4 0) hb0 (fun v2 hb2 => CN_rd (e_sizeOf hc) ?_)
    rw [hb2.b, hz]
    have hb1 : Bs u c (q1 (u.2 0) c S) (q2 (u.2 0) c S) (q3 (u.2 0) c S) (q4 (u.2 0) c S) (S - 1 + 1 * stL S) v2 := by
      have e : S - 1 + 1 * stL S = S - 1 + 0 * stL S + stL S := by omega
      rw [e]
      exact hb2
    refine CN_settleLives (s := 1) hc hS (by decide) d1 d2 d3 (f1 1) (f2 1) (f3 1) (f4 1) hb1 (fun v3 hb3 => CN_rt ⟨rfl, hb3.1, ⟨fun z => ?_, fun _ T hT hT2 i hi => ?_⟩, hb3.2.2⟩)
    · rw [hk] at z
      exact absurd z (by decide)
    · have : T = S := hT.inj hS (hT2.symm.trans hz)
      subst this
      exact hb3.2.1 i (by omega)
/-! the rows ask only for these cells -/
def Acc (B B2 : Nat → Int32) (c : Nat) : Prop := (∀ p, p < 32 → B2 (8 + 36 * c + p) = B (8 + 36 * c + p)) ∧ (∀ i, i < 37 → B2 (fc c i) = B (fc c i) ∧ B2 (fc c i + 3) = B (fc c i + 3)) ∧ B2 (6 + 36 * c) = B (6 + 36 * c) ∧ B2 (7 + 36 * c) = B (7 + 36 * c)
theorem Acc.fn {B B2 : Nat → Int32} {c : Nat} (h : Acc B B2 c) : pl B2 c = pl B c ∧ mkF B2 c = mkF B c ∧ wnF B2 c = wnF B c := by
  refine ⟨?_, ?_, ?_⟩
  · funext p
    unfold pl
    by_cases hp : p < 32
    · rw [if_pos hp, if_pos hp, h.1 p hp]
    · rw [if_neg hp, if_neg hp]
  · funext i
    unfold mkF
    by_cases hp : i < 37
    · rw [if_pos hp, if_pos hp, (h.2.1 i hp).1]
    · rw [if_neg hp, if_neg hp]
  · funext i
    unfold wnF
    by_cases hp : i < 37
    · rw [if_pos hp, if_pos hp, (h.2.1 i hp).2]
    · rw [if_neg hp, if_neg hp]
theorem Acc.all {B B2 : Nat → Int32} {c : Nat} (h : Acc B B2 c) : wF B2 c = wF B c ∧ sF B2 c = sF B c ∧ tW B2 c = tW B c ∧ tA B2 c = tA B c ∧ tB B2 c = tB B c ∧ tS B2 c = tS B c ∧ loL B2 c = loL B c ∧ lW B2 c = lW B c ∧ lA B2 c = lA B c ∧ lS B2 c = lS B c ∧ qA B2 c = qA B c ∧ qB B2 c = qB B c := by
  obtain ⟨h1, h2, h3⟩ := h.fn
  have w : wF B2 c = wF B c := by funext i; unfold wF; rw [h2, h3]
  have s : sF B2 c = sF B c := by funext i a b; unfold sF; rw [h2]
  have t : tW B2 c = tW B c := by funext S i; unfold tW; rw [h1, w]
  have a : tA B2 c = tA B c := by funext S i; unfold tA; rw [h1, t]
  have b : tB B2 c = tB B c := by funext S i; unfold tB; rw [h1, t]
  have f : tF B2 c = tF B c := by funext S i; unfold tF; rw [t]
  have p : ∀ S q k, paL B2 c S q k = paL B c S q k := fun S q k => by
    induction k with
    | zero => rfl
    | succ k ih =>
      show 2 * (paL B2 c S q k - S / 2) + (if tA B2 c S (paL B2 c S q k) = tF B2 c S q then 0 else 1) = 2 * (paL B c S q k - S / 2) + (if tA B c S (paL B c S q k) = tF B c S q then 0 else 1)
      rw [ih, a, f]
  have l : loL B2 c = loL B c := by funext S q t; unfold loL; rw [p, a, b, f]
  have lw : lW B2 c = lW B c := by funext S q t; unfold lW; rw [l, f, w]
  have la : lA B2 c = lA B c := by funext S q t; unfold lA; rw [l, lw]
  have ls : lS B2 c = lS B c := by funext S q t; unfold lS; rw [l, f, s, la]
  refine ⟨w, s, t, a, b, ?_, l, lw, la, ls, ?_, ?_⟩
  · funext S i; unfold tS; rw [h1, s, a, b]
  · funext S i; unfold qA; rw [h1]
  · funext S i; unfold qB; rw [h1]
theorem Bd.to {B B2 : Nat → Int32} {c : Nat} {u v : MS} (h : Bd B c u) (ha : Acc B B2 c) (hv : ∀ i, i < 37 → Rws u v (37 * c + i)) : Bd B2 c v := by
  obtain ⟨w, s, t, a, b, ts, l, lw, la, ls, qa, qb⟩ := ha.all
  refine ⟨fun hk S h2 h5 hS i hi => ?_, fun hk S hS hz i hi => ?_⟩
  · obtain ⟨o3, o4⟩ := off_end S (by omega) h2
    rw [ha.2.2.1] at hk
    rw [ha.2.2.2] at hS
    have z := h.1 hk S h2 h5 hS i hi
    obtain ⟨r1, r2, r3, r4⟩ := hv i (by omega)
    rw [r1, r2, r3, r4, w, s, qa, qb]
    exact z
  · have t3 := hS.st.2.2
    rw [ha.2.2.1] at hk
    rw [ha.2.2.2] at hz
    have z := h.2 hk S hS hz i hi
    obtain ⟨r1, r2, r3, r4⟩ := hv i (by omega)
    rw [r1, r2, r3, r4]
    unfold q1 q2 q3 q4 at z ⊢
    rw [t, a, b, ts, l, lw, la, ls]
    exact z

