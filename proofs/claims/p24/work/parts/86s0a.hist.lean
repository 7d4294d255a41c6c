/-! ===== both sides act alike: the book's log tells what was (exact, where a program ends) ===== -/
def CQ {β : Type} (p : AG β) (u : MS) (Q : β → MS → Prop) : Prop := ∀ r v c d, p u = some (r, v, c, d) → Q r v
def CN {β : Type} (p : NG β) (u : MS) (Q : β → MS → Prop) : Prop := ∀ r v, p u = some (r, v) → Q r v
theorem CQ.mono {β : Type} {p : AG β} {u : MS} {Q Q2 : β → MS → Prop} (h : CQ p u Q) (hq : ∀ r v, Q r v → Q2 r v) : CQ p u Q2 := fun r v c d e => hq r v (h r v c d e)
theorem CN.mono {β : Type} {p : NG β} {u : MS} {Q Q2 : β → MS → Prop} (h : CN p u Q) (hq : ∀ r v, Q r v → Q2 r v) : CN p u Q2 := fun r v e => hq r v (h r v e)
theorem CQ_rt {β : Type} {x : β} {u : MS} {Q : β → MS → Prop} (h : Q x u) : CQ (art x) u Q := fun r v c d e => by cases e; exact h
theorem CN_rt {β : Type} {x : β} {u : MS} {Q : β → MS → Prop} (h : Q x u) : CN (nrt x) u Q := fun r v e => by cases e; exact h
theorem CQ_li {β : Type} {x : Int32} {q : Int32 → AG β} {u : MS} {Q : β → MS → Prop} (h : CQ (q x) u Q) : CQ (ali x q) u Q := h
theorem CN_li {β : Type} {x : Int32} {q : Int32 → NG β} {u : MS} {Q : β → MS → Prop} (h : CN (q x) u Q) : CN (nli x q) u Q := h
theorem CQ_ite {β : Type} {b : Prop} [Decidable b] {p q : AG β} {u : MS} {Q : β → MS → Prop} (h1 : b → CQ p u Q) (h2 : ¬ b → CQ q u Q) : CQ (if b then p else q) u Q := by
  by_cases h : b
  · rw [if_pos h]; exact h1 h
  · rw [if_neg h]; exact h2 h
theorem CN_ite {β : Type} {b : Prop} [Decidable b] {p q : NG β} {u : MS} {Q : β → MS → Prop} (h1 : b → CN p u Q) (h2 : ¬ b → CN q u Q) : CN (if b then p else q) u Q := by
  by_cases h : b
  · rw [if_pos h]; exact h1 h
  · rw [if_neg h]; exact h2 h
theorem CQ_nl {α β : Type} {p : NG α} {q : α → AG β} {u : MS} {Q : β → MS → Prop} (h : CN p u (fun a v => CQ (q a) v Q)) : CQ (anl p q) u Q := fun r v c d e => by
  obtain ⟨a, w, e1, e2⟩ := anl_some e
  exact h a w e1 r v c d e2
theorem CN_cl {α β : Type} {p : NG α} {q : α → NG β} {u : MS} {Q : β → MS → Prop} (h : CN p u (fun a v => CN (q a) v Q)) : CN (ncl p q) u Q := fun r v e => by
  obtain ⟨a, w, e1, e2⟩ := ncl_some e
  exact h a w e1 r v e2
theorem CQ_cl {α β : Type} {p : AG α} {q : α → AG β} {u : MS} {Q : β → MS → Prop} (h : CQ p u (fun a v => CQ (q a) v Q)) : CQ (acl p q) u Q := fun r v c d e => by
  obtain ⟨a, w, c1, d1, c2, d2, e1, e2, -⟩ := acl_some e
  exact h a w c1 d1 e1 r v c2 d2 e2
theorem CQ_GT {β : Type} {a n : Nat} {i : Int32} {q : Int32 → AG β} {u : MS} {Q : β → MS → Prop} (h : CQ (q (rg (u.2 a) n i)) u Q) : CQ (anl (nGT a n i) q) u Q := h
theorem CN_GT {β : Type} {a n : Nat} {i : Int32} {q : Int32 → NG β} {u : MS} {Q : β → MS → Prop} (h : CN (q (rg (u.2 a) n i)) u Q) : CN (ncl (nGT a n i) q) u Q := h
theorem CN_RF {β : Type} {k : Nat} {q : Int32 → NG β} {u : MS} {Q : β → MS → Prop} (h : CN (q (u.1 k)) u Q) : CN (ncl (nRF k) q) u Q := h
theorem CN_WF {β : Type} {k : Nat} {x : Int32} {q : Unit → NG β} {u : MS} {Q : β → MS → Prop} (h : CN (q ()) (si u k x) Q) : CN (ncl (nWF k x) q) u Q := h
/-- a program that only looks -/
theorem CQ_rd {α β : Type} {p : NG α} {q : α → AG β} {u : MS} {a : α} {Q : β → MS → Prop} (e : p u = some (a, u)) (h : CQ (q a) u Q) : CQ (anl p q) u Q := CQ_nl (fun r v e2 => by
  rw [e] at e2
  cases e2
  exact h)
theorem CN_rd {α β : Type} {p : NG α} {q : α → NG β} {u : MS} {a : α} {Q : β → MS → Prop} (e : p u = some (a, u)) (h : CN (q a) u Q) : CN (ncl p q) u Q := CN_cl (fun r v e2 => by
  rw [e] at e2
  cases e2
  exact h)
/-- the cells as they were t changes ago -/
def und (a1 a2 : Nat → Int32) (st : Nat) : Nat → (Nat → Int32) → (Nat → Int32)
  | 0, B => B
  | t + 1, B => und a1 a2 st t (rs B 2088 (a1 (st + t)) (a2 (st + t)))
theorem und_succ {a1 a2 : Nat → Int32} {st : Nat} (t : Nat) (B : Nat → Int32) : und a1 a2 st (t + 1) B = und a1 a2 st t (rs B 2088 (a1 (st + t)) (a2 (st + t))) := rfl
theorem und_congr {a1 a2 b1 b2 : Nat → Int32} {st : Nat} : ∀ (t : Nat) (B : Nat → Int32), (∀ k, st ≤ k → k < st + t → a1 k = b1 k ∧ a2 k = b2 k) → und a1 a2 st t B = und b1 b2 st t B := by
  intro t
  induction t with
  | zero => exact fun B _ => rfl
  | succ t ih =>
    intro B h
    obtain ⟨e1, e2⟩ := h (st + t) (by omega) (by omega)
    show und a1 a2 st t (rs B 2088 (a1 (st + t)) (a2 (st + t))) = und b1 b2 st t (rs B 2088 (b1 (st + t)) (b2 (st + t)))
    rw [e1, e2]
    exact ih _ (fun k h1 h2 => h k h1 (by omega))
theorem und_add {a1 a2 : Nat → Int32} {st t1 : Nat} : ∀ (t2 : Nat) (B : Nat → Int32), und a1 a2 st (t1 + t2) B = und a1 a2 st t1 (und a1 a2 (st + t1) t2 B) := by
  intro t2
  induction t2 with
  | zero => exact fun B => rfl
  | succ t ih =>
    intro B
    show und a1 a2 st (t1 + t) (rs B 2088 (a1 (st + (t1 + t))) (a2 (st + (t1 + t)))) = und a1 a2 st t1 (und a1 a2 (st + t1) t (rs B 2088 (a1 (st + t1 + t)) (a2 (st + t1 + t))))
    rw [ih, Nat.add_assoc]
theorem rs_back (B : Nat → Int32) (a x : Int32) : rs (rs B 2088 a x) 2088 a (rg B 2088 a) = B := by
  unfold rs rg
  by_cases h1 : a < 0
  · rw [if_pos h1, if_pos h1]
  · rw [if_neg h1, if_neg h1, if_neg h1]
    by_cases h2 : nI 2088 ≤ a
    · rw [if_pos h2, if_pos h2]
    · rw [if_neg h2, if_neg h2, if_neg h2]
      funext j
      show (if j = a.toNatClampNeg then B a.toNatClampNeg else if j = a.toNatClampNeg then x else B j) = B j
      by_cases h3 : j = a.toNatClampNeg
      · rw [if_pos h3, h3]
      · rw [if_neg h3, if_neg h3]
/-- the cells at change p of the log -/
def hB (u : MS) (p : Nat) : Nat → Int32 := und (u.2 1) (u.2 2) p ((u.1 0).toNatClampNeg - p) (u.2 0)
/-- the log's rows: ch changes, room C -/
def Kl (u : MS) (ch C : Nat) : Prop := u.1 0 = nI ch ∧ u.1 60 = nI C ∧ u.1 65 = nI C ∧ ch ≤ C ∧ 1 ≤ C ∧ C ≤ 16777216
theorem Kb.kl {u : MS} {ch C : Nat} (h : Kb u ch C) : Kl u ch C := by
  have hC := h.C
  exact ⟨h.1, h.2.1, h.2.2.1, h.2.2.2.1, by omega, by omega⟩
theorem hB_top {u : MS} {ch C : Nat} (h : Kl u ch C) : hB u ch = u.2 0 := by
  unfold hB
  have hc := h.2.2.2.1
  have hC := h.2.2.2.2.2
  rw [h.1, nI_clamp (by omega), Nat.sub_self]
  rfl
/-- from u to v: the log has grown, what was before is told as it was -/
def Hs (u v : MS) : Prop := ∃ ch C ch' C', Kl u ch C ∧ Kl v ch' C' ∧ ch ≤ ch' ∧ ∀ p, p ≤ ch → hB v p = hB u p
theorem Hs.rf {u : MS} {ch C : Nat} (h : Kl u ch C) : Hs u u := ⟨ch, C, ch, C, h, h, Nat.le_refl _, fun _ _ => rfl⟩
theorem Kl.inj {u : MS} {c1 C1 c2 C2 : Nat} (h1 : Kl u c1 C1) (h2 : Kl u c2 C2) : c1 = c2 ∧ C1 = C2 := by
  obtain ⟨a1, a2, a3, a4, a5, a6⟩ := h1
  obtain ⟨b1, b2, b3, b4, b5, b6⟩ := h2
  exact ⟨(nI_eq (by omega) (by omega)).mp (a1.symm.trans b1), (nI_eq (by omega) (by omega)).mp (a2.symm.trans b2)⟩
theorem Hs.trans {u v w : MS} (h1 : Hs u v) (h2 : Hs v w) : Hs u w := by
  obtain ⟨ch, C, ch', C', k1, k2, hle, hh⟩ := h1
  obtain ⟨ch2, C2, ch3, C3, k3, k4, hle2, hh2⟩ := h2
  obtain ⟨rfl, rfl⟩ := k2.inj k3
  exact ⟨ch, C, ch3, C3, k1, k4, Nat.le_trans hle hle2, fun p hp => (hh2 p (Nat.le_trans hp hle)).trans (hh p hp)⟩
theorem Hs.same {l1 l2 : List Nat} {u v : MS} {ch C : Nat} (h : Kl u ch C) (hs : Same l1 l2 u v) (h1 : ¬ 0 ∈ l1 ∧ ¬ 60 ∈ l1 ∧ ¬ 65 ∈ l1) (h2 : ¬ 0 ∈ l2 ∧ ¬ 1 ∈ l2 ∧ ¬ 2 ∈ l2) : Hs u v := by
  have e0 := hs.1 0 h1.1
  refine ⟨ch, C, ch, C, h, ⟨e0.trans h.1, (hs.1 60 h1.2.1).trans h.2.1, (hs.1 65 h1.2.2).trans h.2.2.1, h.2.2.2⟩, Nat.le_refl _, fun p _ => ?_⟩
  unfold hB
  rw [e0, hs.2 0 h2.1, hs.2 1 h2.2.1, hs.2 2 h2.2.2]
theorem room_inv {c k ch C c1 d1 : Nat} {u v : MS} {r : Int32} (hc : u.1 c = nI C) (h1 : ch ≤ C) (h2 : 1 ≤ C) (h3 : C ≤ 16777216) (e : x_room c k (nI ch) u = some (r, v, c1, d1)) : (ch < C ∧ v = u) ∨ (ch = C ∧ 2 * C ≤ 16777216 ∧ v = si (sf u k (va_cpy (u.2 k) (fun _ => 0) 0 0 C)) c (nI (2 * C))) := by
  unfold x_room at e
  rw [hc, nI_clamp (by omega), nI_clamp (by omega)] at e
  by_cases hlt : nI ch < nI C
  · rw [if_pos hlt] at e
    cases e
    exact Or.inl ⟨(nI_ltI (by omega) (by omega)).mp hlt, rfl⟩
  · rw [if_neg hlt] at e
    have hE : ch = C := by
      have hz : ¬ ch < C := fun z => hlt ((nI_ltI (a := ch) (b := C) (by omega) (by omega)).mpr z)
      omega
    have em : max (ch + 1) (2 * C) = 2 * C := by omega
    rw [em] at e
    by_cases h9 : 2 * C ≤ 16777216
    · rw [decide_eq_true h9] at e
      cases e
      exact Or.inr ⟨hE, h9, rfl⟩
    · rw [decide_eq_false h9] at e
      cases e
theorem room_two {u w1 w2 : MS} {ch C c1 d1 c3 d3 : Nat} {x y : Int32} (h : Kl u ch C) (e1 : x_room 60 1 (nI ch) u = some (x, w1, c1, d1)) (e2 : x_room 65 2 (w1.1 0) w1 = some (y, w2, c3, d3)) : ∃ C', ch < C' ∧ C' ≤ 16777216 ∧ w2.1 0 = nI ch ∧ w2.1 60 = nI C' ∧ w2.1 65 = nI C' ∧ w2.2 0 = u.2 0 ∧ (∀ k, k < ch → w2.2 1 k = u.2 1 k) ∧ (∀ k, k < ch → w2.2 2 k = u.2 2 k) ∧ Same [0, 60, 65] [0, 1, 2] u w2 := by
  obtain ⟨h0, h60, h65, h4, h5, h6⟩ := h
  have hcp : ∀ (f : Nat → Int32) k, k < C → va_cpy f (fun _ => 0) 0 0 C k = f k := fun f k hk => by
    show (if 0 ≤ k ∧ k < 0 + C then f (0 + (k - 0)) else 0) = f k
    rw [if_pos ⟨by omega, by omega⟩]
    congr 1
    omega
  rcases room_inv h60 h4 h5 h6 e1 with ⟨hlt, rfl⟩ | ⟨hE, h7, rfl⟩
  · rw [h0] at e2
    rcases room_inv h65 h4 h5 h6 e2 with ⟨-, rfl⟩ | ⟨hE, -, -⟩
    · exact ⟨C, hlt, h6, h0, h60, h65, rfl, fun _ _ => rfl, fun _ _ => rfl, Same.rf _⟩
    · omega
  · have e3 : x_room 65 2 (nI ch) (si (sf u 1 (va_cpy (u.2 1) (fun _ => 0) 0 0 C)) 60 (nI (2 * C))) = some (y, w2, c3, d3) := by
      rw [← h0]
      exact e2
    have h65b : (si (sf u 1 (va_cpy (u.2 1) (fun _ => 0) 0 0 C)) 60 (nI (2 * C))).1 65 = nI C := h65
    rcases room_inv (C := C) h65b h4 h5 h6 e3 with ⟨hlt, -⟩ | ⟨-, h8, rfl⟩
    · omega
    · exact ⟨2 * C, by omega, h7, h0, rfl, rfl, rfl, fun k hk => hcp _ k (by omega), fun k hk => hcp _ k (by omega), ((Same_sf (by decide)).trans (Same_si (by decide))).trans ((Same_sf (by decide)).trans (Same_si (by decide)))⟩
theorem sf4_0 (u : MS) (f g h : Nat → Int32) (y : Int32) : (sf (si (sf (sf u 1 f) 2 g) 0 y) 0 h).2 0 = h := rfl
theorem sf4_1 (u : MS) (f g h : Nat → Int32) (y : Int32) : (sf (si (sf (sf u 1 f) 2 g) 0 y) 0 h).2 1 = f := rfl
theorem sf4_2 (u : MS) (f g h : Nat → Int32) (y : Int32) : (sf (si (sf (sf u 1 f) 2 g) 0 y) 0 h).2 2 = g := rfl
theorem sf4_i (u : MS) (f g h : Nat → Int32) (y : Int32) : (sf (si (sf (sf u 1 f) 2 g) 0 y) 0 h).1 0 = y ∧ (sf (si (sf (sf u 1 f) 2 g) 0 y) 0 h).1 60 = u.1 60 ∧ (sf (si (sf (sf u 1 f) 2 g) 0 y) 0 h).1 65 = u.1 65 := ⟨rfl, rfl, rfl⟩
theorem put2_v (C ch : Nat) (a0 a1 x : Int32) (u : MS) : (put2 C ch a0 a1 x u).2 0 = rs (u.2 0) 2088 a0 a1 ∧ (put2 C ch a0 a1 x u).2 1 = rs (u.2 1) C (nI ch) a0 ∧ (put2 C ch a0 a1 x u).2 2 = rs (u.2 2) C (nI ch) x ∧ (put2 C ch a0 a1 x u).1 0 = nI (ch + 1) ∧ (put2 C ch a0 a1 x u).1 60 = u.1 60 ∧ (put2 C ch a0 a1 x u).1 65 = u.1 65 := by
  unfold put2
  exact ⟨sf4_0 .., sf4_1 .., sf4_2 .., (sf4_i ..).1, (sf4_i ..).2.1, (sf4_i ..).2.2⟩
theorem put2_ex {u w2 : MS} {ch C C' : Nat} {a b : Int32} (h : Kl u ch C) (hc1 : ch < C') (hc2 : C' ≤ 16777216) (g60 : w2.1 60 = nI C') (g65 : w2.1 65 = nI C') (gB : w2.2 0 = u.2 0) (g1 : ∀ k, k < ch → w2.2 1 k = u.2 1 k) (g2 : ∀ k, k < ch → w2.2 2 k = u.2 2 k) (gs : Same [0, 60, 65] [0, 1, 2] u w2) : Hs u (put2 C' ch a b (rg (u.2 0) 2088 a) w2) ∧ (put2 C' ch a b (rg (u.2 0) 2088 a) w2).2 0 = rs (u.2 0) 2088 a b ∧ Same [0, 60, 65] [0, 1, 2] u (put2 C' ch a b (rg (u.2 0) 2088 a) w2) := by
  have h9 := h
  obtain ⟨h0, h60, h65, h4, h5, h6⟩ := h9
  obtain ⟨w0, w1, w2', w3, w60, w65⟩ := put2_v C' ch a b (rg (u.2 0) 2088 a) w2
  have qs := put_same (C := C') (ch := ch) (a0 := a) (a1 := b) (x := rg (u.2 0) 2088 a) gs
  generalize put2 C' ch a b (rg (u.2 0) 2088 a) w2 = v at w0 w1 w2' w3 w60 w65 qs ⊢
  have q0 : v.2 0 = rs (u.2 0) 2088 a b := by rw [w0, gB]
  have q1 : ∀ k, v.2 1 k = if k = ch then a else w2.2 1 k := fun k => by
    rw [w1]
    exact rs_in hc1 (by omega) k
  have q2 : ∀ k, v.2 2 k = if k = ch then rg (u.2 0) 2088 a else w2.2 2 k := fun k => by
    rw [w2']
    exact rs_in hc1 (by omega) k
  have q3 : v.1 0 = nI (ch + 1) := w3
  have q60 : v.1 60 = nI C' := w60.trans g60
  have q65 : v.1 65 = nI C' := w65.trans g65
  refine ⟨⟨ch, C, ch + 1, C', h, ⟨q3, q60, q65, by omega, by omega, hc2⟩, by omega, fun p hp => ?_⟩, q0, qs⟩
  unfold hB
  rw [q3, h0, nI_clamp (by omega), nI_clamp (by omega), q0]
  have es : ch + 1 - p = (ch - p) + 1 := by omega
  have ep : p + (ch - p) = ch := by omega
  rw [es, und_succ, ep, q1 ch, q2 ch, if_pos rfl, if_pos rfl, rs_back]
  exact und_congr _ _ (fun k h1 h2 => by
    have hk : ¬ k = ch := by omega
    rw [q1 k, q2 k, if_neg hk, if_neg hk]
    exact ⟨g1 k (by omega), g2 k (by omega)⟩)
/-- a put, exactly -/
theorem put_ex {u v : MS} {ch C c d : Nat} {a b r : Int32} (h : Kl u ch C) (e : x_X1_put a b u = some (r, v, c, d)) : Hs u v ∧ v.2 0 = rs (u.2 0) 2088 a b ∧ Same [0, 60, 65] [0, 1, 2] u v := by
  unfold x_X1_put at e
  obtain ⟨x, w, e1, e⟩ := anl_some e
  cases e1
  by_cases hx : rg (u.2 0) 2088 a = b
  · rw [if_pos hx] at e
    cases e
    exact ⟨Hs.rf h, (rs_same hx).symm, Same.rf u⟩
  · rw [if_neg hx] at e
    obtain ⟨x, w, e1, e⟩ := anl_some e
    cases e1
    obtain ⟨x, w1, c1, d1, c2, d2, e1, e, -⟩ := acl_some e
    obtain ⟨x, w, e2, e⟩ := anl_some e
    cases e2
    obtain ⟨x, w2, c3, d3, c4, d4, e2, e, -⟩ := acl_some e
    rw [h.1] at e1
    obtain ⟨C', hc1, hc2, g0, g60, g65, gB, g1, g2, gs⟩ := room_two h e1 e2
    have e9 := e.symm.trans (put_tail a b (rg (u.2 0) 2088 a) g0 g60 g65 (by omega))
    have e8 : v = put2 C' ch a b (rg (u.2 0) 2088 a) w2 := congrArg (fun (z : Int32 × MS × Nat × Nat) => z.2.1) (Option.some.inj e9)
    rw [e8]
    exact put2_ex h hc1 hc2 g60 g65 gB g1 g2 gs
theorem CQ_put {β : Type} {a b : Int32} {q : Int32 → AG β} {u : MS} {Q : β → MS → Prop} {ch C : Nat} (hK : Kl u ch C) (h : ∀ r v, Hs u v → v.2 0 = rs (u.2 0) 2088 a b → Same [0, 60, 65] [0, 1, 2] u v → CQ (q r) v Q) : CQ (acl (x_X1_put a b) q) u Q := CQ_cl (fun r v c d e => by
  obtain ⟨h1, h2, h3⟩ := put_ex hK e
  exact h r v h1 h2 h3)
theorem tbx_lp {u0 : MS} {ch C : Nat} (st : Nat) (K : Int32 → Int32 → NG Int32) (Q : Int32 → MS → Prop) (hC : ch ≤ C) (hC2 : C ≤ 16777216) (h60 : u0.1 60 = nI C) (h65 : u0.1 65 = nI C) (hK : ∀ v2 u, u.1 = u0.1 → (∀ k, ¬ k = 0 → u.2 k = u0.2 k) → u.2 0 = und (u0.2 1) (u0.2 2) st (ch - st) (u0.2 0) → CN (K (nI st) v2) u Q) : ∀ (t k n : Nat) (u : MS), k = st + t → k ≤ ch → u.1 = u0.1 → (∀ k, ¬ k = 0 → u.2 k = u0.2 k) → und (u0.2 1) (u0.2 2) st t (u.2 0) = und (u0.2 1) (u0.2 2) st (ch - st) (u0.2 0) → CN (xl_X1_takeBack_33 n (nI st) (nI k - 1) K) u Q := by
  intro t
  induction t with
  | zero =>
    intro k n u hk hkc h1 h2 h3
    cases n with
    | zero => exact fun r v e => by cases e
    | succ n =>
      have : k = st := by omega
      subst this
      have hlt : nI k - 1 < nI k := by
        rw [Int32.lt_iff_toInt_lt]
        have e : nI k - 1 = nI k + (-1) := Int32.sub_eq_add_neg _ _
        have hk1 : (nI k).toInt = k := nI_toInt (by omega)
        rw [e, i32_add _ (-1) (by rw [i32_m1, hk1]; omega) (by rw [i32_m1, hk1]; omega), i32_m1, hk1]
        omega
      unfold xl_X1_takeBack_33
      rw [if_pos hlt]
      exact hK _ u h1 h2 h3
  | succ t ih =>
    intro k n u hk hkc h1 h2 h3
    cases n with
    | zero => exact fun r v e => by cases e
    | succ n =>
      have ep : nI k - 1 = nI (k - 1) := nI_sub (b := 1) (by omega)
      unfold xl_X1_takeBack_33
      rw [ep, if_neg (fun z => absurd ((nI_ltI (by omega) (by omega)).mp z) (by omega))]
      have e1 : rg (u.2 1) (u.1 60).toNatClampNeg (nI (k - 1)) = u0.2 1 (k - 1) := by
        rw [h1, h60, nI_clamp (by omega), rg_in (by omega) (by omega), h2 1 (by decide)]
      have e2 : rg (u.2 2) (u.1 65).toNatClampNeg (nI (k - 1)) = u0.2 2 (k - 1) := by
        rw [h1, h65, nI_clamp (by omega), rg_in (by omega) (by omega), h2 2 (by decide)]
      show CN (xl_X1_takeBack_33 n (nI st) (nI (k - 1) + (-1)) K) (sf u 0 (rs (u.2 0) 2088 (rg (u.2 1) (u.1 60).toNatClampNeg (nI (k - 1))) (rg (u.2 2) (u.1 65).toNatClampNeg (nI (k - 1))))) Q
      rw [e1, e2]
      have em : nI (k - 1) + (-1) = nI (k - 1) - 1 := (Int32.sub_eq_add_neg _ _).symm
      rw [em]
      refine ih (k - 1) n _ (by omega) (by omega) h1 (fun j hj => (if_neg hj).trans (h2 j hj)) ?_
      have hk1 : k - 1 = st + t := by omega
      rw [hk1]
      exact h3
/-- takeBack, exactly -/
theorem tb_ex {u v : MS} {n p ch C : Nat} {r : Int32} (h : Kl u ch C) (hn : 1 ≤ n ∧ n ≤ 500) (h1 : u.1 1 = nI n) (hp : u.2 3 (n - 1) = nI p) (hpc : p ≤ ch) (e : x_X1_takeBack u = some (r, v)) : v.1 1 = nI (n - 1) ∧ v.2 0 = hB u p ∧ Kl v p C ∧ (∀ q, q ≤ p → hB v q = hB u q) ∧ Same [0, 1] [0] u v := by
  have h9 := h
  obtain ⟨h0, h60, h65, h4, h5, h6⟩ := h9
  have ep : nI n - 1 = nI (n - 1) := nI_sub (b := 1) hn.1
  have e500 : rg (u.2 3) 500 (nI (n - 1)) = nI p := by rw [rg_in (by omega) (by decide)]; exact hp
  have emax : (if nI p < 0 then (0 : Int32) else nI p) = nI p := if_neg (nI_nn (by omega))
  have hmain : CN x_X1_takeBack u (fun _ v => v.1 1 = nI (n - 1) ∧ v.2 0 = hB u p ∧ Kl v p C ∧ (∀ q, q ≤ p → hB v q = hB u q) ∧ Same [0, 1] [0] u v) := by
    unfold x_X1_takeBack
    refine CN_RF (CN_WF (CN_RF (CN_GT ?_)))
    show CN (nli (if rg (u.2 3) 500 (u.1 1 - 1) < 0 then 0 else rg (u.2 3) 500 (u.1 1 - 1)) (fun x_17 => ncl (nRF 0) (fun x_19 => nli (x_19 - 1) (fun x_23 => xl_X1_takeBack_33 fuel x_17 x_23 (fun v1 v2 => ncl (nWF 0 v1) (fun _ => nrt 0)))))) (si u 1 (u.1 1 - 1)) _
    rw [h1, ep, e500, emax]
    refine CN_li (CN_RF (CN_li ?_))
    show CN (xl_X1_takeBack_33 fuel (nI p) (u.1 0 - 1) (fun v1 v2 => ncl (nWF 0 v1) (fun _ => nrt 0))) (si u 1 (nI (n - 1))) _
    rw [h0]
    refine tbx_lp (u0 := si u 1 (nI (n - 1))) (ch := ch) (C := C) p _ _ h4 h6 h60 h65 (fun v2 w hw1 hw2 hw3 => ?_) (ch - p) ch fuel _ (by omega) (Nat.le_refl _) rfl (fun _ _ => rfl) rfl
    show CN (nrt (0 : Int32)) (si w 0 (nI p)) _
    have hs : Same [0, 1] [0] u (si w 0 (nI p)) := ⟨fun k hk => by
      have k0 : ¬ k = 0 := fun z => hk (by rw [z]; decide)
      have k1 : ¬ k = 1 := fun z => hk (by rw [z]; decide)
      show (if k = 0 then nI p else w.1 k) = u.1 k
      rw [if_neg k0, hw1]
      show (if k = 1 then nI (n - 1) else u.1 k) = u.1 k
      rw [if_neg k1], fun k hk => (hw2 k (fun z => hk (by rw [z]; decide)))⟩
    have hB0 : w.2 0 = hB u p := by
      rw [hw3]
      unfold hB
      rw [h0, nI_clamp (by omega)]
      rfl
    refine CN_rt ⟨?_, hB0, ⟨rfl, (hs.1 60 (by decide)).trans h60, (hs.1 65 (by decide)).trans h65, by omega, h5, h6⟩, fun q hq => ?_, hs⟩
    · show w.1 1 = nI (n - 1)
      rw [hw1]
      rfl
    · unfold hB
      have e1 : (si w 0 (nI p)).1 0 = nI p := rfl
      have e2 : (si w 0 (nI p)).2 1 = u.2 1 := hs.2 1 (by decide)
      have e3 : (si w 0 (nI p)).2 2 = u.2 2 := hs.2 2 (by decide)
      have e4 : (si w 0 (nI p)).2 0 = hB u p := hB0
      rw [e1, e2, e3, e4, h0, nI_clamp (by omega), nI_clamp (by omega)]
      unfold hB
      rw [h0, nI_clamp (by omega)]
      have es : ch - q = (p - q) + (ch - p) := by omega
      have eq : q + (p - q) = p := by omega
      rw [es, und_add, eq]
  exact hmain r v e
/-- openEntry, exactly -/
theorem oe_ex {u v : MS} {n ch C : Nat} {r : Int32} (h : Kl u ch C) (hn : n < 500) (h1 : u.1 1 = nI n) (e : x_X1_openEntry u = some (r, v)) : v.1 1 = nI (n + 1) ∧ v.2 3 n = nI ch ∧ (∀ k, ¬ k = n → v.2 3 k = u.2 3 k) ∧ Hs u v ∧ v.2 0 = u.2 0 ∧ Same [1] [3] u v ∧ Kl v ch C := by
  have e2 : x_X1_openEntry u = some (0, si (sf u 3 (rs (u.2 3) 500 (u.1 1) (u.1 0))) 1 (u.1 1 + 1)) := rfl
  rw [e2] at e
  cases e
  have hs : Same [1] [3] u (si (sf u 3 (rs (u.2 3) 500 (u.1 1) (u.1 0))) 1 (u.1 1 + 1)) := (Same_sf (by decide)).trans (Same_si (by decide))
  have q : ∀ k, rs (u.2 3) 500 (u.1 1) (u.1 0) k = if k = n then nI ch else u.2 3 k := fun k => by
    rw [h1, h.1]
    exact rs_in hn (by decide) k
  refine ⟨?_, ?_, fun k hk => ?_, Hs.same h hs (by decide) (by decide), rfl, hs, ⟨h.1, h.2⟩⟩
  · show u.1 1 + 1 = nI (n + 1)
    rw [h1]
    exact nI_1 n
  · show rs (u.2 3) 500 (u.1 1) (u.1 0) n = nI ch
    rw [q n, if_pos rfl]
  · show rs (u.2 3) 500 (u.1 1) (u.1 0) k = u.2 3 k
    rw [q k, if_neg hk]

