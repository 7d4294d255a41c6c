/-! ===== a program succeeds at a state, and what it leaves ===== -/
def Ok {β : Type} (p : PG β) (w : GS) (Q : β → GS → Prop) : Prop := ∃ (r : β) (w1 : GS), p w = some (r, w1) ∧ Q r w1
theorem Ok.mono {β : Type} {p : PG β} {w : GS} {Q Q2 : β → GS → Prop} (h : Ok p w Q) (hq : ∀ r w1, Q r w1 → Q2 r w1) : Ok p w Q2 := by
  obtain ⟨r, w1, e, q⟩ := h
  exact ⟨r, w1, e, hq r w1 q⟩
theorem Ok_rt {β : Type} {x : β} {w : GS} {Q : β → GS → Prop} (h : Q x w) : Ok (prt x) w Q := ⟨x, w, rfl, h⟩
theorem Ok_og {β : Type} {b : Bool} {p : PG β} {w : GS} {Q : β → GS → Prop} (hb : b = true) (h : Ok p w Q) : Ok (pog b p) w Q := by
  subst hb
  exact h
theorem Ok_li {β : Type} {x : Int32} {c : Int32 → PG β} {w : GS} {Q : β → GS → Prop} (h : Ok (c x) w Q) : Ok (pli x c) w Q := h
theorem Ok_cl {α β : Type} {p : PG α} {c : α → PG β} {w : GS} {Q : β → GS → Prop} (h : Ok p w (fun a w1 => Ok (c a) w1 Q)) : Ok (pcl p c) w Q := by
  obtain ⟨a, w1, e, r, w2, e2, q⟩ := h
  exact ⟨r, w2, by unfold pcl; rw [e]; exact e2, q⟩
theorem Ok_oi {β : Type} {x : Option Int32} {a : Int32} {c : Int32 → PG β} {w : GS} {Q : β → GS → Prop} (hx : x = some a) (h : Ok (c a) w Q) : Ok (poi x c) w Q := by
  rw [hx]
  exact h
theorem Ok_otN {β : Type} {n : PG β} {c : Int32 → PG β} {w : GS} {Q : β → GS → Prop} (h : Ok n w Q) : Ok (pot none n c) w Q := h
theorem Ok_otS {β : Type} {r : Int32} {n : PG β} {c : Int32 → PG β} {w : GS} {Q : β → GS → Prop} (h : Ok (c r) w Q) : Ok (pot (some r) n c) w Q := h
theorem Ok_ite {β : Type} {b : Prop} [Decidable b] {p q : PG β} {w : GS} {Q : β → GS → Prop} (h1 : b → Ok p w Q) (h2 : ¬ b → Ok q w Q) : Ok (if b then p else q) w Q := by
  by_cases hb : b
  · rw [if_pos hb]; exact h1 hb
  · rw [if_neg hb]; exact h2 hb
theorem Ok_rf {β : Type} {k : Nat} {c : Int32 → PG β} {w : GS} {Q : β → GS → Prop} (hm : w.2.1 k = true) (h : Ok (c (w.1.1 k)) w Q) : Ok (prf k c) w Q := by
  obtain ⟨r, w1, e, q⟩ := h
  exact ⟨r, w1, by unfold prf; rw [hm]; exact e, q⟩
theorem Ok_uf {β : Type} {k : Nat} {c : Int32 → PG β} {w : GS} {Q : β → GS → Prop} (h : Ok (c (w.1.1 k)) w Q) : Ok (puf k c) w Q := h
theorem Ok_wf {β : Type} {k : Nat} {v : Int32} {p : PG β} {w : GS} {Q : β → GS → Prop} (h : Ok p (swf k v w) Q) : Ok (pwf k v p) w Q := h
theorem Ok_rd {β : Type} {k n : Nat} {i : Int32} {c : Int32 → PG β} {w : GS} {Q : β → GS → Prop} (hi : gi i n = true) (hm : w.2.2 k i.toNatClampNeg = true) (h : Ok (c (ra w.1 k i)) w Q) : Ok (prd k n i c) w Q := by
  obtain ⟨r, w1, e, q⟩ := h
  exact ⟨r, w1, by unfold prd; rw [hi, hm]; exact e, q⟩
theorem Ok_ud {β : Type} {k n : Nat} {i : Int32} {c : Int32 → PG β} {w : GS} {Q : β → GS → Prop} (hi : gi i n = true) (h : Ok (c (ra w.1 k i)) w Q) : Ok (pud k n i c) w Q := by
  obtain ⟨r, w1, e, q⟩ := h
  exact ⟨r, w1, by unfold pud; rw [hi]; exact e, q⟩
theorem Ok_wd {β : Type} {k n : Nat} {i v : Int32} {p : PG β} {w : GS} {Q : β → GS → Prop} (hi : gi i n = true) (h : Ok p (swd k i v w) Q) : Ok (pwd k n i v p) w Q := by
  obtain ⟨r, w1, e, q⟩ := h
  exact ⟨r, w1, by unfold pwd; rw [hi]; exact e, q⟩
theorem Ok_clr {β : Type} {p : PG β} {w : GS} {Q : β → GS → Prop} (h : Ok p (sclr w) Q) : Ok (pclr p) w Q := h
/-- the source is the kept text, and its first n bytes are marked -/
theorem Ok_sr {β : Type} {i : Int32} {c : Int32 → PG β} {w : GS} {Q : β → GS → Prop} (hs : w.2.1 41 = true) (hi : gi i 3000 = true) (hm : w.1.1 41 = 0 ∨ w.2.2 56 i.toNatClampNeg = true) (h : Ok (c (rz w.1 i)) w Q) : Ok (psr i c) w Q := by
  obtain ⟨r, w1, e, q⟩ := h
  refine ⟨r, w1, ?_, q⟩
  unfold psr
  have hb : (decide (w.1.1 41 = 0) || w.2.2 56 i.toNatClampNeg) = true := by
    rcases hm with hm | hm
    · rw [decide_eq_true hm]; rfl
    · rw [hm]; exact Bool.or_true _
  rw [hs, hi, hb]
  exact e
theorem gi_nI {j n : Nat} (h : j < n) (hn : n < 2 ^ 31) : gi (nI j) n = true := decide_eq_true (vp_in_nI h hn)
theorem nI_mul (a b : Nat) : nI a * nI b = nI (a * b) := (Int32.ofNat_mul a b).symm
theorem nI_le4 {k n : Nat} (hk : k < 2 ^ 31) (hn : n < 2 ^ 31) : nI n ≤ nI k ↔ n ≤ k := ⟨fun h => Nat.not_lt.mp (fun z => absurd (nI_lt z hn) (Int32.not_lt.mpr h)), fun h => nI_le h hk⟩
