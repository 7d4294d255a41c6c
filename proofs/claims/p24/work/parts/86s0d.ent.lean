/-! ===== both sides between two calls; now, rest ===== -/
def Ent (u v : MS) (n ch : Nat) : Prop := v.1 1 = nI (n + 1) ∧ v.2 3 n = nI ch ∧ (∀ k, k < n → v.2 3 k = u.2 3 k) ∧ Hs u v ∧ Same [0, 1, 60, 65] [0, 1, 2, 3] u v
theorem Ent.put {u v v2 : MS} {n ch : Nat} (h : Ent u v n ch) (hs : Hs v v2) (hS : Same [0, 60, 65] [0, 1, 2] v v2) : Ent u v2 n ch := by
  obtain ⟨a, b, d, e, f⟩ := h
  have e1 := hS.1 1 (by decide)
  have e3 := hS.2 3 (by decide)
  exact ⟨e1.trans a, by rw [e3]; exact b, fun k hk => by rw [e3]; exact d k hk, e.trans hs, f.trans (hS.mono (by decide) (by decide))⟩
theorem Hs.kl {u v : MS} (h : Hs u v) : ∃ ch C, Kl v ch C := by
  obtain ⟨ch, C, ch', C', -, k, -⟩ := h
  exact ⟨ch', C', k⟩
theorem CQ_open {β : Type} {q : Int32 → AG β} {u : MS} {Q : β → MS → Prop} {n ch C : Nat} (hK : Kl u ch C) (hn : n < 500) (h1 : u.1 1 = nI n) (h : ∀ r v, Ent u v n ch → Kl v ch C → v.2 0 = u.2 0 → Same [1] [3] u v → CQ (q r) v Q) : CQ (anl x_X1_openEntry q) u Q := CQ_nl (fun r v e => by
  obtain ⟨a, b, d, e1, f, g, k⟩ := oe_ex hK hn h1 e
  exact h r v ⟨a, b, fun j hj => d j (by omega), e1, g.mono (by decide) (by decide)⟩ k f g)
theorem CQ_full {body : AG Int32} {u : MS} {Q : Int32 → MS → Prop} {n : Nat} (h1 : u.1 1 = nI n) (hn : n ≤ 500) (hl : n < 500 → CQ body u Q) (hf : n = 500 → Q (-4) u) : CQ (anl x_X1_isFull (fun r => (if r = 0 then body else art (-4)))) u Q := CQ_rd (e_isFull h1 hn) (by
  by_cases h5 : n < 500
  · rw [if_pos h5, if_pos rfl]
    exact hl h5
  · rw [if_neg h5, if_neg (by decide)]
    exact CQ_rt (hf (by omega)))
/-- an act that settles too -/
def EntS (u v : MS) (n ch : Nat) : Prop := v.1 1 = nI (n + 1) ∧ v.2 3 n = nI ch ∧ (∀ k, k < n → v.2 3 k = u.2 3 k) ∧ Hs u v ∧ Same [0, 1, 16, 60, 65] [0, 1, 2, 3, 11, 12, 13, 14, 15, 16, 17, 18] u v
theorem Ent.s {u v : MS} {n ch : Nat} (h : Ent u v n ch) : EntS u v n ch := ⟨h.1, h.2.1, h.2.2.1, h.2.2.2.1, h.2.2.2.2.mono (by decide) (by decide)⟩
theorem EntS.put {u v v2 : MS} {n ch : Nat} (h : EntS u v n ch) (hs : Hs v v2) (hS : Same [0, 60, 65] [0, 1, 2] v v2) : EntS u v2 n ch := by
  obtain ⟨a, b, d, e, f⟩ := h
  have e1 := hS.1 1 (by decide)
  have e3 := hS.2 3 (by decide)
  exact ⟨e1.trans a, by rw [e3]; exact b, fun k hk => by rw [e3]; exact d k hk, e.trans hs, f.trans (hS.mono (by decide) (by decide))⟩
/-- a piece that leaves the log alone -/
theorem EntS.same {u v v2 : MS} {n ch : Nat} (h : EntS u v n ch) (hS : Same [16] [11, 12, 13, 14, 15, 16, 17, 18] v v2) : EntS u v2 n ch := by
  obtain ⟨a, b, d, e, f⟩ := h
  have e1 := hS.1 1 (by decide)
  have e3 := hS.2 3 (by decide)
  obtain ⟨ch2, C2, hK⟩ := e.kl
  exact ⟨e1.trans a, by rw [e3]; exact b, fun k hk => by rw [e3]; exact d k hk, e.trans (Hs.same hK hS (by decide) (by decide)), f.trans (hS.mono (by decide) (by decide))⟩
theorem R0.hd {B B2 : Nat → Int32} {u v : GS} (h : R0 B u) (hB : ∀ j, 3 ≤ j → B2 j = B j) (e1 : v.1.2 = u.1.2) (e2 : v.2.2 = u.2.2) (i2 : Im v 2 (B2 2)) (i3 : Im v 3 (B2 0)) (i4 : Im v 4 (B2 1)) (e : B2 2 = B 2) : R0 B2 v := by
  have am : ∀ {k j x}, Am u k j x → Am v k j x := fun z => by
    unfold Am at z ⊢
    rw [e1, e2]
    exact z
  have en : nF v = nF u := by
    unfold nF
    rw [i2.2, h.1.1.2, e]
  obtain ⟨-, hC, hF, hN, hR, hM⟩ := h
  refine ⟨⟨i2, i3, i4⟩, fun c hc => ?_, fun f hf => ?_, fun f h1 h2 => ?_, fun c hc i hi => ?_, fun m hm => ?_⟩
  · have z := hC c hc
    unfold rC at z ⊢
    rw [hB _ (by omega), hB _ (by omega), hB _ (by omega), hB _ (by omega)]
    exact ⟨am z.1, am z.2.1, am z.2.2.1, fun q => ⟨am (z.2.2.2 q).1, fun p h1 h2 => by rw [hB _ (by omega)]; exact am ((z.2.2.2 q).2 p h1 h2)⟩⟩
  · have z := hF f (by rw [← en]; exact hf)
    unfold rF at z ⊢
    rw [hB _ (by omega), hB _ (by omega), hB _ (by omega), hB _ (by omega), hB _ (by omega), hB _ (by omega), hB _ (by omega)]
    exact ⟨am z.1, am z.2.1, am z.2.2.1, am z.2.2.2.1, am z.2.2.2.2.1, am z.2.2.2.2.2.1, am z.2.2.2.2.2.2⟩
  · have z := hN f (by rw [← en]; exact h1) h2
    unfold rN at z ⊢
    rw [hB _ (by omega), hB _ (by omega)]
    exact z
  · have q : ∀ k, B2 (fc c i + k) = B (fc c i + k) := fun k => hB _ (by unfold fc; omega)
    have q0 : B2 (fc c i) = B (fc c i) := q 0
    rcases hR c hc i hi with ⟨a, b⟩ | ⟨⟨a, b, m, d, e, f⟩ | ⟨a, b, d, e, f, g⟩, y, z⟩
    · exact Or.inl ⟨q0.trans a, am b⟩
    · refine Or.inr ⟨Or.inl ⟨q0.trans a, am b, m, d, (q 7).trans e, am f⟩, ?_, ?_⟩
      · rw [q 1]; exact am y
      · rw [q 2]; exact am z
    · refine Or.inr ⟨Or.inr ⟨q0.trans a, am b, ?_, ?_, ?_, ?_⟩, ?_, ?_⟩
      · rw [q 3]; exact am d
      · rw [q 4]; exact am e
      · rw [q 5]; exact am f
      · rw [q 6]; exact am g
      · rw [q 1]; exact am y
      · rw [q 2]; exact am z
  · have q : ∀ k, B2 (mc0 m + k) = B (mc0 m + k) := fun k => hB _ (by unfold mc0; omega)
    have q0 : B2 (mc0 m) = B (mc0 m) := q 0
    rcases hM m hm with ⟨a, b⟩ | ⟨c, i, a, b, d, e, f, g, k, l, n⟩
    · exact Or.inl ⟨(q 1).trans a, am b⟩
    · refine Or.inr ⟨c, i, a, b, q0.trans d, (q 1).trans e, am f, ?_, ?_, ?_, fun j hj => ?_⟩
      · rw [q 2]; exact am g
      · rw [q 3]; exact am k
      · rw [q 4]; exact am l
      · have e9 : mc0 m + 5 + j = mc0 m + (5 + j) := by omega
        rw [e9, q (5 + j), ← e9]
        exact am (n j hj)

