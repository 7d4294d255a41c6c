/-! ===== both sides between two calls; now, rest ===== -/
def Ent (u v : MS) (n ch : Nat) : Prop := v.1 1 = nI (n + 1) ∧ v.2 3 n = nI ch ∧ (∀ k, k < n → v.2 3 k = u.2 3 k) ∧ Hs u v ∧ Same [0, 1, 60, 65] [0, 1, 2, 3] u v
theorem Ent.put {u v v2 : MS} {n ch : Nat} (h : Ent u v n ch) (hs : Hs v v2) (hS : Same [0, 60, 65] [0, 1, 2] v v2) : Ent u v2 n ch := by
  obtain ⟨a, b, d, e, f⟩ := h
  have e1 := hS.1 1 (by decide)
  have e3 := hS.2 3 (by decide)
  exact ⟨e1.trans a, by rw [e3]; exact b, fun k hk => by rw [e3]; exact d k hk, e.trans hs, f.trans (hS.mono (by decide) (by decide))⟩
theorem Hs.kl {u v : MS} (h : Hs u v) : ∃ ch C, Kl v ch C := by
  obtain ⟨ch, C, ch', C', -, k, -⟩ := h
  exact ⟨ch', C', k⟩
theorem CQ_open {β : Type} {q : Int32 → AG β} {u : MS} {Q : β → MS → Prop} {n ch C : Nat} (hK : Kl u ch C) (hn : n < 500) (h1 : u.1 1 = nI n) (h : ∀ r v, Ent u v n ch → Kl v ch C → v.2 0 = u.2 0 → Same [1] [3] u v → CQ (q r) v Q) : CQ (anl x_X1_openEntry q) u Q := CQ_nl (fun r v e => by
  obtain ⟨a, b, d, e1, f, g, k⟩ := oe_ex hK hn h1 e
  exact h r v ⟨a, b, fun j hj => d j (by omega), e1, g.mono (by decide) (by decide)⟩ k f g)
theorem CQ_full {body : AG Int32} {u : MS} {Q : Int32 → MS → Prop} {n : Nat} (h1 : u.1 1 = nI n) (hn : n ≤ 500) (hl : n < 500 → CQ body u Q) (hf : n = 500 → Q (-4) u) : CQ (anl x_X1_isFull (fun r => (if r = 0 then body else art (-4)))) u Q := CQ_rd (e_isFull h1 hn) (by
  by_cases h5 : n < 500
  · rw [if_pos h5, if_pos rfl]
    exact hl h5
  · rw [if_neg h5, if_neg (by decide)]
    exact CQ_rt (hf (by omega)))
/-- the class's log and the reference's: what was at each entry -/
def SmX (N tp : Nat) (u : MS) (w : GS) (n E : Nat) (lg : Nat → En) (s : Nat → GS) (p : Nat → Nat) (ch C : Nat) : Prop := LiveX N tp n E lg s w ∧ u.1 1 = nI n ∧ Kl u ch C ∧ (∀ k, k < n → u.2 3 k = nI (p k) ∧ p k ≤ ch) ∧ (∀ i j, i ≤ j → j < n → p i ≤ p j) ∧ (∀ k, k < n → R0 (hB u (p k)) (s k)) ∧ R0 (u.2 0) (s n)
def SmE (N tp : Nat) (u : MS) (w : GS) : Prop := ∃ n E lg s p ch C, SmX N tp u w n E lg s p ch C
theorem SmX.le {N tp n E ch C : Nat} {u : MS} {w : GS} {lg : Nat → En} {s : Nat → GS} {p : Nat → Nat} (h : SmX N tp u w n E lg s p ch C) : n ≤ 500 := h.1.1
theorem SmX.r0 {N tp n E ch C : Nat} {u : MS} {w : GS} {lg : Nat → En} {s : Nat → GS} {p : Nat → Nat} (h : SmX N tp u w n E lg s p ch C) : R0 (u.2 0) w := h.2.2.2.2.2.2.ag h.1.2.2.2.2.2.2.2.1
theorem SmX.inv {N tp n E ch C : Nat} {u : MS} {w : GS} {lg : Nat → En} {s : Nat → GS} {p : Nat → Nat} (h : SmX N tp u w n E lg s p ch C) : Inv (s n) := (h.1.2.2.2.2.2.2.1.2.1 n (Nat.le_refl _)).1
/-- an act of both -/
theorem sm_act {N tp n E ch C : Nat} {u v : MS} {w w2 sv : GS} {lg : Nat → En} {s : Nat → GS} {p : Nat → Nat} {en : En} (h : SmX N tp u w n E lg s p ch C) (he : Ent u v n ch) (hL : LiveX N tp (n + 1) E (fun k => if k = n then en else lg k) (fun k => if k = n + 1 then sv else s k) w2) (hR : R0 (v.2 0) sv) : SmE N tp v w2 := by
  obtain ⟨-, h1, hK, hp, hm, hBk, hn⟩ := h
  obtain ⟨e1, e3, e3k, hs, -⟩ := he
  have hs2 := hs
  obtain ⟨ch0, C0, ch1, C1, k1, k2, hle, hh⟩ := hs2
  obtain ⟨rfl, rfl⟩ := hK.inj k1
  refine ⟨n + 1, E, _, _, fun k => if k = n then ch else p k, ch1, C1, hL, e1, k2, fun k hk => ?_, fun i j hij hj => ?_, fun k hk => ?_, ?_⟩
  · show v.2 3 k = nI (if k = n then ch else p k) ∧ (if k = n then ch else p k) ≤ ch1
    by_cases c0 : k = n
    · subst c0
      rw [if_pos rfl]
      exact ⟨e3, hle⟩
    · rw [if_neg c0]
      obtain ⟨a, b⟩ := hp k (by omega)
      exact ⟨(e3k k (by omega)).trans a, by omega⟩
  · show (if i = n then ch else p i) ≤ (if j = n then ch else p j)
    by_cases cj : j = n
    · rw [if_pos cj]
      by_cases ci : i = n
      · rw [if_pos ci]; exact Nat.le_refl _
      · rw [if_neg ci]
        exact (hp i (by omega)).2
    · rw [if_neg cj, if_neg (by omega)]
      exact hm i j hij (by omega)
  · show R0 (hB v (if k = n then ch else p k)) (if k = n + 1 then sv else s k)
    rw [if_neg (show ¬ k = n + 1 by omega)]
    by_cases c0 : k = n
    · subst c0
      rw [if_pos rfl, hh ch (Nat.le_refl _), hB_top hK]
      exact hn
    · rw [if_neg c0, hh (p k) (hp k (by omega)).2]
      exact hBk k (by omega)
  · show R0 (v.2 0) (if n + 1 = n + 1 then sv else s (n + 1))
    rw [if_pos rfl]
    exact hR
theorem R0.hd {B B2 : Nat → Int32} {u v : GS} (h : R0 B u) (hB : ∀ j, 3 ≤ j → B2 j = B j) (e1 : v.1.2 = u.1.2) (e2 : v.2.2 = u.2.2) (i2 : Im v 2 (B2 2)) (i3 : Im v 3 (B2 0)) (i4 : Im v 4 (B2 1)) (e : B2 2 = B 2) : R0 B2 v := by
  have am : ∀ {k j x}, Am u k j x → Am v k j x := fun z => by
    unfold Am at z ⊢
    rw [e1, e2]
    exact z
  have en : nF v = nF u := by
    unfold nF
    rw [i2.2, h.1.1.2, e]
  obtain ⟨-, hC, hF, hN, hR, hM⟩ := h
  refine ⟨⟨i2, i3, i4⟩, fun c hc => ?_, fun f hf => ?_, fun f h1 h2 => ?_, fun c hc i hi => ?_, fun m hm => ?_⟩
  · have z := hC c hc
    unfold rC at z ⊢
    rw [hB _ (by omega), hB _ (by omega), hB _ (by omega), hB _ (by omega)]
    exact ⟨am z.1, am z.2.1, am z.2.2.1, fun q => ⟨am (z.2.2.2 q).1, fun p h1 h2 => by rw [hB _ (by omega)]; exact am ((z.2.2.2 q).2 p h1 h2)⟩⟩
  · have z := hF f (by rw [← en]; exact hf)
    unfold rF at z ⊢
    rw [hB _ (by omega), hB _ (by omega), hB _ (by omega), hB _ (by omega), hB _ (by omega), hB _ (by omega), hB _ (by omega)]
    exact ⟨am z.1, am z.2.1, am z.2.2.1, am z.2.2.2.1, am z.2.2.2.2.1, am z.2.2.2.2.2.1, am z.2.2.2.2.2.2⟩
  · have z := hN f (by rw [← en]; exact h1) h2
    unfold rN at z ⊢
    rw [hB _ (by omega), hB _ (by omega)]
    exact z
  · have q : ∀ k, B2 (fc c i + k) = B (fc c i + k) := fun k => hB _ (by unfold fc; omega)
    have q0 : B2 (fc c i) = B (fc c i) := q 0
    rcases hR c hc i hi with ⟨a, b⟩ | ⟨⟨a, b, m, d, e, f⟩ | ⟨a, b, d, e, f, g⟩, y, z⟩
    · exact Or.inl ⟨q0.trans a, am b⟩
    · refine Or.inr ⟨Or.inl ⟨q0.trans a, am b, m, d, (q 7).trans e, am f⟩, ?_, ?_⟩
      · rw [q 1]; exact am y
      · rw [q 2]; exact am z
    · refine Or.inr ⟨Or.inr ⟨q0.trans a, am b, ?_, ?_, ?_, ?_⟩, ?_, ?_⟩
      · rw [q 3]; exact am d
      · rw [q 4]; exact am e
      · rw [q 5]; exact am f
      · rw [q 6]; exact am g
      · rw [q 1]; exact am y
      · rw [q 2]; exact am z
  · have q : ∀ k, B2 (mc0 m + k) = B (mc0 m + k) := fun k => hB _ (by unfold mc0; omega)
    have q0 : B2 (mc0 m) = B (mc0 m) := q 0
    rcases hM m hm with ⟨a, b⟩ | ⟨c, i, a, b, d, e, f, g, k, l, n⟩
    · exact Or.inl ⟨(q 1).trans a, am b⟩
    · refine Or.inr ⟨c, i, a, b, q0.trans d, (q 1).trans e, am f, ?_, ?_, ?_, fun j hj => ?_⟩
      · rw [q 2]; exact am g
      · rw [q 3]; exact am k
      · rw [q 4]; exact am l
      · have e9 : mc0 m + 5 + j = mc0 m + (5 + j) := by omega
        rw [e9, q (5 + j), ← e9]
        exact am (n j hj)
theorem sim_now {N tp n E ch C : Nat} {u v : MS} {w : GS} {lg : Nat → En} {s : Nat → GS} {p : Nat → Nat} {a r : Int32} {c d : Nat} (h : SmX N tp u w n E lg s p ch C) (hN : N ≤ 24000) (e : x_X11_now a u = some (r, v, c, d)) : Ok (f_now a) w (fun r2 w2 => r2 = r ∧ SmE N tp v w2) := by
  have hn := h.le
  have hL := h.1
  have h1 := h.2.1
  have hK := h.2.2.1
  have hRw := h.r0
  have hRs := h.2.2.2.2.2.2
  have hI := h.inv
  have h0 : SmE N tp u w := ⟨n, E, lg, s, p, ch, C, h⟩
  have i3 : Im w 3 (u.2 0 0) := hRw.1.2.1
  have hcl : CQ (x_X11_now a) u (fun r v => (r = -2 ∧ v = u ∧ ¬ ((u.2 0 0).toInt ≤ a.toInt ∧ a.toInt ≤ 1440)) ∨ (((u.2 0 0).toInt ≤ a.toInt ∧ a.toInt ≤ 1440) ∧ ((n = 500 ∧ r = -4 ∧ v = u) ∨ (n < 500 ∧ r = a ∧ Ent u v n ch ∧ v.2 0 = upd (u.2 0) 0 a)))) := by
    unfold x_X11_now
    refine CQ_GT ?_
    have e0 : rg (u.2 0) 2088 0 = u.2 0 0 := rdB (u.2 0) (j := 0) (by decide)
    rw [e0]
    refine CQ_ite (fun z => CQ_rt (Or.inl ⟨rfl, rfl, fun y => ?_⟩)) (fun z => CQ_ite (fun z2 => CQ_full h1 hn (fun h5 => ?_) (fun h5 => Or.inr ⟨?_, Or.inl ⟨h5, rfl, rfl⟩⟩)) (fun z2 => CQ_rt (Or.inl ⟨rfl, rfl, fun y => ?_⟩)))
    · rw [Int32.lt_iff_toInt_lt] at z
      omega
    · refine CQ_open hK h5 h1 (fun _ v1 hE hK1 hB1 _ => CQ_put hK1 (fun _ v2 hs hB2 hS => CQ_rt (Or.inr ⟨?_, Or.inr ⟨h5, rfl, hE.put hs hS, ?_⟩⟩)))
      · rw [Int32.lt_iff_toInt_lt] at z
        rw [Int32.le_iff_toInt_le] at z2
        have e9 : (1440 : Int32).toInt = 1440 := by decide
        omega
      · rw [hB2, hB1]
        exact wrB (j := 0) _ _ (by decide)
    · rw [Int32.lt_iff_toInt_lt] at z
      rw [Int32.le_iff_toInt_le] at z2
      have e9 : (1440 : Int32).toInt = 1440 := by decide
      omega
    · rw [Int32.le_iff_toInt_le] at z2
      have e9 : (1440 : Int32).toInt = 1440 := by decide
      omega
  have hc := hcl r v c d e
  have hd : f_does 6 a 0 0 (s n) = some (a, swf 3 a (s n)) := by rw [does_6]; rfl
  unfold f_now
  refine Ok_rfN i3 (Ok_clR (ok_in _ _ _ w) (fun q hq => ?_))
  rw [Int32.toInt_toInt64, Int32.toInt_toInt64] at hq
  have e9 : (1440 : Int64).toInt = 1440 := by decide
  rw [e9] at hq
  rcases hq with ⟨rfl, hq⟩ | ⟨rfl, hq⟩
  · refine Ok_ite (fun z => absurd z (by decide)) (fun _ => ?_)
    rcases hc with ⟨-, -, z⟩ | ⟨-, z⟩
    · exact absurd hq z
    · refine Ok_cl (Ok.mono (act_ex hL hN (by decide) hd (inv_f3 hI a)) (fun r2 w2 y => Ok_rt ?_))
      rcases y with ⟨y1, y2, y3⟩ | ⟨y1, y2, y3⟩
      · rcases z with ⟨z1, z2, z3⟩ | ⟨z1, -⟩
        · subst y3
          subst z3
          exact ⟨y2.trans z2.symm, h0⟩
        · omega
      · rcases z with ⟨z1, -⟩ | ⟨z1, z2, z3, z4⟩
        · omega
        · refine ⟨y2.trans z2.symm, sm_act h z3 y3 ?_⟩
          rw [z4]
          refine hRs.hd (fun j hj => upd_n (by omega)) rfl rfl ?_ ?_ ?_ (upd_n (by decide))
          · rw [upd_n (by decide)]
            exact ⟨(swf_o (w := s n) (k := 3) (k2 := 2) (x := a) (by decide)).2.trans hRs.1.1.1, (swf_o (w := s n) (k := 3) (k2 := 2) (x := a) (by decide)).1.trans hRs.1.1.2⟩
          · rw [upd_e]
            exact swf_e
          · rw [upd_n (by decide)]
            exact ⟨(swf_o (w := s n) (k := 3) (k2 := 4) (x := a) (by decide)).2.trans hRs.1.2.2.1, (swf_o (w := s n) (k := 3) (k2 := 4) (x := a) (by decide)).1.trans hRs.1.2.2.2⟩
  · refine Ok_ite (fun _ => Ok_rt ?_) (fun z => absurd rfl z)
    rcases hc with ⟨z1, z2, -⟩ | ⟨z, -⟩
    · subst z2
      exact ⟨z1.symm, h0⟩
    · exact absurd z hq
