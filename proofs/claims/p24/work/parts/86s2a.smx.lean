/-! ===== the laws on both sides ===== -/
/-- a kind of the class's code, as the reference has it -/
def opK (kd : Nat) : Nat := if kd = 3 then 0 else if kd = 14 then 1 else if kd = 15 then 2 else if kd = 16 then 3 else if kd = 12 then 4 else if kd = 13 then 5 else if kd = 11 then 6 else if kd = 10 then 15 else if kd = 9 then 16 else kd - 13
/-- a piece of code takes values of these types (true: a condition) to those -/
def CdT (T U : List Bool) (kd f : Nat) : Prop := (U = false :: T ∧ (kd = 3 ∨ kd = 16 ∨ ((kd = 14 ∨ kd = 15) ∧ f < 8))) ∨ (U = true :: T ∧ (kd = 12 ∨ kd = 13)) ∨ (kd = 11 ∧ U = T ∧ ∃ R, T = true :: R) ∨ ((kd = 20 ∨ kd = 21) ∧ ∃ R, T = false :: false :: R ∧ U = false :: R) ∨ (22 ≤ kd ∧ kd ≤ 27 ∧ ∃ R, T = false :: false :: R ∧ U = true :: R) ∨ ((kd = 9 ∨ kd = 10) ∧ ∃ R, T = true :: true :: R ∧ U = true :: R)
def CdR (L : MS) (w : GS) (a b : Nat) : Prop := ∃ T : Nat → List Bool, T a = [] ∧ T b = [true] ∧ ∀ k, a ≤ k → k < b → (T k).length ≤ 63 ∧ ∃ kd f, Am w 36 k (nI (opK kd)) ∧ Am w 37 k (nI f) ∧ L.2 0 k = nI (kd * 10000 + f) ∧ f < 10000 ∧ CdT (T k) (T (k + 1)) kd f
def LnR (L : MS) (w : GS) (l : Nat) : Prop := ∃ pt, pt ≤ 9999 ∧ L.2 2 l = nI pt ∧ Am w 35 l (nI pt) ∧ ∃ a b, a ≤ b ∧ b ≤ 300 ∧ Am w 34 l (nI a) ∧ Am w 34 (l + 1) (nI b) ∧ (l = 0 → a = 0) ∧ (1 ≤ l → L.2 1 (l - 1) = nI a) ∧ L.2 1 l = nI b ∧ CdR L w a b
def LRel (L : MS) (w : GS) : Prop := (∃ t g, t ≤ 9999 ∧ g ≤ 9999 ∧ L.1 0 = nI t ∧ L.1 1 = nI g) ∧ Im w 27 (L.1 0) ∧ Im w 28 (L.1 1) ∧ Im w 29 (L.1 2) ∧ Im w 30 (L.1 3) ∧ Im w 31 (L.1 4) ∧ (∃ sg, sg ≤ 8 ∧ L.1 2 = nI sg) ∧ ∃ nl, nl ≤ 20 ∧ L.1 3 = nI nl ∧ ∀ l, l < nl → LnR L w l
/-- the reference's law cells are as they were -/
def LFr (u v : GS) : Prop := (∀ k, 27 ≤ k → k ≤ 31 → v.1.1 k = u.1.1 k ∧ v.2.1 k = u.2.1 k) ∧ ∀ k, 34 ≤ k → k ≤ 37 → v.1.2 k = u.1.2 k ∧ v.2.2 k = u.2.2 k
theorem LFr.rf (u : GS) : LFr u u := ⟨fun _ _ _ => ⟨rfl, rfl⟩, fun _ _ _ => ⟨rfl, rfl⟩⟩
theorem LFr.trans {u v w : GS} (h1 : LFr u v) (h2 : LFr v w) : LFr u w := ⟨fun k a b => ⟨(h2.1 k a b).1.trans (h1.1 k a b).1, (h2.1 k a b).2.trans (h1.1 k a b).2⟩, fun k a b => ⟨(h2.2 k a b).1.trans (h1.2 k a b).1, (h2.2 k a b).2.trans (h1.2 k a b).2⟩⟩
theorem LFr.wd {u v : GS} (h : LFr u v) {k : Nat} (hk : k < 34 ∨ 37 < k) (i x : Int32) : LFr u (swd k i x v) := h.trans ⟨fun _ _ _ => ⟨rfl, rfl⟩, fun j a b => sw_o (by omega)⟩
theorem LFr.wf {u v : GS} (h : LFr u v) {k : Nat} (hk : k < 27 ∨ 31 < k) (x : Int32) : LFr u (swf k x v) := h.trans ⟨fun j a b => swf_o (by omega), fun _ _ _ => ⟨rfl, rfl⟩⟩
theorem LRel.fr {L : MS} {u v : GS} (h : LRel L u) (hf : LFr u v) : LRel L v := by
  have im : ∀ {k x}, 27 ≤ k → k ≤ 31 → Im u k x → Im v k x := fun a b z => ⟨(hf.1 _ a b).2.trans z.1, (hf.1 _ a b).1.trans z.2⟩
  have am : ∀ {k j x}, 34 ≤ k → k ≤ 37 → Am u k j x → Am v k j x := fun a b z => by
    unfold Am at z ⊢
    rw [(hf.2 _ a b).1, (hf.2 _ a b).2]
    exact z
  obtain ⟨a, b, c, d, e, f, g, nl, n1, n2, n3⟩ := h
  refine ⟨a, im (by decide) (by decide) b, im (by decide) (by decide) c, im (by decide) (by decide) d, im (by decide) (by decide) e, im (by decide) (by decide) f, g, nl, n1, n2, fun l hl => ?_⟩
  obtain ⟨pt, p1, p2, p3, x, y, q1, q2, q3, q4, q5, q6, q7, T, t1, t2, t3⟩ := n3 l hl
  refine ⟨pt, p1, p2, am (by decide) (by decide) p3, x, y, q1, q2, am (by decide) (by decide) q3, am (by decide) (by decide) q4, q5, q6, q7, T, t1, t2, fun k k1 k2 => ?_⟩
  obtain ⟨y1, kd, f, y2, y3, y4, y5, y6⟩ := t3 k k1 k2
  exact ⟨y1, kd, f, am (by decide) (by decide) y2, am (by decide) (by decide) y3, y4, y5, y6⟩
theorem LRel.ag {L : MS} {u v : GS} (h : LRel L u) (ha : Ag u v) : LRel L v := by
  obtain ⟨a, b, c, d, e, f, g, nl, n1, n2, n3⟩ := h
  refine ⟨a, ha.im (by decide) b, ha.im (by decide) c, ha.im (by decide) d, ha.im (by decide) e, ha.im (by decide) f, g, nl, n1, n2, fun l hl => ?_⟩
  obtain ⟨pt, p1, p2, p3, x, y, q1, q2, q3, q4, q5, q6, q7, T, t1, t2, t3⟩ := n3 l hl
  refine ⟨pt, p1, p2, ha.am (by decide) p3, x, y, q1, q2, ha.am (by decide) q3, ha.am (by decide) q4, q5, q6, q7, T, t1, t2, fun k k1 k2 => ?_⟩
  obtain ⟨y1, kd, f, y2, y3, y4, y5, y6⟩ := t3 k k1 k2
  exact ⟨y1, kd, f, ha.am (by decide) y2, ha.am (by decide) y3, y4, y5, y6⟩
abbrev LwP : Type := Nat × (Nat → Nat) × MS
/-- the laws of the q-th entry of laws() -/
def lnq (P : LwP) (LW : List LwP) (q : Nat) : LwP := if q = 0 then P else LW.getD (q - 1) P
theorem lnw_q {P : LwP} {LW : List LwP} {u : MS} {q : Nat} (h3 : u.2 0 3 = nI q) (hq : q ≤ LW.length) (hl : LW.length < 2 ^ 31) : lnw P LW u = lnq P LW q := by
  unfold lnw lnq
  have e3 : rg (u.2 0) 2088 3 = nI q := (rdB (u.2 0) (j := 3) (by decide)).trans h3
  rw [e3]
  by_cases h0 : q = 0
  · subst h0
    rw [if_pos rfl]
    exact if_pos (by decide)
  · have e1 : nI q - 1 = nI (q - 1) := nI_sub (b := 1) (by omega)
    rw [e1, if_neg (nI_nn (by omega)), if_neg (fun z => absurd ((nI_leI (by omega) (by omega)).mp z) (by omega)), if_neg h0, nI_clamp (by omega)]
/-- a mat that goes on ahead of golden time has seconds left -/
def MI (B : Nat → Int32) : Prop := ∀ m, m < 4 → ¬ B (mc0 m + 1) = -1 → B (mc0 m + 4) = 0 → B (mc0 m + 3) = 0 → ¬ B (mc0 m + 2) = 0
/-- who won a fight is one of the two that were in it -/
def WC (B : Nat → Int32) : Prop := ∀ c, c < 4 → ∀ i, i < 37 → B (fc c i) = 3 → B (fc c i + 3) = B (fc c i + 1) ∨ B (fc c i + 3) = B (fc c i + 2)
/-- minutes and REST are small -/
def VB (B : Nat → Int32) : Prop := (∃ t, t ≤ 1440 ∧ B 0 = nI t) ∧ (∃ t, t ≤ 120 ∧ B 1 = nI t) ∧ ∀ f, f < 96 → B (154 + 7 * f) = -1 ∨ ∃ t, t ≤ 1440 ∧ B (154 + 7 * f) = nI t
/-- the fight on a mat is open, and knows its mat -/
def MO (B : Nat → Int32) : Prop := ∀ m, m < 4 → ¬ B (mc0 m + 1) = -1 → ∃ c i, c < 4 ∧ i < 37 ∧ B (mc0 m) = nI c ∧ B (mc0 m + 1) = nI i ∧ B (fc c i) = 2 ∧ B (fc c i + 7) = nI m
def MB (B : Nat → Int32) : Prop := MI B ∧ WC B ∧ VB B ∧ MO B
def RX (P : LwP) (LW : List LwP) (q : Nat) (B : Nat → Int32) (w : GS) : Prop := R1 B w ∧ MB B ∧ B 3 = nI q ∧ q ≤ LW.length ∧ LRel (lnq P LW q).2.2 w
/-- the class's log and the reference's: what was at each entry -/
def SmX (P : LwP) (LW : List LwP) (N tp : Nat) (u : MS) (w : GS) (n E : Nat) (lg : Nat → En) (s : Nat → GS) (p q : Nat → Nat) (ch C : Nat) : Prop := LiveX N tp n E lg s w ∧ u.1 1 = nI n ∧ Kl u ch C ∧ (∀ k, k < n → u.2 3 k = nI (p k) ∧ p k ≤ ch) ∧ (∀ i j, i ≤ j → j < n → p i ≤ p j) ∧ (∀ k, k < n → RX P LW (q k) (hB u (p k)) (s k)) ∧ RX P LW (q n) (u.2 0) (s n) ∧ (∀ i j, i ≤ j → j ≤ n → q i ≤ q j) ∧ (∀ c, c < 4 → Bd (u.2 0) c u) ∧ LW.length < 2 ^ 31
def SmE (P : LwP) (LW : List LwP) (N tp : Nat) (u : MS) (w : GS) : Prop := ∃ n E lg s p q ch C, SmX P LW N tp u w n E lg s p q ch C
section
variable {P : LwP} {LW : List LwP} {N tp n E ch C : Nat} {u : MS} {w : GS} {lg : Nat → En} {s : Nat → GS} {p q : Nat → Nat}
theorem SmX.le (h : SmX P LW N tp u w n E lg s p q ch C) : n ≤ 500 := h.1.1
theorem SmX.rx (h : SmX P LW N tp u w n E lg s p q ch C) : RX P LW (q n) (u.2 0) (s n) := h.2.2.2.2.2.2.1
theorem SmX.bd (h : SmX P LW N tp u w n E lg s p q ch C) : ∀ c, c < 4 → Bd (u.2 0) c u := h.2.2.2.2.2.2.2.2.1
theorem SmX.ag (h : SmX P LW N tp u w n E lg s p q ch C) : Ag (s n) w := h.1.2.2.2.2.2.2.2.1
theorem SmX.rs (h : SmX P LW N tp u w n E lg s p q ch C) : R0 (u.2 0) (s n) := h.rx.1.1
theorem SmX.r0 (h : SmX P LW N tp u w n E lg s p q ch C) : R0 (u.2 0) w := h.rs.ag h.ag
theorem SmX.inv (h : SmX P LW N tp u w n E lg s p q ch C) : Inv (s n) := (h.1.2.2.2.2.2.2.1.2.1 n (Nat.le_refl _)).1
theorem SmX.ln (h : SmX P LW N tp u w n E lg s p q ch C) : lnw P LW u = lnq P LW (q n) := lnw_q h.rx.2.2.1 h.rx.2.2.2.1 h.2.2.2.2.2.2.2.2.2
theorem SmX.e (h : SmX P LW N tp u w n E lg s p q ch C) : SmE P LW N tp u w := ⟨n, E, lg, s, p, q, ch, C, h⟩
end
/-- an act of both; the laws told before stay -/
theorem sm_act {P : LwP} {LW LW2 : List LwP} {N tp n E ch C q2 N2 tp2 E2 : Nat} {u v : MS} {w w2 sv : GS} {lg : Nat → En} {s : Nat → GS} {p q : Nat → Nat} {en : En} (h : SmX P LW N tp u w n E lg s p q ch C) (he : EntS u v n ch) (hL : LiveX N2 tp2 (n + 1) E2 (fun k => if k = n then en else lg k) (fun k => if k = n + 1 then sv else s k) w2) (hR : RX P LW2 q2 (v.2 0) sv) (hq : q n ≤ q2) (hW : ∀ k, k ≤ q n → lnq P LW2 k = lnq P LW k) (hWl : LW.length ≤ LW2.length) (hl : LW2.length < 2 ^ 31) (hb : ∀ c, c < 4 → Bd (v.2 0) c v) : SmE P LW2 N2 tp2 v w2 := by
  obtain ⟨-, h1, hK, hp, hm, hBk, hn, hqm, -, -⟩ := h
  obtain ⟨e1, e3, e3k, hs, -⟩ := he
  have hs2 := hs
  obtain ⟨ch0, C0, ch1, C1, k1, k2, hle, hh⟩ := hs2
  obtain ⟨rfl, rfl⟩ := hK.inj k1
  have hto : ∀ {k B x}, k ≤ q n → RX P LW k B x → RX P LW2 k B x := fun hk z => by
    obtain ⟨a, a2, b, c, d⟩ := z
    exact ⟨a, a2, b, Nat.le_trans c hWl, by rw [hW _ hk]; exact d⟩
  refine ⟨n + 1, E2, _, _, fun k => if k = n then ch else p k, fun k => if k = n + 1 then q2 else q k, ch1, C1, hL, e1, k2, fun k hk => ?_, fun i j hij hj => ?_, fun k hk => ?_, ?_, fun i j hij hj => ?_, hb, hl⟩
  · show v.2 3 k = nI (if k = n then ch else p k) ∧ (if k = n then ch else p k) ≤ ch1
    by_cases c0 : k = n
    · subst c0
      rw [if_pos rfl]
      exact ⟨e3, hle⟩
    · rw [if_neg c0]
      obtain ⟨a, b⟩ := hp k (by omega)
      exact ⟨(e3k k (by omega)).trans a, by omega⟩
  · show (if i = n then ch else p i) ≤ (if j = n then ch else p j)
    by_cases cj : j = n
    · rw [if_pos cj]
      by_cases ci : i = n
      · rw [if_pos ci]; exact Nat.le_refl _
      · rw [if_neg ci]
        exact (hp i (by omega)).2
    · rw [if_neg cj, if_neg (by omega)]
      exact hm i j hij (by omega)
  · show RX P LW2 (if k = n + 1 then q2 else q k) (hB v (if k = n then ch else p k)) (if k = n + 1 then sv else s k)
    rw [if_neg (show ¬ k = n + 1 by omega), if_neg (show ¬ k = n + 1 by omega)]
    refine hto (hqm k n (by omega) (Nat.le_refl _)) ?_
    by_cases c0 : k = n
    · subst c0
      rw [if_pos rfl, hh ch (Nat.le_refl _), hB_top hK]
      exact hn
    · rw [if_neg c0, hh (p k) (hp k (by omega)).2]
      exact hBk k (by omega)
  · show RX P LW2 (if n + 1 = n + 1 then q2 else q (n + 1)) (v.2 0) (if n + 1 = n + 1 then sv else s (n + 1))
    rw [if_pos rfl, if_pos rfl]
    exact hR
  · show (if i = n + 1 then q2 else q i) ≤ (if j = n + 1 then q2 else q j)
    by_cases cj : j = n + 1
    · rw [if_pos cj]
      by_cases ci : i = n + 1
      · rw [if_pos ci]; exact Nat.le_refl _
      · rw [if_neg ci]
        exact Nat.le_trans (hqm i n (by omega) (Nat.le_refl _)) hq
    · rw [if_neg cj, if_neg (by omega)]
      exact hqm i j hij (by omega)
/-- what quiet acts leave -/
def Qd (B B2 : Nat → Int32) (F : Nat) : Prop := Qt B B2 F ∧ B2 3 = B 3 ∧ (∀ j, 2004 ≤ j → B2 j = B j) ∧ (VB B → VB B2)
theorem Qd.rf (B : Nat → Int32) (F : Nat) : Qd B B F := ⟨⟨fun _ _ _ _ _ => rfl, fun _ _ _ => rfl, fun _ _ => rfl⟩, rfl, fun _ _ => rfl, fun z => z⟩
theorem VB.up {B : Nat → Int32} {j : Nat} {x : Int32} (h : VB B) (h0 : j = 0 → ∃ t, t ≤ 1440 ∧ x = nI t) (h1 : j = 1 → ∃ t, t ≤ 120 ∧ x = nI t) (hf : ∀ f, f < 96 → j = 154 + 7 * f → x = -1 ∨ ∃ t, t ≤ 1440 ∧ x = nI t) : VB (upd B j x) := by
  obtain ⟨a, b, d⟩ := h
  refine ⟨?_, ?_, fun f hf96 => ?_⟩
  · by_cases z : j = 0
    · subst z
      rw [upd_e]
      exact h0 rfl
    · rw [upd_n (fun y => z y.symm)]
      exact a
  · by_cases z : j = 1
    · subst z
      rw [upd_e]
      exact h1 rfl
    · rw [upd_n (fun y => z y.symm)]
      exact b
  · by_cases z : j = 154 + 7 * f
    · subst z
      rw [upd_e]
      exact hf f hf96 rfl
    · rw [upd_n (fun y => z y.symm)]
      exact d f hf96
theorem Qd.up {B B2 : Nat → Int32} {F j : Nat} (h : Qd B B2 F) (x : Int32) (hv : (j = 0 → ∃ t, t ≤ 1440 ∧ x = nI t) ∧ (j = 1 → ∃ t, t ≤ 120 ∧ x = nI t) ∧ ∀ f, f < 96 → j = 154 + 7 * f → x = -1) (hj : j < 3 ∨ (∃ c, c < 4 ∧ (j = 4 + 36 * c ∨ j = 5 + 36 * c)) ∨ ∃ f k, f < 96 ∧ k < 7 ∧ j = 148 + 7 * f + k ∧ (k = 5 → F ≤ f)) : Qd B (upd B2 j x) F := by
  have hne : ∀ k, ¬ k = j → upd B2 j x k = B2 k := fun k hk => upd_n hk
  obtain ⟨⟨h1, h2, h3⟩, h4, h5, h6⟩ := h
  have hj2 : ¬ j = 3 ∧ j < 820 ∧ (∀ c, c < 4 → ¬ (6 + 36 * c ≤ j ∧ j < 40 + 36 * c)) ∧ ∀ f, f < F → ¬ j = 153 + 7 * f := by
    rcases hj with hj | ⟨c, hc, hj⟩ | ⟨f, k, hf, hk, hj, hF⟩
    · exact ⟨by omega, by omega, fun c hc => by omega, fun f hf => by omega⟩
    · exact ⟨by omega, by omega, fun c2 hc2 => by omega, fun f hf => by omega⟩
    · refine ⟨by omega, by omega, fun c2 hc2 => by omega, fun f2 hf2 => fun z => ?_⟩
      have : k = 5 ∧ f = f2 := by omega
      have := hF this.1
      omega
  obtain ⟨g1, g2, g3, g4⟩ := hj2
  refine ⟨⟨fun c hc i i1 i2 => ?_, fun i i1 i2 => ?_, fun f hf => ?_⟩, ?_, fun i hi => ?_, fun z => (h6 z).up hv.1 hv.2.1 (fun f hf e => Or.inl (hv.2.2 f hf e))⟩
  · rw [hne i (fun z => g3 c hc (by omega))]
    exact h1 c hc i i1 i2
  · rw [hne i (by omega)]
    exact h2 i i1 i2
  · rw [hne _ (fun z => g4 f hf z.symm)]
    exact h3 f hf
  · rw [hne 3 (by omega)]
    exact h4
  · rw [hne i (by omega)]
    exact h5 i hi
theorem MI.to {B B2 : Nat → Int32} (h : MI B) (hm : ∀ j, 2004 ≤ j → B2 j = B j) : MI B2 := fun m hm4 h1 h2 h3 => by
  rw [hm _ (by unfold mc0; omega)] at h1 h2 h3
  rw [hm _ (by unfold mc0; omega)]
  exact h m hm4 h1 h2 h3
theorem WC.to {B B2 : Nat → Int32} (h : WC B) (hm : ∀ j, 820 ≤ j → j < 2004 → B2 j = B j) : WC B2 := fun c hc i hi h1 => by
  have e : ∀ k, k < 8 → B2 (fc c i + k) = B (fc c i + k) := fun k hk => hm _ (by unfold fc; omega) (by unfold fc; omega)
  have e0 : B2 (fc c i) = B (fc c i) := e 0 (by decide)
  rw [e0] at h1
  rw [e 1 (by decide), e 2 (by decide), e 3 (by decide)]
  exact h c hc i hi h1
theorem MO.to {B B2 : Nat → Int32} (h : MO B) (h1 : ∀ j, 820 ≤ j → j < 2004 → B2 j = B j) (h2 : ∀ j, 2004 ≤ j → B2 j = B j) : MO B2 := fun m hm hne => by
  rw [h2 _ (by unfold mc0; omega)] at hne
  obtain ⟨c, i, hc, hi, a, b, d, e⟩ := h m hm hne
  refine ⟨c, i, hc, hi, ?_, ?_, ?_, ?_⟩
  · rw [h2 _ (by unfold mc0; omega)]; exact a
  · rw [h2 _ (by unfold mc0; omega)]; exact b
  · rw [h1 _ (by unfold fc; omega) (by unfold fc; omega)]; exact d
  · rw [h1 _ (by unfold fc; omega) (by unfold fc; omega)]; exact e
theorem R0.kd {B : Nat → Int32} {w : GS} (h : R0 B w) {c : Nat} (hc : c < 4) : Am w 12 c (B (6 + 36 * c)) := (h.2.1 c hc).2.2.1
theorem R0.ppl {B : Nat → Int32} {w : GS} (h : R0 B w) (hI : Inv w) : ∃ F, F ≤ 96 ∧ B 2 = nI F ∧ nF w = F := ⟨nF w, hI.1.1.2.2, h.nf.symm.trans hI.1.1.2.1, rfl⟩
theorem RX.quiet {P : LwP} {LW : List LwP} {q : Nat} {B B2 : Nat → Int32} {w w2 : GS} (h : RX P LW q B w) (hI : Inv w) (h2 : R0 B2 w2) (hq : Qd B B2 (nF w)) (hl : LFr w w2) : RX P LW q B2 w2 := by
  obtain ⟨a, ⟨a2, a3, a4, a5⟩, b, c, d⟩ := h
  refine ⟨a.quiet hI h2 hq.1 (fun c hc hk => ?_), ⟨a2.to hq.2.2.1, a3.to hq.1.2.1, hq.2.2.2 a4, a5.to hq.1.2.1 hq.2.2.1⟩, hq.2.1.trans b, c, d.fr hl⟩
  rcases (hI.1.2.2.2.1 c hc).2.2.1 with z | ⟨n, z⟩
  · exact absurd (hk.symm.trans ((a.1.kd hc).inj z)) (by decide)
  · rcases hI.1.dr z with ⟨s, hP, -⟩ | ⟨L, hT, -⟩
    · exact absurd (hk.symm.trans ((a.1.kz hc).1 s hP).1) (by decide)
    · exact ⟨L, hT⟩
/-- the end of an act -/
theorem sim_fin {P : LwP} {LW : List LwP} {N tp n E ch C : Nat} {u v : MS} {w sv : GS} {lg : Nat → En} {s : Nat → GS} {p q : Nat → Nat} {a0 a1 a2 a3 r r0 : Int32} (h : SmX P LW N tp u w n E lg s p q ch C) (hN : N ≤ 24000) (h0 : ¬ a0 = 0) (hd : f_does a0 a1 a2 a3 (s n) = some (r0, sv)) (hI : Inv sv) (hc : (n = 500 ∧ r = -4 ∧ v = u) ∨ (n < 500 ∧ r = r0 ∧ EntS u v n ch ∧ RX P LW (q n) (v.2 0) sv ∧ ∀ c, c < 4 → Bd (v.2 0) c v)) : Ok (pcl (f_act a0 a1 a2 a3) (fun r => prt r)) w (fun r2 w2 => r2 = r ∧ SmE P LW N tp v w2) := by
  refine Ok_cl (Ok.mono (act_ex h.1 hN h0 hd hI) (fun r2 w2 y => Ok_rt ?_))
  rcases y with ⟨y1, y2, y3⟩ | ⟨y1, y2, y3⟩
  · rcases hc with ⟨z1, z2, z3⟩ | ⟨z1, -⟩
    · subst y3
      subst z3
      exact ⟨y2.trans z2.symm, h.e⟩
    · omega
  · rcases hc with ⟨z1, -⟩ | ⟨z1, z2, z3, z4, z5⟩
    · omega
    · exact ⟨y2.trans z2.symm, sm_act h z3 y3 z4 (Nat.le_refl _) (fun _ _ => rfl) (Nat.le_refl _) h.2.2.2.2.2.2.2.2.2 z5⟩
theorem sim_finQ {P : LwP} {LW : List LwP} {N tp n E ch C : Nat} {u v : MS} {w sv : GS} {lg : Nat → En} {s : Nat → GS} {p q : Nat → Nat} {a0 a1 a2 a3 r r0 : Int32} (h : SmX P LW N tp u w n E lg s p q ch C) (hN : N ≤ 24000) (h0 : ¬ a0 = 0) (hd : f_does a0 a1 a2 a3 (s n) = some (r0, sv)) (hI : Inv sv) (hl : LFr (s n) sv) (hc : (n = 500 ∧ r = -4 ∧ v = u) ∨ (n < 500 ∧ r = r0 ∧ Ent u v n ch ∧ R0 (v.2 0) sv ∧ Qd (u.2 0) (v.2 0) (nF (s n)))) : Ok (pcl (f_act a0 a1 a2 a3) (fun r => prt r)) w (fun r2 w2 => r2 = r ∧ SmE P LW N tp v w2) := by
  refine sim_fin h hN h0 hd hI (hc.imp (fun z => z) (fun z => ?_))
  obtain ⟨z1, z2, z3, z4, z5⟩ := z
  have hS := z3.2.2.2.2
  refine ⟨z1, z2, z3.s, h.rx.quiet h.inv z4 z5 hl, fun c hc => (h.bd c hc).to (z5.1.acc hc) (fun i _ => ?_)⟩
  unfold Rws
  rw [hS.2 13 (by decide), hS.2 14 (by decide), hS.2 15 (by decide), hS.2 16 (by decide)]
  exact ⟨rfl, rfl, rfl, rfl⟩

