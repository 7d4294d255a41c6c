/-! ===== laws(), both sides ===== -/
theorem R0.lw {B B2 : Nat → Int32} {u v : GS} (h : R0 B u) (hB : ∀ j, ¬ j = 3 → B2 j = B j) (hi : ∀ k, (k = 2 ∨ k = 3 ∨ k = 4) → v.1.1 k = u.1.1 k ∧ v.2.1 k = u.2.1 k) (ha : ∀ k, k ≤ 26 → v.1.2 k = u.1.2 k ∧ v.2.2 k = u.2.2 k) : R0 B2 v := by
  have am : ∀ {k j x}, k ≤ 26 → Am u k j x → Am v k j x := fun hk z => by
    unfold Am at z ⊢
    rw [(ha _ hk).1, (ha _ hk).2]
    exact z
  have im : ∀ {k x}, (k = 2 ∨ k = 3 ∨ k = 4) → Im u k x → Im v k x := fun a z => ⟨(hi _ a).2.trans z.1, (hi _ a).1.trans z.2⟩
  have en : nF v = nF u := by
    unfold nF
    rw [(hi 2 (Or.inl rfl)).1]
  obtain ⟨⟨i2, i3, i4⟩, hC, hF, hN, hR, hM⟩ := h
  refine ⟨⟨by rw [hB 2 (by decide)]; exact im (Or.inl rfl) i2, by rw [hB 0 (by decide)]; exact im (Or.inr (Or.inl rfl)) i3, by rw [hB 1 (by decide)]; exact im (Or.inr (Or.inr rfl)) i4⟩, fun c hc => ?_, fun f hf => ?_, fun f h1 h2 => ?_, fun c hc i hi => ?_, fun m hm => ?_⟩
  · have z := hC c hc
    unfold rC at z ⊢
    rw [hB _ (by omega), hB _ (by omega), hB _ (by omega), hB _ (by omega)]
    exact ⟨am (by decide) z.1, am (by decide) z.2.1, am (by decide) z.2.2.1, fun q => ⟨am (by decide) (z.2.2.2 q).1, fun p h1 h2 => by rw [hB _ (by omega)]; exact am (by decide) ((z.2.2.2 q).2 p h1 h2)⟩⟩
  · have z := hF f (by rw [← en]; exact hf)
    unfold rF at z ⊢
    rw [hB _ (by omega), hB _ (by omega), hB _ (by omega), hB _ (by omega), hB _ (by omega), hB _ (by omega), hB _ (by omega)]
    exact ⟨am (by decide) z.1, am (by decide) z.2.1, am (by decide) z.2.2.1, am (by decide) z.2.2.2.1, am (by decide) z.2.2.2.2.1, am (by decide) z.2.2.2.2.2.1, am (by decide) z.2.2.2.2.2.2⟩
  · have z := hN f (by rw [← en]; exact h1) h2
    unfold rN at z ⊢
    rw [hB _ (by omega), hB _ (by omega)]
    exact z
  · have q : ∀ k, B2 (fc c i + k) = B (fc c i + k) := fun k => hB _ (by unfold fc; omega)
    have q0 : B2 (fc c i) = B (fc c i) := q 0
    rcases hR c hc i hi with ⟨a, b⟩ | ⟨⟨a, b, m, d, e, f⟩ | ⟨a, b, d, e, f, g⟩, y, z⟩
    · exact Or.inl ⟨q0.trans a, am (by decide) b⟩
    · refine Or.inr ⟨Or.inl ⟨q0.trans a, am (by decide) b, m, d, (q 7).trans e, am (by decide) f⟩, ?_, ?_⟩
      · rw [q 1]; exact am (by decide) y
      · rw [q 2]; exact am (by decide) z
    · refine Or.inr ⟨Or.inr ⟨q0.trans a, am (by decide) b, ?_, ?_, ?_, ?_⟩, ?_, ?_⟩
      · rw [q 3]; exact am (by decide) d
      · rw [q 4]; exact am (by decide) e
      · rw [q 5]; exact am (by decide) f
      · rw [q 6]; exact am (by decide) g
      · rw [q 1]; exact am (by decide) y
      · rw [q 2]; exact am (by decide) z
  · have q : ∀ k, B2 (mc0 m + k) = B (mc0 m + k) := fun k => hB _ (by unfold mc0; omega)
    have q0 : B2 (mc0 m) = B (mc0 m) := q 0
    rcases hM m hm with ⟨a, b⟩ | ⟨c, i, a, b, d, e, f, g, k, l, n⟩
    · exact Or.inl ⟨(q 1).trans a, am (by decide) b⟩
    · refine Or.inr ⟨c, i, a, b, q0.trans d, (q 1).trans e, am (by decide) f, ?_, ?_, ?_, fun j hj => ?_⟩
      · rw [q 2]; exact am (by decide) g
      · rw [q 3]; exact am (by decide) k
      · rw [q 4]; exact am (by decide) l
      · have e9 : mc0 m + 5 + j = mc0 m + (5 + j) := by omega
        rw [e9, q (5 + j), ← e9]
        exact am (by decide) (n j hj)
/-! the open fights -/
def opn (B : Nat → Int32) : Nat → Nat
  | 0 => 0
  | k + 1 => opn B k + (if B (mc0 k + 1) = -1 then 0 else 1)
theorem opn_s (B : Nat → Int32) (k : Nat) : opn B (k + 1) = opn B k + (if B (mc0 k + 1) = -1 then 0 else 1) := rfl
theorem opn_le (B : Nat → Int32) : ∀ k, opn B k ≤ k := by
  intro k
  induction k with
  | zero => exact Nat.le_refl _
  | succ k ih =>
    rw [opn_s]
    split
    · omega
    · omega
theorem opn_0 (B : Nat → Int32) : ∀ k, opn B k = 0 ↔ ∀ m, m < k → B (mc0 m + 1) = -1 := by
  intro k
  induction k with
  | zero => exact ⟨fun _ m hm => absurd hm (Nat.not_lt_zero _), fun _ => rfl⟩
  | succ k ih =>
    rw [opn_s]
    by_cases h : B (mc0 k + 1) = -1
    · rw [if_pos h]
      refine ⟨fun z m hm => ?_, fun z => ih.mpr (fun m hm => z m (by omega))⟩
      by_cases e : m = k
      · rw [e]; exact h
      · exact ih.mp (by omega) m (by omega)
    · rw [if_neg h]
      exact ⟨fun z => by omega, fun z => absurd (z k (by omega)) h⟩
theorem e_open_lp {u : MS} {K : Int32 → Int32 → NG Int32} : ∀ (t k n : Nat), k + t = 4 → t < n → xl_X3_openFights_4 n (nI (opn (u.2 0) k)) (nI k) K u = K (nI (opn (u.2 0) 4)) (nI 4) u := by
  intro t
  induction t with
  | zero =>
    intro k n hk hn
    cases n with
    | zero => omega
    | succ n =>
      have : k = 4 := by omega
      subst this
      unfold xl_X3_openFights_4
      rw [if_pos (show (4 : Int32) ≤ nI 4 from Int32.le_refl _)]
  | succ t ih =>
    intro k n hk hn
    cases n with
    | zero => omega
    | succ n =>
      unfold xl_X3_openFights_4
      rw [if_neg (show ¬ (4 : Int32) ≤ nI k from fun z => absurd ((nI_leI (a := 4) (b := k) (by decide) (by omega)).mp z) (by omega))]
      refine ncl_eq2 (e_isFree (by omega)) ?_
      have h9 := ih (k + 1) n (by omega) (by omega)
      rw [opn_s] at h9
      by_cases h : u.2 0 (mc0 k + 1) = -1
      · rw [if_pos h] at h9
        rw [if_pos h, if_neg (by decide)]
        show xl_X3_openFights_4 n (nI (opn (u.2 0) k) + 0) (nI k + 1) K u = _
        rw [nI_1, show nI (opn (u.2 0) k) + 0 = nI (opn (u.2 0) k + 0) from nI_add _ 0]
        exact h9
      · rw [if_neg h] at h9
        rw [if_neg h, if_pos rfl]
        show xl_X3_openFights_4 n (nI (opn (u.2 0) k) + 1) (nI k + 1) K u = _
        rw [nI_1, nI_1]
        exact h9
theorem e_openFights {u : MS} : x_X3_openFights u = some (nI (opn (u.2 0) 4), u) := by
  unfold x_X3_openFights
  exact e_open_lp 4 0 fuel (by decide) (by unfold fuel; omega)
theorem R0.free {B : Nat → Int32} {w : GS} (h : R0 B w) {m : Nat} (hm : m < 4) : w.1.2 22 m = -1 ↔ B (mc0 m + 1) = -1 := by
  rcases h.2.2.2.2.2 m hm with ⟨a, b⟩ | ⟨c, i, a, b, d, e, f, -⟩
  · exact ⟨fun _ => a, fun _ => b.2⟩
  · refine ⟨fun z => ?_, fun z => ?_⟩
    · rw [f.2] at z
      exact absurd z (by intro y; have h9 := congrArg Int32.toInt y; rw [nI_toInt (by omega)] at h9; have h8 : (-1 : Int32).toInt = -1 := by decide
                         omega)
    · rw [e] at z
      exact absurd z (by intro y; have h9 := congrArg Int32.toInt y; rw [nI_toInt (by omega)] at h9; have h8 : (-1 : Int32).toInt = -1 := by decide
                         omega)
theorem dnew_same (u : MS) : Same [20, 21, 22, 23, 24, 25] [8, 9, 10] u (dnew u) := by
  refine ⟨fun k hk => if_neg (fun z => hk (List.contains_iff_mem.mp z)), fun k hk => ?_⟩
  simp only [List.mem_cons, List.not_mem_nil, or_false, not_or] at hk
  show (if k = 8 then _ else if k = 9 then _ else if k = 10 then _ else u.2 k) = u.2 k
  rw [if_neg hk.1, if_neg hk.2.1, if_neg hk.2.2]
theorem dL_same {LI LA : List Nat} {u v : MS} (hs : Same LI LA u v) (h1 : ∀ k ∈ LI, k < 20) (h2 : ∀ k ∈ LA, k < 8) : dL v = dL u := by
  refine Prod.ext (funext (fun j => ?_)) (funext (fun a => ?_))
  · exact hs.1 (20 + j) (fun z => absurd (h1 _ z) (by omega))
  · exact hs.2 (8 + a) (fun z => absurd (h2 _ z) (by omega))
theorem kpL_q {LW : List gLw} {q : Nat} {w : gLw} (hq : q ≤ LW.length) (hl : LW.length < 2 ^ 31) : kpL LW (nI q) w = if q = LW.length then LW ++ [w] else LW.set q w := by
  unfold kpL
  rw [if_neg (nI_nn (by omega))]
  by_cases h : q = LW.length
  · rw [if_pos h, if_pos (nI_le (by omega) (by omega))]
  · rw [if_neg h, if_neg (fun z => absurd ((nI_leI (by omega) (by omega)).mp z) (by omega)), nI_clamp (by omega)]
theorem kpL_lnq {P : LwP} {LW : List LwP} {q : Nat} {w : LwP} (hq : q ≤ LW.length) (hl : LW.length < 2 ^ 31) : lnq P (kpL LW (nI q) w) (q + 1) = w ∧ (∀ k, k ≤ q → lnq P (kpL LW (nI q) w) k = lnq P LW k) ∧ q + 1 ≤ (kpL LW (nI q) w).length ∧ LW.length ≤ (kpL LW (nI q) w).length := by
  rw [kpL_q hq hl]
  unfold lnq
  rw [if_neg (by omega), Nat.add_sub_cancel]
  by_cases h : q = LW.length
  · subst h
    rw [if_pos rfl]
    refine ⟨?_, fun k hk => ?_, by rw [List.length_append]; exact Nat.le_refl _, by rw [List.length_append]; omega⟩
    · rw [List.getD_eq_getElem?_getD, List.getElem?_append_right (Nat.le_refl _), Nat.sub_self]
      rfl
    · by_cases h0 : k = 0
      · rw [if_pos h0, if_pos h0]
      · rw [if_neg h0, if_neg h0, List.getD_eq_getElem?_getD, List.getD_eq_getElem?_getD, List.getElem?_append_left (by omega)]
  · rw [if_neg h]
    refine ⟨?_, fun k hk => ?_, by rw [List.length_set]; omega, by rw [List.length_set]; exact Nat.le_refl _⟩
    · rw [List.getD_eq_getElem?_getD, List.getElem?_set, if_pos rfl, if_pos (by omega)]
      rfl
    · by_cases h0 : k = 0
      · rw [if_pos h0, if_pos h0]
      · rw [if_neg h0, if_neg h0, List.getD_eq_getElem?_getD, List.getD_eq_getElem?_getD, List.getElem?_set, if_neg (by omega)]
/-- as sm_act, of an act that writes the Parser's cells too -/
theorem sm_act2 {P : LwP} {LW LW2 : List LwP} {N tp n E ch C q2 N2 tp2 E2 : Nat} {u v : MS} {w w2 sv : GS} {lg : Nat → En} {s : Nat → GS} {p q : Nat → Nat} {en : En} (h : SmX P LW N tp u w n E lg s p q ch C) (e1 : v.1 1 = nI (n + 1)) (e3 : v.2 3 n = nI ch) (e3k : ∀ k, k < n → v.2 3 k = u.2 3 k) (hs : Hs u v) (hL : LiveX N2 tp2 (n + 1) E2 (fun k => if k = n then en else lg k) (fun k => if k = n + 1 then sv else s k) w2) (hR : RX P LW2 q2 (v.2 0) sv) (hq : q n ≤ q2) (hW : ∀ k, k ≤ q n → lnq P LW2 k = lnq P LW k) (hWl : LW.length ≤ LW2.length) (hl : LW2.length < 2 ^ 31) (hb : ∀ c, c < 4 → Bd (v.2 0) c v) : SmE P LW2 N2 tp2 v w2 := by
  obtain ⟨-, h1, hK, hp, hm, hBk, hn, hqm, -, -⟩ := h
  have hs2 := hs
  obtain ⟨ch0, C0, ch1, C1, k1, k2, hle, hh⟩ := hs2
  obtain ⟨rfl, rfl⟩ := hK.inj k1
  have hto : ∀ {k B x}, k ≤ q n → RX P LW k B x → RX P LW2 k B x := fun hk z => by
    obtain ⟨a, a2, b, c, d⟩ := z
    exact ⟨a, a2, b, Nat.le_trans c hWl, by rw [hW _ hk]; exact d⟩
  refine ⟨n + 1, E2, _, _, fun k => if k = n then ch else p k, fun k => if k = n + 1 then q2 else q k, ch1, C1, hL, e1, k2, fun k hk => ?_, fun i j hij hj => ?_, fun k hk => ?_, ?_, fun i j hij hj => ?_, hb, hl⟩
  · show v.2 3 k = nI (if k = n then ch else p k) ∧ (if k = n then ch else p k) ≤ ch1
    by_cases c0 : k = n
    · subst c0
      rw [if_pos rfl]
      exact ⟨e3, hle⟩
    · rw [if_neg c0]
      obtain ⟨a, b⟩ := hp k (by omega)
      exact ⟨(e3k k (by omega)).trans a, by omega⟩
  · show (if i = n then ch else p i) ≤ (if j = n then ch else p j)
    by_cases cj : j = n
    · rw [if_pos cj]
      by_cases ci : i = n
      · rw [if_pos ci]; exact Nat.le_refl _
      · rw [if_neg ci]
        exact (hp i (by omega)).2
    · rw [if_neg cj, if_neg (by omega)]
      exact hm i j hij (by omega)
  · show RX P LW2 (if k = n + 1 then q2 else q k) (hB v (if k = n then ch else p k)) (if k = n + 1 then sv else s k)
    rw [if_neg (show ¬ k = n + 1 by omega), if_neg (show ¬ k = n + 1 by omega)]
    refine hto (hqm k n (by omega) (Nat.le_refl _)) ?_
    by_cases c0 : k = n
    · subst c0
      rw [if_pos rfl, hh ch (Nat.le_refl _), hB_top hK]
      exact hn
    · rw [if_neg c0, hh (p k) (hp k (by omega)).2]
      exact hBk k (by omega)
  · show RX P LW2 (if n + 1 = n + 1 then q2 else q (n + 1)) (v.2 0) (if n + 1 = n + 1 then sv else s (n + 1))
    rw [if_pos rfl, if_pos rfl]
    exact hR
  · show (if i = n + 1 then q2 else q i) ≤ (if j = n + 1 then q2 else q j)
    by_cases cj : j = n + 1
    · rw [if_pos cj]
      by_cases ci : i = n + 1
      · rw [if_pos ci]; exact Nat.le_refl _
      · rw [if_neg ci]
        exact Nat.le_trans (hqm i n (by omega) (Nat.le_refl _)) hq
    · rw [if_neg cj, if_neg (by omega)]
      exact hqm i j hij (by omega)
theorem RX.law {P : LwP} {LW LW2 : List LwP} {q : Nat} {B B2 : Nat → Int32} {w w2 : GS} {L : MS} (h : RX P LW q B w) (hI : Inv w) (h2 : R0 B2 w2) (hB : ∀ j, ¬ j = 3 → B2 j = B j) (h3 : B2 3 = nI (q + 1)) (hq : q + 1 ≤ LW2.length) (hL : (lnq P LW2 (q + 1)).2.2 = L) (hl : LRel L w2) : RX P LW2 (q + 1) B2 w2 := by
  obtain ⟨a, ⟨a2, a3, ⟨v1, v2, v3⟩, a5⟩, b, c, d⟩ := h
  refine ⟨a.quiet hI h2 ⟨fun c hc j j1 j2 => hB j (by omega), fun j j1 j2 => hB j (by omega), fun f hf => hB _ (by omega)⟩ (fun c hc hk => ?_), ⟨a2.to (fun j hj => hB j (by omega)), a3.to (fun j j1 j2 => hB j (by omega)), ⟨by rw [hB 0 (by decide)]; exact v1, by rw [hB 1 (by decide)]; exact v2, fun f hf => by rw [hB _ (by omega)]; exact v3 f hf⟩, a5.to (fun j j1 j2 => hB j (by omega)) (fun j hj => hB j (by omega))⟩, h3, hq, by rw [hL]; exact hl⟩
  rcases (hI.1.2.2.2.1 c hc).2.2.1 with z | ⟨n, z⟩
  · exact absurd (hk.symm.trans ((a.1.kd hc).inj z)) (by decide)
  · rcases hI.1.dr z with ⟨s, hP, -⟩ | ⟨L, hT, -⟩
    · exact absurd (hk.symm.trans ((a.1.kz hc).1 s hP).1) (by decide)
    · exact ⟨L, hT⟩
section
variable {P : LwP} {LW : List LwP} {N tp n E ch C : Nat} {u v : MS} {w : GS} {lg : Nat → En} {s : Nat → GS} {p q : Nat → Nat}
theorem TpR.zero {w2 : GS} (h2 : v.1 2 = 0) : TpR 0 v w2 := ⟨fun _ => 0, ⟨Nat.zero_le _, h2, fun i hi => absurd hi (Nat.not_lt_zero _)⟩, fun i hi => absurd hi (Nat.not_lt_zero _)⟩
theorem free_iff (h : R0 (u.2 0) w) : nI (opn (u.2 0) 4) ≤ (0 : Int32) ↔ ∀ j, j < 4 → w.1.2 22 j = -1 := by
  have hle := opn_le (u.2 0) 4
  have h1 : nI (opn (u.2 0) 4) ≤ (0 : Int32) ↔ opn (u.2 0) 4 = 0 := by
    refine ⟨fun z => ?_, fun z => ?_⟩
    · have h9 := (nI_leI (a := opn (u.2 0) 4) (b := 0) (by omega) (by decide)).mp z
      omega
    · rw [z]; decide
  rw [h1, opn_0]
  exact ⟨fun z j hj => (h.free hj).mpr (z j hj), fun z j hj => (h.free hj).mp (z j hj)⟩
theorem sim_lawsNo {r : Int32} (h : SmX P LW N tp u w n E lg s p q ch C) (hN : N ≤ 24000) (hT : TpR tp u w) (hF : FtR u w) (e : x_lawsNo u = some (r, v)) : Ok f_laws w (fun r2 w2 => r2 = r ∧ SmE P LW N 0 v w2 ∧ TpR 0 v w2 ∧ FtR v w2) := by
  have hn := h.le
  have hfr := free_iff h.r0
  obtain ⟨T, hTC, h40⟩ := hT
  unfold x_lawsNo at e
  obtain ⟨k1, u2, h3, e⟩ := ncl_some e
  rw [e_openFights] at h3
  cases h3
  obtain ⟨b, u3, h4, hs3, -⟩ := readLaws_ok u
  have H := laws_core h.1 hN hTC h40 h4
  by_cases c1 : nI (opn (u.2 0) 4) ≤ (0 : Int32)
  · rw [if_pos c1] at e
    have hf := hfr.mp c1
    obtain ⟨b2, u4, h5, e⟩ := ncl_some e
    rw [h4] at h5
    cases h5
    obtain ⟨y, u5, h6, e⟩ := ncl_some e
    have e5 : u5 = si u3 2 0 := by cases h6; rfl
    subst e5
    have hsv : Same [2, 3, 4, 5, 6, 7, 8, 9, 10, 11, 12, 13, 14, 15, 20, 21, 22, 23, 24, 25] [5, 6, 7, 8, 9, 10] u (si u3 2 0) := (hs3.mono (by decide) (by decide)).trans (Same_si (by decide))
    have hv := h.same hsv (by decide) (by decide) (by decide)
    have fin : ∀ w2, v = si u3 2 0 → LiveX N 0 n E lg s w2 → w2.1.1 49 = u3.1 11 ∧ w2.1.1 50 = u3.1 10 → SmE P LW N 0 v w2 ∧ TpR 0 v w2 ∧ FtR v w2 := fun w2 ev hL2 hf2 => by
      subst ev
      exact ⟨(hv.live hL2).e, TpR.zero (siE _ _ _), hf2.1.symm, hf2.2.symm⟩
    by_cases c2 : b = 0
    · rw [if_pos c2] at e
      have q3 : r = -1 ∧ v = si u3 2 0 := by cases e; exact ⟨rfl, rfl⟩
      refine Ok.mono H (fun r2 w2 y => ?_)
      rcases y with ⟨⟨j, hj, hj2⟩, -⟩ | ⟨-, yf, ⟨-, y2, y3⟩ | ⟨y1, -⟩ | ⟨y1, -⟩⟩
      · exact absurd (hf j hj) hj2
      · exact ⟨y2.trans q3.1.symm, fin w2 q3.2 y3 yf⟩
      · rw [c2] at y1; exact absurd y1 (by decide)
      · rw [c2] at y1; exact absurd y1 (by decide)
    · rw [if_neg c2] at e
      obtain ⟨z, u6, h7, e⟩ := ncl_some e
      rw [e_isFull hv.2.1 hn] at h7
      cases h7
      by_cases h5 : n < 500
      · rw [if_pos h5, if_pos rfl] at e
        cases e
      · rw [if_neg h5, if_neg (by decide)] at e
        have q3 : r = -4 ∧ v = si u3 2 0 := by cases e; exact ⟨rfl, rfl⟩
        refine Ok.mono H (fun r2 w2 y => ?_)
        rcases y with ⟨⟨j, hj, hj2⟩, -⟩ | ⟨-, yf, ⟨y1, -⟩ | ⟨-, -, y2, y3⟩ | ⟨-, y2, -⟩⟩
        · exact absurd (hf j hj) hj2
        · exact absurd y1 c2
        · exact ⟨y2.trans q3.1.symm, fin w2 q3.2 y3 yf⟩
        · exact absurd y2 h5
  · rw [if_neg c1] at e
    obtain ⟨y, u5, h6, e⟩ := ncl_some e
    have e5 : u5 = si u 2 0 := by cases h6; rfl
    subst e5
    have q3 : r = -3 ∧ v = si u 2 0 := by cases e; exact ⟨rfl, rfl⟩
    refine Ok.mono H (fun r2 w2 y => ?_)
    rcases y with ⟨-, y2, y3, y4, y5⟩ | ⟨y1, -⟩
    · refine ⟨y2.trans q3.1.symm, ?_⟩
      rw [q3.2]
      exact ⟨((h.same (LI := [2]) (LA := []) (v := si u 2 0) (Same_si (by decide)) (by decide) (by decide) (by decide)).live y3).e, TpR.zero (siE _ _ _), hF.fr ⟨rfl, rfl⟩ ⟨y4, y5⟩⟩
    · exact absurd (hfr.mpr y1) c1
theorem sim_lawsYes {r5 r6 : Int32} {u5 u6 : MS} {C1 C2 : Nat} {wd : LwP} (h : SmX P LW N tp u w n E lg s p q ch C) (hN : N ≤ 24000) (hT : TpR tp u w) (hW : LW.length ≤ 512) (hwd : wd.2.2 = dL u5) (e : x_lawsYes u = some (r5, u5)) (e2 : x_X1_put 3 (rg (u5.2 0) 2088 3 + 1) (dnew u5) = some (r6, u6, C1, C2)) : Ok f_laws w (fun r2 w2 => r2 = (lnw P (kpL LW (rg (u5.2 0) 2088 3) wd) u6).2.2.1 3 ∧ SmE P (kpL LW (rg (u5.2 0) 2088 3) wd) N 0 u6 w2 ∧ TpR 0 u6 w2 ∧ FtR u6 w2) := by
  have hn := h.le
  have hfr := free_iff h.r0
  obtain ⟨T, hTC, h40⟩ := hT
  unfold x_lawsYes at e
  obtain ⟨k1, u2, h3, e⟩ := ncl_some e
  rw [e_openFights] at h3
  cases h3
  obtain ⟨b, u3, h4, hs3, -⟩ := readLaws_ok u
  have H := laws_core h.1 hN hTC h40 h4
  by_cases c1 : nI (opn (u.2 0) 4) ≤ (0 : Int32)
  · rw [if_pos c1] at e
    have hf := hfr.mp c1
    obtain ⟨b2, u4, h5, e⟩ := ncl_some e
    rw [h4] at h5
    cases h5
    obtain ⟨y, u4, h6, e⟩ := ncl_some e
    have e5 : u4 = si u3 2 0 := by cases h6; rfl
    subst e5
    have hsv : Same [2, 3, 4, 5, 6, 7, 8, 9, 10, 11, 12, 13, 14, 15, 20, 21, 22, 23, 24, 25] [5, 6, 7, 8, 9, 10] u (si u3 2 0) := (hs3.mono (by decide) (by decide)).trans (Same_si (by decide))
    have hv := h.same hsv (by decide) (by decide) (by decide)
    by_cases c2 : b = 0
    · rw [if_pos c2] at e
      cases e
    rw [if_neg c2] at e
    obtain ⟨z, u7, h7, e⟩ := ncl_some e
    rw [e_isFull hv.2.1 hn] at h7
    cases h7
    by_cases h5 : n < 500
    · rw [if_pos h5, if_pos rfl] at e
      obtain ⟨z2, u8, h8, e⟩ := ncl_some e
      have e9 : u8 = u5 := by cases e; rfl
      subst e9
      have hK := hv.2.2.1
      obtain ⟨o1, o2, o3, o4, o5, o6, o7⟩ := oe_ex hK h5 hv.2.1 h8
      have hsd := dnew_same u8
      have hKd : Kl (dnew u8) ch C := o7
      obtain ⟨p1, p2, p3⟩ := put_ex hKd e2
      have hH : Hs (si u3 2 0) u6 := o4.trans ((Hs.same o7 hsd (by decide) (by decide)).trans p1)
      have hB0 : u8.2 0 = u.2 0 := o5.trans (hsv.2 0 (by decide))
      have hrx := h.rx
      have e3 : rg (u8.2 0) 2088 3 = nI (q n) := by
        rw [hB0]
        exact (rdB (u.2 0) (j := 3) (by decide)).trans hrx.2.2.1
      rw [e3] at p2 e2 ⊢
      have hB6 : u6.2 0 = upd (u.2 0) 3 (nI (q n + 1)) := by
        rw [p2, nI_1]
        show rs (u8.2 0) 2088 (nI 3) _ = _
        rw [wrB _ _ (by decide), hB0]
      have hqn := hrx.2.2.2.1
      have hl31 : LW.length < 2 ^ 31 := by omega
      obtain ⟨k1, k2, k3, k4⟩ := kpL_lnq (P := P) (w := wd) hqn hl31
      have hl2 : (kpL LW (nI (q n)) wd).length < 2 ^ 31 := by
        have := kpL_len LW (nI (q n)) wd
        omega
      have hB3 : u6.2 0 3 = nI (q n + 1) := by rw [hB6]; exact upd_e
      have hdL : dL u8 = dL u3 := dL_same ((Same_si (u := u3) (k := 2) (v := 0) (LI := [1, 2]) (LA := [3]) (by decide)).trans (o6.mono (by decide) (by decide))) (by decide) (by decide)
      have hln : lnw P (kpL LW (nI (q n)) wd) u6 = wd := (lnw_q hB3 k3 hl2).trans k1
      have i10 : u6.1 10 = u3.1 10 := (p3.1 10 (by decide)).trans ((hsd.1 10 (by decide)).trans (o6.1 10 (by decide)))
      have i11 : u6.1 11 = u3.1 11 := (p3.1 11 (by decide)).trans ((hsd.1 11 (by decide)).trans (o6.1 11 (by decide)))
      have i2 : u6.1 2 = 0 := (p3.1 2 (by decide)).trans ((hsd.1 2 (by decide)).trans (o6.1 2 (by decide)))
      have a3 : u6.2 3 = u8.2 3 := (p3.2 3 (by decide)).trans (hsd.2 3 (by decide))
      refine Ok.mono H (fun r2 w2 y => ?_)
      rcases y with ⟨⟨j, hj, hj2⟩, -⟩ | ⟨-, yf, ⟨y1, -⟩ | ⟨-, y1, -⟩ | ⟨-, -, y2, E2, en, sv, y3, y4, y5, y6, y7⟩⟩
      · exact absurd (hf j hj) hj2
      · exact absurd y1 c2
      · omega
      · refine ⟨?_, ?_, TpR.zero i2, ?_, ?_⟩
        · rw [hln, hwd, y2, hdL]
          rfl
        · have hR2 : R0 (u6.2 0) sv := h.rs.lw (fun j hj => by rw [hB6]; exact upd_n hj) y6 y7
          have hRX : RX P (kpL LW (nI (q n)) wd) (q n + 1) (u6.2 0) sv := hrx.law h.inv hR2 (fun j hj => by rw [hB6]; exact upd_n hj) hB3 k3 (by rw [k1, hwd, hdL]) y5
          refine sm_act2 hv ((p3.1 1 (by decide)).trans ((hsd.1 1 (by decide)).trans o1)) (by rw [a3]; exact o2) (fun k hk => by rw [a3]; exact o3 k (by omega)) hH y3 hRX (by omega) k2 k4 hl2 (fun c hc => ?_)
          have hb := h.bd c hc
          have hs6 : Same [0, 1, 2, 3, 4, 5, 6, 7, 8, 9, 10, 11, 12, 13, 14, 15, 20, 21, 22, 23, 24, 25, 60, 65] [0, 1, 2, 3, 5, 6, 7, 8, 9, 10] u u6 := (hsv.mono (by decide) (by decide)).trans ((o6.mono (by decide) (by decide)).trans ((hsd.mono (by decide) (by decide)).trans (p3.mono (by decide) (by decide))))
          refine hb.to ?_ (fun i _ => ?_)
          · rw [hB6]
            exact ⟨fun p hp => upd_n (by omega), fun i hi => ⟨upd_n (by unfold fc; omega), upd_n (by unfold fc; omega)⟩, upd_n (by omega), upd_n (by omega)⟩
          · unfold Rws
            rw [hs6.2 13 (by decide), hs6.2 14 (by decide), hs6.2 15 (by decide), hs6.2 16 (by decide)]
            exact ⟨rfl, rfl, rfl, rfl⟩
        · exact i11.trans yf.1.symm
        · exact i10.trans yf.2.symm
    · rw [if_neg h5, if_neg (by decide)] at e
      cases e
  · rw [if_neg c1] at e
    cases e
end
