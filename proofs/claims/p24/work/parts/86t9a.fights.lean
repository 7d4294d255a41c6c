/-! ===== the plan: the stages of the fights, and what is ahead of them ===== -/
theorem d40 {c i : Nat} (hi : i < 40) : (40 * c + i) / 40 = c ∧ (40 * c + i) % 40 = i := by omega
def rndS (S i : Nat) : Nat := if i < S / 2 then 0 else if i < S / 2 + S / 4 then 1 else if i < S / 2 + S / 4 + S / 8 then 2 else if i < S / 2 + S / 4 + S / 8 + S / 16 then 3 else 4
def pgS (S i : Nat) : Nat := if i < S - 1 then (if i = S - 2 then 20 else rndS S i) else 10 + ((i - (S - 1)) % stL S + 1)
def paS (S i k : Nat) : Option Nat := if i < S / 2 then none else if i < S - 1 then some (2 * (i - S / 2) + k) else if k = 0 then some (S - 4 + (i - (S - 1)) / stL S) else if (i - (S - 1)) % stL S = 0 then none else some (i - 1)
/-- the stage of a fight -/
def pdG (B : Nat → Int32) (x : Nat) : Nat := if B (6 + 36 * (x / 40)) = 1 then 0 else pgS (zN B (x / 40)) (x % 40)
/-- what is ahead of a fight -/
def pdA (B : Nat → Int32) (x k : Nat) : Option Nat := if B (6 + 36 * (x / 40)) = 1 then none else (paS (zN B (x / 40)) (x % 40) k).map (fun j => 40 * (x / 40) + j)
abbrev pdF (B : Nat → Int32) (x : Nat) : Prop := x / 40 < 4 ∧ x % 40 < nFi B (x / 40)
theorem bas_st1 : ∀ L < 6, ∀ r < 5, r + 1 < L → bas L (r + 1) + 2 ^ L / 2 ^ (r + 2) = bas L (r + 2) := by decide +kernel
theorem bas_st2 : ∀ L < 6, ∀ r < 5, ∀ i < 31, (3 ≤ L ∧ i < 2 ^ L - 1 ∧ bas L r ≤ i ∧ i < bas L (r + 1)) → rndS (2 ^ L) i = r := by decide +kernel
theorem bas_st3 : ∀ L < 6, ∀ r < 5, ∀ i < 31, (3 ≤ L ∧ i < 2 ^ L - 1 ∧ bas L (r + 1) ≤ i) → r + 1 < L := by decide +kernel
theorem bas_st (L : Nat) (hL : L < 6) (r : Nat) (hr : r < 5) (h3 : 3 ≤ L) : (r + 1 < L → bas L (r + 1) + 2 ^ L / 2 ^ (r + 2) = bas L (r + 2)) ∧ (∀ i < 31, i < 2 ^ L - 1 → (bas L r ≤ i → i < bas L (r + 1) → rndS (2 ^ L) i = r) ∧ (bas L (r + 1) ≤ i → r + 1 < L)) := ⟨bas_st1 L hL r hr, fun i hi hlt => ⟨fun a b => bas_st2 L hL r hr i hi ⟨h3, hlt, a, b⟩, fun a => bas_st3 L hL r hr i hi ⟨h3, hlt, a⟩⟩⟩
theorem stg_lp {L i : Nat} (hL3 : 3 ≤ L) (hL5 : L ≤ 5) (hi : i < 2 ^ L - 1) (v1 : Int32) (K : Int32 → Int32 → Int32 → Int32 → Int32 → NG Int32) (u : MS) (z : Option (Int32 × MS)) (hK : ∀ v5, K v1 (nI i) (nI (2 ^ L)) (nI (rndS (2 ^ L) i)) v5 u = z) : ∀ (t r n : Nat), r + t = 4 → t < n → bas L r ≤ i → xl_X0_stageOf_41 n v1 (nI i) (nI (2 ^ L)) (nI r) (nI (bas L (r + 1))) K u = z := by
  have h32 := pow_lt32 hL5
  intro t
  induction t with
  | zero =>
    intro r n h1 h2 h3
    cases n with
    | zero => omega
    | succ n =>
      have hr : r = 4 := by omega
      subst hr
      obtain ⟨b1, b2⟩ := bas_st L (by omega) 4 (by decide) hL3
      obtain ⟨b3, b4⟩ := b2 i (by omega) hi
      have hlt : i < bas L (4 + 1) := by
        rcases Nat.lt_or_ge i (bas L (4 + 1)) with z | z
        · exact z
        · exact absurd (b4 z) (by omega)
      have hb := (bas_mono L (by omega) (4 + 1) (by decide)).2.2.2
      unfold xl_X0_stageOf_41
      rw [if_pos (nI_lt hlt (by omega))]
      have := hK (nI (bas L (4 + 1)))
      rw [b3 h3 hlt] at this
      exact this
  | succ t ih =>
    intro r n h1 h2 h3
    cases n with
    | zero => omega
    | succ n =>
      obtain ⟨b1, b2⟩ := bas_st L (by omega) r (by omega) hL3
      obtain ⟨b3, b4⟩ := b2 i (by omega) hi
      have hb := (bas_mono L (by omega) (r + 1) (by omega)).2.2.2
      unfold xl_X0_stageOf_41
      by_cases hlt : i < bas L (r + 1)
      · rw [if_pos (nI_lt hlt (by omega))]
        have := hK (nI (bas L (r + 1)))
        rw [b3 h3 hlt] at this
        exact this
      · have hge : bas L (r + 1) ≤ i := Nat.not_lt.mp hlt
        rw [if_neg (Int32.not_lt.mpr (nI_le hge (by omega))), if_neg (show ¬ (5 : Int32) ≤ nI r from nI_ge (a := r) (b := 5) (by omega) (by decide))]
        have e2 : nI (bas L (r + 1)) + (nI (2 ^ L) >>> ((nI r + 1 + 1) &&& 31)) = nI (bas L (r + 2)) := by
          rw [nI_1, nI_1, shrL L (by omega) (r + 2) (by omega), nI_add, b1 (b4 hge)]
        show xl_X0_stageOf_41 n v1 (nI i) (nI (2 ^ L)) (nI r + 1) (nI (bas L (r + 1)) + (nI (2 ^ L) >>> ((nI r + 1 + 1) &&& 31))) K u = z
        rw [e2, nI_1]
        exact ih (r + 1) n (by omega) (by omega) hge
theorem e_stepN {S q : Nat} (hS : Siz S) (hq : q < 2 * stL S) : x_X0_stepOf (nI S) (nI (S - 1 + q)) = nrt (nI (q % stL S + 1)) := by
  have hs := hS.st
  have h2 := hS.h2
  have e1 : nI S - 1 = nI (S - 1) := nI_sub (b := 1) (by omega)
  have e2 : nI (S - 1 + q) - nI (S - 1) = nI q := by rw [nI_sub (by omega), Nat.add_sub_cancel_left]
  unfold x_X0_stepOf
  rw [e_steps hS, ncl_rt, e1, e2]
  show (if nI (stL S) ≤ nI q then nrt (nI q - nI (stL S) + 1) else nrt (nI q + 1)) = _
  by_cases h : stL S ≤ q
  · rw [if_pos (nI_le h (by omega)), nI_sub h, nI_1, Nat.mod_eq_sub_mod h, Nat.mod_eq_of_lt (by omega)]
  · rw [if_neg (nI_ge (by omega) (by omega)), nI_1, Nat.mod_eq_of_lt (by omega)]
theorem Kn.tre {B : Nat → Int32} {c : Nat} (hk : Kn B c) (h2 : ¬ B (6 + 36 * c) = 1) {i : Nat} (hi : i < nFi B c) : ∃ L, 3 ≤ L ∧ L ≤ 5 ∧ B (6 + 36 * c) = 2 ∧ B (7 + 36 * c) = nI (2 ^ L) ∧ zN B c = 2 ^ L ∧ nFi B c = 2 ^ L - 1 + 2 * stL (2 ^ L) ∧ Siz (2 ^ L) := by
  rcases hk with hk | ⟨hk, -⟩ | ⟨hk, S, hS, hz⟩
  · rw [nFi_0 hk] at hi
    exact absurd hi (Nat.not_lt_zero _)
  · exact absurd hk h2
  · have hL : ∃ L, 3 ≤ L ∧ L ≤ 5 ∧ S = 2 ^ L := by
      rcases hS with rfl | rfl | rfl
      · exact ⟨3, by decide, by decide, rfl⟩
      · exact ⟨4, by decide, by decide, rfl⟩
      · exact ⟨5, by decide, by decide, rfl⟩
    obtain ⟨L, h3, h5, rfl⟩ := hL
    have h32 := pow_lt32 h5
    have ez : zN B c = 2 ^ L := by
      unfold zN
      rw [hz, nI_clamp (by omega)]
    refine ⟨L, h3, h5, hk, hz, ez, ?_, hS⟩
    unfold nFi
    rw [if_neg h2, if_pos hk, ez]
theorem e_stageOf {u : MS} {c i : Nat} (hc : c < 4) (hk : Kn (u.2 0) c) (hi : i < nFi (u.2 0) c) : x_X0_stageOf (nI c) (nI i) u = some (nI (pdG (u.2 0) (40 * c + i)), u) := by
  have h37 := hk.n37
  obtain ⟨d1, d2⟩ := d40 (c := c) (i := i) (by omega)
  unfold x_X0_stageOf pdG
  refine ncl_eq (e_sizeOf hc) (ncl_eq (e_kindOf hc) ?_)
  rw [d1, d2]
  by_cases h1 : u.2 0 (6 + 36 * c) = 1
  · rw [if_pos h1, h1, if_neg (by decide)]
    rfl
  · obtain ⟨L, h3, h5, h2, hz, ez, en, hS⟩ := hk.tre h1 hi
    have h32 := pow_lt32 h5
    have h8 : 8 ≤ 2 ^ L := hS.h2.2.2.1
    rw [if_neg h1, if_pos h2, hz, ez]
    have e2 : nI (2 ^ L) - 2 = nI (2 ^ L - 2) := nI_sub (b := 2) (by omega)
    rw [e2]
    unfold pgS
    by_cases hlt : i < 2 ^ L - 1
    · rw [if_pos hlt, if_pos (nI_le (by omega) (by omega)), hS.h2.1]
      have eb : nI (2 ^ L / 2) = nI (bas L (0 + 1)) := by
        rcases (by omega : L = 3 ∨ L = 4 ∨ L = 5) with rfl | rfl | rfl <;> rfl
      show xl_X0_stageOf_41 fuel (nI c) (nI i) (nI (2 ^ L)) (nI 0) (nI (2 ^ L / 2)) _ u = _
      rw [eb]
      refine stg_lp h3 h5 hlt (nI c) _ u _ (fun v5 => ?_) 4 0 fuel (by omega) (by unfold fuel; omega) (by rw [(bas_mono L (by omega) 0 (by decide)).2.2.1]; omega)
      show (if nI i = nI (2 ^ L) - 2 then nrt (20 : Int32) else nrt (nI (rndS (2 ^ L) i))) u = _
      rw [e2]
      by_cases h0 : i = 2 ^ L - 2
      · rw [if_pos (by rw [h0]), if_pos h0]
        rfl
      · rw [if_neg (fun z => h0 ((nI_eq (by omega) (by omega)).mp z)), if_neg h0]
        rfl
    · obtain ⟨q, rfl⟩ : ∃ q, i = 2 ^ L - 1 + q := ⟨i - (2 ^ L - 1), by omega⟩
      rw [if_neg hlt, if_neg (nI_ge (by omega) (by omega)), e_stepN hS (by omega), ncl_rt, Nat.add_sub_cancel_left]
      show some (nI 10 + nI (q % stL (2 ^ L) + 1), u) = _
      rw [nI_add]
theorem e_aheadOf {u : MS} {c i k : Nat} (hc : c < 4) (hk : Kn (u.2 0) c) (hi : i < nFi (u.2 0) c) (hk2 : k < 2) : x_X0_aheadOf (nI c) (nI i) (nI k) u = some ((pdA (u.2 0) (40 * c + i) k).elim (-1) (fun y => nI (y % 40)), u) := by
  have h37 := hk.n37
  obtain ⟨d1, d2⟩ := d40 (c := c) (i := i) (by omega)
  unfold x_X0_aheadOf pdA
  refine ncl_eq2 (e_sizeOf hc) (ncl_eq2 (e_kindOf hc) ?_)
  rw [d1, d2]
  by_cases h1 : u.2 0 (6 + 36 * c) = 1
  · rw [if_pos h1, h1, if_neg (by decide)]
    rfl
  · obtain ⟨L, h3, h5, h2, hz, ez, en, hS⟩ := hk.tre h1 hi
    have h32 := pow_lt32 h5
    have h8 : 8 ≤ 2 ^ L := hS.h2.2.2.1
    have hh := hS.h2.2.2.2
    have hst := hS.st
    have e2 : nI (2 ^ L) - 2 = nI (2 ^ L - 2) := nI_sub (b := 2) (by omega)
    have e1 : nI (2 ^ L) - 1 = nI (2 ^ L - 1) := nI_sub (b := 1) (by omega)
    have e4 : nI (2 ^ L) - 4 = nI (2 ^ L - 4) := nI_sub (b := 4) (by omega)
    have dv : ∀ j, j < 40 → (40 * c + j) % 40 = j := fun j hj => (d40 hj).2
    rw [if_neg h1, if_pos h2, hz, ez, hS.h2.1]
    unfold paS
    by_cases ha : i < 2 ^ L / 2
    · rw [if_pos ha, if_neg (nI_ge ha (by omega))]
      rfl
    · have ha2 : 2 ^ L / 2 ≤ i := Nat.not_lt.mp ha
      rw [if_neg ha, if_pos (nI_le ha2 (by omega)), e2]
      by_cases hlt : i < 2 ^ L - 1
      · rw [if_pos hlt, if_neg (Int32.not_lt.mpr (nI_le (by omega) (by omega))), e_low hS ha2, ncl_rt]
        show some (nI (2 * (i - 2 ^ L / 2)) + nI k, u) = some (nI ((40 * c + (2 * (i - 2 ^ L / 2) + k)) % 40), u)
        rw [nI_add, dv _ (by omega)]
      · obtain ⟨q, rfl⟩ : ∃ q, i = 2 ^ L - 1 + q := ⟨i - (2 ^ L - 1), by omega⟩
        rw [if_neg hlt, if_pos (nI_lt (by omega) (by omega)), e_steps hS, ncl_rt, e1, e4, nI_sub (Nat.le_add_right _ _), Nat.add_sub_cancel_left, e_stepN hS (by omega)]
        have hst2 : ∀ h0 : Int32, (if nI k = 0 then nrt (nI (2 ^ L - 4) + h0) else ncl (nrt (nI (q % stL (2 ^ L) + 1))) (fun r_15 => (if r_15 ≤ 1 then nrt (-1) else nrt (nI (2 ^ L - 1 + q) - 1)))) u = some (if k = 0 then nI (2 ^ L - 4) + h0 else if q % stL (2 ^ L) = 0 then -1 else nI (2 ^ L - 1 + q - 1), u) := fun h0 => by
          by_cases hk0 : k = 0
          · rw [if_pos (by rw [hk0]; rfl), if_pos hk0]
            rfl
          · have hk1 : k = 1 := by omega
            subst hk1
            rw [if_neg (by decide), if_neg (by decide), ncl_rt]
            by_cases hq0 : q % stL (2 ^ L) = 0
            · rw [if_pos hq0, hq0, if_pos (by decide)]
              rfl
            · have hlt2 := Nat.mod_lt q (y := stL (2 ^ L)) (by omega)
              rw [if_neg hq0, if_neg (show ¬ nI (q % stL (2 ^ L) + 1) ≤ (1 : Int32) from nI_ge (a := 1) (b := q % stL (2 ^ L) + 1) (by omega) (by omega))]
              have : nI (2 ^ L - 1 + q) - 1 = nI (2 ^ L - 1 + q - 1) := nI_sub (b := 1) (by omega)
              rw [this]
              rfl
        have fin : ∀ (h0 : Int32) (h : Nat), h < 2 → h0 = nI h → q / stL (2 ^ L) = h → some (if k = 0 then nI (2 ^ L - 4) + h0 else if q % stL (2 ^ L) = 0 then -1 else nI (2 ^ L - 1 + q - 1), u) = some (((if k = 0 then some (2 ^ L - 4 + q / stL (2 ^ L)) else if q % stL (2 ^ L) = 0 then none else some (2 ^ L - 1 + q - 1) : Option Nat).map (fun j => 40 * c + j)).elim (-1) (fun y => nI (y % 40)), u) := fun h0 h hh2 e0 eh => by
          by_cases hk0 : k = 0
          · rw [if_pos hk0, if_pos hk0, e0, nI_add, eh]
            show _ = some (nI ((40 * c + (2 ^ L - 4 + h)) % 40), u)
            rw [dv _ (by omega)]
          · rw [if_neg hk0, if_neg hk0]
            by_cases hq0 : q % stL (2 ^ L) = 0
            · rw [if_pos hq0, if_pos hq0]
              rfl
            · rw [if_neg hq0, if_neg hq0]
              show _ = some (nI ((40 * c + (2 ^ L - 1 + q - 1)) % 40), u)
              rw [dv _ (by omega)]
        by_cases hq : stL (2 ^ L) ≤ q
        · rw [if_pos (nI_le hq (by omega)), hst2 1]
          exact fin 1 1 (by decide) rfl (by rw [Nat.div_eq_iff (by omega)]; omega)
        · rw [if_neg (nI_ge (by omega) (by omega)), hst2 0]
          exact fin 0 0 (by decide) rfl (Nat.div_eq_of_lt (by omega))
theorem r_stage {B : Nat → Int32} {v : GS} {c n i : Nat} (hR : R0 B v) (hD : Dr v c n) (hi : i < n) : Rd (f_stage (nI (40 * c + i))) v (fun r => r = nI (pdG B (40 * c + i))) := by
  have hc := hD.c4
  have hn := hD.n37
  obtain ⟨d1, d2⟩ := div40 c hc i (by omega)
  obtain ⟨p1, p2⟩ := d40 (c := c) (i := i) (by omega)
  unfold f_stage pdG
  rw [p1, p2]
  refine Rd_li ?_
  rw [d1]
  refine Rd_li ?_
  have d3 : nI (40 * c + i) - nI c * 40 = nI i := by rw [← d1]; exact d2
  rw [d3]
  rcases hD with ⟨s, hP, -⟩ | ⟨L, hT, rfl⟩
  · obtain ⟨e6, -⟩ := (hR.kz hc).1 s hP
    obtain ⟨-, -, -, -, -, y12, -⟩ := hP
    rw [if_pos e6]
    exact Rd_rdN rfl hc (by decide) y12 (Rd_ite (fun _ => Rd_rt rfl) (fun z => absurd rfl z))
  · obtain ⟨e6, -, ez⟩ := (hR.kz hc).2 L hT
    obtain ⟨-, -, L3, L5, -, y12, y13, -⟩ := hT
    have h32 := pow_lt32 L5
    have h8 : 8 ≤ 2 ^ L := by
      rcases (by omega : L = 3 ∨ L = 4 ∨ L = 5) with rfl | rfl | rfl <;> decide
    rw [if_neg (by rw [e6]; decide), ez]
    unfold pgS
    refine Rd_rdN rfl hc (by decide) y12 (Rd_ite (fun z => absurd z (by decide)) (fun _ => ?_))
    by_cases hs : i < 2 ^ L - 1
    · rw [if_pos hs]
      refine Rd_clR (ok_isSecond0 v c L i hc L5 (by omega) hs y12 y13) (fun r hr => ?_)
      subst hr
      refine Rd_ite (fun _ => ?_) (fun z => absurd rfl z)
      unfold f_finalOf
      have e2 : nI (2 ^ L) - 2 = nI (2 ^ L - 2) := nI_sub (b := 2) (by omega)
      refine Rd_clR (R := fun r => r = nI (2 ^ L - 2)) (Rd_rdN rfl hc (by decide) y13 (Rd_rt e2)) (fun r hr => ?_)
      subst hr
      refine Rd_ite (fun z => ?_) (fun z => ?_)
      · rw [if_pos ((nI_eq (by omega) (by omega)).mp z)]
        exact Rd_rt rfl
      · rw [if_neg (fun y => z (by rw [y]))]
        refine Rd_clR (ok_roundOf v c L i hc L5 hs y13) (fun r hr => Rd_rt ?_)
        obtain ⟨k, rfl, k1, k2, k3⟩ := hr
        rw [((bas_st L (by omega) k (by omega) L3).2 i (by omega) hs).1 k2 k3]
    · obtain ⟨q, rfl⟩ : ∃ q, i = 2 ^ L - 1 + q := ⟨i - (2 ^ L - 1), by omega⟩
      rw [if_neg hs, Nat.add_sub_cancel_left, (stL_pow L (by omega) L3).1]
      refine Rd_clR (ok_isSecond1 v c L q hc L5 (by omega) y12 y13) (fun r hr => ?_)
      subst hr
      refine Rd_ite (fun z => absurd z (by decide)) (fun _ => ?_)
      refine Rd_clR (ok_halfStep v c L q hc L3 L5 y13 (by omega)).2 (fun r hr => Rd_rt ?_)
      rw [hr]
      show nI 10 + nI (q % (L - 2) + 1) = _
      rw [nI_add]

