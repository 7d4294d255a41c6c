/-! ===== the reference's pools, exactly; any drawn class ===== -/
theorem pr_lp (w : GS) (c s i sd : Nat) (hc : c < 4) (hs : s ≤ 5) (hp : Am w 13 c (nI s)) (K : Int32 → Int32 → Int32 → Int32 → Int32 → PG Int32) (R : Int32 → Prop) : ∀ (m k a n N : Nat), a + m = s → k < tri m → m < n → m ≤ N → Rd (K (nI c) (nI i) (nI sd) (nI (prP N s k a).1) (nI (prP N s k a).2)) w R → Rd (lp_pair_6 n (nI c) (nI i) (nI sd) (nI k) (nI a) K) w R := by
  intro m
  induction m with
  | zero =>
    intro k a n N _ hk _ _ _
    exact absurd hk (Nat.not_lt_zero k)
  | succ m ih =>
    intro k a n N ha hk hn hN hK
    cases n with
    | zero => omega
    | succ n =>
      cases N with
      | zero => omega
      | succ N =>
        have hpr : prP (N + 1) s k a = if s - a ≤ k then prP N s (k - (s - a)) (a + 1) else (k, a) := rfl
        rw [hpr] at hK
        unfold lp_pair_6
        have h1 := tri_s (m + 1) (by omega) (by omega)
        have h3 : tri (m + 1) < 2 ^ 31 := by
          have hh : ∀ m < 6, tri m < 2 ^ 31 := by decide +kernel
          exact hh (m + 1) (by omega)
        have e1 : nI s - nI a = nI (s - a) := nI_sub (by omega)
        refine Rd_rdN rfl hc (by decide) hp (Rd_ite (fun h => ?_) (fun h => ?_))
        · rw [e1] at h
          have h2 := (nI_ltI (by omega) (by omega)).mp h
          rw [if_neg (by omega)] at hK
          exact hK
        · rw [e1] at h
          have h2 : s - a ≤ k := Nat.not_lt.mp (fun z => h (nI_lt z (by omega)))
          rw [if_pos h2] at hK
          refine Rd_rdN rfl hc (by decide) hp (Rd_li (Rd_li ?_))
          rw [e1, nI_sub h2, nI_1]
          refine ih _ _ n N (by omega) ?_ (by omega) (by omega) hK
          have : m + 1 - 1 = m := by omega
          rw [this] at h1
          omega
theorem sv_pair (w : GS) (c s i sd : Nat) (hc : c < 4) (h2 : 2 ≤ s) (hs : s ≤ 5) (hp : Am w 13 c (nI s)) (hi : i < s * (s - 1) / 2) (hsd : sd < 2) : Rd (f_pair (nI c) (nI i) (nI sd)) w (fun r => r = nI (if sd = 0 then (prP 5 s i 1).1 else (prP 5 s i 1).1 + (prP 5 s i 1).2)) := by
  unfold f_pair
  rw [tri_fights s (by omega) h2] at hi
  refine pr_lp w c s i sd hc hs hp _ _ (s - 1) i 1 fuel 5 (by omega) hi (by unfold fuel; omega) (by omega) ?_
  refine Rd_ite (fun z => Rd_rt ?_) (fun z => Rd_rt ?_)
  · have e : sd = 0 := (nI_eq (a := sd) (b := 0) (by omega) (by decide)).mp z
    rw [if_pos e]
  · have e : ¬ sd = 0 := fun y => z (by rw [y]; rfl)
    rw [if_neg e, nI_add]
theorem prP_lt : ∀ s < 6, ∀ i < 10, i < s * (s - 1) / 2 → (prP 5 s i 1).1 + (prP 5 s i 1).2 < s := by decide +kernel
theorem R0.plP {B : Nat → Int32} {w : GS} {c s p : Nat} (h : R0 B w) (hP : Pol w c s) (hp : p < s) : Am w 14 (32 * c + p) (pl B c p) := by
  obtain ⟨hn, hc, h2, h5, hs, h12, h13, hwho, hres⟩ := hP
  obtain ⟨-, -, k12, k13⟩ := h.2.1 c hc
  have e6 : B (6 + 36 * c) = 1 := k12.inj h12
  have hne : ¬ B (6 + 36 * c) = 0 := by rw [e6]; decide
  obtain ⟨k13, k14⟩ := k13 hne
  have e7 : B (7 + 36 * c) = nI s := k13.inj h13
  unfold pl
  rw [if_pos (by omega)]
  exact k14 p (by omega) (by rw [e7]; exact nI_lt hp (by omega))
theorem sv_side_pool {B : Nat → Int32} {w : GS} {c s i sd d : Nat} (h : R0 B w) (a3 : Int32) (hP : Pol w c s) (hi : i < s * (s - 1) / 2) (hsd : sd < 2) : Rd (fS (d + 1) 0 (nI c) (nI i) (nI sd) a3) w (fun x => x = if sd = 0 then qA B c s i else qB B c s i) := by
  have hP2 := hP
  obtain ⟨hn, hc, h2, h5, hs, h12, h13, hwho, hres⟩ := hP2
  obtain ⟨o3, o4⟩ := off_end s (by omega) h2
  have hlt := prP_lt s (by omega) i (by omega) hi
  unfold fS
  rw [if_pos rfl]
  unfold bd_sideOf
  refine Rd_rdN rfl hc (by decide) h12 (Rd_ite (fun _ => ?_) (fun h => absurd rfl h))
  refine Rd_clR (sv_pair w c s i sd hc h2 h5 h13 hi hsd) (fun z hz => ?_)
  subst hz
  unfold qA qB
  by_cases h0 : sd = 0
  · rw [if_pos h0, if_pos h0]
    exact Rd_rdN (ix32 c _) (by omega) (by decide) (h.plP hP (by omega)) (Rd_rt rfl)
  · rw [if_neg h0, if_neg h0]
    exact Rd_rdN (ix32 c _) (by omega) (by decide) (h.plP hP (by omega)) (Rd_rt rfl)
theorem plPT {B : Nat → Int32} {w : GS} {c s p : Nat} (h : R0 B w) (hP : Pol w c s) (hp : p < s) : ∃ f, f < 96 ∧ pl B c p = nI f ∧ Plc w c f := by
  obtain ⟨f, q, hf⟩ := hP.2.2.2.2.2.2.2.1 p hp
  exact ⟨f, hf.lt hP.1, (h.plP hP hp).inj q, hf⟩
theorem sv_win_pool {B : Nat → Int32} {w : GS} {c s i d : Nat} (h : R0 B w) (a2 a3 : Int32) (hP : Pol w c s) (hi : i < s * (s - 1) / 2) : Rd (fS (d + 2) 3 (nI c) (nI i) a2 a3) w (fun x => x = wF B c i) := by
  have hP2 := hP
  obtain ⟨hn, hc, h2, h5, hs, h12, h13, hwho, hres⟩ := hP2
  obtain ⟨o3, o4⟩ := off_end s (by omega) h2
  have hlt := prP_lt s (by omega) i (by omega) hi
  have hnot2 : ¬ mkF B c i = 3 → Rd (pcl (fS (d + 1) 0 (nI c) (nI i) 0 0) (fun r_5 => pcl (fS (d + 1) 0 (nI c) (nI i) 1 0) (fun r_8 => (if r_5 = (-2) then prt r_8 else (if r_8 = (-2) then prt r_5 else prt (-1)))))) w (fun x => x = wF B c i) := fun hm => by
    refine Rd_clR (sv_side_pool (sd := 0) h 0 hP hi (by decide)) (fun a ha => Rd_clR (sv_side_pool (sd := 1) h 0 hP hi (by decide)) (fun b hb => ?_))
    rw [if_pos rfl] at ha
    rw [if_neg (by decide)] at hb
    have n0 : ¬ a = -2 := by
      rw [ha]
      exact ne_m2 (P := Plc w c) (Or.inr (plPT h hP (by omega)))
    have n1 : ¬ b = -2 := by
      rw [hb]
      exact ne_m2 (P := Plc w c) (Or.inr (plPT h hP (by omega)))
    have hv : wF B c i = -1 := by
      unfold wF
      rw [if_neg hm]
    rw [hv]
    exact Rd_ite (fun z => absurd z n0) (fun _ => Rd_ite (fun z => absurd z n1) (fun _ => Rd_rt rfl))
  unfold fS
  rw [if_neg (by decide), if_neg (by decide), if_neg (by decide)]
  unfold bd_winnerOf
  rw [ix40]
  rcases h.mk hc (i := i) (by omega) with ⟨a, e⟩ | ⟨a, e⟩ | ⟨a, e, b⟩
  · exact Rd_rdN rfl (by omega) (by decide) a (Rd_ite (fun z => absurd z (by decide)) (fun _ => hnot2 (by rw [e]; decide)))
  · exact Rd_rdN rfl (by omega) (by decide) a (Rd_ite (fun z => absurd z (by decide)) (fun _ => hnot2 (by rw [e]; decide)))
  · refine Rd_rdN rfl (by omega) (by decide) a (Rd_ite (fun _ => Rd_rdN rfl (by omega) (by decide) b (Rd_rt ?_)) (fun z => absurd rfl z))
    unfold wF
    rw [if_pos e]
/-! any class: one name for each row -/
def zN (B : Nat → Int32) (c : Nat) : Nat := (B (7 + 36 * c)).toNatClampNeg
def bWh (B : Nat → Int32) (c i : Nat) : Int32 := if B (6 + 36 * c) = 1 then qA B c (zN B c) i else q1 B c (zN B c) i
def bBl (B : Nat → Int32) (c i : Nat) : Int32 := if B (6 + 36 * c) = 1 then qB B c (zN B c) i else q2 B c (zN B c) i
def bWn (B : Nat → Int32) (c i : Nat) : Int32 := if B (6 + 36 * c) = 1 then wF B c i else q3 B c (zN B c) i
def bSt (B : Nat → Int32) (c i : Nat) : Int32 := if B (6 + 36 * c) = 1 then sF B c i (qA B c (zN B c) i) (qB B c (zN B c) i) else q4 B c (zN B c) i
/-- the sides as the reference has them -/
def vS (B : Nat → Int32) (c i sd : Nat) : Int32 := if B (6 + 36 * c) = 1 then (if sd = 0 then qA B c (zN B c) i else qB B c (zN B c) i) else if i < zN B c - 1 then SV B c (zN B c) i sd else if sd = 0 then LA B c (zN B c) ((i - (zN B c - 1)) / stL (zN B c)) ((i - (zN B c - 1)) % stL (zN B c) + 1) else LV B c (zN B c) ((i - (zN B c - 1)) / stL (zN B c)) ((i - (zN B c - 1)) % stL (zN B c) + 1)
/-- what the log leaves of a tree -/
def NT (B : Nat → Int32) (c : Nat) : Prop := B (6 + 36 * c) = 2 → NTm B c (zN B c) ∧ NTw B c (zN B c) ∧ NTp B c (zN B c) ∧ NTl B c (zN B c)
theorem R0.kz {B : Nat → Int32} {w : GS} {c : Nat} (h : R0 B w) (hc : c < 4) : (∀ s, Pol w c s → B (6 + 36 * c) = 1 ∧ B (7 + 36 * c) = nI s ∧ zN B c = s) ∧ (∀ L, Tre w c L → B (6 + 36 * c) = 2 ∧ B (7 + 36 * c) = nI (2 ^ L) ∧ zN B c = 2 ^ L) := by
  obtain ⟨-, -, k12, k13⟩ := h.2.1 c hc
  refine ⟨fun s hP => ?_, fun L hT => ?_⟩
  · obtain ⟨hn, -, h2, h5, hs, h12, h13, -⟩ := hP
    have e6 : B (6 + 36 * c) = 1 := k12.inj h12
    have e7 : B (7 + 36 * c) = nI s := (k13 (by rw [e6]; decide)).1.inj h13
    refine ⟨e6, e7, ?_⟩
    unfold zN
    rw [e7, nI_clamp (by omega)]
  · obtain ⟨hn, -, hL3, hL5, hs, h12, h13, -⟩ := hT
    have h32 := pow_lt32 hL5
    have e6 : B (6 + 36 * c) = 2 := k12.inj h12
    have e7 : B (7 + 36 * c) = nI (2 ^ L) := (k13 (by rw [e6]; decide)).1.inj h13
    refine ⟨e6, e7, ?_⟩
    unfold zN
    rw [e7, nI_clamp (by omega)]
/-- as NT, of the fights below K alone -/
def NTK (B : Nat → Int32) (c K : Nat) : Prop := B (6 + 36 * c) = 2 → ∀ L, 3 ≤ L → L ≤ 5 → zN B c = 2 ^ L → (∀ i, i < K → i < 2 ^ L - 1 → ¬ mkF B c i = 0 → ¬ tA B c (2 ^ L) i = -1 ∧ ¬ tB B c (2 ^ L) i = -1) ∧ (∀ i, i < K → i < 2 ^ L - 1 → mkF B c i = 3 → wnF B c i = tA B c (2 ^ L) i ∨ wnF B c i = tB B c (2 ^ L) i) ∧ NTp B c (2 ^ L) ∧ ∀ q, q < 2 * (L - 2) → 2 ^ L - 1 + q < K → ¬ mkF B c (2 ^ L - 1 + q) = 0 → ¬ lA B c (2 ^ L) (q / (L - 2)) (q % (L - 2) + 1) = -1 ∧ ¬ loL B c (2 ^ L) (q / (L - 2)) (q % (L - 2) + 1) = -1
theorem NT.k {B : Nat → Int32} {c : Nat} (h : NT B c) (K : Nat) : NTK B c K := fun h2 L h3 h5 ez => by
  obtain ⟨n1, n2, n3, n4⟩ := h h2
  rw [ez] at n1 n2 n3 n4
  exact ⟨fun i _ hi => n1 i hi, fun i _ hi => n2 i hi, n3, fun q hq _ => n4.at h3 h5 q hq⟩
theorem NTK.nt {B : Nat → Int32} {c L : Nat} (h : NTK B c 37) (h3 : 3 ≤ L) (h5 : L ≤ 5) (ez : zN B c = 2 ^ L) : NT B c := fun h2 => by
  obtain ⟨n1, n2, n3, n4⟩ := h h2 L h3 h5 ez
  have h32 := pow_lt32 h5
  have e9 := (siz_pow L (by omega) h3).st.2.2
  rw [(stL_pow L (by omega) h3).1] at e9
  rw [ez]
  exact ⟨fun i hi => n1 i (by omega) hi, fun i hi => n2 i (by omega) hi, n3, NTl.of h3 h5 (fun q hq => n4 q hq (by omega))⟩
theorem sv_anyK {B : Nat → Int32} {w : GS} {c n K i sd : Nat} (h : R0 B w) (hN : NTK B c K) (hD : Dr w c n) (hi : i < n) (hK : i ≤ K) (hsd : sd < 2) (a3 : Int32) : Rd (fS 24 0 (nI c) (nI i) (nI sd) a3) w (fun x => x = vS B c i sd) := by
  rcases hD with ⟨s, hP, rfl⟩ | ⟨L, hT, rfl⟩
  · obtain ⟨e6, e7, ez⟩ := (h.kz hP.2.1).1 s hP
    unfold vS
    rw [if_pos e6, ez]
    exact sv_side_pool (d := 23) h a3 hP hi hsd
  · obtain ⟨e6, e7, ez⟩ := (h.kz hT.2.1).2 L hT
    have hL3 := hT.2.2.1
    have hL5 := hT.2.2.2.1
    obtain ⟨n1, n2, n3, n4⟩ := hN e6 L hL3 hL5 ez
    have h32 := pow_lt32 hL5
    unfold vS
    rw [if_neg (by rw [e6]; decide), ez]
    by_cases h1 : i < 2 ^ L - 1
    · rw [if_pos h1]
      obtain ⟨r, hr, g1, g2⟩ := bas_ex L (by omega) i (by omega) h1
      exact (sv_mainK h hT n1 r hr).1 24 i sd a3 (by omega) g1 g2 hK hsd
    · rw [if_neg h1]
      obtain ⟨q, rfl⟩ : ∃ q, i = 2 ^ L - 1 + q := ⟨i - (2 ^ L - 1), by omega⟩
      have hq : q < 2 * (L - 2) := by omega
      have := Nat.mod_lt q (show 0 < L - 2 by omega)
      rw [Nat.add_sub_cancel_left, (stL_pow L (by omega) hL3).1]
      exact (sv_lifeK h hT (fun i hi => n1 i (by omega) hi) (fun i hi => n2 i (by omega) hi) n3 n4 (q % (L - 2))).1 24 q sd a3 hq rfl hK hsd (by omega)
theorem sv_any {B : Nat → Int32} {w : GS} {c n i sd : Nat} (h : R0 B w) (hN : NT B c) (hD : Dr w c n) (hi : i < n) (hsd : sd < 2) (a3 : Int32) : Rd (fS 24 0 (nI c) (nI i) (nI sd) a3) w (fun x => x = vS B c i sd) := sv_anyK h (hN.k i) hD hi (Nat.le_refl _) hsd a3
theorem wv_anyK {B : Nat → Int32} {w : GS} {c n K i : Nat} (h : R0 B w) (hN : NTK B c K) (hD : Dr w c n) (hi : i < n) (hK : i < K) (a2 a3 : Int32) : Rd (fS 24 3 (nI c) (nI i) a2 a3) w (fun x => x = bWn B c i) := by
  rcases hD with ⟨s, hP, rfl⟩ | ⟨L, hT, rfl⟩
  · obtain ⟨e6, e7, ez⟩ := (h.kz hP.2.1).1 s hP
    unfold bWn
    rw [if_pos e6]
    exact sv_win_pool (d := 22) h a2 a3 hP hi
  · obtain ⟨e6, e7, ez⟩ := (h.kz hT.2.1).2 L hT
    have hL3 := hT.2.2.1
    have hL5 := hT.2.2.2.1
    obtain ⟨n1, n2, n3, n4⟩ := hN e6 L hL3 hL5 ez
    have h32 := pow_lt32 hL5
    unfold bWn q3
    rw [if_neg (by rw [e6]; decide), ez]
    by_cases h1 : i < 2 ^ L - 1
    · rw [if_pos h1]
      obtain ⟨r, hr, g1, g2⟩ := bas_ex L (by omega) i (by omega) h1
      exact (sv_mainK h hT n1 r hr).2 24 i a2 a3 (by omega) g1 g2 hK
    · rw [if_neg h1]
      obtain ⟨q, rfl⟩ : ∃ q, i = 2 ^ L - 1 + q := ⟨i - (2 ^ L - 1), by omega⟩
      have hq : q < 2 * (L - 2) := by omega
      have := Nat.mod_lt q (show 0 < L - 2 by omega)
      rw [Nat.add_sub_cancel_left, (stL_pow L (by omega) hL3).1]
      exact (sv_lifeK h hT (fun i hi => n1 i (by omega) hi) (fun i hi => n2 i (by omega) hi) n3 n4 (q % (L - 2))).2 24 q a2 a3 hq rfl hK (by omega)
theorem wv_any {B : Nat → Int32} {w : GS} {c n i : Nat} (h : R0 B w) (hN : NT B c) (hD : Dr w c n) (hi : i < n) (a2 a3 : Int32) : Rd (fS 24 3 (nI c) (nI i) a2 a3) w (fun x => x = bWn B c i) := wv_anyK h (hN.k (i + 1)) hD hi (Nat.lt_succ_self _) a2 a3

