/-! ===== the plan, the class's side: what is open; the day ===== -/
/-- the fight on a mat -/
def pdM (B : Nat → Int32) (m : Nat) : Option Nat := if B (mc0 m + 1) = -1 then none else some (40 * (B (mc0 m)).toNatClampNeg + (B (mc0 m + 1)).toNatClampNeg)
def pdB (B : Nat → Int32) (x : Nat) : Int32 := B (fc (x / 40) (x % 40) + 7)
def Pmt (B : Nat → Int32) : Prop := (∀ m, m < 4 → ∀ x, pdM B m = some x → pdF B x ∧ pdS B x = 2 ∧ pdB B x = nI m ∧ B (mc0 m) = nI (x / 40) ∧ B (mc0 m + 1) = nI (x % 40)) ∧ ∀ x, pdF B x → pdS B x = 2 → ∃ m, m < 4 ∧ pdM B m = some x
def pz0 (B : Nat → Int32) (f : Nat) : Nat := if B (154 + 7 * f) = -1 then 0 else (B (154 + 7 * f)).toNatClampNeg + pdR B
/-- when a fighter is free, where the fights O are put now -/
noncomputable def pfO (B : Nat → Int32) (d : Nat) (O : Nat → Bool) (f : Nat) : Nat := @ite Nat (∃ x, x < 160 ∧ O x = true ∧ (pdW B x 0 = nI f ∨ pdW B x 1 = nI f)) (Classical.propDecidable _) (max (pz0 B f) (pdT B + d + pdR B)) (pz0 B f)
noncomputable def pfL (B : Nat → Int32) (d : Nat) (O : Nat → Bool) : Nat := @ite Nat (∃ x, x < 160 ∧ O x = true) (Classical.propDecidable _) (pdT B + d) (pdT B)
/-- what is planned where the fights O are put on the mats M now -/
noncomputable def pkl (B : Nat → Int32) (d : Nat) (O M : Nat → Bool) : PlS := ([], fun x => if O x = true then some (pdT B + d) else none, fun f => pfO B d O f, fun m => if M m = true then pdT B + d else pdT B, pfL B d O, fun x => if O x = true then pdB B x else -1, fun x => if O x = true then nI (pdT B) else -1)
theorem pfO_no {B : Nat → Int32} {d f : Nat} {O : Nat → Bool} (h : ∀ x, ¬ O x = true) : pfO B d O f = pz0 B f := if_neg (fun ⟨x, _, z, _⟩ => h x z)
theorem pfL_no {B : Nat → Int32} {d : Nat} {O : Nat → Bool} (h : ∀ x, ¬ O x = true) : pfL B d O = pdT B := if_neg (fun ⟨x, _, z⟩ => h x z)
theorem pfO_b {B : Nat → Int32} {d f N : Nat} {O : Nat → Bool} (h : pz0 B f ≤ N) (h2 : pdT B + d + pdR B ≤ N) : pfO B d O f ≤ N := by
  unfold pfO
  split
  · exact Nat.max_le.mpr ⟨h, h2⟩
  · exact h
theorem pfL_b {B : Nat → Int32} {d N : Nat} {O : Nat → Bool} (h2 : pdT B + d ≤ N) : pfL B d O ≤ N := by
  unfold pfL
  split <;> omega
theorem pfO_put {B : Nat → Int32} {d f x : Nat} {O O2 : Nat → Bool} (h160 : x < 160) (hO : ∀ y, O2 y = true ↔ (O y = true ∨ y = x)) : (if pdW B x 1 = nI f then max (if pdW B x 0 = nI f then max (pfO B d O f) (pdT B + d + pdR B) else pfO B d O f) (pdT B + d + pdR B) else (if pdW B x 0 = nI f then max (pfO B d O f) (pdT B + d + pdR B) else pfO B d O f)) = pfO B d O2 f := by
  by_cases h1 : ∃ x, x < 160 ∧ O x = true ∧ (pdW B x 0 = nI f ∨ pdW B x 1 = nI f)
  · have h2 : ∃ x, x < 160 ∧ O2 x = true ∧ (pdW B x 0 = nI f ∨ pdW B x 1 = nI f) := by
      obtain ⟨y, a, b, e⟩ := h1
      exact ⟨y, a, (hO y).mpr (Or.inl b), e⟩
    have e1 : pfO B d O f = max (pz0 B f) (pdT B + d + pdR B) := if_pos h1
    have e2 : pfO B d O2 f = max (pz0 B f) (pdT B + d + pdR B) := if_pos h2
    rw [e1, e2]
    have em : max (max (pz0 B f) (pdT B + d + pdR B)) (pdT B + d + pdR B) = max (pz0 B f) (pdT B + d + pdR B) := Nat.max_eq_left (Nat.le_max_right _ _)
    split
    · split
      · rw [em, em]
      · rw [em]
    · split
      · rw [em]
      · rfl
  · have e1 : pfO B d O f = pz0 B f := if_neg h1
    rw [e1]
    by_cases h3 : pdW B x 0 = nI f ∨ pdW B x 1 = nI f
    · have e2 : pfO B d O2 f = max (pz0 B f) (pdT B + d + pdR B) := if_pos ⟨x, h160, (hO x).mpr (Or.inr rfl), h3⟩
      rw [e2]
      have em : max (max (pz0 B f) (pdT B + d + pdR B)) (pdT B + d + pdR B) = max (pz0 B f) (pdT B + d + pdR B) := Nat.max_eq_left (Nat.le_max_right _ _)
      rcases h3 with h3 | h3
      · rw [if_pos h3]
        split
        · rw [em]
        · rfl
      · rw [if_pos h3]
        split
        · rw [em]
        · rfl
    · have h2 : ¬ ∃ x, x < 160 ∧ O2 x = true ∧ (pdW B x 0 = nI f ∨ pdW B x 1 = nI f) := fun ⟨y, a, b, e⟩ => by
        rcases (hO y).mp b with z | z
        · exact h1 ⟨y, a, z, e⟩
        · rw [z] at e
          exact h3 e
      have e2 : pfO B d O2 f = pz0 B f := if_neg h2
      rw [e2, if_neg (fun z => h3 (Or.inr z)), if_neg (fun z => h3 (Or.inl z))]
theorem pfL_put {B : Nat → Int32} {d x : Nat} {O O2 : Nat → Bool} (h160 : x < 160) (hO : ∀ y, O2 y = true ↔ (O y = true ∨ y = x)) : max (pfL B d O) (pdT B + d) = pfL B d O2 := by
  have e2 : pfL B d O2 = pdT B + d := if_pos ⟨x, h160, (hO x).mpr (Or.inr rfl)⟩
  rw [e2]
  exact Nat.max_eq_right (pfL_b (Nat.le_refl _))
def pdO (B : Nat → Int32) (x : Nat) : Bool := decide (pdF B x ∧ pdS B x = 2)
def pdMs (B : Nat → Int32) (m : Nat) : Bool := (pdM B m).isSome
/-- the planner's start -/
noncomputable def pS (B : Nat → Int32) (d : Nat) : PlS := pkl B d (pdO B) (pdMs B)
noncomputable def pini (B : Nat → Int32) (d : Nat) (l : List Nat) : PlS := (l, (pS B d).2)
theorem pz0_b {B : Nat → Int32} {F : Nat} (hB : PdK B F) {f : Nat} (hf : f < F) : pz0 B f ≤ 1560 ∧ (B (154 + 7 * f) = -1 ∨ ∃ t, t ≤ 1440 ∧ B (154 + 7 * f) = nI t ∧ pz0 B f = t + pdR B) := by
  have hR := hB.2.2.2.2.2.2.2.1
  unfold pz0
  rcases hB.2.2.2.2.2.2.2.2.2.2.2.1 f hf with z | ⟨t, ht, z⟩
  · rw [if_pos z]
    exact ⟨by omega, Or.inl z⟩
  · rw [if_neg (by rw [z]; exact nI_ne_1 (by omega)), z, nI_clamp (by omega)]
    exact ⟨by omega, Or.inr ⟨t, ht, rfl, rfl⟩⟩
theorem pini_PI {B : Nat → Int32} {F d : Nat} {l : List Nat} (hl : l = plO B 3360) (hB : PdK B F) (hd : d ≤ 60) : PlI B d F 1620 (pini B d l) := by
  have hR := hB.2.2.2.2.2.2.2.1
  have hT := hB.2.2.2.2.2.2.1
  have he : ∀ x e, (pini B d l).2.1 x = some e → pdO B x = true ∧ e = pdT B + d := fun x e h => by
    have h2 : (if pdO B x = true then some (pdT B + d) else none) = some e := h
    split at h2
    · next z => exact ⟨z, (Option.some.inj h2).symm⟩
    · exact absurd h2 (by simp)
  refine ⟨?_, fun x hx => ?_, fun x hx hn => ?_, fun f hf => ?_, fun x e h => ?_, fun k hk => ?_, ?_, fun x e h => ?_⟩
  · show l.Pairwise _
    rw [hl]
    exact plO_srt hB 3360
  · have hx2 : x ∈ plO B 3360 := by
      rw [← hl]
      exact hx
    obtain ⟨a, b, -⟩ := (plO_mem hB 3360 x).mp hx2
    have hno : ¬ pdO B x = true := fun z => by
      have y := (of_decide_eq_true z).2
      unfold pdH at b
      rw [y] at b
      revert b
      decide
    exact ⟨a, b, if_neg hno⟩
  · rcases hB.2.2.2.2.2.2.2.2.2.2.2.2 x hx with z | z | z
    · refine absurd (show x ∈ l from by
        rw [hl]
        refine (plO_mem hB 3360 x).mpr ⟨hx, z, ?_⟩
        have h1 := hB.2.2.2.2.1 x hx
        have h2 := (hx.lt hB).2.2.1
        unfold pky
        omega) hn
    · refine Or.inr ⟨pdT B + d, ?_⟩
      have hO : pdO B x = true := decide_eq_true ⟨hx, z⟩
      exact if_pos hO
    · exact Or.inl z
  · have hz := (pz0_b hB hf).1
    exact pfO_b (O := pdO B) (by omega) (by omega)
  · obtain ⟨-, rfl⟩ := he x e h
    omega
  · show (if pdMs B k = true then pdT B + d else pdT B) ≤ 1620
    split <;> omega
  · exact pfL_b (O := pdO B) (by omega)
  · obtain ⟨h1, rfl⟩ := he x e h
    refine ⟨pdT B, ?_, rfl⟩
    show (if pdO B x = true then nI (pdT B) else -1) = _
    rw [if_pos h1]
theorem phd_v {g : Nat → Nat} {a : Int32} {E F f : Nat} (hF : F ≤ 96) (ha : a = -1 ∨ ∃ f, f < F ∧ a = nI f) (hf : f < F) : phd g a E f = if a = nI f then max (g f) E else g f := by
  by_cases h : a = nI f
  · rw [if_pos h]
    unfold phd
    rw [h, if_neg (nI_ne_1 (by omega)), nI_clamp (by omega), upN_e]
  · rw [if_neg h, phd_o hF ha h]
/-- one more is put -/
theorem pkl_put {B : Nat → Int32} {F d x m : Nat} {O M O2 M2 : Nat → Bool} (hB : PdK B F) (hx : pdF B x) (hm : pdB B x = nI m) (hO : ∀ y, O2 y = true ↔ (O y = true ∨ y = x)) (hM : ∀ k, M2 k = true ↔ (M k = true ∨ k = m)) : (∀ y, (pputA B d (pkl B d O M) x m (pdT B)).2.1 y = (pkl B d O2 M2).2.1 y) ∧ (∀ f, f < F → (pputA B d (pkl B d O M) x m (pdT B)).2.2.1 f = (pkl B d O2 M2).2.2.1 f) ∧ (∀ k, (pputA B d (pkl B d O M) x m (pdT B)).2.2.2.1 k = (pkl B d O2 M2).2.2.2.1 k) ∧ (pputA B d (pkl B d O M) x m (pdT B)).2.2.2.2.1 = (pkl B d O2 M2).2.2.2.2.1 ∧ ∀ y, (pputA B d (pkl B d O M) x m (pdT B)).2.2.2.2.2.1 y = (pkl B d O2 M2).2.2.2.2.2.1 y ∧ (pputA B d (pkl B d O M) x m (pdT B)).2.2.2.2.2.2 y = (pkl B d O2 M2).2.2.2.2.2.2 y := by
  have hF := hB.2.2.2.2.2.1
  have h160 := (hx.lt hB).2.2.1
  have co : ∀ {α : Type} (a b : α) (y : Nat), ¬ y = x → (if O2 y = true then a else b) = (if O y = true then a else b) := fun a b y hy => by
    by_cases h : O y = true
    · rw [if_pos h, if_pos ((hO y).mpr (Or.inl h))]
    · rw [if_neg h, if_neg (fun z => ((hO y).mp z).elim h hy)]
  have cx : ∀ {α : Type} (a b : α), (if O2 x = true then a else b) = a := fun a b => if_pos ((hO x).mpr (Or.inr rfl))
  refine ⟨fun y => ?_, fun f hf => ?_, fun k => ?_, ?_, fun y => ⟨?_, ?_⟩⟩
  · show upN (fun y => if O y = true then some (pdT B + d) else none) x (some (pdT B + d)) y = (if O2 y = true then some (pdT B + d) else none)
    by_cases h : y = x
    · rw [h, upN_e, cx]
    · rw [upN_n h, co _ _ y h]
  · show phd (phd (pkl B d O M).2.2.1 (pdW B x 0) (pdT B + d + pdR B)) (pdW B x 1) (pdT B + d + pdR B) f = _
    rw [phd_v hF (hB.2.1 x 1 hx (by decide)) hf, phd_v hF (hB.2.1 x 0 hx (by decide)) hf]
    exact pfO_put h160 hO
  · show upN (fun k => if M k = true then pdT B + d else pdT B) m (pdT B + d) k = (if M2 k = true then pdT B + d else pdT B)
    by_cases h : k = m
    · rw [h, upN_e, if_pos ((hM m).mpr (Or.inr rfl))]
    · rw [upN_n h]
      by_cases h2 : M k = true
      · rw [if_pos h2, if_pos ((hM k).mpr (Or.inl h2))]
      · rw [if_neg h2, if_neg (fun z => ((hM k).mp z).elim h2 h)]
  · exact pfL_put h160 hO
  · show upN (fun y => if O y = true then pdB B y else -1) x (nI m) y = (if O2 y = true then pdB B y else -1)
    by_cases h : y = x
    · rw [h, upN_e, cx, hm]
    · rw [upN_n h, co _ _ y h]
  · show upN (fun y => if O y = true then nI (pdT B) else -1) x (nI (pdT B)) y = (if O2 y = true then nI (pdT B) else -1)
    by_cases h : y = x
    · rw [h, upN_e, cx]
    · rw [upN_n h, co _ _ y h]
theorem CRA.eq {B : Nat → Int32} {F aM aB : Nat} {s s2 : PlS} {u : MS} (h : CRA B F aM aB s u) (e1 : ∀ y, s.2.1 y = s2.2.1 y) (e2 : ∀ f, f < F → s.2.2.1 f = s2.2.2.1 f) (e3 : ∀ k, k < 4 → s.2.2.2.1 k = s2.2.2.2.1 k) (e4 : s.2.2.2.2.1 = s2.2.2.2.2.1) (e5 : ∀ y, s.2.2.2.2.2.1 y = s2.2.2.2.2.2.1 y ∧ s.2.2.2.2.2.2 y = s2.2.2.2.2.2.2 y) : CRA B F aM aB s2 u := by
  obtain ⟨a, b, c, d, e⟩ := h
  refine ⟨fun x hx => by rw [← e1]; exact a x hx, fun k hk => by rw [← e3 k hk]; exact b k hk, fun f hf => by rw [← e2 f hf]; exact c f hf, by rw [← e4]; exact d, fun c i hc hi => ?_⟩
  rw [← (e5 _).1, ← (e5 _).2]
  exact e c i hc hi
theorem pkl_eq {B : Nat → Int32} {d : Nat} {O M O2 M2 : Nat → Bool} (hO : ∀ y, O2 y = O y) (hM : ∀ k, M2 k = M k) : pkl B d O2 M2 = pkl B d O M := by
  have e1 : O2 = O := funext hO
  have e2 : M2 = M := funext hM
  rw [e1, e2]
theorem fl_v {n j : Nat} {x : Int32} {f : Nat → Int32} (h : j < n) : fl n x f j = x := if_pos h
theorem c_clear {B : Nat → Int32} {F d aM aB : Nat} {u : MS} (hB : PdK B F) (hC : CB B d aM aB u) : CN x_X6_clear u (fun _ v => CRA B F aM aB (pkl B d (fun _ => false) (fun _ => false)) v) := by
  have hF := hB.2.2.2.2.2.1
  have e0 := hB.2.2.2.2.2.2.2.2.1
  have e1 := hB.2.2.2.2.2.2.2.2.2.1
  have e2 := hB.2.2.2.2.2.2.2.2.2.2.1
  have hMx := hC.ix
  have n5 : ¬ aM = aB := by omega
  have lp : ∀ (t f n : Nat) (v : MS), f + t = F → t < n → v.2 0 = B → (∀ g, g < f → v.2 24 g = nI (pz0 B g)) → (∀ x, pdF B x → v.2 22 (pds x) = -1) → (∀ k, k < 4 → v.2 23 k = nI (pdT B)) → v.1 19 = nI (pdT B) → (∀ c i, c < 4 → i < 37 → v.2 aM (37 * c + i) = -1 ∧ v.2 aB (37 * c + i) = -1) → CN (xl_X6_clear_49 n (nI f) (fun _ => nrt 0)) v (fun _ v => CRA B F aM aB (pkl B d (fun _ => false) (fun _ => false)) v) := by
    intro t
    induction t with
    | zero =>
      intro f n v h1 h2 h0 ha hb hc hd he
      cases n with
      | zero => omega
      | succ n =>
        unfold xl_X6_clear_49
        refine CN_GT ?_
        rw [h0, rdk2 B, e2]
        refine CN_ite (fun _ => CN_rt ⟨hb, hc, fun g hg => ?_, ?_, he⟩) (fun z => absurd (nI_le (by omega) (by omega)) z)
        · show v.2 24 g = nI (pfO B d (fun _ => false) g)
          rw [pfO_no (fun _ => by decide)]
          exact ha g (by omega)
        · show v.1 19 = nI (pfL B d (fun _ => false))
          rw [pfL_no (fun _ => by decide)]
          exact hd
    | succ t ih =>
      intro f n v h1 h2 h0 ha hb hc hd he
      cases n with
      | zero => omega
      | succ n =>
        have nxt : ∀ z, z = nI (pz0 B f) → CN (nli (nI f + 1) (fun x_64 => xl_X6_clear_49 n x_64 (fun _ => nrt 0))) (sf v 24 (rs (v.2 24) 96 (nI f) z)) (fun _ v => CRA B F aM aB (pkl B d (fun _ => false) (fun _ => false)) v) := fun z hz => by
          refine CN_li ?_
          rw [nI_1, wrN _ (by omega) (by decide)]
          refine ih (f + 1) n _ (by omega) (by omega) (by rw [sfN (by decide)]; exact h0) (fun g hg => ?_) (by rw [sfN (by decide)]; exact hb) (by rw [sfN (by decide)]; exact hc) hd (by rw [sfN (by omega), sfN (by omega)]; exact he)
          rw [sfE]
          by_cases hgf : g = f
          · rw [hgf, upd_e, hz]
          · rw [upd_n hgf]
            exact ha g (by omega)
        obtain ⟨hz, hz2⟩ := pz0_b hB (f := f) (by omega)
        unfold xl_X6_clear_49
        refine CN_GT ?_
        rw [h0, rdk2 B, e2]
        refine CN_ite (fun z => absurd z (nI_ge (by omega) (by omega))) (fun _ => ?_)
        rw [e_ofFighter f 6 (show (6 : Int32) = nI 6 from rfl), ncl_rt]
        have e6 : 148 + 7 * f + 6 = 154 + 7 * f := by omega
        rw [e6]
        refine CN_GT ?_
        rw [h0, rdB B (by omega)]
        rcases hz2 with z | ⟨w, hw, z, hp⟩
        · rw [z, if_pos rfl]
          refine CN_ST (nxt 0 ?_)
          unfold pz0
          rw [if_pos z]
          rfl
        · rw [z, if_neg (nI_ne_1 (by omega))]
          refine CN_GT ?_
          rw [h0, rdk1 B, e1, nI_add]
          exact CN_ST (nxt _ (by rw [hp]))
  unfold x_X6_clear
  refine CN_RF (CN_FS ?_)
  rw [hC.2.2.1]
  refine CN_RF (CN_FS ?_)
  have b4 : sl ((sf u aM (fl 148 (-1) (u.2 aM))).1 64) 28 29 = aB := hC.2.2.2.1
  rw [b4]
  refine CN_FL (CN_GT ?_)
  have s1 : Same [] [22, 26, 27, 28, 29] u (sf (sf (sf u aM (fl 148 (-1) (u.2 aM))) aB (fl 148 (-1) ((sf u aM (fl 148 (-1) (u.2 aM))).2 aB))) 22 (fl 148 (-1) ((sf (sf u aM (fl 148 (-1) (u.2 aM))) aB (fl 148 (-1) ((sf u aM (fl 148 (-1) (u.2 aM))).2 aB))).2 22))) := ((Same_sf (by rcases hMx.1 with rfl | rfl <;> decide)).trans (Same_sf (by rcases hMx.2 with rfl | rfl <;> decide))).trans (Same_sf (by decide))
  have v1 : ∀ j, j < 148 → (sf (sf (sf u aM (fl 148 (-1) (u.2 aM))) aB (fl 148 (-1) ((sf u aM (fl 148 (-1) (u.2 aM))).2 aB))) 22 (fl 148 (-1) ((sf (sf u aM (fl 148 (-1) (u.2 aM))) aB (fl 148 (-1) ((sf u aM (fl 148 (-1) (u.2 aM))).2 aB))).2 22))).2 22 j = -1 ∧ (sf (sf (sf u aM (fl 148 (-1) (u.2 aM))) aB (fl 148 (-1) ((sf u aM (fl 148 (-1) (u.2 aM))).2 aB))) 22 (fl 148 (-1) ((sf (sf u aM (fl 148 (-1) (u.2 aM))) aB (fl 148 (-1) ((sf u aM (fl 148 (-1) (u.2 aM))).2 aB))).2 22))).2 aM j = -1 ∧ (sf (sf (sf u aM (fl 148 (-1) (u.2 aM))) aB (fl 148 (-1) ((sf u aM (fl 148 (-1) (u.2 aM))).2 aB))) 22 (fl 148 (-1) ((sf (sf u aM (fl 148 (-1) (u.2 aM))) aB (fl 148 (-1) ((sf u aM (fl 148 (-1) (u.2 aM))).2 aB))).2 22))).2 aB j = -1 := fun j hj => by
    refine ⟨?_, ?_, ?_⟩
    · rw [sfE]
      exact fl_v hj
    · rw [sfN (by omega), sfN n5, sfE]
      exact fl_v hj
    · rw [sfN (by omega), sfE]
      exact fl_v hj
  generalize sf (sf (sf u aM (fl 148 (-1) (u.2 aM))) aB (fl 148 (-1) ((sf u aM (fl 148 (-1) (u.2 aM))).2 aB))) 22 (fl 148 (-1) ((sf (sf u aM (fl 148 (-1) (u.2 aM))) aB (fl 148 (-1) ((sf u aM (fl 148 (-1) (u.2 aM))).2 aB))).2 22)) = w at s1 v1 ⊢
  have hw0 : w.2 0 = B := (s1.2 0 (by decide)).trans hC.1
  rw [hw0, rdk0 B, e0]
  refine CN_WF (CN_RF (CN_FL ?_))
  show CN _ (sf (si w 19 (nI (pdT B))) 23 (fl 4 (nI (pdT B)) (w.2 23))) _
  refine lp F 0 fuel _ (by omega) (by unfold fuel; omega) (by rw [sfN (by decide)]; exact hw0) (fun g hg => absurd hg (Nat.not_lt_zero _)) (fun x hx => ?_) (fun k hk => ?_) rfl (fun c i hc hi => ?_)
  · rw [sfN (by decide)]
    exact (v1 _ (hx.lt hB).2.2.2).1
  · rw [sfE]
    exact fl_v hk
  · rw [sfN (by omega), sfN (by omega)]
    exact (v1 (37 * c + i) (by omega)).2
theorem pkl_b {B : Nat → Int32} {F d : Nat} {O M : Nat → Bool} (hB : PdK B F) (hd : d ≤ 60) : (∀ f, f < F → (pkl B d O M).2.2.1 f < 1000000) ∧ (pkl B d O M).2.2.2.2.1 < 1000000 := by
  have hR := hB.2.2.2.2.2.2.2.1
  have hT := hB.2.2.2.2.2.2.1
  refine ⟨fun f hf => ?_, ?_⟩
  · have hz := (pz0_b hB hf).1
    exact Nat.lt_of_le_of_lt (pfO_b (N := 2000) (by omega) (by omega)) (by decide)
  · exact Nat.lt_of_le_of_lt (pfL_b (N := 2000) (by omega)) (by decide)
theorem c_open {B : Nat → Int32} {F d aM aB : Nat} {u : MS} (hB : PdK B F) (hm : Pmt B) (hd : d ≤ 60) (hC : CB B d aM aB u) (hA : CRA B F aM aB (pkl B d (fun _ => false) (fun _ => false)) u) : CN x_X6_putOpenOnes u (fun _ v => CRA B F aM aB (pkl B d (pdO B) (pdMs B)) v) := by
  have e0 := hB.2.2.2.2.2.2.2.2.1
  have hT := hB.2.2.2.2.2.2.1
  have hR := hB.2.2.2.2.2.2.2.1
  have lp : ∀ (t j n : Nat) (v : MS), j + t = 4 → t < n → CB B d aM aB v → CRA B F aM aB (pkl B d (fun x => decide (∃ m, m < j ∧ pdM B m = some x)) (fun m => decide (m < j) && pdMs B m)) v → CN (xl_X6_putOpenOnes_2 n (nI j) (fun _ => nrt 0)) v (fun _ v => CRA B F aM aB (pkl B d (pdO B) (pdMs B)) v) := by
    intro t
    induction t with
    | zero =>
      intro j n v h1 h2 hCv hAv
      cases n with
      | zero => omega
      | succ n =>
        have e4 : j = 4 := by omega
        have eO : (fun x => decide (∃ m, m < j ∧ pdM B m = some x)) = pdO B := funext (fun x => by
          unfold pdO
          refine decide_eq_decide.mpr ⟨fun w => ?_, fun w => ?_⟩
          · obtain ⟨m, h1, h2⟩ := w
            obtain ⟨a, b, -⟩ := hm.1 m (by omega) x h2
            exact ⟨a, b⟩
          · obtain ⟨m, h1, h2⟩ := hm.2 x w.1 w.2
            exact ⟨m, by omega, h2⟩)
        rw [eO] at hAv
        unfold xl_X6_putOpenOnes_2
        refine CN_ite (fun _ => CN_rt ?_) (fun z => absurd (show (4 : Int32) ≤ nI j from nI_le (a := 4) (by omega) (by omega)) z)
        refine hAv.eq (fun _ => rfl) (fun _ _ => rfl) (fun k hk => ?_) rfl (fun _ => ⟨rfl, rfl⟩)
        show (if (decide (k < j) && pdMs B k) = true then pdT B + d else pdT B) = (if pdMs B k = true then pdT B + d else pdT B)
        rw [decide_eq_true (show k < j by omega), Bool.true_and]
    | succ t ih =>
      intro j n v h1 h2 hCv hAv
      cases n with
      | zero => omega
      | succ n =>
        have rd : ∀ k, k < 20 → rg (v.2 0) 2088 (nI (mc0 j + k)) = B (mc0 j + k) := fun k hk => by
          rw [hCv.1, rdB B (by unfold mc0; omega)]
        unfold xl_X6_putOpenOnes_2
        refine CN_ite (fun z => absurd z (show ¬ (4 : Int32) ≤ nI j from nI_ge (b := 4) (by omega) (by decide))) (fun _ => ?_)
        rw [e_ofMat j 1 (show (1 : Int32) = nI 1 from rfl), ncl_rt]
        refine CN_GT ?_
        rw [rd 1 (by decide)]
        refine CN_ite (fun z => CN_li ?_) (fun z => ?_)
        · have en : pdM B j = none := by
            unfold pdM
            rw [if_pos z]
          rw [nI_1]
          refine ih (j + 1) n v (by omega) (by omega) hCv ?_
          have q1 : ∀ y, decide (∃ m, m < j + 1 ∧ pdM B m = some y) = decide (∃ m, m < j ∧ pdM B m = some y) := fun y => decide_eq_decide.mpr ⟨fun w => by
            obtain ⟨m, a, b⟩ := w
            by_cases he : m = j
            · rw [he, en] at b
              exact absurd b (by simp)
            · exact ⟨m, by omega, b⟩, fun w => by
            obtain ⟨m, a, b⟩ := w
            exact ⟨m, by omega, b⟩⟩
          have q2 : ∀ k, (decide (k < j + 1) && pdMs B k) = (decide (k < j) && pdMs B k) := fun k => by
            by_cases he : k = j
            · have : pdMs B j = false := by
                unfold pdMs
                rw [en]
                rfl
              rw [he, this, Bool.and_false, Bool.and_false]
            · have e9 : decide (k < j + 1) = decide (k < j) := decide_eq_decide.mpr (by omega)
              rw [e9]
          rw [pkl_eq (O := fun x => decide (∃ m, m < j ∧ pdM B m = some x)) (M := fun m => decide (m < j) && pdMs B m) q1 q2]
          exact hAv
        · have es : ∃ x, pdM B j = some x := by
            unfold pdM
            rw [if_neg z]
            exact ⟨_, rfl⟩
          obtain ⟨x, es⟩ := es
          obtain ⟨xF, -, xm, x1, x2⟩ := hm.1 j (by omega) x es
          have xl := xF.lt hB
          have ex : 40 * (x / 40) + x % 40 = x := by omega
          rw [e_ofMat j 0 (show (0 : Int32) = nI 0 from rfl), ncl_rt]
          refine CN_GT ?_
          have rd0 := rd 0 (by decide)
          rw [rd0, x2, show mc0 j + 0 = mc0 j from rfl, x1]
          refine CN_GT ?_
          rw [hCv.1, rdk0 B, e0]
          obtain ⟨pb1, pb2⟩ := pkl_b (O := fun x => decide (∃ m, m < j ∧ pdM B m = some x)) (M := fun m => decide (m < j) && pdMs B m) hB hd
          refine CN_app (CN.same (tt_x_X6_put _ _ _ _) (c_put (d := d) (aM := aM) (aB := aB) (F := F) (T := pdT B) hB hd (by rw [ex]; exact xF) (by omega) (by omega) (by omega) pb1 pb2 hCv hAv)) (fun _ v1 h3 => CN_li ?_)
          obtain ⟨s1, hA1⟩ := h3
          rw [ex] at hA1
          rw [nI_1]
          obtain ⟨q1, q2, q3, q4, q5⟩ := pkl_put (F := F) (d := d) (O := fun x => decide (∃ m, m < j ∧ pdM B m = some x)) (M := fun m => decide (m < j) && pdMs B m) (O2 := fun x => decide (∃ m, m < j + 1 ∧ pdM B m = some x)) (M2 := fun m => decide (m < j + 1) && pdMs B m) hB xF xm (fun y => by
            rw [decide_eq_true_iff, decide_eq_true_iff]
            refine ⟨fun ⟨m, a, b⟩ => ?_, fun h => ?_⟩
            · by_cases he : m = j
              · rw [he, es] at b
                exact Or.inr (Option.some.inj b).symm
              · exact Or.inl ⟨m, by omega, b⟩
            · rcases h with ⟨m, a, b⟩ | h
              · exact ⟨m, by omega, b⟩
              · exact ⟨j, by omega, by rw [h]; exact es⟩) (fun k => by
            have hj : pdMs B j = true := by
              unfold pdMs
              rw [es]
              rfl
            rw [Bool.and_eq_true, Bool.and_eq_true, decide_eq_true_iff, decide_eq_true_iff]
            refine ⟨fun ⟨a, b⟩ => ?_, fun h => ?_⟩
            · by_cases he : k = j
              · exact Or.inr he
              · exact Or.inl ⟨by omega, b⟩
            · rcases h with ⟨a, b⟩ | h
              · exact ⟨by omega, b⟩
              · exact ⟨by omega, by rw [h]; exact hj⟩)
          exact ih (j + 1) n v1 (by omega) (by omega) (hCv.same s1 (by decide) (by decide)) (hA1.eq q1 q2 (fun k _ => q3 k) q4 q5)
  unfold x_X6_putOpenOnes
  exact lp 4 0 fuel u (by omega) (by unfold fuel; omega) hC (by
    rw [pkl_eq (O := fun _ => false) (M := fun _ => false) (fun y => decide_eq_false (fun ⟨_, h, _⟩ => absurd h (Nat.not_lt_zero _))) (fun k => by simp)]
    exact hA)
/-- which rows hold the plan: two that change places -/
def Sel (u : MS) : Prop := (u.1 61 = 0 ∧ ¬ u.1 62 = 0 ∨ ¬ u.1 61 = 0 ∧ u.1 62 = 0) ∧ (u.1 63 = 0 ∧ ¬ u.1 64 = 0 ∨ ¬ u.1 63 = 0 ∧ u.1 64 = 0)
def plM (u : MS) : Nat → Int32 := u.2 (sl (u.1 61) 26 27)
def plB (u : MS) : Nat → Int32 := u.2 (sl (u.1 63) 28 29)
theorem c_day {B : Nat → Int32} {F d m : Nat} {u : MS} {l : List Nat} (hl : l = plO B 3360) (hB : PdK B F) (hm : Pmt B) (hd : d ≤ 60) (hm1 : 1 ≤ m) (hm4 : m ≤ 4) (h0 : u.2 0 = B) (hrw : ∀ x, pdF B x → u.2 13 (pds x) = pdW B x 0 ∧ u.2 14 (pds x) = pdW B x 1 ∧ u.2 16 (pds x) = pdS B x) : CN (x_X6_planDay (nI m) (nI d)) u (fun r v => r = nI (prun B d m 296 (pdT B) (pini B d l)).2.2.2.2.1 ∧ (Sel u → Sel v) ∧ ∀ c i, c < 4 → i < 37 → plM v (37 * c + i) = (prun B d m 296 (pdT B) (pini B d l)).2.2.2.2.2.1 (40 * c + i) ∧ plB v (37 * c + i) = (prun B d m 296 (pdT B) (pini B d l)).2.2.2.2.2.2 (40 * c + i)) := by
  have e0 := hB.2.2.2.2.2.2.2.2.1
  have hT := hB.2.2.2.2.2.2.1
  have hP := pini_PI hl hB hd
  have hlen := hP.len hB
  obtain ⟨hend, hPe⟩ := prun_end hB hm1 hm4 hd 296 (pdT B) 1620 (pini B d l) hP (by omega) (by omega) (Or.inl (by omega))
  have hle := hPe.2.2.2.2.2.2.1
  generalize hRr : prun B d m 296 (pdT B) (pini B d l) = R at hend hPe hle ⊢
  have fin : ∀ v, CR B F d (sl (u.1 62) 26 27) (sl (u.1 64) 28 29) R v → (v.1 61 = u.1 61 ∧ v.1 62 = u.1 62 ∧ v.1 63 = u.1 63 ∧ v.1 64 = u.1 64) → CN (ncl (nRF 19) (fun x_43 => (if x_43 ≤ 100000 then ncl (x_X6_keep) (fun r_48 => ncl (nRF 19) (fun x_51 => nrt x_51)) else nrt (-1)))) v (fun r v => r = nI R.2.2.2.2.1 ∧ (Sel u → Sel v) ∧ ∀ c i, c < 4 → i < 37 → plM v (37 * c + i) = R.2.2.2.2.2.1 (40 * c + i) ∧ plB v (37 * c + i) = R.2.2.2.2.2.2 (40 * c + i)) := fun v hv hfr => by
    obtain ⟨hCB, hCA, -, -⟩ := hv
    obtain ⟨f1, f2, f3, f4⟩ := hfr
    have e19 := hCA.2.2.2.1
    refine CN_RFx e19 (CN_ite (fun _ => ?_) (fun z => absurd (show nI R.2.2.2.2.1 ≤ nI 100000 from nI_le (by omega) (by omega)) z))
    unfold x_X6_keep
    refine CN_cl (CN_RF (CN_RF (CN_RF (CN_WF (CN_RF (CN_WF (CN_WF (CN_WF (CN_rt (CN_RF (CN_rt ⟨?_, ?_, ?_⟩)))))))))))
    · exact e19
    · intro hs
      obtain ⟨a, b⟩ := hs
      show ((v.1 62 = 0 ∧ ¬ v.1 61 = 0) ∨ (¬ v.1 62 = 0 ∧ v.1 61 = 0)) ∧ ((v.1 64 = 0 ∧ ¬ v.1 63 = 0) ∨ (¬ v.1 64 = 0 ∧ v.1 63 = 0))
      rw [f1, f2, f3, f4]
      exact ⟨a.elim (fun z => Or.inr ⟨z.2, z.1⟩) (fun z => Or.inl ⟨z.2, z.1⟩), b.elim (fun z => Or.inr ⟨z.2, z.1⟩) (fun z => Or.inl ⟨z.2, z.1⟩)⟩
    · intro c i hc hi
      show v.2 (sl (v.1 62) 26 27) (37 * c + i) = _ ∧ v.2 (sl (v.1 64) 28 29) (37 * c + i) = _
      rw [f2, f4]
      exact hCA.2.2.2.2 c i hc hi
  have h19 : ∀ (K : Int32 → Int32 → Int32 → NG Int32) (Q : Int32 → MS → Prop) (a b : Int32) (u0 : MS) (aM aB : Nat), CB B d aM aB u0 → CRA B F aM aB (pini B d l) u0 → CRO l u0 → (∀ v v3, Same [] [25] u0 v → CR B F d aM aB (pini B d l) v → CN (K a b v3) v Q) → ∀ (t c n : Nat) (v : MS), c + t = 4 → t < n → Same [] [25] u0 v → (∀ x, pdF B x → x / 40 < c → v.2 25 (pds x) = nI (per B (pini B d l) x)) → CN (xl_X6_planDay_19 n a b (nI c) K) v Q := by
    intro K Q a b u0 aM aB hC hA hO hK t
    have hMx := hC.ix
    induction t with
    | zero =>
      intro c n v h1 h2 hs hv
      cases n with
      | zero => omega
      | succ n =>
        unfold xl_X6_planDay_19
        refine CN_ite (fun _ => hK v _ hs ⟨hC.same hs (by decide) (by decide), hA.same hs (by decide) ⟨by decide, by decide, by decide, by simp; omega, by simp; omega⟩, hO.same hs (by decide) (by decide), fun x hx => hv x hx ?_⟩) (fun z => absurd (show (4 : Int32) ≤ nI c from nI_le (a := 4) (by omega) (by omega)) z)
        have := hx.1
        omega
    | succ t ih =>
      intro c n v h1 h2 hs hv
      cases n with
      | zero => omega
      | succ n =>
        have hCv := hC.same hs (by decide) (by decide)
        have hAv := hA.same hs (by decide) ⟨by decide, by decide, by decide, by simp; omega, by simp; omega⟩
        unfold xl_X6_planDay_19
        refine CN_ite (fun z => absurd z (show ¬ (4 : Int32) ≤ nI c from nI_ge (b := 4) (by omega) (by decide))) (fun _ => ?_)
        refine CN_app (c_erl (d := d) (aM := aM) (aB := aB) hB (by omega) (fun x hx => Nat.lt_of_le_of_lt (per_b hB hP (by omega) hx) (by decide)) (fun f hf => Nat.lt_of_le_of_lt (hP.2.2.2.1 f hf) (by omega)) (fun y e z => by have := hP.2.2.2.2.1 y e z; omega) hCv hAv) (fun _ v2 h3 => CN_li ?_)
        obtain ⟨hs2, hE⟩ := h3
        rw [nI_1]
        refine ih (c + 1) n v2 (by omega) (by omega) (hs.trans hs2) (fun x hx hxc => ?_)
        by_cases he : x / 40 = c
        · exact (hE x hx).1 he
        · rw [(hE x hx).2 he]
          exact hv x hx (by omega)
  unfold x_X6_planDay
  refine CN_WF ?_
  have hC1 : CB B d (sl (u.1 62) 26 27) (sl (u.1 64) 28 29) (si u 18 (nI d)) := ⟨h0, rfl, rfl, rfl, hrw⟩
  refine CN_app (CN.same tt_x_X6_clear (c_clear hB hC1)) (fun _ v1 h1 => ?_)
  obtain ⟨s1, hA1⟩ := h1
  have hC2 := hC1.same s1 (by decide) (by decide)
  refine CN_app (CN.same tt_x_X6_putOpenOnes (c_open hB hm hd hC2 hA1)) (fun _ v2 h2 => ?_)
  obtain ⟨s2, hA2⟩ := h2
  have hC3 := hC2.same s2 (by decide) (by decide)
  have hMx := hC3.ix
  refine CN_app (CN.same tt_x_X6_putInOrder (c_order hB hC3)) (fun _ v3 h3 => ?_)
  obtain ⟨s3, hO3⟩ := h3
  rw [← hl] at hO3
  have hC4 := hC3.same s3 (by decide) (by decide)
  have hA3 : CRA B F (sl (u.1 62) 26 27) (sl (u.1 64) 28 29) (pini B d l) v3 := (hA2.same s3 (by decide) ⟨by decide, by decide, by decide, by simp; omega, by simp; omega⟩).sec rfl
  refine h19 _ _ (nI m) (nI d) v3 _ _ hC4 hA3 hO3 (fun v4 _ s4 hv4 => ?_) 4 0 fuel v3 (by omega) (by unfold fuel; omega) (Same.rf v3) (fun x _ h => absurd h (Nat.not_lt_zero _))
  refine CN_GT ?_
  rw [hv4.1.1, rdk0 B, e0]
  refine c_run_lp (m := m) hB hd hm1 hm4 (nI d) R _ _ v4 (fun _ _ v5 s5 hv5 => fin v5 hv5 ⟨?_, ?_, ?_, ?_⟩) 296 0 fuel (pdT B) 1620 (pini B d l) v4 (by omega) (by unfold fuel; omega) (Same.rf v4) hv4 hP (by omega) (by omega) (fun _ => by omega) hRr
  · rw [s5.1 61 (by decide), s4.1 61 (by decide), s3.1 61 (by decide), s2.1 61 (by decide), s1.1 61 (by decide)]
    rfl
  · rw [s5.1 62 (by decide), s4.1 62 (by decide), s3.1 62 (by decide), s2.1 62 (by decide), s1.1 62 (by decide)]
    rfl
  · rw [s5.1 63 (by decide), s4.1 63 (by decide), s3.1 63 (by decide), s2.1 63 (by decide), s1.1 63 (by decide)]
    rfl
  · rw [s5.1 64 (by decide), s4.1 64 (by decide), s3.1 64 (by decide), s2.1 64 (by decide), s1.1 64 (by decide)]
    rfl

