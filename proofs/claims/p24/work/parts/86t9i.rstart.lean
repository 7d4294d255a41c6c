/-! ===== the plan, the reference's side: the fights in order, what is open ===== -/
theorem srt_eq {g : Nat → Nat} : ∀ {l1 l2 : List Nat}, l1.Pairwise (fun x y => g x < g y) → l2.Pairwise (fun x y => g x < g y) → (∀ x, x ∈ l1 ↔ x ∈ l2) → l1 = l2 := by
  intro l1
  induction l1 with
  | nil =>
    intro l2 _ _ h
    cases l2 with
    | nil => rfl
    | cons y l2 => exact absurd ((h y).mpr List.mem_cons_self) List.not_mem_nil
  | cons x l1 ih =>
    intro l2 h1 h2 h
    cases l2 with
    | nil => exact absurd ((h x).mp List.mem_cons_self) List.not_mem_nil
    | cons y l2 =>
      obtain ⟨a1, b1⟩ := List.pairwise_cons.mp h1
      obtain ⟨a2, b2⟩ := List.pairwise_cons.mp h2
      have exy : x = y := by
        rcases List.mem_cons.mp ((h x).mp List.mem_cons_self) with z | z
        · exact z
        · rcases List.mem_cons.mp ((h y).mpr List.mem_cons_self) with w | w
          · exact w.symm
          · have h3 := a2 x z
            have h4 := a1 y w
            omega
      subst exy
      rw [ih b1 b2 (fun z => ⟨fun hz => ?_, fun hz => ?_⟩)]
      · rcases List.mem_cons.mp ((h z).mp (List.mem_cons_of_mem _ hz)) with w | w
        · rw [w] at hz
          exact absurd (a1 x hz) (Nat.lt_irrefl _)
        · exact w
      · rcases List.mem_cons.mp ((h z).mpr (List.mem_cons_of_mem _ hz)) with w | w
        · rw [w] at hz
          exact absurd (a2 x hz) (Nat.lt_irrefl _)
        · exact w
def pOX (B : Nat → Int32) (X x : Nat) : Bool := decide (x < X) && pdO B x
theorem pOX_s {B : Nat → Int32} {X : Nat} (h : ¬ pdO B X = true) : ∀ y, pOX B (X + 1) y = pOX B X y := fun y => by
  unfold pOX
  by_cases he : y = X
  · have : pdO B y = false := by
      rw [he]
      simpa using h
    rw [this, Bool.and_false, Bool.and_false]
  · have e9 : decide (y < X + 1) = decide (y < X) := decide_eq_decide.mpr (by omega)
    rw [e9]
theorem pOX_o {B : Nat → Int32} {X : Nat} (h : pdO B X = true) : ∀ y, pOX B (X + 1) y = true ↔ (pOX B X y = true ∨ y = X) := fun y => by
  unfold pOX
  rw [Bool.and_eq_true, Bool.and_eq_true, decide_eq_true_iff, decide_eq_true_iff]
  refine ⟨fun ⟨a, b⟩ => ?_, fun z => ?_⟩
  · by_cases he : y = X
    · exact Or.inr he
    · exact Or.inl ⟨by omega, b⟩
  · rcases z with ⟨a, b⟩ | z
    · exact ⟨by omega, b⟩
    · exact ⟨by omega, by rw [z]; exact h⟩
noncomputable def pLE (B : Nat → Int32) (d X : Nat) : Nat := (pkl B d (pOX B X) (pdMs B)).2.2.2.2.1
/-- what the reference's planner holds as it looks the fights through -/
def RS (B : Nat → Int32) (F d : Nat) (w : GS) (X : Nat) (q : List Nat) (v : GS) : Prop := PW w v ∧ (∀ f, f < F → Am v 70 f (nI ((pkl B d (pOX B X) (pdMs B)).2.2.1 f))) ∧ (∀ m, m < 4 → ∃ g, Am v 71 m (nI g) ∧ (g = (pS B d).2.2.2.1 m ∨ (g = 0 ∧ (pS B d).2.2.2.1 m = pdT B))) ∧ (∀ x, x < X → Am v 65 x (rst B (pS B d) x) ∧ Am v 63 x ((pS B d).2.2.2.2.2.1 x) ∧ Am v 64 x ((pS B d).2.2.2.2.2.2 x)) ∧ (∀ x, x < X → pdF B x → ¬ pdV B x → Am v 67 x (pdW B x 0) ∧ Am v 68 x (pdW B x 1)) ∧ RQu q v ∧ q.Pairwise (fun x y => pky B x < pky B y) ∧ ∀ x, x ∈ q ↔ (pdF B x ∧ pdH B x ∧ x < X)
theorem q_len {B : Nat → Int32} {F : Nat} {q : List Nat} (hB : PdK B F) (hs : q.Pairwise (fun x y => pky B x < pky B y)) (hm : ∀ x, x ∈ q → pdF B x) : q.length ≤ 148 := by
  have hn : q.Nodup := hs.imp (fun {x y} z => by
    intro e
    rw [e] at z
    exact Nat.lt_irrefl _ z)
  have h1 : (q.map pds).Nodup := by
    refine List.pairwise_map.mpr (List.Pairwise.imp_of_mem (fun {x y} hx hy hne e => ?_) hn)
    exact hne (pds_inj ((hm x hx).lt hB).2.1 ((hm y hy).lt hB).2.1 e)
  have := nd_len (n := 148) h1 (fun z hz => by
    obtain ⟨x, hx, rfl⟩ := List.mem_map.mp hz
    exact ((hm x hx).lt hB).2.2.2)
  rwa [List.length_map] at this
/-- nothing new in order, nothing new open -/
theorem RS.skip {B : Nat → Int32} {F d X : Nat} {w v v1 : GS} {q : List Nat} (h : RS B F d w X q v) (hE : Exc [63, 64, 65] v v1) (ho : ∀ x, ¬ x = X → ∀ k z, Am v k x z → k = 63 ∨ k = 64 ∨ k = 65 → Am v1 k x z) (h65 : Am v1 65 X 0) (h63 : Am v1 63 X (-1)) (h64 : Am v1 64 X (-1)) (hv : ¬ (pdF B X ∧ ¬ pdV B X)) : RS B F d w (X + 1) q v1 := by
  obtain ⟨a1, a2, a3, a4, a5, a6, a7, a8⟩ := h
  have hO : ¬ pdO B X = true := fun z => by
    have z2 := of_decide_eq_true z
    exact hv ⟨z2.1, fun y => by
      unfold pdV at y
      rw [z2.2] at y
      revert y
      decide⟩
  have eO := pkl_eq (B := B) (d := d) (M := pdMs B) (M2 := pdMs B) (pOX_s hO) (fun _ => rfl)
  refine ⟨a1.ex hE (by decide), fun f hf => ?_, fun m hm => ?_, fun x hx => ?_, fun x hx hF hV => ?_, fun k x e => hE.am (by decide) (a6 k x e), a7, fun x => ?_⟩
  · rw [eO]
    exact hE.am (by decide) (a2 f hf)
  · obtain ⟨g, g1, g2⟩ := a3 m hm
    exact ⟨g, hE.am (by decide) g1, g2⟩
  · by_cases he : x = X
    · subst he
      have e65 : rst B (pS B d) x = 0 := by
        unfold rst
        rw [if_neg hv]
      have e63 : (pS B d).2.2.2.2.2.1 x = -1 := if_neg hO
      have e64 : (pS B d).2.2.2.2.2.2 x = -1 := if_neg hO
      rw [e65, e63, e64]
      exact ⟨h65, h63, h64⟩
    · obtain ⟨b1, b2, b3⟩ := a4 x (by omega)
      exact ⟨ho x he _ _ b1 (by decide), ho x he _ _ b2 (by decide), ho x he _ _ b3 (by decide)⟩
  · have hne : ¬ x = X := fun z => hv (by rw [← z]; exact ⟨hF, hV⟩)
    obtain ⟨b1, b2⟩ := a5 x (by omega) hF hV
    exact ⟨hE.am (by decide) b1, hE.am (by decide) b2⟩
  · rw [a8 x]
    refine ⟨fun ⟨b1, b2, b3⟩ => ⟨b1, b2, by omega⟩, fun ⟨b1, b2, b3⟩ => ⟨b1, b2, ?_⟩⟩
    have hne : ¬ x = X := fun z => hv (by rw [← z]; exact ⟨b1, b2.nv⟩)
    omega
theorem r_350 {B : Nat → Int32} {F x : Nat} {w v0 : GS} {q : List Nat} (hB : PdK B F) (hR : R0 B w) (hD : ∀ x, pdF B x → ∃ n, Dr w (x / 40) n ∧ x % 40 < n) (hP0 : PW w v0) (hx : pdF B x) (hq : ∀ y, y ∈ q → pdF B y) (hl : q.length < 160) (v1 v2 v3 v4 v6 v7 : Int32) (K : Int32 → Int32 → Int32 → Int32 → Int32 → Int32 → Int32 → Int32 → Int32 → PG Int32) (Q : Int32 → GS → Prop) (hK : ∀ v p, Exc [66] v0 v → p ≤ q.length → (∀ k y, k < p → q[k]? = some y → Am v 66 k (nI y)) → (∀ k y, p ≤ k → q[k]? = some y → Am v 66 (k + 1) (nI y) ∧ pdG B x < pdG B y) → (∀ y, 1 ≤ p → q[p - 1]? = some y → pdG B y ≤ pdG B x) → Ok (K v1 v2 v3 v4 (nI q.length) v6 v7 (nI x) (nI p)) v Q) : ∀ (p m : Nat) (v : GS), p < m → Exc [66] v0 v → p ≤ q.length → (∀ k y, k < p → q[k]? = some y → Am v 66 k (nI y)) → (∀ k y, p ≤ k → q[k]? = some y → Am v 66 (k + 1) (nI y) ∧ pdG B x < pdG B y) → Ok (lp_plan_350 m v1 v2 v3 v4 (nI q.length) v6 v7 (nI x) (nI p) K) v Q := by
  have st : ∀ (y : Nat) (v : GS), pdF B y → PW w v → Rd (f_stage (nI y)) v (fun r => r = nI (pdG B y)) := fun y v hy hP => by
    obtain ⟨n, hD1, hn⟩ := hD y hy
    have e : 40 * (y / 40) + y % 40 = y := by omega
    have := r_stage (hP.r0 hR) (hP.dr hD1) hn
    rw [e] at this
    exact this
  intro p
  induction p with
  | zero =>
    intro m v h1 hE hp hA hC
    cases m with
    | zero => omega
    | succ m =>
      unfold lp_plan_350
      exact Ok_ite (fun _ => hK v 0 hE hp hA hC (fun y h => by omega)) (fun z => absurd (Int32.le_refl _) z)
  | succ p ih =>
    intro m v h1 hE hp hA hC
    cases m with
    | zero => omega
    | succ m =>
      have ep : nI (p + 1) - 1 = nI p := nI_sub (b := 1) (by omega)
      have hPv : PW w v := hP0.ex hE (by decide)
      obtain ⟨y, ey⟩ : ∃ y, q[p]? = some y := ⟨q[p], List.getElem?_eq_getElem (by omega)⟩
      have a66 := hA p y (by omega) ey
      have hyF := hq y (List.mem_of_getElem? ey)
      have gx := hB.2.2.2.2.1 x hx
      have gy := hB.2.2.2.2.1 y hyF
      unfold lp_plan_350
      refine Ok_ite (fun z => absurd z (nI_p1 (by omega))) (fun _ => ?_)
      rw [ep]
      refine Ok_rdN rfl (by omega) (by decide) a66 (Ok_clR (st y v hyF hPv) (fun r1 hr1 => Ok_clR (st x v hx hPv) (fun r2 hr2 => ?_)))
      subst hr1
      subst hr2
      refine Ok_ite (fun hle => hK v (p + 1) hE hp hA hC (fun z _ ez => ?_)) (fun hgt => ?_)
      · rw [Nat.add_sub_cancel, ey] at ez
        have e : y = z := Option.some.inj ez
        rw [← e]
        refine Nat.not_lt.mp (fun z => ?_)
        exact absurd hle (nI_ge z (by omega))
      · have hlt : pdG B x < pdG B y := Nat.not_le.mp (fun z => hgt (nI_le z (by omega)))
        refine Ok_rdN rfl (by omega) (by decide) a66 (Ok_wdN rfl (by omega) (by decide) (Ok_li ?_))
        have e2 : nI (p + 1) + -1 = nI p := (Int32.sub_eq_add_neg _ _).symm.trans ep
        rw [e2]
        refine ih m _ (by omega) (hE.wd (by decide) _ _) (by omega) (fun k z hk ez => sw_An (by omega) (by omega) (hA k z (by omega) ez)) (fun k z hk ez => ?_)
        by_cases he : k = p
        · rw [he] at ez ⊢
          rw [ey] at ez
          have e : y = z := Option.some.inj ez
          rw [← e]
          exact ⟨sw_A (by omega), hlt⟩
        · obtain ⟨c1, c2⟩ := hC k z (by omega) ez
          have hkl := (List.getElem?_eq_some_iff.mp ez).1
          exact ⟨sw_An (by omega) (by omega) c1, c2⟩
theorem ins_get {q : List Nat} {x p : Nat} (hp : p ≤ q.length) (k : Nat) : (q.take p ++ x :: q.drop p)[k]? = if k < p then q[k]? else if k = p then some x else q[k - 1]? := by
  have hl : (q.take p).length = p := by
    rw [List.length_take]
    exact Nat.min_eq_left hp
  by_cases h1 : k < p
  · rw [if_pos h1, List.getElem?_append_left (by rw [hl]; exact h1), List.getElem?_take_of_lt h1]
  · rw [if_neg h1, List.getElem?_append_right (by rw [hl]; omega), hl]
    by_cases h2 : k = p
    · rw [if_pos h2, h2, Nat.sub_self]
      rfl
    · rw [if_neg h2, show k - p = (k - p - 1) + 1 from by omega, List.getElem?_cons_succ, List.getElem?_drop]
      congr 1
      omega
/-- one that waits is put in order -/
theorem ins_srt {B : Nat → Int32} {F x p : Nat} {q : List Nat} (hB : PdK B F) (hs : q.Pairwise (fun x y => pky B x < pky B y)) (hm : ∀ y, y ∈ q → pdF B y ∧ y < x) (hx : x < 160) (hp : p ≤ q.length) (h1 : ∀ k y, p ≤ k → q[k]? = some y → pdG B x < pdG B y) (h2 : ∀ y, 1 ≤ p → q[p - 1]? = some y → pdG B y ≤ pdG B x) : (q.take p ++ x :: q.drop p).Pairwise (fun x y => pky B x < pky B y) := by
  have hs2 := hs
  rw [← List.take_append_drop p q] at hs2
  obtain ⟨s1, s2, s3⟩ := List.pairwise_append.mp hs2
  have hdr : ∀ z, z ∈ q.drop p → pky B x < pky B z := fun z hz => by
    obtain ⟨k, e⟩ := List.mem_iff_getElem?.mp hz
    rw [List.getElem?_drop] at e
    have := h1 (p + k) z (by omega) e
    unfold pky
    omega
  have htk : ∀ y, y ∈ q.take p → pky B y < pky B x := fun y hy => by
    have hyx := (hm y (List.mem_of_mem_take hy)).2
    obtain ⟨k, e⟩ := List.mem_iff_getElem?.mp hy
    have hk := (List.getElem?_eq_some_iff.mp e).1
    rw [List.length_take] at hk
    rw [List.getElem?_take_of_lt (by omega)] at e
    have hkl : k < q.length := by omega
    have hp1 : p - 1 < q.length := by omega
    obtain ⟨y2, ey2⟩ : ∃ y2, q[p - 1]? = some y2 := ⟨q[p - 1], List.getElem?_eq_getElem hp1⟩
    have hg := h2 y2 (by omega) ey2
    have hgy : pdG B y ≤ pdG B x := by
      by_cases he : k = p - 1
      · rw [he, ey2] at e
        have e3 : y2 = y := Option.some.inj e
        rw [← e3]
        exact hg
      · have hlt := List.pairwise_iff_getElem.mp hs k (p - 1) hkl hp1 (by omega)
        have e4 : q[k] = y := by
          rw [List.getElem?_eq_getElem hkl] at e
          exact Option.some.inj e
        have e5 : q[p - 1] = y2 := by
          rw [List.getElem?_eq_getElem hp1] at ey2
          exact Option.some.inj ey2
        rw [e4, e5] at hlt
        have := (hm y2 (List.mem_of_getElem? ey2)).2
        unfold pky at hlt
        omega
    unfold pky
    omega
  refine List.pairwise_append.mpr ⟨s1, List.pairwise_cons.mpr ⟨hdr, s2⟩, fun y hy z hz => ?_⟩
  rcases List.mem_cons.mp hz with rfl | hz
  · exact htk y hy
  · exact s3 y hy z hz
theorem ins_mem {q : List Nat} {x p y : Nat} : y ∈ q.take p ++ x :: q.drop p ↔ (y ∈ q ∨ y = x) := by
  rw [List.mem_append, List.mem_cons]
  refine ⟨fun h => ?_, fun h => ?_⟩
  · rcases h with h | h | h
    · exact Or.inl (List.mem_of_mem_take h)
    · exact Or.inr h
    · exact Or.inl (List.mem_of_mem_drop h)
  · rcases h with h | h
    · rw [← List.take_append_drop p q] at h
      rcases List.mem_append.mp h with h | h
      · exact Or.inl h
      · exact Or.inr (Or.inr h)
    · exact Or.inr (Or.inl h)

