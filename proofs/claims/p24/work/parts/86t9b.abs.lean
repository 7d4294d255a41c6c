/-! ===== the plan: what both sides work out ===== -/
/-- the fights in order; when each ends; when each fighter, each mat is free; the last end; mats and begins -/
abbrev PlS : Type := List Nat × (Nat → Option Nat) × (Nat → Nat) × (Nat → Nat) × Nat × (Nat → Int32) × (Nat → Int32)
def upN {α : Type} (f : Nat → α) (j : Nat) (x : α) : Nat → α := fun k => if k = j then x else f k
theorem upN_e {α : Type} {f : Nat → α} {j : Nat} {x : α} : upN f j x j = x := if_pos rfl
theorem upN_n {α : Type} {f : Nat → α} {j k : Nat} {x : α} (h : ¬ k = j) : upN f j x k = f k := if_neg h
def pdR (B : Nat → Int32) : Nat := (B 1).toNatClampNeg
def pdT (B : Nat → Int32) : Nat := (B 0).toNatClampNeg
def pdW (B : Nat → Int32) (x k : Nat) : Int32 := if k = 0 then bWh B (x / 40) (x % 40) else bBl B (x / 40) (x % 40)
def pdS (B : Nat → Int32) (x : Nat) : Int32 := bSt B (x / 40) (x % 40)
/-- it waits -/
abbrev pdH (B : Nat → Int32) (x : Nat) : Prop := pdS B x = 0 ∨ pdS B x = 1
/-- it is over -/
abbrev pdV (B : Nat → Int32) (x : Nat) : Prop := pdS B x = 3 ∨ pdS B x = 4
def pky (B : Nat → Int32) (x : Nat) : Nat := 160 * pdG B x + x
def pfr (s : PlS) (a : Int32) : Nat := if a = -1 then 0 else s.2.2.1 a.toNatClampNeg
def pbh (B : Nat → Int32) (s : PlS) (o : Option Nat) : Nat := o.elim 0 (fun y => if pdV B y then 0 else (s.2.1 y).elim 1000000 (fun e => e + pdR B))
/-- the earliest minute of a fight -/
def per (B : Nat → Int32) (s : PlS) (x : Nat) : Nat := max (max (pfr s (pdW B x 0)) (pfr s (pdW B x 1))) (max (pbh B s (pdA B x 0)) (pbh B s (pdA B x 1)))
def phd (g : Nat → Nat) (a : Int32) (E : Nat) : Nat → Nat := if a = -1 then g else upN g a.toNatClampNeg (max (g a.toNatClampNeg) E)
/-- a fight is put on a mat -/
def pputA (B : Nat → Int32) (d : Nat) (s : PlS) (x m T : Nat) : PlS := (s.1, upN s.2.1 x (some (T + d)), phd (phd s.2.2.1 (pdW B x 0) (T + d + pdR B)) (pdW B x 1) (T + d + pdR B), upN s.2.2.2.1 m (T + d), max s.2.2.2.2.1 (T + d), upN s.2.2.2.2.2.1 x (nI m), upN s.2.2.2.2.2.2 x (nI T))
def pput (B : Nat → Int32) (d : Nat) (s : PlS) (x m T : Nat) : PlS := (s.1.filter (fun y => !(y == x)), (pputA B d s x m T).2)
def pfst (B : Nat → Int32) (s : PlS) (T : Nat) (l : List Nat) : Option Nat := l.find? (fun x => decide (per B s x ≤ T))
def pmat (B : Nat → Int32) (d : Nat) (s : PlS) (k T : Nat) : PlS := if s.2.2.2.1 k ≤ T then (pfst B s T s.1).elim s (fun x => pput B d s x k T) else s
def pfrom (B : Nat → Int32) (d T : Nat) : Nat → Nat → PlS → PlS
  | 0, _, s => s
  | t + 1, k, s => pfrom B d T t (k + 1) (pmat B d s k T)
def psm (s : PlS) : Nat → Nat → Nat → Nat
  | 0, _, a => a
  | t + 1, k, a => psm s t (k + 1) (min a (s.2.2.2.1 k))
def psf (B : Nat → Int32) (s : PlS) : List Nat → Nat → Nat
  | [], a => a
  | x :: l, a => psf B s l (min a (per B s x))
/-- the next minute at which one may begin -/
def pnx (B : Nat → Int32) (m : Nat) (s : PlS) (T : Nat) : Nat := max (T + 1) (max (psm s m 0 1000000) (psf B s s.1 1000000))
def prun (B : Nat → Int32) (d m : Nat) : Nat → Nat → PlS → PlS
  | 0, _, s => s
  | n + 1, T, s => if s.1 = [] then s else prun B d m n (pnx B m (pfrom B d T m 0 s) T) (pfrom B d T m 0 s)
/-- what the book holds still for the planner -/
def PdK (B : Nat → Int32) (F : Nat) : Prop := (∀ c, c < 4 → Kn B c) ∧ (∀ x k, pdF B x → k < 2 → pdW B x k = -1 ∨ ∃ f, f < F ∧ pdW B x k = nI f) ∧ (∀ x y k k2 f, pdF B x → pdF B y → k < 2 → k2 < 2 → f < F → pdW B x k = nI f → pdW B y k2 = nI f → x / 40 = y / 40) ∧ (∀ x k y, pdF B x → k < 2 → pdA B x k = some y → pdF B y ∧ y / 40 = x / 40 ∧ pdG B y < pdG B x) ∧ (∀ x, pdF B x → pdG B x ≤ 20) ∧ F ≤ 96 ∧ pdT B ≤ 1440 ∧ pdR B ≤ 120 ∧ B 0 = nI (pdT B) ∧ B 1 = nI (pdR B) ∧ B 2 = nI F ∧ (∀ f, f < F → B (154 + 7 * f) = -1 ∨ ∃ t, t ≤ 1440 ∧ B (154 + 7 * f) = nI t) ∧ ∀ x, pdF B x → pdH B x ∨ pdS B x = 2 ∨ pdV B x
theorem pdF.lt {B : Nat → Int32} {F x : Nat} (hB : PdK B F) (h : pdF B x) : x / 40 < 4 ∧ x % 40 < 37 ∧ x < 160 ∧ 37 * (x / 40) + x % 40 < 148 := by
  have := (hB.1 _ h.1).n37
  have h2 := h.2
  have h1 := h.1
  omega
def PlI (B : Nat → Int32) (d F N : Nat) (s : PlS) : Prop := s.1.Pairwise (fun x y => pky B x < pky B y) ∧ (∀ x, x ∈ s.1 → pdF B x ∧ pdH B x ∧ s.2.1 x = none) ∧ (∀ x, pdF B x → ¬ x ∈ s.1 → pdV B x ∨ ∃ e, s.2.1 x = some e) ∧ (∀ f, f < F → s.2.2.1 f ≤ N) ∧ (∀ x e, s.2.1 x = some e → e + pdR B ≤ N) ∧ (∀ k, k < 4 → s.2.2.2.1 k ≤ N) ∧ s.2.2.2.2.1 ≤ N ∧ ∀ x e, s.2.1 x = some e → ∃ b, s.2.2.2.2.2.2 x = nI b ∧ b + d = e
theorem PlI.up {B : Nat → Int32} {d F N M : Nat} {s : PlS} (h : PlI B d F N s) (hN : N ≤ M) : PlI B d F M s := by
  obtain ⟨h1, h2, h3, h4, h5, h6, h7, h8⟩ := h
  exact ⟨h1, h2, h3, fun f hf => Nat.le_trans (h4 f hf) hN, fun x e z => Nat.le_trans (h5 x e z) hN, fun k hk => Nat.le_trans (h6 k hk) hN, Nat.le_trans h7 hN, h8⟩
theorem phd_le {g : Nat → Nat} {a : Int32} {E N F : Nat} (h : ∀ f, f < F → g f ≤ N) (hE : E ≤ N) : ∀ f, f < F → phd g a E f ≤ N := by
  intro f hf
  unfold phd
  split
  · exact h f hf
  · by_cases he : f = a.toNatClampNeg
    · rw [he, upN_e]
      have := h f hf
      rw [he] at this
      exact Nat.max_le.mpr ⟨this, hE⟩
    · rw [upN_n he]
      exact h f hf
theorem PlI.put {B : Nat → Int32} {d F N : Nat} {s : PlS} {x m T : Nat} (h : PlI B d F N s) (hT : T + d + pdR B ≤ N) : PlI B d F N (pput B d s x m T) := by
  obtain ⟨h1, h2, h3, h4, h5, h6, h7, h8⟩ := h
  refine ⟨h1.filter _, fun y hy => ?_, fun y hy hn => ?_, phd_le (phd_le h4 hT) hT, fun y e z => ?_, fun k hk => ?_, Nat.max_le.mpr ⟨h7, by omega⟩, fun y e z => ?_⟩
  · obtain ⟨y1, y2⟩ := List.mem_filter.mp hy
    have hne : ¬ y = x := fun z => by
      rw [z] at y2
      simp at y2
    obtain ⟨a, b, e⟩ := h2 y y1
    exact ⟨a, b, (upN_n hne).trans e⟩
  · by_cases he : y = x
    · exact Or.inr ⟨T + d, by rw [he]; exact upN_e⟩
    · have hn2 : ¬ y ∈ s.1 := fun z => hn (List.mem_filter.mpr ⟨z, by simp [he]⟩)
      rcases h3 y hy hn2 with z | ⟨e, z⟩
      · exact Or.inl z
      · exact Or.inr ⟨e, (upN_n he).trans z⟩
  · by_cases he : y = x
    · rw [he] at z
      have := (upN_e (f := s.2.1) (j := x) (x := some (T + d))).symm.trans z
      cases this
      exact hT
    · exact h5 y e ((upN_n he).symm.trans z)
  · show upN s.2.2.2.1 m (T + d) k ≤ N
    by_cases he : k = m
    · rw [he, upN_e]
      omega
    · rw [upN_n he]
      exact h6 k hk
  · show ∃ b, upN s.2.2.2.2.2.2 x (nI T) y = nI b ∧ b + d = e
    by_cases he : y = x
    · rw [he] at z ⊢
      have := (upN_e (f := s.2.1) (j := x) (x := some (T + d))).symm.trans z
      cases this
      exact ⟨T, upN_e, rfl⟩
    · rw [upN_n he]
      exact h8 y e ((upN_n he).symm.trans z)
theorem PlI.mat {B : Nat → Int32} {d F N : Nat} {s : PlS} {k T : Nat} (h : PlI B d F N s) (hT : T + d + pdR B ≤ N) : PlI B d F N (pmat B d s k T) := by
  unfold pmat
  split
  · cases pfst B s T s.1 with
    | none => exact h
    | some x => exact h.put hT
  · exact h
theorem PlI.from {B : Nat → Int32} {d F N T : Nat} (hT : T + d + pdR B ≤ N) : ∀ (t k : Nat) (s : PlS), PlI B d F N s → PlI B d F N (pfrom B d T t k s) := by
  intro t
  induction t with
  | zero => exact fun k s h => h
  | succ t ih => exact fun k s h => ih (k + 1) _ (h.mat hT)
/-! the list never grows -/
theorem pmat_len {B : Nat → Int32} {d : Nat} {s : PlS} {k T : Nat} : (pmat B d s k T).1.length ≤ s.1.length := by
  unfold pmat
  split
  · cases pfst B s T s.1 with
    | none => exact Nat.le_refl _
    | some x => exact List.length_filter_le _ _
  · exact Nat.le_refl _
theorem pfrom_len {B : Nat → Int32} {d T : Nat} : ∀ (t k : Nat) (s : PlS), (pfrom B d T t k s).1.length ≤ s.1.length := by
  intro t
  induction t with
  | zero => exact fun k s => Nat.le_refl _
  | succ t ih => exact fun k s => Nat.le_trans (ih (k + 1) _) pmat_len
theorem pput_len {B : Nat → Int32} {d : Nat} {s : PlS} {x m T : Nat} (h : x ∈ s.1) : (pput B d s x m T).1.length < s.1.length := by
  show (s.1.filter (fun y => !(y == x))).length < s.1.length
  rcases Nat.lt_or_ge (s.1.filter (fun y => !(y == x))).length s.1.length with z | z
  · exact z
  · have e := List.length_filter_eq_length_iff.mp (Nat.le_antisymm (List.length_filter_le _ _) z) x h
    simp at e
theorem psm_le (s : PlS) : ∀ (t k a : Nat), psm s t k a ≤ a ∧ ∀ j, k ≤ j → j < k + t → psm s t k a ≤ s.2.2.2.1 j := by
  intro t
  induction t with
  | zero => exact fun k a => ⟨Nat.le_refl _, fun j h1 h2 => by omega⟩
  | succ t ih =>
    intro k a
    obtain ⟨i1, i2⟩ := ih (k + 1) (min a (s.2.2.2.1 k))
    refine ⟨Nat.le_trans i1 (Nat.min_le_left _ _), fun j h1 h2 => ?_⟩
    by_cases he : j = k
    · rw [he]
      exact Nat.le_trans i1 (Nat.min_le_right _ _)
    · exact i2 j (by omega) (by omega)
theorem psm_at (s : PlS) : ∀ (t k a : Nat), psm s t k a = a ∨ ∃ j, k ≤ j ∧ j < k + t ∧ psm s t k a = s.2.2.2.1 j := by
  intro t
  induction t with
  | zero => exact fun k a => Or.inl rfl
  | succ t ih =>
    intro k a
    rcases ih (k + 1) (min a (s.2.2.2.1 k)) with z | ⟨j, h1, h2, z⟩
    · rcases Nat.le_total a (s.2.2.2.1 k) with y | y
      · exact Or.inl (z.trans (Nat.min_eq_left y))
      · exact Or.inr ⟨k, by omega, by omega, z.trans (Nat.min_eq_right y)⟩
    · exact Or.inr ⟨j, by omega, by omega, z⟩
theorem psf_le (B : Nat → Int32) (s : PlS) : ∀ (l : List Nat) (a : Nat), psf B s l a ≤ a ∧ ∀ x, x ∈ l → psf B s l a ≤ per B s x := by
  intro l
  induction l with
  | nil => exact fun a => ⟨Nat.le_refl _, fun x h => absurd h List.not_mem_nil⟩
  | cons y l ih =>
    intro a
    obtain ⟨i1, i2⟩ := ih (min a (per B s y))
    refine ⟨Nat.le_trans i1 (Nat.min_le_left _ _), fun x h => ?_⟩
    rcases List.mem_cons.mp h with rfl | h
    · exact Nat.le_trans i1 (Nat.min_le_right _ _)
    · exact i2 x h
theorem psf_at (B : Nat → Int32) (s : PlS) : ∀ (l : List Nat) (a : Nat), psf B s l a = a ∨ ∃ x, x ∈ l ∧ psf B s l a = per B s x := by
  intro l
  induction l with
  | nil => exact fun a => Or.inl rfl
  | cons y l ih =>
    intro a
    rcases ih (min a (per B s y)) with z | ⟨x, h, z⟩
    · rcases Nat.le_total a (per B s y) with w | w
      · exact Or.inl (z.trans (Nat.min_eq_left w))
      · exact Or.inr ⟨y, List.mem_cons_self, z.trans (Nat.min_eq_right w)⟩
    · exact Or.inr ⟨x, List.mem_cons_of_mem _ h, z⟩
theorem pfr_le {B : Nat → Int32} {d F N x k : Nat} {s : PlS} (hB : PdK B F) (h : PlI B d F N s) (hx : pdF B x) (hk : k < 2) : pfr s (pdW B x k) ≤ N := by
  unfold pfr
  rcases hB.2.1 x k hx hk with z | ⟨f, hf, z⟩
  · rw [if_pos z]
    exact Nat.zero_le _
  · have hF := hB.2.2.2.2.2.1
    rw [if_neg (by rw [z]; exact nI_ne_1 (by omega)), z, nI_clamp (by omega)]
    exact h.2.2.2.1 f hf
/-- where nothing ahead waits, the earliest minute is small -/
theorem per_le {B : Nat → Int32} {d F N x : Nat} {s : PlS} (hB : PdK B F) (h : PlI B d F N s) (hx : pdF B x) (ha : ∀ k y, k < 2 → pdA B x k = some y → ¬ y ∈ s.1) : per B s x ≤ N := by
  have hb : ∀ k, k < 2 → pbh B s (pdA B x k) ≤ N := fun k hk => by
    cases e : pdA B x k with
    | none => exact Nat.zero_le _
    | some y =>
      show (if pdV B y then 0 else (s.2.1 y).elim 1000000 (fun e => e + pdR B)) ≤ N
      obtain ⟨hy, -, -⟩ := hB.2.2.2.1 x k y hx hk e
      rcases h.2.2.1 y hy (ha k y hk e) with z | ⟨e2, z⟩
      · rw [if_pos z]
        exact Nat.zero_le _
      · split
        · exact Nat.zero_le _
        · rw [z]
          exact h.2.2.2.2.1 y e2 z
  exact Nat.max_le.mpr ⟨Nat.max_le.mpr ⟨pfr_le hB h hx (by decide), pfr_le hB h hx (by decide)⟩, Nat.max_le.mpr ⟨hb 0 (by decide), hb 1 (by decide)⟩⟩
/-- the first in order waits for none in order -/
theorem per_hd {B : Nat → Int32} {d F N x : Nat} {l : List Nat} {s : PlS} (hB : PdK B F) (h : PlI B d F N s) (hl : s.1 = x :: l) : per B s x ≤ N := by
  have hx : x ∈ s.1 := by rw [hl]; exact List.mem_cons_self
  obtain ⟨hxF, -⟩ := h.2.1 x hx
  refine per_le hB h hxF (fun k y hk e hy => ?_)
  obtain ⟨yF, -, hg⟩ := hB.2.2.2.1 x k y hxF hk e
  have hp := h.1
  rw [hl] at hy hp
  rcases List.mem_cons.mp hy with rfl | hy
  · exact absurd hg (Nat.lt_irrefl _)
  · have := (List.pairwise_cons.mp hp).1 y hy
    have h1 := (yF.lt hB).2.2.1
    have h2 := (hxF.lt hB).2.2.1
    unfold pky at this
    omega
theorem pnx_le {B : Nat → Int32} {d F N m T : Nat} {s : PlS} (hB : PdK B F) (h : PlI B d F N s) (hm : 1 ≤ m) (hm4 : m ≤ 4) (hT : T + 1 ≤ N) (hs : ¬ s.1 = []) : pnx B m s T ≤ N := by
  unfold pnx
  refine Nat.max_le.mpr ⟨hT, Nat.max_le.mpr ⟨?_, ?_⟩⟩
  · exact Nat.le_trans ((psm_le s m 0 1000000).2 0 (Nat.le_refl _) (by omega)) (h.2.2.2.2.2.1 0 (by decide))
  · cases hl : s.1 with
    | nil => exact absurd hl hs
    | cons x l => exact Nat.le_trans ((psf_le B s (x :: l) 1000000).2 x List.mem_cons_self) (per_hd hB h hl)
/-- where one may begin and a mat is free, one begins -/
theorem pfst_some {B : Nat → Int32} {s : PlS} {T x : Nat} {l : List Nat} (hx : x ∈ l) (h : per B s x ≤ T) : ∃ y, pfst B s T l = some y ∧ y ∈ l ∧ per B s y ≤ T := by
  cases e : pfst B s T l with
  | none =>
    have := List.find?_eq_none.mp e x hx
    simp [h] at this
  | some y =>
    refine ⟨y, rfl, List.mem_of_find?_eq_some e, ?_⟩
    have := List.find?_some e
    simpa using this
theorem pfrom_lt {B : Nat → Int32} {d T j x : Nat} : ∀ (t k : Nat) (s : PlS), k ≤ j → j < k + t → s.2.2.2.1 j ≤ T → x ∈ s.1 → per B s x ≤ T → (pfrom B d T t k s).1.length < s.1.length := by
  intro t
  induction t with
  | zero => exact fun k s h1 h2 => by omega
  | succ t ih =>
    intro k s h1 h2 h3 h4 h5
    show (pfrom B d T t (k + 1) (pmat B d s k T)).1.length < s.1.length
    by_cases hk : s.2.2.2.1 k ≤ T
    · obtain ⟨y, e, y1, -⟩ := pfst_some h4 h5
      have ep : pmat B d s k T = pput B d s y k T := by
        unfold pmat
        rw [if_pos hk, e]
        rfl
      rw [ep]
      exact Nat.lt_of_le_of_lt (pfrom_len t (k + 1) _) (pput_len y1)
    · have ep : pmat B d s k T = s := by
        unfold pmat
        rw [if_neg hk]
      have hne : ¬ k = j := fun z => hk (by rw [z]; exact h3)
      rw [ep]
      exact ih (k + 1) s (by omega) (by omega) h3 h4 h5
/-- at the next minute one begins -/
theorem pnx_go {B : Nat → Int32} {d F N m T : Nat} {s : PlS} (hB : PdK B F) (h : PlI B d F N s) (hm : 1 ≤ m) (hm4 : m ≤ 4) (hN : N < 1000000) (hs : ¬ s.1 = []) : (pfrom B d (pnx B m s T) m 0 s).1.length < s.1.length := by
  have hM : ∃ j, j < m ∧ s.2.2.2.1 j ≤ pnx B m s T := by
    rcases psm_at s m 0 1000000 with z | ⟨j, -, h2, z⟩
    · have := (psm_le s m 0 1000000).2 0 (Nat.le_refl _) (by omega)
      have := h.2.2.2.2.2.1 0 (by decide)
      omega
    · refine ⟨j, by omega, ?_⟩
      rw [← z]
      exact Nat.le_trans (Nat.le_max_left _ _) (Nat.le_max_right _ _)
  have hF : ∃ x, x ∈ s.1 ∧ per B s x ≤ pnx B m s T := by
    rcases psf_at B s s.1 1000000 with z | ⟨x, hx, z⟩
    · exfalso
      cases hl : s.1 with
      | nil => exact hs hl
      | cons x l =>
        have h1 := (psf_le B s s.1 1000000).2 x (by rw [hl]; exact List.mem_cons_self)
        have h2 := per_hd hB h hl
        omega
    · refine ⟨x, hx, ?_⟩
      rw [← z]
      exact Nat.le_trans (Nat.le_max_right _ _) (Nat.le_max_right _ _)
  obtain ⟨j, j1, j2⟩ := hM
  obtain ⟨x, x1, x2⟩ := hF
  exact pfrom_lt m 0 s (Nat.zero_le _) (by omega) j2 x1 x2
/-- with turns enough all are planned, and all ends are small -/
theorem prun_end {B : Nat → Int32} {d F m : Nat} (hB : PdK B F) (hm : 1 ≤ m) (hm4 : m ≤ 4) (hd : d ≤ 60) : ∀ (n T N : Nat) (s : PlS), PlI B d F N s → T ≤ N → N + 180 * n < 1000000 → s.1.length < n ∨ (s.1.length ≤ n ∧ ∃ T0, T = pnx B m s T0) → (prun B d m n T s).1 = [] ∧ PlI B d F (N + 180 * n) (prun B d m n T s) := by
  have hR := hB.2.2.2.2.2.2.2.1
  intro n
  induction n with
  | zero =>
    intro T N s h hT hN hl
    rcases hl with hl | ⟨hl, -⟩
    · omega
    · exact ⟨show s.1 = [] from List.length_eq_zero_iff.mp (by omega), h.up (by omega)⟩
  | succ n ih =>
    intro T N s h hT hN hl
    unfold prun
    by_cases hs : s.1 = []
    · rw [if_pos hs]
      exact ⟨hs, h.up (by omega)⟩
    · rw [if_neg hs]
      have h1 := PlI.from (B := B) (d := d) (F := F) (N := N + 180) (T := T) (by omega) m 0 s (h.up (by omega))
      have hlen : (pfrom B d T m 0 s).1.length ≤ n := by
        rcases hl with hl | ⟨hl, T0, rfl⟩
        · have := pfrom_len (B := B) (d := d) (T := T) m 0 s
          omega
        · have := pnx_go (d := d) (T := T0) hB h hm hm4 (by omega) hs
          omega
      by_cases hs2 : (pfrom B d T m 0 s).1 = []
      · cases n with
        | zero => exact ⟨hs2, h1.up (by omega)⟩
        | succ n =>
          unfold prun
          rw [if_pos hs2]
          exact ⟨hs2, h1.up (by omega)⟩
      · have h2 := pnx_le (T := T) hB h1 hm hm4 (by omega) hs2
        obtain ⟨a, b⟩ := ih (pnx B m (pfrom B d T m 0 s) T) (N + 180) (pfrom B d T m 0 s) h1 h2 (by omega) (Or.inr ⟨hlen, T, rfl⟩)
        exact ⟨a, b.up (by omega)⟩

