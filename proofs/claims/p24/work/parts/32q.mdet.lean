/-! ===== programs that look at marked cells alone ===== -/
def trk (k : Nat) : Bool := !([40, 42, 49, 50, 52, 53, 55, 61, 62, 69].contains k)
/-- v has at least u's marks, and at u's marks the same values (but for the cells that are not kept track of) -/
def Ag (u v : GS) : Prop := (∀ k, trk k = true → u.2.1 k = true → v.2.1 k = true ∧ v.1.1 k = u.1.1 k) ∧ ∀ k j, trk k = true → u.2.2 k j = true → v.2.2 k j = true ∧ v.1.2 k j = u.1.2 k j
/-- the source is the kept text -/
def Sk (c : Bool) (u : GS) : Prop := c = true → u.2.1 41 = true ∧ u.1.1 41 = 1
def Det {β : Type} (c : Bool) (p : PG β) : Prop := ∀ u v : GS, Ag u v → Sk c u → ∀ (r : β) (u1 : GS), p u = some (r, u1) → ∃ v1 : GS, p v = some (r, v1) ∧ Ag u1 v1 ∧ Sk c u1
theorem Ag.trans {u v w : GS} (h1 : Ag u v) (h2 : Ag v w) : Ag u w := ⟨fun k ht h => ⟨(h2.1 k ht (h1.1 k ht h).1).1, (h2.1 k ht (h1.1 k ht h).1).2.trans (h1.1 k ht h).2⟩, fun k j ht h => ⟨(h2.2 k j ht (h1.2 k j ht h).1).1, (h2.2 k j ht (h1.2 k j ht h).1).2.trans (h1.2 k j ht h).2⟩⟩
theorem Det_rt {β : Type} {c : Bool} (x : β) : Det c (prt x) := fun u v h hs r u1 e => by cases e; exact ⟨v, rfl, h, hs⟩
theorem Det_no {β : Type} {c : Bool} : Det c (fun _ => none : PG β) := fun _ _ _ _ _ _ e => by cases e
theorem Det_og {β : Type} {c : Bool} {b : Bool} {p : PG β} (hp : Det c p) : Det c (pog b p) := fun u v h hs r u1 e => by
  obtain ⟨hb, e⟩ := pog_some e
  subst hb
  exact hp u v h hs r u1 e
theorem Det_li {β : Type} {c : Bool} {x : Int32} {q : Int32 → PG β} (hq : ∀ x, Det c (q x)) : Det c (pli x q) := hq x
theorem Det_cl {α β : Type} {c : Bool} {p : PG α} {q : α → PG β} (hp : Det c p) (hq : ∀ a, Det c (q a)) : Det c (pcl p q) := fun u v h hs r u1 e => by
  obtain ⟨a, w1, e1, e2⟩ := pcl_some e
  obtain ⟨v1, f1, g1, s1⟩ := hp u v h hs a w1 e1
  obtain ⟨v2, f2, g2, s2⟩ := hq a w1 v1 g1 s1 r u1 e2
  exact ⟨v2, by unfold pcl; rw [f1]; exact f2, g2, s2⟩
theorem Det_oi {β : Type} {c : Bool} {x : Option Int32} {q : Int32 → PG β} (hq : ∀ x, Det c (q x)) : Det c (poi x q) := by
  cases x with
  | none => exact Det_no
  | some a => exact hq a
theorem Det_ot {β : Type} {c : Bool} {x : Option Int32} {n : PG β} {q : Int32 → PG β} (hn : Det c n) (hq : ∀ x, Det c (q x)) : Det c (pot x n q) := by
  cases x with
  | none => exact hn
  | some a => exact hq a
theorem Det_ite {β : Type} {c : Bool} {b : Prop} [Decidable b] {p q : PG β} (hp : Det c p) (hq : Det c q) : Det c (if b then p else q) := by
  by_cases h : b
  · rw [if_pos h]; exact hp
  · rw [if_neg h]; exact hq
theorem Det_rf {β : Type} {c : Bool} {k : Nat} {q : Int32 → PG β} (hk : trk k = true) (hq : ∀ x, Det c (q x)) : Det c (prf k q) := fun u v h hs r u1 e => by
  unfold prf at e
  cases hb : u.2.1 k with
  | false => rw [hb] at e; cases e
  | true =>
    rw [hb] at e
    obtain ⟨v1, f1, g1, s1⟩ := hq _ u v h hs r u1 e
    refine ⟨v1, ?_, g1, s1⟩
    unfold prf
    rw [(h.1 k hk hb).1, (h.1 k hk hb).2]
    exact f1
theorem Det_rd {β : Type} {c : Bool} {k n : Nat} {i : Int32} {q : Int32 → PG β} (hk : trk k = true) (hq : ∀ x, Det c (q x)) : Det c (prd k n i q) := fun u v h hs r u1 e => by
  unfold prd at e
  cases hb : gi i n && u.2.2 k i.toNatClampNeg with
  | false => rw [hb] at e; cases e
  | true =>
    rw [hb] at e
    obtain ⟨b1, b2⟩ := Bool.and_eq_true_iff.mp hb
    obtain ⟨v1, f1, g1, s1⟩ := hq _ u v h hs r u1 e
    refine ⟨v1, ?_, g1, s1⟩
    unfold prd
    rw [b1, (h.2 k _ hk b2).1]
    have hr : ra v.1 k i = ra u.1 k i := (h.2 k _ hk b2).2
    rw [hr]
    exact f1
theorem Det_wf {β : Type} {c : Bool} {k : Nat} {x : Int32} {p : PG β} (hk : ¬ k = 41) (hp : Det c p) : Det c (pwf k x p) := fun u v h hs r u1 e => by
  refine hp (swf k x u) (swf k x v) ⟨fun j ht hj => ?_, h.2⟩ (fun hc => ?_) r u1 e
  · by_cases hjk : j = k
    · refine ⟨if_pos hjk, ?_⟩
      show (if j = k then x else v.1.1 j) = (if j = k then x else u.1.1 j)
      rw [if_pos hjk, if_pos hjk]
    · have hj' : u.2.1 j = true := by
        have hj2 : (if j = k then true else u.2.1 j) = true := hj
        rw [if_neg hjk] at hj2
        exact hj2
      refine ⟨(if_neg hjk).trans (h.1 j ht hj').1, ?_⟩
      show (if j = k then x else v.1.1 j) = (if j = k then x else u.1.1 j)
      rw [if_neg hjk, if_neg hjk]
      exact (h.1 j ht hj').2
  · refine ⟨(if_neg (fun z => hk z.symm)).trans (hs hc).1, ?_⟩
    show (if 41 = k then x else u.1.1 41) = 1
    rw [if_neg (fun z => hk z.symm)]
    exact (hs hc).2
theorem Det_wd {β : Type} {c : Bool} {k n : Nat} {i x : Int32} {p : PG β} (hp : Det c p) : Det c (pwd k n i x p) := fun u v h hs r u1 e => by
  unfold pwd at e
  cases hb : gi i n with
  | false => rw [hb] at e; cases e
  | true =>
    rw [hb] at e
    have hag : Ag (swd k i x u) (swd k i x v) := by
      refine ⟨h.1, fun a j ht hj => ?_⟩
      by_cases hak : a = k
      · subst hak
        by_cases hji : j = i.toNatClampNeg
        · refine ⟨by show (if a = a then (if j = i.toNatClampNeg then true else _) else _) = true; rw [if_pos rfl, if_pos hji], ?_⟩
          show (if a = a then upd (v.1.2 a) i.toNatClampNeg x else _) j = (if a = a then upd (u.1.2 a) i.toNatClampNeg x else _) j
          rw [if_pos rfl, if_pos rfl]
          show (if j = i.toNatClampNeg then x else _) = (if j = i.toNatClampNeg then x else _)
          rw [if_pos hji, if_pos hji]
        · have hj' : u.2.2 a j = true := by
            have hj2 : (if a = a then (if j = i.toNatClampNeg then true else u.2.2 a j) else u.2.2 a j) = true := hj
            rw [if_pos rfl, if_neg hji] at hj2
            exact hj2
          refine ⟨by show (if a = a then (if j = i.toNatClampNeg then true else v.2.2 a j) else _) = true; rw [if_pos rfl, if_neg hji]; exact (h.2 a j ht hj').1, ?_⟩
          show (if a = a then upd (v.1.2 a) i.toNatClampNeg x else _) j = (if a = a then upd (u.1.2 a) i.toNatClampNeg x else _) j
          rw [if_pos rfl, if_pos rfl]
          show (if j = i.toNatClampNeg then x else v.1.2 a j) = (if j = i.toNatClampNeg then x else u.1.2 a j)
          rw [if_neg hji, if_neg hji]
          exact (h.2 a j ht hj').2
      · have hj' : u.2.2 a j = true := by
          have hj2 : (if a = k then (if j = i.toNatClampNeg then true else u.2.2 k j) else u.2.2 a j) = true := hj
          rw [if_neg hak] at hj2
          exact hj2
        refine ⟨by show (if a = k then _ else v.2.2 a j) = true; rw [if_neg hak]; exact (h.2 a j ht hj').1, ?_⟩
        show (if a = k then _ else v.1.2 a) j = (if a = k then _ else u.1.2 a) j
        rw [if_neg hak, if_neg hak]
        exact (h.2 a j ht hj').2
    obtain ⟨v1, f1, g1, s1⟩ := hp (swd k i x u) (swd k i x v) hag hs r u1 e
    refine ⟨v1, ?_, g1, s1⟩
    unfold pwd
    rw [hb]
    exact f1
theorem Det_sr {β : Type} {i : Int32} {q : Int32 → PG β} (hq : ∀ x, Det true (q x)) : Det true (psr i q) := fun u v h hs r u1 e => by
  obtain ⟨hs1, hs2⟩ := hs rfl
  have hn : ¬ (1 : Int32) = 0 := by decide
  unfold psr at e
  cases hb : u.2.1 41 && (gi i 3000 && (decide (u.1.1 41 = 0) || u.2.2 56 i.toNatClampNeg)) with
  | false => rw [hb] at e; cases e
  | true =>
    rw [hb] at e
    obtain ⟨b1, b2⟩ := Bool.and_eq_true_iff.mp (Bool.and_eq_true_iff.mp hb).2
    rw [hs2, decide_eq_false hn, Bool.false_or] at b2
    obtain ⟨v1, f1, g1, s1⟩ := hq _ u v h hs r u1 e
    refine ⟨v1, ?_, g1, s1⟩
    have hv := h.1 41 (by decide) hs1
    have ha := h.2 56 _ (by decide) b2
    unfold psr
    rw [hv.1, b1, hv.2, hs2, decide_eq_false hn, ha.1]
    have hr : rz v.1 i = rz u.1 i := by
      unfold rz
      rw [hv.2, hs2, if_neg hn, if_neg hn]
      exact ha.2
    rw [hr]
    exact f1
theorem Ag.clL {u v : GS} (h : Ag u v) : Ag (sclL u) (sclL v) := by
  refine ⟨fun k ht hk => ?_, fun k j ht hk => ?_⟩
  · have hk2 : (if [27, 28, 29, 30, 31].contains k = true then false else u.2.1 k) = true := hk
    by_cases hc : [27, 28, 29, 30, 31].contains k = true
    · rw [if_pos hc] at hk2; cases hk2
    · rw [if_neg hc] at hk2
      refine ⟨?_, (h.1 k ht hk2).2⟩
      show (if [27, 28, 29, 30, 31].contains k = true then false else v.2.1 k) = true
      rw [if_neg hc]
      exact (h.1 k ht hk2).1
  · have hk2 : (if [32, 33, 34, 35, 36, 37].contains k = true then false else u.2.2 k j) = true := hk
    by_cases hc : [32, 33, 34, 35, 36, 37].contains k = true
    · rw [if_pos hc] at hk2; cases hk2
    · rw [if_neg hc] at hk2
      refine ⟨?_, (h.2 k j ht hk2).2⟩
      show (if [32, 33, 34, 35, 36, 37].contains k = true then false else v.2.2 k j) = true
      rw [if_neg hc]
      exact (h.2 k j ht hk2).1
theorem Det_clL {β : Type} {c : Bool} {p : PG β} (hp : Det c p) : Det c (pclL p) := fun u v h hs r u1 e => hp (sclL u) (sclL v) h.clL (fun hc => ⟨(hs hc).1, (hs hc).2⟩) r u1 e
theorem Ag.clr {u v : GS} (h : Ag u v) : Ag (sclr u) (sclr v) := by
  refine ⟨fun k ht hk => ?_, fun k j ht hk => ?_⟩
  · have hk2 : (if clrI k = true then false else u.2.1 k) = true := hk
    by_cases hc : clrI k = true
    · rw [if_pos hc] at hk2; cases hk2
    · rw [if_neg hc] at hk2
      refine ⟨?_, (h.1 k ht hk2).2⟩
      show (if clrI k = true then false else v.2.1 k) = true
      rw [if_neg hc]
      exact (h.1 k ht hk2).1
  · have hk2 : (if clrA k = true then false else u.2.2 k j) = true := hk
    by_cases hc : clrA k = true
    · rw [if_pos hc] at hk2; cases hk2
    · rw [if_neg hc] at hk2
      refine ⟨?_, (h.2 k j ht hk2).2⟩
      show (if clrA k = true then false else v.2.2 k j) = true
      rw [if_neg hc]
      exact (h.2 k j ht hk2).1
theorem Det_clr {β : Type} {p : PG β} (hp : Det false p) : Det false (pclr p) := fun u v h _ r u1 e => hp (sclr u) (sclr v) h.clr (fun hc => by cases hc) r u1 e
theorem Det.weaken {β : Type} {p : PG β} (h : Det false p) (hk : ∀ u r u1, p u = some (r, u1) → Sk true u → Sk true u1) : Det true p := fun u v a s r u1 e => by
  obtain ⟨v1, f1, g1, -⟩ := h u v a (fun z => by cases z) r u1 e
  exact ⟨v1, f1, g1, hk u r u1 e s⟩

