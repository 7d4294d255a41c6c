/-! ===== what the log leaves of a class stays where its cells stay ===== -/
def nFi (B : Nat → Int32) (c : Nat) : Nat := if B (6 + 36 * c) = 1 then zN B c * (zN B c - 1) / 2 else if B (6 + 36 * c) = 2 then zN B c - 1 + 2 * stL (zN B c) else 0
/-- no mark is stale -/
def NSt (B : Nat → Int32) (c : Nat) : Prop := ∀ i, i < nFi B c → i < 37 → ¬ mkF B c i = 0 → B (fc c i + 1) = bWh B c i ∧ B (fc c i + 2) = bBl B c i
theorem NT.to {B B2 : Nat → Int32} {c : Nat} (h : NT B c) (a : Acc B B2 c) (hf : ∀ p f, p < zN B c → f < 96 → pl B c p = nI f → B2 (153 + 7 * f) = B (153 + 7 * f)) : NT B2 c := by
  intro hk
  rw [a.2.2.1] at hk
  obtain ⟨m, w, p, l⟩ := h hk
  have ez : zN B2 c = zN B c := by
    unfold zN
    rw [a.2.2.2]
  obtain ⟨f1, f2, f3⟩ := a.fn
  obtain ⟨-, -, -, ta, tb, -, lo, -, la, -, -, -⟩ := a.all
  rw [ez]
  refine ⟨fun i hi hm => ?_, fun i hi hm => ?_, fun q f hq hf9 e => ?_, fun s t hs h1 h2 hm => ?_⟩
  · rw [f2] at hm
    rw [ta, tb]
    exact m i hi hm
  · rw [f2] at hm
    rw [ta, tb, f3]
    exact w i hi hm
  · rw [f1] at e
    rw [hf q f hq hf9 e]
    exact p q f hq hf9 e
  · rw [f2] at hm
    rw [la, lo]
    exact l s t hs h1 h2 hm
theorem NSt.to {B B2 : Nat → Int32} {c : Nat} (h : NSt B c) (a : Acc B B2 c) (hx : ∀ i, i < 37 → B2 (fc c i + 1) = B (fc c i + 1) ∧ B2 (fc c i + 2) = B (fc c i + 2)) : NSt B2 c := by
  have ez : zN B2 c = zN B c := by
    unfold zN
    rw [a.2.2.2]
  have en : nFi B2 c = nFi B c := by
    unfold nFi
    rw [ez, a.2.2.1]
  obtain ⟨f1, f2, f3⟩ := a.fn
  obtain ⟨-, -, -, ta, tb, -, lo, -, la, -, qa, qb⟩ := a.all
  intro i hi h37 hm
  rw [en] at hi
  rw [f2] at hm
  obtain ⟨z1, z2⟩ := h i hi h37 hm
  obtain ⟨y1, y2⟩ := hx i h37
  rw [y1, y2, z1, z2]
  unfold bWh bBl q1 q2
  rw [ez, a.2.2.1, ta, tb, lo, la, qa, qb]
  exact ⟨rfl, rfl⟩
/-- the cells of the drawn classes are as they were -/
def Qt (B B2 : Nat → Int32) (F : Nat) : Prop := (∀ c, c < 4 → ∀ j, 6 + 36 * c ≤ j → j < 40 + 36 * c → B2 j = B j) ∧ (∀ j, 820 ≤ j → j < 2004 → B2 j = B j) ∧ ∀ f, f < F → B2 (153 + 7 * f) = B (153 + 7 * f)
theorem Qt.acc {B B2 : Nat → Int32} {F c : Nat} (h : Qt B B2 F) (hc : c < 4) : Acc B B2 c := by
  refine ⟨fun p hp => h.1 c hc _ (by omega) (by omega), fun i hi => ?_, h.1 c hc _ (by omega) (by omega), h.1 c hc _ (by omega) (by omega)⟩
  exact ⟨h.2.1 _ (by unfold fc; omega) (by unfold fc; omega), h.2.1 _ (by unfold fc; omega) (by unfold fc; omega)⟩
/-- the whole of what both sides hold between two calls, but the laws -/
def R1 (B : Nat → Int32) (w : GS) : Prop := R0 B w ∧ ∀ c, c < 4 → NT B c ∧ NSt B c
theorem R1.quiet {B B2 : Nat → Int32} {w w2 : GS} (h : R1 B w) (hI : Inv w) (h2 : R0 B2 w2) (hq : Qt B B2 (nF w)) (hK : ∀ c, c < 4 → B (6 + 36 * c) = 2 → ∃ L, Tre w c L) : R1 B2 w2 := by
  refine ⟨h2, fun c hc => ?_⟩
  obtain ⟨n, s⟩ := h.2 c hc
  have a := hq.acc hc
  refine ⟨?_, s.to a (fun i hi => ⟨hq.2.1 _ (by unfold fc; omega) (by unfold fc; omega), hq.2.1 _ (by unfold fc; omega) (by unfold fc; omega)⟩)⟩
  intro hk2
  have hk : B (6 + 36 * c) = 2 := by
    rw [← a.2.2.1]
    exact hk2
  obtain ⟨L, hT⟩ := hK c hc hk
  obtain ⟨e6, e7, ez⟩ := (h.1.kz hc).2 L hT
  refine n.to a (fun p f hp hf9 e => ?_) hk2
  rw [ez] at hp
  rcases plT h.1 hT hp with y | ⟨g, hg, y, hP⟩
  · rw [e] at y
    exact absurd y (nI_ne_1 (by omega))
  · have : f = g := (nI_eq (by omega) (by omega)).mp (e.symm.trans y)
    subst this
    exact hq.2.2 f hP.1

