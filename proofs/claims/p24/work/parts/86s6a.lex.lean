/-! ===== the tape, and a token, as numbers ===== -/
theorem CN_RFx {β : Type} {k : Nat} {x : Int32} {q : Int32 → NG β} {u : MS} {Q : β → MS → Prop} (h : u.1 k = x) (hq : CN (q x) u Q) : CN (ncl (nRF k) q) u Q := CN_rd (by show some (u.1 k, u) = some (x, u); rw [h]) hq
theorem CN_WFx {β : Type} {k : Nat} {x : Int32} {q : Unit → NG β} {u : MS} {Q : β → MS → Prop} (h : CN (q ()) (si u k x) Q) : CN (ncl (nWF k x) q) u Q := h
theorem siE (u : MS) (k : Nat) (x : Int32) : (si u k x).1 k = x := if_pos rfl
theorem siO {u : MS} {k j : Nat} {x : Int32} (h : ¬ j = k) : (si u k x).1 j = u.1 j := if_neg h
theorem siA {u : MS} {k : Nat} {x : Int32} : (si u k x).2 = u.2 := rfl
def sb (t : Nat) : Int32 := if t < 128 then nI t else nI t - 256
theorem sb_and : ∀ t < 256, sb t &&& 255 = nI t := by decide +kernel
theorem sb_neg : ∀ t < 256, 128 ≤ t → sb t < 0 := by decide +kernel
theorem sb_eq {t c : Nat} (ht : t < 256) (hc : c < 128) : sb t = nI c ↔ t = c := by
  by_cases h : t < 128
  · unfold sb
    rw [if_pos h]
    exact nI_eq (by omega) (by omega)
  · refine ⟨fun z => ?_, fun z => by omega⟩
    have h1 := sb_neg t ht (by omega)
    rw [z] at h1
    exact absurd h1 (nI_nn (by omega))
theorem sb_inj {t c : Nat} (ht : t < 256) (hc : c < 256) : sb t = sb c ↔ t = c := by
  refine ⟨fun z => ?_, fun z => by rw [z]⟩
  have h1 := sb_and t ht
  rw [z, sb_and c hc] at h1
  exact ((nI_eq (by omega) (by omega)).mp h1).symm
abbrev tBl (t : Nat) : Prop := t = 32 ∨ t = 10
abbrev tLe (t : Nat) : Prop := 97 ≤ t ∧ t ≤ 122
abbrev tDi (t : Nat) : Prop := 48 ≤ t ∧ t ≤ 57
theorem e_isBlank {t : Nat} (ht : t < 256) : x_X10_isBlank (nI t) = nrt (if tBl t then 1 else 0) := by
  unfold x_X10_isBlank
  by_cases h1 : t = 32
  · rw [if_pos (show nI t = (32 : Int32) by rw [h1]; rfl), if_pos (Or.inl h1)]
  · rw [if_neg (fun z : nI t = (32 : Int32) => h1 ((nI_eq (a := t) (b := 32) (by omega) (by decide)).mp z))]
    by_cases h2 : t = 10
    · rw [if_pos (show nI t = (10 : Int32) by rw [h2]; rfl), if_pos (Or.inr h2)]
    · rw [if_neg (fun z : nI t = (10 : Int32) => h2 ((nI_eq (a := t) (b := 10) (by omega) (by decide)).mp z)), if_neg (by omega)]
theorem e_isLetter {t : Nat} (ht : t < 256) : x_X10_isLetter (nI t) = nrt (if tLe t then 1 else 0) := by
  unfold x_X10_isLetter
  by_cases h1 : t < 97
  · rw [if_pos (show nI t < (97 : Int32) from (nI_ltI (b := 97) (by omega) (by decide)).mpr h1), if_neg (by omega)]
  · rw [if_neg (fun z : nI t < (97 : Int32) => h1 ((nI_ltI (b := 97) (by omega) (by decide)).mp z))]
    by_cases h2 : 122 < t
    · rw [if_pos (show (122 : Int32) < nI t from (nI_ltI (a := 122) (by decide) (by omega)).mpr h2), if_neg (by omega)]
    · rw [if_neg (fun z : (122 : Int32) < nI t => h2 ((nI_ltI (a := 122) (by decide) (by omega)).mp z)), if_pos (by omega)]
theorem e_isDigit {t : Nat} (ht : t < 256) : x_X10_isDigit (nI t) = nrt (if tDi t then 1 else 0) := by
  unfold x_X10_isDigit
  by_cases h1 : t < 48
  · rw [if_pos (show nI t < (48 : Int32) from (nI_ltI (b := 48) (by omega) (by decide)).mpr h1), if_neg (by omega)]
  · rw [if_neg (fun z : nI t < (48 : Int32) => h1 ((nI_ltI (b := 48) (by omega) (by decide)).mp z))]
    by_cases h2 : 57 < t
    · rw [if_pos (show (57 : Int32) < nI t from (nI_ltI (a := 57) (by decide) (by omega)).mpr h2), if_neg (by omega)]
    · rw [if_neg (fun z : (57 : Int32) < nI t => h2 ((nI_ltI (a := 57) (by decide) (by omega)).mp z)), if_pos (by omega)]
def Run (P : Nat → Prop) (T : Nat → Nat) (N b b2 : Nat) : Prop := b ≤ b2 ∧ b2 ≤ N ∧ (∀ i, b ≤ i → i < b2 → P (T i)) ∧ (b2 < N → ¬ P (T b2))
theorem Run.un {P : Nat → Prop} {T : Nat → Nat} {N b c d : Nat} (h1 : Run P T N b c) (h2 : Run P T N b d) : c = d := by
  obtain ⟨a1, a2, a3, a4⟩ := h1
  obtain ⟨b1, b2, b3, b4⟩ := h2
  rcases Nat.lt_trichotomy c d with z | z | z
  · exact absurd (b3 c a1 z) (a4 (by omega))
  · exact z
  · exact absurd (a3 d b1 z) (b4 (by omega))
def vl (T : Nat → Nat) (a : Nat) : Nat → Nat
  | 0 => 0
  | m + 1 => 10 * vl T a m + (T (a + m) - 48)
theorem vl_s (T : Nat → Nat) (a m : Nat) : vl T a (m + 1) = 10 * vl T a m + (T (a + m) - 48) := rfl
section
variable {T : Nat → Nat} {N : Nat} {u0 : MS}
def TC (T : Nat → Nat) (N : Nat) (u : MS) : Prop := N ≤ 3000 ∧ u.1 2 = nI N ∧ ∀ i, i < N → T i < 256 ∧ u.2 4 i = nI (T i)
theorem TC.sm {T : Nat → Nat} {N : Nat} {u v : MS} {LI LA : List Nat} (h : TC T N u) (hs : Same LI LA u v) (h2 : ¬ 2 ∈ LI) (h4 : ¬ 4 ∈ LA) : TC T N v := ⟨h.1, (hs.1 2 h2).trans h.2.1, fun i hi => ⟨(h.2.2 i hi).1, by rw [hs.2 4 h4]; exact (h.2.2 i hi).2⟩⟩
theorem TC.gt {T : Nat → Nat} {N : Nat} {u : MS} (h : TC T N u) {i : Nat} (hi : i < N) : rg (u.2 4) 3000 (nI i) = nI (T i) := by
  rw [rg_in (by have := h.1; omega) (by decide)]
  exact (h.2.2 i hi).2
theorem c_skip (hT : TC T N u0) (K : NG Int32) (Q : Int32 → MS → Prop) (b0 : Nat) (hK : ∀ v b, Same [3, 4, 5, 6] [] u0 v → v.1 3 = nI b → Run tBl T N b0 b → CN K v Q) :
    ∀ (g b : Nat) (v : MS), b0 ≤ b → b ≤ N → (∀ i, b0 ≤ i → i < b → tBl (T i)) → Same [3, 4, 5, 6] [] u0 v → v.1 3 = nI b → CN (xl_X10_readToken_0 g K) v Q := by
  intro g
  induction g with
  | zero => exact fun b v _ _ _ _ _ r w e => by cases e
  | succ g ih =>
    intro b v h1 h2 h3 hs hb
    have hv := hT.sm hs (by decide) (by decide)
    have hN := hT.1
    unfold xl_X10_readToken_0
    refine CN_RFx hb (CN_RFx hv.2.1 (CN_ite (fun z => ?_) (fun z => CN_RFx hb (CN_GT ?_))))
    · exact hK v b hs hb ⟨h1, h2, h3, fun y => absurd ((nI_leI (by omega) (by omega)).mp z) (by omega)⟩
    · have hlt : b < N := Nat.not_le.mp (fun y => z (nI_le y (by omega)))
      rw [hv.gt hlt, e_isBlank (hv.2.2 b hlt).1, ncl_rt]
      by_cases hB : tBl (T b)
      · rw [if_pos hB]
        refine CN_ite (fun z => absurd z (by decide)) (fun _ => CN_RFx hb (CN_WFx ?_))
        rw [nI_1]
        refine ih (b + 1) _ (by omega) (by omega) (fun i hi1 hi2 => ?_) (hs.trans (Same_si (by decide))) (siE _ _ _)
        by_cases he : i = b
        · rw [he]; exact hB
        · exact h3 i hi1 (by omega)
      · rw [if_neg hB]
        exact CN_ite (fun _ => hK v b hs hb ⟨h1, h2, h3, fun _ => hB⟩) (fun z => absurd rfl z)
theorem c_word (hT : TC T N u0) (K : NG Int32) (Q : Int32 → MS → Prop) (b0 : Nat) (hK : ∀ v b, Same [3, 4, 5, 6] [] u0 v → v.1 3 = nI b → v.1 5 = u0.1 5 → Run tLe T N b0 b → CN K v Q) :
    ∀ (g b : Nat) (v : MS), b0 ≤ b → b ≤ N → (∀ i, b0 ≤ i → i < b → tLe (T i)) → Same [3, 4, 5, 6] [] u0 v → v.1 5 = u0.1 5 → v.1 3 = nI b → CN (xl_X10_readWord_0 g K) v Q := by
  intro g
  induction g with
  | zero => exact fun b v _ _ _ _ _ _ r w e => by cases e
  | succ g ih =>
    intro b v h1 h2 h3 hs h5 hb
    have hv := hT.sm hs (by decide) (by decide)
    have hN := hT.1
    unfold xl_X10_readWord_0
    refine CN_RFx hb (CN_RFx hv.2.1 (CN_ite (fun z => ?_) (fun z => CN_RFx hb (CN_GT ?_))))
    · exact hK v b hs hb h5 ⟨h1, h2, h3, fun y => absurd ((nI_leI (by omega) (by omega)).mp z) (by omega)⟩
    · have hlt : b < N := Nat.not_le.mp (fun y => z (nI_le y (by omega)))
      rw [hv.gt hlt, e_isLetter (hv.2.2 b hlt).1, ncl_rt]
      by_cases hB : tLe (T b)
      · rw [if_pos hB]
        refine CN_ite (fun z => absurd z (by decide)) (fun _ => CN_RFx hb (CN_WFx ?_))
        rw [nI_1]
        refine ih (b + 1) _ (by omega) (by omega) (fun i hi1 hi2 => ?_) (hs.trans (Same_si (by decide))) ((siO (by decide)).trans h5) (siE _ _ _)
        by_cases he : i = b
        · rw [he]; exact hB
        · exact h3 i hi1 (by omega)
      · rw [if_neg hB]
        exact CN_ite (fun _ => hK v b hs hb h5 ⟨h1, h2, h3, fun _ => hB⟩) (fun z => absurd rfl z)
theorem num_step {x t : Nat} (ht : 48 ≤ t) : (10 * nI x + nI t) - 48 = nI (10 * x + (t - 48)) := by
  have a1 : (10 : Int32) * nI x = nI (10 * x) := by rw [← nI_mul]; rfl
  have a2 : nI (10 * x + t) - 48 = nI (10 * x + t - 48) := nI_sub (b := 48) (by omega)
  rw [a1, nI_add, a2, show 10 * x + t - 48 = 10 * x + (t - 48) by omega]
theorem c_number (hT : TC T N u0) (K : NG Int32) (Q : Int32 → MS → Prop) (a : Nat) (h5 : u0.1 5 = nI a) (hK : ∀ v b, Same [3, 4, 5, 6] [] u0 v → v.1 3 = nI b → v.1 5 = nI a → v.1 6 = nI (vl T a (min 4 (b - a))) → Run tDi T N a b → CN K v Q) :
    ∀ (g b : Nat) (v : MS), a ≤ b → b ≤ N → (∀ i, a ≤ i → i < b → tDi (T i)) → Same [3, 4, 5, 6] [] u0 v → v.1 5 = nI a → v.1 6 = nI (vl T a (min 4 (b - a))) → v.1 3 = nI b → CN (xl_X10_readNumber_5 g K) v Q := by
  intro g
  induction g with
  | zero => exact fun b v _ _ _ _ _ _ _ r w e => by cases e
  | succ g ih =>
    intro b v h1 h2 h3 hs h5 h6 hb
    have hv := hT.sm hs (by decide) (by decide)
    have hN := hT.1
    unfold xl_X10_readNumber_5
    refine CN_RFx hb (CN_RFx hv.2.1 (CN_ite (fun z => ?_) (fun z => CN_RFx hb (CN_GT ?_))))
    · exact hK v b hs hb h5 h6 ⟨h1, h2, h3, fun y => absurd ((nI_leI (by omega) (by omega)).mp z) (by omega)⟩
    · have hlt : b < N := Nat.not_le.mp (fun y => z (nI_le y (by omega)))
      rw [hv.gt hlt, e_isDigit (hv.2.2 b hlt).1, ncl_rt]
      by_cases hB : tDi (T b)
      · rw [if_pos hB]
        have hin : ∀ i, a ≤ i → i < b + 1 → tDi (T i) := fun i hi1 hi2 => by
          by_cases he : i = b
          · rw [he]; exact hB
          · exact h3 i hi1 (by omega)
        refine CN_ite (fun z => absurd z (by decide)) (fun _ => CN_RFx hb (CN_RFx h5 ?_))
        rw [nI_sub h1]
        refine CN_ite (fun z4 => CN_RFx hb (CN_WFx ?_)) (fun z4 => CN_RFx h6 (CN_RFx hb (CN_GT ?_)))
        · have h4 := (nI_leI (a := 4) (b := b - a) (by decide) (by omega)).mp z4
          rw [nI_1]
          refine ih (b + 1) _ (by omega) (by omega) hin (hs.trans (Same_si (by decide))) ((siO (by decide)).trans h5) ?_ (siE _ _ _)
          rw [siO (by decide), h6, show min 4 (b + 1 - a) = min 4 (b - a) by omega]
        · have h4 : b - a < 4 := Nat.not_le.mp (fun y => z4 (nI_le (a := 4) y (by omega)))
          rw [hv.gt hlt, num_step hB.1]
          refine CN_WFx (CN_RFx ((siO (by decide)).trans hb) (CN_WFx ?_))
          rw [nI_1]
          refine ih (b + 1) _ (by omega) (by omega) hin ((hs.trans (Same_si (by decide))).trans (Same_si (by decide))) ((siO (by decide)).trans ((siO (by decide)).trans h5)) ?_ (siE _ _ _)
          rw [siO (by decide), siE, show min 4 (b + 1 - a) = min 4 (b - a) + 1 by omega, vl_s, show a + min 4 (b - a) = b by omega]
      · rw [if_neg hB]
        exact CN_ite (fun _ => hK v b hs hb h5 h6 ⟨h1, h2, h3, fun _ => hB⟩) (fun z => absurd rfl z)
end
