/-! ===== a token in the reference, exactly ===== -/
def TR (T : Nat → Nat) (N : Nat) (w : GS) : Prop := Tx w N ∧ True ∧ ∀ i, i < N → T i < 256 ∧ rz w.1 (nI i) = sb (T i)
theorem rz_fr {v w : MS} {i : Int32} (h1 : v.1 41 = w.1 41) (h2 : v.2 40 = w.2 40) (h3 : v.2 56 = w.2 56) : rz v i = rz w i := by
  unfold rz ra
  rw [h1, h2, h3]
def rkk (T : Nat → Nat) (N a b : Nat) : Nat := if a < N then (if tLe (T a) then (if b - a ≤ 10 then 1 else 4) else if tDi (T a) then (if b - a ≤ 4 then 2 else 4) else if mkk (T a) (eqn T N (a + 1)) = 1 then 4 else 3) else 0
def TokR (T : Nat → Nat) (N b0 : Nat) (w v : GS) : Prop := ∃ a b, Run tBl T N b0 a ∧ TkE T N a b ∧ ScF w v ∧ Im v 44 (nI a) ∧ Im v 45 (nI b) ∧ Im v 46 (nI (rkk T N a b)) ∧ (rkk T N a b = 2 → Im v 47 (nI (vl T a (min 4 (b - a)))))
theorem idx_neg : ∀ t < 256, ((fj_indexOf 0 (((nI t).toUInt32 % 65536).toInt32)).getD 0 < 0 ↔ mkk t false = 1) := by decide +kernel
section
variable {T : Nat → Nat} {N : Nat} {w : GS}
theorem TR.sc {v : GS} (h : TR T N w) (hs : ScF w v) : TR T N v := by
  obtain ⟨a, b, c⟩ := h
  refine ⟨a.sc hs, trivial, fun i hi => ⟨(c i hi).1, ?_⟩⟩
  rw [← (c i hi).2]
  exact rz_fr (hs.2.2 41 (by decide)).1 (by rw [hs.1]) (by rw [hs.1])
theorem Ok_srT {β : Type} {j : Nat} {ix : Int32} {c : Int32 → PG β} {Q : β → GS → Prop} (h : TR T N w) (hi : ix = nI j) (hj : j < N) (hq : Ok (c (sb (T j))) w Q) : Ok (psr ix c) w Q := by
  subst hi
  have h3 := h.1.2.2.2
  have hm : w.1.1 41 = 0 ∨ w.2.2 56 (nI j).toNatClampNeg = true := by
    rcases h.1.2.1 with z | z
    · exact Or.inl z
    · rw [nI_clamp (by omega)]
      exact Or.inr (z j hj)
  refine Ok_sr h.1.1 (gi_nI (by omega) (by decide)) hm ?_
  rw [(h.2.2 j hj).2]
  exact hq
def byt (T : Nat → Nat) (N k : Nat) : Nat := if k < N then T k else 0
theorem byt_lt (h : TR T N w) (k : Nat) : byt T N k < 256 := by
  unfold byt
  by_cases hz : k < N
  · rw [if_pos hz]; exact (h.2.2 k hz).1
  · rw [if_neg hz]; decide
theorem r_byte (h : TR T N w) (k : Nat) (hk : k < 4000) : Rd (f_byteAt (nI k)) w (fun r => r = nI (byt T N k)) := by
  have h3 := h.1.2.2.2
  unfold f_byteAt
  refine Rd_rfN h.1.2.2.1 (Rd_ite (fun z => Rd_rt ?_) (fun z => Ok_srT h rfl (Nat.not_le.mp (fun y => z (nI_le y (by omega)))) (Rd_rt ?_)))
  · unfold byt
    rw [if_neg (by have := (nI_leI (by omega) (by omega)).mp z; omega)]
    rfl
  · have hlt : k < N := Nat.not_le.mp (fun y => z (nI_le y (by omega)))
    unfold byt
    rw [if_pos hlt]
    exact sb_and _ (h.2.2 k hlt).1
theorem r_letter {t : Nat} (ht : t < 256) (v : GS) : Rd (f_isLetter (nI t)) v (fun r => r = if tLe t then 1 else 0) := by
  unfold f_isLetter
  have a1 : nI t < (97 : Int32) ↔ t < 97 := nI_ltI (b := 97) (by omega) (by decide)
  have a2 : (122 : Int32) < nI t ↔ 122 < t := nI_ltI (a := 122) (by decide) (by omega)
  refine Rd_ite (fun z => Rd_rt ?_) (fun z => Rd_ite (fun z2 => Rd_rt ?_) (fun z2 => Rd_rt ?_))
  · rw [if_neg (by have := a1.mp z; omega)]
  · rw [if_neg (by have := a2.mp z2; omega)]
  · rw [if_pos ⟨Nat.not_lt.mp (fun y => z (a1.mpr y)), Nat.not_lt.mp (fun y => z2 (a2.mpr y))⟩]
theorem r_digit {t : Nat} (ht : t < 256) (v : GS) : Rd (f_isDigit (nI t)) v (fun r => r = if tDi t then 1 else 0) := by
  unfold f_isDigit
  have a1 : nI t < (48 : Int32) ↔ t < 48 := nI_ltI (b := 48) (by omega) (by decide)
  have a2 : (57 : Int32) < nI t ↔ 57 < t := nI_ltI (a := 57) (by decide) (by omega)
  refine Rd_ite (fun z => Rd_rt ?_) (fun z => Rd_ite (fun z2 => Rd_rt ?_) (fun z2 => Rd_rt ?_))
  · rw [if_neg (by have := a1.mp z; omega)]
  · rw [if_neg (by have := a2.mp z2; omega)]
  · rw [if_pos ⟨Nat.not_lt.mp (fun y => z (a1.mpr y)), Nat.not_lt.mp (fun y => z2 (a2.mpr y))⟩]
theorem r_skip (hT : TR T N w) (b0 : Nat) (K : PG Int32) (Q : Int32 → GS → Prop) (hK : ∀ v b, ScF w v → Im v 45 (nI b) → Run tBl T N b0 b → Ok K v Q) :
    ∀ (t b m : Nat) (v : GS), b + t = N → t < m → b0 ≤ b → (∀ i, b0 ≤ i → i < b → tBl (T i)) → ScF w v → Im v 45 (nI b) → Ok (lp_scan_0 m K) v Q := by
  have h4 := hT.1.2.2.2
  intro t
  induction t with
  | zero =>
    intro b m v h1 h2 hb0 hall hs hb
    cases m with
    | zero => omega
    | succ m =>
      have hbN : b = N := by omega
      subst hbN
      unfold lp_scan_0
      exact Ok_rfN hb (Ok_rfN (hT.1.sc hs).2.2.1 (Ok_ite (fun _ => hK v b hs hb ⟨hb0, Nat.le_refl _, hall, fun z => absurd z (Nat.lt_irrefl _)⟩) (fun z => absurd (Int32.le_refl _) z)))
  | succ t ih =>
    intro b m v h1 h2 hb0 hall hs hb
    cases m with
    | zero => omega
    | succ m =>
      have hTv := hT.sc hs
      have ht := (hT.2.2 b (by omega)).1
      have hnext : tBl (T b) → Ok (prf 45 (fun x_12 => pwf 45 (x_12 + 1) (lp_scan_0 m K))) v Q := fun hB => by
        refine Ok_rfN hb (Ok_wf ?_)
        rw [nI_1]
        refine ih (b + 1) m _ (by omega) (by omega) (by omega) (fun i h1 h2 => ?_) (hs.wf 45 _ (by decide)) swf_e
        by_cases he : i = b
        · rw [he]; exact hB
        · exact hall i h1 (by omega)
      unfold lp_scan_0
      refine Ok_rfN hb (Ok_rfN hTv.1.2.2.1 (Ok_ite (fun z => absurd z (nI_ge (by omega) (by omega))) (fun _ => ?_)))
      refine Ok_rfN hb (Ok_srT hTv rfl (by omega) (Ok_ite (fun z => hnext (Or.inl ((sb_eq (c := 32) ht (by decide)).mp z))) (fun n1 => ?_)))
      refine Ok_rfN hb (Ok_srT hTv rfl (by omega) (Ok_ite (fun z => hnext (Or.inr ((sb_eq (c := 10) ht (by decide)).mp z))) (fun n2 => ?_)))
      refine hK v b hs hb ⟨hb0, by omega, hall, fun _ z => ?_⟩
      rcases z with z | z
      · exact n1 ((sb_eq (c := 32) ht (by decide)).mpr z)
      · exact n2 ((sb_eq (c := 10) ht (by decide)).mpr z)
theorem r_word (hT : TR T N w) (a : Nat) (v1 : Int32) (K : Int32 → PG Int32) (Q : Int32 → GS → Prop) (hK : ∀ v b, ScF w v → Im v 44 (nI a) → Im v 45 (nI b) → Run tLe T N a b → Ok (K v1) v Q) :
    ∀ (t b m : Nat) (v : GS), b + t = N → t < m → a ≤ b → (∀ i, a ≤ i → i < b → tLe (T i)) → ScF w v → Im v 44 (nI a) → Im v 45 (nI b) → Ok (lp_scan_95 m v1 K) v Q := by
  have h4 := hT.1.2.2.2
  intro t
  induction t with
  | zero =>
    intro b m v h1 h2 hab hall hs ha hb
    cases m with
    | zero => omega
    | succ m =>
      have hTv := hT.sc hs
      unfold lp_scan_95
      refine Ok_rfN hb (Ok_clR (r_byte hTv b (by omega)) (fun r hr => ?_))
      subst hr
      refine Ok_clR (r_letter (byt_lt hTv b) v) (fun r2 hr2 => ?_)
      have e : byt T N b = 0 := by unfold byt; rw [if_neg (by omega)]
      rw [e, if_neg (by decide)] at hr2
      subst hr2
      exact Ok_ite (fun _ => hK v b hs ha hb ⟨hab, by omega, hall, fun z => by omega⟩) (fun z => absurd rfl z)
  | succ t ih =>
    intro b m v h1 h2 hab hall hs ha hb
    cases m with
    | zero => omega
    | succ m =>
      have hTv := hT.sc hs
      have e : byt T N b = T b := by unfold byt; rw [if_pos (by omega)]
      unfold lp_scan_95
      refine Ok_rfN hb (Ok_clR (r_byte hTv b (by omega)) (fun r hr => ?_))
      subst hr
      refine Ok_clR (r_letter (byt_lt hTv b) v) (fun r2 hr2 => ?_)
      rw [e] at hr2
      by_cases hB : tLe (T b)
      · rw [if_pos hB] at hr2
        subst hr2
        refine Ok_ite (fun z => absurd z (by decide)) (fun _ => Ok_rfN hb (Ok_wf ?_))
        rw [nI_1]
        refine ih (b + 1) m _ (by omega) (by omega) (by omega) (fun i h1 h2 => ?_) (hs.wf 45 _ (by decide)) (ha.o (by decide)) swf_e
        by_cases he : i = b
        · rw [he]; exact hB
        · exact hall i h1 (by omega)
      · rw [if_neg hB] at hr2
        subst hr2
        exact Ok_ite (fun _ => hK v b hs ha hb ⟨hab, by omega, hall, fun _ => hB⟩) (fun z => absurd rfl z)
theorem r_num (hT : TR T N w) (a : Nat) (v1 : Int32) (K : Int32 → PG Int32) (Q : Int32 → GS → Prop) (hK : ∀ v b, ScF w v → Im v 44 (nI a) → Im v 45 (nI b) → Im v 47 (nI (vl T a (min 4 (b - a)))) → Run tDi T N a b → Ok (K v1) v Q) :
    ∀ (t b m : Nat) (v : GS), b + t = N → t < m → a ≤ b → (∀ i, a ≤ i → i < b → tDi (T i)) → ScF w v → Im v 44 (nI a) → Im v 45 (nI b) → Im v 47 (nI (vl T a (min 4 (b - a)))) → Ok (lp_scan_160 m v1 K) v Q := by
  have h4 := hT.1.2.2.2
  intro t
  induction t with
  | zero =>
    intro b m v h1 h2 hab hall hs ha hb h47
    cases m with
    | zero => omega
    | succ m =>
      have hTv := hT.sc hs
      unfold lp_scan_160
      refine Ok_rfN hb (Ok_clR (r_byte hTv b (by omega)) (fun r hr => ?_))
      subst hr
      refine Ok_clR (r_digit (byt_lt hTv b) v) (fun r2 hr2 => ?_)
      have e : byt T N b = 0 := by unfold byt; rw [if_neg (by omega)]
      rw [e, if_neg (by decide)] at hr2
      subst hr2
      exact Ok_ite (fun _ => hK v b hs ha hb h47 ⟨hab, by omega, hall, fun z => by omega⟩) (fun z => absurd rfl z)
  | succ t ih =>
    intro b m v h1 h2 hab hall hs ha hb h47
    cases m with
    | zero => omega
    | succ m =>
      have hTv := hT.sc hs
      have e : byt T N b = T b := by unfold byt; rw [if_pos (by omega)]
      unfold lp_scan_160
      refine Ok_rfN hb (Ok_clR (r_byte hTv b (by omega)) (fun r hr => ?_))
      subst hr
      refine Ok_clR (r_digit (byt_lt hTv b) v) (fun r2 hr2 => ?_)
      rw [e] at hr2
      by_cases hB : tDi (T b)
      · rw [if_pos hB] at hr2
        subst hr2
        have hin : ∀ i, a ≤ i → i < b + 1 → tDi (T i) := fun i h1 h2 => by
          by_cases he : i = b
          · rw [he]; exact hB
          · exact hall i h1 (by omega)
        refine Ok_ite (fun z => absurd z (by decide)) (fun _ => Ok_rfN hb (Ok_rfN ha ?_))
        rw [nI_sub hab]
        refine Ok_ite (fun z4 => Ok_rfN hb (Ok_wf ?_)) (fun z4 => Ok_rfN h47 (Ok_rfN hb (Ok_clR (r_byte hTv b (by omega)) (fun r3 hr3 => ?_))))
        · have h4 := (nI_leI (a := 4) (b := b - a) (by decide) (by omega)).mp z4
          rw [nI_1]
          refine ih (b + 1) m _ (by omega) (by omega) (by omega) hin (hs.wf 45 _ (by decide)) (ha.o (by decide)) swf_e ?_
          rw [show min 4 (b + 1 - a) = min 4 (b - a) by omega]
          exact h47.o (by decide)
        · have h4 : b - a < 4 := Nat.not_le.mp (fun y => z4 (nI_le (a := 4) y (by omega)))
          subst hr3
          rw [e, num_step hB.1]
          refine Ok_wf (Ok_rfN (hb.o (by decide)) (Ok_wf ?_))
          rw [nI_1]
          refine ih (b + 1) m _ (by omega) (by omega) (by omega) hin ((hs.wf 47 _ (by decide)).wf 45 _ (by decide)) ((ha.o (by decide)).o (by decide)) swf_e ?_
          rw [show min 4 (b + 1 - a) = min 4 (b - a) + 1 by omega, vl_s, show a + min 4 (b - a) = b by omega]
          exact Im.o (by decide) swf_e
      · rw [if_neg hB] at hr2
        subst hr2
        exact Ok_ite (fun _ => hK v b hs ha hb h47 ⟨hab, by omega, hall, fun _ => hB⟩) (fun z => absurd rfl z)
end
