/-! ===== the reader of the laws: scan, is, findSign ===== -/
def Tk (w : GS) (N a b : Nat) : Prop := w.2.1 41 = true ∧ (w.1.1 41 = 0 ∨ ∀ j, j < N → w.2.2 56 j = true) ∧ Im w 43 (nI N) ∧ N ≤ 3000 ∧ Im w 44 (nI a) ∧ Im w 45 (nI b) ∧ a ≤ b ∧ b ≤ N ∧ w.2.1 46 = true ∧ (w.1.1 46 = 2 → w.2.1 47 = true) ∧ (w.1.1 46 = 1 → b - a ≤ 10)
/-- v is w but for the token's cells -/
def ScF (w v : GS) : Prop := v.1.2 = w.1.2 ∧ v.2.2 = w.2.2 ∧ ∀ k, ¬ (44 ≤ k ∧ k ≤ 47) → v.1.1 k = w.1.1 k ∧ v.2.1 k = w.2.1 k
theorem ScF.rf (w : GS) : ScF w w := ⟨rfl, rfl, fun _ _ => ⟨rfl, rfl⟩⟩
theorem swf_o {w : GS} {k k2 : Nat} {x : Int32} (h : ¬ k2 = k) : (swf k x w).1.1 k2 = w.1.1 k2 ∧ (swf k x w).2.1 k2 = w.2.1 k2 := ⟨if_neg h, if_neg h⟩
theorem swf_e {w : GS} {k : Nat} {x : Int32} : Im (swf k x w) k x := ⟨if_pos rfl, if_pos rfl⟩
theorem Im.o {w : GS} {k k2 : Nat} {x y : Int32} (h : ¬ k2 = k) (ha : Im w k2 y) : Im (swf k x w) k2 y := ⟨(swf_o h).2.trans ha.1, (swf_o h).1.trans ha.2⟩
theorem ScF.wf {w v : GS} (h : ScF w v) (k : Nat) (x : Int32) (hk : 44 ≤ k ∧ k ≤ 47) : ScF w (swf k x v) := by
  refine ⟨h.1, h.2.1, fun k2 h2 => ?_⟩
  have h9 := swf_o (w := v) (k := k) (x := x) (k2 := k2) (by omega)
  rw [h9.1, h9.2]
  exact h.2.2 k2 h2
theorem ScF.trans {u v w : GS} (h1 : ScF u v) (h2 : ScF v w) : ScF u w := ⟨h2.1.trans h1.1, h2.2.1.trans h1.2.1, fun k hk => ⟨(h2.2.2 k hk).1.trans (h1.2.2 k hk).1, (h2.2.2 k hk).2.trans (h1.2.2 k hk).2⟩⟩
/-- the text alone -/
def Tx (w : GS) (N : Nat) : Prop := w.2.1 41 = true ∧ (w.1.1 41 = 0 ∨ ∀ j, j < N → w.2.2 56 j = true) ∧ Im w 43 (nI N) ∧ N ≤ 3000
theorem Tk.tx {w : GS} {N a b : Nat} (h : Tk w N a b) : Tx w N := ⟨h.1, h.2.1, h.2.2.1, h.2.2.2.1⟩
theorem Tx.sc {w v : GS} {N : Nat} (h : Tx w N) (hs : ScF w v) : Tx v N := by
  obtain ⟨h1, h2, h3, h4⟩ := h
  have e41 := hs.2.2 41 (by decide)
  have e43 := hs.2.2 43 (by decide)
  refine ⟨e41.2.trans h1, ?_, ⟨e43.2.trans h3.1, e43.1.trans h3.2⟩, h4⟩
  rw [e41.1, hs.2.1]
  exact h2
theorem Ok_srN {β : Type} {w : GS} {N j : Nat} {ix : Int32} {c : Int32 → PG β} {Q : β → GS → Prop} (h : Tx w N) (hi : ix = nI j) (hj : j < N) (hq : ∀ x, Ok (c x) w Q) : Ok (psr ix c) w Q := by
  subst hi
  refine Ok_sr h.1 (gi_nI (by have := h.2.2.2; omega) (by decide)) ?_ (hq _)
  rw [nI_clamp (by have := h.2.2.2; omega)]
  exact h.2.1.imp id (fun z => z j hj)
theorem and255 (x : Int32) : ∃ k, k < 256 ∧ x &&& 255 = nI k := by
  have h1 : (x &&& 255).toBitVec.toNat ≤ 255 := by
    have h1 : (x &&& 255).toBitVec = x.toBitVec &&& 255#32 := rfl
    rw [h1, BitVec.toNat_and]
    exact Nat.and_le_right
  refine ⟨(x &&& 255).toBitVec.toNat, by omega, Int32.toInt_inj.mp ?_⟩
  rw [nI_toInt (by omega)]
  show (x &&& 255).toBitVec.toInt = _
  exact BitVec.toInt_eq_toNat_of_lt (by omega)
theorem ok_byteAt {w : GS} {N : Nat} (h : Tx w N) (k : Nat) (hk : k < 4000) : Rd (f_byteAt (nI k)) w (fun r => (r = nI 0 ∧ N ≤ k) ∨ (k < N ∧ ∃ j, j < 256 ∧ r = nI j)) := by
  have h4 := h.2.2.2
  unfold f_byteAt
  refine Rd_rfN h.2.2.1 (Rd_ite (fun z => Rd_rt (Or.inl ⟨rfl, (nI_leI (by omega) (by omega)).mp z⟩)) (fun z => ?_))
  have hk2 : k < N := Nat.not_le.mp (fun y => z (nI_le y (by omega)))
  refine Ok_srN h rfl hk2 (fun x => Rd_rt (Or.inr ⟨hk2, ?_⟩))
  exact and255 x
theorem ok_isLetter (w : GS) (x : Int32) : Rd (f_isLetter x) w (fun r => r = 0 ∨ (r = 1 ∧ ¬ x < 97)) := by
  unfold f_isLetter
  exact Rd_ite (fun _ => Rd_rt (Or.inl rfl)) (fun z => Rd_ite (fun _ => Rd_rt (Or.inl rfl)) (fun _ => Rd_rt (Or.inr ⟨rfl, z⟩)))
theorem ok_isDigit (w : GS) (x : Int32) : Rd (f_isDigit x) w (fun r => r = 0 ∨ (r = 1 ∧ ¬ x < 48)) := by
  unfold f_isDigit
  exact Rd_ite (fun _ => Rd_rt (Or.inl rfl)) (fun z => Rd_ite (fun _ => Rd_rt (Or.inl rfl)) (fun _ => Rd_rt (Or.inr ⟨rfl, z⟩)))
theorem ok_scan0 (N : Nat) (w : GS) (hT : Tx w N) (K : PG Int32) (Q : Int32 → GS → Prop) (hK : ∀ v b, ScF w v → Im v 45 (nI b) → b ≤ N → Ok K v Q) :
    ∀ (t b m : Nat) (v : GS), b + t = N → t < m → ScF w v → Im v 45 (nI b) → Ok (lp_scan_0 m K) v Q := by
  have h4 := hT.2.2.2
  intro t
  induction t with
  | zero =>
    intro b m v h1 h2 hs hb
    cases m with
    | zero => omega
    | succ m =>
      have hbN : b = N := by omega
      subst hbN
      unfold lp_scan_0
      exact Ok_rfN hb (Ok_rfN (hT.sc hs).2.2.1 (Ok_ite (fun _ => hK v b hs hb (Nat.le_refl _)) (fun z => absurd (Int32.le_refl _) z)))
  | succ t ih =>
    intro b m v h1 h2 hs hb
    cases m with
    | zero => omega
    | succ m =>
      have hnext : Ok (prf 45 (fun x_12 => pwf 45 (x_12 + 1) (lp_scan_0 m K))) v Q := by
        refine Ok_rfN hb (Ok_wf ?_)
        rw [nI_1]
        exact ih (b + 1) m _ (by omega) (by omega) (hs.wf 45 _ (by decide)) swf_e
      unfold lp_scan_0
      refine Ok_rfN hb (Ok_rfN (hT.sc hs).2.2.1 (Ok_ite (fun _ => hK v b hs hb (by omega)) (fun _ => ?_)))
      refine Ok_rfN hb (Ok_srN (hT.sc hs) rfl (by omega) (fun x => Ok_ite (fun _ => hnext) (fun _ => ?_)))
      exact Ok_rfN hb (Ok_srN (hT.sc hs) rfl (by omega) (fun x => Ok_ite (fun _ => hnext) (fun _ => hK v b hs hb (by omega))))
theorem ok_scan95 (N a : Nat) (w : GS) (hT : Tx w N) (v1 : Int32) (K : Int32 → PG Int32) (Q : Int32 → GS → Prop) (hK : ∀ v b, ScF w v → Im v 44 (nI a) → Im v 45 (nI b) → a ≤ b → b ≤ N → Ok (K v1) v Q) :
    ∀ (t b m : Nat) (v : GS), b + t = N → t < m → ScF w v → Im v 44 (nI a) → Im v 45 (nI b) → a ≤ b → Ok (lp_scan_95 m v1 K) v Q := by
  have h4 := hT.2.2.2
  intro t
  induction t with
  | zero =>
    intro b m v h1 h2 hs ha hb hab
    cases m with
    | zero => omega
    | succ m =>
      unfold lp_scan_95
      refine Ok_rfN hb (Ok_clR (ok_byteAt (hT.sc hs) b (by omega)) (fun r hr => Ok_clR (ok_isLetter v r) (fun r2 hr2 => Ok_ite (fun _ => hK v b hs ha hb hab (by omega)) (fun z => ?_))))
      rcases hr with ⟨rfl, -⟩ | ⟨z2, -⟩
      · rcases hr2 with z3 | ⟨-, z3⟩
        · exact absurd z3 z
        · exact absurd (by decide) z3
      · omega
  | succ t ih =>
    intro b m v h1 h2 hs ha hb hab
    cases m with
    | zero => omega
    | succ m =>
      unfold lp_scan_95
      refine Ok_rfN hb (Ok_clR (ok_byteAt (hT.sc hs) b (by omega)) (fun r hr => Ok_clR (ok_isLetter v r) (fun r2 hr2 => Ok_ite (fun _ => hK v b hs ha hb hab (by omega)) (fun z => ?_))))
      refine Ok_rfN hb (Ok_wf ?_)
      rw [nI_1]
      exact ih (b + 1) m _ (by omega) (by omega) (hs.wf 45 _ (by decide)) (ha.o (by decide)) swf_e (by omega)
theorem ok_scan160 (N a : Nat) (w : GS) (hT : Tx w N) (v1 : Int32) (K : Int32 → PG Int32) (Q : Int32 → GS → Prop) (hK : ∀ v b, ScF w v → Im v 44 (nI a) → Im v 45 (nI b) → v.2.1 47 = true → a ≤ b → b ≤ N → Ok (K v1) v Q) :
    ∀ (t b m : Nat) (v : GS), b + t = N → t < m → ScF w v → Im v 44 (nI a) → Im v 45 (nI b) → v.2.1 47 = true → a ≤ b → Ok (lp_scan_160 m v1 K) v Q := by
  have h4 := hT.2.2.2
  intro t
  induction t with
  | zero =>
    intro b m v h1 h2 hs ha hb h47 hab
    cases m with
    | zero => omega
    | succ m =>
      unfold lp_scan_160
      refine Ok_rfN hb (Ok_clR (ok_byteAt (hT.sc hs) b (by omega)) (fun r hr => Ok_clR (ok_isDigit v r) (fun r2 hr2 => Ok_ite (fun _ => hK v b hs ha hb h47 hab (by omega)) (fun z => ?_))))
      rcases hr with ⟨rfl, -⟩ | ⟨z2, -⟩
      · rcases hr2 with z3 | ⟨-, z3⟩
        · exact absurd z3 z
        · exact absurd (by decide) z3
      · omega
  | succ t ih =>
    intro b m v h1 h2 hs ha hb h47 hab
    cases m with
    | zero => omega
    | succ m =>
      unfold lp_scan_160
      refine Ok_rfN hb (Ok_clR (ok_byteAt (hT.sc hs) b (by omega)) (fun r hr => Ok_clR (ok_isDigit v r) (fun r2 hr2 => Ok_ite (fun _ => hK v b hs ha hb h47 hab (by omega)) (fun z => ?_))))
      refine Ok_rfN hb (Ok_rfN ha (Ok_ite (fun _ => Ok_rfN hb (Ok_wf ?_)) (fun _ => ?_)))
      · rw [nI_1]
        exact ih (b + 1) m _ (by omega) (by omega) (hs.wf 45 _ (by decide)) (ha.o (by decide)) swf_e ((swf_o (by decide)).2.trans h47) (by omega)
      · refine Ok_rf h47 (Ok_rfN hb (Ok_clR (ok_byteAt (hT.sc hs) b (by omega)) (fun r3 _ => Ok_wf (Ok_rfN (hb.o (by decide)) (Ok_wf ?_)))))
        rw [nI_1]
        exact ih (b + 1) m _ (by omega) (by omega) ((hs.wf 47 _ (by decide)).wf 45 _ (by decide)) ((ha.o (by decide)).o (by decide)) swf_e ((swf_o (by decide)).2.trans swf_e.1) (by omega)
theorem idx_some : ∀ k < 256, (fj_indexOf 0 (((nI k).toUInt32 % 65536).toInt32)).isSome = true := by decide +kernel
theorem Ok_oiS {β : Type} {x : Option Int32} {c : Int32 → PG β} {w : GS} {Q : β → GS → Prop} (hx : x.isSome = true) (h : ∀ a, Ok (c a) w Q) : Ok (poi x c) w Q := by
  cases x with
  | none => cases hx
  | some a => exact h a

