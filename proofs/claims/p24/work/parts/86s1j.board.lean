/-! ===== Board.settle, exactly: one slot; the tree ===== -/
theorem CN_ST {β : Type} {a n : Nat} {i x : Int32} {q : Unit → NG β} {u : MS} {Q : β → MS → Prop} (h : CN (q ()) (sf u a (rs (u.2 a) n i x)) Q) : CN (ncl (nST a n i x) q) u Q := h
theorem sfE (u : MS) (a : Nat) (f : Nat → Int32) : (sf u a f).2 a = f := if_pos rfl
theorem sfN {u : MS} {a b : Nat} {f : Nat → Int32} (h : ¬ b = a) : (sf u a f).2 b = u.2 b := if_neg h
theorem wrN {f : Nat → Int32} {n j : Nat} (x : Int32) (hj : j < n) (hn : n < 2 ^ 31) : rs f n (nI j) x = upd f j x := by
  funext k
  rw [rs_in hj hn]
  rfl
theorem ncl_rt {α β : Type} (a : α) (q : α → NG β) : ncl (nrt a) q = q a := rfl
/-- one slot of the board's rows -/
def s4 (K a b w s : Int32) (u : MS) : MS := sf (sf (sf (sf u 13 (rs (u.2 13) 148 K a)) 14 (rs (u.2 14) 148 K b)) 15 (rs (u.2 15) 148 K w)) 16 (rs (u.2 16) 148 K s)
theorem s4_v {k : Nat} (hk : k < 148) (a b w s : Int32) (u : MS) : (s4 (nI k) a b w s u).2 13 = upd (u.2 13) k a ∧ (s4 (nI k) a b w s u).2 14 = upd (u.2 14) k b ∧ (s4 (nI k) a b w s u).2 15 = upd (u.2 15) k w ∧ (s4 (nI k) a b w s u).2 16 = upd (u.2 16) k s := by
  unfold s4
  rw [wrN a hk (by decide), wrN b hk (by decide), wrN w hk (by decide), wrN s hk (by decide)]
  refine ⟨?_, ?_, ?_, ?_⟩
  · rw [sfN (by decide), sfN (by decide), sfN (by decide), sfE]
  · rw [sfN (by decide), sfN (by decide), sfE]
  · rw [sfN (by decide), sfE]
  · rw [sfE]
theorem s4_s (K a b w s : Int32) (u : MS) : Same [] [13, 14, 15, 16, 17] u (s4 K a b w s u) := by
  unfold s4
  exact ((Same_sf (by decide)).trans (Same_sf (by decide))).trans ((Same_sf (by decide)).trans (Same_sf (by decide)))
def mkF (B : Nat → Int32) (c i : Nat) : Int32 := if i < 37 then B (fc c i) else 0
def wnF (B : Nat → Int32) (c i : Nat) : Int32 := if i < 37 then B (fc c i + 3) else 0
def wF (B : Nat → Int32) (c i : Nat) : Int32 := if mkF B c i = 3 then wnF B c i else -1
def sF (B : Nat → Int32) (c i : Nat) (a b : Int32) : Int32 := if mkF B c i = 0 then (if a = -1 ∨ b = -1 then 0 else 1) else mkF B c i
theorem e_slot (c i : Nat) : x_X0_slot (nI c) (nI i) = nrt (nI (37 * c + i)) := by
  unfold x_X0_slot
  have e : nI c * 37 = nI (37 * c) := by rw [Nat.mul_comm, ← nI_mul]; rfl
  rw [e, nI_add]
theorem e_ofFight (c i k : Nat) {z : Int32} (hz : z = nI k) : x_X1_ofFight (nI c) (nI i) z = nrt (nI (fc c i + k)) := by
  unfold x_X1_ofFight x_X0_slot
  rw [ncl_rt, hz, ixR]
def tl4 (K F3 a b m s0 : Int32) : NG Int32 := ncl (nrt K) (fun r9 => ncl (nST 13 148 r9 a) (fun _ => ncl (nrt K) (fun r16 => ncl (nST 14 148 r16 b) (fun _ => ncl (nrt K) (fun r23 => (if m = 3 then ncl (nrt F3) (fun r43 => ncl (nGT 0 2088 r43) (fun x46 => ncl (nST 15 148 r23 x46) (fun _ => ncl (nrt K) (fun r54 => (if m = 0 then ncl (nST 16 148 r54 s0) (fun _ => nrt 0) else ncl (nST 16 148 r54 m) (fun _ => nrt 0)))))) else ncl (nST 15 148 r23 (-1)) (fun _ => ncl (nrt K) (fun r31 => (if m = 0 then ncl (nST 16 148 r31 s0) (fun _ => nrt 0) else ncl (nST 16 148 r31 m) (fun _ => nrt 0))))))))))
theorem tl4_e (K F3 a b m s0 : Int32) (u : MS) : tl4 K F3 a b m s0 u = some (0, s4 K a b (if m = 3 then rg (u.2 0) 2088 F3 else -1) (if m = 0 then s0 else m) u) := by
  unfold tl4
  by_cases h3 : m = 3
  · by_cases h0 : m = 0
    · simp only [if_pos h3, if_pos h0]
      rfl
    · simp only [if_pos h3, if_neg h0]
      rfl
  · by_cases h0 : m = 0
    · simp only [if_neg h3, if_pos h0]
      rfl
    · simp only [if_neg h3, if_neg h0]
      rfl
theorem e_sF {c i : Nat} (hc : c < 4) (hi : i < 37) (a b : Int32) (u : MS) : x_X0_settleFight (nI c) (nI i) a b u = some (0, s4 (nI (37 * c + i)) a b (wF (u.2 0) c i) (sF (u.2 0) c i a b) u) := by
  have h0 : fc c i < 2088 := by unfold fc; omega
  have h3 : fc c i + 3 < 2088 := by unfold fc; omega
  have e1 : x_X0_settleFight (nI c) (nI i) a b u = (if a = -1 then tl4 (nI (37 * c + i)) (nI (fc c i + 3)) a b (rg (u.2 0) 2088 (nI (fc c i + 0))) 0 else if b = -1 then tl4 (nI (37 * c + i)) (nI (fc c i + 3)) a b (rg (u.2 0) 2088 (nI (fc c i + 0))) 0 else tl4 (nI (37 * c + i)) (nI (fc c i + 3)) a b (rg (u.2 0) 2088 (nI (fc c i + 0))) 1) u := by
    unfold x_X0_settleFight
    rw [e_ofFight c i 0 (show (0 : Int32) = nI 0 from rfl), e_ofFight c i 3 (show (3 : Int32) = nI 3 from rfl), e_slot]
    rfl
  rw [e1, Nat.add_zero (fc c i), rdB _ h0]
  unfold wF sF mkF wnF
  rw [if_pos hi, if_pos hi]
  by_cases ha : a = -1
  · rw [if_pos ha, tl4_e, rdB _ h3, if_pos (Or.inl ha)]
  · rw [if_neg ha]
    by_cases hb : b = -1
    · rw [if_pos hb, tl4_e, rdB _ h3, if_pos (Or.inr hb)]
    · rw [if_neg hb, tl4_e, rdB _ h3, if_neg (fun z : a = -1 ∨ b = -1 => z.elim ha hb)]
theorem e_sW (c i : Nat) (a b : Int32) (u : MS) : x_X0_settleWalk (nI c) (nI i) a b u = some (0, s4 (nI (37 * c + i)) a b (if a = -1 then b else a) 4 u) := by
  unfold x_X0_settleWalk
  rw [e_slot]
  generalize nI (37 * c + i) = K
  by_cases ha : a = -1
  · simp only [if_pos ha]
    rfl
  · simp only [if_neg ha]
    rfl
/-- the rows of one class are set up to slot i -/
def Bs (u0 : MS) (c : Nat) (p1 p2 p3 p4 : Nat → Int32) (i : Nat) (v : MS) : Prop := Same [] [13, 14, 15, 16, 17] u0 v ∧ (∀ k, k < i → v.2 13 (37 * c + k) = p1 k ∧ v.2 14 (37 * c + k) = p2 k ∧ v.2 15 (37 * c + k) = p3 k ∧ v.2 16 (37 * c + k) = p4 k) ∧ ∀ x, (x < 37 * c ∨ 37 * c + 37 ≤ x) → v.2 13 x = u0.2 13 x ∧ v.2 14 x = u0.2 14 x ∧ v.2 15 x = u0.2 15 x ∧ v.2 16 x = u0.2 16 x
theorem Bs.b {u0 v : MS} {c i : Nat} {p1 p2 p3 p4 : Nat → Int32} (h : Bs u0 c p1 p2 p3 p4 i v) : v.2 0 = u0.2 0 := h.1.2 0 (by decide)
theorem Bs.step {u0 v : MS} {c i : Nat} {p1 p2 p3 p4 : Nat → Int32} (h : Bs u0 c p1 p2 p3 p4 i v) (hc : c < 4) (hi : i < 37) {a b w s : Int32} (e1 : p1 i = a) (e2 : p2 i = b) (e3 : p3 i = w) (e4 : p4 i = s) : Bs u0 c p1 p2 p3 p4 (i + 1) (s4 (nI (37 * c + i)) a b w s v) := by
  obtain ⟨hs, h1, h2⟩ := h
  obtain ⟨g1, g2, g3, g4⟩ := s4_v (k := 37 * c + i) (by omega) a b w s v
  refine ⟨hs.trans (s4_s _ _ _ _ _ _), fun k hk => ?_, fun x hx => ?_⟩
  · rw [g1, g2, g3, g4]
    by_cases hki : k = i
    · subst hki
      rw [upd_e, upd_e, upd_e, upd_e]
      exact ⟨e1.symm, e2.symm, e3.symm, e4.symm⟩
    · rw [upd_n (by omega), upd_n (by omega), upd_n (by omega), upd_n (by omega)]
      exact h1 k (by omega)
  · rw [g1, g2, g3, g4, upd_n (by omega), upd_n (by omega), upd_n (by omega), upd_n (by omega)]
    exact h2 x hx
theorem CN_sF {β : Type} {u0 v : MS} {c i : Nat} {p1 p2 p3 p4 : Nat → Int32} {a b : Int32} {q : Int32 → NG β} {Q : β → MS → Prop} (h : Bs u0 c p1 p2 p3 p4 i v) (hc : c < 4) (hi : i < 37) (e1 : p1 i = a) (e2 : p2 i = b) (e3 : p3 i = wF (u0.2 0) c i) (e4 : p4 i = sF (u0.2 0) c i a b) (hq : ∀ v2, Bs u0 c p1 p2 p3 p4 (i + 1) v2 → CN (q 0) v2 Q) : CN (ncl (x_X0_settleFight (nI c) (nI i) a b) q) v Q := CN_cl (fun r v2 e => by
  rw [e_sF hc hi, h.b] at e
  cases e
  exact hq _ (h.step hc hi e1 e2 e3 e4))
theorem CN_sW {β : Type} {u0 v : MS} {c i : Nat} {p1 p2 p3 p4 : Nat → Int32} {a b : Int32} {q : Int32 → NG β} {Q : β → MS → Prop} (h : Bs u0 c p1 p2 p3 p4 i v) (hc : c < 4) (hi : i < 37) (e1 : p1 i = a) (e2 : p2 i = b) (e3 : p3 i = if a = -1 then b else a) (e4 : p4 i = 4) (hq : ∀ v2, Bs u0 c p1 p2 p3 p4 (i + 1) v2 → CN (q 0) v2 Q) : CN (ncl (x_X0_settleWalk (nI c) (nI i) a b) q) v Q := CN_cl (fun r v2 e => by
  rw [e_sW] at e
  cases e
  exact hq _ (h.step hc hi e1 e2 e3 e4))
theorem e_wO {c i : Nat} (hc : c < 4) (hi : i < 37) (u : MS) : x_X0_winnerOf (nI c) (nI i) u = some (u.2 15 (37 * c + i), u) ∧ x_X0_whiteOf (nI c) (nI i) u = some (u.2 13 (37 * c + i), u) ∧ x_X0_blueOf (nI c) (nI i) u = some (u.2 14 (37 * c + i), u) := by
  unfold x_X0_winnerOf x_X0_whiteOf x_X0_blueOf
  rw [e_slot]
  refine ⟨?_, ?_, ?_⟩
  · show some (rg (u.2 15) 148 (nI (37 * c + i)), u) = _
    rw [rg_in (by omega) (by decide)]
  · show some (rg (u.2 13) 148 (nI (37 * c + i)), u) = _
    rw [rg_in (by omega) (by decide)]
  · show some (rg (u.2 14) 148 (nI (37 * c + i)), u) = _
    rw [rg_in (by omega) (by decide)]
/-! the tree of size S -/
def pl (B : Nat → Int32) (c p : Nat) : Int32 := if p < 32 then B (8 + 36 * c + p) else 0
def tW (B : Nat → Int32) (c S i : Nat) : Int32 := if i < S / 2 ∧ (pl B c (2 * i) = -1 ∨ pl B c (2 * i + 1) = -1) then (if pl B c (2 * i) = -1 then pl B c (2 * i + 1) else pl B c (2 * i)) else wF B c i
def tA (B : Nat → Int32) (c S i : Nat) : Int32 := if i < S / 2 then pl B c (2 * i) else tW B c S (2 * (i - S / 2))
def tB (B : Nat → Int32) (c S i : Nat) : Int32 := if i < S / 2 then pl B c (2 * i + 1) else tW B c S (2 * (i - S / 2) + 1)
def tS (B : Nat → Int32) (c S i : Nat) : Int32 := if i < S / 2 ∧ (pl B c (2 * i) = -1 ∨ pl B c (2 * i + 1) = -1) then 4 else sF B c i (tA B c S i) (tB B c S i)
def Siz (S : Nat) : Prop := S = 8 ∨ S = 16 ∨ S = 32
theorem Siz.h2 {S : Nat} (h : Siz S) : nI S / 2 = nI (S / 2) ∧ S ≤ 32 ∧ 8 ≤ S ∧ S / 2 + S / 2 = S := by
  rcases h with rfl | rfl | rfl <;> decide
theorem e_low {S i : Nat} (hS : Siz S) (h : S / 2 ≤ i) : x_X0_lowerBelow (nI S) (nI i) = nrt (nI (2 * (i - S / 2))) := by
  unfold x_X0_lowerBelow
  rw [hS.h2.1, nI_sub h, ← nI_mul]
  rfl
theorem rd_pl {β : Type} {u0 v : MS} {c i p : Nat} {p1 p2 p3 p4 : Nat → Int32} {z : Int32} {q : Int32 → NG β} {Q : β → MS → Prop} (h : Bs u0 c p1 p2 p3 p4 i v) (hc : c < 4) (hp : p < 32) (hz : z = nI (4 + p)) (hq : CN (q (pl (u0.2 0) c p)) v Q) : CN (ncl (x_X1_ofClass (nI c) z) (fun r => ncl (nGT 0 2088 r) q)) v Q := by
  rw [e_ofClass c (4 + p) hz, ncl_rt]
  refine CN_GT ?_
  have e : 4 + 36 * c + (4 + p) = 8 + 36 * c + p := by omega
  rw [h.b, e, rdB _ (by omega)]
  unfold pl at hq
  rw [if_pos hp] at hq
  exact hq
theorem CN_tree1 {u0 : MS} {c S : Nat} (hc : c < 4) (hS : Siz S) {p1 p2 p3 p4 : Nat → Int32} (e1 : ∀ i, i < S - 1 → p1 i = tA (u0.2 0) c S i) (e2 : ∀ i, i < S - 1 → p2 i = tB (u0.2 0) c S i) (e3 : ∀ i, i < S - 1 → p3 i = tW (u0.2 0) c S i) (e4 : ∀ i, i < S - 1 → p4 i = tS (u0.2 0) c S i) (K : Int32 → Int32 → Int32 → NG Int32) (Q : Int32 → MS → Prop) (hK : ∀ v, Bs u0 c p1 p2 p3 p4 (S / 2) v → CN (K (nI c) (nI S) (nI (S / 2))) v Q) : ∀ (n i : Nat) (v : MS), i ≤ S / 2 → Bs u0 c p1 p2 p3 p4 i v → CN (xl_X0_settleTree_2 n (nI c) (nI S) (nI i) K) v Q := by
  obtain ⟨s1, s2, s3, s4⟩ := hS.h2
  intro n
  induction n with
  | zero => exact fun i v _ _ r w e => by cases e
  | succ n ih =>
    intro i v hi h
    unfold xl_X0_settleTree_2
    rw [s1]
    by_cases hlt : S / 2 ≤ i
    · rw [if_pos (nI_le hlt (by omega))]
      have : i = S / 2 := by omega
      subst this
      exact hK v h
    · rw [if_neg (fun z => hlt ((nI_leI (by omega) (by omega)).mp z))]
      have i1 : (4 : Int32) + 2 * nI i = nI (4 + 2 * i) := by rw [← nI_add, ← nI_mul]; rfl
      have i2 : (4 : Int32) + 2 * nI i + 1 = nI (4 + (2 * i + 1)) := by rw [i1, nI_1]; rfl
      refine rd_pl h hc (by omega) i1 (rd_pl h hc (by omega) i2 ?_)
      have a1 := e1 i (by omega)
      have a2 := e2 i (by omega)
      have a3 := e3 i (by omega)
      have a4 := e4 i (by omega)
      unfold tA at a1
      unfold tB at a2
      rw [if_pos (by omega)] at a1 a2
      have hnext : ∀ v2, Bs u0 c p1 p2 p3 p4 (i + 1) v2 → CN (nli (nI i + 1) (fun x => xl_X0_settleTree_2 n (nI c) (nI S) x K)) v2 Q := fun v2 h2 => by
        rw [nI_1]
        exact ih (i + 1) v2 (by omega) h2
      refine CN_ite (fun x1 => ?_) (fun x1 => CN_ite (fun x2 => ?_) (fun x2 => ?_))
      · refine CN_sW h hc (by omega) a1 a2 ?_ ?_ hnext
        · rw [a3]; unfold tW; rw [if_pos ⟨by omega, Or.inl x1⟩]
        · rw [a4]; unfold tS; rw [if_pos ⟨by omega, Or.inl x1⟩]
      · refine CN_sW h hc (by omega) a1 a2 ?_ ?_ hnext
        · rw [a3]; unfold tW; rw [if_pos ⟨by omega, Or.inr x2⟩]
        · rw [a4]; unfold tS; rw [if_pos ⟨by omega, Or.inr x2⟩]
      · have hno : ¬ (i < S / 2 ∧ (pl (u0.2 0) c (2 * i) = -1 ∨ pl (u0.2 0) c (2 * i + 1) = -1)) := fun z => z.2.elim x1 x2
        refine CN_sF h hc (by omega) a1 a2 ?_ ?_ hnext
        · rw [a3]; unfold tW; rw [if_neg hno]
        · rw [a4]; unfold tS; rw [if_neg hno]; unfold tA tB; rw [if_pos (by omega), if_pos (by omega)]
theorem CN_tree2 {u0 : MS} {c S : Nat} (hc : c < 4) (hS : Siz S) {p1 p2 p3 p4 : Nat → Int32} (e1 : ∀ i, i < S - 1 → p1 i = tA (u0.2 0) c S i) (e2 : ∀ i, i < S - 1 → p2 i = tB (u0.2 0) c S i) (e3 : ∀ i, i < S - 1 → p3 i = tW (u0.2 0) c S i) (e4 : ∀ i, i < S - 1 → p4 i = tS (u0.2 0) c S i) (K : Int32 → Int32 → Int32 → NG Int32) (Q : Int32 → MS → Prop) (hK : ∀ v, Bs u0 c p1 p2 p3 p4 (S - 1) v → CN (K (nI c) (nI S) (nI (S - 1))) v Q) : ∀ (n i : Nat) (v : MS), S / 2 ≤ i → i ≤ S - 1 → Bs u0 c p1 p2 p3 p4 i v → CN (xl_X0_settleTree_92 n (nI c) (nI S) (nI i) K) v Q := by
  obtain ⟨s1, s2, s3, s4⟩ := hS.h2
  intro n
  induction n with
  | zero => exact fun i v _ _ _ r w e => by cases e
  | succ n ih =>
    intro i v hlo hi h
    unfold xl_X0_settleTree_92
    have es : nI S - 1 = nI (S - 1) := nI_sub (b := 1) (by omega)
    rw [es]
    by_cases hlt : S - 1 ≤ i
    · rw [if_pos (nI_le hlt (by omega))]
      have : i = S - 1 := by omega
      subst this
      exact hK v h
    · rw [if_neg (fun z => hlt ((nI_leI (by omega) (by omega)).mp z)), e_low hS hlo, ncl_rt, nI_1]
      have a1 := e1 i (by omega)
      have a2 := e2 i (by omega)
      have a3 := e3 i (by omega)
      have a4 := e4 i (by omega)
      unfold tA at a1
      unfold tB at a2
      rw [if_neg (by omega)] at a1 a2
      have w1 : v.2 15 (37 * c + 2 * (i - S / 2)) = tW (u0.2 0) c S (2 * (i - S / 2)) := ((h.2.1 _ (by omega)).2.2.1).trans (e3 _ (by omega))
      have w2 : v.2 15 (37 * c + (2 * (i - S / 2) + 1)) = tW (u0.2 0) c S (2 * (i - S / 2) + 1) := ((h.2.1 _ (by omega)).2.2.1).trans (e3 _ (by omega))
      refine CN_rd (e_wO hc (by omega) v).1 (CN_rd (e_wO hc (by omega) v).1 ?_)
      rw [w1, w2]
      have hno : ¬ (i < S / 2 ∧ (pl (u0.2 0) c (2 * i) = -1 ∨ pl (u0.2 0) c (2 * i + 1) = -1)) := fun z => absurd z.1 (by omega)
      refine CN_sF h hc (by omega) a1 a2 ?_ ?_ (fun v2 h2 => ?_)
      · rw [a3]; unfold tW; rw [if_neg hno]
      · rw [a4]; unfold tS; rw [if_neg hno]; unfold tA tB; rw [if_neg (by omega), if_neg (by omega)]
      · rw [nI_1]
        exact ih (i + 1) v2 (by omega) (by omega) h2

