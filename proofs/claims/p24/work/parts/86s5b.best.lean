/-! ===== the best place, in step ===== -/
def RowU (u : MS) (L : Nat) : Prop := ∀ x, x < 2 ^ L → u.2 11 x = nI (rowf L x)
theorem r_bpskip {w v : GS} {c L n k : Nat} {P : Nat → Bool} (hL : L ≤ 5) (hT : TD w v c L n P) (v4 v5 : Int32) : ∀ (t x m : Nat), x + t = 2 ^ L → t < m → n ≤ x → Rd (lp_bestPlace_9 m (nI c) (nI k) (nI (2 ^ L)) v4 v5 (nI x) (fun v1 v2 v3 v4 v5 v6 => prt v4)) v (fun z => z = v4) := by
  have h32 := pow_lt32 hL
  intro t
  induction t with
  | zero =>
    intro x m h1 h2 h3
    cases m with
    | zero => omega
    | succ m =>
      have : x = 2 ^ L := by omega
      subst this
      unfold lp_bestPlace_9
      exact Rd_ite (fun _ => Rd_rt rfl) (fun z => absurd (Int32.le_refl _) z)
  | succ t ih =>
    intro x m h1 h2 h3
    cases m with
    | zero => omega
    | succ m =>
      have hp := rowf_lt L (by omega) x (by omega) (by omega)
      unfold lp_bestPlace_9
      refine Rd_ite (fun z => absurd z (nI_ge (by omega) (by omega))) (fun _ => ?_)
      refine Rd_rdN rfl (by omega) (by decide) (hT.2.2.2.1 x (by omega)) (Rd_rdN rfl (by omega) (by decide) (hT.2.2.2.2.1 x h3 (by omega)).1 (Rd_ite (fun e => absurd e (by decide)) (fun _ => Rd_li ?_)))
      rw [nI_1]
      exact ih (x + 1) m (by omega) (by omega) (by omega)
theorem l_best {B0 B : Nat → Int32} {u : MS} {w v : GS} {c L n k : Nat} {P : Nat → Bool} (hB : u.2 0 = B) (hR : R0 B0 w) (hG : iG w) (h96 : nF w ≤ 96) (hc : c < 4) (hL : L ≤ 5) (hn : n ≤ 2 ^ L) (hT : TD w v c L n P) (hS : SD B0 w c (2 ^ L) B v) (hU : RowU u L) : ∀ (t x m f : Nat) (v4 v5 : Int32), x + t = n → 2 ^ L - x < m → CN (xl_X2_bestPlace_9 f (nI c) (nI k) (nI n) v4 v5 (nI x) (fun v1 v2 v3 v4 v5 v6 => nrt v4)) u (fun r u' => u' = u ∧ Rd (lp_bestPlace_9 m (nI c) (nI k) (nI (2 ^ L)) v4 v5 (nI x) (fun v1 v2 v3 v4 v5 v6 => prt v4)) v (fun z => z = r)) := by
  have h32 := pow_lt32 hL
  intro t
  induction t with
  | zero =>
    intro x m f v4 v5 h1 h2
    cases f with
    | zero => exact fun r w e => by cases e
    | succ f =>
      have : x = n := by omega
      subst this
      unfold xl_X2_bestPlace_9
      exact CN_ite (fun _ => CN_rt ⟨rfl, r_bpskip hL hT v4 v5 (2 ^ L - x) x m (by omega) h2 (Nat.le_refl _)⟩) (fun z => absurd (Int32.le_refl _) z)
  | succ t ih =>
    intro x m f v4 v5 h1 h2
    cases f with
    | zero => exact fun r w e => by cases e
    | succ f =>
      cases m with
      | zero => omega
      | succ m =>
        have hxn : x < n := by omega
        have hp := rowf_lt L (by omega) x (by omega) (by omega)
        have hle : ¬ nI n ≤ nI x := fun z => absurd ((nI_leI (by omega) (by omega)).mp z) (by omega)
        have hle2 : ¬ nI (2 ^ L) ≤ nI x := fun z => absurd ((nI_leI (by omega) (by omega)).mp z) (by omega)
        have g11 : nGT 11 32 (nI x) u = some (nI (rowf L x), u) := by
          show some (rg (u.2 11) 32 (nI x), u) = _
          rw [rg_in (by omega) (by decide), hU x (by omega)]
        have i1 : (4 : Int32) + nI (rowf L x) = nI (4 + rowf L x) := nI_add 4 _
        have ei : 4 + 36 * c + (4 + rowf L x) = 8 + 36 * c + rowf L x := by omega
        have g : nGT 0 2088 (nI (8 + 36 * c + rowf L x)) u = some (B (8 + 36 * c + rowf L x), u) := by
          show some (rg (u.2 0) 2088 (nI (8 + 36 * c + rowf L x)), u) = _
          rw [rdB _ (by omega), hB]
        have hnext : ∀ v4 v5, CN (nli (nI x + 1) (fun y => xl_X2_bestPlace_9 f (nI c) (nI k) (nI n) v4 v5 y (fun v1 v2 v3 v4 v5 v6 => nrt v4))) u (fun r u' => u' = u ∧ Rd (pli (nI x + 1) (fun y => lp_bestPlace_9 m (nI c) (nI k) (nI (2 ^ L)) v4 v5 y (fun v1 v2 v3 v4 v5 v6 => prt v4))) v (fun z => z = r)) := fun v4 v5 => by
          have h9 := ih (x + 1) m f v4 v5 (by omega) (by omega)
          rw [← nI_1 x] at h9
          exact h9
        have h14 := hS.1 (rowf L x) hp
        have h57 := hT.2.2.2.1 x (by omega)
        unfold xl_X2_bestPlace_9
        refine CN_ite (fun z => absurd z hle) (fun _ => CN_rd g11 ?_)
        rw [i1, e_ofClass c (4 + rowf L x) rfl, ncl_rt, ei]
        refine CN_rd g ?_
        rcases hT.2.2.2.2.2.1 x hxn with ⟨h60, hw⟩ | ⟨h60, f2, hf2, -, -, hw, -⟩
        · have e14 := h14.inj hw
          refine CN_ite (fun _ => ?_) (fun z => absurd e14 z)
          refine CN_cl ?_
          unfold x_X2_firstMeeting
          rw [e_ofClass c 3 (show (3 : Int32) = nI 3 from rfl), ncl_rt]
          have g7 : nGT 0 2088 (nI (4 + 36 * c + 3)) u = some (nI (2 ^ L), u) := by
            show some (rg (u.2 0) 2088 (nI (4 + 36 * c + 3)), u) = _
            rw [rdB _ (by omega), hB, show 4 + 36 * c + 3 = 7 + 36 * c by omega, hS.2.2.2.1]
          refine CN_rd g7 ?_
          refine CN.mono (l_first (k := k) hB hR hG h96 hc hL hn hT hS (by omega) v4 v5 (nI x) (2 ^ L) 0 fuel fuel 99 (by omega) (by unfold fuel; omega) (by omega)) (fun r u' y => ?_)
          obtain ⟨rfl, b', hb', rfl, y4⟩ := y
          have fin : ∀ R, Rd (if v5 < nI b' then pli (nI x + 1) (fun x_30 => lp_bestPlace_9 m (nI c) (nI k) (nI (2 ^ L)) (nI (rowf L x)) (nI b') x_30 (fun v1 v2 v3 v4 v5 v6 => prt v4)) else pli (nI x + 1) (fun x_32 => lp_bestPlace_9 m (nI c) (nI k) (nI (2 ^ L)) v4 v5 x_32 (fun v1 v2 v3 v4 v5 v6 => prt v4))) v R → Rd (lp_bestPlace_9 (m + 1) (nI c) (nI k) (nI (2 ^ L)) v4 v5 (nI x) (fun v1 v2 v3 v4 v5 v6 => prt v4)) v R := fun R hR => by
            unfold lp_bestPlace_9
            refine Rd_ite (fun z => absurd z hle2) (fun _ => Rd_rdN rfl (by omega) (by decide) h57 (Rd_rdN rfl (by omega) (by decide) h60 (Rd_ite (fun _ => ?_) (fun z => absurd rfl z))))
            exact y4 _ R hR
          refine CN_ite (fun hz => CN.mono (hnext v4 v5) (fun r u' y => ⟨y.1, fin _ ?_⟩)) (fun hz => CN.mono (hnext (nI (rowf L x)) (nI b')) (fun r u' y => ⟨y.1, fin _ ?_⟩))
          · rw [if_neg (Int32.not_lt.mpr hz)]
            exact y.2
          · rw [if_pos (Int32.not_le.mp hz)]
            exact y.2
        · have e14 := h14.inj hw
          have hne : ¬ nI f2 = -1 := nI_ne_1 (by omega)
          refine CN_ite (fun z => absurd (e14.symm.trans z) hne) (fun _ => CN.mono (hnext v4 v5) (fun r u' y => ⟨y.1, ?_⟩))
          unfold lp_bestPlace_9
          exact Rd_ite (fun z => absurd z hle2) (fun _ => Rd_rdN rfl (by omega) (by decide) h57 (Rd_rdN rfl (by omega) (by decide) h60 (Rd_ite (fun z => absurd z (by decide)) (fun _ => y.2))))
theorem c_best {B0 B : Nat → Int32} {u : MS} {w v : GS} {c L n k : Nat} {P : Nat → Bool} (hB : u.2 0 = B) (hR : R0 B0 w) (hG : iG w) (h96 : nF w ≤ 96) (hc : c < 4) (hL : L ≤ 5) (hn : n ≤ 2 ^ L) (hT : TD w v c L n P) (hS : SD B0 w c (2 ^ L) B v) (hU : RowU u L) : CN (x_X2_bestPlace (nI c) (nI k) (nI n)) u (fun r u' => u' = u ∧ Rd (f_bestPlace (nI c) (nI k) (nI (2 ^ L))) v (fun z => z = r)) := by
  have h32 := pow_lt32 hL
  unfold x_X2_bestPlace f_bestPlace
  exact l_best hB hR hG h96 hc hL hn hT hS hU n 0 fuel fuel (-1) (-1) (by omega) (by unfold fuel; omega)
/-! placing one, in the class -/
theorem CQ_one {β : Type} {u0 u : MS} {B : Nat → Int32} {c f p : Nat} {q : Int32 → AG β} {Q : β → MS → Prop} (h0 : Pt u0 u) (hB : u.2 0 = B) (hc : c < 4) (hf : f < 96) (hp : p < 32) (h : ∀ r v, Pt u0 v → v.2 0 = upd (upd B (8 + 36 * c + p) (nI f)) (153 + 7 * f) (nI p) → CQ (q r) v Q) : CQ (acl (x_X2_placeOne (nI c) (nI f) (nI p)) q) u Q := by
  refine CQ_cl (CQ.mono (?_ : CQ (x_X2_placeOne (nI c) (nI f) (nI p)) u (fun r v => Pt u0 v ∧ v.2 0 = upd (upd B (8 + 36 * c + p) (nI f)) (153 + 7 * f) (nI p))) (fun r v y => h r v y.1 y.2))
  have i1 : (4 : Int32) + nI p = nI (4 + p) := nI_add 4 _
  unfold x_X2_placeOne
  rw [i1, e_ofClass c (4 + p) rfl]
  refine CQ_rd (a := nI (4 + 36 * c + (4 + p))) rfl (CQ_pt h0 hB rfl (by omega) (fun _ v1 p1 b1 => CQ_oP (k := 5) rfl (CQ_pt p1 b1 rfl (by omega) (fun _ v2 p2 b2 => CQ_rt ⟨p2, ?_⟩))))
  rw [b2, show 4 + 36 * c + (4 + p) = 8 + 36 * c + p by omega, show 148 + 7 * f + 5 = 153 + 7 * f by omega]

