/-! ===== the head of the laws, in step ===== -/
theorem CN_nog {β : Type} {b : Bool} {p : NG β} {u : MS} {Q : β → MS → Prop} (h : CN p u Q) : CN (nog b p) u Q := fun r v e => by
  cases b with
  | true => exact h r v e
  | false => cases e
theorem tkh {k : Int32} {u : MS} {q : Int32 → NG Int32} {Q : Int32 → MS → Prop} {m : Nat} (hm : u.1 12 = nI m) (hm6 : m < 6) (h : CN (x_X5_takeHead k) u (fun _ v => CN (q 0) v Q)) : CN (ncl (x_X5_take k) q) u Q := by
  refine CN_cl (?_ : CN (x_X5_take k) u (fun r v => CN (q r) v Q))
  unfold x_X5_take
  refine CN_RFx hm (CN_ite (fun z => absurd ((nI_leI (a := 6) (b := m) (by decide) (by omega)).mp z) (by omega)) (fun _ => ?_))
  exact CN_cl (h.mono (fun _ _ z => CN_rt z))
theorem c_goIf1 {u : MS} {x : Int32} : CN (x_X5_goIf 1 x) u (fun _ v => v = si u 12 x) := by
  unfold x_X5_goIf
  exact CN_ite (fun z => absurd z (by decide)) (fun _ => CN_WFx (CN_rt rfl))
theorem c_goIf0 {u : MS} {x : Int32} : CN (x_X5_goIf 0 x) u (fun _ v => v = si (si u 11 1) 10 (u.1 5)) := by
  unfold x_X5_goIf
  exact CN_ite (fun _ => CN_app (c_fail 1) (fun _ v y => CN_rt y)) (fun z => absurd rfl z)
theorem c_room1 {u : MS} {x : Int32} : CN (x_X5_goIfRoom 1 x) u (fun _ v => v = si u 12 x) := by
  unfold x_X5_goIfRoom
  exact CN_ite (fun z => absurd z (by decide)) (fun _ => CN_WFx (CN_rt rfl))
theorem c_room0 {u : MS} {x : Int32} : CN (x_X5_goIfRoom 0 x) u (fun _ v => v = si (si u 11 3) 10 (u.1 5)) := by
  unfold x_X5_goIfRoom
  exact CN_ite (fun _ => CN_app (c_fail 3) (fun _ v y => CN_rt y)) (fun z => absurd rfl z)
/-- what the head's values leave -/
def hvv (u : MS) (m : Nat) (x : Int32) : MS := if m = 1 then si u 20 x else if m = 4 then si u 21 x else u
theorem th_ok {u : MS} {m : Nat} {k : Int32} (hm : u.1 12 = nI m) (hm6 : m < 6) (hk : k = hd6 m) : CN (x_X5_takeHead k) u (fun _ v => v = si (hvv u m (u.1 6)) 12 (nI (m + 1))) := by
  have hd : k = hd6 (nI m).toNatClampNeg := by rw [nI_clamp (by omega)]; exact hk
  have g1 : ∀ (w : MS), w.1 12 = nI m → CN (ncl (nRF 12) (fun x => ncl (x_X5_goIf 1 (x + 1)) (fun _ => nrt (0 : Int32)))) w (fun _ v => v = si w 12 (nI (m + 1))) := fun w hw => CN_RFx hw (by
    rw [nI_1]
    exact CN_app c_goIf1 (fun _ v y => CN_rt y))
  unfold x_X5_takeHead
  refine CN_RFx hm (CN_ite (fun z => absurd z (nI_nn (by omega))) (fun _ => CN_RFx hm (CN_ite (fun z => absurd ((nI_leI (a := 6) (b := m) (by decide) (by omega)).mp z) (by omega)) (fun _ => CN_RFx hm (CN_nog (CN_ite (fun _ => ?_) (fun z => absurd hd z)))))))
  refine CN_ite (fun z => absurd z (by decide)) (fun _ => CN_RFx hm (CN_ite (fun z => ?_) (fun z => ?_)))
  · have e : m = 1 := (nI_eq (a := m) (b := 1) (by omega) (by decide)).mp z
    have e2 : hvv u m (u.1 6) = si u 20 (u.1 6) := if_pos e
    rw [e2]
    refine CN_RF (CN_WFx (CN_ite (fun z => absurd z (by decide)) (fun _ => CN_RFx ((siO (by decide)).trans hm) (CN_ite (fun z4 => ?_) (fun _ => ?_)))))
    · have := (nI_eq (a := m) (b := 4) (by omega) (by decide)).mp z4
      omega
    · exact g1 _ ((siO (by decide)).trans hm)
  · have n1 : ¬ m = 1 := fun y => z (by rw [y]; rfl)
    refine CN_ite (fun z => absurd z (by decide)) (fun _ => CN_RFx hm (CN_ite (fun z4 => ?_) (fun z4 => ?_)))
    · have e : m = 4 := (nI_eq (a := m) (b := 4) (by omega) (by decide)).mp z4
      have e2 : hvv u m (u.1 6) = si u 21 (u.1 6) := (if_neg n1).trans (if_pos e)
      rw [e2]
      exact CN_RF (CN_WFx (g1 _ ((siO (by decide)).trans hm)))
    · have n4 : ¬ m = 4 := fun y => z4 (by rw [y]; rfl)
      have e2 : hvv u m (u.1 6) = u := (if_neg n1).trans (if_neg n4)
      rw [e2]
      exact g1 u hm
theorem th_no {u : MS} {m : Nat} {k : Int32} (hm : u.1 12 = nI m) (hm6 : m < 6) (hk : ¬ k = hd6 m) : CN (x_X5_takeHead k) u (fun _ v => v = si (si u 11 1) 10 (u.1 5)) := by
  have hd : ¬ k = hd6 (nI m).toNatClampNeg := by rw [nI_clamp (by omega)]; exact hk
  unfold x_X5_takeHead
  refine CN_RFx hm (CN_ite (fun z => absurd z (nI_nn (by omega))) (fun _ => CN_RFx hm (CN_ite (fun z => absurd ((nI_leI (a := 6) (b := m) (by decide) (by omega)).mp z) (by omega)) (fun _ => CN_RFx hm (CN_nog (CN_ite (fun z => absurd z hd) (fun _ => ?_)))))))
  exact CN_ite (fun _ => CN_ite (fun _ => CN_RF (CN_app c_goIf0 (fun _ v y => CN_rt y))) (fun z => absurd rfl z)) (fun z => absurd rfl z)
theorem Same.si2 {LI LA : List Nat} {u v : MS} (h : Same LI LA u v) (k : Nat) (x : Int32) : Same LI LA (si u k x) (si v k x) := ⟨fun j hj => by
  by_cases e : j = k
  · rw [e]
    exact (siE _ _ _).trans (siE _ _ _).symm
  · exact (siO e).trans ((h.1 j hj).trans (siO e).symm), h.2⟩
theorem Same.sf2 {LI LA : List Nat} {u v : MS} (h : Same LI LA u v) (k : Nat) (f : Nat → Int32) : Same LI LA (sf u k f) (sf v k f) := ⟨h.1, fun j hj => by
  by_cases e : j = k
  · rw [e]
    exact (sfE _ _ _).trans (sfE _ _ _).symm
  · have e1 : (sf v k f).2 j = v.2 j := if_neg e
    have e2 : (sf u k f).2 j = u.2 j := if_neg e
    rw [e1, e2]
    exact h.2 j hj⟩
theorem XC.b {u0 u : MS} {m p sg cm j : Nat} {cs : List (Nat × Nat)} {S : List Nat} (h : XC u0 m cs S p sg cm u) (hj : 20 ≤ j ∧ j ≤ 23) (x : Int32) : XC (si u0 j x) m cs S p sg cm (si u j x) := by
  obtain ⟨a1, a2, a3, ⟨a4, a5⟩, ⟨a6, a7⟩, a8, a9, a10, a11, a12⟩ := h
  have e : ∀ k, (k < 20 ∨ 23 < k) → (si u j x).1 k = u.1 k := fun k h1 => siO (by omega)
  exact ⟨a1.si2 j x, (e 12 (by decide)).trans a2, (e 11 (by decide)).trans a3, ⟨(e 25 (by decide)).trans a4, a5⟩, ⟨(e 7 (by decide)).trans a6, a7⟩, (e 24 (by decide)).trans a8, (e 8 (by decide)).trans a9, (e 9 (by decide)).trans a10, (e 14 (by decide)).trans a11, (e 15 (by decide)).trans a12⟩
theorem XC.ba {u0 u : MS} {m p sg cm j : Nat} {cs : List (Nat × Nat)} {S : List Nat} (h : XC u0 m cs S p sg cm u) (hj : ¬ j = 7 ∧ ¬ j = 8) (f : Nat → Int32) : XC (sf u0 j f) m cs S p sg cm (sf u j f) := by
  obtain ⟨a1, a2, a3, ⟨a4, a5⟩, ⟨a6, a7⟩, a8, a9, a10, a11, a12⟩ := h
  have e7 : (sf u j f).2 7 = u.2 7 := if_neg (fun z => hj.1 z.symm)
  have e8 : (sf u j f).2 8 = u.2 8 := if_neg (fun z => hj.2 z.symm)
  exact ⟨a1.sf2 j f, a2, a3, ⟨a4, fun i hi => by rw [e8]; exact a5 i hi⟩, ⟨a6, fun i hi => by rw [e7]; exact a7 i hi⟩, a8, a9, a10, a11, a12⟩
theorem XC.hvv1 {u0 u : MS} {m p sg cm : Nat} {cs : List (Nat × Nat)} {S : List Nat} (h : XC u0 m cs S p sg cm u) (x : Int32) : XC (hvv u0 m x) m cs S p sg cm (hvv u m x) := by
  unfold hvv
  by_cases h1 : m = 1
  · rw [if_pos h1, if_pos h1]
    exact h.b (by decide) x
  · rw [if_neg h1, if_neg h1]
    by_cases h4 : m = 4
    · rw [if_pos h4, if_pos h4]
      exact h.b (by decide) x
    · rw [if_neg h4, if_neg h4]
      exact h
theorem hvv_same (u : MS) (m : Nat) (x : Int32) : Same [20, 21] [] u (hvv u m x) := by
  unfold hvv
  by_cases h1 : m = 1
  · rw [if_pos h1]
    exact Same_si (by decide)
  · rw [if_neg h1]
    by_cases h4 : m = 4
    · rw [if_pos h4]
      exact Same_si (by decide)
    · rw [if_neg h4]
      exact Same.rf _
section
variable {T : Nat → Nat} {N ns : Nat} {st sz : Nat → Nat} {u0 : MS} {v0 : GS} {a b m h o sg cm p : Nat} {cs : List (Nat × Nat)} {S : List Nat}
theorem tk_nz (hE : TkE T N a b) : (tkk T N a b = 0 ↔ ¬ a < N) ∧ (rkk T N a b = 0 ↔ ¬ a < N) := by
  have hm : ∀ t e, 1 ≤ mkk t e := fun t e => by
    rcases mkk_inv t e with z | z
    · omega
    · omega
  unfold tkk rkk
  by_cases hlt : a < N
  · rw [if_pos hlt, if_pos hlt]
    have := wk_v T a b
    have h2 := hm (T a) (eqn T N (a + 1))
    refine ⟨⟨fun z => ?_, fun z => absurd hlt z⟩, ⟨fun z => ?_, fun z => absurd hlt z⟩⟩
    · by_cases h3 : tLe (T a)
      · rw [if_pos h3] at z
        by_cases h4 : b - a ≤ 10
        · rw [if_pos h4] at z; omega
        · rw [if_neg h4] at z; omega
      · rw [if_neg h3] at z
        by_cases h4 : tDi (T a)
        · rw [if_pos h4] at z
          by_cases h5 : b - a ≤ 4
          · rw [if_pos h5] at z; omega
          · rw [if_neg h5] at z; omega
        · rw [if_neg h4] at z; omega
    · by_cases h3 : tLe (T a)
      · rw [if_pos h3] at z
        by_cases h4 : b - a ≤ 10
        · rw [if_pos h4] at z; omega
        · rw [if_neg h4] at z; omega
      · rw [if_neg h3] at z
        by_cases h4 : tDi (T a)
        · rw [if_pos h4] at z
          by_cases h5 : b - a ≤ 4
          · rw [if_pos h5] at z; omega
          · rw [if_neg h5] at z; omega
        · rw [if_neg h4] at z
          by_cases h5 : mkk (T a) (eqn T N (a + 1)) = 1
          · rw [if_pos h5] at z; omega
          · rw [if_neg h5] at z; omega
  · rw [if_neg hlt, if_neg hlt]
    exact ⟨⟨fun _ => hlt, fun _ => rfl⟩, ⟨fun _ => hlt, fun _ => rfl⟩⟩
def HdC (T : Nat → Nat) (N : Nat) (u0 : MS) (m a b : Nat) (c : NG Int32) (u : MS) : Prop := ∃ sg cm, LQm T N u0 m [] [] 0 sg cm a b c u
theorem to_head {a2 b2 : Nat} {x : Int32} (hm6 : m < 6) (hk : nI (tkk T N a b) = hd6 m) (hnz : ¬ tkk T N a b = 0) (hx : (m = 1 ∨ m = 4) → tkk T N a b = 3 ∧ x = nI (vl T a (min 4 (b - a)))) (hR : Run tBl T N b a2) (hE2 : TkE T N a2 b2) : To (HdC T N u0 m a b) (HdC T N (hvv u0 m x) (m + 1) a2 b2) := by
  rintro c u ⟨sg, cm, g, n, rfl, hn, hC, hX⟩ Q hq
  unfold LQ
  refine CN_RFx hC.2.2.2.2.2.2.1 (tkh hX.2.1 hm6 ((th_ok hX.2.1 hm6 hk).mono (fun _ v y => ?_)))
  subst y
  have e : hvv u m (u.1 6) = hvv u m x := by
    unfold hvv
    by_cases h1 : m = 1
    · rw [if_pos h1, if_pos h1, hC.2.2.2.2.2.2.2 (hx (Or.inl h1)).1, (hx (Or.inl h1)).2]
    · rw [if_neg h1, if_neg h1]
      by_cases h4 : m = 4
      · rw [if_pos h4, if_pos h4, hC.2.2.2.2.2.2.2 (hx (Or.inr h4)).1, (hx (Or.inr h4)).2]
      · rw [if_neg h4, if_neg h4]
  rw [e]
  have hX2 := (hX.hvv1 x).w12 (m + 1)
  have hC2 := (hC.sm (hvv_same u m x) (fun k h1 h2 h3 => by simp at h3; omega) (by decide)).sm (LI := [12]) (LA := []) (v := si (hvv u m x) 12 (nI (m + 1))) (Same_si (by decide)) (fun k h1 h2 h3 => by simp at h3; omega) (by decide)
  exact on_next hC2 hnz hn hX2 (by omega) hR hE2 (fun g2 n2 u2 y1 y2 y3 _ => hq _ _ ⟨sg, cm, g2, n2, rfl, y1, y2, y3⟩)
theorem to_head1 (hm6 : m < 6) (hk : ¬ nI (tkk T N a b) = hd6 m) : To (HdC T N u0 m a b) (FP 1 a) := by
  rintro c u ⟨sg, cm, g, n, rfl, hn, hC, hX⟩ Q hq
  unfold LQ
  refine CN_RFx hC.2.2.2.2.2.2.1 (tkh hX.2.1 hm6 ((th_no hX.2.1 hm6 hk).mono (fun _ v y => ?_)))
  subst y
  exact run_fault ⟨(siO (by decide)).trans (siE _ _ _), (siE _ _ _).trans hC.2.2.2.2.1⟩ ⟨by decide, by decide⟩ hq
theorem r_number {v : GS} (hP : RP T N a b v) : Ok f_number v (fun ro w => (tkk T N a b = 3 ∧ ro = some (nI (vl T a (min 4 (b - a)))) ∧ ScF v w ∧ ∃ a2 b2, Run tBl T N b a2 ∧ RP T N a2 b2 w) ∨ (¬ tkk T N a b = 3 ∧ ro = none ∧ w = wr v 1 a)) := by
  have hw := tkk_word hP.2.1
  have hr4 : rkk T N a b ≤ 4 := by
    unfold rkk
    repeat' split
    all_goals decide
  unfold f_number
  refine Ok_rfN hP.2.2.2.2.2.2.1 (Ok_ite (fun z => ?_) (fun z => ?_))
  · have z2 := (nI_eq (a := rkk T N a b) (b := 2) (by omega) (by decide)).mp z
    refine Ok_rfN (hP.2.2.2.2.2.2.2 z2) (Ok_cl (Ok.mono (r_scan hP) (fun _ w y => Ok_rt (Or.inl ⟨hw.2.mp z2, rfl, y.1, y.2⟩))))
  · exact Ok.mono (r_wrong 1 rfl hP.2.2.2.2.1) (fun ro w y => Or.inr ⟨fun x => z (by rw [hw.2.mpr x]; rfl), y⟩)
/-- the reference's cells while the head and the signs are read -/
def HV (v : GS) : Prop := Im v 30 (nI 0) ∧ Im v 31 (nI 0) ∧ Im v 51 (nI 0)
theorem Im.sc {v w : GS} {k : Nat} {x : Int32} (h : Im v k x) (hs : ScF v w) (hk : ¬ (44 ≤ k ∧ k ≤ 47)) : Im w k x := ⟨(hs.2.2 k hk).2.trans h.1, (hs.2.2 k hk).1.trans h.2⟩
theorem HV.sc {v w : GS} (h : HV v) (hs : ScF v w) : HV w := ⟨h.1.sc hs (by decide), h.2.1.sc hs (by decide), h.2.2.sc hs (by decide)⟩
theorem HV.wf {v : GS} (h : HV v) {k : Nat} (x : Int32) (hk : ¬ k = 30 ∧ ¬ k = 31 ∧ ¬ k = 51) : HV (swf k x v) := ⟨h.1.o (fun z => hk.1 z.symm), h.2.1.o (fun z => hk.2.1 z.symm), h.2.2.o (fun z => hk.2.2 z.symm)⟩
end
