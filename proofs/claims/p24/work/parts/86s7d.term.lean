/-! ===== a term, in step ===== -/
def sgl (sg : Nat) : List (Nat × Nat) := if sg = 0 then [] else [(sg, 0)]
def Trm (kd f : Nat) : Prop := (kd = 3 ∧ f < 10000) ∨ (kd = 16 ∧ f = 0) ∨ ((kd = 14 ∨ kd = 15) ∧ f < 8)
theorem sgl_len (sg : Nat) : (sgl sg).length ≤ 1 ∧ (sg = 0 → (sgl sg).length = 0) := by
  unfold sgl
  by_cases h : sg = 0
  · rw [if_pos h]; exact ⟨by decide, fun _ => rfl⟩
  · rw [if_neg h]; exact ⟨Nat.le_refl _, fun z => absurd z h⟩
theorem c_emitTerm {u : MS} {cs : List (Nat × Nat)} {sg kd f : Nat} (hC : CgC cs u) (h14 : u.1 14 = nI sg) (hsg : sg < 100) (hl : cs.length + 1 + (sgl sg).length ≤ 300) : CN (x_X5_emitTerm (nI kd) (nI f)) u (fun _ v => Same [14, 25] [8] u v ∧ CgC (cs ++ (kd, f) :: sgl sg) v ∧ v.1 14 = 0) := by
  unfold x_X5_emitTerm
  refine CN_app (c_emit hC.1 (by omega) rfl rfl) (fun _ v y => ?_)
  subst y
  have h1 := hC.snoc (kd := kd) (f := f) (by omega)
  have s1 := em8_same u cs.length kd f
  have e14 : (em8 u cs.length kd f).1 14 = nI sg := (s1.1 14 (by decide)).trans h14
  generalize em8 u cs.length kd f = v at h1 s1 e14
  have s1' : Same [14, 25] [8] u v := s1.mono (by decide) (by decide)
  refine CN_RFx e14 (CN_ite (fun z => CN_WFx (CN_rt ?_)) (fun z => CN_RFx e14 ?_))
  · have z0 := (nI_eq (a := sg) (b := 0) (by omega) (by decide)).mp z
    refine ⟨s1'.trans (Same_si (by decide)), ?_, siE _ _ _⟩
    unfold sgl
    rw [if_pos z0]
    exact ⟨(siO (by decide)).trans h1.1, h1.2⟩
  · have z0 : ¬ sg = 0 := fun y => z (by rw [y]; rfl)
    have hs1 : sgl sg = [(sg, 0)] := by unfold sgl; rw [if_neg z0]
    rw [hs1] at hl ⊢
    have hl2 : (cs ++ [(kd, f)]).length < 300 := by
      rw [List.length_append, List.length_singleton]
      have : [(sg, 0)].length = 1 := rfl
      omega
    refine CN_app (c_emit h1.1 hl2 rfl (show (0 : Int32) = nI 0 from rfl)) (fun _ w y => ?_)
    subst y
    have h2 := h1.snoc (kd := sg) (f := 0) hl2
    refine CN_WFx (CN_rt ⟨(s1'.trans ((em8_same v _ sg 0).mono (by decide) (by decide))).trans (Same_si (by decide)), ?_, siE _ _ _⟩)
    have e : cs ++ (kd, f) :: [(sg, 0)] = cs ++ [(kd, f)] ++ [(sg, 0)] := by rw [List.append_assoc]; rfl
    rw [e]
    exact ⟨(siO (by decide)).trans h2.1, h2.2⟩
theorem SgV.rv {T : Nat → Nat} {ns : Nat} {st sz : Nat → Nat} {v0 v : GS} (h : SgV T ns st sz v0) (hr : RV v0 v) : SgV T ns st sz v := by
  have a33 := hr.2 33 (by decide)
  have a32 := hr.2 32 (by decide)
  refine ⟨⟨(hr.1 29 (by decide)).2.trans h.1.1, (hr.1 29 (by decide)).1.trans h.1.2⟩, fun l hl => ?_⟩
  unfold Am
  rw [a33.1, a33.2, a32.1, a32.2]
  exact h.2 l hl
theorem SgC.sm {ns : Nat} {st sz : Nat → Nat} {u0 u : MS} {LI LA : List Nat} (h : SgC ns st sz u0) (hs : Same LI LA u0 u) (h22 : ¬ 22 ∈ LI) (h5 : ¬ 5 ∈ LA) (h6 : ¬ 6 ∈ LA) : SgC ns st sz u := by
  refine ⟨(hs.1 22 h22).trans h.1, fun l hl => ?_⟩
  rw [hs.2 5 h5, hs.2 6 h6]
  exact h.2 l hl
section
variable {T : Nat → Nat} {N : Nat}
theorem tkk_word {a b : Nat} (hE : TkE T N a b) : (tkk T N a b = 2 ↔ (rkk T N a b = 1 ∧ ¬ (4 ≤ tkk T N a b ∧ tkk T N a b ≤ 16))) ∧ (rkk T N a b = 2 ↔ tkk T N a b = 3) := by
  have hm : ∀ t e, mkk t e = 1 ∨ 17 ≤ mkk t e := fun t e => (mkk_inv t e).imp id (fun z => z.1)
  unfold tkk rkk
  rcases hE with ⟨h1, -⟩ | ⟨hlt, hL, hR⟩ | ⟨hlt, hL, hD, hR⟩ | ⟨hlt, hL, hD, hb⟩
  · rw [if_neg (by omega), if_neg (by omega)]
    omega
  · rw [if_pos hlt, if_pos hlt, if_pos hL, if_pos hL]
    by_cases h10 : b - a ≤ 10
    · rw [if_pos h10, if_pos h10]
      have := wk_v T a b
      omega
    · rw [if_neg h10, if_neg h10]
      omega
  · rw [if_pos hlt, if_pos hlt, if_neg hL, if_neg hL, if_pos hD, if_pos hD]
    by_cases h10 : b - a ≤ 4
    · rw [if_pos h10, if_pos h10]
      omega
    · rw [if_neg h10, if_neg h10]
      omega
  · rw [if_pos hlt, if_pos hlt, if_neg hL, if_neg hL, if_neg hD, if_neg hD]
    have := hm (T a) (eqn T N (a + 1))
    by_cases h1 : mkk (T a) (eqn T N (a + 1)) = 1
    · rw [if_pos h1]
      omega
    · rw [if_neg h1]
      omega
theorem tkk_le (a b : Nat) (hE : TkE T N a b) : tkk T N a b ≤ 27 := by
  have hm : ∀ t e, mkk t e ≤ 27 := fun t e => by
    rcases mkk_inv t e with z | z
    · omega
    · exact z.2.1
  unfold tkk
  repeat' split
  all_goals first
    | decide
    | exact hm _ _
    | (have := wk_v T a b; omega)
theorem vl_lt {a b : Nat} (hR : Run tDi T N a b) : ∀ m, m ≤ b - a → vl T a m < 10 ^ m := by
  intro m
  induction m with
  | zero =>
    intro _
    show (0 : Nat) < 1
    decide
  | succ m ih =>
    intro hm
    have h1 := ih (by omega)
    have h2 := hR.2.2.1 (a + m) (by omega) (by omega)
    rw [vl_s, Nat.pow_succ]
    have : T (a + m) ≤ 57 := h2.2
    omega
theorem num_lt {a b : Nat} (hE : TkE T N a b) (h3 : tkk T N a b = 3) : vl T a (min 4 (b - a)) < 10000 := by
  have hm := mkk_inv (T a) (eqn T N (a + 1))
  rcases hE with ⟨h1, -⟩ | ⟨hlt, hL, hR⟩ | ⟨hlt, hL, hD, hR⟩ | ⟨hlt, hL, hD, hb⟩
  · unfold tkk at h3
    rw [if_neg (by omega)] at h3
    exact absurd h3 (by decide)
  · unfold tkk at h3
    rw [if_pos hlt, if_pos hL] at h3
    have := wk_v T a b
    by_cases h10 : b - a ≤ 10
    · rw [if_pos h10] at h3; omega
    · rw [if_neg h10] at h3; omega
  · have h1 := vl_lt hR (min 4 (b - a)) (by omega)
    have h2 : 10 ^ (min 4 (b - a)) ≤ 10 ^ 4 := Nat.pow_le_pow_right (by decide) (by omega)
    have h3 : (10 : Nat) ^ 4 = 10000 := by decide
    omega
  · unfold tkk at h3
    rw [if_pos hlt, if_neg hL, if_neg hD] at h3
    omega
theorem r_quoted {a b : Nat} {v : GS} (h : RP T N a b v) : Rd f_isQuoted v (fun r => r = if 4 ≤ tkk T N a b ∧ tkk T N a b ≤ 16 then 1 else 0) := by
  have is : ∀ k, 1 ≤ k → k < 14 → Rd (f_is k) v (fun r => (tkk T N a b = k + 3 ∧ r = 1) ∨ (¬ tkk T N a b = k + 3 ∧ r = 0)) := fun k h1 h2 => by
    refine Rd.mono (r_is h k h1 (by omega)) (fun r hr => ?_)
    have ek : kc k = k + 3 := by unfold kc; rw [if_pos (by omega)]
    rw [ek] at hr
    by_cases z : tkk T N a b = k + 3
    · rw [if_pos z] at hr; exact Or.inl ⟨z, hr⟩
    · rw [if_neg z] at hr; exact Or.inr ⟨z, hr⟩
  have hstep : ∀ k, 1 ≤ k → k < 14 → ∀ p : PG Int32, (¬ tkk T N a b = k + 3 → Rd p v (fun r => r = if 4 ≤ tkk T N a b ∧ tkk T N a b ≤ 16 then 1 else 0)) → Rd (pcl (f_is k) (fun r => (if r = 0 then p else prt 1))) v (fun r => r = if 4 ≤ tkk T N a b ∧ tkk T N a b ≤ 16 then 1 else 0) := fun k h1 h2 p hp => by
    refine Rd_clR (is k h1 h2) (fun r hr => ?_)
    rcases hr with ⟨z, rfl⟩ | ⟨z, rfl⟩
    · exact Rd_ite (fun q => absurd q (by decide)) (fun _ => Rd_rt (by rw [if_pos ⟨by omega, by omega⟩]))
    · exact Rd_ite (fun _ => hp z) (fun q => absurd rfl q)
  unfold f_isQuoted
  refine hstep 1 (by decide) (by decide) _ (fun n1 => hstep 2 (by decide) (by decide) _ (fun n2 => hstep 3 (by decide) (by decide) _ (fun n3 => hstep 4 (by decide) (by decide) _ (fun n4 => hstep 5 (by decide) (by decide) _ (fun n5 => hstep 6 (by decide) (by decide) _ (fun n6 => hstep 7 (by decide) (by decide) _ (fun n7 => hstep 8 (by decide) (by decide) _ (fun n8 => hstep 9 (by decide) (by decide) _ (fun n9 => hstep 10 (by decide) (by decide) _ (fun n10 => hstep 11 (by decide) (by decide) _ (fun n11 => hstep 12 (by decide) (by decide) _ (fun n12 => hstep 13 (by decide) (by decide) _ (fun n13 => Rd_rt ?_)))))))))))))
  rw [if_neg (by omega)]
theorem r_name {a b : Nat} {v : GS} (h : RP T N a b v) : Ok f_name v (fun ro w => (tkk T N a b = 2 ∧ ro = some 0 ∧ w = v) ∨ (¬ tkk T N a b = 2 ∧ ro = none ∧ w = wr v 1 a)) := by
  have hw := (tkk_word h.2.1).1
  have h46 := h.2.2.2.2.2.2.1
  have h44 := h.2.2.2.2.1
  have hr : rkk T N a b ≤ 4 := by
    unfold rkk
    repeat' split
    all_goals decide
  unfold f_name
  refine Ok_rfN h46 (Ok_ite (fun z => ?_) (fun z => ?_))
  · have z := (nI_eq (a := rkk T N a b) (b := 1) (by omega) (by decide)).mp z
    refine Ok_clR (r_quoted h) (fun r hr => ?_)
    by_cases q : 4 ≤ tkk T N a b ∧ tkk T N a b ≤ 16
    · rw [if_pos q] at hr
      subst hr
      exact Ok_ite (fun y => absurd y (by decide)) (fun _ => Ok.mono (r_wrong 1 rfl h44) (fun ro w y => Or.inr ⟨fun x => (hw.mp x).2 q, y⟩))
    · rw [if_neg q] at hr
      subst hr
      exact Ok_ite (fun _ => Ok_rt (Or.inl ⟨hw.mpr ⟨z, q⟩, rfl, rfl⟩)) (fun y => absurd rfl y)
  · exact Ok.mono (r_wrong 1 rfl h44) (fun ro w y => Or.inr ⟨fun x => z (by rw [(hw.mp x).1]; rfl), y⟩)
end
