/-! ===== what both parsers have written and hold ===== -/
def at0 (cs : List (Nat × Nat)) (i : Nat) : Nat × Nat := cs.getD i (0, 0)
theorem at0_l {cs ds : List (Nat × Nat)} {i : Nat} (h : i < cs.length) : at0 (cs ++ ds) i = at0 cs i := by
  unfold at0
  rw [List.getD_eq_getElem?_getD, List.getD_eq_getElem?_getD, List.getElem?_append_left h]
theorem at0_e {cs : List (Nat × Nat)} {x : Nat × Nat} : at0 (cs ++ [x]) cs.length = x := by
  unfold at0
  rw [List.getD_eq_getElem?_getD, List.getElem?_append_right (Nat.le_refl _), Nat.sub_self]
  rfl
def CgC (cs : List (Nat × Nat)) (u : MS) : Prop := u.1 25 = nI cs.length ∧ ∀ i, i < cs.length → u.2 8 i = nI ((at0 cs i).1 * 10000 + (at0 cs i).2)
def CgV (cs : List (Nat × Nat)) (v : GS) : Prop := Im v 31 (nI cs.length) ∧ ∀ i, i < cs.length → Am v 36 i (nI (opK (at0 cs i).1)) ∧ Am v 37 i (nI (at0 cs i).2)
def StC (S : List Nat) (u : MS) : Prop := u.1 7 = nI S.length ∧ ∀ i, i < S.length → u.2 7 i = nI (S.getD (S.length - 1 - i) 0)
def nOp : List Nat → Nat
  | [] => 0
  | x :: S => (if x = 11 ∨ x = 17 then 1 else 0) + nOp S
def nBr : List Nat → Nat
  | [] => 0
  | x :: S => (if x = 17 then 1 else 0) + nBr S
theorem CN_app {α β : Type} {p : NG α} {q : α → NG β} {u : MS} {P : α → MS → Prop} {Q : β → MS → Prop} (h : CN p u P) (hq : ∀ r v, P r v → CN (q r) v Q) : CN (ncl p q) u Q := CN_cl (h.mono hq)
theorem c_fail {u : MS} (k : Int32) : CN (x_X5_fail k) u (fun _ v => v = si (si u 11 k) 10 (u.1 5)) := by
  unfold x_X5_fail
  exact CN_WFx (CN_RFx (siO (by decide)) (CN_WFx (CN_rt rfl)))
theorem c_part_no {u : MS} {m : Int32} (h : u.1 24 = nI 300) : CN (x_X5_takePart m) u (fun _ v => v = si (si u 11 3) 10 (u.1 5)) := by
  unfold x_X5_takePart
  refine CN_RFx h (CN_ite (fun _ => ?_) (fun z => absurd (Int32.le_refl _) z))
  refine CN_app (P := fun _ v => v = si (si u 11 3) 10 (u.1 5)) ?_ (fun _ v y => ?_)
  · unfold x_X5_goIfRoom
    exact CN_ite (fun _ => CN_app (c_fail 3) (fun _ v y => CN_rt y)) (fun z => absurd rfl z)
  · subst y
    exact CN_RFx ((siO (by decide)).trans (siE _ _ _)) (CN_ite (fun z => absurd z (by decide)) (fun _ => CN_rt rfl))
theorem c_part_ok {u : MS} {m : Int32} {p : Nat} (h : u.1 24 = nI p) (hp : p < 300) (hf : u.1 11 = 0) : CN (x_X5_takePart m) u (fun _ v => v = si (si u 12 m) 24 (nI (p + 1))) := by
  unfold x_X5_takePart
  refine CN_RFx h (CN_ite (fun z => absurd ((nI_leI (a := 300) (b := p) (by decide) (by omega)).mp z) (by omega)) (fun _ => ?_))
  refine CN_app (P := fun _ v => v = si u 12 m) ?_ (fun _ v y => ?_)
  · unfold x_X5_goIfRoom
    exact CN_ite (fun z => absurd z (by decide)) (fun _ => CN_WFx (CN_rt rfl))
  · subst y
    refine CN_RFx ((siO (by decide)).trans hf) (CN_ite (fun _ => CN_RFx ((siO (by decide)).trans h) (CN_WFx ?_)) (fun z => absurd rfl z))
    rw [nI_1]
    exact CN_rt rfl
def em8 (u : MS) (e kd f : Nat) : MS := si (sf u 8 (upd (u.2 8) e (nI (kd * 10000 + f)))) 25 (nI (e + 1))
theorem c_emit {u : MS} {e kd f : Nat} (h : u.1 25 = nI e) (he : e < 300) {k x : Int32} (hk : k = nI kd) (hx : x = nI f) : CN (x_X4_emit k x) u (fun _ v => v = em8 u e kd f) := by
  subst hk
  subst hx
  have e1 : nI kd * 10000 + nI f = nI (kd * 10000 + f) := by
    have a1 : nI kd * 10000 = nI (kd * 10000) := nI_mul kd 10000
    rw [a1, nI_add]
  unfold x_X4_emit
  refine CN_RFx h (CN_ST (CN_RFx h (CN_WFx ?_)))
  rw [e1, wrN _ he (by decide), nI_1]
  exact CN_rt rfl
theorem CgC.snoc {cs : List (Nat × Nat)} {u : MS} {kd f : Nat} (h : CgC cs u) (hl : cs.length < 300) : CgC (cs ++ [(kd, f)]) (em8 u cs.length kd f) := by
  refine ⟨?_, fun i hi => ?_⟩
  · rw [List.length_append]
    exact siE _ _ _
  · rw [List.length_append, List.length_singleton] at hi
    show (em8 u cs.length kd f).2 8 i = _
    unfold em8
    rw [siA, sfE]
    by_cases he : i = cs.length
    · rw [he, upd_e, at0_e]
    · rw [upd_n he, at0_l (by omega)]
      exact h.2 i (by omega)
theorem em8_same (u : MS) (e kd f : Nat) : Same [25] [8] u (em8 u e kd f) := (Same_sf (by decide)).trans (Same_si (by decide))
/-- what a put leaves in the reference -/
def pv (v : GS) (e kd f : Nat) : GS := swf 31 (nI (e + 1)) (swd 37 (nI e) (nI f) (swd 36 (nI e) (nI (opK kd)) v))
theorem pv_am {v : GS} {e kd f k j : Nat} {x : Int32} (h : Am (swd 37 (nI e) (nI f) (swd 36 (nI e) (nI (opK kd)) v)) k j x) : Am (pv v e kd f) k j x := h
theorem r_put {v : GS} {e kd f : Nat} (h : Im v 31 (nI e)) (he : e < 300) {k x : Int32} (hk : k = nI (opK kd)) (hx : x = nI f) : Ok (f_put k x) v (fun _ w => w = pv v e kd f) := by
  subst hk
  subst hx
  unfold f_put
  refine Ok_rfN h (Ok_wdN rfl he (by decide) (Ok_rfN h (Ok_wdN rfl he (by decide) (Ok_rfN h (Ok_wf ?_)))))
  rw [nI_1]
  exact Ok_rt rfl
theorem CgV.snoc {cs : List (Nat × Nat)} {v : GS} {kd f : Nat} (h : CgV cs v) (hl : cs.length < 300) : CgV (cs ++ [(kd, f)]) (pv v cs.length kd f) := by
  refine ⟨?_, fun i hi => ?_⟩
  · rw [List.length_append]
    exact swf_e
  · rw [List.length_append, List.length_singleton] at hi
    by_cases he : i = cs.length
    · rw [he, at0_e]
      exact ⟨pv_am (Am.o (by decide) (sw_A (by omega))), pv_am (sw_A (by omega))⟩
    · rw [at0_l (by omega)]
      obtain ⟨a, b⟩ := h.2 i (by omega)
      exact ⟨pv_am (Am.o (by decide) (sw_An (by omega) he a)), pv_am (sw_An (by omega) he (Am.o (by decide) b))⟩

