/-! ===== marks, words and tokens in the class ===== -/
def wide (t : Nat) (e : Bool) : Nat := if e = true ∧ (t = 33 ∨ t = 60 ∨ t = 62) then 1 else 0
def mkk (t : Nat) (e : Bool) : Nat := if t = 33 then (if e = true then 27 else 1) else if t = 40 then 17 else if t = 41 then 18 else if t = 43 then 20 else if t = 45 then 21 else if t = 59 then 19 else if t = 60 then (if e = true then 23 else 22) else if t = 61 then 26 else if t = 62 then (if e = true then 25 else 24) else 1
def eqn (T : Nat → Nat) (N i : Nat) : Bool := decide (i < N ∧ T i = 61)
section
variable {T : Nat → Nat} {N : Nat}
theorem c_takeEq {v : MS} {b : Nat} (hT : TC T N v) (hb : v.1 3 = nI b) (hbN : b ≤ N) : CN x_X10_takeEqual v (fun r w => r = (if eqn T N b = true then 1 else 0) ∧ Same [3] [] v w ∧ w.1 3 = nI (b + (if eqn T N b = true then 1 else 0))) := by
  have hN := hT.1
  have ee : eqn T N b = true ↔ (b < N ∧ T b = 61) := decide_eq_true_iff
  unfold x_X10_takeEqual
  refine CN_RFx hb (CN_RFx hT.2.1 (CN_ite (fun z => CN_ite (fun _ => ?_) (fun z => absurd rfl z)) (fun z => CN_RFx hb (CN_GT ?_))))
  · have hno : ¬ eqn T N b = true := fun y => absurd ((nI_leI (by omega) (by omega)).mp z) (by have := (ee.mp y).1; omega)
    rw [if_neg hno, if_neg hno]
    exact CN_rt ⟨rfl, Same.rf _, hb⟩
  · have hlt : b < N := Nat.not_le.mp (fun y => z (nI_le y (by omega)))
    rw [hT.gt hlt]
    refine CN_ite (fun z => CN_ite (fun z => absurd z (by decide)) (fun _ => CN_RFx hb (CN_WFx ?_))) (fun z => CN_ite (fun _ => ?_) (fun z => absurd rfl z))
    · have hy : eqn T N b = true := ee.mpr ⟨hlt, (nI_eq (a := T b) (b := 61) (by have := (hT.2.2 b hlt).1; omega) (by decide)).mp z⟩
      rw [if_pos hy, if_pos hy, nI_1]
      exact CN_rt ⟨rfl, Same_si (by decide), siE _ _ _⟩
    · have hno : ¬ eqn T N b = true := fun y => z (by rw [(ee.mp y).2]; rfl)
      rw [if_neg hno, if_neg hno]
      exact CN_rt ⟨rfl, Same.rf _, hb⟩
theorem c_mark {v : MS} {b t : Nat} (hT : TC T N v) (hb : v.1 3 = nI b) (hbN : b ≤ N) (ht : t < 256) : CN (x_X10_markOf (nI t)) v (fun r w => r = nI (mkk t (eqn T N b)) ∧ Same [3] [] v w ∧ w.1 3 = nI (b + wide t (eqn T N b))) := by
  have e : ∀ c : Nat, c < 256 → nI t = nI c → t = c := fun c hc z => (nI_eq (by omega) (by omega)).mp z
  have fin : ∀ k : Nat, mkk t (eqn T N b) = k → wide t (eqn T N b) = 0 → CN (nrt (nI k)) v (fun r w => r = nI (mkk t (eqn T N b)) ∧ Same [3] [] v w ∧ w.1 3 = nI (b + wide t (eqn T N b))) := fun k h1 h2 => CN_rt ⟨by rw [h1], Same.rf _, by rw [h2]; exact hb⟩
  have two : ∀ k1 k2 : Nat, (t = 33 ∨ t = 60 ∨ t = 62) → mkk t (eqn T N b) = (if eqn T N b = true then k2 else k1) → CN (ncl x_X10_takeEqual (fun r => (if r = 0 then nrt (nI k1) else nrt (nI k2)))) v (fun r w => r = nI (mkk t (eqn T N b)) ∧ Same [3] [] v w ∧ w.1 3 = nI (b + wide t (eqn T N b))) := fun k1 k2 h3 h4 => by
    refine CN_cl (CN.mono (c_takeEq hT hb hbN) (fun r w y => ?_))
    obtain ⟨y1, y2, y3⟩ := y
    have hw : wide t (eqn T N b) = (if eqn T N b = true then 1 else 0) := by
      unfold wide
      by_cases hz : eqn T N b = true
      · rw [if_pos ⟨hz, h3⟩, if_pos hz]
      · rw [if_neg (fun q => hz q.1), if_neg hz]
    rw [h4, hw]
    by_cases hz : eqn T N b = true
    · rw [if_pos hz] at y1
      rw [y1, if_neg (by decide)]
      exact CN_rt ⟨by rw [if_pos hz], y2, y3⟩
    · rw [if_neg hz] at y1
      rw [y1, if_pos rfl]
      exact CN_rt ⟨by rw [if_neg hz], y2, y3⟩
  unfold x_X10_markOf
  refine CN_ite (fun z => ?_) (fun n33 => ?_)
  · have := e 33 (by decide) z
    subst this
    exact two 1 27 (Or.inl rfl) rfl
  refine CN_ite (fun z => ?_) (fun n34 => ?_)
  · have := e 34 (by decide) z
    subst this
    exact fin 1 rfl (if_neg (fun q => absurd q.2 (by decide)))
  refine CN_ite (fun z => ?_) (fun n35 => ?_)
  · have := e 35 (by decide) z
    subst this
    exact fin 1 rfl (if_neg (fun q => absurd q.2 (by decide)))
  refine CN_ite (fun z => ?_) (fun n36 => ?_)
  · have := e 36 (by decide) z
    subst this
    exact fin 1 rfl (if_neg (fun q => absurd q.2 (by decide)))
  refine CN_ite (fun z => ?_) (fun n37 => ?_)
  · have := e 37 (by decide) z
    subst this
    exact fin 1 rfl (if_neg (fun q => absurd q.2 (by decide)))
  refine CN_ite (fun z => ?_) (fun n38 => ?_)
  · have := e 38 (by decide) z
    subst this
    exact fin 1 rfl (if_neg (fun q => absurd q.2 (by decide)))
  refine CN_ite (fun z => ?_) (fun n39 => ?_)
  · have := e 39 (by decide) z
    subst this
    exact fin 1 rfl (if_neg (fun q => absurd q.2 (by decide)))
  refine CN_ite (fun z => ?_) (fun n40 => ?_)
  · have := e 40 (by decide) z
    subst this
    exact fin 17 rfl (if_neg (fun q => absurd q.2 (by decide)))
  refine CN_ite (fun z => ?_) (fun n41 => ?_)
  · have := e 41 (by decide) z
    subst this
    exact fin 18 rfl (if_neg (fun q => absurd q.2 (by decide)))
  refine CN_ite (fun z => ?_) (fun n42 => ?_)
  · have := e 42 (by decide) z
    subst this
    exact fin 1 rfl (if_neg (fun q => absurd q.2 (by decide)))
  refine CN_ite (fun z => ?_) (fun n43 => ?_)
  · have := e 43 (by decide) z
    subst this
    exact fin 20 rfl (if_neg (fun q => absurd q.2 (by decide)))
  refine CN_ite (fun z => ?_) (fun n44 => ?_)
  · have := e 44 (by decide) z
    subst this
    exact fin 1 rfl (if_neg (fun q => absurd q.2 (by decide)))
  refine CN_ite (fun z => ?_) (fun n45 => ?_)
  · have := e 45 (by decide) z
    subst this
    exact fin 21 rfl (if_neg (fun q => absurd q.2 (by decide)))
  refine CN_ite (fun z => ?_) (fun n46 => ?_)
  · have := e 46 (by decide) z
    subst this
    exact fin 1 rfl (if_neg (fun q => absurd q.2 (by decide)))
  refine CN_ite (fun z => ?_) (fun n47 => ?_)
  · have := e 47 (by decide) z
    subst this
    exact fin 1 rfl (if_neg (fun q => absurd q.2 (by decide)))
  refine CN_ite (fun z => ?_) (fun n48 => ?_)
  · have := e 48 (by decide) z
    subst this
    exact fin 1 rfl (if_neg (fun q => absurd q.2 (by decide)))
  refine CN_ite (fun z => ?_) (fun n49 => ?_)
  · have := e 49 (by decide) z
    subst this
    exact fin 1 rfl (if_neg (fun q => absurd q.2 (by decide)))
  refine CN_ite (fun z => ?_) (fun n50 => ?_)
  · have := e 50 (by decide) z
    subst this
    exact fin 1 rfl (if_neg (fun q => absurd q.2 (by decide)))
  refine CN_ite (fun z => ?_) (fun n51 => ?_)
  · have := e 51 (by decide) z
    subst this
    exact fin 1 rfl (if_neg (fun q => absurd q.2 (by decide)))
  refine CN_ite (fun z => ?_) (fun n52 => ?_)
  · have := e 52 (by decide) z
    subst this
    exact fin 1 rfl (if_neg (fun q => absurd q.2 (by decide)))
  refine CN_ite (fun z => ?_) (fun n53 => ?_)
  · have := e 53 (by decide) z
    subst this
    exact fin 1 rfl (if_neg (fun q => absurd q.2 (by decide)))
  refine CN_ite (fun z => ?_) (fun n54 => ?_)
  · have := e 54 (by decide) z
    subst this
    exact fin 1 rfl (if_neg (fun q => absurd q.2 (by decide)))
  refine CN_ite (fun z => ?_) (fun n55 => ?_)
  · have := e 55 (by decide) z
    subst this
    exact fin 1 rfl (if_neg (fun q => absurd q.2 (by decide)))
  refine CN_ite (fun z => ?_) (fun n56 => ?_)
  · have := e 56 (by decide) z
    subst this
    exact fin 1 rfl (if_neg (fun q => absurd q.2 (by decide)))
  refine CN_ite (fun z => ?_) (fun n57 => ?_)
  · have := e 57 (by decide) z
    subst this
    exact fin 1 rfl (if_neg (fun q => absurd q.2 (by decide)))
  refine CN_ite (fun z => ?_) (fun n58 => ?_)
  · have := e 58 (by decide) z
    subst this
    exact fin 1 rfl (if_neg (fun q => absurd q.2 (by decide)))
  refine CN_ite (fun z => ?_) (fun n59 => ?_)
  · have := e 59 (by decide) z
    subst this
    exact fin 19 rfl (if_neg (fun q => absurd q.2 (by decide)))
  refine CN_ite (fun z => ?_) (fun n60 => ?_)
  · have := e 60 (by decide) z
    subst this
    exact two 22 23 (Or.inr (Or.inl rfl)) rfl
  refine CN_ite (fun z => ?_) (fun n61 => ?_)
  · have := e 61 (by decide) z
    subst this
    exact fin 26 rfl (if_neg (fun q => absurd q.2 (by decide)))
  refine CN_ite (fun z => ?_) (fun n62 => ?_)
  · have := e 62 (by decide) z
    subst this
    exact two 24 25 (Or.inr (Or.inr rfl)) rfl
  refine fin 1 ?_ (if_neg (fun q => ?_))
  · unfold mkk
    rw [if_neg (fun q => n33 (by rw [q]; rfl)), if_neg (fun q => n40 (by rw [q]; rfl)), if_neg (fun q => n41 (by rw [q]; rfl)), if_neg (fun q => n43 (by rw [q]; rfl)), if_neg (fun q => n45 (by rw [q]; rfl)), if_neg (fun q => n59 (by rw [q]; rfl)), if_neg (fun q => n60 (by rw [q]; rfl)), if_neg (fun q => n61 (by rw [q]; rfl)), if_neg (fun q => n62 (by rw [q]; rfl))]
  · rcases q.2 with q | q | q
    · exact n33 (by rw [q]; rfl)
    · exact n60 (by rw [q]; rfl)
    · exact n62 (by rw [q]; rfl)
end
