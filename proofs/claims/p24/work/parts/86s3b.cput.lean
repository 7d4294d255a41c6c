/-! ===== the class's puts, with the book as it comes ===== -/
def Pt (u v : MS) : Prop := Hs u v ∧ Same [0, 60, 65] [0, 1, 2] u v
theorem Pt.trans {u v w : MS} (h1 : Pt u v) (h2 : Pt v w) : Pt u w := ⟨h1.1.trans h2.1, h1.2.trans h2.2⟩
theorem Pt.rf {u : MS} {ch C : Nat} (h : Kl u ch C) : Pt u u := ⟨Hs.rf h, Same.rf _⟩
theorem EntS.pt {u v v2 : MS} {n ch : Nat} (h : EntS u v n ch) (hp : Pt v v2) : EntS u v2 n ch := h.put hp.1 hp.2
theorem CQ_pt {β : Type} {u0 u : MS} {B : Nat → Int32} {a b : Int32} {j : Nat} {q : Int32 → AG β} {Q : β → MS → Prop} (h0 : Pt u0 u) (hB : u.2 0 = B) (ha : a = nI j) (hj : j < 2088) (h : ∀ r v, Pt u0 v → v.2 0 = upd B j b → CQ (q r) v Q) : CQ (acl (x_X1_put a b) q) u Q := by
  obtain ⟨ch, C, hK⟩ := h0.1.kl
  refine CQ_put hK (fun r v hs hv hS => h r v (h0.trans ⟨hs, hS⟩) ?_)
  rw [hv, hB, ha, wrB _ _ hj]
theorem CQ_oF {β : Type} {c i k : Nat} {z : Int32} {q : Int32 → AG β} {u : MS} {Q : β → MS → Prop} (hz : z = nI k) (h : CQ (q (nI (fc c i + k))) u Q) : CQ (anl (x_X1_ofFight (nI c) (nI i) z) q) u Q := by
  rw [e_ofFight c i k hz]
  exact CQ_rd rfl h
theorem CQ_oM {β : Type} {m k : Nat} {z : Int32} {q : Int32 → AG β} {u : MS} {Q : β → MS → Prop} (hz : z = nI k) (h : CQ (q (nI (mc0 m + k))) u Q) : CQ (anl (x_X1_ofMat (nI m) z) q) u Q := by
  rw [e_ofMat m k hz]
  exact CQ_rd rfl h
theorem CQ_oP {β : Type} {f k : Nat} {z : Int32} {q : Int32 → AG β} {u : MS} {Q : β → MS → Prop} (hz : z = nI k) (h : CQ (q (nI (148 + 7 * f + k))) u Q) : CQ (anl (x_X1_ofFighter (nI f) z) q) u Q := by
  rw [e_ofFighter f k hz]
  exact CQ_rd rfl h
theorem CQ_at {β : Type} {j : Nat} {a x : Int32} {q : Int32 → AG β} {u : MS} {Q : β → MS → Prop} (ha : a = nI j) (hj : j < 2088) (hx : u.2 0 j = x) (h : CQ (q x) u Q) : CQ (anl (nGT 0 2088 a) q) u Q := by
  refine CQ_GT ?_
  rw [ha, rdB _ hj, hx]
  exact h
theorem e_on {u : MS} {m k : Nat} {z : Int32} (hm : m < 4) (hk : k < 21) (hz : z = nI k) : x_X3_on (nI m) z u = some (u.2 0 (mc0 m + k), u) := by
  unfold x_X3_on
  rw [e_ofMat m k hz]
  show some (rg (u.2 0) 2088 (nI (mc0 m + k)), u) = _
  rw [rdB _ (by unfold mc0; omega)]
theorem e_isFree {u : MS} {m : Nat} (hm : m < 4) : x_X3_isFree (nI m) u = some (if u.2 0 (mc0 m + 1) = -1 then 1 else 0, u) := by
  unfold x_X3_isFree
  refine ncl_eq (e_on hm (k := 1) (by decide) rfl) ?_
  by_cases h : u.2 0 (mc0 m + 1) = -1
  · rw [if_pos h, if_pos h]; rfl
  · rw [if_neg h, if_neg h]; rfl
theorem e_fOn {u : MS} {m c i sd : Nat} (hm : m < 4) (hc : c < 4) (hi : i < 37) (hsd : sd < 2) (e0 : u.2 0 (mc0 m) = nI c) (e1 : u.2 0 (mc0 m + 1) = nI i) : x_X3_fighterOn (nI m) (nI sd) u = some (u.2 0 (fc c i + 1 + sd), u) := by
  have hf : fc c i + 3 < 2088 := by unfold fc; omega
  unfold x_X3_fighterOn
  have h01 : sd = 0 ∨ sd = 1 := by omega
  rcases h01 with rfl | rfl
  · rw [if_pos (show nI 0 = 0 from rfl)]
    refine ncl_eq (e_on hm (k := 0) (by decide) rfl) (ncl_eq (e_on hm (k := 1) (by decide) rfl) ?_)
    rw [Nat.add_zero (mc0 m), e0, e1, e_ofFight c i 1 (show (1 : Int32) = nI 1 from rfl)]
    show some (rg (u.2 0) 2088 (nI (fc c i + 1)), u) = _
    rw [rdB _ (by omega)]
  · rw [if_neg (show ¬ nI 1 = 0 by decide)]
    refine ncl_eq (e_on hm (k := 0) (by decide) rfl) (ncl_eq (e_on hm (k := 1) (by decide) rfl) ?_)
    rw [Nat.add_zero (mc0 m), e0, e1, e_ofFight c i 2 (show (2 : Int32) = nI 2 from rfl)]
    show some (rg (u.2 0) 2088 (nI (fc c i + 2)), u) = _
    rw [rdB _ (by omega)]
/-! a fight ends -/
def lvB (B : Nat → Int32) (m a b : Nat) (t : Int32) : Nat → Int32 := upd (upd (upd B (154 + 7 * a) t) (154 + 7 * b) t) (mc0 m + 1) (-1)
def finB (B : Nat → Int32) (c i m a b : Nat) (v l p : Int32) : Nat → Int32 := lvB (upd (upd (upd (upd (upd B (fc c i) 3) (fc c i + 3) v) (fc c i + 4) l) (fc c i + 5) p) (fc c i + 6) (B 0)) m a b (B 0)
theorem CQ_leave {β : Type} {u0 u : MS} {B : Nat → Int32} {m c i a b : Nat} {q : Int32 → AG β} {Q : β → MS → Prop} (h0 : Pt u0 u) (hB : u.2 0 = B) (hm : m < 4) (hc : c < 4) (hi : i < 37) (e0 : B (mc0 m) = nI c) (e1 : B (mc0 m + 1) = nI i) (ea : B (fc c i + 1) = nI a) (eb : B (fc c i + 2) = nI b) (ha : a < 96) (hb : b < 96) (h : ∀ r v, Pt u0 v → v.2 0 = lvB B m a b (B 0) → CQ (q r) v Q) : CQ (acl (x_X3_leave (nI m)) q) u Q := by
  obtain ⟨ch, C, hK⟩ := h0.1.kl
  refine CQ_cl (CQ.mono (?_ : CQ (x_X3_leave (nI m)) u (fun r v => Pt u0 v ∧ v.2 0 = lvB B m a b (B 0))) (fun r v y => h r v y.1 y.2))
  unfold x_X3_leave
  have r0 : x_X3_fighterOn (nI m) 0 u = some (nI a, u) := by
    have := e_fOn (u := u) (sd := 0) hm hc hi (by decide) (by rw [hB]; exact e0) (by rw [hB]; exact e1)
    rw [hB, Nat.add_zero, ea] at this
    exact this
  refine CQ_rd r0 (CQ_oP (k := 6) rfl (CQ_at (j := 0) (x := B 0) rfl (by decide) (by rw [hB]) (CQ_pt h0 hB rfl (by omega) (fun _ v1 p1 b1 => ?_))))
  have hm0 : ∀ k, k < 21 → (upd B (148 + 7 * a + 6) (B 0)) (mc0 m + k) = B (mc0 m + k) := fun k hk => upd_n (by unfold mc0; omega)
  have hf0 : ∀ k, k < 8 → (upd B (148 + 7 * a + 6) (B 0)) (fc c i + k) = B (fc c i + k) := fun k hk => upd_n (by unfold fc; omega)
  have r1 : x_X3_fighterOn (nI m) 1 v1 = some (nI b, v1) := by
    have := e_fOn (u := v1) (sd := 1) hm hc hi (by decide) (by rw [b1]; exact (hm0 0 (by decide)).trans e0) (by rw [b1, hm0 1 (by decide)]; exact e1)
    rw [b1] at this
    have e9 : upd B (148 + 7 * a + 6) (B 0) (fc c i + 1 + 1) = nI b := (hf0 2 (by decide)).trans eb
    rw [e9] at this
    exact this
  refine CQ_rd r1 (CQ_oP (k := 6) rfl (CQ_at (j := 0) (x := B 0) rfl (by decide) (by rw [b1]; exact upd_n (by omega)) (CQ_pt p1 b1 rfl (by omega) (fun _ v2 p2 b2 => CQ_oM (k := 1) rfl (CQ_pt p2 b2 rfl (by unfold mc0; omega) (fun _ v3 p3 b3 => CQ_rt ⟨p3, ?_⟩))))))
  rw [b3]
  unfold lvB
  rw [show 148 + 7 * a + 6 = 154 + 7 * a by omega, show 148 + 7 * b + 6 = 154 + 7 * b by omega]
theorem CQ_finish {β : Type} {u0 u : MS} {B : Nat → Int32} {m c i a b sd : Nat} {l p : Int32} {q : Int32 → AG β} {Q : β → MS → Prop} (h0 : Pt u0 u) (hB : u.2 0 = B) (hm : m < 4) (hc : c < 4) (hi : i < 37) (hsd : sd < 2) (e0 : B (mc0 m) = nI c) (e1 : B (mc0 m + 1) = nI i) (ea : B (fc c i + 1) = nI a) (eb : B (fc c i + 2) = nI b) (ha : a < 96) (hb : b < 96) (h : ∀ v, Pt u0 v → v.2 0 = finB B c i m a b (nI (if sd = 0 then a else b)) l p → CQ (q (nI (if sd = 0 then a else b))) v Q) : CQ (acl (x_X3_finish (nI m) (nI sd) l p) q) u Q := by
  refine CQ_cl (CQ.mono (?_ : CQ (x_X3_finish (nI m) (nI sd) l p) u (fun r v => r = nI (if sd = 0 then a else b) ∧ Pt u0 v ∧ v.2 0 = finB B c i m a b (nI (if sd = 0 then a else b)) l p)) (fun r v y => by
    rw [y.1]
    exact h v y.2.1 y.2.2))
  unfold x_X3_finish
  have hfc : 820 ≤ fc c i ∧ fc c i + 8 ≤ 2004 := by unfold fc; omega
  have hmc : 2004 ≤ mc0 m ∧ mc0 m + 21 ≤ 2088 := by unfold mc0; omega
  have r0 : x_X3_on (nI m) 0 u = some (nI c, u) := by
    rw [e_on (z := 0) hm (k := 0) (by decide) rfl, hB, Nat.add_zero, e0]
  have r1 : x_X3_on (nI m) 1 u = some (nI i, u) := by
    rw [e_on (z := 1) hm (k := 1) (by decide) rfl, hB, e1]
  have r2 : x_X3_fighterOn (nI m) (nI sd) u = some (nI (if sd = 0 then a else b), u) := by
    have := e_fOn (u := u) (sd := sd) hm hc hi hsd (by rw [hB]; exact e0) (by rw [hB]; exact e1)
    rw [hB] at this
    rw [this]
    have h01 : sd = 0 ∨ sd = 1 := by omega
    rcases h01 with rfl | rfl
    · rw [Nat.add_zero, ea]
      rfl
    · have e9 : B (fc c i + 1 + 1) = nI b := eb
      rw [e9]
      rfl
  generalize nI (if sd = 0 then a else b) = x at r2 ⊢
  refine CQ_rd r0 (CQ_rd r1 (CQ_rd r2 (CQ_oF (k := 0) rfl (CQ_pt h0 hB rfl (by omega) (fun _ v1 p1 b1 => ?_)))))
  refine CQ_oF (k := 3) rfl (CQ_pt p1 b1 rfl (by omega) (fun _ v2 p2 b2 => ?_))
  refine CQ_oF (k := 4) rfl (CQ_pt p2 b2 rfl (by omega) (fun _ v3 p3 b3 => ?_))
  refine CQ_oF (k := 5) rfl (CQ_pt p3 b3 rfl (by omega) (fun _ v4 p4 b4 => ?_))
  refine CQ_oF (k := 6) rfl (CQ_at (j := 0) (x := B 0) rfl (by decide) ?_ (CQ_pt p4 b4 rfl (by omega) (fun _ v5 p5 b5 => ?_)))
  · rw [b4, upd_n (by omega), upd_n (by omega), upd_n (by omega), upd_n (by omega)]
  refine CQ_leave (c := c) (i := i) (a := a) (b := b) p5 b5 hm hc hi ?_ ?_ ?_ ?_ ha hb (fun _ v6 p6 b6 => CQ_rt ⟨rfl, p6, ?_⟩)
  · rw [upd_n (by omega), upd_n (by omega), upd_n (by omega), upd_n (by omega), upd_n (by omega), e0]
  · rw [upd_n (by omega), upd_n (by omega), upd_n (by omega), upd_n (by omega), upd_n (by omega), e1]
  · rw [upd_n (by omega), upd_n (by omega), upd_n (by omega), upd_n (by omega), upd_n (by omega), ea]
  · rw [upd_n (by omega), upd_n (by omega), upd_n (by omega), upd_n (by omega), upd_n (by omega), eb]
  · rw [b6]
    unfold finB
    rw [upd_n (by omega), upd_n (by omega), upd_n (by omega), upd_n (by omega), upd_n (by omega), Nat.add_zero]
/-! the mat's cells -/
theorem CQ_sign {β : Type} {u0 u : MS} {B : Nat → Int32} {m sd s : Nat} {q : Int32 → AG β} {Q : β → MS → Prop} (h0 : Pt u0 u) (hB : u.2 0 = B) (hm : m < 4) (hsd : sd < 2) (hs : s < 8) (h : ∀ r v, Pt u0 v → v.2 0 = upd B (mc0 m + (5 + (8 * sd + s))) (if 99 < B (mc0 m + (5 + (8 * sd + s))) + 1 then 99 else B (mc0 m + (5 + (8 * sd + s))) + 1) → CQ (q r) v Q) : CQ (acl (x_X3_giveSign (nI m) (nI sd) (nI s)) q) u Q := by
  refine CQ_cl (CQ.mono (?_ : CQ (x_X3_giveSign (nI m) (nI sd) (nI s)) u (fun r v => Pt u0 v ∧ v.2 0 = upd B (mc0 m + (5 + (8 * sd + s))) (if 99 < B (mc0 m + (5 + (8 * sd + s))) + 1 then 99 else B (mc0 m + (5 + (8 * sd + s))) + 1))) (fun r v y => h r v y.1 y.2))
  have ez : ((5 : Int32) + nI sd * 8) + nI s = nI (5 + (8 * sd + s)) := by
    have hh : ∀ sd < 2, ∀ s < 8, ((5 : Int32) + nI sd * 8) + nI s = nI (5 + (8 * sd + s)) := by decide +kernel
    exact hh sd hsd s hs
  unfold x_X3_giveSign
  have r0 : x_X3_signsOf (nI m) (nI sd) (nI s) u = some (B (mc0 m + (5 + (8 * sd + s))), u) := by
    unfold x_X3_signsOf
    refine ncl_eq (e_on hm (k := 5 + (8 * sd + s)) (by omega) ez) ?_
    rw [hB]
    rfl
  refine CQ_rd r0 (CQ_oM (k := 5 + (8 * sd + s)) ez (CQ_pt h0 hB rfl (by unfold mc0; omega) (fun _ v1 p1 b1 => CQ_rt ⟨p1, b1⟩)))
theorem CQ_pass {β : Type} {u0 u : MS} {B : Nat → Int32} {m : Nat} {x : Int32} {q : Int32 → AG β} {Q : β → MS → Prop} (h0 : Pt u0 u) (hB : u.2 0 = B) (hm : m < 4) (h : ∀ r v, Pt u0 v → v.2 0 = upd B (mc0 m + 2) (B (mc0 m + 2) - x) → CQ (q r) v Q) : CQ (acl (x_X3_letPass (nI m) x) q) u Q := by
  refine CQ_cl (CQ.mono (?_ : CQ (x_X3_letPass (nI m) x) u (fun r v => Pt u0 v ∧ v.2 0 = upd B (mc0 m + 2) (B (mc0 m + 2) - x))) (fun r v y => h r v y.1 y.2))
  unfold x_X3_letPass
  have r0 : x_X3_on (nI m) 2 u = some (B (mc0 m + 2), u) := by
    rw [e_on (z := 2) hm (k := 2) (by decide) rfl, hB]
  exact CQ_oM (k := 2) rfl (CQ_rd r0 (CQ_pt h0 hB rfl (by unfold mc0; omega) (fun _ v1 p1 b1 => CQ_rt ⟨p1, b1⟩)))
/-- the seconds at hand are over -/
def goB (B : Nat → Int32) (m : Nat) (g : Int32) : Nat → Int32 := if B (mc0 m + 3) = 0 ∧ ¬ g ≤ 0 then upd (upd B (mc0 m + 3) 1) (mc0 m + 2) g else upd B (mc0 m + 4) 1
def tvB (B : Nat → Int32) (m : Nat) (g : Int32) : Nat → Int32 := if B (mc0 m + 1) = -1 ∨ ¬ B (mc0 m + 2) ≤ 0 then B else goB B m g
theorem CQ_over {β : Type} {u0 u L : MS} {B : Nat → Int32} {m : Nat} {q : Int32 → AG β} {Q : β → MS → Prop} (h0 : Pt u0 u) (hB : u.2 0 = B) (hm : m < 4) (h : ∀ r v, Pt u0 v → v.2 0 = tvB B m (L.1 1) → CQ (q r) v Q) : CQ (acl (x_X3_turnOver L (nI m)) q) u Q := by
  refine CQ_cl (CQ.mono (?_ : CQ (x_X3_turnOver L (nI m)) u (fun r v => Pt u0 v ∧ v.2 0 = tvB B m (L.1 1))) (fun r v y => h r v y.1 y.2))
  have r1 := e_isFree (u := u) hm
  have r2 : x_X3_on (nI m) 2 u = some (B (mc0 m + 2), u) := by
    rw [e_on (z := 2) hm (k := 2) (by decide) rfl, hB]
  have r3 : x_X3_on (nI m) 3 u = some (B (mc0 m + 3), u) := by
    rw [e_on (z := 3) hm (k := 3) (by decide) rfl, hB]
  have hmc : mc0 m + 21 ≤ 2088 := by unfold mc0; omega
  rw [hB] at r1
  unfold x_X3_turnOver tvB goB
  refine CQ_rd r1 ?_
  by_cases hf : B (mc0 m + 1) = -1
  · rw [if_pos hf, if_pos (Or.inl hf)]
    exact CQ_ite (fun z => absurd z (by decide)) (fun _ => CQ_rt ⟨h0, hB⟩)
  · rw [if_neg hf]
    refine CQ_ite (fun _ => CQ_rd r2 (CQ_ite (fun h2 => CQ_rd r3 (CQ_ite (fun h3 => CQ_ite (fun h4 => ?_) (fun h4 => ?_)) (fun h3 => ?_))) (fun h2 => ?_))) (fun z => absurd rfl z)
    · rw [if_neg (fun z => z.elim hf (fun y => y h2)), if_neg (fun z => z.2 h4)]
      exact CQ_oM (k := 4) rfl (CQ_pt h0 hB rfl (by omega) (fun _ v1 p1 b1 => CQ_rt ⟨p1, b1⟩))
    · rw [if_neg (fun z => z.elim hf (fun y => y h2)), if_pos ⟨h3, h4⟩]
      exact CQ_oM (k := 3) rfl (CQ_pt h0 hB rfl (by omega) (fun _ v1 p1 b1 => CQ_oM (k := 2) rfl (CQ_pt p1 b1 rfl (by omega) (fun _ v2 p2 b2 => CQ_rt ⟨p2, b2⟩))))
    · rw [if_neg (fun z => z.elim hf (fun y => y h2)), if_neg (fun z => h3 z.1)]
      exact CQ_oM (k := 4) rfl (CQ_pt h0 hB rfl (by omega) (fun _ v1 p1 b1 => CQ_rt ⟨p1, b1⟩))
    · rw [if_pos (Or.inr h2)]
      exact CQ_rt ⟨h0, hB⟩
/-! a fight begins -/
def zfB (B : Nat → Int32) (s k : Nat) : Nat → Int32 := fun j => if s ≤ j ∧ j < s + k then 0 else B j
theorem zfB_0 (B : Nat → Int32) (s : Nat) : zfB B s 0 = B := by
  funext j
  exact if_neg (by omega)
theorem zfB_s (B : Nat → Int32) (s k : Nat) : upd (zfB B s k) (s + k) 0 = zfB B s (k + 1) := by
  funext j
  by_cases h : j = s + k
  · rw [h, upd_e]
    exact (if_pos ⟨by omega, by omega⟩).symm
  · rw [upd_n h]
    unfold zfB
    by_cases h2 : s ≤ j ∧ j < s + k
    · rw [if_pos h2, if_pos ⟨h2.1, by omega⟩]
    · rw [if_neg h2, if_neg (fun z => h2 ⟨z.1, by omega⟩)]
def bgB1 (B : Nat → Int32) (c i m : Nat) (a b t : Int32) : Nat → Int32 := upd (upd (upd (upd (upd (upd (upd (upd (upd B (fc c i) 2) (fc c i + 1) a) (fc c i + 2) b) (fc c i + 7) (nI m)) (mc0 m) (nI c)) (mc0 m + 1) (nI i)) (mc0 m + 2) t) (mc0 m + 3) 0) (mc0 m + 4) 0
def bgB (B : Nat → Int32) (c i m : Nat) (a b t : Int32) : Nat → Int32 := zfB (bgB1 B c i m a b t) (mc0 m + 5) 16
theorem CQ_start {β : Type} {u0 u : MS} {B : Nat → Int32} {m c i : Nat} {t : Int32} {q : Int32 → AG β} {Q : β → MS → Prop} (h0 : Pt u0 u) (hB : u.2 0 = B) (hm : m < 4) (hc : c < 4) (hi : i < 37) (h : ∀ r v, Pt u0 v → v.2 0 = bgB B c i m (u.2 13 (37 * c + i)) (u.2 14 (37 * c + i)) t → CQ (q r) v Q) : CQ (acl (x_X3_start t (nI c) (nI i) (nI m)) q) u Q := by
  refine CQ_cl (CQ.mono (?_ : CQ (x_X3_start t (nI c) (nI i) (nI m)) u (fun r v => Pt u0 v ∧ v.2 0 = bgB B c i m (u.2 13 (37 * c + i)) (u.2 14 (37 * c + i)) t)) (fun r v y => h r v y.1 y.2))
  have hfc : 820 ≤ fc c i ∧ fc c i + 8 ≤ 2004 := by unfold fc; omega
  have hmc : 2004 ≤ mc0 m ∧ mc0 m + 21 ≤ 2088 := by unfold mc0; omega
  obtain ⟨ch, C, hK⟩ := h0.1.kl
  refine CQ.mono (?_ : CQ (x_X3_start t (nI c) (nI i) (nI m)) u (fun r v => Pt u v ∧ v.2 0 = bgB B c i m (u.2 13 (37 * c + i)) (u.2 14 (37 * c + i)) t)) (fun r v y => ⟨h0.trans y.1, y.2⟩)
  have hlp : ∀ (n k : Nat) (v : MS) (B1 : Nat → Int32), k ≤ 16 → Pt u v → v.2 0 = zfB B1 (mc0 m + 5) k → CQ (xl_X3_start_147 n t (nI c) (nI i) (nI m) (nI k) (fun v1 v2 v3 v4 v5 => art 0)) v (fun r v => Pt u v ∧ v.2 0 = zfB B1 (mc0 m + 5) 16) := by
    intro n
    induction n with
    | zero => exact fun k v B1 _ _ _ r w c d e => by cases e
    | succ n ih =>
      intro k v B1 hk hp hv
      unfold xl_X3_start_147
      by_cases h6 : 16 ≤ k
      · have : k = 16 := by omega
        subst this
        exact CQ_ite (fun _ => CQ_rt ⟨hp, hv⟩) (fun z => absurd (Int32.le_refl _) z)
      · refine CQ_ite (fun z => absurd ((nI_leI (a := 16) (b := k) (by decide) (by omega)).mp z) h6) (fun _ => ?_)
        have e5 : (5 : Int32) + nI k = nI (5 + k) := nI_add 5 k
        refine CQ_oM (k := 5 + k) e5 (CQ_pt hp hv rfl (by omega) (fun _ v1 p1 b1 => CQ_li ?_))
        rw [nI_1]
        refine ih (k + 1) v1 B1 (by omega) p1 ?_
        rw [b1, ← zfB_s, Nat.add_assoc]
  unfold x_X3_start
  refine CQ_oF (k := 0) rfl (CQ_pt (Pt.rf hK) hB rfl (by omega) (fun _ v1 p1 b1 => ?_))
  have r1 : x_X0_whiteOf (nI c) (nI i) v1 = some (u.2 13 (37 * c + i), v1) := by
    rw [(e_wO hc hi v1).2.1, p1.2.2 13 (by decide)]
  refine CQ_oF (k := 1) rfl (CQ_rd r1 (CQ_pt p1 b1 rfl (by omega) (fun _ v2 p2 b2 => ?_)))
  have r2 : x_X0_blueOf (nI c) (nI i) v2 = some (u.2 14 (37 * c + i), v2) := by
    rw [(e_wO hc hi v2).2.2, p2.2.2 14 (by decide)]
  refine CQ_oF (k := 2) rfl (CQ_rd r2 (CQ_pt p2 b2 rfl (by omega) (fun _ v3 p3 b3 => ?_)))
  refine CQ_oF (k := 7) rfl (CQ_pt p3 b3 rfl (by omega) (fun _ v4 p4 b4 => ?_))
  refine CQ_oM (k := 0) rfl (CQ_pt p4 b4 rfl (by omega) (fun _ v5 p5 b5 => ?_))
  refine CQ_oM (k := 1) rfl (CQ_pt p5 b5 rfl (by omega) (fun _ v6 p6 b6 => ?_))
  refine CQ_oM (k := 2) rfl (CQ_pt p6 b6 rfl (by omega) (fun _ v7 p7 b7 => ?_))
  refine CQ_oM (k := 3) rfl (CQ_pt p7 b7 rfl (by omega) (fun _ v8 p8 b8 => ?_))
  refine CQ_oM (k := 4) rfl (CQ_pt p8 b8 rfl (by omega) (fun _ v9 p9 b9 => ?_))
  refine hlp fuel 0 v9 (bgB1 B c i m (u.2 13 (37 * c + i)) (u.2 14 (37 * c + i)) t) (by decide) p9 ?_
  rw [zfB_0, b9]
  unfold bgB1
  rw [Nat.add_zero (fc c i), Nat.add_zero (mc0 m)]
/-- settle of one class, and the others -/
theorem CQ_settle {β : Type} {u0 u : MS} {B0 : Nat → Int32} {n ch c : Nat} {q : Int32 → AG β} {Q : β → MS → Prop} (hE : EntS u0 u n ch) (hc : c < 4) (hk : Kn (u.2 0) c) (hb : ∀ c2, c2 < 4 → ¬ c2 = c → Acc B0 (u.2 0) c2) (h0 : ∀ c2, c2 < 4 → Bd B0 c2 u) (h : ∀ v, EntS u0 v n ch → v.2 0 = u.2 0 → (∀ c2, c2 < 4 → Bd (v.2 0) c2 v) → CQ (q 0) v Q) : CQ (anl (x_X0_settle (nI c)) q) u Q := by
  have z := CN_settle (β := Int32) (u := u) (c := c) (q := fun r => nrt r) (Q := fun r v => r = 0 ∧ EntS u0 v n ch ∧ v.2 0 = u.2 0 ∧ ∀ c2, c2 < 4 → Bd (v.2 0) c2 v) hc hk (fun v hs hbd hr => CN_rt ⟨rfl, hE.same (hs.mono (by decide) (by decide)), hs.2 0 (by decide), fun c2 hc2 => ?_⟩)
  · refine CQ_nl (fun r v e => ?_)
    obtain ⟨y1, y2, y3, y4⟩ := z r v (by
      show ncl (x_X0_settle (nI c)) (fun r => nrt r) u = some (r, v)
      exact ncl_eq e rfl)
    rw [y1]
    exact h v y2 y3 y4
  · rw [hs.2 0 (by decide)]
    by_cases he : c2 = c
    · rw [he]
      exact hbd
    · exact (h0 c2 hc2).to (hb c2 hc2 he) (fun i hi => hr _ (by omega))

