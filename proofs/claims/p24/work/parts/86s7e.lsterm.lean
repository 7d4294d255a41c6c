/-! ===== a term, in step: the whole ===== -/
theorem CP.sm {T : Nat → Nat} {N a b : Nat} {u v : MS} {LI LA : List Nat} (h : CP T N a b u) (hs : Same LI LA u v) (h2 : ∀ k, 2 ≤ k → k ≤ 6 → ¬ k ∈ LI) (h4 : ¬ 4 ∈ LA) : CP T N a b v := by
  obtain ⟨a1, a2, a3, a4, a5, a6, a7, a8⟩ := h
  exact ⟨a1.sm hs (h2 2 (by decide) (by decide)) h4, a2, a3, a4, (hs.1 5 (h2 5 (by decide) (by decide))).trans a5, (hs.1 3 (h2 3 (by decide) (by decide))).trans a6, (hs.1 4 (h2 4 (by decide) (by decide))).trans a7, fun z => (hs.1 6 (h2 6 (by decide) (by decide))).trans (a8 z)⟩
theorem XC.part {u0 u : MS} {m p sg cm : Nat} {cs : List (Nat × Nat)} {S : List Nat} (h : XC u0 m cs S p sg cm u) (m2 : Nat) : XC u0 m2 cs S (p + 1) sg cm (si (si u 12 (nI m2)) 24 (nI (p + 1))) := by
  obtain ⟨a1, a2, a3, ⟨a4, a5⟩, ⟨a6, a7⟩, a8, a9, a10, a11, a12⟩ := h
  have e : ∀ k, ¬ k = 24 → ¬ k = 12 → (si (si u 12 (nI m2)) 24 (nI (p + 1))).1 k = u.1 k := fun k h1 h2 => (siO h1).trans (siO h2)
  exact ⟨(a1.trans (Same_si (by decide))).trans (Same_si (by decide)), (siO (by decide)).trans (siE _ _ _), (e 11 (by decide) (by decide)).trans a3, ⟨(e 25 (by decide) (by decide)).trans a4, a5⟩, ⟨(e 7 (by decide) (by decide)).trans a6, a7⟩, siE _ _ _, (e 8 (by decide) (by decide)).trans a9, (e 9 (by decide) (by decide)).trans a10, (e 14 (by decide) (by decide)).trans a11, (e 15 (by decide) (by decide)).trans a12⟩
theorem XC.emit {u0 u v : MS} {m p sg cm : Nat} {cs cs2 : List (Nat × Nat)} {S : List Nat} (h : XC u0 m cs S p sg cm u) (hs : Same [14, 25] [8] u v) (hc : CgC cs2 v) (h14 : v.1 14 = 0) : XC u0 m cs2 S p 0 cm v := by
  obtain ⟨a1, a2, a3, ⟨a4, a5⟩, ⟨a6, a7⟩, a8, a9, a10, a11, a12⟩ := h
  have e : ∀ k, ¬ k ∈ [14, 25] → v.1 k = u.1 k := hs.1
  exact ⟨a1.trans (hs.mono (by decide) (by decide)), (e 12 (by decide)).trans a2, (e 11 (by decide)).trans a3, hc, ⟨(e 7 (by decide)).trans a6, fun i hi => by rw [hs.2 7 (by decide)]; exact a7 i hi⟩, (e 24 (by decide)).trans a8, (e 8 (by decide)).trans a9, (e 9 (by decide)).trans a10, h14, (e 15 (by decide)).trans a12⟩
theorem XC.w13 {u0 u : MS} {m p sg cm : Nat} {cs : List (Nat × Nat)} {S : List Nat} (h : XC u0 m cs S p sg cm u) (x : Int32) : XC u0 m cs S p sg cm (si u 13 x) := by
  obtain ⟨a1, a2, a3, ⟨a4, a5⟩, ⟨a6, a7⟩, a8, a9, a10, a11, a12⟩ := h
  have e : ∀ k, ¬ k = 13 → (si u 13 x).1 k = u.1 k := fun k h1 => siO h1
  exact ⟨a1.trans (Same_si (by decide)), (e 12 (by decide)).trans a2, (e 11 (by decide)).trans a3, ⟨(e 25 (by decide)).trans a4, a5⟩, ⟨(e 7 (by decide)).trans a6, a7⟩, (e 24 (by decide)).trans a8, (e 8 (by decide)).trans a9, (e 9 (by decide)).trans a10, (e 14 (by decide)).trans a11, (e 15 (by decide)).trans a12⟩
theorem XC.w12 {u0 u : MS} {m p sg cm : Nat} {cs : List (Nat × Nat)} {S : List Nat} (h : XC u0 m cs S p sg cm u) (m2 : Nat) : XC u0 m2 cs S p sg cm (si u 12 (nI m2)) := by
  obtain ⟨a1, a2, a3, ⟨a4, a5⟩, ⟨a6, a7⟩, a8, a9, a10, a11, a12⟩ := h
  have e : ∀ k, ¬ k = 12 → (si u 12 (nI m2)).1 k = u.1 k := fun k h1 => siO h1
  exact ⟨a1.trans (Same_si (by decide)), siE _ _ _, (e 11 (by decide)).trans a3, ⟨(e 25 (by decide)).trans a4, a5⟩, ⟨(e 7 (by decide)).trans a6, a7⟩, (e 24 (by decide)).trans a8, (e 8 (by decide)).trans a9, (e 9 (by decide)).trans a10, (e 14 (by decide)).trans a11, (e 15 (by decide)).trans a12⟩
theorem c_emit_fr {u : MS} {k x : Int32} : CN (x_X4_emit k x) u (fun _ v => Same [25] [8] u v) := by
  unfold x_X4_emit
  exact CN_RF (CN_ST (CN_RF (CN_WF (CN_rt ((Same_sf (by decide)).trans (Same_si (by decide)))))))
theorem c_emitTerm_fr {u : MS} {k x : Int32} : CN (x_X5_emitTerm k x) u (fun _ v => Same [14, 25] [8] u v) := by
  unfold x_X5_emitTerm
  refine CN_app c_emit_fr (fun _ v y => ?_)
  have y1 : Same [14, 25] [8] u v := y.mono (by decide) (by decide)
  refine CN_RF (CN_ite (fun _ => CN_WF (CN_rt (y1.trans (Same_si (by decide))))) (fun _ => CN_RF (CN_app c_emit_fr (fun _ w z => CN_WF (CN_rt ?_)))))
  exact (y1.trans (z.mono (by decide) (by decide))).trans (Same_si (by decide))
section
variable {T : Nat → Nat} {N ns : Nat} {st sz : Nat → Nat} {u0 : MS} {v0 : GS} {a b m h o sg cm : Nat} {cs : List (Nat × Nat)} {S : List Nat}
def AT (T : Nat → Nat) (N : Nat) (u0 : MS) (a b m : Nat) (cs : List (Nat × Nat)) (S : List Nat) (p sg cm : Nat) (c : NG Int32) (u : MS) : Prop := ∃ g n, c = ncl (x_X5_takeTerm (nI (tkk T N a b))) (fun _ => RN g (nI n + 1)) ∧ n ≤ a ∧ CP T N a b u ∧ XC u0 m cs S p sg cm u
def TPV (T : Nat → Nat) (N : Nat) (v0 : GS) (cs : List (Nat × Nat)) (h o : Nat) (d : Nat × Nat × Nat × Nat) (v : GS) : Prop := RP T N d.1 d.2.1 v ∧ XV v0 (cs ++ [(d.2.2.1, d.2.2.2)]) h o v ∧ cs.length + h < 300 ∧ Trm d.2.2.1 d.2.2.2
def TPC (T : Nat → Nat) (N : Nat) (u0 : MS) (cs : List (Nat × Nat)) (S : List Nat) (p sg cm : Nat) (d : Nat × Nat × Nat × Nat) (c : NG Int32) (u : MS) : Prop := ∃ g n, c = LQ g n ∧ n ≤ d.1 ∧ CP T N d.1 d.2.1 u ∧ XC u0 15 (cs ++ (d.2.2.1, d.2.2.2) :: sgl sg) S (p + 1) 0 cm u
theorem to_bad (hk : ¬ tkk T N a b = 3 ∧ ¬ tkk T N a b = 14 ∧ ¬ tkk T N a b = 15 ∧ ¬ tkk T N a b = 16) (hE : TkE T N a b) {p : Nat} : To (AT T N u0 a b m cs S p sg cm) (FP 1 a) := by
  rintro c u ⟨g, n, rfl, hn, hC, hX⟩ Q hq
  have hle := tkk_le a b hE
  have e : ∀ x : Nat, x < 100 → nI (tkk T N a b) = nI x → tkk T N a b = x := fun x hx z => (nI_eq (by omega) (by omega)).mp z
  refine CN_cl ?_
  unfold x_X5_takeTerm
  refine CN_ite (fun z => absurd (e 14 (by decide) z) hk.2.1) (fun _ => CN_ite (fun z => absurd (e 15 (by decide) z) hk.2.2.1) (fun _ => CN_ite (fun z => absurd (e 16 (by decide) z) hk.2.2.2) (fun _ => CN_ite (fun z => absurd (e 3 (by decide) z) hk.1) (fun _ => CN_app (c_fail 1) (fun _ v y => CN_rt ?_)))))
  subst y
  exact run_fault ⟨(siO (by decide)).trans (siE _ _ _), (siE _ _ _).trans hC.2.2.2.2.1⟩ ⟨by decide, by decide⟩ hq
theorem FaultC.sm {f p : Nat} {u v : MS} {LI LA : List Nat} (h : FaultC f p u) (hs : Same LI LA u v) (h1 : ¬ 10 ∈ LI) (h2 : ¬ 11 ∈ LI) : FaultC f p v := ⟨(hs.1 11 h2).trans h.1, (hs.1 10 h1).trans h.2⟩
theorem to_full (hE : TkE T N a b) (hk : tkk T N a b = 3 ∨ tkk T N a b = 14 ∨ tkk T N a b = 15 ∨ tkk T N a b = 16) {p : Nat} (hp : p = 300) : To (AT T N u0 a b m cs S p sg cm) (FP 3 a) := by
  rintro c u ⟨g, n, rfl, hn, hC, hX⟩ Q hq
  subst hp
  have h24 := hX.2.2.2.2.2.1
  have h5 := hC.2.2.2.2.1
  have hF : FaultC 3 a (si (si u 11 3) 10 (u.1 5)) := ⟨(siO (by decide)).trans (siE _ _ _), (siE _ _ _).trans h5⟩
  have hle := tkk_le a b hE
  have e : ∀ x : Nat, x < 100 → nI (tkk T N a b) = nI x → tkk T N a b = x := fun x hx z => (nI_eq (by omega) (by omega)).mp z
  have fin : ∀ v, FaultC 3 a v → CN (RN g (nI n + 1)) v Q := fun v hv => run_fault hv ⟨by decide, by decide⟩ hq
  have emt : ∀ v k x, FaultC 3 a v → CN (ncl (x_X5_emitTerm k x) (fun _ => nrt (0 : Int32))) v (fun _ w => CN (RN g (nI n + 1)) w Q) := fun v k x hv => CN_app c_emitTerm_fr (fun _ w y => CN_rt (fin w (hv.sm y (by decide) (by decide))))
  refine CN_cl ?_
  unfold x_X5_takeTerm
  refine CN_ite (fun z => ?_) (fun n14 => CN_ite (fun z => ?_) (fun n15 => CN_ite (fun z => ?_) (fun n16 => CN_ite (fun z => ?_) (fun n3 => ?_))))
  · refine CN_app (c_part_no h24) (fun _ v y => ?_)
    subst y
    exact CN_WFx (CN_rt (fin _ (hF.sm (LI := [13]) (LA := []) (Same_si (by decide)) (by decide) (by decide))))
  · refine CN_app (c_part_no h24) (fun _ v y => ?_)
    subst y
    exact CN_WFx (CN_rt (fin _ (hF.sm (LI := [13]) (LA := []) (Same_si (by decide)) (by decide) (by decide))))
  · refine CN_app (c_part_no h24) (fun _ v y => ?_)
    subst y
    exact CN_ite (fun _ => CN_RF (emt _ _ _ hF)) (fun _ => emt _ _ _ hF)
  · refine CN_app (c_part_no h24) (fun _ v y => ?_)
    subst y
    exact CN_ite (fun _ => CN_RF (emt _ _ _ hF)) (fun _ => emt _ _ _ hF)
  · exfalso
    rcases hk with z | z | z | z
    · exact n3 (by rw [z]; rfl)
    · exact n14 (by rw [z]; rfl)
    · exact n15 (by rw [z]; rfl)
    · exact n16 (by rw [z]; rfl)
/-- on to the next token, which is the reference's -/
theorem on_next {u : MS} {g n a2 b2 m2 p2 sg2 cm2 : Nat} {cs2 : List (Nat × Nat)} {S2 : List Nat} (hC : CP T N a b u) (hk : ¬ tkk T N a b = 0) (hn : n ≤ a) (hX : XC u0 m2 cs2 S2 p2 sg2 cm2 u) (hm : m2 < 17) (hR : Run tBl T N b a2) (hE2 : TkE T N a2 b2) {Q : Int32 → MS → Prop} (hq : ∀ g2 n2 u2, n2 ≤ a2 → CP T N a2 b2 u2 → XC u0 m2 cs2 S2 p2 sg2 cm2 u2 → u2.1 13 = u.1 13 → CN (LQ g2 n2) u2 Q) : CN (RN g (nI n + 1)) u Q := by
  refine run_next hC hk hn hX.2.2.1 hX.2.1 hm (fun g2 u2 a3 b3 y1 y2 y3 y4 => ?_)
  have e1 := y2.un hR
  subst e1
  have e2 := y4.2.1.un hE2
  subst e2
  exact hq g2 (n + 1) u2 y3 y4 (hX.tok y1) (y1.1 13 (by decide))
theorem to_val {a2 b2 kd f p : Nat} (hE : TkE T N a b) (hk : tkk T N a b = kd) (hkd : (kd = 3 ∧ f = vl T a (min 4 (b - a))) ∨ (kd = 16 ∧ f = 0)) (hp : p < 300) (hl : cs.length + 1 + (sgl sg).length ≤ 300) (hsg : sg < 100) (hm : m < 17) (hR : Run tBl T N b a2) (hE2 : TkE T N a2 b2) : To (AT T N u0 a b m cs S p sg cm) (TPC T N u0 cs S p sg cm (a2, b2, kd, f)) := by
  rintro c u ⟨g, n, rfl, hn, hC, hX⟩ Q hq
  have h24 := hX.2.2.2.2.2.1
  have hX1 := hX.part 15
  have hs1 : Same [12, 24] [] u (si (si u 12 (nI 15)) 24 (nI (p + 1))) := (Same_si (by decide)).trans (Same_si (by decide))
  have hC1 := hC.sm hs1 (fun k h1 h2 h3 => by simp at h3; omega) (by decide)
  have hpart := c_part_ok (m := 15) h24 hp hX.2.2.1
  have e15 : (15 : Int32) = nI 15 := rfl
  rw [e15] at hpart
  generalize si (si u 12 (nI 15)) 24 (nI (p + 1)) = u1 at hpart hX1 hC1
  have h14 := hX1.2.2.2.2.2.2.2.2.1
  have emt : CN (ncl (x_X5_emitTerm (nI kd) (nI f)) (fun _ => nrt (0 : Int32))) u1 (fun _ w => CN (RN g (nI n + 1)) w Q) := by
    refine CN_app (c_emitTerm hX1.2.2.2.1 h14 hsg hl) (fun _ w y => CN_rt ?_)
    obtain ⟨y1, y2, y3⟩ := y
    have hX2 := hX1.emit y1 y2 y3
    have hC2 := hC1.sm y1 (fun k h1 h2 h3 => by simp at h3; omega) (by decide)
    exact on_next hC2 (by rcases hkd with z | z <;> omega) hn hX2 (by decide) hR hE2 (fun g2 n2 u2 y1 y2 y3 _ => hq _ _ ⟨g2, n2, rfl, y1, y2, y3⟩)
  refine CN_cl ?_
  unfold x_X5_takeTerm
  rw [hk]
  rcases hkd with ⟨rfl, hf⟩ | ⟨rfl, rfl⟩
  · refine CN_ite (fun z => absurd z (by decide)) (fun _ => CN_ite (fun z => absurd z (by decide)) (fun _ => CN_ite (fun z => absurd z (by decide)) (fun _ => CN_ite (fun _ => ?_) (fun z => absurd rfl z))))
    refine CN_app hpart (fun _ v y => ?_)
    subst y
    refine CN_ite (fun _ => CN_RFx ((hC1.2.2.2.2.2.2.2 hk).trans (by rw [hf])) emt) (fun z => absurd rfl z)
  · refine CN_ite (fun z => absurd z (by decide)) (fun _ => CN_ite (fun z => absurd z (by decide)) (fun _ => CN_ite (fun _ => ?_) (fun z => absurd rfl z)))
    refine CN_app hpart (fun _ v y => ?_)
    subst y
    exact CN_ite (fun z => absurd z (by decide)) (fun _ => emt)
/-- mine or yours: on to the name -/
def AN (T : Nat → Nat) (N : Nat) (u0 : MS) (a b : Nat) (cs : List (Nat × Nat)) (S : List Nat) (p sg cm kd : Nat) (c : NG Int32) (u : MS) : Prop := ∃ g n, c = LQ g n ∧ n ≤ a ∧ CP T N a b u ∧ XC u0 14 cs S p sg cm u ∧ u.1 13 = nI kd
theorem to_whose {a2 b2 kd p : Nat} (hk : tkk T N a b = kd) (hkd : kd = 14 ∨ kd = 15) (hp : p < 300) (hm : m < 17) (hR : Run tBl T N b a2) (hE2 : TkE T N a2 b2) : To (AT T N u0 a b m cs S p sg cm) (AN T N u0 a2 b2 cs S (p + 1) sg cm kd) := by
  rintro c u ⟨g, n, rfl, hn, hC, hX⟩ Q hq
  have h24 := hX.2.2.2.2.2.1
  have hX1 := hX.part 14
  have hs1 : Same [12, 24] [] u (si (si u 12 (nI 14)) 24 (nI (p + 1))) := (Same_si (by decide)).trans (Same_si (by decide))
  have hC1 := hC.sm hs1 (fun k h1 h2 h3 => by simp at h3; omega) (by decide)
  have hpart := c_part_ok (m := 14) h24 hp hX.2.2.1
  have e14 : (14 : Int32) = nI 14 := rfl
  rw [e14] at hpart
  generalize si (si u 12 (nI 14)) 24 (nI (p + 1)) = u1 at hpart hX1 hC1
  have fin : CN (ncl (x_X5_takePart (nI 14)) (fun _ => ncl (nWF 13 (nI kd)) (fun _ => nrt (0 : Int32)))) u (fun _ w => CN (RN g (nI n + 1)) w Q) := by
    refine CN_app hpart (fun _ v y => ?_)
    subst y
    refine CN_WFx (CN_rt ?_)
    have hC2 := hC1.sm (LI := [13]) (LA := []) (v := si v 13 (nI kd)) (Same_si (by decide)) (fun k h1 h2 h3 => by simp at h3; omega) (by decide)
    exact on_next hC2 (by omega) hn (hX1.w13 (nI kd)) (by decide) hR hE2 (fun g2 n2 u2 y1 y2 y3 y4 => hq _ _ ⟨g2, n2, rfl, y1, y2, y3, y4.trans (siE _ _ _)⟩)
  refine CN_cl ?_
  unfold x_X5_takeTerm
  rw [hk]
  rcases hkd with rfl | rfl
  · exact CN_ite (fun _ => fin) (fun z => absurd rfl z)
  · exact CN_ite (fun z => absurd z (by decide)) (fun _ => CN_ite (fun _ => fin) (fun z => absurd rfl z))
end
