/-! ===== the class's steps around a condition ===== -/
def nPt : List Nat → Nat
  | [] => 0
  | x :: S => (if x = 9 ∨ x = 10 ∨ x = 11 then 1 else 0) + nPt S
theorem nPt_i {x : Nat} {S : List Nat} (h : x = 9 ∨ x = 10 ∨ x = 11) : nPt (x :: S) = nPt S + 1 := by
  show (if x = 9 ∨ x = 10 ∨ x = 11 then 1 else 0) + nPt S = nPt S + 1
  rw [if_pos h, Nat.add_comm]
theorem nPt_17 {S : List Nat} : nPt (17 :: S) = nPt S := by
  show (if 17 = 9 ∨ 17 = 10 ∨ 17 = 11 then 1 else 0) + nPt S = nPt S
  rw [if_neg (by decide), Nat.zero_add]
theorem nPt_rep {S : List Nat} : ∀ n, nPt (List.replicate n 11 ++ S) = nPt S + n := by
  intro n
  induction n with
  | zero => rfl
  | succ n ih =>
    have e : List.replicate (n + 1) 11 ++ S = 11 :: (List.replicate n 11 ++ S) := rfl
    rw [e, nPt_i (by decide), ih, Nat.add_assoc]
def tcd (a0 : Int32) : NG Int32 := (if a0 = 11 then ncl (x_X5_takePart 12) (fun _ => ncl (x_X5_openThing a0) (fun _ => nrt 0)) else (if a0 = 17 then ncl (x_X5_openThing a0) (fun _ => ncl (nRF 9) (fun x_37 => ncl (nWF 9 (x_37 + 1)) (fun _ => nrt 0))) else (if a0 = 12 then ncl (x_X5_takePart 16) (fun _ => ncl (x_X4_emit a0 0) (fun _ => ncl (x_X5_closeNots) (fun _ => nrt 0))) else (if a0 = 13 then ncl (x_X5_takePart 16) (fun _ => ncl (x_X4_emit a0 0) (fun _ => ncl (x_X5_closeNots) (fun _ => nrt 0))) else ncl (x_X5_takeTerm a0) (fun _ => nrt 0)))))
def L12 (T : Nat → Nat) (N : Nat) (u0 : MS) (cs : List (Nat × Nat)) (S : List Nat) (p a b : Nat) (c : NG Int32) (u : MS) : Prop := ∃ sg cm, LQm T N u0 12 cs S p sg cm a b c u
def X16 (T : Nat → Nat) (N : Nat) (u0 : MS) (cs : List (Nat × Nat)) (S : List Nat) (p a b : Nat) (c : NG Int32) (u : MS) : Prop := ∃ sg cm g n, c = ncl (x_X5_takeBehindCond (nI (tkk T N a b))) (fun _ => RN g (nI n + 1)) ∧ n ≤ a ∧ CP T N a b u ∧ XC u0 16 cs S p sg cm u
section
variable {T : Nat → Nat} {N ns : Nat} {st sz : Nat → Nat} {u0 : MS} {v0 : GS} {a b m h o sg cm p : Nat} {cs : List (Nat × Nat)} {S : List Nat}
theorem to16 : To (LQm T N u0 16 cs S p sg cm a b) (X16 T N u0 cs S p a b) := by
  rintro c u ⟨g, n, rfl, hn, hC, hX⟩ Q hq
  unfold LQ
  exact CN_RFx hC.2.2.2.2.2.2.1 (tk16 hX.2.1 (CN_lc (hq _ u ⟨sg, cm, g, n, rfl, hn, hC, hX⟩)))
theorem cond_in {c : NG Int32} {u : MS} {Q : Int32 → MS → Prop} (hA : L12 T N u0 cs S p a b c u) (hq : ∀ g n u2, n ≤ a → CP T N a b u2 → XC u0 12 cs S p 0 0 u2 → CN (tcd (nI (tkk T N a b))) u2 (fun _ v => CN (RN g (nI n + 1)) v Q)) : CN c u Q := by
  obtain ⟨sg, cm, g, n, rfl, hn, hC, hX⟩ := hA
  unfold LQ
  refine CN_RFx hC.2.2.2.2.2.2.1 (tk12 hX.2.1 ?_)
  have hX2 := (hX.w15 0).w14 0
  have hs1 : Same [14, 15] [] u (si (si u 15 (nI 0)) 14 (nI 0)) := (Same_si (by decide)).trans (Same_si (by decide))
  have hC1 := hC.sm hs1 (fun k h1 h2 h3 => by simp at h3; omega) (by decide)
  have := hq g n _ hn hC1 hX2
  unfold x_X5_takeCond
  exact CN_WFx (CN_WFx this)
theorem to_term (hk : ¬ tkk T N a b = 11 ∧ ¬ tkk T N a b = 17 ∧ ¬ tkk T N a b = 12 ∧ ¬ tkk T N a b = 13) (hE : TkE T N a b) : To (L12 T N u0 cs S p a b) (AT T N u0 a b 12 cs S p 0 0) := by
  intro c u hA Q hq
  refine cond_in hA (fun g n u2 hn hC hX => ?_)
  have hle := tkk_le a b hE
  have e : ∀ x : Nat, x < 100 → nI (tkk T N a b) = nI x → tkk T N a b = x := fun x hx z => (nI_eq (by omega) (by omega)).mp z
  unfold tcd
  refine CN_ite (fun z => absurd (e 11 (by decide) z) hk.1) (fun _ => CN_ite (fun z => absurd (e 17 (by decide) z) hk.2.1) (fun _ => CN_ite (fun z => absurd (e 12 (by decide) z) hk.2.2.1) (fun _ => CN_ite (fun z => absurd (e 13 (by decide) z) hk.2.2.2) (fun _ => ?_))))
  exact CN_cl ((CN_lc (hq _ u2 ⟨g, n, rfl, hn, hC, hX⟩)).mono (fun _ _ z => CN_rt z))
theorem to_not {a2 b2 : Nat} (hk : tkk T N a b = 11) (hp : p < 300) (ho : nOp S < 8) (hS : S.length < 64) (hR : Run tBl T N b a2) (hE2 : TkE T N a2 b2) : To (L12 T N u0 cs S p a b) (L12 T N u0 cs (11 :: S) (p + 1) a2 b2) := by
  intro c u hA Q hq
  refine cond_in hA (fun g n u2 hn hC hX => ?_)
  have h24 := hX.2.2.2.2.2.1
  have hX1 := hX.part 12
  have hs1 : Same [12, 24] [] u2 (si (si u2 12 (nI 12)) 24 (nI (p + 1))) := (Same_si (by decide)).trans (Same_si (by decide))
  have hC1 := hC.sm hs1 (fun k h1 h2 h3 => by simp at h3; omega) (by decide)
  have hpart := c_part_ok (m := 12) h24 hp hX.2.2.1
  have e12 : (12 : Int32) = nI 12 := rfl
  unfold tcd
  rw [hk]
  refine CN_ite (fun _ => ?_) (fun z => absurd rfl z)
  rw [e12] at hpart ⊢
  generalize si (si u2 12 (nI 12)) 24 (nI (p + 1)) = u3 at hpart hX1 hC1
  refine CN_app hpart (fun _ v y => ?_)
  subst y
  refine CN_app (c_openThing hX1 (Or.inl rfl) ho hS) (fun _ w y => CN_rt ?_)
  obtain ⟨y1, y2, y3⟩ := y
  have hX2 := hX1.st (y1.mono (by decide) (by decide)) y2 y3 ((y1.1 9 (by decide)).trans (hX1.2.2.2.2.2.2.2.1.trans (by rw [nBr_o (by decide)])))
  have hC2 := hC1.sm y1 (fun k h1 h2 h3 => by simp at h3; omega) (by decide)
  exact on_next hC2 (by omega) hn hX2 (by decide) hR hE2 (fun g2 n2 u2 y1 y2 y3 _ => hq _ _ ⟨0, 0, g2, n2, rfl, y1, y2, y3⟩)
theorem to_not3 (hk : tkk T N a b = 11) (hp : p ≤ 300) (h : p = 300 ∨ nOp S = 8) : To (L12 T N u0 cs S p a b) (FP 3 a) := by
  intro c u hA Q hq
  refine cond_in hA (fun g n u2 hn hC hX => ?_)
  have h24 := hX.2.2.2.2.2.1
  have h5 := hC.2.2.2.2.1
  unfold tcd
  rw [hk]
  refine CN_ite (fun _ => ?_) (fun z => absurd rfl z)
  by_cases e : p = 300
  · subst e
    refine CN_app (c_part_no h24) (fun _ v y => ?_)
    subst y
    refine CN_app (c_openThing_fault (a := a) ⟨(siO (by decide)).trans (siE _ _ _), (siE _ _ _).trans h5⟩ ((siO (by decide)).trans ((siO (by decide)).trans h5))) (fun _ v y => CN_rt ?_)
    exact run_fault y ⟨by decide, by decide⟩ hq
  · have h8 : nOp S = 8 := by omega
    have e8 := hX.2.2.2.2.2.2.1
    rw [h8] at e8
    refine CN_app (c_part_ok (m := 12) h24 (by omega) hX.2.2.1) (fun _ v y => ?_)
    subst y
    refine CN_app (c_openThing_full (a := a) ((siO (by decide)).trans ((siO (by decide)).trans e8)) ((siO (by decide)).trans ((siO (by decide)).trans h5))) (fun _ v y => CN_rt ?_)
    exact run_fault y ⟨by decide, by decide⟩ hq
theorem to_br {a2 b2 : Nat} (hk : tkk T N a b = 17) (ho : nOp S < 8) (hS : S.length < 64) (hR : Run tBl T N b a2) (hE2 : TkE T N a2 b2) : To (L12 T N u0 cs S p a b) (L12 T N u0 cs (17 :: S) p a2 b2) := by
  intro c u hA Q hq
  refine cond_in hA (fun g n u2 hn hC hX => ?_)
  unfold tcd
  rw [hk]
  refine CN_ite (fun z => absurd z (by decide)) (fun _ => CN_ite (fun _ => ?_) (fun z => absurd rfl z))
  refine CN_app (c_openThing hX (Or.inr rfl) ho hS) (fun _ w y => ?_)
  obtain ⟨y1, y2, y3⟩ := y
  have e9 : w.1 9 = nI (nBr S) := (y1.1 9 (by decide)).trans hX.2.2.2.2.2.2.2.1
  have e91 : nI (nBr S) + 1 = nI (nBr S + 1) := by rw [nI_1]
  refine CN_RFx e9 (CN_WFx (CN_rt ?_))
  rw [e91]
  have hs2 : Same [7, 8, 9] [7] u2 (si w 9 (nI (nBr S + 1))) := (y1.mono (by decide) (by decide)).trans (Same_si (by decide))
  have hX2 := hX.st (S2 := 17 :: S) hs2 ⟨(siO (by decide)).trans y2.1, y2.2⟩ ((siO (by decide)).trans y3) ((siE _ _ _).trans (by rw [nBr_i]))
  have hC2 := hC.sm hs2 (fun k h1 h2 h3 => by simp at h3; omega) (by decide)
  exact on_next hC2 (by omega) hn hX2 (by decide) hR hE2 (fun g2 n2 u2 y1 y2 y3 _ => hq _ _ ⟨0, 0, g2, n2, rfl, y1, y2, y3⟩)
theorem to_br3 (hk : tkk T N a b = 17) (h8 : nOp S = 8) : To (L12 T N u0 cs S p a b) (FP 3 a) := by
  intro c u hA Q hq
  refine cond_in hA (fun g n u2 hn hC hX => ?_)
  have e8 := hX.2.2.2.2.2.2.1
  rw [h8] at e8
  unfold tcd
  rw [hk]
  refine CN_ite (fun z => absurd z (by decide)) (fun _ => CN_ite (fun _ => ?_) (fun z => absurd rfl z))
  refine CN_app (c_openThing_full (a := a) e8 hC.2.2.2.2.1) (fun _ w y => CN_RF (CN_WFx (CN_rt ?_)))
  exact run_fault (y.sm (LI := [9]) (LA := []) (Same_si (by decide)) (by decide) (by decide)) ⟨by decide, by decide⟩ hq
theorem to_tf {a2 b2 k n0 : Nat} {S0 : List Nat} (hk : tkk T N a b = k) (hk2 : k = 12 ∨ k = 13) (hp : p < 300) (hH : Hd S0 (fun x => x = 11)) (hL : Lt100 S0) (hl : cs.length + 1 + n0 ≤ 300) (h64 : (List.replicate n0 11 ++ S0).length ≤ 64) (hR : Run tBl T N b a2) (hE2 : TkE T N a2 b2) : To (L12 T N u0 cs (List.replicate n0 11 ++ S0) p a b) (X16 T N u0 (cs ++ [(k, 0)] ++ List.replicate n0 (11, 0)) S0 (p + 1) a2 b2) := by
  intro c u hA Q hq
  refine cond_in hA (fun g n u2 hn hC hX => ?_)
  have h24 := hX.2.2.2.2.2.1
  have hX1 := hX.part 16
  have hs1 : Same [12, 24] [] u2 (si (si u2 12 (nI 16)) 24 (nI (p + 1))) := (Same_si (by decide)).trans (Same_si (by decide))
  have hC1 := hC.sm hs1 (fun k h1 h2 h3 => by simp at h3; omega) (by decide)
  have hpart := c_part_ok (m := 16) h24 hp hX.2.2.1
  have e16 : (16 : Int32) = nI 16 := rfl
  rw [e16] at hpart
  generalize si (si u2 12 (nI 16)) 24 (nI (p + 1)) = u3 at hpart hX1 hC1
  have fin : CN (ncl (x_X5_takePart (nI 16)) (fun _ => ncl (x_X4_emit (nI k) 0) (fun _ => ncl (x_X5_closeNots) (fun _ => nrt (0 : Int32))))) u2 (fun _ v => CN (RN g (nI n + 1)) v Q) := by
    refine CN_app hpart (fun _ v y => ?_)
    subst y
    refine CN_app (c_emit hX1.2.2.2.1.1 (by omega) rfl (show (0 : Int32) = nI 0 from rfl)) (fun _ v y => ?_)
    subst y
    have hX2 := hX1.em (kd := k) (f := 0) (by omega)
    have hC2 := hC1.sm (em8_same v cs.length k 0) (fun k h1 h2 h3 => by simp at h3; omega) (by decide)
    generalize em8 v cs.length k 0 = w at hX2 hC2
    refine CN_app (p := x_X5_closeNots) (c_closeNots hH hL n0 fuel (cs ++ [(k, 0)]) w hX2 (by rw [List.length_append]; have : [(k, (0 : Nat))].length = 1 := rfl; omega) h64) (fun _ w2 y => CN_rt ?_)
    obtain ⟨y1, y2⟩ := y
    have hC3 := hC2.sm y2 (fun k h1 h2 h3 => by simp at h3; omega) (by decide)
    exact on_next hC3 (by omega) hn y1 (by decide) hR hE2 (fun g2 n2 u2 y1 y2 y3 _ => to16 _ _ ⟨g2, n2, rfl, y1, y2, y3⟩ Q hq)
  unfold tcd
  rw [hk]
  rcases hk2 with rfl | rfl
  · exact CN_ite (fun z => absurd z (by decide)) (fun _ => CN_ite (fun z => absurd z (by decide)) (fun _ => CN_ite (fun _ => fin) (fun z => absurd rfl z)))
  · exact CN_ite (fun z => absurd z (by decide)) (fun _ => CN_ite (fun z => absurd z (by decide)) (fun _ => CN_ite (fun z => absurd z (by decide)) (fun _ => CN_ite (fun _ => fin) (fun z => absurd rfl z))))
theorem to_tf3 {k : Nat} (hk : tkk T N a b = k) (hk2 : k = 12 ∨ k = 13) (hp : p = 300) : To (L12 T N u0 cs S p a b) (FP 3 a) := by
  intro c u hA Q hq
  refine cond_in hA (fun g n u2 hn hC hX => ?_)
  subst hp
  have h24 := hX.2.2.2.2.2.1
  have hF : FaultC 3 a (si (si u2 11 3) 10 (u2.1 5)) := ⟨(siO (by decide)).trans (siE _ _ _), (siE _ _ _).trans hC.2.2.2.2.1⟩
  have fin : CN (ncl (x_X5_takePart 16) (fun _ => ncl (x_X4_emit (nI k) 0) (fun _ => ncl (x_X5_closeNots) (fun _ => nrt (0 : Int32))))) u2 (fun _ v => CN (RN g (nI n + 1)) v Q) := by
    refine CN_app (c_part_no h24) (fun _ v y => ?_)
    subst y
    refine CN_app c_emit_fr (fun _ v y => CN_app (p := x_X5_closeNots) (c_closeNots_fr fuel v) (fun _ w z => CN_rt ?_))
    exact run_fault ((hF.sm y (by decide) (by decide)).sm z (by decide) (by decide)) ⟨by decide, by decide⟩ hq
  unfold tcd
  rw [hk]
  rcases hk2 with rfl | rfl
  · exact CN_ite (fun z => absurd z (by decide)) (fun _ => CN_ite (fun z => absurd z (by decide)) (fun _ => CN_ite (fun _ => fin) (fun z => absurd rfl z)))
  · exact CN_ite (fun z => absurd z (by decide)) (fun _ => CN_ite (fun z => absurd z (by decide)) (fun _ => CN_ite (fun z => absurd z (by decide)) (fun _ => CN_ite (fun _ => fin) (fun z => absurd rfl z))))
/-- behind a sum: the comparison -/
theorem to_cmp {a2 b2 kd : Nat} (hk : tkk T N a b = kd) (hkd : 22 ≤ kd ∧ kd ≤ 27) (hp : p < 300) (hR : Run tBl T N b a2) (hE2 : TkE T N a2 b2) : To (LQm T N u0 15 cs S p 0 0 a b) (LQm T N u0 13 cs S (p + 1) 0 kd a2 b2) := by
  rintro c u ⟨g, n, rfl, hn, hC, hX⟩ Q hq
  have h24 := hX.2.2.2.2.2.1
  have h15 := hX.2.2.2.2.2.2.2.2.2
  have hX1 := hX.part 13
  have hs1 : Same [12, 24] [] u (si (si u 12 (nI 13)) 24 (nI (p + 1))) := (Same_si (by decide)).trans (Same_si (by decide))
  have hC1 := hC.sm hs1 (fun k h1 h2 h3 => by simp at h3; omega) (by decide)
  have hpart := c_part_ok (m := 13) h24 hp hX.2.2.1
  have e13 : (13 : Int32) = nI 13 := rfl
  rw [e13] at hpart
  generalize si (si u 12 (nI 13)) 24 (nI (p + 1)) = u1 at hpart hX1 hC1
  have e : ∀ x : Nat, x < 100 → nI kd = nI x → kd = x := fun x hx z => (nI_eq (by omega) (by omega)).mp z
  unfold LQ
  refine CN_RFx hC.2.2.2.2.2.2.1 (tk15 hX.2.1 h15 (fun _ => ?_) (fun z => absurd (Or.inl rfl) z))
  unfold x_X5_takeBehindTerm
  rw [hk]
  refine CN_ite (fun z => absurd (e 20 (by decide) z) (by omega)) (fun _ => CN_ite (fun z => absurd (e 21 (by decide) z) (by omega)) (fun _ => CN_ite (fun z => absurd ((nI_ltI (a := kd) (b := 22) (by omega) (by decide)).mp z) (by omega)) (fun _ => CN_ite (fun z => absurd ((nI_ltI (a := 27) (b := kd) (by decide) (by omega)).mp z) (by omega)) (fun _ => ?_))))
  refine CN_app hpart (fun _ v y => ?_)
  subst y
  refine CN_WFx (CN_rt ?_)
  have hC2 := hC1.sm (LI := [15]) (LA := []) (v := si v 15 (nI kd)) (Same_si (by decide)) (fun k h1 h2 h3 => by simp at h3; omega) (by decide)
  exact on_next hC2 (by omega) hn (hX1.w15 kd) (by decide) hR hE2 (fun g2 n2 u2 y1 y2 y3 _ => hq _ _ ⟨g2, n2, rfl, y1, y2, y3⟩)
theorem to_cmp3 {kd : Nat} (hk : tkk T N a b = kd) (hkd : 22 ≤ kd ∧ kd ≤ 27) (hp : p = 300) : To (LQm T N u0 15 cs S p 0 0 a b) (FP 3 a) := by
  rintro c u ⟨g, n, rfl, hn, hC, hX⟩ Q hq
  subst hp
  have h24 := hX.2.2.2.2.2.1
  have h15 := hX.2.2.2.2.2.2.2.2.2
  have hF : FaultC 3 a (si (si u 11 3) 10 (u.1 5)) := ⟨(siO (by decide)).trans (siE _ _ _), (siE _ _ _).trans hC.2.2.2.2.1⟩
  have e : ∀ x : Nat, x < 100 → nI kd = nI x → kd = x := fun x hx z => (nI_eq (by omega) (by omega)).mp z
  unfold LQ
  refine CN_RFx hC.2.2.2.2.2.2.1 (tk15 hX.2.1 h15 (fun _ => ?_) (fun z => absurd (Or.inl rfl) z))
  unfold x_X5_takeBehindTerm
  rw [hk]
  refine CN_ite (fun z => absurd (e 20 (by decide) z) (by omega)) (fun _ => CN_ite (fun z => absurd (e 21 (by decide) z) (by omega)) (fun _ => CN_ite (fun z => absurd ((nI_ltI (a := kd) (b := 22) (by omega) (by decide)).mp z) (by omega)) (fun _ => CN_ite (fun z => absurd ((nI_ltI (a := 27) (b := kd) (by decide) (by omega)).mp z) (by omega)) (fun _ => ?_))))
  refine CN_app (c_part_no h24) (fun _ v y => ?_)
  subst y
  exact CN_WFx (CN_rt (run_fault (hF.sm (LI := [15]) (LA := []) (Same_si (by decide)) (by decide) (by decide)) ⟨by decide, by decide⟩ hq))
theorem to_cmp1 (hE : TkE T N a b) (h20 : ¬ tkk T N a b = 20) (h21 : ¬ tkk T N a b = 21) (hkd : ¬ (22 ≤ tkk T N a b ∧ tkk T N a b ≤ 27)) : To (LQm T N u0 15 cs S p 0 0 a b) (FP 1 a) := by
  rintro c u ⟨g, n, rfl, hn, hC, hX⟩ Q hq
  have h15 := hX.2.2.2.2.2.2.2.2.2
  have hle := tkk_le a b hE
  have hF : FaultC 1 a (si (si u 11 1) 10 (u.1 5)) := ⟨(siO (by decide)).trans (siE _ _ _), (siE _ _ _).trans hC.2.2.2.2.1⟩
  have e : ∀ x : Nat, x < 100 → nI (tkk T N a b) = nI x → tkk T N a b = x := fun x hx z => (nI_eq (by omega) (by omega)).mp z
  have fin : CN (ncl (x_X5_fail 1) (fun _ => nrt (0 : Int32))) u (fun _ v => CN (RN g (nI n + 1)) v Q) := CN_app (c_fail 1) (fun _ v y => CN_rt (by
    subst y
    exact run_fault hF ⟨by decide, by decide⟩ hq))
  unfold LQ
  refine CN_RFx hC.2.2.2.2.2.2.1 (tk15 hX.2.1 h15 (fun _ => ?_) (fun z => absurd (Or.inl rfl) z))
  unfold x_X5_takeBehindTerm
  refine CN_ite (fun z => absurd (e 20 (by decide) z) h20) (fun _ => CN_ite (fun z => absurd (e 21 (by decide) z) h21) (fun _ => CN_ite (fun _ => fin) (fun z => CN_ite (fun _ => fin) (fun z2 => ?_))))
  have z3 := (fun y => z ((nI_ltI (a := tkk T N a b) (b := 22) (by omega) (by decide)).mpr y))
  have z4 := (fun y => z2 ((nI_ltI (a := 27) (b := tkk T N a b) (by decide) (by omega)).mpr y))
  exact absurd ⟨Nat.le_of_not_lt z3, Nat.le_of_not_lt z4⟩ hkd
theorem to_cend {kd n0 : Nat} {S0 : List Nat} (h20 : ¬ tkk T N a b = 20) (h21 : ¬ tkk T N a b = 21) (hE : TkE T N a b) (hkd : 22 ≤ kd ∧ kd ≤ 27) (hH : Hd S0 (fun x => x = 11)) (hL : Lt100 S0) (hl : cs.length + 1 + n0 ≤ 300) (h64 : (List.replicate n0 11 ++ S0).length ≤ 64) : To (LQm T N u0 15 cs (List.replicate n0 11 ++ S0) p 0 kd a b) (X16 T N u0 (cs ++ [(kd, 0)] ++ List.replicate n0 (11, 0)) S0 p a b) := by
  rintro c u ⟨g, n, rfl, hn, hC, hX⟩ Q hq
  have h15 := hX.2.2.2.2.2.2.2.2.2
  have hle := tkk_le a b hE
  have hne : ¬ (nI kd = 0 ∨ nI (tkk T N a b) = 20 ∨ nI (tkk T N a b) = 21) := fun z => by
    rcases z with z | z | z
    · have := (nI_eq (a := kd) (b := 0) (by omega) (by decide)).mp z
      omega
    · exact h20 ((nI_eq (a := tkk T N a b) (b := 20) (by omega) (by decide)).mp z)
    · exact h21 ((nI_eq (a := tkk T N a b) (b := 21) (by omega) (by decide)).mp z)
  unfold LQ
  refine CN_RFx hC.2.2.2.2.2.2.1 (tk15 hX.2.1 h15 (fun z => absurd z hne) (fun _ => ?_))
  unfold x_X5_endComparison
  refine CN_RFx h15 (CN_app (c_emit hX.2.2.2.1.1 (by omega) rfl (show (0 : Int32) = nI 0 from rfl)) (fun _ v y => ?_))
  subst y
  have hX2 := hX.em (kd := kd) (f := 0) (by omega)
  have hC2 := hC.sm (em8_same u cs.length kd 0) (fun k h1 h2 h3 => by simp at h3; omega) (by decide)
  generalize em8 u cs.length kd 0 = w at hX2 hC2
  refine CN_app (p := x_X5_closeNots) (c_closeNots hH hL n0 fuel (cs ++ [(kd, 0)]) w hX2 (by rw [List.length_append]; have : [(kd, (0 : Nat))].length = 1 := rfl; omega) h64) (fun _ w2 y => CN_WFx (CN_rt ?_))
  obtain ⟨y1, y2⟩ := y
  have hC3 := hC2.sm y2 (fun k h1 h2 h3 => by simp at h3; omega) (by decide)
  have hX3 := y1.w12 16
  have hC4 := hC3.sm (LI := [12]) (LA := []) (v := si w2 12 (nI 16)) (Same_si (by decide)) (fun k h1 h2 h3 => by simp at h3; omega) (by decide)
  exact ⟨siE _ _ _, CN_lc (hq _ _ ⟨0, kd, g, n, rfl, hn, hC4, hX3⟩)⟩
/-- and, or -/
theorem to_and {a2 b2 w : Nat} {P : List Nat} (hk : tkk T N a b = w) (hw : w = 9 ∨ w = 10) (hH : Hd S (fun x => x = 10 ∨ x = w)) (hL : Lt100 S) (hP : ∀ x ∈ P, x = 10 ∨ x = w) (hp : p < 300) (hl : cs.length + P.length ≤ 300) (h64 : (P ++ S).length < 64) (hR : Run tBl T N b a2) (hE2 : TkE T N a2 b2) : To (X16 T N u0 cs (P ++ S) p a b) (L12 T N u0 (cs ++ bcs P) (w :: S) (p + 1) a2 b2) := by
  rintro c u ⟨sg, cm, g, n, rfl, hn, hC, hX⟩ Q hq
  have h24 := hX.2.2.2.2.2.1
  have hX1 := hX.part 12
  have hs1 : Same [12, 24] [] u (si (si u 12 (nI 12)) 24 (nI (p + 1))) := (Same_si (by decide)).trans (Same_si (by decide))
  have hC1 := hC.sm hs1 (fun k h1 h2 h3 => by simp at h3; omega) (by decide)
  have hpart := c_part_ok (m := 12) h24 hp hX.2.2.1
  have e12 : (12 : Int32) = nI 12 := rfl
  rw [e12] at hpart
  generalize si (si u 12 (nI 12)) 24 (nI (p + 1)) = u3 at hpart hX1 hC1
  have hS64 : S.length < 64 := by
    rw [List.length_append] at h64
    omega
  have fin : CN (ncl (x_X5_takePart (nI 12)) (fun _ => ncl (x_X5_emitBinders (nI w)) (fun _ => ncl (x_X5_hold (nI w)) (fun _ => nrt (0 : Int32))))) u (fun _ v => CN (RN g (nI n + 1)) v Q) := by
    refine CN_app hpart (fun _ v y => ?_)
    subst y
    refine CN_app (c_bind hw hH hL hP hX1 hl (Nat.le_of_lt h64)) (fun _ w2 y => ?_)
    obtain ⟨y1, y2⟩ := y
    have hC2 := hC1.sm y2 (fun k h1 h2 h3 => by simp at h3; omega) (by decide)
    have hSt := y1.2.2.2.2.1
    refine CN_app (c_hold hSt.1 hS64 rfl) (fun _ w3 z => CN_rt ?_)
    subst z
    have hh := hd7_same w2 S.length w
    have hX3 := y1.st (S2 := w :: S) (hh.mono (by decide) (by decide)) (hd7_st hSt) ((hh.1 8 (by decide)).trans (y1.2.2.2.2.2.2.1.trans (by rw [nOp_o (by omega)]))) ((hh.1 9 (by decide)).trans (y1.2.2.2.2.2.2.2.1.trans (by rw [nBr_o (by omega)])))
    have hC3 := hC2.sm hh (fun k h1 h2 h3 => by simp at h3; omega) (by decide)
    exact on_next hC3 (by omega) hn hX3 (by decide) hR hE2 (fun g2 n2 u2 y1 y2 y3 _ => hq _ _ ⟨sg, cm, g2, n2, rfl, y1, y2, y3⟩)
  refine CN_cl ?_
  unfold x_X5_takeBehindCond
  rw [hk]
  rcases hw with rfl | rfl
  · exact CN_ite (fun z => absurd z (by decide)) (fun _ => CN_ite (fun _ => fin) (fun z => absurd rfl z))
  · exact CN_ite (fun _ => fin) (fun z => absurd rfl z)
theorem to_and3 {w : Nat} (hk : tkk T N a b = w) (hw : w = 9 ∨ w = 10) (hp : p = 300) : To (X16 T N u0 cs S p a b) (FP 3 a) := by
  rintro c u ⟨sg, cm, g, n, rfl, hn, hC, hX⟩ Q hq
  subst hp
  have h24 := hX.2.2.2.2.2.1
  have hF : FaultC 3 a (si (si u 11 3) 10 (u.1 5)) := ⟨(siO (by decide)).trans (siE _ _ _), (siE _ _ _).trans hC.2.2.2.2.1⟩
  have fin : CN (ncl (x_X5_takePart 12) (fun _ => ncl (x_X5_emitBinders (nI w)) (fun _ => ncl (x_X5_hold (nI w)) (fun _ => nrt (0 : Int32))))) u (fun _ v => CN (RN g (nI n + 1)) v Q) := by
    refine CN_app (c_part_no h24) (fun _ v y => ?_)
    subst y
    refine CN_app (c_bind_fr _) (fun _ v y => CN_app (c_hold_fr _) (fun _ w z => CN_rt ?_))
    exact run_fault ((hF.sm y (by decide) (by decide)).sm z (by decide) (by decide)) ⟨by decide, by decide⟩ hq
  refine CN_cl ?_
  unfold x_X5_takeBehindCond
  rw [hk]
  rcases hw with rfl | rfl
  · exact CN_ite (fun z => absurd z (by decide)) (fun _ => CN_ite (fun _ => fin) (fun z => absurd rfl z))
  · exact CN_ite (fun _ => fin) (fun z => absurd rfl z)
theorem to_bad16 (hE : TkE T N a b) (h9 : ¬ tkk T N a b = 9) (h10 : ¬ tkk T N a b = 10) (h18 : tkk T N a b = 18 → nBr S = 0) (h19 : tkk T N a b = 19 → ¬ nBr S = 0) (hb : nBr S < 100) : To (X16 T N u0 cs S p a b) (FP 1 a) := by
  rintro c u ⟨sg, cm, g, n, rfl, hn, hC, hX⟩ Q hq
  have hle := tkk_le a b hE
  have hF : FaultC 1 a (si (si u 11 1) 10 (u.1 5)) := ⟨(siO (by decide)).trans (siE _ _ _), (siE _ _ _).trans hC.2.2.2.2.1⟩
  have e : ∀ x : Nat, x < 100 → nI (tkk T N a b) = nI x → tkk T N a b = x := fun x hx z => (nI_eq (by omega) (by omega)).mp z
  have e9 := hX.2.2.2.2.2.2.2.1
  have fin : CN (ncl (x_X5_fail 1) (fun _ => nrt (0 : Int32))) u (fun _ v => CN (RN g (nI n + 1)) v Q) := CN_app (c_fail 1) (fun _ v y => CN_rt (by
    subst y
    exact run_fault hF ⟨by decide, by decide⟩ hq))
  refine CN_cl ?_
  unfold x_X5_takeBehindCond
  refine CN_ite (fun z => absurd (e 10 (by decide) z) h10) (fun _ => CN_ite (fun z => absurd (e 9 (by decide) z) h9) (fun _ => CN_ite (fun z => CN_RFx e9 ?_) (fun _ => CN_ite (fun z => CN_RFx e9 ?_) (fun _ => fin))))
  · have z1 := e 18 (by decide) z
    rw [h18 z1, z1]
    exact CN_ite (fun _ => CN_ite (fun z => absurd z (by decide)) (fun _ => fin)) (fun z => absurd (Int32.le_refl _) z)
  · have z1 := e 19 (by decide) z
    exact CN_ite (fun z => absurd ((nI_eq (a := nBr S) (b := 0) (by omega) (by decide)).mp z) (h19 z1)) (fun _ => fin)
theorem nBr_app : ∀ (P : List Nat) {S : List Nat}, nBr (P ++ S) = nBr P + nBr S := by
  intro P
  induction P with
  | nil => intro S; exact (Nat.zero_add _).symm
  | cons x P ih =>
    intro S
    show (if x = 17 then 1 else 0) + nBr (P ++ S) = ((if x = 17 then 1 else 0) + nBr P) + nBr S
    rw [ih, Nat.add_assoc]
theorem to_close {a2 b2 n0 : Nat} {S0 P : List Nat} (hk : tkk T N a b = 18) (hP : ∀ x ∈ P, x = 10 ∨ x = 9) (hH : Hd S0 (fun x => x = 11)) (hL : Lt100 S0) (hl : cs.length + P.length + n0 ≤ 300) (h64 : (P ++ 17 :: (List.replicate n0 11 ++ S0)).length ≤ 64) (hb : nBr (P ++ 17 :: (List.replicate n0 11 ++ S0)) < 100) (hL2 : Lt100 (List.replicate n0 11 ++ S0)) (hR : Run tBl T N b a2) (hE2 : TkE T N a2 b2) : To (X16 T N u0 cs (P ++ 17 :: (List.replicate n0 11 ++ S0)) p a b) (X16 T N u0 (cs ++ bcs P ++ List.replicate n0 (11, 0)) S0 p a2 b2) := by
  rintro c u ⟨sg, cm, g, n, rfl, hn, hC, hX⟩ Q hq
  have e9 := hX.2.2.2.2.2.2.2.1
  generalize hSS : List.replicate n0 11 ++ S0 = SS at hX e9 hL2 h64 hb
  have hpos : 1 ≤ nBr (P ++ 17 :: SS) := by
    rw [nBr_app, nBr_i]
    omega
  have hL3 : Lt100 (17 :: SS) := fun x hx => by
    rcases List.mem_cons.mp hx with z | z
    · omega
    · exact hL2 x z
  have hH3 : Hd (17 :: SS) (fun x => x = 10 ∨ x = 9) := fun x R e z => by
    have : (17 : Nat) = x := (List.cons.inj e).1
    omega
  refine CN_cl ?_
  unfold x_X5_takeBehindCond
  rw [hk]
  refine CN_ite (fun z => absurd z (by decide)) (fun _ => CN_ite (fun z => absurd z (by decide)) (fun _ => CN_ite (fun _ => CN_RFx e9 ?_) (fun z => absurd rfl z)))
  refine CN_ite (fun z => absurd ((nI_leI (a := nBr (P ++ 17 :: SS)) (b := 0) (by omega) (by decide)).mp z) (by omega)) (fun _ => ?_)
  refine CN_app (P := fun _ v => XC u0 16 (cs ++ bcs P ++ List.replicate n0 (11, 0)) S0 p sg cm v ∧ Same [7, 8, 9, 25] [8] u v) ?_ (fun _ v y => CN_WFx (CN_rt ?_))
  · unfold x_X5_closeBracket
    refine CN_app (P := fun _ v => XC u0 16 (cs ++ bcs P) (17 :: SS) p sg cm v ∧ Same [7, 25] [8] u v) (c_bind (w := 9) (Or.inl rfl) hH3 hL3 hP hX (by omega) h64) (fun _ v y => ?_)
    obtain ⟨hX1, hs1⟩ := y
    have hSt := hX1.2.2.2.2.1
    obtain ⟨s7, -⟩ := hSt.top
    have e8 := hX1.2.2.2.2.2.2.1
    have e9 := hX1.2.2.2.2.2.2.2.1
    rw [nOp_i (Or.inr rfl)] at e8
    rw [nBr_i] at e9
    refine CN_RFx s7 ?_
    rw [nI_pred1]
    refine CN_WFx (CN_RFx ((siO (by decide)).trans e8) ?_)
    rw [nI_pred1]
    refine CN_WFx (CN_RFx ((siO (by decide)).trans ((siO (by decide)).trans e9)) ?_)
    rw [nI_pred1]
    refine CN_WFx ?_
    have hs2 : Same [7, 8, 9] [7] v (si (si (si v 7 (nI SS.length)) 8 (nI (nOp SS))) 9 (nI (nBr SS))) := ((Same_si (by decide)).trans (Same_si (by decide))).trans (Same_si (by decide))
    have hs3 : Same [7, 8, 9, 25] [8] v (si (si (si v 7 (nI SS.length)) 8 (nI (nOp SS))) 9 (nI (nBr SS))) := ((Same_si (by decide)).trans (Same_si (by decide))).trans (Same_si (by decide))
    have hX2 := hX1.st hs2 (hSt.pop ((siO (by decide)).trans ((siO (by decide)).trans (siE _ _ _))) rfl) ((siO (by decide)).trans (siE _ _ _)) (siE _ _ _)
    generalize si (si (si v 7 (nI SS.length)) 8 (nI (nOp SS))) 9 (nI (nBr SS)) = v2 at hX2 hs3
    subst hSS
    have hlen : (P ++ 17 :: (List.replicate n0 11 ++ S0)).length = P.length + ((List.replicate n0 11 ++ S0).length + 1) := by
      rw [List.length_append, List.length_cons]
    refine CN_app (p := x_X5_closeNots) (c_closeNots hH hL n0 fuel (cs ++ bcs P) v2 hX2 (by rw [List.length_append, bcs_l]; omega) (by omega)) (fun _ w2 z => CN_rt ⟨z.1, ?_⟩)
    exact ((hs1.mono (by decide) (by decide)).trans hs3).trans (z.2.mono (by decide) (by decide))
  · obtain ⟨y1, y2⟩ := y
    have hC2 := hC.sm y2 (fun k h1 h2 h3 => by simp at h3; omega) (by decide)
    have hX3 := y1.w12 16
    have hC3 := hC2.sm (LI := [12]) (LA := []) (v := si v 12 (nI 16)) (Same_si (by decide)) (fun k h1 h2 h3 => by simp at h3; omega) (by decide)
    exact on_next hC3 (by omega) hn hX3 (by decide) hR hE2 (fun g2 n2 u2 y1 y2 y3 _ => to16 _ _ ⟨g2, n2, rfl, y1, y2, y3⟩ Q hq)
end
