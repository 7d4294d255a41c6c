/-! ===== the class's steps around a line ===== -/
section
variable {T : Nat → Nat} {N : Nat} {u0 : MS} {a b m : Nat} {cs : List (Nat × Nat)}
def LiC (T : Nat → Nat) (N : Nat) (u0 : MS) (m : Nat) (cs : List (Nat × Nat)) (a b : Nat) (c : NG Int32) (u : MS) : Prop := ∃ sg cm, LQm T N u0 m cs [] cs.length sg cm a b c u
/-- the points of a line -/
def ptb (u : MS) (nl x : Nat) : MS := sf u 10 (upd (u.2 10) nl (nI x))
theorem ptb_same (u : MS) (nl x : Nat) : Same [] [10] u (ptb u nl x) := Same_sf (by decide)
theorem XC.pts {u : MS} {p sg cm nl x : Nat} {S : List Nat} (h : XC u0 m cs S p sg cm u) : XC (ptb u0 nl x) m cs S p sg cm (ptb u nl x) := by
  have e : u.2 10 = u0.2 10 := h.1.2 10 (by decide)
  unfold ptb
  rw [e]
  exact h.ba (by decide) _
/-- the end of a line -/
def elb (u : MS) (nl x : Nat) : MS := si (sf u 9 (upd (u.2 9) nl (nI x))) 23 (nI (nl + 1))
theorem elb_same (u : MS) (nl x : Nat) : Same [23] [9] u (elb u nl x) := (Same_sf (by decide)).trans (Same_si (by decide))
theorem XC.els {u : MS} {p sg cm nl x : Nat} {S : List Nat} (h : XC u0 m cs S p sg cm u) : XC (elb u0 nl x) m cs S p sg cm (elb u nl x) := by
  have e : u.2 9 = u0.2 9 := h.1.2 9 (by decide)
  unfold elb
  rw [e]
  exact (h.ba (j := 9) (by decide) _).b (by decide) _
theorem tk69 {k : Int32} {u : MS} {q : Int32 → NG Int32} {Q : Int32 → MS → Prop} (hm : m = 6 ∨ m = 9) (h12 : u.1 12 = nI m) (h : CN (x_X5_takeSignOrLine k) u (fun _ v => CN (q 0) v Q)) : CN (ncl (x_X5_take k) q) u Q := by
  rcases hm with rfl | rfl
  · exact tk6 h12 h
  · exact tk9 h12 h
theorem to_line {a2 b2 nl : Nat} (hm : m = 6 ∨ m = 9) (hk : tkk T N a b = 7) (hnl : nl < 20) (h23 : u0.1 23 = nI nl) (hR : Run tBl T N b a2) (hE2 : TkE T N a2 b2) : To (LiC T N u0 m cs a b) (LiC T N (ptb u0 nl 1) 10 cs a2 b2) := by
  rintro c u ⟨sg, cm, g, n, rfl, hn, hC, hX⟩ Q hq
  unfold LQ
  refine CN_RFx hC.2.2.2.2.2.2.1 (tk69 hm hX.2.1 ?_)
  rw [hk]
  have e23 : u.1 23 = nI nl := (hX.1.1 23 (by decide)).trans h23
  unfold x_X5_takeSignOrLine
  refine CN_ite (fun z => absurd z (by decide)) (fun _ => CN_ite (fun z => absurd z (by decide)) (fun _ => CN_ite (fun _ => CN_RFx e23 (CN_ST (CN_RFx (show (sf u 10 _).1 23 = nI nl from e23) (CN_ite (fun z => absurd ((nI_leI (a := 20) (b := nl) (by decide) (by omega)).mp z) (by omega)) (fun _ => ?_))))) (fun z => absurd rfl z)))
  rw [wrN _ hnl (by decide)]
  have hX1 := hX.pts (nl := nl) (x := 1)
  have hC1 := hC.sm (ptb_same u nl 1) (fun k h1 h2 h3 => absurd h3 List.not_mem_nil) (by decide)
  have e1 : sf u 10 (upd (u.2 10) nl 1) = ptb u nl 1 := rfl
  rw [e1]
  generalize ptb u nl 1 = u1 at hX1 hC1
  refine CN_app c_room1 (fun _ v y => CN_rt ?_)
  subst y
  exact on_next (hC1.sm (LI := [12]) (LA := []) (v := si u1 12 (nI 10)) (Same_si (by decide)) (fun k h1 h2 h3 => by simp at h3; omega) (by decide)) (by omega) hn (hX1.w12 10) (by decide) hR hE2 (fun g2 n2 u2 y1 y2 y3 _ => hq _ _ ⟨sg, cm, g2, n2, rfl, y1, y2, y3⟩)
theorem to_line3 (hm : m = 6 ∨ m = 9) (hk : tkk T N a b = 7) (h23 : u0.1 23 = nI 20) : To (LiC T N u0 m cs a b) (FP 3 a) := by
  rintro c u ⟨sg, cm, g, n, rfl, hn, hC, hX⟩ Q hq
  unfold LQ
  refine CN_RFx hC.2.2.2.2.2.2.1 (tk69 hm hX.2.1 ?_)
  rw [hk]
  have e23 : u.1 23 = nI 20 := (hX.1.1 23 (by decide)).trans h23
  unfold x_X5_takeSignOrLine
  refine CN_ite (fun z => absurd z (by decide)) (fun _ => CN_ite (fun z => absurd z (by decide)) (fun _ => CN_ite (fun _ => CN_RFx e23 (CN_ST (CN_RFx (show (sf u 10 _).1 23 = nI 20 from e23) (CN_ite (fun _ => ?_) (fun z => absurd (Int32.le_refl _) z))))) (fun z => absurd rfl z)))
  refine CN_app c_room0 (fun _ v y => CN_rt ?_)
  subst y
  exact run_fault ⟨(siO (by decide)).trans (siE _ _ _), (siE _ _ _).trans hC.2.2.2.2.1⟩ ⟨by decide, by decide⟩ hq
theorem to_bad69 (hE : TkE T N a b) (hm : m = 6 ∨ m = 9) (h0 : ¬ tkk T N a b = 0) (h7 : ¬ tkk T N a b = 7) (h6 : m = 6 → ¬ tkk T N a b = 6) : To (LiC T N u0 m cs a b) (FP 1 a) := by
  rintro c u ⟨sg, cm, g, n, rfl, hn, hC, hX⟩ Q hq
  have hle := tkk_le a b hE
  have e : ∀ x : Nat, x < 100 → nI (tkk T N a b) = nI x → tkk T N a b = x := fun x hx z => (nI_eq (by omega) (by omega)).mp z
  have fin : CN (ncl (x_X5_fail 1) (fun _ => nrt (0 : Int32))) u (fun _ v => CN (RN g (nI n + 1)) v Q) := CN_app (c_fail 1) (fun _ v y => CN_rt (by
    subst y
    exact run_fault ⟨(siO (by decide)).trans (siE _ _ _), (siE _ _ _).trans hC.2.2.2.2.1⟩ ⟨by decide, by decide⟩ hq))
  unfold LQ
  refine CN_RFx hC.2.2.2.2.2.2.1 (tk69 hm hX.2.1 ?_)
  unfold x_X5_takeSignOrLine
  refine CN_ite (fun z => absurd (e 0 (by decide) z) h0) (fun _ => CN_ite (fun z => CN_RFx hX.2.1 (CN_ite (fun z2 => ?_) (fun _ => ?_))) (fun _ => CN_ite (fun z => absurd (e 7 (by decide) z) h7) (fun _ => fin)))
  · have e6 : m = 6 := (nI_eq (a := m) (b := 6) (by omega) (by decide)).mp z2
    exact absurd (e 6 (by decide) z) (h6 e6)
  · exact CN_ite (fun z => absurd (e 7 (by decide) z) h7) (fun _ => fin)
def EnC (u0 : MS) (cs : List (Nat × Nat)) (c : NG Int32) (u : MS) : Prop := c = nrt 1 ∧ ∃ sg cm, XC u0 17 cs [] cs.length sg cm u
theorem to_end (hm : m = 6 ∨ m = 9) (h0 : tkk T N a b = 0) : To (LiC T N u0 m cs a b) (EnC u0 cs) := by
  rintro c u ⟨sg, cm, g, n, rfl, hn, hC, hX⟩ Q hq
  unfold LQ
  refine CN_RFx hC.2.2.2.2.2.2.1 (tk69 hm hX.2.1 ?_)
  rw [h0]
  unfold x_X5_takeSignOrLine
  refine CN_ite (fun _ => CN_WFx (CN_rt ?_)) (fun z => absurd rfl z)
  have hX2 := hX.w12 17
  have hkk : ∀ K : NG Int32, CN LK (si u 12 (nI 17)) Q := fun _ => by
    unfold LK
    exact CN_RFx hX2.2.2.1 (CN_ite (fun _ => hq _ _ ⟨rfl, sg, cm, hX2⟩) (fun z => absurd rfl z))
  cases g with
  | zero => exact fun r w e => by cases e
  | succ g =>
    show CN (RN (g + 1) (nI n + 1)) (si u 12 (nI 17)) Q
    unfold RN xl_X5_readLaws_46
    exact CN_ite (fun _ => hkk LK) (fun _ => CN_RFx hX2.2.2.1 (CN_ite (fun _ => CN_RFx hX2.2.1 (CN_ite (fun _ => hkk LK) (fun z => absurd rfl z))) (fun z => absurd rfl z)))
theorem to_pts {a2 b2 nl : Nat} (hk : tkk T N a b = 3) (hnl : nl < 20) (h23 : u0.1 23 = nI nl) (hR : Run tBl T N b a2) (hE2 : TkE T N a2 b2) : To (LiC T N u0 10 cs a b) (LiC T N (ptb u0 nl (vl T a (min 4 (b - a)))) 11 cs a2 b2) := by
  rintro c u ⟨sg, cm, g, n, rfl, hn, hC, hX⟩ Q hq
  unfold LQ
  refine CN_RFx hC.2.2.2.2.2.2.1 (tk10 hX.2.1 ?_)
  have e6 := hC.2.2.2.2.2.2.2 hk
  rw [hk]
  have e23 : u.1 23 = nI nl := (hX.1.1 23 (by decide)).trans h23
  unfold x_X5_takePoints
  refine CN_ite (fun _ => CN_RFx e23 (CN_RFx e6 (CN_ST ?_))) (fun z => absurd rfl z)
  rw [wrN _ hnl (by decide)]
  have hX1 := hX.pts (nl := nl) (x := vl T a (min 4 (b - a)))
  have hC1 := hC.sm (ptb_same u nl (vl T a (min 4 (b - a)))) (fun k h1 h2 h3 => absurd h3 List.not_mem_nil) (by decide)
  have e1 : sf u 10 (upd (u.2 10) nl (nI (vl T a (min 4 (b - a))))) = ptb u nl (vl T a (min 4 (b - a))) := rfl
  rw [e1]
  generalize ptb u nl (vl T a (min 4 (b - a))) = u1 at hX1 hC1
  refine CN_WFx (CN_rt ?_)
  exact on_next (hC1.sm (LI := [12]) (LA := []) (v := si u1 12 (nI 11)) (Same_si (by decide)) (fun k h1 h2 h3 => by simp at h3; omega) (by decide)) (by omega) hn (hX1.w12 11) (by decide) hR hE2 (fun g2 n2 u2 y1 y2 y3 _ => hq _ _ ⟨sg, cm, g2, n2, rfl, y1, y2, y3⟩)
theorem to_when {a2 b2 : Nat} (hm : m = 10 ∨ m = 11) (hk : tkk T N a b = 8) (hR : Run tBl T N b a2) (hE2 : TkE T N a2 b2) : To (LiC T N u0 m cs a b) (LiC T N u0 12 cs a2 b2) := by
  rintro c u ⟨sg, cm, g, n, rfl, hn, hC, hX⟩ Q hq
  have fin : CN (RN g (nI n + 1)) (si u 12 (nI 12)) Q := on_next (hC.sm (LI := [12]) (LA := []) (v := si u 12 (nI 12)) (Same_si (by decide)) (fun k h1 h2 h3 => by simp at h3; omega) (by decide)) (by omega) hn (hX.w12 12) (by decide) hR hE2 (fun g2 n2 u2 y1 y2 y3 _ => hq _ _ ⟨sg, cm, g2, n2, rfl, y1, y2, y3⟩)
  unfold LQ
  rcases hm with rfl | rfl
  · refine CN_RFx hC.2.2.2.2.2.2.1 (tk10 hX.2.1 ?_)
    rw [hk]
    unfold x_X5_takePoints
    refine CN_ite (fun z => absurd z (by decide)) (fun _ => CN_ite (fun _ => CN_app c_goIf1 (fun _ v y => CN_rt ?_)) (fun z => absurd rfl z))
    subst y
    exact fin
  · refine CN_RFx hC.2.2.2.2.2.2.1 (tk11 hX.2.1 ?_)
    rw [hk, if_pos (show nI 8 = 8 from rfl)]
    refine CN.mono c_goIf1 (fun _ v y => ?_)
    subst y
    exact fin
theorem to_when1 (hE : TkE T N a b) (hm : m = 10 ∨ m = 11) (h8 : ¬ tkk T N a b = 8) (h3 : m = 10 → ¬ tkk T N a b = 3) : To (LiC T N u0 m cs a b) (FP 1 a) := by
  rintro c u ⟨sg, cm, g, n, rfl, hn, hC, hX⟩ Q hq
  have hle := tkk_le a b hE
  have e : ∀ x : Nat, x < 100 → nI (tkk T N a b) = nI x → tkk T N a b = x := fun x hx z => (nI_eq (by omega) (by omega)).mp z
  have fin : CN (RN g (nI n + 1)) (si (si u 11 1) 10 (u.1 5)) Q := run_fault ⟨(siO (by decide)).trans (siE _ _ _), (siE _ _ _).trans hC.2.2.2.2.1⟩ ⟨by decide, by decide⟩ hq
  unfold LQ
  rcases hm with rfl | rfl
  · refine CN_RFx hC.2.2.2.2.2.2.1 (tk10 hX.2.1 ?_)
    unfold x_X5_takePoints
    refine CN_ite (fun z => absurd (e 3 (by decide) z) (h3 rfl)) (fun _ => CN_ite (fun z => absurd (e 8 (by decide) z) h8) (fun _ => CN_app c_goIf0 (fun _ v y => CN_rt ?_)))
    subst y
    exact fin
  · refine CN_RFx hC.2.2.2.2.2.2.1 (tk11 hX.2.1 ?_)
    rw [if_neg (show ¬ nI (tkk T N a b) = 8 from fun z => h8 (e 8 (by decide) z))]
    refine CN.mono c_goIf0 (fun _ v y => ?_)
    subst y
    exact fin
theorem to_semi {a2 b2 nl p : Nat} {P : List Nat} (hk : tkk T N a b = 19) (hP : ∀ x ∈ P, x = 10 ∨ x = 9) (hPl : P.length ≤ 2) (hl : cs.length + P.length ≤ 300) (hp : p = (cs ++ bcs P).length) (hnl : nl < 20) (h23 : u0.1 23 = nI nl) (hR : Run tBl T N b a2) (hE2 : TkE T N a2 b2) : To (X16 T N u0 cs (P ++ []) p a b) (LiC T N (elb u0 nl (cs ++ bcs P).length) 9 (cs ++ bcs P) a2 b2) := by
  rintro c u ⟨sg, cm, g, n, rfl, hn, hC, hX⟩ Q hq
  subst hp
  have hL : Lt100 [] := fun x hx => absurd hx List.not_mem_nil
  have hH : Hd [] (fun x => x = 10 ∨ x = 9) := fun x R e => by cases e
  have hnb : nBr (P ++ []) = 0 := by
    have h1 : ∀ P : List Nat, (∀ x ∈ P, x = 10 ∨ x = 9) → nBr P = 0 := fun P => by
      induction P with
      | nil => exact fun _ => rfl
      | cons x P ih =>
        intro h
        have hx := h x List.mem_cons_self
        rw [nBr_o (by omega)]
        exact ih (fun y hy => h y (List.mem_cons_of_mem _ hy))
    rw [List.append_nil]
    exact h1 P hP
  have e9 := hX.2.2.2.2.2.2.2.1
  rw [hnb] at e9
  have e64 : (P ++ ([] : List Nat)).length ≤ 64 := by
    rw [List.append_nil]
    omega
  refine CN_cl ?_
  unfold x_X5_takeBehindCond
  rw [hk]
  refine CN_ite (fun z => absurd z (by decide)) (fun _ => CN_ite (fun z => absurd z (by decide)) (fun _ => CN_ite (fun z => absurd z (by decide)) (fun _ => CN_ite (fun _ => CN_RFx e9 (CN_ite (fun _ => ?_) (fun z => absurd rfl z))) (fun z => absurd rfl z))))
  refine CN_app (P := fun _ v => XC u0 16 (cs ++ bcs P) [] (cs ++ bcs P).length sg cm v ∧ Same [7, 25] [8] u v) (c_bind (w := 9) (Or.inl rfl) hH hL hP hX hl e64) (fun _ v y => ?_)
  obtain ⟨hX1, hs1⟩ := y
  have hC1 := hC.sm hs1 (fun k h1 h2 h3 => by simp at h3; omega) (by decide)
  have e23 : v.1 23 = nI nl := (hX1.1.1 23 (by decide)).trans h23
  have e25 := hX1.2.2.2.1.1
  refine CN_app (P := fun _ w => w = elb v nl (cs ++ bcs P).length) ?_ (fun _ w y => ?_)
  · unfold x_X4_endLine
    refine CN_RFx e23 (CN_RFx e25 (CN_ST ?_))
    rw [wrN _ hnl (by decide)]
    refine CN_RFx (show (sf v 9 _).1 23 = nI nl from e23) (CN_WFx (CN_rt ?_))
    rw [nI_1]
    rfl
  · subst y
    have hX2 := hX1.els (nl := nl) (x := (cs ++ bcs P).length)
    have hC2 := hC1.sm (elb_same v nl (cs ++ bcs P).length) (fun k h1 h2 h3 => by simp at h3; omega) (by decide)
    generalize elb v nl (cs ++ bcs P).length = w at hX2 hC2
    refine CN_WFx (CN_rt ?_)
    exact on_next (hC2.sm (LI := [12]) (LA := []) (v := si w 12 (nI 9)) (Same_si (by decide)) (fun k h1 h2 h3 => by simp at h3; omega) (by decide)) (by omega) hn (hX2.w12 9) (by decide) hR hE2 (fun g2 n2 u2 y1 y2 y3 _ => hq _ _ ⟨sg, cm, g2, n2, rfl, y1, y2, y3⟩)
end
