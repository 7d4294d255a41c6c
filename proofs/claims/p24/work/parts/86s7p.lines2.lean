/-! ===== the lines, in step: with the reference ===== -/
def LnTy (cs : List (Nat × Nat)) (en : Nat → Nat) (l : Nat) : Prop := ∃ pre es post, cs = pre ++ (es ++ post) ∧ pre.length = en l ∧ pre.length + es.length = en (l + 1) ∧ TyR [] es [true]
def LnD (nl : Nat) (cs : List (Nat × Nat)) (en pt : Nat → Nat) : Prop := nl ≤ 20 ∧ en 0 = 0 ∧ en nl = cs.length ∧ cs.length ≤ 300 ∧ ∀ l, l < nl → pt l ≤ 9999 ∧ LnTy cs en l
def LiU (t g ns : Nat) (st sz : Nat → Nat) (nl : Nat) (en pt : Nat → Nat) (u : MS) : Prop := u.1 20 = nI t ∧ u.1 21 = nI g ∧ SgC ns st sz u ∧ u.1 23 = nI nl ∧ ∀ l, l < nl → u.2 9 l = nI (en (l + 1)) ∧ u.2 10 l = nI (pt l)
def LiV (T : Nat → Nat) (N t g ns : Nat) (st sz : Nat → Nat) (nl : Nat) (cs : List (Nat × Nat)) (en pt : Nat → Nat) (a b : Nat) (v : GS) : Prop := RP T N a b v ∧ Im v 27 (nI t) ∧ Im v 28 (nI g) ∧ SgV T ns st sz v ∧ Im v 30 (nI nl) ∧ CgV cs v ∧ Im v 51 (nI 0) ∧ (∀ l, l ≤ nl → Am v 34 l (nI (en l))) ∧ ∀ l, l < nl → Am v 35 l (nI (pt l))
theorem nBr_P : ∀ P : List Nat, (∀ x ∈ P, x = 10 ∨ x = 9) → nBr (P ++ []) = 0 := fun P => by
  induction P with
  | nil => exact fun _ => rfl
  | cons x P ih =>
    intro h
    have hx := h x List.mem_cons_self
    rw [List.cons_append, nBr_o (by omega)]
    exact ih (fun y hy => h y (List.mem_cons_of_mem _ hy))
theorem RV.im {v0 v : GS} (h : RV v0 v) {k : Nat} {x : Int32} (hk : ¬ (k = 31 ∨ (44 ≤ k ∧ k ≤ 51))) (hi : Im v0 k x) : Im v k x := ⟨(h.1 k hk).2.trans hi.1, (h.1 k hk).1.trans hi.2⟩
theorem RV.am {v0 v : GS} (h : RV v0 v) {k j : Nat} {x : Int32} (hk : ¬ (k = 36 ∨ k = 37)) (hi : Am v0 k j x) : Am v k j x := by
  unfold Am
  rw [(h.2 k hk).1, (h.2 k hk).2]
  exact hi
theorem Am.sc {v w : GS} {k j : Nat} {x : Int32} (h : Am v k j x) (hs : ScF v w) : Am w k j x := by
  unfold Am
  rw [hs.1, hs.2.1]
  exact h
theorem SgV.sc {T : Nat → Nat} {ns : Nat} {st sz : Nat → Nat} {v w : GS} (h : SgV T ns st sz v) (hs : ScF v w) : SgV T ns st sz w := ⟨h.1.sc hs (by decide), fun l hl => ⟨(h.2 l hl).1.sc hs, fun j hj => ((h.2 l hl).2 j hj).sc hs⟩⟩
theorem CgV.sc {cs : List (Nat × Nat)} {v w : GS} (h : CgV cs v) (hs : ScF v w) : CgV cs w := h.im (h.1.sc hs (by decide)) ⟨hs.1, hs.2.1⟩
theorem SgV.wd {T : Nat → Nat} {ns : Nat} {st sz : Nat → Nat} {v : GS} (h : SgV T ns st sz v) {k : Nat} (i x : Int32) (hk : ¬ k = 32 ∧ ¬ k = 33) : SgV T ns st sz (swd k i x v) := ⟨h.1, fun l hl => ⟨Am.o (fun z => hk.2 z.symm) (h.2 l hl).1, fun j hj => Am.o (fun z => hk.1 z.symm) ((h.2 l hl).2 j hj)⟩⟩
theorem SgV.wf {T : Nat → Nat} {ns : Nat} {st sz : Nat → Nat} {v : GS} (h : SgV T ns st sz v) {k : Nat} (x : Int32) (hk : ¬ k = 29) : SgV T ns st sz (swf k x v) := ⟨h.1.o (fun z => hk z.symm), h.2⟩
theorem CgV.wd {cs : List (Nat × Nat)} {v : GS} (h : CgV cs v) {k : Nat} (i x : Int32) (hk : ¬ k = 36 ∧ ¬ k = 37) : CgV cs (swd k i x v) := ⟨h.1, fun j hj => ⟨Am.o (fun z => hk.1 z.symm) (h.2 j hj).1, Am.o (fun z => hk.2 z.symm) (h.2 j hj).2⟩⟩
theorem CgV.wf {cs : List (Nat × Nat)} {v : GS} (h : CgV cs v) {k : Nat} (x : Int32) (hk : ¬ k = 31) : CgV cs (swf k x v) := ⟨h.1.o (fun z => hk z.symm), h.2⟩
theorem RP.wd {T : Nat → Nat} {N a b : Nat} {v : GS} (h : RP T N a b v) {k : Nat} (i x : Int32) (hk : ¬ k = 40 ∧ ¬ k = 56) : RP T N a b (swd k i x v) := h.fr (fun _ _ => ⟨rfl, rfl⟩) (fun j hj => sw_o (by omega))
section
variable {T : Nat → Nat} {N t g ns : Nat} {st sz : Nat → Nat} {nl : Nat} {cs : List (Nat × Nat)} {en pt : Nat → Nat} {a b : Nat} {u0 : MS}
def FnV (T : Nat → Nat) (N t g : Nat) (d : MS × List (Nat × Nat)) (v : GS) : Prop := ∃ ns st sz nl en pt a b, LiU t g ns st sz nl en pt d.1 ∧ LnD nl d.2 en pt ∧ SgN N ns st sz ∧ LiV T N t g ns st sz nl d.2 en pt a b v
def FnC (d : MS × List (Nat × Nat)) : NG Int32 → MS → Prop := EnC d.1 d.2
def Ken : PG (Option Int32) := prf 46 (fun x_193 => (if x_193 = 0 then prt (some 0) else prf 44 (fun x_196 => pcl (f_wrong 1 x_196) (fun _ => prt none))))
theorem LiV.sc {v w : GS} {a2 b2 : Nat} (h : LiV T N t g ns st sz nl cs en pt a b v) (hs : ScF v w) (hP : RP T N a2 b2 w) : LiV T N t g ns st sz nl cs en pt a2 b2 w := by
  obtain ⟨h1, h2, h3, h4, h5, h6, h7, h8, h9⟩ := h
  exact ⟨hP, h2.sc hs (by decide), h3.sc hs (by decide), h4.sc hs, h5.sc hs (by decide), h6.sc hs, h7.sc hs (by decide), fun l hl => (h8 l hl).sc hs, fun l hl => (h9 l hl).sc hs⟩
theorem LiV.w35 {v : GS} {x : Int32} (h : LiV T N t g ns st sz nl cs en pt a b v) (hnl : nl < 20) : LiV T N t g ns st sz nl cs en pt a b (swd 35 (nI nl) x v) := by
  obtain ⟨h1, h2, h3, h4, h5, h6, h7, h8, h9⟩ := h
  exact ⟨h1.wd _ _ (by decide), h2, h3, h4.wd _ _ (by decide), h5, h6.wd _ _ (by decide), h7, fun l hl => Am.o (by decide) (h8 l hl), fun l hl => sw_An (by omega) (by omega) (h9 l hl)⟩
def TLn (K : PG (Option Int32)) : PG (Option Int32) := pwf 48 0 (pcl (fP 32 0 0 0 0 0) (fun r_169 => pot r_169 (prt none) (fun _ => pcl (f_need 14) (fun r_173 => pot r_173 (prt none) (fun _ => prf 30 (fun x_177 => pwf 30 (x_177 + 1) (prf 30 (fun x_181 => prf 31 (fun x_183 => pwd 34 21 x_181 x_183 K)))))))))
theorem ls_tail {K : PG (Option Int32)} {D2 : Type} {PV2 : D2 → GS → Prop} {PC2 : D2 → NG Int32 → MS → Prop} (hSN : SgN N ns st sz) {v : GS} {x : Nat} (hx : x ≤ 9999) (hnl : nl < 20) (hD : LnD nl cs en pt) (hU : LiU t g ns st sz nl en pt u0) (hux : u0.2 10 nl = nI x) (hV : LiV T N t g ns st sz nl cs en pt a b v) (hvx : Am v 35 nl (nI x)) (hK : ∀ (cs2 : List (Nat × Nat)) (en2 pt2 : Nat → Nat) (u2 : MS) (a2 b2 : Nat) (w : GS), LnD (nl + 1) cs2 en2 pt2 → LiU t g ns st sz (nl + 1) en2 pt2 u2 → LiV T N t g ns st sz (nl + 1) cs2 en2 pt2 a2 b2 w → Ok K w (fun ro w2 => LSd (LiC T N u2 9 cs2 a2 b2) PV2 PC2 ro w2)) : Ok (TLn K) v (fun ro w => LSd (LiC T N u0 12 cs a b) PV2 PC2 ro w) := by
  obtain ⟨h1, h2, h3, h4, h5, h6, h7, h8, h9⟩ := hV
  obtain ⟨D1, D2', D3, D4, D5⟩ := hD
  obtain ⟨U1, U2, U3, U4, U5⟩ := hU
  unfold TLn
  refine Ok_wf ?_
  have e0 : swf 48 (0 : Int32) v = swf 48 (nI 0) v := rfl
  rw [e0]
  have hP1 := h1.wf (k := 48) (nI 0) (by decide)
  have hS1 := h4.wf (k := 48) (nI 0) (by decide)
  have hX1 : XV (swf 48 (nI 0) v) cs 0 0 (swf 48 (nI 0) v) := ⟨RV.rf _, h6.wf _ (by decide), h7.o (by decide), swf_e⟩
  have i27 := h2.o (k := 48) (x := nI 0) (by decide)
  have i28 := h3.o (k := 48) (x := nI 0) (by decide)
  have i30 := h5.o (k := 48) (x := nI 0) (by decide)
  have i51 := h7.o (k := 48) (x := nI 0) (by decide)
  have a34 : ∀ l, l ≤ nl → Am (swf 48 (nI 0) v) 34 l (nI (en l)) := h8
  have a35 : ∀ l, l < nl → Am (swf 48 (nI 0) v) 35 l (nI (pt l)) := h9
  have a35x : Am (swf 48 (nI 0) v) 35 nl (nI x) := hvx
  generalize swf 48 (nI 0) v = v1 at hP1 hS1 hX1 i27 i28 i30 i51 a34 a35 a35x
  have H := ((LS_fP U3 hS1 hSN 32 0 (by decide)).1 (by decide)) 0 [] cs a b 0 v1 (fun _ => rfl) (fun x R e => by cases e) (fun x hx => absurd hx List.not_mem_nil) rfl (by decide) rfl (by omega) hP1 hX1
  have t1 : To (LiC T N u0 12 cs a b) (L12 T N u0 cs (List.replicate 0 11 ++ []) (cs.length + 0) a b) := To.of (fun c u z => z)
  refine Ok.mono (ls_bind H (fun d w hd => ?_)) (fun ro w y => LSd.pre t1 y)
  obtain ⟨a2, b2, es, ds, P⟩ := d
  obtain ⟨⟨d1, d2, d3, d4, d5, d6⟩, d7, d8⟩ := hd
  have d1' : RP T N a2 b2 w := d1
  have d2' : XV v1 (cs ++ es) 0 0 w := d2
  have d3' : (cs ++ es).length + 0 ≤ 300 := d3
  have d5' : es = ds ++ bcs P := (List.append_nil es).symm.trans d5
  have d6a : P.length + 0 ≤ 2 := d6.1
  have d6b : ∀ x ∈ P, x = 10 ∨ x = 9 := d6.2.1
  have hn9 : ¬ tkk T N a2 b2 = 9 := d8 rfl
  have hn10 : ¬ tkk T N a2 b2 = 10 := d7 (by decide)
  have ecs : cs ++ ds ++ bcs P = cs ++ es := by rw [d5', List.append_assoc]
  refine Ok_cl (Ok.mono (r_need d1' 14 19 (by decide) (by decide) rfl) (fun ro w2 y => ?_))
  rcases y with ⟨hk, rfl, sF, a3, b3, s3, hP3⟩ | ⟨hk, rfl, rfl⟩
  rotate_left
  · refine Ok_otN (Ok_rt (ls_wr ⟨by decide, by decide⟩ ?_))
    refine (To.of (fun c u z => z) : To (CvC T N u0 cs [] 0 (a2, b2, es, ds, P)) (X16 T N u0 (cs ++ ds) (P ++ []) ((cs ++ es).length + 0) a2 b2)).trans ?_
    exact to_bad16 d1'.2.1 hn9 hn10 (fun _ => nBr_P P d6b) (fun z => absurd z hk) (by rw [nBr_P P d6b]; decide)
  refine Ok_otS ?_
  have hcl : (cs ++ es).length = (cs ++ ds).length + P.length := by
    rw [← ecs, List.length_append (as := cs ++ ds), bcs_l]
  have t2 : To (CvC T N u0 cs [] 0 (a2, b2, es, ds, P)) (LiC T N (elb u0 nl (cs ++ es).length) 9 (cs ++ es) a3 b3) := by
    have t0 : To (X16 T N u0 (cs ++ ds) (P ++ []) ((cs ++ es).length + 0) a2 b2) (LiC T N (elb u0 nl (cs ++ ds ++ bcs P).length) 9 (cs ++ ds ++ bcs P) a3 b3) := to_semi hk d6b (by omega) (by omega) (by rw [ecs]; rfl) hnl U4 s3 hP3.2.1
    rw [ecs] at t0
    exact t0
  have hR := d2'.1
  have j30 : Im w2 30 (nI nl) := (hR.im (by decide) i30).sc sF (by decide)
  have j31 : Im w2 31 (nI (cs ++ es).length) := d2'.2.1.1.sc sF (by decide)
  have k30 : Im (swf 30 (nI (nl + 1)) w2) 30 (nI (nl + 1)) := swf_e
  refine Ok_rfN j30 (Ok_wf ?_)
  rw [nI_1]
  refine Ok_rfN k30 (Ok_rfN (j31.o (by decide)) (Ok_wdN rfl (by omega) (by decide) ?_))
  refine Ok.mono (hK (cs ++ es) (fup en (nl + 1) (cs ++ es).length) (fup pt nl x) (elb u0 nl (cs ++ es).length) a3 b3 _ ?_ ?_ ?_) (fun ro w y => LSd.pre t2 y)
  · refine ⟨by omega, ?_, fup_e _ _ _, d3', fun l hl => ?_⟩
    · rw [fup_o (by omega)]
      exact D2'
    · by_cases e : l = nl
      · rw [e, fup_e]
        refine ⟨hx, cs, es, [], by rw [List.append_nil], ?_, ?_, d4 [] (by decide)⟩
        · rw [fup_o (by omega), D3]
        · rw [fup_e, List.length_append]
      · obtain ⟨q1, pre, e1, post, q2, q3, q4, q5⟩ := D5 l (by omega)
        rw [fup_o e]
        refine ⟨q1, pre, e1, post ++ es, ?_, ?_, ?_, q5⟩
        · rw [q2]
          simp only [List.append_assoc]
        · rw [fup_o (by omega)]
          exact q3
        · rw [fup_o (by omega)]
          exact q4
  · have hs := elb_same u0 nl (cs ++ es).length
    refine ⟨(hs.1 20 (by decide)).trans U1, (hs.1 21 (by decide)).trans U2, U3.sm hs (by decide) (by decide) (by decide), siE _ _ _, fun l hl => ?_⟩
    have e9 : (elb u0 nl (cs ++ es).length).2 9 = upd (u0.2 9) nl (nI (cs ++ es).length) := rfl
    have e10 : (elb u0 nl (cs ++ es).length).2 10 = u0.2 10 := hs.2 10 (by decide)
    rw [e9, e10]
    by_cases e : l = nl
    · rw [e, upd_e, fup_e, fup_e]
      exact ⟨rfl, hux⟩
    · rw [upd_n e, fup_o (by omega), fup_o e]
      exact U5 l (by omega)
  · have am : ∀ {k j : Nat} {y : Int32}, ¬ k = 36 ∧ ¬ k = 37 → Am v1 k j y → Am (swf 30 (nI (nl + 1)) w2) k j y := fun {k j y} hk ha => by
      show Am w2 k j y
      exact (hR.am (by omega) ha).sc sF
    have m27 : Im (swf 30 (nI (nl + 1)) w2) 27 (nI t) := ((hR.im (by decide) i27).sc sF (by decide)).o (by decide)
    have m28 : Im (swf 30 (nI (nl + 1)) w2) 28 (nI g) := ((hR.im (by decide) i28).sc sF (by decide)).o (by decide)
    have m51 : Im (swf 30 (nI (nl + 1)) w2) 51 (nI 0) := (d2'.2.2.1.sc sF (by decide)).o (by decide)
    have hSv : SgV T ns st sz w2 := (hS1.rv hR).sc sF
    refine ⟨(hP3.wf (k := 30) _ (by decide)).wd _ _ (by decide), m27, m28, (hSv.wf (k := 30) _ (by decide)).wd _ _ (by decide), k30, ((d2'.2.1.sc sF).wf (k := 30) _ (by decide)).wd _ _ (by decide), m51, fun l hl => ?_, fun l hl => ?_⟩
    · by_cases e : l = nl + 1
      · rw [e, fup_e]
        exact sw_A (by omega)
      · rw [fup_o e]
        exact sw_An (by omega) e (am (by decide) (a34 l (by omega)))
    · refine Am.o (by decide) ?_
      by_cases e : l = nl
      · rw [e, fup_e]
        exact am (by decide) a35x
      · rw [fup_o e]
        exact am (by decide) (a35 l (by omega))
theorem ls_lines (hSN : SgN N ns st sz) : ∀ (n m nl : Nat) (cs : List (Nat × Nat)) (en pt : Nat → Nat) (u0 : MS) (a b : Nat) (v : GS), 21 ≤ n + nl → (m = 6 ∨ m = 9) → (m = 6 → ¬ tkk T N a b = 6) → LnD nl cs en pt → LiU t g ns st sz nl en pt u0 → LiV T N t g ns st sz nl cs en pt a b v → Ok (lp_readLaws_223 n Ken) v (fun ro w => LSd (LiC T N u0 m cs a b) (FnV T N t g) FnC ro w) := by
  intro n
  induction n with
  | zero =>
    intro m nl cs en pt u0 a b v h1 hm h6 hD
    have := hD.1
    omega
  | succ n ih =>
    intro m nl cs en pt u0 a b v h1 hm h6 hD hU hV
    have hP := hV.1
    have h44 := hP.2.2.2.2.1
    have h30 := hV.2.2.2.2.1
    have hnl20 := hD.1
    have hnz := tk_nz hP.2.1
    have hr4 : rkk T N a b ≤ 4 := by
      unfold rkk
      repeat' split
      all_goals decide
    unfold lp_readLaws_223
    refine Ok_clR (r_isK hP 4 7 (by decide) (by decide) rfl) (fun r hr => ?_)
    rcases hr with ⟨hk, rfl⟩ | ⟨n7, rfl⟩
    rotate_left
    · refine Ok_ite (fun _ => ?_) (fun z => absurd rfl z)
      unfold Ken
      refine Ok_rfN hP.2.2.2.2.2.2.1 (Ok_ite (fun z => ?_) (fun z => ?_))
      · have z0 := (nI_eq (a := rkk T N a b) (b := 0) (by omega) (by decide)).mp z
        have t0 : tkk T N a b = 0 := hnz.1.mpr (hnz.2.mp z0)
        exact Ok_rt (Or.inr ⟨rfl, (u0, cs), ⟨ns, st, sz, nl, en, pt, a, b, hU, hD, hSN, hV⟩, to_end hm t0⟩)
      · have t0 : ¬ tkk T N a b = 0 := fun y => z (by rw [hnz.2.mpr (hnz.1.mp y)]; rfl)
        refine Ok.mono (r_wrong 1 rfl h44) (fun ro w y => ?_)
        obtain ⟨rfl, rfl⟩ := y
        exact ls_wr ⟨by decide, by decide⟩ (to_bad69 hP.2.1 hm t0 n7 h6)
    refine Ok_ite (fun z => absurd z (by decide)) (fun _ => Ok_rfN h30 (Ok_ite (fun z => ?_) (fun z => ?_)))
    · have e := (nI_eq (a := nl) (b := 20) (by omega) (by decide)).mp z
      subst e
      refine Ok.mono (r_wrong 3 rfl h44) (fun ro w y => ?_)
      obtain ⟨rfl, rfl⟩ := y
      exact ls_wr ⟨by decide, by decide⟩ (to_line3 hm hk hU.2.2.2.1)
    have hnl : nl < 20 := by
      have : ¬ nl = 20 := fun y => z (by rw [y]; rfl)
      omega
    refine Ok_cl (Ok.mono (r_scan hP) (fun _ v1 y => ?_))
    obtain ⟨s1, a1, b1, s2, hP1⟩ := y
    have hV1 := hV.sc s1 hP1
    have t1 : To (LiC T N u0 m cs a b) (LiC T N (ptb u0 nl 1) 10 cs a1 b1) := to_line hm hk hnl hU.2.2.2.1 s2 hP1.2.1
    refine Ok.mono (Q := fun ro w => LSd (LiC T N (ptb u0 nl 1) 10 cs a1 b1) (FnV T N t g) FnC ro w) ?_ (fun ro w y => LSd.pre t1 y)
    have hUp : ∀ (u : MS) (x : Nat), LiU t g ns st sz nl en pt u → LiU t g ns st sz nl en pt (ptb u nl x) ∧ (ptb u nl x).2 10 nl = nI x := fun u x h => by
      have hs := ptb_same u nl x
      obtain ⟨U1, U2, U3, U4, U5⟩ := h
      have e10 : (ptb u nl x).2 10 = upd (u.2 10) nl (nI x) := rfl
      have e9 : (ptb u nl x).2 9 = u.2 9 := hs.2 9 (by decide)
      refine ⟨⟨U1, U2, U3.sm hs (by decide) (by decide) (by decide), U4, fun l hl => ?_⟩, ?_⟩
      · rw [e10, e9, upd_n (by omega)]
        exact U5 l hl
      · rw [e10, upd_e]
    have tail : ∀ (mm : Nat) (u2 : MS) (a2 b2 x : Nat) (w : GS), (mm = 10 ∨ mm = 11) → (mm = 10 → ¬ tkk T N a2 b2 = 3) → x ≤ 9999 → LiU t g ns st sz nl en pt u2 → u2.2 10 nl = nI x → LiV T N t g ns st sz nl cs en pt a2 b2 w → Am w 35 nl (nI x) → Ok (pcl (f_need 5) (fun r_163 => pot r_163 (prt none) (fun _ => TLn (lp_readLaws_223 n Ken)))) w (fun ro w => LSd (LiC T N u2 mm cs a2 b2) (FnV T N t g) FnC ro w) := fun mm u2 a2 b2 x w hmm h3 hx hU2 hux hV2 hvx => by
      refine Ok_cl (Ok.mono (r_need hV2.1 5 8 (by decide) (by decide) rfl) (fun ro w2 y => ?_))
      rcases y with ⟨hk2, rfl, s5, a6, b6, s6, hP6⟩ | ⟨hk2, rfl, rfl⟩
      · refine Ok_otS (Ok.mono (ls_tail hSN hx hnl hD hU2 hux (hV2.sc s5 hP6) (hvx.sc s5) (fun cs2 en2 pt2 u2 a2 b2 w2 q1 q2 q3 => ih 9 (nl + 1) cs2 en2 pt2 u2 a2 b2 w2 (by omega) (Or.inr rfl) (fun z => absurd z (by decide)) q1 q2 q3)) (fun ro w y => LSd.pre (to_when hmm hk2 s6 hP6.2.1) y))
      · exact Ok_otN (Ok_rt (ls_wr ⟨by decide, by decide⟩ (to_when1 hV2.1.2.1 hmm hk2 h3)))
    refine Ok_rfN hV1.2.2.2.2.1 (Ok_wdN rfl hnl (by decide) ?_)
    have hV2 : LiV T N t g ns st sz nl cs en pt a1 b1 (swd 35 (nI nl) 1 v1) := hV1.w35 hnl
    have hvx2 : Am (swd 35 (nI nl) 1 v1) 35 nl (nI 1) := sw_A (by omega)
    obtain ⟨hU1, hux1⟩ := hUp u0 1 hU
    have hw1 := tkk_word hP1.2.1
    have hr1 : rkk T N a1 b1 ≤ 4 := by
      unfold rkk
      repeat' split
      all_goals decide
    refine Ok_rfN hV2.1.2.2.2.2.2.2.1 (Ok_ite (fun z2 => ?_) (fun z2 => ?_))
    · have hk3 := hw1.2.mp ((nI_eq (a := rkk T N a1 b1) (b := 2) (by omega) (by decide)).mp z2)
      refine Ok_rfN hV2.2.2.2.2.1 (Ok_cl (Ok.mono (r_number hV2.1) (fun ro w y => ?_)))
      rcases y with ⟨-, rfl, s5, a6, b6, s6, hP6⟩ | ⟨hno, -, -⟩
      rotate_left
      · exact absurd hk3 hno
      have hx := num_lt hP1.2.1 hk3
      have t2 : To (LiC T N (ptb u0 nl 1) 10 cs a1 b1) (LiC T N (ptb (ptb u0 nl 1) nl (vl T a1 (min 4 (b1 - a1)))) 11 cs a6 b6) := to_pts hk3 hnl hU1.2.2.2.1 s6 hP6.2.1
      have hV6 := hV2.sc s5 hP6
      refine Ok_otS (Ok_wdN rfl hnl (by decide) ?_)
      obtain ⟨hU6, hux6⟩ := hUp (ptb u0 nl 1) (vl T a1 (min 4 (b1 - a1))) hU1
      exact Ok.mono (tail 11 _ a6 b6 _ _ (Or.inr rfl) (fun z => absurd z (by decide)) (by omega) hU6 hux6 (hV6.w35 hnl) (sw_A (by omega))) (fun ro w y => LSd.pre t2 y)
    · have hk3 : ¬ tkk T N a1 b1 = 3 := fun y => z2 (by rw [hw1.2.mpr y]; rfl)
      exact tail 10 _ a1 b1 1 _ (Or.inl rfl) (fun _ => hk3) (by decide) hU1 hux1 hV2 hvx2
end
