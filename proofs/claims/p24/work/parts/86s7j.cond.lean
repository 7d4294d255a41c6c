/-! ===== a condition, in step ===== -/
theorem nBr_le : ∀ (S : List Nat), nBr S ≤ S.length := by
  intro S
  induction S with
  | nil => exact Nat.le_refl _
  | cons x S ih =>
    show (if x = 17 then 1 else 0) + nBr S ≤ S.length + 1
    by_cases h : x = 17
    · rw [if_pos h]; omega
    · rw [if_neg h]; omega
theorem nOp_rep {S : List Nat} : ∀ n, nOp (List.replicate n 11 ++ S) = nOp S + n := by
  intro n
  induction n with
  | zero => rfl
  | succ n ih =>
    have e : List.replicate (n + 1) 11 ++ S = 11 :: (List.replicate n 11 ++ S) := rfl
    rw [e, nOp_i (Or.inl rfl), ih, Nat.add_assoc]
theorem Lt100.rep {S : List Nat} (h : Lt100 S) (n : Nat) : Lt100 (List.replicate n 11 ++ S) := fun x hx => by
  rcases List.mem_append.mp hx with z | z
  · have := (List.mem_replicate.mp z).2
    omega
  · exact h x z
theorem Lt100.c {S : List Nat} (h : Lt100 S) {x : Nat} (hx : x < 100) : Lt100 (x :: S) := fun y hy => by
  rcases List.mem_cons.mp hy with z | z
  · omega
  · exact h y z
theorem r_opens {T : Nat → Nat} {N a b : Nat} {v0 v : GS} {cs : List (Nat × Nat)} {h o : Nat} (hx : XV v0 cs h o v) (hP : RP T N a b v) (ho : o ≤ 8) : Ok f_opens v (fun ro w => (o = 8 ∧ ro = none ∧ w = wr v 3 a) ∨ (o < 8 ∧ ro = some 0 ∧ ∃ a2 b2, Run tBl T N b a2 ∧ RP T N a2 b2 w ∧ XV v0 cs h (o + 1) w)) := by
  unfold f_opens
  refine Ok_rfN hx.2.2.2 (Ok_ite (fun z => ?_) (fun z => Ok_rfN hx.2.2.2 (Ok_wf ?_)))
  · have e := (nI_eq (a := o) (b := 8) (by omega) (by decide)).mp z
    exact Ok.mono (r_wrong 3 rfl hP.2.2.2.2.1) (fun ro w y => Or.inl ⟨e, y⟩)
  · have e : ¬ o = 8 := fun y => z (by rw [y]; rfl)
    rw [nI_1]
    refine Ok_cl (Ok.mono (r_scan (hP.wf (nI (o + 1)) (by decide))) (fun _ w2 y => Ok_rt (Or.inr ⟨by omega, rfl, ?_⟩)))
    obtain ⟨s1, a2, b2, s2, s3⟩ := y
    exact ⟨a2, b2, s2, s3, (hx.w48 (o + 1)).sc s1⟩
theorem r_need {T : Nat → Nat} {N a b : Nat} {v : GS} (hP : RP T N a b v) (k j : Nat) (hk1 : 1 ≤ k) (hk : k < 25) (hj : kc k = j) : Ok (f_need k) v (fun ro w => (tkk T N a b = j ∧ ro = some 0 ∧ ScF v w ∧ ∃ a2 b2, Run tBl T N b a2 ∧ RP T N a2 b2 w) ∨ (¬ tkk T N a b = j ∧ ro = none ∧ w = wr v 1 a)) := by
  unfold f_need
  refine Ok_clR (r_isK hP k j hk1 hk hj) (fun r hr => ?_)
  rcases hr with ⟨z, rfl⟩ | ⟨z, rfl⟩
  · exact Ok_ite (fun q => absurd q (by decide)) (fun _ => Ok_cl (Ok.mono (r_scan hP) (fun _ w y => Ok_rt (Or.inl ⟨z, rfl, y.1, y.2⟩))))
  · exact Ok_ite (fun _ => Ok.mono (r_wrong 1 rfl hP.2.2.2.2.1) (fun ro w y => Or.inr ⟨z, y⟩)) (fun q => absurd rfl q)
def PWp (w : Nat) (P : List Nat) : Prop := P.length + w ≤ 2 ∧ (∀ x ∈ P, x = 10 ∨ x = 9) ∧ (w = 1 → ∀ x ∈ P, x = 10)
abbrev CdD : Type := Nat × Nat × List (Nat × Nat) × List (Nat × Nat) × List Nat
def CvB (T : Nat → Nat) (N : Nat) (v0 : GS) (w n : Nat) (cs : List (Nat × Nat)) (h o : Nat) (d : CdD) (v : GS) : Prop := RP T N d.1 d.2.1 v ∧ XV v0 (cs ++ d.2.2.1) h o v ∧ (cs ++ d.2.2.1).length + h ≤ 300 ∧ SmT (2 * o + w) d.2.2.1 true ∧ d.2.2.1 ++ List.replicate n (11, 0) = d.2.2.2.1 ++ bcs d.2.2.2.2 ∧ PWp w d.2.2.2.2
def CvV (T : Nat → Nat) (N : Nat) (v0 : GS) (w n : Nat) (cs : List (Nat × Nat)) (h o : Nat) (d : CdD) (v : GS) : Prop := CvB T N v0 w n cs h o d v ∧ (w ≤ 1 → ¬ tkk T N d.1 d.2.1 = 10) ∧ (w = 0 → ¬ tkk T N d.1 d.2.1 = 9)
def CvC (T : Nat → Nat) (N : Nat) (u0 : MS) (cs : List (Nat × Nat)) (S : List Nat) (h : Nat) (d : CdD) : NG Int32 → MS → Prop := X16 T N u0 (cs ++ d.2.2.2.1) (d.2.2.2.2 ++ S) ((cs ++ d.2.2.1).length + h) d.1 d.2.1
def LSc (T : Nat → Nat) (N : Nat) (u0 : MS) (v0 : GS) (w o : Nat) (F : PG (Option Int32)) : Prop := ∀ (n : Nat) (S0 : List Nat) (cs : List (Nat × Nat)) (a b h : Nat) (v : GS), (w ≤ 1 → n = 0) → Hd S0 (fun x => x = 11 ∨ (w ≤ 1 ∧ x = 10) ∨ (w = 0 ∧ x = 9)) → Lt100 S0 → nOp (List.replicate n 11 ++ S0) = o → (List.replicate n 11 ++ S0).length ≤ 3 * o + w → nPt (List.replicate n 11 ++ S0) = h → cs.length + h ≤ 300 → RP T N a b v → XV v0 cs h o v → Ok F v (fun ro w2 => LSd (L12 T N u0 cs (List.replicate n 11 ++ S0) (cs.length + h) a b) (CvV T N v0 w n cs h o) (CvC T N u0 cs S0 h) ro w2)
section
variable {T : Nat → Nat} {N ns : Nat} {st sz : Nat → Nat} {u0 : MS} {v0 : GS} {o : Nat}
theorem LS_not (hSC : SgC ns st sz u0) (hSV : SgV T ns st sz v0) (hSN : SgN N ns st sz) (ho : o ≤ 8) (F : Nat → Int32 → Int32 → Int32 → Int32 → PG (Option Int32)) (h0 : o < 8 → LSc T N u0 v0 0 (o + 1) (F 0 0 0 0 0)) (h2 : o < 8 → LSc T N u0 v0 2 (o + 1) (F 2 0 0 0 0)) : LSc T N u0 v0 2 o (bd_readNot F) := by
  intro n S0 cs a b h v hn0 hH hL hO hlen hh hl hP hV
  have hH1 : Hd S0 (fun x => x = 11) := fun x R e z => hH x R e (Or.inl z)
  have h44 := hP.2.2.2.2.1
  have hE := hP.2.1
  have hnh : n ≤ h := by
    rw [nPt_rep] at hh
    omega
  have hL2 := hL.rep n
  have hPW2 : PWp 2 [] := ⟨Nat.le_refl _, fun x hx => absurd hx List.not_mem_nil, fun _ x hx => absurd hx List.not_mem_nil⟩
  have htok : ∀ t : Nat, ((2 : Nat) ≤ 1 → ¬ t = 10) ∧ ((2 : Nat) = 0 → ¬ t = 9) := fun t => ⟨fun z => absurd z (by decide), fun z => absurd z (by decide)⟩
  unfold bd_readNot
  refine Ok_clR (r_isK hP 8 11 (by decide) (by decide) rfl) (fun r hr => ?_)
  rcases hr with ⟨hk, rfl⟩ | ⟨n11, rfl⟩
  · refine Ok_ite (fun z => absurd z (by decide)) (fun _ => ?_)
    refine Ok_cl (Ok.mono (r_counts hV h44 hl) (fun ro w y => ?_))
    rcases y with ⟨y1, rfl, rfl⟩ | ⟨y1, rfl, rfl⟩
    · exact Ok_otN (Ok_rt (ls_wr ⟨by decide, by decide⟩ (to_not3 hk (by omega) (Or.inl y1))))
    refine Ok_otS (Ok_rfN hV.2.2.1 (Ok_wf ?_))
    rw [nI_1]
    have hV1 := hV.w51 (h + 1)
    have hP1 := hP.wf (k := 51) (nI (h + 1)) (by decide)
    refine Ok_cl (Ok.mono (r_opens hV1 hP1 ho) (fun ro w y => ?_))
    rcases y with ⟨y2, rfl, rfl⟩ | ⟨y2, rfl, a2, b2, s2, hP2, hV2⟩
    · exact Ok_otN (Ok_rt (ls_wr ⟨by decide, by decide⟩ (to_not3 hk (by omega) (Or.inr (by omega)))))
    refine Ok_otS ?_
    have t1 : To (L12 T N u0 cs (List.replicate n 11 ++ S0) (cs.length + h) a b) (L12 T N u0 cs (List.replicate (n + 1) 11 ++ S0) (cs.length + (h + 1)) a2 b2) := to_not hk y1 (by omega) (by omega) s2 hP2.2.1
    have H := h2 y2 (n + 1) S0 cs a2 b2 (h + 1) w (fun z => absurd z (by decide)) (fun x R e z => hH x R e (by omega)) hL (by rw [nOp_rep] at hO ⊢; omega) (by
      rw [List.length_append, List.length_replicate] at hlen ⊢
      omega) (by rw [nPt_rep] at hh ⊢; omega) (by omega) hP2 hV2
    refine Ok.mono (ls_bind H (fun d w3 hd => ?_)) (fun ro w y => LSd.pre t1 y)
    obtain ⟨a3, b3, es, ds, P⟩ := d
    obtain ⟨⟨d1, d2, d3, d4, d5, d6⟩, -, -⟩ := hd
    have hPn : P = [] := List.length_eq_zero_iff.mp (by have := d6.1; have e : ∀ X : List Nat, ((a3, b3, es, ds, X) : CdD).2.2.2.2 = X := fun _ => rfl; rw [e] at this; omega)
    subst hPn
    have d3' : (cs ++ es).length + (h + 1) ≤ 300 := d3
    refine Ok_rfN d2.2.2.2 (Ok_wf ?_)
    rw [nI_pred1]
    refine Ok_cl (Ok.mono (r_release (kd := 11) (d2.w48 o) (by show (cs ++ es).length < 300; omega) rfl) (fun _ w4 y => Ok_rt ?_))
    subst y
    have hV4 := ((d2.w48 o).w51 h).put (kd := 11) (f := 0) (by show (cs ++ es).length < 300; omega)
    have hP4 := ((d1.wf (k := 48) (nI o) (by decide)).wf (k := 51) (nI h) (by decide)).pv (cs ++ es).length 11 0
    have ea : cs ++ es ++ [(11, 0)] = cs ++ (es ++ [(11, 0)]) := List.append_assoc _ _ _
    have el : (cs ++ (es ++ [(11, 0)])).length = (cs ++ es).length + 1 := by
      rw [← ea, List.length_append]
      rfl
    have hV5 : XV v0 (cs ++ (es ++ [(11, 0)])) h o (pv (swf 51 (nI h) (swf 48 (nI o) w3)) (cs ++ es).length 11 0) := by
      rw [← ea]
      exact hV4
    refine Or.inr ⟨rfl, (a3, b3, es ++ [(11, 0)], ds, []), ⟨⟨hP4, hV5, by show (cs ++ (es ++ [(11, 0)])).length + h ≤ 300; omega, (d4.le (by omega)).nots (by omega), ?_, hPW2⟩, htok _⟩, To.of (fun c u z => ?_)⟩
    · have d5' : es ++ List.replicate (n + 1) (11, 0) = ds ++ bcs [] := d5
      show es ++ [(11, 0)] ++ List.replicate n (11, 0) = ds ++ bcs []
      rw [← d5', List.append_assoc]
      rfl
    · have z2 : X16 T N u0 (cs ++ ds) ([] ++ S0) ((cs ++ es).length + (h + 1)) a3 b3 c u := z
      show X16 T N u0 (cs ++ ds) ([] ++ S0) ((cs ++ (es ++ [(11, 0)])).length + h) a3 b3 c u
      rw [el, show (cs ++ es).length + 1 + h = (cs ++ es).length + (h + 1) by omega]
      exact z2
  refine Ok_ite (fun _ => ?_) (fun z => absurd rfl z)
  refine Ok_clR (r_isK hP 15 17 (by decide) (by decide) rfl) (fun r hr => ?_)
  rcases hr with ⟨hk, rfl⟩ | ⟨n17, rfl⟩
  · refine Ok_ite (fun z => absurd z (by decide)) (fun _ => ?_)
    refine Ok_cl (Ok.mono (r_opens hV hP ho) (fun ro w y => ?_))
    rcases y with ⟨y2, rfl, rfl⟩ | ⟨y2, rfl, a2, b2, s2, hP2, hV2⟩
    · exact Ok_otN (Ok_rt (ls_wr ⟨by decide, by decide⟩ (to_br3 hk (by omega))))
    refine Ok_otS ?_
    have t1 : To (L12 T N u0 cs (List.replicate n 11 ++ S0) (cs.length + h) a b) (L12 T N u0 cs (List.replicate 0 11 ++ (17 :: (List.replicate n 11 ++ S0))) (cs.length + h) a2 b2) := to_br hk (by omega) (by omega) s2 hP2.2.1
    have H := h0 y2 0 (17 :: (List.replicate n 11 ++ S0)) cs a2 b2 h w (fun _ => rfl) (fun x R e z => by
      have : (17 : Nat) = x := (List.cons.inj e).1
      omega) (hL2.c (by decide)) (by
      show nOp (17 :: (List.replicate n 11 ++ S0)) = o + 1
      rw [nOp_i (Or.inr rfl), hO]) (by
      show (List.replicate n 11 ++ S0).length + 1 ≤ 3 * (o + 1) + 0
      omega) (by
      show nPt (17 :: (List.replicate n 11 ++ S0)) = h
      rw [nPt_17, hh]) hl hP2 hV2
    refine Ok.mono (ls_bind H (fun d w3 hd => ?_)) (fun ro w y => LSd.pre t1 y)
    obtain ⟨a3, b3, es, ds, P⟩ := d
    obtain ⟨⟨d1, d2, d3, d4, d5, d6⟩, d7, d8⟩ := hd
    have d3' : (cs ++ es).length + h ≤ 300 := d3
    have d5' : es = ds ++ bcs P := (List.append_nil es).symm.trans d5
    have d6a : P.length + 0 ≤ 2 := d6.1
    have hd8 : ¬ tkk T N a3 b3 = 9 := d8 rfl
    have hd7 : ¬ tkk T N a3 b3 = 10 := d7 (by decide)
    have hlen2 : (P ++ 17 :: (List.replicate n 11 ++ S0)).length = P.length + ((List.replicate n 11 ++ S0).length + 1) := by
      rw [List.length_append, List.length_cons]
    have hnb := nBr_le (P ++ 17 :: (List.replicate n 11 ++ S0))
    refine Ok_cl (Ok.mono (r_need d1 16 18 (by decide) (by decide) rfl) (fun ro w4 y => ?_))
    rcases y with ⟨hk3, rfl, sF, a4, b4, s4, hP4⟩ | ⟨hk3, rfl, rfl⟩
    rotate_left
    · refine Ok_otN (Ok_rt (ls_wr ⟨by decide, by decide⟩ ?_))
      refine (To.of (fun c u z => z) : To (CvC T N u0 cs (17 :: (List.replicate n 11 ++ S0)) h (a3, b3, es, ds, P)) (X16 T N u0 (cs ++ ds) (P ++ 17 :: (List.replicate n 11 ++ S0)) ((cs ++ es).length + h) a3 b3)).trans ?_
      refine to_bad16 d1.2.1 hd8 hd7 (fun z => absurd z hk3) (fun _ => ?_) (by omega)
      rw [nBr_app, nBr_i]
      omega
    refine Ok_otS ?_
    have hV4 := d2.sc sF
    refine Ok_rfN hV4.2.2.2 (Ok_wf ?_)
    rw [nI_pred1]
    refine Ok_rt (Or.inr ⟨rfl, (a4, b4, es, es ++ List.replicate n (11, 0), []), ⟨⟨hP4.wf (k := 48) _ (by decide), hV4.w48 o, d3', d4.le (by omega), (List.append_nil _).symm, hPW2⟩, htok _⟩, ?_⟩)
    have hel : es.length = ds.length + P.length := by
      rw [d5', List.length_append, bcs_l]
    have hcl : (cs ++ es).length = (cs ++ ds).length + P.length := by
      rw [List.length_append, List.length_append, hel, Nat.add_assoc]
    refine (To.of (fun c u z => z) : To (CvC T N u0 cs (17 :: (List.replicate n 11 ++ S0)) h (a3, b3, es, ds, P)) (X16 T N u0 (cs ++ ds) (P ++ 17 :: (List.replicate n 11 ++ S0)) ((cs ++ es).length + h) a3 b3)).trans ?_
    refine (to_close (cs := cs ++ ds) (P := P) (S0 := S0) (n0 := n) hk3 d6.2.1 hH1 hL (by omega) (by omega) (by omega) hL2 s4 hP4.2.1).trans (To.of (fun c u z => ?_))
    have eb : cs ++ ds ++ bcs P ++ List.replicate n (11, 0) = cs ++ (es ++ List.replicate n (11, 0)) := by
      rw [d5']
      simp only [List.append_assoc]
    rw [eb] at z
    exact z
  refine Ok_ite (fun _ => ?_) (fun z => absurd rfl z)
  have tf : ∀ k : Nat, tkk T N a b = k → (k = 12 ∨ k = 13) → ∀ x : Int32, x = nI (opK k) → cs.length + h < 300 → Ok (pcl (f_put x 0) (fun _ => pcl f_scan (fun _ => prt (some (0 : Int32))))) v (fun ro w2 => LSd (L12 T N u0 cs (List.replicate n 11 ++ S0) (cs.length + h) a b) (CvV T N v0 2 n cs h o) (CvC T N u0 cs S0 h) ro w2) := fun k hk hkd x e1 hlt => by
    refine Ok_cl (Ok.mono (r_put hV.2.1.1 (by omega) e1 (show (0 : Int32) = nI 0 from rfl)) (fun _ w y => ?_))
    subst y
    have hV2 := hV.put (kd := k) (f := 0) (by omega)
    have hP2 := hP.pv cs.length k 0
    refine Ok_cl (Ok.mono (r_scan hP2) (fun _ w y => Ok_rt ?_))
    obtain ⟨s1, a2, b2, s2, hP3⟩ := y
    have el : (cs ++ [(k, 0)]).length = cs.length + 1 := by
      rw [List.length_append]
      rfl
    refine Or.inr ⟨rfl, (a2, b2, [(k, 0)], [(k, 0)] ++ List.replicate n (11, 0), []), ⟨⟨hP3, hV2.sc s1, by show (cs ++ [(k, 0)]).length + h ≤ 300; omega, SmT.tf (by omega) hkd, (List.append_nil _).symm, hPW2⟩, htok _⟩, ?_⟩
    refine (to_tf (S0 := S0) (n0 := n) hk hkd hlt hH1 hL (by omega) (by omega) s2 hP3.2.1).trans (To.of (fun c u z => ?_))
    show X16 T N u0 (cs ++ ([(k, 0)] ++ List.replicate n (11, 0))) S0 ((cs ++ [(k, 0)]).length + h) a2 b2 c u
    rw [el, show cs.length + 1 + h = cs.length + h + 1 by omega, ← List.append_assoc]
    exact z
  have tfa : (tkk T N a b = 12 ∨ tkk T N a b = 13) → Ok (pcl (f_counts) (fun r_13 => pot r_13 (prt none) (fun _ => pcl (f_is 9) (fun r_17 => (if r_17 = 0 then pcl (f_put 5 0) (fun _ => pcl (f_scan) (fun _ => prt (some (0 : Int32)))) else pcl (f_put 4 0) (fun _ => pcl (f_scan) (fun _ => prt (some (0 : Int32))))))))) v (fun ro w2 => LSd (L12 T N u0 cs (List.replicate n 11 ++ S0) (cs.length + h) a b) (CvV T N v0 2 n cs h o) (CvC T N u0 cs S0 h) ro w2) := fun hkd => by
    refine Ok_cl (Ok.mono (r_counts hV h44 hl) (fun ro w y => ?_))
    rcases y with ⟨y1, rfl, rfl⟩ | ⟨y1, rfl, rfl⟩
    · exact Ok_otN (Ok_rt (ls_wr ⟨by decide, by decide⟩ (to_tf3 rfl hkd y1)))
    refine Ok_otS (Ok_clR (r_isK hP 9 12 (by decide) (by decide) rfl) (fun r hr => ?_))
    rcases hr with ⟨hk, rfl⟩ | ⟨n12, rfl⟩
    · exact Ok_ite (fun z => absurd z (by decide)) (fun _ => tf 12 hk (Or.inl rfl) _ rfl y1)
    · exact Ok_ite (fun _ => tf 13 (by omega) (Or.inr rfl) _ rfl y1) (fun z => absurd rfl z)
  refine Ok_clR (r_isK hP 9 12 (by decide) (by decide) rfl) (fun r hr => ?_)
  rcases hr with ⟨hk, rfl⟩ | ⟨n12, rfl⟩
  · exact Ok_ite (fun z => absurd z (by decide)) (fun _ => tfa (Or.inl hk))
  refine Ok_ite (fun _ => ?_) (fun z => absurd rfl z)
  refine Ok_clR (r_isK hP 10 13 (by decide) (by decide) rfl) (fun r hr => ?_)
  rcases hr with ⟨hk, rfl⟩ | ⟨n13, rfl⟩
  · exact Ok_ite (fun z => absurd z (by decide)) (fun _ => tfa (Or.inr hk))
  refine Ok_ite (fun _ => ?_) (fun z => absurd rfl z)
  have t1 : To (L12 T N u0 cs (List.replicate n 11 ++ S0) (cs.length + h) a b) (AT T N u0 a b 12 cs (List.replicate n 11 ++ S0) (cs.length + h) 0 0) := to_term ⟨n11, n17, n12, n13⟩ hE
  refine Ok.mono (ls_bind (ls_sum hSC hSV hSN (m := 12) (cm := 0) (by decide) hl hP hV) (fun d w3 hd => ?_)) (fun ro w y => LSd.pre t1 y)
  obtain ⟨a3, b3, ds⟩ := d
  obtain ⟨d1, d2, d3, d4, d5, d6⟩ := hd
  have d3' : (cs ++ ds).length + h ≤ 300 := d3
  have d5' : ¬ tkk T N a3 b3 = 20 := d5
  have d6' : ¬ tkk T N a3 b3 = 21 := d6
  have h443 : Im w3 44 (nI a3) := d1.2.2.2.2.1
  have cmp : ∀ kd : Nat, tkk T N a3 b3 = kd → (22 ≤ kd ∧ kd ≤ 27) → ∀ k : Int32, k = nI (opK kd) → Ok (pcl f_hold (fun r => pot r (prt none) (fun _ => pcl f_scan (fun _ => pcl f_readSum (fun r => pot r (prt none) (fun _ => pcl (f_release k) (fun _ => prt (some (0 : Int32))))))))) w3 (fun ro w2 => LSd (SuC T N u0 cs (List.replicate n 11 ++ S0) h 0 (a3, b3, ds)) (CvV T N v0 2 n cs h o) (CvC T N u0 cs S0 h) ro w2) := fun kd hk hkd k e1 => by
    refine Ok_cl (Ok.mono (r_hold d2 h443 d3') (fun ro w y => ?_))
    rcases y with ⟨y1, rfl, rfl⟩ | ⟨y1, rfl, rfl⟩
    · exact Ok_otN (Ok_rt (ls_wr ⟨by decide, by decide⟩ (to_cmp3 hk hkd y1)))
    have y1' : (cs ++ ds).length + h < 300 := y1
    refine Ok_otS (Ok_cl (Ok.mono (r_scan (d1.wf (nI (h + 1)) (by decide))) (fun _ w2 z => ?_)))
    obtain ⟨s1, a4, b4, s2, hP4⟩ := z
    have hV4 := (d2.w51 (h + 1)).sc s1
    have t2 : To (SuC T N u0 cs (List.replicate n 11 ++ S0) h 0 (a3, b3, ds)) (AT T N u0 a4 b4 13 (cs ++ ds) (List.replicate n 11 ++ S0) ((cs ++ ds).length + (h + 1)) 0 kd) := (to_cmp hk hkd y1 s2 hP4.2.1).trans to13
    refine Ok.mono (ls_bind (ls_sum hSC hSV hSN (m := 13) (cm := kd) (by decide) (by show (cs ++ ds).length + (h + 1) ≤ 300; omega) hP4 hV4) (fun d w5 hd => ?_)) (fun ro w y => LSd.pre t2 y)
    obtain ⟨a5, b5, es⟩ := d
    obtain ⟨g1, g2, g3, g4, g5, g6⟩ := hd
    have g3' : (cs ++ ds ++ es).length + (h + 1) ≤ 300 := g3
    refine Ok_cl (Ok.mono (r_release g2 (by show (cs ++ ds ++ es).length < 300; omega) e1) (fun _ w6 y => Ok_rt ?_))
    subst y
    have hV6 := (g2.w51 h).put (kd := kd) (f := 0) (by show (cs ++ ds ++ es).length < 300; omega)
    have hP6 := (g1.wf (k := 51) (nI h) (by decide)).pv (cs ++ ds ++ es).length kd 0
    have ea : cs ++ ds ++ es ++ [(kd, 0)] = cs ++ (ds ++ (es ++ [(kd, 0)])) := by
      rw [List.append_assoc, List.append_assoc]
    have el : (cs ++ (ds ++ (es ++ [(kd, 0)]))).length = (cs ++ ds ++ es).length + 1 := by
      rw [← ea, List.length_append]
      rfl
    have hV7 : XV v0 (cs ++ (ds ++ (es ++ [(kd, 0)]))) h o (pv (swf 51 (nI h) w5) (cs ++ ds ++ es).length kd 0) := by
      rw [← ea]
      exact hV6
    refine Or.inr ⟨rfl, (a5, b5, ds ++ (es ++ [(kd, 0)]), ds ++ (es ++ [(kd, 0)]) ++ List.replicate n (11, 0), []), ⟨⟨hP6, hV7, by show (cs ++ (ds ++ (es ++ [(kd, 0)]))).length + h ≤ 300; omega, (d4.le (by omega)).cmp (g4.le (by omega)) (by omega) hkd, (List.append_nil _).symm, hPW2⟩, htok _⟩, ?_⟩
    refine (to_cend (cs := cs ++ ds ++ es) (S0 := S0) (n0 := n) g5 g6 g1.2.1 hkd hH1 hL (by omega) (by omega)).trans (To.of (fun c u z => ?_))
    show X16 T N u0 (cs ++ (ds ++ (es ++ [(kd, 0)]) ++ List.replicate n (11, 0))) S0 ((cs ++ (ds ++ (es ++ [(kd, 0)]))).length + h) a5 b5 c u
    rw [el, show (cs ++ ds ++ es).length + 1 + h = (cs ++ ds ++ es).length + (h + 1) by omega, ← List.append_assoc, ← ea]
    exact z
  have is6 : ∀ j : Nat, 17 ≤ j → j ≤ 22 → Rd (f_is j) w3 (fun r => (tkk T N a3 b3 = j + 5 ∧ r = 1) ∨ (¬ tkk T N a3 b3 = j + 5 ∧ r = 0)) := fun j h1 h2 => r_isK d1 j (j + 5) (by omega) (by omega) (by
    unfold kc
    rw [if_neg (by omega), if_neg (by omega), if_neg (by omega), if_neg (by omega), if_neg (by omega), if_neg (by omega)])
  refine Ok_clR (is6 17 (by decide) (by decide)) (fun r hr => ?_)
  rcases hr with ⟨hk, rfl⟩ | ⟨n22, rfl⟩
  · exact Ok_ite (fun z => absurd z (by decide)) (fun _ => Ok_ite (fun z => absurd z (by decide)) (fun _ => cmp 22 hk (by decide) _ rfl))
  refine Ok_ite (fun _ => ?_) (fun z => absurd rfl z)
  refine Ok_clR (is6 18 (by decide) (by decide)) (fun r hr => ?_)
  rcases hr with ⟨hk, rfl⟩ | ⟨n23, rfl⟩
  · exact Ok_ite (fun z => absurd z (by decide)) (fun _ => Ok_ite (fun z => absurd z (by decide)) (fun _ => cmp 23 hk (by decide) _ rfl))
  refine Ok_ite (fun _ => ?_) (fun z => absurd rfl z)
  refine Ok_clR (is6 19 (by decide) (by decide)) (fun r hr => ?_)
  rcases hr with ⟨hk, rfl⟩ | ⟨n24, rfl⟩
  · exact Ok_ite (fun z => absurd z (by decide)) (fun _ => Ok_ite (fun z => absurd z (by decide)) (fun _ => cmp 24 hk (by decide) _ rfl))
  refine Ok_ite (fun _ => ?_) (fun z => absurd rfl z)
  refine Ok_clR (is6 20 (by decide) (by decide)) (fun r hr => ?_)
  rcases hr with ⟨hk, rfl⟩ | ⟨n25, rfl⟩
  · exact Ok_ite (fun z => absurd z (by decide)) (fun _ => Ok_ite (fun z => absurd z (by decide)) (fun _ => cmp 25 hk (by decide) _ rfl))
  refine Ok_ite (fun _ => ?_) (fun z => absurd rfl z)
  refine Ok_clR (is6 21 (by decide) (by decide)) (fun r hr => ?_)
  rcases hr with ⟨hk, rfl⟩ | ⟨n26, rfl⟩
  · exact Ok_ite (fun z => absurd z (by decide)) (fun _ => Ok_ite (fun z => absurd z (by decide)) (fun _ => cmp 26 hk (by decide) _ rfl))
  refine Ok_ite (fun _ => ?_) (fun z => absurd rfl z)
  refine Ok_clR (is6 22 (by decide) (by decide)) (fun r hr => ?_)
  rcases hr with ⟨hk, rfl⟩ | ⟨n27, rfl⟩
  · exact Ok_ite (fun z => absurd z (by decide)) (fun _ => Ok_ite (fun z => absurd z (by decide)) (fun _ => cmp 27 hk (by decide) _ rfl))
  refine Ok_ite (fun _ => Ok_ite (fun _ => ?_) (fun z => absurd rfl z)) (fun z => absurd rfl z)
  refine Ok.mono (r_wrong 1 rfl h443) (fun ro w y => ?_)
  obtain ⟨rfl, rfl⟩ := y
  have hne : ¬ (22 ≤ tkk T N a3 b3 ∧ tkk T N a3 b3 ≤ 27) := by omega
  exact ls_wr ⟨by decide, by decide⟩ (to_cmp1 d1.2.1 d5' d6' hne)
end
