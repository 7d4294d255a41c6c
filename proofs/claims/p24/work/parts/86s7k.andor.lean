/-! ===== and, or, in step ===== -/
section
variable {T : Nat → Nat} {N : Nat} {u0 : MS} {v0 : GS} {o : Nat}
theorem LS_step {w kd : Nat} (hw : (w = 1 ∧ kd = 10) ∨ (w = 0 ∧ kd = 9)) {F2 : PG (Option Int32)} (h2 : LSc T N u0 v0 (w + 1) o F2) (ho : o ≤ 8) {k : Int32} (hk : k = nI (opK kd)) {K : PG (Option Int32)} {cs : List (Nat × Nat)} {S0 : List Nat} {h : Nat} (hH : Hd S0 (fun x => x = 11 ∨ (w ≤ 1 ∧ x = 10) ∨ (w = 0 ∧ x = 9))) (hL : Lt100 S0) (hO : nOp S0 = o) (hlen : S0.length ≤ 3 * o + w) (hh : nPt S0 = h) {d : CdD} {v : GS} (hd : CvB T N v0 w 0 cs h o d v) (htk : tkk T N d.1 d.2.1 = kd) (hK2 : ∀ (e : CdD) (v : GS), (cs ++ d.2.2.1).length < (cs ++ e.2.2.1).length → (w = 0 → ¬ tkk T N e.1 e.2.1 = 10) → CvB T N v0 w 0 cs h o e v → Ok K v (fun ro w2 => LSd (CvC T N u0 cs S0 h e) (CvV T N v0 w 0 cs h o) (CvC T N u0 cs S0 h) ro w2)) : Ok (pcl f_hold (fun r => pot r (prt none) (fun _ => pcl f_scan (fun _ => pcl F2 (fun r => pot r (prt none) (fun _ => pcl (f_release k) (fun _ => K))))))) v (fun ro w2 => LSd (CvC T N u0 cs S0 h d) (CvV T N v0 w 0 cs h o) (CvC T N u0 cs S0 h) ro w2) := by
  obtain ⟨a, b, es, ds, P⟩ := d
  obtain ⟨d1, d2, d3, d4, d5, d6⟩ := hd
  have d3' : (cs ++ es).length + h ≤ 300 := d3
  have d5' : es = ds ++ bcs P := (List.append_nil es).symm.trans d5
  have d6a : P.length + w ≤ 2 := d6.1
  have htk' : tkk T N a b = kd := htk
  have hkd : kd = 9 ∨ kd = 10 := by omega
  have h44 : Im v 44 (nI a) := d1.2.2.2.2.1
  have hPk : ∀ x ∈ P, x = 10 ∨ x = kd := fun x hx => by
    rcases hw with ⟨hw1, hw2⟩ | ⟨hw1, hw2⟩
    · exact Or.inl (d6.2.2 hw1 x hx)
    · rw [hw2]
      exact d6.2.1 x hx
  have hHk : Hd S0 (fun x => x = 10 ∨ x = kd) := fun x R e z => hH x R e (by omega)
  refine Ok_cl (Ok.mono (r_hold d2 h44 d3') (fun ro w2 y => ?_))
  rcases y with ⟨y1, rfl, rfl⟩ | ⟨y1, rfl, rfl⟩
  · exact Ok_otN (Ok_rt (ls_wr ⟨by decide, by decide⟩ (to_and3 htk' hkd y1)))
  have y1' : (cs ++ es).length + h < 300 := y1
  refine Ok_otS (Ok_cl (Ok.mono (r_scan (d1.wf (nI (h + 1)) (by decide))) (fun _ w3 z => ?_)))
  obtain ⟨s1, a2, b2, s2, hP2⟩ := z
  have hV2 : XV v0 (cs ++ es) (h + 1) o w3 := (d2.w51 (h + 1)).sc s1
  have hcl : (cs ++ es).length = (cs ++ ds).length + P.length := by
    rw [List.length_append, List.length_append, d5', List.length_append, bcs_l, Nat.add_assoc]
  have ePS : (P ++ S0).length = P.length + S0.length := List.length_append
  have t1 : To (CvC T N u0 cs S0 h (a, b, es, ds, P)) (L12 T N u0 (cs ++ es) (List.replicate 0 11 ++ (kd :: S0)) ((cs ++ es).length + (h + 1)) a2 b2) := by
    have t0 : To (X16 T N u0 (cs ++ ds) (P ++ S0) ((cs ++ es).length + h) a b) (L12 T N u0 (cs ++ ds ++ bcs P) (kd :: S0) ((cs ++ es).length + h + 1) a2 b2) := to_and htk' hkd hHk hL hPk y1' (by omega) (by omega) s2 hP2.2.1
    have e : cs ++ ds ++ bcs P = cs ++ es := by rw [d5', List.append_assoc]
    rw [e] at t0
    exact t0
  have H := h2 0 (kd :: S0) (cs ++ es) a2 b2 (h + 1) w3 (fun _ => rfl) (fun x R e z => by
    have : kd = x := (List.cons.inj e).1
    omega) (hL.c (by omega)) (by
    show nOp (kd :: S0) = o
    rw [nOp_o (by omega), hO]) (by
    show S0.length + 1 ≤ 3 * o + (w + 1)
    omega) (by
    show nPt (kd :: S0) = h + 1
    rw [nPt_i (by omega), hh]) (by omega) hP2 hV2
  refine Ok.mono (ls_bind H (fun e w5 he => ?_)) (fun ro w y => LSd.pre t1 y)
  obtain ⟨a3, b3, es2, ds2, P2⟩ := e
  obtain ⟨⟨g1, g2, g3, g4, g5, g6⟩, g7, -⟩ := he
  have g3' : (cs ++ es ++ es2).length + (h + 1) ≤ 300 := g3
  have g5' : es2 = ds2 ++ bcs P2 := (List.append_nil es2).symm.trans g5
  have g6a : P2.length + (w + 1) ≤ 2 := g6.1
  refine Ok_cl (Ok.mono (r_release g2 (by show (cs ++ es ++ es2).length < 300; omega) hk) (fun _ w6 y => ?_))
  subst y
  have hV6 := (g2.w51 h).put (kd := kd) (f := 0) (by show (cs ++ es ++ es2).length < 300; omega)
  have hP6 := (g1.wf (k := 51) (nI h) (by decide)).pv (cs ++ es ++ es2).length kd 0
  have ea : cs ++ es ++ es2 ++ [(kd, 0)] = cs ++ (es ++ (es2 ++ [(kd, 0)])) := by
    rw [List.append_assoc, List.append_assoc]
  have el : (cs ++ (es ++ (es2 ++ [(kd, 0)]))).length = (cs ++ es ++ es2).length + 1 := by
    rw [← ea, List.length_append]
    rfl
  have el2 : (cs ++ es ++ es2).length = (cs ++ es).length + es2.length := List.length_append
  have hV7 : XV v0 (cs ++ (es ++ (es2 ++ [(kd, 0)]))) h o (pv (swf 51 (nI h) w5) (cs ++ es ++ es2).length kd 0) := by
    rw [← ea]
    exact hV6
  have hB : CvB T N v0 w 0 cs h o (a3, b3, es ++ (es2 ++ [(kd, 0)]), es ++ ds2, P2 ++ [kd]) (pv (swf 51 (nI h) w5) (cs ++ es ++ es2).length kd 0) := by
    refine ⟨hP6, hV7, by show (cs ++ (es ++ (es2 ++ [(kd, 0)]))).length + h ≤ 300; omega, SmT.con d4 g4 (by omega) hkd, ?_, ?_, ?_, ?_⟩
    · show es ++ (es2 ++ [(kd, 0)]) ++ [] = es ++ ds2 ++ bcs (P2 ++ [kd])
      have e : bcs (P2 ++ [kd]) = bcs P2 ++ [(kd, 0)] := by
        unfold bcs
        rw [List.map_append]
        rfl
      rw [e, List.append_nil, g5']
      simp only [List.append_assoc]
    · show (P2 ++ [kd]).length + w ≤ 2
      rw [List.length_append]
      have : [kd].length = 1 := rfl
      omega
    · intro x hx
      rcases List.mem_append.mp hx with z | z
      · exact g6.2.1 x z
      · have : x = kd := List.mem_singleton.mp z
        omega
    · intro hw1 x hx
      rcases List.mem_append.mp hx with z | z
      · have hn : P2 = [] := List.length_eq_zero_iff.mp (by omega)
        rw [hn] at z
        exact absurd z List.not_mem_nil
      · have : x = kd := List.mem_singleton.mp z
        omega
  refine Ok.mono (hK2 (a3, b3, es ++ (es2 ++ [(kd, 0)]), es ++ ds2, P2 ++ [kd]) (pv (swf 51 (nI h) w5) (cs ++ es ++ es2).length kd 0) (by show (cs ++ es).length < (cs ++ (es ++ (es2 ++ [(kd, 0)]))).length; omega) (fun z => g7 (by omega)) hB) (fun ro w y => LSd.pre (To.of (fun c u z => ?_)) y)
  have z2 : X16 T N u0 (cs ++ es ++ ds2) (P2 ++ kd :: S0) ((cs ++ es ++ es2).length + (h + 1)) a3 b3 c u := z
  show X16 T N u0 (cs ++ (es ++ ds2)) (P2 ++ [kd] ++ S0) ((cs ++ (es ++ (es2 ++ [(kd, 0)]))).length + h) a3 b3 c u
  rw [el, show (cs ++ es ++ es2).length + 1 + h = (cs ++ es ++ es2).length + (h + 1) by omega, ← List.append_assoc cs, show P2 ++ [kd] ++ S0 = P2 ++ kd :: S0 by rw [List.append_assoc]; rfl]
  exact z2
theorem LS_and (ho : o ≤ 8) (F : Nat → Int32 → Int32 → Int32 → Int32 → PG (Option Int32)) (h2 : LSc T N u0 v0 2 o (F 2 0 0 0 0)) : LSc T N u0 v0 1 o (bd_readAnd F) := by
  intro n S0 cs a b h v hn0 hH hL hO hlen hh hl hP hV
  have hn := hn0 (Nat.le_refl _)
  subst hn
  rw [show List.replicate 0 11 ++ S0 = S0 from rfl] at hO hlen hh ⊢
  have hlp : ∀ (m : Nat) (d : CdD) (v : GS), 301 ≤ m + (cs ++ d.2.2.1).length → CvB T N v0 1 0 cs h o d v → Ok (lp_readAnd_4 F m (prt (some (0 : Int32)))) v (fun ro w2 => LSd (CvC T N u0 cs S0 h d) (CvV T N v0 1 0 cs h o) (CvC T N u0 cs S0 h) ro w2) := by
    intro m
    induction m with
    | zero =>
      intro d v h1 hd
      have := hd.2.2.1
      omega
    | succ m ih =>
      intro d v h1 hd
      unfold lp_readAnd_4
      refine Ok_clR (r_isK hd.1 7 10 (by decide) (by decide) rfl) (fun r hr => ?_)
      rcases hr with ⟨hk, rfl⟩ | ⟨n10, rfl⟩
      · refine Ok_ite (fun z => absurd z (by decide)) (fun _ => ?_)
        exact LS_step (w := 1) (Or.inl ⟨rfl, rfl⟩) h2 ho rfl hH hL hO hlen hh hd hk (fun e w5 hlt _ he => ih e w5 (by omega) he)
      · exact Ok_ite (fun _ => Ok_rt (Or.inr ⟨rfl, d, ⟨hd, fun _ => n10, fun z => absurd z (by decide)⟩, To.of (fun c u z => z)⟩)) (fun z => absurd rfl z)
  unfold bd_readAnd
  refine ls_bind (h2 0 S0 cs a b h v (fun _ => rfl) (fun x R e z => hH x R e (by omega)) hL hO (by show S0.length ≤ 3 * o + 2; omega) hh hl hP hV) (fun d w3 hd => ?_)
  obtain ⟨⟨d1, d2, d3, d4, d5, d6⟩, -, -⟩ := hd
  exact hlp fuel d w3 (by unfold fuel; omega) ⟨d1, d2, d3, d4.le (by omega), d5, ⟨by have := d6.1; omega, d6.2.1, fun _ x hx => by
    have := d6.1
    have hn : d.2.2.2.2 = [] := List.length_eq_zero_iff.mp (by omega)
    rw [hn] at hx
    exact absurd hx List.not_mem_nil⟩⟩
theorem LS_or (ho : o ≤ 8) (F : Nat → Int32 → Int32 → Int32 → Int32 → PG (Option Int32)) (h2 : LSc T N u0 v0 1 o (F 1 0 0 0 0)) : LSc T N u0 v0 0 o (bd_readOr F) := by
  intro n S0 cs a b h v hn0 hH hL hO hlen hh hl hP hV
  have hn := hn0 (Nat.zero_le _)
  subst hn
  rw [show List.replicate 0 11 ++ S0 = S0 from rfl] at hO hlen hh ⊢
  have hlp : ∀ (m : Nat) (d : CdD) (v : GS), 301 ≤ m + (cs ++ d.2.2.1).length → (CvB T N v0 0 0 cs h o d v ∧ ¬ tkk T N d.1 d.2.1 = 10) → Ok (lp_readOr_4 F m (prt (some (0 : Int32)))) v (fun ro w2 => LSd (CvC T N u0 cs S0 h d) (CvV T N v0 0 0 cs h o) (CvC T N u0 cs S0 h) ro w2) := by
    intro m
    induction m with
    | zero =>
      intro d v h1 hd
      have := hd.1.2.2.1
      omega
    | succ m ih =>
      intro d v h1 hd
      unfold lp_readOr_4
      refine Ok_clR (r_isK hd.1.1 6 9 (by decide) (by decide) rfl) (fun r hr => ?_)
      rcases hr with ⟨hk, rfl⟩ | ⟨n9, rfl⟩
      · refine Ok_ite (fun z => absurd z (by decide)) (fun _ => ?_)
        exact LS_step (w := 0) (Or.inr ⟨rfl, rfl⟩) h2 ho rfl hH hL hO hlen hh hd.1 hk (fun e w5 hlt hn he => ih e w5 (by omega) ⟨he, hn rfl⟩)
      · exact Ok_ite (fun _ => Ok_rt (Or.inr ⟨rfl, d, ⟨hd.1, fun _ => hd.2, fun _ => n9⟩, To.of (fun c u z => z)⟩)) (fun z => absurd rfl z)
  unfold bd_readOr
  refine ls_bind (h2 0 S0 cs a b h v (fun _ => rfl) (fun x R e z => hH x R e (by omega)) hL hO (by show S0.length ≤ 3 * o + 1; omega) hh hl hP hV) (fun d w3 hd => ?_)
  obtain ⟨⟨d1, d2, d3, d4, d5, d6⟩, hn, -⟩ := hd
  exact hlp fuel d w3 (by unfold fuel; omega) ⟨⟨d1, d2, d3, d4.le (by omega), d5, ⟨by have := d6.1; omega, d6.2.1, fun z => absurd z (by decide)⟩⟩, hn (Nat.le_refl _)⟩
theorem LS_fP {ns : Nat} {st sz : Nat → Nat} (hSC : SgC ns st sz u0) (hSV : SgV T ns st sz v0) (hSN : SgN N ns st sz) : ∀ d o, o ≤ 8 → (3 * (8 - o) + 3 ≤ d → LSc T N u0 v0 0 o (fP d 0 0 0 0 0)) ∧ (3 * (8 - o) + 2 ≤ d → LSc T N u0 v0 1 o (fP d 1 0 0 0 0)) ∧ (3 * (8 - o) + 1 ≤ d → LSc T N u0 v0 2 o (fP d 2 0 0 0 0)) := by
  intro d
  induction d with
  | zero => intro o ho; exact ⟨fun z => by omega, fun z => by omega, fun z => by omega⟩
  | succ d ih =>
    intro o ho
    refine ⟨fun z => ?_, fun z => ?_, fun z => ?_⟩
    · have e : fP (d + 1) 0 0 0 0 0 = bd_readOr (fP d) := by unfold fP; rw [if_pos rfl]
      rw [e]
      exact LS_or ho (fP d) ((ih o ho).2.1 (by omega))
    · have e : fP (d + 1) 1 0 0 0 0 = bd_readAnd (fP d) := by unfold fP; rw [if_neg (by decide), if_pos rfl]
      rw [e]
      exact LS_and ho (fP d) ((ih o ho).2.2 (by omega))
    · have e : fP (d + 1) 2 0 0 0 0 = bd_readNot (fP d) := by unfold fP; rw [if_neg (by decide), if_neg (by decide)]
      rw [e]
      exact LS_not hSC hSV hSN ho (fP d) (fun z2 => (ih (o + 1) (by omega)).1 (by omega)) (fun z2 => (ih (o + 1) (by omega)).2.2 (by omega))
end
