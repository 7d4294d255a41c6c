/-! ===== a sum, in step ===== -/
theorem CN_lc {α β : Type} {p : NG α} {q : α → NG β} {u : MS} {Q : β → MS → Prop} (h : CN (ncl p q) u Q) : CN p u (fun r v => CN (q r) v Q) := fun r v e r2 v2 e2 => h r2 v2 (by
  unfold ncl
  rw [e]
  exact e2)
theorem To.of {A B : NG Int32 → MS → Prop} (h : ∀ c u, A c u → B c u) : To A B := fun c u ha Q hq => hq c u (h c u ha)
theorem LSd.pre {D : Type} {A A2 : NG Int32 → MS → Prop} {PV : D → GS → Prop} {PC : D → NG Int32 → MS → Prop} {ro : Option Int32} {v : GS} (h : To A A2) (hl : LSd A2 PV PC ro v) : LSd A PV PC ro v := by
  rcases hl with ⟨e, f, p, h1, h2, h3, h4⟩ | ⟨e, d, h1, h2⟩
  · exact Or.inl ⟨e, f, p, h1, h2, h3, h.trans h4⟩
  · exact Or.inr ⟨e, d, h1, h.trans h2⟩
theorem ls_bind {D D2 : Type} {p : PG (Option Int32)} {q : Int32 → PG (Option Int32)} {v : GS} {A : NG Int32 → MS → Prop} {PV : D → GS → Prop} {PC : D → NG Int32 → MS → Prop} {PV2 : D2 → GS → Prop} {PC2 : D2 → NG Int32 → MS → Prop} (h : Ok p v (fun ro w => LSd A PV PC ro w)) (hq : ∀ d w, PV d w → Ok (q 0) w (fun ro w2 => LSd (PC d) PV2 PC2 ro w2)) : Ok (pcl p (fun r => pot r (prt none) q)) v (fun ro w => LSd A PV2 PC2 ro w) := by
  refine Ok_cl (Ok.mono h (fun ro w y => ?_))
  rcases y with ⟨rfl, f, p, h1, h2, h3, h4⟩ | ⟨rfl, d, h1, h2⟩
  · exact Ok_otN (Ok_rt (Or.inl ⟨rfl, f, p, h1, h2, h3, h4⟩))
  · exact Ok_otS (Ok.mono (hq d w h1) (fun ro w2 y => y.pre h2))
theorem ls_wr {D : Type} {A : NG Int32 → MS → Prop} {PV : D → GS → Prop} {PC : D → NG Int32 → MS → Prop} {v : GS} {f p : Nat} (hf : 1 ≤ f ∧ f ≤ 3) (h : To A (FP f p)) : LSd A PV PC none (wr v f p) := Or.inl ⟨rfl, f, p, hf.1, hf.2, wr_f _ _ _, h⟩
/-- the types of a run of code -/
def TyR : List Bool → List (Nat × Nat) → List Bool → Prop
  | K, [], U => K = U
  | K, x :: ds, U => K.length ≤ 63 ∧ x.2 < 10000 ∧ ∃ V, CdT K V x.1 x.2 ∧ TyR V ds U
theorem TyR_nil {K U : List Bool} : TyR K [] U ↔ K = U := Iff.rfl
theorem TyR_cons {K U : List Bool} {x : Nat × Nat} {ds : List (Nat × Nat)} : TyR K (x :: ds) U ↔ (K.length ≤ 63 ∧ x.2 < 10000 ∧ ∃ V, CdT K V x.1 x.2 ∧ TyR V ds U) := Iff.rfl
theorem TyR.app {ds es : List (Nat × Nat)} {U V : List Bool} : ∀ {K : List Bool}, TyR K ds U → TyR U es V → TyR K (ds ++ es) V := by
  induction ds with
  | nil =>
    intro K h1 h2
    rw [TyR_nil] at h1
    rw [h1]
    exact h2
  | cons x ds ih =>
    intro K h1 h2
    rw [TyR_cons] at h1
    obtain ⟨a, b, W, c, d⟩ := h1
    rw [List.cons_append, TyR_cons]
    exact ⟨a, b, W, c, ih d h2⟩
theorem TyR_one {K U : List Bool} {kd f : Nat} (h1 : K.length ≤ 63) (h2 : f < 10000) (h3 : CdT K U kd f) : TyR K [(kd, f)] U := TyR_cons.mpr ⟨h1, h2, U, h3, TyR_nil.mpr rfl⟩
def SmT (k : Nat) (ds : List (Nat × Nat)) (b : Bool) : Prop := ∀ K : List Bool, K.length ≤ k → TyR K ds (b :: K)
theorem Trm.ty {k kd f : Nat} (h : Trm kd f) (hk : k ≤ 63) : SmT k [(kd, f)] false := fun K hK => by
  refine TyR_one (by omega) ?_ ?_
  · rcases h with h | h | h <;> omega
  · rcases h with h | h | h
    · exact Or.inl ⟨rfl, Or.inl h.1⟩
    · exact Or.inl ⟨rfl, Or.inr (Or.inl h.1)⟩
    · exact Or.inl ⟨rfl, Or.inr (Or.inr h)⟩
theorem SmT.bin {k kd : Nat} {ds es : List (Nat × Nat)} (h1 : SmT k ds false) (h2 : SmT (k + 1) es false) (hk : k + 2 ≤ 63) (hkd : kd = 20 ∨ kd = 21) : SmT k (ds ++ (es ++ [(kd, 0)])) false := fun K hK => (h1 K hK).app ((h2 (false :: K) (Nat.succ_le_succ hK)).app (TyR_one (Nat.le_trans (Nat.succ_le_succ (Nat.succ_le_succ hK)) hk) (by decide) (Or.inr (Or.inr (Or.inr (Or.inl ⟨hkd, K, rfl, rfl⟩))))))
theorem SmT.cmp {k kd : Nat} {ds es : List (Nat × Nat)} (h1 : SmT k ds false) (h2 : SmT (k + 1) es false) (hk : k + 2 ≤ 63) (hkd : 22 ≤ kd ∧ kd ≤ 27) : SmT k (ds ++ (es ++ [(kd, 0)])) true := fun K hK => (h1 K hK).app ((h2 (false :: K) (Nat.succ_le_succ hK)).app (TyR_one (Nat.le_trans (Nat.succ_le_succ (Nat.succ_le_succ hK)) hk) (by decide) (Or.inr (Or.inr (Or.inr (Or.inr (Or.inl ⟨hkd.1, hkd.2, K, rfl, rfl⟩)))))))
theorem SmT.con {k kd : Nat} {ds es : List (Nat × Nat)} (h1 : SmT k ds true) (h2 : SmT (k + 1) es true) (hk : k + 2 ≤ 63) (hkd : kd = 9 ∨ kd = 10) : SmT k (ds ++ (es ++ [(kd, 0)])) true := fun K hK => (h1 K hK).app ((h2 (true :: K) (Nat.succ_le_succ hK)).app (TyR_one (Nat.le_trans (Nat.succ_le_succ (Nat.succ_le_succ hK)) hk) (by decide) (Or.inr (Or.inr (Or.inr (Or.inr (Or.inr ⟨hkd, K, rfl, rfl⟩)))))))
theorem SmT.nots {k : Nat} {ds : List (Nat × Nat)} (h1 : SmT k ds true) (hk : k + 1 ≤ 63) : SmT k (ds ++ [(11, 0)]) true := fun K hK => (h1 K hK).app (TyR_one (Nat.le_trans (Nat.succ_le_succ hK) hk) (by decide) (Or.inr (Or.inr (Or.inl ⟨rfl, rfl, K, rfl⟩))))
theorem SmT.tf {k kd : Nat} (hk : k ≤ 63) (hkd : kd = 12 ∨ kd = 13) : SmT k [(kd, 0)] true := fun K hK => TyR_one (by omega) (by decide) (Or.inr (Or.inl ⟨rfl, hkd⟩))
theorem SmT.le {k j : Nat} {ds : List (Nat × Nat)} {b : Bool} (h : SmT k ds b) (hj : j ≤ k) : SmT j ds b := fun K hK => h K (by omega)
theorem XV.w51 {v0 v : GS} {cs : List (Nat × Nat)} {h o : Nat} (hx : XV v0 cs h o v) (h2 : Nat) : XV v0 cs h2 o (swf 51 (nI h2) v) := by
  obtain ⟨a, b, c, d⟩ := hx
  exact ⟨a.wf _ (Or.inr (by decide)), b.im (Im.o (by decide) b.1) ⟨rfl, rfl⟩, swf_e, Im.o (by decide) d⟩
theorem XV.w48 {v0 v : GS} {cs : List (Nat × Nat)} {h o : Nat} (hx : XV v0 cs h o v) (o2 : Nat) : XV v0 cs h o2 (swf 48 (nI o2) v) := by
  obtain ⟨a, b, c, d⟩ := hx
  exact ⟨a.wf _ (Or.inr (by decide)), b.im (Im.o (by decide) b.1) ⟨rfl, rfl⟩, Im.o (by decide) c, swf_e⟩
theorem r_hold {v0 v : GS} {cs : List (Nat × Nat)} {h o a : Nat} (hx : XV v0 cs h o v) (h44 : Im v 44 (nI a)) (hl : cs.length + h ≤ 300) : Ok f_hold v (fun ro w => (cs.length + h = 300 ∧ ro = none ∧ w = wr v 3 a) ∨ (cs.length + h < 300 ∧ ro = some 0 ∧ w = swf 51 (nI (h + 1)) v)) := by
  unfold f_hold
  refine Ok_cl (Ok.mono (r_counts hx h44 hl) (fun ro w y => ?_))
  rcases y with ⟨y1, rfl, rfl⟩ | ⟨y1, rfl, rfl⟩
  · exact Ok_otN (Ok_rt (Or.inl ⟨y1, rfl, rfl⟩))
  · refine Ok_otS (Ok_rfN hx.2.2.1 (Ok_wf ?_))
    rw [nI_1]
    exact Ok_rt (Or.inr ⟨y1, rfl, rfl⟩)
theorem r_release {v0 v : GS} {cs : List (Nat × Nat)} {h o kd : Nat} (hx : XV v0 cs (h + 1) o v) (he : cs.length < 300) {k : Int32} (hk : k = nI (opK kd)) : Ok (f_release k) v (fun _ w => w = pv (swf 51 (nI h) v) cs.length kd 0) := by
  have hx2 := hx.w51 h
  unfold f_release
  refine Ok_rfN hx.2.2.1 (Ok_wf ?_)
  have e : nI (h + 1) - 1 = nI h := nI_sub (a := h + 1) (b := 1) (by omega)
  rw [e]
  refine Ok_cl (Ok.mono (r_put hx2.2.1.1 he hk (show (0 : Int32) = nI 0 from rfl)) (fun _ w y => Ok_rt y))
theorem XC.w14 {u0 u : MS} {m p sg cm : Nat} {cs : List (Nat × Nat)} {S : List Nat} (h : XC u0 m cs S p sg cm u) (s2 : Nat) : XC u0 m cs S p s2 cm (si u 14 (nI s2)) := by
  obtain ⟨a1, a2, a3, ⟨a4, a5⟩, ⟨a6, a7⟩, a8, a9, a10, a11, a12⟩ := h
  have e : ∀ k, ¬ k = 14 → (si u 14 (nI s2)).1 k = u.1 k := fun k h1 => siO h1
  exact ⟨a1.trans (Same_si (by decide)), (e 12 (by decide)).trans a2, (e 11 (by decide)).trans a3, ⟨(e 25 (by decide)).trans a4, a5⟩, ⟨(e 7 (by decide)).trans a6, a7⟩, (e 24 (by decide)).trans a8, (e 8 (by decide)).trans a9, (e 9 (by decide)).trans a10, siE _ _ _, (e 15 (by decide)).trans a12⟩
theorem XC.w15 {u0 u : MS} {m p sg cm : Nat} {cs : List (Nat × Nat)} {S : List Nat} (h : XC u0 m cs S p sg cm u) (c2 : Nat) : XC u0 m cs S p sg c2 (si u 15 (nI c2)) := by
  obtain ⟨a1, a2, a3, ⟨a4, a5⟩, ⟨a6, a7⟩, a8, a9, a10, a11, a12⟩ := h
  have e : ∀ k, ¬ k = 15 → (si u 15 (nI c2)).1 k = u.1 k := fun k h1 => siO h1
  exact ⟨a1.trans (Same_si (by decide)), (e 12 (by decide)).trans a2, (e 11 (by decide)).trans a3, ⟨(e 25 (by decide)).trans a4, a5⟩, ⟨(e 7 (by decide)).trans a6, a7⟩, (e 24 (by decide)).trans a8, (e 8 (by decide)).trans a9, (e 9 (by decide)).trans a10, (e 14 (by decide)).trans a11, siE _ _ _⟩
def LQm (T : Nat → Nat) (N : Nat) (u0 : MS) (m : Nat) (cs : List (Nat × Nat)) (S : List Nat) (p sg cm a b : Nat) (c : NG Int32) (u : MS) : Prop := ∃ g n, c = LQ g n ∧ n ≤ a ∧ CP T N a b u ∧ XC u0 m cs S p sg cm u
section
variable {T : Nat → Nat} {N ns : Nat} {st sz : Nat → Nat} {u0 : MS} {v0 : GS} {a b m h o sg cm : Nat} {cs : List (Nat × Nat)} {S : List Nat}
theorem to13 {p : Nat} : To (LQm T N u0 13 cs S p sg cm a b) (AT T N u0 a b 13 cs S p sg cm) := by
  rintro c u ⟨g, n, rfl, hn, hC, hX⟩ Q hq
  unfold LQ
  exact CN_RFx hC.2.2.2.2.2.2.1 (tk13 hX.2.1 (CN_lc (hq _ u ⟨g, n, rfl, hn, hC, hX⟩)))
theorem to_sgn {a2 b2 kd p : Nat} (hk : tkk T N a b = kd) (hkd : kd = 20 ∨ kd = 21) (hp : p < 300) (hR : Run tBl T N b a2) (hE2 : TkE T N a2 b2) : To (LQm T N u0 15 cs S p sg cm a b) (LQm T N u0 13 cs S (p + 1) kd cm a2 b2) := by
  rintro c u ⟨g, n, rfl, hn, hC, hX⟩ Q hq
  have h24 := hX.2.2.2.2.2.1
  have h15 := hX.2.2.2.2.2.2.2.2.2
  have hX1 := hX.part 13
  have hs1 : Same [12, 24] [] u (si (si u 12 (nI 13)) 24 (nI (p + 1))) := (Same_si (by decide)).trans (Same_si (by decide))
  have hC1 := hC.sm hs1 (fun k h1 h2 h3 => by simp at h3; omega) (by decide)
  have hpart := c_part_ok (m := 13) h24 hp hX.2.2.1
  have e13 : (13 : Int32) = nI 13 := rfl
  rw [e13] at hpart
  generalize si (si u 12 (nI 13)) 24 (nI (p + 1)) = u1 at hpart hX1 hC1
  have fin : CN (ncl (x_X5_takePart (nI 13)) (fun _ => ncl (nWF 14 (nI kd)) (fun _ => nrt (0 : Int32)))) u (fun _ w => CN (RN g (nI n + 1)) w Q) := by
    refine CN_app hpart (fun _ v y => ?_)
    subst y
    refine CN_WFx (CN_rt ?_)
    have hC2 := hC1.sm (LI := [14]) (LA := []) (v := si v 14 (nI kd)) (Same_si (by decide)) (fun k h1 h2 h3 => by simp at h3; omega) (by decide)
    exact on_next hC2 (by omega) hn (hX1.w14 kd) (by decide) hR hE2 (fun g2 n2 u2 y1 y2 y3 _ => hq _ _ ⟨g2, n2, rfl, y1, y2, y3⟩)
  unfold LQ
  refine CN_RFx hC.2.2.2.2.2.2.1 (tk15 hX.2.1 h15 (fun _ => ?_) (fun z => absurd (Or.inr ?_) z))
  · unfold x_X5_takeBehindTerm
    rw [hk]
    rcases hkd with rfl | rfl
    · exact CN_ite (fun _ => fin) (fun z => absurd rfl z)
    · exact CN_ite (fun z => absurd z (by decide)) (fun _ => CN_ite (fun _ => fin) (fun z => absurd rfl z))
  · rw [hk]
    rcases hkd with rfl | rfl
    · exact Or.inl rfl
    · exact Or.inr rfl
theorem to_sgn3 {kd : Nat} (hk : tkk T N a b = kd) (hkd : kd = 20 ∨ kd = 21) {p : Nat} (hp : p = 300) : To (LQm T N u0 15 cs S p sg cm a b) (FP 3 a) := by
  rintro c u ⟨g, n, rfl, hn, hC, hX⟩ Q hq
  subst hp
  have h24 := hX.2.2.2.2.2.1
  have h15 := hX.2.2.2.2.2.2.2.2.2
  have hF : FaultC 3 a (si (si u 11 3) 10 (u.1 5)) := ⟨(siO (by decide)).trans (siE _ _ _), (siE _ _ _).trans hC.2.2.2.2.1⟩
  have fin : CN (ncl (x_X5_takePart 13) (fun _ => ncl (nWF 14 (nI kd)) (fun _ => nrt (0 : Int32)))) u (fun _ w => CN (RN g (nI n + 1)) w Q) := by
    refine CN_app (c_part_no h24) (fun _ v y => ?_)
    subst y
    exact CN_WFx (CN_rt (run_fault (hF.sm (LI := [14]) (LA := []) (Same_si (by decide)) (by decide) (by decide)) ⟨by decide, by decide⟩ hq))
  unfold LQ
  refine CN_RFx hC.2.2.2.2.2.2.1 (tk15 hX.2.1 h15 (fun _ => ?_) (fun z => absurd (Or.inr ?_) z))
  · unfold x_X5_takeBehindTerm
    rw [hk]
    rcases hkd with rfl | rfl
    · exact CN_ite (fun _ => fin) (fun z => absurd rfl z)
    · exact CN_ite (fun z => absurd z (by decide)) (fun _ => CN_ite (fun _ => fin) (fun z => absurd rfl z))
  · rw [hk]
    rcases hkd with rfl | rfl
    · exact Or.inl rfl
    · exact Or.inr rfl
/-- a sum: the token behind it, and what was written -/
def SuV (T : Nat → Nat) (N : Nat) (v0 : GS) (cs : List (Nat × Nat)) (h o : Nat) (d : Nat × Nat × List (Nat × Nat)) (v : GS) : Prop := RP T N d.1 d.2.1 v ∧ XV v0 (cs ++ d.2.2) h o v ∧ (cs ++ d.2.2).length + h ≤ 300 ∧ SmT 40 d.2.2 false ∧ ¬ tkk T N d.1 d.2.1 = 20 ∧ ¬ tkk T N d.1 d.2.1 = 21
def SuC (T : Nat → Nat) (N : Nat) (u0 : MS) (cs : List (Nat × Nat)) (S : List Nat) (h cm : Nat) (d : Nat × Nat × List (Nat × Nat)) : NG Int32 → MS → Prop := LQm T N u0 15 (cs ++ d.2.2) S ((cs ++ d.2.2).length + h) 0 cm d.1 d.2.1
theorem ls_sumlp (hSC : SgC ns st sz u0) (hSV : SgV T ns st sz v0) (hSN : SgN N ns st sz) : ∀ (n : Nat) (ds : List (Nat × Nat)) (a b : Nat) (v : GS), 301 ≤ n + (cs ++ ds).length → (cs ++ ds).length + h ≤ 300 → SmT 40 ds false → RP T N a b v → XV v0 (cs ++ ds) h o v → Ok (lp_readSum_4 n (prt (some (0 : Int32)))) v (fun ro w => LSd (LQm T N u0 15 (cs ++ ds) S ((cs ++ ds).length + h) 0 cm a b) (SuV T N v0 cs h o) (SuC T N u0 cs S h cm) ro w) := by
  intro n
  induction n with
  | zero => intro ds a b v h1 h2; omega
  | succ n ih =>
    intro ds a b v h1 h2 hT hP hV
    have h44 := hP.2.2.2.2.1
    have step : ∀ kd : Nat, tkk T N a b = kd → (kd = 20 ∨ kd = 21) → ∀ k : Int32, k = nI (opK kd) → Ok (pcl f_hold (fun r => pot r (prt none) (fun _ => pcl f_scan (fun _ => pcl f_readTerm (fun r => pot r (prt none) (fun _ => pcl (f_release k) (fun _ => lp_readSum_4 n (prt (some (0 : Int32)))))))))) v (fun ro w => LSd (LQm T N u0 15 (cs ++ ds) S ((cs ++ ds).length + h) 0 cm a b) (SuV T N v0 cs h o) (SuC T N u0 cs S h cm) ro w) := fun kd hk hkd k e1 => by
      refine Ok_cl (Ok.mono (r_hold hV h44 h2) (fun ro w y => ?_))
      rcases y with ⟨y1, rfl, rfl⟩ | ⟨y1, rfl, rfl⟩
      · exact Ok_otN (Ok_rt (ls_wr ⟨by decide, by decide⟩ (to_sgn3 hk hkd y1)))
      refine Ok_otS (Ok_cl (Ok.mono (r_scan (hP.wf (nI (h + 1)) (by decide))) (fun _ w2 z => ?_)))
      obtain ⟨s1, a2, b2, s2, hP2⟩ := z
      have hV2 := (hV.w51 (h + 1)).sc s1
      have t1 : To (LQm T N u0 15 (cs ++ ds) S ((cs ++ ds).length + h) 0 cm a b) (AT T N u0 a2 b2 13 (cs ++ ds) S ((cs ++ ds).length + (h + 1)) kd cm) := (to_sgn hk hkd y1 s2 hP2.2.1).trans to13
      have hsg1 := (sgl_len kd).1
      have e2 : sgl kd = [(kd, 0)] := by
        unfold sgl
        rw [if_neg (by omega)]
      refine Ok.mono (ls_bind (ls_term hSC hSV hSN (by decide) (by omega) (by omega) (by omega) hP2 hV2) (fun d w3 hd => ?_)) (fun ro w y => LSd.pre t1 y)
      obtain ⟨a3, b3, k3, f3⟩ := d
      obtain ⟨d1, d2, d3, d4⟩ := hd
      have d2 : XV v0 (cs ++ ds ++ [(k3, f3)]) (h + 1) o w3 := d2
      have d1 : RP T N a3 b3 w3 := d1
      have d4 : Trm k3 f3 := d4
      have hl1 : ((cs ++ ds) ++ [(k3, f3)]).length = (cs ++ ds).length + 1 := by
        rw [List.length_append]
        rfl
      refine Ok_cl (Ok.mono (r_release d2 (by omega) e1) (fun _ w4 y => ?_))
      subst y
      have hV4 := (d2.w51 h).put (kd := kd) (f := 0) (by omega)
      have hP4 := (d1.wf (k := 51) (nI h) (by decide)).pv ((cs ++ ds) ++ [(k3, f3)]).length kd 0
      have ea : (cs ++ ds) ++ [(k3, f3)] ++ [(kd, 0)] = cs ++ (ds ++ ([(k3, f3)] ++ [(kd, 0)])) := by
        rw [List.append_assoc, List.append_assoc]
      have hl2 : (cs ++ (ds ++ ([(k3, f3)] ++ [(kd, 0)]))).length = (cs ++ ds).length + 2 := by
        rw [← ea, List.length_append, hl1]
        rfl
      rw [ea] at hV4
      refine Ok.mono (ih (ds ++ ([(k3, f3)] ++ [(kd, 0)])) a3 b3 _ (by omega) (by omega) (hT.bin (d4.ty (by decide)) (by decide) hkd) hP4 hV4) (fun ro w y => LSd.pre (To.of (fun c u z => ?_)) y)
      obtain ⟨g, n2, z1, z2, z3, z4⟩ := z
      refine ⟨g, n2, z1, z2, z3, ?_⟩
      rw [e2] at z4
      have eb : (cs ++ ds) ++ (k3, f3) :: [(kd, 0)] = cs ++ (ds ++ ([(k3, f3)] ++ [(kd, 0)])) := by
        rw [List.append_assoc]
        rfl
      have ec : (cs ++ ds).length + (h + 1) + 1 = (cs ++ (ds ++ ([(k3, f3)] ++ [(kd, 0)]))).length + h := by omega
      have z5 : XC u0 15 ((cs ++ ds) ++ (k3, f3) :: [(kd, 0)]) S ((cs ++ ds).length + (h + 1) + 1) 0 cm u := z4
      rw [eb, ec] at z5
      exact z5
    unfold lp_readSum_4
    refine Ok_clR (r_isK hP 23 20 (by decide) (by decide) rfl) (fun r hr => ?_)
    rcases hr with ⟨hk, rfl⟩ | ⟨n20, rfl⟩
    · refine Ok_ite (fun z => absurd z (by decide)) (fun _ => Ok_clR (r_isK hP 23 20 (by decide) (by decide) rfl) (fun r hr => ?_))
      rcases hr with ⟨-, rfl⟩ | ⟨q, -⟩
      · exact Ok_ite (fun z => absurd z (by decide)) (fun _ => step 20 hk (Or.inl rfl) _ rfl)
      · exact absurd hk q
    refine Ok_ite (fun _ => ?_) (fun z => absurd rfl z)
    refine Ok_clR (r_isK hP 24 21 (by decide) (by decide) rfl) (fun r hr => ?_)
    rcases hr with ⟨hk, rfl⟩ | ⟨n21, rfl⟩
    · refine Ok_ite (fun z => absurd z (by decide)) (fun _ => Ok_clR (r_isK hP 23 20 (by decide) (by decide) rfl) (fun r hr => ?_))
      rcases hr with ⟨q, -⟩ | ⟨-, rfl⟩
      · exact absurd q n20
      · exact Ok_ite (fun _ => step 21 hk (Or.inr rfl) _ rfl) (fun z => absurd rfl z)
    refine Ok_ite (fun _ => Ok_rt (Or.inr ⟨rfl, (a, b, ds), ⟨hP, hV, h2, hT, n20, n21⟩, To.of (fun c u z => z)⟩)) (fun z => absurd rfl z)
theorem ls_sum {v : GS} (hSC : SgC ns st sz u0) (hSV : SgV T ns st sz v0) (hSN : SgN N ns st sz) (hm : m < 17) (hl : cs.length + h ≤ 300) (hP : RP T N a b v) (hV : XV v0 cs h o v) : Ok f_readSum v (fun ro w => LSd (AT T N u0 a b m cs S (cs.length + h) 0 cm) (SuV T N v0 cs h o) (SuC T N u0 cs S h cm) ro w) := by
  unfold f_readSum
  refine ls_bind (ls_term hSC hSV hSN hm hl (by decide) (Nat.zero_le _) hP hV) (fun d w3 hd => ?_)
  obtain ⟨a3, b3, k3, f3⟩ := d
  obtain ⟨d1, d2, d3, d4⟩ := hd
  have hl1 : (cs ++ [(k3, f3)]).length = cs.length + 1 := by
    rw [List.length_append]
    rfl
  refine Ok.mono (ls_sumlp hSC hSV hSN fuel [(k3, f3)] a3 b3 w3 (by unfold fuel; omega) (by omega) (d4.ty (by decide)) d1 d2) (fun ro w y => LSd.pre (To.of (fun c u z => ?_)) y)
  obtain ⟨g, n2, z1, z2, z3, z4⟩ := z
  refine ⟨g, n2, z1, z2, z3, ?_⟩
  have z5 : XC u0 15 (cs ++ [(k3, f3)]) S (cs.length + h + 1) 0 cm u := z4
  have ec : cs.length + h + 1 = (cs ++ [(k3, f3)]).length + h := by omega
  rw [ec] at z5
  exact z5
end
