/-! ===== the plan, the class's side: its turns ===== -/
theorem phd_o {g : Nat → Nat} {a : Int32} {E F f : Nat} (hF : F ≤ 96) (ha : a = -1 ∨ ∃ f, f < F ∧ a = nI f) (h : ¬ a = nI f) : phd g a E f = g f := by
  unfold phd
  rcases ha with z | ⟨f2, hf2, rfl⟩
  · rw [if_pos z]
  · rw [if_neg (nI_ne_1 (by omega)), nI_clamp (by omega), upN_n (fun z => h (by rw [z]))]
theorem per_other {B : Nat → Int32} {F d x y m T : Nat} {s : PlS} (hB : PdK B F) (hx : pdF B x) (hy : pdF B y) (hne : ¬ x / 40 = y / 40) : per B (pput B d s y m T) x = per B s x := by
  have hF := hB.2.2.2.2.2.1
  have e1 : ∀ k, k < 2 → pfr (pput B d s y m T) (pdW B x k) = pfr s (pdW B x k) := fun k hk => by
    unfold pfr
    rcases hB.2.1 x k hx hk with z | ⟨f, hf, z⟩
    · rw [if_pos z, if_pos z]
    · have hn : ¬ pdW B x k = -1 := by rw [z]; exact nI_ne_1 (by omega)
      rw [if_neg hn, if_neg hn, z, nI_clamp (by omega)]
      show phd (phd s.2.2.1 (pdW B y 0) (T + d + pdR B)) (pdW B y 1) (T + d + pdR B) f = s.2.2.1 f
      have no : ∀ k2, k2 < 2 → ¬ pdW B y k2 = nI f := fun k2 hk2 z2 => hne (hB.2.2.1 x y k k2 f hx hy hk hk2 hf z z2)
      rw [phd_o hF (hB.2.1 y 1 hy (by decide)) (no 1 (by decide)), phd_o hF (hB.2.1 y 0 hy (by decide)) (no 0 (by decide))]
  have e2 : ∀ k, k < 2 → pbh B (pput B d s y m T) (pdA B x k) = pbh B s (pdA B x k) := fun k hk => by
    cases e : pdA B x k with
    | none => rfl
    | some z =>
      obtain ⟨-, zc, -⟩ := hB.2.2.2.1 x k z hx hk e
      have hz : ¬ z = y := fun w => hne (by rw [← zc, w])
      have e3 : (pput B d s y m T).2.1 z = s.2.1 z := upN_n hz
      unfold pbh
      show (if pdV B z then 0 else ((pput B d s y m T).2.1 z).elim 1000000 (fun e => e + pdR B)) = _
      rw [e3]
      rfl
  unfold per
  rw [e1 0 (by decide), e1 1 (by decide), e2 0 (by decide), e2 1 (by decide)]
theorem per_b {B : Nat → Int32} {d F N x : Nat} {s : PlS} (hB : PdK B F) (h : PlI B d F N s) (hN : N ≤ 1000000) (hx : pdF B x) : per B s x ≤ 1000000 := by
  have hb : ∀ k, pbh B s (pdA B x k) ≤ 1000000 := fun k => by
    cases e : pdA B x k with
    | none => exact Nat.zero_le _
    | some y =>
      show (if pdV B y then 0 else (s.2.1 y).elim 1000000 (fun e => e + pdR B)) ≤ 1000000
      split
      · exact Nat.zero_le _
      · cases z : s.2.1 y with
        | none => exact Nat.le_refl _
        | some e2 => exact Nat.le_trans (h.2.2.2.2.1 y e2 z) hN
  exact Nat.max_le.mpr ⟨Nat.max_le.mpr ⟨Nat.le_trans (pfr_le hB h hx (by decide)) hN, Nat.le_trans (pfr_le hB h hx (by decide)) hN⟩, Nat.max_le.mpr ⟨hb 0, hb 1⟩⟩
/-- the class's planner holds this -/
def CR (B : Nat → Int32) (F d aM aB : Nat) (s : PlS) (u : MS) : Prop := CB B d aM aB u ∧ CRA B F aM aB s u ∧ CRO s.1 u ∧ CRE B s u
theorem nd_len {n : Nat} {l : List Nat} (h : l.Nodup) (hl : ∀ x, x ∈ l → x < n) : l.length ≤ n := by
  have := h.length_le_of_subset (l₂ := List.range n) (fun x hx => List.mem_range.mpr (hl x hx))
  rwa [List.length_range] at this
theorem PlI.nd {B : Nat → Int32} {d F N : Nat} {s : PlS} (h : PlI B d F N s) : s.1.Nodup := h.1.imp (fun {x y} z => by
  intro e
  rw [e] at z
  exact Nat.lt_irrefl _ z)
theorem PlI.len {B : Nat → Int32} {d F N : Nat} {s : PlS} (hB : PdK B F) (h : PlI B d F N s) : s.1.length ≤ 148 := by
  have h1 : (s.1.map pds).Nodup := by
    refine List.pairwise_map.mpr (List.Pairwise.imp_of_mem (fun {x y} hx hy hne e => ?_) h.nd)
    exact hne (pds_inj ((h.2.1 x hx).1.lt hB).2.1 ((h.2.1 y hy).1.lt hB).2.1 e)
  have := nd_len (n := 148) h1 (fun z hz => by
    obtain ⟨x, hx, rfl⟩ := List.mem_map.mp hz
    exact ((h.2.1 x hx).1.lt hB).2.2.2)
  rwa [List.length_map] at this
theorem c_from_lp {B : Nat → Int32} {F d aM aB N T m : Nat} (hB : PdK B F) (hd : d ≤ 60) (hN : N ≤ 190000) (hm : m ≤ 4) (hT : T + d + pdR B ≤ N) : ∀ (t k n : Nat) (s : PlS) (u : MS), k + t = m → t < n → CR B F d aM aB s u → PlI B d F N s → CN (xl_X6_putFrom_2 n (nI m) (nI T) (nI k) (fun _ _ _ => nrt 0)) u (fun _ v => CR B F d aM aB (pfrom B d T t k s) v) := by
  intro t
  induction t with
  | zero =>
    intro k n s u h1 h2 hC hP
    cases n with
    | zero => omega
    | succ n =>
      unfold xl_X6_putFrom_2
      exact CN_ite (fun _ => CN_rt hC) (fun z => absurd (nI_le (by omega) (by omega)) z)
  | succ t ih =>
    intro k n s u h1 h2 hC hP
    cases n with
    | zero => omega
    | succ n =>
      have nxt : ∀ (s2 : PlS) (v : MS), s2 = pmat B d s k T → CR B F d aM aB s2 v → CN (xl_X6_putFrom_2 n (nI m) (nI T) (nI k + 1) (fun _ _ _ => nrt 0)) v (fun _ v => CR B F d aM aB (pfrom B d T (t + 1) k s) v) := fun s2 v e hv => by
        rw [nI_1]
        show CN _ v (fun _ v => CR B F d aM aB (pfrom B d T t (k + 1) (pmat B d s k T)) v)
        rw [← e]
        exact ih (k + 1) n s2 v (by omega) (by omega) hv (by rw [e]; exact hP.mat hT)
      have hCs := hC
      obtain ⟨hCB, hCA, hCO, hCE⟩ := hC
      have hlen := hP.len hB
      have hmf := hP.2.2.2.2.2.1 k (by omega)
      unfold xl_X6_putFrom_2
      refine CN_ite (fun z => absurd z (nI_ge (by omega) (by omega))) (fun _ => CN_GT ?_)
      rw [rg_in (by omega) (by decide), hCA.2.1 k (by omega)]
      refine CN_ite (fun hlt => ?_) (fun hge => ?_)
      · rw [if_pos rfl]
        refine CN_li (nxt s u ?_ hCs)
        have hn : ¬ s.2.2.2.1 k ≤ T := fun z => absurd (nI_le z (by omega)) (Int32.not_le.mpr hlt)
        unfold pmat
        rw [if_neg hn]
      · have hy : s.2.2.2.1 k ≤ T := Nat.not_lt.mp (fun z => hge (nI_lt z (by omega)))
        refine CN_app (c_first hB hlen (fun x hx => (hP.2.1 x hx).1) (fun x hx => Nat.lt_of_le_of_lt (per_b hB hP (by omega) hx) (by decide)) (by omega) hCO hCE) (fun r v hr => ?_)
        obtain ⟨rfl, hr⟩ := hr
        rcases hr with ⟨rfl, e⟩ | ⟨p, x, rfl, ep, e⟩
        · rw [if_pos rfl]
          refine CN_li (nxt s v ?_ hCs)
          unfold pmat
          rw [if_pos hy, e]
          rfl
        · have hpl := (List.getElem?_eq_some_iff.mp ep).1
          have hxm : x ∈ s.1 := List.mem_of_getElem? ep
          obtain ⟨hxF, -⟩ := hP.2.1 x hxm
          obtain ⟨l1, l2, l3, l4⟩ := hxF.lt hB
          obtain ⟨q1, q2⟩ := div37 (x / 40) l1 (x % 40) l2
          have ex : 40 * (x / 40) + x % 40 = x := by omega
          rw [if_neg (nI_ne_1 (by omega))]
          refine CN_GT ?_
          rw [rg_in (by omega) (by decide), hCO.2 p x ep]
          have epd : pds x = 37 * (x / 40) + x % 40 := rfl
          rw [epd, q1]
          refine CN_li ?_
          rw [← q1, q2, q1]
          have hPf := hP.2.2.2.1
          have hle := hP.2.2.2.2.2.2.1
          refine CN_app (CN.same (tt_x_X6_put _ _ _ _) (c_put (d := d) (aM := aM) (aB := aB) (F := F) (s := s) hB hd (by rw [ex]; exact hxF) (by omega) (by omega) (by omega) (fun f hf => Nat.lt_of_le_of_lt (hPf f hf) (by omega)) (by omega) hCB hCA)) (fun _ v1 h1 => ?_)
          obtain ⟨s1, hA1⟩ := h1
          rw [ex] at hA1
          have hB1 := hCB.same s1 (by decide) (by decide)
          have hO1 := hCO.same s1 (by decide) (by decide)
          refine CN_app (CN.same (tt_x_X6_takeOutOfOrder _) (c_take hlen hpl hO1)) (fun _ v2 h2 => ?_)
          obtain ⟨s2, hO2⟩ := h2
          have hMx := hCB.ix
          have hB2 := hB1.same s2 (by decide) (by decide)
          have hA2 := hA1.same s2 (by decide) ⟨by decide, by decide, by decide, by simp; omega, by simp; omega⟩
          have epm : pput B d s x k T = pmat B d s k T := by
            unfold pmat
            rw [if_pos hy, e]
            rfl
          obtain ⟨s4, z1, z2, z3, z4, z5⟩ : ∃ s4, s4 = pmat B d s k T ∧ CRA B F aM aB s4 v2 ∧ PlI B d F N s4 ∧ s4.1 = s.1.eraseIdx p ∧ ∀ y, pdF B y → ¬ y / 40 = x / 40 → per B s4 y = per B s y := ⟨pput B d s x k T, epm, hA2.sec rfl, hP.put hT, (erI hP.nd ep).symm, fun y hy hyc => per_other hB hy hxF hyc⟩
          have z6 := z3.2.2.2.1
          have z7 := z3.2.2.2.2.1
          refine CN_app (c_erl (d := d) (aM := aM) (aB := aB) (s := s4) hB l1 (fun y hy => Nat.lt_of_le_of_lt (per_b hB z3 (by omega) hy) (by decide)) (fun f hf => by have := z6 f hf; omega) (fun y e z => by have := z7 y e z; omega) hB2 z2) (fun _ v3 h3 => ?_)
          obtain ⟨s3, hE3⟩ := h3
          refine CN_li (nxt s4 v3 z1 ⟨hB2.same s3 (by decide) (by decide), z2.same s3 (by decide) ⟨by decide, by decide, by decide, by simp; omega, by simp; omega⟩, ?_, fun y hy => ?_⟩)
          · rw [z4]
            exact hO2.same s3 (by decide) (by decide)
          · by_cases hyc : y / 40 = x / 40
            · exact (hE3 y hy).1 hyc
            · rw [(hE3 y hy).2 hyc, s2.2 25 (by decide), s1.2 25 (by decide), hCE y hy, z5 y hy hyc]
theorem c_from {B : Nat → Int32} {F d aM aB N T m : Nat} {s : PlS} {u : MS} (hB : PdK B F) (hd : d ≤ 60) (hN : N ≤ 190000) (hm : m ≤ 4) (hT : T + d + pdR B ≤ N) (hC : CR B F d aM aB s u) (hP : PlI B d F N s) : CN (x_X6_putFrom (nI m) (nI T)) u (fun _ v => CR B F d aM aB (pfrom B d T m 0 s) v) := by
  unfold x_X6_putFrom
  exact c_from_lp hB hd hN hm hT m 0 fuel s u (by omega) (by unfold fuel; omega) hC hP
theorem c_smat {B : Nat → Int32} {F d aM aB N m : Nat} {s : PlS} {u : MS} (hm : m ≤ 4) (hN : N ≤ 1000000) (hA : CRA B F aM aB s u) (hP : PlI B d F N s) : CN (x_X6_soonestMat (nI m)) u (fun r v => v = u ∧ r = nI (psm s m 0 1000000)) := by
  have lp : ∀ (t k n a : Nat), k + t = m → t < n → a ≤ 1000000 → CN (xl_X6_soonestMat_5 n (nI m) (nI a) (nI k) (fun _ v2 _ => nrt v2)) u (fun r v => v = u ∧ r = nI (psm s t k a)) := by
    intro t
    induction t with
    | zero =>
      intro k n a h1 h2 ha
      cases n with
      | zero => omega
      | succ n =>
        unfold xl_X6_soonestMat_5
        exact CN_ite (fun _ => CN_rt ⟨rfl, rfl⟩) (fun z => absurd (nI_le (by omega) (by omega)) z)
    | succ t ih =>
      intro k n a h1 h2 ha
      cases n with
      | zero => omega
      | succ n =>
        have hk := hP.2.2.2.2.2.1 k (by omega)
        unfold xl_X6_soonestMat_5
        refine CN_ite (fun z => absurd z (nI_ge (by omega) (by omega))) (fun _ => CN_GT ?_)
        rw [rg_in (by omega) (by decide), hA.2.1 k (by omega)]
        refine CN_li (CN_li ?_)
        rw [nI_min (by omega) (by omega), nI_1]
        exact ih (k + 1) n _ (by omega) (by omega) (Nat.le_trans (Nat.min_le_left _ _) ha)
  unfold x_X6_soonestMat
  exact lp m 0 fuel 1000000 (by omega) (by unfold fuel; omega) (Nat.le_refl _)
theorem c_sfight {B : Nat → Int32} {F d N : Nat} {s : PlS} {u : MS} (hB : PdK B F) (hN : N ≤ 1000000) (hP : PlI B d F N s) (hO : CRO s.1 u) (hE : CRE B s u) : CN x_X6_soonestFight u (fun r v => v = u ∧ r = nI (psf B s s.1 1000000)) := by
  have hlen := hP.len hB
  have lp : ∀ (l2 : List Nat) (k n a : Nat), s.1.drop k = l2 → k + l2.length = s.1.length → l2.length < n → a ≤ 1000000 → CN (xl_X6_soonestFight_5 n (nI a) (nI k) (fun v1 _ => nrt v1)) u (fun r v => v = u ∧ r = nI (psf B s l2 a)) := by
    intro l2
    induction l2 with
    | nil =>
      intro k n a h1 h2 h3 ha
      cases n with
      | zero => exact absurd h3 (Nat.not_lt_zero _)
      | succ n =>
        unfold xl_X6_soonestFight_5
        have h2' : k = s.1.length := h2
        exact CN_RFx hO.1 (CN_ite (fun _ => CN_rt ⟨rfl, rfl⟩) (fun z => absurd (nI_le (by omega) (by omega)) z))
    | cons x l2 ih =>
      intro k n a h1 h2 h3 ha
      cases n with
      | zero => exact absurd h3 (Nat.not_lt_zero _)
      | succ n =>
        have h2' : k + (l2.length + 1) = s.1.length := h2
        have h3' : l2.length + 1 < n + 1 := h3
        have ex : s.1[k]? = some x := by
          have := congrArg (fun z => z[0]?) h1
          simpa using this
        have hxF := (hP.2.1 x (List.mem_of_getElem? ex)).1
        have ed : s.1.drop (k + 1) = l2 := by
          rw [← List.drop_drop, h1]
          rfl
        have hb := per_b hB hP hN hxF
        unfold xl_X6_soonestFight_5
        refine CN_RFx hO.1 (CN_ite (fun z => absurd z (nI_ge (by omega) (by omega))) (fun _ => CN_GT ?_))
        rw [rg_in (by omega) (by decide), hO.2 k x ex]
        refine CN_GT ?_
        rw [rg_in (show pds x < 148 from (hxF.lt hB).2.2.2) (by decide), hE x hxF]
        refine CN_li (CN_li ?_)
        rw [nI_min (by omega) (by omega), nI_1]
        exact ih (k + 1) n _ ed (by omega) (by omega) (Nat.le_trans (Nat.min_le_left _ _) ha)
  unfold x_X6_soonestFight
  exact lp s.1 0 fuel 1000000 List.drop_zero (by omega) (by unfold fuel; omega) (Nat.le_refl _)
theorem pnx_b {B : Nat → Int32} {m T : Nat} {s : PlS} (hT : T ≤ 1000001) : pnx B m s T ≤ max (T + 1) 1000000 := Nat.max_le.mpr ⟨Nat.le_max_left _ _, Nat.le_trans (Nat.max_le.mpr ⟨(psm_le s m 0 1000000).1, (psf_le B s s.1 1000000).1⟩) (Nat.le_max_right _ _)⟩
theorem c_run_lp {B : Nat → Int32} {F d aM aB m : Nat} (hB : PdK B F) (hd : d ≤ 60) (hm : 1 ≤ m) (hm4 : m ≤ 4) (a : Int32) (R : PlS) (K : Int32 → Int32 → Int32 → Int32 → NG Int32) (Q : Int32 → MS → Prop) (u0 : MS) (hK : ∀ v3 v4 v, Same [17, 19] [21, 22, 23, 24, 25, 26, 27, 28, 29] u0 v → CR B F d aM aB R v → CN (K (nI m) a v3 v4) v Q) : ∀ (t j n T N : Nat) (s : PlS) (u : MS), j + t = 296 → t < n → Same [17, 19] [21, 22, 23, 24, 25, 26, 27, 28, 29] u0 u → CR B F d aM aB s u → PlI B d F N s → N + 180 * t ≤ 100000 → T ≤ 1000000 → (¬ s.1 = [] → T ≤ N) → prun B d m t T s = R → CN (xl_X6_planDay_47 n (nI m) a (nI T) (nI j) K) u Q := by
  have hR := hB.2.2.2.2.2.2.2.1
  intro t
  induction t with
  | zero =>
    intro j n T N s u h1 h2 hs0 hC hP hN hT1 hT2 hr
    cases n with
    | zero => omega
    | succ n =>
      unfold xl_X6_planDay_47
      refine CN_ite (fun _ => hK _ _ u hs0 ?_) (fun z => absurd (show (296 : Int32) ≤ nI j from nI_le (a := 296) (by omega) (by omega)) z)
      rw [← hr]
      exact hC
  | succ t ih =>
    intro j n T N s u h1 h2 hs0 hC hP hN hT1 hT2 hr
    cases n with
    | zero => omega
    | succ n =>
      have hlen := hP.len hB
      have hCs := hC
      obtain ⟨-, -, hCO, -⟩ := hC
      unfold xl_X6_planDay_47
      refine CN_ite (fun z => absurd z (show ¬ (296 : Int32) ≤ nI j from nI_ge (b := 296) (by omega) (by omega))) (fun _ => CN_RFx hCO.1 ?_)
      unfold prun at hr
      by_cases hs : s.1 = []
      · rw [if_pos hs] at hr
        rw [hs, if_pos (by decide)]
        refine hK _ _ u hs0 ?_
        rw [← hr]
        exact hCs
      · rw [if_neg hs] at hr
        have hpos : 0 < s.1.length := List.length_pos_iff.mpr hs
        have hTN := hT2 hs
        rw [if_neg (show ¬ nI s.1.length ≤ (0 : Int32) from nI_ge (a := 0) hpos (by omega))]
        have hP1 : PlI B d F (N + 180) s := hP.up (by omega)
        have hT3 : T + d + pdR B ≤ N + 180 := by omega
        have hP2 := PlI.from (F := F) hT3 m 0 s hP1
        refine CN_app (CN.same (tt_x_X6_putFrom _ _) (c_from hB hd (by omega) hm4 hT3 hCs hP1)) (fun _ v hv => ?_)
        obtain ⟨hs1, hv⟩ := hv
        generalize pfrom B d T m 0 s = s2 at hv hP2 hr
        refine CN_app (c_smat hm4 (by omega) hv.2.1 hP2) (fun r1 v1 q1 => ?_)
        obtain ⟨rfl, rfl⟩ := q1
        refine CN_app (c_sfight hB (by omega) hP2 hv.2.2.1 hv.2.2.2) (fun r2 v2 q2 => ?_)
        obtain ⟨rfl, rfl⟩ := q2
        have b1 := (psm_le s2 m 0 1000000).1
        have b2 := (psf_le B s2 s2.1 1000000).1
        rw [nI_1, nI_max (by omega) (by omega), nI_max (by omega) (by omega)]
        refine CN_li (CN_li ?_)
        rw [nI_1]
        refine ih (j + 1) n (pnx B m s2 T) (N + 180) s2 _ (by omega) (by omega) (hs0.trans (hs1.mono (by decide) (by decide))) hv hP2 (by omega) ?_ (fun h => pnx_le hB hP2 hm hm4 (by omega) h) hr
        exact Nat.le_trans (pnx_b (B := B) (m := m) (s := s2) (T := T) (by omega)) (Nat.max_le.mpr ⟨by omega, Nat.le_refl _⟩)

