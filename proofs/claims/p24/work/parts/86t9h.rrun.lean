/-! ===== the plan, the reference's side: minute by minute ===== -/
theorem pfst_nil {B : Nat → Int32} {s : PlS} {T : Nat} : pfst B s T [] = none := rfl
theorem pmat_nil {B : Nat → Int32} {d : Nat} {s : PlS} {k T : Nat} (h : s.1 = []) : pmat B d s k T = s := by
  unfold pmat
  rw [h, pfst_nil]
  split <;> rfl
theorem pfrom_nil {B : Nat → Int32} {d T : Nat} : ∀ (t k : Nat) (s : PlS), s.1 = [] → pfrom B d T t k s = s := by
  intro t
  induction t with
  | zero => exact fun k s _ => rfl
  | succ t ih =>
    intro k s h
    show pfrom B d T t (k + 1) (pmat B d s k T) = s
    rw [pmat_nil h]
    exact ih (k + 1) s h
/-- where nothing may begin nothing changes -/
theorem pfrom_idle {B : Nat → Int32} {d T m : Nat} {s : PlS} (h : (∀ j, j < m → ¬ s.2.2.2.1 j ≤ T) ∨ ∀ x, x ∈ s.1 → ¬ per B s x ≤ T) : ∀ (t k : Nat), k + t ≤ m → pfrom B d T t k s = s := by
  intro t
  induction t with
  | zero => exact fun k _ => rfl
  | succ t ih =>
    intro k hk
    have e : pmat B d s k T = s := by
      unfold pmat
      rcases h with h | h
      · rw [if_neg (h k (by omega))]
      · have : pfst B s T s.1 = none := List.find?_eq_none.mpr (fun x hx => by simpa using h x hx)
        rw [this]
        split <;> rfl
    show pfrom B d T t (k + 1) (pmat B d s k T) = s
    rw [e]
    exact ih (k + 1) (by omega)
/-- the reference's planner holds this -/
def RR (B : Nat → Int32) (F : Nat) (w : GS) (q : List Nat) (s : PlS) (v : GS) : Prop := RB B w v ∧ RA B F s v ∧ RQu q v ∧ s.1 = q.filter (fun x => (s.2.1 x).isNone) ∧ q.length ≤ 148 ∧ ∀ x, x ∈ q → pdF B x ∧ pdH B x
theorem pdH.nv {B : Nat → Int32} {x : Nat} (h : pdH B x) : ¬ pdV B x := fun z => by
  unfold pdV at z
  rcases h with h | h <;> rw [h] at z <;> revert z <;> decide
theorem fr_len {x : Nat} {l : List Nat} (hn : l.Nodup) (h : x ∈ l) : (l.filter (fun y => !(y == x))).length + 1 = l.length := by
  obtain ⟨p, hp, e⟩ := List.mem_iff_getElem.mp h
  have e2 : l[p]? = some x := by rw [List.getElem?_eq_getElem hp, e]
  rw [← erI hn e2, List.length_eraseIdx, if_pos hp]
  omega
theorem r_467 {B : Nat → Int32} {F d N t : Nat} {s : PlS} {w v : GS} {q : List Nat} (hB : PdK B F) (hR : R0 B w) (hD : ∀ x, pdF B x → ∃ n, Dr w (x / 40) n) (h : RR B F w q s v) (hI : PlI B d F N s) (hN : N < 1000000) (ht : t < 1000000) (v1 v3 v4 v7 : Int32) (K : Int32 → Int32 → Int32 → Int32 → Int32 → Int32 → Int32 → Int32 → Int32 → PG Int32) (Q : Int32 → GS → Prop) (hK : ∀ v9, Ok (K v1 (nI d) v3 v4 (nI q.length) (nI t) v7 ((pfst B s t s.1).elim (-1) nI) v9) v Q) : ∀ (l2 : List Nat) (k m : Nat), q.drop k = l2 → k + l2.length = q.length → l2.length + 1 < m → pfst B s t s.1 = l2.find? (fun x => (s.2.1 x).isNone && decide (per B s x ≤ t)) → Ok (lp_plan_467 m v1 (nI d) v3 v4 (nI q.length) (nI t) v7 (-1) (nI k) K) v Q := by
  obtain ⟨hb, hA, hQu, hqf, hlen, hqm⟩ := h
  intro l2
  induction l2 with
  | nil =>
    intro k m h1 h2 h3 h4
    cases m with
    | zero => exact absurd h3 (Nat.not_lt_zero _)
    | succ m =>
      have h2' : k = q.length := h2
      have hk := hK (nI k)
      rw [h4] at hk
      unfold lp_plan_467
      exact Ok_ite (fun _ => hk) (fun z => absurd (nI_le (by omega) (by omega)) z)
  | cons x l2 ih =>
    intro k m h1 h2 h3 h4
    cases m with
    | zero => exact absurd h3 (Nat.not_lt_zero _)
    | succ m =>
      have h2' : k + (l2.length + 1) = q.length := h2
      have h3' : l2.length + 1 + 1 < m + 1 := h3
      have ex : q[k]? = some x := by
        have := congrArg (fun z => z[0]?) h1
        simpa using this
      obtain ⟨hxF, hxH⟩ := hqm x (List.mem_of_getElem? ex)
      have hv := hxH.nv
      have ed : q.drop (k + 1) = l2 := by
        rw [← List.drop_drop, h1]
        rfl
      have h160 := (hxF.lt hB).2.2.1
      have a66 := hQu k x ex
      obtain ⟨a65, -⟩ := hA.2.2 x h160
      obtain ⟨n, hDx⟩ := hD x hxF
      have nxt : pfst B s t s.1 = l2.find? (fun x => (s.2.1 x).isNone && decide (per B s x ≤ t)) → Ok (pli (nI k + 1) (fun x_173 => lp_plan_467 m v1 (nI d) v3 v4 (nI q.length) (nI t) v7 (-1) x_173 K)) v Q := fun e => by
        refine Ok_li ?_
        rw [nI_1]
        exact ih (k + 1) m ed (by omega) (by omega) e
      unfold lp_plan_467
      refine Ok_ite (fun z => absurd z (nI_ge (by omega) (by omega))) (fun _ => Ok_ite (fun _ => ?_) (fun z => absurd rfl z))
      refine Ok_rdN rfl (by omega) (by decide) a66 (Ok_rdN rfl h160 (by decide) a65 ?_)
      cases en : s.2.1 x with
      | some e =>
        have e65 : rst B s x = 2 := by
          unfold rst
          rw [if_pos ⟨hxF, hv⟩, en]
          rfl
        rw [e65]
        refine Ok_ite (fun z => absurd z (by decide)) (fun _ => nxt ?_)
        rw [h4, List.find?_cons_of_neg (by rw [en]; simp)]
      | none =>
        have e65 : rst B s x = 1 := by
          unfold rst
          rw [if_pos ⟨hxF, hv⟩, en, if_neg (by decide)]
        rw [e65]
        refine Ok_ite (fun _ => Ok_rdN rfl (by omega) (by decide) a66 (Ok_clR (r_mayBegin hB hR hb hA hI hN ht hxF hv hDx) (fun r hr => ?_))) (fun z => absurd rfl z)
        subst hr
        by_cases hp : per B s x ≤ t
        · rw [if_pos hp]
          refine Ok_ite (fun z => absurd z (by decide)) (fun _ => Ok_rdN rfl (by omega) (by decide) a66 (Ok_li ?_))
          have ef : pfst B s t s.1 = some x := by rw [h4, List.find?_cons_of_pos (by rw [en]; simpa using hp)]
          have hk := hK (nI (k + 1))
          rw [ef] at hk
          rw [nI_1]
          cases m with
          | zero => omega
          | succ m =>
            unfold lp_plan_467
            refine Ok_ite (fun _ => hk) (fun _ => Ok_ite (fun z => absurd z (nI_ne_1 (by omega))) (fun _ => hk))
        · rw [if_neg hp]
          refine Ok_ite (fun _ => nxt ?_) (fun z => absurd rfl z)
          rw [h4, List.find?_cons_of_neg (by rw [en]; simpa using hp)]
theorem pfst_q {B : Nat → Int32} {s : PlS} {t : Nat} {q : List Nat} (h : s.1 = q.filter (fun x => (s.2.1 x).isNone)) : pfst B s t s.1 = q.find? (fun x => (s.2.1 x).isNone && decide (per B s x ≤ t)) := by
  rw [h]
  unfold pfst
  rw [List.find?_filter]
  congr 1
  funext x
  cases s.2.1 x <;> simp
/-- one fight begins, in the reference -/
theorem RR.put {B : Nat → Int32} {F d N k t x : Nat} {s : PlS} {w v v1 : GS} {q : List Nat} (hB : PdK B F) (h : RR B F w q s v) (hx : x ∈ s.1) (hI : PlI B d F N s) (hk : k < 4) (hE : Exc [70] (swd 71 (nI k) (nI (t + d)) (swd 64 (nI x) (nI t) (swd 63 (nI x) (nI k) (swd 65 (nI x) 2 v)))) v1) (h70 : ∀ f, f < F → Am v1 70 f (nI (phd (phd s.2.2.1 (pdW B x 0) (t + d + pdR B)) (pdW B x 1) (t + d + pdR B) f))) : RR B F w q (pput B d s x k t) v1 := by
  obtain ⟨hb, hA, hQu, hqf, hlen, hqm⟩ := h
  obtain ⟨hxF, hxH, hxN⟩ := hI.2.1 x hx
  have h160 := (hxF.lt hB).2.2.1
  have hE2 : Exc [63, 64, 65, 70, 71] v v1 := by
    have h1 : Exc [63, 64, 65, 70, 71] v (swd 71 (nI k) (nI (t + d)) (swd 64 (nI x) (nI t) (swd 63 (nI x) (nI k) (swd 65 (nI x) 2 v)))) := ((((Exc.rf v).wd (by decide) _ _).wd (by decide) _ _).wd (by decide) _ _).wd (by decide) _ _
    exact h1.trans (hE.up (by decide))
  refine ⟨⟨hb.1.ex hE2 (by decide), fun y hy hv => ?_⟩, ⟨h70, fun j hj => ?_, fun y hy => ?_⟩, fun j y e => hE2.am (by decide) (hQu j y e), ?_, hlen, hqm⟩
  · obtain ⟨a, b⟩ := hb.2 y hy hv
    exact ⟨hE2.am (by decide) a, hE2.am (by decide) b⟩
  · show ∃ g, Am v1 71 j (nI g) ∧ (g = upN s.2.2.2.1 k (t + d) j ∨ (g = 0 ∧ upN s.2.2.2.1 k (t + d) j = pdT B))
    by_cases he : j = k
    · rw [he, upN_e]
      exact ⟨t + d, hE.am (by decide) (sw_A (by omega)), Or.inl rfl⟩
    · rw [upN_n he]
      obtain ⟨g, g1, g2⟩ := hA.2.1 j hj
      exact ⟨g, hE.am (by decide) (sw_An (by omega) he (Am.o (by decide) (Am.o (by decide) (Am.o (by decide) g1)))), g2⟩
  · obtain ⟨a65, a63, a64⟩ := hA.2.2 y hy
    show Am v1 65 y (rst B (pput B d s x k t) y) ∧ Am v1 63 y (upN s.2.2.2.2.2.1 x (nI k) y) ∧ Am v1 64 y (upN s.2.2.2.2.2.2 x (nI t) y)
    by_cases he : y = x
    · subst he
      have e65 : rst B (pput B d s y k t) y = 2 := by
        unfold rst
        have : (pput B d s y k t).2.1 y = some (t + d) := upN_e
        rw [this, if_pos ⟨hxF, hxH.nv⟩]
        rfl
      rw [e65, upN_e, upN_e]
      exact ⟨hE.am (by decide) (Am.o (by decide) (Am.o (by decide) (Am.o (by decide) (sw_A (by omega))))), hE.am (by decide) (Am.o (by decide) (Am.o (by decide) (sw_A (by omega)))), hE.am (by decide) (Am.o (by decide) (sw_A (by omega)))⟩
    · have e65 : rst B (pput B d s x k t) y = rst B s y := by
        unfold rst
        have : (pput B d s x k t).2.1 y = s.2.1 y := upN_n he
        rw [this]
      rw [e65, upN_n he, upN_n he]
      exact ⟨hE.am (by decide) (Am.o (by decide) (Am.o (by decide) (Am.o (by decide) (sw_An (by omega) he a65)))), hE.am (by decide) (Am.o (by decide) (Am.o (by decide) (sw_An (by omega) he (Am.o (by decide) a63)))), hE.am (by decide) (Am.o (by decide) (sw_An (by omega) he (Am.o (by decide) (Am.o (by decide) a64))))⟩
  · show s.1.filter (fun y => !(y == x)) = q.filter (fun y => (upN s.2.1 x (some (t + d)) y).isNone)
    rw [hqf, List.filter_filter]
    congr 1
    funext y
    by_cases he : y = x
    · rw [he, upN_e]
      simp
    · rw [upN_n he]
      simp [he]
theorem r_436 {B : Nat → Int32} {F d N t M : Nat} {w : GS} {q : List Nat} (hB : PdK B F) (hR : R0 B w) (hD : ∀ x, pdF B x → ∃ n, Dr w (x / 40) n) (hN : N < 190000) (hM : M ≤ 4) (htN : t + d + pdR B ≤ N) (ht0 : pdT B ≤ t) (K : Int32 → Int32 → Int32 → Int32 → Int32 → Int32 → Int32 → PG Int32) (Q : Int32 → GS → Prop) (R : PlS) (hK : ∀ v v7, RR B F w q R v → Ok (K (nI M) (nI d) (nI R.1.length) (nI R.2.2.2.2.1) (nI q.length) (nI t) v7) v Q) : ∀ (j k m : Nat) (s : PlS) (v : GS), k + j = M → j < m → RR B F w q s v → PlI B d F N s → pfrom B d t j k s = R → Ok (lp_plan_436 m (nI M) (nI d) (nI s.1.length) (nI s.2.2.2.2.1) (nI q.length) (nI t) (nI k) K) v Q := by
  intro j
  induction j with
  | zero =>
    intro k m s v h1 h2 h hI hr
    cases m with
    | zero => omega
    | succ m =>
      have hr : s = R := hr
      subst hr
      unfold lp_plan_436
      exact Ok_ite (fun _ => hK v _ h) (fun z => absurd (nI_le (by omega) (by omega)) z)
  | succ j ih =>
    intro k m s v h1 h2 h hI hr
    cases m with
    | zero => omega
    | succ m =>
      have hlen := hI.len hB
      unfold lp_plan_436
      refine Ok_ite (fun z => absurd z (nI_ge (by omega) (by omega))) (fun _ => ?_)
      by_cases hs : s.1 = []
      · have hr2 : s = R := by rw [← hr]; exact (pfrom_nil (j + 1) k s hs).symm
        subst hr2
        have e0 : nI s.1.length ≤ 0 := by
          rw [hs]
          exact Int32.le_refl _
        exact Ok_ite (fun _ => hK v _ h) (fun z => absurd e0 z)
      have hpos : 0 < s.1.length := List.length_pos_iff.mpr hs
      refine Ok_ite (fun z => absurd z (show ¬ nI s.1.length ≤ nI 0 from nI_ge hpos (by omega))) (fun _ => ?_)
      have hr2 : pfrom B d t j (k + 1) (pmat B d s k t) = R := hr
      obtain ⟨g, g1, g2⟩ := h.2.1.2.1 k (by omega)
      have hmf := hI.2.2.2.2.2.1 k (by omega)
      have stay : pmat B d s k t = s → Ok (pli (nI k + 1) (fun x_213 => lp_plan_436 m (nI M) (nI d) (nI s.1.length) (nI s.2.2.2.2.1) (nI q.length) (nI t) x_213 K)) v Q := fun e => by
        rw [e] at hr2
        refine Ok_li ?_
        rw [nI_1]
        exact ih (k + 1) m s v (by omega) (by omega) h hI hr2
      refine Ok_rdN rfl (by omega) (by decide) g1 (Ok_ite (fun hle => ?_) (fun hnle => ?_))
      · have hgt : g ≤ t := by
          refine Nat.not_lt.mp (fun z => ?_)
          exact absurd hle (nI_ge z (by omega))
        have hmt : s.2.2.2.1 k ≤ t := by omega
        refine r_467 (d := d) hB hR hD h hI (by omega) (by omega) _ _ _ _ _ _ (fun v9 => ?_) q 0 fuel List.drop_zero (by omega) (by have := h.2.2.2.2.1; unfold fuel; omega) (pfst_q h.2.2.2.1)
        cases e : pfst B s t s.1 with
        | none =>
          refine Ok_ite (fun _ => stay ?_) (fun z => absurd rfl z)
          unfold pmat
          rw [if_pos hmt, e]
          rfl
        | some x =>
          have hxm := List.mem_of_find?_eq_some e
          obtain ⟨hxF, hxH, hxN⟩ := hI.2.1 x hxm
          have h160 := (hxF.lt hB).2.2.1
          obtain ⟨a67, a68⟩ := h.1.2 x hxF hxH.nv
          have hff := hI.2.2.2.1
          have hle := hI.2.2.2.2.2.2.1
          have epm : pmat B d s k t = pput B d s x k t := by
            unfold pmat
            rw [if_pos hmt, e]
            rfl
          rw [epm] at hr2
          refine Ok_ite (fun z => absurd z (show ¬ nI x = -1 from nI_ne_1 (by omega))) (fun _ => ?_)
          show Ok (pwd 65 160 (nI x) 2 _) v Q
          refine Ok_wdN rfl h160 (by decide) (Ok_wdN rfl h160 (by decide) (Ok_wdN rfl h160 (by decide) (Ok_wdN rfl (by omega) (by decide) ?_)))
          rw [nI_add]
          have hEx : Exc [63, 64, 65, 71] v (swd 71 (nI k) (nI (t + d)) (swd 64 (nI x) (nI t) (swd 63 (nI x) (nI k) (swd 65 (nI x) 2 v)))) := ((((Exc.rf v).wd (by decide) _ _).wd (by decide) _ _).wd (by decide) _ _).wd (by decide) _ _
          refine Ok_cl (r_tires (g := s.2.2.1) hB hR (h.1.1.ex hEx (by decide)) hxF (hEx.am (by decide) a67) (hEx.am (by decide) a68) (fun f hf => hEx.am (by decide) (h.2.1.1 f hf)) (fun f hf => Nat.lt_of_le_of_lt (hff f hf) (by omega)) (by omega) (fun r v1 hv1 hv2 => Ok_li (Ok_li (Ok_li ?_))))
          have hput := RR.put (d := d) (t := t) hB h hxm hI (by omega) hv1 hv2
          have hfl := fr_len hI.nd hxm
          have el : nI s.1.length + -1 = nI (pput B d s x k t).1.length := by
            show nI s.1.length + -1 = nI (s.1.filter (fun y => !(y == x))).length
            rw [nI_dec hpos, show s.1.length - 1 = (s.1.filter (fun y => !(y == x))).length from by omega]
          rw [el, nI_max (by omega) (by omega), nI_1]
          exact ih (k + 1) m (pput B d s x k t) v1 (by omega) (by omega) hput (hI.put htN) hr2
      · refine stay ?_
        have : ¬ s.2.2.2.1 k ≤ t := fun z => hnle (nI_le (by omega) (by omega))
        unfold pmat
        rw [if_neg this]
theorem r_429 {B : Nat → Int32} {F d M : Nat} {w : GS} {q : List Nat} (hB : PdK B F) (hR : R0 B w) (hD : ∀ x, pdF B x → ∃ n, Dr w (x / 40) n) (hd : d ≤ 60) (hM1 : 1 ≤ M) (hM : M ≤ 4) (K : Int32 → Int32 → Int32 → Int32 → Int32 → Int32 → PG Int32) (Q : Int32 → GS → Prop) (R : PlS) (hRn : R.1 = []) (hK : ∀ v v6, RR B F w q R v → Ok (K (nI M) (nI d) (nI 0) (nI R.2.2.2.2.1) (nI q.length) v6) v Q) : ∀ (n g T t N m : Nat) (s : PlS) (v : GS), T - t = g → t ≤ T → 100001 - t < m → RR B F w q s v → PlI B d F N s → N + 180 * n ≤ 100000 → pdT B ≤ t → (¬ s.1 = [] → T ≤ N) → (∀ t', t ≤ t' → t' < T → (∀ j, j < M → ¬ s.2.2.2.1 j ≤ t') ∨ ∀ x, x ∈ s.1 → ¬ per B s x ≤ t') → prun B d M n T s = R → Ok (lp_plan_429 m (nI M) (nI d) (nI s.1.length) (nI s.2.2.2.2.1) (nI q.length) (nI t) K) v Q := by
  have hRb := hB.2.2.2.2.2.2.2.1
  have done : ∀ (m t : Nat) (s : PlS) (v : GS), 0 < m → RR B F w q s v → s.1 = [] → s = R → Ok (lp_plan_429 m (nI M) (nI d) (nI s.1.length) (nI s.2.2.2.2.1) (nI q.length) (nI t) K) v Q := fun m t s v hm h hs e => by
    cases m with
    | zero => omega
    | succ m =>
      have e0 : s.1.length = 0 := by rw [hs]; rfl
      have hk := hK v (nI t) (by rw [← e]; exact h)
      rw [← e] at hk
      unfold lp_plan_429
      rw [e0]
      exact Ok_ite (fun _ => hk) (fun z => absurd (Int32.le_refl _) z)
  intro n
  induction n with
  | zero =>
    intro g T t N m s v hg htT hm h hI hN ht0 hTN hid hr
    have hr : s = R := hr
    exact done m t s v (by omega) h (by rw [hr]; exact hRn) hr
  | succ n ihn =>
    intro g
    induction g with
    | zero =>
      intro T t N m s v hg htT hm h hI hN ht0 hTN hid hr
      by_cases hs : s.1 = []
      · unfold prun at hr
        rw [if_pos hs] at hr
        exact done m t s v (by omega) h hs hr
      have hlen := hI.len hB
      have hpos : 0 < s.1.length := List.length_pos_iff.mpr hs
      have hTN2 := hTN hs
      unfold prun at hr
      rw [if_neg hs] at hr
      have etT : t = T := by omega
      subst etT
      cases m with
      | zero => omega
      | succ m =>
        have hI1 : PlI B d F (N + 180) s := hI.up (by omega)
        have hI2 := PlI.from (F := F) (N := N + 180) (T := t) (by omega) M 0 s hI1
        unfold lp_plan_429
        refine Ok_ite (fun z => absurd z (show ¬ nI s.1.length ≤ nI 0 from nI_ge hpos (by omega))) (fun _ => ?_)
        refine r_436 (N := N + 180) hB hR hD (by omega) hM (by omega) ht0 _ _ (pfrom B d t M 0 s) (fun v2 v7 h2 => ?_) M 0 fuel s v (by omega) (by unfold fuel; omega) h hI1 rfl
        have hle := hI2.2.2.2.2.2.2.1
        generalize pfrom B d t M 0 s = s2 at hI2 hr h2 hle ⊢
        refine Ok_ite (fun z => absurd z (Int32.not_lt.mpr (show nI s2.2.2.2.2.1 ≤ nI 100000 from nI_le (by omega) (by omega)))) (fun _ => Ok_ite (fun _ => Ok_li ?_) (fun z => absurd (show nI t ≤ nI 100000 from nI_le (by omega) (by omega)) z))
        rw [nI_1]
        refine ihn (pnx B M s2 t - (t + 1)) (pnx B M s2 t) (t + 1) (N + 180) m s2 v2 rfl (Nat.le_max_left _ _) (by omega) h2 hI2 (by omega) (by omega) (fun z => pnx_le hB hI2 hM1 hM (by omega) z) (fun t' h1 h3 => ?_) hr
        have h4 : t' < psm s2 M 0 1000000 ∨ t' < psf B s2 s2.1 1000000 := by
          unfold pnx at h3
          omega
        rcases h4 with h4 | h4
        · refine Or.inl (fun j hj z => ?_)
          have := (psm_le s2 M 0 1000000).2 j (Nat.zero_le _) (by omega)
          omega
        · refine Or.inr (fun x hx z => ?_)
          have := (psf_le B s2 s2.1 1000000).2 x hx
          omega
    | succ g ihg =>
      intro T t N m s v hg htT hm h hI hN ht0 hTN hid hr
      by_cases hs : s.1 = []
      · unfold prun at hr
        rw [if_pos hs] at hr
        exact done m t s v (by omega) h hs hr
      have hlen := hI.len hB
      have hpos : 0 < s.1.length := List.length_pos_iff.mpr hs
      have hTN2 := hTN hs
      cases m with
      | zero => omega
      | succ m =>
        have hI1 : PlI B d F (N + 180) s := hI.up (by omega)
        have hle := hI.2.2.2.2.2.2.1
        have eid := pfrom_idle (d := d) (hid t (Nat.le_refl _) (by omega)) M 0 (by omega)
        unfold lp_plan_429
        refine Ok_ite (fun z => absurd z (show ¬ nI s.1.length ≤ nI 0 from nI_ge hpos (by omega))) (fun _ => ?_)
        refine r_436 (N := N + 180) hB hR hD (by omega) hM (by omega) ht0 _ _ s (fun v2 v7 h2 => ?_) M 0 fuel s v (by omega) (by unfold fuel; omega) h hI1 eid
        refine Ok_ite (fun z => absurd z (Int32.not_lt.mpr (show nI s.2.2.2.2.1 ≤ nI 100000 from nI_le (by omega) (by omega)))) (fun _ => Ok_ite (fun _ => Ok_li ?_) (fun z => absurd (show nI t ≤ nI 100000 from nI_le (by omega) (by omega)) z))
        rw [nI_1]
        exact ihg T (t + 1) N m s v2 (by omega) (by omega) (by omega) h2 hI hN (by omega) hTN (fun t' h1 h3 => hid t' (by omega) h3) hr

