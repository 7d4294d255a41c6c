/-! ===== the plan, the class's side: the whole day ===== -/
/-- the fights in order of their stage, their class, their number, up to a place -/
def plO (B : Nat → Int32) : Nat → List Nat
  | 0 => []
  | P + 1 => plO B P ++ (if pdF B (P % 160) ∧ pdH B (P % 160) ∧ pdG B (P % 160) = P / 160 then [P % 160] else [])
theorem plO_s {B : Nat → Int32} {s x : Nat} (hx : x < 160) : plO B (160 * s + x + 1) = plO B (160 * s + x) ++ (if pdF B x ∧ pdH B x ∧ pdG B x = s then [x] else []) := by
  have e1 : (160 * s + x) % 160 = x := by omega
  have e2 : (160 * s + x) / 160 = s := by omega
  show plO B (160 * s + x) ++ (if pdF B ((160 * s + x) % 160) ∧ pdH B ((160 * s + x) % 160) ∧ pdG B ((160 * s + x) % 160) = (160 * s + x) / 160 then [(160 * s + x) % 160] else []) = _
  rw [e1, e2]
theorem plO_mem {B : Nat → Int32} {F : Nat} (hB : PdK B F) : ∀ (P x : Nat), x ∈ plO B P ↔ (pdF B x ∧ pdH B x ∧ pky B x < P) := by
  intro P
  induction P with
  | zero => exact fun x => ⟨fun h => absurd h List.not_mem_nil, fun h => absurd h.2.2 (Nat.not_lt_zero _)⟩
  | succ P ih =>
    intro x
    show x ∈ plO B P ++ (if pdF B (P % 160) ∧ pdH B (P % 160) ∧ pdG B (P % 160) = P / 160 then [P % 160] else []) ↔ _
    rw [List.mem_append, ih x]
    refine ⟨fun h => ?_, fun h => ?_⟩
    · rcases h with ⟨a, b, c⟩ | h
      · exact ⟨a, b, by omega⟩
      · split at h
        · next y =>
          have e := List.mem_singleton.mp h
          rw [e]
          refine ⟨y.1, y.2.1, ?_⟩
          have := y.2.2
          unfold pky
          omega
        · exact absurd h List.not_mem_nil
    · obtain ⟨a, b, c⟩ := h
      rcases Nat.lt_or_ge (pky B x) P with z | z
      · exact Or.inl ⟨a, b, z⟩
      · refine Or.inr ?_
        have hx := (a.lt hB).2.2.1
        have e : pky B x = P := by omega
        unfold pky at e
        have e1 : P % 160 = x := by omega
        have e2 : P / 160 = pdG B x := by omega
        rw [e1, e2, if_pos ⟨a, b, rfl⟩]
        exact List.mem_singleton.mpr rfl
theorem plO_srt {B : Nat → Int32} {F : Nat} (hB : PdK B F) : ∀ (P : Nat), (plO B P).Pairwise (fun x y => pky B x < pky B y) := by
  intro P
  induction P with
  | zero => exact List.Pairwise.nil
  | succ P ih =>
    show (plO B P ++ (if pdF B (P % 160) ∧ pdH B (P % 160) ∧ pdG B (P % 160) = P / 160 then [P % 160] else [])).Pairwise _
    refine List.pairwise_append.mpr ⟨ih, ?_, fun x hx y hy => ?_⟩
    · split
      · exact List.pairwise_singleton _ _
      · exact List.Pairwise.nil
    · split at hy
      · next z =>
        have e := List.mem_singleton.mp hy
        have h1 := ((plO_mem hB P x).mp hx).2.2
        have h2 := z.2.2
        have e3 : pky B y = P := by
          unfold pky
          rw [e]
          omega
        omega
      · exact absurd hy List.not_mem_nil
theorem plO_len {B : Nat → Int32} {F : Nat} (hB : PdK B F) (P : Nat) : (plO B P).length ≤ 148 := by
  have hn : (plO B P).Nodup := (plO_srt hB P).imp (fun {x y} z => by
    intro e
    rw [e] at z
    exact Nat.lt_irrefl _ z)
  have h1 : ((plO B P).map pds).Nodup := by
    refine List.pairwise_map.mpr (List.Pairwise.imp_of_mem (fun {x y} hx hy hne e => ?_) hn)
    exact hne (pds_inj (((plO_mem hB P x).mp hx).1.lt hB).2.1 (((plO_mem hB P y).mp hy).1.lt hB).2.1 e)
  have := nd_len (n := 148) h1 (fun z hz => by
    obtain ⟨x, hx, rfl⟩ := List.mem_map.mp hz
    exact (((plO_mem hB P x).mp hx).1.lt hB).2.2.2)
  rwa [List.length_map] at this
/-- where a class has no more fights the list stays -/
theorem plO_skip {B : Nat → Int32} {s c n : Nat} (hc : c < 4) (hn : nFi B c ≤ n) : ∀ j, n + j ≤ 40 → plO B (160 * s + (40 * c + (n + j))) = plO B (160 * s + (40 * c + n)) := by
  intro j
  induction j with
  | zero => exact fun _ => rfl
  | succ j ih =>
    intro h
    have e := plO_s (B := B) (s := s) (x := 40 * c + (n + j)) (by omega)
    have hno : ¬ pdF B (40 * c + (n + j)) := fun z => by
      have z2 := z.2
      rw [(d40 (c := c) (i := n + j) (by omega)).1, (d40 (c := c) (i := n + j) (by omega)).2] at z2
      omega
    rw [if_neg (fun z => hno z.1), List.append_nil, ih (by omega)] at e
    exact e
theorem CRO.push {l : List Nat} {x : Nat} {u : MS} (h : CRO l u) (hl : l.length < 148) : CRO (l ++ [x]) (si (sf u 21 (upd (u.2 21) l.length (nI (pds x)))) 17 (nI (l.length + 1))) := by
  refine ⟨by rw [List.length_append]; rfl, fun k y e => ?_⟩
  show (sf u 21 (upd (u.2 21) l.length (nI (pds x)))).2 21 k = nI (pds y)
  rw [sfE]
  by_cases hk : k < l.length
  · rw [upd_n (by omega)]
    rw [List.getElem?_append_left hk] at e
    exact h.2 k y e
  · rw [List.getElem?_append_right (by omega)] at e
    have hk2 : k - l.length = 0 := by
      have := (List.getElem?_eq_some_iff.mp e).1
      rw [List.length_singleton] at this
      omega
    rw [hk2] at e
    have e3 : x = y := by simpa using e
    have e4 : k = l.length := by omega
    rw [e4, upd_e, e3]
theorem c_stg {B : Nat → Int32} {F d aM aB s c : Nat} (hB : PdK B F) (hs : s ≤ 20) (hc : c < 4) : ∀ (t i n : Nat) (u : MS), i + t = nFi B c → t < n → CB B d aM aB u → CRO (plO B (160 * s + (40 * c + i))) u → CN (xl_X6_putStageInOrder_2 n (nI s) (nI c) (nI i) (fun _ _ _ => nrt 0)) u (fun _ v => CRO (plO B (160 * s + (40 * c + nFi B c))) v) := by
  have hk := hB.1 c hc
  have h37 := hk.n37
  intro t
  induction t with
  | zero =>
    intro i n u h1 h2 hC hO
    cases n with
    | zero => omega
    | succ n =>
      unfold xl_X6_putStageInOrder_2
      refine CN_rd (e_fightsOf hC.1 hc hk) (CN_ite (fun _ => CN_rt ?_) (fun z => absurd (nI_le (by omega) (by omega)) z))
      have e : i = nFi B c := by omega
      rw [← e]
      exact hO
  | succ t ih =>
    intro i n u h1 h2 hC hO
    cases n with
    | zero => omega
    | succ n =>
      have hi : i < nFi B c := by omega
      obtain ⟨d1, d2⟩ := d40 (c := c) (i := i) (by omega)
      have hx : pdF B (40 * c + i) := ⟨by rw [d1]; exact hc, by rw [d1, d2]; exact hi⟩
      have hpl := plO_s (B := B) (s := s) (x := 40 * c + i) (by omega)
      have hr := (hC.2.2.2.2 _ hx).2.2
      rw [pds_at (by omega)] at hr
      have est : x_X0_stageOf (nI c) (nI i) u = some (nI (pdG B (40 * c + i)), u) := by
        have := e_stageOf (u := u) hc (by rw [hC.1]; exact hk) (by rw [hC.1]; exact hi)
        rw [hC.1] at this
        exact this
      have hg := hB.2.2.2.2.1 _ hx
      have nxt : ∀ v, CB B d aM aB v → CRO (plO B (160 * s + (40 * c + i) + 1)) v → CN (nli (nI i + 1) (fun x_10 => xl_X6_putStageInOrder_2 n (nI s) (nI c) x_10 (fun _ _ _ => nrt 0))) v (fun _ v => CRO (plO B (160 * s + (40 * c + nFi B c))) v) := fun v hCv hOv => by
        refine CN_li ?_
        rw [nI_1]
        exact ih (i + 1) n v (by omega) (by omega) hCv hOv
      have stay : ¬ (pdH B (40 * c + i) ∧ pdG B (40 * c + i) = s) → CRO (plO B (160 * s + (40 * c + i) + 1)) u := fun z => by
        rw [hpl, if_neg (fun y => z y.2), List.append_nil]
        exact hO
      have body : pdH B (40 * c + i) → CN (ncl (x_X0_stageOf (nI c) (nI i)) (fun r_12 => (if r_12 = nI s then ncl (nRF 17) (fun x_18 => ncl (x_X0_slot (nI c) (nI i)) (fun r_22 => ncl (nST 21 148 x_18 r_22) (fun _ => ncl (nRF 17) (fun x_29 => ncl (nWF 17 (x_29 + 1)) (fun _ => nli (nI i + 1) (fun x_37 => xl_X6_putStageInOrder_2 n (nI s) (nI c) x_37 (fun _ _ _ => nrt 0))))))) else nli (nI i + 1) (fun x_16 => xl_X6_putStageInOrder_2 n (nI s) (nI c) x_16 (fun _ _ _ => nrt 0))))) u (fun _ v => CRO (plO B (160 * s + (40 * c + nFi B c))) v) := fun hh => by
        refine CN_rd est (CN_ite (fun z => ?_) (fun z => nxt u hC (stay (fun y => z (by rw [y.2])))))
        have eg : pdG B (40 * c + i) = s := (nI_eq (by omega) (by omega)).mp z
        have hpl2 := hpl
        rw [if_pos ⟨hx, hh, eg⟩] at hpl2
        have hlen := plO_len hB (160 * s + (40 * c + i) + 1)
        rw [hpl2, List.length_append, List.length_singleton] at hlen
        refine CN_RFx hO.1 ?_
        rw [e_slot, ncl_rt]
        refine CN_ST ?_
        rw [wrN _ (by omega) (by decide)]
        have e17 : (sf u 21 (upd (u.2 21) (plO B (160 * s + (40 * c + i))).length (nI (37 * c + i)))).1 17 = nI (plO B (160 * s + (40 * c + i))).length := hO.1
        refine CN_RFx e17 (CN_WF ?_)
        rw [nI_1 (plO B (160 * s + (40 * c + i))).length]
        have hp := hO.push (x := 40 * c + i) (by omega)
        rw [pds_at (by omega), ← hpl2] at hp
        refine nxt _ (hC.same (LI := [17]) (LA := [21]) ((Same_sf (by decide)).trans (Same_si (by decide))) (by decide) (by decide)) hp
      unfold xl_X6_putStageInOrder_2
      refine CN_rd (e_fightsOf hC.1 hc hk) (CN_ite (fun z => absurd z (nI_ge (by omega) (by omega))) (fun _ => CN_rd (e_stateOf hc (by omega) u) ?_))
      rw [hr]
      refine CN_ite (fun h0 => ?_) (fun h0 => CN_rd (e_stateOf hc (by omega) u) ?_)
      · rw [if_neg (by decide)]
        exact body (Or.inl h0)
      · rw [hr]
        refine CN_ite (fun h1 => ?_) (fun h1 => ?_)
        · rw [if_neg (by decide)]
          exact body (Or.inr h1)
        · rw [if_pos rfl]
          exact nxt u hC (stay (fun y => y.1.elim h0 h1))
theorem c_order {B : Nat → Int32} {F d aM aB : Nat} {u : MS} (hB : PdK B F) (hC : CB B d aM aB u) : CN x_X6_putInOrder u (fun _ v => CRO (plO B 3360) v) := by
  have l15 : ∀ (s : Nat), s ≤ 20 → ∀ (K : Int32 → Int32 → NG Int32) (Q : Int32 → MS → Prop), (∀ v v2, CB B d aM aB v → CRO (plO B (160 * (s + 1))) v → CN (K (nI s) v2) v Q) → ∀ (t c n : Nat) (v : MS), c + t = 4 → t < n → CB B d aM aB v → CRO (plO B (160 * s + 40 * c)) v → CN (xl_X6_putInOrder_15 n (nI s) (nI c) K) v Q := by
    intro s hs K Q hK t
    induction t with
    | zero =>
      intro c n v h1 h2 hCv hO
      cases n with
      | zero => omega
      | succ n =>
        unfold xl_X6_putInOrder_15
        refine CN_ite (fun _ => hK v _ hCv ?_) (fun z => absurd (show (4 : Int32) ≤ nI c from nI_le (a := 4) (by omega) (by omega)) z)
        have e : 160 * (s + 1) = 160 * s + 40 * c := by omega
        rw [e]
        exact hO
    | succ t ih =>
      intro c n v h1 h2 hCv hO
      cases n with
      | zero => omega
      | succ n =>
        unfold xl_X6_putInOrder_15
        refine CN_ite (fun z => absurd z (show ¬ (4 : Int32) ≤ nI c from nI_ge (b := 4) (by omega) (by decide))) (fun _ => ?_)
        have h37 := (hB.1 c (by omega)).n37
        refine CN_app (CN.same (tt_x_X6_putStageInOrder _ _) (c_stg hB hs (by omega) (nFi B c) 0 fuel v (by omega) (by unfold fuel; omega) hCv hO)) (fun _ v2 h3 => CN_li ?_)
        obtain ⟨hs2, hO2⟩ := h3
        rw [nI_1]
        refine ih (c + 1) n v2 (by omega) (by omega) (hCv.same hs2 (by decide) (by decide)) ?_
        have e := plO_skip (B := B) (s := s) (c := c) (n := nFi B c) (by omega) (Nat.le_refl _) (40 - nFi B c) (by omega)
        have e2 : 160 * s + 40 * (c + 1) = 160 * s + (40 * c + (nFi B c + (40 - nFi B c))) := by omega
        rw [e2, e]
        exact hO2
  have l7 : ∀ (t s n : Nat) (v : MS), s + t = 21 → t < n → CB B d aM aB v → CRO (plO B (160 * s)) v → CN (xl_X6_putInOrder_7 n (nI s) (fun _ => nrt 0)) v (fun _ v => CRO (plO B 3360) v) := by
    intro t
    induction t with
    | zero =>
      intro s n v h1 h2 hCv hO
      cases n with
      | zero => omega
      | succ n =>
        unfold xl_X6_putInOrder_7
        have e : s = 21 := by omega
        subst e
        exact CN_ite (fun _ => CN_rt hO) (fun z => absurd (by decide) z)
    | succ t ih =>
      intro s n v h1 h2 hCv hO
      cases n with
      | zero => omega
      | succ n =>
        unfold xl_X6_putInOrder_7
        refine CN_ite (fun z => absurd z (Int32.not_lt.mpr (show nI s ≤ (20 : Int32) from nI_le (b := 20) (by omega) (by decide)))) (fun _ => ?_)
        refine l15 s (by omega) _ _ (fun v v2 hCv hO => CN_li ?_) 4 0 fuel v (by omega) (by unfold fuel; omega) hCv hO
        rw [nI_1]
        exact ih (s + 1) n v (by omega) (by omega) hCv hO
  unfold x_X6_putInOrder
  refine CN_WF ?_
  exact l7 21 0 fuel _ (by omega) (by unfold fuel; omega) (hC.same (LI := [17]) (LA := []) (Same_si (by decide)) (by decide) (by decide)) ⟨rfl, fun k x e => by simp [plO] at e⟩

