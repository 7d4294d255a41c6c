/-! ===== the whole draw ===== -/
theorem cCell2 {m d : Nat} (hm : m < 4) (hd : d < 36) : (4 : Int32) + nI m * 36 + nI d = nI (4 + 36 * m + d) := by
  have e36 : nI m * 36 = nI (36 * m) := by
    have h := nI_mul m 36
    rw [Nat.mul_comm] at h
    exact h
  have e4 : (4 : Int32) + nI (36 * m) = nI (4 + 36 * m) := nI_add 4 (36 * m)
  rw [e36, e4, nI_add]
/-- a put to a cell of the class -/
theorem aq_cput {x : Int32} {W : Nat → Bool} {m d : Nat} (hm : m < 4) (hd : d < 36) (hx : x.toInt ≤ bB) {y : Int32} (hy : y.toInt ≤ bB) {u : MS} {ch C : Nat} (hKb : Kb u ch C) (hP : PSc (nI m) x W u) (hch : ch + 1 ≤ 1048576) : AQ [0, 60, 65] [0, 1, 2] 1 (x_X1_put (4 + nI m * 36 + nI d) y) u ch C (fun _ v _ _ => PSc (nI m) x W v) := by
  obtain ⟨r, v, c1, d1, ch', C', b1, b2, b3, b4, b5, b6, b7, b8, b9⟩ := aq_put (4 + nI m * 36 + nI d) y (Or.inl hy) u ch C hKb hch
  exact ⟨r, v, c1, d1, ch', C', b1, b2, b3, b4, b5, b6, b7, b8, hP.w hx _ _ (Or.inl ⟨4 + 36 * m + d, by omega, by omega, cCell2 hm hd⟩) b9 (b8.2 11 (by decide))⟩
theorem aq_all63 {x : Int32} {W : Nat → Bool} {m s : Nat} (hm : m < 4) (hs : s ≤ 32) (hx : x.toInt ≤ bB) (v2 v3 : Int32) (kK : Nat) (K : Int32 → Int32 → Int32 → Int32 → Int32 → AG Int32) (Q : Int32 → MS → Nat → Nat → Prop) (chM : Nat) (hK : ∀ v5 u ch C, Kb u ch C → PSc (nI m) x W u → ch ≤ chM → AQ dI dA kK (K (nI m) v2 v3 (nI s) v5) u ch C Q) : ∀ (t p n : Nat) (u : MS) (ch C : Nat), p + t = s → t < n → Kb u ch C → PSc (nI m) x W u → ch + t ≤ chM → chM ≤ 1048576 → AQ dI dA (t + kK) (xl_X2_placeAll_63 n (nI m) v2 v3 (nI s) (nI p) K) u ch C Q := by
  intro t
  induction t with
  | zero =>
    intro p n u ch C hp hn hKb hP hch hcM
    cases n with
    | zero => omega
    | succ n =>
      have : p = s := by omega
      subst this
      unfold xl_X2_placeAll_63
      exact AQ_ite (fun _ => (hK _ u ch C hKb hP (by omega)).up (by omega)) (fun z => absurd (Int32.le_refl _) z)
  | succ t ih =>
    intro p n u ch C hp hn hKb hP hch hcM
    cases n with
    | zero => omega
    | succ n =>
      unfold xl_X2_placeAll_63
      refine AQ_ite (fun z => absurd z (nI_ge (by omega) (by omega))) (fun _ => ?_)
      have e4 : (4 : Int32) + nI p = nI (4 + p) := nI_add 4 p
      refine AQ_n0 (a := 4 + nI m * 36 + (4 + nI p)) rfl ?_
      rw [e4]
      have e : t + 1 + kK = 1 + (t + kK) := by omega
      rw [e]
      refine AQ_cl (l1 := [0, 60, 65]) (l2 := [0, 1, 2]) (by decide) (by decide) ?_
      obtain ⟨r, v, c1, d1, ch', C', b1, b2, b3, b4, b5, b6, b7, b8, b9⟩ := aq_cput (W := W) hm (by omega : 4 + p < 36) hx (y := -1) (by decide) hKb hP (by omega)
      refine ⟨r, v, c1, d1, ch', C', b1, b2, b3, b4, b5, b6, b7, b8, fun hKv _ => AQ_li ?_⟩
      rw [nI_1]
      exact ih (p + 1) n v ch' C' (by omega) (by omega) hKv b9 (by omega) hcM
theorem PSc.w11 {c x : Int32} {W : Nat → Bool} {u v : MS} (h : PSc c x W u) (hs : Same [] [11] u v) (hR : Rww v) : PSc c x W v := by
  obtain ⟨a, b, -⟩ := h
  have e0 := hs.2 0 (by decide)
  exact ⟨by rw [e0]; exact a, fun k hk => by rw [e0]; exact b k hk, hR⟩
/-- behind the places: a tree's, a pool's placing -/
theorem aq_allK {x : Int32} {W : Nat → Bool} {m s : Nat} (hm : m < 4) (hs : s ≤ 32) (hx : x.toInt ≤ bB) (v2 v5 : Int32) {u : MS} {ch C : Nat} (hKb : Kb u ch C) (hP : PSc (nI m) x W u) (hch : ch + 48 * cb W x.toInt.toNat ≤ 1048576) : AQ dI dA (48 * cb W x.toInt.toNat) (if (0 : Int32) = 0 then anl (x_X2_makeRow (nI s)) (fun r_47 => acl (x_X2_placeSeeds (nI m)) (fun r_50 => acl (x_X2_placeOthers (nI m) v2) (fun r_59 => art (0 : Int32)))) else acl (x_X2_placePool (nI m)) (fun r_68 => art 0)) u ch C (fun _ v _ _ => Rww v) := by
  refine AQ_ite (fun _ => ?_) (fun z => absurd rfl z)
  obtain ⟨r, v, e, hs11, hR⟩ := makeRow_ok hP.2.2 (nI s) (by rw [nI_toInt (by omega)]; omega)
  refine AQ_nl e hs11 (by decide) (by decide) ?_
  have hKv := hKb.same hs11 (by decide) (by decide)
  have hPv := hP.w11 hs11 hR
  have e48 : 48 * cb W x.toInt.toNat = 16 * cb W x.toInt.toNat + (32 * cb W x.toInt.toNat + 0) := by omega
  rw [e48]
  refine AQ_cl (l1 := dI) (l2 := dA) (by decide) (by decide) ?_
  obtain ⟨r1, v1, c1, d1, ch', C', b1, b2, b3, b4, b5, b6, b7, b8, b9⟩ := aq_seeds hm hx v ch C hKv hPv (by omega)
  refine ⟨r1, v1, c1, d1, ch', C', b1, b2, b3, b4, b5, b6, b7, b8, fun hK1 _ => ?_⟩
  refine AQ_cl (l1 := dI) (l2 := dA) (by decide) (by decide) ?_
  obtain ⟨r2, w2, c2, d2, ch2, C2, e1, e2, e3, e4, e5, e6, e7, e8, e9⟩ := aq_others hm hx v2 v1 ch' C' hK1 b9 (by omega)
  exact ⟨r2, w2, c2, d2, ch2, C2, e1, e2, e3, e4, e5, e6, e7, e8, fun hK2 _ => AQ_rt hK2 e9.2.2⟩
theorem aq_allP {x : Int32} {W : Nat → Bool} {m : Nat} (hm : m < 4) (hN : cb W x.toInt.toNat ≤ 31) (hx : x.toInt ≤ bB) (v2 v4 v5 : Int32) {u : MS} {ch C : Nat} (hKb : Kb u ch C) (hP : PSc (nI m) x W u) (hch : ch + 2 * cb W x.toInt.toNat ≤ 1048576) : AQ dI dA (2 * cb W x.toInt.toNat) (if (1 : Int32) = 0 then anl (x_X2_makeRow v4) (fun r_47 => acl (x_X2_placeSeeds (nI m)) (fun r_50 => acl (x_X2_placeOthers (nI m) v2) (fun r_59 => art (0 : Int32)))) else acl (x_X2_placePool (nI m)) (fun r_68 => art 0)) u ch C (fun _ v _ _ => Rww v) := by
  refine AQ_ite (fun z => absurd z (by decide)) (fun _ => ?_)
  have e48 : 2 * cb W x.toInt.toNat = 2 * cb W x.toInt.toNat + 0 := rfl
  rw [e48]
  refine AQ_cl (l1 := dI) (l2 := dA) (by decide) (by decide) ?_
  have h9 := aq_pool (W := W) hm hx hN x.toInt.toNat 0 fuel u ch C (by omega) (by unfold bB at hx; unfold fuel; omega) hKb hP (by show ch + 2 * (cb W x.toInt.toNat - 0) ≤ _; omega)
  obtain ⟨r1, v1, c1, d1, ch', C', b1, b2, b3, b4, b5, b6, b7, b8, b9⟩ := h9
  exact ⟨r1, v1, c1, d1, ch', C', b1, b2, b3, b4, b5, b6, b7, b8, fun hK1 _ => AQ_rt hK1 b9.2.2⟩
theorem placesFor_c (a : Int32) : ∃ s, s ≤ 32 ∧ x_X2_placesFor a = nrt (nI s) := by
  unfold x_X2_placesFor
  by_cases h : 8 < a
  · rw [if_pos h]
    by_cases h2 : 16 < a
    · rw [if_pos h2]; exact ⟨32, by decide, rfl⟩
    · rw [if_neg h2]; exact ⟨16, by decide, rfl⟩
  · rw [if_neg h]; exact ⟨8, by decide, rfl⟩
theorem aq_all {x : Int32} {W : Nat → Bool} {m : Nat} (hm : m < 4) (hx : x.toInt ≤ bB) (hN : cb W x.toInt.toNat ≤ 32) {u : MS} {ch C : Nat} (hKb : Kb u ch C) (hP : PSc (nI m) x W u) (hch : ch + 1570 ≤ 1048576) : AQ dI dA 1570 (x_X2_placeAll (nI m) (nI (cb W x.toInt.toNat))) u ch C (fun _ v _ _ => Rww v) := by
  have hsm : ∀ s, s ≤ 32 → (nI s).toInt ≤ bB := fun s hs => by rw [nI_toInt (by omega)]; unfold bB; omega
  unfold x_X2_placeAll
  refine AQ_ite (fun h5 => ?_) (fun h5 => ?_)
  · refine AQ_ite (fun _ => ?_) (fun z => absurd rfl z)
    obtain ⟨s, hs, es⟩ := placesFor_c (nI (cb W x.toInt.toNat))
    refine AQ_n0 (a := nI s) (by rw [es]; rfl) (AQ_n0 (a := 4 + nI m * 36 + nI 2) rfl (AQ_ite (fun _ => ?_) (fun z => absurd rfl z)))
    refine AQ.up (k := 1 + (1 + (s + 48 * cb W x.toInt.toNat))) ?_ (by omega)
    refine AQ_cl (l1 := [0, 60, 65]) (l2 := [0, 1, 2]) (by decide) (by decide) ?_
    obtain ⟨r, v, c1, d1, ch', C', b1, b2, b3, b4, b5, b6, b7, b8, b9⟩ := aq_cput (W := W) hm (by decide : 2 < 36) hx (y := 2) (by decide) hKb hP (by omega)
    refine ⟨r, v, c1, d1, ch', C', b1, b2, b3, b4, b5, b6, b7, b8, fun hKv hc1 => ?_⟩
    refine AQ_n0 (a := 4 + nI m * 36 + nI 3) rfl (AQ_cl (l1 := [0, 60, 65]) (l2 := [0, 1, 2]) (by decide) (by decide) ?_)
    obtain ⟨r2, v2, c2, d2, ch2, C2, e1, e2, e3, e4, e5, e6, e7, e8, e9⟩ := aq_cput (W := W) hm (by decide : 3 < 36) hx (hsm s hs) hKv b9 (by omega)
    refine ⟨r2, v2, c2, d2, ch2, C2, e1, e2, e3, e4, e5, e6, e7, e8, fun hKw hc2 => ?_⟩
    exact aq_all63 hm hs hx _ 0 (48 * cb W x.toInt.toNat) _ _ (ch2 + s) (fun v5 u ch C hK2 hP2 hc3 => aq_allK hm hs hx _ v5 hK2 hP2 (by omega)) s 0 fuel v2 ch2 C2 (by omega) (by unfold fuel; omega) hKw e9 (by omega) (by omega)
  · have hN5 : cb W x.toInt.toNat ≤ 5 := by
      have h9 := i32_nlt h5
      have c5 : (5 : Int32).toInt = 5 := by decide
      rw [nI_toInt (by omega)] at h9
      omega
    refine AQ_ite (fun z => absurd z (by decide)) (fun _ => ?_)
    refine AQ_n0 (a := 4 + nI m * 36 + nI 2) rfl (AQ_ite (fun z => absurd z (by decide)) (fun _ => ?_))
    refine AQ.up (k := 1 + (1 + (cb W x.toInt.toNat + 2 * cb W x.toInt.toNat))) ?_ (by omega)
    refine AQ_cl (l1 := [0, 60, 65]) (l2 := [0, 1, 2]) (by decide) (by decide) ?_
    obtain ⟨r, v, c1, d1, ch', C', b1, b2, b3, b4, b5, b6, b7, b8, b9⟩ := aq_cput (W := W) hm (by decide : 2 < 36) hx (y := 1) (by decide) hKb hP (by omega)
    refine ⟨r, v, c1, d1, ch', C', b1, b2, b3, b4, b5, b6, b7, b8, fun hKv hc1 => ?_⟩
    refine AQ_n0 (a := 4 + nI m * 36 + nI 3) rfl (AQ_cl (l1 := [0, 60, 65]) (l2 := [0, 1, 2]) (by decide) (by decide) ?_)
    obtain ⟨r2, v2, c2, d2, ch2, C2, e1, e2, e3, e4, e5, e6, e7, e8, e9⟩ := aq_cput (W := W) hm (by decide : 3 < 36) hx (hsm _ (by omega : cb W x.toInt.toNat ≤ 32)) hKv b9 (by omega)
    refine ⟨r2, v2, c2, d2, ch2, C2, e1, e2, e3, e4, e5, e6, e7, e8, fun hKw hc2 => ?_⟩
    exact aq_all63 hm (by omega) hx _ 1 (2 * cb W x.toInt.toNat) _ _ (ch2 + cb W x.toInt.toNat) (fun v5 u ch C hK2 hP2 hc3 => aq_allP hm (by omega) hx _ _ v5 hK2 hP2 (by omega)) _ 0 fuel v2 ch2 C2 (by omega) (by unfold fuel; omega) hKw e9 (by omega) (by omega)
theorem as_draw (a : Int32) : AS 1570 (x_X11_draw a) := by
  unfold x_X11_draw
  rcases isClass_c a with e | ⟨e, m, hm, rfl⟩
  · rw [e]; exact AS_nrt (AS_ite (fun _ => AS_rt _) (fun z => absurd rfl z))
  · rw [e]
    refine AS_nrt (AS_ite (fun _ => AS_rt _) (fun _ => AS_ng (tt_x_X0_isDrawn _) (by decide) (fun _ => AS_ite (fun _ => ?_) (fun _ => AS_rt _))))
    intro u n ch C hC hch
    have hx : (rg (u.2 0) 2088 2).toInt ≤ bB := by
      have e2 : rg (u.2 0) 2088 2 = u.2 0 2 := rg_in (j := 2) (by decide) (by decide)
      rw [e2]
      exact hC.1.2.2.2.2.2.2.1
    have ew := weighedOf_eq u (nI m) hx
    have hret : ∀ z : Int32, ∃ r v c d n' ch' C', (art z : AG Int32) u = some (r, v, c, d) ∧ CS v n' ch' C' ∧ ch' ≤ ch + 1570 ∧ C ≤ C' ∧ d = 4 * (C' - C) ∧ 256 * c ≤ C' - C ∧ Same scI scA u v := fun z => ⟨z, u, 0, 0, n, ch, C, rfl, hC, by omega, by omega, by omega, by omega, Same.rf u⟩
    have hlift : ∀ (q : Int32 → AG Int32), (∃ r v c d n' ch' C', q (nI (cb (wq (u.2 0) (nI m)) (rg (u.2 0) 2088 2).toInt.toNat)) u = some (r, v, c, d) ∧ CS v n' ch' C' ∧ ch' ≤ ch + 1570 ∧ C ≤ C' ∧ d = 4 * (C' - C) ∧ 256 * c ≤ C' - C ∧ Same scI scA u v) → ∃ r v c d n' ch' C', anl (x_X8_weighedOf (nI m)) q u = some (r, v, c, d) ∧ CS v n' ch' C' ∧ ch' ≤ ch + 1570 ∧ C ≤ C' ∧ d = 4 * (C' - C) ∧ 256 * c ≤ C' - C ∧ Same scI scA u v := fun q hq => by
      obtain ⟨r, v, c, d, n', ch', C', b1, b2⟩ := hq
      exact ⟨r, v, c, d, n', ch', C', anl_eq ew b1, b2⟩
    refine hlift _ ?_
    have hcb := cb_le (P := wq (u.2 0) (nI m)) (rg (u.2 0) 2088 2).toInt.toNat
    by_cases h2 : nI (cb (wq (u.2 0) (nI m)) (rg (u.2 0) 2088 2).toInt.toNat) < 2
    · rw [if_pos h2]; exact hret _
    · rw [if_neg h2]
      by_cases h32 : nI (cb (wq (u.2 0) (nI m)) (rg (u.2 0) 2088 2).toInt.toNat) ≤ 32
      · rw [if_pos h32]
        have hN : cb (wq (u.2 0) (nI m)) (rg (u.2 0) 2088 2).toInt.toNat ≤ 32 := by
          have h9 := Int32.le_iff_toInt_le.mp h32
          have c5 : (32 : Int32).toInt = 32 := by decide
          unfold bB at hx
          rw [nI_toInt (by omega)] at h9
          omega
        rcases isFull_eq hC with ⟨hn, ef⟩ | ⟨hn, ef⟩
        · obtain ⟨v, ev, hv, hs, h0⟩ := hC.opn hn
          have hP : PSc (nI m) (rg (u.2 0) 2088 2) (wq (u.2 0) (nI m)) v := ⟨by rw [h0], fun k _ => by rw [h0], hv.2.2⟩
          obtain ⟨r, w, c, d, ch', C', b1, b2, b3, b4, b5, b6, b7, b8, b9⟩ := aq_all hm hx hN hv.1 hP hch
          have hw : CS w (n + 1) ch' C' := ⟨b2, hv.2.1.up (b8.1 1 (by decide)) (b8.2 3 (by decide)) b3, b9⟩
          obtain ⟨r1, w1, e1, s1⟩ := tt_x_X0_settle (nI m) w
          obtain ⟨r2, e2⟩ := (tt_x_X0_fightsOf (nI m)).pure w1
          refine ⟨r2, w1, c + 0, d + 0, n + 1, ch', C', ?_, hw.same s1 (by decide) (by decide), b4, b5, by omega, by omega, (hs.mono (by decide) (by decide)).trans ((b8.mono (by decide) (by decide)).trans (s1.mono (by decide) (by decide)))⟩
          refine anl_eq ef ?_
          rw [if_pos rfl]
          exact anl_eq ev (acl_eq b1 (anl_eq e1 (anl_eq e2 rfl)))
        · refine ⟨-4, u, 0, 0, n, ch, C, ?_, hC, by omega, by omega, by omega, by omega, Same.rf u⟩
          exact anl_eq ef rfl
      · rw [if_neg h32]; exact hret _

