section
/-! ===== the tape on both sides ===== -/
def TpR (tp : Nat) (u : MS) (w : GS) : Prop := ∃ T : Nat → Nat, TC T tp u ∧ ∀ i, i < tp → w.1.2 40 i = sb (T i)
def FtR (u : MS) (w : GS) : Prop := u.1 11 = w.1.1 49 ∧ u.1 10 = w.1.1 50
theorem TpR.fr {tp : Nat} {u v : MS} {w w2 : GS} (h : TpR tp u w) (h2 : v.1 2 = u.1 2) (h4 : v.2 4 = u.2 4) (h40 : w2.1.2 40 = w.1.2 40) : TpR tp v w2 := by
  obtain ⟨T, ⟨a, b, c⟩, d⟩ := h
  exact ⟨T, ⟨a, h2.trans b, fun i hi => ⟨(c i hi).1, by rw [h4]; exact (c i hi).2⟩⟩, fun i hi => by rw [h40]; exact d i hi⟩
theorem TpR.cut {tp n : Nat} {u v : MS} {w w2 : GS} (h : TpR tp u w) (hn : n ≤ tp) (h2 : v.1 2 = nI n) (h4 : v.2 4 = u.2 4) (h40 : w2.1.2 40 = w.1.2 40) : TpR n v w2 := by
  obtain ⟨T, ⟨a, b, c⟩, d⟩ := h
  exact ⟨T, ⟨by omega, h2, fun i hi => ⟨(c i (by omega)).1, by rw [h4]; exact (c i (by omega)).2⟩⟩, fun i hi => by rw [h40]; exact d i (by omega)⟩
theorem Ok.and {β : Type} {p : PG β} {w : GS} {Q Q2 : β → GS → Prop} (h : Ok p w Q) (h2 : Ok p w Q2) : Ok p w (fun r v => Q r v ∧ Q2 r v) := by
  obtain ⟨r, v, e, q⟩ := h
  obtain ⟨r2, v2, e2, q2⟩ := h2
  rw [e] at e2
  cases e2
  exact ⟨r, v, e, q, q2⟩
theorem Ok.fw {β : Type} {I A : Nat → Bool} {p : PG β} {w : GS} {Q : β → GS → Prop} (h : Ok p w Q) (h2 : Fw I A p) : Ok p w (fun r v => Q r v ∧ FwR I A w v) := by
  obtain ⟨r, v, e, q⟩ := h
  exact ⟨r, v, e, q, h2 w r v e⟩
/-! a byte -/
theorem nar_t8 : ∀ t < 256, vp_nar .byte ((Int8.ofNat t).toInt32) = sb t := by decide +kernel
def lo8 (y : Int32) : Nat := y.toBitVec.toNat % 256
theorem lo8_lt (y : Int32) : lo8 y < 256 := Nat.mod_lt _ (by decide)
theorem byte_nar (y : Int32) : vp_nar .byte (y.toInt8.toInt32) = sb (lo8 y) := by
  have e : y.toInt8 = Int8.ofNat (lo8 y) := by
    apply Int8.toBitVec_inj.mp
    rw [Int32.toBitVec_toInt8, BitVec.signExtend_eq_setWidth_of_le _ (by decide)]
    show BitVec.setWidth 8 y.toBitVec = BitVec.ofNat 8 (lo8 y)
    apply BitVec.eq_of_toNat_eq
    rw [BitVec.toNat_setWidth, BitVec.toNat_ofNat]
    unfold lo8
    omega
  rw [e]
  exact nar_t8 _ (lo8_lt y)
theorem byte_and (y : Int32) : y &&& 255 = nI (lo8 y) := by
  apply Int32.toBitVec_inj.mp
  show y.toBitVec &&& (255 : Int32).toBitVec = BitVec.ofNat 32 (lo8 y)
  apply BitVec.eq_of_toNat_eq
  rw [BitVec.toNat_and, BitVec.toNat_ofNat]
  have h9 : (255 : Int32).toBitVec.toNat = 2 ^ 8 - 1 := rfl
  rw [h9, Nat.and_two_pow_sub_one_eq_mod]
  unfold lo8
  omega
def sh (t : Nat) : Int32 := nI (8 * t) - 8
theorem sh_0 : sh 0 < 0 := by decide
theorem sh_ge : ∀ t < 5, 1 ≤ t → ¬ sh t < 0 := by decide
theorem sh_next : ∀ t < 4, sh (t + 1) + (-8) = sh t := by decide
theorem sh_4 : (24 : Int32) = sh 4 := by decide
/-- byte i of an int, the high one first -/
def pb (a : Int32) (i : Nat) : Nat := lo8 (a >>> (sh (4 - i) &&& 31))
theorem c_push_lp {a : Int32} {K : Int32 → Int32 → NG Int32} {Q : Int32 → MS → Prop} : ∀ (t n k : Nat) (u : MS), t ≤ 4 → t < n → k + t ≤ 3000 → u.1 2 = nI k → (∀ v, v.1 2 = nI (k + t) → Same [2] [4] u v → (∀ j, j < k → v.2 4 j = u.2 4 j) → (∀ i, i < t → v.2 4 (k + i) = (a >>> (sh (t - i) &&& 31)) &&& 255) → CN (K a (sh 0)) v Q) → CN (xl_X10_push_3 n a (sh t) K) u Q := by
  intro t
  induction t with
  | zero =>
    intro n k u _ hn _ h2 h
    cases n with
    | zero => omega
    | succ n =>
      unfold xl_X10_push_3
      rw [if_pos sh_0]
      exact h u h2 (Same.rf _) (fun _ _ => rfl) (fun i hi => absurd hi (Nat.not_lt_zero _))
  | succ t ih =>
    intro n k u ht hn hk h2 h
    cases n with
    | zero => omega
    | succ n =>
      unfold xl_X10_push_3
      rw [if_neg (sh_ge (t + 1) (by omega) (by omega))]
      refine CN_RFx h2 (CN_ST ?_)
      rw [wrN _ (show k < 3000 by omega) (by decide)]
      refine CN_RFx (show (sf u 4 _).1 2 = nI k from h2) (CN_WFx (CN_li ?_))
      rw [sh_next t (by omega), nI_1]
      refine ih n (k + 1) _ (by omega) (by omega) (by omega) (siE _ _ _) (fun v h3 hs h4 h5 => ?_)
      refine h v (by rw [h3, show k + 1 + t = k + (t + 1) by omega]) (((Same_sf (by decide)).trans (Same_si (by decide))).trans hs) (fun j hj => ?_) (fun i hi => ?_)
      · exact (h4 j (by omega)).trans (upd_n (by omega))
      · cases i with
        | zero => exact (h4 k (by omega)).trans upd_e
        | succ i =>
          have h6 := h5 i (by omega)
          rw [show k + 1 + i = k + (i + 1) by omega, show t - i = t + 1 - (i + 1) by omega] at h6
          exact h6
theorem c_push {a : Int32} {k : Nat} {u : MS} (hk : k + 4 ≤ 3000) (h2 : u.1 2 = nI k) : CN (x_X10_push a) u (fun _ v => v.1 2 = nI (k + 4) ∧ Same [2] [4] u v ∧ (∀ j, j < k → v.2 4 j = u.2 4 j) ∧ ∀ i, i < 4 → v.2 4 (k + i) = nI (pb a i)) := by
  unfold x_X10_push
  rw [sh_4]
  refine c_push_lp 4 fuel k u (Nat.le_refl _) (by unfold fuel; omega) hk h2 (fun v h3 hs h4 h5 => CN_rt ⟨h3, hs, h4, fun i hi => ?_⟩)
  rw [h5 i hi, byte_and]
  rfl
theorem r_lay_lp {a : Int32} {K : Int32 → Int32 → PG Int32} {Q : Int32 → GS → Prop} : ∀ (t n k : Nat) (w : GS), t ≤ 4 → t < n → k + t ≤ 3000 → w.1.1 42 = nI k → (∀ v, v.1.1 42 = nI (k + t) → (∀ j, ¬ j = 42 → v.1.1 j = w.1.1 j) → (∀ j, ¬ j = 40 → v.1.2 j = w.1.2 j) → (∀ j, j < k → v.1.2 40 j = w.1.2 40 j) → (∀ i, i < t → v.1.2 40 (k + i) = vp_nar .byte ((a >>> (sh (t - i) &&& 31)).toInt8.toInt32)) → Ok (K a (sh 0)) v Q) → Ok (lp_lay_3 n a (sh t) K) w Q := by
  intro t
  induction t with
  | zero =>
    intro n k w _ hn _ h2 h
    cases n with
    | zero => omega
    | succ n =>
      unfold lp_lay_3
      rw [if_pos sh_0]
      exact h w h2 (fun _ _ => rfl) (fun _ _ => rfl) (fun _ _ => rfl) (fun i hi => absurd hi (Nat.not_lt_zero _))
  | succ t ih =>
    intro n k w ht hn hk h2 h
    cases n with
    | zero => omega
    | succ n =>
      unfold lp_lay_3
      rw [if_neg (sh_ge (t + 1) (by omega) (by omega))]
      refine Ok_uf' (fun x hx => ?_)
      have ex : x = nI k := hx.symm.trans h2
      subst ex
      refine Ok_wdN (j := k) rfl (by omega) (by decide) (Ok_uf' (fun x hx => ?_))
      have ex : x = nI k := hx.symm.trans h2
      subst ex
      rw [nI_1]
      refine Ok_wf (Ok_li ?_)
      rw [sh_next t (by omega)]
      refine ih n (k + 1) _ (by omega) (by omega) (by omega) swf_e.2 (fun v h3 hi ha h4 h5 => ?_)
      refine h v (by rw [h3, show k + 1 + t = k + (t + 1) by omega]) (fun j hj => (hi j hj).trans (swf_o hj).1) (fun j hj => (ha j hj).trans (sw_o hj).1) (fun j hj => ?_) (fun i hi => ?_)
      · have h9 : (swd 40 (nI k) (vp_nar .byte ((a >>> (sh (t + 1) &&& 31)).toInt8.toInt32)) w).1.2 40 j = w.1.2 40 j := sw_vn (by omega) (by omega)
        exact (h4 j (by omega)).trans h9
      · cases i with
        | zero =>
          have h9 : (swd 40 (nI k) (vp_nar .byte ((a >>> (sh (t + 1) &&& 31)).toInt8.toInt32)) w).1.2 40 k = vp_nar .byte ((a >>> (sh (t + 1) &&& 31)).toInt8.toInt32) := sw_ve (by omega)
          exact (h4 k (by omega)).trans h9
        | succ i =>
          have h6 := h5 i (by omega)
          rw [show k + 1 + i = k + (i + 1) by omega, show t - i = t + 1 - (i + 1) by omega] at h6
          exact h6
theorem r_lay {a : Int32} {k : Nat} {w : GS} (hk : k + 4 ≤ 3000) (h2 : w.1.1 42 = nI k) : Ok (f_lay a) w (fun _ v => v.1.1 42 = nI (k + 4) ∧ (∀ j, ¬ j = 42 → v.1.1 j = w.1.1 j) ∧ (∀ j, ¬ j = 40 → v.1.2 j = w.1.2 j) ∧ (∀ j, j < k → v.1.2 40 j = w.1.2 40 j) ∧ ∀ i, i < 4 → v.1.2 40 (k + i) = sb (pb a i)) := by
  unfold f_lay
  rw [sh_4]
  refine r_lay_lp 4 fuel k w (Nat.le_refl _) (by unfold fuel; omega) hk h2 (fun v h3 hi ha h4 h5 => Ok_rt ⟨h3, hi, ha, h4, fun i hi => ?_⟩)
  rw [h5 i hi, byte_nar]
  rfl
/-- what feeding leaves alone in the reference -/
def FdR (w v : GS) : Prop := (∀ j, ¬ j = 42 → v.1.1 j = w.1.1 j) ∧ ∀ j, ¬ j = 40 → v.1.2 j = w.1.2 j
theorem FdR.trans {u v w : GS} (h1 : FdR u v) (h2 : FdR v w) : FdR u w := ⟨fun j hj => (h2.1 j hj).trans (h1.1 j hj), fun j hj => (h2.2 j hj).trans (h1.2 j hj)⟩
theorem FtR.fr {u v : MS} {w w2 : GS} (h : FtR u w) (h1 : v.1 11 = u.1 11 ∧ v.1 10 = u.1 10) (h2 : w2.1.1 49 = w.1.1 49 ∧ w2.1.1 50 = w.1.1 50) : FtR v w2 := ⟨h1.1.trans (h.1.trans h2.1.symm), h1.2.trans (h.2.trans h2.2.symm)⟩
theorem live_endX {N tp n E : Nat} {lg : Nat → En} {s : Nat → GS} {w : GS} (h : LiveX N tp n E lg s w) (a : Int32) : Ok (f_end a) w (fun r v => (0 ≤ a.toInt ∧ a.toInt ≤ tp ∧ r = a ∧ LiveX N a.toInt.toNat n E lg s v ∧ FdR w v ∧ v.1.2 40 = w.1.2 40) ∨ (¬ (0 ≤ a.toInt ∧ a.toInt ≤ tp) ∧ r = -1 ∧ v = w)) := by
  have htp := h.2.2.2.2.1
  unfold f_end
  refine Ok_uf' (fun x hx => ?_)
  have ex : x = nI tp := hx.symm.trans h.2.2.2.1
  subst ex
  refine Ok_clR (ok_in _ _ _ w) (fun r hr => ?_)
  have h0 : (0 : Int64).toInt = 0 := by decide
  rw [Int32.toInt_toInt64, Int32.toInt_toInt64, h0, nI_toInt (by omega)] at hr
  refine Ok_ite (fun z => Ok_rt (Or.inr ⟨?_, rfl, rfl⟩)) (fun z => Ok_wf (Ok_rt (Or.inl ?_)))
  · rcases hr with ⟨hr, -⟩ | ⟨-, hr⟩
    · rw [hr] at z; exact absurd z (by decide)
    · exact hr
  · rcases hr with ⟨-, h1, h2⟩ | ⟨hr, -⟩
    · have e := nI_ofT h1
      have h9 := live_w42 (k := a.toInt.toNat) h (by omega)
      rw [← e] at h9
      exact ⟨h1, h2, rfl, h9, ⟨fun j hj => (swf_o hj).1, fun _ _ => rfl⟩, rfl⟩
    · exact absurd hr z
section
variable {P : LwP} {LW : List LwP} {N tp n E ch C : Nat} {u v : MS} {w : GS} {lg : Nat → En} {s : Nat → GS} {p q : Nat → Nat}
theorem SmX.same {LI LA : List Nat} (h : SmX P LW N tp u w n E lg s p q ch C) (hs : Same LI LA u v) (h1 : ¬ 0 ∈ LI ∧ ¬ 1 ∈ LI ∧ ¬ 60 ∈ LI ∧ ¬ 65 ∈ LI) (h2 : ¬ 0 ∈ LA ∧ ¬ 1 ∈ LA ∧ ¬ 2 ∈ LA ∧ ¬ 3 ∈ LA) (h3 : ¬ 13 ∈ LA ∧ ¬ 14 ∈ LA ∧ ¬ 15 ∈ LA ∧ ¬ 16 ∈ LA) : SmX P LW N tp v w n E lg s p q ch C := by
  obtain ⟨a1, a2, ⟨b1, b2, b3, b4⟩, a4, a5, a6, a7, a8, a9, a10⟩ := h
  have e0 := hs.2 0 h2.1
  have eB : ∀ k, hB v k = hB u k := fun k => by
    unfold hB
    rw [hs.1 0 h1.1, e0, hs.2 1 h2.2.1, hs.2 2 h2.2.2.1]
  refine ⟨a1, (hs.1 1 h1.2.1).trans a2, ⟨(hs.1 0 h1.1).trans b1, (hs.1 60 h1.2.2.1).trans b2, (hs.1 65 h1.2.2.2).trans b3, b4⟩, fun k hk => by rw [hs.2 3 h2.2.2.2]; exact a4 k hk, a5, fun k hk => by rw [eB]; exact a6 k hk, by rw [e0]; exact a7, a8, fun c hc => ?_, a10⟩
  rw [e0]
  refine (a9 c hc).to (Acc.rf _ _) (fun i _ => ?_)
  unfold Rws
  rw [hs.2 13 h3.1, hs.2 14 h3.2.1, hs.2 15 h3.2.2.1, hs.2 16 h3.2.2.2]
  exact ⟨rfl, rfl, rfl, rfl⟩
theorem SmX.live {N2 tp2 : Nat} {w2 : GS} (h : SmX P LW N tp u w n E lg s p q ch C) (hL : LiveX N2 tp2 n E lg s w2) : SmX P LW N2 tp2 u w2 n E lg s p q ch C := ⟨hL, h.2⟩
theorem TpR.push {tp : Nat} {w2 : GS} {a : Int32} (h : TpR tp u w) (hk : tp + 4 ≤ 3000) (h2 : v.1 2 = nI (tp + 4)) (h4 : ∀ j, j < tp → v.2 4 j = u.2 4 j) (h5 : ∀ i, i < 4 → v.2 4 (tp + i) = nI (pb a i)) (g4 : ∀ j, j < tp → w2.1.2 40 j = w.1.2 40 j) (g5 : ∀ i, i < 4 → w2.1.2 40 (tp + i) = sb (pb a i)) : TpR (tp + 4) v w2 := by
  obtain ⟨T, ⟨a1, b, c⟩, d⟩ := h
  refine ⟨fun j => if j < tp then T j else pb a (j - tp), ⟨hk, h2, fun i hi => ?_⟩, fun i hi => ?_⟩
  · show (if i < tp then T i else pb a (i - tp)) < 256 ∧ v.2 4 i = nI (if i < tp then T i else pb a (i - tp))
    by_cases hlt : i < tp
    · rw [if_pos hlt, h4 i hlt]
      exact c i hlt
    · rw [if_neg hlt]
      have h6 := h5 (i - tp) (by omega)
      rw [show tp + (i - tp) = i by omega] at h6
      exact ⟨lo8_lt _, h6⟩
  · show w2.1.2 40 i = sb (if i < tp then T i else pb a (i - tp))
    by_cases hlt : i < tp
    · rw [if_pos hlt, g4 i hlt]
      exact d i hlt
    · rw [if_neg hlt]
      have h6 := g5 (i - tp) (by omega)
      rw [show tp + (i - tp) = i by omega] at h6
      exact h6
/-- one int more on the tape, on both sides -/
theorem tp_push {a : Int32} {r : Int32} (hL : LiveX N tp n E lg s w) (hN : tp + 4 ≤ 3000) (hT : TpR tp u w) (h2 : u.1 2 = nI tp) (e : x_X10_push a u = some (r, v)) : v.1 2 = nI (tp + 4) ∧ Same [2] [4] u v ∧ Ok (f_lay a) w (fun _ w2 => LiveX (N + 4) (tp + 4) n E lg s w2 ∧ TpR (tp + 4) v w2 ∧ FdR w w2) := by
  obtain ⟨a1, a2, a3, a4⟩ := c_push (a := a) hN h2 r v e
  refine ⟨a1, a2, Ok.mono ((ok_lay a hN hL).and (r_lay (a := a) hN hL.2.2.2.1)) (fun _ w2 y => ?_)⟩
  obtain ⟨y1, y2, y3, y4, y5, y6⟩ := y
  exact ⟨y1, hT.push hN a1 a3 a4 y5 y6, y3, y4⟩
theorem sim_feed {a b c d f r : Int32} (h : SmX P LW N tp u w n E lg s p q ch C) (hT : TpR tp u w) (h2 : u.1 2 = nI tp) (htp : tp ≤ 3000) (e : x_X11_feed a b c d f u = some (r, v)) : ∃ tp2, tp2 ≤ 3000 ∧ v.1 2 = nI tp2 ∧ Ok (f_feed a b c d f) w (fun r2 w2 => r2 = r ∧ SmE P LW (N + 20) tp2 v w2 ∧ TpR tp2 v w2 ∧ FdR w w2) := by
  have hL := h.1
  have e20 : nI tp + 20 = nI (tp + 20) := nI_add tp 20
  have e0 : ncl (nRF 2) _ u = some (r, v) := e
  obtain ⟨x, u0, q1, e1⟩ := ncl_some e0
  have q2 : x = u.1 2 ∧ u0 = u := by cases q1; exact ⟨rfl, rfl⟩
  obtain ⟨rfl, rfl⟩ := q2
  rw [h2, e20] at e1
  by_cases hle : nI (tp + 20) ≤ (3000 : Int32)
  · have h20 : tp + 20 ≤ 3000 := (nI_leI (a := tp + 20) (b := 3000) (by omega) (by decide)).mp hle
    rw [if_pos hle] at e1
    obtain ⟨x1, u1, p1, e1⟩ := ncl_some e1
    obtain ⟨x2, u2, p2, e1⟩ := ncl_some e1
    obtain ⟨x3, u3, p3, e1⟩ := ncl_some e1
    obtain ⟨x4, u4, p4, e1⟩ := ncl_some e1
    obtain ⟨x5, u5, p5, e1⟩ := ncl_some e1
    obtain ⟨x6, u6, p6, e1⟩ := ncl_some e1
    have q2 : x6 = u5.1 2 ∧ u6 = u5 := by cases p6; exact ⟨rfl, rfl⟩
    obtain ⟨rfl, rfl⟩ := q2
    have q3 : r = u6.1 2 ∧ v = u6 := by cases e1; exact ⟨rfl, rfl⟩
    obtain ⟨rfl, rfl⟩ := q3
    obtain ⟨a1, s1, o1⟩ := tp_push hL (by omega) hT h2 p1
    unfold f_feed
    refine ⟨tp + 20, h20, ?_, ?_⟩
    · obtain ⟨a2, s2, -⟩ := c_push (a := b) (k := tp + 4) (by omega) a1 _ _ p2
      obtain ⟨a3, s3, -⟩ := c_push (a := c) (k := tp + 4 + 4) (by omega) a2 _ _ p3
      obtain ⟨a4, s4, -⟩ := c_push (a := d) (k := tp + 4 + 4 + 4) (by omega) a3 _ _ p4
      obtain ⟨a5, s5, -⟩ := c_push (a := f) (k := tp + 4 + 4 + 4 + 4) (by omega) a4 _ _ p5
      exact a5
    · refine Ok_uf' (fun x hx => ?_)
      have ex : x = nI tp := hx.symm.trans hL.2.2.2.1
      subst ex
      rw [e20, if_pos hle]
      refine Ok_cl (Ok.mono o1 (fun _ w1 y1 => ?_))
      obtain ⟨a2, s2, o2⟩ := tp_push y1.1 (by omega) y1.2.1 a1 p2
      refine Ok_cl (Ok.mono o2 (fun _ w2 y2 => ?_))
      obtain ⟨a3, s3, o3⟩ := tp_push y2.1 (by omega) y2.2.1 a2 p3
      refine Ok_cl (Ok.mono o3 (fun _ w3 y3 => ?_))
      obtain ⟨a4, s4, o4⟩ := tp_push y3.1 (by omega) y3.2.1 a3 p4
      refine Ok_cl (Ok.mono o4 (fun _ w4 y4 => ?_))
      obtain ⟨a5, s5, o5⟩ := tp_push y4.1 (by omega) y4.2.1 a4 p5
      refine Ok_cl (Ok.mono o5 (fun _ w5 y5 => Ok_uf' (fun x hx => Ok_rt ⟨?_, ?_, y5.2.1, y1.2.2.trans (y2.2.2.trans (y3.2.2.trans (y4.2.2.trans y5.2.2)))⟩)))
      · exact hx.symm.trans (y5.1.2.2.2.1.trans a5.symm)
      · exact ((h.same (s1.trans (s2.trans (s3.trans (s4.trans s5)))) (by decide) (by decide) (by decide)).live y5.1).e
  · rw [if_neg hle] at e1
    have q3 : r = -4 ∧ v = u0 := by cases e1; exact ⟨rfl, rfl⟩
    obtain ⟨rfl, rfl⟩ := q3
    refine ⟨tp, htp, h2, ?_⟩
    unfold f_feed
    refine Ok_uf' (fun x hx => ?_)
    have ex : x = nI tp := hx.symm.trans hL.2.2.2.1
    subst ex
    rw [e20, if_neg hle]
    refine Ok_rt ⟨rfl, (h.live ?_).e, hT, fun _ _ => rfl, fun _ _ => rfl⟩
    obtain ⟨b1, b2, b3, b4, b5, b6, b7⟩ := hL
    exact ⟨b1, b2, b3, b4, b5, by omega, b7⟩
theorem sim_end {a r : Int32} (h : SmX P LW N tp u w n E lg s p q ch C) (hT : TpR tp u w) (h2 : u.1 2 = nI tp) (htp : tp ≤ 3000) (e : x_X11_end a u = some (r, v)) : ∃ tp2, tp2 ≤ 3000 ∧ v.1 2 = nI tp2 ∧ Ok (f_end a) w (fun r2 w2 => r2 = r ∧ SmE P LW N tp2 v w2 ∧ TpR tp2 v w2 ∧ FdR w w2) := by
  have hL := h.1
  obtain ⟨r1, v1, e1, hs, hor⟩ := end_ok a u tp htp h2
  rw [e] at e1
  cases e1
  have hL2 := live_endX hL a
  have e4 : v.2 4 = u.2 4 := hs.2 4 (by decide)
  rcases hor with ⟨z1, z2, z3, z4⟩ | ⟨z1, rfl, z4⟩
  · refine ⟨a.toInt.toNat, by omega, z4, Ok.mono hL2 (fun r2 w2 y => ?_)⟩
    rcases y with ⟨y1, y2, y3, y4, y5, y6⟩ | ⟨y1, -⟩
    · exact ⟨y3.trans z3.symm, ((h.same hs (by decide) (by decide) (by decide)).live y4).e, hT.cut (by omega) z4 e4 y6, y5⟩
    · exact absurd ⟨z1, z2⟩ y1
  · refine ⟨tp, htp, z4, Ok.mono hL2 (fun r2 w2 y => ?_)⟩
    rcases y with ⟨y1, y2, -⟩ | ⟨y1, y2, y3⟩
    · exact absurd ⟨y1, y2⟩ z1
    · subst y3
      exact ⟨y2, ((h.same hs (by decide) (by decide) (by decide)).live hL).e, hT.fr (z4.trans h2.symm) e4 rfl, fun _ _ => rfl, fun _ _ => rfl⟩
end
end
section
/-! ===== laws(), the reference, with its answers ===== -/
theorem Ok.fx {I A : Nat → Bool} {p : PG (Option Int32)} {w : GS} {Q : Option Int32 → GS → Prop} (h : Ok p w Q) (h2 : Fx I A p) : Ok p w (fun r v => Q r v ∧ ∀ x, r = some x → FwR I A w v) := by
  obtain ⟨r, v, e, q⟩ := h
  refine ⟨r, v, e, q, fun x hx => ?_⟩
  subst hx
  exact h2 w x v e
theorem LRel.lft {L : MS} {t u : GS} (h : LRel L t) (hg : Ag t u) : LRel L (lf t u) := by
  have im : ∀ {k x}, isL k = true → Im t k x → Im (lf t u) k x := fun {k x} hk z => by
    refine ⟨?_, (hg.1 k (trk_L hk) z.1).2.trans z.2⟩
    rw [lf_li hk, z.1, (hg.1 k (trk_L hk) z.1).1]
    rfl
  have am : ∀ {k j x}, isA k = true → Am t k j x → Am (lf t u) k j x := fun {k j x} hk z => by
    refine ⟨?_, (hg.2 k j (trk_A hk) z.1).2.trans z.2⟩
    rw [lf_la hk, z.1, (hg.2 k j (trk_A hk) z.1).1]
    rfl
  obtain ⟨a, b, c, d, e, f, g, nl, n1, n2, n3⟩ := h
  refine ⟨a, im rfl b, im rfl c, im rfl d, im rfl e, im rfl f, g, nl, n1, n2, fun l hl => ?_⟩
  obtain ⟨pt, p1, p2, p3, x, y, q1, q2, q3, q4, q5, q6, q7, T, t1, t2, t3⟩ := n3 l hl
  refine ⟨pt, p1, p2, am rfl p3, x, y, q1, q2, am rfl q3, am rfl q4, q5, q6, q7, T, t1, t2, fun k k1 k2 => ?_⟩
  obtain ⟨y1, kd, f, y2, y3, y4, y5, y6⟩ := t3 k k1 k2
  exact ⟨y1, kd, f, am rfl y2, am rfl y3, y4, y5, y6⟩
def K56V (u x : GS) (a k : Nat) : Prop := K56 u x k ∧ ∀ j, j < k → x.1.2 56 j = vp_nar .byte (u.1.2 54 (a + j))
theorem ok_take_lpV {u : GS} (a n : Nat) (ha : a + n ≤ 24000) (hn : n ≤ 3000) (h54 : ∀ k, k < n → u.2.2 54 (a + k) = true) (K : Int32 → Int32 → Int32 → PG Int32) (Q : Int32 → GS → Prop) (hK : ∀ x v3, K56V u x a n → Ok (K (nI a) (nI n) v3) x Q) :
    ∀ (t k m : Nat) (x : GS), k + t = n → t < m → K56V u x a k → Ok (lp_takeLaws_2 m (nI a) (nI n) (nI k) K) x Q := by
  intro t
  induction t with
  | zero =>
    intro k m x h1 h2 hc
    cases m with
    | zero => omega
    | succ m =>
      have e : k = n := by omega
      subst e
      unfold lp_takeLaws_2
      exact Ok_ite (fun _ => hK x _ hc) (fun z => absurd (Int32.le_refl _) z)
  | succ t ih =>
    intro k m x h1 h2 hc
    cases m with
    | zero => omega
    | succ m =>
      unfold lp_takeLaws_2
      refine Ok_ite (fun z => absurd z (nI_ge (by omega) (by omega))) (fun _ => ?_)
      obtain ⟨hc, hv⟩ := hc
      have hm : x.2.2 54 (a + k) = true := by rw [(hc.2.2.1 54 (by decide)).2]; exact h54 k (by omega)
      have e54 : x.1.2 54 (a + k) = u.1.2 54 (a + k) := by rw [(hc.2.2.1 54 (by decide)).1]
      refine Ok_rdN (nI_add a k) (by omega) (by decide) (Am.val hm) (Ok_wdN rfl (by omega) (by decide) (Ok_li ?_))
      rw [nI_1, e54]
      refine ih (k + 1) m _ (by omega) (by omega) ⟨⟨hc.1, hc.2.1, fun a2 ha2 => ?_, fun j hj => ?_⟩, fun j hj => ?_⟩
      · have h9 := sw_o (w := x) (k := 56) (i := nI k) (v := vp_nar .byte (u.1.2 54 (a + k))) (k2 := a2) ha2
        exact ⟨h9.1.trans (hc.2.2.1 a2 ha2).1, h9.2.trans (hc.2.2.1 a2 ha2).2⟩
      · by_cases he : j = k
        · subst he
          exact sw_me (v := vp_nar .byte (u.1.2 54 (a + j))) (by omega)
        · exact sw_mm (hc.2.2.2 j (by omega))
      · by_cases he : j = k
        · subst he
          exact sw_ve (by omega)
        · exact (sw_vn (by omega) he).trans (hv j (by omega))
section
variable {T : Nat → Nat} {c c2 : MS}
/-- a text that the class has read, taken by the reference -/
theorem take_ex {u : GS} (a n : Nat) (ha : a + n ≤ 24000) (hn : n ≤ 3000) (h54 : ∀ k, k < n → u.2.2 54 (a + k) = true) (hv : ∀ k, k < n → u.1.2 54 (a + k) = sb (T k)) (hTC : TC T n c) (hc : x_X5_readLaws c = some (1, c2)) : Ok (f_takeLaws (nI a) (nI n)) u (fun r v => r = c2.1 23 ∧ LRel (dL c2) v) := by
  unfold f_takeLaws
  refine ok_take_lpV a n ha hn h54 _ _ (fun x v3 hx => ?_) n 0 fuel u (by omega) (by unfold fuel; omega) ⟨⟨rfl, rfl, fun _ _ => ⟨rfl, rfl⟩, fun j hj => absurd hj (Nat.not_lt_zero _)⟩, fun j hj => absurd hj (Nat.not_lt_zero _)⟩
  obtain ⟨hx, hxv⟩ := hx
  refine Ok_wf (Ok_wf ?_)
  have hT : Tx (swf 43 (nI n) (swf 41 1 x)) n := ⟨(swf_o (by decide)).2.trans (swf_e (w := x) (k := 41) (x := 1)).1, Or.inr hx.2.2.2, swf_e, hn⟩
  have e41 : (swf 43 (nI n) (swf 41 1 x)).1.1 41 = 1 := (swf_o (by decide)).1.trans (swf_e (w := x) (k := 41) (x := 1)).2
  have hTR : TR T n (swf 43 (nI n) (swf 41 1 x)) := by
    refine ⟨hT, trivial, fun i hi => ⟨(hTC.2.2 i hi).1, ?_⟩⟩
    unfold rz
    rw [e41, if_neg (by decide)]
    show (swf 43 (nI n) (swf 41 1 x)).1.2 56 (nI i).toNatClampNeg = sb (T i)
    rw [nI_clamp (by omega)]
    show x.1.2 56 i = sb (T i)
    rw [hxv i hi, hv i hi, nar_sb _ (hTC.2.2 i hi).1]
  generalize swf 43 (nI n) (swf 41 1 x) = y at hTR
  refine Ok_uf' (fun x49 _ => Ok_uf' (fun x50 _ => Ok_cl (Ok.mono (ls_readAll hTC hTR) (fun ro v z => ?_))))
  rcases z with ⟨-, f, p, -, -, -, hCN⟩ | ⟨rfl, hCN⟩
  · have h9 := (hCN _ _ hc).1
    exact absurd h9 (by decide)
  · have hL := (hCN _ _ hc).2.2
    have hL2 : LRel (dL c2) (swf 50 x50 (swf 49 x49 v)) := hL.fr (((LFr.rf v).wf (by decide) _).wf (by decide) _)
    exact Ok_otS (Ok_wf (Ok_wf (Ok_rfN hL2.2.2.2.2.1 (Ok_rt ⟨rfl, hL2⟩))))
theorem t1_rel {tx : Nat → Int32} {f n : Nat} (hf : f + n ≤ 24000) (hn : n ≤ 3000) (hx : ∀ j, j < n → tx (f + j) = sb (T j)) (hTC : TC T n c) (hc : x_X5_readLaws c = some (1, c2)) : LRel (dL c2) (t1 f n tx) := by
  obtain ⟨⟨r, e⟩, -⟩ := t1_ok (tx := tx) hf hn
  have hv : ∀ k, k < n → (tput f n tx B0).1.2 54 (f + k) = sb (T k) := fun k hk => by
    rw [← hx k hk]
    show (if 54 = 54 then (fun j => if f ≤ j ∧ j < f + n then tx j else B0.1.2 54 j) else B0.1.2 54) (f + k) = tx (f + k)
    rw [if_pos rfl]
    exact if_pos ⟨by omega, by omega⟩
  obtain ⟨r2, v, e2, -, h⟩ := take_ex (u := tput f n tx B0) f n hf hn (fun k hk => tput_m k hk) hv hTC hc
  rw [e] at e2
  cases e2
  exact h
/-- an entry of laws, with what the laws are -/
theorem stp_lawX {E f n : Nat} {c0 : Int32} {tx : Nat → Int32} {u : GS} (h : Inv u) (hfree : ∀ m, m < 4 → u.1.2 22 m = -1) (hf : f + n ≤ E) (hE : E ≤ 24000) (hn : n ≤ 3000) (hx : ∀ j, j < n → tx (f + j) = sb (T j)) (hTC : TC T n c) (hc : x_X5_readLaws c = some (1, c2)) : ∃ v, stp E (0, nI f, nI n, c0) tx u v ∧ Inv v ∧ NoS v ∧ lawc v (t1 f n tx) ∧ LRel (dL c2) v ∧ (∀ k, (k = 2 ∨ k = 3 ∨ k = 4) → v.1.1 k = u.1.1 k ∧ v.2.1 k = u.2.1 k) ∧ ∀ k, k ≤ 26 → v.1.2 k = u.1.2 k ∧ v.2.2 k = u.2.2 k := by
  obtain ⟨⟨r0, e0⟩, hL⟩ := t1_ok (tx := tx) (by omega : f + n ≤ 24000) hn
  have hR := t1_rel (tx := tx) (by omega : f + n ≤ 24000) hn hx hTC hc
  have hag : Ag (tput f n tx B0) (tput f n tx u) := by
    refine tput_ag (B0_ag _) (fun j h1 h2 => ?_)
    show (if 54 = 54 then (if f ≤ j ∧ j < f + n then true else u.2.2 54 j) else u.2.2 54 j) = true ∧ (if f ≤ j ∧ j < f + n then tx j else u.1.2 54 j) = tx j
    rw [if_pos rfl, if_pos ⟨h1, h2⟩, if_pos ⟨h1, h2⟩]
    exact ⟨rfl, rfl⟩
  obtain ⟨u1, e1, g1, -⟩ := det_takeLaws (nI f) (nI n) _ _ hag (fun z => by cases z) _ _ e0
  obtain ⟨r2, u2, e2, hT, hL2, -⟩ := ok_takeLaws (u := tput f n tx u) f n (by omega) hn (fun k hk => tput_m k hk)
  rw [e1] at e2
  cases e2
  have ed : f_does 0 (nI f) (nI n) c0 (tput f n tx u) = some (r0, u1) := by
    unfold f_does
    rw [if_pos rfl]
    unfold pcl
    rw [e1]
    rfl
  have i2 := hT.1 2 (by decide) (by decide)
  have i3 := hT.1 3 (by decide) (by decide)
  have i4 := hT.1 4 (by decide) (by decide)
  have ar : ∀ k, k ≤ 26 → (lf (t1 f n tx) u1).1.2 k = u.1.2 k ∧ (lf (t1 f n tx) u1).2.2 k = u.2.2 k := fun k hk => by
    have a1 := hT.2 k (by omega) (by omega)
    have a2 := tput_o (f := f) (n := n) (tx := tx) (u := u) (k := k) (by omega)
    rw [lf_a (isA_lt (by omega)) (by omega)]
    exact ⟨a1.1.trans a2.1, a1.2.trans a2.2⟩
  refine ⟨lf (t1 f n tx) u1, Or.inl ⟨rfl, f, n, r0, u1, rfl, rfl, hf, hE, hn, ed, rfl⟩, ?_, lf_nos _ _, lf_lawc g1, hR.lft g1, fun k hk => ?_, ar⟩
  · have hLw := lf_LwOk g1 hL
    obtain ⟨⟨g, q1, q2⟩, m30, m31, hl⟩ := hLw
    refine ⟨h.1.fr i2.1 ((lf_i rfl rfl).trans i2.2) ⟨(lf_i rfl rfl).trans (i3.2.trans h.1.2.1.1), (lf_i rfl rfl).trans (i4.2.trans h.1.2.1.2.1), q2.1, m30, m31, g, q1, q2.2⟩ ar, hl, fun m hm z => ?_⟩
    rw [(ar 22 (by decide)).1] at z
    exact absurd (hfree m hm) z
  · rcases hk with rfl | rfl | rfl
    · exact ⟨i2.1, (lf_i rfl rfl).trans i2.2⟩
    · exact ⟨i3.1, (lf_i rfl rfl).trans i3.2⟩
    · exact ⟨i4.1, (lf_i rfl rfl).trans i4.2⟩
end
/-- act(), of laws too, with what it ran -/
theorem act_coreX {N tp n E : Nat} {lg : Nat → En} {s : Nat → GS} {w sv : GS} (h : LiveX N tp n E lg s w) (hN : N ≤ 24000) (a0 a1 a2 a3 : Int32) (hst : stp E (a0, a1, a2, a3) (w.1.2 54) (s n) sv) (hIv : Inv sv) (hns : NoS sv) (hc : a0 = 0 → ∃ f m, a1 = nI f ∧ a2 = nI m ∧ f + m ≤ E ∧ m ≤ 3000 ∧ lawc sv (t1 f m (w.1.2 54))) (hnc : ¬ a0 = 0 → FrR fI fA (s n) sv) : Ok (f_act a0 a1 a2 a3) w (fun r v => (n = 500 ∧ r = -4 ∧ v = w) ∨ (n < 500 ∧ LiveX N tp (n + 1) E (fun k => if k = n then (a0, a1, a2, a3) else lg k) (fun k => if k = n + 1 then sv else s k) v ∧ ∃ y, y.1.2 54 = w.1.2 54 ∧ y.2.2 54 = w.2.2 54 ∧ f_does a0 a1 a2 a3 y = some (r, v))) := by
  have hL := h
  obtain ⟨hn, e53, e55, e42, htp, hE, hR, hA, hlg, h54, h13⟩ := h
  unfold f_act
  refine Ok_uf' (fun x hx => ?_)
  have ex : x = nI n := hx.symm.trans e53
  subst ex
  refine Ok_ite (fun he => Ok_rt (Or.inl ⟨(nI_eq (a := n) (b := 500) (by omega) (by decide)).mp he, rfl, rfl⟩)) (fun hne => ?_)
  have hn5 : n < 500 := by
    rcases Nat.lt_or_ge n 500 with y | y
    · exact y
    · have : n = 500 := by omega
      subst this
      exact absurd rfl hne
  refine Ok_uf' (fun x hx => ?_)
  have ex : x = nI n := hx.symm.trans e53
  subst ex
  refine Ok_wdN (j := 4 * n) (ix4 n) (by omega) (by decide) (Ok_uf' (fun x hx => ?_))
  have ex : x = nI n := hx.symm.trans e53
  subst ex
  refine Ok_wdN (j := 4 * n + 1) (by rw [ix4, nI_1]) (by omega) (by decide) (Ok_uf' (fun x hx => ?_))
  have ex : x = nI n := hx.symm.trans e53
  subst ex
  refine Ok_wdN (j := 4 * n + 2) (by rw [ix4]; exact nI_add (4 * n) 2) (by omega) (by decide) (Ok_uf' (fun x hx => ?_))
  have ex : x = nI n := hx.symm.trans e53
  subst ex
  refine Ok_wdN (j := 4 * n + 3) (by rw [ix4]; exact nI_add (4 * n) 3) (by omega) (by decide) (Ok_uf' (fun x hx => ?_))
  have ex : x = nI n := hx.symm.trans e53
  subst ex
  rw [nI_1]
  refine Ok_wf ?_
  have eL : ∀ j, (swd 52 (nI (4 * n + 3)) a3 (swd 52 (nI (4 * n + 2)) a2 (swd 52 (nI (4 * n + 1)) a1 (swd 52 (nI (4 * n)) a0 w)))).1.2 52 j = if j = 4 * n + 3 then a3 else if j = 4 * n + 2 then a2 else if j = 4 * n + 1 then a1 else if j = 4 * n then a0 else w.1.2 52 j := fun j => by
    rw [sw_v (by omega), sw_v (by omega), sw_v (by omega), sw_v (by omega)]
  have eo : ∀ k, ¬ k = 52 → (swd 52 (nI (4 * n + 3)) a3 (swd 52 (nI (4 * n + 2)) a2 (swd 52 (nI (4 * n + 1)) a1 (swd 52 (nI (4 * n)) a0 w)))).1.2 k = w.1.2 k ∧ (swd 52 (nI (4 * n + 3)) a3 (swd 52 (nI (4 * n + 2)) a2 (swd 52 (nI (4 * n + 1)) a1 (swd 52 (nI (4 * n)) a0 w)))).2.2 k = w.2.2 k := fun k hk => by
    rw [(sw_o hk).1, (sw_o hk).1, (sw_o hk).1, (sw_o hk).1, (sw_o hk).2, (sw_o hk).2, (sw_o hk).2, (sw_o hk).2]
    exact ⟨rfl, rfl⟩
  have ei : (swd 52 (nI (4 * n + 3)) a3 (swd 52 (nI (4 * n + 2)) a2 (swd 52 (nI (4 * n + 1)) a1 (swd 52 (nI (4 * n)) a0 w)))).1.1 = w.1.1 := rfl
  have hA2 : Ag (s n) (swd 52 (nI (4 * n + 3)) a3 (swd 52 (nI (4 * n + 2)) a2 (swd 52 (nI (4 * n + 1)) a1 (swd 52 (nI (4 * n)) a0 w)))) := (((hA.wdU rfl _ _).wdU rfl _ _).wdU rfl _ _).wdU rfl _ _
  generalize swd 52 (nI (4 * n + 3)) a3 (swd 52 (nI (4 * n + 2)) a2 (swd 52 (nI (4 * n + 1)) a1 (swd 52 (nI (4 * n)) a0 w))) = y at eL eo ei hA2 ⊢
  have hA3 : Ag (s n) (swf 53 (nI (n + 1)) y) := hA2.wfU rfl _
  have y54 := eo 54 (by decide)
  obtain ⟨r, v1, f1, g1, hF⟩ := stp_det hst hA3 (fun j hj => ⟨by show y.2.2 54 j = true; rw [y54.2]; exact h54 j hj, by show y.1.2 54 j = _; rw [y54.1]⟩)
  refine Ok_cl ⟨r, v1, f1, Ok_rt (Or.inr ⟨hn5, ⟨by omega, ?_, ?_, ?_, htp, hE, ?_, ?_, ?_, ?_, ?_⟩, swf 53 (nI (n + 1)) y, y54.1, y54.2, f1⟩)⟩
  · exact (hF.1 53 rfl).1.trans (swf_e (w := y) (k := 53)).2
  · exact (hF.1 55 rfl).1.trans ((swf_o (w := y) (k := 53) (by decide)).1.trans ((congrFun ei 55).trans e55))
  · exact (hF.1 42 rfl).1.trans ((swf_o (w := y) (k := 53) (by decide)).1.trans ((congrFun ei 42).trans e42))
  · have e54 : v1.1.2 54 = w.1.2 54 := (hF.2.1 54 rfl).1.trans y54.1
    rw [e54]
    exact hR.more (by omega) (a0, a1, a2, a3) sv hst hIv hns hc hnc
  · have es : (fun k => if k = n + 1 then sv else s k) (n + 1) = sv := if_pos rfl
    rw [es]
    exact g1
  · intro k hk
    have e52 : v1.1.2 52 = y.1.2 52 := (hF.2.1 52 rfl).1
    rw [e52, eL, eL, eL, eL]
    by_cases hkn : k = n
    · subst hkn
      have es : (fun j => if j = k then (a0, a1, a2, a3) else lg j) k = (a0, a1, a2, a3) := if_pos rfl
      rw [es, if_neg (by omega), if_neg (by omega), if_neg (by omega), if_pos rfl, if_neg (by omega), if_neg (by omega), if_pos rfl, if_neg (by omega), if_pos rfl, if_pos rfl]
      exact ⟨rfl, rfl, rfl, rfl⟩
    · have es : (fun j => if j = n then (a0, a1, a2, a3) else lg j) k = lg k := if_neg hkn
      rw [es, if_neg (by omega), if_neg (by omega), if_neg (by omega), if_neg (by omega), if_neg (by omega), if_neg (by omega), if_neg (by omega), if_neg (by omega), if_neg (by omega), if_neg (by omega), if_neg (by omega), if_neg (by omega), if_neg (by omega), if_neg (by omega), if_neg (by omega), if_neg (by omega)]
      exact hlg k (by omega)
  · intro j hj
    rw [(hF.2.1 54 rfl).2]
    show y.2.2 54 j = true
    rw [y54.2]
    exact h54 j hj
  · intro c hc
    refine hF.2.2 c ?_
    show y.2.2 13 c = true
    rw [(eo 13 (by decide)).2]
    exact h13 c hc
theorem ok_laws4X {w : GS} (hM : ∀ m, m < 4 → w.2.2 22 m = true) (K : Int32 → Int32 → PG Int32) (Q : Int32 → GS → Prop) (hK : ∀ v1 x, ((v1 = 0 ∧ ∀ j, j < 4 → w.1.2 22 j = -1) ∨ (v1 = 1 ∧ ∃ j, j < 4 ∧ ¬ w.1.2 22 j = -1)) → Ok (K v1 x) w Q) :
    ∀ (t k m : Nat) (v1 : Int32), k + t = 4 → t < m → ((v1 = 0 ∧ ∀ j, j < k → w.1.2 22 j = -1) ∨ (v1 = 1 ∧ ∃ j, j < 4 ∧ ¬ w.1.2 22 j = -1)) → Ok (lp_laws_4 m v1 (nI k) K) w Q := by
  intro t
  induction t with
  | zero =>
    intro k m v1 h1 h2 hv
    cases m with
    | zero => omega
    | succ m =>
      have : k = 4 := by omega
      subst this
      unfold lp_laws_4
      exact Ok_ite (fun _ => hK v1 _ hv) (fun z => absurd (Int32.le_refl _) z)
  | succ t ih =>
    intro k m v1 h1 h2 hv
    cases m with
    | zero => omega
    | succ m =>
      unfold lp_laws_4
      refine Ok_ite (fun z => absurd ((nI_le4 (k := k) (n := 4) (by omega) (by decide)).mp z) (by omega)) (fun _ => Ok_ite (fun h0 => ?_) (fun h0 => ?_))
      · refine Ok_rdN rfl (by omega) (by decide) (Am.val (hM k (by omega))) (Ok_ite (fun z => Ok_li ?_) (fun z => Ok_li ?_))
        · rw [nI_1]
          refine ih (k + 1) m 0 (by omega) (by omega) (Or.inl ⟨rfl, fun j hj => ?_⟩)
          by_cases he : j = k
          · rw [he]; exact z
          · rcases hv with ⟨-, hv⟩ | ⟨hv, -⟩
            · exact hv j (by omega)
            · rw [hv] at h0; exact absurd h0 (by decide)
        · rw [nI_1]
          exact ih (k + 1) m 1 (by omega) (by omega) (Or.inr ⟨rfl, k, by omega, z⟩)
      · refine Ok_li ?_
        rw [nI_1]
        refine ih (k + 1) m 1 (by omega) (by omega) (Or.inr ⟨rfl, ?_⟩)
        rcases hv with ⟨hv, -⟩ | ⟨-, hv⟩
        · exact absurd hv h0
        · exact hv
theorem ok_laws99V {y : GS} (E tp : Nat) (hE : E + tp ≤ 24000) (htp : tp ≤ 3000) (v1 : Int32) (K : Int32 → Int32 → Int32 → Int32 → Int32 → PG Int32) (Q : Int32 → GS → Prop) (hK : ∀ x v5, K54 y x E tp → (∀ j, j < tp → x.1.2 54 (E + j) = vp_nar .byte (y.1.2 40 j)) → Ok (K v1 1 (nI tp) (nI E) v5) x Q) :
    ∀ (t k m : Nat) (x : GS), k + t = tp → t < m → K54 y x E k → (∀ j, j < k → x.1.2 54 (E + j) = vp_nar .byte (y.1.2 40 j)) → Ok (lp_laws_99 m v1 1 (nI tp) (nI E) (nI k) K) x Q := by
  intro t
  induction t with
  | zero =>
    intro k m x h1 h2 hc hv
    cases m with
    | zero => omega
    | succ m =>
      have e : k = tp := by omega
      subst e
      unfold lp_laws_99
      exact Ok_ite (fun _ => hK x _ hc hv) (fun z => absurd (Int32.le_refl _) z)
  | succ t ih =>
    intro k m x h1 h2 hc hv
    cases m with
    | zero => omega
    | succ m =>
      unfold lp_laws_99
      refine Ok_ite (fun z => absurd z (nI_ge (by omega) (by omega))) (fun _ => Ok_ite (fun z => absurd z (by decide)) (fun _ => ?_))
      obtain ⟨c1, c2, c3, c4, c5, c6⟩ := hc
      refine Ok_udN (x := y.1.2 40 k) (j := k) rfl (by omega) (by decide) (by rw [(c3 40 (by decide)).1]) (Ok_wdN (nI_add E k) (by omega) (by decide) (Ok_li ?_))
      rw [nI_1]
      refine ih (k + 1) m _ (by omega) (by omega) ⟨c1, c2, fun a ha => ?_, fun j hj => ?_, fun j hj => sw_mm (c5 j hj), fun j hj => ?_⟩ (fun j hj => ?_)
      · have h9 := sw_o (w := x) (k := 54) (i := nI (E + k)) (v := vp_nar .byte (y.1.2 40 k)) (k2 := a) ha
        exact ⟨h9.1.trans (c3 a ha).1, h9.2.trans (c3 a ha).2⟩
      · rw [sw_vn (by omega) (by omega)]
        exact c4 j hj
      · by_cases he : j = k
        · subst he
          exact sw_me (v := vp_nar .byte (y.1.2 40 j)) (by omega)
        · exact sw_mm (c6 j (by omega))
      · by_cases he : j = k
        · subst he
          exact sw_ve (by omega)
        · exact (sw_vn (by omega) (by omega)).trans (hv j (by omega))
/-- what laws() does -/
def LawQ (N n E : Nat) (lg : Nat → En) (s : Nat → GS) (w : GS) (cr : Int32) (c2 : MS) (r : Int32) (v : GS) : Prop := ((∃ j, j < 4 ∧ ¬ w.1.2 22 j = -1) ∧ r = -3 ∧ LiveX N 0 n E lg s v ∧ v.1.1 49 = w.1.1 49 ∧ v.1.1 50 = w.1.1 50) ∨ ((∀ j, j < 4 → w.1.2 22 j = -1) ∧ (v.1.1 49 = c2.1 11 ∧ v.1.1 50 = c2.1 10) ∧ ((cr = 0 ∧ r = -1 ∧ LiveX N 0 n E lg s v) ∨ (cr = 1 ∧ n = 500 ∧ r = -4 ∧ LiveX N 0 n E lg s v) ∨ (cr = 1 ∧ n < 500 ∧ r = c2.1 23 ∧ ∃ E2 en sv, LiveX N 0 (n + 1) E2 (fun k => if k = n then en else lg k) (fun k => if k = n + 1 then sv else s k) v ∧ Inv sv ∧ LRel (dL c2) sv ∧ (∀ k, (k = 2 ∨ k = 3 ∨ k = 4) → sv.1.1 k = (s n).1.1 k ∧ sv.2.1 k = (s n).2.1 k) ∧ ∀ k, k ≤ 26 → sv.1.2 k = (s n).1.2 k ∧ sv.2.2 k = (s n).2.2 k)))
theorem laws_core {N tp n E : Nat} {lg : Nat → En} {s : Nat → GS} {w : GS} {T : Nat → Nat} {c c2 : MS} {cr : Int32} (h : LiveX N tp n E lg s w) (hN : N ≤ 24000) (hTC : TC T tp c) (h40 : ∀ i, i < tp → w.1.2 40 i = sb (T i)) (hc : x_X5_readLaws c = some (cr, c2)) : Ok f_laws w (LawQ N n E lg s w cr c2) := by
  have hL := h
  obtain ⟨hn, e53, e55, e42, htp, hE, hR, hA, hlg, h54, h13⟩ := h
  have hs := hR.2.1 n (Nat.le_refl _)
  have hI := hL.inv
  unfold f_laws
  refine ok_laws4X (fun m hm => (hI.1.2.2.2.2.2.1 m hm).1) _ _ (fun v1 x2 hv => ?_) 4 0 fuel 0 (by omega) (by unfold fuel; omega) (Or.inl ⟨rfl, fun j hj => absurd hj (Nat.not_lt_zero _)⟩)
  refine Ok_wf (Ok_uf' (fun x hx => ?_))
  have ex : x = nI tp := hx.symm.trans ((swf_o (w := w) (k := 41) (x := 0) (by decide)).1.trans e42)
  subst ex
  refine Ok_wf (Ok_wf ?_)
  have f41 : Im (swf 42 0 (swf 43 (nI tp) (swf 41 0 w))) 41 0 := (swf_e.o (by decide)).o (by decide)
  have f43 : Im (swf 42 0 (swf 43 (nI tp) (swf 41 0 w))) 43 (nI tp) := swf_e.o (by decide)
  have f42 : (swf 42 0 (swf 43 (nI tp) (swf 41 0 w))).1.1 42 = nI 0 := (swf_e (k := 42) (x := 0)).2
  have fo : ∀ k, ¬ k = 41 → ¬ k = 42 → ¬ k = 43 → (swf 42 0 (swf 43 (nI tp) (swf 41 0 w))).1.1 k = w.1.1 k ∧ (swf 42 0 (swf 43 (nI tp) (swf 41 0 w))).2.1 k = w.2.1 k := fun k h1 h2 h3 => by
    have a1 := swf_o (w := swf 43 (nI tp) (swf 41 0 w)) (k := 42) (x := 0) h2
    have a2 := swf_o (w := swf 41 0 w) (k := 43) (x := nI tp) h3
    have a3 := swf_o (w := w) (k := 41) (x := 0) h1
    exact ⟨a1.1.trans (a2.1.trans a3.1), a1.2.trans (a2.2.trans a3.2)⟩
  have fa : (swf 42 0 (swf 43 (nI tp) (swf 41 0 w))).1.2 = w.1.2 ∧ (swf 42 0 (swf 43 (nI tp) (swf 41 0 w))).2.2 = w.2.2 := ⟨rfl, rfl⟩
  have hA4 : Ag (s n) (swf 42 0 (swf 43 (nI tp) (swf 41 0 w))) := ((hA.wfN (hs.2.2.1 41 rfl) 0).wfN (hs.2.2.1 43 rfl) (nI tp)).wfU rfl 0
  generalize swf 42 0 (swf 43 (nI tp) (swf 41 0 w)) = w4 at f41 f43 f42 fo fa hA4 ⊢
  refine Ok_ite (fun h0 => ?_) (fun h0 => Ok_rt (Or.inl ⟨?_, rfl, ?_, (fo 49 (by decide) (by decide) (by decide)).1, (fo 50 (by decide) (by decide) (by decide)).1⟩))
  · have hfree : ∀ j, j < 4 → w.1.2 22 j = -1 := by
      rcases hv with ⟨-, hv⟩ | ⟨hv, -⟩
      · exact hv
      · rw [hv] at h0; exact absurd h0 (by decide)
    have hfs : ∀ m, m < 4 → (s n).1.2 22 m = -1 := fun m hm => (hA.va rfl (hs.1.1.2.2.2.2.2.1 m hm).1).symm.trans (hfree m hm)
    refine Ok_wf (Ok_wf ?_)
    have g41 : Im (swf 50 (-1) (swf 49 0 w4)) 41 0 := (f41.o (by decide)).o (by decide)
    have g43 : Im (swf 50 (-1) (swf 49 0 w4)) 43 (nI tp) := (f43.o (by decide)).o (by decide)
    have g49 : (swf 50 (-1) (swf 49 0 w4)).1.1 49 = 0 := (swf_o (by decide)).1.trans (swf_e (w := w4) (k := 49) (x := 0)).2
    have g50 : (swf 50 (-1) (swf 49 0 w4)).1.1 50 = -1 := (swf_e (w := swf 49 0 w4) (k := 50) (x := -1)).2
    have go : ∀ k, ¬ k = 49 → ¬ k = 50 → (swf 50 (-1) (swf 49 0 w4)).1.1 k = w4.1.1 k ∧ (swf 50 (-1) (swf 49 0 w4)).2.1 k = w4.2.1 k := fun k h1 h2 => by
      have a1 := swf_o (w := swf 49 0 w4) (k := 50) (x := -1) h2
      have a2 := swf_o (w := w4) (k := 49) (x := 0) h1
      exact ⟨a1.1.trans a2.1, a1.2.trans a2.2⟩
    have ga : (swf 50 (-1) (swf 49 0 w4)).1.2 = w.1.2 ∧ (swf 50 (-1) (swf 49 0 w4)).2.2 = w.2.2 := fa
    generalize swf 50 (-1) (swf 49 0 w4) = w6 at g41 g43 g49 g50 go ga ⊢
    have hT : Tx w6 tp := ⟨g41.1, Or.inl g41.2, g43, htp⟩
    have hTR : TR T tp w6 := by
      refine ⟨hT, trivial, fun i hi => ⟨(hTC.2.2 i hi).1, ?_⟩⟩
      unfold rz
      rw [g41.2, if_pos rfl]
      show w6.1.2 40 (nI i).toNatClampNeg = sb (T i)
      rw [nI_clamp (by omega), ga.1]
      exact h40 i hi
    -- what stands behind the reading
    have hmid : ∀ v, PX w6 v → Mid n E (s n) w v ∧ Im v 43 (nI tp) := fun v hv => by
      obtain ⟨⟨p1, p2⟩, -⟩ := hv
      have pi : ∀ k, ¬ (27 ≤ k ∧ k ≤ 31) → ¬ (44 ≤ k ∧ k ≤ 51) → ¬ k = 41 → ¬ k = 42 → ¬ k = 43 → v.1.1 k = w.1.1 k ∧ v.2.1 k = w.2.1 k := fun k h1 h2 h3 h4 h5 => by
        have a1 := p1 k h1 h2
        have a2 := go k (by omega) (by omega)
        have a3 := fo k h3 h4 h5
        exact ⟨a1.1.trans (a2.1.trans a3.1), a1.2.trans (a2.2.trans a3.2)⟩
      have pa : ∀ k, ¬ (32 ≤ k ∧ k ≤ 37) → v.1.2 k = w.1.2 k ∧ v.2.2 k = w.2.2 k := fun k h1 => ⟨(p2 k h1).1.trans (congrFun ga.1 k), (p2 k h1).2.trans (congrFun ga.2 k)⟩
      refine ⟨⟨⟨fun k hk hL hm => ?_, fun k j hk hA2 hm => ?_⟩, (pi 53 (by decide) (by decide) (by decide) (by decide) (by decide)).1.trans e53, (pi 55 (by decide) (by decide) (by decide) (by decide) (by decide)).1.trans e55, ?_, (pa 52 (by decide)).1, fun j hj => ?_, fun c hc => ?_⟩, ?_⟩
      · have n1 := isS_ne (hs.2.2.i hm)
        have n2 := trk_ne hk
        have n3 := of_decide_eq_false hL
        have h9 := pi k n3 (by omega) n1.1 n2.1 n1.2.1
        rw [h9.1, h9.2]
        exact hA.1 k hk hm
      · have n3 := of_decide_eq_false hA2
        rw [(pa k n3).1, (pa k n3).2]
        exact hA.2 k j hk hm
      · exact (p1 42 (by decide) (by decide)).1.trans ((go 42 (by decide) (by decide)).1.trans f42)
      · rw [(pa 54 (by decide)).1, (pa 54 (by decide)).2]
        exact ⟨h54 j hj, rfl⟩
      · rw [(pa 13 (by decide)).2]; exact h13 c hc
      · exact ⟨(p1 43 (by decide) (by decide)).2.trans g43.1, (p1 43 (by decide) (by decide)).1.trans g43.2⟩
    refine Ok_cl (Ok.mono (((ok_readLaws hT).and (ls_readAll hTC hTR)).fx fx_readLaws) (fun r v z => ?_))
    obtain ⟨⟨z, zl⟩, zf⟩ := z
    rcases z with ⟨rfl, z⟩ | ⟨rfl, z, -⟩
    · have q : cr = 0 ∧ v.1.1 49 = c2.1 11 ∧ v.1.1 50 = c2.1 10 := by
        rcases zl with ⟨-, f, p, -, -, hFV, hCN⟩ | ⟨z9, -⟩
        · obtain ⟨q1, q2⟩ := hCN _ _ hc
          exact ⟨q1, hFV.1.2.trans q2.1.symm, hFV.2.2.trans q2.2.symm⟩
        · cases z9
      obtain ⟨hM, h43⟩ := hmid v z
      refine Ok_otN (Ok_rfN h43 (Ok_uf' (fun x hx => ?_)))
      have ex : x = nI E := hx.symm.trans hM.2.2.1
      subst ex
      have hend : ∀ v5 : Int32, Ok (pcl (f_lawsAgain) (fun r_44 => (if (0 : Int32) = 0 then prt (-1) else puf 53 (fun x_48 => (if x_48 = 500 then prt (-4) else puf 55 (fun x_51 => pwf 55 (x_51 + nI tp) (pcl (f_act 0 (nI E) (nI tp) 0) (fun r_55 => prt r_55)))))))) v (LawQ N n E lg s w cr c2) := fun v5 =>
        Ok_cl (Ok.mono ((mid_again hL hN hM).fw fw_lawsAgain) (fun _ y hy => Ok_ite (fun _ => Ok_rt (Or.inr ⟨hfree, ⟨(hy.2.1 49 rfl).trans q.2.1, (hy.2.1 50 rfl).trans q.2.2⟩, Or.inl ⟨q.1, rfl, hy.1.1⟩⟩)) (fun z => absurd rfl z)))
      obtain ⟨m, em, -⟩ := fuel_succ 1 (by decide)
      rw [em]
      unfold lp_laws_99
      exact Ok_ite (fun _ => hend 0) (fun _ => Ok_ite (fun _ => hend 0) (fun z => absurd rfl z))
    · have q : cr = 1 ∧ c2.1 11 = 0 ∧ c2.1 10 = -1 := by
        rcases zl with ⟨z9, -⟩ | ⟨-, hCN⟩
        · cases z9
        · obtain ⟨q1, q2, -⟩ := hCN _ _ hc
          exact ⟨q1, q2, readLaws_fp c _ _ hc q2⟩
      obtain ⟨rfl, q11, q10⟩ := q
      have hzf := zf 0 rfl
      have q49 : v.1.1 49 = c2.1 11 := (hzf.1 49 rfl).trans (g49.trans q11.symm)
      have q50 : v.1.1 50 = c2.1 10 := (hzf.1 50 rfl).trans (g50.trans q10.symm)
      have z40 : v.1.2 40 = w.1.2 40 := (z.1.2 40 (by decide)).1.trans (congrFun ga.1 40)
      obtain ⟨hM, h43⟩ := hmid v z
      refine Ok_otS (Ok_rfN h43 (Ok_uf' (fun x hx => ?_)))
      have ex : x = nI E := hx.symm.trans hM.2.2.1
      subst ex
      refine ok_laws99V E tp (by omega) htp v1 _ _ (fun y v5 hc9 hv9 => ?_) tp 0 fuel v (by omega) (by unfold fuel; omega) ⟨rfl, rfl, fun _ _ => ⟨rfl, rfl⟩, fun _ _ => rfl, fun _ hj => hj, fun j hj => absurd hj (Nat.not_lt_zero _)⟩ (fun j hj => absurd hj (Nat.not_lt_zero _))
      obtain ⟨c1, c2', c3, c4, c5, c6⟩ := hc9
      have hvT : ∀ j, j < tp → y.1.2 54 (E + j) = sb (T j) := fun j hj => by
        rw [hv9 j hj, z40, h40 j hj, nar_sb _ (hTC.2.2 j hj).1]
      have hM2 : Mid n E (s n) w y := by
        obtain ⟨m1, m2, m3, m4, m5, m6, m7⟩ := hM
        refine ⟨⟨fun k hk hL hm => ?_, fun k j hk hA2 hm => ?_⟩, (congrFun c1 53).trans m2, (congrFun c1 55).trans m3, (congrFun c1 42).trans m4, (c3 52 (by decide)).1.trans m5, fun j hj => ⟨c5 j (m6 j hj).1, (c4 j hj).trans (m6 j hj).2⟩, fun c hc => ?_⟩
        · rw [c1, c2']; exact m1.1 k hk hL hm
        · have n1 := hs.2.2.a hm
          rw [(c3 k n1.1).1, (c3 k n1.1).2]
          exact m1.2 k j hk hA2 hm
        · rw [(c3 13 (by decide)).2]; exact m7 c hc
      refine Ok_cl (Ok.mono ((mid_again hL hN hM2).fw fw_lawsAgain) (fun _ y2 hy => Ok_ite (fun z => absurd z (by decide)) (fun _ => ?_)))
      obtain ⟨⟨hy, hF⟩, hw⟩ := hy
      have w49 : y2.1.1 49 = c2.1 11 := (hw.1 49 rfl).trans ((congrFun c1 49).trans q49)
      have w50 : y2.1.1 50 = c2.1 10 := (hw.1 50 rfl).trans ((congrFun c1 50).trans q50)
      refine Ok_uf' (fun x hx => ?_)
      have ex : x = nI n := hx.symm.trans hy.2.1
      subst ex
      refine Ok_ite (fun he => Ok_rt (Or.inr ⟨hfree, ⟨w49, w50⟩, Or.inr (Or.inl ⟨rfl, (nI_eq (a := n) (b := 500) (by omega) (by decide)).mp he, rfl, hy⟩)⟩)) (fun hne => Ok_uf' (fun x2 hx2 => ?_))
      have hn5 : n < 500 := by
        rcases Nat.lt_or_ge n 500 with y | y
        · exact y
        · have : n = 500 := by omega
          subst this
          exact absurd rfl hne
      have ex : x2 = nI E := hx2.symm.trans hy.2.2.1
      subst ex
      rw [nI_add]
      refine Ok_wf ?_
      have y54 : y2.1.2 54 = y.1.2 54 := (hF.2.1 54 rfl).1
      have hy2 : LiveX N 0 n (E + tp) lg s (swf 55 (nI (E + tp)) y2) := by
        obtain ⟨b1, b2, b3, b4, b5, b6, b7, b8, b9, b10, b11⟩ := hy
        refine ⟨b1, (swf_o (by decide)).1.trans b2, (swf_e (k := 55)).2, (swf_o (by decide)).1.trans b4, by omega, by omega, ?_, b8.wfU rfl _, b9, fun j hj => ?_, b11⟩
        · exact b7.up (fun _ _ => rfl) (by omega) (by omega) (fun _ _ => rfl)
        · show y2.2.2 54 j = true
          by_cases hj2 : j < E
          · exact b10 j hj2
          · rw [(hF.2.1 54 rfl).2]
            have h9 := c6 (j - E) (by omega)
            have e9 : E + (j - E) = j := by omega
            rw [e9] at h9
            exact h9
      have u49 : (swf 55 (nI (E + tp)) y2).1.1 49 = c2.1 11 := (swf_o (by decide)).1.trans w49
      have u50 : (swf 55 (nI (E + tp)) y2).1.1 50 = c2.1 10 := (swf_o (by decide)).1.trans w50
      have uT : ∀ j, j < tp → (swf 55 (nI (E + tp)) y2).1.2 54 (E + j) = sb (T j) := fun j hj => (congrFun y54 (E + j)).trans (hvT j hj)
      generalize swf 55 (nI (E + tp)) y2 = y3 at hy2 u49 u50 uT ⊢
      obtain ⟨v9, q1, q2, q3, q4, q5, q6, q7⟩ := stp_lawX (E := E + tp) (f := E) (n := tp) (c0 := 0) (tx := y3.1.2 54) hs.1 hfs (Nat.le_refl _) (by omega) htp uT hTC hc
      refine Ok_cl (Ok.mono ((act_coreX hy2 hN 0 (nI E) (nI tp) 0 q1 q2 q3 (fun _ => ⟨E, tp, rfl, rfl, Nat.le_refl _, htp, q4⟩) (fun z => absurd rfl z)).fw (fw_act _ _ _ _)) (fun r y4 hz => Ok_rt ?_))
      obtain ⟨hz, hw4⟩ := hz
      rcases hz with ⟨hz, -⟩ | ⟨-, hz1, y5, hz2, hz3, hz4⟩
      · omega
      refine Or.inr ⟨hfree, ⟨(hw4.1 49 rfl).trans u49, (hw4.1 50 rfl).trans u50⟩, Or.inr (Or.inr ⟨rfl, hn5, ?_, E + tp, _, v9, hz1, q2, q5, q6, q7⟩)⟩
      unfold f_does at hz4
      rw [if_pos rfl] at hz4
      obtain ⟨b, w1, f2, f3⟩ := pcl_some hz4
      cases f3
      obtain ⟨r5, v5', e5, e6, -⟩ := take_ex (u := y5) E tp (by omega) htp (fun k hk => by rw [hz3]; exact hy2.2.2.2.2.2.2.2.2.2.1 (E + k) (by omega)) (fun k hk => by rw [hz2]; exact uT k hk) hTC hc
      rw [f2] at e5
      cases e5
      exact e6
  · rcases hv with ⟨hv, -⟩ | ⟨-, hv⟩
    · exact absurd hv h0
    · exact hv
  · refine ⟨hn, (fo 53 (by decide) (by decide) (by decide)).1.trans e53, (fo 55 (by decide) (by decide) (by decide)).1.trans e55, f42, by omega, by omega, ?_, hA4, ?_, ?_, ?_⟩
    · rw [fa.1]; exact hR
    · intro k hk
      rw [fa.1]; exact hlg k hk
    · intro j hj
      rw [fa.2]; exact h54 j hj
    · intro c hc
      rw [fa.2]; exact h13 c hc
end
section
/-! ===== laws(), both sides ===== -/
theorem R0.lw {B B2 : Nat → Int32} {u v : GS} (h : R0 B u) (hB : ∀ j, ¬ j = 3 → B2 j = B j) (hi : ∀ k, (k = 2 ∨ k = 3 ∨ k = 4) → v.1.1 k = u.1.1 k ∧ v.2.1 k = u.2.1 k) (ha : ∀ k, k ≤ 26 → v.1.2 k = u.1.2 k ∧ v.2.2 k = u.2.2 k) : R0 B2 v := by
  have am : ∀ {k j x}, k ≤ 26 → Am u k j x → Am v k j x := fun hk z => by
    unfold Am at z ⊢
    rw [(ha _ hk).1, (ha _ hk).2]
    exact z
  have im : ∀ {k x}, (k = 2 ∨ k = 3 ∨ k = 4) → Im u k x → Im v k x := fun a z => ⟨(hi _ a).2.trans z.1, (hi _ a).1.trans z.2⟩
  have en : nF v = nF u := by
    unfold nF
    rw [(hi 2 (Or.inl rfl)).1]
  obtain ⟨⟨i2, i3, i4⟩, hC, hF, hN, hR, hM⟩ := h
  refine ⟨⟨by rw [hB 2 (by decide)]; exact im (Or.inl rfl) i2, by rw [hB 0 (by decide)]; exact im (Or.inr (Or.inl rfl)) i3, by rw [hB 1 (by decide)]; exact im (Or.inr (Or.inr rfl)) i4⟩, fun c hc => ?_, fun f hf => ?_, fun f h1 h2 => ?_, fun c hc i hi => ?_, fun m hm => ?_⟩
  · have z := hC c hc
    unfold rC at z ⊢
    rw [hB _ (by omega), hB _ (by omega), hB _ (by omega), hB _ (by omega)]
    exact ⟨am (by decide) z.1, am (by decide) z.2.1, am (by decide) z.2.2.1, fun q => ⟨am (by decide) (z.2.2.2 q).1, fun p h1 h2 => by rw [hB _ (by omega)]; exact am (by decide) ((z.2.2.2 q).2 p h1 h2)⟩⟩
  · have z := hF f (by rw [← en]; exact hf)
    unfold rF at z ⊢
    rw [hB _ (by omega), hB _ (by omega), hB _ (by omega), hB _ (by omega), hB _ (by omega), hB _ (by omega), hB _ (by omega)]
    exact ⟨am (by decide) z.1, am (by decide) z.2.1, am (by decide) z.2.2.1, am (by decide) z.2.2.2.1, am (by decide) z.2.2.2.2.1, am (by decide) z.2.2.2.2.2.1, am (by decide) z.2.2.2.2.2.2⟩
  · have z := hN f (by rw [← en]; exact h1) h2
    unfold rN at z ⊢
    rw [hB _ (by omega), hB _ (by omega)]
    exact z
  · have q : ∀ k, B2 (fc c i + k) = B (fc c i + k) := fun k => hB _ (by unfold fc; omega)
    have q0 : B2 (fc c i) = B (fc c i) := q 0
    rcases hR c hc i hi with ⟨a, b⟩ | ⟨⟨a, b, m, d, e, f⟩ | ⟨a, b, d, e, f, g⟩, y, z⟩
    · exact Or.inl ⟨q0.trans a, am (by decide) b⟩
    · refine Or.inr ⟨Or.inl ⟨q0.trans a, am (by decide) b, m, d, (q 7).trans e, am (by decide) f⟩, ?_, ?_⟩
      · rw [q 1]; exact am (by decide) y
      · rw [q 2]; exact am (by decide) z
    · refine Or.inr ⟨Or.inr ⟨q0.trans a, am (by decide) b, ?_, ?_, ?_, ?_⟩, ?_, ?_⟩
      · rw [q 3]; exact am (by decide) d
      · rw [q 4]; exact am (by decide) e
      · rw [q 5]; exact am (by decide) f
      · rw [q 6]; exact am (by decide) g
      · rw [q 1]; exact am (by decide) y
      · rw [q 2]; exact am (by decide) z
  · have q : ∀ k, B2 (mc0 m + k) = B (mc0 m + k) := fun k => hB _ (by unfold mc0; omega)
    have q0 : B2 (mc0 m) = B (mc0 m) := q 0
    rcases hM m hm with ⟨a, b⟩ | ⟨c, i, a, b, d, e, f, g, k, l, n⟩
    · exact Or.inl ⟨(q 1).trans a, am (by decide) b⟩
    · refine Or.inr ⟨c, i, a, b, q0.trans d, (q 1).trans e, am (by decide) f, ?_, ?_, ?_, fun j hj => ?_⟩
      · rw [q 2]; exact am (by decide) g
      · rw [q 3]; exact am (by decide) k
      · rw [q 4]; exact am (by decide) l
      · have e9 : mc0 m + 5 + j = mc0 m + (5 + j) := by omega
        rw [e9, q (5 + j), ← e9]
        exact am (by decide) (n j hj)
/-! the open fights -/
def opn (B : Nat → Int32) : Nat → Nat
  | 0 => 0
  | k + 1 => opn B k + (if B (mc0 k + 1) = -1 then 0 else 1)
theorem opn_s (B : Nat → Int32) (k : Nat) : opn B (k + 1) = opn B k + (if B (mc0 k + 1) = -1 then 0 else 1) := rfl
theorem opn_le (B : Nat → Int32) : ∀ k, opn B k ≤ k := by
  intro k
  induction k with
  | zero => exact Nat.le_refl _
  | succ k ih =>
    rw [opn_s]
    split
    · omega
    · omega
theorem opn_0 (B : Nat → Int32) : ∀ k, opn B k = 0 ↔ ∀ m, m < k → B (mc0 m + 1) = -1 := by
  intro k
  induction k with
  | zero => exact ⟨fun _ m hm => absurd hm (Nat.not_lt_zero _), fun _ => rfl⟩
  | succ k ih =>
    rw [opn_s]
    by_cases h : B (mc0 k + 1) = -1
    · rw [if_pos h]
      refine ⟨fun z m hm => ?_, fun z => ih.mpr (fun m hm => z m (by omega))⟩
      by_cases e : m = k
      · rw [e]; exact h
      · exact ih.mp (by omega) m (by omega)
    · rw [if_neg h]
      exact ⟨fun z => by omega, fun z => absurd (z k (by omega)) h⟩
theorem e_open_lp {u : MS} {K : Int32 → Int32 → NG Int32} : ∀ (t k n : Nat), k + t = 4 → t < n → xl_X3_openFights_4 n (nI (opn (u.2 0) k)) (nI k) K u = K (nI (opn (u.2 0) 4)) (nI 4) u := by
  intro t
  induction t with
  | zero =>
    intro k n hk hn
    cases n with
    | zero => omega
    | succ n =>
      have : k = 4 := by omega
      subst this
      unfold xl_X3_openFights_4
      rw [if_pos (show (4 : Int32) ≤ nI 4 from Int32.le_refl _)]
  | succ t ih =>
    intro k n hk hn
    cases n with
    | zero => omega
    | succ n =>
      unfold xl_X3_openFights_4
      rw [if_neg (show ¬ (4 : Int32) ≤ nI k from fun z => absurd ((nI_leI (a := 4) (b := k) (by decide) (by omega)).mp z) (by omega))]
      refine ncl_eq2 (e_isFree (by omega)) ?_
      have h9 := ih (k + 1) n (by omega) (by omega)
      rw [opn_s] at h9
      by_cases h : u.2 0 (mc0 k + 1) = -1
      · rw [if_pos h] at h9
        rw [if_pos h, if_neg (by decide)]
        show xl_X3_openFights_4 n (nI (opn (u.2 0) k) + 0) (nI k + 1) K u = _
        rw [nI_1, show nI (opn (u.2 0) k) + 0 = nI (opn (u.2 0) k + 0) from nI_add _ 0]
        exact h9
      · rw [if_neg h] at h9
        rw [if_neg h, if_pos rfl]
        show xl_X3_openFights_4 n (nI (opn (u.2 0) k) + 1) (nI k + 1) K u = _
        rw [nI_1, nI_1]
        exact h9
theorem e_openFights {u : MS} : x_X3_openFights u = some (nI (opn (u.2 0) 4), u) := by
  unfold x_X3_openFights
  exact e_open_lp 4 0 fuel (by decide) (by unfold fuel; omega)
theorem R0.free {B : Nat → Int32} {w : GS} (h : R0 B w) {m : Nat} (hm : m < 4) : w.1.2 22 m = -1 ↔ B (mc0 m + 1) = -1 := by
  rcases h.2.2.2.2.2 m hm with ⟨a, b⟩ | ⟨c, i, a, b, d, e, f, -⟩
  · exact ⟨fun _ => a, fun _ => b.2⟩
  · refine ⟨fun z => ?_, fun z => ?_⟩
    · rw [f.2] at z
      exact absurd z (by intro y; have h9 := congrArg Int32.toInt y; rw [nI_toInt (by omega)] at h9; have h8 : (-1 : Int32).toInt = -1 := by decide
                         omega)
    · rw [e] at z
      exact absurd z (by intro y; have h9 := congrArg Int32.toInt y; rw [nI_toInt (by omega)] at h9; have h8 : (-1 : Int32).toInt = -1 := by decide
                         omega)
theorem dnew_same (u : MS) : Same [20, 21, 22, 23, 24, 25] [8, 9, 10] u (dnew u) := by
  refine ⟨fun k hk => if_neg (fun z => hk (List.contains_iff_mem.mp z)), fun k hk => ?_⟩
  simp only [List.mem_cons, List.not_mem_nil, or_false, not_or] at hk
  show (if k = 8 then _ else if k = 9 then _ else if k = 10 then _ else u.2 k) = u.2 k
  rw [if_neg hk.1, if_neg hk.2.1, if_neg hk.2.2]
theorem dL_same {LI LA : List Nat} {u v : MS} (hs : Same LI LA u v) (h1 : ∀ k ∈ LI, k < 20) (h2 : ∀ k ∈ LA, k < 8) : dL v = dL u := by
  refine Prod.ext (funext (fun j => ?_)) (funext (fun a => ?_))
  · exact hs.1 (20 + j) (fun z => absurd (h1 _ z) (by omega))
  · exact hs.2 (8 + a) (fun z => absurd (h2 _ z) (by omega))
theorem kpL_q {LW : List gLw} {q : Nat} {w : gLw} (hq : q ≤ LW.length) (hl : LW.length < 2 ^ 31) : kpL LW (nI q) w = if q = LW.length then LW ++ [w] else LW.set q w := by
  unfold kpL
  rw [if_neg (nI_nn (by omega))]
  by_cases h : q = LW.length
  · rw [if_pos h, if_pos (nI_le (by omega) (by omega))]
  · rw [if_neg h, if_neg (fun z => absurd ((nI_leI (by omega) (by omega)).mp z) (by omega)), nI_clamp (by omega)]
theorem kpL_lnq {P : LwP} {LW : List LwP} {q : Nat} {w : LwP} (hq : q ≤ LW.length) (hl : LW.length < 2 ^ 31) : lnq P (kpL LW (nI q) w) (q + 1) = w ∧ (∀ k, k ≤ q → lnq P (kpL LW (nI q) w) k = lnq P LW k) ∧ q + 1 ≤ (kpL LW (nI q) w).length ∧ LW.length ≤ (kpL LW (nI q) w).length := by
  rw [kpL_q hq hl]
  unfold lnq
  rw [if_neg (by omega), Nat.add_sub_cancel]
  by_cases h : q = LW.length
  · subst h
    rw [if_pos rfl]
    refine ⟨?_, fun k hk => ?_, by rw [List.length_append]; exact Nat.le_refl _, by rw [List.length_append]; omega⟩
    · rw [List.getD_eq_getElem?_getD, List.getElem?_append_right (Nat.le_refl _), Nat.sub_self]
      rfl
    · by_cases h0 : k = 0
      · rw [if_pos h0, if_pos h0]
      · rw [if_neg h0, if_neg h0, List.getD_eq_getElem?_getD, List.getD_eq_getElem?_getD, List.getElem?_append_left (by omega)]
  · rw [if_neg h]
    refine ⟨?_, fun k hk => ?_, by rw [List.length_set]; omega, by rw [List.length_set]; exact Nat.le_refl _⟩
    · rw [List.getD_eq_getElem?_getD, List.getElem?_set, if_pos rfl, if_pos (by omega)]
      rfl
    · by_cases h0 : k = 0
      · rw [if_pos h0, if_pos h0]
      · rw [if_neg h0, if_neg h0, List.getD_eq_getElem?_getD, List.getD_eq_getElem?_getD, List.getElem?_set, if_neg (by omega)]
/-- as sm_act, of an act that writes the Parser's cells too -/
theorem sm_act2 {P : LwP} {LW LW2 : List LwP} {N tp n E ch C q2 N2 tp2 E2 : Nat} {u v : MS} {w w2 sv : GS} {lg : Nat → En} {s : Nat → GS} {p q : Nat → Nat} {en : En} (h : SmX P LW N tp u w n E lg s p q ch C) (e1 : v.1 1 = nI (n + 1)) (e3 : v.2 3 n = nI ch) (e3k : ∀ k, k < n → v.2 3 k = u.2 3 k) (hs : Hs u v) (hL : LiveX N2 tp2 (n + 1) E2 (fun k => if k = n then en else lg k) (fun k => if k = n + 1 then sv else s k) w2) (hR : RX P LW2 q2 (v.2 0) sv) (hq : q n ≤ q2) (hW : ∀ k, k ≤ q n → lnq P LW2 k = lnq P LW k) (hWl : LW.length ≤ LW2.length) (hl : LW2.length < 2 ^ 31) (hb : ∀ c, c < 4 → Bd (v.2 0) c v) : SmE P LW2 N2 tp2 v w2 := by
  obtain ⟨-, h1, hK, hp, hm, hBk, hn, hqm, -, -⟩ := h
  have hs2 := hs
  obtain ⟨ch0, C0, ch1, C1, k1, k2, hle, hh⟩ := hs2
  obtain ⟨rfl, rfl⟩ := hK.inj k1
  have hto : ∀ {k B x}, k ≤ q n → RX P LW k B x → RX P LW2 k B x := fun hk z => by
    obtain ⟨a, a2, b, c, d⟩ := z
    exact ⟨a, a2, b, Nat.le_trans c hWl, by rw [hW _ hk]; exact d⟩
  refine ⟨n + 1, E2, _, _, fun k => if k = n then ch else p k, fun k => if k = n + 1 then q2 else q k, ch1, C1, hL, e1, k2, fun k hk => ?_, fun i j hij hj => ?_, fun k hk => ?_, ?_, fun i j hij hj => ?_, hb, hl⟩
  · show v.2 3 k = nI (if k = n then ch else p k) ∧ (if k = n then ch else p k) ≤ ch1
    by_cases c0 : k = n
    · subst c0
      rw [if_pos rfl]
      exact ⟨e3, hle⟩
    · rw [if_neg c0]
      obtain ⟨a, b⟩ := hp k (by omega)
      exact ⟨(e3k k (by omega)).trans a, by omega⟩
  · show (if i = n then ch else p i) ≤ (if j = n then ch else p j)
    by_cases cj : j = n
    · rw [if_pos cj]
      by_cases ci : i = n
      · rw [if_pos ci]; exact Nat.le_refl _
      · rw [if_neg ci]
        exact (hp i (by omega)).2
    · rw [if_neg cj, if_neg (by omega)]
      exact hm i j hij (by omega)
  · show RX P LW2 (if k = n + 1 then q2 else q k) (hB v (if k = n then ch else p k)) (if k = n + 1 then sv else s k)
    rw [if_neg (show ¬ k = n + 1 by omega), if_neg (show ¬ k = n + 1 by omega)]
    refine hto (hqm k n (by omega) (Nat.le_refl _)) ?_
    by_cases c0 : k = n
    · subst c0
      rw [if_pos rfl, hh ch (Nat.le_refl _), hB_top hK]
      exact hn
    · rw [if_neg c0, hh (p k) (hp k (by omega)).2]
      exact hBk k (by omega)
  · show RX P LW2 (if n + 1 = n + 1 then q2 else q (n + 1)) (v.2 0) (if n + 1 = n + 1 then sv else s (n + 1))
    rw [if_pos rfl, if_pos rfl]
    exact hR
  · show (if i = n + 1 then q2 else q i) ≤ (if j = n + 1 then q2 else q j)
    by_cases cj : j = n + 1
    · rw [if_pos cj]
      by_cases ci : i = n + 1
      · rw [if_pos ci]; exact Nat.le_refl _
      · rw [if_neg ci]
        exact Nat.le_trans (hqm i n (by omega) (Nat.le_refl _)) hq
    · rw [if_neg cj, if_neg (by omega)]
      exact hqm i j hij (by omega)
theorem RX.law {P : LwP} {LW LW2 : List LwP} {q : Nat} {B B2 : Nat → Int32} {w w2 : GS} {L : MS} (h : RX P LW q B w) (hI : Inv w) (h2 : R0 B2 w2) (hB : ∀ j, ¬ j = 3 → B2 j = B j) (h3 : B2 3 = nI (q + 1)) (hq : q + 1 ≤ LW2.length) (hL : (lnq P LW2 (q + 1)).2.2 = L) (hl : LRel L w2) : RX P LW2 (q + 1) B2 w2 := by
  obtain ⟨a, ⟨a2, a3, ⟨v1, v2, v3⟩, a5⟩, b, c, d⟩ := h
  refine ⟨a.quiet hI h2 ⟨fun c hc j j1 j2 => hB j (by omega), fun j j1 j2 => hB j (by omega), fun f hf => hB _ (by omega)⟩ (fun c hc hk => ?_), ⟨a2.to (fun j hj => hB j (by omega)), a3.to (fun j j1 j2 => hB j (by omega)), ⟨by rw [hB 0 (by decide)]; exact v1, by rw [hB 1 (by decide)]; exact v2, fun f hf => by rw [hB _ (by omega)]; exact v3 f hf⟩, a5.to (fun j j1 j2 => hB j (by omega)) (fun j hj => hB j (by omega))⟩, h3, hq, by rw [hL]; exact hl⟩
  rcases (hI.1.2.2.2.1 c hc).2.2.1 with z | ⟨n, z⟩
  · exact absurd (hk.symm.trans ((a.1.kd hc).inj z)) (by decide)
  · rcases hI.1.dr z with ⟨s, hP, -⟩ | ⟨L, hT, -⟩
    · exact absurd (hk.symm.trans ((a.1.kz hc).1 s hP).1) (by decide)
    · exact ⟨L, hT⟩
section
variable {P : LwP} {LW : List LwP} {N tp n E ch C : Nat} {u v : MS} {w : GS} {lg : Nat → En} {s : Nat → GS} {p q : Nat → Nat}
theorem TpR.zero {w2 : GS} (h2 : v.1 2 = 0) : TpR 0 v w2 := ⟨fun _ => 0, ⟨Nat.zero_le _, h2, fun i hi => absurd hi (Nat.not_lt_zero _)⟩, fun i hi => absurd hi (Nat.not_lt_zero _)⟩
theorem free_iff (h : R0 (u.2 0) w) : nI (opn (u.2 0) 4) ≤ (0 : Int32) ↔ ∀ j, j < 4 → w.1.2 22 j = -1 := by
  have hle := opn_le (u.2 0) 4
  have h1 : nI (opn (u.2 0) 4) ≤ (0 : Int32) ↔ opn (u.2 0) 4 = 0 := by
    refine ⟨fun z => ?_, fun z => ?_⟩
    · have h9 := (nI_leI (a := opn (u.2 0) 4) (b := 0) (by omega) (by decide)).mp z
      omega
    · rw [z]; decide
  rw [h1, opn_0]
  exact ⟨fun z j hj => (h.free hj).mpr (z j hj), fun z j hj => (h.free hj).mp (z j hj)⟩
theorem sim_lawsNo {r : Int32} (h : SmX P LW N tp u w n E lg s p q ch C) (hN : N ≤ 24000) (hT : TpR tp u w) (hF : FtR u w) (e : x_lawsNo u = some (r, v)) : Ok f_laws w (fun r2 w2 => r2 = r ∧ SmE P LW N 0 v w2 ∧ TpR 0 v w2 ∧ FtR v w2) := by
  have hn := h.le
  have hfr := free_iff h.r0
  obtain ⟨T, hTC, h40⟩ := hT
  unfold x_lawsNo at e
  obtain ⟨k1, u2, h3, e⟩ := ncl_some e
  rw [e_openFights] at h3
  cases h3
  obtain ⟨b, u3, h4, hs3, -⟩ := readLaws_ok u
  have H := laws_core h.1 hN hTC h40 h4
  by_cases c1 : nI (opn (u.2 0) 4) ≤ (0 : Int32)
  · rw [if_pos c1] at e
    have hf := hfr.mp c1
    obtain ⟨b2, u4, h5, e⟩ := ncl_some e
    rw [h4] at h5
    cases h5
    obtain ⟨y, u5, h6, e⟩ := ncl_some e
    have e5 : u5 = si u3 2 0 := by cases h6; rfl
    subst e5
    have hsv : Same [2, 3, 4, 5, 6, 7, 8, 9, 10, 11, 12, 13, 14, 15, 20, 21, 22, 23, 24, 25] [5, 6, 7, 8, 9, 10] u (si u3 2 0) := (hs3.mono (by decide) (by decide)).trans (Same_si (by decide))
    have hv := h.same hsv (by decide) (by decide) (by decide)
    have fin : ∀ w2, v = si u3 2 0 → LiveX N 0 n E lg s w2 → w2.1.1 49 = u3.1 11 ∧ w2.1.1 50 = u3.1 10 → SmE P LW N 0 v w2 ∧ TpR 0 v w2 ∧ FtR v w2 := fun w2 ev hL2 hf2 => by
      subst ev
      exact ⟨(hv.live hL2).e, TpR.zero (siE _ _ _), hf2.1.symm, hf2.2.symm⟩
    by_cases c2 : b = 0
    · rw [if_pos c2] at e
      have q3 : r = -1 ∧ v = si u3 2 0 := by cases e; exact ⟨rfl, rfl⟩
      refine Ok.mono H (fun r2 w2 y => ?_)
      rcases y with ⟨⟨j, hj, hj2⟩, -⟩ | ⟨-, yf, ⟨-, y2, y3⟩ | ⟨y1, -⟩ | ⟨y1, -⟩⟩
      · exact absurd (hf j hj) hj2
      · exact ⟨y2.trans q3.1.symm, fin w2 q3.2 y3 yf⟩
      · rw [c2] at y1; exact absurd y1 (by decide)
      · rw [c2] at y1; exact absurd y1 (by decide)
    · rw [if_neg c2] at e
      obtain ⟨z, u6, h7, e⟩ := ncl_some e
      rw [e_isFull hv.2.1 hn] at h7
      cases h7
      by_cases h5 : n < 500
      · rw [if_pos h5, if_pos rfl] at e
        cases e
      · rw [if_neg h5, if_neg (by decide)] at e
        have q3 : r = -4 ∧ v = si u3 2 0 := by cases e; exact ⟨rfl, rfl⟩
        refine Ok.mono H (fun r2 w2 y => ?_)
        rcases y with ⟨⟨j, hj, hj2⟩, -⟩ | ⟨-, yf, ⟨y1, -⟩ | ⟨-, -, y2, y3⟩ | ⟨-, y2, -⟩⟩
        · exact absurd (hf j hj) hj2
        · exact absurd y1 c2
        · exact ⟨y2.trans q3.1.symm, fin w2 q3.2 y3 yf⟩
        · exact absurd y2 h5
  · rw [if_neg c1] at e
    obtain ⟨y, u5, h6, e⟩ := ncl_some e
    have e5 : u5 = si u 2 0 := by cases h6; rfl
    subst e5
    have q3 : r = -3 ∧ v = si u 2 0 := by cases e; exact ⟨rfl, rfl⟩
    refine Ok.mono H (fun r2 w2 y => ?_)
    rcases y with ⟨-, y2, y3, y4, y5⟩ | ⟨y1, -⟩
    · refine ⟨y2.trans q3.1.symm, ?_⟩
      rw [q3.2]
      exact ⟨((h.same (LI := [2]) (LA := []) (v := si u 2 0) (Same_si (by decide)) (by decide) (by decide) (by decide)).live y3).e, TpR.zero (siE _ _ _), hF.fr ⟨rfl, rfl⟩ ⟨y4, y5⟩⟩
    · exact absurd (hfr.mpr y1) c1
theorem sim_lawsYes {r5 r6 : Int32} {u5 u6 : MS} {C1 C2 : Nat} {wd : LwP} (h : SmX P LW N tp u w n E lg s p q ch C) (hN : N ≤ 24000) (hT : TpR tp u w) (hW : LW.length ≤ 512) (hwd : wd.2.2 = dL u5) (e : x_lawsYes u = some (r5, u5)) (e2 : x_X1_put 3 (rg (u5.2 0) 2088 3 + 1) (dnew u5) = some (r6, u6, C1, C2)) : Ok f_laws w (fun r2 w2 => r2 = (lnw P (kpL LW (rg (u5.2 0) 2088 3) wd) u6).2.2.1 3 ∧ SmE P (kpL LW (rg (u5.2 0) 2088 3) wd) N 0 u6 w2 ∧ TpR 0 u6 w2 ∧ FtR u6 w2) := by
  have hn := h.le
  have hfr := free_iff h.r0
  obtain ⟨T, hTC, h40⟩ := hT
  unfold x_lawsYes at e
  obtain ⟨k1, u2, h3, e⟩ := ncl_some e
  rw [e_openFights] at h3
  cases h3
  obtain ⟨b, u3, h4, hs3, -⟩ := readLaws_ok u
  have H := laws_core h.1 hN hTC h40 h4
  by_cases c1 : nI (opn (u.2 0) 4) ≤ (0 : Int32)
  · rw [if_pos c1] at e
    have hf := hfr.mp c1
    obtain ⟨b2, u4, h5, e⟩ := ncl_some e
    rw [h4] at h5
    cases h5
    obtain ⟨y, u4, h6, e⟩ := ncl_some e
    have e5 : u4 = si u3 2 0 := by cases h6; rfl
    subst e5
    have hsv : Same [2, 3, 4, 5, 6, 7, 8, 9, 10, 11, 12, 13, 14, 15, 20, 21, 22, 23, 24, 25] [5, 6, 7, 8, 9, 10] u (si u3 2 0) := (hs3.mono (by decide) (by decide)).trans (Same_si (by decide))
    have hv := h.same hsv (by decide) (by decide) (by decide)
    by_cases c2 : b = 0
    · rw [if_pos c2] at e
      cases e
    rw [if_neg c2] at e
    obtain ⟨z, u7, h7, e⟩ := ncl_some e
    rw [e_isFull hv.2.1 hn] at h7
    cases h7
    by_cases h5 : n < 500
    · rw [if_pos h5, if_pos rfl] at e
      obtain ⟨z2, u8, h8, e⟩ := ncl_some e
      have e9 : u8 = u5 := by cases e; rfl
      subst e9
      have hK := hv.2.2.1
      obtain ⟨o1, o2, o3, o4, o5, o6, o7⟩ := oe_ex hK h5 hv.2.1 h8
      have hsd := dnew_same u8
      have hKd : Kl (dnew u8) ch C := o7
      obtain ⟨p1, p2, p3⟩ := put_ex hKd e2
      have hH : Hs (si u3 2 0) u6 := o4.trans ((Hs.same o7 hsd (by decide) (by decide)).trans p1)
      have hB0 : u8.2 0 = u.2 0 := o5.trans (hsv.2 0 (by decide))
      have hrx := h.rx
      have e3 : rg (u8.2 0) 2088 3 = nI (q n) := by
        rw [hB0]
        exact (rdB (u.2 0) (j := 3) (by decide)).trans hrx.2.2.1
      rw [e3] at p2 e2 ⊢
      have hB6 : u6.2 0 = upd (u.2 0) 3 (nI (q n + 1)) := by
        rw [p2, nI_1]
        show rs (u8.2 0) 2088 (nI 3) _ = _
        rw [wrB _ _ (by decide), hB0]
      have hqn := hrx.2.2.2.1
      have hl31 : LW.length < 2 ^ 31 := by omega
      obtain ⟨k1, k2, k3, k4⟩ := kpL_lnq (P := P) (w := wd) hqn hl31
      have hl2 : (kpL LW (nI (q n)) wd).length < 2 ^ 31 := by
        have := kpL_len LW (nI (q n)) wd
        omega
      have hB3 : u6.2 0 3 = nI (q n + 1) := by rw [hB6]; exact upd_e
      have hdL : dL u8 = dL u3 := dL_same ((Same_si (u := u3) (k := 2) (v := 0) (LI := [1, 2]) (LA := [3]) (by decide)).trans (o6.mono (by decide) (by decide))) (by decide) (by decide)
      have hln : lnw P (kpL LW (nI (q n)) wd) u6 = wd := (lnw_q hB3 k3 hl2).trans k1
      have i10 : u6.1 10 = u3.1 10 := (p3.1 10 (by decide)).trans ((hsd.1 10 (by decide)).trans (o6.1 10 (by decide)))
      have i11 : u6.1 11 = u3.1 11 := (p3.1 11 (by decide)).trans ((hsd.1 11 (by decide)).trans (o6.1 11 (by decide)))
      have i2 : u6.1 2 = 0 := (p3.1 2 (by decide)).trans ((hsd.1 2 (by decide)).trans (o6.1 2 (by decide)))
      have a3 : u6.2 3 = u8.2 3 := (p3.2 3 (by decide)).trans (hsd.2 3 (by decide))
      refine Ok.mono H (fun r2 w2 y => ?_)
      rcases y with ⟨⟨j, hj, hj2⟩, -⟩ | ⟨-, yf, ⟨y1, -⟩ | ⟨-, y1, -⟩ | ⟨-, -, y2, E2, en, sv, y3, y4, y5, y6, y7⟩⟩
      · exact absurd (hf j hj) hj2
      · exact absurd y1 c2
      · omega
      · refine ⟨?_, ?_, TpR.zero i2, ?_, ?_⟩
        · rw [hln, hwd, y2, hdL]
          rfl
        · have hR2 : R0 (u6.2 0) sv := h.rs.lw (fun j hj => by rw [hB6]; exact upd_n hj) y6 y7
          have hRX : RX P (kpL LW (nI (q n)) wd) (q n + 1) (u6.2 0) sv := hrx.law h.inv hR2 (fun j hj => by rw [hB6]; exact upd_n hj) hB3 k3 (by rw [k1, hwd, hdL]) y5
          refine sm_act2 hv ((p3.1 1 (by decide)).trans ((hsd.1 1 (by decide)).trans o1)) (by rw [a3]; exact o2) (fun k hk => by rw [a3]; exact o3 k (by omega)) hH y3 hRX (by omega) k2 k4 hl2 (fun c hc => ?_)
          have hb := h.bd c hc
          have hs6 : Same [0, 1, 2, 3, 4, 5, 6, 7, 8, 9, 10, 11, 12, 13, 14, 15, 20, 21, 22, 23, 24, 25, 60, 65] [0, 1, 2, 3, 5, 6, 7, 8, 9, 10] u u6 := (hsv.mono (by decide) (by decide)).trans ((o6.mono (by decide) (by decide)).trans ((hsd.mono (by decide) (by decide)).trans (p3.mono (by decide) (by decide))))
          refine hb.to ?_ (fun i _ => ?_)
          · rw [hB6]
            exact ⟨fun p hp => upd_n (by omega), fun i hi => ⟨upd_n (by unfold fc; omega), upd_n (by unfold fc; omega)⟩, upd_n (by omega), upd_n (by omega)⟩
          · unfold Rws
            rw [hs6.2 13 (by decide), hs6.2 14 (by decide), hs6.2 15 (by decide), hs6.2 16 (by decide)]
            exact ⟨rfl, rfl, rfl, rfl⟩
        · exact i11.trans yf.1.symm
        · exact i10.trans yf.2.symm
    · rw [if_neg h5, if_neg (by decide)] at e
      cases e
  · rw [if_neg c1] at e
    cases e
end
end
section
/-! ===== fault, fighter, count, mat on both sides ===== -/
theorem ncl_at {α β : Type} {p : NG α} {q : α → NG β} {u v : MS} {a : α} {y : β × MS} (h : p u = some (a, v)) (e : ncl p q u = some y) : q a v = some y := by
  unfold ncl at e
  rw [h] at e
  exact e
theorem nrt_at {x r : Int32} {u v : MS} (e : nrt x u = some (r, v)) : r = x ∧ v = u := by
  cases e
  exact ⟨rfl, rfl⟩
section
variable {P : LwP} {LW : List LwP} {N tp n E ch C : Nat} {u v : MS} {w : GS} {lg : Nat → En} {s : Nat → GS} {p q : Nat → Nat}
theorem sim_fault {a r : Int32} (hF : FtR u w) (e : x_X11_fault a u = some (r, v)) : Rd (f_fault a) w (fun r2 => r2 = r) := by
  unfold x_X11_fault at e
  unfold f_fault
  by_cases h0 : a = 0
  · rw [if_pos h0] at e ⊢
    have e2 : nrt (u.1 11) u = some (r, v) := e
    exact Ok_uf (Ok_rt ⟨rfl, hF.1.symm.trans (nrt_at e2).1.symm⟩)
  · rw [if_neg h0] at e ⊢
    by_cases h1 : a = 1
    · rw [if_pos h1] at e ⊢
      have e2 : nrt (u.1 10) u = some (r, v) := e
      exact Ok_uf (Ok_rt ⟨rfl, hF.2.symm.trans (nrt_at e2).1.symm⟩)
    · rw [if_neg h1] at e ⊢
      exact Ok_rt ⟨rfl, (nrt_at e).1.symm⟩
theorem e_fcell {f k : Nat} {z : Int32} (hf : f < 96) (hk : k < 7) (hz : z = nI k) : ncl (x_X1_ofFighter (nI f) z) (fun r => ncl (nGT 0 2088 r) (fun x => nrt x)) u = some (u.2 0 (148 + 7 * f + k), u) := by
  rw [e_ofFighter f k hz]
  show some (rg (u.2 0) 2088 (nI (148 + 7 * f + k)), u) = _
  rw [rdB _ (by omega)]
theorem sim_fighter {a b r : Int32} (h : SmX P LW N tp u w n E lg s p q ch C) (e : x_X11_fighter a b u = some (r, v)) : Rd (f_fighter a b) w (fun r2 => r2 = r) := by
  have hRw := h.r0
  have hIw := h.1.inv
  obtain ⟨F, hF96, hF, hFw⟩ := hRw.ppl hIw
  unfold x_X11_fighter at e
  unfold f_fighter
  refine Rd_clR (ok_isFt hRw hF hF96 a) (fun q9 hq => ?_)
  rcases e_has hF hF96 a with ⟨⟨f, hf, rfl⟩, e1⟩ | ⟨hno, e1⟩
  rotate_left
  · have e := ncl_at e1 e
    rw [if_pos rfl] at e
    rcases hq with ⟨rfl, -⟩ | ⟨-, hq⟩
    · exact Rd_ite (fun _ => Rd_rt (nrt_at e).1.symm) (fun z => absurd rfl z)
    · exact absurd hq hno
  have e := ncl_at e1 e
  rw [if_neg (by decide)] at e
  rcases hq with ⟨-, hq⟩ | ⟨rfl, -⟩
  · exact absurd ⟨f, hf, rfl⟩ hq
  refine Rd_ite (fun z => absurd z (by decide)) (fun _ => ?_)
  have hf96 : f < 96 := by omega
  obtain ⟨c5, c6, c7, c8, c9, c10, c11⟩ := hRw.2.2.1 f (by omega)
  by_cases h0 : b = 0
  · rw [if_pos h0] at e ⊢
    rw [e_fcell (k := 0) (z := 0) hf96 (by decide) rfl] at e
    cases e
    exact Rd_rdN rfl hf96 (by decide) c5 (Rd_rt rfl)
  rw [if_neg h0] at e ⊢
  by_cases h0 : b = 1
  · rw [if_pos h0] at e ⊢
    rw [e_fcell (k := 1) (z := 1) hf96 (by decide) rfl] at e
    cases e
    exact Rd_rdN rfl hf96 (by decide) c6 (Rd_rt (by rw [show 148 + 7 * f + 1 = 149 + 7 * f by omega]))
  rw [if_neg h0] at e ⊢
  by_cases h0 : b = 2
  · rw [if_pos h0] at e ⊢
    rw [e_fcell (k := 2) (z := 2) hf96 (by decide) rfl] at e
    cases e
    exact Rd_rdN rfl hf96 (by decide) c7 (Rd_rt (by rw [show 148 + 7 * f + 2 = 150 + 7 * f by omega]))
  rw [if_neg h0] at e ⊢
  by_cases h0 : b = 3
  · rw [if_pos h0] at e ⊢
    rw [e_fcell (k := 3) (z := 3) hf96 (by decide) rfl] at e
    cases e
    exact Rd_rdN rfl hf96 (by decide) c8 (Rd_rt (by rw [show 148 + 7 * f + 3 = 151 + 7 * f by omega]))
  rw [if_neg h0] at e ⊢
  by_cases h0 : b = 4
  · rw [if_pos h0] at e ⊢
    rw [e_fcell (k := 4) (z := 4) hf96 (by decide) rfl] at e
    cases e
    exact Rd_rdN rfl hf96 (by decide) c9 (Rd_rt (by rw [show 148 + 7 * f + 4 = 152 + 7 * f by omega]))
  rw [if_neg h0] at e ⊢
  by_cases h0 : b = 5
  · rw [if_pos h0] at e ⊢
    rw [e_fcell (k := 5) (z := 5) hf96 (by decide) rfl] at e
    cases e
    exact Rd_rdN rfl hf96 (by decide) c10 (Rd_rt (by rw [show 148 + 7 * f + 5 = 153 + 7 * f by omega]))
  rw [if_neg h0] at e ⊢
  by_cases h0 : b = 6
  · rw [if_pos h0] at e ⊢
    rw [e_fcell (k := 6) (z := 6) hf96 (by decide) rfl] at e
    cases e
    exact Rd_rdN rfl hf96 (by decide) c11 (Rd_rt (by rw [show 148 + 7 * f + 6 = 154 + 7 * f by omega]))
  rw [if_neg h0] at e ⊢
  exact Rd_rt (nrt_at e).1.symm
theorem SmX.lr (h : SmX P LW N tp u w n E lg s p q ch C) : LRel (lnw P LW u).2.2 w := by
  rw [h.ln]
  exact h.rx.2.2.2.2.ag h.ag
theorem r_count_lp {B : Nat → Int32} {a : Int32} (hR : R0 B w) : ∀ (t k m : Nat), k + t = 4 → t < m → Rd (lp_count_84 m a (nI (opn B k)) (nI k) (fun _ v2 _ => prt v2)) w (fun r => r = nI (opn B 4)) := by
  intro t
  induction t with
  | zero =>
    intro k m hk hm
    cases m with
    | zero => omega
    | succ m =>
      have : k = 4 := by omega
      subst this
      unfold lp_count_84
      exact Rd_ite (fun _ => Rd_rt rfl) (fun z => absurd (Int32.le_refl _) z)
  | succ t ih =>
    intro k m hk hm
    cases m with
    | zero => omega
    | succ m =>
      unfold lp_count_84
      refine Rd_ite (fun z => absurd ((nI_leI (a := 4) (b := k) (by decide) (by omega)).mp z) (by omega)) (fun _ => ?_)
      have h9 := ih (k + 1) m (by omega) (by omega)
      rw [opn_s] at h9
      have hfr := hR.free (m := k) (by omega)
      have hm22 : w.2.2 22 k = true := by
        rcases hR.2.2.2.2.2 k (by omega) with ⟨-, b⟩ | ⟨c, i, -, -, -, -, f, -⟩
        · exact b.1
        · exact f.1
      refine Rd_rdN rfl (by omega) (by decide) (Am.val hm22) (Rd_ite (fun z => Rd_li (Rd_li ?_)) (fun z => Rd_li (Rd_li ?_)))
      · rw [if_pos (hfr.mp z)] at h9
        rw [nI_1, show nI (opn B k) + 0 = nI (opn B k + 0) from nI_add _ 0]
        exact h9
      · rw [if_neg (fun y => z (hfr.mpr y))] at h9
        rw [nI_1, nI_1]
        exact h9
theorem sim_count {a r : Int32} (h : SmX P LW N tp u w n E lg s p q ch C) (h2 : u.1 2 = nI tp) (e : x_X11_count (fun u => (lnw P LW u).2.2) a u = some (r, v)) : Rd (f_count a) w (fun r2 => r2 = r) := by
  have hRw := h.r0
  have hL := h.lr
  obtain ⟨-, -, -, h29, h30, h31, -⟩ := hL
  obtain ⟨i2, i3, i4⟩ := hRw.1
  unfold x_X11_count at e
  unfold f_count
  by_cases h0 : a = 0
  · rw [if_pos h0] at e ⊢
    have e := ncl_at e_people e
    exact Rd_rfN i2 (Rd_rt (nrt_at e).1.symm)
  rw [if_neg h0] at e ⊢
  by_cases h0 : a = 1
  · rw [if_pos h0] at e ⊢
    have e2 : nrt (rg (u.2 0) 2088 0) u = some (r, v) := e
    have e3 : rg (u.2 0) 2088 0 = u.2 0 0 := rdB (u.2 0) (j := 0) (by decide)
    rw [e3] at e2
    exact Rd_rfN i3 (Rd_rt (nrt_at e2).1.symm)
  rw [if_neg h0] at e ⊢
  by_cases h0 : a = 2
  · rw [if_pos h0] at e ⊢
    have e2 : nrt (rg (u.2 0) 2088 1) u = some (r, v) := e
    have e3 : rg (u.2 0) 2088 1 = u.2 0 1 := rdB (u.2 0) (j := 1) (by decide)
    rw [e3] at e2
    exact Rd_rfN i4 (Rd_rt (nrt_at e2).1.symm)
  rw [if_neg h0] at e ⊢
  by_cases h0 : a = 3
  · rw [if_pos h0] at e ⊢
    have e2 : nrt ((lnw P LW u).2.2.1 2) u = some (r, v) := e
    exact Rd_rfN h29 (Rd_rt (nrt_at e2).1.symm)
  rw [if_neg h0] at e ⊢
  by_cases h0 : a = 4
  · rw [if_pos h0] at e ⊢
    have e2 : nrt ((lnw P LW u).2.2.1 3) u = some (r, v) := e
    exact Rd_rfN h30 (Rd_rt (nrt_at e2).1.symm)
  rw [if_neg h0] at e ⊢
  by_cases h0 : a = 5
  · rw [if_pos h0] at e ⊢
    have e2 : nrt ((lnw P LW u).2.2.1 4) u = some (r, v) := e
    exact Rd_rfN h31 (Rd_rt (nrt_at e2).1.symm)
  rw [if_neg h0] at e ⊢
  by_cases h0 : a = 6
  · rw [if_pos h0] at e ⊢
    have e := ncl_at e_openFights e
    exact Rd.mono (r_count_lp hRw 4 0 fuel (by decide) (by unfold fuel; omega)) (fun r2 z => z.trans (nrt_at e).1.symm)
  rw [if_neg h0] at e ⊢
  by_cases h0 : a = 7
  · rw [if_pos h0] at e ⊢
    have e2 : nrt (u.1 1) u = some (r, v) := e
    exact Ok_uf (Ok_rt ⟨rfl, h.1.2.1.trans (h.2.1.symm.trans (nrt_at e2).1.symm)⟩)
  rw [if_neg h0] at e ⊢
  by_cases h0 : a = 8
  · rw [if_pos h0] at e ⊢
    have e2 : nrt (u.1 2) u = some (r, v) := e
    exact Ok_uf (Ok_rt ⟨rfl, h.1.2.2.2.1.trans (h2.symm.trans (nrt_at e2).1.symm)⟩)
  rw [if_neg h0] at e ⊢
  exact Rd_rt (nrt_at e).1.symm
theorem e_mcell {m k : Nat} {z : Int32} (hm : m < 4) (hk : k < 21) (hz : z = nI k) : ncl (x_X1_ofMat (nI m) z) (fun r => ncl (nGT 0 2088 r) (fun x => nrt x)) u = some (u.2 0 (mc0 m + k), u) := by
  rw [e_ofMat m k hz]
  show some (rg (u.2 0) 2088 (nI (mc0 m + k)), u) = _
  rw [rdB _ (by unfold mc0; omega)]
theorem e_signsOf {m sd f : Nat} (hm : m < 4) (hsd : sd < 2) (hf : f < 8) : x_X3_signsOf (nI m) (nI sd) (nI f) u = some (u.2 0 (mc0 m + 5 + (8 * sd + f)), u) := by
  have ez : ((5 : Int32) + nI sd * 8) + nI f = nI (5 + (8 * sd + f)) := by
    have hh : ∀ sd < 2, ∀ s < 8, ((5 : Int32) + nI sd * 8) + nI s = nI (5 + (8 * sd + s)) := by decide +kernel
    exact hh sd hsd f hf
  unfold x_X3_signsOf
  refine ncl_eq (e_on hm (k := 5 + (8 * sd + f)) (by omega) ez) ?_
  rw [← Nat.add_assoc]
  rfl
/-- the signs of a mat, in the class -/
theorem e_signsOn {L : MS → MS} {m sg : Nat} {b r : Int32} (hm : m < 4) (hsg : sg ≤ 8) (hL : (L u).1 2 = nI sg) (e : x_X11_signsOn L (nI m) b u = some (r, v)) : v = u ∧ ((∃ k sd, sd < 2 ∧ k < sg ∧ b = nI (10 + 10 * sd + k) ∧ r = u.2 0 (mc0 m + 5 + (8 * sd + k))) ∨ (r = -1 ∧ ¬ ∃ k sd, sd < 2 ∧ k < sg ∧ b = nI (10 + 10 * sd + k))) := by
  have no : ∀ (hlt : b < 10), ¬ ∃ k sd, sd < 2 ∧ k < sg ∧ b = nI (10 + 10 * sd + k) := by
    rintro hlt ⟨k, sd, h1, h2, rfl⟩
    have h9 := (nI_ltI (a := 10 + 10 * sd + k) (b := 10) (by omega) (by decide)).mp hlt
    omega
  unfold x_X11_signsOn at e
  by_cases h20 : (20 : Int32) ≤ b
  · rw [if_pos h20] at e
    have hb0 : ¬ b < 0 := fun z => by
      rw [Int32.le_iff_toInt_le] at h20
      rw [Int32.lt_iff_toInt_lt] at z
      have e1 : (20 : Int32).toInt = 20 := by decide
      have e2 : (0 : Int32).toInt = 0 := by decide
      omega
    obtain ⟨j, hj, rfl⟩ := nI_of hb0
    have hj20 := (nI_leI (a := 20) (b := j) (by decide) hj).mp h20
    have hn10 : ¬ nI j < 10 := fun z => absurd ((nI_ltI (a := j) (b := 10) hj (by decide)).mp z) (by omega)
    have ex : nI j - 10 - 10 * 1 = nI (j - 20) := by
      have h1 := nI_sub (a := j) (b := 10) (by omega)
      have h2 := nI_sub (a := j - 10) (b := 10) (by omega)
      have h3 : (10 : Int32) * 1 = nI 10 := by decide
      rw [h3, show nI j - 10 = nI j - nI 10 from rfl, h1, h2, show j - 10 - 10 = j - 20 by omega]
    have e := e
    rw [ex] at e
    have e2 : (if nI j < 10 then nrt (-1) else ncl (nLW L) (fun L_4 => (if (L_4.1 2) ≤ nI (j - 20) then nrt (-1) else ncl (x_X3_signsOf (nI m) 1 (nI (j - 20))) (fun r_10 => nrt r_10)))) u = some (r, v) := e
    rw [if_neg hn10] at e2
    have e3 : (if ((L u).1 2) ≤ nI (j - 20) then nrt (-1) else ncl (x_X3_signsOf (nI m) 1 (nI (j - 20))) (fun r_10 => nrt r_10)) u = some (r, v) := e2
    rw [hL] at e3
    by_cases hs : sg ≤ j - 20
    · rw [if_pos (nI_le hs (by omega))] at e3
      obtain ⟨q1, q2⟩ := nrt_at e3
      refine ⟨q2, Or.inr ⟨q1, ?_⟩⟩
      rintro ⟨k, sd, h1, h2, h3⟩
      have := (nI_eq hj (by omega)).mp h3
      omega
    · rw [if_neg (fun z => hs ((nI_leI (by omega) (by omega)).mp z))] at e3
      have e4 := ncl_at (e_signsOf (sd := 1) hm (by decide) (show j - 20 < 8 by omega)) e3
      obtain ⟨q1, q2⟩ := nrt_at e4
      exact ⟨q2, Or.inl ⟨j - 20, 1, by decide, by omega, by rw [show 10 + 10 * 1 + (j - 20) = j by omega], q1⟩⟩
  · rw [if_neg h20] at e
    by_cases h10 : b < 10
    · have e2 : (if b < 10 then nrt (-1) else ncl (nLW L) (fun L_15 => (if (L_15.1 2) ≤ ((b - 10) - ((10 : Int32) * 0)) then nrt (-1) else ncl (x_X3_signsOf (nI m) 0 ((b - 10) - ((10 : Int32) * 0))) (fun r_21 => nrt r_21)))) u = some (r, v) := e
      rw [if_pos h10] at e2
      obtain ⟨q1, q2⟩ := nrt_at e2
      exact ⟨q2, Or.inr ⟨q1, no h10⟩⟩
    · have hb0 : ¬ b < 0 := fun z => h10 (by
        rw [Int32.lt_iff_toInt_lt] at z ⊢
        have e1 : (10 : Int32).toInt = 10 := by decide
        have e2 : (0 : Int32).toInt = 0 := by decide
        omega)
      obtain ⟨j, hj, rfl⟩ := nI_of hb0
      have hj20 : j < 20 := Nat.not_le.mp (fun z => h20 (nI_le (a := 20) z hj))
      have hj10 : 10 ≤ j := Nat.not_lt.mp (fun z => h10 ((nI_ltI (a := j) (b := 10) hj (by decide)).mpr z))
      have ex : nI j - 10 - 10 * 0 = nI (j - 10) := by
        have h1 := nI_sub (a := j) (b := 10) (by omega)
        have h2 := nI_sub (a := j - 10) (b := 0) (by omega)
        have h3 : (10 : Int32) * 0 = nI 0 := by decide
        rw [h3, show nI j - 10 = nI j - nI 10 from rfl, h1, h2, Nat.sub_zero]
      rw [ex] at e
      have e2 : (if nI j < 10 then nrt (-1) else ncl (nLW L) (fun L_15 => (if (L_15.1 2) ≤ nI (j - 10) then nrt (-1) else ncl (x_X3_signsOf (nI m) 0 (nI (j - 10))) (fun r_21 => nrt r_21)))) u = some (r, v) := e
      rw [if_neg h10] at e2
      have e3 : (if ((L u).1 2) ≤ nI (j - 10) then nrt (-1) else ncl (x_X3_signsOf (nI m) 0 (nI (j - 10))) (fun r_21 => nrt r_21)) u = some (r, v) := e2
      rw [hL] at e3
      by_cases hs : sg ≤ j - 10
      · rw [if_pos (nI_le hs (by omega))] at e3
        obtain ⟨q1, q2⟩ := nrt_at e3
        refine ⟨q2, Or.inr ⟨q1, ?_⟩⟩
        rintro ⟨k, sd, h1, h2, h3⟩
        have := (nI_eq hj (by omega)).mp h3
        omega
      · rw [if_neg (fun z => hs ((nI_leI (by omega) (by omega)).mp z))] at e3
        have e4 := ncl_at (e_signsOf (sd := 0) hm (by decide) (show j - 10 < 8 by omega)) e3
        obtain ⟨q1, q2⟩ := nrt_at e4
        exact ⟨q2, Or.inl ⟨j - 10, 0, by decide, by omega, by rw [show 10 + 10 * 0 + (j - 10) = j by omega], q1⟩⟩
theorem sim_mat {a b r : Int32} (h : SmX P LW N tp u w n E lg s p q ch C) (e : x_X11_mat (fun u => (lnw P LW u).2.2) a b u = some (r, v)) : Rd (f_mat a b) w (fun r2 => r2 = r) := by
  have hRw := h.r0
  have hIw := h.1.inv
  have hL := h.lr
  obtain ⟨-, -, -, h29, -, -, ⟨sg, hsg, esg⟩, -⟩ := hL
  unfold x_X11_mat at e
  unfold f_mat
  refine Rd_clR (ok_isMat a w) (fun q9 hq => ?_)
  rcases mat_cases a with ⟨e2, hno⟩ | ⟨e2, m, hm, rfl⟩
  · rw [e2] at e
    have e := ncl_at (a := 0) (v := u) rfl e
    rw [if_pos rfl] at e
    rcases hq with ⟨-, hq⟩ | ⟨rfl, -⟩
    · exact absurd hq hno
    · exact Rd_ite (fun _ => Rd_rt (nrt_at e).1.symm) (fun z => absurd rfl z)
  rw [e2] at e
  have e := ncl_at (a := 1) (v := u) rfl e
  rw [if_neg (by decide)] at e
  rcases hq with ⟨rfl, -⟩ | ⟨-, hq⟩
  rotate_left
  · exact absurd ⟨m, hm, rfl⟩ hq
  refine Rd_ite (fun z => absurd z (by decide)) (fun _ => ?_)
  have e := ncl_at (e_isFree hm) e
  rcases hRw.onm hm with ⟨f1, f2⟩ | ⟨c, i, hO⟩
  · rw [if_pos f1, if_neg (by decide)] at e
    exact Rd_rdN rfl hm (by decide) f2 (Rd_ite (fun _ => Rd_rt (nrt_at e).1.symm) (fun z => absurd rfl z))
  obtain ⟨n1, n2⟩ := hO.ne
  rw [if_neg n1, if_pos rfl] at e
  obtain ⟨-, hMt⟩ := hIw.1.2.2.2.2.2.1 m hm
  obtain ⟨-, -, m25, m26, -⟩ := hMt n2
  obtain ⟨hc, hi, g0, g1, g22, g23, g25, g26, g24⟩ := hO
  have hd := div40 c hc i (by omega)
  have i29 : Im w 29 (nI sg) := ⟨h29.1, h29.2.trans esg⟩
  have e16 : (16 : Int32) * nI m = nI (16 * m) := by rw [← nI_mul]; rfl
  have c10 : (10 : Int64).toInt = 10 := by decide
  have c20 : (20 : Int64).toInt = 20 := by decide
  have b01 : ∀ {x : Int32}, (x = 0 ∨ x = 1) → (if x = 0 then (0 : Int32) else 1) = x := fun {x} hx => by
    rcases hx with rfl | rfl
    · rfl
    · rfl
  have lit : ∀ k, k < 10 → b = nI k → ∀ k2 sd, sd < 2 → k2 < sg → ¬ b = nI (10 + 10 * sd + k2) := fun k hk eb k2 sd hsd hk2 y => by
    have := (nI_eq (by omega) (by omega)).mp (eb.symm.trans y)
    omega
  refine Rd_rdN rfl hm (by decide) g22 (Rd_ite (fun z => absurd z (nI_ne_1 (by omega))) (fun _ => ?_))
  refine Rd_rfN i29 (Rd_clR (ok_in _ _ _ w) (fun r1 hr => ?_))
  rw [Int32.toInt_toInt64, c10, i64a9 sg (by omega)] at hr
  have sgn : ∀ (R : PG Int32) (k0 : Nat), k0 < 10 → b = nI k0 → Rd R w (fun r2 => r2 = r) → Rd (if r1 = 0 then prf 29 (fun x_15 => pcl (f_in b.toInt64 20 ((19 : Int64) + (x_15.toInt64 : Int64))) (fun r_17 => (if r_17 = 0 then R else prd 24 64 ((((16 * nI m) + 8) + b) - 20) (fun x_43 => prt x_43)))) else prd 24 64 (((16 * nI m) + b) - 10) (fun x_46 => prt x_46)) w (fun r2 => r2 = r) := fun R k0 hk0 eb hR => by
    have eb2 : b.toInt = (k0 : Int) := by rw [eb, nI_toInt (by omega)]
    refine Rd_ite (fun _ => Rd_rfN i29 (Rd_clR (ok_in _ _ _ w) (fun r2 hr2 => ?_))) (fun z => ?_)
    · rw [Int32.toInt_toInt64, c20, i64a19 sg (by omega)] at hr2
      refine Rd_ite (fun _ => hR) (fun z => ?_)
      rcases hr2 with ⟨-, k1, -⟩ | ⟨z2, -⟩
      · omega
      · exact absurd z2 z
    · rcases hr with ⟨-, k1, -⟩ | ⟨z2, -⟩
      · omega
      · exact absurd z2 z
  by_cases h0 : b = 0
  · rw [if_pos h0, e_mcell (k := 0) (z := 0) hm (by decide) rfl] at e
    cases e
    refine sgn _ 0 (by decide) h0 (Rd_ite (fun _ => Rd_rdN rfl hm (by decide) g22 (Rd_rt ?_)) (fun z => absurd h0 z))
    rw [hd.1]
    exact g0.symm
  by_cases h1 : b = 1
  · rw [if_neg h0, if_pos h1, e_mcell (k := 1) (z := 1) hm (by decide) rfl] at e
    cases e
    refine sgn _ 1 (by decide) h1 (Rd_ite (fun z => absurd z h0) (fun _ => Rd_ite (fun _ => Rd_rdN rfl hm (by decide) g22 (Rd_rt ?_)) (fun z => absurd h1 z)))
    rw [hd.2]
    exact g1.symm
  by_cases h2 : b = 2
  · rw [if_neg h0, if_neg h1, if_pos h2, e_mcell (k := 2) (z := 2) hm (by decide) rfl] at e
    cases e
    exact sgn _ 2 (by decide) h2 (Rd_ite (fun z => absurd z h0) (fun _ => Rd_ite (fun z => absurd z h1) (fun _ => Rd_ite (fun _ => Rd_rdN rfl hm (by decide) g23 (Rd_rt rfl)) (fun z => absurd h2 z))))
  by_cases h3 : b = 3
  · rw [if_neg h0, if_neg h1, if_neg h2, if_pos h3, e_mcell (k := 3) (z := 3) hm (by decide) rfl] at e
    cases e
    have q9 := b01 (x := u.2 0 (mc0 m + 3)) (m25.elim (fun z => Or.inl (g25.inj z)) (fun z => Or.inr (g25.inj z)))
    refine sgn _ 3 (by decide) h3 (Rd_ite (fun z => absurd z h0) (fun _ => Rd_ite (fun z => absurd z h1) (fun _ => Rd_ite (fun z => absurd z h2) (fun _ => Rd_ite (fun _ => Rd_rdN rfl hm (by decide) g25 (Rd_ite (fun z => Rd_rt ?_) (fun z => Rd_rt ?_))) (fun z => absurd h3 z)))))
    · rw [if_pos z] at q9
      exact q9
    · rw [if_neg z] at q9
      exact q9
  by_cases h4 : b = 4
  · rw [if_neg h0, if_neg h1, if_neg h2, if_neg h3, if_pos h4, e_mcell (k := 4) (z := 4) hm (by decide) rfl] at e
    cases e
    have q9 := b01 (x := u.2 0 (mc0 m + 4)) (m26.elim (fun z => Or.inl (g26.inj z)) (fun z => Or.inr (g26.inj z)))
    refine sgn _ 4 (by decide) h4 (Rd_ite (fun z => absurd z h0) (fun _ => Rd_ite (fun z => absurd z h1) (fun _ => Rd_ite (fun z => absurd z h2) (fun _ => Rd_ite (fun z => absurd z h3) (fun _ => Rd_ite (fun _ => Rd_rdN rfl hm (by decide) g26 (Rd_ite (fun z => Rd_rt ?_) (fun z => Rd_rt ?_))) (fun z => absurd h4 z))))))
    · rw [if_pos z] at q9
      exact q9
    · rw [if_neg z] at q9
      exact q9
  rw [if_neg h0, if_neg h1, if_neg h2, if_neg h3, if_neg h4] at e
  obtain ⟨x9, u9, e5, e6⟩ := ncl_some e
  obtain ⟨-, hor⟩ := e_signsOn (L := fun u => (lnw P LW u).2.2) hm hsg esg e5
  have er := (nrt_at e6).1
  subst er
  rcases hor with ⟨k, sd, hsd, hk, rfl, rfl⟩ | ⟨rfl, hno⟩
  · have eb2 : (nI (10 + 10 * sd + k)).toInt = ((10 + 10 * sd + k : Nat) : Int) := nI_toInt (by omega)
    have hcase : sd = 0 ∨ sd = 1 := by omega
    rcases hcase with rfl | rfl
    · rcases hr with ⟨rfl, -⟩ | ⟨-, hr⟩
      · refine Rd_ite (fun z => absurd z (by decide)) (fun _ => ?_)
        have ei : (16 : Int32) * nI m + nI (10 + 10 * 0 + k) - 10 = nI (16 * m + (8 * 0 + k)) := by
          rw [e16, nI_add]
          have e9 := nI_sub (a := 16 * m + (10 + 10 * 0 + k)) (b := 10) (by omega)
          refine e9.trans ?_
          congr 1
          omega
        exact Rd_rdN ei (by omega) (by decide) (g24 (8 * 0 + k) (by omega)) (Rd_rt rfl)
      · omega
    · rcases hr with ⟨-, hr1, hr2⟩ | ⟨rfl, -⟩
      · omega
      · refine Rd_ite (fun _ => Rd_rfN i29 (Rd_clR (ok_in _ _ _ w) (fun r2 hr2 => ?_))) (fun z => absurd rfl z)
        rw [Int32.toInt_toInt64, c20, i64a19 sg (by omega)] at hr2
        rcases hr2 with ⟨rfl, -⟩ | ⟨-, hr2⟩
        · refine Rd_ite (fun z => absurd z (by decide)) (fun _ => ?_)
          have ei : (16 : Int32) * nI m + 8 + nI (10 + 10 * 1 + k) - 20 = nI (16 * m + (8 * 1 + k)) := by
            have e8 : nI (16 * m) + 8 = nI (16 * m + 8) := nI_add _ 8
            rw [e16, e8, nI_add]
            have e9 := nI_sub (a := 16 * m + 8 + (10 + 10 * 1 + k)) (b := 20) (by omega)
            refine e9.trans ?_
            congr 1
            omega
          exact Rd_rdN ei (by omega) (by decide) (g24 (8 * 1 + k) (by omega)) (Rd_rt rfl)
        · omega
  · refine Rd_ite (fun _ => Rd_rfN i29 (Rd_clR (ok_in _ _ _ w) (fun r2 hr2 => ?_))) (fun z => ?_)
    · rw [Int32.toInt_toInt64, c20, i64a19 sg (by omega)] at hr2
      refine Rd_ite (fun _ => Rd_ite (fun z => absurd z h0) (fun _ => Rd_ite (fun z => absurd z h1) (fun _ => Rd_ite (fun z => absurd z h2) (fun _ => Rd_ite (fun z => absurd z h3) (fun _ => Rd_ite (fun z => absurd z h4) (fun _ => Rd_rt rfl)))))) (fun z => ?_)
      rcases hr2 with ⟨-, k1, k2⟩ | ⟨z2, -⟩
      · exact absurd ⟨b.toInt.toNat - 20, 1, by decide, by omega, (nI_ofT (by omega)).trans (by rw [show 10 + 10 * 1 + (b.toInt.toNat - 20) = b.toInt.toNat by omega])⟩ hno
      · exact absurd z2 z
    · rcases hr with ⟨-, k1, k2⟩ | ⟨z2, -⟩
      · exact absurd ⟨b.toInt.toNat - 10, 0, by decide, by omega, (nI_ofT (by omega)).trans (by rw [show 10 + 10 * 0 + (b.toInt.toNat - 10) = b.toInt.toNat by omega])⟩ hno
      · exact absurd z2 z
end
end
section
/-! ===== fight() on both sides ===== -/
section
variable {P : LwP} {LW : List LwP} {N tp n E ch C : Nat} {u v : MS} {w : GS} {lg : Nat → En} {s : Nat → GS} {p q : Nat → Nat}
theorem rd148 (f : Nat → Int32) {j : Nat} (hj : j < 148) : rg f 148 (nI j) = f j := rg_in hj (by decide)
theorem e_row {c i k : Nat} (hc : c < 4) (hi : i < 37) : ncl (x_X0_slot (nI c) (nI i)) (fun r => ncl (nGT k 148 r) (fun x => nrt x)) u = some (u.2 k (37 * c + i), u) := by
  rw [e_slot]
  show some (rg (u.2 k) 148 (nI (37 * c + i)), u) = _
  rw [rd148 _ (by omega)]
theorem e_whiteOf {c i : Nat} (hc : c < 4) (hi : i < 37) : x_X0_whiteOf (nI c) (nI i) u = some (u.2 13 (37 * c + i), u) := e_row hc hi
theorem e_blueOf {c i : Nat} (hc : c < 4) (hi : i < 37) : x_X0_blueOf (nI c) (nI i) u = some (u.2 14 (37 * c + i), u) := e_row hc hi
theorem e_winnerOf {c i : Nat} (hc : c < 4) (hi : i < 37) : x_X0_winnerOf (nI c) (nI i) u = some (u.2 15 (37 * c + i), u) := e_row hc hi
theorem e_rcell {c i k : Nat} {z : Int32} (hc : c < 4) (hi : i < 37) (hk : k < 8) (hz : z = nI k) : ncl (x_X1_ofFight (nI c) (nI i) z) (fun r => ncl (nGT 0 2088 r) (fun x => nrt x)) u = some (u.2 0 (fc c i + k), u) := by
  rw [e_ofFight c i k hz]
  show some (rg (u.2 0) 2088 (nI (fc c i + k)), u) = _
  rw [rdB _ (by unfold fc; omega)]
theorem max_mx2 {x : Int32} (h96 : nF w ≤ 96) {c : Nat} (h : Val w c x) : (if (-1) < x then x else (-1)) = mx2 x := by
  unfold mx2
  rcases val_lt h96 h with ⟨-, rfl | rfl⟩ | ⟨h0, h1, h2, -⟩
  · decide
  · decide
  · rw [if_neg h2, if_pos]
    rw [Int32.lt_iff_toInt_lt] at h0 ⊢
    have e1 : (-1 : Int32).toInt = -1 := by decide
    have e2 : (0 : Int32).toInt = 0 := by decide
    omega
/-- the mat of a fight, in the reference -/
theorem r_matOf {B : Nat → Int32} {c i : Nat} (hR : R0 B w) (hM : ∀ m, m < 4 → w.2.2 22 m = true) (hO : MO B) (hc : c < 4) (hi : i < 37) : Rd (f_matOf (nI c) (nI i)) w (fun r => r = if mkF B c i = 2 then B (fc c i + 7) else -1) := by
  have on : ∀ m, m < 4 → w.1.2 22 m = nI (40 * c + i) → B (fc c i) = 2 ∧ B (fc c i + 7) = nI m := fun m hm e => by
    rcases hR.onm2 hO hm with ⟨-, z⟩ | ⟨c2, i2, z, z2, z3⟩
    · rw [z.2] at e
      exact absurd e.symm (nI_ne_1 (by omega))
    · obtain ⟨e1, e2⟩ := z.un c i hc hi ⟨hM m hm, e⟩
      subst e1
      subst e2
      exact ⟨z2, z3⟩
  refine Rd.mono (ok_matOf hM c i) (fun r z => ?_)
  rcases z with ⟨m, hm, rfl, e⟩ | ⟨rfl, hno⟩
  · obtain ⟨h2, h7⟩ := on m hm e
    have h2' : mkF B c i = 2 := (if_pos hi).trans h2
    rw [if_pos h2', h7]
  · by_cases h2 : mkF B c i = 2
    · have h2' : B (fc c i) = 2 := (show mkF B c i = B (fc c i) from if_pos hi).symm.trans h2
      rcases hR.2.2.2.2.1 c hc i hi with ⟨a, -⟩ | ⟨⟨-, -, m, hm, -, f⟩ | ⟨a, -⟩, -⟩
      · rw [h2'] at a
        exact absurd a (by decide)
      · exact absurd f.2 (hno m hm)
      · rw [h2'] at a
        exact absurd a (by decide)
    · rw [if_neg h2]
theorem stV_cases {m a b : Int32} (hm : m = 0 ∨ m = 2 ∨ m = 3) : (m = 3 ∧ stV m a b = 3) ∨ (m = 2 ∧ stV m a b = 2) ∨ (m = 0 ∧ (stV m a b = 4 ∨ stV m a b = 0 ∨ stV m a b = 1)) := by
  rcases hm with rfl | rfl | rfl
  · refine Or.inr (Or.inr ⟨rfl, ?_⟩)
    unfold stV
    rw [if_pos rfl]
    split
    · exact Or.inl rfl
    · split
      · exact Or.inr (Or.inl rfl)
      · exact Or.inr (Or.inr rfl)
  · exact Or.inr (Or.inl ⟨rfl, rfl⟩)
  · exact Or.inl ⟨rfl, rfl⟩
/-- the state of a fight, in the reference, where it isn't done -/
theorem r_state {B : Nat → Int32} {c n2 i : Nat} (hR : R0 B w) (hN : NT B c) (hD : Dr w c n2) (hi : i < n2) (h96 : nF w ≤ 96) (hm : ¬ mkF B c i = 3) : Rd (prd 15 160 (nI (40 * c + i)) (fun x_25 => (if x_25 = 1 then prt 2 else pcl (f_isWalk (nI c) (nI i)) (fun r_29 => (if r_29 = 0 then pcl (f_isReady (nI c) (nI i)) (fun r_33 => (if r_33 = 0 then prt 0 else prt 1)) else prt 4))))) w (fun r => r = stV (mkF B c i) (vS B c i 0) (vS B c i 1)) := by
  have hc := hD.c4
  have h37 := hD.n37
  have va := vS_val hR hN hD hi (sd := 0) (by decide)
  have vb := vS_val hR hN hD hi (sd := 1) (by decide)
  have hi37 : i < 37 := by omega
  have hrd := rdy_iff h96 (mkF_or hR hc hi37) va vb
  rcases hR.mk hc (i := i) (by omega) with ⟨a, e⟩ | ⟨a, e⟩ | ⟨-, e, -⟩
  · refine Rd_rdN rfl (by omega) (by decide) a (Rd_ite (fun z => absurd z (by decide)) (fun _ => ?_))
    refine Rd_clR (sv_isWalk hR hN hD hi) (fun r hr => ?_)
    by_cases hk : vS B c i 0 = -2 ∨ vS B c i 1 = -2
    · rw [if_pos ⟨e, hk⟩] at hr
      subst hr
      refine Rd_ite (fun z => absurd z (by decide)) (fun _ => Rd_rt ?_)
      unfold stV
      rw [if_pos e, if_pos hk]
    · rw [if_neg (fun z => hk z.2)] at hr
      subst hr
      refine Rd_ite (fun _ => Rd_clR (sv_isReady hR hN hD hi) (fun r hr => ?_)) (fun z => absurd rfl z)
      by_cases hy : mkF B c i = 0 ∧ ¬ vS B c i 0 < 0 ∧ ¬ vS B c i 1 < 0
      · rw [if_pos hy] at hr
        subst hr
        exact Rd_ite (fun z => absurd z (by decide)) (fun _ => Rd_rt (hrd.mpr hy).symm)
      · rw [if_neg hy] at hr
        subst hr
        refine Rd_ite (fun _ => Rd_rt ?_) (fun z => absurd rfl z)
        rcases stV_cases (m := mkF B c i) (a := vS B c i 0) (b := vS B c i 1) (mkF_or hR hc (by omega)) with ⟨z, -⟩ | ⟨z, -⟩ | ⟨-, z | z | z⟩
        · exact absurd z hm
        · rw [e] at z
          exact absurd z (by decide)
        · unfold stV at z
          rw [if_pos e, if_neg hk] at z
          exfalso
          revert z
          split <;> decide
        · exact z.symm
        · exact absurd (hrd.mp z) hy
  · refine Rd_rdN rfl (by omega) (by decide) a (Rd_ite (fun _ => Rd_rt ?_) (fun z => absurd rfl z))
    rw [e]
    rfl
  · exact absurd e hm
theorem sim_fight {a b d r : Int32} (h : SmX P LW N tp u w n E lg s p q ch C) (e : x_X11_fight a b d u = some (r, v)) : Rd (f_fight a b d) w (fun r2 => r2 = r) := by
  have hRw := h.r0
  have hRs := h.rs
  have hI := h.inv
  have hIw := h.1.inv
  have h13 := h.1.2.2.2.2.2.2.2.2.2.2
  have hrx := h.rx
  obtain ⟨⟨-, hNT⟩, ⟨-, -, -, mo⟩, -⟩ := hrx
  have hkn : ∀ c, c < 4 → Kn (u.2 0) c := fun c hc => kn_of hI hRs hc
  have h96 := hIw.1.1.2.2
  unfold x_X11_fight at e
  unfold f_fight
  rcases c_has (B := u.2 0) rfl hkn a b with ⟨e1, c, i, hc, rfl, rfl, hi⟩ | ⟨e1, hno⟩
  rotate_left
  · have e := ncl_at e1 e
    rw [if_pos rfl] at e
    refine Rd_clR (r_isFight hRw _ _ (hIw.kd h13)) (fun q hq => ?_)
    rcases hq with ⟨-, hq⟩ | ⟨rfl, -⟩
    · exact absurd hq hno
    · exact Rd_ite (fun _ => Rd_rt (nrt_at e).1.symm) (fun z => absurd rfl z)
  have e := ncl_at e1 e
  rw [if_neg (by decide)] at e
  have h37 := (hkn c hc).n37
  have hi37 : i < 37 := by omega
  refine Rd_clR (r_isFight hRw _ _ (hIw.kd h13)) (fun q hq => ?_)
  rcases hq with ⟨rfl, -⟩ | ⟨-, hq⟩
  rotate_left
  · exact absurd ⟨c, i, hc, rfl, rfl, hi⟩ hq
  refine Rd_ite (fun z => absurd z (by decide)) (fun _ => Rd_li ?_)
  have hD := dr_of hI hRs hc hi
  have hDw := dr_of hIw hRw hc hi
  have hN := (hNT c hc).1
  obtain ⟨rw1, rw2, rw3, rw4⟩ := (h.bd c hc).rows hRs hD hi
  have hst := bSt_v hRs hN hD hi
  obtain ⟨rv1, rv2⟩ := rows_v hRw hDw hi
  have va := vS_val hRw hN hDw hi (sd := 0) (by decide)
  have vb := vS_val hRw hN hDw hi (sd := 1) (by decide)
  have hM22 : ∀ m, m < 4 → w.2.2 22 m = true := fun m hm => (hIw.1.2.2.2.2.2.1 m hm).1
  have hmat := r_matOf hRw hM22 mo hc hi37
  have s0 := sv_any hRw hN hDw hi (sd := 0) (by decide) 0
  have s1 := sv_any hRw hN hDw hi (sd := 1) (by decide) 0
  have sw := wv_any hRw hN hDw hi 0 0
  have e := ncl_at (e_stateOf hc hi37 u) e
  rw [rw4, hst] at e
  rw [ix40]
  have m0 := max_mx2 h96 va
  have m1 := max_mx2 h96 vb
  -- what both branches share: the sides, the winner, and behind it
  have sides : ∀ (R : PG Int32) (K : NG Int32), (¬ d = 0 → ¬ d = 1 → ¬ d = 2 → K u = some (r, v) → Rd R w (fun r2 => r2 = r)) → (if d = 0 then ncl (x_X0_whiteOf (nI c) (nI i)) (fun r_59 => nrt r_59) else if d = 1 then ncl (x_X0_blueOf (nI c) (nI i)) (fun r_63 => nrt r_63) else if d = 2 then ncl (x_X0_winnerOf (nI c) (nI i)) (fun r_67 => nrt r_67) else K) u = some (r, v) → Rd (if d = 0 then pcl (fS 24 0 (nI c) (nI i) 0 0) (fun r_57 => prt (if (-1) < r_57 then r_57 else (-1))) else if d = 1 then pcl (fS 24 0 (nI c) (nI i) 1 0) (fun r_61 => prt (if (-1) < r_61 then r_61 else (-1))) else if d = 2 then pcl (fS 24 3 (nI c) (nI i) 0 0) (fun r_65 => prt r_65) else R) w (fun r2 => r2 = r) := fun R K hK e => by
    by_cases h0 : d = 0
    · rw [if_pos h0] at e ⊢
      have e := ncl_at (e_whiteOf hc hi37) e
      refine Rd_clR s0 (fun r2 hr => Rd_rt ?_)
      subst hr
      rw [m0, (nrt_at e).1, rw1, rv1]
    rw [if_neg h0] at e ⊢
    by_cases h1 : d = 1
    · rw [if_pos h1] at e ⊢
      have e := ncl_at (e_blueOf hc hi37) e
      refine Rd_clR s1 (fun r2 hr => Rd_rt ?_)
      subst hr
      rw [m1, (nrt_at e).1, rw2, rv2]
    rw [if_neg h1] at e ⊢
    by_cases h2 : d = 2
    · rw [if_pos h2] at e ⊢
      have e := ncl_at (e_winnerOf hc hi37) e
      refine Rd_clR sw (fun r2 hr => Rd_rt ?_)
      subst hr
      rw [(nrt_at e).1, rw3]
    rw [if_neg h2] at e ⊢
    exact hK h0 h1 h2 e
  rcases hRw.2.2.2.2.1 c hc i hi37 with ⟨k0, a15⟩ | ⟨⟨k0, a15, -⟩ | ⟨k0, a15, a18, a19, a20, a21⟩, -⟩
  · have k0' : mkF (u.2 0) c i = 0 := (if_pos hi37).trans k0
    have hn3 : ¬ mkF (u.2 0) c i = 3 := by rw [k0']; decide
    have hs3 : ¬ stV (mkF (u.2 0) c i) (vS (u.2 0) c i 0) (vS (u.2 0) c i 1) = 3 := fun z => hn3 (st3_iff.mp z)
    rw [if_neg hs3] at e
    refine Rd_rdN rfl (by omega) (by decide) a15 (Rd_ite (fun z => absurd z (by decide)) (fun _ => sides _ _ (fun _ _ _ e => ?_) e))
    by_cases h3 : d = 3
    · rw [if_pos h3] at e ⊢
      rw [if_pos rfl]
      refine Rd.mono (r_state hRw hN hDw hi h96 hn3) (fun r2 hr => hr.trans (nrt_at e).1.symm)
    rw [if_neg h3] at e ⊢
    by_cases h4 : d = 4
    · rw [if_pos h4, if_pos rfl] at e
      rw [if_pos h4, if_pos rfl]
      exact Rd_rt (nrt_at e).1.symm
    rw [if_neg h4] at e ⊢
    by_cases h5 : d = 5
    · rw [if_pos h5, if_pos rfl] at e
      rw [if_pos h5, if_pos rfl]
      exact Rd_rt (nrt_at e).1.symm
    rw [if_neg h5] at e ⊢
    by_cases h6 : d = 6
    · rw [if_pos h6] at e ⊢
      have hs2 : ¬ stV (mkF (u.2 0) c i) (vS (u.2 0) c i 0) (vS (u.2 0) c i 1) = 2 := fun z => by
        rcases stV_cases (m := mkF (u.2 0) c i) (a := vS (u.2 0) c i 0) (b := vS (u.2 0) c i 1) (Or.inl k0') with ⟨y, -⟩ | ⟨y, -⟩ | ⟨-, y | y | y⟩
        · exact hn3 y
        · rw [k0'] at y; exact absurd y (by decide)
        · rw [z] at y; exact absurd y (by decide)
        · rw [z] at y; exact absurd y (by decide)
        · rw [z] at y; exact absurd y (by decide)
      rw [if_neg hs2] at e
      refine Rd_clR hmat (fun r2 hr => Rd_rt ?_)
      rw [if_neg (by rw [k0']; decide)] at hr
      exact hr.trans (nrt_at e).1.symm
    rw [if_neg h6] at e ⊢
    by_cases h7 : d = 7
    · rw [if_pos h7, if_pos rfl] at e
      rw [if_pos h7, if_pos rfl]
      exact Rd_rt (nrt_at e).1.symm
    rw [if_neg h7] at e ⊢
    exact Rd_rt (nrt_at e).1.symm
  · have k0' : mkF (u.2 0) c i = 2 := (if_pos hi37).trans k0
    have hn3 : ¬ mkF (u.2 0) c i = 3 := by rw [k0']; decide
    have hs3 : ¬ stV (mkF (u.2 0) c i) (vS (u.2 0) c i 0) (vS (u.2 0) c i 1) = 3 := fun z => hn3 (st3_iff.mp z)
    rw [if_neg hs3] at e
    refine Rd_rdN rfl (by omega) (by decide) a15 (Rd_ite (fun z => absurd z (by decide)) (fun _ => sides _ _ (fun _ _ _ e => ?_) e))
    by_cases h3 : d = 3
    · rw [if_pos h3] at e ⊢
      rw [if_pos rfl]
      refine Rd.mono (r_state hRw hN hDw hi h96 hn3) (fun r2 hr => hr.trans (nrt_at e).1.symm)
    rw [if_neg h3] at e ⊢
    by_cases h4 : d = 4
    · rw [if_pos h4, if_pos rfl] at e
      rw [if_pos h4, if_pos rfl]
      exact Rd_rt (nrt_at e).1.symm
    rw [if_neg h4] at e ⊢
    by_cases h5 : d = 5
    · rw [if_pos h5, if_pos rfl] at e
      rw [if_pos h5, if_pos rfl]
      exact Rd_rt (nrt_at e).1.symm
    rw [if_neg h5] at e ⊢
    by_cases h6 : d = 6
    · rw [if_pos h6] at e ⊢
      have hs2 : stV (mkF (u.2 0) c i) (vS (u.2 0) c i 0) (vS (u.2 0) c i 1) = 2 := by rw [k0']; rfl
      rw [if_pos hs2, e_rcell (k := 7) (z := 7) hc hi37 (by decide) rfl] at e
      cases e
      refine Rd_clR hmat (fun r2 hr => Rd_rt ?_)
      rw [if_pos k0'] at hr
      exact hr
    rw [if_neg h6] at e ⊢
    by_cases h7 : d = 7
    · rw [if_pos h7, if_pos rfl] at e
      rw [if_pos h7, if_pos rfl]
      exact Rd_rt (nrt_at e).1.symm
    rw [if_neg h7] at e ⊢
    exact Rd_rt (nrt_at e).1.symm
  · have k0' : mkF (u.2 0) c i = 3 := (if_pos hi37).trans k0
    have hs3 : stV (mkF (u.2 0) c i) (vS (u.2 0) c i 0) (vS (u.2 0) c i 1) = 3 := st3_iff.mpr k0'
    rw [if_pos hs3] at e
    refine Rd_rdN rfl (by omega) (by decide) a15 (Rd_ite (fun _ => sides _ _ (fun _ _ _ e => ?_) e) (fun z => absurd rfl z))
    by_cases h3 : d = 3
    · rw [if_pos h3] at e ⊢
      rw [if_neg (by decide)]
      refine Rd_rt ?_
      rw [(nrt_at e).1, hs3]
    rw [if_neg h3] at e ⊢
    by_cases h4 : d = 4
    · rw [if_pos h4, if_neg (by decide), e_rcell (k := 4) (z := 4) hc hi37 (by decide) rfl] at e
      cases e
      rw [if_pos h4, if_neg (by decide)]
      exact Rd_rdN rfl (by omega) (by decide) a19 (Rd_rt rfl)
    rw [if_neg h4] at e ⊢
    by_cases h5 : d = 5
    · rw [if_pos h5, if_neg (by decide), e_rcell (k := 5) (z := 5) hc hi37 (by decide) rfl] at e
      cases e
      rw [if_pos h5, if_neg (by decide)]
      exact Rd_rdN rfl (by omega) (by decide) a20 (Rd_rt rfl)
    rw [if_neg h5] at e ⊢
    by_cases h6 : d = 6
    · rw [if_pos h6] at e ⊢
      have hs2 : ¬ stV (mkF (u.2 0) c i) (vS (u.2 0) c i 0) (vS (u.2 0) c i 1) = 2 := by rw [hs3]; decide
      rw [if_neg hs2] at e
      refine Rd_clR hmat (fun r2 hr => Rd_rt ?_)
      rw [if_neg (by rw [k0']; decide)] at hr
      exact hr.trans (nrt_at e).1.symm
    rw [if_neg h6] at e ⊢
    by_cases h7 : d = 7
    · rw [if_pos h7, if_neg (by decide), e_rcell (k := 6) (z := 6) hc hi37 (by decide) rfl] at e
      cases e
      rw [if_pos h7, if_neg (by decide)]
      exact Rd_rdN rfl (by omega) (by decide) a21 (Rd_rt rfl)
    rw [if_neg h7] at e ⊢
    exact Rd_rt (nrt_at e).1.symm
end
end
section
/-! ===== medal, planned look only; plan keeps the live state ===== -/
theorem rd_medal {w : GS} (hI : Inv w) (h13 : ∀ c, c < 4 → w.2.2 13 c = true) (a b : Int32) : Rd (f_medal a b) w (fun _ => True) := by
  unfold f_medal
  refine Rd_clR (ok_isClass a w) (fun r hr => Rd_ite (fun _ => Rd_rt trivial) (fun hne => ?_))
  rcases hr with ⟨-, c, hc, rfl⟩ | ⟨hr, -⟩
  · refine Rd_rdN rfl hc (by decide) (Am.val (hI.m12 hc)) (Rd_ite (fun _ => Rd_rt trivial) (fun h12 => Rd_ite (fun hb => ?_) (fun _ => Rd_rt trivial)))
    have hb0 : 0 ≤ b.toInt := by
      have h9 := Int32.le_iff_toInt_le.mp hb
      have : (0 : Int32).toInt = 0 := by decide
      omega
    have hd : ∃ n2, DrS w c n2 := by
      rcases (hI.1.2.2.2.1 c hc).2.2.1 with z | z
      · exact absurd z.2 h12
      · exact z
    obtain ⟨n, hd⟩ := hd
    have hD := hI.1.dr hd
    rcases hD with ⟨s, hP, hns⟩ | ⟨L, hT, hnL⟩
    · have hDD : Dr w c n := Or.inl ⟨s, hP, hns⟩
      obtain ⟨-, -, s2, s5, -, y12, y13, hw, -⟩ := hP
      refine Rd_rdN rfl hc (by decide) y12 (Rd_ite (fun _ => ?_) (fun z => absurd rfl z))
      refine Rd_rdN rfl hc (by decide) y13 (Rd_ite (fun _ => Rd_rt trivial) (fun _ => ?_))
      refine Rd_clR (ok_about hI h13 (nI c) 5) (fun r hr => ?_)
      have hr2 := hr rfl c n hc rfl hDD
      refine Rd_clR (ok_fights w c n hDD) (fun r2 hr3 => ?_)
      subst hr3
      refine Rd_ite (fun e => ?_) (fun _ => Rd_rt trivial)
      have hn := hDD.n37
      have hcb := cb_le (P := dn w c) n
      rw [hr2] at e
      have e2 : cb (dn w c) n = n := (nI_eq (by omega) (by omega)).mp e
      have hA : Ad w c n := fun i hi => by
        have h2 : w.1.2 15 (40 * c + i) = 2 := of_decide_eq_true (cb_full n e2 i hi)
        obtain ⟨-, h3⟩ := hI.1.2.2.2.2.1 c hc i (by omega) (by rw [h2]; decide)
        obtain ⟨⟨f, f1, -⟩, -, m20, -⟩ := h3 h2
        exact ⟨f1.1, m20⟩
      exact Rd_clR (ok_ordered hI hDD hA s5 y13 (fun p hp => by obtain ⟨f, f1, f2⟩ := hw p hp; exact ⟨f, f1, f2.1⟩) b) (fun _ _ => Rd_rt trivial)
    · have hDD : Dr w c n := Or.inr ⟨L, hT, hnL⟩
      obtain ⟨-, -, L3, L5, -, y12, y13, -⟩ := hT
      have h32 := pow_lt32 L5
      have h8 : 8 ≤ 2 ^ L := by
        rcases (by omega : L = 3 ∨ L = 4 ∨ L = 5) with rfl | rfl | rfl <;> decide
      have hfin : Rd (f_finalOf (nI c)) w (fun r => r = nI (2 ^ L - 2)) := by
        unfold f_finalOf
        exact Rd_rdN rfl hc (by decide) y13 (Rd_rt (nI_sub (b := 2) (by omega)))
      refine Rd_rdN rfl hc (by decide) y12 (Rd_ite (fun z => absurd z (by decide)) (fun _ => Rd_ite (fun b3 => Rd_ite (fun _ => ?_) (fun b1 => ?_)) (fun _ => Rd_rt trivial)))
      · refine Rd_clR hfin (fun r hr => ?_)
        subst hr
        refine Rd_clR (ok_win w c n (2 ^ L - 2) 0 0 hDD (by omega)) (fun r _ => Rd_ite (fun _ => Rd_rt trivial) (fun _ => Rd_ite (fun _ => Rd_rt trivial) (fun _ => ?_)))
        refine Rd_clR hfin (fun r2 hr => ?_)
        subst hr
        refine Rd_clR (ok_side w c n (2 ^ L - 2) 0 0 hDD (by omega) (by decide)) (fun r2 _ => Rd_ite (fun _ => ?_) (fun _ => ?_))
        · refine Rd_clR hfin (fun r2 hr => ?_)
          subst hr
          exact Rd_clR (ok_side w c n (2 ^ L - 2) 1 0 hDD (by omega) (by decide)) (fun _ _ => Rd_rt trivial)
        · refine Rd_clR hfin (fun r2 hr => ?_)
          subst hr
          exact Rd_clR (ok_side w c n (2 ^ L - 2) 0 0 hDD (by omega) (by decide)) (fun _ _ => Rd_rt trivial)
      · have e := nI_ofT hb0
        generalize b.toInt.toNat = k at e
        have hk31 : k < 2 ^ 31 ∨ ¬ k < 2 ^ 31 := Nat.lt_or_ge _ _ |>.imp id (fun z => by omega)
        have hb3 := Int32.le_iff_toInt_le.mp b3
        have hb1 : ¬ b.toInt ≤ (1 : Int32).toInt := fun z => b1 (Int32.le_iff_toInt_le.mpr z)
        have c3 : (3 : Int32).toInt = 3 := by decide
        have c1 : (1 : Int32).toInt = 1 := by decide
        have e3 : b.toInt = 2 ∨ b.toInt = 3 := by omega
        have eb : b = nI 2 ∨ b = nI 3 := by
          rcases e3 with z | z
          · exact Or.inl (Int32.toInt_inj.mp (by rw [z, nI_toInt (by decide)]; rfl))
          · exact Or.inr (Int32.toInt_inj.mp (by rw [z, nI_toInt (by decide)]; rfl))
        refine Rd_rdN rfl hc (by decide) y13 (Rd_clR (ok_rounds w c L hc L5 (by omega) y13) (fun r hr => ?_))
        subst hr
        have ei : ∃ i, i < n ∧ nI (2 ^ L) - 2 + (b - 1) * (nI (L - 1) - 1) = nI i := by
          rw [hnL]
          rcases (by omega : L = 3 ∨ L = 4 ∨ L = 5) with rfl | rfl | rfl <;> rcases eb with rfl | rfl
          · exact ⟨7, by decide, by decide⟩
          · exact ⟨8, by decide, by decide⟩
          · exact ⟨16, by decide, by decide⟩
          · exact ⟨18, by decide, by decide⟩
          · exact ⟨33, by decide, by decide⟩
          · exact ⟨36, by decide, by decide⟩
        obtain ⟨i, hi, ei⟩ := ei
        rw [ei]
        exact Rd_clR (ok_win w c n i 0 0 hDD hi) (fun _ _ => Rd_rt trivial)
  · exact absurd hr hne
theorem rd_planned {w : GS} (hI : Inv w) (h13 : ∀ c, c < 4 → w.2.2 13 c = true) (a b d : Int32) : Rd (f_planned a b d) w (fun _ => True) := by
  unfold f_planned
  refine Ok_clR (ok_isFight w a b (hI.kd h13)) (fun r hr => Ok_ite (fun _ => Ok_rt ⟨rfl, trivial⟩) (fun hne => ?_))
  rcases hr with ⟨-, c, i, n, rfl, rfl, hD, hi⟩ | hr
  · have hc := hD.c4
    have hi40 : i < 40 := by have := hD.n37; omega
    refine Ok_uf (Ok_ite (fun _ => Ok_rt ⟨rfl, trivial⟩) (fun _ => Ok_clR (ok_inB _ _ _ w) (fun r _ => Ok_ite (fun _ => Ok_rt ⟨rfl, trivial⟩) (fun _ => Ok_ite (fun _ => ?_) (fun _ => ?_)))))
    · exact Ok_udN (ix40 c i) (by omega) (by decide) rfl (Ok_rt ⟨rfl, trivial⟩)
    · exact Ok_udN (ix40 c i) (by omega) (by decide) rfl (Ok_rt ⟨rfl, trivial⟩)
  · exact absurd hr hne
theorem planX {N tp n E : Nat} {lg : Nat → En} {s : Nat → GS} {w : GS} (h : LiveX N tp n E lg s w) (a b : Int32) : Ok (f_plan a b) w (fun _ v => LiveX N tp n E lg s v) := by
  have hI := h.inv
  have h13 := h.2.2.2.2.2.2.2.2.2.2
  have hkd := hI.kd h13
  obtain ⟨nc, hnc⟩ : ∃ nc : Nat → Nat, ∀ c, c < 4 → Kd w c (nc c) := by
    obtain ⟨n0, h0⟩ := (hkd 0 (by decide)).2
    obtain ⟨n1, h1⟩ := (hkd 1 (by decide)).2
    obtain ⟨n2, h2⟩ := (hkd 2 (by decide)).2
    obtain ⟨n3, h3⟩ := (hkd 3 (by decide)).2
    refine ⟨fun c => if c = 0 then n0 else if c = 1 then n1 else if c = 2 then n2 else n3, fun c hc => ?_⟩
    rcases (by omega : c = 0 ∨ c = 1 ∨ c = 2 ∨ c = 3) with rfl | rfl | rfl | rfl
    · exact h0
    · exact h1
    · exact h2
    · exact h3
  have hP0 : PW w w := ⟨rfl, rfl, fun _ _ => ⟨rfl, rfl⟩⟩
  have hpw : ∀ v, PW w v → LiveX N tp n E lg s v := fun v hv => live_pw h hv
  have hpw2 : ∀ v, PW w v → LiveX N tp n E lg s (swf 69 1 v) := fun v hv => by
    have h9 := live_pw h hv
    exact (live_frg h9 (Nat.le_refl _) ((swf_o (by decide)).1.trans h9.2.1) (swf_o (by decide)).1 (swf_o (by decide)).1 rfl rfl rfl (fun _ z => z) (h9.2.2.2.2.2.2.2.1.wfU rfl _))
  have h96 := hI.1.1.2.2
  unfold f_plan
  refine Ok_clR (ok_in _ _ _ w) (fun r hr => Ok_ite (fun _ => Ok_rt h) (fun hne => ?_))
  have c1 : (1 : Int64).toInt = 1 := by decide
  have c4 : (4 : Int64).toInt = 4 := by decide
  rw [Int32.toInt_toInt64, c1, c4] at hr
  rcases hr with ⟨-, k1, k2⟩ | ⟨z, -⟩
  · have e := nI_ofT (x := a) (by omega)
    have hM : a.toInt.toNat ≤ 4 := by omega
    generalize a.toInt.toNat = M at e hM
    subst e
    refine Ok_clR (ok_inB _ _ _ w) (fun r _ => Ok_ite (fun _ => Ok_rt h) (fun _ => Ok_rf hI.1.2.1.1 ?_))
    refine ok_plan41 hI (nc := nc) _ _ _ _ _ _ _ (fun v v6 hP h70 => ?_) (nF w) 0 fuel w (by omega) (by unfold fuel; omega) hP0 (fun g hg => absurd hg (Nat.not_lt_zero _))
    refine ok_plan93 hI (nc := nc) _ _ _ _ _ _ _ (fun v v6 hPn => ?_) 4 0 fuel v (by omega) (by unfold fuel; omega) hP h70 (fun g hg => absurd hg (Nat.not_lt_zero _))
    refine ok_plan136 hI h13 hnc _ _ _ _ (fun v v3 v4 v6 many hmany hPn => ?_) 4 0 fuel 0 v _ _ (by omega) (by unfold fuel; omega) (by omega) hPn
    have hI2 := hPn.1.inv hI
    refine Ok_rf hI2.1.2.1.1 ?_
    generalize v.1.1 3 = mn
    have hmn := mn.le_toInt
    refine ok_plan429 hI hnc hmany hM b _ _ (fun v hv => hpw v hv.1) (fun v v3 v4 v6 hPn => ?_) (100001 - mn.toInt).toNat fuel v v3 v4 mn (by omega) (by unfold fuel; omega) hPn
    refine ok_plan631 (w := w) (nc := nc) _ _ _ _ _ _ _ _ (fun v v7 hP => Ok_wf (Ok_rt (Q := fun _ v => LiveX N tp n E lg s v) (hpw2 v hP))) 160 0 fuel v (by omega) (by unfold fuel; omega) hPn.1 (fun y hy => ⟨(hPn.2.2.2.1 y hy).1, (hPn.2.2.2.1 y hy).2.1⟩)
  · exact absurd z hne
end
section
/-! ===== both sides anew ===== -/
def Ax (w : GS) (c : Nat) : Prop := Im w 2 0 ∧ Im w 3 0 ∧ Im w 4 10 ∧ ∀ d, d < c → Am w 0 d 0 ∧ Am w 1 d 200000
theorem Ax.o {w : GS} {c k j : Nat} {v : Int32} (h : Ax w c) (hk : ¬ k = 0 ∧ ¬ k = 1) : Ax (swd k (nI j) v w) c := ⟨h.1, h.2.1, h.2.2.1, fun d hd => ⟨Am.o (fun z => hk.1 z.symm) (h.2.2.2 d hd).1, Am.o (fun z => hk.2 z.symm) (h.2.2.2 d hd).2⟩⟩
theorem ax_47 (c : Nat) (hc : c < 4) (K : Int32 → Int32 → PG Int32) (Q : Int32 → GS → Prop) {m : Nat} (hK : ∀ w, Ax w m → Ok (K (nI c) (nI 40)) w Q) : ∀ (t k n : Nat) (w : GS), k + t = 40 → t < n → Ax w m → Ok (lp_anew_47 n (nI c) (nI k) K) w Q := by
  intro t
  induction t with
  | zero =>
    intro k n w hk hn hw
    cases n with
    | zero => exact absurd hn (Nat.not_lt_zero _)
    | succ n =>
      unfold lp_anew_47
      have hk40 : k = 40 := by omega
      subst hk40
      exact Ok_ite (fun _ => hK w hw) (fun h => absurd (Int32.le_refl _) h)
  | succ t ih =>
    intro k n w hk hn hw
    cases n with
    | zero => exact absurd hn (Nat.not_lt_zero _)
    | succ n =>
      unfold lp_anew_47
      refine Ok_ite (fun h => absurd ((nI_le4 (k := k) (n := 40) (by omega) (by decide)).mp h) (by omega)) (fun _ => ?_)
      refine Ok_wdN (ix40 c k) (by omega) (by decide) (Ok_li ?_)
      rw [nI_1]
      exact ih (k + 1) n _ (by omega) (by omega) (hw.o (by decide))
theorem ax_18 (K : Int32 → PG Int32) (Q : Int32 → GS → Prop) (hK : ∀ w, Ax w 4 → Ok (K (nI 4)) w Q) : ∀ (m k n : Nat) (w : GS), k + m = 4 → m < n → Ax w k → Ok (lp_anew_18 n (nI k) K) w Q := by
  intro m
  induction m with
  | zero =>
    intro k n w hk hn hw
    cases n with
    | zero => exact absurd hn (Nat.not_lt_zero _)
    | succ n =>
      unfold lp_anew_18
      have hk4 : k = 4 := by omega
      subst hk4
      exact Ok_ite (fun _ => hK w hw) (fun h => absurd (Int32.le_refl _) h)
  | succ m ih =>
    intro k n w hk hn hw
    cases n with
    | zero => exact absurd hn (Nat.not_lt_zero _)
    | succ n =>
      unfold lp_anew_18
      refine Ok_ite (fun h => absurd ((nI_le4 (k := k) (n := 4) (by omega) (by decide)).mp h) (by omega)) (fun _ => ?_)
      refine Ok_wdN rfl (by omega) (by decide) (Ok_wdN rfl (by omega) (by decide) (Ok_wdN rfl (by omega) (by decide) ?_))
      refine ax_47 k (by omega) _ Q (m := k + 1) (fun w2 h2 => ?_) 40 0 fuel _ rfl (by unfold fuel; omega) ⟨hw.1, hw.2.1, hw.2.2.1, fun d hd => ?_⟩
      · refine Ok_li ?_
        rw [nI_1]
        exact ih (k + 1) n w2 (by omega) (by omega) h2
      · by_cases he : d = k
        · rw [he]
          exact ⟨Am.o (by decide) (Am.o (by decide) (sw_A (by omega))), Am.o (by decide) (sw_A (by omega))⟩
        · obtain ⟨a, b⟩ := hw.2.2.2 d (by omega)
          exact ⟨Am.o (by decide) (Am.o (by decide) (sw_An (by omega) he a)), Am.o (by decide) (sw_An (by omega) he (Am.o (by decide) b))⟩
theorem ax_79 (K : Int32 → PG Int32) (Q : Int32 → GS → Prop) (hK : ∀ w, Ax w 4 → Ok (K (nI 4)) w Q) : ∀ (m k n : Nat) (w : GS), k + m = 4 → m < n → Ax w 4 → Ok (lp_anew_79 n (nI k) K) w Q := by
  intro m
  induction m with
  | zero =>
    intro k n w hk hn hw
    cases n with
    | zero => exact absurd hn (Nat.not_lt_zero _)
    | succ n =>
      unfold lp_anew_79
      have hk4 : k = 4 := by omega
      subst hk4
      exact Ok_ite (fun _ => hK w hw) (fun h => absurd (Int32.le_refl _) h)
  | succ m ih =>
    intro k n w hk hn hw
    cases n with
    | zero => exact absurd hn (Nat.not_lt_zero _)
    | succ n =>
      unfold lp_anew_79
      refine Ok_ite (fun h => absurd ((nI_le4 (k := k) (n := 4) (by omega) (by decide)).mp h) (by omega)) (fun _ => ?_)
      refine Ok_wdN rfl (by omega) (by decide) (Ok_li ?_)
      rw [nI_1]
      exact ih (k + 1) n _ (by omega) (by omega) (hw.o (by decide))
theorem ok_anew3 (w : GS) : Ok f_anew w (fun _ v => Ax v 4) := by
  unfold f_anew
  refine Ok_clr (Ok_wf (Ok_wf (Ok_wf ?_)))
  refine ax_18 _ _ (fun w2 h2 => ?_) 4 0 fuel _ (by omega) (by unfold fuel; omega) ⟨(swf_e.o (by decide)).o (by decide), swf_e.o (by decide), swf_e, fun d hd => absurd hd (Nat.not_lt_zero _)⟩
  refine ax_79 _ _ (fun w3 h3 => ?_) 4 0 fuel w2 (by omega) (by unfold fuel; omega) h2
  exact Ok_wf (Ok_wf (Ok_wf (Ok_wf (Ok_wf (Ok_rt ⟨h3.1, h3.2.1, h3.2.2.1, h3.2.2.2⟩)))))
theorem bk0_c : ∀ c < 4, bk0 (4 + 36 * c) = 0 ∧ bk0 (5 + 36 * c) = 200000 ∧ bk0 (6 + 36 * c) = 0 := by decide +kernel
theorem bk0_f : ∀ f < 96, bk0 (151 + 7 * f) = 0 ∧ bk0 (152 + 7 * f) = 0 ∧ bk0 (154 + 7 * f) = 0 := by decide +kernel
theorem bk0_r : ∀ c < 4, ∀ i < 37, bk0 (fc c i) = 0 := by decide +kernel
theorem bk0_m : ∀ m < 4, bk0 (mc0 m + 1) = -1 := by decide +kernel
theorem bk0_h : bk0 0 = 0 ∧ bk0 1 = 10 ∧ bk0 2 = 0 ∧ bk0 3 = 0 := by decide +kernel
theorem s0_r0 : R0 bk0 s0 ∧ ∀ k, 27 ≤ k → k ≤ 31 → Im s0 k 0 := by
  obtain ⟨r, c0, e, e2, h⟩ := s0_eq
  obtain ⟨r3, c3, e3, hA⟩ := ok_anew3 B0
  rw [e] at e3
  cases e3
  have im : ∀ {k x}, isL k = false → isS k = false → Im c0 k x → Im s0 k x := fun a b z => by
    rw [e2]
    exact ⟨(lf_i a b).trans z.1, z.2⟩
  have am : ∀ {k j x}, k ≤ 26 → Am c0 k j x → Am s0 k j x := fun a z => by
    rw [e2]
    refine ⟨?_, z.2⟩
    rw [lf_a (isA_lt (by omega)) (by omega)]
    exact z.1
  have hn : nF s0 = 0 := by
    have h9 := (im rfl rfl hA.1).2
    unfold nF
    rw [h9]
    rfl
  refine ⟨⟨⟨by rw [bk0_h.2.2.1]; exact im rfl rfl hA.1, by rw [bk0_h.1]; exact im rfl rfl hA.2.1, by rw [bk0_h.2.1]; exact im rfl rfl hA.2.2.1⟩, fun c hc => ?_, fun f hf => ?_, fun f _ h2 => ⟨(bk0_f f h2).1, (bk0_f f h2).2.1⟩, fun c hc i hi => Or.inl ⟨bk0_r c hc i hi, am (by decide) (h.1.2.2.2.2 (40 * c + i) (by omega))⟩, fun m hm => Or.inl ⟨bk0_m m hm, am (by decide) (h.2.1 m hm)⟩⟩, fun k k1 k2 => ?_⟩
  · obtain ⟨b1, b2, b3⟩ := bk0_c c hc
    unfold rC
    rw [b1, b2, b3]
    exact ⟨am (by decide) (hA.2.2.2 c hc).1, am (by decide) (hA.2.2.2 c hc).2, am (by decide) (h.1.2.2.2.1 c hc).2.2, fun z => absurd rfl z⟩
  · rw [hn] at hf
    exact absurd hf (Nat.not_lt_zero _)
  · have h9 := h.2.2 k k1 k2
    have hL : isL k = true := decide_eq_true ⟨k1, k2⟩
    rw [e2]
    refine ⟨?_, h9.2⟩
    rw [lf_li hL, h9.1]
    show (isL k && true) = true
    rw [hL]
    rfl
theorem sm_init {P : LwP} (hP : P.2.2 = L0c) : ∃ r w1, f_anew iu0 = some (r, w1) ∧ SmE P [] 0 0 u0c w1 ∧ TpR 0 u0c w1 ∧ FtR u0c w1 := by
  obtain ⟨r0, c0, a1, a2, a3⟩ := s0_eq
  obtain ⟨v0, f0, g0, -⟩ := det_anew B0 iu0 (B0_ag iu0) (fun z => by cases z) r0 c0 a1
  have hF := fr_anew iu0 r0 v0 f0
  have hF2 := fw_anew iu0 r0 v0 f0
  obtain ⟨hR, hL⟩ := s0_r0
  have hX : LiveX 0 0 0 0 (fun _ => (0, 0, 0, 0)) (fun _ => s0) v0 := by
    refine ⟨by omega, (hF.1 53 rfl).1, (hF.1 55 rfl).1, (hF.1 42 rfl).1, by omega, by omega, ⟨rfl, fun k hk => ?_, fun k hk => absurd hk (Nat.not_lt_zero _)⟩, ?_, fun k hk => absurd hk (Nat.not_lt_zero _), fun j hj => absurd hj (Nat.not_lt_zero _), fun c _ => hF.2.2 c rfl⟩
    · have : k = 0 := by omega
      subst this
      exact ⟨s0_inv.1, s0_inv.2, s0_nos⟩
    · rw [a2]
      exact lf_ag g0
  have hk0 : ∀ c, c < 4 → bk0 (6 + 36 * c) = 0 := fun c hc => (bk0_c c hc).2.2
  have hB : u0c.2 0 = bk0 := rfl
  have hRX : RX P [] 0 bk0 s0 := by
    refine ⟨⟨hR, fun c hc => ⟨fun z => ?_, fun i _ hi hm => ?_⟩⟩, ⟨fun m hm z => absurd (bk0_m m hm) z, fun c hc i hi z => ?_, ⟨⟨0, by decide, bk0_h.1⟩, ⟨10, by decide, bk0_h.2.1⟩, fun f hf => Or.inr ⟨0, by decide, (bk0_f f hf).2.2⟩⟩, fun m hm z => absurd (bk0_m m hm) z⟩, bk0_h.2.2.2, Nat.le_refl _, ?_⟩
    · rw [hk0 c hc] at z
      exact absurd z (by decide)
    · exact absurd ((if_pos hi).trans (bk0_r c hc i hi)) hm
    · rw [bk0_r c hc i hi] at z
      exact absurd z (by decide)
    · show LRel P.2.2 s0
      rw [hP]
      exact ⟨⟨0, 0, by decide, by decide, rfl, rfl⟩, hL 27 (by decide) (by decide), hL 28 (by decide) (by decide), hL 29 (by decide) (by decide), hL 30 (by decide) (by decide), hL 31 (by decide) (by decide), ⟨0, by decide, rfl⟩, 0, by decide, rfl, fun l hl => absurd hl (Nat.not_lt_zero _)⟩
  refine ⟨r0, v0, f0, ⟨0, 0, _, _, fun _ => 0, fun _ => 0, 0, 512, hX, rfl, ⟨rfl, rfl, rfl, by decide, by decide, by decide⟩, fun k hk => absurd hk (Nat.not_lt_zero _), fun i j _ hj => absurd hj (Nat.not_lt_zero _), fun k hk => absurd hk (Nat.not_lt_zero _), by rw [hB]; exact hRX, fun i j _ _ => Nat.le_refl _, fun c hc => ?_, by decide⟩, TpR.zero rfl, ?_, ?_⟩
  · rw [hB]
    refine ⟨fun z => ?_, fun z => ?_⟩
    · rw [hk0 c hc] at z
      exact absurd z (by decide)
    · rw [hk0 c hc] at z
      exact absurd z (by decide)
  · exact (hF2.1 49 rfl).symm
  · exact (hF2.1 50 rfl).symm
end
section
/-! ===== what holds between two calls, of both sides ===== -/
def Bo (P : LwP) (LW : List LwP) (M tp : Nat) (u : MS) (v : GS) : Prop := SmE P LW M tp u v ∧ TpR tp u v ∧ FtR u v
section
variable {P : LwP} {LW : List LwP} {M tp : Nat} {u u1 : MS} {v : GS} {r1 : Int32}
theorem bo_act {f : PG Int32} {LI LA : List Nat} (h : Bo P LW M tp u v) (hs : Same LI LA u u1) (h1 : ¬ 2 ∈ LI ∧ ¬ 10 ∈ LI ∧ ¬ 11 ∈ LI ∧ ¬ 4 ∈ LA) (hf : Fw kP kB f) (ho : Ok f v (fun r2 w2 => r2 = r1 ∧ SmE P LW M tp u1 w2)) : ∃ r2 v1, f v = some (r2, v1) ∧ r1 = r2 ∧ Bo P LW M tp u1 v1 := by
  obtain ⟨-, hT, hF⟩ := h
  obtain ⟨r2, v1, e, e2, hS⟩ := ho
  have hw := hf v r2 v1 e
  exact ⟨r2, v1, e, e2.symm, hS, hT.fr (hs.1 2 h1.1) (hs.2 4 h1.2.2.2) (hw.2 40 rfl), hF.fr ⟨hs.1 11 h1.2.2.1, hs.1 10 h1.2.1⟩ ⟨hw.1 49 rfl, hw.1 50 rfl⟩⟩
theorem SmE.same {LI LA : List Nat} (h : SmE P LW M tp u v) (hs : Same LI LA u u1) (h1 : ¬ 0 ∈ LI ∧ ¬ 1 ∈ LI ∧ ¬ 60 ∈ LI ∧ ¬ 65 ∈ LI) (h2 : ¬ 0 ∈ LA ∧ ¬ 1 ∈ LA ∧ ¬ 2 ∈ LA ∧ ¬ 3 ∈ LA) (h3 : ¬ 13 ∈ LA ∧ ¬ 14 ∈ LA ∧ ¬ 15 ∈ LA ∧ ¬ 16 ∈ LA) : SmE P LW M tp u1 v := by
  obtain ⟨n, E, lg, s, p, q, ch, C, h⟩ := h
  exact (h.same hs h1 h2 h3).e
/-- a method that only looks, on the reference's side -/
theorem bo_rd {f : PG Int32} {LI LA : List Nat} (h : Bo P LW M tp u v) (hs : Same LI LA u u1) (h1 : ¬ 2 ∈ LI ∧ ¬ 10 ∈ LI ∧ ¬ 11 ∈ LI ∧ ¬ 4 ∈ LA) (h2 : ¬ 0 ∈ LI ∧ ¬ 1 ∈ LI ∧ ¬ 60 ∈ LI ∧ ¬ 65 ∈ LI) (h3 : ¬ 0 ∈ LA ∧ ¬ 1 ∈ LA ∧ ¬ 2 ∈ LA ∧ ¬ 3 ∈ LA) (h4 : ¬ 13 ∈ LA ∧ ¬ 14 ∈ LA ∧ ¬ 15 ∈ LA ∧ ¬ 16 ∈ LA) (hr : Rd f v (fun r2 => r2 = r1)) : ∃ r2 v1, f v = some (r2, v1) ∧ r1 = r2 ∧ Bo P LW M tp u1 v1 := by
  obtain ⟨hE, hT, hF⟩ := h
  obtain ⟨r2, v1, e, rfl, e2⟩ := hr
  exact ⟨r2, v1, e, e2.symm, hE.same hs h2 h3 h4, hT.fr (hs.1 2 h1.1) (hs.2 4 h1.2.2.2) rfl, hF.fr ⟨hs.1 11 h1.2.2.1, hs.1 10 h1.2.1⟩ ⟨rfl, rfl⟩⟩
theorem bo_rdw {f : PG Int32} {LI LA : List Nat} (h : Bo P LW M tp u v) (hs : Same LI LA u u1) (h1 : ¬ 2 ∈ LI ∧ ¬ 10 ∈ LI ∧ ¬ 11 ∈ LI ∧ ¬ 4 ∈ LA) (h2 : ¬ 0 ∈ LI ∧ ¬ 1 ∈ LI ∧ ¬ 60 ∈ LI ∧ ¬ 65 ∈ LI) (h3 : ¬ 0 ∈ LA ∧ ¬ 1 ∈ LA ∧ ¬ 2 ∈ LA ∧ ¬ 3 ∈ LA) (h4 : ¬ 13 ∈ LA ∧ ¬ 14 ∈ LA ∧ ¬ 15 ∈ LA ∧ ¬ 16 ∈ LA) {R : Int32 → Prop} (hr : Rd f v R) : ∃ r2 v1, f v = some (r2, v1) ∧ Bo P LW M tp u1 v1 := by
  obtain ⟨r2, v1, e, rfl, -⟩ := hr
  obtain ⟨hE, hT, hF⟩ := h
  exact ⟨r2, v1, e, hE.same hs h2 h3 h4, hT.fr (hs.1 2 h1.1) (hs.2 4 h1.2.2.2) rfl, hF.fr ⟨hs.1 11 h1.2.2.1, hs.1 10 h1.2.1⟩ ⟨rfl, rfl⟩⟩
theorem Bo.inv (h : Bo P LW M tp u v) : Inv v ∧ ∀ c, c < 4 → v.2.2 13 c = true := by
  obtain ⟨⟨n, E, lg, s, p, q, ch, C, h⟩, -⟩ := h
  exact ⟨h.1.inv, h.1.2.2.2.2.2.2.2.2.2.2⟩
theorem bo_limit {a b d : Int32} {c d0 : Nat} (h : Bo P LW M tp u v) (hM : M ≤ 24000) (hs : Same scI scA u u1) (e : x_X11_limit a b d u = some (r1, u1, c, d0)) : ∃ r2 v1, f_limit a b d v = some (r2, v1) ∧ r1 = r2 ∧ Bo P LW M tp u1 v1 := by
  obtain ⟨n, E, lg, s, p, q, ch, C, hX⟩ := h.1
  exact bo_act h hs (by decide) (fw_limit _ _ _).p (sim_limit hX hM e)
theorem bo_enter {a b : Int32} {c d0 : Nat} (h : Bo P LW M tp u v) (hM : M ≤ 24000) (hs : Same scI scA u u1) (e : x_X11_enter a b u = some (r1, u1, c, d0)) : ∃ r2 v1, f_enter a b v = some (r2, v1) ∧ r1 = r2 ∧ Bo P LW M tp u1 v1 := by
  obtain ⟨n, E, lg, s, p, q, ch, C, hX⟩ := h.1
  exact bo_act h hs (by decide) (fw_enter _ _).p (sim_enter hX hM e)
theorem bo_weigh {a b : Int32} {c d0 : Nat} (h : Bo P LW M tp u v) (hM : M ≤ 24000) (hs : Same scI scA u u1) (e : x_X11_weigh a b u = some (r1, u1, c, d0)) : ∃ r2 v1, f_weigh a b v = some (r2, v1) ∧ r1 = r2 ∧ Bo P LW M tp u1 v1 := by
  obtain ⟨n, E, lg, s, p, q, ch, C, hX⟩ := h.1
  exact bo_act h hs (by decide) (fw_weigh _ _).p (sim_weigh hX hM e)
theorem bo_seed {a b : Int32} {c d0 : Nat} (h : Bo P LW M tp u v) (hM : M ≤ 24000) (hs : Same scI scA u u1) (e : x_X11_seed a b u = some (r1, u1, c, d0)) : ∃ r2 v1, f_seed a b v = some (r2, v1) ∧ r1 = r2 ∧ Bo P LW M tp u1 v1 := by
  obtain ⟨n, E, lg, s, p, q, ch, C, hX⟩ := h.1
  exact bo_act h hs (by decide) (fw_seed _ _).p (sim_seed hX hM e)
theorem bo_draw {a : Int32} {c d0 : Nat} (h : Bo P LW M tp u v) (hM : M ≤ 24000) (hs : Same scI scA u u1) (e : x_X11_draw a u = some (r1, u1, c, d0)) : ∃ r2 v1, f_draw a v = some (r2, v1) ∧ r1 = r2 ∧ Bo P LW M tp u1 v1 := by
  obtain ⟨n, E, lg, s, p, q, ch, C, hX⟩ := h.1
  exact bo_act h hs (by decide) (fw_draw _).p (sim_draw hX hM e)
theorem bo_now {a : Int32} {c d0 : Nat} (h : Bo P LW M tp u v) (hM : M ≤ 24000) (hs : Same scI scA u u1) (e : x_X11_now a u = some (r1, u1, c, d0)) : ∃ r2 v1, f_now a v = some (r2, v1) ∧ r1 = r2 ∧ Bo P LW M tp u1 v1 := by
  obtain ⟨n, E, lg, s, p, q, ch, C, hX⟩ := h.1
  exact bo_act h hs (by decide) (fw_now _).p (sim_now hX hM e)
theorem bo_rest {a : Int32} {c d0 : Nat} (h : Bo P LW M tp u v) (hM : M ≤ 24000) (hs : Same scI scA u u1) (e : x_X11_rest a u = some (r1, u1, c, d0)) : ∃ r2 v1, f_rest a v = some (r2, v1) ∧ r1 = r2 ∧ Bo P LW M tp u1 v1 := by
  obtain ⟨n, E, lg, s, p, q, ch, C, hX⟩ := h.1
  exact bo_act h hs (by decide) (fw_rest _).p (sim_rest hX hM e)
theorem bo_begin {a b d : Int32} {c d0 : Nat} (h : Bo P LW M tp u v) (hM : M ≤ 24000) (hs : Same scI scA u u1) (e : x_X11_begin (fun u => (lnw P LW u).2.2) a b d u = some (r1, u1, c, d0)) : ∃ r2 v1, f_begin a b d v = some (r2, v1) ∧ r1 = r2 ∧ Bo P LW M tp u1 v1 := by
  obtain ⟨n, E, lg, s, p, q, ch, C, hX⟩ := h.1
  exact bo_act h hs (by decide) (fw_begin _ _ _).p (sim_begin hX hM e)
theorem bo_event {a b d : Int32} {c d0 : Nat} (h : Bo P LW M tp u v) (hM : M ≤ 24000) (hs : Same scI scA u u1) (e : x_X11_event (fun u => (lnw P LW u).2.2) a b d u = some (r1, u1, c, d0)) : ∃ r2 v1, f_event a b d v = some (r2, v1) ∧ r1 = r2 ∧ Bo P LW M tp u1 v1 := by
  obtain ⟨n, E, lg, s, p, q, ch, C, hX⟩ := h.1
  exact bo_act h hs (by decide) (fw_event _ _ _).p (sim_event hX hM e)
theorem bo_tick {a b : Int32} {c d0 : Nat} (h : Bo P LW M tp u v) (hM : M ≤ 24000) (hs : Same scI scA u u1) (e : x_X11_tick (fun u => (lnw P LW u).2.2) a b u = some (r1, u1, c, d0)) : ∃ r2 v1, f_tick a b v = some (r2, v1) ∧ r1 = r2 ∧ Bo P LW M tp u1 v1 := by
  obtain ⟨n, E, lg, s, p, q, ch, C, hX⟩ := h.1
  exact bo_act h hs (by decide) (fw_tick _ _).p (sim_tick hX hM e)
theorem bo_decide {a b : Int32} {c d0 : Nat} (h : Bo P LW M tp u v) (hM : M ≤ 24000) (hs : Same scI scA u u1) (e : x_X11_decide a b u = some (r1, u1, c, d0)) : ∃ r2 v1, f_decide a b v = some (r2, v1) ∧ r1 = r2 ∧ Bo P LW M tp u1 v1 := by
  obtain ⟨n, E, lg, s, p, q, ch, C, hX⟩ := h.1
  exact bo_act h hs (by decide) (fw_decide _ _).p (sim_decide hX hM e)
theorem bo_strike {a b : Int32} {c d0 : Nat} (h : Bo P LW M tp u v) (hM : M ≤ 24000) (hs : Same scI scA u u1) (e : x_X11_strike a b u = some (r1, u1, c, d0)) : ∃ r2 v1, f_strike a b v = some (r2, v1) ∧ r1 = r2 ∧ Bo P LW M tp u1 v1 := by
  obtain ⟨n, E, lg, s, p, q, ch, C, hX⟩ := h.1
  exact bo_act h hs (by decide) (fw_strike _ _).p (sim_strike hX hM e)
theorem bo_undo (h : Bo P LW M tp u v) (e : x_X11_undo u = some (r1, u1)) : ∃ r2 v1, f_undo v = some (r2, v1) ∧ r1 = r2 ∧ Bo P LW M tp u1 v1 := by
  obtain ⟨n, E, lg, s, p, q, ch, C, hX⟩ := h.1
  obtain ⟨r3, u3, e3, hs⟩ := tt_x_X11_undo u
  rw [e] at e3
  cases e3
  exact bo_act h hs (by decide) fw_undo.p (sim_undo hX e)
theorem bo_feed {a b c d f : Int32} (h : Bo P LW M tp u v) (h2 : u.1 2 = nI tp) (htp : tp ≤ 3000) (hs : Same [2] [4] u u1) (e : x_X11_feed a b c d f u = some (r1, u1)) : ∃ tp2 r2 v1, tp2 ≤ 3000 ∧ u1.1 2 = nI tp2 ∧ f_feed a b c d f v = some (r2, v1) ∧ r1 = r2 ∧ Bo P LW (M + 20) tp2 u1 v1 := by
  obtain ⟨⟨n, E, lg, s, p, q, ch, C, hX⟩, hT, hF⟩ := h
  obtain ⟨tp2, t1, t2, r2, v1, e1, e2, e3, e4, e5⟩ := sim_feed hX hT h2 htp e
  exact ⟨tp2, r2, v1, t1, t2, e1, e2.symm, e3, e4, hF.fr ⟨hs.1 11 (by decide), hs.1 10 (by decide)⟩ ⟨e5.1 49 (by decide), e5.1 50 (by decide)⟩⟩
theorem bo_end {a : Int32} (h : Bo P LW M tp u v) (h2 : u.1 2 = nI tp) (htp : tp ≤ 3000) (hs : Same [2] [] u u1) (e : x_X11_end a u = some (r1, u1)) : ∃ tp2 r2 v1, tp2 ≤ 3000 ∧ u1.1 2 = nI tp2 ∧ f_end a v = some (r2, v1) ∧ r1 = r2 ∧ Bo P LW M tp2 u1 v1 := by
  obtain ⟨⟨n, E, lg, s, p, q, ch, C, hX⟩, hT, hF⟩ := h
  obtain ⟨tp2, t1, t2, r2, v1, e1, e2, e3, e4, e5⟩ := sim_end hX hT h2 htp e
  exact ⟨tp2, r2, v1, t1, t2, e1, e2.symm, e3, e4, hF.fr ⟨hs.1 11 (by decide), hs.1 10 (by decide)⟩ ⟨e5.1 49 (by decide), e5.1 50 (by decide)⟩⟩
theorem bo_lawsNo (h : Bo P LW M tp u v) (hM : M ≤ 24000) (e : x_lawsNo u = some (r1, u1)) : ∃ r2 v1, f_laws v = some (r2, v1) ∧ r1 = r2 ∧ Bo P LW M 0 u1 v1 := by
  obtain ⟨⟨n, E, lg, s, p, q, ch, C, hX⟩, hT, hF⟩ := h
  obtain ⟨r2, v1, e1, e2, e3, e4, e5⟩ := sim_lawsNo hX hM hT hF e
  exact ⟨r2, v1, e1, e2.symm, e3, e4, e5⟩
theorem bo_lawsYes {r5 r6 : Int32} {u5 u6 : MS} {C1 C2 : Nat} {wd : LwP} (h : Bo P LW M tp u v) (hM : M ≤ 24000) (hW : LW.length ≤ 512) (hwd : wd.2.2 = dL u5) (e : x_lawsYes u = some (r5, u5)) (e6 : x_X1_put 3 (rg (u5.2 0) 2088 3 + 1) (dnew u5) = some (r6, u6, C1, C2)) : ∃ r2 v1, f_laws v = some (r2, v1) ∧ (lnw P (kpL LW (rg (u5.2 0) 2088 3) wd) u6).2.2.1 3 = r2 ∧ Bo P (kpL LW (rg (u5.2 0) 2088 3) wd) M 0 u6 v1 := by
  obtain ⟨⟨n, E, lg, s, p, q, ch, C, hX⟩, hT, hF⟩ := h
  obtain ⟨r2, v1, e1, e2, e3, e4, e5⟩ := sim_lawsYes hX hM hT hW hwd e e6
  exact ⟨r2, v1, e1, e2.symm, e3, e4, e5⟩
theorem bo_fault {a : Int32} (h : Bo P LW M tp u v) (hs : Same [] [] u u1) (e : x_X11_fault a u = some (r1, u1)) : ∃ r2 v1, f_fault a v = some (r2, v1) ∧ r1 = r2 ∧ Bo P LW M tp u1 v1 := bo_rd h hs (by decide) (by decide) (by decide) (by decide) (sim_fault h.2.2 e)
theorem bo_fighter {a b : Int32} (h : Bo P LW M tp u v) (hs : Same [] [] u u1) (e : x_X11_fighter a b u = some (r1, u1)) : ∃ r2 v1, f_fighter a b v = some (r2, v1) ∧ r1 = r2 ∧ Bo P LW M tp u1 v1 := by
  obtain ⟨n, E, lg, s, p, q, ch, C, hX⟩ := h.1
  exact bo_rd h hs (by decide) (by decide) (by decide) (by decide) (sim_fighter hX e)
theorem bo_fight {a b d : Int32} (h : Bo P LW M tp u v) (hs : Same [] [] u u1) (e : x_X11_fight a b d u = some (r1, u1)) : ∃ r2 v1, f_fight a b d v = some (r2, v1) ∧ r1 = r2 ∧ Bo P LW M tp u1 v1 := by
  obtain ⟨n, E, lg, s, p, q, ch, C, hX⟩ := h.1
  exact bo_rd h hs (by decide) (by decide) (by decide) (by decide) (sim_fight hX e)
theorem bo_mat {a b : Int32} (h : Bo P LW M tp u v) (hs : Same [] [] u u1) (e : x_X11_mat (fun u => (lnw P LW u).2.2) a b u = some (r1, u1)) : ∃ r2 v1, f_mat a b v = some (r2, v1) ∧ r1 = r2 ∧ Bo P LW M tp u1 v1 := by
  obtain ⟨n, E, lg, s, p, q, ch, C, hX⟩ := h.1
  exact bo_rd h hs (by decide) (by decide) (by decide) (by decide) (sim_mat hX e)
theorem bo_count {a : Int32} (h : Bo P LW M tp u v) (h2 : u.1 2 = nI tp) (hs : Same [] [] u u1) (e : x_X11_count (fun u => (lnw P LW u).2.2) a u = some (r1, u1)) : ∃ r2 v1, f_count a v = some (r2, v1) ∧ r1 = r2 ∧ Bo P LW M tp u1 v1 := by
  obtain ⟨n, E, lg, s, p, q, ch, C, hX⟩ := h.1
  exact bo_rd h hs (by decide) (by decide) (by decide) (by decide) (sim_count hX h2 e)
theorem bo_about {a b : Int32} (h : Bo P LW M tp u v) (hs : Same [] [] u u1) : ∃ r2 v1, f_about a b v = some (r2, v1) ∧ Bo P LW M tp u1 v1 := bo_rdw h hs (by decide) (by decide) (by decide) (by decide) (ok_about h.inv.1 h.inv.2 a b)
theorem bo_medalw {a b : Int32} (h : Bo P LW M tp u v) (hs : Same [] [19, 20] u u1) : ∃ r2 v1, f_medal a b v = some (r2, v1) ∧ Bo P LW M tp u1 v1 := bo_rdw h hs (by decide) (by decide) (by decide) (by decide) (rd_medal h.inv.1 h.inv.2 a b)
theorem bo_plannedw {a b d : Int32} (h : Bo P LW M tp u v) (hs : Same [] [] u u1) : ∃ r2 v1, f_planned a b d v = some (r2, v1) ∧ Bo P LW M tp u1 v1 := bo_rdw h hs (by decide) (by decide) (by decide) (by decide) (rd_planned h.inv.1 h.inv.2 a b d)
theorem bo_planw {a b : Int32} (h : Bo P LW M tp u v) (hs : Same [17, 18, 19, 61, 62, 63, 64] [21, 22, 23, 24, 25, 26, 27, 28, 29] u u1) : ∃ r2 v1, f_plan a b v = some (r2, v1) ∧ Bo P LW M tp u1 v1 := by
  obtain ⟨⟨n, E, lg, s, p, q, ch, C, hX⟩, hT, hF⟩ := h
  obtain ⟨r2, v1, e, hL⟩ := planX hX.1 a b
  have hw := fw_plan a b v r2 v1 e
  exact ⟨r2, v1, e, ((hX.same hs (by decide) (by decide) (by decide)).live hL).e, hT.fr (hs.1 2 (by decide)) (hs.2 4 (by decide)) (hw.2 40 rfl), hF.fr ⟨hs.1 11 (by decide), hs.1 10 (by decide)⟩ ⟨hw.1 49 rfl, hw.1 50 rfl⟩⟩
end
end
