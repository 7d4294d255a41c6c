/-! ===== the tape on both sides ===== -/
def TpR (tp : Nat) (u : MS) (w : GS) : Prop := ∃ T : Nat → Nat, TC T tp u ∧ ∀ i, i < tp → w.1.2 40 i = sb (T i)
def FtR (u : MS) (w : GS) : Prop := u.1 11 = w.1.1 49 ∧ u.1 10 = w.1.1 50
theorem TpR.fr {tp : Nat} {u v : MS} {w w2 : GS} (h : TpR tp u w) (h2 : v.1 2 = u.1 2) (h4 : v.2 4 = u.2 4) (h40 : w2.1.2 40 = w.1.2 40) : TpR tp v w2 := by
  obtain ⟨T, ⟨a, b, c⟩, d⟩ := h
  exact ⟨T, ⟨a, h2.trans b, fun i hi => ⟨(c i hi).1, by rw [h4]; exact (c i hi).2⟩⟩, fun i hi => by rw [h40]; exact d i hi⟩
theorem TpR.cut {tp n : Nat} {u v : MS} {w w2 : GS} (h : TpR tp u w) (hn : n ≤ tp) (h2 : v.1 2 = nI n) (h4 : v.2 4 = u.2 4) (h40 : w2.1.2 40 = w.1.2 40) : TpR n v w2 := by
  obtain ⟨T, ⟨a, b, c⟩, d⟩ := h
  exact ⟨T, ⟨by omega, h2, fun i hi => ⟨(c i (by omega)).1, by rw [h4]; exact (c i (by omega)).2⟩⟩, fun i hi => by rw [h40]; exact d i (by omega)⟩
theorem Ok.and {β : Type} {p : PG β} {w : GS} {Q Q2 : β → GS → Prop} (h : Ok p w Q) (h2 : Ok p w Q2) : Ok p w (fun r v => Q r v ∧ Q2 r v) := by
  obtain ⟨r, v, e, q⟩ := h
  obtain ⟨r2, v2, e2, q2⟩ := h2
  rw [e] at e2
  cases e2
  exact ⟨r, v, e, q, q2⟩
theorem Ok.fw {β : Type} {I A : Nat → Bool} {p : PG β} {w : GS} {Q : β → GS → Prop} (h : Ok p w Q) (h2 : Fw I A p) : Ok p w (fun r v => Q r v ∧ FwR I A w v) := by
  obtain ⟨r, v, e, q⟩ := h
  exact ⟨r, v, e, q, h2 w r v e⟩
/-! a byte -/
theorem nar_t8 : ∀ t < 256, vp_nar .byte ((Int8.ofNat t).toInt32) = sb t := by decide +kernel
def lo8 (y : Int32) : Nat := y.toBitVec.toNat % 256
theorem lo8_lt (y : Int32) : lo8 y < 256 := Nat.mod_lt _ (by decide)
theorem byte_nar (y : Int32) : vp_nar .byte (y.toInt8.toInt32) = sb (lo8 y) := by
  have e : y.toInt8 = Int8.ofNat (lo8 y) := by
    apply Int8.toBitVec_inj.mp
    rw [Int32.toBitVec_toInt8, BitVec.signExtend_eq_setWidth_of_le _ (by decide)]
    show BitVec.setWidth 8 y.toBitVec = BitVec.ofNat 8 (lo8 y)
    apply BitVec.eq_of_toNat_eq
    rw [BitVec.toNat_setWidth, BitVec.toNat_ofNat]
    unfold lo8
    omega
  rw [e]
  exact nar_t8 _ (lo8_lt y)
theorem byte_and (y : Int32) : y &&& 255 = nI (lo8 y) := by
  apply Int32.toBitVec_inj.mp
  show y.toBitVec &&& (255 : Int32).toBitVec = BitVec.ofNat 32 (lo8 y)
  apply BitVec.eq_of_toNat_eq
  rw [BitVec.toNat_and, BitVec.toNat_ofNat]
  have h9 : (255 : Int32).toBitVec.toNat = 2 ^ 8 - 1 := rfl
  rw [h9, Nat.and_two_pow_sub_one_eq_mod]
  unfold lo8
  omega
def sh (t : Nat) : Int32 := nI (8 * t) - 8
theorem sh_0 : sh 0 < 0 := by decide
theorem sh_ge : ∀ t < 5, 1 ≤ t → ¬ sh t < 0 := by decide
theorem sh_next : ∀ t < 4, sh (t + 1) + (-8) = sh t := by decide
theorem sh_4 : (24 : Int32) = sh 4 := by decide
/-- byte i of an int, the high one first -/
def pb (a : Int32) (i : Nat) : Nat := lo8 (a >>> (sh (4 - i) &&& 31))
theorem c_push_lp {a : Int32} {K : Int32 → Int32 → NG Int32} {Q : Int32 → MS → Prop} : ∀ (t n k : Nat) (u : MS), t ≤ 4 → t < n → k + t ≤ 3000 → u.1 2 = nI k → (∀ v, v.1 2 = nI (k + t) → Same [2] [4] u v → (∀ j, j < k → v.2 4 j = u.2 4 j) → (∀ i, i < t → v.2 4 (k + i) = (a >>> (sh (t - i) &&& 31)) &&& 255) → CN (K a (sh 0)) v Q) → CN (xl_X10_push_3 n a (sh t) K) u Q := by
  intro t
  induction t with
  | zero =>
    intro n k u _ hn _ h2 h
    cases n with
    | zero => omega
    | succ n =>
      unfold xl_X10_push_3
      rw [if_pos sh_0]
      exact h u h2 (Same.rf _) (fun _ _ => rfl) (fun i hi => absurd hi (Nat.not_lt_zero _))
  | succ t ih =>
    intro n k u ht hn hk h2 h
    cases n with
    | zero => omega
    | succ n =>
      unfold xl_X10_push_3
      rw [if_neg (sh_ge (t + 1) (by omega) (by omega))]
      refine CN_RFx h2 (CN_ST ?_)
      rw [wrN _ (show k < 3000 by omega) (by decide)]
      refine CN_RFx (show (sf u 4 _).1 2 = nI k from h2) (CN_WFx (CN_li ?_))
      rw [sh_next t (by omega), nI_1]
      refine ih n (k + 1) _ (by omega) (by omega) (by omega) (siE _ _ _) (fun v h3 hs h4 h5 => ?_)
      refine h v (by rw [h3, show k + 1 + t = k + (t + 1) by omega]) (((Same_sf (by decide)).trans (Same_si (by decide))).trans hs) (fun j hj => ?_) (fun i hi => ?_)
      · exact (h4 j (by omega)).trans (upd_n (by omega))
      · cases i with
        | zero => exact (h4 k (by omega)).trans upd_e
        | succ i =>
          have h6 := h5 i (by omega)
          rw [show k + 1 + i = k + (i + 1) by omega, show t - i = t + 1 - (i + 1) by omega] at h6
          exact h6
theorem c_push {a : Int32} {k : Nat} {u : MS} (hk : k + 4 ≤ 3000) (h2 : u.1 2 = nI k) : CN (x_X10_push a) u (fun _ v => v.1 2 = nI (k + 4) ∧ Same [2] [4] u v ∧ (∀ j, j < k → v.2 4 j = u.2 4 j) ∧ ∀ i, i < 4 → v.2 4 (k + i) = nI (pb a i)) := by
  unfold x_X10_push
  rw [sh_4]
  refine c_push_lp 4 fuel k u (Nat.le_refl _) (by unfold fuel; omega) hk h2 (fun v h3 hs h4 h5 => CN_rt ⟨h3, hs, h4, fun i hi => ?_⟩)
  rw [h5 i hi, byte_and]
  rfl
theorem r_lay_lp {a : Int32} {K : Int32 → Int32 → PG Int32} {Q : Int32 → GS → Prop} : ∀ (t n k : Nat) (w : GS), t ≤ 4 → t < n → k + t ≤ 3000 → w.1.1 42 = nI k → (∀ v, v.1.1 42 = nI (k + t) → (∀ j, ¬ j = 42 → v.1.1 j = w.1.1 j) → (∀ j, ¬ j = 40 → v.1.2 j = w.1.2 j) → (∀ j, j < k → v.1.2 40 j = w.1.2 40 j) → (∀ i, i < t → v.1.2 40 (k + i) = vp_nar .byte ((a >>> (sh (t - i) &&& 31)).toInt8.toInt32)) → Ok (K a (sh 0)) v Q) → Ok (lp_lay_3 n a (sh t) K) w Q := by
  intro t
  induction t with
  | zero =>
    intro n k w _ hn _ h2 h
    cases n with
    | zero => omega
    | succ n =>
      unfold lp_lay_3
      rw [if_pos sh_0]
      exact h w h2 (fun _ _ => rfl) (fun _ _ => rfl) (fun _ _ => rfl) (fun i hi => absurd hi (Nat.not_lt_zero _))
  | succ t ih =>
    intro n k w ht hn hk h2 h
    cases n with
    | zero => omega
    | succ n =>
      unfold lp_lay_3
      rw [if_neg (sh_ge (t + 1) (by omega) (by omega))]
      refine Ok_uf' (fun x hx => ?_)
      have ex : x = nI k := hx.symm.trans h2
      subst ex
      refine Ok_wdN (j := k) rfl (by omega) (by decide) (Ok_uf' (fun x hx => ?_))
      have ex : x = nI k := hx.symm.trans h2
      subst ex
      rw [nI_1]
      refine Ok_wf (Ok_li ?_)
      rw [sh_next t (by omega)]
      refine ih n (k + 1) _ (by omega) (by omega) (by omega) swf_e.2 (fun v h3 hi ha h4 h5 => ?_)
      refine h v (by rw [h3, show k + 1 + t = k + (t + 1) by omega]) (fun j hj => (hi j hj).trans (swf_o hj).1) (fun j hj => (ha j hj).trans (sw_o hj).1) (fun j hj => ?_) (fun i hi => ?_)
      · have h9 : (swd 40 (nI k) (vp_nar .byte ((a >>> (sh (t + 1) &&& 31)).toInt8.toInt32)) w).1.2 40 j = w.1.2 40 j := sw_vn (by omega) (by omega)
        exact (h4 j (by omega)).trans h9
      · cases i with
        | zero =>
          have h9 : (swd 40 (nI k) (vp_nar .byte ((a >>> (sh (t + 1) &&& 31)).toInt8.toInt32)) w).1.2 40 k = vp_nar .byte ((a >>> (sh (t + 1) &&& 31)).toInt8.toInt32) := sw_ve (by omega)
          exact (h4 k (by omega)).trans h9
        | succ i =>
          have h6 := h5 i (by omega)
          rw [show k + 1 + i = k + (i + 1) by omega, show t - i = t + 1 - (i + 1) by omega] at h6
          exact h6
theorem r_lay {a : Int32} {k : Nat} {w : GS} (hk : k + 4 ≤ 3000) (h2 : w.1.1 42 = nI k) : Ok (f_lay a) w (fun _ v => v.1.1 42 = nI (k + 4) ∧ (∀ j, ¬ j = 42 → v.1.1 j = w.1.1 j) ∧ (∀ j, ¬ j = 40 → v.1.2 j = w.1.2 j) ∧ (∀ j, j < k → v.1.2 40 j = w.1.2 40 j) ∧ ∀ i, i < 4 → v.1.2 40 (k + i) = sb (pb a i)) := by
  unfold f_lay
  rw [sh_4]
  refine r_lay_lp 4 fuel k w (Nat.le_refl _) (by unfold fuel; omega) hk h2 (fun v h3 hi ha h4 h5 => Ok_rt ⟨h3, hi, ha, h4, fun i hi => ?_⟩)
  rw [h5 i hi, byte_nar]
  rfl
/-- what feeding leaves alone in the reference -/
def FdR (w v : GS) : Prop := (∀ j, ¬ j = 42 → v.1.1 j = w.1.1 j) ∧ ∀ j, ¬ j = 40 → v.1.2 j = w.1.2 j
theorem FdR.trans {u v w : GS} (h1 : FdR u v) (h2 : FdR v w) : FdR u w := ⟨fun j hj => (h2.1 j hj).trans (h1.1 j hj), fun j hj => (h2.2 j hj).trans (h1.2 j hj)⟩
theorem FtR.fr {u v : MS} {w w2 : GS} (h : FtR u w) (h1 : v.1 11 = u.1 11 ∧ v.1 10 = u.1 10) (h2 : w2.1.1 49 = w.1.1 49 ∧ w2.1.1 50 = w.1.1 50) : FtR v w2 := ⟨h1.1.trans (h.1.trans h2.1.symm), h1.2.trans (h.2.trans h2.2.symm)⟩
theorem live_endX {N tp n E : Nat} {lg : Nat → En} {s : Nat → GS} {w : GS} (h : LiveX N tp n E lg s w) (a : Int32) : Ok (f_end a) w (fun r v => (0 ≤ a.toInt ∧ a.toInt ≤ tp ∧ r = a ∧ LiveX N a.toInt.toNat n E lg s v ∧ FdR w v ∧ v.1.2 40 = w.1.2 40) ∨ (¬ (0 ≤ a.toInt ∧ a.toInt ≤ tp) ∧ r = -1 ∧ v = w)) := by
  have htp := h.2.2.2.2.1
  unfold f_end
  refine Ok_uf' (fun x hx => ?_)
  have ex : x = nI tp := hx.symm.trans h.2.2.2.1
  subst ex
  refine Ok_clR (ok_in _ _ _ w) (fun r hr => ?_)
  have h0 : (0 : Int64).toInt = 0 := by decide
  rw [Int32.toInt_toInt64, Int32.toInt_toInt64, h0, nI_toInt (by omega)] at hr
  refine Ok_ite (fun z => Ok_rt (Or.inr ⟨?_, rfl, rfl⟩)) (fun z => Ok_wf (Ok_rt (Or.inl ?_)))
  · rcases hr with ⟨hr, -⟩ | ⟨-, hr⟩
    · rw [hr] at z; exact absurd z (by decide)
    · exact hr
  · rcases hr with ⟨-, h1, h2⟩ | ⟨hr, -⟩
    · have e := nI_ofT h1
      have h9 := live_w42 (k := a.toInt.toNat) h (by omega)
      rw [← e] at h9
      exact ⟨h1, h2, rfl, h9, ⟨fun j hj => (swf_o hj).1, fun _ _ => rfl⟩, rfl⟩
    · exact absurd hr z
section
variable {P : LwP} {LW : List LwP} {N tp n E ch C : Nat} {u v : MS} {w : GS} {lg : Nat → En} {s : Nat → GS} {p q : Nat → Nat}
theorem SmX.same {LI LA : List Nat} (h : SmX P LW N tp u w n E lg s p q ch C) (hs : Same LI LA u v) (h1 : ¬ 0 ∈ LI ∧ ¬ 1 ∈ LI ∧ ¬ 60 ∈ LI ∧ ¬ 65 ∈ LI) (h2 : ¬ 0 ∈ LA ∧ ¬ 1 ∈ LA ∧ ¬ 2 ∈ LA ∧ ¬ 3 ∈ LA) (h3 : ¬ 13 ∈ LA ∧ ¬ 14 ∈ LA ∧ ¬ 15 ∈ LA ∧ ¬ 16 ∈ LA) : SmX P LW N tp v w n E lg s p q ch C := by
  obtain ⟨a1, a2, ⟨b1, b2, b3, b4⟩, a4, a5, a6, a7, a8, a9, a10⟩ := h
  have e0 := hs.2 0 h2.1
  have eB : ∀ k, hB v k = hB u k := fun k => by
    unfold hB
    rw [hs.1 0 h1.1, e0, hs.2 1 h2.2.1, hs.2 2 h2.2.2.1]
  refine ⟨a1, (hs.1 1 h1.2.1).trans a2, ⟨(hs.1 0 h1.1).trans b1, (hs.1 60 h1.2.2.1).trans b2, (hs.1 65 h1.2.2.2).trans b3, b4⟩, fun k hk => by rw [hs.2 3 h2.2.2.2]; exact a4 k hk, a5, fun k hk => by rw [eB]; exact a6 k hk, by rw [e0]; exact a7, a8, fun c hc => ?_, a10⟩
  rw [e0]
  refine (a9 c hc).to (Acc.rf _ _) (fun i _ => ?_)
  unfold Rws
  rw [hs.2 13 h3.1, hs.2 14 h3.2.1, hs.2 15 h3.2.2.1, hs.2 16 h3.2.2.2]
  exact ⟨rfl, rfl, rfl, rfl⟩
theorem SmX.live {N2 tp2 : Nat} {w2 : GS} (h : SmX P LW N tp u w n E lg s p q ch C) (hL : LiveX N2 tp2 n E lg s w2) : SmX P LW N2 tp2 u w2 n E lg s p q ch C := ⟨hL, h.2⟩
theorem TpR.push {tp : Nat} {w2 : GS} {a : Int32} (h : TpR tp u w) (hk : tp + 4 ≤ 3000) (h2 : v.1 2 = nI (tp + 4)) (h4 : ∀ j, j < tp → v.2 4 j = u.2 4 j) (h5 : ∀ i, i < 4 → v.2 4 (tp + i) = nI (pb a i)) (g4 : ∀ j, j < tp → w2.1.2 40 j = w.1.2 40 j) (g5 : ∀ i, i < 4 → w2.1.2 40 (tp + i) = sb (pb a i)) : TpR (tp + 4) v w2 := by
  obtain ⟨T, ⟨a1, b, c⟩, d⟩ := h
  refine ⟨fun j => if j < tp then T j else pb a (j - tp), ⟨hk, h2, fun i hi => ?_⟩, fun i hi => ?_⟩
  · show (if i < tp then T i else pb a (i - tp)) < 256 ∧ v.2 4 i = nI (if i < tp then T i else pb a (i - tp))
    by_cases hlt : i < tp
    · rw [if_pos hlt, h4 i hlt]
      exact c i hlt
    · rw [if_neg hlt]
      have h6 := h5 (i - tp) (by omega)
      rw [show tp + (i - tp) = i by omega] at h6
      exact ⟨lo8_lt _, h6⟩
  · show w2.1.2 40 i = sb (if i < tp then T i else pb a (i - tp))
    by_cases hlt : i < tp
    · rw [if_pos hlt, g4 i hlt]
      exact d i hlt
    · rw [if_neg hlt]
      have h6 := g5 (i - tp) (by omega)
      rw [show tp + (i - tp) = i by omega] at h6
      exact h6
/-- one int more on the tape, on both sides -/
theorem tp_push {a : Int32} {r : Int32} (hL : LiveX N tp n E lg s w) (hN : tp + 4 ≤ 3000) (hT : TpR tp u w) (h2 : u.1 2 = nI tp) (e : x_X10_push a u = some (r, v)) : v.1 2 = nI (tp + 4) ∧ Same [2] [4] u v ∧ Ok (f_lay a) w (fun _ w2 => LiveX (N + 4) (tp + 4) n E lg s w2 ∧ TpR (tp + 4) v w2 ∧ FdR w w2) := by
  obtain ⟨a1, a2, a3, a4⟩ := c_push (a := a) hN h2 r v e
  refine ⟨a1, a2, Ok.mono ((ok_lay a hN hL).and (r_lay (a := a) hN hL.2.2.2.1)) (fun _ w2 y => ?_)⟩
  obtain ⟨y1, y2, y3, y4, y5, y6⟩ := y
  exact ⟨y1, hT.push hN a1 a3 a4 y5 y6, y3, y4⟩
theorem sim_feed {a b c d f r : Int32} (h : SmX P LW N tp u w n E lg s p q ch C) (hT : TpR tp u w) (h2 : u.1 2 = nI tp) (htp : tp ≤ 3000) (e : x_X11_feed a b c d f u = some (r, v)) : ∃ tp2, tp2 ≤ 3000 ∧ v.1 2 = nI tp2 ∧ Ok (f_feed a b c d f) w (fun r2 w2 => r2 = r ∧ SmE P LW (N + 20) tp2 v w2 ∧ TpR tp2 v w2 ∧ FdR w w2) := by
  have hL := h.1
  have e20 : nI tp + 20 = nI (tp + 20) := nI_add tp 20
  have e0 : ncl (nRF 2) _ u = some (r, v) := e
  obtain ⟨x, u0, q1, e1⟩ := ncl_some e0
  have q2 : x = u.1 2 ∧ u0 = u := by cases q1; exact ⟨rfl, rfl⟩
  obtain ⟨rfl, rfl⟩ := q2
  rw [h2, e20] at e1
  by_cases hle : nI (tp + 20) ≤ (3000 : Int32)
  · have h20 : tp + 20 ≤ 3000 := (nI_leI (a := tp + 20) (b := 3000) (by omega) (by decide)).mp hle
    rw [if_pos hle] at e1
    obtain ⟨x1, u1, p1, e1⟩ := ncl_some e1
    obtain ⟨x2, u2, p2, e1⟩ := ncl_some e1
    obtain ⟨x3, u3, p3, e1⟩ := ncl_some e1
    obtain ⟨x4, u4, p4, e1⟩ := ncl_some e1
    obtain ⟨x5, u5, p5, e1⟩ := ncl_some e1
    obtain ⟨x6, u6, p6, e1⟩ := ncl_some e1
    have q2 : x6 = u5.1 2 ∧ u6 = u5 := by cases p6; exact ⟨rfl, rfl⟩
    obtain ⟨rfl, rfl⟩ := q2
    have q3 : r = u6.1 2 ∧ v = u6 := by cases e1; exact ⟨rfl, rfl⟩
    obtain ⟨rfl, rfl⟩ := q3
    obtain ⟨a1, s1, o1⟩ := tp_push hL (by omega) hT h2 p1
    unfold f_feed
    refine ⟨tp + 20, h20, ?_, ?_⟩
    · obtain ⟨a2, s2, -⟩ := c_push (a := b) (k := tp + 4) (by omega) a1 _ _ p2
      obtain ⟨a3, s3, -⟩ := c_push (a := c) (k := tp + 4 + 4) (by omega) a2 _ _ p3
      obtain ⟨a4, s4, -⟩ := c_push (a := d) (k := tp + 4 + 4 + 4) (by omega) a3 _ _ p4
      obtain ⟨a5, s5, -⟩ := c_push (a := f) (k := tp + 4 + 4 + 4 + 4) (by omega) a4 _ _ p5
      exact a5
    · refine Ok_uf' (fun x hx => ?_)
      have ex : x = nI tp := hx.symm.trans hL.2.2.2.1
      subst ex
      rw [e20, if_pos hle]
      refine Ok_cl (Ok.mono o1 (fun _ w1 y1 => ?_))
      obtain ⟨a2, s2, o2⟩ := tp_push y1.1 (by omega) y1.2.1 a1 p2
      refine Ok_cl (Ok.mono o2 (fun _ w2 y2 => ?_))
      obtain ⟨a3, s3, o3⟩ := tp_push y2.1 (by omega) y2.2.1 a2 p3
      refine Ok_cl (Ok.mono o3 (fun _ w3 y3 => ?_))
      obtain ⟨a4, s4, o4⟩ := tp_push y3.1 (by omega) y3.2.1 a3 p4
      refine Ok_cl (Ok.mono o4 (fun _ w4 y4 => ?_))
      obtain ⟨a5, s5, o5⟩ := tp_push y4.1 (by omega) y4.2.1 a4 p5
      refine Ok_cl (Ok.mono o5 (fun _ w5 y5 => Ok_uf' (fun x hx => Ok_rt ⟨?_, ?_, y5.2.1, y1.2.2.trans (y2.2.2.trans (y3.2.2.trans (y4.2.2.trans y5.2.2)))⟩)))
      · exact hx.symm.trans (y5.1.2.2.2.1.trans a5.symm)
      · exact ((h.same (s1.trans (s2.trans (s3.trans (s4.trans s5)))) (by decide) (by decide) (by decide)).live y5.1).e
  · rw [if_neg hle] at e1
    have q3 : r = -4 ∧ v = u0 := by cases e1; exact ⟨rfl, rfl⟩
    obtain ⟨rfl, rfl⟩ := q3
    refine ⟨tp, htp, h2, ?_⟩
    unfold f_feed
    refine Ok_uf' (fun x hx => ?_)
    have ex : x = nI tp := hx.symm.trans hL.2.2.2.1
    subst ex
    rw [e20, if_neg hle]
    refine Ok_rt ⟨rfl, (h.live ?_).e, hT, fun _ _ => rfl, fun _ _ => rfl⟩
    obtain ⟨b1, b2, b3, b4, b5, b6, b7⟩ := hL
    exact ⟨b1, b2, b3, b4, b5, by omega, b7⟩
theorem sim_end {a r : Int32} (h : SmX P LW N tp u w n E lg s p q ch C) (hT : TpR tp u w) (h2 : u.1 2 = nI tp) (htp : tp ≤ 3000) (e : x_X11_end a u = some (r, v)) : ∃ tp2, tp2 ≤ 3000 ∧ v.1 2 = nI tp2 ∧ Ok (f_end a) w (fun r2 w2 => r2 = r ∧ SmE P LW N tp2 v w2 ∧ TpR tp2 v w2 ∧ FdR w w2) := by
  have hL := h.1
  obtain ⟨r1, v1, e1, hs, hor⟩ := end_ok a u tp htp h2
  rw [e] at e1
  cases e1
  have hL2 := live_endX hL a
  have e4 : v.2 4 = u.2 4 := hs.2 4 (by decide)
  rcases hor with ⟨z1, z2, z3, z4⟩ | ⟨z1, rfl, z4⟩
  · refine ⟨a.toInt.toNat, by omega, z4, Ok.mono hL2 (fun r2 w2 y => ?_)⟩
    rcases y with ⟨y1, y2, y3, y4, y5, y6⟩ | ⟨y1, -⟩
    · exact ⟨y3.trans z3.symm, ((h.same hs (by decide) (by decide) (by decide)).live y4).e, hT.cut (by omega) z4 e4 y6, y5⟩
    · exact absurd ⟨z1, z2⟩ y1
  · refine ⟨tp, htp, z4, Ok.mono hL2 (fun r2 w2 y => ?_)⟩
    rcases y with ⟨y1, y2, -⟩ | ⟨y1, y2, y3⟩
    · exact absurd ⟨y1, y2⟩ z1
    · subst y3
      exact ⟨y2, ((h.same hs (by decide) (by decide) (by decide)).live hL).e, hT.fr (z4.trans h2.symm) e4 rfl, fun _ _ => rfl, fun _ _ => rfl⟩
end
