/-! ===== planned() on both sides; the plans alike between two calls ===== -/
def kZ (k : Nat) : Bool := [69].contains k
def kY (k : Nat) : Bool := [61, 62].contains k
theorem kZ_69 {k : Nat} (h : kZ k = true) : k = 69 := by
  unfold kZ at h
  simpa using h
theorem kY_61 {k : Nat} (h : kY k = true) : k = 61 ∨ k = 62 := by
  unfold kY at h
  simpa using h
theorem Fw.z {β : Type} {p : PG β} (h : Fw kI kA p) : Fw kZ kY p := h.le (fun k z => by rw [kZ_69 z]; rfl) (fun k z => by rcases kY_61 z with e | e <;> rw [e] <;> rfl)
theorem Fw.zj {β : Type} {p : PG β} (h : Fw kJ kA p) : Fw kZ kY p := h.le (fun k z => by rw [kZ_69 z]; rfl) (fun k z => by rcases kY_61 z with e | e <;> rw [e] <;> rfl)
theorem fw_lp_laws_4 : ∀ (n : Nat) (v1 v2 : Int32) (K0 : Int32 → Int32 → PG (Int32)), (∀ (v1 v2 : Int32), Fw kZ kY (K0 v1 v2)) → Fw kZ kY (lp_laws_4 n v1 v2 K0) := by
  intro n
  induction n with
  | zero => intro v1 v2 K0 hK0; exact Fw_no
  | succ n ih =>
    intro v1 v2 K0 hK0
    unfold lp_laws_4
    repeat (first | (with_reducible exact Fw_rt _) | (with_reducible intro _) | (with_reducible exact hK0 _ _) | (with_reducible exact hK0 _ _ _ _ _) | (with_reducible exact ih _ _ _ hK0) | (with_reducible exact ih _ _ _ _ _ _ hK0) | (with_reducible refine fw_lp_laws_4 _ _ _ _ ?_) | (with_reducible refine fw_lp_laws_99 _ _ _ _ _ _ _ ?_) | (with_reducible exact (fw_act _ _ _ _).z) | (with_reducible exact fw_lawsAgain.z) | (with_reducible exact fw_readLaws.zj) | (with_reducible refine Fw_clr ?_) | (with_reducible refine Fw_clL ?_) | (with_reducible refine Fw_li (fun _ => ?_)) | (with_reducible refine Fw_rf (fun _ => ?_)) | (with_reducible refine Fw_uf (fun _ => ?_)) | (with_reducible refine Fw_rd (fun _ => ?_)) | (with_reducible refine Fw_ud (fun _ => ?_)) | (with_reducible refine Fw_sr (fun _ => ?_)) | (with_reducible refine Fw_wf rfl ?_) | (with_reducible refine Fw_wd rfl ?_) | (with_reducible refine Fw_og ?_) | (with_reducible refine Fw_ite ?_ ?_) | (with_reducible refine Fw_oi (fun _ => ?_)) | (with_reducible refine Fw_ot ?_ (fun _ => ?_)) | (with_reducible refine Fw_cl ?_ (fun _ => ?_)))
theorem fw_lp_laws_99 : ∀ (n : Nat) (v1 v2 v3 v4 v5 : Int32) (K0 : Int32 → Int32 → Int32 → Int32 → Int32 → PG (Int32)), (∀ (v1 v2 v3 v4 v5 : Int32), Fw kZ kY (K0 v1 v2 v3 v4 v5)) → Fw kZ kY (lp_laws_99 n v1 v2 v3 v4 v5 K0) := by
  intro n
  induction n with
  | zero => intro v1 v2 v3 v4 v5 K0 hK0; exact Fw_no
  | succ n ih =>
    intro v1 v2 v3 v4 v5 K0 hK0
    unfold lp_laws_99
    repeat (first | (with_reducible exact Fw_rt _) | (with_reducible intro _) | (with_reducible exact hK0 _ _) | (with_reducible exact hK0 _ _ _ _ _) | (with_reducible exact ih _ _ _ hK0) | (with_reducible exact ih _ _ _ _ _ _ hK0) | (with_reducible refine fw_lp_laws_4 _ _ _ _ ?_) | (with_reducible refine fw_lp_laws_99 _ _ _ _ _ _ _ ?_) | (with_reducible exact (fw_act _ _ _ _).z) | (with_reducible exact fw_lawsAgain.z) | (with_reducible exact fw_readLaws.zj) | (with_reducible refine Fw_clr ?_) | (with_reducible refine Fw_clL ?_) | (with_reducible refine Fw_li (fun _ => ?_)) | (with_reducible refine Fw_rf (fun _ => ?_)) | (with_reducible refine Fw_uf (fun _ => ?_)) | (with_reducible refine Fw_rd (fun _ => ?_)) | (with_reducible refine Fw_ud (fun _ => ?_)) | (with_reducible refine Fw_sr (fun _ => ?_)) | (with_reducible refine Fw_wf rfl ?_) | (with_reducible refine Fw_wd rfl ?_) | (with_reducible refine Fw_og ?_) | (with_reducible refine Fw_ite ?_ ?_) | (with_reducible refine Fw_oi (fun _ => ?_)) | (with_reducible refine Fw_ot ?_ (fun _ => ?_)) | (with_reducible refine Fw_cl ?_ (fun _ => ?_)))
theorem fw_laws : Fw kZ kY (f_laws) := by
  unfold f_laws
  repeat (first | (with_reducible exact Fw_rt _) | (with_reducible intro _) | (with_reducible exact hK0 _ _) | (with_reducible exact hK0 _ _ _ _ _) | (with_reducible exact ih _ _ _ hK0) | (with_reducible exact ih _ _ _ _ _ _ hK0) | (with_reducible refine fw_lp_laws_4 _ _ _ _ ?_) | (with_reducible refine fw_lp_laws_99 _ _ _ _ _ _ _ ?_) | (with_reducible exact (fw_act _ _ _ _).z) | (with_reducible exact fw_lawsAgain.z) | (with_reducible exact fw_readLaws.zj) | (with_reducible refine Fw_clr ?_) | (with_reducible refine Fw_clL ?_) | (with_reducible refine Fw_li (fun _ => ?_)) | (with_reducible refine Fw_rf (fun _ => ?_)) | (with_reducible refine Fw_uf (fun _ => ?_)) | (with_reducible refine Fw_rd (fun _ => ?_)) | (with_reducible refine Fw_ud (fun _ => ?_)) | (with_reducible refine Fw_sr (fun _ => ?_)) | (with_reducible refine Fw_wf rfl ?_) | (with_reducible refine Fw_wd rfl ?_) | (with_reducible refine Fw_og ?_) | (with_reducible refine Fw_ite ?_ ?_) | (with_reducible refine Fw_oi (fun _ => ?_)) | (with_reducible refine Fw_ot ?_ (fun _ => ?_)) | (with_reducible refine Fw_cl ?_ (fun _ => ?_)))
theorem PlR.fr {u u1 : MS} {v v1 : GS} (h : PlR u v) {LI LA : List Nat} (hs : Same LI LA u u1) (h1 : ¬ 61 ∈ LI ∧ ¬ 62 ∈ LI ∧ ¬ 63 ∈ LI ∧ ¬ 64 ∈ LI) (h2 : ¬ 26 ∈ LA ∧ ¬ 27 ∈ LA ∧ ¬ 28 ∈ LA ∧ ¬ 29 ∈ LA) (hw : FwR kZ kY v v1) : PlR u1 v1 := by
  have e1 := hs.1 61 h1.1
  have e2 := hs.1 62 h1.2.1
  have e3 := hs.1 63 h1.2.2.1
  have e4 := hs.1 64 h1.2.2.2
  have a1 := hs.2 26 h2.1
  have a2 := hs.2 27 h2.2.1
  have a3 := hs.2 28 h2.2.2.1
  have a4 := hs.2 29 h2.2.2.2
  have m : plM u1 = plM u := by
    unfold plM sl
    rw [e1]
    split
    · exact a1
    · exact a2
  have b : plB u1 = plB u := by
    unfold plB sl
    rw [e3]
    split
    · exact a3
    · exact a4
  obtain ⟨s, hp⟩ := h
  refine ⟨?_, fun c i hc hi => ?_⟩
  · unfold Sel
    rw [e1, e2, e3, e4]
    exact s
  · rw [m, b, hw.1 69 rfl, hw.2 61 rfl, hw.2 62 rfl]
    exact hp c i hc hi
theorem T.of {β : Type} {LI LA : List Nat} {p : NG β} {u v : MS} {r : β} (ht : T LI LA p) (e : p u = some (r, v)) : Same LI LA u v := by
  obtain ⟨r2, v2, e2, hs⟩ := ht u
  rw [e] at e2
  cases e2
  exact hs
def lwI : List Nat := [0, 1, 2, 3, 4, 5, 6, 7, 8, 9, 10, 11, 12, 13, 14, 15, 20, 21, 22, 23, 24, 25, 60, 65]
def lwA : List Nat := [0, 1, 2, 3, 5, 6, 7, 8, 9, 10]
theorem lawsNo_same {u v : MS} {r : Int32} (e : x_lawsNo u = some (r, v)) : Same lwI lwA u v := by
  unfold x_lawsNo at e
  obtain ⟨k1, u2, h3, e⟩ := ncl_some e
  have s1 : Same lwI lwA u u2 := (tt_x_X3_openFights.of h3).mono (by decide) (by decide)
  by_cases c1 : k1 ≤ 0
  · rw [if_pos c1] at e
    obtain ⟨b, u3, h4, e⟩ := ncl_some e
    have s2 : Same lwI lwA u u3 := s1.trans ((tt_x_X5_readLaws.of h4).mono (by decide) (by decide))
    obtain ⟨_, u4, h5, e⟩ := ncl_some e
    have s3 : Same lwI lwA u u4 := s2.trans ((T_WF (LI := lwI) (LA := lwA) (k := 2) (v := 0) (by decide)).of h5)
    by_cases c2 : b = 0
    · rw [if_pos c2] at e
      exact s3.trans ((T_rt (LI := lwI) (LA := lwA) (-1 : Int32)).of e)
    · rw [if_neg c2] at e
      obtain ⟨z, u5, h6, e⟩ := ncl_some e
      have s4 : Same lwI lwA u u5 := s3.trans ((tt_x_X1_isFull.of h6).mono (by decide) (by decide))
      by_cases c3 : z = 0
      · rw [if_pos c3] at e
        cases e
      · rw [if_neg c3] at e
        exact s4.trans ((T_rt (LI := lwI) (LA := lwA) (-4 : Int32)).of e)
  · rw [if_neg c1] at e
    obtain ⟨_, u4, h5, e⟩ := ncl_some e
    have s3 : Same lwI lwA u u4 := s1.trans ((T_WF (LI := lwI) (LA := lwA) (k := 2) (v := 0) (by decide)).of h5)
    exact s3.trans ((T_rt (LI := lwI) (LA := lwA) (-3 : Int32)).of e)
theorem lawsYes_same {u u5 u6 : MS} {r5 r6 : Int32} {ch C C1 C2 : Nat} {b : Int32} (hK : Kl u ch C) (e : x_lawsYes u = some (r5, u5)) (e6 : x_X1_put 3 b (dnew u5) = some (r6, u6, C1, C2)) : Same lwI lwA u u6 := by
  have hk : ∀ {a d : MS} {LI LA : List Nat}, Kl a ch C → Same LI LA a d → ¬ 0 ∈ LI ∧ ¬ 60 ∈ LI ∧ ¬ 65 ∈ LI → Kl d ch C := fun {a d LI LA} ha hs hn => by
    unfold Kl at ha ⊢
    rw [hs.1 0 hn.1, hs.1 60 hn.2.1, hs.1 65 hn.2.2]
    exact ha
  unfold x_lawsYes at e
  obtain ⟨k1, u2, h3, e⟩ := ncl_some e
  have t1 := tt_x_X3_openFights.of h3
  have s1 : Same lwI lwA u u2 := t1.mono (by decide) (by decide)
  have K1 := hk hK t1 (by decide)
  by_cases c1 : k1 ≤ 0
  · rw [if_pos c1] at e
    obtain ⟨b2, u3, h4, e⟩ := ncl_some e
    have t2 := tt_x_X5_readLaws.of h4
    have s2 : Same lwI lwA u u3 := s1.trans (t2.mono (by decide) (by decide))
    have K2 := hk K1 t2 (by decide)
    obtain ⟨_, u4, h5, e⟩ := ncl_some e
    have t3 := (T_WF (LI := [2]) (LA := []) (k := 2) (v := 0) (by decide)).of h5
    have s3 : Same lwI lwA u u4 := s2.trans (t3.mono (by decide) (by decide))
    have K3 := hk K2 t3 (by decide)
    by_cases c2 : b2 = 0
    · rw [if_pos c2] at e
      cases e
    · rw [if_neg c2] at e
      obtain ⟨z, u7, h6, e⟩ := ncl_some e
      have t4 := tt_x_X1_isFull.of h6
      have s4 : Same lwI lwA u u7 := s3.trans (t4.mono (by decide) (by decide))
      have K4 := hk K3 t4 (by decide)
      by_cases c3 : z = 0
      · rw [if_pos c3] at e
        obtain ⟨z2, u8, h8, e⟩ := ncl_some e
        have t5 := tt_x_X1_openEntry.of h8
        have s5 : Same lwI lwA u u8 := s4.trans (t5.mono (by decide) (by decide))
        have K5 := hk K4 t5 (by decide)
        have e9 : u8 = u5 := by cases e; rfl
        subst e9
        have sd := dnew_same u8
        have K6 := hk K5 sd (by decide)
        obtain ⟨-, -, p3⟩ := put_ex K6 e6
        exact (s5.trans (sd.mono (by decide) (by decide))).trans (p3.mono (by decide) (by decide))
      · rw [if_neg c3] at e
        cases e
  · rw [if_neg c1] at e
    cases e
def Bp (P : LwP) (LW : List LwP) (M tp : Nat) (u : MS) (v : GS) : Prop := Bo P LW M tp u v ∧ PlR u v
theorem sim_planned {P : LwP} {LW : List LwP} {N tp n E ch C : Nat} {u v : MS} {w : GS} {lg : Nat → En} {s : Nat → GS} {p q : Nat → Nat} {a b d r : Int32} (h : SmX P LW N tp u w n E lg s p q ch C) (hp : PlR u w) (e : x_X11_planned a b d u = some (r, v)) : Rd (f_planned a b d) w (fun r2 => r2 = r) := by
  have hIw := h.1.inv
  have h13 := h.1.2.2.2.2.2.2.2.2.2.2
  have hRw := h.r0
  have hkn : ∀ c, c < 4 → Kn (u.2 0) c := fun c hc => kn_of h.inv h.rs hc
  have c0 : (0 : Int64).toInt = 0 := by decide
  have c1 : (1 : Int64).toInt = 1 := by decide
  unfold x_X11_planned at e
  unfold f_planned
  rcases c_has (B := u.2 0) rfl hkn a b with ⟨e1, c, i, hc, rfl, rfl, hi⟩ | ⟨e1, hno⟩
  rotate_left
  · have e := ncl_at e1 e
    rw [if_pos rfl] at e
    refine Rd_clR (r_isFight hRw _ _ (hIw.kd h13)) (fun q hq => ?_)
    rcases hq with ⟨-, hq⟩ | ⟨rfl, -⟩
    · exact absurd hq hno
    · exact Rd_ite (fun _ => Rd_rt (nrt_at e).1.symm) (fun z => absurd rfl z)
  have e := ncl_at e1 e
  rw [if_neg (by decide)] at e
  have h37 := (hkn c hc).n37
  have hi37 : i < 37 := by omega
  have gs : ∀ x a b, rg (sl x (u.2 a) (u.2 b)) 148 (nI (37 * c + i)) = u.2 (sl x a b) (37 * c + i) := fun x a b => by
    rw [rg_in (by omega) (by decide)]
    unfold sl
    split <;> rfl
  have tell : x_X6_tell (nI c) (nI i) d u = some (if d = 0 then plM u (37 * c + i) else if d = 1 then plB u (37 * c + i) else -1, u) := by
    unfold x_X6_tell
    rw [e_slot]
    by_cases h0 : d = 0
    · rw [if_pos h0, if_pos h0]
      show some (rg (sl (u.1 61) (u.2 26) (u.2 27)) 148 (nI (37 * c + i)), u) = _
      rw [gs]
      rfl
    · rw [if_neg h0, if_neg h0]
      by_cases h1 : d = 1
      · rw [if_pos h1, if_pos h1]
        show some (rg (sl (u.1 63) (u.2 28) (u.2 29)) 148 (nI (37 * c + i)), u) = _
        rw [gs]
        rfl
      · rw [if_neg h1, if_neg h1]
        rfl
  have er := (nrt_at (ncl_at tell e)).1
  obtain ⟨p1, p2⟩ := hp.2 c i hc hi37
  refine Rd_clR (r_isFight hRw _ _ (hIw.kd h13)) (fun q hq => ?_)
  rcases hq with ⟨rfl, -⟩ | ⟨-, hq⟩
  rotate_left
  · exact absurd ⟨c, i, hc, rfl, rfl, hi⟩ hq
  refine Rd_ite (fun z => absurd z (by decide)) (fun _ => Ok_uf (Rd_ite (fun h0 => Rd_rt ?_) (fun h0 => ?_)))
  · obtain ⟨q1, q2⟩ := p1 h0
    rw [er, q1, q2]
    split
    · rfl
    · split <;> rfl
  obtain ⟨q1, q2⟩ := p2 h0
  rw [q1, q2] at er
  refine Rd_clR (ok_in _ _ _ w) (fun r2 hr2 => ?_)
  rw [Int32.toInt_toInt64, c0, c1] at hr2
  rcases hr2 with ⟨rfl, z1, z2⟩ | ⟨rfl, z⟩
  · refine Rd_ite (fun z => absurd z (by decide)) (fun _ => ?_)
    by_cases hd0 : d = 0
    · rw [if_pos hd0] at er
      rw [if_pos hd0, ix40]
      refine Ok_ud (gi_nI (by omega) (by decide)) (Rd_rt ?_)
      show w.1.2 61 (nI (40 * c + i)).toNatClampNeg = r
      rw [nI_clamp (by omega)]
      exact er.symm
    · have hd1 : d = 1 := by
        have : ¬ d.toInt = 0 := fun y => hd0 (Int32.toInt_inj.mp (by rw [y]; rfl))
        exact Int32.toInt_inj.mp (by
          have e9 : (1 : Int32).toInt = 1 := by decide
          omega)
      rw [if_neg hd0, if_pos hd1] at er
      rw [if_neg hd0, ix40]
      refine Ok_ud (gi_nI (by omega) (by decide)) (Rd_rt ?_)
      show w.1.2 62 (nI (40 * c + i)).toNatClampNeg = r
      rw [nI_clamp (by omega)]
      exact er.symm
  · refine Rd_ite (fun _ => Rd_rt ?_) (fun z => absurd rfl z)
    have hd0 : ¬ d = 0 := fun y => z (by rw [y]; decide)
    have hd1 : ¬ d = 1 := fun y => z (by rw [y]; decide)
    rw [if_neg hd0, if_neg hd1] at er
    exact er.symm
section
variable {P : LwP} {LW : List LwP} {M tp : Nat} {u u1 : MS} {v : GS} {r1 : Int32}
theorem bp_limit {a b d : Int32} {c d0 : Nat} (h : Bp P LW M tp u v) (hM : M ≤ 24000) (hs : Same scI scA u u1) (e : x_X11_limit a b d u = some (r1, u1, c, d0)) : ∃ r2 v1, f_limit a b d v = some (r2, v1) ∧ r1 = r2 ∧ Bp P LW M tp u1 v1 := by
  obtain ⟨r2, v1, f1, e2, hb⟩ := bo_limit h.1 hM hs e
  exact ⟨r2, v1, f1, e2, hb, h.2.fr hs (by decide) (by decide) ((fw_limit _ _ _).z v r2 v1 f1)⟩
theorem bp_enter {a b : Int32} {c d0 : Nat} (h : Bp P LW M tp u v) (hM : M ≤ 24000) (hs : Same scI scA u u1) (e : x_X11_enter a b u = some (r1, u1, c, d0)) : ∃ r2 v1, f_enter a b v = some (r2, v1) ∧ r1 = r2 ∧ Bp P LW M tp u1 v1 := by
  obtain ⟨r2, v1, f1, e2, hb⟩ := bo_enter h.1 hM hs e
  exact ⟨r2, v1, f1, e2, hb, h.2.fr hs (by decide) (by decide) ((fw_enter _ _).z v r2 v1 f1)⟩
theorem bp_weigh {a b : Int32} {c d0 : Nat} (h : Bp P LW M tp u v) (hM : M ≤ 24000) (hs : Same scI scA u u1) (e : x_X11_weigh a b u = some (r1, u1, c, d0)) : ∃ r2 v1, f_weigh a b v = some (r2, v1) ∧ r1 = r2 ∧ Bp P LW M tp u1 v1 := by
  obtain ⟨r2, v1, f1, e2, hb⟩ := bo_weigh h.1 hM hs e
  exact ⟨r2, v1, f1, e2, hb, h.2.fr hs (by decide) (by decide) ((fw_weigh _ _).z v r2 v1 f1)⟩
theorem bp_seed {a b : Int32} {c d0 : Nat} (h : Bp P LW M tp u v) (hM : M ≤ 24000) (hs : Same scI scA u u1) (e : x_X11_seed a b u = some (r1, u1, c, d0)) : ∃ r2 v1, f_seed a b v = some (r2, v1) ∧ r1 = r2 ∧ Bp P LW M tp u1 v1 := by
  obtain ⟨r2, v1, f1, e2, hb⟩ := bo_seed h.1 hM hs e
  exact ⟨r2, v1, f1, e2, hb, h.2.fr hs (by decide) (by decide) ((fw_seed _ _).z v r2 v1 f1)⟩
theorem bp_draw {a : Int32} {c d0 : Nat} (h : Bp P LW M tp u v) (hM : M ≤ 24000) (hs : Same scI scA u u1) (e : x_X11_draw a u = some (r1, u1, c, d0)) : ∃ r2 v1, f_draw a v = some (r2, v1) ∧ r1 = r2 ∧ Bp P LW M tp u1 v1 := by
  obtain ⟨r2, v1, f1, e2, hb⟩ := bo_draw h.1 hM hs e
  exact ⟨r2, v1, f1, e2, hb, h.2.fr hs (by decide) (by decide) ((fw_draw _).z v r2 v1 f1)⟩
theorem bp_now {a : Int32} {c d0 : Nat} (h : Bp P LW M tp u v) (hM : M ≤ 24000) (hs : Same scI scA u u1) (e : x_X11_now a u = some (r1, u1, c, d0)) : ∃ r2 v1, f_now a v = some (r2, v1) ∧ r1 = r2 ∧ Bp P LW M tp u1 v1 := by
  obtain ⟨r2, v1, f1, e2, hb⟩ := bo_now h.1 hM hs e
  exact ⟨r2, v1, f1, e2, hb, h.2.fr hs (by decide) (by decide) ((fw_now _).z v r2 v1 f1)⟩
theorem bp_rest {a : Int32} {c d0 : Nat} (h : Bp P LW M tp u v) (hM : M ≤ 24000) (hs : Same scI scA u u1) (e : x_X11_rest a u = some (r1, u1, c, d0)) : ∃ r2 v1, f_rest a v = some (r2, v1) ∧ r1 = r2 ∧ Bp P LW M tp u1 v1 := by
  obtain ⟨r2, v1, f1, e2, hb⟩ := bo_rest h.1 hM hs e
  exact ⟨r2, v1, f1, e2, hb, h.2.fr hs (by decide) (by decide) ((fw_rest _).z v r2 v1 f1)⟩
theorem bp_begin {a b d : Int32} {c d0 : Nat} (h : Bp P LW M tp u v) (hM : M ≤ 24000) (hs : Same scI scA u u1) (e : x_X11_begin (fun u => (lnw P LW u).2.2) a b d u = some (r1, u1, c, d0)) : ∃ r2 v1, f_begin a b d v = some (r2, v1) ∧ r1 = r2 ∧ Bp P LW M tp u1 v1 := by
  obtain ⟨r2, v1, f1, e2, hb⟩ := bo_begin h.1 hM hs e
  exact ⟨r2, v1, f1, e2, hb, h.2.fr hs (by decide) (by decide) ((fw_begin _ _ _).z v r2 v1 f1)⟩
theorem bp_event {a b d : Int32} {c d0 : Nat} (h : Bp P LW M tp u v) (hM : M ≤ 24000) (hs : Same scI scA u u1) (e : x_X11_event (fun u => (lnw P LW u).2.2) a b d u = some (r1, u1, c, d0)) : ∃ r2 v1, f_event a b d v = some (r2, v1) ∧ r1 = r2 ∧ Bp P LW M tp u1 v1 := by
  obtain ⟨r2, v1, f1, e2, hb⟩ := bo_event h.1 hM hs e
  exact ⟨r2, v1, f1, e2, hb, h.2.fr hs (by decide) (by decide) ((fw_event _ _ _).z v r2 v1 f1)⟩
theorem bp_tick {a b : Int32} {c d0 : Nat} (h : Bp P LW M tp u v) (hM : M ≤ 24000) (hs : Same scI scA u u1) (e : x_X11_tick (fun u => (lnw P LW u).2.2) a b u = some (r1, u1, c, d0)) : ∃ r2 v1, f_tick a b v = some (r2, v1) ∧ r1 = r2 ∧ Bp P LW M tp u1 v1 := by
  obtain ⟨r2, v1, f1, e2, hb⟩ := bo_tick h.1 hM hs e
  exact ⟨r2, v1, f1, e2, hb, h.2.fr hs (by decide) (by decide) ((fw_tick _ _).z v r2 v1 f1)⟩
theorem bp_decide {a b : Int32} {c d0 : Nat} (h : Bp P LW M tp u v) (hM : M ≤ 24000) (hs : Same scI scA u u1) (e : x_X11_decide a b u = some (r1, u1, c, d0)) : ∃ r2 v1, f_decide a b v = some (r2, v1) ∧ r1 = r2 ∧ Bp P LW M tp u1 v1 := by
  obtain ⟨r2, v1, f1, e2, hb⟩ := bo_decide h.1 hM hs e
  exact ⟨r2, v1, f1, e2, hb, h.2.fr hs (by decide) (by decide) ((fw_decide _ _).z v r2 v1 f1)⟩
theorem bp_strike {a b : Int32} {c d0 : Nat} (h : Bp P LW M tp u v) (hM : M ≤ 24000) (hs : Same scI scA u u1) (e : x_X11_strike a b u = some (r1, u1, c, d0)) : ∃ r2 v1, f_strike a b v = some (r2, v1) ∧ r1 = r2 ∧ Bp P LW M tp u1 v1 := by
  obtain ⟨r2, v1, f1, e2, hb⟩ := bo_strike h.1 hM hs e
  exact ⟨r2, v1, f1, e2, hb, h.2.fr hs (by decide) (by decide) ((fw_strike _ _).z v r2 v1 f1)⟩
theorem bp_undo (h : Bp P LW M tp u v) (e : x_X11_undo u = some (r1, u1)) : ∃ r2 v1, f_undo v = some (r2, v1) ∧ r1 = r2 ∧ Bp P LW M tp u1 v1 := by
  obtain ⟨r2, v1, f1, e2, hb⟩ := bo_undo h.1 e
  exact ⟨r2, v1, f1, e2, hb, h.2.fr (tt_x_X11_undo.of e) (by decide) (by decide) (fw_undo.z v r2 v1 f1)⟩
theorem FdR.z {w v : GS} (h : FdR w v) : FwR kZ kY w v := ⟨fun k z => h.1 k (fun y => by rw [y] at z; exact absurd z (by decide)), fun k z => h.2 k (fun y => by rw [y] at z; exact absurd z (by decide))⟩
theorem bp_feed {a b c d f : Int32} (h : Bp P LW M tp u v) (h2 : u.1 2 = nI tp) (htp : tp ≤ 3000) (hs : Same [2] [4] u u1) (e : x_X11_feed a b c d f u = some (r1, u1)) : ∃ tp2 r2 v1, tp2 ≤ 3000 ∧ u1.1 2 = nI tp2 ∧ f_feed a b c d f v = some (r2, v1) ∧ r1 = r2 ∧ Bp P LW (M + 20) tp2 u1 v1 := by
  obtain ⟨tp2, r2, v1, t1, t2, e1, e2, hb⟩ := bo_feed h.1 h2 htp hs e
  obtain ⟨⟨n, E, lg, s, p, q, ch, C, hX⟩, hT, -⟩ := h.1
  obtain ⟨tp3, q1, q2, r3, v3, e3, q3, q4, q5, e5⟩ := sim_feed hX hT h2 htp e
  rw [e1] at e3
  cases e3
  exact ⟨tp2, r2, v1, t1, t2, e1, e2, hb, h.2.fr hs (by decide) (by decide) e5.z⟩
theorem bp_end {a : Int32} (h : Bp P LW M tp u v) (h2 : u.1 2 = nI tp) (htp : tp ≤ 3000) (hs : Same [2] [] u u1) (e : x_X11_end a u = some (r1, u1)) : ∃ tp2 r2 v1, tp2 ≤ 3000 ∧ u1.1 2 = nI tp2 ∧ f_end a v = some (r2, v1) ∧ r1 = r2 ∧ Bp P LW M tp2 u1 v1 := by
  obtain ⟨tp2, r2, v1, t1, t2, e1, e2, hb⟩ := bo_end h.1 h2 htp hs e
  obtain ⟨⟨n, E, lg, s, p, q, ch, C, hX⟩, hT, -⟩ := h.1
  obtain ⟨tp3, q1, q2, r3, v3, e3, q3, q4, q5, e5⟩ := sim_end hX hT h2 htp e
  rw [e1] at e3
  cases e3
  exact ⟨tp2, r2, v1, t1, t2, e1, e2, hb, h.2.fr hs (by decide) (by decide) e5.z⟩
theorem bp_lawsNo (h : Bp P LW M tp u v) (hM : M ≤ 24000) (e : x_lawsNo u = some (r1, u1)) : ∃ r2 v1, f_laws v = some (r2, v1) ∧ r1 = r2 ∧ Bp P LW M 0 u1 v1 := by
  obtain ⟨r2, v1, e1, e2, hb⟩ := bo_lawsNo h.1 hM e
  exact ⟨r2, v1, e1, e2, hb, h.2.fr (lawsNo_same e) (by decide) (by decide) (fw_laws v r2 v1 e1)⟩
theorem bp_lawsYes {r5 r6 : Int32} {u5 u6 : MS} {C1 C2 : Nat} {wd : LwP} (h : Bp P LW M tp u v) (hM : M ≤ 24000) (hW : LW.length ≤ 512) (hwd : wd.2.2 = dL u5) (e : x_lawsYes u = some (r5, u5)) (e6 : x_X1_put 3 (rg (u5.2 0) 2088 3 + 1) (dnew u5) = some (r6, u6, C1, C2)) : ∃ r2 v1, f_laws v = some (r2, v1) ∧ (lnw P (kpL LW (rg (u5.2 0) 2088 3) wd) u6).2.2.1 3 = r2 ∧ Bp P (kpL LW (rg (u5.2 0) 2088 3) wd) M 0 u6 v1 := by
  obtain ⟨r2, v1, e1, e2, hb⟩ := bo_lawsYes h.1 hM hW hwd e e6
  obtain ⟨⟨n, E, lg, s, p, q, ch, C, hX⟩, -⟩ := h.1
  exact ⟨r2, v1, e1, e2, hb, h.2.fr (lawsYes_same hX.2.2.1 e e6) (by decide) (by decide) (fw_laws v r2 v1 e1)⟩
theorem bp_fault {a : Int32} (h : Bp P LW M tp u v) (hs : Same [] [] u u1) (e : x_X11_fault a u = some (r1, u1)) : ∃ r2 v1, f_fault a v = some (r2, v1) ∧ r1 = r2 ∧ Bp P LW M tp u1 v1 := by
  obtain ⟨r2, v1, f1, e2, hb⟩ := bo_fault h.1 hs e
  exact ⟨r2, v1, f1, e2, hb, h.2.fr hs (by decide) (by decide) ((fw_fault _).z v r2 v1 f1)⟩
theorem bp_fighter {a b : Int32} (h : Bp P LW M tp u v) (hs : Same [] [] u u1) (e : x_X11_fighter a b u = some (r1, u1)) : ∃ r2 v1, f_fighter a b v = some (r2, v1) ∧ r1 = r2 ∧ Bp P LW M tp u1 v1 := by
  obtain ⟨r2, v1, f1, e2, hb⟩ := bo_fighter h.1 hs e
  exact ⟨r2, v1, f1, e2, hb, h.2.fr hs (by decide) (by decide) ((fw_fighter _ _).z v r2 v1 f1)⟩
theorem bp_fight {a b d : Int32} (h : Bp P LW M tp u v) (hs : Same [] [] u u1) (e : x_X11_fight a b d u = some (r1, u1)) : ∃ r2 v1, f_fight a b d v = some (r2, v1) ∧ r1 = r2 ∧ Bp P LW M tp u1 v1 := by
  obtain ⟨r2, v1, f1, e2, hb⟩ := bo_fight h.1 hs e
  exact ⟨r2, v1, f1, e2, hb, h.2.fr hs (by decide) (by decide) ((fw_fight _ _ _).z v r2 v1 f1)⟩
theorem bp_mat {a b : Int32} (h : Bp P LW M tp u v) (hs : Same [] [] u u1) (e : x_X11_mat (fun u => (lnw P LW u).2.2) a b u = some (r1, u1)) : ∃ r2 v1, f_mat a b v = some (r2, v1) ∧ r1 = r2 ∧ Bp P LW M tp u1 v1 := by
  obtain ⟨r2, v1, f1, e2, hb⟩ := bo_mat h.1 hs e
  exact ⟨r2, v1, f1, e2, hb, h.2.fr hs (by decide) (by decide) ((fw_mat _ _).z v r2 v1 f1)⟩
theorem bp_count {a : Int32} (h : Bp P LW M tp u v) (h2 : u.1 2 = nI tp) (hs : Same [] [] u u1) (e : x_X11_count (fun u => (lnw P LW u).2.2) a u = some (r1, u1)) : ∃ r2 v1, f_count a v = some (r2, v1) ∧ r1 = r2 ∧ Bp P LW M tp u1 v1 := by
  obtain ⟨r2, v1, f1, e2, hb⟩ := bo_count h.1 h2 hs e
  exact ⟨r2, v1, f1, e2, hb, h.2.fr hs (by decide) (by decide) ((fw_count _).z v r2 v1 f1)⟩
theorem bp_about {a b : Int32} (h : Bp P LW M tp u v) (hs : Same [] [] u u1) : ∃ r2 v1, f_about a b v = some (r2, v1) ∧ Bp P LW M tp u1 v1 := by
  obtain ⟨r2, v1, f1, hb⟩ := bo_about (a := a) (b := b) h.1 hs
  exact ⟨r2, v1, f1, hb, h.2.fr hs (by decide) (by decide) ((fw_about _ _).z v r2 v1 f1)⟩
theorem bp_medalw {a b : Int32} (h : Bp P LW M tp u v) (hs : Same [] [19, 20] u u1) : ∃ r2 v1, f_medal a b v = some (r2, v1) ∧ Bp P LW M tp u1 v1 := by
  obtain ⟨r2, v1, f1, hb⟩ := bo_medalw (a := a) (b := b) h.1 hs
  exact ⟨r2, v1, f1, hb, h.2.fr hs (by decide) (by decide) ((fw_medal _ _).z v r2 v1 f1)⟩
theorem bp_plan {a b : Int32} (h : Bp P LW M tp u v) (hs : Same [17, 18, 19, 61, 62, 63, 64] [21, 22, 23, 24, 25, 26, 27, 28, 29] u u1) (e : x_X11_plan a b u = some (r1, u1)) : ∃ r2 v1, f_plan a b v = some (r2, v1) ∧ r1 = r2 ∧ Bp P LW M tp u1 v1 := by
  obtain ⟨r2, v1, e1, e2, h1⟩ := bo_plan h.1 hs e
  obtain ⟨⟨n, E, lg, s, p, q, ch, C, hX⟩, -⟩ := h.1
  obtain ⟨r3, v3, e3, -, q2⟩ := sim_plan hX e
  rw [e1] at e3
  cases e3
  exact ⟨r2, v1, e1, e2, h1, q2 h.2⟩
theorem bp_planned {a b d : Int32} (h : Bp P LW M tp u v) (hs : Same [] [] u u1) (e : x_X11_planned a b d u = some (r1, u1)) : ∃ r2 v1, f_planned a b d v = some (r2, v1) ∧ r1 = r2 ∧ Bp P LW M tp u1 v1 := by
  obtain ⟨⟨n, E, lg, s, p, q, ch, C, hX⟩, -⟩ := id h.1
  obtain ⟨r2, v1, f1, e2, hb⟩ := bo_rd h.1 hs (by decide) (by decide) (by decide) (by decide) (sim_planned hX h.2 e)
  exact ⟨r2, v1, f1, e2, hb, h.2.fr hs (by decide) (by decide) ((fw_planned _ _ _).z v r2 v1 f1)⟩
end
theorem bp_init {P : LwP} (hP : P.2.2 = L0c) : ∃ r w1, f_anew iu0 = some (r, w1) ∧ Bp P [] 0 0 u0c w1 := by
  obtain ⟨r, w1, f0, h⟩ := sm_init hP
  have h69 : w1.1.1 69 = 0 := (fw_anew iu0 r w1 f0).1 69 rfl
  have e1 : plM u0c = fl 148 (-1) (fun _ => 0) := rfl
  have e2 : plB u0c = fl 148 (-1) (fun _ => 0) := rfl
  refine ⟨r, w1, f0, h, ⟨Or.inl ⟨rfl, by decide⟩, Or.inl ⟨rfl, by decide⟩⟩, fun c i hc hi => ⟨fun _ => ?_, fun z => absurd h69 z⟩⟩
  rw [e1, e2]
  exact ⟨fl_v (by omega), fl_v (by omega)⟩

