/-! ===== medal() on both sides ===== -/
section
variable {P : LwP} {LW : List LwP} {N tp n E ch C : Nat} {u v : MS} {w : GS} {lg : Nat → En} {s : Nat → GS} {p q : Nat → Nat}
theorem sim_pool {c S k : Nat} {b r : Int32} (h : SmX P LW N tp u w n E lg s p q ch C) (hc : c < 4) (hP : Pol w c S) (hk : k = S * (S - 1) / 2) (e : x_X7_ofPool (nI c) b u = some (r, v)) : Rd (f_medal (nI c) b) w (fun r2 => r2 = r) := by
  have hRw := h.r0
  have hIw := h.1.inv
  have h13 := h.1.2.2.2.2.2.2.2.2.2.2
  have hrx := h.rx
  obtain ⟨⟨-, hNT⟩, ⟨-, wc, -, -⟩, -⟩ := hrx
  have hkn : Kn (u.2 0) c := kn_of h.inv h.rs hc
  have hD : Dr w c k := Or.inl ⟨S, hP, hk⟩
  have hnn := nFi_dr hRw hD
  have h37 := hD.n37
  obtain ⟨e6, e7, ez⟩ := (hRw.kz hc).1 S hP
  have hDs : Dr (s n) c (nFi (u.2 0) c) ∨ nFi (u.2 0) c = 0 := by
    by_cases h0 : nFi (u.2 0) c = 0
    · exact Or.inr h0
    · exact Or.inl (dr_of h.inv h.rs hc (i := 0) (by omega))
  obtain ⟨h96, -, s2, s5, -, y12, y13, -⟩ := id hP
  have hk10 : k ≤ 10 := by rw [hk]; exact n10 s5
  have hff : x_X0_fightsOf (nI c) u = some (nI k, u) := by
    have h9 := e_fightsOf (B := u.2 0) rfl hc hkn
    rw [hnn] at h9
    exact h9
  have hN := (hNT c hc).1
  have rows : ∀ i, i < k → u.2 13 (37 * c + i) = bWh (u.2 0) c i ∧ u.2 14 (37 * c + i) = bBl (u.2 0) c i ∧ u.2 15 (37 * c + i) = bWn (u.2 0) c i ∧ u.2 16 (37 * c + i) = bSt (u.2 0) c i := fun i hi => (h.bd c hc).rows hRw hD hi
  -- how many are done
  have hcnt : cb (fun j => decide (u.2 16 (37 * c + j) = 3)) k = cb (dn w c) k := by
    refine cb_congr k (fun j hj => ?_)
    obtain ⟨-, -, -, r4⟩ := rows j hj
    have hst := bSt_v hRw hN hD hj
    have hiff : u.2 16 (37 * c + j) = 3 ↔ w.1.2 15 (40 * c + j) = 2 := by
      rw [r4, hst, st3_iff]
      rcases hRw.mk hc (i := j) (by omega) with ⟨a, m⟩ | ⟨a, m⟩ | ⟨a, m, -⟩
      · rw [m, a.2]; decide
      · rw [m, a.2]; decide
      · rw [m, a.2]; decide
    unfold dn
    by_cases z : u.2 16 (37 * c + j) = 3
    · rw [decide_eq_true z, decide_eq_true (hiff.mp z)]
    · rw [decide_eq_false z, decide_eq_false (fun y => z (hiff.mpr y))]
  have hle := cb_le (P := dn w c) k
  unfold x_X7_ofPool at e
  have e := ncl_at (e_howMany (z := 3) hc (by omega) hff) e
  have e := ncl_at hff e
  rw [hcnt] at e
  -- the class's answer
  have hans : (cb (dn w c) k = k ∧ r = mres (u.2 0) c S k b S 0 ∧ MdR (u.2 0) c S k w) ∨ (¬ cb (dn w c) k = k ∧ r = -1) := by
    by_cases hf : cb (dn w c) k = k
    · refine Or.inl ⟨hf, ?_⟩
      have done : ∀ i, i < k → w.1.2 15 (40 * c + i) = 2 := fun i hi => of_decide_eq_true (cb_full k hf i hi)
      have m3 : ∀ i, i < k → mkF (u.2 0) c i = 3 := fun i hi => by
        rcases hRw.mk hc (i := i) (by omega) with ⟨a, m⟩ | ⟨a, m⟩ | ⟨a, m, -⟩
        · exact absurd (a.2.symm.trans (done i hi)) (by decide)
        · exact absurd (a.2.symm.trans (done i hi)) (by decide)
        · exact m
      have b3 : ∀ i, i < k → u.2 0 (fc c i) = 3 := fun i hi => (show mkF (u.2 0) c i = u.2 0 (fc c i) from if_pos (by omega)).symm.trans (m3 i hi)
      have wQ : ∀ i, i < k → bWh (u.2 0) c i = qA (u.2 0) c S i ∧ bBl (u.2 0) c i = qB (u.2 0) c S i := fun i hi => by
        unfold bWh bBl
        rw [if_pos e6, if_pos e6, ez]
        exact ⟨rfl, rfl⟩
      have ns : ∀ i, i < k → u.2 0 (fc c i + 1) = qA (u.2 0) c S i ∧ u.2 0 (fc c i + 2) = qB (u.2 0) c S i := fun i hi => by
        have z := (hNT c hc).2.1 i (by omega) (by omega) (by rw [m3 i hi]; decide)
        rw [(wQ i hi).1, (wQ i hi).2] at z
        exact z
      have w2 : W2 (u.2 0) c S k := fun i hi => by
        rcases wc c hc i (by omega) (b3 i hi) with z | z
        · exact Or.inl (z.trans (ns i hi).1)
        · exact Or.inr (z.trans (ns i hi).2)
      have win : ∀ i, i < k → ∃ f, f < 96 ∧ u.2 0 (fc c i + 3) = nI f := fun i hi => by
        obtain ⟨a, b2, -, -, ha, hb, ea, eb⟩ := mk_ge hIw hRw hc (i := i) (by omega) (by rw [m3 i hi]; decide)
        rcases wc c hc i (by omega) (b3 i hi) with z | z
        · exact ⟨a, ha, z.trans ea⟩
        · exact ⟨b2, hb, z.trans eb⟩
      have mem : ∀ p, p < S → ∃ f, f < 96 ∧ pl (u.2 0) c p = nI f ∧ Am w 7 f (u.2 0 (150 + 7 * f)) := fun p hp => by
        obtain ⟨f, hf9, z1, z2⟩ := plPT hRw hP hp
        exact ⟨f, hf9, z1, (hRw.2.2.1 f z2.1).2.2.1⟩
      have hMC : MdC (u.2 0) c S k u := ⟨rfl, hc, s5, hk10, e7, ⟨hkn, hnn⟩, fun i hi => by
        obtain ⟨r1, r2, r3, -⟩ := rows i hi
        refine ⟨r1.trans (wQ i hi).1, r2.trans (wQ i hi).2, r3.trans ?_, win i hi⟩
        unfold bWn wF wnF
        rw [if_pos e6, if_pos (m3 i hi), if_pos (by omega)], fun p hp => by
        obtain ⟨f, hf9, z1, -⟩ := mem p hp
        exact ⟨f, hf9, z1⟩⟩
      have hpl : ∀ p, p < S → Am w 14 (32 * c + p) (pl (u.2 0) c p) := fun p hp => by
        have z := ((hRw.2.1 c hc).2.2.2 (by rw [e6]; decide)).2 p (by omega) (by rw [e7]; exact nI_lt hp (by omega))
        unfold pl
        rw [if_pos (by omega)]
        exact z
      have hMR : MdR (u.2 0) c S k w := by
        refine ⟨hc, s2, s5, hk, hD, y13, hpl, fun i hi => ?_, fun i hi sd hsd => ?_, mem, fun p q hp hq z => ?_, w2⟩
        · rcases hRw.2.2.2.2.1 c hc i (by omega) with ⟨a, -⟩ | ⟨⟨a, -⟩ | ⟨-, -, d, -, f, -⟩, -⟩
          · rw [b3 i hi] at a; exact absurd a (by decide)
          · rw [b3 i hi] at a; exact absurd a (by decide)
          · exact ⟨d, f⟩
        · refine Rd.mono (sv_any hRw hN hD hi hsd 0) (fun x hx => ?_)
          rw [hx]
          unfold vS
          rw [if_pos e6, ez]
        · obtain ⟨f, hf9, z1, -⟩ := mem p hp
          have pt := (hNT c hc).2.2 e6
          rw [ez] at pt
          have g1 := pt p f hp hf9 z1
          have g2 := pt q f hq hf9 (z.symm.trans z1)
          exact (nI_eq (by omega) (by omega)).mp (g1.symm.trans g2)
      refine ⟨?_, hMR⟩
      rw [hf, if_pos (Int32.le_refl _)] at e
      obtain ⟨v2, q1, q2, q3⟩ := e_addUp hMC
      have e := ncl_at q1 e
      have h9 := e_ofPool_lp (k := b) (hMC.same q2) q3 S 0 fuel (by omega) (by unfold fuel; omega)
      have e2 : xl_X7_ofPool_29 fuel (nI c) b (nI 0) (fun _ _ _ => nrt (-1)) v2 = some (r, v) := e
      rw [h9] at e2
      cases e2
      rfl
    · refine Or.inr ⟨hf, ?_⟩
      rw [if_neg (fun z => hf (by have := (nI_leI (by omega) (by omega)).mp z; omega))] at e
      exact (nrt_at e).1
  have none : (b < 0 ∨ nI S ≤ b) → r = -1 := fun hb => by
    rcases hans with ⟨-, z, -⟩ | ⟨-, z⟩
    · rw [z]
      exact mres_no s5 hb S 0 (by omega)
    · exact z
  unfold f_medal
  refine Rd_clR (ok_isClass (nI c) w) (fun r1 hr => ?_)
  rcases hr with ⟨rfl, -⟩ | ⟨-, hr⟩
  rotate_left
  · exact absurd ⟨c, hc, rfl⟩ hr
  refine Rd_ite (fun z => absurd z (by decide)) (fun _ => ?_)
  refine Rd_rdN rfl hc (by decide) y12 (Rd_ite (fun z => absurd z (by decide)) (fun _ => Rd_ite (fun hb => ?_) (fun hb => Rd_rt (none (Or.inl (Int32.not_le.mp hb))).symm)))
  refine Rd_rdN rfl hc (by decide) y12 (Rd_ite (fun _ => ?_) (fun z => absurd rfl z))
  refine Rd_rdN rfl hc (by decide) y13 (Rd_ite (fun z => Rd_rt (none (Or.inr z)).symm) (fun _ => ?_))
  refine Rd_clR (ok_about hIw h13 (nI c) 5) (fun r1 hr => ?_)
  have hr2 := hr rfl c k hc rfl hD
  refine Rd_clR (ok_fights w c k hD) (fun r2 hr3 => ?_)
  subst hr3
  refine Rd_ite (fun z => ?_) (fun z => Rd_rt ?_)
  · rw [hr2] at z
    have z2 := (nI_eq (by omega) (by omega)).mp z
    rcases hans with ⟨-, y, hMR⟩ | ⟨y, -⟩
    · rw [y]
      refine Rd_clR (r_ordered hMR) (fun r3 hr3 => Rd_rt hr3)
    · exact absurd z2 y
  · rcases hans with ⟨y, -⟩ | ⟨-, y⟩
    · exact absurd (hr2.trans (by rw [y])) z
    · exact y.symm
theorem sim_medal {a b r : Int32} (h : SmX P LW N tp u w n E lg s p q ch C) (e : x_X11_medal a b u = some (r, v)) : Rd (f_medal a b) w (fun r2 => r2 = r) := by
  have hRw := h.r0
  have hIw := h.1.inv
  have hrx := h.rx
  obtain ⟨⟨-, hNT⟩, -⟩ := hrx
  unfold x_X11_medal at e
  rcases cls_cases a with ⟨e1, hno⟩ | ⟨e1, c, hc, rfl⟩
  · rw [e1] at e
    have e := ncl_at (a := 0) (v := u) rfl e
    rw [if_pos rfl] at e
    unfold f_medal
    refine Rd_clR (ok_isClass a w) (fun r1 hr => ?_)
    rcases hr with ⟨-, hr⟩ | ⟨rfl, -⟩
    · exact absurd hr hno
    · exact Rd_ite (fun _ => Rd_rt (nrt_at e).1.symm) (fun z => absurd rfl z)
  rw [e1] at e
  have e := ncl_at (a := 1) (v := u) rfl e
  rw [if_neg (by decide)] at e
  have e := ncl_at (e_kindOf hc) e
  rcases (hIw.1.2.2.2.1 c hc).2.2.1 with z | ⟨n2, z⟩
  · have k0 : u.2 0 (6 + 36 * c) = 0 := (hRw.kd hc).inj z
    rw [k0, if_neg (by decide), if_neg (by decide)] at e
    unfold f_medal
    refine Rd_clR (ok_isClass (nI c) w) (fun r1 hr => ?_)
    rcases hr with ⟨rfl, -⟩ | ⟨-, hr⟩
    rotate_left
    · exact absurd ⟨c, hc, rfl⟩ hr
    refine Rd_ite (fun z => absurd z (by decide)) (fun _ => ?_)
    exact Rd_rdN rfl hc (by decide) z (Rd_ite (fun _ => Rd_rt (nrt_at e).1.symm) (fun z => absurd rfl z))
  · rcases hIw.1.dr z with ⟨S, hP, hS⟩ | ⟨L, hT, hL⟩
    · obtain ⟨e6, -, -⟩ := (hRw.kz hc).1 S hP
      rw [e6, if_pos rfl] at e
      obtain ⟨r3, v3, e3, e4⟩ := ncl_some e
      have q3 := (nrt_at e4).1
      subst q3
      exact sim_pool h hc hP hS e3
    · obtain ⟨e6, e7, ez⟩ := (hRw.kz hc).2 L hT
      have hD : Dr w c n2 := Or.inr ⟨L, hT, hL⟩
      have h37 := hD.n37
      rw [e6, if_neg (by decide), if_pos rfl] at e
      have h8 : 8 ≤ 2 ^ L := by
        have hL3 := hT.2.2.1
        have hL5 := hT.2.2.2.1
        rcases (by omega : L = 3 ∨ L = 4 ∨ L = 5) with rfl | rfl | rfl <;> decide
      have h32 := pow_lt32 hT.2.2.2.1
      have hf := e_fightsOf (B := u.2 0) rfl hc (kn_of h.inv h.rs hc)
      rw [nFi_dr hRw hD, hL, show 2 ^ L - 1 + 2 * (L - 2) = 2 ^ L - 2 + 1 + 2 * (L - 2) by omega] at hf
      have h9 := e_ofTree (u := u) (c := c) (last := 2 ^ L - 2) (st := L - 2) (b := b) hc (by omega) (by rw [e7]; exact nI_sub (b := 2) (by omega)) hf
      have e := ncl_at h9 e
      have q3 := (nrt_at e).1
      rw [q3]
      exact r_medalT hRw (hNT c hc).1 rfl (h.bd c hc) hT
end
theorem bo_medal {P : LwP} {LW : List LwP} {M tp : Nat} {u u1 : MS} {v : GS} {r1 a b : Int32} (h : Bo P LW M tp u v) (hs : Same [] [19, 20] u u1) (e : x_X11_medal a b u = some (r1, u1)) : ∃ r2 v1, f_medal a b v = some (r2, v1) ∧ r1 = r2 ∧ Bo P LW M tp u1 v1 := by
  obtain ⟨n, E, lg, s, p, q, ch, C, hX⟩ := h.1
  exact bo_rd h hs (by decide) (by decide) (by decide) (by decide) (sim_medal hX e)

