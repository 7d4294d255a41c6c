/-! ===== enter ===== -/
theorem Am.sw {w : GS} {k j k2 i : Nat} {x z : Int32} (hi : i < 2 ^ 31) (h : Am w k j z) (hn : ¬ (k = k2 ∧ j = i)) : Am (swd k2 (nI i) x w) k j z := by
  by_cases hk : k = k2
  · subst hk
    exact sw_An hi (fun q => hn ⟨rfl, q⟩) h
  · unfold Am at h ⊢
    rw [(sw_o hk).1, (sw_o hk).2]
    exact h
def cmW (F c k : Nat) (w : GS) : GS := swd 11 (nI F) (-1) (swd 10 (nI F) (-1) (swd 9 (nI F) 0 (swd 8 (nI F) 0 (swd 7 (nI F) (-1) (swd 5 (nI F) (nI c) (swd 6 (nI F) (nI k) (swf 2 (nI (F + 1)) w)))))))
def cmB (F c k : Nat) (B : Nat → Int32) : Nat → Int32 := upd (upd (upd (upd (upd (upd B 2 (nI (F + 1))) (148 + 7 * F) (nI c)) (149 + 7 * F) (nI k)) (150 + 7 * F) (-1)) (153 + 7 * F) (-1)) (154 + 7 * F) (-1)
theorem R0.come {B : Nat → Int32} {w : GS} {F c k : Nat} (h : R0 B w) (hF : B 2 = nI F) (h96 : F < 96) : R0 (cmB F c k B) (cmW F c k w) := by
  have hnF : nF w = F := by
    unfold nF
    rw [h.nf, hF, nI_clamp (by omega)]
  have hB : ∀ j, ¬ j = 2 → (j < 148 + 7 * F ∨ 155 + 7 * F ≤ j ∨ j = 151 + 7 * F ∨ j = 152 + 7 * F) → cmB F c k B j = B j := fun j h1 h2 => by
    unfold cmB
    rw [upd_n (by omega), upd_n (by omega), upd_n (by omega), upd_n (by omega), upd_n (by omega), upd_n h1]
  have b2 : cmB F c k B 2 = nI (F + 1) := by
    unfold cmB
    rw [upd_n (by omega), upd_n (by omega), upd_n (by omega), upd_n (by omega), upd_n (by omega), upd_e]
  have am : ∀ {k2 j z}, ¬ (5 ≤ k2 ∧ k2 ≤ 11 ∧ j = F) → Am w k2 j z → Am (cmW F c k w) k2 j z := fun h1 q =>
    ((((((Am.sw (w := swf 2 (nI (F + 1)) w) (by omega) q (by omega)).sw (by omega) (by omega)).sw (by omega) (by omega)).sw (by omega) (by omega)).sw (by omega) (by omega)).sw (by omega) (by omega)).sw (by omega) (by omega)
  have i20 : Im (swf 2 (nI (F + 1)) w) 2 (nI (F + 1)) := swf_e
  have i2 : Im (cmW F c k w) 2 (nI (F + 1)) := ⟨i20.1, i20.2⟩
  have io : ∀ {j z}, ¬ j = 2 → Im w j z → Im (cmW F c k w) j z := fun h1 q => ⟨(swf_o (w := w) (x := nI (F + 1)) h1).2.trans q.1, (swf_o (w := w) (x := nI (F + 1)) h1).1.trans q.2⟩
  have hn2 : nF (cmW F c k w) = F + 1 := by
    unfold nF
    rw [i2.2, nI_clamp (by omega)]
  obtain ⟨⟨-, i3, i4⟩, hC, hFt, hN, hR, hM⟩ := h
  refine ⟨⟨?_, ?_, ?_⟩, fun d hd => ?_, fun g hg => ?_, fun g h1 h2 => ?_, fun d hd i hi => ?_, fun m hm => ?_⟩
  · rw [b2]; exact i2
  · rw [hB _ (by omega) (by omega)]; exact io (by decide) i3
  · rw [hB _ (by omega) (by omega)]; exact io (by decide) i4
  · have z := hC d hd
    unfold rC at z ⊢
    rw [hB _ (by omega) (by omega), hB _ (by omega) (by omega), hB _ (by omega) (by omega), hB _ (by omega) (by omega)]
    exact ⟨am (by omega) z.1, am (by omega) z.2.1, am (by omega) z.2.2.1, fun q => ⟨am (by omega) (z.2.2.2 q).1, fun p h1 h2 => by rw [hB _ (by omega) (by omega)]; exact am (by omega) ((z.2.2.2 q).2 p h1 h2)⟩⟩
  · rw [hn2] at hg
    by_cases hgF : g = F
    · subst hgF
      obtain ⟨n3, n4⟩ := hN g (by omega) h96
      have s5 : Am (cmW g c k w) 5 g (nI c) := (((((sw_A (w := swd 6 (nI g) (nI k) (swf 2 (nI (g + 1)) w)) (by omega)).sw (by omega) (by omega)).sw (by omega) (by omega)).sw (by omega) (by omega)).sw (by omega) (by omega)).sw (by omega) (by omega)
      have s6 : Am (cmW g c k w) 6 g (nI k) := ((((((sw_A (w := swf 2 (nI (g + 1)) w) (by omega)).sw (by omega) (by omega)).sw (by omega) (by omega)).sw (by omega) (by omega)).sw (by omega) (by omega)).sw (by omega) (by omega)).sw (by omega) (by omega)
      have s7 : Am (cmW g c k w) 7 g (-1) := ((((sw_A (by omega)).sw (by omega) (by omega)).sw (by omega) (by omega)).sw (by omega) (by omega)).sw (by omega) (by omega)
      have s8 : Am (cmW g c k w) 8 g 0 := (((sw_A (by omega)).sw (by omega) (by omega)).sw (by omega) (by omega)).sw (by omega) (by omega)
      have s9 : Am (cmW g c k w) 9 g 0 := ((sw_A (by omega)).sw (by omega) (by omega)).sw (by omega) (by omega)
      have s10 : Am (cmW g c k w) 10 g (-1) := (sw_A (by omega)).sw (by omega) (by omega)
      have s11 : Am (cmW g c k w) 11 g (-1) := sw_A (by omega)
      have c0 : cmB g c k B (148 + 7 * g) = nI c := by
        unfold cmB
        rw [upd_n (by omega), upd_n (by omega), upd_n (by omega), upd_n (by omega), upd_e]
      have c1 : cmB g c k B (149 + 7 * g) = nI k := by
        unfold cmB
        rw [upd_n (by omega), upd_n (by omega), upd_n (by omega), upd_e]
      have c2 : cmB g c k B (150 + 7 * g) = -1 := by
        unfold cmB
        rw [upd_n (by omega), upd_n (by omega), upd_e]
      have c5 : cmB g c k B (153 + 7 * g) = -1 := by
        unfold cmB
        rw [upd_n (by omega), upd_e]
      have c6 : cmB g c k B (154 + 7 * g) = -1 := by
        unfold cmB
        rw [upd_e]
      unfold rF
      rw [c0, c1, c2, c5, c6, hB _ (by omega) (by omega), hB _ (by omega) (by omega), n3, n4]
      exact ⟨s5, s6, s7, s8, s9, s10, s11⟩
    · refine rF_all.mpr (fun k2 hk2 => ?_)
      have z := rF_all.mp (hFt g (by omega)) k2 hk2
      rw [hB _ (by omega) (by omega)]
      exact am (by omega) z
  · rw [hn2] at h1
    have z := hN g (by omega) h2
    unfold rN at z ⊢
    rw [hB _ (by omega) (by omega), hB _ (by omega) (by omega)]
    exact z
  · have q : ∀ j, cmB F c k B (fc d i + j) = B (fc d i + j) := fun j => hB _ (by unfold fc; omega) (by unfold fc; omega)
    have q0 : cmB F c k B (fc d i) = B (fc d i) := q 0
    rcases hR d hd i hi with ⟨a, b⟩ | ⟨⟨a, b, m, d2, e, f2⟩ | ⟨a, b, d2, e, f2, g⟩, y2, z⟩
    · exact Or.inl ⟨q0.trans a, am (by omega) b⟩
    · refine Or.inr ⟨Or.inl ⟨q0.trans a, am (by omega) b, m, d2, (q 7).trans e, am (by omega) f2⟩, ?_, ?_⟩
      · rw [q 1]; exact am (by omega) y2
      · rw [q 2]; exact am (by omega) z
    · refine Or.inr ⟨Or.inr ⟨q0.trans a, am (by omega) b, ?_, ?_, ?_, ?_⟩, ?_, ?_⟩
      · rw [q 3]; exact am (by omega) d2
      · rw [q 4]; exact am (by omega) e
      · rw [q 5]; exact am (by omega) f2
      · rw [q 6]; exact am (by omega) g
      · rw [q 1]; exact am (by omega) y2
      · rw [q 2]; exact am (by omega) z
  · have q : ∀ j, cmB F c k B (mc0 m + j) = B (mc0 m + j) := fun j => hB _ (by unfold mc0; omega) (by unfold mc0; omega)
    have q0 : cmB F c k B (mc0 m) = B (mc0 m) := q 0
    rcases hM m hm with ⟨a, b⟩ | ⟨d, i, a, b, d2, e, f2, g, k3, l, n⟩
    · exact Or.inl ⟨(q 1).trans a, am (by omega) b⟩
    · refine Or.inr ⟨d, i, a, b, q0.trans d2, (q 1).trans e, am (by omega) f2, ?_, ?_, ?_, fun j hj => ?_⟩
      · rw [q 2]; exact am (by omega) g
      · rw [q 3]; exact am (by omega) k3
      · rw [q 4]; exact am (by omega) l
      · have e9 : mc0 m + 5 + j = mc0 m + (5 + j) := by omega
        rw [e9, q (5 + j), ← e9]
        exact am (by omega) (n j hj)
theorem sim_enter {P : LwP} {LW : List LwP} {N tp n E ch C : Nat} {u v : MS} {w : GS} {lg : Nat → En} {s : Nat → GS} {p q : Nat → Nat} {a b r : Int32} {c1 d1 : Nat} (h : SmX P LW N tp u w n E lg s p q ch C) (hN : N ≤ 24000) (e : x_X11_enter a b u = some (r, v, c1, d1)) : Ok (f_enter a b) w (fun r2 w2 => r2 = r ∧ SmE P LW N tp v w2) := by
  have hn := h.le
  have h1 := h.2.1
  have hK := h.2.2.1
  have hRw := h.r0
  have hRs := h.rs
  have hI := h.inv
  have h0 : SmE P LW N tp u w := h.e
  obtain ⟨F, h96, hF, hnF⟩ := hRs.ppl hI
  have e16 : (16 : Int32).toInt = 16 := by decide
  have hcl : CQ (x_X11_enter a b) u (fun r v => (r = -2 ∧ v = u ∧ ¬ ((0 ≤ a.toInt ∧ a.toInt ≤ 15) ∧ ∃ c, c < 4 ∧ b = nI c)) ∨ (∃ k c, k < 16 ∧ c < 4 ∧ a = nI k ∧ b = nI c ∧ ((r = -3 ∧ v = u ∧ ¬ u.2 0 (6 + 36 * c) = 0) ∨ (u.2 0 (6 + 36 * c) = 0 ∧ ((F = 96 ∧ r = -4 ∧ v = u) ∨ (F < 96 ∧ ((n = 500 ∧ r = -4 ∧ v = u) ∨ (n < 500 ∧ r = nI F ∧ Ent u v n ch ∧ v.2 0 = cmB F c k (u.2 0))))))))) := by
    unfold x_X11_enter
    refine CQ_ite (fun z => CQ_rt (Or.inl ⟨rfl, rfl, fun y => ?_⟩)) (fun z => CQ_ite (fun z2 => CQ_rt (Or.inl ⟨rfl, rfl, fun y => ?_⟩)) (fun z2 => ?_))
    · rw [Int32.lt_iff_toInt_lt, i32_0] at z
      omega
    · rw [Int32.le_iff_toInt_le] at z2
      omega
    · obtain ⟨k, hk31, rfl⟩ := nI_of z
      have hk : k < 16 := Nat.not_le.mp (fun y => z2 (nI_le (a := 16) y hk31))
      rcases cls_cases b with ⟨e1, hno⟩ | ⟨e1, c, hc, rfl⟩
      · rw [e1]
        exact CQ_rd (a := 0) rfl (CQ_ite (fun _ => CQ_rt (Or.inl ⟨rfl, rfl, fun y => hno y.2⟩)) (fun z => absurd rfl z))
      rw [e1]
      refine CQ_rd (a := 1) rfl (CQ_ite (fun z => absurd z (by decide)) (fun _ => CQ_rd (e_isDrawn hc) ?_))
      by_cases hkd : u.2 0 (6 + 36 * c) = 0
      · rw [if_pos hkd]
        refine CQ_ite (fun _ => CQ_rd e_people ?_) (fun z => absurd rfl z)
        rw [hF]
        refine CQ_ite (fun z9 => CQ_rt (Or.inr ⟨k, c, hk, hc, rfl, rfl, Or.inr ⟨hkd, Or.inl ⟨?_, rfl, rfl⟩⟩⟩)) (fun z9 => ?_)
        · have := (nI_leI (a := 96) (b := F) (by decide) (by omega)).mp z9
          omega
        · have hlt : F < 96 := Nat.not_le.mp (fun y => z9 (nI_le (a := 96) y (by omega)))
          refine CQ_full h1 hn (fun h5 => ?_) (fun h5 => Or.inr ⟨k, c, hk, hc, rfl, rfl, Or.inr ⟨hkd, Or.inr ⟨hlt, Or.inl ⟨h5, rfl, rfl⟩⟩⟩⟩)
          refine CQ_open hK h5 h1 (fun _ v1 hE hK1 hB1 _ => CQ_cl ?_)
          refine CQ.mono (?_ : CQ (x_X8_add (nI k) (nI c)) v1 (fun q v => q = nI F ∧ Ent u v n ch ∧ v.2 0 = cmB F c k (u.2 0))) (fun q v y => CQ_rt (Or.inr ⟨k, c, hk, hc, rfl, rfl, Or.inr ⟨hkd, Or.inr ⟨hlt, Or.inr ⟨h5, y.1, y.2.1, y.2.2⟩⟩⟩⟩))
          unfold x_X8_add
          refine CQ_rd e_people ?_
          rw [hB1, hF, nI_1]
          refine CQ_put hK1 (fun _ v2 s2 b2 S2 => ?_)
          obtain ⟨k2, K2, hK2⟩ := s2.kl
          rw [e_ofFighter F 0 (show (0 : Int32) = nI 0 from rfl)]
          refine CQ_rd (a := nI (148 + 7 * F + 0)) rfl (CQ_put hK2 (fun _ v3 s3 b3 S3 => ?_))
          obtain ⟨k3, K3, hK3⟩ := s3.kl
          rw [e_ofFighter F 1 (show (1 : Int32) = nI 1 from rfl)]
          refine CQ_rd (a := nI (148 + 7 * F + 1)) rfl (CQ_put hK3 (fun _ v4 s4 b4 S4 => ?_))
          obtain ⟨k4, K4, hK4⟩ := s4.kl
          rw [e_ofFighter F 2 (show (2 : Int32) = nI 2 from rfl)]
          refine CQ_rd (a := nI (148 + 7 * F + 2)) rfl (CQ_put hK4 (fun _ v5 s5 b5 S5 => ?_))
          obtain ⟨k5, K5, hK5⟩ := s5.kl
          rw [e_ofFighter F 5 (show (5 : Int32) = nI 5 from rfl)]
          refine CQ_rd (a := nI (148 + 7 * F + 5)) rfl (CQ_put hK5 (fun _ v6 s6 b6 S6 => ?_))
          obtain ⟨k6, K6, hK6⟩ := s6.kl
          rw [e_ofFighter F 6 (show (6 : Int32) = nI 6 from rfl)]
          refine CQ_rd (a := nI (148 + 7 * F + 6)) rfl (CQ_put hK6 (fun _ v7 s7 b7 S7 => CQ_rt ⟨rfl, (((((hE.put s2 S2).put s3 S3).put s4 S4).put s5 S5).put s6 S6).put s7 S7, ?_⟩))
          have q1 : 148 + 7 * F + 1 = 149 + 7 * F := by omega
          have q2 : 148 + 7 * F + 2 = 150 + 7 * F := by omega
          have q5 : 148 + 7 * F + 5 = 153 + 7 * F := by omega
          have q6 : 148 + 7 * F + 6 = 154 + 7 * F := by omega
          have q2' : rs (v1.2 0) 2088 2 (nI (F + 1)) = upd (v1.2 0) 2 (nI (F + 1)) := wrB (j := 2) _ _ (by decide)
          rw [b7, b6, b5, b4, b3, b2, q2', wrB _ _ (by omega), wrB _ _ (by omega), wrB _ _ (by omega), wrB _ _ (by omega), wrB _ _ (by omega), q1, q2, q5, q6, hB1]
          rfl
      · rw [if_neg hkd]
        exact CQ_ite (fun z => absurd z (by decide)) (fun _ => CQ_rt (Or.inr ⟨k, c, hk, hc, rfl, rfl, Or.inl ⟨rfl, rfl, hkd⟩⟩))
  have hc := hcl r v c1 d1 e
  have g9 : (15 : Int64).toInt = 15 := by decide
  have g8 : (0 : Int64).toInt = 0 := by decide
  unfold f_enter
  refine Ok_clR (ok_in _ _ _ w) (fun q hq => ?_)
  rw [Int32.toInt_toInt64, g9, g8] at hq
  rcases hq with ⟨rfl, hq⟩ | ⟨rfl, hq⟩
  · refine Ok_ite (fun z => absurd z (by decide)) (fun _ => Ok_clR (ok_isClass b w) (fun q hq2 => ?_))
    rcases hq2 with ⟨rfl, c, hc4, rfl⟩ | ⟨rfl, hq2⟩
    · refine Ok_ite (fun z => absurd z (by decide)) (fun _ => ?_)
      rcases hc with ⟨-, -, z⟩ | ⟨k, c2, hk, hc2, rfl, ec, z⟩
      · exact absurd ⟨hq, c, hc4, rfl⟩ z
      have ecc : c2 = c := ((nI_eq (by omega) (by omega)).mp ec).symm
      subst ecc
      refine Ok_rdN rfl hc4 (by decide) (hRw.kd hc4) (Ok_ite (fun hkd => Ok_rfN hRw.1.1 ?_) (fun hkd => Ok_rt ?_))
      · rw [hF]
        rcases z with ⟨-, -, z3⟩ | ⟨-, z⟩
        · exact absurd hkd z3
        refine Ok_ite (fun y => Ok_rt ?_) (fun y => ?_)
        · have e96 : F = 96 := (nI_eq (a := F) (b := 96) (by omega) (by decide)).mp y
          rcases z with ⟨-, z1, z2⟩ | ⟨z, -⟩
          · subst z2
            exact ⟨z1.symm, h0⟩
          · omega
        · have e96 : ¬ F = 96 := fun q => y (by rw [q]; rfl)
          rcases z with ⟨z, -⟩ | ⟨hlt, z⟩
          · exact absurd z e96
          have hd : f_does 2 (nI k) (nI c2) 0 (s n) = some (nI F, cmW F c2 k (s n)) := by
            rw [does_2]
            have hok : Ok (pcl (f_comes (nI k) (nI c2)) (fun r_13 => prt r_13)) (s n) (fun r v => r = nI F ∧ v = cmW F c2 k (s n)) := by
              refine Ok_cl ?_
              unfold f_comes
              have i2 : Im (s n) 2 (nI F) := by
                rw [← hF]
                exact hRs.1.1
              refine Ok_rfN i2 (Ok_rfN i2 ?_)
              rw [nI_1]
              exact Ok_wf (Ok_wdN rfl (by omega) (by decide) (Ok_wdN rfl (by omega) (by decide) (Ok_wdN rfl (by omega) (by decide) (Ok_wdN rfl (by omega) (by decide) (Ok_wdN rfl (by omega) (by decide) (Ok_wdN rfl (by omega) (by decide) (Ok_wdN rfl (by omega) (by decide) (Ok_rt (Ok_rt ⟨rfl, rfl⟩)))))))))
            obtain ⟨r1, w1, q1, q2⟩ := hok
            rw [q1, q2.1, q2.2]
          have hlf : LFr (s n) (cmW F c2 k (s n)) := by
            unfold cmW
            exact ((((((((LFr.rf _).wf (by decide) _).wd (by decide) _ _).wd (by decide) _ _).wd (by decide) _ _).wd (by decide) _ _).wd (by decide) _ _).wd (by decide) _ _).wd (by decide) _ _
          have hqd : Qd (u.2 0) (cmB F c2 k (u.2 0)) (nF (s n)) := by
            have up : ∀ {B2 : Nat → Int32} (k : Nat) (x : Int32), k < 7 → (k = 6 → x = -1) → Qd (u.2 0) B2 (nF (s n)) → Qd (u.2 0) (upd B2 (148 + 7 * F + k) x) (nF (s n)) := fun k x hk hx z => z.up x ⟨fun y => absurd y (by omega), fun y => absurd y (by omega), fun f hf y => hx (by omega)⟩ (Or.inr (Or.inr ⟨F, k, by omega, hk, rfl, fun _ => by omega⟩))
            have e1 : 149 + 7 * F = 148 + 7 * F + 1 := by omega
            have e2 : 150 + 7 * F = 148 + 7 * F + 2 := by omega
            have e5 : 153 + 7 * F = 148 + 7 * F + 5 := by omega
            have e6 : 154 + 7 * F = 148 + 7 * F + 6 := by omega
            unfold cmB
            rw [e1, e2, e5, e6]
            exact up 6 _ (by decide) (fun _ => rfl) (up 5 _ (by decide) (fun y => absurd y (by decide)) (up 2 _ (by decide) (fun y => absurd y (by decide)) (up 1 _ (by decide) (fun y => absurd y (by decide)) (up 0 _ (by decide) (fun y => absurd y (by decide)) ((Qd.rf _ _).up _ ⟨fun z => absurd z (by decide), fun z => absurd z (by decide), fun f hf z => absurd z (by omega)⟩ (Or.inl (by decide)))))))
          have hIv : Inv (cmW F c2 k (s n)) := by
            obtain ⟨r9, w9, q9, q8⟩ := Ok_cl (c := fun r => prt r) (Ok.mono (ok_comes hI k c2 (by omega) hc4 (by omega)) (fun r v z => Ok_rt (x := r) (Q := fun _ v => Inv v) z))
            rw [does_2] at hd
            rw [hd] at q9
            cases q9
            exact q8
          refine sim_finQ h hN (by decide) hd hIv hlf ?_
          rcases z with z4 | ⟨z4, z5, z6, z7⟩
          · exact Or.inl z4
          · refine Or.inr ⟨z4, z5, z6, ?_, by rw [z7]; exact hqd⟩
            rw [z7]
            exact hRs.come hF hlt
      · rcases z with ⟨z1, z2, -⟩ | ⟨z1, -⟩
        · subst z2
          exact ⟨z1.symm, h0⟩
        · exact absurd z1 hkd
    · refine Ok_ite (fun _ => Ok_rt ?_) (fun z => absurd rfl z)
      rcases hc with ⟨z1, z2, -⟩ | ⟨k, c, -, hc4, -, ec, -⟩
      · subst z2
        exact ⟨z1.symm, h0⟩
      · exact absurd ⟨c, hc4, ec⟩ hq2
  · refine Ok_ite (fun _ => Ok_rt ?_) (fun z => absurd rfl z)
    rcases hc with ⟨z1, z2, -⟩ | ⟨k, c, hk, -, rfl, -⟩
    · subst z2
      exact ⟨z1.symm, h0⟩
    · refine absurd ?_ hq
      rw [nI_toInt (by omega)]
      omega

