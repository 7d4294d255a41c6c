/-! ===== end, feed ===== -/
theorem live_w42 {N tp n E k : Nat} {lg : Nat → En} {s : Nat → GS} {w : GS} (h : LiveX N tp n E lg s w) (hk : k ≤ tp) : LiveX N k n E lg s (swf 42 (nI k) w) := by
  obtain ⟨h1, h2, h3, h4, h5, h6, h7, h8, h9, h10, h11⟩ := h
  exact ⟨h1, (swf_o (by decide)).1.trans h2, (swf_o (by decide)).1.trans h3, (swf_e (k := 42)).2, by omega, by omega, h7, h8.wfU rfl _, h9, h10, h11⟩
theorem live_byte {N tp n E : Nat} {lg : Nat → En} {s : Nat → GS} {w : GS} (h : LiveX N tp n E lg s w) (htp : tp < 3000) (i x : Int32) : LiveX (N + 1) (tp + 1) n E lg s (swf 42 (nI (tp + 1)) (swd 40 i x w)) := by
  obtain ⟨h1, h2, h3, h4, h5, h6, h7, h8, h9, h10, h11⟩ := h
  have e54 := sw_o (w := w) (k := 40) (i := i) (v := x) (k2 := 54) (by decide)
  have e52 := sw_o (w := w) (k := 40) (i := i) (v := x) (k2 := 52) (by decide)
  have e13 := sw_o (w := w) (k := 40) (i := i) (v := x) (k2 := 13) (by decide)
  refine ⟨h1, (swf_o (w := swd 40 i x w) (by decide)).1.trans h2, (swf_o (w := swd 40 i x w) (by decide)).1.trans h3, (swf_e (w := swd 40 i x w) (k := 42)).2, by omega, by omega, ?_, (h8.wdU rfl _ _).wfU rfl _, fun k hk => ?_, fun j hj => ?_, fun c hc => ?_⟩
  · show Rp E lg ((swd 40 i x w).1.2 54) n s
    rw [e54.1]; exact h7
  · show (swd 40 i x w).1.2 52 (4 * k) = _ ∧ (swd 40 i x w).1.2 52 (4 * k + 1) = _ ∧ (swd 40 i x w).1.2 52 (4 * k + 2) = _ ∧ (swd 40 i x w).1.2 52 (4 * k + 3) = _
    rw [e52.1]; exact h9 k hk
  · show (swd 40 i x w).2.2 54 j = true
    rw [e54.2]; exact h10 j hj
  · show (swd 40 i x w).2.2 13 c = true
    rw [e13.2]; exact h11 c hc
theorem ok_lay_lp (a : Int32) {n E : Nat} {lg : Nat → En} {s : Nat → GS} : ∀ (t m N tp : Nat) (w : GS), t < m → t ≤ 4 → tp + t ≤ 3000 → LiveX N tp n E lg s w → Ok (lp_lay_3 m a (nI (8 * t) - 8) (fun v1 v2 => prt 0)) w (fun _ v => LiveX (N + t) (tp + t) n E lg s v) := by
  intro t
  induction t with
  | zero =>
    intro m N tp w hm h4 ht h
    cases m with
    | zero => omega
    | succ m =>
      unfold lp_lay_3
      exact Ok_ite (fun _ => Ok_rt h) (fun z => absurd (by decide) z)
  | succ t ih =>
    intro m N tp w hm h4 ht h
    cases m with
    | zero => omega
    | succ m =>
      have e8 : nI (8 * (t + 1)) - 8 = nI (8 * t) := nI_sub (b := 8) (by omega)
      have e42 : w.1.1 42 = nI tp := h.2.2.2.1
      unfold lp_lay_3
      rw [e8]
      refine Ok_ite (fun z => absurd z (nI_nn (by omega))) (fun _ => Ok_uf' (fun x hx => ?_))
      have ex : x = nI tp := hx.symm.trans e42
      subst ex
      refine Ok_wdN rfl (by omega) (by decide) (Ok_uf' (fun x hx => ?_))
      have ex : x = nI tp := hx.symm.trans e42
      subst ex
      rw [nI_1]
      refine Ok_wf (Ok_li ?_)
      have e9 : nI (8 * t) + -8 = nI (8 * t) - 8 := (Int32.sub_eq_add_neg _ _).symm
      rw [e9]
      have h9 := ih m (N + 1) (tp + 1) _ (by omega) (by omega) (by omega) (live_byte h (by omega) (nI tp) (vp_nar .byte ((a >>> (nI (8 * t) &&& 31)).toInt8.toInt32)))
      refine Ok.mono h9 (fun _ v z => ?_)
      have e1 : N + 1 + t = N + (t + 1) := by omega
      have e2 : tp + 1 + t = tp + (t + 1) := by omega
      rw [e1, e2] at z
      exact z
theorem ok_lay (a : Int32) {n E N tp : Nat} {lg : Nat → En} {s : Nat → GS} {w : GS} (ht : tp + 4 ≤ 3000) (h : LiveX N tp n E lg s w) : Ok (f_lay a) w (fun _ v => LiveX (N + 4) (tp + 4) n E lg s v) := ok_lay_lp a 4 fuel N tp w (by unfold fuel; omega) (by omega) ht h
/-! ===== mat, about ===== -/
theorem i64a9 : ∀ g < 9, ((9 : Int64) + (nI g).toInt64).toInt = 9 + (g : Int) := by decide +kernel
theorem i64a19 : ∀ g < 9, ((19 : Int64) + (nI g).toInt64).toInt = 19 + (g : Int) := by decide +kernel
theorem i64a99 : ∀ g < 33, ((99 : Int64) + (nI g).toInt64).toInt = 99 + (g : Int) := by decide +kernel
/-- how many of the first k fights are done -/
def dn (w : GS) (c : Nat) (i : Nat) : Bool := decide (w.1.2 15 (40 * c + i) = 2)
theorem ok_about5 {w : GS} {c n : Nat} (hc : c < 4) (hK : Kd w c n) (h13 : w.2.2 13 c = true) (m15 : ∀ i, i < 40 → w.2.2 15 (40 * c + i) = true) (a : Int32) : Rd (lp_about_185 fuel (nI c) a 0 0 (fun v1 v2 v3 v4 => prt v3)) w (fun r => r = nI (cb (dn w c) n)) := by
  have hn := hK.n37
  have hlp : ∀ (t i m : Nat), i + t = n → t < m → Rd (lp_about_185 m (nI c) a (nI (cb (dn w c) i)) (nI i) (fun v1 v2 v3 v4 => prt v3)) w (fun r => r = nI (cb (dn w c) n)) := by
    intro t
    induction t with
    | zero =>
      intro i m h1 h2
      cases m with
      | zero => omega
      | succ m =>
        have : i = n := by omega
        subst this
        unfold lp_about_185
        refine Rd_clR (ok_fightsK w c i hc hK h13) (fun r hr => ?_)
        subst hr
        exact Rd_ite (fun _ => Rd_eq rfl) (fun z => absurd (Int32.le_refl _) z)
    | succ t ih =>
      intro i m h1 h2
      cases m with
      | zero => omega
      | succ m =>
        unfold lp_about_185
        refine Rd_clR (ok_fightsK w c n hc hK h13) (fun r hr => ?_)
        subst hr
        refine Rd_ite (fun z => absurd z (nI_ge (by omega) (by omega))) (fun _ => Rd_rdN (ix40 c i) (by omega) (by decide) (Am.val (m15 i (by omega))) (Rd_ite (fun z => Rd_li (Rd_li ?_)) (fun z => Rd_li (Rd_li ?_))))
        · have e := cb_t (P := dn w c) (k := i) (decide_eq_true z)
          rw [nI_1, nI_1, ← e]
          exact ih (i + 1) m (by omega) (by omega)
        · have e := cb_f (P := dn w c) (k := i) (by unfold dn; rw [decide_eq_false z]; decide)
          rw [nI_1, Int32.add_zero, ← e]
          exact ih (i + 1) m (by omega) (by omega)
  have h9 := hlp n 0 fuel (by omega) (by unfold fuel; omega)
  exact h9
theorem ok_about0 {w : GS} (hI : Inv w) (c : Nat) (a : Int32) : Rd (lp_about_107 fuel (nI c) a 0 0 (fun v1 v2 v3 v4 => prt v3)) w (fun _ => True) := by
  have h96 := hI.1.1.2.2
  have hlp : ∀ (t f m : Nat) (v3 : Int32), f + t = nF w → t < m → Rd (lp_about_107 m (nI c) a v3 (nI f) (fun v1 v2 v3 v4 => prt v3)) w (fun _ => True) := by
    intro t
    induction t with
    | zero =>
      intro f m v3 h1 h2
      cases m with
      | zero => omega
      | succ m =>
        have : f = nF w := by omega
        subst this
        unfold lp_about_107
        exact Rd_rfN ⟨hI.1.1.1, hI.1.1.2.1⟩ (Rd_ite (fun _ => Rd_rt trivial) (fun z => absurd (Int32.le_refl _) z))
    | succ t ih =>
      intro f m v3 h1 h2
      cases m with
      | zero => omega
      | succ m =>
        obtain ⟨⟨c2, hc2, g5⟩, -⟩ := hI.1.2.2.1 f (by omega)
        unfold lp_about_107
        refine Rd_rfN ⟨hI.1.1.1, hI.1.1.2.1⟩ (Rd_ite (fun _ => Rd_rt trivial) (fun _ => Rd_rdN rfl (by omega) (by decide) g5 (Rd_ite (fun _ => Rd_li (Rd_li ?_)) (fun _ => Rd_li (Rd_li ?_)))))
        · rw [nI_1]; exact ih (f + 1) m _ (by omega) (by omega)
        · rw [nI_1]; exact ih (f + 1) m _ (by omega) (by omega)
  exact hlp (nF w) 0 fuel 0 (by omega) (by unfold fuel; omega)
theorem ok_about6 {w : GS} {c n : Nat} (hc : c < 4) (hK : Kd w c n) (h13 : w.2.2 13 c = true) (a : Int32) : Rd (lp_about_230 fuel (nI c) a 0 0 (fun v1 v2 v3 v4 => prt v3)) w (fun _ => True) := by
  have hn := hK.n37
  have hlp : ∀ (t i m : Nat) (v3 : Int32), i + t = n → t < m → Rd (lp_about_230 m (nI c) a v3 (nI i) (fun v1 v2 v3 v4 => prt v3)) w (fun _ => True) := by
    intro t
    induction t with
    | zero =>
      intro i m v3 h1 h2
      cases m with
      | zero => omega
      | succ m =>
        have : i = n := by omega
        subst this
        unfold lp_about_230
        refine Rd_clR (ok_fightsK w c i hc hK h13) (fun r hr => ?_)
        subst hr
        exact Rd_ite (fun _ => Rd_rt trivial) (fun z => absurd (Int32.le_refl _) z)
    | succ t ih =>
      intro i m v3 h1 h2
      cases m with
      | zero => omega
      | succ m =>
        unfold lp_about_230
        refine Rd_clR (ok_fightsK w c n hc hK h13) (fun r hr => ?_)
        subst hr
        refine Rd_ite (fun z => absurd z (nI_ge (by omega) (by omega))) (fun _ => Rd_clR (ok_isWalk w c n i (hK.dr (by omega : i < n)) (by omega)) (fun _ _ => Rd_ite (fun _ => Rd_li (Rd_li ?_)) (fun _ => Rd_li (Rd_li ?_))))
        · rw [nI_1]; exact ih (i + 1) m _ (by omega) (by omega)
        · rw [nI_1]; exact ih (i + 1) m _ (by omega) (by omega)
  exact hlp n 0 fuel 0 (by omega) (by unfold fuel; omega)
theorem ok_about {w : GS} (hI : Inv w) (h13 : ∀ c, c < 4 → w.2.2 13 c = true) (a b : Int32) : Rd (f_about a b) w (fun r => b = 5 → ∀ c n, c < 4 → a = nI c → Dr w c n → r = nI (cb (dn w c) n)) := by
  unfold f_about
  refine Rd_clR (ok_isClass a w) (fun r hr => Rd_ite (fun z => Rd_rt (fun _ c n hc e _ => ?_)) (fun hne => ?_))
  · rcases hr with ⟨hr, -⟩ | ⟨-, hr⟩
    · rw [hr] at z; exact absurd z (by decide)
    · exact absurd ⟨c, hc, e⟩ hr
  rcases hr with ⟨-, c, hc, rfl⟩ | ⟨hr, -⟩
  · obtain ⟨-, n, hK⟩ := hI.kd h13 c hc
    have m15 := (hI.1.2.2.2.1 c hc).2.2.2
    have hbr : Rd (if b = 0 then lp_about_107 fuel (nI c) b 0 0 (fun v1 v2 v3 v4 => prt v3) else if b = 1 then pcl (f_weighed (nI c)) (fun r_110 => prt r_110) else if b = 2 then prd 12 4 (nI c) (fun x_114 => prt x_114) else if b = 3 then prd 12 4 (nI c) (fun x_118 => (if x_118 = 0 then prt (-1) else prd 13 4 (nI c) (fun x_122 => prt x_122))) else if b = 4 then pcl (f_fights (nI c)) (fun r_126 => prt r_126) else if b = 5 then lp_about_185 fuel (nI c) b 0 0 (fun v1 v2 v3 v4 => prt v3) else if b = 6 then lp_about_230 fuel (nI c) b 0 0 (fun v1 v2 v3 v4 => prt v3) else prt (-1)) w (fun r => b = 5 → ∀ c2 n, c2 < 4 → nI c = nI c2 → Dr w c2 n → r = nI (cb (dn w c2) n)) := by
      refine Rd_ite (fun z => Rd.mono (ok_about0 hI c b) (fun _ _ z5 => by rw [z] at z5; exact absurd z5 (by decide))) (fun _ => ?_)
      refine Rd_ite (fun z => Rd_clR (ok_weighed hI.1.1 hI.1.2.2.1 c) (fun _ _ => Rd_rt (fun z5 => by rw [z] at z5; exact absurd z5 (by decide)))) (fun _ => ?_)
      refine Rd_ite (fun z => Rd_rdN rfl hc (by decide) (Am.val (hI.m12 hc)) (Rd_rt (fun z5 => by rw [z] at z5; exact absurd z5 (by decide)))) (fun _ => ?_)
      refine Rd_ite (fun z => Rd_rdN rfl hc (by decide) (Am.val (hI.m12 hc)) (Rd_ite (fun _ => Rd_rt (fun z5 => by rw [z] at z5; exact absurd z5 (by decide))) (fun _ => Rd_rdN rfl hc (by decide) (Am.val (h13 c hc)) (Rd_rt (fun z5 => by rw [z] at z5; exact absurd z5 (by decide)))))) (fun _ => ?_)
      refine Rd_ite (fun z => Rd_clR (ok_fightsK w c n hc hK (h13 c hc)) (fun _ _ => Rd_rt (fun z5 => by rw [z] at z5; exact absurd z5 (by decide)))) (fun _ => ?_)
      refine Rd_ite (fun z => Rd.mono (ok_about5 hc hK (h13 c hc) m15 b) (fun r hr _ c2 n2 hc2 e hD => ?_)) (fun h5 => ?_)
      · have ec : c = c2 := (nI_eq (by omega) (by omega)).mp e
        subst ec
        obtain ⟨r1, w1, e1, rfl, h1⟩ := ok_fightsK w c n hc hK (h13 c hc)
        obtain ⟨r2, w2, e2, rfl, h2⟩ := ok_fightsK w1 c n2 hc (Or.inr hD) (h13 c hc)
        have e12 : r1 = r2 := by
          have e3 : some (r1, w2) = some (r2, w2) := e1.symm.trans e2
          cases e3
          rfl
        rw [h1, h2] at e12
        have hn := hK.n37
        have hn2 := hD.n37
        have en : n = n2 := (nI_eq (by omega) (by omega)).mp e12
        rw [hr, en]
      · refine Rd_ite (fun z => Rd.mono (ok_about6 hc hK (h13 c hc) b) (fun _ _ z5 => absurd z5 h5)) (fun _ => Rd_rt (fun z5 => absurd z5 h5))
    refine Rd_rdN rfl hc (by decide) (Am.val (hI.m12 hc)) (Rd_ite (fun _ => ?_) (fun h12 => ?_))
    · refine Rd_clR (ok_in _ _ _ w) (fun r hr => Rd_ite (fun _ => hbr) (fun hne2 => ?_))
      have c1 : (100 : Int64).toInt = 100 := by decide
      have c2 : ((99 : Int64) + 0).toInt = 99 := by decide
      rw [c1, c2] at hr
      rcases hr with ⟨-, k1, k2⟩ | ⟨z, -⟩
      · omega
      · exact absurd z hne2
    · have hd : ∃ n2, DrS w c n2 := by
        rcases (hI.1.2.2.2.1 c hc).2.2.1 with z | z
        · exact absurd z.2 h12
        · exact z
      obtain ⟨n2, hd⟩ := hd
      have hp : ∃ q, q ≤ 32 ∧ Am w 13 c (nI q) ∧ ∀ p, p < q → w.2.2 14 (32 * c + p) = true := by
        obtain ⟨-, -, ⟨s, -, s5, -, -, y, g, -⟩ | ⟨L, -, L5, -, -, y, g, -⟩⟩ := hd
        · refine ⟨s, by omega, y, fun p hp => ?_⟩
          obtain ⟨f, f1, -⟩ := g p hp
          exact f1.1
        · refine ⟨2 ^ L, pow_lt32 L5, y, fun p hp => ?_⟩
          rcases g p hp with z | ⟨f, f1, -⟩
          · exact z.1
          · exact f1.1
      obtain ⟨q, q32, y, hw⟩ := hp
      refine Rd_rdN rfl hc (by decide) y (Rd_clR (ok_in _ _ _ w) (fun r hr => Rd_ite (fun _ => hbr) (fun hne2 => ?_)))
      have c1 : (100 : Int64).toInt = 100 := by decide
      rw [Int32.toInt_toInt64, c1, i64a99 q (by omega)] at hr
      rcases hr with ⟨-, k1, k2⟩ | ⟨z, -⟩
      · have e := nI_ofT (x := b) (by omega)
        have hk : b.toInt.toNat < 100 + q ∧ 100 ≤ b.toInt.toNat := by omega
        generalize b.toInt.toNat = k at e hk
        subst e
        have ei : (32 : Int32) * nI c + nI k - 100 = nI (32 * c + (k - 100)) := by
          rw [ix32]
          have e9 := nI_sub (a := 32 * c + k) (b := 100) (by omega)
          refine e9.trans ?_
          congr 1
          omega
        refine Rd_rdN ei (by omega) (by decide) (Am.val (hw (k - 100) (by omega))) (Rd_rt (fun z5 => ?_))
        have : k = 5 := (nI_eq (a := k) (b := 5) (by omega) (by decide)).mp z5
        omega
      · exact absurd z hne2
  · exact absurd hr hne
