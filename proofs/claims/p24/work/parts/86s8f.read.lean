/-! ===== fault, fighter, count, mat on both sides ===== -/
theorem ncl_at {α β : Type} {p : NG α} {q : α → NG β} {u v : MS} {a : α} {y : β × MS} (h : p u = some (a, v)) (e : ncl p q u = some y) : q a v = some y := by
  unfold ncl at e
  rw [h] at e
  exact e
theorem nrt_at {x r : Int32} {u v : MS} (e : nrt x u = some (r, v)) : r = x ∧ v = u := by
  cases e
  exact ⟨rfl, rfl⟩
section
variable {P : LwP} {LW : List LwP} {N tp n E ch C : Nat} {u v : MS} {w : GS} {lg : Nat → En} {s : Nat → GS} {p q : Nat → Nat}
theorem sim_fault {a r : Int32} (hF : FtR u w) (e : x_X11_fault a u = some (r, v)) : Rd (f_fault a) w (fun r2 => r2 = r) := by
  unfold x_X11_fault at e
  unfold f_fault
  by_cases h0 : a = 0
  · rw [if_pos h0] at e ⊢
    have e2 : nrt (u.1 11) u = some (r, v) := e
    exact Ok_uf (Ok_rt ⟨rfl, hF.1.symm.trans (nrt_at e2).1.symm⟩)
  · rw [if_neg h0] at e ⊢
    by_cases h1 : a = 1
    · rw [if_pos h1] at e ⊢
      have e2 : nrt (u.1 10) u = some (r, v) := e
      exact Ok_uf (Ok_rt ⟨rfl, hF.2.symm.trans (nrt_at e2).1.symm⟩)
    · rw [if_neg h1] at e ⊢
      exact Ok_rt ⟨rfl, (nrt_at e).1.symm⟩
theorem e_fcell {f k : Nat} {z : Int32} (hf : f < 96) (hk : k < 7) (hz : z = nI k) : ncl (x_X1_ofFighter (nI f) z) (fun r => ncl (nGT 0 2088 r) (fun x => nrt x)) u = some (u.2 0 (148 + 7 * f + k), u) := by
  rw [e_ofFighter f k hz]
  show some (rg (u.2 0) 2088 (nI (148 + 7 * f + k)), u) = _
  rw [rdB _ (by omega)]
theorem sim_fighter {a b r : Int32} (h : SmX P LW N tp u w n E lg s p q ch C) (e : x_X11_fighter a b u = some (r, v)) : Rd (f_fighter a b) w (fun r2 => r2 = r) := by
  have hRw := h.r0
  have hIw := h.1.inv
  obtain ⟨F, hF96, hF, hFw⟩ := hRw.ppl hIw
  unfold x_X11_fighter at e
  unfold f_fighter
  refine Rd_clR (ok_isFt hRw hF hF96 a) (fun q9 hq => ?_)
  rcases e_has hF hF96 a with ⟨⟨f, hf, rfl⟩, e1⟩ | ⟨hno, e1⟩
  rotate_left
  · have e := ncl_at e1 e
    rw [if_pos rfl] at e
    rcases hq with ⟨rfl, -⟩ | ⟨-, hq⟩
    · exact Rd_ite (fun _ => Rd_rt (nrt_at e).1.symm) (fun z => absurd rfl z)
    · exact absurd hq hno
  have e := ncl_at e1 e
  rw [if_neg (by decide)] at e
  rcases hq with ⟨-, hq⟩ | ⟨rfl, -⟩
  · exact absurd ⟨f, hf, rfl⟩ hq
  refine Rd_ite (fun z => absurd z (by decide)) (fun _ => ?_)
  have hf96 : f < 96 := by omega
  obtain ⟨c5, c6, c7, c8, c9, c10, c11⟩ := hRw.2.2.1 f (by omega)
  by_cases h0 : b = 0
  · rw [if_pos h0] at e ⊢
    rw [e_fcell (k := 0) (z := 0) hf96 (by decide) rfl] at e
    cases e
    exact Rd_rdN rfl hf96 (by decide) c5 (Rd_rt rfl)
  rw [if_neg h0] at e ⊢
  by_cases h0 : b = 1
  · rw [if_pos h0] at e ⊢
    rw [e_fcell (k := 1) (z := 1) hf96 (by decide) rfl] at e
    cases e
    exact Rd_rdN rfl hf96 (by decide) c6 (Rd_rt (by rw [show 148 + 7 * f + 1 = 149 + 7 * f by omega]))
  rw [if_neg h0] at e ⊢
  by_cases h0 : b = 2
  · rw [if_pos h0] at e ⊢
    rw [e_fcell (k := 2) (z := 2) hf96 (by decide) rfl] at e
    cases e
    exact Rd_rdN rfl hf96 (by decide) c7 (Rd_rt (by rw [show 148 + 7 * f + 2 = 150 + 7 * f by omega]))
  rw [if_neg h0] at e ⊢
  by_cases h0 : b = 3
  · rw [if_pos h0] at e ⊢
    rw [e_fcell (k := 3) (z := 3) hf96 (by decide) rfl] at e
    cases e
    exact Rd_rdN rfl hf96 (by decide) c8 (Rd_rt (by rw [show 148 + 7 * f + 3 = 151 + 7 * f by omega]))
  rw [if_neg h0] at e ⊢
  by_cases h0 : b = 4
  · rw [if_pos h0] at e ⊢
    rw [e_fcell (k := 4) (z := 4) hf96 (by decide) rfl] at e
    cases e
    exact Rd_rdN rfl hf96 (by decide) c9 (Rd_rt (by rw [show 148 + 7 * f + 4 = 152 + 7 * f by omega]))
  rw [if_neg h0] at e ⊢
  by_cases h0 : b = 5
  · rw [if_pos h0] at e ⊢
    rw [e_fcell (k := 5) (z := 5) hf96 (by decide) rfl] at e
    cases e
    exact Rd_rdN rfl hf96 (by decide) c10 (Rd_rt (by rw [show 148 + 7 * f + 5 = 153 + 7 * f by omega]))
  rw [if_neg h0] at e ⊢
  by_cases h0 : b = 6
  · rw [if_pos h0] at e ⊢
    rw [e_fcell (k := 6) (z := 6) hf96 (by decide) rfl] at e
    cases e
    exact Rd_rdN rfl hf96 (by decide) c11 (Rd_rt (by rw [show 148 + 7 * f + 6 = 154 + 7 * f by omega]))
  rw [if_neg h0] at e ⊢
  exact Rd_rt (nrt_at e).1.symm
theorem SmX.lr (h : SmX P LW N tp u w n E lg s p q ch C) : LRel (lnw P LW u).2.2 w := by
  rw [h.ln]
  exact h.rx.2.2.2.2.ag h.ag
theorem r_count_lp {B : Nat → Int32} {a : Int32} (hR : R0 B w) : ∀ (t k m : Nat), k + t = 4 → t < m → Rd (lp_count_84 m a (nI (opn B k)) (nI k) (fun _ v2 _ => prt v2)) w (fun r => r = nI (opn B 4)) := by
  intro t
  induction t with
  | zero =>
    intro k m hk hm
    cases m with
    | zero => omega
    | succ m =>
      have : k = 4 := by omega
      subst this
      unfold lp_count_84
      exact Rd_ite (fun _ => Rd_rt rfl) (fun z => absurd (Int32.le_refl _) z)
  | succ t ih =>
    intro k m hk hm
    cases m with
    | zero => omega
    | succ m =>
      unfold lp_count_84
      refine Rd_ite (fun z => absurd ((nI_leI (a := 4) (b := k) (by decide) (by omega)).mp z) (by omega)) (fun _ => ?_)
      have h9 := ih (k + 1) m (by omega) (by omega)
      rw [opn_s] at h9
      have hfr := hR.free (m := k) (by omega)
      have hm22 : w.2.2 22 k = true := by
        rcases hR.2.2.2.2.2 k (by omega) with ⟨-, b⟩ | ⟨c, i, -, -, -, -, f, -⟩
        · exact b.1
        · exact f.1
      refine Rd_rdN rfl (by omega) (by decide) (Am.val hm22) (Rd_ite (fun z => Rd_li (Rd_li ?_)) (fun z => Rd_li (Rd_li ?_)))
      · rw [if_pos (hfr.mp z)] at h9
        rw [nI_1, show nI (opn B k) + 0 = nI (opn B k + 0) from nI_add _ 0]
        exact h9
      · rw [if_neg (fun y => z (hfr.mpr y))] at h9
        rw [nI_1, nI_1]
        exact h9
theorem sim_count {a r : Int32} (h : SmX P LW N tp u w n E lg s p q ch C) (h2 : u.1 2 = nI tp) (e : x_X11_count (fun u => (lnw P LW u).2.2) a u = some (r, v)) : Rd (f_count a) w (fun r2 => r2 = r) := by
  have hRw := h.r0
  have hL := h.lr
  obtain ⟨-, -, -, h29, h30, h31, -⟩ := hL
  obtain ⟨i2, i3, i4⟩ := hRw.1
  unfold x_X11_count at e
  unfold f_count
  by_cases h0 : a = 0
  · rw [if_pos h0] at e ⊢
    have e := ncl_at e_people e
    exact Rd_rfN i2 (Rd_rt (nrt_at e).1.symm)
  rw [if_neg h0] at e ⊢
  by_cases h0 : a = 1
  · rw [if_pos h0] at e ⊢
    have e2 : nrt (rg (u.2 0) 2088 0) u = some (r, v) := e
    have e3 : rg (u.2 0) 2088 0 = u.2 0 0 := rdB (u.2 0) (j := 0) (by decide)
    rw [e3] at e2
    exact Rd_rfN i3 (Rd_rt (nrt_at e2).1.symm)
  rw [if_neg h0] at e ⊢
  by_cases h0 : a = 2
  · rw [if_pos h0] at e ⊢
    have e2 : nrt (rg (u.2 0) 2088 1) u = some (r, v) := e
    have e3 : rg (u.2 0) 2088 1 = u.2 0 1 := rdB (u.2 0) (j := 1) (by decide)
    rw [e3] at e2
    exact Rd_rfN i4 (Rd_rt (nrt_at e2).1.symm)
  rw [if_neg h0] at e ⊢
  by_cases h0 : a = 3
  · rw [if_pos h0] at e ⊢
    have e2 : nrt ((lnw P LW u).2.2.1 2) u = some (r, v) := e
    exact Rd_rfN h29 (Rd_rt (nrt_at e2).1.symm)
  rw [if_neg h0] at e ⊢
  by_cases h0 : a = 4
  · rw [if_pos h0] at e ⊢
    have e2 : nrt ((lnw P LW u).2.2.1 3) u = some (r, v) := e
    exact Rd_rfN h30 (Rd_rt (nrt_at e2).1.symm)
  rw [if_neg h0] at e ⊢
  by_cases h0 : a = 5
  · rw [if_pos h0] at e ⊢
    have e2 : nrt ((lnw P LW u).2.2.1 4) u = some (r, v) := e
    exact Rd_rfN h31 (Rd_rt (nrt_at e2).1.symm)
  rw [if_neg h0] at e ⊢
  by_cases h0 : a = 6
  · rw [if_pos h0] at e ⊢
    have e := ncl_at e_openFights e
    exact Rd.mono (r_count_lp hRw 4 0 fuel (by decide) (by unfold fuel; omega)) (fun r2 z => z.trans (nrt_at e).1.symm)
  rw [if_neg h0] at e ⊢
  by_cases h0 : a = 7
  · rw [if_pos h0] at e ⊢
    have e2 : nrt (u.1 1) u = some (r, v) := e
    exact Ok_uf (Ok_rt ⟨rfl, h.1.2.1.trans (h.2.1.symm.trans (nrt_at e2).1.symm)⟩)
  rw [if_neg h0] at e ⊢
  by_cases h0 : a = 8
  · rw [if_pos h0] at e ⊢
    have e2 : nrt (u.1 2) u = some (r, v) := e
    exact Ok_uf (Ok_rt ⟨rfl, h.1.2.2.2.1.trans (h2.symm.trans (nrt_at e2).1.symm)⟩)
  rw [if_neg h0] at e ⊢
  exact Rd_rt (nrt_at e).1.symm
theorem e_mcell {m k : Nat} {z : Int32} (hm : m < 4) (hk : k < 21) (hz : z = nI k) : ncl (x_X1_ofMat (nI m) z) (fun r => ncl (nGT 0 2088 r) (fun x => nrt x)) u = some (u.2 0 (mc0 m + k), u) := by
  rw [e_ofMat m k hz]
  show some (rg (u.2 0) 2088 (nI (mc0 m + k)), u) = _
  rw [rdB _ (by unfold mc0; omega)]
theorem e_signsOf {m sd f : Nat} (hm : m < 4) (hsd : sd < 2) (hf : f < 8) : x_X3_signsOf (nI m) (nI sd) (nI f) u = some (u.2 0 (mc0 m + 5 + (8 * sd + f)), u) := by
  have ez : ((5 : Int32) + nI sd * 8) + nI f = nI (5 + (8 * sd + f)) := by
    have hh : ∀ sd < 2, ∀ s < 8, ((5 : Int32) + nI sd * 8) + nI s = nI (5 + (8 * sd + s)) := by decide +kernel
    exact hh sd hsd f hf
  unfold x_X3_signsOf
  refine ncl_eq (e_on hm (k := 5 + (8 * sd + f)) (by omega) ez) ?_
  rw [← Nat.add_assoc]
  rfl
/-- the signs of a mat, in the class -/
theorem e_signsOn {L : MS → MS} {m sg : Nat} {b r : Int32} (hm : m < 4) (hsg : sg ≤ 8) (hL : (L u).1 2 = nI sg) (e : x_X11_signsOn L (nI m) b u = some (r, v)) : v = u ∧ ((∃ k sd, sd < 2 ∧ k < sg ∧ b = nI (10 + 10 * sd + k) ∧ r = u.2 0 (mc0 m + 5 + (8 * sd + k))) ∨ (r = -1 ∧ ¬ ∃ k sd, sd < 2 ∧ k < sg ∧ b = nI (10 + 10 * sd + k))) := by
  have no : ∀ (hlt : b < 10), ¬ ∃ k sd, sd < 2 ∧ k < sg ∧ b = nI (10 + 10 * sd + k) := by
    rintro hlt ⟨k, sd, h1, h2, rfl⟩
    have h9 := (nI_ltI (a := 10 + 10 * sd + k) (b := 10) (by omega) (by decide)).mp hlt
    omega
  unfold x_X11_signsOn at e
  by_cases h20 : (20 : Int32) ≤ b
  · rw [if_pos h20] at e
    have hb0 : ¬ b < 0 := fun z => by
      rw [Int32.le_iff_toInt_le] at h20
      rw [Int32.lt_iff_toInt_lt] at z
      have e1 : (20 : Int32).toInt = 20 := by decide
      have e2 : (0 : Int32).toInt = 0 := by decide
      omega
    obtain ⟨j, hj, rfl⟩ := nI_of hb0
    have hj20 := (nI_leI (a := 20) (b := j) (by decide) hj).mp h20
    have hn10 : ¬ nI j < 10 := fun z => absurd ((nI_ltI (a := j) (b := 10) hj (by decide)).mp z) (by omega)
    have ex : nI j - 10 - 10 * 1 = nI (j - 20) := by
      have h1 := nI_sub (a := j) (b := 10) (by omega)
      have h2 := nI_sub (a := j - 10) (b := 10) (by omega)
      have h3 : (10 : Int32) * 1 = nI 10 := by decide
      rw [h3, show nI j - 10 = nI j - nI 10 from rfl, h1, h2, show j - 10 - 10 = j - 20 by omega]
    have e := e
    rw [ex] at e
    have e2 : (if nI j < 10 then nrt (-1) else ncl (nLW L) (fun L_4 => (if (L_4.1 2) ≤ nI (j - 20) then nrt (-1) else ncl (x_X3_signsOf (nI m) 1 (nI (j - 20))) (fun r_10 => nrt r_10)))) u = some (r, v) := e
    rw [if_neg hn10] at e2
    have e3 : (if ((L u).1 2) ≤ nI (j - 20) then nrt (-1) else ncl (x_X3_signsOf (nI m) 1 (nI (j - 20))) (fun r_10 => nrt r_10)) u = some (r, v) := e2
    rw [hL] at e3
    by_cases hs : sg ≤ j - 20
    · rw [if_pos (nI_le hs (by omega))] at e3
      obtain ⟨q1, q2⟩ := nrt_at e3
      refine ⟨q2, Or.inr ⟨q1, ?_⟩⟩
      rintro ⟨k, sd, h1, h2, h3⟩
      have := (nI_eq hj (by omega)).mp h3
      omega
    · rw [if_neg (fun z => hs ((nI_leI (by omega) (by omega)).mp z))] at e3
      have e4 := ncl_at (e_signsOf (sd := 1) hm (by decide) (show j - 20 < 8 by omega)) e3
      obtain ⟨q1, q2⟩ := nrt_at e4
      exact ⟨q2, Or.inl ⟨j - 20, 1, by decide, by omega, by rw [show 10 + 10 * 1 + (j - 20) = j by omega], q1⟩⟩
  · rw [if_neg h20] at e
    by_cases h10 : b < 10
    · have e2 : (if b < 10 then nrt (-1) else ncl (nLW L) (fun L_15 => (if (L_15.1 2) ≤ ((b - 10) - ((10 : Int32) * 0)) then nrt (-1) else ncl (x_X3_signsOf (nI m) 0 ((b - 10) - ((10 : Int32) * 0))) (fun r_21 => nrt r_21)))) u = some (r, v) := e
      rw [if_pos h10] at e2
      obtain ⟨q1, q2⟩ := nrt_at e2
      exact ⟨q2, Or.inr ⟨q1, no h10⟩⟩
    · have hb0 : ¬ b < 0 := fun z => h10 (by
        rw [Int32.lt_iff_toInt_lt] at z ⊢
        have e1 : (10 : Int32).toInt = 10 := by decide
        have e2 : (0 : Int32).toInt = 0 := by decide
        omega)
      obtain ⟨j, hj, rfl⟩ := nI_of hb0
      have hj20 : j < 20 := Nat.not_le.mp (fun z => h20 (nI_le (a := 20) z hj))
      have hj10 : 10 ≤ j := Nat.not_lt.mp (fun z => h10 ((nI_ltI (a := j) (b := 10) hj (by decide)).mpr z))
      have ex : nI j - 10 - 10 * 0 = nI (j - 10) := by
        have h1 := nI_sub (a := j) (b := 10) (by omega)
        have h2 := nI_sub (a := j - 10) (b := 0) (by omega)
        have h3 : (10 : Int32) * 0 = nI 0 := by decide
        rw [h3, show nI j - 10 = nI j - nI 10 from rfl, h1, h2, Nat.sub_zero]
      rw [ex] at e
      have e2 : (if nI j < 10 then nrt (-1) else ncl (nLW L) (fun L_15 => (if (L_15.1 2) ≤ nI (j - 10) then nrt (-1) else ncl (x_X3_signsOf (nI m) 0 (nI (j - 10))) (fun r_21 => nrt r_21)))) u = some (r, v) := e
      rw [if_neg h10] at e2
      have e3 : (if ((L u).1 2) ≤ nI (j - 10) then nrt (-1) else ncl (x_X3_signsOf (nI m) 0 (nI (j - 10))) (fun r_21 => nrt r_21)) u = some (r, v) := e2
      rw [hL] at e3
      by_cases hs : sg ≤ j - 10
      · rw [if_pos (nI_le hs (by omega))] at e3
        obtain ⟨q1, q2⟩ := nrt_at e3
        refine ⟨q2, Or.inr ⟨q1, ?_⟩⟩
        rintro ⟨k, sd, h1, h2, h3⟩
        have := (nI_eq hj (by omega)).mp h3
        omega
      · rw [if_neg (fun z => hs ((nI_leI (by omega) (by omega)).mp z))] at e3
        have e4 := ncl_at (e_signsOf (sd := 0) hm (by decide) (show j - 10 < 8 by omega)) e3
        obtain ⟨q1, q2⟩ := nrt_at e4
        exact ⟨q2, Or.inl ⟨j - 10, 0, by decide, by omega, by rw [show 10 + 10 * 0 + (j - 10) = j by omega], q1⟩⟩
theorem sim_mat {a b r : Int32} (h : SmX P LW N tp u w n E lg s p q ch C) (e : x_X11_mat (fun u => (lnw P LW u).2.2) a b u = some (r, v)) : Rd (f_mat a b) w (fun r2 => r2 = r) := by
  have hRw := h.r0
  have hIw := h.1.inv
  have hL := h.lr
  obtain ⟨-, -, -, h29, -, -, ⟨sg, hsg, esg⟩, -⟩ := hL
  unfold x_X11_mat at e
  unfold f_mat
  refine Rd_clR (ok_isMat a w) (fun q9 hq => ?_)
  rcases mat_cases a with ⟨e2, hno⟩ | ⟨e2, m, hm, rfl⟩
  · rw [e2] at e
    have e := ncl_at (a := 0) (v := u) rfl e
    rw [if_pos rfl] at e
    rcases hq with ⟨-, hq⟩ | ⟨rfl, -⟩
    · exact absurd hq hno
    · exact Rd_ite (fun _ => Rd_rt (nrt_at e).1.symm) (fun z => absurd rfl z)
  rw [e2] at e
  have e := ncl_at (a := 1) (v := u) rfl e
  rw [if_neg (by decide)] at e
  rcases hq with ⟨rfl, -⟩ | ⟨-, hq⟩
  rotate_left
  · exact absurd ⟨m, hm, rfl⟩ hq
  refine Rd_ite (fun z => absurd z (by decide)) (fun _ => ?_)
  have e := ncl_at (e_isFree hm) e
  rcases hRw.onm hm with ⟨f1, f2⟩ | ⟨c, i, hO⟩
  · rw [if_pos f1, if_neg (by decide)] at e
    exact Rd_rdN rfl hm (by decide) f2 (Rd_ite (fun _ => Rd_rt (nrt_at e).1.symm) (fun z => absurd rfl z))
  obtain ⟨n1, n2⟩ := hO.ne
  rw [if_neg n1, if_pos rfl] at e
  obtain ⟨-, hMt⟩ := hIw.1.2.2.2.2.2.1 m hm
  obtain ⟨-, -, m25, m26, -⟩ := hMt n2
  obtain ⟨hc, hi, g0, g1, g22, g23, g25, g26, g24⟩ := hO
  have hd := div40 c hc i (by omega)
  have i29 : Im w 29 (nI sg) := ⟨h29.1, h29.2.trans esg⟩
  have e16 : (16 : Int32) * nI m = nI (16 * m) := by rw [← nI_mul]; rfl
  have c10 : (10 : Int64).toInt = 10 := by decide
  have c20 : (20 : Int64).toInt = 20 := by decide
  have b01 : ∀ {x : Int32}, (x = 0 ∨ x = 1) → (if x = 0 then (0 : Int32) else 1) = x := fun {x} hx => by
    rcases hx with rfl | rfl
    · rfl
    · rfl
  have lit : ∀ k, k < 10 → b = nI k → ∀ k2 sd, sd < 2 → k2 < sg → ¬ b = nI (10 + 10 * sd + k2) := fun k hk eb k2 sd hsd hk2 y => by
    have := (nI_eq (by omega) (by omega)).mp (eb.symm.trans y)
    omega
  refine Rd_rdN rfl hm (by decide) g22 (Rd_ite (fun z => absurd z (nI_ne_1 (by omega))) (fun _ => ?_))
  refine Rd_rfN i29 (Rd_clR (ok_in _ _ _ w) (fun r1 hr => ?_))
  rw [Int32.toInt_toInt64, c10, i64a9 sg (by omega)] at hr
  have sgn : ∀ (R : PG Int32) (k0 : Nat), k0 < 10 → b = nI k0 → Rd R w (fun r2 => r2 = r) → Rd (if r1 = 0 then prf 29 (fun x_15 => pcl (f_in b.toInt64 20 ((19 : Int64) + (x_15.toInt64 : Int64))) (fun r_17 => (if r_17 = 0 then R else prd 24 64 ((((16 * nI m) + 8) + b) - 20) (fun x_43 => prt x_43)))) else prd 24 64 (((16 * nI m) + b) - 10) (fun x_46 => prt x_46)) w (fun r2 => r2 = r) := fun R k0 hk0 eb hR => by
    have eb2 : b.toInt = (k0 : Int) := by rw [eb, nI_toInt (by omega)]
    refine Rd_ite (fun _ => Rd_rfN i29 (Rd_clR (ok_in _ _ _ w) (fun r2 hr2 => ?_))) (fun z => ?_)
    · rw [Int32.toInt_toInt64, c20, i64a19 sg (by omega)] at hr2
      refine Rd_ite (fun _ => hR) (fun z => ?_)
      rcases hr2 with ⟨-, k1, -⟩ | ⟨z2, -⟩
      · omega
      · exact absurd z2 z
    · rcases hr with ⟨-, k1, -⟩ | ⟨z2, -⟩
      · omega
      · exact absurd z2 z
  by_cases h0 : b = 0
  · rw [if_pos h0, e_mcell (k := 0) (z := 0) hm (by decide) rfl] at e
    cases e
    refine sgn _ 0 (by decide) h0 (Rd_ite (fun _ => Rd_rdN rfl hm (by decide) g22 (Rd_rt ?_)) (fun z => absurd h0 z))
    rw [hd.1]
    exact g0.symm
  by_cases h1 : b = 1
  · rw [if_neg h0, if_pos h1, e_mcell (k := 1) (z := 1) hm (by decide) rfl] at e
    cases e
    refine sgn _ 1 (by decide) h1 (Rd_ite (fun z => absurd z h0) (fun _ => Rd_ite (fun _ => Rd_rdN rfl hm (by decide) g22 (Rd_rt ?_)) (fun z => absurd h1 z)))
    rw [hd.2]
    exact g1.symm
  by_cases h2 : b = 2
  · rw [if_neg h0, if_neg h1, if_pos h2, e_mcell (k := 2) (z := 2) hm (by decide) rfl] at e
    cases e
    exact sgn _ 2 (by decide) h2 (Rd_ite (fun z => absurd z h0) (fun _ => Rd_ite (fun z => absurd z h1) (fun _ => Rd_ite (fun _ => Rd_rdN rfl hm (by decide) g23 (Rd_rt rfl)) (fun z => absurd h2 z))))
  by_cases h3 : b = 3
  · rw [if_neg h0, if_neg h1, if_neg h2, if_pos h3, e_mcell (k := 3) (z := 3) hm (by decide) rfl] at e
    cases e
    have q9 := b01 (x := u.2 0 (mc0 m + 3)) (m25.elim (fun z => Or.inl (g25.inj z)) (fun z => Or.inr (g25.inj z)))
    refine sgn _ 3 (by decide) h3 (Rd_ite (fun z => absurd z h0) (fun _ => Rd_ite (fun z => absurd z h1) (fun _ => Rd_ite (fun z => absurd z h2) (fun _ => Rd_ite (fun _ => Rd_rdN rfl hm (by decide) g25 (Rd_ite (fun z => Rd_rt ?_) (fun z => Rd_rt ?_))) (fun z => absurd h3 z)))))
    · rw [if_pos z] at q9
      exact q9
    · rw [if_neg z] at q9
      exact q9
  by_cases h4 : b = 4
  · rw [if_neg h0, if_neg h1, if_neg h2, if_neg h3, if_pos h4, e_mcell (k := 4) (z := 4) hm (by decide) rfl] at e
    cases e
    have q9 := b01 (x := u.2 0 (mc0 m + 4)) (m26.elim (fun z => Or.inl (g26.inj z)) (fun z => Or.inr (g26.inj z)))
    refine sgn _ 4 (by decide) h4 (Rd_ite (fun z => absurd z h0) (fun _ => Rd_ite (fun z => absurd z h1) (fun _ => Rd_ite (fun z => absurd z h2) (fun _ => Rd_ite (fun z => absurd z h3) (fun _ => Rd_ite (fun _ => Rd_rdN rfl hm (by decide) g26 (Rd_ite (fun z => Rd_rt ?_) (fun z => Rd_rt ?_))) (fun z => absurd h4 z))))))
    · rw [if_pos z] at q9
      exact q9
    · rw [if_neg z] at q9
      exact q9
  rw [if_neg h0, if_neg h1, if_neg h2, if_neg h3, if_neg h4] at e
  obtain ⟨x9, u9, e5, e6⟩ := ncl_some e
  obtain ⟨-, hor⟩ := e_signsOn (L := fun u => (lnw P LW u).2.2) hm hsg esg e5
  have er := (nrt_at e6).1
  subst er
  rcases hor with ⟨k, sd, hsd, hk, rfl, rfl⟩ | ⟨rfl, hno⟩
  · have eb2 : (nI (10 + 10 * sd + k)).toInt = ((10 + 10 * sd + k : Nat) : Int) := nI_toInt (by omega)
    have hcase : sd = 0 ∨ sd = 1 := by omega
    rcases hcase with rfl | rfl
    · rcases hr with ⟨rfl, -⟩ | ⟨-, hr⟩
      · refine Rd_ite (fun z => absurd z (by decide)) (fun _ => ?_)
        have ei : (16 : Int32) * nI m + nI (10 + 10 * 0 + k) - 10 = nI (16 * m + (8 * 0 + k)) := by
          rw [e16, nI_add]
          have e9 := nI_sub (a := 16 * m + (10 + 10 * 0 + k)) (b := 10) (by omega)
          refine e9.trans ?_
          congr 1
          omega
        exact Rd_rdN ei (by omega) (by decide) (g24 (8 * 0 + k) (by omega)) (Rd_rt rfl)
      · omega
    · rcases hr with ⟨-, hr1, hr2⟩ | ⟨rfl, -⟩
      · omega
      · refine Rd_ite (fun _ => Rd_rfN i29 (Rd_clR (ok_in _ _ _ w) (fun r2 hr2 => ?_))) (fun z => absurd rfl z)
        rw [Int32.toInt_toInt64, c20, i64a19 sg (by omega)] at hr2
        rcases hr2 with ⟨rfl, -⟩ | ⟨-, hr2⟩
        · refine Rd_ite (fun z => absurd z (by decide)) (fun _ => ?_)
          have ei : (16 : Int32) * nI m + 8 + nI (10 + 10 * 1 + k) - 20 = nI (16 * m + (8 * 1 + k)) := by
            have e8 : nI (16 * m) + 8 = nI (16 * m + 8) := nI_add _ 8
            rw [e16, e8, nI_add]
            have e9 := nI_sub (a := 16 * m + 8 + (10 + 10 * 1 + k)) (b := 20) (by omega)
            refine e9.trans ?_
            congr 1
            omega
          exact Rd_rdN ei (by omega) (by decide) (g24 (8 * 1 + k) (by omega)) (Rd_rt rfl)
        · omega
  · refine Rd_ite (fun _ => Rd_rfN i29 (Rd_clR (ok_in _ _ _ w) (fun r2 hr2 => ?_))) (fun z => ?_)
    · rw [Int32.toInt_toInt64, c20, i64a19 sg (by omega)] at hr2
      refine Rd_ite (fun _ => Rd_ite (fun z => absurd z h0) (fun _ => Rd_ite (fun z => absurd z h1) (fun _ => Rd_ite (fun z => absurd z h2) (fun _ => Rd_ite (fun z => absurd z h3) (fun _ => Rd_ite (fun z => absurd z h4) (fun _ => Rd_rt rfl)))))) (fun z => ?_)
      rcases hr2 with ⟨-, k1, k2⟩ | ⟨z2, -⟩
      · exact absurd ⟨b.toInt.toNat - 20, 1, by decide, by omega, (nI_ofT (by omega)).trans (by rw [show 10 + 10 * 1 + (b.toInt.toNat - 20) = b.toInt.toNat by omega])⟩ hno
      · exact absurd z2 z
    · rcases hr with ⟨-, k1, k2⟩ | ⟨z2, -⟩
      · exact absurd ⟨b.toInt.toNat - 10, 0, by decide, by omega, (nI_ofT (by omega)).trans (by rw [show 10 + 10 * 0 + (b.toInt.toNat - 10) = b.toInt.toNat by omega])⟩ hno
      · exact absurd z2 z
end
