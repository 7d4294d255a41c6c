/-! ===== what holds between two calls, of both sides ===== -/
def Bo (P : LwP) (LW : List LwP) (M tp : Nat) (u : MS) (v : GS) : Prop := SmE P LW M tp u v ∧ TpR tp u v ∧ FtR u v
section
variable {P : LwP} {LW : List LwP} {M tp : Nat} {u u1 : MS} {v : GS} {r1 : Int32}
theorem bo_act {f : PG Int32} {LI LA : List Nat} (h : Bo P LW M tp u v) (hs : Same LI LA u u1) (h1 : ¬ 2 ∈ LI ∧ ¬ 10 ∈ LI ∧ ¬ 11 ∈ LI ∧ ¬ 4 ∈ LA) (hf : Fw kP kB f) (ho : Ok f v (fun r2 w2 => r2 = r1 ∧ SmE P LW M tp u1 w2)) : ∃ r2 v1, f v = some (r2, v1) ∧ r1 = r2 ∧ Bo P LW M tp u1 v1 := by
  obtain ⟨-, hT, hF⟩ := h
  obtain ⟨r2, v1, e, e2, hS⟩ := ho
  have hw := hf v r2 v1 e
  exact ⟨r2, v1, e, e2.symm, hS, hT.fr (hs.1 2 h1.1) (hs.2 4 h1.2.2.2) (hw.2 40 rfl), hF.fr ⟨hs.1 11 h1.2.2.1, hs.1 10 h1.2.1⟩ ⟨hw.1 49 rfl, hw.1 50 rfl⟩⟩
theorem SmE.same {LI LA : List Nat} (h : SmE P LW M tp u v) (hs : Same LI LA u u1) (h1 : ¬ 0 ∈ LI ∧ ¬ 1 ∈ LI ∧ ¬ 60 ∈ LI ∧ ¬ 65 ∈ LI) (h2 : ¬ 0 ∈ LA ∧ ¬ 1 ∈ LA ∧ ¬ 2 ∈ LA ∧ ¬ 3 ∈ LA) (h3 : ¬ 13 ∈ LA ∧ ¬ 14 ∈ LA ∧ ¬ 15 ∈ LA ∧ ¬ 16 ∈ LA) : SmE P LW M tp u1 v := by
  obtain ⟨n, E, lg, s, p, q, ch, C, h⟩ := h
  exact (h.same hs h1 h2 h3).e
/-- a method that only looks, on the reference's side -/
theorem bo_rd {f : PG Int32} {LI LA : List Nat} (h : Bo P LW M tp u v) (hs : Same LI LA u u1) (h1 : ¬ 2 ∈ LI ∧ ¬ 10 ∈ LI ∧ ¬ 11 ∈ LI ∧ ¬ 4 ∈ LA) (h2 : ¬ 0 ∈ LI ∧ ¬ 1 ∈ LI ∧ ¬ 60 ∈ LI ∧ ¬ 65 ∈ LI) (h3 : ¬ 0 ∈ LA ∧ ¬ 1 ∈ LA ∧ ¬ 2 ∈ LA ∧ ¬ 3 ∈ LA) (h4 : ¬ 13 ∈ LA ∧ ¬ 14 ∈ LA ∧ ¬ 15 ∈ LA ∧ ¬ 16 ∈ LA) (hr : Rd f v (fun r2 => r2 = r1)) : ∃ r2 v1, f v = some (r2, v1) ∧ r1 = r2 ∧ Bo P LW M tp u1 v1 := by
  obtain ⟨hE, hT, hF⟩ := h
  obtain ⟨r2, v1, e, rfl, e2⟩ := hr
  exact ⟨r2, v1, e, e2.symm, hE.same hs h2 h3 h4, hT.fr (hs.1 2 h1.1) (hs.2 4 h1.2.2.2) rfl, hF.fr ⟨hs.1 11 h1.2.2.1, hs.1 10 h1.2.1⟩ ⟨rfl, rfl⟩⟩
theorem bo_rdw {f : PG Int32} {LI LA : List Nat} (h : Bo P LW M tp u v) (hs : Same LI LA u u1) (h1 : ¬ 2 ∈ LI ∧ ¬ 10 ∈ LI ∧ ¬ 11 ∈ LI ∧ ¬ 4 ∈ LA) (h2 : ¬ 0 ∈ LI ∧ ¬ 1 ∈ LI ∧ ¬ 60 ∈ LI ∧ ¬ 65 ∈ LI) (h3 : ¬ 0 ∈ LA ∧ ¬ 1 ∈ LA ∧ ¬ 2 ∈ LA ∧ ¬ 3 ∈ LA) (h4 : ¬ 13 ∈ LA ∧ ¬ 14 ∈ LA ∧ ¬ 15 ∈ LA ∧ ¬ 16 ∈ LA) {R : Int32 → Prop} (hr : Rd f v R) : ∃ r2 v1, f v = some (r2, v1) ∧ Bo P LW M tp u1 v1 := by
  obtain ⟨r2, v1, e, rfl, -⟩ := hr
  obtain ⟨hE, hT, hF⟩ := h
  exact ⟨r2, v1, e, hE.same hs h2 h3 h4, hT.fr (hs.1 2 h1.1) (hs.2 4 h1.2.2.2) rfl, hF.fr ⟨hs.1 11 h1.2.2.1, hs.1 10 h1.2.1⟩ ⟨rfl, rfl⟩⟩
theorem Bo.inv (h : Bo P LW M tp u v) : Inv v ∧ ∀ c, c < 4 → v.2.2 13 c = true := by
  obtain ⟨⟨n, E, lg, s, p, q, ch, C, h⟩, -⟩ := h
  exact ⟨h.1.inv, h.1.2.2.2.2.2.2.2.2.2.2⟩
theorem bo_limit {a b d : Int32} {c d0 : Nat} (h : Bo P LW M tp u v) (hM : M ≤ 24000) (hs : Same scI scA u u1) (e : x_X11_limit a b d u = some (r1, u1, c, d0)) : ∃ r2 v1, f_limit a b d v = some (r2, v1) ∧ r1 = r2 ∧ Bo P LW M tp u1 v1 := by
  obtain ⟨n, E, lg, s, p, q, ch, C, hX⟩ := h.1
  exact bo_act h hs (by decide) (fw_limit _ _ _).p (sim_limit hX hM e)
theorem bo_enter {a b : Int32} {c d0 : Nat} (h : Bo P LW M tp u v) (hM : M ≤ 24000) (hs : Same scI scA u u1) (e : x_X11_enter a b u = some (r1, u1, c, d0)) : ∃ r2 v1, f_enter a b v = some (r2, v1) ∧ r1 = r2 ∧ Bo P LW M tp u1 v1 := by
  obtain ⟨n, E, lg, s, p, q, ch, C, hX⟩ := h.1
  exact bo_act h hs (by decide) (fw_enter _ _).p (sim_enter hX hM e)
theorem bo_weigh {a b : Int32} {c d0 : Nat} (h : Bo P LW M tp u v) (hM : M ≤ 24000) (hs : Same scI scA u u1) (e : x_X11_weigh a b u = some (r1, u1, c, d0)) : ∃ r2 v1, f_weigh a b v = some (r2, v1) ∧ r1 = r2 ∧ Bo P LW M tp u1 v1 := by
  obtain ⟨n, E, lg, s, p, q, ch, C, hX⟩ := h.1
  exact bo_act h hs (by decide) (fw_weigh _ _).p (sim_weigh hX hM e)
theorem bo_seed {a b : Int32} {c d0 : Nat} (h : Bo P LW M tp u v) (hM : M ≤ 24000) (hs : Same scI scA u u1) (e : x_X11_seed a b u = some (r1, u1, c, d0)) : ∃ r2 v1, f_seed a b v = some (r2, v1) ∧ r1 = r2 ∧ Bo P LW M tp u1 v1 := by
  obtain ⟨n, E, lg, s, p, q, ch, C, hX⟩ := h.1
  exact bo_act h hs (by decide) (fw_seed _ _).p (sim_seed hX hM e)
theorem bo_draw {a : Int32} {c d0 : Nat} (h : Bo P LW M tp u v) (hM : M ≤ 24000) (hs : Same scI scA u u1) (e : x_X11_draw a u = some (r1, u1, c, d0)) : ∃ r2 v1, f_draw a v = some (r2, v1) ∧ r1 = r2 ∧ Bo P LW M tp u1 v1 := by
  obtain ⟨n, E, lg, s, p, q, ch, C, hX⟩ := h.1
  exact bo_act h hs (by decide) (fw_draw _).p (sim_draw hX hM e)
theorem bo_now {a : Int32} {c d0 : Nat} (h : Bo P LW M tp u v) (hM : M ≤ 24000) (hs : Same scI scA u u1) (e : x_X11_now a u = some (r1, u1, c, d0)) : ∃ r2 v1, f_now a v = some (r2, v1) ∧ r1 = r2 ∧ Bo P LW M tp u1 v1 := by
  obtain ⟨n, E, lg, s, p, q, ch, C, hX⟩ := h.1
  exact bo_act h hs (by decide) (fw_now _).p (sim_now hX hM e)
theorem bo_rest {a : Int32} {c d0 : Nat} (h : Bo P LW M tp u v) (hM : M ≤ 24000) (hs : Same scI scA u u1) (e : x_X11_rest a u = some (r1, u1, c, d0)) : ∃ r2 v1, f_rest a v = some (r2, v1) ∧ r1 = r2 ∧ Bo P LW M tp u1 v1 := by
  obtain ⟨n, E, lg, s, p, q, ch, C, hX⟩ := h.1
  exact bo_act h hs (by decide) (fw_rest _).p (sim_rest hX hM e)
theorem bo_begin {a b d : Int32} {c d0 : Nat} (h : Bo P LW M tp u v) (hM : M ≤ 24000) (hs : Same scI scA u u1) (e : x_X11_begin (fun u => (lnw P LW u).2.2) a b d u = some (r1, u1, c, d0)) : ∃ r2 v1, f_begin a b d v = some (r2, v1) ∧ r1 = r2 ∧ Bo P LW M tp u1 v1 := by
  obtain ⟨n, E, lg, s, p, q, ch, C, hX⟩ := h.1
  exact bo_act h hs (by decide) (fw_begin _ _ _).p (sim_begin hX hM e)
theorem bo_event {a b d : Int32} {c d0 : Nat} (h : Bo P LW M tp u v) (hM : M ≤ 24000) (hs : Same scI scA u u1) (e : x_X11_event (fun u => (lnw P LW u).2.2) a b d u = some (r1, u1, c, d0)) : ∃ r2 v1, f_event a b d v = some (r2, v1) ∧ r1 = r2 ∧ Bo P LW M tp u1 v1 := by
  obtain ⟨n, E, lg, s, p, q, ch, C, hX⟩ := h.1
  exact bo_act h hs (by decide) (fw_event _ _ _).p (sim_event hX hM e)
theorem bo_tick {a b : Int32} {c d0 : Nat} (h : Bo P LW M tp u v) (hM : M ≤ 24000) (hs : Same scI scA u u1) (e : x_X11_tick (fun u => (lnw P LW u).2.2) a b u = some (r1, u1, c, d0)) : ∃ r2 v1, f_tick a b v = some (r2, v1) ∧ r1 = r2 ∧ Bo P LW M tp u1 v1 := by
  obtain ⟨n, E, lg, s, p, q, ch, C, hX⟩ := h.1
  exact bo_act h hs (by decide) (fw_tick _ _).p (sim_tick hX hM e)
theorem bo_decide {a b : Int32} {c d0 : Nat} (h : Bo P LW M tp u v) (hM : M ≤ 24000) (hs : Same scI scA u u1) (e : x_X11_decide a b u = some (r1, u1, c, d0)) : ∃ r2 v1, f_decide a b v = some (r2, v1) ∧ r1 = r2 ∧ Bo P LW M tp u1 v1 := by
  obtain ⟨n, E, lg, s, p, q, ch, C, hX⟩ := h.1
  exact bo_act h hs (by decide) (fw_decide _ _).p (sim_decide hX hM e)
theorem bo_strike {a b : Int32} {c d0 : Nat} (h : Bo P LW M tp u v) (hM : M ≤ 24000) (hs : Same scI scA u u1) (e : x_X11_strike a b u = some (r1, u1, c, d0)) : ∃ r2 v1, f_strike a b v = some (r2, v1) ∧ r1 = r2 ∧ Bo P LW M tp u1 v1 := by
  obtain ⟨n, E, lg, s, p, q, ch, C, hX⟩ := h.1
  exact bo_act h hs (by decide) (fw_strike _ _).p (sim_strike hX hM e)
theorem bo_undo (h : Bo P LW M tp u v) (e : x_X11_undo u = some (r1, u1)) : ∃ r2 v1, f_undo v = some (r2, v1) ∧ r1 = r2 ∧ Bo P LW M tp u1 v1 := by
  obtain ⟨n, E, lg, s, p, q, ch, C, hX⟩ := h.1
  obtain ⟨r3, u3, e3, hs⟩ := tt_x_X11_undo u
  rw [e] at e3
  cases e3
  exact bo_act h hs (by decide) fw_undo.p (sim_undo hX e)
theorem bo_feed {a b c d f : Int32} (h : Bo P LW M tp u v) (h2 : u.1 2 = nI tp) (htp : tp ≤ 3000) (hs : Same [2] [4] u u1) (e : x_X11_feed a b c d f u = some (r1, u1)) : ∃ tp2 r2 v1, tp2 ≤ 3000 ∧ u1.1 2 = nI tp2 ∧ f_feed a b c d f v = some (r2, v1) ∧ r1 = r2 ∧ Bo P LW (M + 20) tp2 u1 v1 := by
  obtain ⟨⟨n, E, lg, s, p, q, ch, C, hX⟩, hT, hF⟩ := h
  obtain ⟨tp2, t1, t2, r2, v1, e1, e2, e3, e4, e5⟩ := sim_feed hX hT h2 htp e
  exact ⟨tp2, r2, v1, t1, t2, e1, e2.symm, e3, e4, hF.fr ⟨hs.1 11 (by decide), hs.1 10 (by decide)⟩ ⟨e5.1 49 (by decide), e5.1 50 (by decide)⟩⟩
theorem bo_end {a : Int32} (h : Bo P LW M tp u v) (h2 : u.1 2 = nI tp) (htp : tp ≤ 3000) (hs : Same [2] [] u u1) (e : x_X11_end a u = some (r1, u1)) : ∃ tp2 r2 v1, tp2 ≤ 3000 ∧ u1.1 2 = nI tp2 ∧ f_end a v = some (r2, v1) ∧ r1 = r2 ∧ Bo P LW M tp2 u1 v1 := by
  obtain ⟨⟨n, E, lg, s, p, q, ch, C, hX⟩, hT, hF⟩ := h
  obtain ⟨tp2, t1, t2, r2, v1, e1, e2, e3, e4, e5⟩ := sim_end hX hT h2 htp e
  exact ⟨tp2, r2, v1, t1, t2, e1, e2.symm, e3, e4, hF.fr ⟨hs.1 11 (by decide), hs.1 10 (by decide)⟩ ⟨e5.1 49 (by decide), e5.1 50 (by decide)⟩⟩
theorem bo_lawsNo (h : Bo P LW M tp u v) (hM : M ≤ 24000) (e : x_lawsNo u = some (r1, u1)) : ∃ r2 v1, f_laws v = some (r2, v1) ∧ r1 = r2 ∧ Bo P LW M 0 u1 v1 := by
  obtain ⟨⟨n, E, lg, s, p, q, ch, C, hX⟩, hT, hF⟩ := h
  obtain ⟨r2, v1, e1, e2, e3, e4, e5⟩ := sim_lawsNo hX hM hT hF e
  exact ⟨r2, v1, e1, e2.symm, e3, e4, e5⟩
theorem bo_lawsYes {r5 r6 : Int32} {u5 u6 : MS} {C1 C2 : Nat} {wd : LwP} (h : Bo P LW M tp u v) (hM : M ≤ 24000) (hW : LW.length ≤ 512) (hwd : wd.2.2 = dL u5) (e : x_lawsYes u = some (r5, u5)) (e6 : x_X1_put 3 (rg (u5.2 0) 2088 3 + 1) (dnew u5) = some (r6, u6, C1, C2)) : ∃ r2 v1, f_laws v = some (r2, v1) ∧ (lnw P (kpL LW (rg (u5.2 0) 2088 3) wd) u6).2.2.1 3 = r2 ∧ Bo P (kpL LW (rg (u5.2 0) 2088 3) wd) M 0 u6 v1 := by
  obtain ⟨⟨n, E, lg, s, p, q, ch, C, hX⟩, hT, hF⟩ := h
  obtain ⟨r2, v1, e1, e2, e3, e4, e5⟩ := sim_lawsYes hX hM hT hW hwd e e6
  exact ⟨r2, v1, e1, e2.symm, e3, e4, e5⟩
theorem bo_fault {a : Int32} (h : Bo P LW M tp u v) (hs : Same [] [] u u1) (e : x_X11_fault a u = some (r1, u1)) : ∃ r2 v1, f_fault a v = some (r2, v1) ∧ r1 = r2 ∧ Bo P LW M tp u1 v1 := bo_rd h hs (by decide) (by decide) (by decide) (by decide) (sim_fault h.2.2 e)
theorem bo_fighter {a b : Int32} (h : Bo P LW M tp u v) (hs : Same [] [] u u1) (e : x_X11_fighter a b u = some (r1, u1)) : ∃ r2 v1, f_fighter a b v = some (r2, v1) ∧ r1 = r2 ∧ Bo P LW M tp u1 v1 := by
  obtain ⟨n, E, lg, s, p, q, ch, C, hX⟩ := h.1
  exact bo_rd h hs (by decide) (by decide) (by decide) (by decide) (sim_fighter hX e)
theorem bo_fight {a b d : Int32} (h : Bo P LW M tp u v) (hs : Same [] [] u u1) (e : x_X11_fight a b d u = some (r1, u1)) : ∃ r2 v1, f_fight a b d v = some (r2, v1) ∧ r1 = r2 ∧ Bo P LW M tp u1 v1 := by
  obtain ⟨n, E, lg, s, p, q, ch, C, hX⟩ := h.1
  exact bo_rd h hs (by decide) (by decide) (by decide) (by decide) (sim_fight hX e)
theorem bo_mat {a b : Int32} (h : Bo P LW M tp u v) (hs : Same [] [] u u1) (e : x_X11_mat (fun u => (lnw P LW u).2.2) a b u = some (r1, u1)) : ∃ r2 v1, f_mat a b v = some (r2, v1) ∧ r1 = r2 ∧ Bo P LW M tp u1 v1 := by
  obtain ⟨n, E, lg, s, p, q, ch, C, hX⟩ := h.1
  exact bo_rd h hs (by decide) (by decide) (by decide) (by decide) (sim_mat hX e)
theorem bo_count {a : Int32} (h : Bo P LW M tp u v) (h2 : u.1 2 = nI tp) (hs : Same [] [] u u1) (e : x_X11_count (fun u => (lnw P LW u).2.2) a u = some (r1, u1)) : ∃ r2 v1, f_count a v = some (r2, v1) ∧ r1 = r2 ∧ Bo P LW M tp u1 v1 := by
  obtain ⟨n, E, lg, s, p, q, ch, C, hX⟩ := h.1
  exact bo_rd h hs (by decide) (by decide) (by decide) (by decide) (sim_count hX h2 e)
theorem bo_about {a b : Int32} (h : Bo P LW M tp u v) (hs : Same [] [] u u1) : ∃ r2 v1, f_about a b v = some (r2, v1) ∧ Bo P LW M tp u1 v1 := bo_rdw h hs (by decide) (by decide) (by decide) (by decide) (ok_about h.inv.1 h.inv.2 a b)
theorem bo_medalw {a b : Int32} (h : Bo P LW M tp u v) (hs : Same [] [19, 20] u u1) : ∃ r2 v1, f_medal a b v = some (r2, v1) ∧ Bo P LW M tp u1 v1 := bo_rdw h hs (by decide) (by decide) (by decide) (by decide) (rd_medal h.inv.1 h.inv.2 a b)
theorem bo_planw {a b : Int32} (h : Bo P LW M tp u v) (hs : Same [17, 18, 19, 61, 62, 63, 64] [21, 22, 23, 24, 25, 26, 27, 28, 29] u u1) : ∃ r2 v1, f_plan a b v = some (r2, v1) ∧ Bo P LW M tp u1 v1 := by
  obtain ⟨⟨n, E, lg, s, p, q, ch, C, hX⟩, hT, hF⟩ := h
  obtain ⟨r2, v1, e, hL⟩ := planX hX.1 a b
  have hw := fw_plan a b v r2 v1 e
  exact ⟨r2, v1, e, ((hX.same hs (by decide) (by decide) (by decide)).live hL).e, hT.fr (hs.1 2 (by decide)) (hs.2 4 (by decide)) (hw.2 40 rfl), hF.fr ⟨hs.1 11 (by decide), hs.1 10 (by decide)⟩ ⟨hw.1 49 rfl, hw.1 50 rfl⟩⟩
end
