/-! ===== plan() on both sides ===== -/
theorem paS_1 : ∀ L < 6, ∀ i < 37, (3 ≤ L ∧ i < 2 ^ L - 1 + 2 * stL (2 ^ L)) → pgS (2 ^ L) i ≤ 20 := by decide +kernel
theorem paS_2 : ∀ L < 6, ∀ i < 37, ∀ k < 2, (3 ≤ L ∧ i < 2 ^ L - 1 + 2 * stL (2 ^ L)) → (paS (2 ^ L) i k).all (fun j => decide (j < 2 ^ L - 1 + 2 * stL (2 ^ L) ∧ pgS (2 ^ L) j < pgS (2 ^ L) i)) = true := by decide +kernel
theorem paS_ok (L : Nat) (hL : L < 6) (h3 : 3 ≤ L) (i : Nat) (hi : i < 37) (hlt : i < 2 ^ L - 1 + 2 * stL (2 ^ L)) : pgS (2 ^ L) i ≤ 20 ∧ ∀ k < 2, (paS (2 ^ L) i k).all (fun j => decide (j < 2 ^ L - 1 + 2 * stL (2 ^ L) ∧ pgS (2 ^ L) j < pgS (2 ^ L) i)) = true := ⟨paS_1 L hL i hi ⟨h3, hlt⟩, fun k hk => paS_2 L hL i hi k hk ⟨h3, hlt⟩⟩
section
variable {P : LwP} {LW : List LwP} {N tp n E ch C : Nat} {u v : MS} {w : GS} {lg : Nat → En} {s : Nat → GS} {p q : Nat → Nat}
theorem SmX.wst (h : SmX P LW N tp u w n E lg s p q ch C) : Wst (u.2 0) w := by
  have hI := h.1.inv
  have h13 := h.1.2.2.2.2.2.2.2.2.2.2
  have hR := h.r0
  have hrx := h.rx
  obtain ⟨⟨-, hNT⟩, ⟨-, -, -, mo⟩, -⟩ := hrx
  refine ⟨hI, h13, hR, fun c hc => (hNT c hc).1, mo, fun c hc => ?_, fun c i hc hi => dr_of hI hR hc hi⟩
  obtain ⟨n2, hK⟩ := (hI.kd h13 c hc).2
  rw [nFi_kd hR hc hK]
  exact hK
theorem SmX.pst (h : SmX P LW N tp u w n E lg s p q ch C) : PdK (u.2 0) (nF w) := by
  have hW := h.wst
  obtain ⟨hI, h13, hR, hNT, hMO, hKd, hDr⟩ := id hW
  have hrx := h.rx
  obtain ⟨-, ⟨-, -, ⟨⟨t0, ht0, e0⟩, ⟨r0, hr0, e1⟩, hvf⟩, -⟩, -⟩ := hrx
  have h96 := hI.1.1.2.2
  have hkn : ∀ c, c < 4 → Kn (u.2 0) c := fun c hc => kn_of h.inv h.rs hc
  have eT : pdT (u.2 0) = t0 := by
    unfold pdT
    rw [e0, nI_clamp (by omega)]
  have eR : pdR (u.2 0) = r0 := by
    unfold pdR
    rw [e1, nI_clamp (by omega)]
  have val : ∀ x k, pdF (u.2 0) x → k < 2 → pdW (u.2 0) x k = -1 ∨ ∃ f, f < nF w ∧ pdW (u.2 0) x k = nI f ∧ Plc w (x / 40) f := fun x k hx hk => by
    have hD := hDr _ _ hx.1 hx.2
    have rv := rows_v hR hD hx.2
    have hval : ∀ sd, sd < 2 → mx2 (vS (u.2 0) (x / 40) (x % 40) sd) = -1 ∨ ∃ f, f < nF w ∧ mx2 (vS (u.2 0) (x / 40) (x % 40) sd) = nI f ∧ Plc w (x / 40) f := fun sd hsd => by
      rcases vS_val hR (hNT _ hx.1) hD hx.2 hsd with e | e | ⟨f, e, hP⟩
      · rw [e]
        exact Or.inl (by decide)
      · rw [e]
        exact Or.inl (by decide)
      · have := hP.1
        rw [e, mx2_id (nI_ne_2 (by omega))]
        exact Or.inr ⟨f, this, rfl, hP⟩
    unfold pdW
    rcases (by omega : k = 0 ∨ k = 1) with rfl | rfl
    · rw [if_pos rfl, rv.1]
      exact hval 0 (by decide)
    · rw [if_neg (by decide), rv.2]
      exact hval 1 (by decide)
  refine ⟨hkn, fun x k hx hk => ?_, fun x y k k2 f hx hy hk hk2 hf e1 e2 => ?_, fun x k y hx hk e => ?_, fun x hx => ?_, h96, by omega, by omega, by rw [eT]; exact e0, by rw [eR]; exact e1, ?_, fun f hf => hvf f (by omega), fun x hx => ?_⟩
  · exact (val x k hx hk).imp (fun z => z) (fun ⟨f, a, b, _⟩ => ⟨f, a, b⟩)
  · have g : ∀ z k, pdF (u.2 0) z → k < 2 → pdW (u.2 0) z k = nI f → Am w 5 f (nI (z / 40)) := fun z k hz hk e => by
      rcases val z k hz hk with a | ⟨f2, a, b, hP⟩
      · rw [e] at a
        exact absurd a (nI_ne_1 (by omega))
      · rw [e] at b
        rw [(nI_eq (by omega) (by omega)).mp b]
        exact hP.2.1
    have h1 := hx.1
    have h2 := hy.1
    exact (nI_eq (by omega) (by omega)).mp ((g x k hx hk e1).inj (g y k2 hy hk2 e2))
  · unfold pdA at e
    by_cases hb : u.2 0 (6 + 36 * (x / 40)) = 1
    · rw [if_pos hb] at e
      exact absurd e (by simp)
    · obtain ⟨L, h3, h5, -, -, ez, en, -⟩ := (hkn _ hx.1).tre hb hx.2
      rw [if_neg hb, ez] at e
      have h37 := (hkn _ hx.1).n37
      have hlt := hx.2
      have hlt2 := hx.2
      rw [en] at hlt2
      obtain ⟨-, hall⟩ := paS_ok L (by omega) h3 (x % 40) (by omega) hlt2
      have hall := hall k hk
      cases e2 : paS (2 ^ L) (x % 40) k with
      | none =>
        rw [e2] at e
        exact absurd e (by simp)
      | some j =>
        rw [e2] at e hall
        have ey : y = 40 * (x / 40) + j := (Option.some.inj e).symm
        obtain ⟨j1, j2⟩ := of_decide_eq_true hall
        have hj40 : j < 40 := by omega
        have d1 : y / 40 = x / 40 := by omega
        have d2 : y % 40 = j := by omega
        refine ⟨⟨by rw [d1]; exact hx.1, by rw [d1, d2, en]; exact j1⟩, d1, ?_⟩
        unfold pdG
        rw [d1, d2, if_neg hb, if_neg hb, ez]
        exact j2
  · unfold pdG
    by_cases hb : u.2 0 (6 + 36 * (x / 40)) = 1
    · rw [if_pos hb]
      exact Nat.zero_le _
    · obtain ⟨L, h3, h5, -, -, ez, en, -⟩ := (hkn _ hx.1).tre hb hx.2
      have h37 := (hkn _ hx.1).n37
      have hlt := hx.2
      have hlt2 := hx.2
      rw [en] at hlt2
      rw [if_neg hb, ez]
      exact (paS_ok L (by omega) h3 (x % 40) (by omega) hlt2).1
  · obtain ⟨F, a, b, c⟩ := hR.ppl hI
    rw [c]
    exact b
  · have hl := (hkn _ hx.1).n37
    have hx2 := hx.2
    have est : pdS (u.2 0) x = _ := bSt_v hR (hNT _ hx.1) (hDr _ _ hx.1 hx.2) hx.2
    have hmk := mkF_or hR hx.1 (i := x % 40) (by omega)
    unfold pdH pdV
    rw [est]
    rcases stV_cases (a := vS (u.2 0) (x / 40) (x % 40) 0) (b := vS (u.2 0) (x / 40) (x % 40) 1) hmk with ⟨-, e⟩ | ⟨-, e⟩ | ⟨-, e | e | e⟩
    · exact Or.inr (Or.inr (Or.inl e))
    · exact Or.inr (Or.inl e)
    · exact Or.inr (Or.inr (Or.inr e))
    · exact Or.inl (Or.inl e)
    · exact Or.inl (Or.inr e)
theorem SmX.pmt (h : SmX P LW N tp u w n E lg s p q ch C) : Pmt (u.2 0) := by
  have hW := h.wst
  obtain ⟨hI, h13, hR, hNT, hMO, hKd, hDr⟩ := id hW
  have hkn : ∀ c, c < 4 → Kn (u.2 0) c := fun c hc => kn_of h.inv h.rs hc
  have cl : ∀ m c i, c < 4 → i < 37 → u.2 0 (mc0 m) = nI c → u.2 0 (mc0 m + 1) = nI i → pdM (u.2 0) m = some (40 * c + i) := fun m c i hc hi e1 e2 => by
    unfold pdM
    rw [if_neg (by rw [e2]; exact nI_ne_1 (by omega)), e1, e2, nI_clamp (by omega), nI_clamp (by omega)]
  have mk2 : ∀ c i, c < 4 → i < nFi (u.2 0) c → i < 37 → (pdS (u.2 0) (40 * c + i) = 2 ↔ u.2 0 (fc c i) = 2) := fun c i hc hi hi37 => by
    rw [pdS_st hW hc hi (by omega)]
    have em : mkF (u.2 0) c i = u.2 0 (fc c i) := if_pos hi37
    rw [← em]
    rcases stV_cases (a := vS (u.2 0) c i 0) (b := vS (u.2 0) c i 1) (mkF_or hR hc hi37) with ⟨z, e⟩ | ⟨z, e⟩ | ⟨z, e | e | e⟩ <;> rw [e, z] <;> decide
  refine ⟨fun m hm x e => ?_, fun x hx h2 => ?_⟩
  · rcases matF_of hI hR hMO hm with ⟨z, -⟩ | ⟨c, i, a, b, hMf⟩
    · unfold pdM at e
      rw [if_pos z] at e
      exact absurd e (by simp)
    · obtain ⟨hc, hi, e1, e2, -⟩ := hMf.on
      rw [cl m c i hc hi e1 e2] at e
      have ex : 40 * c + i = x := Option.some.inj e
      subst ex
      obtain ⟨d1, d2⟩ := d40 (c := c) (i := i) (by omega)
      refine ⟨⟨by rw [d1]; exact hc, by rw [d1, d2]; exact hMf.inn⟩, (mk2 c i hc hMf.inn hi).mpr hMf.k2, ?_, by rw [d1]; exact e1, by rw [d2]; exact e2⟩
      unfold pdB
      rw [d1, d2]
      exact hMf.mo
  · have hc := hx.1
    have hi := hx.2
    have h37 := (hkn _ hc).n37
    have ex : 40 * (x / 40) + x % 40 = x := by omega
    have hk2 : u.2 0 (fc (x / 40) (x % 40)) = 2 := (mk2 _ _ hc hi (by omega)).mp (by rw [ex]; exact h2)
    rcases hR.2.2.2.2.1 (x / 40) hc (x % 40) (by omega) with ⟨a, -⟩ | ⟨⟨-, -, m, hm, -, f⟩ | ⟨a, -⟩, -⟩
    · rw [hk2] at a
      exact absurd a (by decide)
    · refine ⟨m, hm, ?_⟩
      rcases matF_of hI hR hMO hm with ⟨-, z⟩ | ⟨c, i, a, b, hMf⟩
      · exact absurd (f.inj z) (nI_ne_1 (by omega))
      · obtain ⟨hc2, hi2, e1, e2, -⟩ := hMf.on
        obtain ⟨q1, q2⟩ := hMf.on.un (x / 40) (x % 40) hc (by omega) f
        rw [cl m c i hc2 hi2 e1 e2, ← q1, ← q2, ex]
    · rw [hk2] at a
      exact absurd a (by decide)
/-- the plan of the one is the other's -/
def PlR (u : MS) (w : GS) : Prop := Sel u ∧ ∀ c i, c < 4 → i < 37 → (w.1.1 69 = 0 → plM u (37 * c + i) = -1 ∧ plB u (37 * c + i) = -1) ∧ (¬ w.1.1 69 = 0 → plM u (37 * c + i) = w.1.2 61 (40 * c + i) ∧ plB u (37 * c + i) = w.1.2 62 (40 * c + i))
theorem sim_plan {a b r : Int32} (h : SmX P LW N tp u w n E lg s p q ch C) (e : x_X11_plan a b u = some (r, v)) : Ok (f_plan a b) w (fun r2 w2 => r2 = r ∧ (PlR u w → PlR v w2)) := by
  have hB := h.pst
  have hm := h.pmt
  have hW := h.wst
  have c1 : (1 : Int64).toInt = 1 := by decide
  have c4 : (4 : Int64).toInt = 4 := by decide
  have c60 : (60 : Int64).toInt = 60 := by decide
  have k1 : (1 : Int32).toInt = 1 := by decide
  have k4 : (4 : Int32).toInt = 4 := by decide
  have k60 : (60 : Int32).toInt = 60 := by decide
  have bad : ∀ {x y : Int32}, nrt (β := Int32) (-2) u = some (r, v) → r = -2 ∧ v = u := fun {x y} z => by
    cases z
    exact ⟨rfl, rfl⟩
  unfold x_X11_plan at e
  by_cases g1 : a < 1
  · rw [if_pos g1] at e
    obtain ⟨rfl, rfl⟩ := bad (x := a) (y := a) e
    unfold f_plan
    refine Ok_clR (ok_in _ _ _ w) (fun r hr => ?_)
    rw [Int32.toInt_toInt64, c1, c4] at hr
    rcases hr with ⟨-, z, -⟩ | ⟨rfl, -⟩
    · rw [Int32.lt_iff_toInt_lt, k1] at g1
      omega
    · exact Ok_ite (fun _ => Ok_rt ⟨rfl, fun z => z⟩) (fun z => absurd rfl z)
  rw [if_neg g1] at e
  by_cases g2 : 4 < a
  · rw [if_pos g2] at e
    obtain ⟨rfl, rfl⟩ := bad (x := a) (y := a) e
    unfold f_plan
    refine Ok_clR (ok_in _ _ _ w) (fun r hr => ?_)
    rw [Int32.toInt_toInt64, c1, c4] at hr
    rcases hr with ⟨-, -, z⟩ | ⟨rfl, -⟩
    · rw [Int32.lt_iff_toInt_lt, k4] at g2
      omega
    · exact Ok_ite (fun _ => Ok_rt ⟨rfl, fun z => z⟩) (fun z => absurd rfl z)
  rw [if_neg g2] at e
  rw [Int32.lt_iff_toInt_lt, k1] at g1
  rw [Int32.lt_iff_toInt_lt, k4] at g2
  have bad2 : (b.toInt < 1 ∨ 60 < b.toInt) → Ok (f_plan a b) w (fun r2 w2 => r2 = -2 ∧ (PlR u w → PlR u w2)) := fun hb => by
    unfold f_plan
    refine Ok_clR (ok_in _ _ _ w) (fun r hr => ?_)
    rw [Int32.toInt_toInt64, c1, c4] at hr
    rcases hr with ⟨rfl, -⟩ | ⟨-, z⟩
    · refine Ok_ite (fun z => absurd z (by decide)) (fun _ => Ok_clR (ok_in _ _ _ w) (fun r hr => ?_))
      rw [Int32.toInt_toInt64, c1, c60] at hr
      rcases hr with ⟨-, z1, z2⟩ | ⟨rfl, -⟩
      · omega
      · exact Ok_ite (fun _ => Ok_rt ⟨rfl, fun z => z⟩) (fun z => absurd rfl z)
    · omega
  by_cases g3 : b < 1
  · rw [if_pos g3] at e
    obtain ⟨rfl, rfl⟩ := bad (x := a) (y := a) e
    rw [Int32.lt_iff_toInt_lt, k1] at g3
    exact bad2 (Or.inl g3)
  rw [if_neg g3] at e
  by_cases g4 : b ≤ 60
  rotate_left
  · rw [if_neg g4] at e
    obtain ⟨rfl, rfl⟩ := bad (x := a) (y := a) e
    refine bad2 (Or.inr ?_)
    rw [Int32.le_iff_toInt_le, k60] at g4
    omega
  rw [if_pos g4] at e
  rw [Int32.lt_iff_toInt_lt, k1] at g3
  rw [Int32.le_iff_toInt_le, k60] at g4
  have ea := nI_ofT (x := a) (by omega)
  have eb := nI_ofT (x := b) (by omega)
  have m1 : 1 ≤ a.toInt.toNat := by omega
  have m4 : a.toInt.toNat ≤ 4 := by omega
  have d1 : 1 ≤ b.toInt.toNat := by omega
  have d60 : b.toInt.toNat ≤ 60 := by omega
  generalize a.toInt.toNat = M at ea m1 m4
  generalize b.toInt.toNat = d at eb d1 d60
  subst ea
  subst eb
  have hrw : ∀ x, pdF (u.2 0) x → u.2 13 (pds x) = pdW (u.2 0) x 0 ∧ u.2 14 (pds x) = pdW (u.2 0) x 1 ∧ u.2 16 (pds x) = pdS (u.2 0) x := fun x hx => by
    obtain ⟨r1, r2, -, r4⟩ := (h.bd _ hx.1).rows h.rs (dr_of h.inv h.rs hx.1 hx.2) hx.2
    exact ⟨r1, r2, r4⟩
  obtain ⟨l, hl⟩ : ∃ l, l = plO (u.2 0) 3360 := ⟨_, rfl⟩
  obtain ⟨r5, u5, h5, e⟩ := ncl_some e
  obtain ⟨y1, y2, y3⟩ := c_day hl hB hm d60 m1 m4 rfl hrw r5 u5 h5
  have e6 : r = r5 ∧ v = u5 := by
    cases e
    exact ⟨rfl, rfl⟩
  obtain ⟨rfl, rfl⟩ := e6
  refine Ok.mono (r_plan hl hB hm hW rfl d60 d1 m1 m4) (fun r2 w2 z => ?_)
  obtain ⟨z1, z2, z3⟩ := z
  refine ⟨z1.trans y1.symm, fun hp => ⟨y2 hp.1, fun c i hc hi => ⟨fun h0 => ?_, fun _ => ?_⟩⟩⟩
  · rw [z2] at h0
    exact absurd h0 (by decide)
  · obtain ⟨q1, q2⟩ := y3 c i hc hi
    obtain ⟨q3, q4⟩ := z3 (40 * c + i) (by omega)
    exact ⟨q1.trans q3.symm, q2.trans q4.symm⟩
end
theorem bo_plan {P : LwP} {LW : List LwP} {M tp : Nat} {u u1 : MS} {v : GS} {r1 a b : Int32} (h : Bo P LW M tp u v) (hs : Same [17, 18, 19, 61, 62, 63, 64] [21, 22, 23, 24, 25, 26, 27, 28, 29] u u1) (e : x_X11_plan a b u = some (r1, u1)) : ∃ r2 v1, f_plan a b v = some (r2, v1) ∧ r1 = r2 ∧ Bo P LW M tp u1 v1 := by
  obtain ⟨r2, v1, e1, h1⟩ := bo_planw (a := a) (b := b) h hs
  obtain ⟨n, E, lg, s, p, q, ch, C, hX⟩ := h.1
  obtain ⟨r3, v3, e3, q1, -⟩ := sim_plan hX e
  rw [e1] at e3
  cases e3
  exact ⟨r2, v1, e1, q1.symm, h1⟩

