/-! ===== begins ===== -/
/-- w with another array k -/
def sA (k : Nat) (w : GS) (f : Nat → Int32) (m : Nat → Bool) : GS := ((w.1.1, fun a => if a = k then f else w.1.2 a), w.2.1, fun a j => if a = k then m j else w.2.2 a j)
theorem sA_sw (k : Nat) (w : GS) (f : Nat → Int32) (m : Nat → Bool) (j : Nat) (v : Int32) (hj : j < 2 ^ 31) : swd k (nI j) v (sA k w f m) = sA k w (upd f j v) (fun i => if i = j then true else m i) := by
  unfold swd sA wa
  rw [nI_clamp hj]
  refine Prod.ext (Prod.ext rfl ?_) (Prod.ext rfl ?_)
  · funext a
    show (if a = k then upd (if k = k then f else w.1.2 k) j v else if a = k then f else w.1.2 a) = if a = k then upd f j v else w.1.2 a
    by_cases h : a = k
    · rw [if_pos h, if_pos h, if_pos rfl]
    · rw [if_neg h, if_neg h, if_neg h]
  · funext a i
    show (if a = k then (if i = j then true else if k = k then m i else w.2.2 k i) else if a = k then m i else w.2.2 a i) = if a = k then (if i = j then true else m i) else w.2.2 a i
    by_cases h : a = k
    · rw [if_pos h, if_pos h, if_pos rfl]
    · rw [if_neg h, if_neg h, if_neg h]
theorem sA_id (k : Nat) (w : GS) : sA k w (w.1.2 k) (w.2.2 k) = w := by
  unfold sA
  refine Prod.ext (Prod.ext rfl ?_) (Prod.ext rfl ?_)
  · funext a
    show (if a = k then w.1.2 k else w.1.2 a) = w.1.2 a
    by_cases h : a = k
    · rw [if_pos h, h]
    · rw [if_neg h]
  · funext a j
    show (if a = k then w.2.2 k j else w.2.2 a j) = w.2.2 a j
    by_cases h : a = k
    · rw [if_pos h, h]
    · rw [if_neg h]
theorem ok_begins_lp (w : GS) (c i x m : Nat) (hm : m < 4) (K : Int32 → Int32 → Int32 → Int32 → Int32 → PG Int32) (Q : Int32 → GS → Prop) (hK : ∀ f mk, (∀ j, w.2.2 24 j = true → mk j = true) → (∀ k, k < 16 → mk (16 * m + k) = true) → Ok (K (nI c) (nI i) (nI m) (nI x) (nI 16)) (sA 24 w f mk) Q) :
    ∀ (t k n : Nat) (f : Nat → Int32) (mk : Nat → Bool), k + t = 16 → t < n → (∀ j, w.2.2 24 j = true → mk j = true) → (∀ j, j < k → mk (16 * m + j) = true) → Ok (lp_begins_79 n (nI c) (nI i) (nI m) (nI x) (nI k) K) (sA 24 w f mk) Q := by
  intro t
  induction t with
  | zero =>
    intro k n f mk h1 h2 h3 h4
    cases n with
    | zero => omega
    | succ n =>
      have : k = 16 := by omega
      subst this
      unfold lp_begins_79
      exact Ok_ite (fun _ => hK f mk h3 h4) (fun z => absurd (Int32.le_refl _) z)
  | succ t ih =>
    intro k n f mk h1 h2 h3 h4
    cases n with
    | zero => omega
    | succ n =>
      unfold lp_begins_79
      refine Ok_ite (fun z => absurd z (nI_ge (b := 16) (by omega) (by decide))) (fun _ => ?_)
      have e1 : (16 : Int32) * nI m + nI k = nI (16 * m + k) := by rw [← nI_add, ← nI_mul]; rfl
      refine Ok_wdN e1 (by omega) (by decide) (Ok_li ?_)
      rw [sA_sw 24 w f mk _ _ (by omega), nI_1]
      refine ih (k + 1) n _ _ (by omega) (by omega) (fun j hj => ?_) (fun j hj => ?_)
      · show (if j = 16 * m + k then true else mk j) = true
        by_cases hz : j = 16 * m + k
        · rw [if_pos hz]
        · rw [if_neg hz]; exact h3 j hj
      · show (if 16 * m + j = 16 * m + k then true else mk (16 * m + j)) = true
        by_cases hz : 16 * m + j = 16 * m + k
        · rw [if_pos hz]
        · rw [if_neg hz]; exact h4 j (by omega)
def bg1 (x a b m : Nat) (t : Int32) (w : GS) : GS := swd 26 (nI m) 0 (swd 25 (nI m) 0 (swd 23 (nI m) t (swd 22 (nI m) (nI x) (swd 17 (nI x) (nI b) (swd 16 (nI x) (nI a) (swd 15 (nI x) 1 w))))))
theorem bg_sds {w : GS} (c i n m a b : Nat) (t : Int32) (f : Nat → Int32) (mk : Nat → Bool) (hi : i < n) (hd : DrS w c n) (ha : Plc w c a) (hb : Plc w c b) (c2 i2 : Nat) (hc2 : c2 < 4) (hi2 : i2 < 40) (h : Sds w c2 i2 ∨ (c2 = c ∧ i2 = i)) : Sds (sA 24 (bg1 (40 * c + i) a b m t w) f mk) c2 i2 := by
  have hc := hd.2.1
  have h37 := hd.n37
  have hx : 40 * c + i < 2 ^ 31 := by omega
  have hSt : St w (sA 24 (bg1 (40 * c + i) a b m t w) f mk) := ⟨rfl, rfl, rfl, rfl, rfl, rfl, rfl, rfl, rfl, rfl, rfl⟩
  by_cases he : 40 * c2 + i2 = 40 * c + i
  · have h1 : c2 = c := by omega
    have h2 : i2 = i := by omega
    subst h1
    subst h2
    exact ⟨n, hSt.drs hd, hi, ⟨a, sw_A (w := w) (k := 16) hx, hSt.plc ha⟩, b, sw_A (w := w) (k := 17) hx, hSt.plc hb⟩
  · have h1 : Sds w c2 i2 := h.resolve_right (fun z => he (by omega))
    obtain ⟨n2, g1, g2, ⟨a2, g3, g4⟩, b2, g5, g6⟩ := h1
    exact ⟨n2, hSt.drs g1, g2, ⟨a2, sw_An (k := 16) hx he g3, hSt.plc g4⟩, b2, sw_An (k := 17) hx he g5, hSt.plc g6⟩
theorem bg_iR {w : GS} (h : Iv w) (c i n m a b : Nat) (t : Int32) (f : Nat → Int32) (mk : Nat → Bool) (hi : i < n) (hd : DrS w c n) (ha : Plc w c a) (hb : Plc w c b) : iR (sA 24 (bg1 (40 * c + i) a b m t w) f mk) := by
  have hc := hd.2.1
  have h37 := hd.n37
  have hx : 40 * c + i < 2 ^ 31 := by omega
  have hSt : St w (sA 24 (bg1 (40 * c + i) a b m t w) f mk) := ⟨rfl, rfl, rfl, rfl, rfl, rfl, rfl, rfl, rfl, rfl, rfl⟩
  have e15 : ∀ j, (sA 24 (bg1 (40 * c + i) a b m t w) f mk).1.2 15 j = if j = 40 * c + i then 1 else w.1.2 15 j := fun j => sw_v (w := w) (k := 15) (v := 1) hx j
  intro c2 hc2 i2 hi2 hne
  by_cases he : 40 * c2 + i2 = 40 * c + i
  · refine ⟨bg_sds c i n m a b t f mk hi hd ha hb c2 i2 hc2 hi2 (Or.inr ⟨by omega, by omega⟩), fun z => ?_⟩
    rw [e15, if_pos he] at z
    exact absurd z (by decide)
  · have e1 := e15 (40 * c2 + i2)
    rw [if_neg he] at e1
    rw [e1] at hne
    obtain ⟨k1, k2⟩ := h.2.2.2.2.1 c2 hc2 i2 hi2 hne
    refine ⟨bg_sds c i n m a b t f mk hi hd ha hb c2 i2 hc2 hi2 (Or.inl k1), fun z => ?_⟩
    rw [e1] at z
    obtain ⟨⟨f2, k3, k4⟩, k5, k6, k7⟩ := k2 z
    exact ⟨⟨f2, k3, hSt.plc k4⟩, k5, k6, k7⟩
theorem bg_iM {w : GS} (h : Iv w) (c i n m a b : Nat) (t : Int32) (f : Nat → Int32) (mk : Nat → Bool) (hm : m < 4) (hi : i < n) (hd : DrS w c n) (ha : Plc w c a) (hb : Plc w c b) (h3 : ∀ j, w.2.2 24 j = true → mk j = true) (h4 : ∀ k, k < 16 → mk (16 * m + k) = true) : iM (sA 24 (bg1 (40 * c + i) a b m t w) f mk) := by
  have hc := hd.2.1
  have h37 := hd.n37
  have hx : 40 * c + i < 2 ^ 31 := by omega
  have hm31 : m < 2 ^ 31 := by omega
  have e22 : ∀ j, (sA 24 (bg1 (40 * c + i) a b m t w) f mk).1.2 22 j = if j = m then nI (40 * c + i) else w.1.2 22 j := fun j => sw_v (w := swd 17 (nI (40 * c + i)) (nI b) (swd 16 (nI (40 * c + i)) (nI a) (swd 15 (nI (40 * c + i)) 1 w))) (k := 22) (v := nI (40 * c + i)) hm31 j
  intro m2 hm2
  by_cases he : m2 = m
  · subst he
    refine ⟨sw_me (w := w) (k := 22) (v := 0) hm31, fun _ => ⟨⟨c, i, hc, by omega, ?_, ?_⟩, sw_me (w := w) (k := 23) (v := 0) hm31, Or.inl (sw_A (w := w) (k := 25) hm31), Or.inl (sw_A (w := w) (k := 26) hm31), h4⟩⟩
    · rw [e22, if_pos rfl]
    · exact bg_sds c i n m2 a b t f mk hi hd ha hb c i hc (by omega) (Or.inr ⟨rfl, rfl⟩)
  · obtain ⟨k1, k2⟩ := h.2.2.2.2.2.1 m2 hm2
    refine ⟨sw_mm (w := w) (k := 22) (i := nI m) (v := 0) k1, fun z => ?_⟩
    have e2 := e22 m2
    rw [if_neg he] at e2
    rw [e2] at z
    obtain ⟨⟨c2, i2, l1, l2, l3, l4⟩, l5, l6, l7, l8⟩ := k2 z
    refine ⟨⟨c2, i2, l1, l2, e2.trans l3, bg_sds c i n m a b t f mk hi hd ha hb c2 i2 l1 l2 (Or.inl l4)⟩, sw_mm (w := w) (k := 23) (i := nI m) (v := 0) l5, l6.imp (fun z => sw_An (w := w) (k := 25) hm31 he z) (fun z => sw_An (w := w) (k := 25) hm31 he z), l7.imp (fun z => sw_An (w := w) (k := 26) hm31 he z) (fun z => sw_An (w := w) (k := 26) hm31 he z), fun k hk => h3 _ (l8 k hk)⟩
theorem bg_inv {w : GS} (h : Inv w) (c i n m a b : Nat) (t : Int32) (f : Nat → Int32) (mk : Nat → Bool) (hm : m < 4) (hi : i < n) (hd : DrS w c n) (ha : Plc w c a) (hb : Plc w c b) (h3 : ∀ j, w.2.2 24 j = true → mk j = true) (h4 : ∀ k, k < 16 → mk (16 * m + k) = true) (hon : w.1.2 22 m = -1) (hln : ¬ w.1.1 30 = 0) : Inv (sA 24 (bg1 (40 * c + i) a b m t w) f mk) := by
  have hc := hd.2.1
  have h37 := hd.n37
  have hx : 40 * c + i < 2 ^ 31 := by omega
  have hm31 : m < 2 ^ 31 := by omega
  have hSt : St w (sA 24 (bg1 (40 * c + i) a b m t w) f mk) := ⟨rfl, rfl, rfl, rfl, rfl, rfl, rfl, rfl, rfl, rfl, rfl⟩
  have e15 : ∀ j, (sA 24 (bg1 (40 * c + i) a b m t w) f mk).1.2 15 j = if j = 40 * c + i then 1 else w.1.2 15 j := fun j => sw_v (w := w) (k := 15) (v := 1) hx j
  have e22 : ∀ j, (sA 24 (bg1 (40 * c + i) a b m t w) f mk).1.2 22 j = if j = m then nI (40 * c + i) else w.1.2 22 j := fun j => sw_v (w := swd 17 (nI (40 * c + i)) (nI b) (swd 16 (nI (40 * c + i)) (nI a) (swd 15 (nI (40 * c + i)) 1 w))) (k := 22) (v := nI (40 * c + i)) hm31 j
  obtain ⟨hI, jL, jE⟩ := h
  have hI2 := hI
  obtain ⟨jF, jI, jG, jC, jR, jM, jO⟩ := hI2
  refine ⟨⟨jF, jI, jG, ?_, bg_iR hI c i n m a b t f mk hi hd ha hb, bg_iM hI c i n m a b t f mk hm hi hd ha hb h3 h4, ?_⟩, jL, fun _ _ _ => hln⟩
  · intro c2 hc2
    obtain ⟨g1, g2, g3, g4⟩ := jC c2 hc2
    exact ⟨g1, g2, g3.imp (fun z => z) (fun ⟨n, z⟩ => ⟨n, hSt.drs z⟩), fun i2 hi2 => sw_mm (w := w) (k := 15) (i := nI (40 * c + i)) (v := 0) (g4 i2 hi2)⟩
  · intro c2 hc2 i2 hi2 h1
    by_cases he : 40 * c2 + i2 = 40 * c + i
    · exact ⟨m, hm, by rw [e22, if_pos rfl, he]⟩
    · rw [e15, if_neg he] at h1
      obtain ⟨m2, hm2, k1⟩ := jO c2 hc2 i2 hi2 h1
      refine ⟨m2, hm2, ?_⟩
      rw [e22, if_neg ?_]
      · exact k1
      · intro z
        subst z
        rw [hon] at k1
        exact nI_ne_1 (by omega) k1.symm
/-- fight i of class c may begin: both sides are known -/
def Rdy (w : GS) (c i a b : Nat) : Prop := Plc w c a ∧ Plc w c b ∧ fS 24 0 (nI c) (nI i) 0 0 w = some (nI a, w) ∧ fS 24 0 (nI c) (nI i) 1 0 w = some (nI b, w) ∧ w.1.2 15 (40 * c + i) = 0
theorem ok_begins {w : GS} (h : Inv w) (c i n m a b : Nat) (hm : m < 4) (hi : i < n) (hd : DrS w c n) (hr : Rdy w c i a b) (hon : w.1.2 22 m = -1) (hln : ¬ w.1.1 30 = 0) : Ok (f_begins (nI c) (nI i) (nI m)) w (fun _ w1 => Inv w1) := by
  have hc := hd.2.1
  have h37 := hd.n37
  have hx : 40 * c + i < 160 := by omega
  obtain ⟨ha, hb, s0, s1, h15⟩ := hr
  obtain ⟨m27, m28, -⟩ : Lw w := h.2.1.resolve_left hln
  have hq : ∀ v : GS, v.1.2 10 = w.1.2 10 → v.1.2 12 = w.1.2 12 → v.1.2 13 = w.1.2 13 → v.1.2 14 = w.1.2 14 → v.1.2 18 = w.1.2 18 → v.2.2 10 = w.2.2 10 → v.2.2 12 = w.2.2 12 → v.2.2 13 = w.2.2 13 → v.2.2 14 = w.2.2 14 → v.2.2 18 = w.2.2 18 → (∀ j, v.1.2 15 j = (swd 15 (nI (40 * c + i)) 1 w).1.2 15 j) → (∀ j, v.2.2 15 j = (swd 15 (nI (40 * c + i)) 1 w).2.2 15 j) → Eq2 w v := by
    intro v a1 a2 a3 a4 a5 b1 b2 b3 b4 b5 c1 c2
    refine ⟨a1, a2, a3, a4, a5, b1, b2, b3, b4, b5, fun j => ⟨fun z => ?_, ?_⟩⟩
    · rw [c2]
      exact sw_mm z
    · rw [c1, sw_v (by omega)]
      by_cases hz : j = 40 * c + i
      · rw [if_pos hz, hz, h15]
        decide
      · rw [if_neg hz]
  unfold f_begins
  refine Ok_li ?_
  rw [ix40]
  refine Ok_wdN rfl hx (by decide) ?_
  have E1 := hq (swd 15 (nI (40 * c + i)) 1 w) rfl rfl rfl rfl rfl rfl rfl rfl rfl rfl (fun _ => rfl) (fun _ => rfl)
  refine Ok_cl ⟨nI a, _, (sm_fS 24 0 _ _ _ _ w _ E1 _ _ s0).2, ?_⟩
  refine Ok_wdN rfl hx (by decide) ?_
  have E2 := hq (swd 16 (nI (40 * c + i)) (nI a) (swd 15 (nI (40 * c + i)) 1 w)) rfl rfl rfl rfl rfl rfl rfl rfl rfl rfl (fun _ => rfl) (fun _ => rfl)
  refine Ok_cl ⟨nI b, _, (sm_fS 24 0 _ _ _ _ w _ E2 _ _ s1).2, ?_⟩
  refine Ok_wdN rfl hx (by decide) (Ok_wdN rfl hm (by decide) (Ok_rf m27 (Ok_wdN rfl hm (by decide) (Ok_wdN rfl hm (by decide) (Ok_wdN rfl hm (by decide) ?_)))))
  rw [nar_b0]
  have h9 := ok_begins_lp (bg1 (40 * c + i) a b m (w.1.1 27) w) c i (40 * c + i) m hm (fun v1 v2 v3 v4 v5 => prf 27 (fun x_38 => (if x_38 = 0 then pcl (f_goesOver v3) (fun r_41 => prt 1) else prt 1))) (fun _ w1 => Inv w1) (fun f mk h3 h4 => ?_) 16 0 fuel ((bg1 (40 * c + i) a b m (w.1.1 27) w).1.2 24) ((bg1 (40 * c + i) a b m (w.1.1 27) w).2.2 24) (by omega) (by unfold fuel; omega) (fun j z => z) (fun j z => by omega)
  · rw [sA_id] at h9
    exact h9
  · have hv := bg_inv h c i n m a b (w.1.1 27) f mk hm hi hd ha hb (fun j z => h3 j z) h4 hon hln
    refine Ok_rf (w := sA 24 (bg1 (40 * c + i) a b m (w.1.1 27) w) f mk) m27 (Ok_ite (fun _ => ?_) (fun _ => Ok_rt hv))
    exact Ok_cl (Ok.mono (ok_goesOver hv m hm (sw_me (w := w) (k := 25) (v := 0) (by omega)) m28) (fun _ _ z => Ok_rt z))

