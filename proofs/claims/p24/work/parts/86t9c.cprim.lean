/-! ===== the plan, the class's side: the steps ===== -/
theorem CN.same {β : Type} {LI LA : List Nat} {p : NG β} {u : MS} {Q : β → MS → Prop} (ht : T LI LA p) (h : CN p u Q) : CN p u (fun r v => Same LI LA u v ∧ Q r v) := fun r v e => by
  obtain ⟨r2, v2, e2, hs⟩ := ht u
  rw [e] at e2
  cases e2
  exact ⟨hs, h r v e⟩
theorem CN_SS {β : Type} {a b : Nat} {x i z : Int32} {q : Unit → NG β} {u : MS} {Q : β → MS → Prop} (h : CN (q ()) (sf u (sl x a b) (rs (u.2 (sl x a b)) 148 i z)) Q) : CN (ncl (nSS x a b i z) q) u Q := fun r v e => h r v (by
  have e2 : sl x (sf u a (rs (u.2 a) 148 i z)) (sf u b (rs (u.2 b) 148 i z)) = sf u (sl x a b) (rs (u.2 (sl x a b)) 148 i z) := by
    unfold sl
    split <;> rfl
  rw [← e2]
  exact e)
theorem CN_FS {β : Type} {a b : Nat} {x z : Int32} {q : Unit → NG β} {u : MS} {Q : β → MS → Prop} (h : CN (q ()) (sf u (sl x a b) (fl 148 z (u.2 (sl x a b)))) Q) : CN (ncl (nFS x a b z) q) u Q := fun r v e => h r v (by
  have e2 : sl x (sf u a (fl 148 z (u.2 a))) (sf u b (fl 148 z (u.2 b))) = sf u (sl x a b) (fl 148 z (u.2 (sl x a b))) := by
    unfold sl
    split <;> rfl
  rw [← e2]
  exact e)
theorem CN_FL {β : Type} {a n : Nat} {z : Int32} {q : Unit → NG β} {u : MS} {Q : β → MS → Prop} (h : CN (q ()) (sf u a (fl n z (u.2 a))) Q) : CN (ncl (nFL a n z) q) u Q := h
theorem nI_max {a b : Nat} (ha : a < 2 ^ 31) (hb : b < 2 ^ 31) : (if nI a < nI b then nI b else nI a) = nI (max a b) := by
  by_cases h : a < b
  · rw [if_pos (nI_lt h hb), Nat.max_eq_right (Nat.le_of_lt h)]
  · rw [if_neg (Int32.not_lt.mpr (nI_le (by omega) ha)), Nat.max_eq_left (by omega)]
theorem nI_min {a b : Nat} (ha : a < 2 ^ 31) (hb : b < 2 ^ 31) : (if nI b < nI a then nI b else nI a) = nI (min a b) := by
  by_cases h : b < a
  · rw [if_pos (nI_lt h ha), Nat.min_eq_right (Nat.le_of_lt h)]
  · rw [if_neg (Int32.not_lt.mpr (nI_le (by omega) hb)), Nat.min_eq_left (by omega)]
theorem rdk0 (f : Nat → Int32) : rg f 2088 0 = f 0 := rdB f (j := 0) (by decide)
theorem rdk1 (f : Nat → Int32) : rg f 2088 1 = f 1 := rdB f (j := 1) (by decide)
theorem rdk2 (f : Nat → Int32) : rg f 2088 2 = f 2 := rdB f (j := 2) (by decide)
/-- the slot of a fight in the class's rows -/
def pds (x : Nat) : Nat := 37 * (x / 40) + x % 40
theorem pds_at {c i : Nat} (hi : i < 40) : pds (40 * c + i) = 37 * c + i := by
  unfold pds
  rw [(d40 hi).1, (d40 hi).2]
theorem pds_inj {x y : Nat} (hx : x % 40 < 37) (hy : y % 40 < 37) (h : pds x = pds y) : x = y := by
  unfold pds at h
  omega
theorem div37 : ∀ c < 4, ∀ i < 37, nI (37 * c + i) / 37 = nI c ∧ nI (37 * c + i) - nI (37 * c + i) / 37 * 37 = nI i := by decide +kernel
def CB (B : Nat → Int32) (d aM aB : Nat) (u : MS) : Prop := u.2 0 = B ∧ u.1 18 = nI d ∧ sl (u.1 62) 26 27 = aM ∧ sl (u.1 64) 28 29 = aB ∧ ∀ x, pdF B x → u.2 13 (pds x) = pdW B x 0 ∧ u.2 14 (pds x) = pdW B x 1 ∧ u.2 16 (pds x) = pdS B x
def CRA (B : Nat → Int32) (F aM aB : Nat) (s : PlS) (u : MS) : Prop := (∀ x, pdF B x → u.2 22 (pds x) = (s.2.1 x).elim (-1) nI) ∧ (∀ k, k < 4 → u.2 23 k = nI (s.2.2.2.1 k)) ∧ (∀ f, f < F → u.2 24 f = nI (s.2.2.1 f)) ∧ u.1 19 = nI s.2.2.2.2.1 ∧ ∀ c i, c < 4 → i < 37 → u.2 aM (37 * c + i) = s.2.2.2.2.2.1 (40 * c + i) ∧ u.2 aB (37 * c + i) = s.2.2.2.2.2.2 (40 * c + i)
def CRO (l : List Nat) (u : MS) : Prop := u.1 17 = nI l.length ∧ ∀ k x, l[k]? = some x → u.2 21 k = nI (pds x)
def CRE (B : Nat → Int32) (s : PlS) (u : MS) : Prop := ∀ x, pdF B x → u.2 25 (pds x) = nI (per B s x)
theorem CB.same {B : Nat → Int32} {d aM aB : Nat} {LI LA : List Nat} {u v : MS} (h : CB B d aM aB u) (hs : Same LI LA u v) (h1 : ¬ 18 ∈ LI ∧ ¬ 62 ∈ LI ∧ ¬ 64 ∈ LI) (h2 : ¬ 0 ∈ LA ∧ ¬ 13 ∈ LA ∧ ¬ 14 ∈ LA ∧ ¬ 16 ∈ LA) : CB B d aM aB v := by
  obtain ⟨a, b, e, f, g⟩ := h
  refine ⟨(hs.2 0 h2.1).trans a, (hs.1 18 h1.1).trans b, by rw [hs.1 62 h1.2.1]; exact e, by rw [hs.1 64 h1.2.2]; exact f, fun x hx => ?_⟩
  rw [hs.2 13 h2.2.1, hs.2 14 h2.2.2.1, hs.2 16 h2.2.2.2]
  exact g x hx
theorem CB.ix {B : Nat → Int32} {d aM aB : Nat} {u : MS} (h : CB B d aM aB u) : (aM = 26 ∨ aM = 27) ∧ (aB = 28 ∨ aB = 29) := by
  obtain ⟨-, -, e, f, -⟩ := h
  unfold sl at e f
  refine ⟨?_, ?_⟩
  · split at e
    · exact Or.inl e.symm
    · exact Or.inr e.symm
  · split at f
    · exact Or.inl f.symm
    · exact Or.inr f.symm
theorem CRO.same {l : List Nat} {LI LA : List Nat} {u v : MS} (h : CRO l u) (hs : Same LI LA u v) (h1 : ¬ 17 ∈ LI) (h2 : ¬ 21 ∈ LA) : CRO l v := ⟨(hs.1 17 h1).trans h.1, fun k x e => by rw [hs.2 21 h2]; exact h.2 k x e⟩
theorem CRA.same {B : Nat → Int32} {F aM aB : Nat} {s : PlS} {LI LA : List Nat} {u v : MS} (h : CRA B F aM aB s u) (hs : Same LI LA u v) (h1 : ¬ 19 ∈ LI) (h2 : ¬ 22 ∈ LA ∧ ¬ 23 ∈ LA ∧ ¬ 24 ∈ LA ∧ ¬ aM ∈ LA ∧ ¬ aB ∈ LA) : CRA B F aM aB s v := by
  obtain ⟨a, b, e, f, g⟩ := h
  unfold CRA
  rw [hs.2 22 h2.1, hs.2 23 h2.2.1, hs.2 24 h2.2.2.1, hs.1 19 h1, hs.2 aM h2.2.2.2.1, hs.2 aB h2.2.2.2.2]
  exact ⟨a, b, e, f, g⟩
theorem CN_hold {g : Nat → Nat} {a : Int32} {E F : Nat} {q : Int32 → NG Int32} {u : MS} {Q : Int32 → MS → Prop} (hg : ∀ f, f < F → u.2 24 f = nI (g f)) (hF : F ≤ 96) (ha : a = -1 ∨ ∃ f, f < F ∧ a = nI f) (hb : ∀ f, f < F → g f < 2 ^ 31) (hE : E < 2 ^ 31) (hq : ∀ v, Same [] [24] u v → (∀ f, f < F → v.2 24 f = nI (phd g a E f)) → CN (q 0) v Q) : CN (ncl (x_X6_holdTill a (nI E)) q) u Q := by
  unfold x_X6_holdTill
  by_cases h1 : a = -1
  · rw [if_pos h1]
    refine hq u (Same.rf u) (fun f hf => ?_)
    unfold phd
    rw [if_pos h1]
    exact hg f hf
  · obtain ⟨f, hf, rfl⟩ := ha.resolve_left h1
    have hbf := hb f hf
    rw [if_neg h1]
    refine CN_cl (CN_GT (CN_ST (CN_rt ?_)))
    rw [rg_in (by omega) (by decide), hg f hf, nI_max hbf hE, wrN _ (by omega) (by decide)]
    refine hq _ (Same_sf (by decide)) (fun f2 hf2 => ?_)
    rw [sfE]
    unfold phd
    rw [if_neg h1, nI_clamp (by omega)]
    by_cases he : f2 = f
    · rw [he, upd_e, upN_e]
    · rw [upd_n he, upN_n he]
      exact hg f2 hf2
/-- the four rows that a put writes -/
def s5 (aM aB : Nat) (K a b e m : Int32) (u : MS) : MS := sf (sf (sf (sf u aM (rs (u.2 aM) 148 K a)) aB (rs ((sf u aM (rs (u.2 aM) 148 K a)).2 aB) 148 K b)) 22 (rs ((sf (sf u aM (rs (u.2 aM) 148 K a)) aB (rs ((sf u aM (rs (u.2 aM) 148 K a)).2 aB) 148 K b)).2 22) 148 K e)) 23 (rs ((sf (sf (sf u aM (rs (u.2 aM) 148 K a)) aB (rs ((sf u aM (rs (u.2 aM) 148 K a)).2 aB) 148 K b)) 22 (rs ((sf (sf u aM (rs (u.2 aM) 148 K a)) aB (rs ((sf u aM (rs (u.2 aM) 148 K a)).2 aB) 148 K b)).2 22) 148 K e)).2 23) 4 m e)
theorem s5_v {aM aB K m : Nat} (hM : aM = 26 ∨ aM = 27) (hB : aB = 28 ∨ aB = 29) (hK : K < 148) (hm : m < 4) (a b e : Int32) (u : MS) : Same [] [22, 23, 26, 27, 28, 29] u (s5 aM aB (nI K) a b e (nI m) u) ∧ (s5 aM aB (nI K) a b e (nI m) u).2 aM = upd (u.2 aM) K a ∧ (s5 aM aB (nI K) a b e (nI m) u).2 aB = upd (u.2 aB) K b ∧ (s5 aM aB (nI K) a b e (nI m) u).2 22 = upd (u.2 22) K e ∧ (s5 aM aB (nI K) a b e (nI m) u).2 23 = upd (u.2 23) m e := by
  have hM2 : aM ∈ [22, 23, 26, 27, 28, 29] := by rcases hM with rfl | rfl <;> decide
  have hB2 : aB ∈ [22, 23, 26, 27, 28, 29] := by rcases hB with rfl | rfl <;> decide
  have n1 : ¬ aM = 22 := by omega
  have n2 : ¬ aM = 23 := by omega
  have n3 : ¬ aB = 22 := by omega
  have n4 : ¬ aB = 23 := by omega
  have n5 : ¬ aM = aB := by omega
  refine ⟨((Same_sf hM2).trans (Same_sf hB2)).trans ((Same_sf (by decide)).trans (Same_sf (by decide))), ?_, ?_, ?_, ?_⟩
  · unfold s5
    rw [sfN n2, sfN n1, sfN n5, sfE, wrN a hK (by decide)]
  · unfold s5
    rw [sfN n4, sfN n3, sfE, sfN (fun z => n5 z.symm), wrN b hK (by decide)]
  · unfold s5
    rw [sfN (by decide), sfE, sfN (fun z => n3 z.symm), sfN (fun z => n1 z.symm), wrN e hK (by decide)]
  · unfold s5
    rw [sfE, sfN (by decide), sfN (fun z => n4 z.symm), sfN (fun z => n2 z.symm), wrN e hm (by decide)]
theorem CN_nr {α β : Type} {a : α} {q : α → NG β} {u : MS} {Q : β → MS → Prop} (h : CN (q a) u Q) : CN (ncl (nrt a) q) u Q := h
theorem c_put {B : Nat → Int32} {F d aM aB c i m T : Nat} {s : PlS} {u : MS} (hB : PdK B F) (hd : d ≤ 60) (hx : pdF B (40 * c + i)) (hi : i < 40) (hm : m < 4) (hT : T ≤ 200000) (hs : ∀ f, f < F → s.2.2.1 f < 1000000) (hle : s.2.2.2.2.1 < 1000000) (hC : CB B d aM aB u) (hA : CRA B F aM aB s u) : CN (x_X6_put (nI c) (nI i) (nI m) (nI T)) u (fun _ v => CRA B F aM aB (pputA B d s (40 * c + i) m T) v) := by
  obtain ⟨d1, d2⟩ := d40 (c := c) hi
  obtain ⟨l1, l2, -, l4⟩ := hx.lt hB
  rw [d1] at l1 l4
  rw [d2] at l2 l4
  have hR := hB.2.2.2.2.2.2.2.1
  have hF := hB.2.2.2.2.2.1
  have e1 := hB.2.2.2.2.2.2.2.2.2.1
  have hCs := hC
  obtain ⟨b1, b2, b3, b4, b5⟩ := hC
  obtain ⟨a1, a2, a3, a4, a5⟩ := hA
  obtain ⟨hM, hBx⟩ := hCs.ix
  have sB : ∀ {v : MS}, v.2 0 = B → rg (v.2 0) 2088 1 = nI (pdR B) := fun {v} e => by rw [e, rdk1 B, e1]
  unfold x_X6_put
  rw [e_slot]
  refine CN_RFx b2 (CN_li (CN_RF (CN_nr (CN_SS ?_))))
  rw [b3, nI_add]
  refine CN_RF (CN_nr (CN_SS ?_))
  have b4' : sl ((sf u aM (rs (u.2 aM) 148 (nI (37 * c + i)) (nI m))).1 64) 28 29 = aB := b4
  rw [b4']
  refine CN_nr (CN_ST (CN_ST ?_))
  show CN _ (s5 aM aB (nI (37 * c + i)) (nI m) (nI T) (nI (T + d)) (nI m) u) _
  obtain ⟨v1, v2, v3, v4, v5⟩ := s5_v hM hBx l4 hm (nI m) (nI T) (nI (T + d)) u
  generalize s5 aM aB (nI (37 * c + i)) (nI m) (nI T) (nI (T + d)) (nI m) u = w at v1 v2 v3 v4 v5 ⊢
  have hCw := hCs.same v1 (by decide) (by decide)
  have hrw := hCw.2.2.2.2 _ hx
  rw [pds_at hi] at hrw
  refine CN_rd (e_whiteOf l1 l2) (CN_GT ?_)
  rw [sB hCw.1, nI_add, hrw.1]
  refine CN_hold (g := s.2.2.1) (F := F) (fun f hf => by rw [v1.2 24 (by decide)]; exact a3 f hf) hF (hB.2.1 _ 0 hx (by decide)) (fun f hf => Nat.lt_trans (hs f hf) (by decide)) (by omega) (fun w2 y1 y2 => ?_)
  have hCw2 := hCw.same y1 (by decide) (by decide)
  have hrw2 := hCw2.2.2.2.2 _ hx
  rw [pds_at hi] at hrw2
  refine CN_rd (e_blueOf l1 l2) (CN_GT ?_)
  rw [sB hCw2.1, nI_add, hrw2.2.1]
  refine CN_hold (g := phd s.2.2.1 (pdW B (40 * c + i) 0) (T + d + pdR B)) (F := F) y2 hF (hB.2.1 _ 1 hx (by decide)) (fun f hf => Nat.lt_of_le_of_lt (phd_le (N := 1000000) (fun f hf => Nat.le_of_lt (hs f hf)) (by omega) f hf) (by decide)) (by omega) (fun w3 z1 z2 => ?_)
  have e19 : w3.1 19 = nI s.2.2.2.2.1 := by rw [z1.1 19 (by decide), y1.1 19 (by decide), v1.1 19 (by decide)]; exact a4
  refine CN_RFx e19 (CN_WF (CN_rt ?_))
  rw [nI_max (by omega) (by omega)]
  have f3 : ∀ k, ¬ k = 24 → (si w3 19 (nI (max s.2.2.2.2.1 (T + d)))).2 k = w.2 k := fun k hk => by
    show w3.2 k = w.2 k
    rw [z1.2 k (by simp [hk]), y1.2 k (by simp [hk])]
  unfold CRA
  rw [f3 22 (by decide), f3 23 (by decide), f3 aM (by omega), f3 aB (by omega), v2, v3, v4, v5]
  refine ⟨fun x h => ?_, fun k hk => ?_, z2, rfl, fun c2 i2 hc2 hi2 => ?_⟩
  · show upd (u.2 22) (37 * c + i) (nI (T + d)) (pds x) = ((upN s.2.1 (40 * c + i) (some (T + d))) x).elim (-1) nI
    by_cases he : x = 40 * c + i
    · rw [he, pds_at hi, upd_e, upN_e]
      rfl
    · rw [upN_n he, upd_n (fun z => he (pds_inj (h.lt hB).2.1 (by rw [d2]; exact l2) (by rw [z, pds_at hi])))]
      exact a1 x h
  · show upd (u.2 23) m (nI (T + d)) k = nI (upN s.2.2.2.1 m (T + d) k)
    by_cases he : k = m
    · rw [he, upd_e, upN_e]
    · rw [upd_n he, upN_n he]
      exact a2 k hk
  · show upd (u.2 aM) (37 * c + i) (nI m) (37 * c2 + i2) = upN s.2.2.2.2.2.1 (40 * c + i) (nI m) (40 * c2 + i2) ∧ upd (u.2 aB) (37 * c + i) (nI T) (37 * c2 + i2) = upN s.2.2.2.2.2.2 (40 * c + i) (nI T) (40 * c2 + i2)
    by_cases he : 40 * c2 + i2 = 40 * c + i
    · have e9 : 37 * c2 + i2 = 37 * c + i := by omega
      rw [e9, he, upd_e, upd_e, upN_e, upN_e]
      exact ⟨rfl, rfl⟩
    · have e9 : ¬ 37 * c2 + i2 = 37 * c + i := by omega
      rw [upd_n e9, upd_n e9, upN_n he, upN_n he]
      exact a5 c2 i2 hc2 hi2
theorem erI {x : Nat} : ∀ {l : List Nat} {p : Nat}, l.Nodup → l[p]? = some x → l.eraseIdx p = l.filter (fun y => !(y == x)) := by
  intro l
  induction l with
  | nil => exact fun {p} _ h => by simp at h
  | cons a l ih =>
    intro p hn h
    obtain ⟨h1, h2⟩ := List.nodup_cons.mp hn
    cases p with
    | zero =>
      have e : a = x := by simpa using h
      subst e
      have h3 : l.filter (fun y => !(y == a)) = l := List.filter_eq_self.mpr (fun y hy => by
        have : ¬ y = a := fun z => h1 (by rw [← z]; exact hy)
        simp [this])
      rw [List.filter_cons_of_neg (by simp), h3]
      rfl
    | succ p =>
      have h0 : l[p]? = some x := by simpa using h
      have hne : ¬ a = x := fun z => h1 (by rw [z]; exact List.mem_of_getElem? h0)
      rw [List.filter_cons_of_pos (by simp [hne]), ← ih h2 h0]
      rfl
theorem CRA.sec {B : Nat → Int32} {F aM aB : Nat} {s s2 : PlS} {u : MS} (h : CRA B F aM aB s u) (e : s2.2 = s.2) : CRA B F aM aB s2 u := by
  unfold CRA at h ⊢
  rw [e]
  exact h
theorem c_take_lp {l : List Nat} {p : Nat} (hl : l.length ≤ 148) (a : Int32) (Q : Int32 → MS → Prop) : ∀ (t k n : Nat) (v : MS), k + t + 1 = l.length → t < n → p ≤ k → v.1 17 = nI (l.length - 1) → (∀ j x, j < k → (l.eraseIdx p)[j]? = some x → v.2 21 j = nI (pds x)) → (∀ j x, k ≤ j → l[j]? = some x → v.2 21 j = nI (pds x)) → (∀ v, CRO (l.eraseIdx p) v → Q 0 v) → CN (xl_X6_takeOutOfOrder_12 n a (nI k) (fun _ _ => nrt 0)) v Q := by
  intro t
  induction t with
  | zero =>
    intro k n v h1 h2 hp h17 ha hb hQ
    cases n with
    | zero => omega
    | succ n =>
      have hlen : (l.eraseIdx p).length = l.length - 1 := by rw [List.length_eraseIdx, if_pos (by omega)]
      unfold xl_X6_takeOutOfOrder_12
      refine CN_RFx h17 (CN_ite (fun _ => CN_rt (hQ v ⟨by rw [hlen]; exact h17, fun j x e => ha j x ?_ e⟩)) (fun z => absurd (nI_le (by omega) (by omega)) z))
      have := (List.getElem?_eq_some_iff.mp e).1
      omega
  | succ t ih =>
    intro k n v h1 h2 hp h17 ha hb hQ
    cases n with
    | zero => omega
    | succ n =>
      unfold xl_X6_takeOutOfOrder_12
      refine CN_RFx h17 (CN_ite (fun z => absurd z (nI_ge (by omega) (by omega))) (fun _ => CN_GT (CN_ST (CN_li ?_))))
      rw [nI_1, rg_in (by omega) (by decide), wrN _ (by omega) (by decide)]
      have e21 : ∀ j, (sf v 21 (upd (v.2 21) k (v.2 21 (k + 1)))).2 21 j = upd (v.2 21) k (v.2 21 (k + 1)) j := fun j => by rw [sfE]
      refine ih (k + 1) n _ (by omega) (by omega) (by omega) h17 (fun j x hj e => ?_) (fun j x hj e => ?_) hQ
      · rw [e21]
        by_cases he : j = k
        · rw [he, upd_e]
          rw [he, List.getElem?_eraseIdx_of_ge hp] at e
          exact hb (k + 1) x (by omega) e
        · rw [upd_n he]
          exact ha j x (by omega) e
      · rw [e21, upd_n (by omega)]
        exact hb j x (by omega) e
theorem c_take {l : List Nat} {p : Nat} {u : MS} (hl : l.length ≤ 148) (hp : p < l.length) (h : CRO l u) : CN (x_X6_takeOutOfOrder (nI p)) u (fun _ v => CRO (l.eraseIdx p) v) := by
  unfold x_X6_takeOutOfOrder
  refine CN_RFx h.1 (CN_WF ?_)
  have e1 : nI l.length - 1 = nI (l.length - 1) := nI_sub (b := 1) (by omega)
  rw [e1]
  refine c_take_lp hl (nI p) _ (l.length - 1 - p) p fuel _ (by omega) (by unfold fuel; omega) (Nat.le_refl _) rfl (fun j x hj e => ?_) (fun j x hj e => h.2 j x e) (fun v hv => hv)
  rw [List.getElem?_eraseIdx_of_lt hj] at e
  exact h.2 j x e
theorem c_first_lp {B : Nat → Int32} {F N : Nat} {s : PlS} {u : MS} {l : List Nat} {T : Nat} (hB : PdK B F) (hl : l.length ≤ 148) (hlF : ∀ x, x ∈ l → pdF B x) (hN : ∀ x, pdF B x → per B s x < 2 ^ 31) (hT : T < 2 ^ 31) (hO : CRO l u) (hE : CRE B s u) : ∀ (l2 : List Nat) (k n : Nat), l.drop k = l2 → k + l2.length = l.length → l2.length < n → CN (xl_X6_firstThatMay_2 n (nI T) (nI k) (fun _ _ => nrt (-1))) u (fun r v => v = u ∧ ((r = -1 ∧ pfst B s T l2 = none) ∨ ∃ p x, r = nI p ∧ l[p]? = some x ∧ pfst B s T l2 = some x)) := by
  intro l2
  induction l2 with
  | nil =>
    intro k n h1 h2 h3
    cases n with
    | zero => exact absurd h3 (Nat.not_lt_zero _)
    | succ n =>
      unfold xl_X6_firstThatMay_2
      have h2' : k = l.length := h2
      exact CN_RFx hO.1 (CN_ite (fun _ => CN_rt ⟨rfl, Or.inl ⟨rfl, rfl⟩⟩) (fun z => absurd (nI_le (by omega) (by omega)) z))
  | cons x l2 ih =>
    intro k n h1 h2 h3
    cases n with
    | zero => exact absurd h3 (Nat.not_lt_zero _)
    | succ n =>
      have h2' : k + (l2.length + 1) = l.length := h2
      have h3' : l2.length + 1 < n + 1 := h3
      have ex : l[k]? = some x := by
        have := congrArg (fun z => z[0]?) h1
        simpa using this
      have hx : x ∈ l := List.mem_of_getElem? ex
      have hxF := hlF x hx
      have ed : l.drop (k + 1) = l2 := by
        rw [← List.drop_drop, h1]
        rfl
      unfold xl_X6_firstThatMay_2
      refine CN_RFx hO.1 (CN_ite (fun z => absurd z (nI_ge (by omega) (by omega))) (fun _ => CN_GT ?_))
      rw [rg_in (by omega) (by decide), hO.2 k x ex]
      refine CN_GT ?_
      rw [rg_in (show pds x < 148 from (hxF.lt hB).2.2.2) (by decide), hE x hxF]
      refine CN_ite (fun hlt => CN_li ?_) (fun hge => CN_rt ⟨rfl, Or.inr ⟨k, x, rfl, ex, ?_⟩⟩)
      · rw [nI_1]
        have hn : ¬ per B s x ≤ T := fun z => absurd (nI_le z hT) (Int32.not_le.mpr hlt)
        have ef : pfst B s T (x :: l2) = pfst B s T l2 := by
          unfold pfst
          rw [List.find?_cons_of_neg (by simpa using hn)]
        rw [ef]
        exact ih (k + 1) n ed (by omega) (by omega)
      · have hp : per B s x ≤ T := Nat.not_lt.mp (fun z => hge (nI_lt z (hN x hxF)))
        unfold pfst
        rw [List.find?_cons_of_pos (by simpa using hp)]
theorem c_first {B : Nat → Int32} {F : Nat} {s : PlS} {u : MS} {l : List Nat} {T : Nat} (hB : PdK B F) (hl : l.length ≤ 148) (hlF : ∀ x, x ∈ l → pdF B x) (hN : ∀ x, pdF B x → per B s x < 2 ^ 31) (hT : T < 2 ^ 31) (hO : CRO l u) (hE : CRE B s u) : CN (x_X6_firstThatMay (nI T)) u (fun r v => v = u ∧ ((r = -1 ∧ pfst B s T l = none) ∨ ∃ p x, r = nI p ∧ l[p]? = some x ∧ pfst B s T l = some x)) := by
  unfold x_X6_firstThatMay
  exact c_first_lp (N := 0) hB hl hlF hN hT hO hE l 0 fuel (List.drop_zero) (by omega) (by unfold fuel; omega)
theorem e_behind {B : Nat → Int32} {F N d aM aB c x k : Nat} {s : PlS} {u : MS} (hB : PdK B F) (hC : CB B d aM aB u) (hA : CRA B F aM aB s u) (hx : pdF B x) (hk : k < 2) (hc : x / 40 = c) (hN : ∀ y e, s.2.1 y = some e → e < 1000000) : x_X6_behindFight (nI c) ((pdA B x k).elim (-1) (fun y => nI (y % 40))) u = some (nI (pbh B s (pdA B x k)), u) := by
  have e1 := hB.2.2.2.2.2.2.2.2.2.1
  unfold x_X6_behindFight
  cases e : pdA B x k with
  | none =>
    show (if (-1 : Int32) = -1 then nrt 0 else _) u = _
    rw [if_pos rfl]
    rfl
  | some y =>
    obtain ⟨yF, yc, -⟩ := hB.2.2.2.1 x k y hx hk e
    obtain ⟨l1, l2, -, l4⟩ := yF.lt hB
    rw [yc, hc] at l1 l4
    have hp : pds y = 37 * c + y % 40 := by
      unfold pds
      rw [yc, hc]
    obtain ⟨-, -, r3⟩ := hC.2.2.2.2 y yF
    have h22 := hA.1 y yF
    rw [hp] at r3 h22
    have eo : (some y).elim (-1 : Int32) (fun y => nI (y % 40)) = nI (y % 40) := rfl
    rw [eo]
    show (if nI (y % 40) = -1 then nrt 0 else _) u = some (nI (if pdV B y then 0 else (s.2.1 y).elim 1000000 (fun e => e + pdR B)), u)
    rw [if_neg (nI_ne_1 (by omega))]
    refine ncl_eq2 (e_stateOf l1 l2 u) ?_
    rw [r3]
    by_cases h3 : pdS B y = 3
    · rw [if_pos h3, if_pos (Or.inl h3)]
      rfl
    · rw [if_neg h3]
      refine ncl_eq2 (e_stateOf l1 l2 u) ?_
      rw [r3]
      by_cases h4 : pdS B y = 4
      · rw [if_pos h4, if_pos (Or.inr h4)]
        rfl
      · rw [if_neg h4, if_neg (fun z => z.elim h3 h4), e_slot, ncl_rt]
        refine ncl_eq2 (a := (s.2.1 y).elim (-1) nI) (v := u) ?_ ?_
        · show some (rg (u.2 22) 148 (nI (37 * c + y % 40)), u) = _
          rw [rg_in l4 (by decide), h22]
        · cases e2 : s.2.1 y with
          | none =>
            show (if (-1 : Int32) = -1 then nrt 1000000 else _) u = _
            rw [if_pos rfl]
            rfl
          | some z =>
            have hz := hN y z e2
            show (if nI z = -1 then nrt 1000000 else _) u = _
            rw [if_neg (nI_ne_1 (by omega))]
            show some (nI z + rg (u.2 0) 2088 1, u) = some (nI (z + pdR B), u)
            rw [hC.1, rdk1 B, e1, nI_add]
theorem e_free {B : Nat → Int32} {F aM aB x k : Nat} {s : PlS} {u : MS} (hB : PdK B F) (hA : CRA B F aM aB s u) (hx : pdF B x) (hk : k < 2) : x_X6_freeFrom (pdW B x k) u = some (nI (pfr s (pdW B x k)), u) := by
  have hF := hB.2.2.2.2.2.1
  unfold x_X6_freeFrom pfr
  rcases hB.2.1 x k hx hk with z | ⟨f, hf, z⟩
  · rw [if_pos z, if_pos z]
    rfl
  · have hne : ¬ pdW B x k = -1 := by rw [z]; exact nI_ne_1 (by omega)
    rw [if_neg hne, if_neg hne, z]
    show some (rg (u.2 24) 96 (nI f), u) = _
    rw [rg_in (by omega) (by decide), hA.2.2.1 f hf, nI_clamp (by omega)]
theorem c_erl_lp {B : Nat → Int32} {F d aM aB c : Nat} {s : PlS} {u0 : MS} (hB : PdK B F) (hc : c < 4) (hN : ∀ x, pdF B x → per B s x < 2 ^ 31) (hf2 : ∀ f, f < F → s.2.2.1 f < 2 ^ 31) (he2 : ∀ y e, s.2.1 y = some e → e < 1000000) (hC : CB B d aM aB u0) (hA : CRA B F aM aB s u0) (Q : Int32 → MS → Prop) (hQ : ∀ v, Same [] [25] u0 v → (∀ x, pdF B x → (x / 40 = c → v.2 25 (pds x) = nI (per B s x)) ∧ (¬ x / 40 = c → v.2 25 (pds x) = u0.2 25 (pds x))) → Q 0 v) : ∀ (t i n : Nat) (v : MS), i + t = nFi B c → t < n → Same [] [25] u0 v → (∀ x, pdF B x → (x / 40 = c → x % 40 < i → v.2 25 (pds x) = nI (per B s x)) ∧ (¬ x / 40 = c → v.2 25 (pds x) = u0.2 25 (pds x))) → CN (xl_X6_findEarliest_2 n (nI c) (nI i) (fun _ _ => nrt 0)) v Q := by
  have hk := hB.1 c hc
  have h37 := hk.n37
  intro t
  induction t with
  | zero =>
    intro i n v h1 h2 hs hv
    cases n with
    | zero => omega
    | succ n =>
      unfold xl_X6_findEarliest_2
      have hCv := hC.same hs (by decide) (by decide)
      refine CN_rd (e_fightsOf hCv.1 hc hk) (CN_ite (fun _ => CN_rt (hQ v hs (fun x hx => ⟨fun hxc => (hv x hx).1 hxc ?_, (hv x hx).2⟩))) (fun z => absurd (nI_le (by omega) (by omega)) z))
      have := hx.2
      rw [hxc] at this
      omega
  | succ t ih =>
    intro i n v h1 h2 hs hv
    cases n with
    | zero => omega
    | succ n =>
      have hCv := hC.same hs (by decide) (by decide)
      have hMx := hC.ix
      have hAv := hA.same hs (by decide) ⟨by decide, by decide, by decide, by simp; omega, by simp; omega⟩
      have hi : i < nFi B c := by omega
      have hi37 : i < 37 := by omega
      obtain ⟨d1, d2⟩ := d40 (c := c) (i := i) (by omega)
      have hx : pdF B (40 * c + i) := by
        unfold pdF
        rw [d1, d2]
        exact ⟨hc, hi⟩
      have hr := hCv.2.2.2.2 _ hx
      rw [pds_at (by omega)] at hr
      have hkv : Kn (v.2 0) c := by rw [hCv.1]; exact hk
      have ea := fun k (hk2 : k < 2) => e_aheadOf (k := k) hc hkv (by rw [hCv.1]; exact hi) hk2
      rw [hCv.1] at ea
      unfold xl_X6_findEarliest_2
      refine CN_rd (e_fightsOf hCv.1 hc hk) (CN_ite (fun z => absurd z (nI_ge (by omega) (by omega))) (fun _ => ?_))
      refine CN_rd (e_whiteOf hc hi37) ?_
      rw [hr.1]
      refine CN_rd (e_free hB hAv hx (by decide)) (CN_rd (e_blueOf hc hi37) ?_)
      rw [hr.2.1]
      refine CN_rd (e_free hB hAv hx (by decide)) (CN_li ?_)
      have l0 : pfr s (pdW B (40 * c + i) 0) < 2 ^ 31 ∧ pfr s (pdW B (40 * c + i) 1) < 2 ^ 31 ∧ pbh B s (pdA B (40 * c + i) 0) < 2 ^ 31 ∧ pbh B s (pdA B (40 * c + i) 1) < 2 ^ 31 := by
        have := hN _ hx
        unfold per at this
        omega
      rw [nI_max l0.1 l0.2.1]
      refine CN_rd (ea 0 (by decide)) (CN_rd (e_behind (N := 0) hB hCv hAv hx (by decide) d1 he2) (CN_rd (ea 1 (by decide)) (CN_rd (e_behind (N := 0) hB hCv hAv hx (by decide) d1 he2) ?_)))
      rw [nI_max l0.2.2.1 l0.2.2.2, nI_max (by omega) (by omega), e_slot, ncl_rt]
      refine CN_ST (CN_li ?_)
      rw [nI_1, wrN _ (by omega) (by decide)]
      refine ih (i + 1) n _ (by omega) (by omega) (hs.trans (Same_sf (by decide))) (fun y hy => ?_)
      rw [sfE]
      obtain ⟨y1, y2⟩ := hv y hy
      have hyl := hy.lt hB
      refine ⟨fun yc yi => ?_, fun yc => ?_⟩
      · by_cases he : y = 40 * c + i
        · rw [he, pds_at (by omega), upd_e]
          rfl
        · have hne : ¬ pds y = 37 * c + i := by
            unfold pds
            omega
          rw [upd_n hne]
          exact y1 yc (by omega)
      · have hne : ¬ pds y = 37 * c + i := by
          unfold pds
          omega
        rw [upd_n hne]
        exact y2 yc
theorem c_erl {B : Nat → Int32} {F d aM aB c : Nat} {s : PlS} {u : MS} (hB : PdK B F) (hc : c < 4) (hN : ∀ x, pdF B x → per B s x < 2 ^ 31) (hf2 : ∀ f, f < F → s.2.2.1 f < 2 ^ 31) (he2 : ∀ y e, s.2.1 y = some e → e < 1000000) (hC : CB B d aM aB u) (hA : CRA B F aM aB s u) : CN (x_X6_findEarliest (nI c)) u (fun _ v => Same [] [25] u v ∧ ∀ x, pdF B x → (x / 40 = c → v.2 25 (pds x) = nI (per B s x)) ∧ (¬ x / 40 = c → v.2 25 (pds x) = u.2 25 (pds x))) := by
  unfold x_X6_findEarliest
  exact c_erl_lp hB hc hN hf2 he2 hC hA _ (fun v h1 h2 => ⟨h1, h2⟩) (nFi B c) 0 fuel u (by omega) (by have := (hB.1 c hc).n37; unfold fuel; omega) (Same.rf u) (fun x hx => ⟨fun _ h => absurd h (Nat.not_lt_zero _), fun _ => rfl⟩)

