/-! ===== laws(), the reference, with its answers ===== -/
theorem Ok.fx {I A : Nat → Bool} {p : PG (Option Int32)} {w : GS} {Q : Option Int32 → GS → Prop} (h : Ok p w Q) (h2 : Fx I A p) : Ok p w (fun r v => Q r v ∧ ∀ x, r = some x → FwR I A w v) := by
  obtain ⟨r, v, e, q⟩ := h
  refine ⟨r, v, e, q, fun x hx => ?_⟩
  subst hx
  exact h2 w x v e
theorem LRel.lft {L : MS} {t u : GS} (h : LRel L t) (hg : Ag t u) : LRel L (lf t u) := by
  have im : ∀ {k x}, isL k = true → Im t k x → Im (lf t u) k x := fun {k x} hk z => by
    refine ⟨?_, (hg.1 k (trk_L hk) z.1).2.trans z.2⟩
    rw [lf_li hk, z.1, (hg.1 k (trk_L hk) z.1).1]
    rfl
  have am : ∀ {k j x}, isA k = true → Am t k j x → Am (lf t u) k j x := fun {k j x} hk z => by
    refine ⟨?_, (hg.2 k j (trk_A hk) z.1).2.trans z.2⟩
    rw [lf_la hk, z.1, (hg.2 k j (trk_A hk) z.1).1]
    rfl
  obtain ⟨a, b, c, d, e, f, g, nl, n1, n2, n3⟩ := h
  refine ⟨a, im rfl b, im rfl c, im rfl d, im rfl e, im rfl f, g, nl, n1, n2, fun l hl => ?_⟩
  obtain ⟨pt, p1, p2, p3, x, y, q1, q2, q3, q4, q5, q6, q7, T, t1, t2, t3⟩ := n3 l hl
  refine ⟨pt, p1, p2, am rfl p3, x, y, q1, q2, am rfl q3, am rfl q4, q5, q6, q7, T, t1, t2, fun k k1 k2 => ?_⟩
  obtain ⟨y1, kd, f, y2, y3, y4, y5, y6⟩ := t3 k k1 k2
  exact ⟨y1, kd, f, am rfl y2, am rfl y3, y4, y5, y6⟩
def K56V (u x : GS) (a k : Nat) : Prop := K56 u x k ∧ ∀ j, j < k → x.1.2 56 j = vp_nar .byte (u.1.2 54 (a + j))
theorem ok_take_lpV {u : GS} (a n : Nat) (ha : a + n ≤ 24000) (hn : n ≤ 3000) (h54 : ∀ k, k < n → u.2.2 54 (a + k) = true) (K : Int32 → Int32 → Int32 → PG Int32) (Q : Int32 → GS → Prop) (hK : ∀ x v3, K56V u x a n → Ok (K (nI a) (nI n) v3) x Q) :
    ∀ (t k m : Nat) (x : GS), k + t = n → t < m → K56V u x a k → Ok (lp_takeLaws_2 m (nI a) (nI n) (nI k) K) x Q := by
  intro t
  induction t with
  | zero =>
    intro k m x h1 h2 hc
    cases m with
    | zero => omega
    | succ m =>
      have e : k = n := by omega
      subst e
      unfold lp_takeLaws_2
      exact Ok_ite (fun _ => hK x _ hc) (fun z => absurd (Int32.le_refl _) z)
  | succ t ih =>
    intro k m x h1 h2 hc
    cases m with
    | zero => omega
    | succ m =>
      unfold lp_takeLaws_2
      refine Ok_ite (fun z => absurd z (nI_ge (by omega) (by omega))) (fun _ => ?_)
      obtain ⟨hc, hv⟩ := hc
      have hm : x.2.2 54 (a + k) = true := by rw [(hc.2.2.1 54 (by decide)).2]; exact h54 k (by omega)
      have e54 : x.1.2 54 (a + k) = u.1.2 54 (a + k) := by rw [(hc.2.2.1 54 (by decide)).1]
      refine Ok_rdN (nI_add a k) (by omega) (by decide) (Am.val hm) (Ok_wdN rfl (by omega) (by decide) (Ok_li ?_))
      rw [nI_1, e54]
      refine ih (k + 1) m _ (by omega) (by omega) ⟨⟨hc.1, hc.2.1, fun a2 ha2 => ?_, fun j hj => ?_⟩, fun j hj => ?_⟩
      · have h9 := sw_o (w := x) (k := 56) (i := nI k) (v := vp_nar .byte (u.1.2 54 (a + k))) (k2 := a2) ha2
        exact ⟨h9.1.trans (hc.2.2.1 a2 ha2).1, h9.2.trans (hc.2.2.1 a2 ha2).2⟩
      · by_cases he : j = k
        · subst he
          exact sw_me (v := vp_nar .byte (u.1.2 54 (a + j))) (by omega)
        · exact sw_mm (hc.2.2.2 j (by omega))
      · by_cases he : j = k
        · subst he
          exact sw_ve (by omega)
        · exact (sw_vn (by omega) he).trans (hv j (by omega))
section
variable {T : Nat → Nat} {c c2 : MS}
/-- a text that the class has read, taken by the reference -/
theorem take_ex {u : GS} (a n : Nat) (ha : a + n ≤ 24000) (hn : n ≤ 3000) (h54 : ∀ k, k < n → u.2.2 54 (a + k) = true) (hv : ∀ k, k < n → u.1.2 54 (a + k) = sb (T k)) (hTC : TC T n c) (hc : x_X5_readLaws c = some (1, c2)) : Ok (f_takeLaws (nI a) (nI n)) u (fun r v => r = c2.1 23 ∧ LRel (dL c2) v) := by
  unfold f_takeLaws
  refine ok_take_lpV a n ha hn h54 _ _ (fun x v3 hx => ?_) n 0 fuel u (by omega) (by unfold fuel; omega) ⟨⟨rfl, rfl, fun _ _ => ⟨rfl, rfl⟩, fun j hj => absurd hj (Nat.not_lt_zero _)⟩, fun j hj => absurd hj (Nat.not_lt_zero _)⟩
  obtain ⟨hx, hxv⟩ := hx
  refine Ok_wf (Ok_wf ?_)
  have hT : Tx (swf 43 (nI n) (swf 41 1 x)) n := ⟨(swf_o (by decide)).2.trans (swf_e (w := x) (k := 41) (x := 1)).1, Or.inr hx.2.2.2, swf_e, hn⟩
  have e41 : (swf 43 (nI n) (swf 41 1 x)).1.1 41 = 1 := (swf_o (by decide)).1.trans (swf_e (w := x) (k := 41) (x := 1)).2
  have hTR : TR T n (swf 43 (nI n) (swf 41 1 x)) := by
    refine ⟨hT, trivial, fun i hi => ⟨(hTC.2.2 i hi).1, ?_⟩⟩
    unfold rz
    rw [e41, if_neg (by decide)]
    show (swf 43 (nI n) (swf 41 1 x)).1.2 56 (nI i).toNatClampNeg = sb (T i)
    rw [nI_clamp (by omega)]
    show x.1.2 56 i = sb (T i)
    rw [hxv i hi, hv i hi, nar_sb _ (hTC.2.2 i hi).1]
  generalize swf 43 (nI n) (swf 41 1 x) = y at hTR
  refine Ok_uf' (fun x49 _ => Ok_uf' (fun x50 _ => Ok_cl (Ok.mono (ls_readAll hTC hTR) (fun ro v z => ?_))))
  rcases z with ⟨-, f, p, -, -, -, hCN⟩ | ⟨rfl, hCN⟩
  · have h9 := (hCN _ _ hc).1
    exact absurd h9 (by decide)
  · have hL := (hCN _ _ hc).2.2
    have hL2 : LRel (dL c2) (swf 50 x50 (swf 49 x49 v)) := hL.fr (((LFr.rf v).wf (by decide) _).wf (by decide) _)
    exact Ok_otS (Ok_wf (Ok_wf (Ok_rfN hL2.2.2.2.2.1 (Ok_rt ⟨rfl, hL2⟩))))
theorem t1_rel {tx : Nat → Int32} {f n : Nat} (hf : f + n ≤ 24000) (hn : n ≤ 3000) (hx : ∀ j, j < n → tx (f + j) = sb (T j)) (hTC : TC T n c) (hc : x_X5_readLaws c = some (1, c2)) : LRel (dL c2) (t1 f n tx) := by
  obtain ⟨⟨r, e⟩, -⟩ := t1_ok (tx := tx) hf hn
  have hv : ∀ k, k < n → (tput f n tx B0).1.2 54 (f + k) = sb (T k) := fun k hk => by
    rw [← hx k hk]
    show (if 54 = 54 then (fun j => if f ≤ j ∧ j < f + n then tx j else B0.1.2 54 j) else B0.1.2 54) (f + k) = tx (f + k)
    rw [if_pos rfl]
    exact if_pos ⟨by omega, by omega⟩
  obtain ⟨r2, v, e2, -, h⟩ := take_ex (u := tput f n tx B0) f n hf hn (fun k hk => tput_m k hk) hv hTC hc
  rw [e] at e2
  cases e2
  exact h
/-- an entry of laws, with what the laws are -/
theorem stp_lawX {E f n : Nat} {c0 : Int32} {tx : Nat → Int32} {u : GS} (h : Inv u) (hfree : ∀ m, m < 4 → u.1.2 22 m = -1) (hf : f + n ≤ E) (hE : E ≤ 24000) (hn : n ≤ 3000) (hx : ∀ j, j < n → tx (f + j) = sb (T j)) (hTC : TC T n c) (hc : x_X5_readLaws c = some (1, c2)) : ∃ v, stp E (0, nI f, nI n, c0) tx u v ∧ Inv v ∧ NoS v ∧ lawc v (t1 f n tx) ∧ LRel (dL c2) v ∧ (∀ k, (k = 2 ∨ k = 3 ∨ k = 4) → v.1.1 k = u.1.1 k ∧ v.2.1 k = u.2.1 k) ∧ ∀ k, k ≤ 26 → v.1.2 k = u.1.2 k ∧ v.2.2 k = u.2.2 k := by
  obtain ⟨⟨r0, e0⟩, hL⟩ := t1_ok (tx := tx) (by omega : f + n ≤ 24000) hn
  have hR := t1_rel (tx := tx) (by omega : f + n ≤ 24000) hn hx hTC hc
  have hag : Ag (tput f n tx B0) (tput f n tx u) := by
    refine tput_ag (B0_ag _) (fun j h1 h2 => ?_)
    show (if 54 = 54 then (if f ≤ j ∧ j < f + n then true else u.2.2 54 j) else u.2.2 54 j) = true ∧ (if f ≤ j ∧ j < f + n then tx j else u.1.2 54 j) = tx j
    rw [if_pos rfl, if_pos ⟨h1, h2⟩, if_pos ⟨h1, h2⟩]
    exact ⟨rfl, rfl⟩
  obtain ⟨u1, e1, g1, -⟩ := det_takeLaws (nI f) (nI n) _ _ hag (fun z => by cases z) _ _ e0
  obtain ⟨r2, u2, e2, hT, hL2, -⟩ := ok_takeLaws (u := tput f n tx u) f n (by omega) hn (fun k hk => tput_m k hk)
  rw [e1] at e2
  cases e2
  have ed : f_does 0 (nI f) (nI n) c0 (tput f n tx u) = some (r0, u1) := by
    unfold f_does
    rw [if_pos rfl]
    unfold pcl
    rw [e1]
    rfl
  have i2 := hT.1 2 (by decide) (by decide)
  have i3 := hT.1 3 (by decide) (by decide)
  have i4 := hT.1 4 (by decide) (by decide)
  have ar : ∀ k, k ≤ 26 → (lf (t1 f n tx) u1).1.2 k = u.1.2 k ∧ (lf (t1 f n tx) u1).2.2 k = u.2.2 k := fun k hk => by
    have a1 := hT.2 k (by omega) (by omega)
    have a2 := tput_o (f := f) (n := n) (tx := tx) (u := u) (k := k) (by omega)
    rw [lf_a (isA_lt (by omega)) (by omega)]
    exact ⟨a1.1.trans a2.1, a1.2.trans a2.2⟩
  refine ⟨lf (t1 f n tx) u1, Or.inl ⟨rfl, f, n, r0, u1, rfl, rfl, hf, hE, hn, ed, rfl⟩, ?_, lf_nos _ _, lf_lawc g1, hR.lft g1, fun k hk => ?_, ar⟩
  · have hLw := lf_LwOk g1 hL
    obtain ⟨⟨g, q1, q2⟩, m30, m31, hl⟩ := hLw
    refine ⟨h.1.fr i2.1 ((lf_i rfl rfl).trans i2.2) ⟨(lf_i rfl rfl).trans (i3.2.trans h.1.2.1.1), (lf_i rfl rfl).trans (i4.2.trans h.1.2.1.2.1), q2.1, m30, m31, g, q1, q2.2⟩ ar, hl, fun m hm z => ?_⟩
    rw [(ar 22 (by decide)).1] at z
    exact absurd (hfree m hm) z
  · rcases hk with rfl | rfl | rfl
    · exact ⟨i2.1, (lf_i rfl rfl).trans i2.2⟩
    · exact ⟨i3.1, (lf_i rfl rfl).trans i3.2⟩
    · exact ⟨i4.1, (lf_i rfl rfl).trans i4.2⟩
end
/-- act(), of laws too, with what it ran -/
theorem act_coreX {N tp n E : Nat} {lg : Nat → En} {s : Nat → GS} {w sv : GS} (h : LiveX N tp n E lg s w) (hN : N ≤ 24000) (a0 a1 a2 a3 : Int32) (hst : stp E (a0, a1, a2, a3) (w.1.2 54) (s n) sv) (hIv : Inv sv) (hns : NoS sv) (hc : a0 = 0 → ∃ f m, a1 = nI f ∧ a2 = nI m ∧ f + m ≤ E ∧ m ≤ 3000 ∧ lawc sv (t1 f m (w.1.2 54))) (hnc : ¬ a0 = 0 → FrR fI fA (s n) sv) : Ok (f_act a0 a1 a2 a3) w (fun r v => (n = 500 ∧ r = -4 ∧ v = w) ∨ (n < 500 ∧ LiveX N tp (n + 1) E (fun k => if k = n then (a0, a1, a2, a3) else lg k) (fun k => if k = n + 1 then sv else s k) v ∧ ∃ y, y.1.2 54 = w.1.2 54 ∧ y.2.2 54 = w.2.2 54 ∧ f_does a0 a1 a2 a3 y = some (r, v))) := by
  have hL := h
  obtain ⟨hn, e53, e55, e42, htp, hE, hR, hA, hlg, h54, h13⟩ := h
  unfold f_act
  refine Ok_uf' (fun x hx => ?_)
  have ex : x = nI n := hx.symm.trans e53
  subst ex
  refine Ok_ite (fun he => Ok_rt (Or.inl ⟨(nI_eq (a := n) (b := 500) (by omega) (by decide)).mp he, rfl, rfl⟩)) (fun hne => ?_)
  have hn5 : n < 500 := by
    rcases Nat.lt_or_ge n 500 with y | y
    · exact y
    · have : n = 500 := by omega
      subst this
      exact absurd rfl hne
  refine Ok_uf' (fun x hx => ?_)
  have ex : x = nI n := hx.symm.trans e53
  subst ex
  refine Ok_wdN (j := 4 * n) (ix4 n) (by omega) (by decide) (Ok_uf' (fun x hx => ?_))
  have ex : x = nI n := hx.symm.trans e53
  subst ex
  refine Ok_wdN (j := 4 * n + 1) (by rw [ix4, nI_1]) (by omega) (by decide) (Ok_uf' (fun x hx => ?_))
  have ex : x = nI n := hx.symm.trans e53
  subst ex
  refine Ok_wdN (j := 4 * n + 2) (by rw [ix4]; exact nI_add (4 * n) 2) (by omega) (by decide) (Ok_uf' (fun x hx => ?_))
  have ex : x = nI n := hx.symm.trans e53
  subst ex
  refine Ok_wdN (j := 4 * n + 3) (by rw [ix4]; exact nI_add (4 * n) 3) (by omega) (by decide) (Ok_uf' (fun x hx => ?_))
  have ex : x = nI n := hx.symm.trans e53
  subst ex
  rw [nI_1]
  refine Ok_wf ?_
  have eL : ∀ j, (swd 52 (nI (4 * n + 3)) a3 (swd 52 (nI (4 * n + 2)) a2 (swd 52 (nI (4 * n + 1)) a1 (swd 52 (nI (4 * n)) a0 w)))).1.2 52 j = if j = 4 * n + 3 then a3 else if j = 4 * n + 2 then a2 else if j = 4 * n + 1 then a1 else if j = 4 * n then a0 else w.1.2 52 j := fun j => by
    rw [sw_v (by omega), sw_v (by omega), sw_v (by omega), sw_v (by omega)]
  have eo : ∀ k, ¬ k = 52 → (swd 52 (nI (4 * n + 3)) a3 (swd 52 (nI (4 * n + 2)) a2 (swd 52 (nI (4 * n + 1)) a1 (swd 52 (nI (4 * n)) a0 w)))).1.2 k = w.1.2 k ∧ (swd 52 (nI (4 * n + 3)) a3 (swd 52 (nI (4 * n + 2)) a2 (swd 52 (nI (4 * n + 1)) a1 (swd 52 (nI (4 * n)) a0 w)))).2.2 k = w.2.2 k := fun k hk => by
    rw [(sw_o hk).1, (sw_o hk).1, (sw_o hk).1, (sw_o hk).1, (sw_o hk).2, (sw_o hk).2, (sw_o hk).2, (sw_o hk).2]
    exact ⟨rfl, rfl⟩
  have ei : (swd 52 (nI (4 * n + 3)) a3 (swd 52 (nI (4 * n + 2)) a2 (swd 52 (nI (4 * n + 1)) a1 (swd 52 (nI (4 * n)) a0 w)))).1.1 = w.1.1 := rfl
  have hA2 : Ag (s n) (swd 52 (nI (4 * n + 3)) a3 (swd 52 (nI (4 * n + 2)) a2 (swd 52 (nI (4 * n + 1)) a1 (swd 52 (nI (4 * n)) a0 w)))) := (((hA.wdU rfl _ _).wdU rfl _ _).wdU rfl _ _).wdU rfl _ _
  generalize swd 52 (nI (4 * n + 3)) a3 (swd 52 (nI (4 * n + 2)) a2 (swd 52 (nI (4 * n + 1)) a1 (swd 52 (nI (4 * n)) a0 w))) = y at eL eo ei hA2 ⊢
  have hA3 : Ag (s n) (swf 53 (nI (n + 1)) y) := hA2.wfU rfl _
  have y54 := eo 54 (by decide)
  obtain ⟨r, v1, f1, g1, hF⟩ := stp_det hst hA3 (fun j hj => ⟨by show y.2.2 54 j = true; rw [y54.2]; exact h54 j hj, by show y.1.2 54 j = _; rw [y54.1]⟩)
  refine Ok_cl ⟨r, v1, f1, Ok_rt (Or.inr ⟨hn5, ⟨by omega, ?_, ?_, ?_, htp, hE, ?_, ?_, ?_, ?_, ?_⟩, swf 53 (nI (n + 1)) y, y54.1, y54.2, f1⟩)⟩
  · exact (hF.1 53 rfl).1.trans (swf_e (w := y) (k := 53)).2
  · exact (hF.1 55 rfl).1.trans ((swf_o (w := y) (k := 53) (by decide)).1.trans ((congrFun ei 55).trans e55))
  · exact (hF.1 42 rfl).1.trans ((swf_o (w := y) (k := 53) (by decide)).1.trans ((congrFun ei 42).trans e42))
  · have e54 : v1.1.2 54 = w.1.2 54 := (hF.2.1 54 rfl).1.trans y54.1
    rw [e54]
    exact hR.more (by omega) (a0, a1, a2, a3) sv hst hIv hns hc hnc
  · have es : (fun k => if k = n + 1 then sv else s k) (n + 1) = sv := if_pos rfl
    rw [es]
    exact g1
  · intro k hk
    have e52 : v1.1.2 52 = y.1.2 52 := (hF.2.1 52 rfl).1
    rw [e52, eL, eL, eL, eL]
    by_cases hkn : k = n
    · subst hkn
      have es : (fun j => if j = k then (a0, a1, a2, a3) else lg j) k = (a0, a1, a2, a3) := if_pos rfl
      rw [es, if_neg (by omega), if_neg (by omega), if_neg (by omega), if_pos rfl, if_neg (by omega), if_neg (by omega), if_pos rfl, if_neg (by omega), if_pos rfl, if_pos rfl]
      exact ⟨rfl, rfl, rfl, rfl⟩
    · have es : (fun j => if j = n then (a0, a1, a2, a3) else lg j) k = lg k := if_neg hkn
      rw [es, if_neg (by omega), if_neg (by omega), if_neg (by omega), if_neg (by omega), if_neg (by omega), if_neg (by omega), if_neg (by omega), if_neg (by omega), if_neg (by omega), if_neg (by omega), if_neg (by omega), if_neg (by omega), if_neg (by omega), if_neg (by omega), if_neg (by omega), if_neg (by omega)]
      exact hlg k (by omega)
  · intro j hj
    rw [(hF.2.1 54 rfl).2]
    show y.2.2 54 j = true
    rw [y54.2]
    exact h54 j hj
  · intro c hc
    refine hF.2.2 c ?_
    show y.2.2 13 c = true
    rw [(eo 13 (by decide)).2]
    exact h13 c hc
theorem ok_laws4X {w : GS} (hM : ∀ m, m < 4 → w.2.2 22 m = true) (K : Int32 → Int32 → PG Int32) (Q : Int32 → GS → Prop) (hK : ∀ v1 x, ((v1 = 0 ∧ ∀ j, j < 4 → w.1.2 22 j = -1) ∨ (v1 = 1 ∧ ∃ j, j < 4 ∧ ¬ w.1.2 22 j = -1)) → Ok (K v1 x) w Q) :
    ∀ (t k m : Nat) (v1 : Int32), k + t = 4 → t < m → ((v1 = 0 ∧ ∀ j, j < k → w.1.2 22 j = -1) ∨ (v1 = 1 ∧ ∃ j, j < 4 ∧ ¬ w.1.2 22 j = -1)) → Ok (lp_laws_4 m v1 (nI k) K) w Q := by
  intro t
  induction t with
  | zero =>
    intro k m v1 h1 h2 hv
    cases m with
    | zero => omega
    | succ m =>
      have : k = 4 := by omega
      subst this
      unfold lp_laws_4
      exact Ok_ite (fun _ => hK v1 _ hv) (fun z => absurd (Int32.le_refl _) z)
  | succ t ih =>
    intro k m v1 h1 h2 hv
    cases m with
    | zero => omega
    | succ m =>
      unfold lp_laws_4
      refine Ok_ite (fun z => absurd ((nI_le4 (k := k) (n := 4) (by omega) (by decide)).mp z) (by omega)) (fun _ => Ok_ite (fun h0 => ?_) (fun h0 => ?_))
      · refine Ok_rdN rfl (by omega) (by decide) (Am.val (hM k (by omega))) (Ok_ite (fun z => Ok_li ?_) (fun z => Ok_li ?_))
        · rw [nI_1]
          refine ih (k + 1) m 0 (by omega) (by omega) (Or.inl ⟨rfl, fun j hj => ?_⟩)
          by_cases he : j = k
          · rw [he]; exact z
          · rcases hv with ⟨-, hv⟩ | ⟨hv, -⟩
            · exact hv j (by omega)
            · rw [hv] at h0; exact absurd h0 (by decide)
        · rw [nI_1]
          exact ih (k + 1) m 1 (by omega) (by omega) (Or.inr ⟨rfl, k, by omega, z⟩)
      · refine Ok_li ?_
        rw [nI_1]
        refine ih (k + 1) m 1 (by omega) (by omega) (Or.inr ⟨rfl, ?_⟩)
        rcases hv with ⟨hv, -⟩ | ⟨-, hv⟩
        · exact absurd hv h0
        · exact hv
theorem ok_laws99V {y : GS} (E tp : Nat) (hE : E + tp ≤ 24000) (htp : tp ≤ 3000) (v1 : Int32) (K : Int32 → Int32 → Int32 → Int32 → Int32 → PG Int32) (Q : Int32 → GS → Prop) (hK : ∀ x v5, K54 y x E tp → (∀ j, j < tp → x.1.2 54 (E + j) = vp_nar .byte (y.1.2 40 j)) → Ok (K v1 1 (nI tp) (nI E) v5) x Q) :
    ∀ (t k m : Nat) (x : GS), k + t = tp → t < m → K54 y x E k → (∀ j, j < k → x.1.2 54 (E + j) = vp_nar .byte (y.1.2 40 j)) → Ok (lp_laws_99 m v1 1 (nI tp) (nI E) (nI k) K) x Q := by
  intro t
  induction t with
  | zero =>
    intro k m x h1 h2 hc hv
    cases m with
    | zero => omega
    | succ m =>
      have e : k = tp := by omega
      subst e
      unfold lp_laws_99
      exact Ok_ite (fun _ => hK x _ hc hv) (fun z => absurd (Int32.le_refl _) z)
  | succ t ih =>
    intro k m x h1 h2 hc hv
    cases m with
    | zero => omega
    | succ m =>
      unfold lp_laws_99
      refine Ok_ite (fun z => absurd z (nI_ge (by omega) (by omega))) (fun _ => Ok_ite (fun z => absurd z (by decide)) (fun _ => ?_))
      obtain ⟨c1, c2, c3, c4, c5, c6⟩ := hc
      refine Ok_udN (x := y.1.2 40 k) (j := k) rfl (by omega) (by decide) (by rw [(c3 40 (by decide)).1]) (Ok_wdN (nI_add E k) (by omega) (by decide) (Ok_li ?_))
      rw [nI_1]
      refine ih (k + 1) m _ (by omega) (by omega) ⟨c1, c2, fun a ha => ?_, fun j hj => ?_, fun j hj => sw_mm (c5 j hj), fun j hj => ?_⟩ (fun j hj => ?_)
      · have h9 := sw_o (w := x) (k := 54) (i := nI (E + k)) (v := vp_nar .byte (y.1.2 40 k)) (k2 := a) ha
        exact ⟨h9.1.trans (c3 a ha).1, h9.2.trans (c3 a ha).2⟩
      · rw [sw_vn (by omega) (by omega)]
        exact c4 j hj
      · by_cases he : j = k
        · subst he
          exact sw_me (v := vp_nar .byte (y.1.2 40 j)) (by omega)
        · exact sw_mm (c6 j (by omega))
      · by_cases he : j = k
        · subst he
          exact sw_ve (by omega)
        · exact (sw_vn (by omega) (by omega)).trans (hv j (by omega))
/-- what laws() does -/
def LawQ (N n E : Nat) (lg : Nat → En) (s : Nat → GS) (w : GS) (cr : Int32) (c2 : MS) (r : Int32) (v : GS) : Prop := ((∃ j, j < 4 ∧ ¬ w.1.2 22 j = -1) ∧ r = -3 ∧ LiveX N 0 n E lg s v ∧ v.1.1 49 = w.1.1 49 ∧ v.1.1 50 = w.1.1 50) ∨ ((∀ j, j < 4 → w.1.2 22 j = -1) ∧ (v.1.1 49 = c2.1 11 ∧ v.1.1 50 = c2.1 10) ∧ ((cr = 0 ∧ r = -1 ∧ LiveX N 0 n E lg s v) ∨ (cr = 1 ∧ n = 500 ∧ r = -4 ∧ LiveX N 0 n E lg s v) ∨ (cr = 1 ∧ n < 500 ∧ r = c2.1 23 ∧ ∃ E2 en sv, LiveX N 0 (n + 1) E2 (fun k => if k = n then en else lg k) (fun k => if k = n + 1 then sv else s k) v ∧ Inv sv ∧ LRel (dL c2) sv ∧ (∀ k, (k = 2 ∨ k = 3 ∨ k = 4) → sv.1.1 k = (s n).1.1 k ∧ sv.2.1 k = (s n).2.1 k) ∧ ∀ k, k ≤ 26 → sv.1.2 k = (s n).1.2 k ∧ sv.2.2 k = (s n).2.2 k)))
theorem laws_core {N tp n E : Nat} {lg : Nat → En} {s : Nat → GS} {w : GS} {T : Nat → Nat} {c c2 : MS} {cr : Int32} (h : LiveX N tp n E lg s w) (hN : N ≤ 24000) (hTC : TC T tp c) (h40 : ∀ i, i < tp → w.1.2 40 i = sb (T i)) (hc : x_X5_readLaws c = some (cr, c2)) : Ok f_laws w (LawQ N n E lg s w cr c2) := by
  have hL := h
  obtain ⟨hn, e53, e55, e42, htp, hE, hR, hA, hlg, h54, h13⟩ := h
  have hs := hR.2.1 n (Nat.le_refl _)
  have hI := hL.inv
  unfold f_laws
  refine ok_laws4X (fun m hm => (hI.1.2.2.2.2.2.1 m hm).1) _ _ (fun v1 x2 hv => ?_) 4 0 fuel 0 (by omega) (by unfold fuel; omega) (Or.inl ⟨rfl, fun j hj => absurd hj (Nat.not_lt_zero _)⟩)
  refine Ok_wf (Ok_uf' (fun x hx => ?_))
  have ex : x = nI tp := hx.symm.trans ((swf_o (w := w) (k := 41) (x := 0) (by decide)).1.trans e42)
  subst ex
  refine Ok_wf (Ok_wf ?_)
  have f41 : Im (swf 42 0 (swf 43 (nI tp) (swf 41 0 w))) 41 0 := (swf_e.o (by decide)).o (by decide)
  have f43 : Im (swf 42 0 (swf 43 (nI tp) (swf 41 0 w))) 43 (nI tp) := swf_e.o (by decide)
  have f42 : (swf 42 0 (swf 43 (nI tp) (swf 41 0 w))).1.1 42 = nI 0 := (swf_e (k := 42) (x := 0)).2
  have fo : ∀ k, ¬ k = 41 → ¬ k = 42 → ¬ k = 43 → (swf 42 0 (swf 43 (nI tp) (swf 41 0 w))).1.1 k = w.1.1 k ∧ (swf 42 0 (swf 43 (nI tp) (swf 41 0 w))).2.1 k = w.2.1 k := fun k h1 h2 h3 => by
    have a1 := swf_o (w := swf 43 (nI tp) (swf 41 0 w)) (k := 42) (x := 0) h2
    have a2 := swf_o (w := swf 41 0 w) (k := 43) (x := nI tp) h3
    have a3 := swf_o (w := w) (k := 41) (x := 0) h1
    exact ⟨a1.1.trans (a2.1.trans a3.1), a1.2.trans (a2.2.trans a3.2)⟩
  have fa : (swf 42 0 (swf 43 (nI tp) (swf 41 0 w))).1.2 = w.1.2 ∧ (swf 42 0 (swf 43 (nI tp) (swf 41 0 w))).2.2 = w.2.2 := ⟨rfl, rfl⟩
  have hA4 : Ag (s n) (swf 42 0 (swf 43 (nI tp) (swf 41 0 w))) := ((hA.wfN (hs.2.2.1 41 rfl) 0).wfN (hs.2.2.1 43 rfl) (nI tp)).wfU rfl 0
  generalize swf 42 0 (swf 43 (nI tp) (swf 41 0 w)) = w4 at f41 f43 f42 fo fa hA4 ⊢
  refine Ok_ite (fun h0 => ?_) (fun h0 => Ok_rt (Or.inl ⟨?_, rfl, ?_, (fo 49 (by decide) (by decide) (by decide)).1, (fo 50 (by decide) (by decide) (by decide)).1⟩))
  · have hfree : ∀ j, j < 4 → w.1.2 22 j = -1 := by
      rcases hv with ⟨-, hv⟩ | ⟨hv, -⟩
      · exact hv
      · rw [hv] at h0; exact absurd h0 (by decide)
    have hfs : ∀ m, m < 4 → (s n).1.2 22 m = -1 := fun m hm => (hA.va rfl (hs.1.1.2.2.2.2.2.1 m hm).1).symm.trans (hfree m hm)
    refine Ok_wf (Ok_wf ?_)
    have g41 : Im (swf 50 (-1) (swf 49 0 w4)) 41 0 := (f41.o (by decide)).o (by decide)
    have g43 : Im (swf 50 (-1) (swf 49 0 w4)) 43 (nI tp) := (f43.o (by decide)).o (by decide)
    have g49 : (swf 50 (-1) (swf 49 0 w4)).1.1 49 = 0 := (swf_o (by decide)).1.trans (swf_e (w := w4) (k := 49) (x := 0)).2
    have g50 : (swf 50 (-1) (swf 49 0 w4)).1.1 50 = -1 := (swf_e (w := swf 49 0 w4) (k := 50) (x := -1)).2
    have go : ∀ k, ¬ k = 49 → ¬ k = 50 → (swf 50 (-1) (swf 49 0 w4)).1.1 k = w4.1.1 k ∧ (swf 50 (-1) (swf 49 0 w4)).2.1 k = w4.2.1 k := fun k h1 h2 => by
      have a1 := swf_o (w := swf 49 0 w4) (k := 50) (x := -1) h2
      have a2 := swf_o (w := w4) (k := 49) (x := 0) h1
      exact ⟨a1.1.trans a2.1, a1.2.trans a2.2⟩
    have ga : (swf 50 (-1) (swf 49 0 w4)).1.2 = w.1.2 ∧ (swf 50 (-1) (swf 49 0 w4)).2.2 = w.2.2 := fa
    generalize swf 50 (-1) (swf 49 0 w4) = w6 at g41 g43 g49 g50 go ga ⊢
    have hT : Tx w6 tp := ⟨g41.1, Or.inl g41.2, g43, htp⟩
    have hTR : TR T tp w6 := by
      refine ⟨hT, trivial, fun i hi => ⟨(hTC.2.2 i hi).1, ?_⟩⟩
      unfold rz
      rw [g41.2, if_pos rfl]
      show w6.1.2 40 (nI i).toNatClampNeg = sb (T i)
      rw [nI_clamp (by omega), ga.1]
      exact h40 i hi
    -- what stands behind the reading
    have hmid : ∀ v, PX w6 v → Mid n E (s n) w v ∧ Im v 43 (nI tp) := fun v hv => by
      obtain ⟨⟨p1, p2⟩, -⟩ := hv
      have pi : ∀ k, ¬ (27 ≤ k ∧ k ≤ 31) → ¬ (44 ≤ k ∧ k ≤ 51) → ¬ k = 41 → ¬ k = 42 → ¬ k = 43 → v.1.1 k = w.1.1 k ∧ v.2.1 k = w.2.1 k := fun k h1 h2 h3 h4 h5 => by
        have a1 := p1 k h1 h2
        have a2 := go k (by omega) (by omega)
        have a3 := fo k h3 h4 h5
        exact ⟨a1.1.trans (a2.1.trans a3.1), a1.2.trans (a2.2.trans a3.2)⟩
      have pa : ∀ k, ¬ (32 ≤ k ∧ k ≤ 37) → v.1.2 k = w.1.2 k ∧ v.2.2 k = w.2.2 k := fun k h1 => ⟨(p2 k h1).1.trans (congrFun ga.1 k), (p2 k h1).2.trans (congrFun ga.2 k)⟩
      refine ⟨⟨⟨fun k hk hL hm => ?_, fun k j hk hA2 hm => ?_⟩, (pi 53 (by decide) (by decide) (by decide) (by decide) (by decide)).1.trans e53, (pi 55 (by decide) (by decide) (by decide) (by decide) (by decide)).1.trans e55, ?_, (pa 52 (by decide)).1, fun j hj => ?_, fun c hc => ?_⟩, ?_⟩
      · have n1 := isS_ne (hs.2.2.i hm)
        have n2 := trk_ne hk
        have n3 := of_decide_eq_false hL
        have h9 := pi k n3 (by omega) n1.1 n2.1 n1.2.1
        rw [h9.1, h9.2]
        exact hA.1 k hk hm
      · have n3 := of_decide_eq_false hA2
        rw [(pa k n3).1, (pa k n3).2]
        exact hA.2 k j hk hm
      · exact (p1 42 (by decide) (by decide)).1.trans ((go 42 (by decide) (by decide)).1.trans f42)
      · rw [(pa 54 (by decide)).1, (pa 54 (by decide)).2]
        exact ⟨h54 j hj, rfl⟩
      · rw [(pa 13 (by decide)).2]; exact h13 c hc
      · exact ⟨(p1 43 (by decide) (by decide)).2.trans g43.1, (p1 43 (by decide) (by decide)).1.trans g43.2⟩
    refine Ok_cl (Ok.mono (((ok_readLaws hT).and (ls_readAll hTC hTR)).fx fx_readLaws) (fun r v z => ?_))
    obtain ⟨⟨z, zl⟩, zf⟩ := z
    rcases z with ⟨rfl, z⟩ | ⟨rfl, z, -⟩
    · have q : cr = 0 ∧ v.1.1 49 = c2.1 11 ∧ v.1.1 50 = c2.1 10 := by
        rcases zl with ⟨-, f, p, -, -, hFV, hCN⟩ | ⟨z9, -⟩
        · obtain ⟨q1, q2⟩ := hCN _ _ hc
          exact ⟨q1, hFV.1.2.trans q2.1.symm, hFV.2.2.trans q2.2.symm⟩
        · cases z9
      obtain ⟨hM, h43⟩ := hmid v z
      refine Ok_otN (Ok_rfN h43 (Ok_uf' (fun x hx => ?_)))
      have ex : x = nI E := hx.symm.trans hM.2.2.1
      subst ex
      have hend : ∀ v5 : Int32, Ok (pcl (f_lawsAgain) (fun r_44 => (if (0 : Int32) = 0 then prt (-1) else puf 53 (fun x_48 => (if x_48 = 500 then prt (-4) else puf 55 (fun x_51 => pwf 55 (x_51 + nI tp) (pcl (f_act 0 (nI E) (nI tp) 0) (fun r_55 => prt r_55)))))))) v (LawQ N n E lg s w cr c2) := fun v5 =>
        Ok_cl (Ok.mono ((mid_again hL hN hM).fw fw_lawsAgain) (fun _ y hy => Ok_ite (fun _ => Ok_rt (Or.inr ⟨hfree, ⟨(hy.2.1 49 rfl).trans q.2.1, (hy.2.1 50 rfl).trans q.2.2⟩, Or.inl ⟨q.1, rfl, hy.1.1⟩⟩)) (fun z => absurd rfl z)))
      obtain ⟨m, em, -⟩ := fuel_succ 1 (by decide)
      rw [em]
      unfold lp_laws_99
      exact Ok_ite (fun _ => hend 0) (fun _ => Ok_ite (fun _ => hend 0) (fun z => absurd rfl z))
    · have q : cr = 1 ∧ c2.1 11 = 0 ∧ c2.1 10 = -1 := by
        rcases zl with ⟨z9, -⟩ | ⟨-, hCN⟩
        · cases z9
        · obtain ⟨q1, q2, -⟩ := hCN _ _ hc
          exact ⟨q1, q2, readLaws_fp c _ _ hc q2⟩
      obtain ⟨rfl, q11, q10⟩ := q
      have hzf := zf 0 rfl
      have q49 : v.1.1 49 = c2.1 11 := (hzf.1 49 rfl).trans (g49.trans q11.symm)
      have q50 : v.1.1 50 = c2.1 10 := (hzf.1 50 rfl).trans (g50.trans q10.symm)
      have z40 : v.1.2 40 = w.1.2 40 := (z.1.2 40 (by decide)).1.trans (congrFun ga.1 40)
      obtain ⟨hM, h43⟩ := hmid v z
      refine Ok_otS (Ok_rfN h43 (Ok_uf' (fun x hx => ?_)))
      have ex : x = nI E := hx.symm.trans hM.2.2.1
      subst ex
      refine ok_laws99V E tp (by omega) htp v1 _ _ (fun y v5 hc9 hv9 => ?_) tp 0 fuel v (by omega) (by unfold fuel; omega) ⟨rfl, rfl, fun _ _ => ⟨rfl, rfl⟩, fun _ _ => rfl, fun _ hj => hj, fun j hj => absurd hj (Nat.not_lt_zero _)⟩ (fun j hj => absurd hj (Nat.not_lt_zero _))
      obtain ⟨c1, c2', c3, c4, c5, c6⟩ := hc9
      have hvT : ∀ j, j < tp → y.1.2 54 (E + j) = sb (T j) := fun j hj => by
        rw [hv9 j hj, z40, h40 j hj, nar_sb _ (hTC.2.2 j hj).1]
      have hM2 : Mid n E (s n) w y := by
        obtain ⟨m1, m2, m3, m4, m5, m6, m7⟩ := hM
        refine ⟨⟨fun k hk hL hm => ?_, fun k j hk hA2 hm => ?_⟩, (congrFun c1 53).trans m2, (congrFun c1 55).trans m3, (congrFun c1 42).trans m4, (c3 52 (by decide)).1.trans m5, fun j hj => ⟨c5 j (m6 j hj).1, (c4 j hj).trans (m6 j hj).2⟩, fun c hc => ?_⟩
        · rw [c1, c2']; exact m1.1 k hk hL hm
        · have n1 := hs.2.2.a hm
          rw [(c3 k n1.1).1, (c3 k n1.1).2]
          exact m1.2 k j hk hA2 hm
        · rw [(c3 13 (by decide)).2]; exact m7 c hc
      refine Ok_cl (Ok.mono ((mid_again hL hN hM2).fw fw_lawsAgain) (fun _ y2 hy => Ok_ite (fun z => absurd z (by decide)) (fun _ => ?_)))
      obtain ⟨⟨hy, hF⟩, hw⟩ := hy
      have w49 : y2.1.1 49 = c2.1 11 := (hw.1 49 rfl).trans ((congrFun c1 49).trans q49)
      have w50 : y2.1.1 50 = c2.1 10 := (hw.1 50 rfl).trans ((congrFun c1 50).trans q50)
      refine Ok_uf' (fun x hx => ?_)
      have ex : x = nI n := hx.symm.trans hy.2.1
      subst ex
      refine Ok_ite (fun he => Ok_rt (Or.inr ⟨hfree, ⟨w49, w50⟩, Or.inr (Or.inl ⟨rfl, (nI_eq (a := n) (b := 500) (by omega) (by decide)).mp he, rfl, hy⟩)⟩)) (fun hne => Ok_uf' (fun x2 hx2 => ?_))
      have hn5 : n < 500 := by
        rcases Nat.lt_or_ge n 500 with y | y
        · exact y
        · have : n = 500 := by omega
          subst this
          exact absurd rfl hne
      have ex : x2 = nI E := hx2.symm.trans hy.2.2.1
      subst ex
      rw [nI_add]
      refine Ok_wf ?_
      have y54 : y2.1.2 54 = y.1.2 54 := (hF.2.1 54 rfl).1
      have hy2 : LiveX N 0 n (E + tp) lg s (swf 55 (nI (E + tp)) y2) := by
        obtain ⟨b1, b2, b3, b4, b5, b6, b7, b8, b9, b10, b11⟩ := hy
        refine ⟨b1, (swf_o (by decide)).1.trans b2, (swf_e (k := 55)).2, (swf_o (by decide)).1.trans b4, by omega, by omega, ?_, b8.wfU rfl _, b9, fun j hj => ?_, b11⟩
        · exact b7.up (fun _ _ => rfl) (by omega) (by omega) (fun _ _ => rfl)
        · show y2.2.2 54 j = true
          by_cases hj2 : j < E
          · exact b10 j hj2
          · rw [(hF.2.1 54 rfl).2]
            have h9 := c6 (j - E) (by omega)
            have e9 : E + (j - E) = j := by omega
            rw [e9] at h9
            exact h9
      have u49 : (swf 55 (nI (E + tp)) y2).1.1 49 = c2.1 11 := (swf_o (by decide)).1.trans w49
      have u50 : (swf 55 (nI (E + tp)) y2).1.1 50 = c2.1 10 := (swf_o (by decide)).1.trans w50
      have uT : ∀ j, j < tp → (swf 55 (nI (E + tp)) y2).1.2 54 (E + j) = sb (T j) := fun j hj => (congrFun y54 (E + j)).trans (hvT j hj)
      generalize swf 55 (nI (E + tp)) y2 = y3 at hy2 u49 u50 uT ⊢
      obtain ⟨v9, q1, q2, q3, q4, q5, q6, q7⟩ := stp_lawX (E := E + tp) (f := E) (n := tp) (c0 := 0) (tx := y3.1.2 54) hs.1 hfs (Nat.le_refl _) (by omega) htp uT hTC hc
      refine Ok_cl (Ok.mono ((act_coreX hy2 hN 0 (nI E) (nI tp) 0 q1 q2 q3 (fun _ => ⟨E, tp, rfl, rfl, Nat.le_refl _, htp, q4⟩) (fun z => absurd rfl z)).fw (fw_act _ _ _ _)) (fun r y4 hz => Ok_rt ?_))
      obtain ⟨hz, hw4⟩ := hz
      rcases hz with ⟨hz, -⟩ | ⟨-, hz1, y5, hz2, hz3, hz4⟩
      · omega
      refine Or.inr ⟨hfree, ⟨(hw4.1 49 rfl).trans u49, (hw4.1 50 rfl).trans u50⟩, Or.inr (Or.inr ⟨rfl, hn5, ?_, E + tp, _, v9, hz1, q2, q5, q6, q7⟩)⟩
      unfold f_does at hz4
      rw [if_pos rfl] at hz4
      obtain ⟨b, w1, f2, f3⟩ := pcl_some hz4
      cases f3
      obtain ⟨r5, v5', e5, e6, -⟩ := take_ex (u := y5) E tp (by omega) htp (fun k hk => by rw [hz3]; exact hy2.2.2.2.2.2.2.2.2.2.1 (E + k) (by omega)) (fun k hk => by rw [hz2]; exact uT k hk) hTC hc
      rw [f2] at e5
      cases e5
      exact e6
  · rcases hv with ⟨hv, -⟩ | ⟨-, hv⟩
    · exact absurd hv h0
    · exact hv
  · refine ⟨hn, (fo 53 (by decide) (by decide) (by decide)).1.trans e53, (fo 55 (by decide) (by decide) (by decide)).1.trans e55, f42, by omega, by omega, ?_, hA4, ?_, ?_, ?_⟩
    · rw [fa.1]; exact hR
    · intro k hk
      rw [fa.1]; exact hlg k hk
    · intro j hj
      rw [fa.2]; exact h54 j hj
    · intro c hc
      rw [fa.2]; exact h13 c hc

