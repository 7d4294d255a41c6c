/-! ===== laws() ===== -/
/-- agreement but for the cells of the laws -/
def AgX (u v : GS) : Prop := (∀ k, trk k = true → isL k = false → u.2.1 k = true → v.2.1 k = true ∧ v.1.1 k = u.1.1 k) ∧ ∀ k j, trk k = true → isA k = false → u.2.2 k j = true → v.2.2 k j = true ∧ v.1.2 k j = u.1.2 k j
def lz (v : GS) : GS := swf 28 0 (swf 27 0 (swf 31 0 (swf 30 0 (swf 29 0 v))))
theorem lz_L {v : GS} {k : Nat} (hk : isL k = true) : Im (lz v) k 0 := by
  have h2 := of_decide_eq_true hk
  rcases (by omega : k = 27 ∨ k = 28 ∨ k = 29 ∨ k = 30 ∨ k = 31) with rfl | rfl | rfl | rfl | rfl
  · exact ⟨rfl, rfl⟩
  · exact ⟨rfl, rfl⟩
  · exact ⟨rfl, rfl⟩
  · exact ⟨rfl, rfl⟩
  · exact ⟨rfl, rfl⟩
theorem lz_o {v : GS} {k : Nat} (hk : isL k = false) : (lz v).1.1 k = v.1.1 k ∧ (lz v).2.1 k = v.2.1 k := by
  have h2 := of_decide_eq_false hk
  have a1 := swf_o (w := swf 27 0 (swf 31 0 (swf 30 0 (swf 29 0 v)))) (k := 28) (x := 0) (k2 := k) (by omega)
  have a2 := swf_o (w := swf 31 0 (swf 30 0 (swf 29 0 v))) (k := 27) (x := 0) (k2 := k) (by omega)
  have a3 := swf_o (w := swf 30 0 (swf 29 0 v)) (k := 31) (x := 0) (k2 := k) (by omega)
  have a4 := swf_o (w := swf 29 0 v) (k := 30) (x := 0) (k2 := k) (by omega)
  have a5 := swf_o (w := v) (k := 29) (x := 0) (k2 := k) (by omega)
  exact ⟨a1.1.trans (a2.1.trans (a3.1.trans (a4.1.trans a5.1))), a1.2.trans (a2.2.trans (a3.2.trans (a4.2.trans a5.2)))⟩
theorem lz_fr (v : GS) : FrR gFI gFA v (lz v) := by
  refine ⟨fun k hk => ?_, fun k hk => ⟨rfl, rfl⟩, fun j hj => hj⟩
  have h2 := List.contains_iff_mem.mp hk
  simp only [List.mem_cons, List.not_mem_nil, or_false] at h2
  exact lz_o (decide_eq_false (by omega))
theorem nI_nn {k : Nat} (h : k < 2 ^ 31) : ¬ nI k < 0 := by
  rw [Int32.lt_iff_toInt_lt, nI_toInt h]
  have : (0 : Int32).toInt = 0 := by decide
  omega
theorem NoS.i {u : GS} (h : NoS u) {k : Nat} (hk : u.2.1 k = true) : isS k = false := by
  cases hs : isS k with
  | false => rfl
  | true => rw [h.1 k hs] at hk; cases hk
theorem NoS.a {u : GS} (h : NoS u) {k j : Nat} (hk : u.2.2 k j = true) : ¬ k = 54 ∧ ¬ k = 56 := by
  refine ⟨fun z => ?_, fun z => ?_⟩
  · rw [h.2 k j (Or.inl z)] at hk; cases hk
  · rw [h.2 k j (Or.inr (Or.inl z))] at hk; cases hk
theorem trk_ne {k : Nat} (h : trk k = true) : ¬ k = 42 ∧ ¬ k = 49 ∧ ¬ k = 50 ∧ ¬ k = 53 ∧ ¬ k = 55 := by
  refine ⟨fun z => ?_, fun z => ?_, fun z => ?_, fun z => ?_, fun z => ?_⟩ <;> (subst z; exact absurd h (by decide))
theorem isS_ne {k : Nat} (h : isS k = false) : ¬ k = 41 ∧ ¬ k = 43 ∧ ¬ k = 44 ∧ ¬ k = 45 ∧ ¬ k = 46 ∧ ¬ k = 47 ∧ ¬ k = 48 ∧ ¬ k = 51 := by
  refine ⟨fun z => ?_, fun z => ?_, fun z => ?_, fun z => ?_, fun z => ?_, fun z => ?_, fun z => ?_, fun z => ?_⟩ <;> (subst z; exact absurd h (by decide))
theorem ok_again_lp {n E : Nat} {lg : Nat → En} {tx : Nat → Int32} {u v : GS} (hns : NoS u) (hLC : LC E lg tx n u) (hE : E ≤ 24000) (hn : n ≤ 500) (hx : AgX u v) (hlg : lgOk v lg n) (ht : ∀ j, j < E → v.2.2 54 j = true ∧ v.1.2 54 j = tx j) :
    ∀ (k m : Nat), k < m → ll lg n = ll lg k → k ≤ n → Ok (lp_lawsAgain_32 m (nI k - 1) (fun v1 => prt 0)) (lz v) (fun _ y => Ag u y ∧ FrR gFI gFA v y) := by
  intro k
  induction k with
  | zero =>
    intro m hm hl _
    cases m with
    | zero => omega
    | succ m =>
      unfold lp_lawsAgain_32
      refine Ok_ite (fun _ => Ok_rt ⟨⟨fun k hk hm => ?_, fun k j hk hm => ?_⟩, lz_fr v⟩) (fun z => absurd (by decide) z)
      · unfold LC at hLC
        rw [hl] at hLC
        cases hL : isL k with
        | true =>
          have h9 := hLC.1 k hL hm
          exact ⟨(lz_L hL).1, (lz_L (v := v) hL).2.trans h9.2⟩
        | false =>
          rw [(lz_o (v := v) hL).1, (lz_o (v := v) hL).2]
          exact hx.1 k hk hL hm
      · unfold LC at hLC
        rw [hl] at hLC
        cases hA : isA k with
        | true =>
          have h9 := (hLC.2 k j hA hm).1
          cases h9
        | false => exact hx.2 k j hk hA hm
  | succ k ih =>
    intro m hm hl hkn
    cases m with
    | zero => omega
    | succ m =>
      have ep : nI (k + 1) - 1 = nI k := nI_sub (b := 1) (by omega)
      obtain ⟨l0, l1, l2, l3⟩ := hlg k (by omega)
      unfold lp_lawsAgain_32
      rw [ep]
      refine Ok_ite (fun z => absurd z (nI_nn (by omega))) (fun _ => Ok_udN (j := 4 * k) (ix4 k) (by omega) (by decide) l0 (Ok_ite (fun h0 => ?_) (fun h0 => Ok_li ?_)))
      · refine Ok_udN (j := 4 * k + 1) (by rw [ix4, nI_1]) (by omega) (by decide) l1 ?_
        refine Ok_udN (j := 4 * k + 2) (by rw [ix4]; exact nI_add (4 * k) 2) (by omega) (by decide) l2 ?_
        have hll : ll lg n = some k := by
          rw [hl]
          unfold ll
          rw [if_pos h0]
        unfold LC at hLC
        rw [hll] at hLC
        obtain ⟨f, q, a1, a2, a3, a4, a5⟩ := hLC
        rw [a1, a2]
        obtain ⟨⟨r0, e0⟩, -⟩ := t1_ok (tx := tx) (by omega : f + q ≤ 24000) a4
        have hag : Ag (tput f q tx B0) (lz v) := tput_ag (B0_ag _) (fun j h1 h2 => ht j (by omega))
        obtain ⟨y, e1, g1, -⟩ := det_takeLaws (nI f) (nI q) _ _ hag (fun z => by cases z) _ _ e0
        obtain ⟨r2, u2, e2, hT, -⟩ := ok_takeLaws (u := lz v) f q (by omega) a4 (fun k hk => (ht (f + k) (by omega)).1)
        rw [e1] at e2
        cases e2
        refine Ok_cl ⟨r0, y, e1, Ok_rt ⟨⟨fun k hk hm => ?_, fun k j hk hm => ?_⟩, (lz_fr v).trans hT.frg⟩⟩
        · cases hL : isL k with
          | true =>
            have h9 := a5.1 k hL hm
            have h8 := g1.1 k hk h9.1
            exact ⟨h8.1, h8.2.trans h9.2⟩
          | false =>
            have n1 := isS_ne (hns.i hm)
            have n2 := trk_ne hk
            have n3 := of_decide_eq_false hL
            have h9 := hT.1 k n3 (by omega)
            rw [h9.1, h9.2, (lz_o (v := v) hL).1, (lz_o (v := v) hL).2]
            exact hx.1 k hk hL hm
        · cases hA : isA k with
          | true =>
            have h9 := a5.2 k j hA hm
            have h8 := g1.2 k j hk h9.1
            exact ⟨h8.1, h8.2.trans h9.2⟩
          | false =>
            have n1 := hns.a hm
            have n3 := of_decide_eq_false hA
            have h9 := hT.2 k n3 n1.2
            rw [h9.1, h9.2]
            exact hx.2 k j hk hA hm
      · have e2 : nI k + -1 = nI k - 1 := (Int32.sub_eq_add_neg _ _).symm
        rw [e2]
        refine ih m (by omega) ?_ (by omega)
        rw [hl]
        show (if (lg k).1 = 0 then some k else ll lg k) = ll lg k
        rw [if_neg h0]
theorem ok_lawsAgain {n E : Nat} {lg : Nat → En} {tx : Nat → Int32} {u v : GS} (hns : NoS u) (hLC : LC E lg tx n u) (hE : E ≤ 24000) (hn : n ≤ 500) (hx : AgX u v) (e53 : v.1.1 53 = nI n) (hlg : lgOk v lg n) (ht : ∀ j, j < E → v.2.2 54 j = true ∧ v.1.2 54 j = tx j) : Ok f_lawsAgain v (fun _ y => Ag u y ∧ FrR gFI gFA v y) := by
  unfold f_lawsAgain
  refine Ok_wf (Ok_wf (Ok_wf (Ok_wf (Ok_wf ?_))))
  refine Ok_uf' (fun x hx2 => ?_)
  have ex : x = nI n := hx2.symm.trans ((lz_o (v := v) (k := 53) rfl).1.trans e53)
  subst ex
  exact Ok_li (ok_again_lp hns hLC hE hn hx hlg ht n fuel (by unfold fuel; omega) rfl (Nat.le_refl _))
theorem ok_laws4 {w : GS} (hM : ∀ m, m < 4 → w.2.2 22 m = true) (K : Int32 → Int32 → PG Int32) (Q : Int32 → GS → Prop) (hK : ∀ v1 x, ((v1 = 0 ∧ ∀ j, j < 4 → w.1.2 22 j = -1) ∨ v1 = 1) → Ok (K v1 x) w Q) :
    ∀ (t k m : Nat) (v1 : Int32), k + t = 4 → t < m → ((v1 = 0 ∧ ∀ j, j < k → w.1.2 22 j = -1) ∨ v1 = 1) → Ok (lp_laws_4 m v1 (nI k) K) w Q := by
  intro t
  induction t with
  | zero =>
    intro k m v1 h1 h2 hv
    cases m with
    | zero => omega
    | succ m =>
      have : k = 4 := by omega
      subst this
      unfold lp_laws_4
      exact Ok_ite (fun _ => hK v1 _ hv) (fun z => absurd (Int32.le_refl _) z)
  | succ t ih =>
    intro k m v1 h1 h2 hv
    cases m with
    | zero => omega
    | succ m =>
      unfold lp_laws_4
      refine Ok_ite (fun z => absurd ((nI_le4 (k := k) (n := 4) (by omega) (by decide)).mp z) (by omega)) (fun _ => Ok_ite (fun h0 => ?_) (fun h0 => ?_))
      · refine Ok_rdN rfl (by omega) (by decide) (Am.val (hM k (by omega))) (Ok_ite (fun z => Ok_li ?_) (fun _ => Ok_li ?_))
        · rw [nI_1]
          refine ih (k + 1) m 0 (by omega) (by omega) (Or.inl ⟨rfl, fun j hj => ?_⟩)
          by_cases he : j = k
          · rw [he]; exact z
          · rcases hv with ⟨-, hv⟩ | hv
            · exact hv j (by omega)
            · rw [hv] at h0; exact absurd h0 (by decide)
        · rw [nI_1]
          exact ih (k + 1) m 1 (by omega) (by omega) (Or.inr rfl)
      · refine Ok_li ?_
        rw [nI_1]
        exact ih (k + 1) m 1 (by omega) (by omega) (Or.inr rfl)
def K54 (y x : GS) (E k : Nat) : Prop := x.1.1 = y.1.1 ∧ x.2.1 = y.2.1 ∧ (∀ a, ¬ a = 54 → x.1.2 a = y.1.2 a ∧ x.2.2 a = y.2.2 a) ∧ (∀ j, j < E → x.1.2 54 j = y.1.2 54 j) ∧ (∀ j, y.2.2 54 j = true → x.2.2 54 j = true) ∧ ∀ j, j < k → x.2.2 54 (E + j) = true
theorem ok_laws99 {y : GS} (E tp : Nat) (hE : E + tp ≤ 24000) (htp : tp ≤ 3000) (v1 : Int32) (K : Int32 → Int32 → Int32 → Int32 → Int32 → PG Int32) (Q : Int32 → GS → Prop) (hK : ∀ x v5, K54 y x E tp → Ok (K v1 1 (nI tp) (nI E) v5) x Q) :
    ∀ (t k m : Nat) (x : GS), k + t = tp → t < m → K54 y x E k → Ok (lp_laws_99 m v1 1 (nI tp) (nI E) (nI k) K) x Q := by
  intro t
  induction t with
  | zero =>
    intro k m x h1 h2 hc
    cases m with
    | zero => omega
    | succ m =>
      have e : k = tp := by omega
      subst e
      unfold lp_laws_99
      exact Ok_ite (fun _ => hK x _ hc) (fun z => absurd (Int32.le_refl _) z)
  | succ t ih =>
    intro k m x h1 h2 hc
    cases m with
    | zero => omega
    | succ m =>
      unfold lp_laws_99
      refine Ok_ite (fun z => absurd z (nI_ge (by omega) (by omega))) (fun _ => Ok_ite (fun z => absurd z (by decide)) (fun _ => ?_))
      refine Ok_udN (j := k) rfl (by omega) (by decide) rfl (Ok_wdN (nI_add E k) (by omega) (by decide) (Ok_li ?_))
      rw [nI_1]
      obtain ⟨c1, c2, c3, c4, c5, c6⟩ := hc
      refine ih (k + 1) m _ (by omega) (by omega) ⟨c1, c2, fun a ha => ?_, fun j hj => ?_, fun j hj => sw_mm (c5 j hj), fun j hj => ?_⟩
      · have h9 := sw_o (w := x) (k := 54) (i := nI (E + k)) (v := vp_nar .byte (x.1.2 40 k)) (k2 := a) ha
        exact ⟨h9.1.trans (c3 a ha).1, h9.2.trans (c3 a ha).2⟩
      · rw [sw_vn (by omega) (by omega)]
        exact c4 j hj
      · by_cases he : j = k
        · subst he
          exact sw_me (v := vp_nar .byte (x.1.2 40 j)) (by omega)
        · exact sw_mm (c6 j (by omega))
def Mid (n E : Nat) (u w x : GS) : Prop := AgX u x ∧ x.1.1 53 = nI n ∧ x.1.1 55 = nI E ∧ x.1.1 42 = nI 0 ∧ x.1.2 52 = w.1.2 52 ∧ (∀ j, j < E → x.2.2 54 j = true ∧ x.1.2 54 j = w.1.2 54 j) ∧ ∀ c, c < 4 → x.2.2 13 c = true
theorem mid_again {N tp n E : Nat} {lg : Nat → En} {s : Nat → GS} {w x : GS} (h : LiveX N tp n E lg s w) (hN : N ≤ 24000) (hM : Mid n E (s n) w x) : Ok f_lawsAgain x (fun _ y => LiveX N 0 n E lg s y ∧ FrR gFI gFA x y) := by
  obtain ⟨hn, e53, e55, e42, htp, hE, hR, hA, hlg, h54, h13⟩ := h
  obtain ⟨m1, m2, m3, m4, m5, m6, m7⟩ := hM
  have hs := hR.2.1 n (Nat.le_refl _)
  have hlg2 : lgOk x lg n := fun k hk => by rw [m5]; exact hlg k hk
  refine Ok.mono (ok_lawsAgain hs.2.2 hs.2.1 (by omega) hn m1 m2 hlg2 m6) (fun _ y z => ⟨?_, z.2⟩)
  obtain ⟨ha, hF⟩ := z
  refine ⟨hn, (hF.1 53 rfl).1.trans m2, (hF.1 55 rfl).1.trans m3, (hF.1 42 rfl).1.trans m4, by omega, by omega, ?_, ha, fun k hk => ?_, fun j hj => ?_, fun c hc => hF.2.2 c (m7 c hc)⟩
  · refine hR.up (fun _ _ => rfl) (Nat.le_refl _) (by omega) (fun j hj => ?_)
    rw [(hF.2.1 54 rfl).1]
    exact (m6 j hj).2
  · rw [(hF.2.1 52 rfl).1]; exact hlg2 k hk
  · rw [(hF.2.1 54 rfl).2]; exact (m6 j hj).1
theorem live_laws {N tp : Nat} {w : GS} (h : Live N tp w) (hN : N ≤ 24000) : Ok f_laws w (fun _ v => Live N 0 v) := by
  obtain ⟨n, E, lg, s, h⟩ := h
  have hL := h
  obtain ⟨hn, e53, e55, e42, htp, hE, hR, hA, hlg, h54, h13⟩ := h
  have hs := hR.2.1 n (Nat.le_refl _)
  have hI := hL.inv
  unfold f_laws
  refine ok_laws4 (fun m hm => (hI.1.2.2.2.2.2.1 m hm).1) _ _ (fun v1 x2 hv => ?_) 4 0 fuel 0 (by omega) (by unfold fuel; omega) (Or.inl ⟨rfl, fun j hj => absurd hj (Nat.not_lt_zero _)⟩)
  refine Ok_wf (Ok_uf' (fun x hx => ?_))
  have ex : x = nI tp := hx.symm.trans ((swf_o (w := w) (k := 41) (x := 0) (by decide)).1.trans e42)
  subst ex
  refine Ok_wf (Ok_wf ?_)
  have f41 : Im (swf 42 0 (swf 43 (nI tp) (swf 41 0 w))) 41 0 := (swf_e.o (by decide)).o (by decide)
  have f43 : Im (swf 42 0 (swf 43 (nI tp) (swf 41 0 w))) 43 (nI tp) := swf_e.o (by decide)
  have f42 : (swf 42 0 (swf 43 (nI tp) (swf 41 0 w))).1.1 42 = nI 0 := (swf_e (k := 42) (x := 0)).2
  have fo : ∀ k, ¬ k = 41 → ¬ k = 42 → ¬ k = 43 → (swf 42 0 (swf 43 (nI tp) (swf 41 0 w))).1.1 k = w.1.1 k ∧ (swf 42 0 (swf 43 (nI tp) (swf 41 0 w))).2.1 k = w.2.1 k := fun k h1 h2 h3 => by
    have a1 := swf_o (w := swf 43 (nI tp) (swf 41 0 w)) (k := 42) (x := 0) h2
    have a2 := swf_o (w := swf 41 0 w) (k := 43) (x := nI tp) h3
    have a3 := swf_o (w := w) (k := 41) (x := 0) h1
    exact ⟨a1.1.trans (a2.1.trans a3.1), a1.2.trans (a2.2.trans a3.2)⟩
  have fa : (swf 42 0 (swf 43 (nI tp) (swf 41 0 w))).1.2 = w.1.2 ∧ (swf 42 0 (swf 43 (nI tp) (swf 41 0 w))).2.2 = w.2.2 := ⟨rfl, rfl⟩
  have hA4 : Ag (s n) (swf 42 0 (swf 43 (nI tp) (swf 41 0 w))) := ((hA.wfN (hs.2.2.1 41 rfl) 0).wfN (hs.2.2.1 43 rfl) (nI tp)).wfU rfl 0
  generalize swf 42 0 (swf 43 (nI tp) (swf 41 0 w)) = w4 at f41 f43 f42 fo fa hA4 ⊢
  refine Ok_ite (fun h0 => ?_) (fun _ => Ok_rt ⟨n, E, lg, s, ?_⟩)
  · have hfree : ∀ j, j < 4 → w.1.2 22 j = -1 := by
      rcases hv with ⟨-, hv⟩ | hv
      · exact hv
      · rw [hv] at h0; exact absurd h0 (by decide)
    have hfs : ∀ m, m < 4 → (s n).1.2 22 m = -1 := fun m hm => (hA.va rfl (hs.1.1.2.2.2.2.2.1 m hm).1).symm.trans (hfree m hm)
    refine Ok_wf (Ok_wf ?_)
    have g41 : Im (swf 50 (-1) (swf 49 0 w4)) 41 0 := (f41.o (by decide)).o (by decide)
    have g43 : Im (swf 50 (-1) (swf 49 0 w4)) 43 (nI tp) := (f43.o (by decide)).o (by decide)
    have go : ∀ k, ¬ k = 49 → ¬ k = 50 → (swf 50 (-1) (swf 49 0 w4)).1.1 k = w4.1.1 k ∧ (swf 50 (-1) (swf 49 0 w4)).2.1 k = w4.2.1 k := fun k h1 h2 => by
      have a1 := swf_o (w := swf 49 0 w4) (k := 50) (x := -1) h2
      have a2 := swf_o (w := w4) (k := 49) (x := 0) h1
      exact ⟨a1.1.trans a2.1, a1.2.trans a2.2⟩
    have ga : (swf 50 (-1) (swf 49 0 w4)).1.2 = w.1.2 ∧ (swf 50 (-1) (swf 49 0 w4)).2.2 = w.2.2 := fa
    generalize swf 50 (-1) (swf 49 0 w4) = w6 at g41 g43 go ga ⊢
    have hT : Tx w6 tp := ⟨g41.1, Or.inl g41.2, g43, htp⟩
    -- what stands behind the reading
    have hmid : ∀ v, PX w6 v → Mid n E (s n) w v ∧ Im v 43 (nI tp) := fun v hv => by
      obtain ⟨⟨p1, p2⟩, -⟩ := hv
      have pi : ∀ k, ¬ (27 ≤ k ∧ k ≤ 31) → ¬ (44 ≤ k ∧ k ≤ 51) → ¬ k = 41 → ¬ k = 42 → ¬ k = 43 → v.1.1 k = w.1.1 k ∧ v.2.1 k = w.2.1 k := fun k h1 h2 h3 h4 h5 => by
        have a1 := p1 k h1 h2
        have a2 := go k (by omega) (by omega)
        have a3 := fo k h3 h4 h5
        exact ⟨a1.1.trans (a2.1.trans a3.1), a1.2.trans (a2.2.trans a3.2)⟩
      have pa : ∀ k, ¬ (32 ≤ k ∧ k ≤ 37) → v.1.2 k = w.1.2 k ∧ v.2.2 k = w.2.2 k := fun k h1 => ⟨(p2 k h1).1.trans (congrFun ga.1 k), (p2 k h1).2.trans (congrFun ga.2 k)⟩
      refine ⟨⟨⟨fun k hk hL hm => ?_, fun k j hk hA2 hm => ?_⟩, (pi 53 (by decide) (by decide) (by decide) (by decide) (by decide)).1.trans e53, (pi 55 (by decide) (by decide) (by decide) (by decide) (by decide)).1.trans e55, ?_, (pa 52 (by decide)).1, fun j hj => ?_, fun c hc => ?_⟩, ?_⟩
      · have n1 := isS_ne (hs.2.2.i hm)
        have n2 := trk_ne hk
        have n3 := of_decide_eq_false hL
        have h9 := pi k n3 (by omega) n1.1 n2.1 n1.2.1
        rw [h9.1, h9.2]
        exact hA.1 k hk hm
      · have n3 := of_decide_eq_false hA2
        rw [(pa k n3).1, (pa k n3).2]
        exact hA.2 k j hk hm
      · exact (p1 42 (by decide) (by decide)).1.trans ((go 42 (by decide) (by decide)).1.trans f42)
      · rw [(pa 54 (by decide)).1, (pa 54 (by decide)).2]
        exact ⟨h54 j hj, rfl⟩
      · rw [(pa 13 (by decide)).2]; exact h13 c hc
      · exact ⟨(p1 43 (by decide) (by decide)).2.trans g43.1, (p1 43 (by decide) (by decide)).1.trans g43.2⟩
    refine Ok_cl (Ok.mono (ok_readLaws hT) (fun r v z => ?_))
    rcases z with ⟨rfl, z⟩ | ⟨rfl, z, -⟩
    · obtain ⟨hM, h43⟩ := hmid v z
      refine Ok_otN (Ok_rfN h43 (Ok_uf' (fun x hx => ?_)))
      have ex : x = nI E := hx.symm.trans hM.2.2.1
      subst ex
      have hend : ∀ v5 : Int32, Ok (pcl (f_lawsAgain) (fun r_44 => (if (0 : Int32) = 0 then prt (-1) else puf 53 (fun x_48 => (if x_48 = 500 then prt (-4) else puf 55 (fun x_51 => pwf 55 (x_51 + nI tp) (pcl (f_act 0 (nI E) (nI tp) 0) (fun r_55 => prt r_55)))))))) v (fun _ v => Live N 0 v) := fun v5 =>
        Ok_cl (Ok.mono (mid_again hL hN hM) (fun _ y hy => Ok_ite (fun _ => Ok_rt ⟨n, E, lg, s, hy.1⟩) (fun z => absurd rfl z)))
      obtain ⟨m, em, -⟩ := fuel_succ 1 (by decide)
      rw [em]
      unfold lp_laws_99
      exact Ok_ite (fun _ => hend 0) (fun _ => Ok_ite (fun _ => hend 0) (fun z => absurd rfl z))
    · obtain ⟨hM, h43⟩ := hmid v z
      refine Ok_otS (Ok_rfN h43 (Ok_uf' (fun x hx => ?_)))
      have ex : x = nI E := hx.symm.trans hM.2.2.1
      subst ex
      refine ok_laws99 E tp (by omega) htp v1 _ _ (fun y v5 hc => ?_) tp 0 fuel v (by omega) (by unfold fuel; omega) ⟨rfl, rfl, fun _ _ => ⟨rfl, rfl⟩, fun _ _ => rfl, fun _ hj => hj, fun j hj => absurd hj (Nat.not_lt_zero _)⟩
      obtain ⟨c1, c2, c3, c4, c5, c6⟩ := hc
      have hM2 : Mid n E (s n) w y := by
        obtain ⟨m1, m2, m3, m4, m5, m6, m7⟩ := hM
        refine ⟨⟨fun k hk hL hm => ?_, fun k j hk hA2 hm => ?_⟩, (congrFun c1 53).trans m2, (congrFun c1 55).trans m3, (congrFun c1 42).trans m4, (c3 52 (by decide)).1.trans m5, fun j hj => ⟨c5 j (m6 j hj).1, (c4 j hj).trans (m6 j hj).2⟩, fun c hc => ?_⟩
        · rw [c1, c2]; exact m1.1 k hk hL hm
        · have n1 := hs.2.2.a hm
          rw [(c3 k n1.1).1, (c3 k n1.1).2]
          exact m1.2 k j hk hA2 hm
        · rw [(c3 13 (by decide)).2]; exact m7 c hc
      refine Ok_cl (Ok.mono (mid_again hL hN hM2) (fun _ y2 hy => Ok_ite (fun z => absurd z (by decide)) (fun _ => ?_)))
      obtain ⟨hy, hF⟩ := hy
      refine Ok_uf' (fun x hx => Ok_ite (fun _ => Ok_rt ⟨n, E, lg, s, hy⟩) (fun _ => Ok_uf' (fun x2 hx2 => ?_)))
      have ex : x2 = nI E := hx2.symm.trans hy.2.2.1
      subst ex
      rw [nI_add]
      refine Ok_wf ?_
      have hy2 : LiveX N 0 n (E + tp) lg s (swf 55 (nI (E + tp)) y2) := by
        obtain ⟨b1, b2, b3, b4, b5, b6, b7, b8, b9, b10, b11⟩ := hy
        refine ⟨b1, (swf_o (by decide)).1.trans b2, (swf_e (k := 55)).2, (swf_o (by decide)).1.trans b4, by omega, by omega, ?_, b8.wfU rfl _, b9, fun j hj => ?_, b11⟩
        · exact b7.up (fun _ _ => rfl) (by omega) (by omega) (fun _ _ => rfl)
        · show y2.2.2 54 j = true
          by_cases hj2 : j < E
          · exact b10 j hj2
          · rw [(hF.2.1 54 rfl).2]
            have h9 := c6 (j - E) (by omega)
            have e9 : E + (j - E) = j := by omega
            rw [e9] at h9
            exact h9
      generalize swf 55 (nI (E + tp)) y2 = y3 at hy2 ⊢
      refine Ok_cl (Ok.mono (act_core hy2 hN 0 (nI E) (nI tp) 0 ?_) (fun r y4 hz => Ok_rt hz))
      obtain ⟨v9, q1, q2, q3, q4⟩ := stp_law (E := E + tp) (f := E) (n := tp) (c := 0) (tx := y3.1.2 54) hs.1 hfs (Nat.le_refl _) (by omega) htp
      exact ⟨v9, q1, q2, q3, fun _ => ⟨E, tp, rfl, rfl, Nat.le_refl _, htp, q4⟩, fun z => absurd rfl z⟩
  · refine ⟨hn, (fo 53 (by decide) (by decide) (by decide)).1.trans e53, (fo 55 (by decide) (by decide) (by decide)).1.trans e55, f42, by omega, by omega, ?_, hA4, ?_, ?_, ?_⟩
    · rw [fa.1]; exact hR
    · intro k hk
      rw [fa.1]; exact hlg k hk
    · intro j hj
      rw [fa.2]; exact h54 j hj
    · intro c hc
      rw [fa.2]; exact h13 c hc
