/-! ===== laws() ===== -/
/-- agreement but for the cells of the laws -/
def AgX (u v : GS) : Prop := (∀ k, trk k = true → isL k = false → u.2.1 k = true → v.2.1 k = true ∧ v.1.1 k = u.1.1 k) ∧ ∀ k j, trk k = true → isA k = false → u.2.2 k j = true → v.2.2 k j = true ∧ v.1.2 k j = u.1.2 k j
def lz (v : GS) : GS := swf 28 0 (swf 27 0 (swf 31 0 (swf 30 0 (swf 29 0 v))))
theorem lz_L {v : GS} {k : Nat} (hk : isL k = true) : Im (lz v) k 0 := by
  have h2 := of_decide_eq_true hk
  rcases (by omega : k = 27 ∨ k = 28 ∨ k = 29 ∨ k = 30 ∨ k = 31) with rfl | rfl | rfl | rfl | rfl
  · exact ⟨rfl, rfl⟩
  · exact ⟨rfl, rfl⟩
  · exact ⟨rfl, rfl⟩
  · exact ⟨rfl, rfl⟩
  · exact ⟨rfl, rfl⟩
theorem lz_o {v : GS} {k : Nat} (hk : isL k = false) : (lz v).1.1 k = v.1.1 k ∧ (lz v).2.1 k = v.2.1 k := by
  have h2 := of_decide_eq_false hk
  have a1 := swf_o (w := swf 27 0 (swf 31 0 (swf 30 0 (swf 29 0 v)))) (k := 28) (x := 0) (k2 := k) (by omega)
  have a2 := swf_o (w := swf 31 0 (swf 30 0 (swf 29 0 v))) (k := 27) (x := 0) (k2 := k) (by omega)
  have a3 := swf_o (w := swf 30 0 (swf 29 0 v)) (k := 31) (x := 0) (k2 := k) (by omega)
  have a4 := swf_o (w := swf 29 0 v) (k := 30) (x := 0) (k2 := k) (by omega)
  have a5 := swf_o (w := v) (k := 29) (x := 0) (k2 := k) (by omega)
  exact ⟨a1.1.trans (a2.1.trans (a3.1.trans (a4.1.trans a5.1))), a1.2.trans (a2.2.trans (a3.2.trans (a4.2.trans a5.2)))⟩
theorem lz_fr (v : GS) : FrR gFI gFA v (lz v) := by
  refine ⟨fun k hk => ?_, fun k hk => ⟨rfl, rfl⟩, fun j hj => hj⟩
  have h2 := List.contains_iff_mem.mp hk
  simp only [List.mem_cons, List.not_mem_nil, or_false] at h2
  exact lz_o (decide_eq_false (by omega))
theorem nI_nn {k : Nat} (h : k < 2 ^ 31) : ¬ nI k < 0 := by
  rw [Int32.lt_iff_toInt_lt, nI_toInt h]
  have : (0 : Int32).toInt = 0 := by decide
  omega
theorem NoS.i {u : GS} (h : NoS u) {k : Nat} (hk : u.2.1 k = true) : isS k = false := by
  cases hs : isS k with
  | false => rfl
  | true => rw [h.1 k hs] at hk; cases hk
theorem NoS.a {u : GS} (h : NoS u) {k j : Nat} (hk : u.2.2 k j = true) : ¬ k = 54 ∧ ¬ k = 56 := by
  refine ⟨fun z => ?_, fun z => ?_⟩
  · rw [h.2 k j (Or.inl z)] at hk; cases hk
  · rw [h.2 k j (Or.inr (Or.inl z))] at hk; cases hk
theorem trk_ne {k : Nat} (h : trk k = true) : ¬ k = 42 ∧ ¬ k = 49 ∧ ¬ k = 50 ∧ ¬ k = 53 ∧ ¬ k = 55 := by
  refine ⟨fun z => ?_, fun z => ?_, fun z => ?_, fun z => ?_, fun z => ?_⟩ <;> (subst z; exact absurd h (by decide))
theorem isS_ne {k : Nat} (h : isS k = false) : ¬ k = 41 ∧ ¬ k = 43 ∧ ¬ k = 44 ∧ ¬ k = 45 ∧ ¬ k = 46 ∧ ¬ k = 47 ∧ ¬ k = 48 ∧ ¬ k = 51 := by
  refine ⟨fun z => ?_, fun z => ?_, fun z => ?_, fun z => ?_, fun z => ?_, fun z => ?_, fun z => ?_, fun z => ?_⟩ <;> (subst z; exact absurd h (by decide))
theorem ok_again_lp {n E : Nat} {lg : Nat → En} {tx : Nat → Int32} {u v : GS} (hns : NoS u) (hLC : LC E lg tx n u) (hE : E ≤ 24000) (hn : n ≤ 500) (hx : AgX u v) (hlg : lgOk v lg n) (ht : ∀ j, j < E → v.2.2 54 j = true ∧ v.1.2 54 j = tx j) :
    ∀ (k m : Nat), k < m → ll lg n = ll lg k → k ≤ n → Ok (lp_lawsAgain_32 m (nI k - 1) (fun v1 => prt 0)) (lz v) (fun _ y => Ag u y ∧ FrR gFI gFA v y) := by
  intro k
  induction k with
  | zero =>
    intro m hm hl _
    cases m with
    | zero => omega
    | succ m =>
      unfold lp_lawsAgain_32
      refine Ok_ite (fun _ => Ok_rt ⟨⟨fun k hk hm => ?_, fun k j hk hm => ?_⟩, lz_fr v⟩) (fun z => absurd (by decide) z)
      · unfold LC at hLC
        rw [hl] at hLC
        cases hL : isL k with
        | true =>
          have h9 := hLC.1 k hL hm
          exact ⟨(lz_L hL).1, (lz_L (v := v) hL).2.trans h9.2⟩
        | false =>
          rw [(lz_o (v := v) hL).1, (lz_o (v := v) hL).2]
          exact hx.1 k hk hL hm
      · unfold LC at hLC
        rw [hl] at hLC
        cases hA : isA k with
        | true =>
          have h9 := (hLC.2 k j hA hm).1
          cases h9
        | false => exact hx.2 k j hk hA hm
  | succ k ih =>
    intro m hm hl hkn
    cases m with
    | zero => omega
    | succ m =>
      have ep : nI (k + 1) - 1 = nI k := nI_sub (b := 1) (by omega)
      obtain ⟨l0, l1, l2, l3⟩ := hlg k (by omega)
      unfold lp_lawsAgain_32
      rw [ep]
      refine Ok_ite (fun z => absurd z (nI_nn (by omega))) (fun _ => Ok_udN (j := 4 * k) (ix4 k) (by omega) (by decide) l0 (Ok_ite (fun h0 => ?_) (fun h0 => Ok_li ?_)))
      · refine Ok_udN (j := 4 * k + 1) (by rw [ix4, nI_1]) (by omega) (by decide) l1 ?_
        refine Ok_udN (j := 4 * k + 2) (by rw [ix4]; exact nI_add (4 * k) 2) (by omega) (by decide) l2 ?_
        have hll : ll lg n = some k := by
          rw [hl]
          unfold ll
          rw [if_pos h0]
        unfold LC at hLC
        rw [hll] at hLC
        obtain ⟨f, q, a1, a2, a3, a4, a5⟩ := hLC
        rw [a1, a2]
        obtain ⟨⟨r0, e0⟩, -⟩ := t1_ok (tx := tx) (by omega : f + q ≤ 24000) a4
        have hag : Ag (tput f q tx B0) (lz v) := tput_ag (B0_ag _) (fun j h1 h2 => ht j (by omega))
        obtain ⟨y, e1, g1, -⟩ := det_takeLaws (nI f) (nI q) _ _ hag (fun z => by cases z) _ _ e0
        obtain ⟨r2, u2, e2, hT, -⟩ := ok_takeLaws (u := lz v) f q (by omega) a4 (fun k hk => (ht (f + k) (by omega)).1)
        rw [e1] at e2
        cases e2
        refine Ok_cl ⟨r0, y, e1, Ok_rt ⟨⟨fun k hk hm => ?_, fun k j hk hm => ?_⟩, (lz_fr v).trans hT.frg⟩⟩
        · cases hL : isL k with
          | true =>
            have h9 := a5.1 k hL hm
            have h8 := g1.1 k hk h9.1
            exact ⟨h8.1, h8.2.trans h9.2⟩
          | false =>
            have n1 := isS_ne (hns.i hm)
            have n2 := trk_ne hk
            have n3 := of_decide_eq_false hL
            have h9 := hT.1 k n3 (by omega)
            rw [h9.1, h9.2, (lz_o (v := v) hL).1, (lz_o (v := v) hL).2]
            exact hx.1 k hk hL hm
        · cases hA : isA k with
          | true =>
            have h9 := a5.2 k j hA hm
            have h8 := g1.2 k j hk h9.1
            exact ⟨h8.1, h8.2.trans h9.2⟩
          | false =>
            have n1 := hns.a hm
            have n3 := of_decide_eq_false hA
            have h9 := hT.2 k n3 n1.2
            rw [h9.1, h9.2]
            exact hx.2 k j hk hA hm
      · have e2 : nI k + -1 = nI k - 1 := (Int32.sub_eq_add_neg _ _).symm
        rw [e2]
        refine ih m (by omega) ?_ (by omega)
        rw [hl]
        show (if (lg k).1 = 0 then some k else ll lg k) = ll lg k
        rw [if_neg h0]
theorem ok_lawsAgain {n E : Nat} {lg : Nat → En} {tx : Nat → Int32} {u v : GS} (hns : NoS u) (hLC : LC E lg tx n u) (hE : E ≤ 24000) (hn : n ≤ 500) (hx : AgX u v) (e53 : v.1.1 53 = nI n) (hlg : lgOk v lg n) (ht : ∀ j, j < E → v.2.2 54 j = true ∧ v.1.2 54 j = tx j) : Ok f_lawsAgain v (fun _ y => Ag u y ∧ FrR gFI gFA v y) := by
  unfold f_lawsAgain
  refine Ok_wf (Ok_wf (Ok_wf (Ok_wf (Ok_wf ?_))))
  refine Ok_uf' (fun x hx2 => ?_)
  have ex : x = nI n := hx2.symm.trans ((lz_o (v := v) (k := 53) rfl).1.trans e53)
  subst ex
  exact Ok_li (ok_again_lp hns hLC hE hn hx hlg ht n fuel (by unfold fuel; omega) rfl (Nat.le_refl _))
def K54 (y x : GS) (E k : Nat) : Prop := x.1.1 = y.1.1 ∧ x.2.1 = y.2.1 ∧ (∀ a, ¬ a = 54 → x.1.2 a = y.1.2 a ∧ x.2.2 a = y.2.2 a) ∧ (∀ j, j < E → x.1.2 54 j = y.1.2 54 j) ∧ (∀ j, y.2.2 54 j = true → x.2.2 54 j = true) ∧ ∀ j, j < k → x.2.2 54 (E + j) = true
def Mid (n E : Nat) (u w x : GS) : Prop := AgX u x ∧ x.1.1 53 = nI n ∧ x.1.1 55 = nI E ∧ x.1.1 42 = nI 0 ∧ x.1.2 52 = w.1.2 52 ∧ (∀ j, j < E → x.2.2 54 j = true ∧ x.1.2 54 j = w.1.2 54 j) ∧ ∀ c, c < 4 → x.2.2 13 c = true
theorem mid_again {N tp n E : Nat} {lg : Nat → En} {s : Nat → GS} {w x : GS} (h : LiveX N tp n E lg s w) (hN : N ≤ 24000) (hM : Mid n E (s n) w x) : Ok f_lawsAgain x (fun _ y => LiveX N 0 n E lg s y ∧ FrR gFI gFA x y) := by
  obtain ⟨hn, e53, e55, e42, htp, hE, hR, hA, hlg, h54, h13⟩ := h
  obtain ⟨m1, m2, m3, m4, m5, m6, m7⟩ := hM
  have hs := hR.2.1 n (Nat.le_refl _)
  have hlg2 : lgOk x lg n := fun k hk => by rw [m5]; exact hlg k hk
  refine Ok.mono (ok_lawsAgain hs.2.2 hs.2.1 (by omega) hn m1 m2 hlg2 m6) (fun _ y z => ⟨?_, z.2⟩)
  obtain ⟨ha, hF⟩ := z
  refine ⟨hn, (hF.1 53 rfl).1.trans m2, (hF.1 55 rfl).1.trans m3, (hF.1 42 rfl).1.trans m4, by omega, by omega, ?_, ha, fun k hk => ?_, fun j hj => ?_, fun c hc => hF.2.2 c (m7 c hc)⟩
  · refine hR.up (fun _ _ => rfl) (Nat.le_refl _) (by omega) (fun j hj => ?_)
    rw [(hF.2.1 54 rfl).1]
    exact (m6 j hj).2
  · rw [(hF.2.1 52 rfl).1]; exact hlg2 k hk
  · rw [(hF.2.1 54 rfl).2]; exact (m6 j hj).1
