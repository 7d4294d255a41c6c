/-! ===== the live state ===== -/
theorem Ag.wdU {u v : GS} (h : Ag u v) {k : Nat} (hk : trk k = false) (i x : Int32) : Ag u (swd k i x v) := by
  refine ⟨h.1, fun a j ht hj => ?_⟩
  have hak : ¬ a = k := fun z => by rw [z, hk] at ht; cases ht
  rw [(sw_o (w := v) (k := k) (i := i) (v := x) hak).1, (sw_o (w := v) (k := k) (i := i) (v := x) hak).2]
  exact h.2 a j ht hj
theorem Ag.wfU {u v : GS} (h : Ag u v) {k : Nat} (hk : trk k = false) (x : Int32) : Ag u (swf k x v) := by
  refine ⟨fun a ht hj => ?_, h.2⟩
  have hak : ¬ a = k := fun z => by rw [z, hk] at ht; cases ht
  rw [(swf_o (w := v) (k := k) (x := x) hak).1, (swf_o (w := v) (k := k) (x := x) hak).2]
  exact h.1 a ht hj
theorem Ag.wfN {u v : GS} (h : Ag u v) {k : Nat} (hk : u.2.1 k = false) (x : Int32) : Ag u (swf k x v) := by
  refine ⟨fun a ht hj => ?_, h.2⟩
  have hak : ¬ a = k := fun z => by rw [z, hk] at hj; cases hj
  rw [(swf_o (w := v) (k := k) (x := x) hak).1, (swf_o (w := v) (k := k) (x := x) hak).2]
  exact h.1 a ht hj
theorem FrR.weak {u v : GS} (h : FrR fI fA u v) : FrR gFI gFA u v := by
  refine ⟨fun k hk => h.1 k ?_, fun k hk => h.2.1 k ?_, h.2.2⟩
  · have h2 := List.contains_iff_mem.mp hk
    simp only [List.mem_cons, List.not_mem_nil, or_false] at h2
    rcases h2 with rfl | rfl | rfl <;> rfl
  · have h2 := List.contains_iff_mem.mp hk
    simp only [List.mem_cons, List.not_mem_nil, or_false] at h2
    rcases h2 with rfl | rfl | rfl <;> rfl
theorem TF.frg {u v : GS} (h : TF u v) : FrR gFI gFA u v := by
  refine ⟨fun k hk => ?_, fun k hk => ?_, fun j hj => ?_⟩
  · have h2 := List.contains_iff_mem.mp hk
    simp only [List.mem_cons, List.not_mem_nil, or_false] at h2
    exact h.1 k (by omega) (by omega)
  · have h2 := List.contains_iff_mem.mp hk
    simp only [List.mem_cons, List.not_mem_nil, or_false] at h2
    exact h.2 k (by omega) (by omega)
  · rw [(h.2 13 (by decide) (by decide)).2]; exact hj
theorem stp_det {E : Nat} {e : En} {tx : Nat → Int32} {u u2 v : GS} (h : stp E e tx u u2) (ha : Ag u v) (hv : ∀ j, j < E → v.2.2 54 j = true ∧ v.1.2 54 j = tx j) : ∃ r v1, f_does e.1 e.2.1 e.2.2.1 e.2.2.2 v = some (r, v1) ∧ Ag u2 v1 ∧ FrR gFI gFA v v1 := by
  rcases h with ⟨h0, f, n, r, u1, a1, a2, a3, a4, a5, a6, rfl⟩ | ⟨h0, r, a6⟩
  · have hag : Ag (tput f n tx u) v := tput_ag ha (fun j h1 h2 => hv j (by omega))
    obtain ⟨v1, f1, g1, -⟩ := det_does _ _ _ _ _ v hag (fun z => by cases z) _ _ a6
    refine ⟨r, v1, f1, lf_ag g1, ?_⟩
    rw [h0, a1, a2] at f1
    unfold f_does at f1
    rw [if_pos rfl] at f1
    obtain ⟨b, w1, f2, f3⟩ := pcl_some f1
    cases f3
    obtain ⟨r2, u3, e2, hT, -⟩ := ok_takeLaws (u := v) f n (by omega) a5 (fun k hk => (hv (f + k) (by omega)).1)
    rw [f2] at e2
    cases e2
    exact hT.frg
  · obtain ⟨v1, f1, g1, -⟩ := det_does _ _ _ _ _ v ha (fun z => by cases z) _ _ a6
    exact ⟨r, v1, f1, g1, (fr_does _ _ _ _ h0 v r v1 f1).weak⟩
def lgOk (w : GS) (lg : Nat → En) (n : Nat) : Prop := ∀ k, k < n → w.1.2 52 (4 * k) = (lg k).1 ∧ w.1.2 52 (4 * k + 1) = (lg k).2.1 ∧ w.1.2 52 (4 * k + 2) = (lg k).2.2.1 ∧ w.1.2 52 (4 * k + 3) = (lg k).2.2.2
def LiveX (N tp n E : Nat) (lg : Nat → En) (s : Nat → GS) (w : GS) : Prop := n ≤ 500 ∧ w.1.1 53 = nI n ∧ w.1.1 55 = nI E ∧ w.1.1 42 = nI tp ∧ tp ≤ 3000 ∧ E + tp ≤ N ∧ Rp E lg (w.1.2 54) n s ∧ Ag (s n) w ∧ lgOk w lg n ∧ (∀ j, j < E → w.2.2 54 j = true) ∧ ∀ c, c < 4 → w.2.2 13 c = true
/-- between two calls: N bounds all that was and is on the tape, tp bytes lie there -/
def Live (N tp : Nat) (w : GS) : Prop := ∃ n E lg s, LiveX N tp n E lg s w
theorem LiveX.inv {N tp n E : Nat} {lg : Nat → En} {s : Nat → GS} {w : GS} (h : LiveX N tp n E lg s w) : Inv w := h.2.2.2.2.2.2.2.1.inv (h.2.2.2.2.2.2.1.2.1 n (Nat.le_refl _)).1
theorem Live.inv {N tp : Nat} {w : GS} (h : Live N tp w) : Inv w := by
  obtain ⟨n, E, lg, s, h⟩ := h
  exact h.inv
theorem Live.m13 {N tp : Nat} {w : GS} (h : Live N tp w) : ∀ c, c < 4 → w.2.2 13 c = true := by
  obtain ⟨n, E, lg, s, h⟩ := h
  exact h.2.2.2.2.2.2.2.2.2.2
theorem ix4 (n : Nat) : (4 : Int32) * nI n = nI (4 * n) := by rw [← nI_mul]; rfl
theorem live_frg {N tp n m E : Nat} {lg : Nat → En} {s : Nat → GS} {w v : GS} (h : LiveX N tp n E lg s w) (hm : m ≤ n) (e53 : v.1.1 53 = nI m) (e55 : v.1.1 55 = w.1.1 55) (e42 : v.1.1 42 = w.1.1 42) (e52 : v.1.2 52 = w.1.2 52) (e54 : v.1.2 54 = w.1.2 54) (m54 : v.2.2 54 = w.2.2 54) (m13 : ∀ c, w.2.2 13 c = true → v.2.2 13 c = true) (ha : Ag (s m) v) : LiveX N tp m E lg s v := by
  obtain ⟨h1, h2, h3, h4, h5, h6, h7, h8, h9, h10, h11⟩ := h
  refine ⟨by omega, e53, e55.trans h3, e42.trans h4, h5, h6, ?_, ha, fun k hk => ?_, fun j hj => ?_, fun c hc => m13 c (h11 c hc)⟩
  · rw [e54]; exact h7.less hm
  · rw [e52]; exact h9 k (by omega)
  · rw [m54]; exact h10 j hj
/-! ===== undo ===== -/
theorem Ok_udN {β : Type} {k n j : Nat} {ix x : Int32} {c : Int32 → PG β} {w : GS} {Q : β → GS → Prop} (hi : ix = nI j) (hj : j < n) (hn : n < 2 ^ 31) (hx : w.1.2 k j = x) (hq : Ok (c x) w Q) : Ok (pud k n ix c) w Q := by
  subst hi
  refine Ok_ud (gi_nI hj hn) ?_
  have hr : ra w.1 k (nI j) = x := by
    unfold ra
    rw [nI_clamp (by omega)]
    exact hx
  rw [hr]
  exact hq
theorem ok_undo_lp {E M : Nat} {lg : Nat → En} {tx : Nat → Int32} {s : Nat → GS} {w : GS} (hR : Rp E lg tx M s) (hM : M ≤ 500) (e53 : w.1.1 53 = nI M) (hlg : lgOk w lg M) (e54 : w.1.2 54 = tx) (h54 : ∀ j, j < E → w.2.2 54 j = true) (K : Int32 → PG Int32) (Q : Int32 → GS → Prop) (hK : ∀ v x, Ag (s M) v → FrR gFI gFA w v → Ok (K x) v Q) :
    ∀ (t k m : Nat) (v : GS), k + t = M → t < m → Ag (s k) v → FrR gFI gFA w v → Ok (lp_undo_25 m (nI k) K) v Q := by
  intro t
  induction t with
  | zero =>
    intro k m v h1 h2 ha hF
    cases m with
    | zero => omega
    | succ m =>
      have hk : k = M := by omega
      subst hk
      unfold lp_undo_25
      refine Ok_uf' (fun x hx => ?_)
      have ex : x = nI k := hx.symm.trans ((hF.1 53 rfl).1.trans e53)
      subst ex
      exact Ok_ite (fun _ => hK v _ ha hF) (fun z => absurd (Int32.le_refl _) z)
  | succ t ih =>
    intro k m v h1 h2 ha hF
    cases m with
    | zero => omega
    | succ m =>
      unfold lp_undo_25
      refine Ok_uf' (fun x hx => ?_)
      have ex : x = nI M := hx.symm.trans ((hF.1 53 rfl).1.trans e53)
      subst ex
      refine Ok_ite (fun z => absurd z (nI_ge (by omega) (by omega))) (fun _ => ?_)
      obtain ⟨l0, l1, l2, l3⟩ := hlg k (by omega)
      have e52 : v.1.2 52 = w.1.2 52 := (hF.2.1 52 rfl).1
      refine Ok_udN (j := 4 * k) (ix4 k) (by omega) (by decide) ((congrFun e52 _).trans l0) ?_
      refine Ok_udN (j := 4 * k + 1) (by rw [ix4, nI_1]) (by omega) (by decide) ((congrFun e52 _).trans l1) ?_
      refine Ok_udN (j := 4 * k + 2) (by rw [ix4]; exact nI_add (4 * k) 2) (by omega) (by decide) ((congrFun e52 _).trans l2) ?_
      refine Ok_udN (j := 4 * k + 3) (by rw [ix4]; exact nI_add (4 * k) 3) (by omega) (by decide) ((congrFun e52 _).trans l3) ?_
      have v54 := hF.2.1 54 rfl
      obtain ⟨r, v1, f1, g1, hF1⟩ := stp_det (hR.2.2 k (by omega)) ha (fun j hj => ⟨by rw [v54.2]; exact h54 j hj, by rw [v54.1, e54]⟩)
      refine Ok_cl ⟨r, v1, f1, Ok_li ?_⟩
      rw [nI_1]
      exact ih (k + 1) m v1 (by omega) (by omega) g1 (hF.trans hF1)
