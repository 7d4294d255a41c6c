def D2 {β : Type} (c : Bool) (p p2 : PG β) : Prop := ∀ u v : GS, Ag u v → Sk c u → ∀ (r : β) (u1 : GS), p u = some (r, u1) → ∃ v1 : GS, p2 v = some (r, v1) ∧ Ag u1 v1 ∧ Sk c u1
theorem Det2_cl {α β : Type} {c : Bool} {p : PG α} {q q2 : α → PG β} (hp : Det c p) (hq : ∀ a, D2 c (q a) (q2 a)) : D2 c (pcl p q) (pcl p q2) := fun u v h hs r u1 e => by
  obtain ⟨a, w1, e1, e2⟩ := pcl_some e
  obtain ⟨v1, f1, g1, s1⟩ := hp u v h hs a w1 e1
  obtain ⟨v2, f2, g2, s2⟩ := hq a w1 v1 g1 s1 r u1 e2
  exact ⟨v2, by unfold pcl; rw [f1]; exact f2, g2, s2⟩
theorem D2_ot {β : Type} {c : Bool} {x : Option Int32} {n n2 : PG β} {q q2 : Int32 → PG β} (hn : D2 c n n2) (hq : ∀ x, D2 c (q x) (q2 x)) : D2 c (pot x n q) (pot x n2 q2) := by
  cases x with
  | none => exact hn
  | some a => exact hq a
theorem D2_wu {β : Type} {c : Bool} {k : Nat} {x y : Int32} {p p2 : PG β} (hk : trk k = false) (hs9 : ¬ k = 41) (hp : D2 c p p2) : D2 c (pwf k x p) (pwf k y p2) := fun u v h hs r u1 e => by
  refine hp (swf k x u) (swf k y v) ⟨fun j ht hj => ?_, h.2⟩ (fun hc => ?_) r u1 e
  · have hjk : ¬ j = k := fun z => by rw [z, hk] at ht; cases ht
    have hj' : u.2.1 j = true := by
      have hj2 : (if j = k then true else u.2.1 j) = true := hj
      rw [if_neg hjk] at hj2
      exact hj2
    refine ⟨(if_neg hjk).trans (h.1 j ht hj').1, ?_⟩
    show (if j = k then y else v.1.1 j) = (if j = k then x else u.1.1 j)
    rw [if_neg hjk, if_neg hjk]
    exact (h.1 j ht hj').2
  · refine ⟨(if_neg (fun z => hs9 z.symm)).trans (hs hc).1, ?_⟩
    show (if 41 = k then x else u.1.1 41) = 1
    rw [if_neg (fun z => hs9 z.symm)]
    exact (hs hc).2
theorem D2_wt {β : Type} {c : Bool} {k : Nat} {x : Int32} {p p2 : PG β} (hs9 : ¬ k = 41) (hp : D2 c p p2) : D2 c (pwf k x p) (pwf k x p2) := fun u v h hs r u1 e => by
  have hd : Det c (pwf k x (fun w => some ((), w))) := Det_wf hs9 (Det_rt ())
  obtain ⟨v1, f1, g1, s1⟩ := hd u v h hs () _ rfl
  cases f1
  exact hp _ _ g1 s1 r u1 e
theorem D2_of {β : Type} {c : Bool} {p : PG β} (h : Det c p) : D2 c p p := h
theorem Det_u2 {β : Type} {c : Bool} {a b : Nat} {q : Int32 → Int32 → PG β} (h : ∀ x y x2 y2, D2 c (q x y) (q x2 y2)) : Det c (puf a (fun x => puf b (fun y => q x y))) := fun u v ha hs r u1 e => h _ _ _ _ u v ha hs r u1 e
theorem Det_src {β : Type} {p : PG β} (hp : Det true p) : Det false (pwf 41 1 p) := fun u v h _ r u1 e => by
  have hag : Ag (swf 41 1 u) (swf 41 1 v) := by
    refine ⟨fun j ht hj => ?_, h.2⟩
    by_cases hjk : j = 41
    · refine ⟨if_pos hjk, ?_⟩
      show (if j = 41 then (1 : Int32) else v.1.1 j) = (if j = 41 then (1 : Int32) else u.1.1 j)
      rw [if_pos hjk, if_pos hjk]
    · have hj' : u.2.1 j = true := by
        have hj2 : (if j = 41 then true else u.2.1 j) = true := hj
        rw [if_neg hjk] at hj2
        exact hj2
      refine ⟨(if_neg hjk).trans (h.1 j ht hj').1, ?_⟩
      show (if j = 41 then (1 : Int32) else v.1.1 j) = (if j = 41 then (1 : Int32) else u.1.1 j)
      rw [if_neg hjk, if_neg hjk]
      exact (h.1 j ht hj').2
  obtain ⟨v1, f1, g1, s1⟩ := hp (swf 41 1 u) (swf 41 1 v) hag (fun _ => ⟨rfl, rfl⟩) r u1 e
  exact ⟨v1, f1, g1, fun z => by cases z⟩

theorem det_in (c : Bool) (a0 : Int64) (a1 : Int64) (a2 : Int64) : Det c (f_in a0 a1 a2) := by
  unfold f_in
  repeat (first | (with_reducible exact Det_rt _) | (with_reducible intro _) | (with_reducible refine Det_clL ?_) | (with_reducible refine Det_clr ?_) | (with_reducible refine Det_li (fun _ => ?_)) | (with_reducible refine Det_rf rfl (fun _ => ?_)) | (with_reducible refine Det_rd rfl (fun _ => ?_)) | (with_reducible refine Det_wf (by decide) ?_) | (with_reducible refine Det_wd ?_) | (with_reducible refine Det_sr (fun _ => ?_)) | (with_reducible refine Det_og ?_) | (with_reducible refine Det_ite ?_ ?_) | (with_reducible refine Det_oi (fun _ => ?_)) | (with_reducible refine Det_ot ?_ (fun _ => ?_)) | (with_reducible refine Det_cl ?_ (fun _ => ?_)))

theorem det_lp_halving_2 (c : Bool) : ∀ (n : Nat) (v1 v2 : Int32) (K0 : Int32 → Int32 → PG (Int32)), (∀ (v1 v2 : Int32), Det c (K0 v1 v2)) → Det c (lp_halving_2 n v1 v2 K0) := by
  intro n
  induction n with
  | zero => intro v1 v2 K0 hK0; exact Det_no
  | succ n ih =>
    intro v1 v2 K0 hK0
    unfold lp_halving_2
    repeat (first | (with_reducible exact Det_rt _) | (with_reducible intro _) | (with_reducible exact hK0 _ _) | (with_reducible exact ih _ _ _ hK0) | (with_reducible refine Det_clL ?_) | (with_reducible refine Det_clr ?_) | (with_reducible refine Det_li (fun _ => ?_)) | (with_reducible refine Det_rf rfl (fun _ => ?_)) | (with_reducible refine Det_rd rfl (fun _ => ?_)) | (with_reducible refine Det_wf (by decide) ?_) | (with_reducible refine Det_wd ?_) | (with_reducible refine Det_sr (fun _ => ?_)) | (with_reducible refine Det_og ?_) | (with_reducible refine Det_ite ?_ ?_) | (with_reducible refine Det_oi (fun _ => ?_)) | (with_reducible refine Det_ot ?_ (fun _ => ?_)) | (with_reducible refine Det_cl ?_ (fun _ => ?_)))

theorem det_halving (c : Bool) (a0 : Int32) : Det c (f_halving a0) := by
  unfold f_halving
  repeat (first | (with_reducible exact Det_rt _) | (with_reducible intro _) | (with_reducible refine det_lp_halving_2 _ _ _ _ _ ?_) | (with_reducible refine Det_clL ?_) | (with_reducible refine Det_clr ?_) | (with_reducible refine Det_li (fun _ => ?_)) | (with_reducible refine Det_rf rfl (fun _ => ?_)) | (with_reducible refine Det_rd rfl (fun _ => ?_)) | (with_reducible refine Det_wf (by decide) ?_) | (with_reducible refine Det_wd ?_) | (with_reducible refine Det_sr (fun _ => ?_)) | (with_reducible refine Det_og ?_) | (with_reducible refine Det_ite ?_ ?_) | (with_reducible refine Det_oi (fun _ => ?_)) | (with_reducible refine Det_ot ?_ (fun _ => ?_)) | (with_reducible refine Det_cl ?_ (fun _ => ?_)))

theorem det_rounds (c : Bool) (a0 : Int32) : Det c (f_rounds a0) := by
  unfold f_rounds
  repeat (first | (with_reducible exact Det_rt _) | (with_reducible intro _) | (with_reducible exact det_halving _ _) | (with_reducible refine Det_clL ?_) | (with_reducible refine Det_clr ?_) | (with_reducible refine Det_li (fun _ => ?_)) | (with_reducible refine Det_rf rfl (fun _ => ?_)) | (with_reducible refine Det_rd rfl (fun _ => ?_)) | (with_reducible refine Det_wf (by decide) ?_) | (with_reducible refine Det_wd ?_) | (with_reducible refine Det_sr (fun _ => ?_)) | (with_reducible refine Det_og ?_) | (with_reducible refine Det_ite ?_ ?_) | (with_reducible refine Det_oi (fun _ => ?_)) | (with_reducible refine Det_ot ?_ (fun _ => ?_)) | (with_reducible refine Det_cl ?_ (fun _ => ?_)))

theorem det_fights (c : Bool) (a0 : Int32) : Det c (f_fights a0) := by
  unfold f_fights
  repeat (first | (with_reducible exact Det_rt _) | (with_reducible intro _) | (with_reducible exact det_rounds _ _) | (with_reducible refine Det_clL ?_) | (with_reducible refine Det_clr ?_) | (with_reducible refine Det_li (fun _ => ?_)) | (with_reducible refine Det_rf rfl (fun _ => ?_)) | (with_reducible refine Det_rd rfl (fun _ => ?_)) | (with_reducible refine Det_wf (by decide) ?_) | (with_reducible refine Det_wd ?_) | (with_reducible refine Det_sr (fun _ => ?_)) | (with_reducible refine Det_og ?_) | (with_reducible refine Det_ite ?_ ?_) | (with_reducible refine Det_oi (fun _ => ?_)) | (with_reducible refine Det_ot ?_ (fun _ => ?_)) | (with_reducible refine Det_cl ?_ (fun _ => ?_)))

theorem det_base (c : Bool) (a0 : Int32) (a1 : Int32) : Det c (f_base a0 a1) := by
  unfold f_base
  repeat (first | (with_reducible exact Det_rt _) | (with_reducible intro _) | (with_reducible refine Det_clL ?_) | (with_reducible refine Det_clr ?_) | (with_reducible refine Det_li (fun _ => ?_)) | (with_reducible refine Det_rf rfl (fun _ => ?_)) | (with_reducible refine Det_rd rfl (fun _ => ?_)) | (with_reducible refine Det_wf (by decide) ?_) | (with_reducible refine Det_wd ?_) | (with_reducible refine Det_sr (fun _ => ?_)) | (with_reducible refine Det_og ?_) | (with_reducible refine Det_ite ?_ ?_) | (with_reducible refine Det_oi (fun _ => ?_)) | (with_reducible refine Det_ot ?_ (fun _ => ?_)) | (with_reducible refine Det_cl ?_ (fun _ => ?_)))

theorem det_isSecond (c : Bool) (a0 : Int32) (a1 : Int32) : Det c (f_isSecond a0 a1) := by
  unfold f_isSecond
  repeat (first | (with_reducible exact Det_rt _) | (with_reducible intro _) | (with_reducible refine Det_clL ?_) | (with_reducible refine Det_clr ?_) | (with_reducible refine Det_li (fun _ => ?_)) | (with_reducible refine Det_rf rfl (fun _ => ?_)) | (with_reducible refine Det_rd rfl (fun _ => ?_)) | (with_reducible refine Det_wf (by decide) ?_) | (with_reducible refine Det_wd ?_) | (with_reducible refine Det_sr (fun _ => ?_)) | (with_reducible refine Det_og ?_) | (with_reducible refine Det_ite ?_ ?_) | (with_reducible refine Det_oi (fun _ => ?_)) | (with_reducible refine Det_ot ?_ (fun _ => ?_)) | (with_reducible refine Det_cl ?_ (fun _ => ?_)))

theorem det_lp_roundOf_2 (c : Bool) : ∀ (n : Nat) (v1 v2 v3 : Int32) (K0 : Int32 → Int32 → Int32 → PG (Int32)), (∀ (v1 v2 v3 : Int32), Det c (K0 v1 v2 v3)) → Det c (lp_roundOf_2 n v1 v2 v3 K0) := by
  intro n
  induction n with
  | zero => intro v1 v2 v3 K0 hK0; exact Det_no
  | succ n ih =>
    intro v1 v2 v3 K0 hK0
    unfold lp_roundOf_2
    repeat (first | (with_reducible exact Det_rt _) | (with_reducible intro _) | (with_reducible exact hK0 _ _ _) | (with_reducible exact ih _ _ _ _ hK0) | (with_reducible exact det_base _ _ _) | (with_reducible refine Det_clL ?_) | (with_reducible refine Det_clr ?_) | (with_reducible refine Det_li (fun _ => ?_)) | (with_reducible refine Det_rf rfl (fun _ => ?_)) | (with_reducible refine Det_rd rfl (fun _ => ?_)) | (with_reducible refine Det_wf (by decide) ?_) | (with_reducible refine Det_wd ?_) | (with_reducible refine Det_sr (fun _ => ?_)) | (with_reducible refine Det_og ?_) | (with_reducible refine Det_ite ?_ ?_) | (with_reducible refine Det_oi (fun _ => ?_)) | (with_reducible refine Det_ot ?_ (fun _ => ?_)) | (with_reducible refine Det_cl ?_ (fun _ => ?_)))

theorem det_roundOf (c : Bool) (a0 : Int32) (a1 : Int32) : Det c (f_roundOf a0 a1) := by
  unfold f_roundOf
  repeat (first | (with_reducible exact Det_rt _) | (with_reducible intro _) | (with_reducible refine det_lp_roundOf_2 _ _ _ _ _ _ ?_) | (with_reducible exact det_base _ _ _) | (with_reducible refine Det_clL ?_) | (with_reducible refine Det_clr ?_) | (with_reducible refine Det_li (fun _ => ?_)) | (with_reducible refine Det_rf rfl (fun _ => ?_)) | (with_reducible refine Det_rd rfl (fun _ => ?_)) | (with_reducible refine Det_wf (by decide) ?_) | (with_reducible refine Det_wd ?_) | (with_reducible refine Det_sr (fun _ => ?_)) | (with_reducible refine Det_og ?_) | (with_reducible refine Det_ite ?_ ?_) | (with_reducible refine Det_oi (fun _ => ?_)) | (with_reducible refine Det_ot ?_ (fun _ => ?_)) | (with_reducible refine Det_cl ?_ (fun _ => ?_)))

theorem det_halfOf (c : Bool) (a0 : Int32) (a1 : Int32) : Det c (f_halfOf a0 a1) := by
  unfold f_halfOf
  repeat (first | (with_reducible exact Det_rt _) | (with_reducible intro _) | (with_reducible exact det_rounds _ _) | (with_reducible refine Det_clL ?_) | (with_reducible refine Det_clr ?_) | (with_reducible refine Det_li (fun _ => ?_)) | (with_reducible refine Det_rf rfl (fun _ => ?_)) | (with_reducible refine Det_rd rfl (fun _ => ?_)) | (with_reducible refine Det_wf (by decide) ?_) | (with_reducible refine Det_wd ?_) | (with_reducible refine Det_sr (fun _ => ?_)) | (with_reducible refine Det_og ?_) | (with_reducible refine Det_ite ?_ ?_) | (with_reducible refine Det_oi (fun _ => ?_)) | (with_reducible refine Det_ot ?_ (fun _ => ?_)) | (with_reducible refine Det_cl ?_ (fun _ => ?_)))

theorem det_stepOf (c : Bool) (a0 : Int32) (a1 : Int32) : Det c (f_stepOf a0 a1) := by
  unfold f_stepOf
  repeat (first | (with_reducible exact Det_rt _) | (with_reducible intro _) | (with_reducible exact det_rounds _ _) | (with_reducible refine Det_clL ?_) | (with_reducible refine Det_clr ?_) | (with_reducible refine Det_li (fun _ => ?_)) | (with_reducible refine Det_rf rfl (fun _ => ?_)) | (with_reducible refine Det_rd rfl (fun _ => ?_)) | (with_reducible refine Det_wf (by decide) ?_) | (with_reducible refine Det_wd ?_) | (with_reducible refine Det_sr (fun _ => ?_)) | (with_reducible refine Det_og ?_) | (with_reducible refine Det_ite ?_ ?_) | (with_reducible refine Det_oi (fun _ => ?_)) | (with_reducible refine Det_ot ?_ (fun _ => ?_)) | (with_reducible refine Det_cl ?_ (fun _ => ?_)))

theorem det_lp_pair_6 (c : Bool) : ∀ (n : Nat) (v1 v2 v3 v4 v5 : Int32) (K0 : Int32 → Int32 → Int32 → Int32 → Int32 → PG (Int32)), (∀ (v1 v2 v3 v4 v5 : Int32), Det c (K0 v1 v2 v3 v4 v5)) → Det c (lp_pair_6 n v1 v2 v3 v4 v5 K0) := by
  intro n
  induction n with
  | zero => intro v1 v2 v3 v4 v5 K0 hK0; exact Det_no
  | succ n ih =>
    intro v1 v2 v3 v4 v5 K0 hK0
    unfold lp_pair_6
    repeat (first | (with_reducible exact Det_rt _) | (with_reducible intro _) | (with_reducible exact hK0 _ _ _ _ _) | (with_reducible exact ih _ _ _ _ _ _ hK0) | (with_reducible refine Det_clL ?_) | (with_reducible refine Det_clr ?_) | (with_reducible refine Det_li (fun _ => ?_)) | (with_reducible refine Det_rf rfl (fun _ => ?_)) | (with_reducible refine Det_rd rfl (fun _ => ?_)) | (with_reducible refine Det_wf (by decide) ?_) | (with_reducible refine Det_wd ?_) | (with_reducible refine Det_sr (fun _ => ?_)) | (with_reducible refine Det_og ?_) | (with_reducible refine Det_ite ?_ ?_) | (with_reducible refine Det_oi (fun _ => ?_)) | (with_reducible refine Det_ot ?_ (fun _ => ?_)) | (with_reducible refine Det_cl ?_ (fun _ => ?_)))

theorem det_pair (c : Bool) (a0 : Int32) (a1 : Int32) (a2 : Int32) : Det c (f_pair a0 a1 a2) := by
  unfold f_pair
  repeat (first | (with_reducible exact Det_rt _) | (with_reducible intro _) | (with_reducible refine det_lp_pair_6 _ _ _ _ _ _ _ _ ?_) | (with_reducible refine Det_clL ?_) | (with_reducible refine Det_clr ?_) | (with_reducible refine Det_li (fun _ => ?_)) | (with_reducible refine Det_rf rfl (fun _ => ?_)) | (with_reducible refine Det_rd rfl (fun _ => ?_)) | (with_reducible refine Det_wf (by decide) ?_) | (with_reducible refine Det_wd ?_) | (with_reducible refine Det_sr (fun _ => ?_)) | (with_reducible refine Det_og ?_) | (with_reducible refine Det_ite ?_ ?_) | (with_reducible refine Det_oi (fun _ => ?_)) | (with_reducible refine Det_ot ?_ (fun _ => ?_)) | (with_reducible refine Det_cl ?_ (fun _ => ?_)))

theorem det_bd_sideOf (c : Bool) (F : Nat → Int32 → Int32 → Int32 → Int32 → PG (Int32)) (hFd : ∀ w a b d e, Det c (F w a b d e)) (a0 : Int32) (a1 : Int32) (a2 : Int32) : Det c (bd_sideOf F a0 a1 a2) := by
  unfold bd_sideOf
  repeat (first | (with_reducible exact Det_rt _) | (with_reducible intro _) | (with_reducible exact det_base _ _ _) | (with_reducible exact det_halfOf _ _ _) | (with_reducible exact det_isSecond _ _ _) | (with_reducible exact det_pair _ _ _ _) | (with_reducible exact det_roundOf _ _ _) | (with_reducible exact det_stepOf _ _ _) | (with_reducible exact hFd _ _ _ _ _) | (with_reducible refine Det_clL ?_) | (with_reducible refine Det_clr ?_) | (with_reducible refine Det_li (fun _ => ?_)) | (with_reducible refine Det_rf rfl (fun _ => ?_)) | (with_reducible refine Det_rd rfl (fun _ => ?_)) | (with_reducible refine Det_wf (by decide) ?_) | (with_reducible refine Det_wd ?_) | (with_reducible refine Det_sr (fun _ => ?_)) | (with_reducible refine Det_og ?_) | (with_reducible refine Det_ite ?_ ?_) | (with_reducible refine Det_oi (fun _ => ?_)) | (with_reducible refine Det_ot ?_ (fun _ => ?_)) | (with_reducible refine Det_cl ?_ (fun _ => ?_)))

theorem det_bd_second (c : Bool) (F : Nat → Int32 → Int32 → Int32 → Int32 → PG (Int32)) (hFd : ∀ w a b d e, Det c (F w a b d e)) (a0 : Int32) (a1 : Int32) (a2 : Int32) (a3 : Int32) : Det c (bd_second F a0 a1 a2 a3) := by
  unfold bd_second
  repeat (first | (with_reducible exact Det_rt _) | (with_reducible intro _) | (with_reducible exact det_rounds _ _) | (with_reducible exact hFd _ _ _ _ _) | (with_reducible refine Det_clL ?_) | (with_reducible refine Det_clr ?_) | (with_reducible refine Det_li (fun _ => ?_)) | (with_reducible refine Det_rf rfl (fun _ => ?_)) | (with_reducible refine Det_rd rfl (fun _ => ?_)) | (with_reducible refine Det_wf (by decide) ?_) | (with_reducible refine Det_wd ?_) | (with_reducible refine Det_sr (fun _ => ?_)) | (with_reducible refine Det_og ?_) | (with_reducible refine Det_ite ?_ ?_) | (with_reducible refine Det_oi (fun _ => ?_)) | (with_reducible refine Det_ot ?_ (fun _ => ?_)) | (with_reducible refine Det_cl ?_ (fun _ => ?_)))

theorem det_bd_loserTo (c : Bool) (F : Nat → Int32 → Int32 → Int32 → Int32 → PG (Int32)) (hFd : ∀ w a b d e, Det c (F w a b d e)) (a0 : Int32) (a1 : Int32) (a2 : Int32) : Det c (bd_loserTo F a0 a1 a2) := by
  unfold bd_loserTo
  repeat (first | (with_reducible exact Det_rt _) | (with_reducible intro _) | (with_reducible exact det_base _ _ _) | (with_reducible exact det_rounds _ _) | (with_reducible exact hFd _ _ _ _ _) | (with_reducible refine Det_clL ?_) | (with_reducible refine Det_clr ?_) | (with_reducible refine Det_li (fun _ => ?_)) | (with_reducible refine Det_rf rfl (fun _ => ?_)) | (with_reducible refine Det_rd rfl (fun _ => ?_)) | (with_reducible refine Det_wf (by decide) ?_) | (with_reducible refine Det_wd ?_) | (with_reducible refine Det_sr (fun _ => ?_)) | (with_reducible refine Det_og ?_) | (with_reducible refine Det_ite ?_ ?_) | (with_reducible refine Det_oi (fun _ => ?_)) | (with_reducible refine Det_ot ?_ (fun _ => ?_)) | (with_reducible refine Det_cl ?_ (fun _ => ?_)))

theorem det_bd_winnerOf (c : Bool) (F : Nat → Int32 → Int32 → Int32 → Int32 → PG (Int32)) (hFd : ∀ w a b d e, Det c (F w a b d e)) (a0 : Int32) (a1 : Int32) : Det c (bd_winnerOf F a0 a1) := by
  unfold bd_winnerOf
  repeat (first | (with_reducible exact Det_rt _) | (with_reducible intro _) | (with_reducible exact hFd _ _ _ _ _) | (with_reducible refine Det_clL ?_) | (with_reducible refine Det_clr ?_) | (with_reducible refine Det_li (fun _ => ?_)) | (with_reducible refine Det_rf rfl (fun _ => ?_)) | (with_reducible refine Det_rd rfl (fun _ => ?_)) | (with_reducible refine Det_wf (by decide) ?_) | (with_reducible refine Det_wd ?_) | (with_reducible refine Det_sr (fun _ => ?_)) | (with_reducible refine Det_og ?_) | (with_reducible refine Det_ite ?_ ?_) | (with_reducible refine Det_oi (fun _ => ?_)) | (with_reducible refine Det_ot ?_ (fun _ => ?_)) | (with_reducible refine Det_cl ?_ (fun _ => ?_)))

theorem det_fS (c : Bool) : ∀ (d w : Nat) (a0 a1 a2 a3 : Int32), Det c (fS d w a0 a1 a2 a3) := by
  intro d
  induction d with
  | zero => intro w a0 a1 a2 a3; exact Det_no
  | succ d ih =>
    intro w a0 a1 a2 a3
    unfold fS
    repeat (first | (with_reducible refine Det_ite ?_ ?_) | (with_reducible exact det_bd_sideOf _ _ ih _ _ _) | (with_reducible exact det_bd_second _ _ ih _ _ _ _) | (with_reducible exact det_bd_loserTo _ _ ih _ _ _) | (with_reducible exact det_bd_winnerOf _ _ ih _ _))

theorem det_joined (c : Bool) (a0 : Int32) (a1 : Int32) (a2 : Int32) : Det c (f_joined a0 a1 a2) := by
  unfold f_joined
  repeat (first | (with_reducible exact Det_rt _) | (with_reducible intro _) | (with_reducible refine Det_clL ?_) | (with_reducible refine Det_clr ?_) | (with_reducible refine Det_li (fun _ => ?_)) | (with_reducible refine Det_rf rfl (fun _ => ?_)) | (with_reducible refine Det_rd rfl (fun _ => ?_)) | (with_reducible refine Det_wf (by decide) ?_) | (with_reducible refine Det_wd ?_) | (with_reducible refine Det_sr (fun _ => ?_)) | (with_reducible refine Det_og ?_) | (with_reducible refine Det_ite ?_ ?_) | (with_reducible refine Det_oi (fun _ => ?_)) | (with_reducible refine Det_ot ?_ (fun _ => ?_)) | (with_reducible refine Det_cl ?_ (fun _ => ?_)))

theorem det_termOf (c : Bool) (a0 : Int32) (a1 : Int32) (a2 : Int32) (a3 : Int32) : Det c (f_termOf a0 a1 a2 a3) := by
  unfold f_termOf
  repeat (first | (with_reducible exact Det_rt _) | (with_reducible intro _) | (with_reducible refine Det_clL ?_) | (with_reducible refine Det_clr ?_) | (with_reducible refine Det_li (fun _ => ?_)) | (with_reducible refine Det_rf rfl (fun _ => ?_)) | (with_reducible refine Det_rd rfl (fun _ => ?_)) | (with_reducible refine Det_wf (by decide) ?_) | (with_reducible refine Det_wd ?_) | (with_reducible refine Det_sr (fun _ => ?_)) | (with_reducible refine Det_og ?_) | (with_reducible refine Det_ite ?_ ?_) | (with_reducible refine Det_oi (fun _ => ?_)) | (with_reducible refine Det_ot ?_ (fun _ => ?_)) | (with_reducible refine Det_cl ?_ (fun _ => ?_)))

theorem det_lp_holds_11 (c : Bool) : ∀ (n : Nat) (v1 v2 v3 v4 v5 v6 : Int32) (K0 : Int32 → Int32 → Int32 → Int32 → Int32 → Int32 → PG (Int32)), (∀ (v1 v2 v3 v4 v5 v6 : Int32), Det c (K0 v1 v2 v3 v4 v5 v6)) → Det c (lp_holds_11 n v1 v2 v3 v4 v5 v6 K0) := by
  intro n
  induction n with
  | zero => intro v1 v2 v3 v4 v5 v6 K0 hK0; exact Det_no
  | succ n ih =>
    intro v1 v2 v3 v4 v5 v6 K0 hK0
    unfold lp_holds_11
    repeat (first | (with_reducible exact Det_rt _) | (with_reducible intro _) | (with_reducible exact hK0 _ _ _ _ _ _) | (with_reducible exact ih _ _ _ _ _ _ _ hK0) | (with_reducible exact det_joined _ _ _ _) | (with_reducible exact det_termOf _ _ _ _ _) | (with_reducible refine Det_clL ?_) | (with_reducible refine Det_clr ?_) | (with_reducible refine Det_li (fun _ => ?_)) | (with_reducible refine Det_rf rfl (fun _ => ?_)) | (with_reducible refine Det_rd rfl (fun _ => ?_)) | (with_reducible refine Det_wf (by decide) ?_) | (with_reducible refine Det_wd ?_) | (with_reducible refine Det_sr (fun _ => ?_)) | (with_reducible refine Det_og ?_) | (with_reducible refine Det_ite ?_ ?_) | (with_reducible refine Det_oi (fun _ => ?_)) | (with_reducible refine Det_ot ?_ (fun _ => ?_)) | (with_reducible refine Det_cl ?_ (fun _ => ?_)))

theorem det_holds (c : Bool) (a0 : Int32) (a1 : Int32) (a2 : Int32) (a3 : Int32) : Det c (f_holds a0 a1 a2 a3) := by
  unfold f_holds
  repeat (first | (with_reducible exact Det_rt _) | (with_reducible intro _) | (with_reducible refine det_lp_holds_11 _ _ _ _ _ _ _ _ _ ?_) | (with_reducible exact det_joined _ _ _ _) | (with_reducible exact det_termOf _ _ _ _ _) | (with_reducible refine Det_clL ?_) | (with_reducible refine Det_clr ?_) | (with_reducible refine Det_li (fun _ => ?_)) | (with_reducible refine Det_rf rfl (fun _ => ?_)) | (with_reducible refine Det_rd rfl (fun _ => ?_)) | (with_reducible refine Det_wf (by decide) ?_) | (with_reducible refine Det_wd ?_) | (with_reducible refine Det_sr (fun _ => ?_)) | (with_reducible refine Det_og ?_) | (with_reducible refine Det_ite ?_ ?_) | (with_reducible refine Det_oi (fun _ => ?_)) | (with_reducible refine Det_ot ?_ (fun _ => ?_)) | (with_reducible refine Det_cl ?_ (fun _ => ?_)))

theorem det_byteAt (a0 : Int32) : Det true (f_byteAt a0) := by
  unfold f_byteAt
  repeat (first | (with_reducible exact Det_rt _) | (with_reducible intro _) | (with_reducible refine Det_clL ?_) | (with_reducible refine Det_clr ?_) | (with_reducible refine Det_li (fun _ => ?_)) | (with_reducible refine Det_rf rfl (fun _ => ?_)) | (with_reducible refine Det_rd rfl (fun _ => ?_)) | (with_reducible refine Det_wf (by decide) ?_) | (with_reducible refine Det_wd ?_) | (with_reducible refine Det_sr (fun _ => ?_)) | (with_reducible refine Det_og ?_) | (with_reducible refine Det_ite ?_ ?_) | (with_reducible refine Det_oi (fun _ => ?_)) | (with_reducible refine Det_ot ?_ (fun _ => ?_)) | (with_reducible refine Det_cl ?_ (fun _ => ?_)))

theorem det_isLetter (c : Bool) (a0 : Int32) : Det c (f_isLetter a0) := by
  unfold f_isLetter
  repeat (first | (with_reducible exact Det_rt _) | (with_reducible intro _) | (with_reducible refine Det_clL ?_) | (with_reducible refine Det_clr ?_) | (with_reducible refine Det_li (fun _ => ?_)) | (with_reducible refine Det_rf rfl (fun _ => ?_)) | (with_reducible refine Det_rd rfl (fun _ => ?_)) | (with_reducible refine Det_wf (by decide) ?_) | (with_reducible refine Det_wd ?_) | (with_reducible refine Det_sr (fun _ => ?_)) | (with_reducible refine Det_og ?_) | (with_reducible refine Det_ite ?_ ?_) | (with_reducible refine Det_oi (fun _ => ?_)) | (with_reducible refine Det_ot ?_ (fun _ => ?_)) | (with_reducible refine Det_cl ?_ (fun _ => ?_)))

theorem det_isDigit (c : Bool) (a0 : Int32) : Det c (f_isDigit a0) := by
  unfold f_isDigit
  repeat (first | (with_reducible exact Det_rt _) | (with_reducible intro _) | (with_reducible refine Det_clL ?_) | (with_reducible refine Det_clr ?_) | (with_reducible refine Det_li (fun _ => ?_)) | (with_reducible refine Det_rf rfl (fun _ => ?_)) | (with_reducible refine Det_rd rfl (fun _ => ?_)) | (with_reducible refine Det_wf (by decide) ?_) | (with_reducible refine Det_wd ?_) | (with_reducible refine Det_sr (fun _ => ?_)) | (with_reducible refine Det_og ?_) | (with_reducible refine Det_ite ?_ ?_) | (with_reducible refine Det_oi (fun _ => ?_)) | (with_reducible refine Det_ot ?_ (fun _ => ?_)) | (with_reducible refine Det_cl ?_ (fun _ => ?_)))

theorem det_put (c : Bool) (a0 : Int32) (a1 : Int32) : Det c (f_put a0 a1) := by
  unfold f_put
  repeat (first | (with_reducible exact Det_rt _) | (with_reducible intro _) | (with_reducible refine Det_clL ?_) | (with_reducible refine Det_clr ?_) | (with_reducible refine Det_li (fun _ => ?_)) | (with_reducible refine Det_rf rfl (fun _ => ?_)) | (with_reducible refine Det_rd rfl (fun _ => ?_)) | (with_reducible refine Det_wf (by decide) ?_) | (with_reducible refine Det_wd ?_) | (with_reducible refine Det_sr (fun _ => ?_)) | (with_reducible refine Det_og ?_) | (with_reducible refine Det_ite ?_ ?_) | (with_reducible refine Det_oi (fun _ => ?_)) | (with_reducible refine Det_ot ?_ (fun _ => ?_)) | (with_reducible refine Det_cl ?_ (fun _ => ?_)))

theorem det_release (c : Bool) (a0 : Int32) : Det c (f_release a0) := by
  unfold f_release
  repeat (first | (with_reducible exact Det_rt _) | (with_reducible intro _) | (with_reducible exact det_put _ _ _) | (with_reducible refine Det_clL ?_) | (with_reducible refine Det_clr ?_) | (with_reducible refine Det_li (fun _ => ?_)) | (with_reducible refine Det_rf rfl (fun _ => ?_)) | (with_reducible refine Det_rd rfl (fun _ => ?_)) | (with_reducible refine Det_wf (by decide) ?_) | (with_reducible refine Det_wd ?_) | (with_reducible refine Det_sr (fun _ => ?_)) | (with_reducible refine Det_og ?_) | (with_reducible refine Det_ite ?_ ?_) | (with_reducible refine Det_oi (fun _ => ?_)) | (with_reducible refine Det_ot ?_ (fun _ => ?_)) | (with_reducible refine Det_cl ?_ (fun _ => ?_)))

theorem det_lp_anew_47 (c : Bool) : ∀ (n : Nat) (v1 v2 : Int32) (K0 : Int32 → Int32 → PG (Int32)), (∀ (v1 v2 : Int32), Det c (K0 v1 v2)) → Det c (lp_anew_47 n v1 v2 K0) := by
  intro n
  induction n with
  | zero => intro v1 v2 K0 hK0; exact Det_no
  | succ n ih =>
    intro v1 v2 K0 hK0
    unfold lp_anew_47
    repeat (first | (with_reducible exact Det_rt _) | (with_reducible intro _) | (with_reducible exact hK0 _ _) | (with_reducible exact ih _ _ _ hK0) | (with_reducible refine Det_clL ?_) | (with_reducible refine Det_clr ?_) | (with_reducible refine Det_li (fun _ => ?_)) | (with_reducible refine Det_rf rfl (fun _ => ?_)) | (with_reducible refine Det_rd rfl (fun _ => ?_)) | (with_reducible refine Det_wf (by decide) ?_) | (with_reducible refine Det_wd ?_) | (with_reducible refine Det_sr (fun _ => ?_)) | (with_reducible refine Det_og ?_) | (with_reducible refine Det_ite ?_ ?_) | (with_reducible refine Det_oi (fun _ => ?_)) | (with_reducible refine Det_ot ?_ (fun _ => ?_)) | (with_reducible refine Det_cl ?_ (fun _ => ?_)))

theorem det_lp_anew_18 (c : Bool) : ∀ (n : Nat) (v1 : Int32) (K0 : Int32 → PG (Int32)), (∀ (v1 : Int32), Det c (K0 v1)) → Det c (lp_anew_18 n v1 K0) := by
  intro n
  induction n with
  | zero => intro v1 K0 hK0; exact Det_no
  | succ n ih =>
    intro v1 K0 hK0
    unfold lp_anew_18
    repeat (first | (with_reducible exact Det_rt _) | (with_reducible intro _) | (with_reducible exact hK0 _) | (with_reducible exact ih _ _ hK0) | (with_reducible refine det_lp_anew_47 _ _ _ _ _ ?_) | (with_reducible refine Det_clL ?_) | (with_reducible refine Det_clr ?_) | (with_reducible refine Det_li (fun _ => ?_)) | (with_reducible refine Det_rf rfl (fun _ => ?_)) | (with_reducible refine Det_rd rfl (fun _ => ?_)) | (with_reducible refine Det_wf (by decide) ?_) | (with_reducible refine Det_wd ?_) | (with_reducible refine Det_sr (fun _ => ?_)) | (with_reducible refine Det_og ?_) | (with_reducible refine Det_ite ?_ ?_) | (with_reducible refine Det_oi (fun _ => ?_)) | (with_reducible refine Det_ot ?_ (fun _ => ?_)) | (with_reducible refine Det_cl ?_ (fun _ => ?_)))

theorem det_lp_anew_79 (c : Bool) : ∀ (n : Nat) (v1 : Int32) (K0 : Int32 → PG (Int32)), (∀ (v1 : Int32), Det c (K0 v1)) → Det c (lp_anew_79 n v1 K0) := by
  intro n
  induction n with
  | zero => intro v1 K0 hK0; exact Det_no
  | succ n ih =>
    intro v1 K0 hK0
    unfold lp_anew_79
    repeat (first | (with_reducible exact Det_rt _) | (with_reducible intro _) | (with_reducible exact hK0 _) | (with_reducible exact ih _ _ hK0) | (with_reducible refine det_lp_anew_47 _ _ _ _ _ ?_) | (with_reducible refine det_lp_anew_18 _ _ _ _ ?_) | (with_reducible refine Det_clL ?_) | (with_reducible refine Det_clr ?_) | (with_reducible refine Det_li (fun _ => ?_)) | (with_reducible refine Det_rf rfl (fun _ => ?_)) | (with_reducible refine Det_rd rfl (fun _ => ?_)) | (with_reducible refine Det_wf (by decide) ?_) | (with_reducible refine Det_wd ?_) | (with_reducible refine Det_sr (fun _ => ?_)) | (with_reducible refine Det_og ?_) | (with_reducible refine Det_ite ?_ ?_) | (with_reducible refine Det_oi (fun _ => ?_)) | (with_reducible refine Det_ot ?_ (fun _ => ?_)) | (with_reducible refine Det_cl ?_ (fun _ => ?_)))

theorem det_anew : Det false (f_anew) := by
  unfold f_anew
  repeat (first | (with_reducible exact Det_rt _) | (with_reducible intro _) | (with_reducible refine det_lp_anew_47 _ _ _ _ _ ?_) | (with_reducible refine det_lp_anew_18 _ _ _ _ ?_) | (with_reducible refine det_lp_anew_79 _ _ _ _ ?_) | (with_reducible refine Det_clL ?_) | (with_reducible refine Det_clr ?_) | (with_reducible refine Det_li (fun _ => ?_)) | (with_reducible refine Det_rf rfl (fun _ => ?_)) | (with_reducible refine Det_rd rfl (fun _ => ?_)) | (with_reducible refine Det_wf (by decide) ?_) | (with_reducible refine Det_wd ?_) | (with_reducible refine Det_sr (fun _ => ?_)) | (with_reducible refine Det_og ?_) | (with_reducible refine Det_ite ?_ ?_) | (with_reducible refine Det_oi (fun _ => ?_)) | (with_reducible refine Det_ot ?_ (fun _ => ?_)) | (with_reducible refine Det_cl ?_ (fun _ => ?_)))

theorem det_comes (c : Bool) (a0 : Int32) (a1 : Int32) : Det c (f_comes a0 a1) := by
  unfold f_comes
  repeat (first | (with_reducible exact Det_rt _) | (with_reducible intro _) | (with_reducible refine Det_clL ?_) | (with_reducible refine Det_clr ?_) | (with_reducible refine Det_li (fun _ => ?_)) | (with_reducible refine Det_rf rfl (fun _ => ?_)) | (with_reducible refine Det_rd rfl (fun _ => ?_)) | (with_reducible refine Det_wf (by decide) ?_) | (with_reducible refine Det_wd ?_) | (with_reducible refine Det_sr (fun _ => ?_)) | (with_reducible refine Det_og ?_) | (with_reducible refine Det_ite ?_ ?_) | (with_reducible refine Det_oi (fun _ => ?_)) | (with_reducible refine Det_ot ?_ (fun _ => ?_)) | (with_reducible refine Det_cl ?_ (fun _ => ?_)))

theorem det_lp_weighed_4 (c : Bool) : ∀ (n : Nat) (v1 v2 v3 : Int32) (K0 : Int32 → Int32 → Int32 → PG (Int32)), (∀ (v1 v2 v3 : Int32), Det c (K0 v1 v2 v3)) → Det c (lp_weighed_4 n v1 v2 v3 K0) := by
  intro n
  induction n with
  | zero => intro v1 v2 v3 K0 hK0; exact Det_no
  | succ n ih =>
    intro v1 v2 v3 K0 hK0
    unfold lp_weighed_4
    repeat (first | (with_reducible exact Det_rt _) | (with_reducible intro _) | (with_reducible exact hK0 _ _ _) | (with_reducible exact ih _ _ _ _ hK0) | (with_reducible refine Det_clL ?_) | (with_reducible refine Det_clr ?_) | (with_reducible refine Det_li (fun _ => ?_)) | (with_reducible refine Det_rf rfl (fun _ => ?_)) | (with_reducible refine Det_rd rfl (fun _ => ?_)) | (with_reducible refine Det_wf (by decide) ?_) | (with_reducible refine Det_wd ?_) | (with_reducible refine Det_sr (fun _ => ?_)) | (with_reducible refine Det_og ?_) | (with_reducible refine Det_ite ?_ ?_) | (with_reducible refine Det_oi (fun _ => ?_)) | (with_reducible refine Det_ot ?_ (fun _ => ?_)) | (with_reducible refine Det_cl ?_ (fun _ => ?_)))

theorem det_weighed (c : Bool) (a0 : Int32) : Det c (f_weighed a0) := by
  unfold f_weighed
  repeat (first | (with_reducible exact Det_rt _) | (with_reducible intro _) | (with_reducible refine det_lp_weighed_4 _ _ _ _ _ _ ?_) | (with_reducible refine Det_clL ?_) | (with_reducible refine Det_clr ?_) | (with_reducible refine Det_li (fun _ => ?_)) | (with_reducible refine Det_rf rfl (fun _ => ?_)) | (with_reducible refine Det_rd rfl (fun _ => ?_)) | (with_reducible refine Det_wf (by decide) ?_) | (with_reducible refine Det_wd ?_) | (with_reducible refine Det_sr (fun _ => ?_)) | (with_reducible refine Det_og ?_) | (with_reducible refine Det_ite ?_ ?_) | (with_reducible refine Det_oi (fun _ => ?_)) | (with_reducible refine Det_ot ?_ (fun _ => ?_)) | (with_reducible refine Det_cl ?_ (fun _ => ?_)))

theorem det_lp_makeRow_16 (c : Bool) : ∀ (n : Nat) (v1 v2 v3 : Int32) (K0 : Int32 → Int32 → Int32 → PG (Int32)), (∀ (v1 v2 v3 : Int32), Det c (K0 v1 v2 v3)) → Det c (lp_makeRow_16 n v1 v2 v3 K0) := by
  intro n
  induction n with
  | zero => intro v1 v2 v3 K0 hK0; exact Det_no
  | succ n ih =>
    intro v1 v2 v3 K0 hK0
    unfold lp_makeRow_16
    repeat (first | (with_reducible exact Det_rt _) | (with_reducible intro _) | (with_reducible exact hK0 _ _ _) | (with_reducible exact ih _ _ _ _ hK0) | (with_reducible refine Det_clL ?_) | (with_reducible refine Det_clr ?_) | (with_reducible refine Det_li (fun _ => ?_)) | (with_reducible refine Det_rf rfl (fun _ => ?_)) | (with_reducible refine Det_rd rfl (fun _ => ?_)) | (with_reducible refine Det_wf (by decide) ?_) | (with_reducible refine Det_wd ?_) | (with_reducible refine Det_sr (fun _ => ?_)) | (with_reducible refine Det_og ?_) | (with_reducible refine Det_ite ?_ ?_) | (with_reducible refine Det_oi (fun _ => ?_)) | (with_reducible refine Det_ot ?_ (fun _ => ?_)) | (with_reducible refine Det_cl ?_ (fun _ => ?_)))

theorem det_lp_makeRow_41 (c : Bool) : ∀ (n : Nat) (v1 v2 v3 : Int32) (K0 : Int32 → Int32 → Int32 → PG (Int32)), (∀ (v1 v2 v3 : Int32), Det c (K0 v1 v2 v3)) → Det c (lp_makeRow_41 n v1 v2 v3 K0) := by
  intro n
  induction n with
  | zero => intro v1 v2 v3 K0 hK0; exact Det_no
  | succ n ih =>
    intro v1 v2 v3 K0 hK0
    unfold lp_makeRow_41
    repeat (first | (with_reducible exact Det_rt _) | (with_reducible intro _) | (with_reducible exact hK0 _ _ _) | (with_reducible exact ih _ _ _ _ hK0) | (with_reducible refine det_lp_makeRow_16 _ _ _ _ _ _ ?_) | (with_reducible refine Det_clL ?_) | (with_reducible refine Det_clr ?_) | (with_reducible refine Det_li (fun _ => ?_)) | (with_reducible refine Det_rf rfl (fun _ => ?_)) | (with_reducible refine Det_rd rfl (fun _ => ?_)) | (with_reducible refine Det_wf (by decide) ?_) | (with_reducible refine Det_wd ?_) | (with_reducible refine Det_sr (fun _ => ?_)) | (with_reducible refine Det_og ?_) | (with_reducible refine Det_ite ?_ ?_) | (with_reducible refine Det_oi (fun _ => ?_)) | (with_reducible refine Det_ot ?_ (fun _ => ?_)) | (with_reducible refine Det_cl ?_ (fun _ => ?_)))

theorem det_lp_makeRow_9 (c : Bool) : ∀ (n : Nat) (v1 v2 : Int32) (K0 : Int32 → Int32 → PG (Int32)), (∀ (v1 v2 : Int32), Det c (K0 v1 v2)) → Det c (lp_makeRow_9 n v1 v2 K0) := by
  intro n
  induction n with
  | zero => intro v1 v2 K0 hK0; exact Det_no
  | succ n ih =>
    intro v1 v2 K0 hK0
    unfold lp_makeRow_9
    repeat (first | (with_reducible exact Det_rt _) | (with_reducible intro _) | (with_reducible exact hK0 _ _) | (with_reducible exact ih _ _ _ hK0) | (with_reducible refine det_lp_makeRow_16 _ _ _ _ _ _ ?_) | (with_reducible refine det_lp_makeRow_41 _ _ _ _ _ _ ?_) | (with_reducible refine Det_clL ?_) | (with_reducible refine Det_clr ?_) | (with_reducible refine Det_li (fun _ => ?_)) | (with_reducible refine Det_rf rfl (fun _ => ?_)) | (with_reducible refine Det_rd rfl (fun _ => ?_)) | (with_reducible refine Det_wf (by decide) ?_) | (with_reducible refine Det_wd ?_) | (with_reducible refine Det_sr (fun _ => ?_)) | (with_reducible refine Det_og ?_) | (with_reducible refine Det_ite ?_ ?_) | (with_reducible refine Det_oi (fun _ => ?_)) | (with_reducible refine Det_ot ?_ (fun _ => ?_)) | (with_reducible refine Det_cl ?_ (fun _ => ?_)))

theorem det_makeRow (c : Bool) (a0 : Int32) : Det c (f_makeRow a0) := by
  unfold f_makeRow
  repeat (first | (with_reducible exact Det_rt _) | (with_reducible intro _) | (with_reducible refine det_lp_makeRow_16 _ _ _ _ _ _ ?_) | (with_reducible refine det_lp_makeRow_41 _ _ _ _ _ _ ?_) | (with_reducible refine det_lp_makeRow_9 _ _ _ _ _ ?_) | (with_reducible refine Det_clL ?_) | (with_reducible refine Det_clr ?_) | (with_reducible refine Det_li (fun _ => ?_)) | (with_reducible refine Det_rf rfl (fun _ => ?_)) | (with_reducible refine Det_rd rfl (fun _ => ?_)) | (with_reducible refine Det_wf (by decide) ?_) | (with_reducible refine Det_wd ?_) | (with_reducible refine Det_sr (fun _ => ?_)) | (with_reducible refine Det_og ?_) | (with_reducible refine Det_ite ?_ ?_) | (with_reducible refine Det_oi (fun _ => ?_)) | (with_reducible refine Det_ot ?_ (fun _ => ?_)) | (with_reducible refine Det_cl ?_ (fun _ => ?_)))

theorem det_isOther (c : Bool) (a0 : Int32) (a1 : Int32) : Det c (f_isOther a0 a1) := by
  unfold f_isOther
  repeat (first | (with_reducible exact Det_rt _) | (with_reducible intro _) | (with_reducible refine Det_clL ?_) | (with_reducible refine Det_clr ?_) | (with_reducible refine Det_li (fun _ => ?_)) | (with_reducible refine Det_rf rfl (fun _ => ?_)) | (with_reducible refine Det_rd rfl (fun _ => ?_)) | (with_reducible refine Det_wf (by decide) ?_) | (with_reducible refine Det_wd ?_) | (with_reducible refine Det_sr (fun _ => ?_)) | (with_reducible refine Det_og ?_) | (with_reducible refine Det_ite ?_ ?_) | (with_reducible refine Det_oi (fun _ => ?_)) | (with_reducible refine Det_ot ?_ (fun _ => ?_)) | (with_reducible refine Det_cl ?_ (fun _ => ?_)))

theorem det_settle (c : Bool) (a0 : Int32) (a1 : Int32) (a2 : Int32) : Det c (f_settle a0 a1 a2) := by
  unfold f_settle
  repeat (first | (with_reducible exact Det_rt _) | (with_reducible intro _) | (with_reducible refine Det_clL ?_) | (with_reducible refine Det_clr ?_) | (with_reducible refine Det_li (fun _ => ?_)) | (with_reducible refine Det_rf rfl (fun _ => ?_)) | (with_reducible refine Det_rd rfl (fun _ => ?_)) | (with_reducible refine Det_wf (by decide) ?_) | (with_reducible refine Det_wd ?_) | (with_reducible refine Det_sr (fun _ => ?_)) | (with_reducible refine Det_og ?_) | (with_reducible refine Det_ite ?_ ?_) | (with_reducible refine Det_oi (fun _ => ?_)) | (with_reducible refine Det_ot ?_ (fun _ => ?_)) | (with_reducible refine Det_cl ?_ (fun _ => ?_)))

theorem det_lp_bestPlace_87 (c : Bool) : ∀ (n : Nat) (v1 v2 v3 v4 v5 v6 v7 v8 v9 v10 v11 : Int32) (K0 : Int32 → Int32 → Int32 → Int32 → Int32 → Int32 → Int32 → Int32 → Int32 → Int32 → Int32 → PG (Int32)), (∀ (v1 v2 v3 v4 v5 v6 v7 v8 v9 v10 v11 : Int32), Det c (K0 v1 v2 v3 v4 v5 v6 v7 v8 v9 v10 v11)) → Det c (lp_bestPlace_87 n v1 v2 v3 v4 v5 v6 v7 v8 v9 v10 v11 K0) := by
  intro n
  induction n with
  | zero => intro v1 v2 v3 v4 v5 v6 v7 v8 v9 v10 v11 K0 hK0; exact Det_no
  | succ n ih =>
    intro v1 v2 v3 v4 v5 v6 v7 v8 v9 v10 v11 K0 hK0
    unfold lp_bestPlace_87
    repeat (first | (with_reducible exact Det_rt _) | (with_reducible intro _) | (with_reducible exact hK0 _ _ _ _ _ _ _ _ _ _ _) | (with_reducible exact ih _ _ _ _ _ _ _ _ _ _ _ _ hK0) | (with_reducible refine Det_clL ?_) | (with_reducible refine Det_clr ?_) | (with_reducible refine Det_li (fun _ => ?_)) | (with_reducible refine Det_rf rfl (fun _ => ?_)) | (with_reducible refine Det_rd rfl (fun _ => ?_)) | (with_reducible refine Det_wf (by decide) ?_) | (with_reducible refine Det_wd ?_) | (with_reducible refine Det_sr (fun _ => ?_)) | (with_reducible refine Det_og ?_) | (with_reducible refine Det_ite ?_ ?_) | (with_reducible refine Det_oi (fun _ => ?_)) | (with_reducible refine Det_ot ?_ (fun _ => ?_)) | (with_reducible refine Det_cl ?_ (fun _ => ?_)))

theorem det_lp_bestPlace_44 (c : Bool) : ∀ (n : Nat) (v1 v2 v3 v4 v5 v6 v7 v8 v9 : Int32) (K0 : Int32 → Int32 → Int32 → Int32 → Int32 → Int32 → Int32 → Int32 → Int32 → PG (Int32)), (∀ (v1 v2 v3 v4 v5 v6 v7 v8 v9 : Int32), Det c (K0 v1 v2 v3 v4 v5 v6 v7 v8 v9)) → Det c (lp_bestPlace_44 n v1 v2 v3 v4 v5 v6 v7 v8 v9 K0) := by
  intro n
  induction n with
  | zero => intro v1 v2 v3 v4 v5 v6 v7 v8 v9 K0 hK0; exact Det_no
  | succ n ih =>
    intro v1 v2 v3 v4 v5 v6 v7 v8 v9 K0 hK0
    unfold lp_bestPlace_44
    repeat (first | (with_reducible exact Det_rt _) | (with_reducible intro _) | (with_reducible exact hK0 _ _ _ _ _ _ _ _ _) | (with_reducible exact ih _ _ _ _ _ _ _ _ _ _ hK0) | (with_reducible refine det_lp_bestPlace_87 _ _ _ _ _ _ _ _ _ _ _ _ _ _ ?_) | (with_reducible refine Det_clL ?_) | (with_reducible refine Det_clr ?_) | (with_reducible refine Det_li (fun _ => ?_)) | (with_reducible refine Det_rf rfl (fun _ => ?_)) | (with_reducible refine Det_rd rfl (fun _ => ?_)) | (with_reducible refine Det_wf (by decide) ?_) | (with_reducible refine Det_wd ?_) | (with_reducible refine Det_sr (fun _ => ?_)) | (with_reducible refine Det_og ?_) | (with_reducible refine Det_ite ?_ ?_) | (with_reducible refine Det_oi (fun _ => ?_)) | (with_reducible refine Det_ot ?_ (fun _ => ?_)) | (with_reducible refine Det_cl ?_ (fun _ => ?_)))

theorem det_lp_bestPlace_9 (c : Bool) : ∀ (n : Nat) (v1 v2 v3 v4 v5 v6 : Int32) (K0 : Int32 → Int32 → Int32 → Int32 → Int32 → Int32 → PG (Int32)), (∀ (v1 v2 v3 v4 v5 v6 : Int32), Det c (K0 v1 v2 v3 v4 v5 v6)) → Det c (lp_bestPlace_9 n v1 v2 v3 v4 v5 v6 K0) := by
  intro n
  induction n with
  | zero => intro v1 v2 v3 v4 v5 v6 K0 hK0; exact Det_no
  | succ n ih =>
    intro v1 v2 v3 v4 v5 v6 K0 hK0
    unfold lp_bestPlace_9
    repeat (first | (with_reducible exact Det_rt _) | (with_reducible intro _) | (with_reducible exact hK0 _ _ _ _ _ _) | (with_reducible exact ih _ _ _ _ _ _ _ hK0) | (with_reducible refine det_lp_bestPlace_87 _ _ _ _ _ _ _ _ _ _ _ _ _ _ ?_) | (with_reducible refine det_lp_bestPlace_44 _ _ _ _ _ _ _ _ _ _ _ _ ?_) | (with_reducible refine Det_clL ?_) | (with_reducible refine Det_clr ?_) | (with_reducible refine Det_li (fun _ => ?_)) | (with_reducible refine Det_rf rfl (fun _ => ?_)) | (with_reducible refine Det_rd rfl (fun _ => ?_)) | (with_reducible refine Det_wf (by decide) ?_) | (with_reducible refine Det_wd ?_) | (with_reducible refine Det_sr (fun _ => ?_)) | (with_reducible refine Det_og ?_) | (with_reducible refine Det_ite ?_ ?_) | (with_reducible refine Det_oi (fun _ => ?_)) | (with_reducible refine Det_ot ?_ (fun _ => ?_)) | (with_reducible refine Det_cl ?_ (fun _ => ?_)))

theorem det_bestPlace (c : Bool) (a0 : Int32) (a1 : Int32) (a2 : Int32) : Det c (f_bestPlace a0 a1 a2) := by
  unfold f_bestPlace
  repeat (first | (with_reducible exact Det_rt _) | (with_reducible intro _) | (with_reducible refine det_lp_bestPlace_87 _ _ _ _ _ _ _ _ _ _ _ _ _ _ ?_) | (with_reducible refine det_lp_bestPlace_44 _ _ _ _ _ _ _ _ _ _ _ _ ?_) | (with_reducible refine det_lp_bestPlace_9 _ _ _ _ _ _ _ _ _ ?_) | (with_reducible refine Det_clL ?_) | (with_reducible refine Det_clr ?_) | (with_reducible refine Det_li (fun _ => ?_)) | (with_reducible refine Det_rf rfl (fun _ => ?_)) | (with_reducible refine Det_rd rfl (fun _ => ?_)) | (with_reducible refine Det_wf (by decide) ?_) | (with_reducible refine Det_wd ?_) | (with_reducible refine Det_sr (fun _ => ?_)) | (with_reducible refine Det_og ?_) | (with_reducible refine Det_ite ?_ ?_) | (with_reducible refine Det_oi (fun _ => ?_)) | (with_reducible refine Det_ot ?_ (fun _ => ?_)) | (with_reducible refine Det_cl ?_ (fun _ => ?_)))

theorem det_lp_draws_150 (c : Bool) : ∀ (n : Nat) (v1 v2 v3 : Int32) (K0 : Int32 → Int32 → Int32 → PG (Int32)), (∀ (v1 v2 v3 : Int32), Det c (K0 v1 v2 v3)) → Det c (lp_draws_150 n v1 v2 v3 K0) := by
  intro n
  induction n with
  | zero => intro v1 v2 v3 K0 hK0; exact Det_no
  | succ n ih =>
    intro v1 v2 v3 K0 hK0
    unfold lp_draws_150
    repeat (first | (with_reducible exact Det_rt _) | (with_reducible intro _) | (with_reducible exact hK0 _ _ _) | (with_reducible exact ih _ _ _ _ hK0) | (with_reducible exact det_bestPlace _ _ _ _) | (with_reducible exact det_fights _ _) | (with_reducible exact det_isOther _ _ _) | (with_reducible exact det_makeRow _ _) | (with_reducible exact det_settle _ _ _ _) | (with_reducible exact det_weighed _ _) | (with_reducible refine Det_clL ?_) | (with_reducible refine Det_clr ?_) | (with_reducible refine Det_li (fun _ => ?_)) | (with_reducible refine Det_rf rfl (fun _ => ?_)) | (with_reducible refine Det_rd rfl (fun _ => ?_)) | (with_reducible refine Det_wf (by decide) ?_) | (with_reducible refine Det_wd ?_) | (with_reducible refine Det_sr (fun _ => ?_)) | (with_reducible refine Det_og ?_) | (with_reducible refine Det_ite ?_ ?_) | (with_reducible refine Det_oi (fun _ => ?_)) | (with_reducible refine Det_ot ?_ (fun _ => ?_)) | (with_reducible refine Det_cl ?_ (fun _ => ?_)))

theorem det_lp_draws_187 (c : Bool) : ∀ (n : Nat) (v1 v2 v3 : Int32) (K0 : Int32 → Int32 → Int32 → PG (Int32)), (∀ (v1 v2 v3 : Int32), Det c (K0 v1 v2 v3)) → Det c (lp_draws_187 n v1 v2 v3 K0) := by
  intro n
  induction n with
  | zero => intro v1 v2 v3 K0 hK0; exact Det_no
  | succ n ih =>
    intro v1 v2 v3 K0 hK0
    unfold lp_draws_187
    repeat (first | (with_reducible exact Det_rt _) | (with_reducible intro _) | (with_reducible exact hK0 _ _ _) | (with_reducible exact ih _ _ _ _ hK0) | (with_reducible refine det_lp_draws_150 _ _ _ _ _ _ ?_) | (with_reducible exact det_bestPlace _ _ _ _) | (with_reducible exact det_fights _ _) | (with_reducible exact det_isOther _ _ _) | (with_reducible exact det_makeRow _ _) | (with_reducible exact det_settle _ _ _ _) | (with_reducible exact det_weighed _ _) | (with_reducible refine Det_clL ?_) | (with_reducible refine Det_clr ?_) | (with_reducible refine Det_li (fun _ => ?_)) | (with_reducible refine Det_rf rfl (fun _ => ?_)) | (with_reducible refine Det_rd rfl (fun _ => ?_)) | (with_reducible refine Det_wf (by decide) ?_) | (with_reducible refine Det_wd ?_) | (with_reducible refine Det_sr (fun _ => ?_)) | (with_reducible refine Det_og ?_) | (with_reducible refine Det_ite ?_ ?_) | (with_reducible refine Det_oi (fun _ => ?_)) | (with_reducible refine Det_ot ?_ (fun _ => ?_)) | (with_reducible refine Det_cl ?_ (fun _ => ?_)))

theorem det_lp_draws_230 (c : Bool) : ∀ (n : Nat) (v1 v2 v3 v4 v5 : Int32) (K0 : Int32 → Int32 → Int32 → Int32 → Int32 → PG (Int32)), (∀ (v1 v2 v3 v4 v5 : Int32), Det c (K0 v1 v2 v3 v4 v5)) → Det c (lp_draws_230 n v1 v2 v3 v4 v5 K0) := by
  intro n
  induction n with
  | zero => intro v1 v2 v3 v4 v5 K0 hK0; exact Det_no
  | succ n ih =>
    intro v1 v2 v3 v4 v5 K0 hK0
    unfold lp_draws_230
    repeat (first | (with_reducible exact Det_rt _) | (with_reducible intro _) | (with_reducible exact hK0 _ _ _ _ _) | (with_reducible exact ih _ _ _ _ _ _ hK0) | (with_reducible refine det_lp_draws_150 _ _ _ _ _ _ ?_) | (with_reducible refine det_lp_draws_187 _ _ _ _ _ _ ?_) | (with_reducible exact det_bestPlace _ _ _ _) | (with_reducible exact det_fights _ _) | (with_reducible exact det_isOther _ _ _) | (with_reducible exact det_makeRow _ _) | (with_reducible exact det_settle _ _ _ _) | (with_reducible exact det_weighed _ _) | (with_reducible refine Det_clL ?_) | (with_reducible refine Det_clr ?_) | (with_reducible refine Det_li (fun _ => ?_)) | (with_reducible refine Det_rf rfl (fun _ => ?_)) | (with_reducible refine Det_rd rfl (fun _ => ?_)) | (with_reducible refine Det_wf (by decide) ?_) | (with_reducible refine Det_wd ?_) | (with_reducible refine Det_sr (fun _ => ?_)) | (with_reducible refine Det_og ?_) | (with_reducible refine Det_ite ?_ ?_) | (with_reducible refine Det_oi (fun _ => ?_)) | (with_reducible refine Det_ot ?_ (fun _ => ?_)) | (with_reducible refine Det_cl ?_ (fun _ => ?_)))

theorem det_lp_draws_220 (c : Bool) : ∀ (n : Nat) (v1 v2 v3 v4 : Int32) (K0 : Int32 → Int32 → Int32 → Int32 → PG (Int32)), (∀ (v1 v2 v3 v4 : Int32), Det c (K0 v1 v2 v3 v4)) → Det c (lp_draws_220 n v1 v2 v3 v4 K0) := by
  intro n
  induction n with
  | zero => intro v1 v2 v3 v4 K0 hK0; exact Det_no
  | succ n ih =>
    intro v1 v2 v3 v4 K0 hK0
    unfold lp_draws_220
    repeat (first | (with_reducible exact Det_rt _) | (with_reducible intro _) | (with_reducible exact hK0 _ _ _ _) | (with_reducible exact ih _ _ _ _ _ hK0) | (with_reducible refine det_lp_draws_150 _ _ _ _ _ _ ?_) | (with_reducible refine det_lp_draws_187 _ _ _ _ _ _ ?_) | (with_reducible refine det_lp_draws_230 _ _ _ _ _ _ _ _ ?_) | (with_reducible exact det_bestPlace _ _ _ _) | (with_reducible exact det_fights _ _) | (with_reducible exact det_isOther _ _ _) | (with_reducible exact det_makeRow _ _) | (with_reducible exact det_settle _ _ _ _) | (with_reducible exact det_weighed _ _) | (with_reducible refine Det_clL ?_) | (with_reducible refine Det_clr ?_) | (with_reducible refine Det_li (fun _ => ?_)) | (with_reducible refine Det_rf rfl (fun _ => ?_)) | (with_reducible refine Det_rd rfl (fun _ => ?_)) | (with_reducible refine Det_wf (by decide) ?_) | (with_reducible refine Det_wd ?_) | (with_reducible refine Det_sr (fun _ => ?_)) | (with_reducible refine Det_og ?_) | (with_reducible refine Det_ite ?_ ?_) | (with_reducible refine Det_oi (fun _ => ?_)) | (with_reducible refine Det_ot ?_ (fun _ => ?_)) | (with_reducible refine Det_cl ?_ (fun _ => ?_)))

theorem det_lp_draws_307 (c : Bool) : ∀ (n : Nat) (v1 v2 v3 v4 : Int32) (K0 : Int32 → Int32 → Int32 → Int32 → PG (Int32)), (∀ (v1 v2 v3 v4 : Int32), Det c (K0 v1 v2 v3 v4)) → Det c (lp_draws_307 n v1 v2 v3 v4 K0) := by
  intro n
  induction n with
  | zero => intro v1 v2 v3 v4 K0 hK0; exact Det_no
  | succ n ih =>
    intro v1 v2 v3 v4 K0 hK0
    unfold lp_draws_307
    repeat (first | (with_reducible exact Det_rt _) | (with_reducible intro _) | (with_reducible exact hK0 _ _ _ _) | (with_reducible exact ih _ _ _ _ _ hK0) | (with_reducible refine det_lp_draws_150 _ _ _ _ _ _ ?_) | (with_reducible refine det_lp_draws_187 _ _ _ _ _ _ ?_) | (with_reducible refine det_lp_draws_230 _ _ _ _ _ _ _ _ ?_) | (with_reducible refine det_lp_draws_220 _ _ _ _ _ _ _ ?_) | (with_reducible exact det_bestPlace _ _ _ _) | (with_reducible exact det_fights _ _) | (with_reducible exact det_isOther _ _ _) | (with_reducible exact det_makeRow _ _) | (with_reducible exact det_settle _ _ _ _) | (with_reducible exact det_weighed _ _) | (with_reducible refine Det_clL ?_) | (with_reducible refine Det_clr ?_) | (with_reducible refine Det_li (fun _ => ?_)) | (with_reducible refine Det_rf rfl (fun _ => ?_)) | (with_reducible refine Det_rd rfl (fun _ => ?_)) | (with_reducible refine Det_wf (by decide) ?_) | (with_reducible refine Det_wd ?_) | (with_reducible refine Det_sr (fun _ => ?_)) | (with_reducible refine Det_og ?_) | (with_reducible refine Det_ite ?_ ?_) | (with_reducible refine Det_oi (fun _ => ?_)) | (with_reducible refine Det_ot ?_ (fun _ => ?_)) | (with_reducible refine Det_cl ?_ (fun _ => ?_)))

theorem det_lp_draws_331 (c : Bool) : ∀ (n : Nat) (v1 v2 v3 v4 : Int32) (K0 : Int32 → Int32 → Int32 → Int32 → PG (Int32)), (∀ (v1 v2 v3 v4 : Int32), Det c (K0 v1 v2 v3 v4)) → Det c (lp_draws_331 n v1 v2 v3 v4 K0) := by
  intro n
  induction n with
  | zero => intro v1 v2 v3 v4 K0 hK0; exact Det_no
  | succ n ih =>
    intro v1 v2 v3 v4 K0 hK0
    unfold lp_draws_331
    repeat (first | (with_reducible exact Det_rt _) | (with_reducible intro _) | (with_reducible exact hK0 _ _ _ _) | (with_reducible exact ih _ _ _ _ _ hK0) | (with_reducible refine det_lp_draws_150 _ _ _ _ _ _ ?_) | (with_reducible refine det_lp_draws_187 _ _ _ _ _ _ ?_) | (with_reducible refine det_lp_draws_230 _ _ _ _ _ _ _ _ ?_) | (with_reducible refine det_lp_draws_220 _ _ _ _ _ _ _ ?_) | (with_reducible refine det_lp_draws_307 _ _ _ _ _ _ _ ?_) | (with_reducible exact det_bestPlace _ _ _ _) | (with_reducible exact det_fights _ _) | (with_reducible exact det_isOther _ _ _) | (with_reducible exact det_makeRow _ _) | (with_reducible exact det_settle _ _ _ _) | (with_reducible exact det_weighed _ _) | (with_reducible refine Det_clL ?_) | (with_reducible refine Det_clr ?_) | (with_reducible refine Det_li (fun _ => ?_)) | (with_reducible refine Det_rf rfl (fun _ => ?_)) | (with_reducible refine Det_rd rfl (fun _ => ?_)) | (with_reducible refine Det_wf (by decide) ?_) | (with_reducible refine Det_wd ?_) | (with_reducible refine Det_sr (fun _ => ?_)) | (with_reducible refine Det_og ?_) | (with_reducible refine Det_ite ?_ ?_) | (with_reducible refine Det_oi (fun _ => ?_)) | (with_reducible refine Det_ot ?_ (fun _ => ?_)) | (with_reducible refine Det_cl ?_ (fun _ => ?_)))

theorem det_lp_draws_388 (c : Bool) : ∀ (n : Nat) (v1 v2 v3 v4 v5 v6 : Int32) (K0 : Int32 → Int32 → Int32 → Int32 → Int32 → Int32 → PG (Int32)), (∀ (v1 v2 v3 v4 v5 v6 : Int32), Det c (K0 v1 v2 v3 v4 v5 v6)) → Det c (lp_draws_388 n v1 v2 v3 v4 v5 v6 K0) := by
  intro n
  induction n with
  | zero => intro v1 v2 v3 v4 v5 v6 K0 hK0; exact Det_no
  | succ n ih =>
    intro v1 v2 v3 v4 v5 v6 K0 hK0
    unfold lp_draws_388
    repeat (first | (with_reducible exact Det_rt _) | (with_reducible intro _) | (with_reducible exact hK0 _ _ _ _ _ _) | (with_reducible exact ih _ _ _ _ _ _ _ hK0) | (with_reducible refine det_lp_draws_150 _ _ _ _ _ _ ?_) | (with_reducible refine det_lp_draws_187 _ _ _ _ _ _ ?_) | (with_reducible refine det_lp_draws_230 _ _ _ _ _ _ _ _ ?_) | (with_reducible refine det_lp_draws_220 _ _ _ _ _ _ _ ?_) | (with_reducible refine det_lp_draws_307 _ _ _ _ _ _ _ ?_) | (with_reducible refine det_lp_draws_331 _ _ _ _ _ _ _ ?_) | (with_reducible exact det_bestPlace _ _ _ _) | (with_reducible exact det_fights _ _) | (with_reducible exact det_isOther _ _ _) | (with_reducible exact det_makeRow _ _) | (with_reducible exact det_settle _ _ _ _) | (with_reducible exact det_weighed _ _) | (with_reducible refine Det_clL ?_) | (with_reducible refine Det_clr ?_) | (with_reducible refine Det_li (fun _ => ?_)) | (with_reducible refine Det_rf rfl (fun _ => ?_)) | (with_reducible refine Det_rd rfl (fun _ => ?_)) | (with_reducible refine Det_wf (by decide) ?_) | (with_reducible refine Det_wd ?_) | (with_reducible refine Det_sr (fun _ => ?_)) | (with_reducible refine Det_og ?_) | (with_reducible refine Det_ite ?_ ?_) | (with_reducible refine Det_oi (fun _ => ?_)) | (with_reducible refine Det_ot ?_ (fun _ => ?_)) | (with_reducible refine Det_cl ?_ (fun _ => ?_)))

theorem det_lp_draws_425 (c : Bool) : ∀ (n : Nat) (v1 v2 v3 v4 v5 v6 : Int32) (K0 : Int32 → Int32 → Int32 → Int32 → Int32 → Int32 → PG (Int32)), (∀ (v1 v2 v3 v4 v5 v6 : Int32), Det c (K0 v1 v2 v3 v4 v5 v6)) → Det c (lp_draws_425 n v1 v2 v3 v4 v5 v6 K0) := by
  intro n
  induction n with
  | zero => intro v1 v2 v3 v4 v5 v6 K0 hK0; exact Det_no
  | succ n ih =>
    intro v1 v2 v3 v4 v5 v6 K0 hK0
    unfold lp_draws_425
    repeat (first | (with_reducible exact Det_rt _) | (with_reducible intro _) | (with_reducible exact hK0 _ _ _ _ _ _) | (with_reducible exact ih _ _ _ _ _ _ _ hK0) | (with_reducible refine det_lp_draws_150 _ _ _ _ _ _ ?_) | (with_reducible refine det_lp_draws_187 _ _ _ _ _ _ ?_) | (with_reducible refine det_lp_draws_230 _ _ _ _ _ _ _ _ ?_) | (with_reducible refine det_lp_draws_220 _ _ _ _ _ _ _ ?_) | (with_reducible refine det_lp_draws_307 _ _ _ _ _ _ _ ?_) | (with_reducible refine det_lp_draws_331 _ _ _ _ _ _ _ ?_) | (with_reducible refine det_lp_draws_388 _ _ _ _ _ _ _ _ _ ?_) | (with_reducible exact det_bestPlace _ _ _ _) | (with_reducible exact det_fights _ _) | (with_reducible exact det_isOther _ _ _) | (with_reducible exact det_makeRow _ _) | (with_reducible exact det_settle _ _ _ _) | (with_reducible exact det_weighed _ _) | (with_reducible refine Det_clL ?_) | (with_reducible refine Det_clr ?_) | (with_reducible refine Det_li (fun _ => ?_)) | (with_reducible refine Det_rf rfl (fun _ => ?_)) | (with_reducible refine Det_rd rfl (fun _ => ?_)) | (with_reducible refine Det_wf (by decide) ?_) | (with_reducible refine Det_wd ?_) | (with_reducible refine Det_sr (fun _ => ?_)) | (with_reducible refine Det_og ?_) | (with_reducible refine Det_ite ?_ ?_) | (with_reducible refine Det_oi (fun _ => ?_)) | (with_reducible refine Det_ot ?_ (fun _ => ?_)) | (with_reducible refine Det_cl ?_ (fun _ => ?_)))

theorem det_lp_draws_375 (c : Bool) : ∀ (n : Nat) (v1 v2 v3 v4 : Int32) (K0 : Int32 → Int32 → Int32 → Int32 → PG (Int32)), (∀ (v1 v2 v3 v4 : Int32), Det c (K0 v1 v2 v3 v4)) → Det c (lp_draws_375 n v1 v2 v3 v4 K0) := by
  intro n
  induction n with
  | zero => intro v1 v2 v3 v4 K0 hK0; exact Det_no
  | succ n ih =>
    intro v1 v2 v3 v4 K0 hK0
    unfold lp_draws_375
    repeat (first | (with_reducible exact Det_rt _) | (with_reducible intro _) | (with_reducible exact hK0 _ _ _ _) | (with_reducible exact ih _ _ _ _ _ hK0) | (with_reducible refine det_lp_draws_150 _ _ _ _ _ _ ?_) | (with_reducible refine det_lp_draws_187 _ _ _ _ _ _ ?_) | (with_reducible refine det_lp_draws_230 _ _ _ _ _ _ _ _ ?_) | (with_reducible refine det_lp_draws_220 _ _ _ _ _ _ _ ?_) | (with_reducible refine det_lp_draws_307 _ _ _ _ _ _ _ ?_) | (with_reducible refine det_lp_draws_331 _ _ _ _ _ _ _ ?_) | (with_reducible refine det_lp_draws_388 _ _ _ _ _ _ _ _ _ ?_) | (with_reducible refine det_lp_draws_425 _ _ _ _ _ _ _ _ _ ?_) | (with_reducible exact det_bestPlace _ _ _ _) | (with_reducible exact det_fights _ _) | (with_reducible exact det_isOther _ _ _) | (with_reducible exact det_makeRow _ _) | (with_reducible exact det_settle _ _ _ _) | (with_reducible exact det_weighed _ _) | (with_reducible refine Det_clL ?_) | (with_reducible refine Det_clr ?_) | (with_reducible refine Det_li (fun _ => ?_)) | (with_reducible refine Det_rf rfl (fun _ => ?_)) | (with_reducible refine Det_rd rfl (fun _ => ?_)) | (with_reducible refine Det_wf (by decide) ?_) | (with_reducible refine Det_wd ?_) | (with_reducible refine Det_sr (fun _ => ?_)) | (with_reducible refine Det_og ?_) | (with_reducible refine Det_ite ?_ ?_) | (with_reducible refine Det_oi (fun _ => ?_)) | (with_reducible refine Det_ot ?_ (fun _ => ?_)) | (with_reducible refine Det_cl ?_ (fun _ => ?_)))

theorem det_lp_draws_31 (c : Bool) : ∀ (n : Nat) (v1 v2 v3 v4 : Int32) (K0 : Int32 → Int32 → Int32 → Int32 → PG (Int32)), (∀ (v1 v2 v3 v4 : Int32), Det c (K0 v1 v2 v3 v4)) → Det c (lp_draws_31 n v1 v2 v3 v4 K0) := by
  intro n
  induction n with
  | zero => intro v1 v2 v3 v4 K0 hK0; exact Det_no
  | succ n ih =>
    intro v1 v2 v3 v4 K0 hK0
    unfold lp_draws_31
    repeat (first | (with_reducible exact Det_rt _) | (with_reducible intro _) | (with_reducible exact hK0 _ _ _ _) | (with_reducible exact ih _ _ _ _ _ hK0) | (with_reducible refine det_lp_draws_150 _ _ _ _ _ _ ?_) | (with_reducible refine det_lp_draws_187 _ _ _ _ _ _ ?_) | (with_reducible refine det_lp_draws_230 _ _ _ _ _ _ _ _ ?_) | (with_reducible refine det_lp_draws_220 _ _ _ _ _ _ _ ?_) | (with_reducible refine det_lp_draws_307 _ _ _ _ _ _ _ ?_) | (with_reducible refine det_lp_draws_331 _ _ _ _ _ _ _ ?_) | (with_reducible refine det_lp_draws_388 _ _ _ _ _ _ _ _ _ ?_) | (with_reducible refine det_lp_draws_425 _ _ _ _ _ _ _ _ _ ?_) | (with_reducible refine det_lp_draws_375 _ _ _ _ _ _ _ ?_) | (with_reducible exact det_bestPlace _ _ _ _) | (with_reducible exact det_fights _ _) | (with_reducible exact det_isOther _ _ _) | (with_reducible exact det_makeRow _ _) | (with_reducible exact det_settle _ _ _ _) | (with_reducible exact det_weighed _ _) | (with_reducible refine Det_clL ?_) | (with_reducible refine Det_clr ?_) | (with_reducible refine Det_li (fun _ => ?_)) | (with_reducible refine Det_rf rfl (fun _ => ?_)) | (with_reducible refine Det_rd rfl (fun _ => ?_)) | (with_reducible refine Det_wf (by decide) ?_) | (with_reducible refine Det_wd ?_) | (with_reducible refine Det_sr (fun _ => ?_)) | (with_reducible refine Det_og ?_) | (with_reducible refine Det_ite ?_ ?_) | (with_reducible refine Det_oi (fun _ => ?_)) | (with_reducible refine Det_ot ?_ (fun _ => ?_)) | (with_reducible refine Det_cl ?_ (fun _ => ?_)))

theorem det_draws (c : Bool) (a0 : Int32) : Det c (f_draws a0) := by
  unfold f_draws
  repeat (first | (with_reducible exact Det_rt _) | (with_reducible intro _) | (with_reducible refine det_lp_draws_150 _ _ _ _ _ _ ?_) | (with_reducible refine det_lp_draws_187 _ _ _ _ _ _ ?_) | (with_reducible refine det_lp_draws_230 _ _ _ _ _ _ _ _ ?_) | (with_reducible refine det_lp_draws_220 _ _ _ _ _ _ _ ?_) | (with_reducible refine det_lp_draws_307 _ _ _ _ _ _ _ ?_) | (with_reducible refine det_lp_draws_331 _ _ _ _ _ _ _ ?_) | (with_reducible refine det_lp_draws_388 _ _ _ _ _ _ _ _ _ ?_) | (with_reducible refine det_lp_draws_425 _ _ _ _ _ _ _ _ _ ?_) | (with_reducible refine det_lp_draws_375 _ _ _ _ _ _ _ ?_) | (with_reducible refine det_lp_draws_31 _ _ _ _ _ _ _ ?_) | (with_reducible exact det_bestPlace _ _ _ _) | (with_reducible exact det_fights _ _) | (with_reducible exact det_isOther _ _ _) | (with_reducible exact det_makeRow _ _) | (with_reducible exact det_settle _ _ _ _) | (with_reducible exact det_weighed _ _) | (with_reducible refine Det_clL ?_) | (with_reducible refine Det_clr ?_) | (with_reducible refine Det_li (fun _ => ?_)) | (with_reducible refine Det_rf rfl (fun _ => ?_)) | (with_reducible refine Det_rd rfl (fun _ => ?_)) | (with_reducible refine Det_wf (by decide) ?_) | (with_reducible refine Det_wd ?_) | (with_reducible refine Det_sr (fun _ => ?_)) | (with_reducible refine Det_og ?_) | (with_reducible refine Det_ite ?_ ?_) | (with_reducible refine Det_oi (fun _ => ?_)) | (with_reducible refine Det_ot ?_ (fun _ => ?_)) | (with_reducible refine Det_cl ?_ (fun _ => ?_)))

theorem det_lp_matOf_2 (c : Bool) : ∀ (n : Nat) (v1 v2 v3 : Int32) (K0 : Int32 → Int32 → Int32 → PG (Int32)), (∀ (v1 v2 v3 : Int32), Det c (K0 v1 v2 v3)) → Det c (lp_matOf_2 n v1 v2 v3 K0) := by
  intro n
  induction n with
  | zero => intro v1 v2 v3 K0 hK0; exact Det_no
  | succ n ih =>
    intro v1 v2 v3 K0 hK0
    unfold lp_matOf_2
    repeat (first | (with_reducible exact Det_rt _) | (with_reducible intro _) | (with_reducible exact hK0 _ _ _) | (with_reducible exact ih _ _ _ _ hK0) | (with_reducible refine Det_clL ?_) | (with_reducible refine Det_clr ?_) | (with_reducible refine Det_li (fun _ => ?_)) | (with_reducible refine Det_rf rfl (fun _ => ?_)) | (with_reducible refine Det_rd rfl (fun _ => ?_)) | (with_reducible refine Det_wf (by decide) ?_) | (with_reducible refine Det_wd ?_) | (with_reducible refine Det_sr (fun _ => ?_)) | (with_reducible refine Det_og ?_) | (with_reducible refine Det_ite ?_ ?_) | (with_reducible refine Det_oi (fun _ => ?_)) | (with_reducible refine Det_ot ?_ (fun _ => ?_)) | (with_reducible refine Det_cl ?_ (fun _ => ?_)))

theorem det_matOf (c : Bool) (a0 : Int32) (a1 : Int32) : Det c (f_matOf a0 a1) := by
  unfold f_matOf
  repeat (first | (with_reducible exact Det_rt _) | (with_reducible intro _) | (with_reducible refine det_lp_matOf_2 _ _ _ _ _ _ ?_) | (with_reducible refine Det_clL ?_) | (with_reducible refine Det_clr ?_) | (with_reducible refine Det_li (fun _ => ?_)) | (with_reducible refine Det_rf rfl (fun _ => ?_)) | (with_reducible refine Det_rd rfl (fun _ => ?_)) | (with_reducible refine Det_wf (by decide) ?_) | (with_reducible refine Det_wd ?_) | (with_reducible refine Det_sr (fun _ => ?_)) | (with_reducible refine Det_og ?_) | (with_reducible refine Det_ite ?_ ?_) | (with_reducible refine Det_oi (fun _ => ?_)) | (with_reducible refine Det_ot ?_ (fun _ => ?_)) | (with_reducible refine Det_cl ?_ (fun _ => ?_)))

theorem det_goesOver (c : Bool) (a0 : Int32) : Det c (f_goesOver a0) := by
  unfold f_goesOver
  repeat (first | (with_reducible exact Det_rt _) | (with_reducible intro _) | (with_reducible refine Det_clL ?_) | (with_reducible refine Det_clr ?_) | (with_reducible refine Det_li (fun _ => ?_)) | (with_reducible refine Det_rf rfl (fun _ => ?_)) | (with_reducible refine Det_rd rfl (fun _ => ?_)) | (with_reducible refine Det_wf (by decide) ?_) | (with_reducible refine Det_wd ?_) | (with_reducible refine Det_sr (fun _ => ?_)) | (with_reducible refine Det_og ?_) | (with_reducible refine Det_ite ?_ ?_) | (with_reducible refine Det_oi (fun _ => ?_)) | (with_reducible refine Det_ot ?_ (fun _ => ?_)) | (with_reducible refine Det_cl ?_ (fun _ => ?_)))

theorem det_lp_begins_79 (c : Bool) : ∀ (n : Nat) (v1 v2 v3 v4 v5 : Int32) (K0 : Int32 → Int32 → Int32 → Int32 → Int32 → PG (Int32)), (∀ (v1 v2 v3 v4 v5 : Int32), Det c (K0 v1 v2 v3 v4 v5)) → Det c (lp_begins_79 n v1 v2 v3 v4 v5 K0) := by
  intro n
  induction n with
  | zero => intro v1 v2 v3 v4 v5 K0 hK0; exact Det_no
  | succ n ih =>
    intro v1 v2 v3 v4 v5 K0 hK0
    unfold lp_begins_79
    repeat (first | (with_reducible exact Det_rt _) | (with_reducible intro _) | (with_reducible exact hK0 _ _ _ _ _) | (with_reducible exact ih _ _ _ _ _ _ hK0) | (with_reducible exact det_fS _ _ _ _ _ _ _) | (with_reducible exact det_goesOver _ _) | (with_reducible refine Det_clL ?_) | (with_reducible refine Det_clr ?_) | (with_reducible refine Det_li (fun _ => ?_)) | (with_reducible refine Det_rf rfl (fun _ => ?_)) | (with_reducible refine Det_rd rfl (fun _ => ?_)) | (with_reducible refine Det_wf (by decide) ?_) | (with_reducible refine Det_wd ?_) | (with_reducible refine Det_sr (fun _ => ?_)) | (with_reducible refine Det_og ?_) | (with_reducible refine Det_ite ?_ ?_) | (with_reducible refine Det_oi (fun _ => ?_)) | (with_reducible refine Det_ot ?_ (fun _ => ?_)) | (with_reducible refine Det_cl ?_ (fun _ => ?_)))

theorem det_begins (c : Bool) (a0 : Int32) (a1 : Int32) (a2 : Int32) : Det c (f_begins a0 a1 a2) := by
  unfold f_begins
  repeat (first | (with_reducible exact Det_rt _) | (with_reducible intro _) | (with_reducible refine det_lp_begins_79 _ _ _ _ _ _ _ _ ?_) | (with_reducible exact det_fS _ _ _ _ _ _ _) | (with_reducible exact det_goesOver _ _) | (with_reducible refine Det_clL ?_) | (with_reducible refine Det_clr ?_) | (with_reducible refine Det_li (fun _ => ?_)) | (with_reducible refine Det_rf rfl (fun _ => ?_)) | (with_reducible refine Det_rd rfl (fun _ => ?_)) | (with_reducible refine Det_wf (by decide) ?_) | (with_reducible refine Det_wd ?_) | (with_reducible refine Det_sr (fun _ => ?_)) | (with_reducible refine Det_og ?_) | (with_reducible refine Det_ite ?_ ?_) | (with_reducible refine Det_oi (fun _ => ?_)) | (with_reducible refine Det_ot ?_ (fun _ => ?_)) | (with_reducible refine Det_cl ?_ (fun _ => ?_)))

theorem det_ends (c : Bool) (a0 : Int32) (a1 : Int32) (a2 : Int32) (a3 : Int32) : Det c (f_ends a0 a1 a2 a3) := by
  unfold f_ends
  repeat (first | (with_reducible exact Det_rt _) | (with_reducible intro _) | (with_reducible refine Det_clL ?_) | (with_reducible refine Det_clr ?_) | (with_reducible refine Det_li (fun _ => ?_)) | (with_reducible refine Det_rf rfl (fun _ => ?_)) | (with_reducible refine Det_rd rfl (fun _ => ?_)) | (with_reducible refine Det_wf (by decide) ?_) | (with_reducible refine Det_wd ?_) | (with_reducible refine Det_sr (fun _ => ?_)) | (with_reducible refine Det_og ?_) | (with_reducible refine Det_ite ?_ ?_) | (with_reducible refine Det_oi (fun _ => ?_)) | (with_reducible refine Det_ot ?_ (fun _ => ?_)) | (with_reducible refine Det_cl ?_ (fun _ => ?_)))

theorem det_lp_asked_13 (c : Bool) : ∀ (n : Nat) (v1 v2 v3 v4 : Int32) (K0 : Int32 → Int32 → Int32 → Int32 → PG (Int32)), (∀ (v1 v2 v3 v4 : Int32), Det c (K0 v1 v2 v3 v4)) → Det c (lp_asked_13 n v1 v2 v3 v4 K0) := by
  intro n
  induction n with
  | zero => intro v1 v2 v3 v4 K0 hK0; exact Det_no
  | succ n ih =>
    intro v1 v2 v3 v4 K0 hK0
    unfold lp_asked_13
    repeat (first | (with_reducible exact Det_rt _) | (with_reducible intro _) | (with_reducible exact hK0 _ _ _ _) | (with_reducible exact ih _ _ _ _ _ hK0) | (with_reducible exact det_ends _ _ _ _ _) | (with_reducible exact det_holds _ _ _ _ _) | (with_reducible refine Det_clL ?_) | (with_reducible refine Det_clr ?_) | (with_reducible refine Det_li (fun _ => ?_)) | (with_reducible refine Det_rf rfl (fun _ => ?_)) | (with_reducible refine Det_rd rfl (fun _ => ?_)) | (with_reducible refine Det_wf (by decide) ?_) | (with_reducible refine Det_wd ?_) | (with_reducible refine Det_sr (fun _ => ?_)) | (with_reducible refine Det_og ?_) | (with_reducible refine Det_ite ?_ ?_) | (with_reducible refine Det_oi (fun _ => ?_)) | (with_reducible refine Det_ot ?_ (fun _ => ?_)) | (with_reducible refine Det_cl ?_ (fun _ => ?_)))

theorem det_lp_asked_2 (c : Bool) : ∀ (n : Nat) (v1 v2 v3 : Int32) (K0 : Int32 → Int32 → Int32 → PG (Int32)), (∀ (v1 v2 v3 : Int32), Det c (K0 v1 v2 v3)) → Det c (lp_asked_2 n v1 v2 v3 K0) := by
  intro n
  induction n with
  | zero => intro v1 v2 v3 K0 hK0; exact Det_no
  | succ n ih =>
    intro v1 v2 v3 K0 hK0
    unfold lp_asked_2
    repeat (first | (with_reducible exact Det_rt _) | (with_reducible intro _) | (with_reducible exact hK0 _ _ _) | (with_reducible exact ih _ _ _ _ hK0) | (with_reducible refine det_lp_asked_13 _ _ _ _ _ _ _ ?_) | (with_reducible exact det_ends _ _ _ _ _) | (with_reducible exact det_holds _ _ _ _ _) | (with_reducible refine Det_clL ?_) | (with_reducible refine Det_clr ?_) | (with_reducible refine Det_li (fun _ => ?_)) | (with_reducible refine Det_rf rfl (fun _ => ?_)) | (with_reducible refine Det_rd rfl (fun _ => ?_)) | (with_reducible refine Det_wf (by decide) ?_) | (with_reducible refine Det_wd ?_) | (with_reducible refine Det_sr (fun _ => ?_)) | (with_reducible refine Det_og ?_) | (with_reducible refine Det_ite ?_ ?_) | (with_reducible refine Det_oi (fun _ => ?_)) | (with_reducible refine Det_ot ?_ (fun _ => ?_)) | (with_reducible refine Det_cl ?_ (fun _ => ?_)))

theorem det_asked (c : Bool) (a0 : Int32) (a1 : Int32) : Det c (f_asked a0 a1) := by
  unfold f_asked
  repeat (first | (with_reducible exact Det_rt _) | (with_reducible intro _) | (with_reducible refine det_lp_asked_13 _ _ _ _ _ _ _ ?_) | (with_reducible refine det_lp_asked_2 _ _ _ _ _ _ ?_) | (with_reducible exact det_ends _ _ _ _ _) | (with_reducible exact det_holds _ _ _ _ _) | (with_reducible refine Det_clL ?_) | (with_reducible refine Det_clr ?_) | (with_reducible refine Det_li (fun _ => ?_)) | (with_reducible refine Det_rf rfl (fun _ => ?_)) | (with_reducible refine Det_rd rfl (fun _ => ?_)) | (with_reducible refine Det_wf (by decide) ?_) | (with_reducible refine Det_wd ?_) | (with_reducible refine Det_sr (fun _ => ?_)) | (with_reducible refine Det_og ?_) | (with_reducible refine Det_ite ?_ ?_) | (with_reducible refine Det_oi (fun _ => ?_)) | (with_reducible refine Det_ot ?_ (fun _ => ?_)) | (with_reducible refine Det_cl ?_ (fun _ => ?_)))

theorem det_passes (c : Bool) (a0 : Int32) (a1 : Int32) : Det c (f_passes a0 a1) := by
  unfold f_passes
  repeat (first | (with_reducible exact Det_rt _) | (with_reducible intro _) | (with_reducible exact det_asked _ _ _) | (with_reducible exact det_goesOver _ _) | (with_reducible refine Det_clL ?_) | (with_reducible refine Det_clr ?_) | (with_reducible refine Det_li (fun _ => ?_)) | (with_reducible refine Det_rf rfl (fun _ => ?_)) | (with_reducible refine Det_rd rfl (fun _ => ?_)) | (with_reducible refine Det_wf (by decide) ?_) | (with_reducible refine Det_wd ?_) | (with_reducible refine Det_sr (fun _ => ?_)) | (with_reducible refine Det_og ?_) | (with_reducible refine Det_ite ?_ ?_) | (with_reducible refine Det_oi (fun _ => ?_)) | (with_reducible refine Det_ot ?_ (fun _ => ?_)) | (with_reducible refine Det_cl ?_ (fun _ => ?_)))

theorem det_lp_struck_28 (c : Bool) : ∀ (n : Nat) (v1 v2 v3 v4 v5 : Int32) (K0 : Int32 → Int32 → Int32 → Int32 → Int32 → PG (Int32)), (∀ (v1 v2 v3 v4 v5 : Int32), Det c (K0 v1 v2 v3 v4 v5)) → Det c (lp_struck_28 n v1 v2 v3 v4 v5 K0) := by
  intro n
  induction n with
  | zero => intro v1 v2 v3 v4 v5 K0 hK0; exact Det_no
  | succ n ih =>
    intro v1 v2 v3 v4 v5 K0 hK0
    unfold lp_struck_28
    repeat (first | (with_reducible exact Det_rt _) | (with_reducible intro _) | (with_reducible exact hK0 _ _ _ _ _) | (with_reducible exact ih _ _ _ _ _ _ hK0) | (with_reducible exact det_fS _ _ _ _ _ _ _) | (with_reducible exact det_fights _ _) | (with_reducible exact det_matOf _ _ _) | (with_reducible refine Det_clL ?_) | (with_reducible refine Det_clr ?_) | (with_reducible refine Det_li (fun _ => ?_)) | (with_reducible refine Det_rf rfl (fun _ => ?_)) | (with_reducible refine Det_rd rfl (fun _ => ?_)) | (with_reducible refine Det_wf (by decide) ?_) | (with_reducible refine Det_wd ?_) | (with_reducible refine Det_sr (fun _ => ?_)) | (with_reducible refine Det_og ?_) | (with_reducible refine Det_ite ?_ ?_) | (with_reducible refine Det_oi (fun _ => ?_)) | (with_reducible refine Det_ot ?_ (fun _ => ?_)) | (with_reducible refine Det_cl ?_ (fun _ => ?_)))

theorem det_lp_struck_17 (c : Bool) : ∀ (n : Nat) (v1 v2 v3 v4 : Int32) (K0 : Int32 → Int32 → Int32 → Int32 → PG (Int32)), (∀ (v1 v2 v3 v4 : Int32), Det c (K0 v1 v2 v3 v4)) → Det c (lp_struck_17 n v1 v2 v3 v4 K0) := by
  intro n
  induction n with
  | zero => intro v1 v2 v3 v4 K0 hK0; exact Det_no
  | succ n ih =>
    intro v1 v2 v3 v4 K0 hK0
    unfold lp_struck_17
    repeat (first | (with_reducible exact Det_rt _) | (with_reducible intro _) | (with_reducible exact hK0 _ _ _ _) | (with_reducible exact ih _ _ _ _ _ hK0) | (with_reducible refine det_lp_struck_28 _ _ _ _ _ _ _ _ ?_) | (with_reducible exact det_fS _ _ _ _ _ _ _) | (with_reducible exact det_fights _ _) | (with_reducible exact det_matOf _ _ _) | (with_reducible refine Det_clL ?_) | (with_reducible refine Det_clr ?_) | (with_reducible refine Det_li (fun _ => ?_)) | (with_reducible refine Det_rf rfl (fun _ => ?_)) | (with_reducible refine Det_rd rfl (fun _ => ?_)) | (with_reducible refine Det_wf (by decide) ?_) | (with_reducible refine Det_wd ?_) | (with_reducible refine Det_sr (fun _ => ?_)) | (with_reducible refine Det_og ?_) | (with_reducible refine Det_ite ?_ ?_) | (with_reducible refine Det_oi (fun _ => ?_)) | (with_reducible refine Det_ot ?_ (fun _ => ?_)) | (with_reducible refine Det_cl ?_ (fun _ => ?_)))

theorem det_struck (c : Bool) (a0 : Int32) (a1 : Int32) : Det c (f_struck a0 a1) := by
  unfold f_struck
  repeat (first | (with_reducible exact Det_rt _) | (with_reducible intro _) | (with_reducible refine det_lp_struck_28 _ _ _ _ _ _ _ _ ?_) | (with_reducible refine det_lp_struck_17 _ _ _ _ _ _ _ ?_) | (with_reducible exact det_fS _ _ _ _ _ _ _) | (with_reducible exact det_fights _ _) | (with_reducible exact det_matOf _ _ _) | (with_reducible refine Det_clL ?_) | (with_reducible refine Det_clr ?_) | (with_reducible refine Det_li (fun _ => ?_)) | (with_reducible refine Det_rf rfl (fun _ => ?_)) | (with_reducible refine Det_rd rfl (fun _ => ?_)) | (with_reducible refine Det_wf (by decide) ?_) | (with_reducible refine Det_wd ?_) | (with_reducible refine Det_sr (fun _ => ?_)) | (with_reducible refine Det_og ?_) | (with_reducible refine Det_ite ?_ ?_) | (with_reducible refine Det_oi (fun _ => ?_)) | (with_reducible refine Det_ot ?_ (fun _ => ?_)) | (with_reducible refine Det_cl ?_ (fun _ => ?_)))

theorem det_wrong (c : Bool) (a0 : Int32) (a1 : Int32) : Det c (f_wrong a0 a1) := by
  unfold f_wrong
  repeat (first | (with_reducible exact Det_rt _) | (with_reducible intro _) | (with_reducible refine Det_clL ?_) | (with_reducible refine Det_clr ?_) | (with_reducible refine Det_li (fun _ => ?_)) | (with_reducible refine Det_rf rfl (fun _ => ?_)) | (with_reducible refine Det_rd rfl (fun _ => ?_)) | (with_reducible refine Det_wf (by decide) ?_) | (with_reducible refine Det_wd ?_) | (with_reducible refine Det_sr (fun _ => ?_)) | (with_reducible refine Det_og ?_) | (with_reducible refine Det_ite ?_ ?_) | (with_reducible refine Det_oi (fun _ => ?_)) | (with_reducible refine Det_ot ?_ (fun _ => ?_)) | (with_reducible refine Det_cl ?_ (fun _ => ?_)))

theorem det_lp_scan_0 : ∀ (n : Nat) (K0 : PG (Int32)), (∀ (_ : Unit), Det true (K0 )) → Det true (lp_scan_0 n  K0) := by
  intro n
  induction n with
  | zero => intro  K0 hK0; exact Det_no
  | succ n ih =>
    intro  K0 hK0
    unfold lp_scan_0
    repeat (first | (with_reducible exact Det_rt _) | (with_reducible intro _) | (with_reducible exact hK0 ()) | (with_reducible exact ih _ hK0) | (with_reducible exact det_byteAt _) | (with_reducible exact det_isDigit _ _) | (with_reducible exact det_isLetter _ _) | (with_reducible refine Det_clL ?_) | (with_reducible refine Det_clr ?_) | (with_reducible refine Det_li (fun _ => ?_)) | (with_reducible refine Det_rf rfl (fun _ => ?_)) | (with_reducible refine Det_rd rfl (fun _ => ?_)) | (with_reducible refine Det_wf (by decide) ?_) | (with_reducible refine Det_wd ?_) | (with_reducible refine Det_sr (fun _ => ?_)) | (with_reducible refine Det_og ?_) | (with_reducible refine Det_ite ?_ ?_) | (with_reducible refine Det_oi (fun _ => ?_)) | (with_reducible refine Det_ot ?_ (fun _ => ?_)) | (with_reducible refine Det_cl ?_ (fun _ => ?_)))

theorem det_lp_scan_160 : ∀ (n : Nat) (v1 : Int32) (K0 : Int32 → PG (Int32)), (∀ (v1 : Int32), Det true (K0 v1)) → Det true (lp_scan_160 n v1 K0) := by
  intro n
  induction n with
  | zero => intro v1 K0 hK0; exact Det_no
  | succ n ih =>
    intro v1 K0 hK0
    unfold lp_scan_160
    repeat (first | (with_reducible exact Det_rt _) | (with_reducible intro _) | (with_reducible exact hK0 _) | (with_reducible exact ih _ _ hK0) | (with_reducible refine det_lp_scan_0 _ _ ?_) | (with_reducible exact det_byteAt _) | (with_reducible exact det_isDigit _ _) | (with_reducible exact det_isLetter _ _) | (with_reducible refine Det_clL ?_) | (with_reducible refine Det_clr ?_) | (with_reducible refine Det_li (fun _ => ?_)) | (with_reducible refine Det_rf rfl (fun _ => ?_)) | (with_reducible refine Det_rd rfl (fun _ => ?_)) | (with_reducible refine Det_wf (by decide) ?_) | (with_reducible refine Det_wd ?_) | (with_reducible refine Det_sr (fun _ => ?_)) | (with_reducible refine Det_og ?_) | (with_reducible refine Det_ite ?_ ?_) | (with_reducible refine Det_oi (fun _ => ?_)) | (with_reducible refine Det_ot ?_ (fun _ => ?_)) | (with_reducible refine Det_cl ?_ (fun _ => ?_)))

theorem det_lp_scan_95 : ∀ (n : Nat) (v1 : Int32) (K0 : Int32 → PG (Int32)), (∀ (v1 : Int32), Det true (K0 v1)) → Det true (lp_scan_95 n v1 K0) := by
  intro n
  induction n with
  | zero => intro v1 K0 hK0; exact Det_no
  | succ n ih =>
    intro v1 K0 hK0
    unfold lp_scan_95
    repeat (first | (with_reducible exact Det_rt _) | (with_reducible intro _) | (with_reducible exact hK0 _) | (with_reducible exact ih _ _ hK0) | (with_reducible refine det_lp_scan_0 _ _ ?_) | (with_reducible refine det_lp_scan_160 _ _ _ ?_) | (with_reducible exact det_byteAt _) | (with_reducible exact det_isDigit _ _) | (with_reducible exact det_isLetter _ _) | (with_reducible refine Det_clL ?_) | (with_reducible refine Det_clr ?_) | (with_reducible refine Det_li (fun _ => ?_)) | (with_reducible refine Det_rf rfl (fun _ => ?_)) | (with_reducible refine Det_rd rfl (fun _ => ?_)) | (with_reducible refine Det_wf (by decide) ?_) | (with_reducible refine Det_wd ?_) | (with_reducible refine Det_sr (fun _ => ?_)) | (with_reducible refine Det_og ?_) | (with_reducible refine Det_ite ?_ ?_) | (with_reducible refine Det_oi (fun _ => ?_)) | (with_reducible refine Det_ot ?_ (fun _ => ?_)) | (with_reducible refine Det_cl ?_ (fun _ => ?_)))

theorem det_scan : Det true (f_scan) := by
  unfold f_scan
  repeat (first | (with_reducible exact Det_rt _) | (with_reducible intro _) | (with_reducible refine det_lp_scan_0 _ _ ?_) | (with_reducible refine det_lp_scan_160 _ _ _ ?_) | (with_reducible refine det_lp_scan_95 _ _ _ ?_) | (with_reducible exact det_byteAt _) | (with_reducible exact det_isDigit _ _) | (with_reducible exact det_isLetter _ _) | (with_reducible refine Det_clL ?_) | (with_reducible refine Det_clr ?_) | (with_reducible refine Det_li (fun _ => ?_)) | (with_reducible refine Det_rf rfl (fun _ => ?_)) | (with_reducible refine Det_rd rfl (fun _ => ?_)) | (with_reducible refine Det_wf (by decide) ?_) | (with_reducible refine Det_wd ?_) | (with_reducible refine Det_sr (fun _ => ?_)) | (with_reducible refine Det_og ?_) | (with_reducible refine Det_ite ?_ ?_) | (with_reducible refine Det_oi (fun _ => ?_)) | (with_reducible refine Det_ot ?_ (fun _ => ?_)) | (with_reducible refine Det_cl ?_ (fun _ => ?_)))

theorem det_lp_isText_24 (a0 : Nat) : ∀ (n : Nat) (v2 v3 : Int32) (K0 : Int32 → Int32 → PG (Int32)), (∀ (v2 v3 : Int32), Det true (K0 v2 v3)) → Det true (lp_isText_24 a0 n v2 v3 K0) := by
  intro n
  induction n with
  | zero => intro v2 v3 K0 hK0; exact Det_no
  | succ n ih =>
    intro v2 v3 K0 hK0
    unfold lp_isText_24
    repeat (first | (with_reducible exact Det_rt _) | (with_reducible intro _) | (with_reducible exact hK0 _ _) | (with_reducible exact ih _ _ _ hK0) | (with_reducible refine Det_clL ?_) | (with_reducible refine Det_clr ?_) | (with_reducible refine Det_li (fun _ => ?_)) | (with_reducible refine Det_rf rfl (fun _ => ?_)) | (with_reducible refine Det_rd rfl (fun _ => ?_)) | (with_reducible refine Det_wf (by decide) ?_) | (with_reducible refine Det_wd ?_) | (with_reducible refine Det_sr (fun _ => ?_)) | (with_reducible refine Det_og ?_) | (with_reducible refine Det_ite ?_ ?_) | (with_reducible refine Det_oi (fun _ => ?_)) | (with_reducible refine Det_ot ?_ (fun _ => ?_)) | (with_reducible refine Det_cl ?_ (fun _ => ?_)))

theorem det_isText (a0 : Nat) : Det true (f_isText a0) := by
  unfold f_isText
  repeat (first | (with_reducible exact Det_rt _) | (with_reducible intro _) | (with_reducible refine det_lp_isText_24 _ _ _ _ _ ?_) | (with_reducible refine Det_clL ?_) | (with_reducible refine Det_clr ?_) | (with_reducible refine Det_li (fun _ => ?_)) | (with_reducible refine Det_rf rfl (fun _ => ?_)) | (with_reducible refine Det_rd rfl (fun _ => ?_)) | (with_reducible refine Det_wf (by decide) ?_) | (with_reducible refine Det_wd ?_) | (with_reducible refine Det_sr (fun _ => ?_)) | (with_reducible refine Det_og ?_) | (with_reducible refine Det_ite ?_ ?_) | (with_reducible refine Det_oi (fun _ => ?_)) | (with_reducible refine Det_ot ?_ (fun _ => ?_)) | (with_reducible refine Det_cl ?_ (fun _ => ?_)))

theorem det_is (a0 : Nat) : Det true (f_is a0) := by
  unfold f_is
  repeat (first | (with_reducible exact Det_rt _) | (with_reducible intro _) | (with_reducible exact det_isText _) | (with_reducible refine Det_clL ?_) | (with_reducible refine Det_clr ?_) | (with_reducible refine Det_li (fun _ => ?_)) | (with_reducible refine Det_rf rfl (fun _ => ?_)) | (with_reducible refine Det_rd rfl (fun _ => ?_)) | (with_reducible refine Det_wf (by decide) ?_) | (with_reducible refine Det_wd ?_) | (with_reducible refine Det_sr (fun _ => ?_)) | (with_reducible refine Det_og ?_) | (with_reducible refine Det_ite ?_ ?_) | (with_reducible refine Det_oi (fun _ => ?_)) | (with_reducible refine Det_ot ?_ (fun _ => ?_)) | (with_reducible refine Det_cl ?_ (fun _ => ?_)))

theorem det_need (a0 : Nat) : Det true (f_need a0) := by
  unfold f_need
  repeat (first | (with_reducible exact Det_rt _) | (with_reducible intro _) | (with_reducible exact det_is _) | (with_reducible exact det_scan) | (with_reducible exact det_wrong _ _ _) | (with_reducible refine Det_clL ?_) | (with_reducible refine Det_clr ?_) | (with_reducible refine Det_li (fun _ => ?_)) | (with_reducible refine Det_rf rfl (fun _ => ?_)) | (with_reducible refine Det_rd rfl (fun _ => ?_)) | (with_reducible refine Det_wf (by decide) ?_) | (with_reducible refine Det_wd ?_) | (with_reducible refine Det_sr (fun _ => ?_)) | (with_reducible refine Det_og ?_) | (with_reducible refine Det_ite ?_ ?_) | (with_reducible refine Det_oi (fun _ => ?_)) | (with_reducible refine Det_ot ?_ (fun _ => ?_)) | (with_reducible refine Det_cl ?_ (fun _ => ?_)))

theorem det_number : Det true (f_number) := by
  unfold f_number
  repeat (first | (with_reducible exact Det_rt _) | (with_reducible intro _) | (with_reducible exact det_scan) | (with_reducible exact det_wrong _ _ _) | (with_reducible refine Det_clL ?_) | (with_reducible refine Det_clr ?_) | (with_reducible refine Det_li (fun _ => ?_)) | (with_reducible refine Det_rf rfl (fun _ => ?_)) | (with_reducible refine Det_rd rfl (fun _ => ?_)) | (with_reducible refine Det_wf (by decide) ?_) | (with_reducible refine Det_wd ?_) | (with_reducible refine Det_sr (fun _ => ?_)) | (with_reducible refine Det_og ?_) | (with_reducible refine Det_ite ?_ ?_) | (with_reducible refine Det_oi (fun _ => ?_)) | (with_reducible refine Det_ot ?_ (fun _ => ?_)) | (with_reducible refine Det_cl ?_ (fun _ => ?_)))

theorem det_isQuoted : Det true (f_isQuoted) := by
  unfold f_isQuoted
  repeat (first | (with_reducible exact Det_rt _) | (with_reducible intro _) | (with_reducible exact det_is _) | (with_reducible refine Det_clL ?_) | (with_reducible refine Det_clr ?_) | (with_reducible refine Det_li (fun _ => ?_)) | (with_reducible refine Det_rf rfl (fun _ => ?_)) | (with_reducible refine Det_rd rfl (fun _ => ?_)) | (with_reducible refine Det_wf (by decide) ?_) | (with_reducible refine Det_wd ?_) | (with_reducible refine Det_sr (fun _ => ?_)) | (with_reducible refine Det_og ?_) | (with_reducible refine Det_ite ?_ ?_) | (with_reducible refine Det_oi (fun _ => ?_)) | (with_reducible refine Det_ot ?_ (fun _ => ?_)) | (with_reducible refine Det_cl ?_ (fun _ => ?_)))

theorem det_lp_findSign_36 : ∀ (n : Nat) (v1 v2 v3 : Int32) (K0 : Int32 → Int32 → Int32 → PG (Int32)), (∀ (v1 v2 v3 : Int32), Det true (K0 v1 v2 v3)) → Det true (lp_findSign_36 n v1 v2 v3 K0) := by
  intro n
  induction n with
  | zero => intro v1 v2 v3 K0 hK0; exact Det_no
  | succ n ih =>
    intro v1 v2 v3 K0 hK0
    unfold lp_findSign_36
    repeat (first | (with_reducible exact Det_rt _) | (with_reducible intro _) | (with_reducible exact hK0 _ _ _) | (with_reducible exact ih _ _ _ _ hK0) | (with_reducible refine Det_clL ?_) | (with_reducible refine Det_clr ?_) | (with_reducible refine Det_li (fun _ => ?_)) | (with_reducible refine Det_rf rfl (fun _ => ?_)) | (with_reducible refine Det_rd rfl (fun _ => ?_)) | (with_reducible refine Det_wf (by decide) ?_) | (with_reducible refine Det_wd ?_) | (with_reducible refine Det_sr (fun _ => ?_)) | (with_reducible refine Det_og ?_) | (with_reducible refine Det_ite ?_ ?_) | (with_reducible refine Det_oi (fun _ => ?_)) | (with_reducible refine Det_ot ?_ (fun _ => ?_)) | (with_reducible refine Det_cl ?_ (fun _ => ?_)))

theorem det_lp_findSign_2 : ∀ (n : Nat) (v1 : Int32) (K0 : Int32 → PG (Int32)), (∀ (v1 : Int32), Det true (K0 v1)) → Det true (lp_findSign_2 n v1 K0) := by
  intro n
  induction n with
  | zero => intro v1 K0 hK0; exact Det_no
  | succ n ih =>
    intro v1 K0 hK0
    unfold lp_findSign_2
    repeat (first | (with_reducible exact Det_rt _) | (with_reducible intro _) | (with_reducible exact hK0 _) | (with_reducible exact ih _ _ hK0) | (with_reducible refine det_lp_findSign_36 _ _ _ _ _ ?_) | (with_reducible refine Det_clL ?_) | (with_reducible refine Det_clr ?_) | (with_reducible refine Det_li (fun _ => ?_)) | (with_reducible refine Det_rf rfl (fun _ => ?_)) | (with_reducible refine Det_rd rfl (fun _ => ?_)) | (with_reducible refine Det_wf (by decide) ?_) | (with_reducible refine Det_wd ?_) | (with_reducible refine Det_sr (fun _ => ?_)) | (with_reducible refine Det_og ?_) | (with_reducible refine Det_ite ?_ ?_) | (with_reducible refine Det_oi (fun _ => ?_)) | (with_reducible refine Det_ot ?_ (fun _ => ?_)) | (with_reducible refine Det_cl ?_ (fun _ => ?_)))

theorem det_findSign : Det true (f_findSign) := by
  unfold f_findSign
  repeat (first | (with_reducible exact Det_rt _) | (with_reducible intro _) | (with_reducible refine det_lp_findSign_36 _ _ _ _ _ ?_) | (with_reducible refine det_lp_findSign_2 _ _ _ ?_) | (with_reducible refine Det_clL ?_) | (with_reducible refine Det_clr ?_) | (with_reducible refine Det_li (fun _ => ?_)) | (with_reducible refine Det_rf rfl (fun _ => ?_)) | (with_reducible refine Det_rd rfl (fun _ => ?_)) | (with_reducible refine Det_wf (by decide) ?_) | (with_reducible refine Det_wd ?_) | (with_reducible refine Det_sr (fun _ => ?_)) | (with_reducible refine Det_og ?_) | (with_reducible refine Det_ite ?_ ?_) | (with_reducible refine Det_oi (fun _ => ?_)) | (with_reducible refine Det_ot ?_ (fun _ => ?_)) | (with_reducible refine Det_cl ?_ (fun _ => ?_)))

theorem det_name : Det true (f_name) := by
  unfold f_name
  repeat (first | (with_reducible exact Det_rt _) | (with_reducible intro _) | (with_reducible exact det_isQuoted) | (with_reducible exact det_wrong _ _ _) | (with_reducible refine Det_clL ?_) | (with_reducible refine Det_clr ?_) | (with_reducible refine Det_li (fun _ => ?_)) | (with_reducible refine Det_rf rfl (fun _ => ?_)) | (with_reducible refine Det_rd rfl (fun _ => ?_)) | (with_reducible refine Det_wf (by decide) ?_) | (with_reducible refine Det_wd ?_) | (with_reducible refine Det_sr (fun _ => ?_)) | (with_reducible refine Det_og ?_) | (with_reducible refine Det_ite ?_ ?_) | (with_reducible refine Det_oi (fun _ => ?_)) | (with_reducible refine Det_ot ?_ (fun _ => ?_)) | (with_reducible refine Det_cl ?_ (fun _ => ?_)))

theorem det_counts (c : Bool) : Det c (f_counts) := by
  unfold f_counts
  repeat (first | (with_reducible exact Det_rt _) | (with_reducible intro _) | (with_reducible exact det_wrong _ _ _) | (with_reducible refine Det_clL ?_) | (with_reducible refine Det_clr ?_) | (with_reducible refine Det_li (fun _ => ?_)) | (with_reducible refine Det_rf rfl (fun _ => ?_)) | (with_reducible refine Det_rd rfl (fun _ => ?_)) | (with_reducible refine Det_wf (by decide) ?_) | (with_reducible refine Det_wd ?_) | (with_reducible refine Det_sr (fun _ => ?_)) | (with_reducible refine Det_og ?_) | (with_reducible refine Det_ite ?_ ?_) | (with_reducible refine Det_oi (fun _ => ?_)) | (with_reducible refine Det_ot ?_ (fun _ => ?_)) | (with_reducible refine Det_cl ?_ (fun _ => ?_)))

theorem det_hold (c : Bool) : Det c (f_hold) := by
  unfold f_hold
  repeat (first | (with_reducible exact Det_rt _) | (with_reducible intro _) | (with_reducible exact det_counts _) | (with_reducible refine Det_clL ?_) | (with_reducible refine Det_clr ?_) | (with_reducible refine Det_li (fun _ => ?_)) | (with_reducible refine Det_rf rfl (fun _ => ?_)) | (with_reducible refine Det_rd rfl (fun _ => ?_)) | (with_reducible refine Det_wf (by decide) ?_) | (with_reducible refine Det_wd ?_) | (with_reducible refine Det_sr (fun _ => ?_)) | (with_reducible refine Det_og ?_) | (with_reducible refine Det_ite ?_ ?_) | (with_reducible refine Det_oi (fun _ => ?_)) | (with_reducible refine Det_ot ?_ (fun _ => ?_)) | (with_reducible refine Det_cl ?_ (fun _ => ?_)))

theorem det_opens : Det true (f_opens) := by
  unfold f_opens
  repeat (first | (with_reducible exact Det_rt _) | (with_reducible intro _) | (with_reducible exact det_scan) | (with_reducible exact det_wrong _ _ _) | (with_reducible refine Det_clL ?_) | (with_reducible refine Det_clr ?_) | (with_reducible refine Det_li (fun _ => ?_)) | (with_reducible refine Det_rf rfl (fun _ => ?_)) | (with_reducible refine Det_rd rfl (fun _ => ?_)) | (with_reducible refine Det_wf (by decide) ?_) | (with_reducible refine Det_wd ?_) | (with_reducible refine Det_sr (fun _ => ?_)) | (with_reducible refine Det_og ?_) | (with_reducible refine Det_ite ?_ ?_) | (with_reducible refine Det_oi (fun _ => ?_)) | (with_reducible refine Det_ot ?_ (fun _ => ?_)) | (with_reducible refine Det_cl ?_ (fun _ => ?_)))

theorem det_readTerm : Det true (f_readTerm) := by
  unfold f_readTerm
  repeat (first | (with_reducible exact Det_rt _) | (with_reducible intro _) | (with_reducible exact det_counts _) | (with_reducible exact det_findSign) | (with_reducible exact det_is _) | (with_reducible exact det_name) | (with_reducible exact det_put _ _ _) | (with_reducible exact det_scan) | (with_reducible exact det_wrong _ _ _) | (with_reducible refine Det_clL ?_) | (with_reducible refine Det_clr ?_) | (with_reducible refine Det_li (fun _ => ?_)) | (with_reducible refine Det_rf rfl (fun _ => ?_)) | (with_reducible refine Det_rd rfl (fun _ => ?_)) | (with_reducible refine Det_wf (by decide) ?_) | (with_reducible refine Det_wd ?_) | (with_reducible refine Det_sr (fun _ => ?_)) | (with_reducible refine Det_og ?_) | (with_reducible refine Det_ite ?_ ?_) | (with_reducible refine Det_oi (fun _ => ?_)) | (with_reducible refine Det_ot ?_ (fun _ => ?_)) | (with_reducible refine Det_cl ?_ (fun _ => ?_)))

theorem det_lp_readSum_4 : ∀ (n : Nat) (K0 : PG (Option Int32)), (∀ (_ : Unit), Det true (K0 )) → Det true (lp_readSum_4 n  K0) := by
  intro n
  induction n with
  | zero => intro  K0 hK0; exact Det_no
  | succ n ih =>
    intro  K0 hK0
    unfold lp_readSum_4
    repeat (first | (with_reducible exact Det_rt _) | (with_reducible intro _) | (with_reducible exact hK0 ()) | (with_reducible exact ih _ hK0) | (with_reducible exact det_hold _) | (with_reducible exact det_is _) | (with_reducible exact det_readTerm) | (with_reducible exact det_release _ _) | (with_reducible exact det_scan) | (with_reducible refine Det_clL ?_) | (with_reducible refine Det_clr ?_) | (with_reducible refine Det_li (fun _ => ?_)) | (with_reducible refine Det_rf rfl (fun _ => ?_)) | (with_reducible refine Det_rd rfl (fun _ => ?_)) | (with_reducible refine Det_wf (by decide) ?_) | (with_reducible refine Det_wd ?_) | (with_reducible refine Det_sr (fun _ => ?_)) | (with_reducible refine Det_og ?_) | (with_reducible refine Det_ite ?_ ?_) | (with_reducible refine Det_oi (fun _ => ?_)) | (with_reducible refine Det_ot ?_ (fun _ => ?_)) | (with_reducible refine Det_cl ?_ (fun _ => ?_)))

theorem det_readSum : Det true (f_readSum) := by
  unfold f_readSum
  repeat (first | (with_reducible exact Det_rt _) | (with_reducible intro _) | (with_reducible refine det_lp_readSum_4 _ _ ?_) | (with_reducible exact det_hold _) | (with_reducible exact det_is _) | (with_reducible exact det_readTerm) | (with_reducible exact det_release _ _) | (with_reducible exact det_scan) | (with_reducible refine Det_clL ?_) | (with_reducible refine Det_clr ?_) | (with_reducible refine Det_li (fun _ => ?_)) | (with_reducible refine Det_rf rfl (fun _ => ?_)) | (with_reducible refine Det_rd rfl (fun _ => ?_)) | (with_reducible refine Det_wf (by decide) ?_) | (with_reducible refine Det_wd ?_) | (with_reducible refine Det_sr (fun _ => ?_)) | (with_reducible refine Det_og ?_) | (with_reducible refine Det_ite ?_ ?_) | (with_reducible refine Det_oi (fun _ => ?_)) | (with_reducible refine Det_ot ?_ (fun _ => ?_)) | (with_reducible refine Det_cl ?_ (fun _ => ?_)))

theorem det_lp_readOr_4 (F : Nat → Int32 → Int32 → Int32 → Int32 → PG (Option Int32)) (hFd : ∀ w a b d e, Det true (F w a b d e)) : ∀ (n : Nat) (K0 : PG (Option Int32)), (∀ (_ : Unit), Det true (K0 )) → Det true (lp_readOr_4 F n  K0) := by
  intro n
  induction n with
  | zero => intro  K0 hK0; exact Det_no
  | succ n ih =>
    intro  K0 hK0
    unfold lp_readOr_4
    repeat (first | (with_reducible exact Det_rt _) | (with_reducible intro _) | (with_reducible exact hK0 ()) | (with_reducible exact ih _ hK0) | (with_reducible exact det_hold _) | (with_reducible exact det_is _) | (with_reducible exact det_release _ _) | (with_reducible exact det_scan) | (with_reducible exact hFd _ _ _ _ _) | (with_reducible refine Det_clL ?_) | (with_reducible refine Det_clr ?_) | (with_reducible refine Det_li (fun _ => ?_)) | (with_reducible refine Det_rf rfl (fun _ => ?_)) | (with_reducible refine Det_rd rfl (fun _ => ?_)) | (with_reducible refine Det_wf (by decide) ?_) | (with_reducible refine Det_wd ?_) | (with_reducible refine Det_sr (fun _ => ?_)) | (with_reducible refine Det_og ?_) | (with_reducible refine Det_ite ?_ ?_) | (with_reducible refine Det_oi (fun _ => ?_)) | (with_reducible refine Det_ot ?_ (fun _ => ?_)) | (with_reducible refine Det_cl ?_ (fun _ => ?_)))

theorem det_bd_readOr (F : Nat → Int32 → Int32 → Int32 → Int32 → PG (Option Int32)) (hFd : ∀ w a b d e, Det true (F w a b d e)) : Det true (bd_readOr F) := by
  unfold bd_readOr
  repeat (first | (with_reducible exact Det_rt _) | (with_reducible intro _) | (with_reducible refine det_lp_readOr_4 F hFd _ _ ?_) | (with_reducible exact det_hold _) | (with_reducible exact det_is _) | (with_reducible exact det_release _ _) | (with_reducible exact det_scan) | (with_reducible exact hFd _ _ _ _ _) | (with_reducible refine Det_clL ?_) | (with_reducible refine Det_clr ?_) | (with_reducible refine Det_li (fun _ => ?_)) | (with_reducible refine Det_rf rfl (fun _ => ?_)) | (with_reducible refine Det_rd rfl (fun _ => ?_)) | (with_reducible refine Det_wf (by decide) ?_) | (with_reducible refine Det_wd ?_) | (with_reducible refine Det_sr (fun _ => ?_)) | (with_reducible refine Det_og ?_) | (with_reducible refine Det_ite ?_ ?_) | (with_reducible refine Det_oi (fun _ => ?_)) | (with_reducible refine Det_ot ?_ (fun _ => ?_)) | (with_reducible refine Det_cl ?_ (fun _ => ?_)))

theorem det_lp_readAnd_4 (F : Nat → Int32 → Int32 → Int32 → Int32 → PG (Option Int32)) (hFd : ∀ w a b d e, Det true (F w a b d e)) : ∀ (n : Nat) (K0 : PG (Option Int32)), (∀ (_ : Unit), Det true (K0 )) → Det true (lp_readAnd_4 F n  K0) := by
  intro n
  induction n with
  | zero => intro  K0 hK0; exact Det_no
  | succ n ih =>
    intro  K0 hK0
    unfold lp_readAnd_4
    repeat (first | (with_reducible exact Det_rt _) | (with_reducible intro _) | (with_reducible exact hK0 ()) | (with_reducible exact ih _ hK0) | (with_reducible exact det_hold _) | (with_reducible exact det_is _) | (with_reducible exact det_release _ _) | (with_reducible exact det_scan) | (with_reducible exact hFd _ _ _ _ _) | (with_reducible refine Det_clL ?_) | (with_reducible refine Det_clr ?_) | (with_reducible refine Det_li (fun _ => ?_)) | (with_reducible refine Det_rf rfl (fun _ => ?_)) | (with_reducible refine Det_rd rfl (fun _ => ?_)) | (with_reducible refine Det_wf (by decide) ?_) | (with_reducible refine Det_wd ?_) | (with_reducible refine Det_sr (fun _ => ?_)) | (with_reducible refine Det_og ?_) | (with_reducible refine Det_ite ?_ ?_) | (with_reducible refine Det_oi (fun _ => ?_)) | (with_reducible refine Det_ot ?_ (fun _ => ?_)) | (with_reducible refine Det_cl ?_ (fun _ => ?_)))

theorem det_bd_readAnd (F : Nat → Int32 → Int32 → Int32 → Int32 → PG (Option Int32)) (hFd : ∀ w a b d e, Det true (F w a b d e)) : Det true (bd_readAnd F) := by
  unfold bd_readAnd
  repeat (first | (with_reducible exact Det_rt _) | (with_reducible intro _) | (with_reducible refine det_lp_readAnd_4 F hFd _ _ ?_) | (with_reducible exact det_hold _) | (with_reducible exact det_is _) | (with_reducible exact det_release _ _) | (with_reducible exact det_scan) | (with_reducible exact hFd _ _ _ _ _) | (with_reducible refine Det_clL ?_) | (with_reducible refine Det_clr ?_) | (with_reducible refine Det_li (fun _ => ?_)) | (with_reducible refine Det_rf rfl (fun _ => ?_)) | (with_reducible refine Det_rd rfl (fun _ => ?_)) | (with_reducible refine Det_wf (by decide) ?_) | (with_reducible refine Det_wd ?_) | (with_reducible refine Det_sr (fun _ => ?_)) | (with_reducible refine Det_og ?_) | (with_reducible refine Det_ite ?_ ?_) | (with_reducible refine Det_oi (fun _ => ?_)) | (with_reducible refine Det_ot ?_ (fun _ => ?_)) | (with_reducible refine Det_cl ?_ (fun _ => ?_)))

theorem det_bd_readNot (F : Nat → Int32 → Int32 → Int32 → Int32 → PG (Option Int32)) (hFd : ∀ w a b d e, Det true (F w a b d e)) : Det true (bd_readNot F) := by
  unfold bd_readNot
  repeat (first | (with_reducible exact Det_rt _) | (with_reducible intro _) | (with_reducible exact det_counts _) | (with_reducible exact det_hold _) | (with_reducible exact det_is _) | (with_reducible exact det_need _) | (with_reducible exact det_opens) | (with_reducible exact det_put _ _ _) | (with_reducible exact det_readSum) | (with_reducible exact det_release _ _) | (with_reducible exact det_scan) | (with_reducible exact det_wrong _ _ _) | (with_reducible exact hFd _ _ _ _ _) | (with_reducible refine Det_clL ?_) | (with_reducible refine Det_clr ?_) | (with_reducible refine Det_li (fun _ => ?_)) | (with_reducible refine Det_rf rfl (fun _ => ?_)) | (with_reducible refine Det_rd rfl (fun _ => ?_)) | (with_reducible refine Det_wf (by decide) ?_) | (with_reducible refine Det_wd ?_) | (with_reducible refine Det_sr (fun _ => ?_)) | (with_reducible refine Det_og ?_) | (with_reducible refine Det_ite ?_ ?_) | (with_reducible refine Det_oi (fun _ => ?_)) | (with_reducible refine Det_ot ?_ (fun _ => ?_)) | (with_reducible refine Det_cl ?_ (fun _ => ?_)))

theorem det_fP : ∀ (d w : Nat) (a0 a1 a2 a3 : Int32), Det true (fP d w a0 a1 a2 a3) := by
  intro d
  induction d with
  | zero => intro w a0 a1 a2 a3; exact Det_no
  | succ d ih =>
    intro w a0 a1 a2 a3
    unfold fP
    repeat (first | (with_reducible refine Det_ite ?_ ?_) | (with_reducible exact det_bd_readOr _ ih) | (with_reducible exact det_bd_readAnd _ ih) | (with_reducible exact det_bd_readNot _ ih))

theorem det_lp_readLaws_148 : ∀ (n : Nat) (v1 : Int32) (K0 : Int32 → PG (Option Int32)), (∀ (v1 : Int32), Det true (K0 v1)) → Det true (lp_readLaws_148 n v1 K0) := by
  intro n
  induction n with
  | zero => intro v1 K0 hK0; exact Det_no
  | succ n ih =>
    intro v1 K0 hK0
    unfold lp_readLaws_148
    repeat (first | (with_reducible exact Det_rt _) | (with_reducible intro _) | (with_reducible exact hK0 _) | (with_reducible exact ih _ _ hK0) | (with_reducible exact det_fP _ _ _ _ _ _) | (with_reducible exact det_findSign) | (with_reducible exact det_is _) | (with_reducible exact det_name) | (with_reducible exact det_need _) | (with_reducible exact det_number) | (with_reducible exact det_scan) | (with_reducible exact det_wrong _ _ _) | (with_reducible refine Det_clL ?_) | (with_reducible refine Det_clr ?_) | (with_reducible refine Det_li (fun _ => ?_)) | (with_reducible refine Det_rf rfl (fun _ => ?_)) | (with_reducible refine Det_rd rfl (fun _ => ?_)) | (with_reducible refine Det_wf (by decide) ?_) | (with_reducible refine Det_wd ?_) | (with_reducible refine Det_sr (fun _ => ?_)) | (with_reducible refine Det_og ?_) | (with_reducible refine Det_ite ?_ ?_) | (with_reducible refine Det_oi (fun _ => ?_)) | (with_reducible refine Det_ot ?_ (fun _ => ?_)) | (with_reducible refine Det_cl ?_ (fun _ => ?_)))

theorem det_lp_readLaws_73 : ∀ (n : Nat) (K0 : PG (Option Int32)), (∀ (_ : Unit), Det true (K0 )) → Det true (lp_readLaws_73 n  K0) := by
  intro n
  induction n with
  | zero => intro  K0 hK0; exact Det_no
  | succ n ih =>
    intro  K0 hK0
    unfold lp_readLaws_73
    repeat (first | (with_reducible exact Det_rt _) | (with_reducible intro _) | (with_reducible exact hK0 ()) | (with_reducible exact ih _ hK0) | (with_reducible refine det_lp_readLaws_148 _ _ _ ?_) | (with_reducible exact det_fP _ _ _ _ _ _) | (with_reducible exact det_findSign) | (with_reducible exact det_is _) | (with_reducible exact det_name) | (with_reducible exact det_need _) | (with_reducible exact det_number) | (with_reducible exact det_scan) | (with_reducible exact det_wrong _ _ _) | (with_reducible refine Det_clL ?_) | (with_reducible refine Det_clr ?_) | (with_reducible refine Det_li (fun _ => ?_)) | (with_reducible refine Det_rf rfl (fun _ => ?_)) | (with_reducible refine Det_rd rfl (fun _ => ?_)) | (with_reducible refine Det_wf (by decide) ?_) | (with_reducible refine Det_wd ?_) | (with_reducible refine Det_sr (fun _ => ?_)) | (with_reducible refine Det_og ?_) | (with_reducible refine Det_ite ?_ ?_) | (with_reducible refine Det_oi (fun _ => ?_)) | (with_reducible refine Det_ot ?_ (fun _ => ?_)) | (with_reducible refine Det_cl ?_ (fun _ => ?_)))

theorem det_lp_readLaws_223 : ∀ (n : Nat) (K0 : PG (Option Int32)), (∀ (_ : Unit), Det true (K0 )) → Det true (lp_readLaws_223 n  K0) := by
  intro n
  induction n with
  | zero => intro  K0 hK0; exact Det_no
  | succ n ih =>
    intro  K0 hK0
    unfold lp_readLaws_223
    repeat (first | (with_reducible exact Det_rt _) | (with_reducible intro _) | (with_reducible exact hK0 ()) | (with_reducible exact ih _ hK0) | (with_reducible refine det_lp_readLaws_148 _ _ _ ?_) | (with_reducible refine det_lp_readLaws_73 _ _ ?_) | (with_reducible exact det_fP _ _ _ _ _ _) | (with_reducible exact det_findSign) | (with_reducible exact det_is _) | (with_reducible exact det_name) | (with_reducible exact det_need _) | (with_reducible exact det_number) | (with_reducible exact det_scan) | (with_reducible exact det_wrong _ _ _) | (with_reducible refine Det_clL ?_) | (with_reducible refine Det_clr ?_) | (with_reducible refine Det_li (fun _ => ?_)) | (with_reducible refine Det_rf rfl (fun _ => ?_)) | (with_reducible refine Det_rd rfl (fun _ => ?_)) | (with_reducible refine Det_wf (by decide) ?_) | (with_reducible refine Det_wd ?_) | (with_reducible refine Det_sr (fun _ => ?_)) | (with_reducible refine Det_og ?_) | (with_reducible refine Det_ite ?_ ?_) | (with_reducible refine Det_oi (fun _ => ?_)) | (with_reducible refine Det_ot ?_ (fun _ => ?_)) | (with_reducible refine Det_cl ?_ (fun _ => ?_)))

theorem det_readLaws : Det true (f_readLaws) := by
  unfold f_readLaws
  repeat (first | (with_reducible exact Det_rt _) | (with_reducible intro _) | (with_reducible refine det_lp_readLaws_148 _ _ _ ?_) | (with_reducible refine det_lp_readLaws_73 _ _ ?_) | (with_reducible refine det_lp_readLaws_223 _ _ ?_) | (with_reducible exact det_fP _ _ _ _ _ _) | (with_reducible exact det_findSign) | (with_reducible exact det_is _) | (with_reducible exact det_name) | (with_reducible exact det_need _) | (with_reducible exact det_number) | (with_reducible exact det_scan) | (with_reducible exact det_wrong _ _ _) | (with_reducible refine Det_clL ?_) | (with_reducible refine Det_clr ?_) | (with_reducible refine Det_li (fun _ => ?_)) | (with_reducible refine Det_rf rfl (fun _ => ?_)) | (with_reducible refine Det_rd rfl (fun _ => ?_)) | (with_reducible refine Det_wf (by decide) ?_) | (with_reducible refine Det_wd ?_) | (with_reducible refine Det_sr (fun _ => ?_)) | (with_reducible refine Det_og ?_) | (with_reducible refine Det_ite ?_ ?_) | (with_reducible refine Det_oi (fun _ => ?_)) | (with_reducible refine Det_ot ?_ (fun _ => ?_)) | (with_reducible refine Det_cl ?_ (fun _ => ?_)))

theorem det_lp_takeLaws_2 (c : Bool) : ∀ (n : Nat) (v1 v2 v3 : Int32) (K0 : Int32 → Int32 → Int32 → PG (Int32)), (∀ (v1 v2 v3 : Int32), Det c (K0 v1 v2 v3)) → Det c (lp_takeLaws_2 n v1 v2 v3 K0) := by
  intro n
  induction n with
  | zero => intro v1 v2 v3 K0 hK0; exact Det_no
  | succ n ih =>
    intro v1 v2 v3 K0 hK0
    unfold lp_takeLaws_2
    repeat (first | (with_reducible exact Det_rt _) | (with_reducible intro _) | (with_reducible exact hK0 _ _ _) | (with_reducible exact ih _ _ _ _ hK0) | (with_reducible exact det_readLaws) | (with_reducible refine Det_clL ?_) | (with_reducible refine Det_clr ?_) | (with_reducible refine Det_li (fun _ => ?_)) | (with_reducible refine Det_rf rfl (fun _ => ?_)) | (with_reducible refine Det_rd rfl (fun _ => ?_)) | (with_reducible refine Det_wf (by decide) ?_) | (with_reducible refine Det_wd ?_) | (with_reducible refine Det_sr (fun _ => ?_)) | (with_reducible refine Det_og ?_) | (with_reducible refine Det_ite ?_ ?_) | (with_reducible refine Det_oi (fun _ => ?_)) | (with_reducible refine Det_ot ?_ (fun _ => ?_)) | (with_reducible refine Det_cl ?_ (fun _ => ?_)))

theorem det_takeLaws (a0 a1 : Int32) : Det false (f_takeLaws a0 a1) := by
  unfold f_takeLaws
  refine det_lp_takeLaws_2 false _ _ _ _ _ (fun _ _ _ => ?_)
  refine Det_src ?_
  refine Det_wf (by decide) ?_
  refine Det_u2 (fun x y x2 y2 => ?_)
  refine Det2_cl det_readLaws (fun o => ?_)
  refine D2_ot ?_ (fun _ => ?_)
  · refine D2_wt (by decide) (D2_wu (by decide) (by decide) (D2_wu (by decide) (by decide) (D2_of ?_)))
    exact Det_rf rfl (fun _ => Det_rt _)
  · refine D2_wu (by decide) (by decide) (D2_wu (by decide) (by decide) (D2_of ?_))
    exact Det_rf rfl (fun _ => Det_rt _)

theorem det_does (a0 : Int32) (a1 : Int32) (a2 : Int32) (a3 : Int32) : Det false (f_does a0 a1 a2 a3) := by
  unfold f_does
  repeat (first | (with_reducible exact Det_rt _) | (with_reducible intro _) | (with_reducible exact det_asked _ _ _) | (with_reducible exact det_begins _ _ _ _) | (with_reducible exact det_comes _ _ _) | (with_reducible exact det_draws _ _) | (with_reducible exact det_ends _ _ _ _ _) | (with_reducible exact det_in _ _ _ _) | (with_reducible exact det_passes _ _ _) | (with_reducible exact det_struck _ _ _) | (with_reducible exact det_takeLaws _ _) | (with_reducible refine Det_clL ?_) | (with_reducible refine Det_clr ?_) | (with_reducible refine Det_li (fun _ => ?_)) | (with_reducible refine Det_rf rfl (fun _ => ?_)) | (with_reducible refine Det_rd rfl (fun _ => ?_)) | (with_reducible refine Det_wf (by decide) ?_) | (with_reducible refine Det_wd ?_) | (with_reducible refine Det_sr (fun _ => ?_)) | (with_reducible refine Det_og ?_) | (with_reducible refine Det_ite ?_ ?_) | (with_reducible refine Det_oi (fun _ => ?_)) | (with_reducible refine Det_ot ?_ (fun _ => ?_)) | (with_reducible refine Det_cl ?_ (fun _ => ?_)))

