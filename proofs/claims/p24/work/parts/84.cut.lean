theorem wD_nd {A : Nat → Prop} {ws : va_W} (h : va_D A ws) : (ws.map (fun q => q.1)).Nodup := by
  rw [List.Nodup, List.pairwise_iff_getElem]
  intro i j hi hj hij e
  rw [List.length_map] at hi hj
  rw [List.getElem_map, List.getElem_map] at e
  have := h.1 i j _ _ (List.getElem?_eq_getElem hi) (List.getElem?_eq_getElem hj) e
  omega
theorem wD_of {A : Nat → Prop} {ws : va_W} (h1 : (ws.map (fun q => q.1)).Nodup) (h2 : ∀ q ∈ ws, A q.1) : va_D A ws := by
  refine ⟨fun i j p q hi hj e => ?_, fun k q hk => h2 q (List.mem_of_getElem? hk)⟩
  rw [List.Nodup, List.pairwise_iff_getElem] at h1
  obtain ⟨hi1, hi2⟩ := List.getElem?_eq_some_iff.mp hi
  obtain ⟨hj1, hj2⟩ := List.getElem?_eq_some_iff.mp hj
  rcases Nat.lt_trichotomy i j with z | z | z
  · exact absurd (by rw [List.getElem_map, List.getElem_map, hi2, hj2]; exact e) (h1 i j (by rw [List.length_map]; exact hi1) (by rw [List.length_map]; exact hj1) z)
  · exact z
  · exact absurd (by rw [List.getElem_map, List.getElem_map, hi2, hj2]; exact e.symm) (h1 j i (by rw [List.length_map]; exact hj1) (by rw [List.length_map]; exact hi1) z)
theorem wP_mem {D : va_G} {cl : List vw_C} {ws : va_W} {H : Heap} (h : va_P D cl ws H) {x : Nat × va_E} (hx : x ∈ ws) : va_at D cl x H := by
  obtain ⟨k, hk⟩ := List.mem_iff_getElem?.mp hx
  exact h k x hk
theorem wP_of {D : va_G} {cl : List vw_C} {ws ws' : va_W} {H : Heap} (h : va_P D cl ws H) (hp : ∀ x ∈ ws', x ∈ ws) : va_P D cl ws' H := fun _ x hk => wP_mem h (hp x (List.mem_of_getElem? hk))
theorem wD_perm {A : Nat → Prop} {ws ws' : va_W} (h : va_D A ws) (hp : ws'.Perm ws) : va_D A ws' :=
  wD_of ((hp.map _).nodup_iff.mpr (wD_nd h)) (fun q hq => by
    obtain ⟨k, hk⟩ := List.mem_iff_getElem?.mp (hp.mem_iff.mp hq)
    exact h.2 k q hk)
theorem wA_mem {ws : va_W} {sz a : Nat} (h : va_A ws sz a) : (∃ e : va_E, (a, e) ∈ ws) ∨ sz ≤ a := h.elim (fun ⟨_, e, hk⟩ => Or.inl ⟨e, List.mem_of_getElem? hk⟩) Or.inr
theorem wD_apart {A : Nat → Prop} {w1 w2 : va_W} (h : va_D A (w1 ++ w2)) {a : Nat} {e e2 : va_E} (h1 : (a, e) ∈ w1) (h2 : (a, e2) ∈ w2) : False := by
  have h3 := wD_nd h
  rw [List.map_append, List.nodup_append] at h3
  exact h3.2.2 a (List.mem_map.mpr ⟨_, h1, rfl⟩) a (List.mem_map.mpr ⟨_, h2, rfl⟩) rfl
/-- a part of the world goes its own way, the rest stays -/
theorem w_join {A0 : Nat → Prop} {D : va_G} {cl : List vw_C} {wc wr w1 : va_W} {H H1 : Heap} (hP : va_P D cl (wc ++ wr) H) (hD : va_D A0 (wc ++ wr)) (hk : ∀ q : Nat, q < H.size → ¬ va_A wc H.size q → H1[q]? = H[q]?) (hF : ∀ q, va_A wc H.size q → A0 q) (hP1 : va_P D cl w1 H1) (hD1 : va_D (va_A wc H.size) w1) : va_P D cl (w1 ++ wr) H1 ∧ va_D A0 (w1 ++ wr) := by
  have hr : ∀ q ∈ wr, q.1 < H.size ∧ ¬ va_A wc H.size q.1 := fun q hq => by
    have hlt := (wP_mem hP (List.mem_append_right _ hq)).lt
    refine ⟨hlt, fun z => ?_⟩
    rcases wA_mem z with ⟨e, he⟩ | z
    · exact wD_apart hD he (show (q.1, q.2) ∈ wr from hq)
    · omega
  have hPr : va_P D cl wr H := wP_of hP (fun x hx => List.mem_append_right _ hx)
  refine ⟨hP1.app (hPr.kept (fun k q hq => ?_)), ?_⟩
  · have := hr q (List.mem_of_getElem? hq)
    exact hk q.1 this.1 this.2
  · refine (hD1.weaken (fun _ q _ h => hF q.1 h)).app ?_ (fun i j p q hi hj e => ?_)
    · refine wD_of ?_ (fun q hq => ?_)
      · have h3 := wD_nd hD
        rw [List.map_append, List.nodup_append] at h3
        exact h3.2.1
      · obtain ⟨k, hk⟩ := List.mem_iff_getElem?.mp (List.mem_append_right wc hq)
        exact hD.2 k q hk
    · have h1 := hD1.2 i p hi
      rw [e] at h1
      exact (hr q (List.mem_of_getElem? hj)).2 h1
section CUT
variable {s : State} {H H1 : Heap} {locs locs1 : List Loc} {G : gG} {Q : Nat → Nat} {D : Nat × Nat} {X X1 T0 : va_W} {A : Nat → Prop} {u : MS}
theorem cut_perm : (X ++ (cW G Q D [] u ++ T0)).Perm (cW G Q D (X ++ T0) u) := List.perm_append_comm_assoc X (cW G Q D [] u) T0
theorem cut_P (hH : cH G Q D (X ++ T0) A u s H locs) : va_P (gD G) vwCl (X ++ (cW G Q D [] u ++ T0)) H := wP_of hH.1 (fun _ hx => cut_perm.mem_iff.mp hx)
theorem cut_D (hH : cH G Q D (X ++ T0) A u s H locs) : va_D A (X ++ (cW G Q D [] u ++ T0)) := wD_perm hH.2.1 cut_perm
theorem cut_PX (hH : cH G Q D (X ++ T0) A u s H locs) : va_P (gD G) vwCl X H := wP_of (cut_P hH) (fun _ hx => List.mem_append_left _ hx)
theorem cut_DX (hH : cH G Q D (X ++ T0) A u s H locs) : va_D (fun _ => True) X := wD_of (by
  have h3 := wD_nd (cut_D hH)
  rw [List.map_append, List.nodup_append] at h3
  exact h3.1) (fun _ _ => trivial)
theorem cut_F (hH : cH G Q D (X ++ T0) A u s H locs) (hA : ∀ q : Nat, s.heap.size ≤ q → A q) : ∀ q, va_A X H.size q → A q := fun q h => by
  rcases wA_mem h with ⟨e, he⟩ | z
  · obtain ⟨k, hk⟩ := List.mem_iff_getElem?.mp (List.mem_append_left (cW G Q D [] u ++ T0) he)
    exact (cut_D hH).2 k _ hk
  · exact hA q (Nat.le_trans hH.2.2.1 z)
/-- the list's cells are put back into the class's world -/
theorem cut_back (hH : cH G Q D (X ++ T0) A u s H locs) (hA : ∀ q : Nat, s.heap.size ≤ q → A q) (hk : ∀ q : Nat, q < H.size → ¬ va_A X H.size q → H1[q]? = H[q]?) (hP1 : va_P (gD G) vwCl X1 H1) (hD1 : va_D (va_A X H.size) X1) (hS : va_S A s.heap H1 locs1) : cH G Q D (X1 ++ T0) A u s H1 locs1 := by
  obtain ⟨h1, h2⟩ := w_join (cut_P hH) (cut_D hH) hk (cut_F hH hA) hP1 hD1
  exact ⟨wP_of h1 (fun _ hx => cut_perm.mem_iff.mpr hx), wD_perm h2 cut_perm.symm, hS⟩
/-- what lies in the rest of the tail lies outside the part -/
theorem cut_out (hH : cH G Q D (X ++ T0) A u s H locs) {y : Nat} {e : va_E} (hy : (y, e) ∈ T0) : ¬ va_A X H.size y := fun z => by
  rcases wA_mem z with ⟨e1, he⟩ | z
  · exact wD_apart (cut_D hH) he (List.mem_append_right _ hy)
  · have := (wP_mem (cut_P hH) (List.mem_append_right X (List.mem_append_right (cW G Q D [] u) hy))).lt
    have h9 : y < H.size := this
    omega
theorem cut_eL {U : State} {f : Nat → Option Nat} {cap : Nat} (hH : cH G Q D (X ++ T0) A u s H locs) (hK : KB G U) (hf : ∀ i y : Nat, i < cap → f i = some y → ∃ vs : List Value, (y, .inr (5, vs)) ∈ T0) : eL f cap (va_A X H.size) U H := fun i y hi hy => by
  obtain ⟨vs, hv⟩ := hf i y hi hy
  refine ⟨cut_out hH hv, ?_⟩
  obtain ⟨k, hk⟩ := List.mem_iff_getElem?.mp (List.mem_append_right X (List.mem_append_right (cW G Q D [] u) hv))
  exact va_recv hK.1 (cut_P hH) (ci := 5) (q0 := k) rfl hk
end CUT
