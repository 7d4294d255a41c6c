/-! ===== medal() of a pool, the class ===== -/
section
variable {B : Nat → Int32} {u v : MS} {w : GS} {c S n : Nat}
/-- what the class's state says of a pool where all is done -/
def MdC (B : Nat → Int32) (c S n : Nat) (v : MS) : Prop := v.2 0 = B ∧ c < 4 ∧ S ≤ 5 ∧ n ≤ 10 ∧ B (7 + 36 * c) = nI S ∧ (Kn B c ∧ nFi B c = n) ∧ (∀ i, i < n → v.2 13 (37 * c + i) = qA B c S i ∧ v.2 14 (37 * c + i) = qB B c S i ∧ v.2 15 (37 * c + i) = B (fc c i + 3) ∧ ∃ f, f < 96 ∧ B (fc c i + 3) = nI f) ∧ ∀ p, p < S → ∃ f, f < 96 ∧ pl B c p = nI f
def MdW (B : Nat → Int32) (c n : Nat) (v : MS) : Prop := ∀ f, f < 96 → v.2 19 f = wo B c (nI f) n ∧ v.2 20 f = so B c (nI f) n
theorem MdC.ff (h : MdC B c S n v) : x_X0_fightsOf (nI c) v = some (nI n, v) := by
  have h9 := e_fightsOf h.1 h.2.1 h.2.2.2.2.2.1.1
  rw [h.2.2.2.2.2.1.2] at h9
  exact h9
theorem e_member {p : Nat} (h : MdC B c S n v) (hp : p < S) : x_X7_member (nI c) (nI p) v = some (pl B c p, v) := by
  obtain ⟨hB, hc, hS, -⟩ := h
  unfold x_X7_member
  rw [e_ofClass c (4 + p) (show (4 : Int32) + nI p = nI (4 + p) from nI_add 4 p)]
  show some (rg (v.2 0) 2088 (nI (4 + 36 * c + (4 + p))), v) = _
  rw [rdB _ (by omega), hB]
  unfold pl
  rw [if_pos (by omega), show 4 + 36 * c + (4 + p) = 8 + 36 * c + p by omega]
theorem e_size5 (h : MdC B c S n v) : x_X0_sizeOf (nI c) v = some (nI S, v) := by
  rw [e_sizeOf2 h.2.1, h.1, h.2.2.2.2.1]
theorem rd96 (f : Nat → Int32) {j : Nat} (hj : j < 96) : rg f 96 (nI j) = f j := rg_in hj (by decide)
theorem e_areAlike {a b : Nat} (hw : MdW B c n v) (ha : a < 96) (hb : b < 96) : x_X7_areAlike (nI a) (nI b) v = some (if Alk B c n (nI a) (nI b) then 1 else 0, v) := by
  obtain ⟨a1, a2⟩ := hw a ha
  obtain ⟨b1, b2⟩ := hw b hb
  unfold x_X7_areAlike
  show (if rg (v.2 19) 96 (nI a) = rg (v.2 19) 96 (nI b) then ncl (nGT 20 96 (nI a)) (fun x_10 => ncl (nGT 20 96 (nI b)) (fun x_14 => (if x_10 = x_14 then nrt 1 else nrt 0))) else nrt 0 : NG Int32) v = _
  rw [rd96 _ ha, rd96 _ hb, a1, b1]
  by_cases h1 : wo B c (nI a) n = wo B c (nI b) n
  · rw [if_pos h1]
    show (if rg (v.2 20) 96 (nI a) = rg (v.2 20) 96 (nI b) then nrt 1 else nrt 0 : NG Int32) v = _
    rw [rd96 _ ha, rd96 _ hb, a2, b2]
    by_cases h2 : so B c (nI a) n = so B c (nI b) n
    · rw [if_pos h2, if_pos ⟨h1, h2⟩]
      rfl
    · rw [if_neg h2, if_neg (fun z => h2 z.2)]
      rfl
  · rw [if_neg h1, if_neg (fun z => h1 z.1)]
    rfl
theorem e_hasMore {a b : Nat} (hw : MdW B c n v) (ha : a < 96) (hb : b < 96) : x_X7_hasMore (nI a) (nI b) v = some (mor B c n (nI a) (nI b), v) := by
  obtain ⟨a1, a2⟩ := hw a ha
  obtain ⟨b1, b2⟩ := hw b hb
  unfold x_X7_hasMore mor
  show (if rg (v.2 19) 96 (nI a) = rg (v.2 19) 96 (nI b) then ncl (nGT 20 96 (nI a)) (fun x_10 => ncl (nGT 20 96 (nI b)) (fun x_14 => (if x_10 ≤ x_14 then nrt 0 else nrt 1))) else ncl (nGT 19 96 (nI a)) (fun x_19 => ncl (nGT 19 96 (nI b)) (fun x_23 => (if x_19 ≤ x_23 then nrt 0 else nrt 1))) : NG Int32) v = _
  rw [rd96 _ ha, rd96 _ hb, a1, b1]
  by_cases h1 : wo B c (nI a) n = wo B c (nI b) n
  · rw [if_pos h1, if_pos h1]
    show (if rg (v.2 20) 96 (nI a) ≤ rg (v.2 20) 96 (nI b) then nrt 0 else nrt 1 : NG Int32) v = _
    rw [rd96 _ ha, rd96 _ hb, a2, b2]
    by_cases h2 : so B c (nI a) n ≤ so B c (nI b) n
    · rw [if_pos h2, if_pos h2]; rfl
    · rw [if_neg h2, if_neg h2]; rfl
  · rw [if_neg h1, if_neg h1]
    show (if rg (v.2 19) 96 (nI a) ≤ rg (v.2 19) 96 (nI b) then nrt 0 else nrt 1 : NG Int32) v = _
    rw [rd96 _ ha, rd96 _ hb, a1, b1]
    by_cases h2 : wo B c (nI a) n ≤ wo B c (nI b) n
    · rw [if_pos h2, if_pos h2]; rfl
    · rw [if_neg h2, if_neg h2]; rfl
theorem e_beat_lp {o f : Int32} (h : MdC B c S n v) : ∀ (t i m : Nat), i + t = n → t < m → xl_X7_beat_3 m (nI c) o f (nI i) (fun _ _ _ _ => nrt 0) v = some (btv B c S o f t i, v) := by
  have hf := h.ff
  obtain ⟨hB, hc, hS, hn, h7, -, hr, hm⟩ := h
  intro t
  induction t with
  | zero =>
    intro i m h1 h2
    cases m with
    | zero => omega
    | succ m =>
      have : i = n := by omega
      subst this
      unfold xl_X7_beat_3
      refine ncl_eq2 hf ?_
      rw [if_pos (Int32.le_refl _)]
      rfl
  | succ t ih =>
    intro i m h1 h2
    cases m with
    | zero => omega
    | succ m =>
      obtain ⟨r1, r2, r3, g, hg, r4⟩ := hr i (by omega)
      have h9 := ih (i + 1) m (by omega) (by omega)
      unfold xl_X7_beat_3
      refine ncl_eq2 hf ?_
      rw [if_neg (nI_ge (by omega) (by omega))]
      refine ncl_eq2 (e_winnerOf hc (by omega)) ?_
      rw [r3, btv_s]
      by_cases e : B (fc c i + 3) = o
      · rw [if_pos e, if_pos e]
        refine ncl_eq2 (e_loserOf hc (by omega)) ?_
        have el : (if v.2 15 (37 * c + i) = -1 then -1 else if v.2 13 (37 * c + i) = v.2 15 (37 * c + i) then v.2 14 (37 * c + i) else v.2 13 (37 * c + i)) = lsr B c S i := by
          rw [r3, if_neg (by rw [r4]; exact nI_ne_1 (by omega)), r1, r2]
          rfl
        rw [el]
        by_cases e2 : lsr B c S i = f
        · rw [if_pos e2, if_pos e2]
          rfl
        · rw [if_neg e2, if_neg e2]
          show xl_X7_beat_3 m (nI c) o f (nI i + 1) _ v = _
          rw [nI_1]
          exact h9
      · rw [if_neg e, if_neg e]
        show xl_X7_beat_3 m (nI c) o f (nI i + 1) _ v = _
        rw [nI_1]
        exact h9
theorem e_gram {a : Nat} (hB : v.2 0 = B) (ha : a < 96) (q : Int32 → NG Int32) : ncl (x_X1_ofFighter (nI a) 2) (fun r => ncl (nGT 0 2088 r) q) v = q (grm B (nI a)) v := by
  rw [e_ofFighter a 2 (show (2 : Int32) = nI 2 from rfl)]
  show q (rg (v.2 0) 2088 (nI (148 + 7 * a + 2))) v = _
  rw [rdB _ (by omega), hB]
  unfold grm
  rw [nI_clamp (by omega), show 148 + 7 * a + 2 = 150 + 7 * a by omega]
theorem e_tie {a b al : Nat} (h : MdC B c S n v) (ha : a < 96) (hb : b < 96) (hal : al ≤ 5) : x_X7_breaksTie (nI c) (nI a) (nI b) (nI al) v = some (tie B c S n (nI a) (nI b) al, v) := by
  unfold x_X7_breaksTie tie
  by_cases h2 : al = 2
  · subst h2
    rw [if_pos (show nI 2 = 2 from rfl), if_pos rfl]
    have hn := h.2.2.2.1
    have hb : x_X7_beat (nI c) (nI a) (nI b) v = some (btv B c S (nI a) (nI b) n 0, v) := e_beat_lp h n 0 fuel (by omega) (by unfold fuel; omega)
    refine ncl_eq2 hb ?_
    have hgb : gb (btv B c S (nI a) (nI b) n 0) = true := decide_eq_true (btv_01 B c S (nI a) (nI b) n 0)
    rw [hgb]
    rfl
  · rw [if_neg (fun z : nI al = 2 => h2 ((nI_eq (a := al) (b := 2) (by omega) (by decide)).mp z)), if_neg h2]
    rw [e_gram h.1 ha, e_gram h.1 hb]
    by_cases e : grm B (nI a) = grm B (nI b)
    · rw [if_pos e, if_pos e]
      by_cases e2 : nI b ≤ nI a
      · rw [if_pos e2, if_pos e2]; rfl
      · rw [if_neg e2, if_neg e2]; rfl
    · rw [if_neg e, if_neg e]
      by_cases e2 : grm B (nI b) ≤ grm B (nI a)
      · rw [if_pos e2, if_pos e2]; rfl
      · rw [if_neg e2, if_neg e2]; rfl
theorem e_ahead8 {g : Nat} {v3 : Int32} {K : Int32 → Int32 → Int32 → Int32 → Int32 → NG Int32} (h : MdC B c S n v) (hw : MdW B c n v) (hg : g < 96) : ∀ (t p m : Nat), p + t = S → t < m → xl_X7_aheadOf_8 m (nI c) (nI g) v3 (nI (alN B c n (nI g) p)) (nI p) K v = K (nI c) (nI g) v3 (nI (alN B c n (nI g) S)) (nI S) v := by
  have hS := h.2.2.1
  intro t
  induction t with
  | zero =>
    intro p m h1 h2
    cases m with
    | zero => omega
    | succ m =>
      have : p = S := by omega
      subst this
      unfold xl_X7_aheadOf_8
      refine ncl_eq2 (e_size5 h) ?_
      rw [if_pos (Int32.le_refl _)]
  | succ t ih =>
    intro p m h1 h2
    cases m with
    | zero => omega
    | succ m =>
      obtain ⟨a, ha, ea⟩ := h.2.2.2.2.2.2.2 p (by omega)
      have h9 := ih (p + 1) m (by omega) (by omega)
      rw [alN_s] at h9
      unfold xl_X7_aheadOf_8
      refine ncl_eq2 (e_size5 h) ?_
      rw [if_neg (nI_ge (by omega) (by omega))]
      refine ncl_eq2 (e_member h (by omega)) ?_
      rw [ea] at h9 ⊢
      refine ncl_eq2 (e_areAlike hw ha hg) ?_
      by_cases e : Alk B c n (nI a) (nI g)
      · rw [if_pos e] at h9
        rw [if_pos e, if_neg (by decide)]
        show xl_X7_aheadOf_8 m (nI c) (nI g) v3 (nI (alN B c n (nI g) p) + 1) (nI p + 1) K v = _
        rw [nI_1, nI_1]
        exact h9
      · rw [if_neg e] at h9
        rw [if_neg e, if_pos rfl]
        show xl_X7_aheadOf_8 m (nI c) (nI g) v3 (nI (alN B c n (nI g) p) + 0) (nI p + 1) K v = _
        rw [nI_1, show nI (alN B c n (nI g) p) + 0 = nI (alN B c n (nI g) p + 0) from nI_add _ 0]
        exact h9
theorem e_ahead55 {g : Nat} (h : MdC B c S n v) (hw : MdW B c n v) (hg : g < 96) : ∀ (t p m : Nat), p + t = S → t < m → xl_X7_aheadOf_55 m (nI c) (nI g) (nI (ahv B c S n (nI g) p)) (nI (alN B c n (nI g) S)) (nI p) (fun _ _ v3 _ _ => nrt v3) v = some (nI (ahv B c S n (nI g) S), v) := by
  have hS := h.2.2.1
  have hal := alN_le B c n (nI g) S
  intro t
  induction t with
  | zero =>
    intro p m h1 h2
    cases m with
    | zero => omega
    | succ m =>
      have : p = S := by omega
      subst this
      unfold xl_X7_aheadOf_55
      refine ncl_eq2 (e_size5 h) ?_
      rw [if_pos (Int32.le_refl _)]
      rfl
  | succ t ih =>
    intro p m h1 h2
    cases m with
    | zero => omega
    | succ m =>
      obtain ⟨a, ha, ea⟩ := h.2.2.2.2.2.2.2 p (by omega)
      have h9 := ih (p + 1) m (by omega) (by omega)
      rw [ahv_s] at h9
      have st : ∀ x : Nat, x = 0 ∨ x = 1 → nI (ahv B c S n (nI g) p) + nI x = nI (ahv B c S n (nI g) p + x) := fun x _ => nI_add _ x
      unfold xl_X7_aheadOf_55
      refine ncl_eq2 (e_size5 h) ?_
      rw [if_neg (nI_ge (by omega) (by omega))]
      refine ncl_eq2 (e_member h (by omega)) ?_
      rw [ea] at h9 ⊢
      refine ncl_eq2 (e_areAlike hw ha hg) ?_
      by_cases e : Alk B c n (nI a) (nI g)
      · rw [if_pos e, if_neg (by decide)]
        by_cases e1 : nI a = nI g
        · rw [if_pos e1] at h9
          rw [if_pos e1]
          show xl_X7_aheadOf_55 m (nI c) (nI g) (nI (ahv B c S n (nI g) p) + nI 0) (nI (alN B c n (nI g) S)) (nI p + 1) _ v = _
          rw [nI_1, st 0 (Or.inl rfl)]
          exact h9
        · rw [if_neg e1] at h9
          rw [if_neg e1]
          refine ncl_eq2 (e_tie h ha hg (by omega)) ?_
          unfold isAw at h9
          rw [if_pos e] at h9
          by_cases e2 : tie B c S n (nI a) (nI g) (alN B c n (nI g) S) = 0
          · rw [if_pos e2] at h9
            rw [if_pos e2]
            show xl_X7_aheadOf_55 m (nI c) (nI g) (nI (ahv B c S n (nI g) p) + nI 0) (nI (alN B c n (nI g) S)) (nI p + 1) _ v = _
            rw [nI_1, st 0 (Or.inl rfl)]
            exact h9
          · rw [if_neg e2] at h9
            rw [if_neg e2]
            show xl_X7_aheadOf_55 m (nI c) (nI g) (nI (ahv B c S n (nI g) p) + nI 1) (nI (alN B c n (nI g) S)) (nI p + 1) _ v = _
            rw [nI_1, st 1 (Or.inr rfl)]
            exact h9
      · have e1 : ¬ nI a = nI g := fun z => e (by rw [z]; exact ⟨rfl, rfl⟩)
        rw [if_neg e1] at h9
        unfold isAw at h9
        rw [if_neg e] at h9
        rw [if_neg e, if_pos rfl]
        refine ncl_eq2 (e_hasMore hw ha hg) ?_
        by_cases e2 : mor B c n (nI a) (nI g) = 0
        · rw [if_pos e2] at h9
          rw [if_pos e2]
          show xl_X7_aheadOf_55 m (nI c) (nI g) (nI (ahv B c S n (nI g) p) + nI 0) (nI (alN B c n (nI g) S)) (nI p + 1) _ v = _
          rw [nI_1, st 0 (Or.inl rfl)]
          exact h9
        · rw [if_neg e2] at h9
          rw [if_neg e2]
          show xl_X7_aheadOf_55 m (nI c) (nI g) (nI (ahv B c S n (nI g) p) + nI 1) (nI (alN B c n (nI g) S)) (nI p + 1) _ v = _
          rw [nI_1, st 1 (Or.inr rfl)]
          exact h9
theorem e_aheadOf {g : Nat} (h : MdC B c S n v) (hw : MdW B c n v) (hg : g < 96) : x_X7_aheadOf (nI c) (nI g) v = some (nI (ahv B c S n (nI g) S), v) := by
  have hS := h.2.2.1
  unfold x_X7_aheadOf
  have h8 := e_ahead8 (v3 := 0) (K := fun v1 v2 v3 v4 v5 => xl_X7_aheadOf_55 fuel v1 v2 v3 v4 0 (fun v1 v2 v3 v4 v5 => nrt v3)) h hw hg S 0 fuel (by omega) (by unfold fuel; omega)
  have e0 : nI (alN B c n (nI g) 0) = 0 := rfl
  rw [e0] at h8
  refine (show xl_X7_aheadOf_8 fuel (nI c) (nI g) 0 0 (nI 0) _ v = _ from h8.trans ?_)
  exact e_ahead55 h hw hg S 0 fuel (by omega) (by unfold fuel; omega)
theorem e_ofPool_lp {k : Int32} (h : MdC B c S n v) (hw : MdW B c n v) : ∀ (t p m : Nat), p + t = S → t < m → xl_X7_ofPool_29 m (nI c) k (nI p) (fun _ _ _ => nrt (-1)) v = some (mres B c S n k t p, v) := by
  have hS := h.2.2.1
  intro t
  induction t with
  | zero =>
    intro p m h1 h2
    cases m with
    | zero => omega
    | succ m =>
      have : p = S := by omega
      subst this
      unfold xl_X7_ofPool_29
      refine ncl_eq2 (e_size5 h) ?_
      rw [if_pos (Int32.le_refl _)]
      rfl
  | succ t ih =>
    intro p m h1 h2
    cases m with
    | zero => omega
    | succ m =>
      obtain ⟨a, ha, ea⟩ := h.2.2.2.2.2.2.2 p (by omega)
      unfold xl_X7_ofPool_29
      refine ncl_eq2 (e_size5 h) ?_
      rw [if_neg (nI_ge (by omega) (by omega))]
      refine ncl_eq2 (e_member h (by omega)) ?_
      rw [mres_s, ea]
      refine ncl_eq2 (e_aheadOf h hw ha) ?_
      by_cases e : nI (ahv B c S n (nI a) S) = k
      · rw [if_pos e, if_pos e]
        refine ncl_eq2 (e_member h (by omega)) ?_
        rw [ea]
        rfl
      · rw [if_neg e, if_neg e]
        show xl_X7_ofPool_29 m (nI c) k (nI p + 1) _ v = _
        rw [nI_1]
        exact ih (p + 1) m (by omega) (by omega)
theorem MdC.same (h : MdC B c S n u) (hs : Same [] [19, 20] u v) : MdC B c S n v := by
  obtain ⟨hB, hc, hS, hn, h7, hf, hr, hm⟩ := h
  exact ⟨(hs.2 0 (by decide)).trans hB, hc, hS, hn, h7, hf, fun i hi => by rw [hs.2 13 (by decide), hs.2 14 (by decide), hs.2 15 (by decide)]; exact hr i hi, hm⟩
theorem e_addUp_lp (h : MdC B c S n u) : ∀ (t i m : Nat) (v : MS), i + t = n → t < m → Same [] [19, 20] u v → MdW B c i v → ∃ v2, xl_X7_addUp_18 m (nI c) (nI i) (fun _ _ => nrt 0) v = some (0, v2) ∧ Same [] [19, 20] u v2 ∧ MdW B c n v2 := by
  intro t
  induction t with
  | zero =>
    intro i m v h1 h2 hs hw
    cases m with
    | zero => omega
    | succ m =>
      have : i = n := by omega
      subst this
      have hv := h.same hs
      refine ⟨v, ?_, hs, hw⟩
      unfold xl_X7_addUp_18
      refine ncl_eq2 hv.ff ?_
      rw [if_pos (Int32.le_refl _)]
      rfl
  | succ t ih =>
    intro i m v h1 h2 hs hw
    cases m with
    | zero => omega
    | succ m =>
      have hv := h.same hs
      have hf := hv.ff
      obtain ⟨hB, hc, hS, hn, h7, -, hr, hm⟩ := hv
      obtain ⟨r1, r2, r3, g, hg, r4⟩ := hr i (by omega)
      have hs2 : Same [] [19, 20] v (sf (sf v 19 (upd (v.2 19) g (v.2 19 g + 1))) 20 (upd (v.2 20) g (v.2 20 g + B (fc c i + 5)))) := (Same_sf (by decide)).trans (Same_sf (by decide))
      obtain ⟨v2, q1, q2, q3⟩ := ih (i + 1) m (sf (sf v 19 (upd (v.2 19) g (v.2 19 g + 1))) 20 (upd (v.2 20) g (v.2 20 g + B (fc c i + 5)))) (by omega) (by omega) (hs.trans hs2) (fun f hf9 => by
        obtain ⟨w1, w2⟩ := hw f hf9
        show upd (v.2 19) g (v.2 19 g + 1) f = wo B c (nI f) (i + 1) ∧ upd (v.2 20) g (v.2 20 g + B (fc c i + 5)) f = so B c (nI f) (i + 1)
        rw [wo_s, so_s, r4]
        by_cases e : f = g
        · subst e
          rw [upd_e, upd_e, if_pos rfl, if_pos rfl, w1, w2]
          exact ⟨rfl, rfl⟩
        · have e2 : ¬ nI g = nI f := fun z => e ((nI_eq (by omega) (by omega)).mp z).symm
          rw [upd_n e, upd_n e, if_neg e2, if_neg e2, w1, w2, Int32.add_zero, Int32.add_zero]
          exact ⟨rfl, rfl⟩)
      refine ⟨v2, ?_, q2, q3⟩
      unfold xl_X7_addUp_18
      refine ncl_eq2 hf ?_
      rw [if_neg (nI_ge (by omega) (by omega))]
      refine ncl_eq2 (e_winnerOf hc (by omega)) ?_
      rw [r3, r4]
      refine ncl_eq2 (a := v.2 19 g) (v := v) (by
        show some (rg (v.2 19) 96 (nI g), v) = _
        rw [rd96 _ hg]) ?_
      have ew : rs (v.2 19) 96 (nI g) (v.2 19 g + 1) = upd (v.2 19) g (v.2 19 g + 1) := wrN _ hg (by decide)
      refine ncl_eq2 (a := ()) (v := sf v 19 (upd (v.2 19) g (v.2 19 g + 1))) (by
        show some ((), sf v 19 (rs (v.2 19) 96 (nI g) (v.2 19 g + 1))) = _
        rw [ew]) ?_
      refine ncl_eq2 (a := v.2 20 g) (v := sf v 19 (upd (v.2 19) g (v.2 19 g + 1))) (by
        show some (rg (v.2 20) 96 (nI g), sf v 19 (upd (v.2 19) g (v.2 19 g + 1))) = _
        rw [rd96 _ hg]) ?_
      rw [e_ofFight c i 5 (show (5 : Int32) = nI 5 from rfl), ncl_rt]
      refine ncl_eq2 (a := B (fc c i + 5)) (v := sf v 19 (upd (v.2 19) g (v.2 19 g + 1))) (by
        show some (rg (v.2 0) 2088 (nI (fc c i + 5)), sf v 19 (upd (v.2 19) g (v.2 19 g + 1))) = _
        rw [rdB _ (by unfold fc; omega), hB]) ?_
      have ew2 : rs (v.2 20) 96 (nI g) (v.2 20 g + B (fc c i + 5)) = upd (v.2 20) g (v.2 20 g + B (fc c i + 5)) := wrN _ hg (by decide)
      refine ncl_eq2 (a := ()) (v := sf (sf v 19 (upd (v.2 19) g (v.2 19 g + 1))) 20 (rs (v.2 20) 96 (nI g) (v.2 20 g + B (fc c i + 5)))) rfl ?_
      show xl_X7_addUp_18 m (nI c) (nI i + 1) _ (sf (sf v 19 (upd (v.2 19) g (v.2 19 g + 1))) 20 (rs (v.2 20) 96 (nI g) (v.2 20 g + B (fc c i + 5)))) = _
      rw [ew2, nI_1]
      exact q1
theorem e_addUp (h : MdC B c S n u) : ∃ v2, x_X7_addUp (nI c) u = some (0, v2) ∧ Same [] [19, 20] u v2 ∧ MdW B c n v2 := by
  have hn := h.2.2.2.1
  have hs : Same [] [19, 20] u (sf (sf u 19 (fl 96 0 (u.2 19))) 20 (fl 96 0 (u.2 20))) := (Same_sf (by decide)).trans (Same_sf (by decide))
  obtain ⟨v2, q1, q2, q3⟩ := e_addUp_lp h n 0 fuel (sf (sf u 19 (fl 96 0 (u.2 19))) 20 (fl 96 0 (u.2 20))) (by omega) (by unfold fuel; omega) hs (fun f hf => by
    show fl 96 0 (u.2 19) f = 0 ∧ fl 96 0 (u.2 20) f = 0
    unfold fl
    rw [if_pos hf, if_pos hf]
    exact ⟨rfl, rfl⟩)
  exact ⟨v2, q1, q2, q3⟩
theorem e_howMany_lp {z : Int32} {K : Int32 → Int32 → Int32 → Int32 → NG Int32} (hc : c < 4) (hn : n ≤ 37) (hf : x_X0_fightsOf (nI c) u = some (nI n, u)) : ∀ (t i m : Nat), i + t = n → t < m → xl_X0_howMany_5 m (nI c) z (nI (cb (fun j => decide (u.2 16 (37 * c + j) = z)) i)) (nI i) K u = K (nI c) z (nI (cb (fun j => decide (u.2 16 (37 * c + j) = z)) n)) (nI n) u := by
  intro t
  induction t with
  | zero =>
    intro i m h1 h2
    cases m with
    | zero => omega
    | succ m =>
      have : i = n := by omega
      subst this
      unfold xl_X0_howMany_5
      refine ncl_eq2 hf ?_
      rw [if_pos (Int32.le_refl _)]
  | succ t ih =>
    intro i m h1 h2
    cases m with
    | zero => omega
    | succ m =>
      have h9 := ih (i + 1) m (by omega) (by omega)
      unfold xl_X0_howMany_5
      refine ncl_eq2 hf ?_
      rw [if_neg (nI_ge (by omega) (by omega))]
      refine ncl_eq2 (e_stateOf hc (by omega) u) ?_
      by_cases e : u.2 16 (37 * c + i) = z
      · rw [cb_t (P := fun j => decide (u.2 16 (37 * c + j) = z)) (decide_eq_true e)] at h9
        rw [if_pos e]
        show xl_X0_howMany_5 m (nI c) z (nI (cb (fun j => decide (u.2 16 (37 * c + j) = z)) i) + 1) (nI i + 1) K u = _
        rw [nI_1, nI_1]
        exact h9
      · rw [cb_f (P := fun j => decide (u.2 16 (37 * c + j) = z)) (fun y => e (of_decide_eq_true y))] at h9
        rw [if_neg e]
        show xl_X0_howMany_5 m (nI c) z (nI (cb (fun j => decide (u.2 16 (37 * c + j) = z)) i) + 0) (nI i + 1) K u = _
        rw [nI_1, show nI (cb (fun j => decide (u.2 16 (37 * c + j) = z)) i) + 0 = nI (cb (fun j => decide (u.2 16 (37 * c + j) = z)) i + 0) from nI_add _ 0]
        exact h9
theorem e_howMany {z : Int32} (hc : c < 4) (hn : n ≤ 37) (hf : x_X0_fightsOf (nI c) u = some (nI n, u)) : x_X0_howMany (nI c) z u = some (nI (cb (fun j => decide (u.2 16 (37 * c + j) = z)) n), u) := by
  unfold x_X0_howMany
  exact e_howMany_lp (K := fun v1 v2 v3 v4 => nrt v3) hc hn hf n 0 fuel (by omega) (by unfold fuel; omega)
end
