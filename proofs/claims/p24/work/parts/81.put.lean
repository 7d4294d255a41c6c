/-! ===== the class: what a put costs; the book's two rows grow together ===== -/
def bB : Int := 1048576
/-- the log's rows: ch changes, room C in each; what cells 0 and 2 hold, or held, is small -/
def Kb (u : MS) (ch C : Nat) : Prop := u.1 0 = nI ch ∧ u.1 60 = nI C ∧ u.1 65 = nI C ∧ ch ≤ C ∧ (∃ j, j ≤ 11 ∧ C = 512 * 2 ^ j) ∧ (u.2 0 0).toInt ≤ bB ∧ (u.2 0 2).toInt ≤ bB ∧ ∀ k, k < ch → (u.2 1 k = 0 ∨ u.2 1 k = 2) → (u.2 2 k).toInt ≤ bB
theorem Kb.C {u : MS} {ch C : Nat} (h : Kb u ch C) : 512 ≤ C ∧ C ≤ 1048576 := by
  obtain ⟨-, -, -, -, ⟨j, hj, rfl⟩, -⟩ := h
  rcases (by omega : j = 0 ∨ j = 1 ∨ j = 2 ∨ j = 3 ∨ j = 4 ∨ j = 5 ∨ j = 6 ∨ j = 7 ∨ j = 8 ∨ j = 9 ∨ j = 10 ∨ j = 11) with rfl | rfl | rfl | rfl | rfl | rfl | rfl | rfl | rfl | rfl | rfl | rfl <;> decide
theorem anl_eq {α β : Type} {p : NG α} {q : α → AG β} {u v : MS} {a : α} {y : β × MS × Nat × Nat} (h : p u = some (a, v)) (h2 : q a v = some y) : anl p q u = some y := by
  unfold anl
  rw [h]
  exact h2
theorem acl_eq {α β : Type} {p : AG α} {q : α → AG β} {u v w : MS} {a : α} {b : β} {c1 d1 c2 d2 : Nat} (h : p u = some (a, v, c1, d1)) (h2 : q a v = some (b, w, c2, d2)) : acl p q u = some (b, w, c1 + c2, d1 + d2) := by
  unfold acl
  rw [h]
  show (match q a v with | some (b, w, c2, d2) => some (b, w, c1 + c2, d1 + d2) | none => none) = _
  rw [h2]
theorem room_lt (c k : Nat) {u : MS} {ch C : Nat} (h60 : u.1 c = nI C) (hC : C < 2 ^ 31) (h : ch < C) : x_room c k (nI ch) u = some (0, u, 0, 0) := by
  unfold x_room
  rw [h60, nI_clamp hC, if_pos (nI_lt h hC)]
theorem room_eq (c k : Nat) {u : MS} {C : Nat} (h60 : u.1 c = nI C) (h1 : 1 ≤ C) (hC : C ≤ 1048576) : x_room c k (nI C) u = some (0, si (sf u k (va_cpy (u.2 k) (fun _ => 0) 0 0 C)) c (nI (2 * C)), 1, 2 * C) := by
  unfold x_room
  rw [h60, nI_clamp (by omega), if_neg (fun z => absurd ((nI_ltI (by omega) (by omega)).mp z) (Nat.lt_irrefl _))]
  have e : max (C + 1) (2 * C) = 2 * C := by omega
  rw [e, decide_eq_true (by omega : 2 * C ≤ 16777216)]
  rfl
theorem rg_in {f : Nat → Int32} {n j : Nat} (hj : j < n) (hn : n < 2 ^ 31) : rg f n (nI j) = f j := by
  unfold rg
  rw [if_neg (nI_nn (by omega)), if_neg (nI_ge hj hn), nI_clamp (by omega)]
theorem rs_at {f : Nat → Int32} {n : Nat} {i x : Int32} (j : Nat) : rs f n i x j = f j ∨ (rs f n i x j = x ∧ i = nI j) := by
  unfold rs
  by_cases h1 : i < 0
  · rw [if_pos h1]; exact Or.inl rfl
  · rw [if_neg h1]
    by_cases h2 : nI n ≤ i
    · rw [if_pos h2]; exact Or.inl rfl
    · rw [if_neg h2]
      show (if j = i.toNatClampNeg then x else f j) = f j ∨ _
      by_cases h3 : j = i.toNatClampNeg
      · refine Or.inr ⟨if_pos h3, ?_⟩
        have h0 : 0 ≤ i.toInt := by
          rw [Int32.lt_iff_toInt_lt, i32_0] at h1
          omega
        rw [h3]
        exact nI_ofT h0
      · exact Or.inl (if_neg h3)
theorem rs_in {f : Nat → Int32} {n j : Nat} {x : Int32} (hj : j < n) (hn : n < 2 ^ 31) (j2 : Nat) : rs f n (nI j) x j2 = if j2 = j then x else f j2 := by
  unfold rs
  rw [if_neg (nI_nn (by omega)), if_neg (nI_ge hj hn), nI_clamp (by omega)]
  rfl
/-- the part of a put behind the rooms -/
def put2 (C ch : Nat) (a0 a1 x : Int32) (u : MS) : MS := sf (si (sf (sf u 1 (rs (u.2 1) C (nI ch) a0)) 2 (rs (u.2 2) C (nI ch) x)) 0 (nI (ch + 1))) 0 (rs (u.2 0) 2088 a0 a1)
theorem put_tail {u : MS} {ch C : Nat} (a0 a1 x : Int32) (h0 : u.1 0 = nI ch) (h60 : u.1 60 = nI C) (h65 : u.1 65 = nI C) (hC : C < 2 ^ 31) : anl (nRF 0) (fun x_32 => anl (nSD 1 60 x_32 a0) (fun _ => anl (nRF 0) (fun x_40 => anl (nSD 2 65 x_40 x) (fun _ => anl (nRF 0) (fun x_48 => anl (nWF 0 (x_48 + 1)) (fun _ => anl (nST 0 2088 a0 a1) (fun _ => art (0 : Int32)))))))) u = some (0, put2 C ch a0 a1 x u, 0, 0) := by
  have e1 : sf u 1 (rs (u.2 1) (u.1 60).toNatClampNeg (u.1 0) a0) = sf u 1 (rs (u.2 1) C (nI ch) a0) := by rw [h0, h60, nI_clamp hC]
  refine anl_eq (a := u.1 0) (v := u) rfl (anl_eq (a := ()) (v := sf u 1 (rs (u.2 1) C (nI ch) a0)) (by rw [← e1]; rfl) ?_)
  have e2 : sf (sf u 1 (rs (u.2 1) C (nI ch) a0)) 2 (rs (u.2 2) (u.1 65).toNatClampNeg (u.1 0) x) = sf (sf u 1 (rs (u.2 1) C (nI ch) a0)) 2 (rs (u.2 2) C (nI ch) x) := by rw [h0, h65, nI_clamp hC]
  refine anl_eq (a := u.1 0) (v := sf u 1 (rs (u.2 1) C (nI ch) a0)) rfl (anl_eq (a := ()) (v := sf (sf u 1 (rs (u.2 1) C (nI ch) a0)) 2 (rs (u.2 2) C (nI ch) x)) (by rw [← e2]; rfl) ?_)
  refine anl_eq (a := nI ch) (v := sf (sf u 1 (rs (u.2 1) C (nI ch) a0)) 2 (rs (u.2 2) C (nI ch) x)) (by rw [← h0]; rfl) (anl_eq (a := ()) (v := si (sf (sf u 1 (rs (u.2 1) C (nI ch) a0)) 2 (rs (u.2 2) C (nI ch) x)) 0 (nI (ch + 1))) (by rw [← nI_1 ch]; rfl) (anl_eq (a := ()) (v := put2 C ch a0 a1 x u) rfl rfl))
/-- a program that puts at most k times: it ends, and what it makes -/
def APu {β : Type} (LI LA : List Nat) (k : Nat) (p : AG β) (u : MS) (ch C : Nat) : Prop := ∃ r v c d ch' C', p u = some (r, v, c, d) ∧ Kb v ch' C' ∧ ch ≤ ch' ∧ ch' ≤ ch + k ∧ C ≤ C' ∧ d = 4 * (C' - C) ∧ 256 * c ≤ C' - C ∧ Same LI LA u v
def AP {β : Type} (LI LA : List Nat) (k : Nat) (p : AG β) : Prop := ∀ u ch C, Kb u ch C → ch + k ≤ 1048576 → APu LI LA k p u ch C
theorem kb_put {u : MS} {ch C C2 : Nat} (a0 a1 : Int32) (f1 f2 : Nat → Int32) (hv : a1.toInt ≤ bB ∨ (¬ a0 = 0 ∧ ¬ a0 = 2)) (h : Kb u ch C) (hC2 : ch < C2 ∧ C2 < 2 ^ 31) (hj : ∃ j, j ≤ 11 ∧ C2 = 512 * 2 ^ j) (w : MS) (w0 : w.2 0 = u.2 0) (w1 : w.2 1 = f1) (w2 : w.2 2 = f2) (hf1 : ∀ k, k < ch → f1 k = u.2 1 k) (hf2 : ∀ k, k < ch → f2 k = u.2 2 k) (w60 : w.1 60 = nI C2) (w65 : w.1 65 = nI C2) : Kb (put2 C2 ch a0 a1 (rg (u.2 0) 2088 a0) w) (ch + 1) C2 := by
  obtain ⟨h0, -, -, h4, -, b0, b2, hJ⟩ := h
  have e0 : (put2 C2 ch a0 a1 (rg (u.2 0) 2088 a0) w).2 0 = rs (u.2 0) 2088 a0 a1 := by
    show rs (w.2 0) 2088 a0 a1 = _
    rw [w0]
  have e1 : (put2 C2 ch a0 a1 (rg (u.2 0) 2088 a0) w).2 1 = rs f1 C2 (nI ch) a0 := by
    show rs (w.2 1) C2 (nI ch) a0 = _
    rw [w1]
  have e2 : (put2 C2 ch a0 a1 (rg (u.2 0) 2088 a0) w).2 2 = rs f2 C2 (nI ch) (rg (u.2 0) 2088 a0) := by
    show rs (w.2 2) C2 (nI ch) _ = _
    rw [w2]
  refine ⟨rfl, w60, w65, by omega, hj, ?_, ?_, fun k hk => ?_⟩
  · rw [e0]
    rcases rs_at (f := u.2 0) (n := 2088) (i := a0) (x := a1) 0 with z | ⟨z, y⟩
    · rw [z]; exact b0
    · rw [z]
      exact hv.elim id (fun q => absurd y q.1)
  · rw [e0]
    rcases rs_at (f := u.2 0) (n := 2088) (i := a0) (x := a1) 2 with z | ⟨z, y⟩
    · rw [z]; exact b2
    · rw [z]
      exact hv.elim id (fun q => absurd y q.2)
  · rw [e1, e2, rs_in hC2.1 hC2.2, rs_in hC2.1 hC2.2]
    by_cases he : k = ch
    · rw [if_pos he, if_pos he]
      rintro (z | z)
      · rw [z]
        have e : rg (u.2 0) 2088 0 = u.2 0 0 := rg_in (j := 0) (by decide) (by decide)
        rw [e]; exact b0
      · rw [z]
        have e : rg (u.2 0) 2088 2 = u.2 0 2 := rg_in (j := 2) (by decide) (by decide)
        rw [e]; exact b2
    · rw [if_neg he, if_neg he, hf1 k (by omega), hf2 k (by omega)]
      exact hJ k (by omega)
theorem put_same {C ch : Nat} {a0 a1 x : Int32} {u w : MS} (h : Same [0, 60, 65] [0, 1, 2] u w) : Same [0, 60, 65] [0, 1, 2] u (put2 C ch a0 a1 x w) := by
  have h2 : Same [0, 60, 65] [0, 1, 2] w (put2 C ch a0 a1 x w) := by
    unfold put2
    exact ((Same_sf (by decide)).trans (Same_sf (by decide))).trans ((Same_si (by decide)).trans (Same_sf (by decide)))
  exact h.trans h2
theorem rs_same {f : Nat → Int32} {n : Nat} {i x : Int32} (h : rg f n i = x) : rs f n i x = f := by
  unfold rg at h
  unfold rs
  by_cases h1 : i < 0
  · rw [if_pos h1]
  · rw [if_neg h1] at h ⊢
    by_cases h2 : nI n ≤ i
    · rw [if_pos h2]
    · rw [if_neg h2] at h ⊢
      funext j
      show (if j = i.toNatClampNeg then x else f j) = f j
      by_cases h3 : j = i.toNatClampNeg
      · rw [if_pos h3, h3]; exact h.symm
      · rw [if_neg h3]
def AQ {β : Type} (LI LA : List Nat) (k : Nat) (p : AG β) (u : MS) (ch C : Nat) (Q : β → MS → Nat → Nat → Prop) : Prop := ∃ r v c d ch' C', p u = some (r, v, c, d) ∧ Kb v ch' C' ∧ ch ≤ ch' ∧ ch' ≤ ch + k ∧ C ≤ C' ∧ d = 4 * (C' - C) ∧ 256 * c ≤ C' - C ∧ Same LI LA u v ∧ Q r v ch' C'
theorem aq_put (a0 a1 : Int32) (hv : a1.toInt ≤ bB ∨ (¬ a0 = 0 ∧ ¬ a0 = 2)) (u : MS) (ch C : Nat) (h : Kb u ch C) (hch : ch + 1 ≤ 1048576) : AQ [0, 60, 65] [0, 1, 2] 1 (x_X1_put a0 a1) u ch C (fun _ v _ _ => v.2 0 = rs (u.2 0) 2088 a0 a1) := by
  have hC := h.C
  have h9 := h
  obtain ⟨h0, h60, h65, h4, ⟨j, hj, hCj⟩, -⟩ := h9
  unfold x_X1_put
  by_cases hx : rg (u.2 0) 2088 a0 = a1
  · exact ⟨0, u, 0, 0, ch, C, anl_eq (a := rg (u.2 0) 2088 a0) (v := u) rfl (by rw [if_pos hx]; rfl), h, by omega, by omega, by omega, by omega, by omega, Same.rf u, (rs_same hx).symm⟩
  · by_cases hlt : ch < C
    · refine ⟨0, put2 C ch a0 a1 (rg (u.2 0) 2088 a0) u, 0, 0, ch + 1, C, anl_eq (a := rg (u.2 0) 2088 a0) (v := u) rfl ?_, ?_, by omega, by omega, by omega, by omega, by omega, put_same (Same.rf u), rfl⟩
      · rw [if_neg hx]
        refine anl_eq (a := nI ch) (v := u) (by rw [← h0]; rfl) ?_
        refine acl_eq (c1 := 0) (d1 := 0) (c2 := 0) (d2 := 0) (room_lt 60 1 h60 (by omega) hlt) ?_
        refine anl_eq (a := nI ch) (v := u) (by rw [← h0]; rfl) ?_
        exact acl_eq (c1 := 0) (d1 := 0) (c2 := 0) (d2 := 0) (room_lt 65 2 h65 (by omega) hlt) (put_tail a0 a1 _ h0 h60 h65 (by omega))
      · exact kb_put a0 a1 (u.2 1) (u.2 2) hv h ⟨hlt, by omega⟩ ⟨j, hj, hCj⟩ u rfl rfl rfl (fun _ _ => rfl) (fun _ _ => rfl) h60 h65
    · have hE : ch = C := by omega
      have hj11 : j ≤ 10 := by
        rcases (by omega : j ≤ 10 ∨ j = 11) with z | z
        · exact z
        · rw [z] at hCj
          have : (512 * 2 ^ 11 : Nat) = 1048576 := by decide
          omega
      have hC2 : 2 * C = 512 * 2 ^ (j + 1) := by rw [hCj, Nat.pow_succ]; omega
      have r1 := room_eq 60 1 (u := u) h60 (by omega) hC.2
      have r2 := room_eq 65 2 (u := si (sf u 1 (va_cpy (u.2 1) (fun _ => 0) 0 0 C)) 60 (nI (2 * C))) (C := C) h65 (by omega) hC.2
      have hw : Same [0, 60, 65] [0, 1, 2] u (si (sf (si (sf u 1 (va_cpy (u.2 1) (fun _ => 0) 0 0 C)) 60 (nI (2 * C))) 2 (va_cpy ((si (sf u 1 (va_cpy (u.2 1) (fun _ => 0) 0 0 C)) 60 (nI (2 * C))).2 2) (fun _ => 0) 0 0 C)) 65 (nI (2 * C))) := ((Same_sf (by decide)).trans (Same_si (by decide))).trans ((Same_sf (by decide)).trans (Same_si (by decide)))
      have hcp : ∀ (f : Nat → Int32) k, k < ch → va_cpy f (fun _ => 0) 0 0 C k = f k := fun f k hk => by
        show (if 0 ≤ k ∧ k < 0 + C then f (0 + (k - 0)) else 0) = f k
        rw [if_pos ⟨by omega, by omega⟩]
        congr 1
        omega
      refine ⟨0, put2 (2 * C) ch a0 a1 (rg (u.2 0) 2088 a0) (si (sf (si (sf u 1 (va_cpy (u.2 1) (fun _ => 0) 0 0 C)) 60 (nI (2 * C))) 2 (va_cpy ((si (sf u 1 (va_cpy (u.2 1) (fun _ => 0) 0 0 C)) 60 (nI (2 * C))).2 2) (fun _ => 0) 0 0 C)) 65 (nI (2 * C))), 2, 4 * C, ch + 1, 2 * C, anl_eq (a := rg (u.2 0) 2088 a0) (v := u) rfl ?_, ?_, by omega, by omega, by omega, by omega, by omega, put_same hw, rfl⟩
      · rw [if_neg hx]
        refine anl_eq (a := nI ch) (v := u) (by rw [← h0]; rfl) ?_
        rw [hE]
        have ec : (2 : Nat) = 1 + (1 + 0) := rfl
        have ed : 4 * C = 2 * C + (2 * C + 0) := by omega
        rw [ec, ed]
        refine acl_eq r1 ?_
        refine anl_eq (a := nI C) (v := si (sf u 1 (va_cpy (u.2 1) (fun _ => 0) 0 0 C)) 60 (nI (2 * C))) (by rw [← hE, ← h0]; rfl) ?_
        exact acl_eq r2 (put_tail a0 a1 _ (by rw [← hE, ← h0]; rfl) rfl rfl (by omega))
      · exact kb_put a0 a1 (va_cpy (u.2 1) (fun _ => 0) 0 0 C) (va_cpy (u.2 2) (fun _ => 0) 0 0 C) hv h ⟨by omega, by omega⟩ ⟨j + 1, by omega, hC2⟩ _ rfl rfl rfl (fun k hk => hcp _ k hk) (fun k hk => hcp _ k hk) rfl rfl
theorem ap_put (a0 a1 : Int32) (hv : a1.toInt ≤ bB ∨ (¬ a0 = 0 ∧ ¬ a0 = 2)) : AP [0, 60, 65] [0, 1, 2] 1 (x_X1_put a0 a1) := fun u ch C h hch => by
  obtain ⟨r, v, c, d, ch', C', a1, a2, a3, a4, a5, a6, a7, a8, -⟩ := aq_put a0 a1 hv u ch C h hch
  exact ⟨r, v, c, d, ch', C', a1, a2, a3, a4, a5, a6, a7, a8⟩

