/-! ===== programs over the class's state: NG makes nothing, AG may make cells (their number, and their slots, come with the answer) ===== -/
abbrev NG (β : Type) : Type := MS → Option (β × MS)
abbrev AG (β : Type) : Type := MS → Option (β × MS × Nat × Nat)
def nrt {β : Type} (x : β) : NG β := fun u => some (x, u)
def art {β : Type} (x : β) : AG β := fun u => some (x, u, 0, 0)
def nog {β : Type} (b : Bool) (p : NG β) : NG β := fun u => match b with
  | true => p u
  | false => none
def nli {β : Type} (x : Int32) (c : Int32 → NG β) : NG β := c x
def ali {β : Type} (x : Int32) (c : Int32 → AG β) : AG β := c x
def noi {β : Type} (x : Option Int32) (c : Int32 → NG β) : NG β := match x with
  | some a => c a
  | none => fun _ => none
def ncl {α β : Type} (p : NG α) (c : α → NG β) : NG β := fun u => match p u with
  | some (a, v) => c a v
  | none => none
def anl {α β : Type} (p : NG α) (c : α → AG β) : AG β := fun u => match p u with
  | some (a, v) => c a v
  | none => none
def acl {α β : Type} (p : AG α) (c : α → AG β) : AG β := fun u => match p u with
  | some (a, v, c1, d1) => (match c a v with
    | some (b, w, c2, d2) => some (b, w, c1 + c2, d1 + d2)
    | none => none)
  | none => none
def nRF (k : Nat) : NG Int32 := fun u => some (u.1 k, u)
def nWF (k : Nat) (v : Int32) : NG Unit := fun u => some ((), si u k v)
def nGT (a n : Nat) (i : Int32) : NG Int32 := fun u => some (rg (u.2 a) n i, u)
def nGD (a c : Nat) (i : Int32) : NG Int32 := fun u => some (rg (u.2 a) (u.1 c).toNatClampNeg i, u)
def nGS (x : Int32) (a b : Nat) (i : Int32) : NG Int32 := fun u => some (rg (sl x (u.2 a) (u.2 b)) 148 i, u)
def nST (a n : Nat) (i v : Int32) : NG Unit := fun u => some ((), sf u a (rs (u.2 a) n i v))
def nSD (a c : Nat) (i v : Int32) : NG Unit := fun u => some ((), sf u a (rs (u.2 a) (u.1 c).toNatClampNeg i v))
def nSS (x : Int32) (a b : Nat) (i v : Int32) : NG Unit := fun u => some ((), sl x (sf u a (rs (u.2 a) 148 i v)) (sf u b (rs (u.2 b) 148 i v)))
def nFL (a n : Nat) (v : Int32) : NG Unit := fun u => some ((), sf u a (fl n v (u.2 a)))
def nFS (x : Int32) (a b : Nat) (v : Int32) : NG Unit := fun u => some ((), sl x (sf u a (fl 148 v (u.2 a))) (sf u b (fl 148 v (u.2 b))))
theorem nog_some {β : Type} {b : Bool} {p : NG β} {u : MS} {y : β × MS} (h : nog b p u = some y) : b = true ∧ p u = some y := by
  cases b with
  | true => exact ⟨rfl, h⟩
  | false => cases h
theorem nli_some {β : Type} {x : Int32} {c : Int32 → NG β} {u : MS} {y : β × MS} (h : nli x c u = some y) : ∃ v : Int32, x = v ∧ c v u = some y := ⟨x, rfl, h⟩
theorem ali_some {β : Type} {x : Int32} {c : Int32 → AG β} {u : MS} {y : β × MS × Nat × Nat} (h : ali x c u = some y) : ∃ v : Int32, x = v ∧ c v u = some y := ⟨x, rfl, h⟩
theorem noi_some {β : Type} {x : Option Int32} {c : Int32 → NG β} {u : MS} {y : β × MS} (h : noi x c u = some y) : ∃ a : Int32, x = some a ∧ c a u = some y := by
  cases x with
  | none => cases h
  | some a => exact ⟨a, rfl, h⟩
theorem ncl_some {α β : Type} {p : NG α} {c : α → NG β} {u : MS} {y : β × MS} (h : ncl p c u = some y) : ∃ (a : α) (v : MS), p u = some (a, v) ∧ c a v = some y := by
  unfold ncl at h
  cases hp : p u with
  | none => rw [hp] at h; cases h
  | some q => rw [hp] at h; exact ⟨q.1, q.2, rfl, h⟩
theorem anl_some {α β : Type} {p : NG α} {c : α → AG β} {u : MS} {y : β × MS × Nat × Nat} (h : anl p c u = some y) : ∃ (a : α) (v : MS), p u = some (a, v) ∧ c a v = some y := by
  unfold anl at h
  cases hp : p u with
  | none => rw [hp] at h; cases h
  | some q => rw [hp] at h; exact ⟨q.1, q.2, rfl, h⟩
theorem acl_some {α β : Type} {p : AG α} {c : α → AG β} {u w : MS} {b : β} {C D : Nat} (h : acl p c u = some (b, w, C, D)) : ∃ (a : α) (v : MS) (c1 d1 c2 d2 : Nat), p u = some (a, v, c1, d1) ∧ c a v = some (b, w, c2, d2) ∧ C = c1 + c2 ∧ D = d1 + d2 := by
  unfold acl at h
  cases hp : p u with
  | none => rw [hp] at h; cases h
  | some q =>
    obtain ⟨a, v, c1, d1⟩ := q
    rw [hp] at h
    have h2 : (match c a v with | some (b, w, c2, d2) => some (b, w, c1 + c2, d1 + d2) | none => none) = some (b, w, C, D) := h
    cases hk : c a v with
    | none => rw [hk] at h2; cases h2
    | some r =>
      obtain ⟨b1, v1, c2, d2⟩ := r
      rw [hk] at h2
      obtain ⟨g1, g2, g3, g4⟩ : b1 = b ∧ v1 = w ∧ C = c1 + c2 ∧ D = d1 + d2 := by cases h2; exact ⟨rfl, rfl, rfl, rfl⟩
      rw [← g1, ← g2]
      exact ⟨a, v, c1, d1, c2, d2, rfl, hk, g3, g4⟩
theorem nRF_eq {k : Nat} {u v : MS} {x : Int32} (h : nRF k u = some (x, v)) : u.1 k = x ∧ u = v := by cases h; exact ⟨rfl, rfl⟩
theorem nWF_eq {k : Nat} {y : Int32} {u v : MS} {x : Unit} (h : nWF k y u = some (x, v)) : si u k y = v := by cases h; rfl
theorem nGT_eq {a n : Nat} {i : Int32} {u v : MS} {x : Int32} (h : nGT a n i u = some (x, v)) : rg (u.2 a) n i = x ∧ u = v := by cases h; exact ⟨rfl, rfl⟩
theorem nGD_eq {a c : Nat} {i : Int32} {u v : MS} {x : Int32} (h : nGD a c i u = some (x, v)) : rg (u.2 a) (u.1 c).toNatClampNeg i = x ∧ u = v := by cases h; exact ⟨rfl, rfl⟩
theorem nGS_eq {g : Int32} {a b : Nat} {i : Int32} {u v : MS} {x : Int32} (h : nGS g a b i u = some (x, v)) : rg (sl g (u.2 a) (u.2 b)) 148 i = x ∧ u = v := by cases h; exact ⟨rfl, rfl⟩
theorem nST_eq {a n : Nat} {i y : Int32} {u v : MS} {x : Unit} (h : nST a n i y u = some (x, v)) : sf u a (rs (u.2 a) n i y) = v := by cases h; rfl
theorem nSD_eq {a c : Nat} {i y : Int32} {u v : MS} {x : Unit} (h : nSD a c i y u = some (x, v)) : sf u a (rs (u.2 a) (u.1 c).toNatClampNeg i y) = v := by cases h; rfl
theorem nSS_eq {g : Int32} {a b : Nat} {i y : Int32} {u v : MS} {x : Unit} (h : nSS g a b i y u = some (x, v)) : sl g (sf u a (rs (u.2 a) 148 i y)) (sf u b (rs (u.2 b) 148 i y)) = v := by cases h; rfl
theorem nFL_eq {a n : Nat} {y : Int32} {u v : MS} {x : Unit} (h : nFL a n y u = some (x, v)) : sf u a (fl n y (u.2 a)) = v := by cases h; rfl
theorem nFS_eq {g : Int32} {a b : Nat} {y : Int32} {u v : MS} {x : Unit} (h : nFS g a b y u = some (x, v)) : sl g (sf u a (fl 148 y (u.2 a))) (sf u b (fl 148 y (u.2 b))) = v := by cases h; rfl
theorem nrt_eq {v r : Int32} {u u1 : MS} (h : nrt v u = some (r, u1)) : some (v, u) = some (r, u1) := h
theorem art_eq {v r : Int32} {u u1 : MS} {c d : Nat} (h : art v u = some (r, u1, c, d)) : some (v, u, 0, 0) = some (r, u1, c, d) := h

def hd6 (j : Nat) : Int32 := match hdF j with
  | .int x => x
  | _ => 0
theorem hdF_int (j : Nat) : hdF j = .int (hd6 j) := by
  unfold hd6 hdF
  match j with
  | 0 => rfl
  | 1 => rfl
  | 2 => rfl
  | 3 => rfl
  | 4 => rfl
  | j + 5 => rfl

theorem c_upd2 {A : Nat → Prop} {D : va_G} {cl : List vw_C} {ws : va_W} {H H1 : Heap} (hP : va_P D cl ws H) (hD : va_D A ws) {i j h0 a0 q : Nat} {e0 e1 e3 e2 : va_E} (hi : ws[i]? = some (h0, e0)) (hj : ws[j]? = some (a0, e1)) (hij : ¬ i = j) (hk : ∀ q : Nat, q < H.size → ¬ va_A [(h0, e0), (a0, e1)] H.size q → H1[q]? = H[q]?) (hP1 : va_P D cl [(h0, e3), (q, e2)] H1) (hD1 : va_D (va_A [(h0, e0), (a0, e1)] H.size) [(h0, e3), (q, e2)]) (hF : ∀ q, va_A [(h0, e0), (a0, e1)] H.size q → A q) :
    va_P D cl ((ws.set i (h0, e3)).set j (q, e2)) H1 ∧ va_D A ((ws.set i (h0, e3)).set j (q, e2)) := by
  have hil : i < ws.length := (List.getElem?_eq_some_iff.mp hi).1
  have hjl : j < ws.length := (List.getElem?_eq_some_iff.mp hj).1
  have gj : ((ws.set i (h0, e3)).set j (q, e2))[j]? = some (q, e2) := List.getElem?_set_self (by rw [List.length_set]; exact hjl)
  have gi_ : ((ws.set i (h0, e3)).set j (q, e2))[i]? = some (h0, e3) := by rw [List.getElem?_set_ne (fun h => hij h.symm), List.getElem?_set_self hil]
  have go : ∀ k : Nat, ¬ k = i → ¬ k = j → ((ws.set i (h0, e3)).set j (q, e2))[k]? = ws[k]? := fun k h1 h2 => by rw [List.getElem?_set_ne (fun h => h2 h.symm), List.getElem?_set_ne (fun h => h1 h.symm)]
  have hq : ∀ (k : Nat) (x : Nat × va_E), ¬ k = i → ¬ k = j → ws[k]? = some x → ¬ x.1 = q := by
    intro k x h1 h2 hx e
    have hm : va_A [(h0, e0), (a0, e1)] H.size q := hD1.2 1 (q, e2) rfl
    rcases hm with ⟨k2, y, z⟩ | z
    · match k2, z with
      | 0, z => exact h1 (hD.1 k i x (h0, e0) hx hi (e.trans (congrArg Prod.fst (Option.some.inj z)).symm))
      | 1, z => exact h2 (hD.1 k j x (a0, e1) hx hj (e.trans (congrArg Prod.fst (Option.some.inj z)).symm))
      | k2 + 2, z => cases z
    · have := (hP k x hx).lt
      omega
  have hqh : ¬ h0 = q := fun e => absurd (hD1.1 0 1 (h0, e3) (q, e2) rfl rfl e) (by decide)
  refine ⟨fun k x hx => ?_, fun a b x y hx hy hxy => ?_, fun k x hx => ?_⟩
  · by_cases h2 : k = j
    · rw [h2] at hx; rw [← Option.some.inj (gj.symm.trans hx)]; exact hP1 1 _ rfl
    · by_cases h1 : k = i
      · rw [h1] at hx; rw [← Option.some.inj (gi_.symm.trans hx)]; exact hP1 0 _ rfl
      · rw [go k h1 h2] at hx
        refine (hP k x hx).kept (hk x.1 (hP k x hx).lt (fun z => ?_))
        rcases z with ⟨k2, y, z⟩ | z
        · match k2, z with
          | 0, z => exact h1 (hD.1 k i x (h0, e0) hx hi (congrArg Prod.fst (Option.some.inj z)).symm)
          | 1, z => exact h2 (hD.1 k j x (a0, e1) hx hj (congrArg Prod.fst (Option.some.inj z)).symm)
          | k2 + 2, z => cases z
        · exact absurd (hP k x hx).lt (Nat.not_lt.mpr z)
  · have key : ∀ (k : Nat) (z : Nat × va_E), ((ws.set i (h0, e3)).set j (q, e2))[k]? = some z → (k = j ∧ z.1 = q) ∨ (¬ k = j ∧ ∃ z2 : Nat × va_E, ws[k]? = some z2 ∧ z2.1 = z.1) := by
      intro k z hz
      by_cases h2 : k = j
      · rw [h2] at hz
        exact Or.inl ⟨h2, (congrArg Prod.fst (Option.some.inj (gj.symm.trans hz))).symm⟩
      · by_cases h1 : k = i
        · rw [h1] at hz
          exact Or.inr ⟨h2, (h0, e0), by rw [h1]; exact hi, show h0 = z.1 from congrArg Prod.fst (show (h0, e3) = z from Option.some.inj (gi_.symm.trans hz))⟩
        · rw [go k h1 h2] at hz
          exact Or.inr ⟨h2, z, hz, rfl⟩
    have nq : ∀ (k : Nat) (z2 : Nat × va_E), ¬ k = j → ws[k]? = some z2 → ¬ z2.1 = q := by
      intro k z2 h2 hz
      by_cases h1 : k = i
      · rw [h1] at hz
        rw [← Option.some.inj (hi.symm.trans hz)]
        exact hqh
      · exact hq k z2 h1 h2 hz
    rcases key a x hx with ⟨ea, fa⟩ | ⟨ea, xa, ga, fa⟩ <;> rcases key b y hy with ⟨eb, fb⟩ | ⟨eb, yb, gb_, fb⟩
    · exact ea.trans eb.symm
    · exact absurd (fb.trans (hxy.symm.trans fa)) (nq b yb eb gb_)
    · exact absurd (fa.trans (hxy.trans fb)) (nq a xa ea ga)
    · exact hD.1 a b xa yb ga gb_ (fa.trans (hxy.trans fb.symm))
  · by_cases h2 : k = j
    · rw [h2] at hx; rw [← Option.some.inj (gj.symm.trans hx)]; exact hF _ (hD1.2 1 (q, e2) rfl)
    · by_cases h1 : k = i
      · rw [h1] at hx; rw [← Option.some.inj (gi_.symm.trans hx)]; exact hD.2 i (h0, e0) hi
      · rw [go k h1 h2] at hx; exact hD.2 k x hx
def x_room (c k : Nat) (x : Int32) (u : MS) : Option (Int32 × MS × Nat × Nat) := if x < nI (u.1 c).toNatClampNeg then some (0, u, 0, 0) else og (decide (max (x.toNatClampNeg + 1) (2 * (u.1 c).toNatClampNeg) ≤ 16777216)) (some (0, si (sf u k (va_cpy (u.2 k) (fun _ => 0) 0 0 (u.1 c).toNatClampNeg)) c (nI (max (x.toNatClampNeg + 1) (2 * (u.1 c).toNatClampNeg))), 1, max (x.toNatClampNeg + 1) (2 * (u.1 c).toNatClampNeg)))

def lawAt (G : gG) (T : va_W) (la : Nat) (lq : Nat → Nat) (L : MS) : Prop := ∃ j : Nat → Nat, T[j 0]? = some (la, .inr (5, [.int (L.1 0), .int (L.1 1), .int (L.1 2), .int (L.1 3), .int (L.1 4), .int (L.1 5), .ref (lq 0), .ref (lq 1), .ref (lq 2)])) ∧ T[j 1]? = some (lq 0, .inr (10, [.ref (lq 3)])) ∧ T[j 4]? = some (lq 3, .inl (gI G, 300, .inl (L.2 0))) ∧ T[j 2]? = some (lq 1, .inr (10, [.ref (lq 4)])) ∧ T[j 5]? = some (lq 4, .inl (gI G, 20, .inl (L.2 1))) ∧ T[j 3]? = some (lq 2, .inr (10, [.ref (lq 5)])) ∧ T[j 6]? = some (lq 5, .inl (gI G, 20, .inl (L.2 2)))
section CL
variable {p : Program} {l : Launch} {e : Env} {R : Room} {s : State} {m : MethodId} {args : Array Value} {below : List Frame} {meth : Method} {c : Code} {H : Heap} {locs : List Loc} {Q' : State → Prop} {cc : ByteArray} {nL pc cells slots : Nat} {ls : Array Slot} {rest st0 : List Value} {G : gG} {Z : gC} {Q : Nat → Nat} {D : Nat × Nat} {T : va_W} {A : Nat → Prop} {u u1 L : MS} {own : String} {la : Nat} {lq : Nat → Nat}
theorem cW_tail (j : Nat) : (cW G Q D T u)[j + 70]? = T[j]? := rfl
theorem lawAt.he0 (hL : lawAt G T la lq L) : (cW G Q D T u)[hL.choose 0 + 70]? = some (la, .inr (5, [.int (L.1 0), .int (L.1 1), .int (L.1 2), .int (L.1 3), .int (L.1 4), .int (L.1 5), .ref (lq 0), .ref (lq 1), .ref (lq 2)])) := (cW_tail _).trans hL.choose_spec.1
theorem lg_X11_125 (hC : cX p c cc nL s m args RX11 G Z A) (hH : cH G Q D T A u s H locs) (hL : lawAt G T la lq L) (hdg : decode cc pc = .ok (.getfield 125, 3)) (kk : W p l e R s m args below meth c H locs cells slots Q' (F0 m (pc + 3) ls (.int (L.1 3) :: rest))) : W p l e R s m args below meth c H locs cells slots Q' (F0 m pc ls (.ref la :: rest)) :=
  va_getN (D := gD G) (ci := 5) (v := .int (L.1 3)) (C := RX4) (T := TX4) (N := 9) hC.1 hC.2.1 hC.2.2.2.2.1 wKin_X4 hC.2.2.2.1 hC.2.2.2.2.2.1.1 hH.1 _ hL.he0 rfl 3 (by decide) (hC.2.2.2.2.2.1.nf 1 rfl) (fun _ h9 => h9) rfl hdg kk
theorem lg_X11_249 (hC : cX p c cc nL s m args RX11 G Z A) (hH : cH G Q D T A u s H locs) (hL : lawAt G T la lq L) (hdg : decode cc pc = .ok (.getfield 249, 3)) (kk : W p l e R s m args below meth c H locs cells slots Q' (F0 m (pc + 3) ls (.int (L.1 0) :: rest))) : W p l e R s m args below meth c H locs cells slots Q' (F0 m pc ls (.ref la :: rest)) :=
  va_getN (D := gD G) (ci := 5) (v := .int (L.1 0)) (C := RX4) (T := TX4) (N := 9) hC.1 hC.2.1 hC.2.2.2.2.1 wKin_X4 hC.2.2.2.1 hC.2.2.2.2.2.1.1 hH.1 _ hL.he0 rfl 0 (by decide) (hC.2.2.2.2.2.1.nf 4 rfl) (fun _ h9 => h9) rfl hdg kk
theorem lg_X11_263 (hC : cX p c cc nL s m args RX11 G Z A) (hH : cH G Q D T A u s H locs) (hL : lawAt G T la lq L) (hdg : decode cc pc = .ok (.getfield 263, 3)) (kk : W p l e R s m args below meth c H locs cells slots Q' (F0 m (pc + 3) ls (.int (L.1 2) :: rest))) : W p l e R s m args below meth c H locs cells slots Q' (F0 m pc ls (.ref la :: rest)) :=
  va_getN (D := gD G) (ci := 5) (v := .int (L.1 2)) (C := RX4) (T := TX4) (N := 9) hC.1 hC.2.1 hC.2.2.2.2.1 wKin_X4 hC.2.2.2.1 hC.2.2.2.2.2.1.1 hH.1 _ hL.he0 rfl 2 (by decide) (hC.2.2.2.2.2.1.nf 5 rfl) (fun _ h9 => h9) rfl hdg kk
theorem lg_X11_320 (hC : cX p c cc nL s m args RX11 G Z A) (hH : cH G Q D T A u s H locs) (hL : lawAt G T la lq L) (hdg : decode cc pc = .ok (.getfield 320, 3)) (kk : W p l e R s m args below meth c H locs cells slots Q' (F0 m (pc + 3) ls (.int (L.1 4) :: rest))) : W p l e R s m args below meth c H locs cells slots Q' (F0 m pc ls (.ref la :: rest)) :=
  va_getN (D := gD G) (ci := 5) (v := .int (L.1 4)) (C := RX4) (T := TX4) (N := 9) hC.1 hC.2.1 hC.2.2.2.2.1 wKin_X4 hC.2.2.2.1 hC.2.2.2.2.2.1.1 hH.1 _ hL.he0 rfl 4 (by decide) (hC.2.2.2.2.2.1.nf 7 rfl) (fun _ h9 => h9) rfl hdg kk
theorem lg_X3_68 (hC : cX p c cc nL s m args RX3 G Z A) (hH : cH G Q D T A u s H locs) (hL : lawAt G T la lq L) (hdg : decode cc pc = .ok (.getfield 68, 3)) (kk : W p l e R s m args below meth c H locs cells slots Q' (F0 m (pc + 3) ls (.int (L.1 1) :: rest))) : W p l e R s m args below meth c H locs cells slots Q' (F0 m pc ls (.ref la :: rest)) :=
  va_getN (D := gD G) (ci := 5) (v := .int (L.1 1)) (C := RX4) (T := TX4) (N := 9) hC.1 hC.2.1 hC.2.2.2.2.1 wKin_X4 hC.2.2.2.1 hC.2.2.2.2.2.1.1 hH.1 _ hL.he0 rfl 1 (by decide) (hC.2.2.2.2.2.1.nf 8 rfl) (fun _ h9 => h9) rfl hdg kk
theorem lg_X3_80 (hC : cX p c cc nL s m args RX3 G Z A) (hH : cH G Q D T A u s H locs) (hL : lawAt G T la lq L) (hdg : decode cc pc = .ok (.getfield 80, 3)) (kk : W p l e R s m args below meth c H locs cells slots Q' (F0 m (pc + 3) ls (.int (L.1 3) :: rest))) : W p l e R s m args below meth c H locs cells slots Q' (F0 m pc ls (.ref la :: rest)) :=
  va_getN (D := gD G) (ci := 5) (v := .int (L.1 3)) (C := RX4) (T := TX4) (N := 9) hC.1 hC.2.1 hC.2.2.2.2.1 wKin_X4 hC.2.2.2.1 hC.2.2.2.2.2.1.1 hH.1 _ hL.he0 rfl 3 (by decide) (hC.2.2.2.2.2.1.nf 9 rfl) (fun _ h9 => h9) rfl hdg kk
theorem lg_X3_87 (hC : cX p c cc nL s m args RX3 G Z A) (hH : cH G Q D T A u s H locs) (hL : lawAt G T la lq L) (hdg : decode cc pc = .ok (.getfield 87, 3)) (kk : W p l e R s m args below meth c H locs cells slots Q' (F0 m (pc + 3) ls (.ref (lq 2) :: rest))) : W p l e R s m args below meth c H locs cells slots Q' (F0 m pc ls (.ref la :: rest)) :=
  va_getN (D := gD G) (ci := 5) (v := .ref (lq 2)) (C := RX4) (T := TX4) (N := 9) hC.1 hC.2.1 hC.2.2.2.2.1 wKin_X4 hC.2.2.2.1 hC.2.2.2.2.2.1.1 hH.1 _ hL.he0 rfl 8 (by decide) (hC.2.2.2.2.2.1.nf 10 rfl) (fun _ h9 => h9) rfl hdg kk
theorem lg_X3_103 (hC : cX p c cc nL s m args RX3 G Z A) (hH : cH G Q D T A u s H locs) (hL : lawAt G T la lq L) (hdg : decode cc pc = .ok (.getfield 103, 3)) (kk : W p l e R s m args below meth c H locs cells slots Q' (F0 m (pc + 3) ls (.ref (lq 1) :: rest))) : W p l e R s m args below meth c H locs cells slots Q' (F0 m pc ls (.ref la :: rest)) :=
  va_getN (D := gD G) (ci := 5) (v := .ref (lq 1)) (C := RX4) (T := TX4) (N := 9) hC.1 hC.2.1 hC.2.2.2.2.1 wKin_X4 hC.2.2.2.1 hC.2.2.2.2.2.1.1 hH.1 _ hL.he0 rfl 7 (by decide) (hC.2.2.2.2.2.1.nf 11 rfl) (fun _ h9 => h9) rfl hdg kk
theorem lg_X4_14 (hC : cX p c cc nL s m args RX4 G Z A) (hH : cH G Q D T A u s H locs) (hL : lawAt G T la lq L) (hdg : decode cc pc = .ok (.getfield 14, 3)) (kk : W p l e R s m args below meth c H locs cells slots Q' (F0 m (pc + 3) ls (.ref (lq 0) :: rest))) : W p l e R s m args below meth c H locs cells slots Q' (F0 m pc ls (.ref la :: rest)) :=
  va_get (D := gD G) (ci := 5) (v := .ref (lq 0)) (C := RX4) (T := TX4) (N := 9) hC.1 hC.2.1 hC.2.2.2.2.1 wKin_X4 hC.2.2.2.1 hC.2.2.2.2.2.1.1 hH.1 _ hL.he0 rfl 6 (by decide) (hC.2.2.2.2.1 _ wka47) (fun _ h9 => h9) rfl hdg kk
theorem lg_X4_18 (hC : cX p c cc nL s m args RX4 G Z A) (hH : cH G Q D T A u s H locs) (hL : lawAt G T la lq L) (hdg : decode cc pc = .ok (.getfield 18, 3)) (kk : W p l e R s m args below meth c H locs cells slots Q' (F0 m (pc + 3) ls (.ref (lq 1) :: rest))) : W p l e R s m args below meth c H locs cells slots Q' (F0 m pc ls (.ref la :: rest)) :=
  va_get (D := gD G) (ci := 5) (v := .ref (lq 1)) (C := RX4) (T := TX4) (N := 9) hC.1 hC.2.1 hC.2.2.2.2.1 wKin_X4 hC.2.2.2.1 hC.2.2.2.2.2.1.1 hH.1 _ hL.he0 rfl 7 (by decide) (hC.2.2.2.2.1 _ wka48) (fun _ h9 => h9) rfl hdg kk
theorem lr_0 {index : Nat} {x : Int32} (hC : cX p c cc nL s m args own G Z A) (hH : cH G Q D T A u s H locs) (hL : lawAt G T la lq L) (hlk : Cond.methodLink own index yX9_get ∈ wK) (hR : 1 ≤ R.frames ∧ 21 ≤ R.locals) (hls : ls.size = nL) (hcat : (rest.map fun v => v.category).sum ≤ 8) (hf : cells ≤ R.cells ∧ slots ≤ R.slots) (hdg : decode cc pc = .ok (.invokevirtual index, 3)) (kk : W p l e R s m args below meth c H locs cells slots Q' (F0 m (pc + 3) ls (.int (rg (L.2 0) 300 x) :: rest))) : W p l e R s m args below meth c H locs cells slots Q' (F0 m pc ls (.int x :: .ref (lq 0) :: rest)) := by
  obtain ⟨j, hj⟩ := hL
  exact rget (i := j 1 + 70) (j := j 4 + 70) hC hH ((cW_tail _).trans hj.2.1) ((cW_tail _).trans hj.2.2.1) (by decide) hlk hR hls hcat hf hdg kk
theorem lr_1 {index : Nat} {x : Int32} (hC : cX p c cc nL s m args own G Z A) (hH : cH G Q D T A u s H locs) (hL : lawAt G T la lq L) (hlk : Cond.methodLink own index yX9_get ∈ wK) (hR : 1 ≤ R.frames ∧ 21 ≤ R.locals) (hls : ls.size = nL) (hcat : (rest.map fun v => v.category).sum ≤ 8) (hf : cells ≤ R.cells ∧ slots ≤ R.slots) (hdg : decode cc pc = .ok (.invokevirtual index, 3)) (kk : W p l e R s m args below meth c H locs cells slots Q' (F0 m (pc + 3) ls (.int (rg (L.2 1) 20 x) :: rest))) : W p l e R s m args below meth c H locs cells slots Q' (F0 m pc ls (.int x :: .ref (lq 1) :: rest)) := by
  obtain ⟨j, hj⟩ := hL
  exact rget (i := j 2 + 70) (j := j 5 + 70) hC hH ((cW_tail _).trans hj.2.2.2.1) ((cW_tail _).trans hj.2.2.2.2.1) (by decide) hlk hR hls hcat hf hdg kk
theorem lr_2 {index : Nat} {x : Int32} (hC : cX p c cc nL s m args own G Z A) (hH : cH G Q D T A u s H locs) (hL : lawAt G T la lq L) (hlk : Cond.methodLink own index yX9_get ∈ wK) (hR : 1 ≤ R.frames ∧ 21 ≤ R.locals) (hls : ls.size = nL) (hcat : (rest.map fun v => v.category).sum ≤ 8) (hf : cells ≤ R.cells ∧ slots ≤ R.slots) (hdg : decode cc pc = .ok (.invokevirtual index, 3)) (kk : W p l e R s m args below meth c H locs cells slots Q' (F0 m (pc + 3) ls (.int (rg (L.2 2) 20 x) :: rest))) : W p l e R s m args below meth c H locs cells slots Q' (F0 m pc ls (.int x :: .ref (lq 2) :: rest)) := by
  obtain ⟨j, hj⟩ := hL
  exact rget (i := j 3 + 70) (j := j 6 + 70) hC hH ((cW_tail _).trans hj.2.2.2.2.2.1) ((cW_tail _).trans hj.2.2.2.2.2.2) (by decide) hlk hR hls hcat hf hdg kk
theorem mroom_0 {x r : Int32} {c1 d1 index : Nat} (hC : cX p c cc nL s m args own G Z A) (hH : cH G Q D T A u s H locs) (hF : x_room 60 1 x u = some (r, u1, c1, d1)) (hlk : Cond.methodLink own index yX9_makeRoomFor ∈ wK) (hR : 3 ≤ R.frames ∧ 85 ≤ R.locals) (hls : ls.size = nL) (hcat : (rest.map fun v => v.category).sum ≤ 8) (hf : cells + c1 ≤ R.cells ∧ slots + d1 ≤ R.slots) (hdg : decode cc pc = .ok (.invokevirtual index, 3)) (kk : ∀ (D : Nat × Nat) (H : Heap) (locs : List Loc), cH G Q D T A u1 s H locs → W p l e R s m args below meth c H locs (cells + c1) (slots + d1) Q' (F0 m (pc + 3) ls rest)) : W p l e R s m args below meth c H locs cells slots Q' (F0 m pc ls (.int x :: .ref (Q 20) :: rest)) := by
  have hle := cH.sub hC hH
  obtain ⟨hx, hb, hml, hown, hts, hB, hE, hA⟩ := hC
  have hi : (cW G Q D T u)[12]? = some (Q 20, .inr (10, [.ref D.1])) := rfl
  have hj : (cW G Q D T u)[13]? = some (D.1, .inl (gI G, (u.1 60).toNatClampNeg, .inl (u.2 1))) := rfl
  have hP2 : va_P (gD G) vwCl [(Q 20, .inr (10, [.ref D.1])), (D.1, .inl (gI G, (u.1 60).toNatClampNeg, .inl (u.2 1)))] H := fun k q hk => match k, hk with | 0, hk => by cases Option.some.inj hk; exact hH.1 12 _ hi | 1, hk => by cases Option.some.inj hk; exact hH.1 13 _ hj
  have hD2 : va_D (va_A (cW G Q D T u) H.size) [(Q 20, .inr (10, [.ref D.1])), (D.1, .inl (gI G, (u.1 60).toNatClampNeg, .inl (u.2 1)))] := c_two hH.2.1 hi hj (by decide) _
  have hFF : ∀ q, va_A [(Q 20, .inr (10, [.ref D.1])), (D.1, .inl (gI G, (u.1 60).toNatClampNeg, .inl (u.2 1)))] H.size q → A q := fun q hq => by
    rcases hq with ⟨k, e, h⟩ | h
    · exact hle q (hD2.2 k (q, e) h)
    · exact hle q (Or.inr h)
  unfold x_room at hF
  by_cases hxn : x < nI (u.1 60).toNatClampNeg
  · rw [if_pos hxn] at hF
    obtain ⟨f1, f2, f3⟩ : u = u1 ∧ 0 = c1 ∧ 0 = d1 := by cases hF; exact ⟨rfl, rfl, rfl⟩
    subst f1
    subst f2
    subst f3
    exact va_csv (va_Run.run (va_runV (As := [.int x]) (rest := rest) ⟨hx, hb, hml, hown, hts⟩ (c_Row_roomx l G _ _ _ _ x (gl_top _) hxn) (cwV 1 hts (gdV hlk wka738 wka739 wka753 gl_c_Row_roomx) rfl rfl rfl kVX9_makeRoomFor ⟨Nat.le_trans (by decide) hR.1, Nat.le_trans (by decide) hR.2⟩) (preV_p (As := [.int x]) hP2 hB rfl rfl) rfl rfl hls rfl (lv_room hcat) hdg hf)) (fun _ => kk D H locs hH)
  · rw [if_neg hxn] at hF
    obtain ⟨hg, hF⟩ := og_some hF
    have hg := of_decide_eq_true hg
    have hnb := gl_top (u.1 60)
    have hx0 : ¬ x < 0 := fun z => hxn (by
      have h1 := Int32.not_lt.mp (nI_pos (n := (u.1 60).toNatClampNeg) hnb)
      rw [Int32.lt_iff_toInt_lt] at z ⊢
      rw [Int32.le_iff_toInt_le] at h1
      omega)
    obtain ⟨j, hj2, rfl⟩ := nI_of hx0
    rw [nI_clamp hj2] at hg hF
    generalize hke : max (j + 1) (2 * (u.1 60).toNatClampNeg) = k at hg hF
    obtain ⟨f1, f2, f3⟩ : u1 = si (sf u 1 (va_cpy (u.2 1) (fun _ => 0) 0 0 (u.1 60).toNatClampNeg)) 60 (nI k) ∧ 1 = c1 ∧ k = d1 := by cases hF; exact ⟨rfl, rfl, rfl⟩
    subst f1
    subst f2
    subst f3
    have hnj : (u.1 60).toNatClampNeg ≤ j := Nat.not_lt.mp (fun z => hxn (nI_lt z hnb))
    refine va_callv (va_runV (As := [.int (nI j)]) (rest := rest) ⟨hx, hb, hml, hown, hts⟩ (c_Row_grow l G (Q 20) D.1 _ (u.2 1) j k H.size hnj hke hg) (cwV 1 hts (gdV hlk wka738 wka739 wka753 gl_c_Row_grow) rfl rfl rfl kVX9_makeRoomFor ⟨hR.1, hR.2⟩) (preV_m (As := [.int (nI j)]) hP2 hB hD2 rfl rfl) rfl rfl hls rfl (lv_room hcat) hdg hf) hH.2.2 (fun q _ h => hFF q h) hFF (fun u2 t H1 locs1 ht hvm hw hB1 hz1 hk1 hS => ?_)
    obtain ⟨q, hP1, hD1⟩ := hB1
    rw [ht] at hP1
    obtain ⟨g1, g2⟩ := c_upd2 hH.1 hH.2.1 hi hj (by decide) hk1 hP1 hD1 hFF
    have hkc : (nI k).toNatClampNeg = k := nI_clamp (by omega)
    have hcw : (((cW G Q D T u).set 12 (Q 20, .inr (10, [.ref q]))).set 13 (q, .inl (gI G, k, .inl (va_cpy (u.2 1) (fun _ => 0) 0 0 (u.1 60).toNatClampNeg)))) = cW G Q (q, D.2) T (si (sf u 1 (va_cpy (u.2 1) (fun _ => 0) 0 0 (u.1 60).toNatClampNeg)) 60 (nI k)) := by
      rw [show cW G Q (q, D.2) T (si (sf u 1 (va_cpy (u.2 1) (fun _ => 0) 0 0 (u.1 60).toNatClampNeg)) 60 (nI k)) = (((cW G Q D T u).set 12 (Q 20, .inr (10, [.ref q]))).set 13 (q, .inl (gI G, (nI k).toNatClampNeg, .inl (va_cpy (u.2 1) (fun _ => 0) 0 0 (u.1 60).toNatClampNeg)))) from rfl, hkc]
    rw [hcw] at g1 g2
    exact kk _ H1 locs1 ⟨g1, g2, hS⟩

theorem mroom_1 {x r : Int32} {c1 d1 index : Nat} (hC : cX p c cc nL s m args own G Z A) (hH : cH G Q D T A u s H locs) (hF : x_room 65 2 x u = some (r, u1, c1, d1)) (hlk : Cond.methodLink own index yX9_makeRoomFor ∈ wK) (hR : 3 ≤ R.frames ∧ 85 ≤ R.locals) (hls : ls.size = nL) (hcat : (rest.map fun v => v.category).sum ≤ 8) (hf : cells + c1 ≤ R.cells ∧ slots + d1 ≤ R.slots) (hdg : decode cc pc = .ok (.invokevirtual index, 3)) (kk : ∀ (D : Nat × Nat) (H : Heap) (locs : List Loc), cH G Q D T A u1 s H locs → W p l e R s m args below meth c H locs (cells + c1) (slots + d1) Q' (F0 m (pc + 3) ls rest)) : W p l e R s m args below meth c H locs cells slots Q' (F0 m pc ls (.int x :: .ref (Q 22) :: rest)) := by
  have hle := cH.sub hC hH
  obtain ⟨hx, hb, hml, hown, hts, hB, hE, hA⟩ := hC
  have hi : (cW G Q D T u)[14]? = some (Q 22, .inr (10, [.ref D.2])) := rfl
  have hj : (cW G Q D T u)[15]? = some (D.2, .inl (gI G, (u.1 65).toNatClampNeg, .inl (u.2 2))) := rfl
  have hP2 : va_P (gD G) vwCl [(Q 22, .inr (10, [.ref D.2])), (D.2, .inl (gI G, (u.1 65).toNatClampNeg, .inl (u.2 2)))] H := fun k q hk => match k, hk with | 0, hk => by cases Option.some.inj hk; exact hH.1 14 _ hi | 1, hk => by cases Option.some.inj hk; exact hH.1 15 _ hj
  have hD2 : va_D (va_A (cW G Q D T u) H.size) [(Q 22, .inr (10, [.ref D.2])), (D.2, .inl (gI G, (u.1 65).toNatClampNeg, .inl (u.2 2)))] := c_two hH.2.1 hi hj (by decide) _
  have hFF : ∀ q, va_A [(Q 22, .inr (10, [.ref D.2])), (D.2, .inl (gI G, (u.1 65).toNatClampNeg, .inl (u.2 2)))] H.size q → A q := fun q hq => by
    rcases hq with ⟨k, e, h⟩ | h
    · exact hle q (hD2.2 k (q, e) h)
    · exact hle q (Or.inr h)
  unfold x_room at hF
  by_cases hxn : x < nI (u.1 65).toNatClampNeg
  · rw [if_pos hxn] at hF
    obtain ⟨f1, f2, f3⟩ : u = u1 ∧ 0 = c1 ∧ 0 = d1 := by cases hF; exact ⟨rfl, rfl, rfl⟩
    subst f1
    subst f2
    subst f3
    exact va_csv (va_Run.run (va_runV (As := [.int x]) (rest := rest) ⟨hx, hb, hml, hown, hts⟩ (c_Row_roomx l G _ _ _ _ x (gl_top _) hxn) (cwV 1 hts (gdV hlk wka738 wka739 wka753 gl_c_Row_roomx) rfl rfl rfl kVX9_makeRoomFor ⟨Nat.le_trans (by decide) hR.1, Nat.le_trans (by decide) hR.2⟩) (preV_p (As := [.int x]) hP2 hB rfl rfl) rfl rfl hls rfl (lv_room hcat) hdg hf)) (fun _ => kk D H locs hH)
  · rw [if_neg hxn] at hF
    obtain ⟨hg, hF⟩ := og_some hF
    have hg := of_decide_eq_true hg
    have hnb := gl_top (u.1 65)
    have hx0 : ¬ x < 0 := fun z => hxn (by
      have h1 := Int32.not_lt.mp (nI_pos (n := (u.1 65).toNatClampNeg) hnb)
      rw [Int32.lt_iff_toInt_lt] at z ⊢
      rw [Int32.le_iff_toInt_le] at h1
      omega)
    obtain ⟨j, hj2, rfl⟩ := nI_of hx0
    rw [nI_clamp hj2] at hg hF
    generalize hke : max (j + 1) (2 * (u.1 65).toNatClampNeg) = k at hg hF
    obtain ⟨f1, f2, f3⟩ : u1 = si (sf u 2 (va_cpy (u.2 2) (fun _ => 0) 0 0 (u.1 65).toNatClampNeg)) 65 (nI k) ∧ 1 = c1 ∧ k = d1 := by cases hF; exact ⟨rfl, rfl, rfl⟩
    subst f1
    subst f2
    subst f3
    have hnj : (u.1 65).toNatClampNeg ≤ j := Nat.not_lt.mp (fun z => hxn (nI_lt z hnb))
    refine va_callv (va_runV (As := [.int (nI j)]) (rest := rest) ⟨hx, hb, hml, hown, hts⟩ (c_Row_grow l G (Q 22) D.2 _ (u.2 2) j k H.size hnj hke hg) (cwV 1 hts (gdV hlk wka738 wka739 wka753 gl_c_Row_grow) rfl rfl rfl kVX9_makeRoomFor ⟨hR.1, hR.2⟩) (preV_m (As := [.int (nI j)]) hP2 hB hD2 rfl rfl) rfl rfl hls rfl (lv_room hcat) hdg hf) hH.2.2 (fun q _ h => hFF q h) hFF (fun u2 t H1 locs1 ht hvm hw hB1 hz1 hk1 hS => ?_)
    obtain ⟨q, hP1, hD1⟩ := hB1
    rw [ht] at hP1
    obtain ⟨g1, g2⟩ := c_upd2 hH.1 hH.2.1 hi hj (by decide) hk1 hP1 hD1 hFF
    have hkc : (nI k).toNatClampNeg = k := nI_clamp (by omega)
    have hcw : (((cW G Q D T u).set 14 (Q 22, .inr (10, [.ref q]))).set 15 (q, .inl (gI G, k, .inl (va_cpy (u.2 2) (fun _ => 0) 0 0 (u.1 65).toNatClampNeg)))) = cW G Q (D.1, q) T (si (sf u 2 (va_cpy (u.2 2) (fun _ => 0) 0 0 (u.1 65).toNatClampNeg)) 65 (nI k)) := by
      rw [show cW G Q (D.1, q) T (si (sf u 2 (va_cpy (u.2 2) (fun _ => 0) 0 0 (u.1 65).toNatClampNeg)) 65 (nI k)) = (((cW G Q D T u).set 14 (Q 22, .inr (10, [.ref q]))).set 15 (q, .inl (gI G, (nI k).toNatClampNeg, .inl (va_cpy (u.2 2) (fun _ => 0) 0 0 (u.1 65).toNatClampNeg)))) from rfl, hkc]
    rw [hcw] at g1 g2
    exact kk _ H1 locs1 ⟨g1, g2, hS⟩

theorem ccV_iB {y : MethodName} {bytes : ByteArray} {maxL n index fr lo : Nat} {ret : Option FieldType} {As : List Value} {r : Int32} {q0 ci : Nat} {fs : List Value} {C : vw_C} {b : Nat} (hC : cX p c cc nL s m args own G Z A) (hH : cH G Q D T A u s H locs) (hM : Met l y (Cond.code y bytes maxL ret :: wK) { frames := fr, cells := 0, slots := 0, locals := lo } (va_Pc (.ref b :: As) (cPM G Z Q D T u H.size)) (cQi G Q T u1 r (va_A (cW G Q D T u) H.size)) 0 0 (va_A (cW G Q D T u) H.size)) (he : (cW G Q D T u)[q0]? = some (b, .inr (ci, fs))) (hc : vwCl[ci]? = some C) (kw : kcV own C.1 y bytes maxL ret index) (hd : y.cls = C.1 ∧ y.cls ≠ "java/lang/invoke/MethodHandle" ∧ y.cls ≠ "java/lang/invoke/VarHandle" ∧ (parseMethodDescriptor y.desc).map (fun d => d.parameters.length) = some n) (hR : fr + 1 ≤ R.frames ∧ 8 + (maxL + 11) + lo ≤ R.locals) (hf : cells ≤ R.cells ∧ slots ≤ R.slots) (hn : As.length = n) (hls : ls.size = nL) (hst : st0 = As.reverse ++ .ref b :: rest) (hcat : (rest.map fun v => v.category).sum ≤ 8) (hdg : decode cc pc = .ok (.invokevirtual index, 3)) (kk : ∀ (D : Nat × Nat) (H : Heap) (locs : List Loc), cH G Q D T A u1 s H locs → W p l e R s m args below meth c H locs cells slots Q' (F0 m (pc + 3) ls (.int r :: rest))) : W p l e R s m args below meth c H locs cells slots Q' (F0 m pc ls st0) := ccV_iA (mc := 0) (ms := 0) hC hH hM he hc kw hd hR hf hn hls hst hcat hdg kk
theorem ccV_vB {y : MethodName} {bytes : ByteArray} {maxL n index fr lo : Nat} {ret : Option FieldType} {As : List Value} {q0 ci : Nat} {fs : List Value} {C : vw_C} {b : Nat} (hC : cX p c cc nL s m args own G Z A) (hH : cH G Q D T A u s H locs) (hM : Met l y (Cond.code y bytes maxL ret :: wK) { frames := fr, cells := 0, slots := 0, locals := lo } (va_Pc (.ref b :: As) (cPM G Z Q D T u H.size)) (cQv G Q T u1 (va_A (cW G Q D T u) H.size)) 0 0 (va_A (cW G Q D T u) H.size)) (he : (cW G Q D T u)[q0]? = some (b, .inr (ci, fs))) (hc : vwCl[ci]? = some C) (kw : kcV own C.1 y bytes maxL ret index) (hd : y.cls = C.1 ∧ y.cls ≠ "java/lang/invoke/MethodHandle" ∧ y.cls ≠ "java/lang/invoke/VarHandle" ∧ (parseMethodDescriptor y.desc).map (fun d => d.parameters.length) = some n) (hR : fr + 1 ≤ R.frames ∧ 8 + (maxL + 11) + lo ≤ R.locals) (hf : cells ≤ R.cells ∧ slots ≤ R.slots) (hn : As.length = n) (hls : ls.size = nL) (hst : st0 = As.reverse ++ .ref b :: rest) (hcat : (rest.map fun v => v.category).sum ≤ 8) (hdg : decode cc pc = .ok (.invokevirtual index, 3)) (kk : ∀ (D : Nat × Nat) (H : Heap) (locs : List Loc), cH G Q D T A u1 s H locs → W p l e R s m args below meth c H locs cells slots Q' (F0 m (pc + 3) ls (rest))) : W p l e R s m args below meth c H locs cells slots Q' (F0 m pc ls st0) := ccV_vA (mc := 0) (ms := 0) hC hH hM he hc kw hd hR hf hn hls hst hcat hdg kk
theorem ccS_iB {y : MethodName} {bytes : ByteArray} {maxL n index fr lo : Nat} {ret : Option FieldType} {As : List Value} {r : Int32} (hC : cX p c cc nL s m args own G Z A) (hH : cH G Q D T A u s H locs) (hM : Met l y (Cond.code y bytes maxL ret :: wK) { frames := fr, cells := 0, slots := 0, locals := lo } (va_Pc (As) (cPM G Z Q D T u H.size)) (cQi G Q T u1 r (va_A (cW G Q D T u) H.size)) 0 0 (va_A (cW G Q D T u) H.size)) (kw : kcS own y bytes maxL ret index) (hd : y.cls ≠ "java/lang/invoke/MethodHandle" ∧ y.cls ≠ "java/lang/invoke/VarHandle" ∧ (parseMethodDescriptor y.desc).map (fun d => d.parameters.length) = some n) (hR : fr + 1 ≤ R.frames ∧ 8 + (maxL + 11) + lo ≤ R.locals) (hf : cells ≤ R.cells ∧ slots ≤ R.slots) (hn : As.length = n) (hls : ls.size = nL) (hst : st0 = As.reverse ++ rest) (hcat : (rest.map fun v => v.category).sum ≤ 8) (hdg : decode cc pc = .ok (.invokestatic index, 3)) (kk : ∀ (D : Nat × Nat) (H : Heap) (locs : List Loc), cH G Q D T A u1 s H locs → W p l e R s m args below meth c H locs cells slots Q' (F0 m (pc + 3) ls (.int r :: rest))) : W p l e R s m args below meth c H locs cells slots Q' (F0 m pc ls st0) := ccS_iA (mc := 0) (ms := 0) hC hH hM kw hd hR hf hn hls hst hcat hdg kk
theorem ccJ {y : MethodName} {bytes : ByteArray} {maxL n index fr lo k : Nat} {ret : Option FieldType} {As : List Value} {r : Int32} (hC : cX p c cc nL s m args own G Z A) (hH : cH G Q D T A u s H locs) (hs : k < 38) (hM : Met l y (Cond.code y bytes maxL ret :: wJ) { frames := fr, cells := 0, slots := 0, locals := lo } (va_Pc (.ref (Z.1.1 k) :: As) (sP Z.1 A)) (vp_Si (fun x : Int32 => x = r)) 0 0 (fun _ => False)) (kw : Cond.code y bytes maxL ret ∈ wJ ∧ Cond.methodLink own index y ∈ wK ∧ Cond.instanceMethod y ∈ wJ ∧ Cond.selects "java/lang/String" y y ∈ wJ ∧ Cond.initialized "java/lang/String" ∈ wJ)
    (hd : y.cls = "java/lang/String" ∧ y.cls ≠ "java/lang/invoke/MethodHandle" ∧ y.cls ≠ "java/lang/invoke/VarHandle" ∧ (parseMethodDescriptor y.desc).map (fun d => d.parameters.length) = some n) (hR : fr + 1 ≤ R.frames ∧ 8 + (maxL + 11) + lo ≤ R.locals) (hn : As.length = n) (hls : ls.size = nL) (hst : st0 = As.reverse ++ .ref (Z.1.1 k) :: rest) (hcat : (rest.map fun v => v.category).sum ≤ 8) (hdg : decode cc pc = .ok (.invokevirtual index, 3)) (kk : W p l e R s m args below meth c H locs 0 0 Q' (F0 m (pc + 3) ls (.int r :: rest))) : W p l e R s m args below meth c H locs 0 0 Q' (F0 m pc ls st0) := by
  obtain ⟨hx, hb, hml, hown, hts, hB, hE, hA⟩ := hC
  refine vp_callSi (va_Run.run (jcallV (rest := rest) ⟨hx, hb, hml, hown, hts⟩ hE.1 hH.2.2 hs hM (gdV kw.2.1 (wJK _ kw.2.2.1) (wJK _ kw.2.2.2.1) (wJK _ kw.2.2.2.2) (fun w hw => ⟨wJK _ (jgood kw.1 w hw).1, (jgood kw.1 w hw).2⟩)) hd hR hn hls hst hcat hdg ⟨Nat.zero_le _, Nat.zero_le _⟩)) (fun x hx9 => ?_)
  subst hx9
  exact kk
theorem ccSN {fr lo : Nat} {As : List Value} {r : Int32} (hC : cX p c cc nL s m args RX0 G Z A) (hH : cH G Q D T A u s H locs) (hM : Met l yX11_isClass (Cond.code yX11_isClass cX11_isClass 1 (some .boolean) :: wK) { frames := fr, cells := 0, slots := 0, locals := lo } (va_Pc As (cPM G Z Q D T u H.size)) (cQi G Q T u1 r (va_A (cW G Q D T u) H.size)) 0 0 (va_A (cW G Q D T u) H.size)) (hR : decide (fr + 1 ≤ R.frames ∧ 8 + (1 + 11) + lo ≤ R.locals) = true) (hn : As.length = 1) (hls : ls.size = nL) (hst : st0 = As.reverse ++ rest) (hcat : (rest.map fun v => v.category).sum ≤ 8) (hdg : decode cc pc = .ok (.invokestatic 55, 3)) (kk : ∀ (D : Nat × Nat) (H : Heap) (locs : List Loc), cH G Q D T A u1 s H locs → W p l e R s m args below meth c H locs 0 0 Q' (F0 m (pc + 3) ls (.int r :: rest))) : W p l e R s m args below meth c H locs 0 0 Q' (F0 m pc ls st0) := by
  have hle := cH.sub hC hH
  obtain ⟨hx, hb, hml, hown, hts, hB, hE, hA⟩ := hC
  refine va_calli (va_runSN (As := As) (rest := rest) ⟨hx, hb, hml, hown, hts⟩ hM ⟨va_cnB 1 hts (cgood wkc_X11_isClass) rfl rfl rfl (hB.nmt 0 rfl) (hts _ wka755) kSX11_isClass (of_decide_eq_true hR), hts _ wka728, trivial⟩ ⟨cPM.blind, fun U hU hW => ⟨rfl, cH.pre ⟨hx, hb, hml, hown, hts, hB, hE, hA⟩ hH U hU hW⟩⟩ rfl hn hls hst (lv_room hcat) hdg ⟨Nat.zero_le _, Nat.zero_le _⟩) hH.2.2 (fun q _ h => hle q h) hle (fun r2 u2 t H1 locs1 ht hvm hw hB1 hz1 hk1 hS => ?_)
  obtain ⟨D1, b1, b2⟩ := hB1
  rw [ht] at b1
  subst hw
  exact kk D1 H1 locs1 ⟨b1, b2.weaken (fun _ _ _ h => hle _ h), hS⟩
end CL
