theorem tt_x_X4_clear : T [20, 21, 22, 23, 24, 25] [] (x_X4_clear) := by
  unfold x_X4_clear
  repeat (first | (with_reducible exact T_rt _) | (with_reducible intro _) | (with_reducible exact T_RF) | (with_reducible exact T_GT) | (with_reducible exact T_GD) | (with_reducible exact T_GS) | (with_reducible exact T_WF (by decide)) | (with_reducible exact T_ST (by decide)) | (with_reducible exact T_SD (by decide)) | (with_reducible exact T_SS (by decide) (by decide)) | (with_reducible exact T_FL (by decide)) | (with_reducible exact T_FS (by decide) (by decide)) | (with_reducible refine T_li ?_) | (with_reducible refine T_ite (fun _ => ?_) (fun _ => ?_)) | (with_reducible refine T_cl ?_ (fun _ => ?_)))

theorem tt_x_X4_emit (a0 : Int32) (a1 : Int32) : T [25] [8] (x_X4_emit a0 a1) := by
  unfold x_X4_emit
  repeat (first | (with_reducible exact T_rt _) | (with_reducible intro _) | (with_reducible exact T_RF) | (with_reducible exact T_GT) | (with_reducible exact T_GD) | (with_reducible exact T_GS) | (with_reducible exact T_WF (by decide)) | (with_reducible exact T_ST (by decide)) | (with_reducible exact T_SD (by decide)) | (with_reducible exact T_SS (by decide) (by decide)) | (with_reducible exact T_FL (by decide)) | (with_reducible exact T_FS (by decide) (by decide)) | (with_reducible refine T_li ?_) | (with_reducible refine T_ite (fun _ => ?_) (fun _ => ?_)) | (with_reducible refine T_cl ?_ (fun _ => ?_)))

theorem tt_x_X4_endLine : T [23] [9] (x_X4_endLine) := by
  unfold x_X4_endLine
  repeat (first | (with_reducible exact T_rt _) | (with_reducible intro _) | (with_reducible exact T_RF) | (with_reducible exact T_GT) | (with_reducible exact T_GD) | (with_reducible exact T_GS) | (with_reducible exact T_WF (by decide)) | (with_reducible exact T_ST (by decide)) | (with_reducible exact T_SD (by decide)) | (with_reducible exact T_SS (by decide) (by decide)) | (with_reducible exact T_FL (by decide)) | (with_reducible exact T_FS (by decide) (by decide)) | (with_reducible refine T_li ?_) | (with_reducible refine T_ite (fun _ => ?_) (fun _ => ?_)) | (with_reducible refine T_cl ?_ (fun _ => ?_)))

theorem tt_x_X10_rewind : T [3] [] (x_X10_rewind) := by
  unfold x_X10_rewind
  repeat (first | (with_reducible exact T_rt _) | (with_reducible intro _) | (with_reducible exact T_RF) | (with_reducible exact T_GT) | (with_reducible exact T_GD) | (with_reducible exact T_GS) | (with_reducible exact T_WF (by decide)) | (with_reducible exact T_ST (by decide)) | (with_reducible exact T_SD (by decide)) | (with_reducible exact T_SS (by decide) (by decide)) | (with_reducible exact T_FL (by decide)) | (with_reducible exact T_FS (by decide) (by decide)) | (with_reducible refine T_li ?_) | (with_reducible refine T_ite (fun _ => ?_) (fun _ => ?_)) | (with_reducible refine T_cl ?_ (fun _ => ?_)))

theorem tt_x_X10_isBlank (a0 : Int32) : T [] [] (x_X10_isBlank a0) := by
  unfold x_X10_isBlank
  repeat (first | (with_reducible exact T_rt _) | (with_reducible intro _) | (with_reducible exact T_RF) | (with_reducible exact T_GT) | (with_reducible exact T_GD) | (with_reducible exact T_GS) | (with_reducible exact T_WF (by decide)) | (with_reducible exact T_ST (by decide)) | (with_reducible exact T_SD (by decide)) | (with_reducible exact T_SS (by decide) (by decide)) | (with_reducible exact T_FL (by decide)) | (with_reducible exact T_FS (by decide) (by decide)) | (with_reducible refine T_li ?_) | (with_reducible refine T_ite (fun _ => ?_) (fun _ => ?_)) | (with_reducible refine T_cl ?_ (fun _ => ?_)))

theorem tt_x_X10_isLetter (a0 : Int32) : T [] [] (x_X10_isLetter a0) := by
  unfold x_X10_isLetter
  repeat (first | (with_reducible exact T_rt _) | (with_reducible intro _) | (with_reducible exact T_RF) | (with_reducible exact T_GT) | (with_reducible exact T_GD) | (with_reducible exact T_GS) | (with_reducible exact T_WF (by decide)) | (with_reducible exact T_ST (by decide)) | (with_reducible exact T_SD (by decide)) | (with_reducible exact T_SS (by decide) (by decide)) | (with_reducible exact T_FL (by decide)) | (with_reducible exact T_FS (by decide) (by decide)) | (with_reducible refine T_li ?_) | (with_reducible refine T_ite (fun _ => ?_) (fun _ => ?_)) | (with_reducible refine T_cl ?_ (fun _ => ?_)))

theorem tt_x_X10_isDigit (a0 : Int32) : T [] [] (x_X10_isDigit a0) := by
  unfold x_X10_isDigit
  repeat (first | (with_reducible exact T_rt _) | (with_reducible intro _) | (with_reducible exact T_RF) | (with_reducible exact T_GT) | (with_reducible exact T_GD) | (with_reducible exact T_GS) | (with_reducible exact T_WF (by decide)) | (with_reducible exact T_ST (by decide)) | (with_reducible exact T_SD (by decide)) | (with_reducible exact T_SS (by decide) (by decide)) | (with_reducible exact T_FL (by decide)) | (with_reducible exact T_FS (by decide) (by decide)) | (with_reducible refine T_li ?_) | (with_reducible refine T_ite (fun _ => ?_) (fun _ => ?_)) | (with_reducible refine T_cl ?_ (fun _ => ?_)))

theorem tt_x_X10_takeEqual : T [3] [] (x_X10_takeEqual) := by
  unfold x_X10_takeEqual
  repeat (first | (with_reducible exact T_rt _) | (with_reducible intro _) | (with_reducible exact T_RF) | (with_reducible exact T_GT) | (with_reducible exact T_GD) | (with_reducible exact T_GS) | (with_reducible exact T_WF (by decide)) | (with_reducible exact T_ST (by decide)) | (with_reducible exact T_SD (by decide)) | (with_reducible exact T_SS (by decide) (by decide)) | (with_reducible exact T_FL (by decide)) | (with_reducible exact T_FS (by decide) (by decide)) | (with_reducible refine T_li ?_) | (with_reducible refine T_ite (fun _ => ?_) (fun _ => ?_)) | (with_reducible refine T_cl ?_ (fun _ => ?_)))

theorem tt_x_X10_markOf (a0 : Int32) : T [3] [] (x_X10_markOf a0) := by
  unfold x_X10_markOf
  repeat (first | (with_reducible exact T_rt _) | (with_reducible intro _) | (with_reducible exact (tt_x_X10_takeEqual).mono (by decide) (by decide)) | (with_reducible exact T_RF) | (with_reducible exact T_GT) | (with_reducible exact T_GD) | (with_reducible exact T_GS) | (with_reducible exact T_WF (by decide)) | (with_reducible exact T_ST (by decide)) | (with_reducible exact T_SD (by decide)) | (with_reducible exact T_SS (by decide) (by decide)) | (with_reducible exact T_FL (by decide)) | (with_reducible exact T_FS (by decide) (by decide)) | (with_reducible refine T_li ?_) | (with_reducible refine T_ite (fun _ => ?_) (fun _ => ?_)) | (with_reducible refine T_cl ?_ (fun _ => ?_)))

theorem tt_xl_X10_readNumber_5 (K : NG Int32) (hK : T [3, 4, 6] [] K) : ∀ (n : Nat) (u : MS), msr (u.1 3) ≤ n → Tu [3, 4, 6] [] (xl_X10_readNumber_5 n K) u := by
  intro n
  induction n with
  | zero =>
    intro u hm
    exact absurd hm (msr_0 _)
  | succ n ih =>
    intro u hm
    unfold xl_X10_readNumber_5
    refine Tu_RF (Tu_RF (Tu_ite (fun _ => hK u) (fun h => Tu_RF (Tu_GT (fun x => Tu_cl (tt_x_X10_isDigit x) (by decide) (by decide) (fun r v hs => ?_))))))
    have e := hs.nil
    subst e
    refine Tu_ite (fun _ => hK _) (fun _ => Tu_RF (Tu_RF (Tu_ite (fun _ => Tu_RF (Tu_WF (by decide) (ih _ (msr_up h hm)))) (fun _ => ?_))))
    refine Tu_RF (Tu_RF (Tu_GT (fun y => Tu_WF (by decide) (Tu_RF (Tu_WF (by decide) (ih _ (msr_up h hm)))))))

theorem tt_x_X10_readNumber : T [3, 4, 6] [] (x_X10_readNumber) := by
  unfold x_X10_readNumber
  repeat (first | (with_reducible exact T_rt _) | (with_reducible intro _) | (with_reducible refine T_of (fun u => tt_xl_X10_readNumber_5 _ ?_ fuel u (msr_fuel _))) | (with_reducible exact T_RF) | (with_reducible exact T_GT) | (with_reducible exact T_GD) | (with_reducible exact T_GS) | (with_reducible exact T_WF (by decide)) | (with_reducible exact T_ST (by decide)) | (with_reducible exact T_SD (by decide)) | (with_reducible exact T_SS (by decide) (by decide)) | (with_reducible exact T_FL (by decide)) | (with_reducible exact T_FS (by decide) (by decide)) | (with_reducible refine T_li ?_) | (with_reducible refine T_ite (fun _ => ?_) (fun _ => ?_)) | (with_reducible refine T_cl ?_ (fun _ => ?_)))

theorem cln_eq : ∀ k < 13, fj_len (25 + k) = some (nI ((fj_len (25 + k)).getD 0).toNatClampNeg) ∧ ((fj_len (25 + k)).getD 0).toNatClampNeg ≤ 8 := by decide +kernel
theorem cchr_some : ∀ k < 13, ∀ j < 8, j < ((fj_len (25 + k)).getD 0).toNatClampNeg → (fj_charAt (25 + k) (nI j)).isSome = true := by decide +kernel
theorem T_oi {β : Type} {LI LA : List Nat} {x : Option Int32} {a : Int32} {q : Int32 → NG β} (hx : x = some a) (h : T LI LA (q a)) : T LI LA (noi x q) := by
  rw [hx]
  exact h
theorem T_oiS {β : Type} {LI LA : List Nat} {x : Option Int32} {q : Int32 → NG β} (hx : x.isSome = true) (h : ∀ a, T LI LA (q a)) : T LI LA (noi x q) := by
  cases x with
  | none => cases hx
  | some a => exact h a
theorem tt_xl_X10_spells_20 (k z : Nat) (hk : k < 13) (hz : z = ((fj_len (25 + k)).getD 0).toNatClampNeg) (K : Int32 → NG Int32) (hK : ∀ v, T [] [] (K v)) : ∀ (t j n : Nat), j + t = z → t < n → T [] [] (xl_X10_spells_20 (25 + k) n (nI j) K) := by
  have e1 := (cln_eq k hk).1
  have e2 := (cln_eq k hk).2
  rw [← hz] at e1 e2
  intro t
  induction t with
  | zero =>
    intro j n hj hn
    cases n with
    | zero => omega
    | succ n =>
      have : j = z := by omega
      subst this
      unfold xl_X10_spells_20
      exact T_oi e1 (T_ite (fun _ => hK _) (fun h => absurd (Int32.le_refl _) h))
  | succ t ih =>
    intro j n hj hn
    cases n with
    | zero => omega
    | succ n =>
      unfold xl_X10_spells_20
      refine T_oi e1 (T_ite (fun _ => hK _) (fun _ => T_cl T_RF (fun _ => T_cl T_GT (fun _ => T_oiS (cchr_some k hk j (by omega) (by rw [← hz]; omega)) (fun _ => T_ite (fun _ => T_li ?_) (fun _ => T_rt _))))))
      rw [nI_1]
      exact ih (j + 1) n (by omega) (by omega)

theorem tt_spells (k : Nat) (hk : k < 13) : T [] [] (x_X10_spells (25 + k)) := by
  have e1 := (cln_eq k hk).1
  have e2 := (cln_eq k hk).2
  unfold x_X10_spells
  exact T_cl T_RF (fun _ => T_cl T_RF (fun _ => T_oi e1 (T_ite (fun _ => tt_xl_X10_spells_20 k _ hk rfl _ (fun _ => T_rt _) (((fj_len (25 + k)).getD 0).toNatClampNeg) 0 fuel (by omega) (by unfold fuel; omega)) (fun _ => T_rt _))))
theorem tt_x_X10_spells (a : Nat) (h : 25 ≤ a ∧ a < 38) : T [] [] (x_X10_spells a) := by
  have e : a = 25 + (a - 25) := by omega
  rw [e]
  exact tt_spells (a - 25) (by omega)

theorem tt_x_X10_wordKind : T [] [] (x_X10_wordKind) := by
  unfold x_X10_wordKind
  repeat (first | (with_reducible exact T_rt _) | (with_reducible intro _) | (with_reducible exact (tt_x_X10_spells _ (by decide)).mono (by decide) (by decide)) | (with_reducible exact T_RF) | (with_reducible exact T_GT) | (with_reducible exact T_GD) | (with_reducible exact T_GS) | (with_reducible exact T_WF (by decide)) | (with_reducible exact T_ST (by decide)) | (with_reducible exact T_SD (by decide)) | (with_reducible exact T_SS (by decide) (by decide)) | (with_reducible exact T_FL (by decide)) | (with_reducible exact T_FS (by decide) (by decide)) | (with_reducible refine T_li ?_) | (with_reducible refine T_ite (fun _ => ?_) (fun _ => ?_)) | (with_reducible refine T_cl ?_ (fun _ => ?_)))

theorem tt_xl_X10_readWord_0 (K : NG Int32) (hK : T [3, 4] [] K) : ∀ (n : Nat) (u : MS), msr (u.1 3) ≤ n → Tu [3, 4] [] (xl_X10_readWord_0 n K) u := by
  intro n
  induction n with
  | zero =>
    intro u hm
    exact absurd hm (msr_0 _)
  | succ n ih =>
    intro u hm
    unfold xl_X10_readWord_0
    refine Tu_RF (Tu_RF (Tu_ite (fun _ => hK u) (fun h => Tu_RF (Tu_GT (fun x => Tu_cl (tt_x_X10_isLetter x) (by decide) (by decide) (fun r v hs => ?_))))))
    have e := hs.nil
    subst e
    exact Tu_ite (fun _ => hK _) (fun _ => Tu_RF (Tu_WF (by decide) (ih _ (msr_up h hm))))

theorem tt_x_X10_readWord : T [3, 4] [] (x_X10_readWord) := by
  unfold x_X10_readWord
  repeat (first | (with_reducible exact T_rt _) | (with_reducible intro _) | (with_reducible refine T_of (fun u => tt_xl_X10_readWord_0 _ ?_ fuel u (msr_fuel _))) | (with_reducible exact (tt_x_X10_wordKind).mono (by decide) (by decide)) | (with_reducible exact T_RF) | (with_reducible exact T_GT) | (with_reducible exact T_GD) | (with_reducible exact T_GS) | (with_reducible exact T_WF (by decide)) | (with_reducible exact T_ST (by decide)) | (with_reducible exact T_SD (by decide)) | (with_reducible exact T_SS (by decide) (by decide)) | (with_reducible exact T_FL (by decide)) | (with_reducible exact T_FS (by decide) (by decide)) | (with_reducible refine T_li ?_) | (with_reducible refine T_ite (fun _ => ?_) (fun _ => ?_)) | (with_reducible refine T_cl ?_ (fun _ => ?_)))

theorem tt_xl_X10_readToken_0 (K : NG Int32) (hK : T [3, 4, 5, 6] [] K) : ∀ (n : Nat) (u : MS), msr (u.1 3) ≤ n → Tu [3, 4, 5, 6] [] (xl_X10_readToken_0 n K) u := by
  intro n
  induction n with
  | zero =>
    intro u hm
    exact absurd hm (msr_0 _)
  | succ n ih =>
    intro u hm
    unfold xl_X10_readToken_0
    refine Tu_RF (Tu_RF (Tu_ite (fun _ => hK u) (fun h => Tu_RF (Tu_GT (fun x => Tu_cl (tt_x_X10_isBlank x) (by decide) (by decide) (fun r v hs => ?_))))))
    have e := hs.nil
    subst e
    exact Tu_ite (fun _ => hK _) (fun _ => Tu_RF (Tu_WF (by decide) (ih _ (msr_up h hm))))

theorem tt_x_X10_readToken : T [3, 4, 5, 6] [] (x_X10_readToken) := by
  unfold x_X10_readToken
  repeat (first | (with_reducible exact T_rt _) | (with_reducible intro _) | (with_reducible refine T_of (fun u => tt_xl_X10_readToken_0 _ ?_ fuel u (msr_fuel _))) | (with_reducible exact (tt_x_X10_isLetter _).mono (by decide) (by decide)) | (with_reducible exact (tt_x_X10_isDigit _).mono (by decide) (by decide)) | (with_reducible exact (tt_x_X10_markOf _).mono (by decide) (by decide)) | (with_reducible exact (tt_x_X10_readNumber).mono (by decide) (by decide)) | (with_reducible exact (tt_x_X10_readWord).mono (by decide) (by decide)) | (with_reducible exact T_RF) | (with_reducible exact T_GT) | (with_reducible exact T_GD) | (with_reducible exact T_GS) | (with_reducible exact T_WF (by decide)) | (with_reducible exact T_ST (by decide)) | (with_reducible exact T_SD (by decide)) | (with_reducible exact T_SS (by decide) (by decide)) | (with_reducible exact T_FL (by decide)) | (with_reducible exact T_FS (by decide) (by decide)) | (with_reducible refine T_li ?_) | (with_reducible refine T_ite (fun _ => ?_) (fun _ => ?_)) | (with_reducible refine T_cl ?_ (fun _ => ?_)))

theorem tt_x_X5_fail (a0 : Int32) : T [10, 11] [] (x_X5_fail a0) := by
  unfold x_X5_fail
  repeat (first | (with_reducible exact T_rt _) | (with_reducible intro _) | (with_reducible exact T_RF) | (with_reducible exact T_GT) | (with_reducible exact T_GD) | (with_reducible exact T_GS) | (with_reducible exact T_WF (by decide)) | (with_reducible exact T_ST (by decide)) | (with_reducible exact T_SD (by decide)) | (with_reducible exact T_SS (by decide) (by decide)) | (with_reducible exact T_FL (by decide)) | (with_reducible exact T_FS (by decide) (by decide)) | (with_reducible refine T_li ?_) | (with_reducible refine T_ite (fun _ => ?_) (fun _ => ?_)) | (with_reducible refine T_cl ?_ (fun _ => ?_)))

theorem tt_x_X5_goIfRoom (a0 : Int32) (a1 : Int32) : T [10, 11, 12] [] (x_X5_goIfRoom a0 a1) := by
  unfold x_X5_goIfRoom
  repeat (first | (with_reducible exact T_rt _) | (with_reducible intro _) | (with_reducible exact (tt_x_X5_fail _).mono (by decide) (by decide)) | (with_reducible exact T_RF) | (with_reducible exact T_GT) | (with_reducible exact T_GD) | (with_reducible exact T_GS) | (with_reducible exact T_WF (by decide)) | (with_reducible exact T_ST (by decide)) | (with_reducible exact T_SD (by decide)) | (with_reducible exact T_SS (by decide) (by decide)) | (with_reducible exact T_FL (by decide)) | (with_reducible exact T_FS (by decide) (by decide)) | (with_reducible refine T_li ?_) | (with_reducible refine T_ite (fun _ => ?_) (fun _ => ?_)) | (with_reducible refine T_cl ?_ (fun _ => ?_)))

theorem tt_x_X5_takeSignOrLine (a0 : Int32) : T [10, 11, 12] [10] (x_X5_takeSignOrLine a0) := by
  unfold x_X5_takeSignOrLine
  repeat (first | (with_reducible exact T_rt _) | (with_reducible intro _) | (with_reducible exact (tt_x_X5_goIfRoom _ _).mono (by decide) (by decide)) | (with_reducible exact (tt_x_X5_fail _).mono (by decide) (by decide)) | (with_reducible exact T_RF) | (with_reducible exact T_GT) | (with_reducible exact T_GD) | (with_reducible exact T_GS) | (with_reducible exact T_WF (by decide)) | (with_reducible exact T_ST (by decide)) | (with_reducible exact T_SD (by decide)) | (with_reducible exact T_SS (by decide) (by decide)) | (with_reducible exact T_FL (by decide)) | (with_reducible exact T_FS (by decide) (by decide)) | (with_reducible refine T_li ?_) | (with_reducible refine T_ite (fun _ => ?_) (fun _ => ?_)) | (with_reducible refine T_cl ?_ (fun _ => ?_)))

theorem tt_xl_X10_isWordAt_17 (K : Int32 → Int32 → Int32 → NG Int32) : ∀ (n : Nat) (v1 v2 v3 : Int32), msr v3 ≤ n → (∀ (v3' : Int32), T [] [] (K v1 v2 v3')) → T [] [] (xl_X10_isWordAt_17 n v1 v2 v3 K) := by
  intro n
  induction n with
  | zero =>
    intro v1 v2 v3 hm _
    exact absurd hm (msr_0 _)
  | succ n ih =>
    intro v1 v2 v3 hm hK
    unfold xl_X10_isWordAt_17
    repeat (first | (with_reducible exact T_rt _) | (with_reducible intro _) | (with_reducible exact hK _) | (with_reducible exact ih _ _ _ (msr_up (by assumption) hm) hK) | (with_reducible exact T_RF) | (with_reducible exact T_GT) | (with_reducible exact T_GD) | (with_reducible exact T_GS) | (with_reducible exact T_WF (by decide)) | (with_reducible exact T_ST (by decide)) | (with_reducible exact T_SD (by decide)) | (with_reducible exact T_SS (by decide) (by decide)) | (with_reducible exact T_FL (by decide)) | (with_reducible exact T_FS (by decide) (by decide)) | (with_reducible refine T_li ?_) | (with_reducible refine T_ite (fun _ => ?_) (fun _ => ?_)) | (with_reducible refine T_cl ?_ (fun _ => ?_)))

theorem tt_x_X10_isWordAt (a0 : Int32) (a1 : Int32) : T [] [] (x_X10_isWordAt a0 a1) := by
  unfold x_X10_isWordAt
  repeat (first | (with_reducible exact T_rt _) | (with_reducible intro _) | (with_reducible refine tt_xl_X10_isWordAt_17 _ fuel _ _ _ (msr_fuel _) ?_) | (with_reducible exact T_RF) | (with_reducible exact T_GT) | (with_reducible exact T_GD) | (with_reducible exact T_GS) | (with_reducible exact T_WF (by decide)) | (with_reducible exact T_ST (by decide)) | (with_reducible exact T_SD (by decide)) | (with_reducible exact T_SS (by decide) (by decide)) | (with_reducible exact T_FL (by decide)) | (with_reducible exact T_FS (by decide) (by decide)) | (with_reducible refine T_li ?_) | (with_reducible refine T_ite (fun _ => ?_) (fun _ => ?_)) | (with_reducible refine T_cl ?_ (fun _ => ?_)))

theorem tt_xl_X5_signOfToken_2 (K : Int32 → NG Int32) : ∀ (n : Nat) (v1 : Int32), msr v1 ≤ n → (∀ (v1' : Int32), T [] [] (K v1')) → T [] [] (xl_X5_signOfToken_2 n v1 K) := by
  intro n
  induction n with
  | zero =>
    intro v1 hm _
    exact absurd hm (msr_0 _)
  | succ n ih =>
    intro v1 hm hK
    unfold xl_X5_signOfToken_2
    repeat (first | (with_reducible exact T_rt _) | (with_reducible intro _) | (with_reducible exact hK _) | (with_reducible exact ih _ (msr_up (by assumption) hm) hK) | (with_reducible exact (tt_x_X10_isWordAt _ _).mono (by decide) (by decide)) | (with_reducible exact T_RF) | (with_reducible exact T_GT) | (with_reducible exact T_GD) | (with_reducible exact T_GS) | (with_reducible exact T_WF (by decide)) | (with_reducible exact T_ST (by decide)) | (with_reducible exact T_SD (by decide)) | (with_reducible exact T_SS (by decide) (by decide)) | (with_reducible exact T_FL (by decide)) | (with_reducible exact T_FS (by decide) (by decide)) | (with_reducible refine T_li ?_) | (with_reducible refine T_ite (fun _ => ?_) (fun _ => ?_)) | (with_reducible refine T_cl ?_ (fun _ => ?_)))

theorem tt_x_X5_signOfToken : T [] [] (x_X5_signOfToken) := by
  unfold x_X5_signOfToken
  repeat (first | (with_reducible exact T_rt _) | (with_reducible intro _) | (with_reducible refine tt_xl_X5_signOfToken_2 _ fuel _ (msr_fuel _) ?_) | (with_reducible exact T_RF) | (with_reducible exact T_GT) | (with_reducible exact T_GD) | (with_reducible exact T_GS) | (with_reducible exact T_WF (by decide)) | (with_reducible exact T_ST (by decide)) | (with_reducible exact T_SD (by decide)) | (with_reducible exact T_SS (by decide) (by decide)) | (with_reducible exact T_FL (by decide)) | (with_reducible exact T_FS (by decide) (by decide)) | (with_reducible refine T_li ?_) | (with_reducible refine T_ite (fun _ => ?_) (fun _ => ?_)) | (with_reducible refine T_cl ?_ (fun _ => ?_)))

theorem tt_x_X10_tokenSize : T [] [] (x_X10_tokenSize) := by
  unfold x_X10_tokenSize
  repeat (first | (with_reducible exact T_rt _) | (with_reducible intro _) | (with_reducible exact T_RF) | (with_reducible exact T_GT) | (with_reducible exact T_GD) | (with_reducible exact T_GS) | (with_reducible exact T_WF (by decide)) | (with_reducible exact T_ST (by decide)) | (with_reducible exact T_SD (by decide)) | (with_reducible exact T_SS (by decide) (by decide)) | (with_reducible exact T_FL (by decide)) | (with_reducible exact T_FS (by decide) (by decide)) | (with_reducible refine T_li ?_) | (with_reducible refine T_ite (fun _ => ?_) (fun _ => ?_)) | (with_reducible refine T_cl ?_ (fun _ => ?_)))

theorem tt_x_X5_takeSignName (a0 : Int32) : T [10, 11, 12, 22] [5, 6] (x_X5_takeSignName a0) := by
  unfold x_X5_takeSignName
  repeat (first | (with_reducible exact T_rt _) | (with_reducible intro _) | (with_reducible exact (tt_x_X5_signOfToken).mono (by decide) (by decide)) | (with_reducible exact (tt_x_X10_tokenSize).mono (by decide) (by decide)) | (with_reducible exact (tt_x_X5_fail _).mono (by decide) (by decide)) | (with_reducible exact T_RF) | (with_reducible exact T_GT) | (with_reducible exact T_GD) | (with_reducible exact T_GS) | (with_reducible exact T_WF (by decide)) | (with_reducible exact T_ST (by decide)) | (with_reducible exact T_SD (by decide)) | (with_reducible exact T_SS (by decide) (by decide)) | (with_reducible exact T_FL (by decide)) | (with_reducible exact T_FS (by decide) (by decide)) | (with_reducible refine T_li ?_) | (with_reducible refine T_ite (fun _ => ?_) (fun _ => ?_)) | (with_reducible refine T_cl ?_ (fun _ => ?_)))

theorem tt_x_X5_goIf (a0 : Int32) (a1 : Int32) : T [10, 11, 12] [] (x_X5_goIf a0 a1) := by
  unfold x_X5_goIf
  repeat (first | (with_reducible exact T_rt _) | (with_reducible intro _) | (with_reducible exact (tt_x_X5_fail _).mono (by decide) (by decide)) | (with_reducible exact T_RF) | (with_reducible exact T_GT) | (with_reducible exact T_GD) | (with_reducible exact T_GS) | (with_reducible exact T_WF (by decide)) | (with_reducible exact T_ST (by decide)) | (with_reducible exact T_SD (by decide)) | (with_reducible exact T_SS (by decide) (by decide)) | (with_reducible exact T_FL (by decide)) | (with_reducible exact T_FS (by decide) (by decide)) | (with_reducible refine T_li ?_) | (with_reducible refine T_ite (fun _ => ?_) (fun _ => ?_)) | (with_reducible refine T_cl ?_ (fun _ => ?_)))

theorem tt_x_X5_takePoints (a0 : Int32) : T [10, 11, 12] [10] (x_X5_takePoints a0) := by
  unfold x_X5_takePoints
  repeat (first | (with_reducible exact T_rt _) | (with_reducible intro _) | (with_reducible exact (tt_x_X5_goIf _ _).mono (by decide) (by decide)) | (with_reducible exact T_RF) | (with_reducible exact T_GT) | (with_reducible exact T_GD) | (with_reducible exact T_GS) | (with_reducible exact T_WF (by decide)) | (with_reducible exact T_ST (by decide)) | (with_reducible exact T_SD (by decide)) | (with_reducible exact T_SS (by decide) (by decide)) | (with_reducible exact T_FL (by decide)) | (with_reducible exact T_FS (by decide) (by decide)) | (with_reducible refine T_li ?_) | (with_reducible refine T_ite (fun _ => ?_) (fun _ => ?_)) | (with_reducible refine T_cl ?_ (fun _ => ?_)))

theorem tt_x_X5_takePart (a0 : Int32) : T [10, 11, 12, 24] [] (x_X5_takePart a0) := by
  unfold x_X5_takePart
  repeat (first | (with_reducible exact T_rt _) | (with_reducible intro _) | (with_reducible exact (tt_x_X5_goIfRoom _ _).mono (by decide) (by decide)) | (with_reducible exact T_RF) | (with_reducible exact T_GT) | (with_reducible exact T_GD) | (with_reducible exact T_GS) | (with_reducible exact T_WF (by decide)) | (with_reducible exact T_ST (by decide)) | (with_reducible exact T_SD (by decide)) | (with_reducible exact T_SS (by decide) (by decide)) | (with_reducible exact T_FL (by decide)) | (with_reducible exact T_FS (by decide) (by decide)) | (with_reducible refine T_li ?_) | (with_reducible refine T_ite (fun _ => ?_) (fun _ => ?_)) | (with_reducible refine T_cl ?_ (fun _ => ?_)))

theorem mhr_dn {x : Int32} {n : Nat} (h : ¬ x ≤ 0) (hm : x.toInt < (n + 1 : Nat)) : (x - 1).toInt < n := by
  have h1 : 0 < x.toInt := by
    rw [Int32.le_iff_toInt_le, i32_0] at h
    omega
  have h3 := i32_b x
  have e : x - 1 = x + (-1) := Int32.sub_eq_add_neg _ _
  rw [e, i32_add x (-1) (by rw [i32_m1]; omega) (by rw [i32_m1]; omega), i32_m1]
  omega
theorem tt_xl_X5_closeNots_0 (K : NG Int32) (hK : T [7, 8, 25] [8] K) : ∀ (n : Nat) (u : MS), (u.1 7).toInt < n → 0 < n → Tu [7, 8, 25] [8] (xl_X5_closeNots_0 n K) u := by
  intro n
  induction n with
  | zero =>
    intro u hm h0
    omega
  | succ n ih =>
    intro u hm h0
    unfold xl_X5_closeNots_0
    refine Tu_RF (Tu_ite (fun _ => hK u) (fun h => Tu_RF (Tu_GT (fun x => Tu_ite (fun _ => ?_) (fun _ => hK u)))))
    have h9 := mhr_dn h hm
    have h1 : 0 < (u.1 7).toInt := by
      rw [Int32.le_iff_toInt_le, i32_0] at h
      omega
    refine Tu_RF (Tu_WF (by decide) (Tu_RF (Tu_WF (by decide) (Tu_cl (tt_x_X4_emit 11 0) (by decide) (by decide) (fun r v hs => ih v ?_ (by omega))))))
    have e7 := hs.1 7 (by decide)
    rw [e7]
    exact h9

theorem tt_x_X5_closeNots : T [7, 8, 25] [8] (x_X5_closeNots) := by
  unfold x_X5_closeNots
  repeat (first | (with_reducible exact T_rt _) | (with_reducible intro _) | (with_reducible refine T_of (fun u => tt_xl_X5_closeNots_0 _ ?_ fuel u (i32_fuel _) fuel_pos)) | (with_reducible exact T_RF) | (with_reducible exact T_GT) | (with_reducible exact T_GD) | (with_reducible exact T_GS) | (with_reducible exact T_WF (by decide)) | (with_reducible exact T_ST (by decide)) | (with_reducible exact T_SD (by decide)) | (with_reducible exact T_SS (by decide) (by decide)) | (with_reducible exact T_FL (by decide)) | (with_reducible exact T_FS (by decide) (by decide)) | (with_reducible refine T_li ?_) | (with_reducible refine T_ite (fun _ => ?_) (fun _ => ?_)) | (with_reducible refine T_cl ?_ (fun _ => ?_)))

theorem tt_x_X5_emitTerm (a0 : Int32) (a1 : Int32) : T [14, 25] [8] (x_X5_emitTerm a0 a1) := by
  unfold x_X5_emitTerm
  repeat (first | (with_reducible exact T_rt _) | (with_reducible intro _) | (with_reducible exact (tt_x_X4_emit _ _).mono (by decide) (by decide)) | (with_reducible exact T_RF) | (with_reducible exact T_GT) | (with_reducible exact T_GD) | (with_reducible exact T_GS) | (with_reducible exact T_WF (by decide)) | (with_reducible exact T_ST (by decide)) | (with_reducible exact T_SD (by decide)) | (with_reducible exact T_SS (by decide) (by decide)) | (with_reducible exact T_FL (by decide)) | (with_reducible exact T_FS (by decide) (by decide)) | (with_reducible refine T_li ?_) | (with_reducible refine T_ite (fun _ => ?_) (fun _ => ?_)) | (with_reducible refine T_cl ?_ (fun _ => ?_)))

theorem tt_x_X5_takeTerm (a0 : Int32) : T [10, 11, 12, 13, 14, 24, 25] [8] (x_X5_takeTerm a0) := by
  unfold x_X5_takeTerm
  repeat (first | (with_reducible exact T_rt _) | (with_reducible intro _) | (with_reducible exact (tt_x_X5_takePart _).mono (by decide) (by decide)) | (with_reducible exact (tt_x_X5_emitTerm _ _).mono (by decide) (by decide)) | (with_reducible exact (tt_x_X5_fail _).mono (by decide) (by decide)) | (with_reducible exact T_RF) | (with_reducible exact T_GT) | (with_reducible exact T_GD) | (with_reducible exact T_GS) | (with_reducible exact T_WF (by decide)) | (with_reducible exact T_ST (by decide)) | (with_reducible exact T_SD (by decide)) | (with_reducible exact T_SS (by decide) (by decide)) | (with_reducible exact T_FL (by decide)) | (with_reducible exact T_FS (by decide) (by decide)) | (with_reducible refine T_li ?_) | (with_reducible refine T_ite (fun _ => ?_) (fun _ => ?_)) | (with_reducible refine T_cl ?_ (fun _ => ?_)))

theorem tt_x_X5_hold (a0 : Int32) : T [7] [7] (x_X5_hold a0) := by
  unfold x_X5_hold
  repeat (first | (with_reducible exact T_rt _) | (with_reducible intro _) | (with_reducible exact T_RF) | (with_reducible exact T_GT) | (with_reducible exact T_GD) | (with_reducible exact T_GS) | (with_reducible exact T_WF (by decide)) | (with_reducible exact T_ST (by decide)) | (with_reducible exact T_SD (by decide)) | (with_reducible exact T_SS (by decide) (by decide)) | (with_reducible exact T_FL (by decide)) | (with_reducible exact T_FS (by decide) (by decide)) | (with_reducible refine T_li ?_) | (with_reducible refine T_ite (fun _ => ?_) (fun _ => ?_)) | (with_reducible refine T_cl ?_ (fun _ => ?_)))

theorem tt_x_X5_openThing (a0 : Int32) : T [7, 8, 10, 11] [7] (x_X5_openThing a0) := by
  unfold x_X5_openThing
  repeat (first | (with_reducible exact T_rt _) | (with_reducible intro _) | (with_reducible exact (tt_x_X5_hold _).mono (by decide) (by decide)) | (with_reducible exact (tt_x_X5_fail _).mono (by decide) (by decide)) | (with_reducible exact T_RF) | (with_reducible exact T_GT) | (with_reducible exact T_GD) | (with_reducible exact T_GS) | (with_reducible exact T_WF (by decide)) | (with_reducible exact T_ST (by decide)) | (with_reducible exact T_SD (by decide)) | (with_reducible exact T_SS (by decide) (by decide)) | (with_reducible exact T_FL (by decide)) | (with_reducible exact T_FS (by decide) (by decide)) | (with_reducible refine T_li ?_) | (with_reducible refine T_ite (fun _ => ?_) (fun _ => ?_)) | (with_reducible refine T_cl ?_ (fun _ => ?_)))

theorem tt_x_X5_takeCond (a0 : Int32) : T [7, 8, 9, 10, 11, 12, 13, 14, 15, 24, 25] [7, 8] (x_X5_takeCond a0) := by
  unfold x_X5_takeCond
  repeat (first | (with_reducible exact T_rt _) | (with_reducible intro _) | (with_reducible exact (tt_x_X5_takePart _).mono (by decide) (by decide)) | (with_reducible exact (tt_x_X5_openThing _).mono (by decide) (by decide)) | (with_reducible exact (tt_x_X4_emit _ _).mono (by decide) (by decide)) | (with_reducible exact (tt_x_X5_closeNots).mono (by decide) (by decide)) | (with_reducible exact (tt_x_X5_takeTerm _).mono (by decide) (by decide)) | (with_reducible exact T_RF) | (with_reducible exact T_GT) | (with_reducible exact T_GD) | (with_reducible exact T_GS) | (with_reducible exact T_WF (by decide)) | (with_reducible exact T_ST (by decide)) | (with_reducible exact T_SD (by decide)) | (with_reducible exact T_SS (by decide) (by decide)) | (with_reducible exact T_FL (by decide)) | (with_reducible exact T_FS (by decide) (by decide)) | (with_reducible refine T_li ?_) | (with_reducible refine T_ite (fun _ => ?_) (fun _ => ?_)) | (with_reducible refine T_cl ?_ (fun _ => ?_)))

theorem tt_x_X5_takeTermName (a0 : Int32) : T [10, 11, 12, 14, 25] [8] (x_X5_takeTermName a0) := by
  unfold x_X5_takeTermName
  repeat (first | (with_reducible exact T_rt _) | (with_reducible intro _) | (with_reducible exact (tt_x_X5_signOfToken).mono (by decide) (by decide)) | (with_reducible exact (tt_x_X5_fail _).mono (by decide) (by decide)) | (with_reducible exact (tt_x_X5_emitTerm _ _).mono (by decide) (by decide)) | (with_reducible exact T_RF) | (with_reducible exact T_GT) | (with_reducible exact T_GD) | (with_reducible exact T_GS) | (with_reducible exact T_WF (by decide)) | (with_reducible exact T_ST (by decide)) | (with_reducible exact T_SD (by decide)) | (with_reducible exact T_SS (by decide) (by decide)) | (with_reducible exact T_FL (by decide)) | (with_reducible exact T_FS (by decide) (by decide)) | (with_reducible refine T_li ?_) | (with_reducible refine T_ite (fun _ => ?_) (fun _ => ?_)) | (with_reducible refine T_cl ?_ (fun _ => ?_)))

theorem tt_x_X5_takeBehindTerm (a0 : Int32) : T [10, 11, 12, 14, 15, 24] [] (x_X5_takeBehindTerm a0) := by
  unfold x_X5_takeBehindTerm
  repeat (first | (with_reducible exact T_rt _) | (with_reducible intro _) | (with_reducible exact (tt_x_X5_takePart _).mono (by decide) (by decide)) | (with_reducible exact (tt_x_X5_fail _).mono (by decide) (by decide)) | (with_reducible exact T_RF) | (with_reducible exact T_GT) | (with_reducible exact T_GD) | (with_reducible exact T_GS) | (with_reducible exact T_WF (by decide)) | (with_reducible exact T_ST (by decide)) | (with_reducible exact T_SD (by decide)) | (with_reducible exact T_SS (by decide) (by decide)) | (with_reducible exact T_FL (by decide)) | (with_reducible exact T_FS (by decide) (by decide)) | (with_reducible refine T_li ?_) | (with_reducible refine T_ite (fun _ => ?_) (fun _ => ?_)) | (with_reducible refine T_cl ?_ (fun _ => ?_)))

theorem tt_xl_X5_emitBinders_14 (v1 v2 : Int32) (K : Int32 → Int32 → NG Int32) (hK : ∀ a b, T [7, 25] [8] (K a b)) : ∀ (n : Nat) (u : MS), (u.1 7).toInt < n → 0 < n → Tu [7, 25] [8] (xl_X5_emitBinders_14 n v1 v2 K) u := by
  intro n
  induction n with
  | zero =>
    intro u hm h0
    omega
  | succ n ih =>
    intro u hm h0
    unfold xl_X5_emitBinders_14
    refine Tu_RF (Tu_ite (fun _ => hK _ _ u) (fun h => ?_))
    have h9 := mhr_dn h hm
    have h1 : 0 < (u.1 7).toInt := by
      rw [Int32.le_iff_toInt_le, i32_0] at h
      omega
    refine Tu_RF (Tu_GT (fun x => Tu_ite (fun _ => ?_) (fun _ => Tu_RF (Tu_GT (fun y => Tu_ite (fun _ => ?_) (fun _ => hK _ _ u))))))
    · refine Tu_RF (Tu_WF (by decide) (Tu_RF (Tu_GT (fun z => Tu_cl (tt_x_X4_emit z 0) (by decide) (by decide) (fun r v hs => ih v ?_ (by omega))))))
      rw [hs.1 7 (by decide)]
      exact h9
    · refine Tu_RF (Tu_WF (by decide) (Tu_RF (Tu_GT (fun z => Tu_cl (tt_x_X4_emit z 0) (by decide) (by decide) (fun r v hs => ih v ?_ (by omega))))))
      rw [hs.1 7 (by decide)]
      exact h9

theorem tt_x_X5_emitBinders (a0 : Int32) : T [7, 25] [8] (x_X5_emitBinders a0) := by
  unfold x_X5_emitBinders
  repeat (first | (with_reducible exact T_rt _) | (with_reducible intro _) | (with_reducible refine T_of (fun u => tt_xl_X5_emitBinders_14 _ _ _ ?_ fuel u (i32_fuel _) fuel_pos)) | (with_reducible exact T_RF) | (with_reducible exact T_GT) | (with_reducible exact T_GD) | (with_reducible exact T_GS) | (with_reducible exact T_WF (by decide)) | (with_reducible exact T_ST (by decide)) | (with_reducible exact T_SD (by decide)) | (with_reducible exact T_SS (by decide) (by decide)) | (with_reducible exact T_FL (by decide)) | (with_reducible exact T_FS (by decide) (by decide)) | (with_reducible refine T_li ?_) | (with_reducible refine T_ite (fun _ => ?_) (fun _ => ?_)) | (with_reducible refine T_cl ?_ (fun _ => ?_)))

theorem tt_x_X5_closeBracket : T [7, 8, 9, 25] [8] (x_X5_closeBracket) := by
  unfold x_X5_closeBracket
  repeat (first | (with_reducible exact T_rt _) | (with_reducible intro _) | (with_reducible exact (tt_x_X5_emitBinders _).mono (by decide) (by decide)) | (with_reducible exact (tt_x_X5_closeNots).mono (by decide) (by decide)) | (with_reducible exact T_RF) | (with_reducible exact T_GT) | (with_reducible exact T_GD) | (with_reducible exact T_GS) | (with_reducible exact T_WF (by decide)) | (with_reducible exact T_ST (by decide)) | (with_reducible exact T_SD (by decide)) | (with_reducible exact T_SS (by decide) (by decide)) | (with_reducible exact T_FL (by decide)) | (with_reducible exact T_FS (by decide) (by decide)) | (with_reducible refine T_li ?_) | (with_reducible refine T_ite (fun _ => ?_) (fun _ => ?_)) | (with_reducible refine T_cl ?_ (fun _ => ?_)))

theorem tt_x_X5_takeBehindCond (a0 : Int32) : T [7, 8, 9, 10, 11, 12, 23, 24, 25] [7, 8, 9] (x_X5_takeBehindCond a0) := by
  unfold x_X5_takeBehindCond
  repeat (first | (with_reducible exact T_rt _) | (with_reducible intro _) | (with_reducible exact (tt_x_X5_takePart _).mono (by decide) (by decide)) | (with_reducible exact (tt_x_X5_emitBinders _).mono (by decide) (by decide)) | (with_reducible exact (tt_x_X5_hold _).mono (by decide) (by decide)) | (with_reducible exact (tt_x_X4_endLine).mono (by decide) (by decide)) | (with_reducible exact (tt_x_X5_fail _).mono (by decide) (by decide)) | (with_reducible exact (tt_x_X5_closeBracket).mono (by decide) (by decide)) | (with_reducible exact T_RF) | (with_reducible exact T_GT) | (with_reducible exact T_GD) | (with_reducible exact T_GS) | (with_reducible exact T_WF (by decide)) | (with_reducible exact T_ST (by decide)) | (with_reducible exact T_SD (by decide)) | (with_reducible exact T_SS (by decide) (by decide)) | (with_reducible exact T_FL (by decide)) | (with_reducible exact T_FS (by decide) (by decide)) | (with_reducible refine T_li ?_) | (with_reducible refine T_ite (fun _ => ?_) (fun _ => ?_)) | (with_reducible refine T_cl ?_ (fun _ => ?_)))

theorem tt_x_X5_endComparison : T [7, 8, 12, 25] [8] (x_X5_endComparison) := by
  unfold x_X5_endComparison
  repeat (first | (with_reducible exact T_rt _) | (with_reducible intro _) | (with_reducible exact (tt_x_X4_emit _ _).mono (by decide) (by decide)) | (with_reducible exact (tt_x_X5_closeNots).mono (by decide) (by decide)) | (with_reducible exact T_RF) | (with_reducible exact T_GT) | (with_reducible exact T_GD) | (with_reducible exact T_GS) | (with_reducible exact T_WF (by decide)) | (with_reducible exact T_ST (by decide)) | (with_reducible exact T_SD (by decide)) | (with_reducible exact T_SS (by decide) (by decide)) | (with_reducible exact T_FL (by decide)) | (with_reducible exact T_FS (by decide) (by decide)) | (with_reducible refine T_li ?_) | (with_reducible refine T_ite (fun _ => ?_) (fun _ => ?_)) | (with_reducible refine T_cl ?_ (fun _ => ?_)))

theorem tt_x_X5_takeHead (a0 : Int32) : T [10, 11, 12, 20, 21] [] (x_X5_takeHead a0) := by
  intro u
  unfold x_X5_takeHead
  refine Tu_RF (Tu_ite (fun _ => T.at ?_ u) (fun h1 => Tu_RF (Tu_ite (fun _ => T.at ?_ u) (fun h2 => Tu_RF (Tu_og ?_ (T.at ?_ u))))))
  · repeat (first | (with_reducible exact T_rt _) | (with_reducible exact (tt_x_X5_goIf _ _).mono (by decide) (by decide)) | (with_reducible exact T_RF) | (with_reducible exact T_WF (by decide)) | (with_reducible refine T_ite (fun _ => ?_) (fun _ => ?_)) | (with_reducible refine T_cl ?_ (fun _ => ?_)))
  · repeat (first | (with_reducible exact T_rt _) | (with_reducible exact (tt_x_X5_goIf _ _).mono (by decide) (by decide)) | (with_reducible exact T_RF) | (with_reducible exact T_WF (by decide)) | (with_reducible refine T_ite (fun _ => ?_) (fun _ => ?_)) | (with_reducible refine T_cl ?_ (fun _ => ?_)))
  · refine decide_eq_true (fun z => ?_)
    rcases z with z | z
    · exact h1 z
    · have h3 := i32_nle h2
      have c6 : (6 : Int32).toInt = 6 := by decide
      rw [c6] at h3
      have h4 : (u.1 12).toNatClampNeg = (u.1 12).toInt.toNat := rfl
      omega
  · repeat (first | (with_reducible exact T_rt _) | (with_reducible exact (tt_x_X5_goIf _ _).mono (by decide) (by decide)) | (with_reducible exact T_RF) | (with_reducible exact T_WF (by decide)) | (with_reducible refine T_ite (fun _ => ?_) (fun _ => ?_)) | (with_reducible refine T_cl ?_ (fun _ => ?_)))

theorem tt_x_X5_take (a0 : Int32) : T [7, 8, 9, 10, 11, 12, 13, 14, 15, 20, 21, 22, 23, 24, 25] [5, 6, 7, 8, 9, 10] (x_X5_take a0) := by
  unfold x_X5_take
  repeat (first | (with_reducible exact T_rt _) | (with_reducible intro _) | (with_reducible exact (tt_x_X5_takeSignOrLine _).mono (by decide) (by decide)) | (with_reducible exact (tt_x_X5_takeSignName _).mono (by decide) (by decide)) | (with_reducible exact (tt_x_X5_goIf _ _).mono (by decide) (by decide)) | (with_reducible exact (tt_x_X5_takePoints _).mono (by decide) (by decide)) | (with_reducible exact (tt_x_X5_takeCond _).mono (by decide) (by decide)) | (with_reducible exact (tt_x_X5_takeTerm _).mono (by decide) (by decide)) | (with_reducible exact (tt_x_X5_takeTermName _).mono (by decide) (by decide)) | (with_reducible exact (tt_x_X5_takeBehindTerm _).mono (by decide) (by decide)) | (with_reducible exact (tt_x_X5_takeBehindCond _).mono (by decide) (by decide)) | (with_reducible exact (tt_x_X5_endComparison).mono (by decide) (by decide)) | (with_reducible exact (tt_x_X5_takeHead _).mono (by decide) (by decide)) | (with_reducible exact T_RF) | (with_reducible exact T_GT) | (with_reducible exact T_GD) | (with_reducible exact T_GS) | (with_reducible exact T_WF (by decide)) | (with_reducible exact T_ST (by decide)) | (with_reducible exact T_SD (by decide)) | (with_reducible exact T_SS (by decide) (by decide)) | (with_reducible exact T_FL (by decide)) | (with_reducible exact T_FS (by decide) (by decide)) | (with_reducible refine T_li ?_) | (with_reducible refine T_ite (fun _ => ?_) (fun _ => ?_)) | (with_reducible refine T_cl ?_ (fun _ => ?_)))

theorem tt_xl_X5_readLaws_46 (K : Int32 → NG Int32) : ∀ (n : Nat) (v1 : Int32), msr v1 ≤ n → (∀ (v1' : Int32), T [3, 4, 5, 6, 7, 8, 9, 10, 11, 12, 13, 14, 15, 20, 21, 22, 23, 24, 25] [5, 6, 7, 8, 9, 10] (K v1')) → T [3, 4, 5, 6, 7, 8, 9, 10, 11, 12, 13, 14, 15, 20, 21, 22, 23, 24, 25] [5, 6, 7, 8, 9, 10] (xl_X5_readLaws_46 n v1 K) := by
  intro n
  induction n with
  | zero =>
    intro v1 hm _
    exact absurd hm (msr_0 _)
  | succ n ih =>
    intro v1 hm hK
    unfold xl_X5_readLaws_46
    repeat (first | (with_reducible exact T_rt _) | (with_reducible intro _) | (with_reducible exact hK _) | (with_reducible exact ih _ (msr_lt (by assumption) (by decide) hm) hK) | (with_reducible exact (tt_x_X10_readToken).mono (by decide) (by decide)) | (with_reducible exact (tt_x_X5_take _).mono (by decide) (by decide)) | (with_reducible exact T_RF) | (with_reducible exact T_GT) | (with_reducible exact T_GD) | (with_reducible exact T_GS) | (with_reducible exact T_WF (by decide)) | (with_reducible exact T_ST (by decide)) | (with_reducible exact T_SD (by decide)) | (with_reducible exact T_SS (by decide) (by decide)) | (with_reducible exact T_FL (by decide)) | (with_reducible exact T_FS (by decide) (by decide)) | (with_reducible refine T_li ?_) | (with_reducible refine T_ite (fun _ => ?_) (fun _ => ?_)) | (with_reducible refine T_cl ?_ (fun _ => ?_)))

theorem tt_x_X5_readLaws : T [3, 4, 5, 6, 7, 8, 9, 10, 11, 12, 13, 14, 15, 20, 21, 22, 23, 24, 25] [5, 6, 7, 8, 9, 10] (x_X5_readLaws) := by
  unfold x_X5_readLaws
  repeat (first | (with_reducible exact T_rt _) | (with_reducible intro _) | (with_reducible refine tt_xl_X5_readLaws_46 _ fuel _ (msr_fuel _) ?_) | (with_reducible exact (tt_x_X4_clear).mono (by decide) (by decide)) | (with_reducible exact (tt_x_X10_rewind).mono (by decide) (by decide)) | (with_reducible exact T_RF) | (with_reducible exact T_GT) | (with_reducible exact T_GD) | (with_reducible exact T_GS) | (with_reducible exact T_WF (by decide)) | (with_reducible exact T_ST (by decide)) | (with_reducible exact T_SD (by decide)) | (with_reducible exact T_SS (by decide) (by decide)) | (with_reducible exact T_FL (by decide)) | (with_reducible exact T_FS (by decide) (by decide)) | (with_reducible refine T_li ?_) | (with_reducible refine T_ite (fun _ => ?_) (fun _ => ?_)) | (with_reducible refine T_cl ?_ (fun _ => ?_)))

