/-! ===== the class: no fault, no place ===== -/
def Fp (u : MS) : Prop := u.1 11 = 0 → u.1 10 = -1
def KF {β : Type} (p : NG β) : Prop := ∀ u, Fp u → CN p u (fun _ v => Fp v)
theorem Fp.sm {LI LA : List Nat} {u v : MS} (h : Fp u) (hs : Same LI LA u v) (h1 : ¬ 10 ∈ LI ∧ ¬ 11 ∈ LI) : Fp v := fun z => by
  rw [hs.1 11 h1.2] at z
  rw [hs.1 10 h1.1]
  exact h z
section
variable {α β : Type}
theorem KF_rt (x : β) : KF (nrt x) := fun _ h => CN_rt h
theorem KF_li {x : Int32} {q : Int32 → NG β} (h : KF (q x)) : KF (nli x q) := h
theorem KF_ite {b : Prop} [Decidable b] {p q : NG β} (h1 : KF p) (h2 : KF q) : KF (if b then p else q) := fun u h => CN_ite (fun _ => h1 u h) (fun _ => h2 u h)
theorem KF_cl {p : NG α} {q : α → NG β} (hp : KF p) (hq : ∀ a, KF (q a)) : KF (ncl p q) := fun u h => CN_cl (CN.mono (hp u h) (fun a v hv => hq a v hv))
theorem KF_T {LI LA : List Nat} {p : NG β} (hT : T LI LA p) (h1 : ¬ 10 ∈ LI ∧ ¬ 11 ∈ LI) : KF p := fun u h r v e => by
  obtain ⟨r2, v2, e2, hs⟩ := hT u
  rw [e] at e2
  cases e2
  exact h.sm hs h1
theorem KF_RF {k : Nat} {q : Int32 → NG β} (hq : ∀ x, KF (q x)) : KF (ncl (nRF k) q) := fun u h => CN_RF (hq _ u h)
theorem KF_GT {a n : Nat} {i : Int32} {q : Int32 → NG β} (hq : ∀ x, KF (q x)) : KF (ncl (nGT a n i) q) := fun u h => CN_GT (hq _ u h)
theorem KF_WF {k : Nat} {x : Int32} {q : Unit → NG β} (hk : ¬ k = 10 ∧ ¬ k = 11) (hq : KF (q ())) : KF (ncl (nWF k x) q) := KF_cl (KF_T (T_WF (LI := [k]) (LA := []) List.mem_cons_self) ⟨fun z => hk.1 (List.mem_singleton.mp z).symm, fun z => hk.2 (List.mem_singleton.mp z).symm⟩) (fun _ => hq)
theorem KF_ST {a n : Nat} {i x : Int32} {q : Unit → NG β} (hq : KF (q ())) : KF (ncl (nST a n i x) q) := KF_cl (KF_T (T_ST (LI := []) (LA := [a]) List.mem_cons_self) ⟨List.not_mem_nil, List.not_mem_nil⟩) (fun _ => hq)
theorem KF_og {b : Bool} {p : NG β} (h : KF p) : KF (nog b p) := by
  cases b with
  | true => exact h
  | false => exact fun u _ r v e => by cases e
end
theorem KF_fail {k : Int32} (hk : ¬ k = 0) : KF (x_X5_fail k) := fun u _ r v e => by
  have e2 : some ((0 : Int32), si (si u 11 k) 10 ((si u 11 k).1 5)) = some (r, v) := e
  cases e2
  exact fun z => absurd z hk

set_option maxHeartbeats 4000000 in
set_option maxRecDepth 100000 in
theorem kf_goIfRoom (a0 : Int32) (a1 : Int32) : KF (x_X5_goIfRoom a0 a1) := by
  unfold x_X5_goIfRoom
  repeat (first | (with_reducible refine KF_ite ?_ ?_) | (with_reducible exact KF_rt _) | (with_reducible refine KF_RF (fun _ => ?_)) | (with_reducible refine KF_WF (by decide) ?_) | (with_reducible refine KF_ST ?_) | (with_reducible refine KF_og ?_) | (with_reducible refine KF_GT (fun _ => ?_)) | (with_reducible refine KF_li ?_) | (with_reducible refine KF_cl ?_ (fun _ => ?_)) | (with_reducible exact KF_fail (by decide)) | (with_reducible exact KF_T (tt_x_X4_emit _ _) (by decide)) | (with_reducible exact KF_T (tt_x_X4_endLine) (by decide)) | (with_reducible exact KF_T (tt_x_X10_tokenSize) (by decide)) | (with_reducible exact KF_T (tt_x_X5_signOfToken) (by decide)) | (with_reducible exact KF_T (tt_x_X5_emitTerm _ _) (by decide)) | (with_reducible exact KF_T (tt_x_X5_hold _) (by decide)) | (with_reducible exact KF_T (tt_x_X5_closeNots) (by decide)) | (with_reducible exact KF_T (tt_x_X5_emitBinders _) (by decide)) | (with_reducible exact KF_T (tt_x_X5_closeBracket) (by decide)) | (with_reducible exact KF_T (tt_x_X5_endComparison) (by decide)) | (with_reducible exact KF_T (tt_x_X10_readToken) (by decide)))

set_option maxHeartbeats 4000000 in
set_option maxRecDepth 100000 in
theorem kf_takeSignOrLine (a0 : Int32) : KF (x_X5_takeSignOrLine a0) := by
  unfold x_X5_takeSignOrLine
  repeat (first | (with_reducible refine KF_ite ?_ ?_) | (with_reducible exact KF_rt _) | (with_reducible refine KF_RF (fun _ => ?_)) | (with_reducible refine KF_WF (by decide) ?_) | (with_reducible refine KF_ST ?_) | (with_reducible refine KF_og ?_) | (with_reducible refine KF_GT (fun _ => ?_)) | (with_reducible refine KF_li ?_) | (with_reducible refine KF_cl ?_ (fun _ => ?_)) | (with_reducible exact KF_fail (by decide)) | (with_reducible exact kf_goIfRoom _ _) | (with_reducible exact KF_T (tt_x_X4_emit _ _) (by decide)) | (with_reducible exact KF_T (tt_x_X4_endLine) (by decide)) | (with_reducible exact KF_T (tt_x_X10_tokenSize) (by decide)) | (with_reducible exact KF_T (tt_x_X5_signOfToken) (by decide)) | (with_reducible exact KF_T (tt_x_X5_emitTerm _ _) (by decide)) | (with_reducible exact KF_T (tt_x_X5_hold _) (by decide)) | (with_reducible exact KF_T (tt_x_X5_closeNots) (by decide)) | (with_reducible exact KF_T (tt_x_X5_emitBinders _) (by decide)) | (with_reducible exact KF_T (tt_x_X5_closeBracket) (by decide)) | (with_reducible exact KF_T (tt_x_X5_endComparison) (by decide)) | (with_reducible exact KF_T (tt_x_X10_readToken) (by decide)))

set_option maxHeartbeats 4000000 in
set_option maxRecDepth 100000 in
theorem kf_takeSignName (a0 : Int32) : KF (x_X5_takeSignName a0) := by
  unfold x_X5_takeSignName
  repeat (first | (with_reducible refine KF_ite ?_ ?_) | (with_reducible exact KF_rt _) | (with_reducible refine KF_RF (fun _ => ?_)) | (with_reducible refine KF_WF (by decide) ?_) | (with_reducible refine KF_ST ?_) | (with_reducible refine KF_og ?_) | (with_reducible refine KF_GT (fun _ => ?_)) | (with_reducible refine KF_li ?_) | (with_reducible refine KF_cl ?_ (fun _ => ?_)) | (with_reducible exact KF_fail (by decide)) | (with_reducible exact kf_goIfRoom _ _) | (with_reducible exact kf_takeSignOrLine _) | (with_reducible exact KF_T (tt_x_X4_emit _ _) (by decide)) | (with_reducible exact KF_T (tt_x_X4_endLine) (by decide)) | (with_reducible exact KF_T (tt_x_X10_tokenSize) (by decide)) | (with_reducible exact KF_T (tt_x_X5_signOfToken) (by decide)) | (with_reducible exact KF_T (tt_x_X5_emitTerm _ _) (by decide)) | (with_reducible exact KF_T (tt_x_X5_hold _) (by decide)) | (with_reducible exact KF_T (tt_x_X5_closeNots) (by decide)) | (with_reducible exact KF_T (tt_x_X5_emitBinders _) (by decide)) | (with_reducible exact KF_T (tt_x_X5_closeBracket) (by decide)) | (with_reducible exact KF_T (tt_x_X5_endComparison) (by decide)) | (with_reducible exact KF_T (tt_x_X10_readToken) (by decide)))

set_option maxHeartbeats 4000000 in
set_option maxRecDepth 100000 in
theorem kf_goIf (a0 : Int32) (a1 : Int32) : KF (x_X5_goIf a0 a1) := by
  unfold x_X5_goIf
  repeat (first | (with_reducible refine KF_ite ?_ ?_) | (with_reducible exact KF_rt _) | (with_reducible refine KF_RF (fun _ => ?_)) | (with_reducible refine KF_WF (by decide) ?_) | (with_reducible refine KF_ST ?_) | (with_reducible refine KF_og ?_) | (with_reducible refine KF_GT (fun _ => ?_)) | (with_reducible refine KF_li ?_) | (with_reducible refine KF_cl ?_ (fun _ => ?_)) | (with_reducible exact KF_fail (by decide)) | (with_reducible exact kf_goIfRoom _ _) | (with_reducible exact kf_takeSignOrLine _) | (with_reducible exact kf_takeSignName _) | (with_reducible exact KF_T (tt_x_X4_emit _ _) (by decide)) | (with_reducible exact KF_T (tt_x_X4_endLine) (by decide)) | (with_reducible exact KF_T (tt_x_X10_tokenSize) (by decide)) | (with_reducible exact KF_T (tt_x_X5_signOfToken) (by decide)) | (with_reducible exact KF_T (tt_x_X5_emitTerm _ _) (by decide)) | (with_reducible exact KF_T (tt_x_X5_hold _) (by decide)) | (with_reducible exact KF_T (tt_x_X5_closeNots) (by decide)) | (with_reducible exact KF_T (tt_x_X5_emitBinders _) (by decide)) | (with_reducible exact KF_T (tt_x_X5_closeBracket) (by decide)) | (with_reducible exact KF_T (tt_x_X5_endComparison) (by decide)) | (with_reducible exact KF_T (tt_x_X10_readToken) (by decide)))

set_option maxHeartbeats 4000000 in
set_option maxRecDepth 100000 in
theorem kf_takePoints (a0 : Int32) : KF (x_X5_takePoints a0) := by
  unfold x_X5_takePoints
  repeat (first | (with_reducible refine KF_ite ?_ ?_) | (with_reducible exact KF_rt _) | (with_reducible refine KF_RF (fun _ => ?_)) | (with_reducible refine KF_WF (by decide) ?_) | (with_reducible refine KF_ST ?_) | (with_reducible refine KF_og ?_) | (with_reducible refine KF_GT (fun _ => ?_)) | (with_reducible refine KF_li ?_) | (with_reducible refine KF_cl ?_ (fun _ => ?_)) | (with_reducible exact KF_fail (by decide)) | (with_reducible exact kf_goIfRoom _ _) | (with_reducible exact kf_takeSignOrLine _) | (with_reducible exact kf_takeSignName _) | (with_reducible exact kf_goIf _ _) | (with_reducible exact KF_T (tt_x_X4_emit _ _) (by decide)) | (with_reducible exact KF_T (tt_x_X4_endLine) (by decide)) | (with_reducible exact KF_T (tt_x_X10_tokenSize) (by decide)) | (with_reducible exact KF_T (tt_x_X5_signOfToken) (by decide)) | (with_reducible exact KF_T (tt_x_X5_emitTerm _ _) (by decide)) | (with_reducible exact KF_T (tt_x_X5_hold _) (by decide)) | (with_reducible exact KF_T (tt_x_X5_closeNots) (by decide)) | (with_reducible exact KF_T (tt_x_X5_emitBinders _) (by decide)) | (with_reducible exact KF_T (tt_x_X5_closeBracket) (by decide)) | (with_reducible exact KF_T (tt_x_X5_endComparison) (by decide)) | (with_reducible exact KF_T (tt_x_X10_readToken) (by decide)))

set_option maxHeartbeats 4000000 in
set_option maxRecDepth 100000 in
theorem kf_takePart (a0 : Int32) : KF (x_X5_takePart a0) := by
  unfold x_X5_takePart
  repeat (first | (with_reducible refine KF_ite ?_ ?_) | (with_reducible exact KF_rt _) | (with_reducible refine KF_RF (fun _ => ?_)) | (with_reducible refine KF_WF (by decide) ?_) | (with_reducible refine KF_ST ?_) | (with_reducible refine KF_og ?_) | (with_reducible refine KF_GT (fun _ => ?_)) | (with_reducible refine KF_li ?_) | (with_reducible refine KF_cl ?_ (fun _ => ?_)) | (with_reducible exact KF_fail (by decide)) | (with_reducible exact kf_goIfRoom _ _) | (with_reducible exact kf_takeSignOrLine _) | (with_reducible exact kf_takeSignName _) | (with_reducible exact kf_goIf _ _) | (with_reducible exact kf_takePoints _) | (with_reducible exact KF_T (tt_x_X4_emit _ _) (by decide)) | (with_reducible exact KF_T (tt_x_X4_endLine) (by decide)) | (with_reducible exact KF_T (tt_x_X10_tokenSize) (by decide)) | (with_reducible exact KF_T (tt_x_X5_signOfToken) (by decide)) | (with_reducible exact KF_T (tt_x_X5_emitTerm _ _) (by decide)) | (with_reducible exact KF_T (tt_x_X5_hold _) (by decide)) | (with_reducible exact KF_T (tt_x_X5_closeNots) (by decide)) | (with_reducible exact KF_T (tt_x_X5_emitBinders _) (by decide)) | (with_reducible exact KF_T (tt_x_X5_closeBracket) (by decide)) | (with_reducible exact KF_T (tt_x_X5_endComparison) (by decide)) | (with_reducible exact KF_T (tt_x_X10_readToken) (by decide)))

set_option maxHeartbeats 4000000 in
set_option maxRecDepth 100000 in
theorem kf_takeTerm (a0 : Int32) : KF (x_X5_takeTerm a0) := by
  unfold x_X5_takeTerm
  repeat (first | (with_reducible refine KF_ite ?_ ?_) | (with_reducible exact KF_rt _) | (with_reducible refine KF_RF (fun _ => ?_)) | (with_reducible refine KF_WF (by decide) ?_) | (with_reducible refine KF_ST ?_) | (with_reducible refine KF_og ?_) | (with_reducible refine KF_GT (fun _ => ?_)) | (with_reducible refine KF_li ?_) | (with_reducible refine KF_cl ?_ (fun _ => ?_)) | (with_reducible exact KF_fail (by decide)) | (with_reducible exact kf_goIfRoom _ _) | (with_reducible exact kf_takeSignOrLine _) | (with_reducible exact kf_takeSignName _) | (with_reducible exact kf_goIf _ _) | (with_reducible exact kf_takePoints _) | (with_reducible exact kf_takePart _) | (with_reducible exact KF_T (tt_x_X4_emit _ _) (by decide)) | (with_reducible exact KF_T (tt_x_X4_endLine) (by decide)) | (with_reducible exact KF_T (tt_x_X10_tokenSize) (by decide)) | (with_reducible exact KF_T (tt_x_X5_signOfToken) (by decide)) | (with_reducible exact KF_T (tt_x_X5_emitTerm _ _) (by decide)) | (with_reducible exact KF_T (tt_x_X5_hold _) (by decide)) | (with_reducible exact KF_T (tt_x_X5_closeNots) (by decide)) | (with_reducible exact KF_T (tt_x_X5_emitBinders _) (by decide)) | (with_reducible exact KF_T (tt_x_X5_closeBracket) (by decide)) | (with_reducible exact KF_T (tt_x_X5_endComparison) (by decide)) | (with_reducible exact KF_T (tt_x_X10_readToken) (by decide)))

set_option maxHeartbeats 4000000 in
set_option maxRecDepth 100000 in
theorem kf_openThing (a0 : Int32) : KF (x_X5_openThing a0) := by
  unfold x_X5_openThing
  repeat (first | (with_reducible refine KF_ite ?_ ?_) | (with_reducible exact KF_rt _) | (with_reducible refine KF_RF (fun _ => ?_)) | (with_reducible refine KF_WF (by decide) ?_) | (with_reducible refine KF_ST ?_) | (with_reducible refine KF_og ?_) | (with_reducible refine KF_GT (fun _ => ?_)) | (with_reducible refine KF_li ?_) | (with_reducible refine KF_cl ?_ (fun _ => ?_)) | (with_reducible exact KF_fail (by decide)) | (with_reducible exact kf_goIfRoom _ _) | (with_reducible exact kf_takeSignOrLine _) | (with_reducible exact kf_takeSignName _) | (with_reducible exact kf_goIf _ _) | (with_reducible exact kf_takePoints _) | (with_reducible exact kf_takePart _) | (with_reducible exact kf_takeTerm _) | (with_reducible exact KF_T (tt_x_X4_emit _ _) (by decide)) | (with_reducible exact KF_T (tt_x_X4_endLine) (by decide)) | (with_reducible exact KF_T (tt_x_X10_tokenSize) (by decide)) | (with_reducible exact KF_T (tt_x_X5_signOfToken) (by decide)) | (with_reducible exact KF_T (tt_x_X5_emitTerm _ _) (by decide)) | (with_reducible exact KF_T (tt_x_X5_hold _) (by decide)) | (with_reducible exact KF_T (tt_x_X5_closeNots) (by decide)) | (with_reducible exact KF_T (tt_x_X5_emitBinders _) (by decide)) | (with_reducible exact KF_T (tt_x_X5_closeBracket) (by decide)) | (with_reducible exact KF_T (tt_x_X5_endComparison) (by decide)) | (with_reducible exact KF_T (tt_x_X10_readToken) (by decide)))

set_option maxHeartbeats 4000000 in
set_option maxRecDepth 100000 in
theorem kf_takeCond (a0 : Int32) : KF (x_X5_takeCond a0) := by
  unfold x_X5_takeCond
  repeat (first | (with_reducible refine KF_ite ?_ ?_) | (with_reducible exact KF_rt _) | (with_reducible refine KF_RF (fun _ => ?_)) | (with_reducible refine KF_WF (by decide) ?_) | (with_reducible refine KF_ST ?_) | (with_reducible refine KF_og ?_) | (with_reducible refine KF_GT (fun _ => ?_)) | (with_reducible refine KF_li ?_) | (with_reducible refine KF_cl ?_ (fun _ => ?_)) | (with_reducible exact KF_fail (by decide)) | (with_reducible exact kf_goIfRoom _ _) | (with_reducible exact kf_takeSignOrLine _) | (with_reducible exact kf_takeSignName _) | (with_reducible exact kf_goIf _ _) | (with_reducible exact kf_takePoints _) | (with_reducible exact kf_takePart _) | (with_reducible exact kf_takeTerm _) | (with_reducible exact kf_openThing _) | (with_reducible exact KF_T (tt_x_X4_emit _ _) (by decide)) | (with_reducible exact KF_T (tt_x_X4_endLine) (by decide)) | (with_reducible exact KF_T (tt_x_X10_tokenSize) (by decide)) | (with_reducible exact KF_T (tt_x_X5_signOfToken) (by decide)) | (with_reducible exact KF_T (tt_x_X5_emitTerm _ _) (by decide)) | (with_reducible exact KF_T (tt_x_X5_hold _) (by decide)) | (with_reducible exact KF_T (tt_x_X5_closeNots) (by decide)) | (with_reducible exact KF_T (tt_x_X5_emitBinders _) (by decide)) | (with_reducible exact KF_T (tt_x_X5_closeBracket) (by decide)) | (with_reducible exact KF_T (tt_x_X5_endComparison) (by decide)) | (with_reducible exact KF_T (tt_x_X10_readToken) (by decide)))

set_option maxHeartbeats 4000000 in
set_option maxRecDepth 100000 in
theorem kf_takeTermName (a0 : Int32) : KF (x_X5_takeTermName a0) := by
  unfold x_X5_takeTermName
  repeat (first | (with_reducible refine KF_ite ?_ ?_) | (with_reducible exact KF_rt _) | (with_reducible refine KF_RF (fun _ => ?_)) | (with_reducible refine KF_WF (by decide) ?_) | (with_reducible refine KF_ST ?_) | (with_reducible refine KF_og ?_) | (with_reducible refine KF_GT (fun _ => ?_)) | (with_reducible refine KF_li ?_) | (with_reducible refine KF_cl ?_ (fun _ => ?_)) | (with_reducible exact KF_fail (by decide)) | (with_reducible exact kf_goIfRoom _ _) | (with_reducible exact kf_takeSignOrLine _) | (with_reducible exact kf_takeSignName _) | (with_reducible exact kf_goIf _ _) | (with_reducible exact kf_takePoints _) | (with_reducible exact kf_takePart _) | (with_reducible exact kf_takeTerm _) | (with_reducible exact kf_openThing _) | (with_reducible exact kf_takeCond _) | (with_reducible exact KF_T (tt_x_X4_emit _ _) (by decide)) | (with_reducible exact KF_T (tt_x_X4_endLine) (by decide)) | (with_reducible exact KF_T (tt_x_X10_tokenSize) (by decide)) | (with_reducible exact KF_T (tt_x_X5_signOfToken) (by decide)) | (with_reducible exact KF_T (tt_x_X5_emitTerm _ _) (by decide)) | (with_reducible exact KF_T (tt_x_X5_hold _) (by decide)) | (with_reducible exact KF_T (tt_x_X5_closeNots) (by decide)) | (with_reducible exact KF_T (tt_x_X5_emitBinders _) (by decide)) | (with_reducible exact KF_T (tt_x_X5_closeBracket) (by decide)) | (with_reducible exact KF_T (tt_x_X5_endComparison) (by decide)) | (with_reducible exact KF_T (tt_x_X10_readToken) (by decide)))

set_option maxHeartbeats 4000000 in
set_option maxRecDepth 100000 in
theorem kf_takeBehindTerm (a0 : Int32) : KF (x_X5_takeBehindTerm a0) := by
  unfold x_X5_takeBehindTerm
  repeat (first | (with_reducible refine KF_ite ?_ ?_) | (with_reducible exact KF_rt _) | (with_reducible refine KF_RF (fun _ => ?_)) | (with_reducible refine KF_WF (by decide) ?_) | (with_reducible refine KF_ST ?_) | (with_reducible refine KF_og ?_) | (with_reducible refine KF_GT (fun _ => ?_)) | (with_reducible refine KF_li ?_) | (with_reducible refine KF_cl ?_ (fun _ => ?_)) | (with_reducible exact KF_fail (by decide)) | (with_reducible exact kf_goIfRoom _ _) | (with_reducible exact kf_takeSignOrLine _) | (with_reducible exact kf_takeSignName _) | (with_reducible exact kf_goIf _ _) | (with_reducible exact kf_takePoints _) | (with_reducible exact kf_takePart _) | (with_reducible exact kf_takeTerm _) | (with_reducible exact kf_openThing _) | (with_reducible exact kf_takeCond _) | (with_reducible exact kf_takeTermName _) | (with_reducible exact KF_T (tt_x_X4_emit _ _) (by decide)) | (with_reducible exact KF_T (tt_x_X4_endLine) (by decide)) | (with_reducible exact KF_T (tt_x_X10_tokenSize) (by decide)) | (with_reducible exact KF_T (tt_x_X5_signOfToken) (by decide)) | (with_reducible exact KF_T (tt_x_X5_emitTerm _ _) (by decide)) | (with_reducible exact KF_T (tt_x_X5_hold _) (by decide)) | (with_reducible exact KF_T (tt_x_X5_closeNots) (by decide)) | (with_reducible exact KF_T (tt_x_X5_emitBinders _) (by decide)) | (with_reducible exact KF_T (tt_x_X5_closeBracket) (by decide)) | (with_reducible exact KF_T (tt_x_X5_endComparison) (by decide)) | (with_reducible exact KF_T (tt_x_X10_readToken) (by decide)))

set_option maxHeartbeats 4000000 in
set_option maxRecDepth 100000 in
theorem kf_takeBehindCond (a0 : Int32) : KF (x_X5_takeBehindCond a0) := by
  unfold x_X5_takeBehindCond
  repeat (first | (with_reducible refine KF_ite ?_ ?_) | (with_reducible exact KF_rt _) | (with_reducible refine KF_RF (fun _ => ?_)) | (with_reducible refine KF_WF (by decide) ?_) | (with_reducible refine KF_ST ?_) | (with_reducible refine KF_og ?_) | (with_reducible refine KF_GT (fun _ => ?_)) | (with_reducible refine KF_li ?_) | (with_reducible refine KF_cl ?_ (fun _ => ?_)) | (with_reducible exact KF_fail (by decide)) | (with_reducible exact kf_goIfRoom _ _) | (with_reducible exact kf_takeSignOrLine _) | (with_reducible exact kf_takeSignName _) | (with_reducible exact kf_goIf _ _) | (with_reducible exact kf_takePoints _) | (with_reducible exact kf_takePart _) | (with_reducible exact kf_takeTerm _) | (with_reducible exact kf_openThing _) | (with_reducible exact kf_takeCond _) | (with_reducible exact kf_takeTermName _) | (with_reducible exact kf_takeBehindTerm _) | (with_reducible exact KF_T (tt_x_X4_emit _ _) (by decide)) | (with_reducible exact KF_T (tt_x_X4_endLine) (by decide)) | (with_reducible exact KF_T (tt_x_X10_tokenSize) (by decide)) | (with_reducible exact KF_T (tt_x_X5_signOfToken) (by decide)) | (with_reducible exact KF_T (tt_x_X5_emitTerm _ _) (by decide)) | (with_reducible exact KF_T (tt_x_X5_hold _) (by decide)) | (with_reducible exact KF_T (tt_x_X5_closeNots) (by decide)) | (with_reducible exact KF_T (tt_x_X5_emitBinders _) (by decide)) | (with_reducible exact KF_T (tt_x_X5_closeBracket) (by decide)) | (with_reducible exact KF_T (tt_x_X5_endComparison) (by decide)) | (with_reducible exact KF_T (tt_x_X10_readToken) (by decide)))

set_option maxHeartbeats 4000000 in
set_option maxRecDepth 100000 in
theorem kf_takeHead (a0 : Int32) : KF (x_X5_takeHead a0) := by
  unfold x_X5_takeHead
  repeat (first | (with_reducible refine KF_ite ?_ ?_) | (with_reducible exact KF_rt _) | (with_reducible refine KF_RF (fun _ => ?_)) | (with_reducible refine KF_WF (by decide) ?_) | (with_reducible refine KF_ST ?_) | (with_reducible refine KF_og ?_) | (with_reducible refine KF_GT (fun _ => ?_)) | (with_reducible refine KF_li ?_) | (with_reducible refine KF_cl ?_ (fun _ => ?_)) | (with_reducible exact KF_fail (by decide)) | (with_reducible exact kf_goIfRoom _ _) | (with_reducible exact kf_takeSignOrLine _) | (with_reducible exact kf_takeSignName _) | (with_reducible exact kf_goIf _ _) | (with_reducible exact kf_takePoints _) | (with_reducible exact kf_takePart _) | (with_reducible exact kf_takeTerm _) | (with_reducible exact kf_openThing _) | (with_reducible exact kf_takeCond _) | (with_reducible exact kf_takeTermName _) | (with_reducible exact kf_takeBehindTerm _) | (with_reducible exact kf_takeBehindCond _) | (with_reducible exact KF_T (tt_x_X4_emit _ _) (by decide)) | (with_reducible exact KF_T (tt_x_X4_endLine) (by decide)) | (with_reducible exact KF_T (tt_x_X10_tokenSize) (by decide)) | (with_reducible exact KF_T (tt_x_X5_signOfToken) (by decide)) | (with_reducible exact KF_T (tt_x_X5_emitTerm _ _) (by decide)) | (with_reducible exact KF_T (tt_x_X5_hold _) (by decide)) | (with_reducible exact KF_T (tt_x_X5_closeNots) (by decide)) | (with_reducible exact KF_T (tt_x_X5_emitBinders _) (by decide)) | (with_reducible exact KF_T (tt_x_X5_closeBracket) (by decide)) | (with_reducible exact KF_T (tt_x_X5_endComparison) (by decide)) | (with_reducible exact KF_T (tt_x_X10_readToken) (by decide)))

set_option maxHeartbeats 4000000 in
set_option maxRecDepth 100000 in
theorem kf_take (a0 : Int32) : KF (x_X5_take a0) := by
  unfold x_X5_take
  repeat (first | (with_reducible refine KF_ite ?_ ?_) | (with_reducible exact KF_rt _) | (with_reducible refine KF_RF (fun _ => ?_)) | (with_reducible refine KF_WF (by decide) ?_) | (with_reducible refine KF_ST ?_) | (with_reducible refine KF_og ?_) | (with_reducible refine KF_GT (fun _ => ?_)) | (with_reducible refine KF_li ?_) | (with_reducible refine KF_cl ?_ (fun _ => ?_)) | (with_reducible exact KF_fail (by decide)) | (with_reducible exact kf_goIfRoom _ _) | (with_reducible exact kf_takeSignOrLine _) | (with_reducible exact kf_takeSignName _) | (with_reducible exact kf_goIf _ _) | (with_reducible exact kf_takePoints _) | (with_reducible exact kf_takePart _) | (with_reducible exact kf_takeTerm _) | (with_reducible exact kf_openThing _) | (with_reducible exact kf_takeCond _) | (with_reducible exact kf_takeTermName _) | (with_reducible exact kf_takeBehindTerm _) | (with_reducible exact kf_takeBehindCond _) | (with_reducible exact kf_takeHead _) | (with_reducible exact KF_T (tt_x_X4_emit _ _) (by decide)) | (with_reducible exact KF_T (tt_x_X4_endLine) (by decide)) | (with_reducible exact KF_T (tt_x_X10_tokenSize) (by decide)) | (with_reducible exact KF_T (tt_x_X5_signOfToken) (by decide)) | (with_reducible exact KF_T (tt_x_X5_emitTerm _ _) (by decide)) | (with_reducible exact KF_T (tt_x_X5_hold _) (by decide)) | (with_reducible exact KF_T (tt_x_X5_closeNots) (by decide)) | (with_reducible exact KF_T (tt_x_X5_emitBinders _) (by decide)) | (with_reducible exact KF_T (tt_x_X5_closeBracket) (by decide)) | (with_reducible exact KF_T (tt_x_X5_endComparison) (by decide)) | (with_reducible exact KF_T (tt_x_X10_readToken) (by decide)))

theorem kf_lp (K : Int32 → NG Int32) (hK : ∀ x, KF (K x)) : ∀ (n : Nat) (v : Int32), KF (xl_X5_readLaws_46 n v K) := by
  intro n
  induction n with
  | zero => exact fun v u h r w e => by cases e
  | succ n ih =>
    intro v
    unfold xl_X5_readLaws_46
    exact KF_ite (hK v) (KF_RF (fun _ => KF_ite (KF_RF (fun _ => KF_ite (hK v) (KF_cl (KF_T tt_x_X10_readToken (by decide)) (fun _ => KF_RF (fun _ => KF_cl (kf_take _) (fun _ => KF_li (ih _))))))) (hK v)))
theorem readLaws_fp (u : MS) : CN x_X5_readLaws u (fun _ v => Fp v) := by
  refine c_start ?_
  have h0 : Fp (u00 u) := fun _ => rfl
  exact kf_lp _ (fun x => KF_RF (fun _ => KF_ite (KF_rt _) (KF_rt _))) fuel 0 _ h0

