theorem tt_x_X0_slot (a0 : Int32) (a1 : Int32) : T [] [] (x_X0_slot a0 a1) := by
  unfold x_X0_slot
  repeat (first | (with_reducible exact T_rt _) | (with_reducible intro _) | (with_reducible exact T_RF) | (with_reducible exact T_GT) | (with_reducible exact T_GD) | (with_reducible exact T_GS) | (with_reducible exact T_WF (by decide)) | (with_reducible exact T_ST (by decide)) | (with_reducible exact T_SD (by decide)) | (with_reducible exact T_SS (by decide) (by decide)) | (with_reducible exact T_FL (by decide)) | (with_reducible exact T_FS (by decide) (by decide)) | (with_reducible refine T_li ?_) | (with_reducible refine T_ite (fun _ => ?_) (fun _ => ?_)) | (with_reducible refine T_cl ?_ (fun _ => ?_)))

theorem tt_x_X1_ofClass (a0 : Int32) (a1 : Int32) : T [] [] (x_X1_ofClass a0 a1) := by
  unfold x_X1_ofClass
  repeat (first | (with_reducible exact T_rt _) | (with_reducible intro _) | (with_reducible exact T_RF) | (with_reducible exact T_GT) | (with_reducible exact T_GD) | (with_reducible exact T_GS) | (with_reducible exact T_WF (by decide)) | (with_reducible exact T_ST (by decide)) | (with_reducible exact T_SD (by decide)) | (with_reducible exact T_SS (by decide) (by decide)) | (with_reducible exact T_FL (by decide)) | (with_reducible exact T_FS (by decide) (by decide)) | (with_reducible refine T_li ?_) | (with_reducible refine T_ite (fun _ => ?_) (fun _ => ?_)) | (with_reducible refine T_cl ?_ (fun _ => ?_)))

theorem tt_x_X0_kindOf (a0 : Int32) : T [] [] (x_X0_kindOf a0) := by
  unfold x_X0_kindOf
  repeat (first | (with_reducible exact T_rt _) | (with_reducible intro _) | (with_reducible exact (tt_x_X1_ofClass _ _).mono (by decide) (by decide)) | (with_reducible exact T_RF) | (with_reducible exact T_GT) | (with_reducible exact T_GD) | (with_reducible exact T_GS) | (with_reducible exact T_WF (by decide)) | (with_reducible exact T_ST (by decide)) | (with_reducible exact T_SD (by decide)) | (with_reducible exact T_SS (by decide) (by decide)) | (with_reducible exact T_FL (by decide)) | (with_reducible exact T_FS (by decide) (by decide)) | (with_reducible refine T_li ?_) | (with_reducible refine T_ite (fun _ => ?_) (fun _ => ?_)) | (with_reducible refine T_cl ?_ (fun _ => ?_)))

theorem tt_x_X0_sizeOf (a0 : Int32) : T [] [] (x_X0_sizeOf a0) := by
  unfold x_X0_sizeOf
  repeat (first | (with_reducible exact T_rt _) | (with_reducible intro _) | (with_reducible exact (tt_x_X1_ofClass _ _).mono (by decide) (by decide)) | (with_reducible exact T_RF) | (with_reducible exact T_GT) | (with_reducible exact T_GD) | (with_reducible exact T_GS) | (with_reducible exact T_WF (by decide)) | (with_reducible exact T_ST (by decide)) | (with_reducible exact T_SD (by decide)) | (with_reducible exact T_SS (by decide) (by decide)) | (with_reducible exact T_FL (by decide)) | (with_reducible exact T_FS (by decide) (by decide)) | (with_reducible refine T_li ?_) | (with_reducible refine T_ite (fun _ => ?_) (fun _ => ?_)) | (with_reducible refine T_cl ?_ (fun _ => ?_)))

theorem tt_x_X0_isDrawn (a0 : Int32) : T [] [] (x_X0_isDrawn a0) := by
  unfold x_X0_isDrawn
  repeat (first | (with_reducible exact T_rt _) | (with_reducible intro _) | (with_reducible exact (tt_x_X0_kindOf _).mono (by decide) (by decide)) | (with_reducible exact T_RF) | (with_reducible exact T_GT) | (with_reducible exact T_GD) | (with_reducible exact T_GS) | (with_reducible exact T_WF (by decide)) | (with_reducible exact T_ST (by decide)) | (with_reducible exact T_SD (by decide)) | (with_reducible exact T_SS (by decide) (by decide)) | (with_reducible exact T_FL (by decide)) | (with_reducible exact T_FS (by decide) (by decide)) | (with_reducible refine T_li ?_) | (with_reducible refine T_ite (fun _ => ?_) (fun _ => ?_)) | (with_reducible refine T_cl ?_ (fun _ => ?_)))

theorem tt_x_X0_onPlace (a0 : Int32) (a1 : Int32) : T [] [] (x_X0_onPlace a0 a1) := by
  unfold x_X0_onPlace
  repeat (first | (with_reducible exact T_rt _) | (with_reducible intro _) | (with_reducible exact (tt_x_X0_kindOf _).mono (by decide) (by decide)) | (with_reducible exact (tt_x_X1_ofClass _ _).mono (by decide) (by decide)) | (with_reducible exact (tt_x_X0_sizeOf _).mono (by decide) (by decide)) | (with_reducible exact T_RF) | (with_reducible exact T_GT) | (with_reducible exact T_GD) | (with_reducible exact T_GS) | (with_reducible exact T_WF (by decide)) | (with_reducible exact T_ST (by decide)) | (with_reducible exact T_SD (by decide)) | (with_reducible exact T_SS (by decide) (by decide)) | (with_reducible exact T_FL (by decide)) | (with_reducible exact T_FS (by decide) (by decide)) | (with_reducible refine T_li ?_) | (with_reducible refine T_ite (fun _ => ?_) (fun _ => ?_)) | (with_reducible refine T_cl ?_ (fun _ => ?_)))

theorem tt_x_X0_stepsOf (a0 : Int32) : T [] [] (x_X0_stepsOf a0) := by
  unfold x_X0_stepsOf
  repeat (first | (with_reducible exact T_rt _) | (with_reducible intro _) | (with_reducible exact T_RF) | (with_reducible exact T_GT) | (with_reducible exact T_GD) | (with_reducible exact T_GS) | (with_reducible exact T_WF (by decide)) | (with_reducible exact T_ST (by decide)) | (with_reducible exact T_SD (by decide)) | (with_reducible exact T_SS (by decide) (by decide)) | (with_reducible exact T_FL (by decide)) | (with_reducible exact T_FS (by decide) (by decide)) | (with_reducible refine T_li ?_) | (with_reducible refine T_ite (fun _ => ?_) (fun _ => ?_)) | (with_reducible refine T_cl ?_ (fun _ => ?_)))

theorem tt_x_X0_fightsOf (a0 : Int32) : T [] [] (x_X0_fightsOf a0) := by
  unfold x_X0_fightsOf
  repeat (first | (with_reducible exact T_rt _) | (with_reducible intro _) | (with_reducible exact (tt_x_X0_sizeOf _).mono (by decide) (by decide)) | (with_reducible exact (tt_x_X0_kindOf _).mono (by decide) (by decide)) | (with_reducible exact (tt_x_X0_stepsOf _).mono (by decide) (by decide)) | (with_reducible exact T_RF) | (with_reducible exact T_GT) | (with_reducible exact T_GD) | (with_reducible exact T_GS) | (with_reducible exact T_WF (by decide)) | (with_reducible exact T_ST (by decide)) | (with_reducible exact T_SD (by decide)) | (with_reducible exact T_SS (by decide) (by decide)) | (with_reducible exact T_FL (by decide)) | (with_reducible exact T_FS (by decide) (by decide)) | (with_reducible refine T_li ?_) | (with_reducible refine T_ite (fun _ => ?_) (fun _ => ?_)) | (with_reducible refine T_cl ?_ (fun _ => ?_)))

theorem tt_x_X11_isClass (a0 : Int32) : T [] [] (x_X11_isClass a0) := by
  unfold x_X11_isClass
  repeat (first | (with_reducible exact T_rt _) | (with_reducible intro _) | (with_reducible exact T_RF) | (with_reducible exact T_GT) | (with_reducible exact T_GD) | (with_reducible exact T_GS) | (with_reducible exact T_WF (by decide)) | (with_reducible exact T_ST (by decide)) | (with_reducible exact T_SD (by decide)) | (with_reducible exact T_SS (by decide) (by decide)) | (with_reducible exact T_FL (by decide)) | (with_reducible exact T_FS (by decide) (by decide)) | (with_reducible refine T_li ?_) | (with_reducible refine T_ite (fun _ => ?_) (fun _ => ?_)) | (with_reducible refine T_cl ?_ (fun _ => ?_)))

theorem tt_x_X0_has (a0 : Int32) (a1 : Int32) : T [] [] (x_X0_has a0 a1) := by
  unfold x_X0_has
  repeat (first | (with_reducible exact T_rt _) | (with_reducible intro _) | (with_reducible exact (tt_x_X11_isClass _).mono (by decide) (by decide)) | (with_reducible exact (tt_x_X0_fightsOf _).mono (by decide) (by decide)) | (with_reducible exact T_RF) | (with_reducible exact T_GT) | (with_reducible exact T_GD) | (with_reducible exact T_GS) | (with_reducible exact T_WF (by decide)) | (with_reducible exact T_ST (by decide)) | (with_reducible exact T_SD (by decide)) | (with_reducible exact T_SS (by decide) (by decide)) | (with_reducible exact T_FL (by decide)) | (with_reducible exact T_FS (by decide) (by decide)) | (with_reducible refine T_li ?_) | (with_reducible refine T_ite (fun _ => ?_) (fun _ => ?_)) | (with_reducible refine T_cl ?_ (fun _ => ?_)))

theorem tt_x_X0_whiteOf (a0 : Int32) (a1 : Int32) : T [] [] (x_X0_whiteOf a0 a1) := by
  unfold x_X0_whiteOf
  repeat (first | (with_reducible exact T_rt _) | (with_reducible intro _) | (with_reducible exact (tt_x_X0_slot _ _).mono (by decide) (by decide)) | (with_reducible exact T_RF) | (with_reducible exact T_GT) | (with_reducible exact T_GD) | (with_reducible exact T_GS) | (with_reducible exact T_WF (by decide)) | (with_reducible exact T_ST (by decide)) | (with_reducible exact T_SD (by decide)) | (with_reducible exact T_SS (by decide) (by decide)) | (with_reducible exact T_FL (by decide)) | (with_reducible exact T_FS (by decide) (by decide)) | (with_reducible refine T_li ?_) | (with_reducible refine T_ite (fun _ => ?_) (fun _ => ?_)) | (with_reducible refine T_cl ?_ (fun _ => ?_)))

theorem tt_x_X0_blueOf (a0 : Int32) (a1 : Int32) : T [] [] (x_X0_blueOf a0 a1) := by
  unfold x_X0_blueOf
  repeat (first | (with_reducible exact T_rt _) | (with_reducible intro _) | (with_reducible exact (tt_x_X0_slot _ _).mono (by decide) (by decide)) | (with_reducible exact T_RF) | (with_reducible exact T_GT) | (with_reducible exact T_GD) | (with_reducible exact T_GS) | (with_reducible exact T_WF (by decide)) | (with_reducible exact T_ST (by decide)) | (with_reducible exact T_SD (by decide)) | (with_reducible exact T_SS (by decide) (by decide)) | (with_reducible exact T_FL (by decide)) | (with_reducible exact T_FS (by decide) (by decide)) | (with_reducible refine T_li ?_) | (with_reducible refine T_ite (fun _ => ?_) (fun _ => ?_)) | (with_reducible refine T_cl ?_ (fun _ => ?_)))

theorem tt_x_X0_winnerOf (a0 : Int32) (a1 : Int32) : T [] [] (x_X0_winnerOf a0 a1) := by
  unfold x_X0_winnerOf
  repeat (first | (with_reducible exact T_rt _) | (with_reducible intro _) | (with_reducible exact (tt_x_X0_slot _ _).mono (by decide) (by decide)) | (with_reducible exact T_RF) | (with_reducible exact T_GT) | (with_reducible exact T_GD) | (with_reducible exact T_GS) | (with_reducible exact T_WF (by decide)) | (with_reducible exact T_ST (by decide)) | (with_reducible exact T_SD (by decide)) | (with_reducible exact T_SS (by decide) (by decide)) | (with_reducible exact T_FL (by decide)) | (with_reducible exact T_FS (by decide) (by decide)) | (with_reducible refine T_li ?_) | (with_reducible refine T_ite (fun _ => ?_) (fun _ => ?_)) | (with_reducible refine T_cl ?_ (fun _ => ?_)))

theorem tt_x_X0_stateOf (a0 : Int32) (a1 : Int32) : T [] [] (x_X0_stateOf a0 a1) := by
  unfold x_X0_stateOf
  repeat (first | (with_reducible exact T_rt _) | (with_reducible intro _) | (with_reducible exact (tt_x_X0_slot _ _).mono (by decide) (by decide)) | (with_reducible exact T_RF) | (with_reducible exact T_GT) | (with_reducible exact T_GD) | (with_reducible exact T_GS) | (with_reducible exact T_WF (by decide)) | (with_reducible exact T_ST (by decide)) | (with_reducible exact T_SD (by decide)) | (with_reducible exact T_SS (by decide) (by decide)) | (with_reducible exact T_FL (by decide)) | (with_reducible exact T_FS (by decide) (by decide)) | (with_reducible refine T_li ?_) | (with_reducible refine T_ite (fun _ => ?_) (fun _ => ?_)) | (with_reducible refine T_cl ?_ (fun _ => ?_)))

theorem tt_x_X0_loserOf (a0 : Int32) (a1 : Int32) : T [] [] (x_X0_loserOf a0 a1) := by
  unfold x_X0_loserOf
  repeat (first | (with_reducible exact T_rt _) | (with_reducible intro _) | (with_reducible exact (tt_x_X0_winnerOf _ _).mono (by decide) (by decide)) | (with_reducible exact (tt_x_X0_whiteOf _ _).mono (by decide) (by decide)) | (with_reducible exact (tt_x_X0_blueOf _ _).mono (by decide) (by decide)) | (with_reducible exact T_RF) | (with_reducible exact T_GT) | (with_reducible exact T_GD) | (with_reducible exact T_GS) | (with_reducible exact T_WF (by decide)) | (with_reducible exact T_ST (by decide)) | (with_reducible exact T_SD (by decide)) | (with_reducible exact T_SS (by decide) (by decide)) | (with_reducible exact T_FL (by decide)) | (with_reducible exact T_FS (by decide) (by decide)) | (with_reducible refine T_li ?_) | (with_reducible refine T_ite (fun _ => ?_) (fun _ => ?_)) | (with_reducible refine T_cl ?_ (fun _ => ?_)))

theorem tt_xl_X0_howMany_5 (K : Int32 → Int32 → Int32 → Int32 → NG Int32) : ∀ (n : Nat) (v1 v2 v3 v4 : Int32), msr v4 ≤ n → (∀ (v3' v4' : Int32), T [] [] (K v1 v2 v3' v4')) → T [] [] (xl_X0_howMany_5 n v1 v2 v3 v4 K) := by
  intro n
  induction n with
  | zero =>
    intro v1 v2 v3 v4 hm _
    exact absurd hm (msr_0 _)
  | succ n ih =>
    intro v1 v2 v3 v4 hm hK
    unfold xl_X0_howMany_5
    repeat (first | (with_reducible exact T_rt _) | (with_reducible intro _) | (with_reducible exact hK _ _) | (with_reducible exact ih _ _ _ _ (msr_up (by assumption) hm) hK) | (with_reducible exact (tt_x_X0_fightsOf _).mono (by decide) (by decide)) | (with_reducible exact (tt_x_X0_stateOf _ _).mono (by decide) (by decide)) | (with_reducible exact T_RF) | (with_reducible exact T_GT) | (with_reducible exact T_GD) | (with_reducible exact T_GS) | (with_reducible exact T_WF (by decide)) | (with_reducible exact T_ST (by decide)) | (with_reducible exact T_SD (by decide)) | (with_reducible exact T_SS (by decide) (by decide)) | (with_reducible exact T_FL (by decide)) | (with_reducible exact T_FS (by decide) (by decide)) | (with_reducible refine T_li ?_) | (with_reducible refine T_ite (fun _ => ?_) (fun _ => ?_)) | (with_reducible refine T_cl ?_ (fun _ => ?_)))

theorem tt_x_X0_howMany (a0 : Int32) (a1 : Int32) : T [] [] (x_X0_howMany a0 a1) := by
  unfold x_X0_howMany
  repeat (first | (with_reducible exact T_rt _) | (with_reducible intro _) | (with_reducible refine tt_xl_X0_howMany_5 _ fuel _ _ _ _ (msr_fuel _) ?_) | (with_reducible exact T_RF) | (with_reducible exact T_GT) | (with_reducible exact T_GD) | (with_reducible exact T_GS) | (with_reducible exact T_WF (by decide)) | (with_reducible exact T_ST (by decide)) | (with_reducible exact T_SD (by decide)) | (with_reducible exact T_SS (by decide) (by decide)) | (with_reducible exact T_FL (by decide)) | (with_reducible exact T_FS (by decide) (by decide)) | (with_reducible refine T_li ?_) | (with_reducible refine T_ite (fun _ => ?_) (fun _ => ?_)) | (with_reducible refine T_cl ?_ (fun _ => ?_)))

theorem tt_x_X0_settleWalk (a0 : Int32) (a1 : Int32) (a2 : Int32) (a3 : Int32) : T [] [13, 14, 15, 16] (x_X0_settleWalk a0 a1 a2 a3) := by
  unfold x_X0_settleWalk
  repeat (first | (with_reducible exact T_rt _) | (with_reducible intro _) | (with_reducible exact (tt_x_X0_slot _ _).mono (by decide) (by decide)) | (with_reducible exact T_RF) | (with_reducible exact T_GT) | (with_reducible exact T_GD) | (with_reducible exact T_GS) | (with_reducible exact T_WF (by decide)) | (with_reducible exact T_ST (by decide)) | (with_reducible exact T_SD (by decide)) | (with_reducible exact T_SS (by decide) (by decide)) | (with_reducible exact T_FL (by decide)) | (with_reducible exact T_FS (by decide) (by decide)) | (with_reducible refine T_li ?_) | (with_reducible refine T_ite (fun _ => ?_) (fun _ => ?_)) | (with_reducible refine T_cl ?_ (fun _ => ?_)))

theorem tt_x_X1_ofFight (a0 : Int32) (a1 : Int32) (a2 : Int32) : T [] [] (x_X1_ofFight a0 a1 a2) := by
  unfold x_X1_ofFight
  repeat (first | (with_reducible exact T_rt _) | (with_reducible intro _) | (with_reducible exact (tt_x_X0_slot _ _).mono (by decide) (by decide)) | (with_reducible exact T_RF) | (with_reducible exact T_GT) | (with_reducible exact T_GD) | (with_reducible exact T_GS) | (with_reducible exact T_WF (by decide)) | (with_reducible exact T_ST (by decide)) | (with_reducible exact T_SD (by decide)) | (with_reducible exact T_SS (by decide) (by decide)) | (with_reducible exact T_FL (by decide)) | (with_reducible exact T_FS (by decide) (by decide)) | (with_reducible refine T_li ?_) | (with_reducible refine T_ite (fun _ => ?_) (fun _ => ?_)) | (with_reducible refine T_cl ?_ (fun _ => ?_)))

theorem tt_x_X0_settleFight (a0 : Int32) (a1 : Int32) (a2 : Int32) (a3 : Int32) : T [] [13, 14, 15, 16] (x_X0_settleFight a0 a1 a2 a3) := by
  unfold x_X0_settleFight
  repeat (first | (with_reducible exact T_rt _) | (with_reducible intro _) | (with_reducible exact (tt_x_X1_ofFight _ _ _).mono (by decide) (by decide)) | (with_reducible exact (tt_x_X0_slot _ _).mono (by decide) (by decide)) | (with_reducible exact T_RF) | (with_reducible exact T_GT) | (with_reducible exact T_GD) | (with_reducible exact T_GS) | (with_reducible exact T_WF (by decide)) | (with_reducible exact T_ST (by decide)) | (with_reducible exact T_SD (by decide)) | (with_reducible exact T_SS (by decide) (by decide)) | (with_reducible exact T_FL (by decide)) | (with_reducible exact T_FS (by decide) (by decide)) | (with_reducible refine T_li ?_) | (with_reducible refine T_ite (fun _ => ?_) (fun _ => ?_)) | (with_reducible refine T_cl ?_ (fun _ => ?_)))

theorem tt_x_X0_lowerBelow (a0 : Int32) (a1 : Int32) : T [] [] (x_X0_lowerBelow a0 a1) := by
  unfold x_X0_lowerBelow
  repeat (first | (with_reducible exact T_rt _) | (with_reducible intro _) | (with_reducible exact T_RF) | (with_reducible exact T_GT) | (with_reducible exact T_GD) | (with_reducible exact T_GS) | (with_reducible exact T_WF (by decide)) | (with_reducible exact T_ST (by decide)) | (with_reducible exact T_SD (by decide)) | (with_reducible exact T_SS (by decide) (by decide)) | (with_reducible exact T_FL (by decide)) | (with_reducible exact T_FS (by decide) (by decide)) | (with_reducible refine T_li ?_) | (with_reducible refine T_ite (fun _ => ?_) (fun _ => ?_)) | (with_reducible refine T_cl ?_ (fun _ => ?_)))

theorem tt_xl_X0_settleTree_2 (K : Int32 → Int32 → Int32 → NG Int32) : ∀ (n : Nat) (v1 v2 v3 : Int32), msr v3 ≤ n → (∀ (v3' : Int32), T [] [13, 14, 15, 16] (K v1 v2 v3')) → T [] [13, 14, 15, 16] (xl_X0_settleTree_2 n v1 v2 v3 K) := by
  intro n
  induction n with
  | zero =>
    intro v1 v2 v3 hm _
    exact absurd hm (msr_0 _)
  | succ n ih =>
    intro v1 v2 v3 hm hK
    unfold xl_X0_settleTree_2
    repeat (first | (with_reducible exact T_rt _) | (with_reducible intro _) | (with_reducible exact hK _) | (with_reducible exact ih _ _ _ (msr_up (by assumption) hm) hK) | (with_reducible exact (tt_x_X1_ofClass _ _).mono (by decide) (by decide)) | (with_reducible exact (tt_x_X0_settleWalk _ _ _ _).mono (by decide) (by decide)) | (with_reducible exact (tt_x_X0_settleFight _ _ _ _).mono (by decide) (by decide)) | (with_reducible exact T_RF) | (with_reducible exact T_GT) | (with_reducible exact T_GD) | (with_reducible exact T_GS) | (with_reducible exact T_WF (by decide)) | (with_reducible exact T_ST (by decide)) | (with_reducible exact T_SD (by decide)) | (with_reducible exact T_SS (by decide) (by decide)) | (with_reducible exact T_FL (by decide)) | (with_reducible exact T_FS (by decide) (by decide)) | (with_reducible refine T_li ?_) | (with_reducible refine T_ite (fun _ => ?_) (fun _ => ?_)) | (with_reducible refine T_cl ?_ (fun _ => ?_)))

theorem tt_xl_X0_settleTree_92 (K : Int32 → Int32 → Int32 → NG Int32) : ∀ (n : Nat) (v1 v2 v3 : Int32), msr v3 ≤ n → (∀ (v3' : Int32), T [] [13, 14, 15, 16] (K v1 v2 v3')) → T [] [13, 14, 15, 16] (xl_X0_settleTree_92 n v1 v2 v3 K) := by
  intro n
  induction n with
  | zero =>
    intro v1 v2 v3 hm _
    exact absurd hm (msr_0 _)
  | succ n ih =>
    intro v1 v2 v3 hm hK
    unfold xl_X0_settleTree_92
    repeat (first | (with_reducible exact T_rt _) | (with_reducible intro _) | (with_reducible exact hK _) | (with_reducible exact ih _ _ _ (msr_up (by assumption) hm) hK) | (with_reducible exact (tt_x_X0_lowerBelow _ _).mono (by decide) (by decide)) | (with_reducible exact (tt_x_X0_winnerOf _ _).mono (by decide) (by decide)) | (with_reducible exact (tt_x_X0_settleFight _ _ _ _).mono (by decide) (by decide)) | (with_reducible exact T_RF) | (with_reducible exact T_GT) | (with_reducible exact T_GD) | (with_reducible exact T_GS) | (with_reducible exact T_WF (by decide)) | (with_reducible exact T_ST (by decide)) | (with_reducible exact T_SD (by decide)) | (with_reducible exact T_SS (by decide) (by decide)) | (with_reducible exact T_FL (by decide)) | (with_reducible exact T_FS (by decide) (by decide)) | (with_reducible refine T_li ?_) | (with_reducible refine T_ite (fun _ => ?_) (fun _ => ?_)) | (with_reducible refine T_cl ?_ (fun _ => ?_)))

theorem tt_x_X0_settleTree (a0 : Int32) (a1 : Int32) : T [] [13, 14, 15, 16] (x_X0_settleTree a0 a1) := by
  unfold x_X0_settleTree
  repeat (first | (with_reducible exact T_rt _) | (with_reducible intro _) | (with_reducible refine tt_xl_X0_settleTree_2 _ fuel _ _ _ (msr_fuel _) ?_) | (with_reducible refine tt_xl_X0_settleTree_92 _ fuel _ _ _ (msr_fuel _) ?_) | (with_reducible exact T_RF) | (with_reducible exact T_GT) | (with_reducible exact T_GD) | (with_reducible exact T_GS) | (with_reducible exact T_WF (by decide)) | (with_reducible exact T_ST (by decide)) | (with_reducible exact T_SD (by decide)) | (with_reducible exact T_SS (by decide) (by decide)) | (with_reducible exact T_FL (by decide)) | (with_reducible exact T_FS (by decide) (by decide)) | (with_reducible refine T_li ?_) | (with_reducible refine T_ite (fun _ => ?_) (fun _ => ?_)) | (with_reducible refine T_cl ?_ (fun _ => ?_)))

theorem tt_xl_X0_findLosersTo_21 (K : Int32 → Int32 → Int32 → Int32 → Int32 → Int32 → NG Int32) : ∀ (n : Nat) (v1 v2 v3 v4 v5 v6 : Int32), mdr v6 ≤ n → (∀ (v5' v6' : Int32), T [] [17] (K v1 v2 v3 v4 v5' v6')) → T [] [17] (xl_X0_findLosersTo_21 n v1 v2 v3 v4 v5 v6 K) := by
  intro n
  induction n with
  | zero =>
    intro v1 v2 v3 v4 v5 v6 hm _
    exact absurd hm (mdr_0 _)
  | succ n ih =>
    intro v1 v2 v3 v4 v5 v6 hm hK
    unfold xl_X0_findLosersTo_21
    repeat (first | (with_reducible exact T_rt _) | (with_reducible intro _) | (with_reducible exact hK _ _) | (with_reducible exact ih _ _ _ _ _ _ (mdr_dn (by assumption) hm) hK) | (with_reducible exact (tt_x_X0_whiteOf _ _).mono (by decide) (by decide)) | (with_reducible exact (tt_x_X0_lowerBelow _ _).mono (by decide) (by decide)) | (with_reducible exact (tt_x_X0_blueOf _ _).mono (by decide) (by decide)) | (with_reducible exact T_RF) | (with_reducible exact T_GT) | (with_reducible exact T_GD) | (with_reducible exact T_GS) | (with_reducible exact T_WF (by decide)) | (with_reducible exact T_ST (by decide)) | (with_reducible exact T_SD (by decide)) | (with_reducible exact T_SS (by decide) (by decide)) | (with_reducible exact T_FL (by decide)) | (with_reducible exact T_FS (by decide) (by decide)) | (with_reducible refine T_li ?_) | (with_reducible refine T_ite (fun _ => ?_) (fun _ => ?_)) | (with_reducible refine T_cl ?_ (fun _ => ?_)))

theorem tt_x_X0_findLosersTo (a0 : Int32) (a1 : Int32) (a2 : Int32) (a3 : Int32) : T [] [17] (x_X0_findLosersTo a0 a1 a2 a3) := by
  unfold x_X0_findLosersTo
  repeat (first | (with_reducible exact T_rt _) | (with_reducible intro _) | (with_reducible refine tt_xl_X0_findLosersTo_21 _ fuel _ _ _ _ _ _ (mdr_fuel _) ?_) | (with_reducible exact (tt_x_X0_stepsOf _).mono (by decide) (by decide)) | (with_reducible exact T_RF) | (with_reducible exact T_GT) | (with_reducible exact T_GD) | (with_reducible exact T_GS) | (with_reducible exact T_WF (by decide)) | (with_reducible exact T_ST (by decide)) | (with_reducible exact T_SD (by decide)) | (with_reducible exact T_SS (by decide) (by decide)) | (with_reducible exact T_FL (by decide)) | (with_reducible exact T_FS (by decide) (by decide)) | (with_reducible refine T_li ?_) | (with_reducible refine T_ite (fun _ => ?_) (fun _ => ?_)) | (with_reducible refine T_cl ?_ (fun _ => ?_)))

theorem tt_xl_X0_settleLives_40 (K : Int32 → Int32 → Int32 → Int32 → Int32 → Int32 → Int32 → NG Int32) : ∀ (n : Nat) (v1 v2 v3 v4 v5 v6 v7 : Int32), v4.toInt < 2147483647 → msr v7 ≤ n → (∀ (v1 v2 v3 v4 v5 v6 v7 : Int32), T [] [13, 14, 15, 16, 17] (K v1 v2 v3 v4 v5 v6 v7)) → T [] [13, 14, 15, 16, 17] (xl_X0_settleLives_40 n v1 v2 v3 v4 v5 v6 v7 K) := by
  intro n
  induction n with
  | zero =>
    intro v1 v2 v3 v4 v5 v6 v7 _ hm _
    exact absurd hm (msr_0 _)
  | succ n ih =>
    intro v1 v2 v3 v4 v5 v6 v7 h4 hm hK
    unfold xl_X0_settleLives_40
    repeat (first | (with_reducible exact hK _ _ _ _ _ _ _) | (with_reducible exact ih _ _ _ _ _ _ _ h4 (msr_lt (by assumption) h4 hm) hK) | (with_reducible exact (tt_x_X0_settleFight _ _ _ _).mono (by decide) (by decide)) | (with_reducible exact (tt_x_X0_settleWalk _ _ _ _).mono (by decide) (by decide)) | (with_reducible exact (tt_x_X0_winnerOf _ _).mono (by decide) (by decide)) | (with_reducible exact T_GT) | (with_reducible refine T_li ?_) | (with_reducible refine T_ite (fun _ => ?_) (fun _ => ?_)) | (with_reducible refine T_cl ?_ (fun _ => ?_)))

theorem stepsOf_c (a : Int32) : x_X0_stepsOf a = nrt 1 ∨ x_X0_stepsOf a = nrt 2 ∨ x_X0_stepsOf a = nrt 3 := by
  unfold x_X0_stepsOf
  by_cases h : 8 < a
  · rw [if_pos h]
    by_cases h2 : 16 < a
    · rw [if_pos h2]; exact Or.inr (Or.inr rfl)
    · rw [if_neg h2]; exact Or.inr (Or.inl rfl)
  · rw [if_neg h]; exact Or.inl rfl
theorem tt_x_X0_settleLives (a0 a1 a2 : Int32) : T [] [13, 14, 15, 16, 17] (x_X0_settleLives a0 a1 a2) := by
  have h : ∀ c : Int32, c.toInt < 2147483647 → ∀ (u : MS) (K : Int32 → Int32 → Int32 → Int32 → Int32 → Int32 → Int32 → NG Int32) (n : Nat), (∀ v, msr v ≤ n) → (∀ v1 v2 v3 v4 v5 v6 v7, T [] [13, 14, 15, 16, 17] (K v1 v2 v3 v4 v5 v6 v7)) → Tu [] [13, 14, 15, 16, 17] (ncl (x_X0_winnerOf a0 ((a1 - 4) + a2)) (fun r_4 => ncl (x_X0_findLosersTo a0 a1 a2 r_4) (fun r_7 => ncl (nGT 17 4 0) (fun x_10 => xl_X0_settleLives_40 n a0 a1 a2 c r_4 x_10 1 K)))) u := fun c hc u K n hn hK =>
    (T_cl ((tt_x_X0_winnerOf _ _).mono (by decide) (by decide)) (fun _ => T_cl ((tt_x_X0_findLosersTo _ _ _ _).mono (by decide) (by decide)) (fun _ => T_cl T_GT (fun _ => tt_xl_X0_settleLives_40 _ n _ _ _ _ _ _ _ hc (hn _) hK)))) u
  unfold x_X0_settleLives
  rcases stepsOf_c a1 with e | e | e <;> rw [e] <;> refine T_nrt (T_of (fun u => h _ (by decide) u _ fuel msr_fuel (fun _ _ _ _ _ _ _ => T_rt _)))

theorem tt_xl_X0_settlePool_14 (K : Int32 → Int32 → Int32 → Int32 → Int32 → NG Int32) : ∀ (n : Nat) (v1 v2 v3 v4 v5 : Int32), msr (v5 + v4) ≤ n → (∀ (v3' v5' : Int32), T [] [13, 14, 15, 16] (K v1 v2 v3' v4 v5')) → T [] [13, 14, 15, 16] (xl_X0_settlePool_14 n v1 v2 v3 v4 v5 K) := by
  intro n
  induction n with
  | zero =>
    intro v1 v2 v3 v4 v5 hm _
    exact absurd hm (msr_0 _)
  | succ n ih =>
    intro v1 v2 v3 v4 v5 hm hK
    unfold xl_X0_settlePool_14
    refine T_ite (fun _ => hK _ _) (fun h => ?_)
    have h9 : msr (v5 + 1 + v4) ≤ n := by
      have e : v5 + 1 + v4 = v5 + v4 + 1 := by rw [Int32.add_assoc, Int32.add_comm 1 v4, ← Int32.add_assoc]
      rw [e]
      exact msr_up h hm
    exact T_cl ((tt_x_X1_ofClass _ _).mono (by decide) (by decide)) (fun _ => T_cl T_GT (fun _ => T_cl ((tt_x_X1_ofClass _ _).mono (by decide) (by decide)) (fun _ => T_cl T_GT (fun _ => T_cl ((tt_x_X0_settleFight _ _ _ _).mono (by decide) (by decide)) (fun _ => T_li (T_li (ih _ _ _ _ _ h9 hK)))))))

theorem tt_xl_X0_settlePool_5 (K : Int32 → Int32 → Int32 → Int32 → NG Int32) : ∀ (n : Nat) (v1 v2 v3 v4 : Int32), msr v4 ≤ n → (∀ (v3' v4' : Int32), T [] [13, 14, 15, 16] (K v1 v2 v3' v4')) → T [] [13, 14, 15, 16] (xl_X0_settlePool_5 n v1 v2 v3 v4 K) := by
  intro n
  induction n with
  | zero =>
    intro v1 v2 v3 v4 hm _
    exact absurd hm (msr_0 _)
  | succ n ih =>
    intro v1 v2 v3 v4 hm hK
    unfold xl_X0_settlePool_5
    repeat (first | (with_reducible exact T_rt _) | (with_reducible intro _) | (with_reducible exact hK _ _) | (with_reducible exact ih _ _ _ _ (msr_up (by assumption) hm) hK) | (with_reducible refine tt_xl_X0_settlePool_14 _ fuel _ _ _ _ _ (msr_fuel _) ?_) | (with_reducible exact T_RF) | (with_reducible exact T_GT) | (with_reducible exact T_GD) | (with_reducible exact T_GS) | (with_reducible exact T_WF (by decide)) | (with_reducible exact T_ST (by decide)) | (with_reducible exact T_SD (by decide)) | (with_reducible exact T_SS (by decide) (by decide)) | (with_reducible exact T_FL (by decide)) | (with_reducible exact T_FS (by decide) (by decide)) | (with_reducible refine T_li ?_) | (with_reducible refine T_ite (fun _ => ?_) (fun _ => ?_)) | (with_reducible refine T_cl ?_ (fun _ => ?_)))

theorem tt_x_X0_settlePool (a0 : Int32) (a1 : Int32) : T [] [13, 14, 15, 16] (x_X0_settlePool a0 a1) := by
  unfold x_X0_settlePool
  repeat (first | (with_reducible exact T_rt _) | (with_reducible intro _) | (with_reducible refine tt_xl_X0_settlePool_5 _ fuel _ _ _ _ (msr_fuel _) ?_) | (with_reducible exact T_RF) | (with_reducible exact T_GT) | (with_reducible exact T_GD) | (with_reducible exact T_GS) | (with_reducible exact T_WF (by decide)) | (with_reducible exact T_ST (by decide)) | (with_reducible exact T_SD (by decide)) | (with_reducible exact T_SS (by decide) (by decide)) | (with_reducible exact T_FL (by decide)) | (with_reducible exact T_FS (by decide) (by decide)) | (with_reducible refine T_li ?_) | (with_reducible refine T_ite (fun _ => ?_) (fun _ => ?_)) | (with_reducible refine T_cl ?_ (fun _ => ?_)))

theorem tt_x_X0_settle (a0 : Int32) : T [] [13, 14, 15, 16, 17] (x_X0_settle a0) := by
  unfold x_X0_settle
  repeat (first | (with_reducible exact T_rt _) | (with_reducible intro _) | (with_reducible exact (tt_x_X0_kindOf _).mono (by decide) (by decide)) | (with_reducible exact (tt_x_X0_sizeOf _).mono (by decide) (by decide)) | (with_reducible exact (tt_x_X0_settlePool _ _).mono (by decide) (by decide)) | (with_reducible exact (tt_x_X0_settleTree _ _).mono (by decide) (by decide)) | (with_reducible exact (tt_x_X0_settleLives _ _ _).mono (by decide) (by decide)) | (with_reducible exact T_RF) | (with_reducible exact T_GT) | (with_reducible exact T_GD) | (with_reducible exact T_GS) | (with_reducible exact T_WF (by decide)) | (with_reducible exact T_ST (by decide)) | (with_reducible exact T_SD (by decide)) | (with_reducible exact T_SS (by decide) (by decide)) | (with_reducible exact T_FL (by decide)) | (with_reducible exact T_FS (by decide) (by decide)) | (with_reducible refine T_li ?_) | (with_reducible refine T_ite (fun _ => ?_) (fun _ => ?_)) | (with_reducible refine T_cl ?_ (fun _ => ?_)))

theorem tt_xl_X0_firstStale_2 (K : Int32 → Int32 → NG Int32) : ∀ (n : Nat) (v1 v2 : Int32), msr v2 ≤ n → (∀ (v2' : Int32), T [] [] (K v1 v2')) → T [] [] (xl_X0_firstStale_2 n v1 v2 K) := by
  intro n
  induction n with
  | zero =>
    intro v1 v2 hm _
    exact absurd hm (msr_0 _)
  | succ n ih =>
    intro v1 v2 hm hK
    unfold xl_X0_firstStale_2
    repeat (first | (with_reducible exact T_rt _) | (with_reducible intro _) | (with_reducible exact hK _) | (with_reducible exact ih _ _ (msr_up (by assumption) hm) hK) | (with_reducible exact (tt_x_X0_fightsOf _).mono (by decide) (by decide)) | (with_reducible exact (tt_x_X1_ofFight _ _ _).mono (by decide) (by decide)) | (with_reducible exact (tt_x_X0_whiteOf _ _).mono (by decide) (by decide)) | (with_reducible exact (tt_x_X0_blueOf _ _).mono (by decide) (by decide)) | (with_reducible exact T_RF) | (with_reducible exact T_GT) | (with_reducible exact T_GD) | (with_reducible exact T_GS) | (with_reducible exact T_WF (by decide)) | (with_reducible exact T_ST (by decide)) | (with_reducible exact T_SD (by decide)) | (with_reducible exact T_SS (by decide) (by decide)) | (with_reducible exact T_FL (by decide)) | (with_reducible exact T_FS (by decide) (by decide)) | (with_reducible refine T_li ?_) | (with_reducible refine T_ite (fun _ => ?_) (fun _ => ?_)) | (with_reducible refine T_cl ?_ (fun _ => ?_)))

theorem tt_x_X0_firstStale (a0 : Int32) : T [] [] (x_X0_firstStale a0) := by
  unfold x_X0_firstStale
  repeat (first | (with_reducible exact T_rt _) | (with_reducible intro _) | (with_reducible refine tt_xl_X0_firstStale_2 _ fuel _ _ (msr_fuel _) ?_) | (with_reducible exact T_RF) | (with_reducible exact T_GT) | (with_reducible exact T_GD) | (with_reducible exact T_GS) | (with_reducible exact T_WF (by decide)) | (with_reducible exact T_ST (by decide)) | (with_reducible exact T_SD (by decide)) | (with_reducible exact T_SS (by decide) (by decide)) | (with_reducible exact T_FL (by decide)) | (with_reducible exact T_FS (by decide) (by decide)) | (with_reducible refine T_li ?_) | (with_reducible refine T_ite (fun _ => ?_) (fun _ => ?_)) | (with_reducible refine T_cl ?_ (fun _ => ?_)))

theorem tt_x_X0_stepOf (a0 : Int32) (a1 : Int32) : T [] [] (x_X0_stepOf a0 a1) := by
  unfold x_X0_stepOf
  repeat (first | (with_reducible exact T_rt _) | (with_reducible intro _) | (with_reducible exact (tt_x_X0_stepsOf _).mono (by decide) (by decide)) | (with_reducible exact T_RF) | (with_reducible exact T_GT) | (with_reducible exact T_GD) | (with_reducible exact T_GS) | (with_reducible exact T_WF (by decide)) | (with_reducible exact T_ST (by decide)) | (with_reducible exact T_SD (by decide)) | (with_reducible exact T_SS (by decide) (by decide)) | (with_reducible exact T_FL (by decide)) | (with_reducible exact T_FS (by decide) (by decide)) | (with_reducible refine T_li ?_) | (with_reducible refine T_ite (fun _ => ?_) (fun _ => ?_)) | (with_reducible refine T_cl ?_ (fun _ => ?_)))

theorem tt_xl_X0_stageOf_41 (K : Int32 → Int32 → Int32 → Int32 → Int32 → NG Int32) : ∀ (n : Nat) (v1 v2 v3 v4 v5 : Int32), msr v4 ≤ n → (∀ (v4' v5' : Int32), T [] [] (K v1 v2 v3 v4' v5')) → T [] [] (xl_X0_stageOf_41 n v1 v2 v3 v4 v5 K) := by
  intro n
  induction n with
  | zero =>
    intro v1 v2 v3 v4 v5 hm _
    exact absurd hm (msr_0 _)
  | succ n ih =>
    intro v1 v2 v3 v4 v5 hm hK
    unfold xl_X0_stageOf_41
    repeat (first | (with_reducible exact T_rt _) | (with_reducible intro _) | (with_reducible exact hK _ _) | (with_reducible exact ih _ _ _ _ _ (msr_up (by assumption) hm) hK) | (with_reducible exact T_RF) | (with_reducible exact T_GT) | (with_reducible exact T_GD) | (with_reducible exact T_GS) | (with_reducible exact T_WF (by decide)) | (with_reducible exact T_ST (by decide)) | (with_reducible exact T_SD (by decide)) | (with_reducible exact T_SS (by decide) (by decide)) | (with_reducible exact T_FL (by decide)) | (with_reducible exact T_FS (by decide) (by decide)) | (with_reducible refine T_li ?_) | (with_reducible refine T_ite (fun _ => ?_) (fun _ => ?_)) | (with_reducible refine T_cl ?_ (fun _ => ?_)))

theorem tt_x_X0_stageOf (a0 : Int32) (a1 : Int32) : T [] [] (x_X0_stageOf a0 a1) := by
  unfold x_X0_stageOf
  repeat (first | (with_reducible exact T_rt _) | (with_reducible intro _) | (with_reducible refine tt_xl_X0_stageOf_41 _ fuel _ _ _ _ _ (msr_fuel _) ?_) | (with_reducible exact (tt_x_X0_sizeOf _).mono (by decide) (by decide)) | (with_reducible exact (tt_x_X0_kindOf _).mono (by decide) (by decide)) | (with_reducible exact (tt_x_X0_stepOf _ _).mono (by decide) (by decide)) | (with_reducible exact T_RF) | (with_reducible exact T_GT) | (with_reducible exact T_GD) | (with_reducible exact T_GS) | (with_reducible exact T_WF (by decide)) | (with_reducible exact T_ST (by decide)) | (with_reducible exact T_SD (by decide)) | (with_reducible exact T_SS (by decide) (by decide)) | (with_reducible exact T_FL (by decide)) | (with_reducible exact T_FS (by decide) (by decide)) | (with_reducible refine T_li ?_) | (with_reducible refine T_ite (fun _ => ?_) (fun _ => ?_)) | (with_reducible refine T_cl ?_ (fun _ => ?_)))

theorem tt_x_X0_aheadOf (a0 : Int32) (a1 : Int32) (a2 : Int32) : T [] [] (x_X0_aheadOf a0 a1 a2) := by
  unfold x_X0_aheadOf
  repeat (first | (with_reducible exact T_rt _) | (with_reducible intro _) | (with_reducible exact (tt_x_X0_sizeOf _).mono (by decide) (by decide)) | (with_reducible exact (tt_x_X0_kindOf _).mono (by decide) (by decide)) | (with_reducible exact (tt_x_X0_stepsOf _).mono (by decide) (by decide)) | (with_reducible exact (tt_x_X0_stepOf _ _).mono (by decide) (by decide)) | (with_reducible exact (tt_x_X0_lowerBelow _ _).mono (by decide) (by decide)) | (with_reducible exact T_RF) | (with_reducible exact T_GT) | (with_reducible exact T_GD) | (with_reducible exact T_GS) | (with_reducible exact T_WF (by decide)) | (with_reducible exact T_ST (by decide)) | (with_reducible exact T_SD (by decide)) | (with_reducible exact T_SS (by decide) (by decide)) | (with_reducible exact T_FL (by decide)) | (with_reducible exact T_FS (by decide) (by decide)) | (with_reducible refine T_li ?_) | (with_reducible refine T_ite (fun _ => ?_) (fun _ => ?_)) | (with_reducible refine T_cl ?_ (fun _ => ?_)))

theorem tt_x_X1_ofFighter (a0 : Int32) (a1 : Int32) : T [] [] (x_X1_ofFighter a0 a1) := by
  unfold x_X1_ofFighter
  repeat (first | (with_reducible exact T_rt _) | (with_reducible intro _) | (with_reducible exact T_RF) | (with_reducible exact T_GT) | (with_reducible exact T_GD) | (with_reducible exact T_GS) | (with_reducible exact T_WF (by decide)) | (with_reducible exact T_ST (by decide)) | (with_reducible exact T_SD (by decide)) | (with_reducible exact T_SS (by decide) (by decide)) | (with_reducible exact T_FL (by decide)) | (with_reducible exact T_FS (by decide) (by decide)) | (with_reducible refine T_li ?_) | (with_reducible refine T_ite (fun _ => ?_) (fun _ => ?_)) | (with_reducible refine T_cl ?_ (fun _ => ?_)))

theorem tt_x_X1_ofMat (a0 : Int32) (a1 : Int32) : T [] [] (x_X1_ofMat a0 a1) := by
  unfold x_X1_ofMat
  repeat (first | (with_reducible exact T_rt _) | (with_reducible intro _) | (with_reducible exact T_RF) | (with_reducible exact T_GT) | (with_reducible exact T_GD) | (with_reducible exact T_GS) | (with_reducible exact T_WF (by decide)) | (with_reducible exact T_ST (by decide)) | (with_reducible exact T_SD (by decide)) | (with_reducible exact T_SS (by decide) (by decide)) | (with_reducible exact T_FL (by decide)) | (with_reducible exact T_FS (by decide) (by decide)) | (with_reducible refine T_li ?_) | (with_reducible refine T_ite (fun _ => ?_) (fun _ => ?_)) | (with_reducible refine T_cl ?_ (fun _ => ?_)))

theorem tt_x_X1_isFull : T [] [] (x_X1_isFull) := by
  unfold x_X1_isFull
  repeat (first | (with_reducible exact T_rt _) | (with_reducible intro _) | (with_reducible exact T_RF) | (with_reducible exact T_GT) | (with_reducible exact T_GD) | (with_reducible exact T_GS) | (with_reducible exact T_WF (by decide)) | (with_reducible exact T_ST (by decide)) | (with_reducible exact T_SD (by decide)) | (with_reducible exact T_SS (by decide) (by decide)) | (with_reducible exact T_FL (by decide)) | (with_reducible exact T_FS (by decide) (by decide)) | (with_reducible refine T_li ?_) | (with_reducible refine T_ite (fun _ => ?_) (fun _ => ?_)) | (with_reducible refine T_cl ?_ (fun _ => ?_)))

theorem tt_x_X1_openEntry : T [1] [3] (x_X1_openEntry) := by
  unfold x_X1_openEntry
  repeat (first | (with_reducible exact T_rt _) | (with_reducible intro _) | (with_reducible exact T_RF) | (with_reducible exact T_GT) | (with_reducible exact T_GD) | (with_reducible exact T_GS) | (with_reducible exact T_WF (by decide)) | (with_reducible exact T_ST (by decide)) | (with_reducible exact T_SD (by decide)) | (with_reducible exact T_SS (by decide) (by decide)) | (with_reducible exact T_FL (by decide)) | (with_reducible exact T_FS (by decide) (by decide)) | (with_reducible refine T_li ?_) | (with_reducible refine T_ite (fun _ => ?_) (fun _ => ?_)) | (with_reducible refine T_cl ?_ (fun _ => ?_)))

theorem tt_xl_X1_takeBack_33 (K : Int32 → Int32 → NG Int32) (v1 : Int32) (h1 : ¬ v1 < 0) : ∀ (n : Nat) (v2 : Int32), mdr v2 ≤ n → (∀ (v1 v2 : Int32), T [0, 1] [0] (K v1 v2)) → T [0, 1] [0] (xl_X1_takeBack_33 n v1 v2 K) := by
  intro n
  induction n with
  | zero =>
    intro v2 hm _
    exact absurd hm (mdr_0 _)
  | succ n ih =>
    intro v2 hm hK
    unfold xl_X1_takeBack_33
    refine T_ite (fun _ => hK _ _) (fun h => ?_)
    have h9 : ¬ v2 < 0 := by
      rw [Int32.lt_iff_toInt_lt] at h h1 ⊢
      rw [i32_0] at h1 ⊢
      omega
    exact T_cl T_GD (fun _ => T_cl T_GD (fun _ => T_cl (T_ST (by decide)) (fun _ => T_li (ih _ (mdr_dn h9 hm) hK))))

theorem tt_x_X1_takeBack : T [0, 1] [0] (x_X1_takeBack) := by
  unfold x_X1_takeBack
  refine T_cl T_RF (fun _ => T_cl (T_WF (by decide)) (fun _ => T_cl T_RF (fun _ => T_cl T_GT (fun x => T_li (T_cl T_RF (fun _ => T_li ?_))))))
  refine tt_xl_X1_takeBack_33 _ _ ?_ fuel _ (mdr_fuel _) (fun _ _ => T_cl (T_WF (by decide)) (fun _ => T_rt _))
  by_cases h : x < 0
  · rw [if_pos h]; decide
  · rw [if_neg h]; exact h

theorem tt_xl_X2_makeRow_18 (K : Int32 → Int32 → Int32 → NG Int32) (v1 v2 : Int32) (hK : ∀ v3, T [] [11] (K v1 v2 v3)) : ∀ (n : Nat) (v3 : Int32), msr v3 ≤ n → T [] [11] (xl_X2_makeRow_18 n v1 v2 v3 K) := by
  intro n
  induction n with
  | zero =>
    intro v3 hm
    exact absurd hm (msr_0 _)
  | succ n ih =>
    intro v3 hm
    unfold xl_X2_makeRow_18
    exact T_ite (fun _ => hK _) (fun h => T_cl T_GT (fun _ => T_li (T_cl (T_ST (by decide)) (fun _ => T_cl (T_ST (by decide)) (fun _ => T_li (ih _ (msr_up h hm)))))))

theorem tt_xl_X2_makeRow_11 (K : Int32 → Int32 → NG Int32) (v1 : Int32) (h1 : v1.toInt ≤ 32) (hK : ∀ v1 v2, T [] [11] (K v1 v2)) : ∀ (t j n : Nat), j + t = 5 → t < n → T [] [11] (xl_X2_makeRow_11 n v1 (nI (2 ^ j)) K) := by
  intro t
  induction t with
  | zero =>
    intro j n hj hn
    cases n with
    | zero => omega
    | succ n =>
      have : j = 5 := by omega
      subst this
      unfold xl_X2_makeRow_11
      refine T_ite (fun _ => hK _ _) (fun h => absurd ?_ h)
      rw [Int32.le_iff_toInt_le]
      have : (nI (2 ^ 5)).toInt = 32 := by decide
      omega
  | succ t ih =>
    intro j n hj hn
    cases n with
    | zero => omega
    | succ n =>
      unfold xl_X2_makeRow_11
      refine T_ite (fun _ => hK _ _) (fun _ => ?_)
      have e : nI (2 ^ j) * 2 = nI (2 ^ (j + 1)) := by
        have h9 := nI_mul (2 ^ j) 2
        rw [Nat.pow_succ]
        exact h9
      have h9 := ih (j + 1) n (by omega) (by omega)
      rw [← e] at h9
      exact tt_xl_X2_makeRow_18 _ v1 (nI (2 ^ j)) (fun _ => T_li h9) fuel 0 (msr_fuel _)

theorem tt_x_X2_makeRow (a0 : Int32) (h : a0.toInt ≤ 32) : T [] [11] (x_X2_makeRow a0) := by
  unfold x_X2_makeRow
  exact T_cl (T_ST (by decide)) (fun _ => tt_xl_X2_makeRow_11 _ a0 h (fun _ _ => T_rt _) 5 0 fuel (by omega) (by unfold fuel; omega))

theorem tt_x_X2_isSeed (a0 : Int32) : T [] [] (x_X2_isSeed a0) := by
  unfold x_X2_isSeed
  repeat (first | (with_reducible exact T_rt _) | (with_reducible intro _) | (with_reducible exact (tt_x_X1_ofFighter _ _).mono (by decide) (by decide)) | (with_reducible exact T_RF) | (with_reducible exact T_GT) | (with_reducible exact T_GD) | (with_reducible exact T_GS) | (with_reducible exact T_WF (by decide)) | (with_reducible exact T_ST (by decide)) | (with_reducible exact T_SD (by decide)) | (with_reducible exact T_SS (by decide) (by decide)) | (with_reducible exact T_FL (by decide)) | (with_reducible exact T_FS (by decide) (by decide)) | (with_reducible refine T_li ?_) | (with_reducible refine T_ite (fun _ => ?_) (fun _ => ?_)) | (with_reducible refine T_cl ?_ (fun _ => ?_)))

theorem tt_xl_X2_largestClub_4 (K : Int32 → Int32 → NG Int32) : ∀ (n : Nat) (v1 v2 : Int32), msr v2 ≤ n → (∀ (v1' v2' : Int32), T [] [] (K v1' v2')) → T [] [] (xl_X2_largestClub_4 n v1 v2 K) := by
  intro n
  induction n with
  | zero =>
    intro v1 v2 hm _
    exact absurd hm (msr_0 _)
  | succ n ih =>
    intro v1 v2 hm hK
    unfold xl_X2_largestClub_4
    repeat (first | (with_reducible exact T_rt _) | (with_reducible intro _) | (with_reducible exact hK _ _) | (with_reducible exact ih _ _ (msr_up (by assumption) hm) hK) | (with_reducible exact T_RF) | (with_reducible exact T_GT) | (with_reducible exact T_GD) | (with_reducible exact T_GS) | (with_reducible exact T_WF (by decide)) | (with_reducible exact T_ST (by decide)) | (with_reducible exact T_SD (by decide)) | (with_reducible exact T_SS (by decide) (by decide)) | (with_reducible exact T_FL (by decide)) | (with_reducible exact T_FS (by decide) (by decide)) | (with_reducible refine T_li ?_) | (with_reducible refine T_ite (fun _ => ?_) (fun _ => ?_)) | (with_reducible refine T_cl ?_ (fun _ => ?_)))

theorem tt_x_X2_largestClub : T [] [] (x_X2_largestClub) := by
  unfold x_X2_largestClub
  repeat (first | (with_reducible exact T_rt _) | (with_reducible intro _) | (with_reducible refine tt_xl_X2_largestClub_4 _ fuel _ _ (msr_fuel _) ?_) | (with_reducible exact T_RF) | (with_reducible exact T_GT) | (with_reducible exact T_GD) | (with_reducible exact T_GS) | (with_reducible exact T_WF (by decide)) | (with_reducible exact T_ST (by decide)) | (with_reducible exact T_SD (by decide)) | (with_reducible exact T_SS (by decide) (by decide)) | (with_reducible exact T_FL (by decide)) | (with_reducible exact T_FS (by decide) (by decide)) | (with_reducible refine T_li ?_) | (with_reducible refine T_ite (fun _ => ?_) (fun _ => ?_)) | (with_reducible refine T_cl ?_ (fun _ => ?_)))

theorem shr1 (v : Int32) : (v >>> (1 &&& 31)).toInt = v.toInt / 2 := by
  have e : ((1 : Int32) &&& 31) = 1 := by decide
  rw [e]
  have e2 : (v >>> (1 : Int32)).toBitVec = v.toBitVec.sshiftRight 1 := rfl
  show (v >>> (1 : Int32)).toBitVec.toInt = _
  rw [e2, BitVec.toInt_sshiftRight, Int.shiftRight_eq_div_pow]
  rfl
theorem tt_xl_X2_meetingRound_8 (K : Int32 → Int32 → Int32 → Int32 → NG Int32) : ∀ (n : Nat) (v0 v1 v2 v3 : Int32), v3.toInt < n → 0 < n → (∀ (v0 v1 v2 v3 : Int32), T [] [] (K v0 v1 v2 v3)) → T [] [] (xl_X2_meetingRound_8 n v0 v1 v2 v3 K) := by
  intro n
  induction n with
  | zero =>
    intro v0 v1 v2 v3 _ hm _
    omega
  | succ n ih =>
    intro v0 v1 v2 v3 h0 hm hK
    unfold xl_X2_meetingRound_8
    refine T_ite (fun _ => hK _ _ _ _) (fun h => T_li (T_li ?_))
    have h1 := i32_nle h
    rw [i32_0] at h1
    have h1' : 0 < v3.toInt := by
      rw [Int32.le_iff_toInt_le, i32_0] at h
      omega
    have h2 := shr1 v3
    exact ih _ _ _ _ (by rw [h2]; omega) (by omega) hK

theorem tt_x_X2_meetingRound (a0 a1 : Int32) : T [] [] (x_X2_meetingRound a0 a1) := by
  unfold x_X2_meetingRound
  refine T_li (tt_xl_X2_meetingRound_8 _ fuel _ _ _ _ ?_ (by unfold fuel; omega) (fun _ _ _ _ => T_rt _))
  have h := i32_b ((a0 ^^^ a1) >>> (1 &&& 31))
  unfold fuel
  omega

theorem tt_xl_X2_firstMeeting_21 (K : Int32 → Int32 → Int32 → Int32 → Int32 → Int32 → NG Int32) : ∀ (n : Nat) (v1 v2 v3 v4 v5 v6 : Int32), msr v6 ≤ n → (∀ (v4' v6' : Int32), T [] [] (K v1 v2 v3 v4' v5 v6')) → T [] [] (xl_X2_firstMeeting_21 n v1 v2 v3 v4 v5 v6 K) := by
  intro n
  induction n with
  | zero =>
    intro v1 v2 v3 v4 v5 v6 hm _
    exact absurd hm (msr_0 _)
  | succ n ih =>
    intro v1 v2 v3 v4 v5 v6 hm hK
    unfold xl_X2_firstMeeting_21
    repeat (first | (with_reducible exact T_rt _) | (with_reducible intro _) | (with_reducible exact hK _ _) | (with_reducible exact ih _ _ _ _ _ _ (msr_up (by assumption) hm) hK) | (with_reducible exact (tt_x_X1_ofClass _ _).mono (by decide) (by decide)) | (with_reducible exact (tt_x_X1_ofFighter _ _).mono (by decide) (by decide)) | (with_reducible exact (tt_x_X2_meetingRound _ _).mono (by decide) (by decide)) | (with_reducible exact T_RF) | (with_reducible exact T_GT) | (with_reducible exact T_GD) | (with_reducible exact T_GS) | (with_reducible exact T_WF (by decide)) | (with_reducible exact T_ST (by decide)) | (with_reducible exact T_SD (by decide)) | (with_reducible exact T_SS (by decide) (by decide)) | (with_reducible exact T_FL (by decide)) | (with_reducible exact T_FS (by decide) (by decide)) | (with_reducible refine T_li ?_) | (with_reducible refine T_ite (fun _ => ?_) (fun _ => ?_)) | (with_reducible refine T_cl ?_ (fun _ => ?_)))

theorem tt_x_X2_firstMeeting (a0 : Int32) (a1 : Int32) (a2 : Int32) : T [] [] (x_X2_firstMeeting a0 a1 a2) := by
  unfold x_X2_firstMeeting
  repeat (first | (with_reducible exact T_rt _) | (with_reducible intro _) | (with_reducible refine tt_xl_X2_firstMeeting_21 _ fuel _ _ _ _ _ _ (msr_fuel _) ?_) | (with_reducible exact (tt_x_X1_ofClass _ _).mono (by decide) (by decide)) | (with_reducible exact T_RF) | (with_reducible exact T_GT) | (with_reducible exact T_GD) | (with_reducible exact T_GS) | (with_reducible exact T_WF (by decide)) | (with_reducible exact T_ST (by decide)) | (with_reducible exact T_SD (by decide)) | (with_reducible exact T_SS (by decide) (by decide)) | (with_reducible exact T_FL (by decide)) | (with_reducible exact T_FS (by decide) (by decide)) | (with_reducible refine T_li ?_) | (with_reducible refine T_ite (fun _ => ?_) (fun _ => ?_)) | (with_reducible refine T_cl ?_ (fun _ => ?_)))

theorem tt_xl_X2_bestPlace_9 (K : Int32 → Int32 → Int32 → Int32 → Int32 → Int32 → NG Int32) : ∀ (n : Nat) (v1 v2 v3 v4 v5 v6 : Int32), msr v6 ≤ n → (∀ (v4' v5' v6' : Int32), T [] [] (K v1 v2 v3 v4' v5' v6')) → T [] [] (xl_X2_bestPlace_9 n v1 v2 v3 v4 v5 v6 K) := by
  intro n
  induction n with
  | zero =>
    intro v1 v2 v3 v4 v5 v6 hm _
    exact absurd hm (msr_0 _)
  | succ n ih =>
    intro v1 v2 v3 v4 v5 v6 hm hK
    unfold xl_X2_bestPlace_9
    repeat (first | (with_reducible exact T_rt _) | (with_reducible intro _) | (with_reducible exact hK _ _ _) | (with_reducible exact ih _ _ _ _ _ _ (msr_up (by assumption) hm) hK) | (with_reducible exact (tt_x_X1_ofClass _ _).mono (by decide) (by decide)) | (with_reducible exact (tt_x_X2_firstMeeting _ _ _).mono (by decide) (by decide)) | (with_reducible exact T_RF) | (with_reducible exact T_GT) | (with_reducible exact T_GD) | (with_reducible exact T_GS) | (with_reducible exact T_WF (by decide)) | (with_reducible exact T_ST (by decide)) | (with_reducible exact T_SD (by decide)) | (with_reducible exact T_SS (by decide) (by decide)) | (with_reducible exact T_FL (by decide)) | (with_reducible exact T_FS (by decide) (by decide)) | (with_reducible refine T_li ?_) | (with_reducible refine T_ite (fun _ => ?_) (fun _ => ?_)) | (with_reducible refine T_cl ?_ (fun _ => ?_)))

theorem tt_x_X2_bestPlace (a0 : Int32) (a1 : Int32) (a2 : Int32) : T [] [] (x_X2_bestPlace a0 a1 a2) := by
  unfold x_X2_bestPlace
  repeat (first | (with_reducible exact T_rt _) | (with_reducible intro _) | (with_reducible refine tt_xl_X2_bestPlace_9 _ fuel _ _ _ _ _ _ (msr_fuel _) ?_) | (with_reducible exact T_RF) | (with_reducible exact T_GT) | (with_reducible exact T_GD) | (with_reducible exact T_GS) | (with_reducible exact T_WF (by decide)) | (with_reducible exact T_ST (by decide)) | (with_reducible exact T_SD (by decide)) | (with_reducible exact T_SS (by decide) (by decide)) | (with_reducible exact T_FL (by decide)) | (with_reducible exact T_FS (by decide) (by decide)) | (with_reducible refine T_li ?_) | (with_reducible refine T_ite (fun _ => ?_) (fun _ => ?_)) | (with_reducible refine T_cl ?_ (fun _ => ?_)))

theorem tt_x_X3_on (a0 : Int32) (a1 : Int32) : T [] [] (x_X3_on a0 a1) := by
  unfold x_X3_on
  repeat (first | (with_reducible exact T_rt _) | (with_reducible intro _) | (with_reducible exact (tt_x_X1_ofMat _ _).mono (by decide) (by decide)) | (with_reducible exact T_RF) | (with_reducible exact T_GT) | (with_reducible exact T_GD) | (with_reducible exact T_GS) | (with_reducible exact T_WF (by decide)) | (with_reducible exact T_ST (by decide)) | (with_reducible exact T_SD (by decide)) | (with_reducible exact T_SS (by decide) (by decide)) | (with_reducible exact T_FL (by decide)) | (with_reducible exact T_FS (by decide) (by decide)) | (with_reducible refine T_li ?_) | (with_reducible refine T_ite (fun _ => ?_) (fun _ => ?_)) | (with_reducible refine T_cl ?_ (fun _ => ?_)))

theorem tt_x_X3_isFree (a0 : Int32) : T [] [] (x_X3_isFree a0) := by
  unfold x_X3_isFree
  repeat (first | (with_reducible exact T_rt _) | (with_reducible intro _) | (with_reducible exact (tt_x_X3_on _ _).mono (by decide) (by decide)) | (with_reducible exact T_RF) | (with_reducible exact T_GT) | (with_reducible exact T_GD) | (with_reducible exact T_GS) | (with_reducible exact T_WF (by decide)) | (with_reducible exact T_ST (by decide)) | (with_reducible exact T_SD (by decide)) | (with_reducible exact T_SS (by decide) (by decide)) | (with_reducible exact T_FL (by decide)) | (with_reducible exact T_FS (by decide) (by decide)) | (with_reducible refine T_li ?_) | (with_reducible refine T_ite (fun _ => ?_) (fun _ => ?_)) | (with_reducible refine T_cl ?_ (fun _ => ?_)))

theorem tt_x_X3_classOn (a0 : Int32) : T [] [] (x_X3_classOn a0) := by
  unfold x_X3_classOn
  repeat (first | (with_reducible exact T_rt _) | (with_reducible intro _) | (with_reducible exact (tt_x_X3_on _ _).mono (by decide) (by decide)) | (with_reducible exact T_RF) | (with_reducible exact T_GT) | (with_reducible exact T_GD) | (with_reducible exact T_GS) | (with_reducible exact T_WF (by decide)) | (with_reducible exact T_ST (by decide)) | (with_reducible exact T_SD (by decide)) | (with_reducible exact T_SS (by decide) (by decide)) | (with_reducible exact T_FL (by decide)) | (with_reducible exact T_FS (by decide) (by decide)) | (with_reducible refine T_li ?_) | (with_reducible refine T_ite (fun _ => ?_) (fun _ => ?_)) | (with_reducible refine T_cl ?_ (fun _ => ?_)))

theorem tt_x_X3_waits (a0 : Int32) : T [] [] (x_X3_waits a0) := by
  unfold x_X3_waits
  repeat (first | (with_reducible exact T_rt _) | (with_reducible intro _) | (with_reducible exact (tt_x_X3_isFree _).mono (by decide) (by decide)) | (with_reducible exact (tt_x_X3_on _ _).mono (by decide) (by decide)) | (with_reducible exact T_RF) | (with_reducible exact T_GT) | (with_reducible exact T_GD) | (with_reducible exact T_GS) | (with_reducible exact T_WF (by decide)) | (with_reducible exact T_ST (by decide)) | (with_reducible exact T_SD (by decide)) | (with_reducible exact T_SS (by decide) (by decide)) | (with_reducible exact T_FL (by decide)) | (with_reducible exact T_FS (by decide) (by decide)) | (with_reducible refine T_li ?_) | (with_reducible refine T_ite (fun _ => ?_) (fun _ => ?_)) | (with_reducible refine T_cl ?_ (fun _ => ?_)))

theorem tt_x_X3_goesOn (a0 : Int32) : T [] [] (x_X3_goesOn a0) := by
  unfold x_X3_goesOn
  repeat (first | (with_reducible exact T_rt _) | (with_reducible intro _) | (with_reducible exact (tt_x_X3_isFree _).mono (by decide) (by decide)) | (with_reducible exact (tt_x_X3_on _ _).mono (by decide) (by decide)) | (with_reducible exact T_RF) | (with_reducible exact T_GT) | (with_reducible exact T_GD) | (with_reducible exact T_GS) | (with_reducible exact T_WF (by decide)) | (with_reducible exact T_ST (by decide)) | (with_reducible exact T_SD (by decide)) | (with_reducible exact T_SS (by decide) (by decide)) | (with_reducible exact T_FL (by decide)) | (with_reducible exact T_FS (by decide) (by decide)) | (with_reducible refine T_li ?_) | (with_reducible refine T_ite (fun _ => ?_) (fun _ => ?_)) | (with_reducible refine T_cl ?_ (fun _ => ?_)))

theorem tt_x_X3_signsOf (a0 : Int32) (a1 : Int32) (a2 : Int32) : T [] [] (x_X3_signsOf a0 a1 a2) := by
  unfold x_X3_signsOf
  repeat (first | (with_reducible exact T_rt _) | (with_reducible intro _) | (with_reducible exact (tt_x_X3_on _ _).mono (by decide) (by decide)) | (with_reducible exact T_RF) | (with_reducible exact T_GT) | (with_reducible exact T_GD) | (with_reducible exact T_GS) | (with_reducible exact T_WF (by decide)) | (with_reducible exact T_ST (by decide)) | (with_reducible exact T_SD (by decide)) | (with_reducible exact T_SS (by decide) (by decide)) | (with_reducible exact T_FL (by decide)) | (with_reducible exact T_FS (by decide) (by decide)) | (with_reducible refine T_li ?_) | (with_reducible refine T_ite (fun _ => ?_) (fun _ => ?_)) | (with_reducible refine T_cl ?_ (fun _ => ?_)))

theorem tt_xl_X3_openFights_4 (K : Int32 → Int32 → NG Int32) : ∀ (n : Nat) (v1 v2 : Int32), msr v2 ≤ n → (∀ (v1' v2' : Int32), T [] [] (K v1' v2')) → T [] [] (xl_X3_openFights_4 n v1 v2 K) := by
  intro n
  induction n with
  | zero =>
    intro v1 v2 hm _
    exact absurd hm (msr_0 _)
  | succ n ih =>
    intro v1 v2 hm hK
    unfold xl_X3_openFights_4
    repeat (first | (with_reducible exact T_rt _) | (with_reducible intro _) | (with_reducible exact hK _ _) | (with_reducible exact ih _ _ (msr_up (by assumption) hm) hK) | (with_reducible exact (tt_x_X3_isFree _).mono (by decide) (by decide)) | (with_reducible exact T_RF) | (with_reducible exact T_GT) | (with_reducible exact T_GD) | (with_reducible exact T_GS) | (with_reducible exact T_WF (by decide)) | (with_reducible exact T_ST (by decide)) | (with_reducible exact T_SD (by decide)) | (with_reducible exact T_SS (by decide) (by decide)) | (with_reducible exact T_FL (by decide)) | (with_reducible exact T_FS (by decide) (by decide)) | (with_reducible refine T_li ?_) | (with_reducible refine T_ite (fun _ => ?_) (fun _ => ?_)) | (with_reducible refine T_cl ?_ (fun _ => ?_)))

theorem tt_x_X3_openFights : T [] [] (x_X3_openFights) := by
  unfold x_X3_openFights
  repeat (first | (with_reducible exact T_rt _) | (with_reducible intro _) | (with_reducible refine tt_xl_X3_openFights_4 _ fuel _ _ (msr_fuel _) ?_) | (with_reducible exact T_RF) | (with_reducible exact T_GT) | (with_reducible exact T_GD) | (with_reducible exact T_GS) | (with_reducible exact T_WF (by decide)) | (with_reducible exact T_ST (by decide)) | (with_reducible exact T_SD (by decide)) | (with_reducible exact T_SS (by decide) (by decide)) | (with_reducible exact T_FL (by decide)) | (with_reducible exact T_FS (by decide) (by decide)) | (with_reducible refine T_li ?_) | (with_reducible refine T_ite (fun _ => ?_) (fun _ => ?_)) | (with_reducible refine T_cl ?_ (fun _ => ?_)))

theorem tt_x_X3_fighterOn (a0 : Int32) (a1 : Int32) : T [] [] (x_X3_fighterOn a0 a1) := by
  unfold x_X3_fighterOn
  repeat (first | (with_reducible exact T_rt _) | (with_reducible intro _) | (with_reducible exact (tt_x_X3_on _ _).mono (by decide) (by decide)) | (with_reducible exact (tt_x_X1_ofFight _ _ _).mono (by decide) (by decide)) | (with_reducible exact T_RF) | (with_reducible exact T_GT) | (with_reducible exact T_GD) | (with_reducible exact T_GS) | (with_reducible exact T_WF (by decide)) | (with_reducible exact T_ST (by decide)) | (with_reducible exact T_SD (by decide)) | (with_reducible exact T_SS (by decide) (by decide)) | (with_reducible exact T_FL (by decide)) | (with_reducible exact T_FS (by decide) (by decide)) | (with_reducible refine T_li ?_) | (with_reducible refine T_ite (fun _ => ?_) (fun _ => ?_)) | (with_reducible refine T_cl ?_ (fun _ => ?_)))

theorem tt_xl_X3_isHeld_2 (K : Int32 → Int32 → NG Int32) : ∀ (n : Nat) (v1 v2 : Int32), msr v2 ≤ n → (∀ (v2' : Int32), T [] [] (K v1 v2')) → T [] [] (xl_X3_isHeld_2 n v1 v2 K) := by
  intro n
  induction n with
  | zero =>
    intro v1 v2 hm _
    exact absurd hm (msr_0 _)
  | succ n ih =>
    intro v1 v2 hm hK
    unfold xl_X3_isHeld_2
    repeat (first | (with_reducible exact T_rt _) | (with_reducible intro _) | (with_reducible exact hK _) | (with_reducible exact ih _ _ (msr_up (by assumption) hm) hK) | (with_reducible exact (tt_x_X3_isFree _).mono (by decide) (by decide)) | (with_reducible exact (tt_x_X3_fighterOn _ _).mono (by decide) (by decide)) | (with_reducible exact T_RF) | (with_reducible exact T_GT) | (with_reducible exact T_GD) | (with_reducible exact T_GS) | (with_reducible exact T_WF (by decide)) | (with_reducible exact T_ST (by decide)) | (with_reducible exact T_SD (by decide)) | (with_reducible exact T_SS (by decide) (by decide)) | (with_reducible exact T_FL (by decide)) | (with_reducible exact T_FS (by decide) (by decide)) | (with_reducible refine T_li ?_) | (with_reducible refine T_ite (fun _ => ?_) (fun _ => ?_)) | (with_reducible refine T_cl ?_ (fun _ => ?_)))

theorem tt_x_X3_isHeld (a0 : Int32) : T [] [] (x_X3_isHeld a0) := by
  unfold x_X3_isHeld
  repeat (first | (with_reducible exact T_rt _) | (with_reducible intro _) | (with_reducible refine tt_xl_X3_isHeld_2 _ fuel _ _ (msr_fuel _) ?_) | (with_reducible exact (tt_x_X1_ofFighter _ _).mono (by decide) (by decide)) | (with_reducible exact T_RF) | (with_reducible exact T_GT) | (with_reducible exact T_GD) | (with_reducible exact T_GS) | (with_reducible exact T_WF (by decide)) | (with_reducible exact T_ST (by decide)) | (with_reducible exact T_SD (by decide)) | (with_reducible exact T_SS (by decide) (by decide)) | (with_reducible exact T_FL (by decide)) | (with_reducible exact T_FS (by decide) (by decide)) | (with_reducible refine T_li ?_) | (with_reducible refine T_ite (fun _ => ?_) (fun _ => ?_)) | (with_reducible refine T_cl ?_ (fun _ => ?_)))

theorem tt_x_X4_startOf (L : MS) (a0 : Int32) : T [] [] (x_X4_startOf L a0) := by
  unfold x_X4_startOf
  repeat (first | (with_reducible exact T_rt _) | (with_reducible intro _) | (with_reducible exact T_RF) | (with_reducible exact T_GT) | (with_reducible exact T_GD) | (with_reducible exact T_GS) | (with_reducible exact T_WF (by decide)) | (with_reducible exact T_ST (by decide)) | (with_reducible exact T_SD (by decide)) | (with_reducible exact T_SS (by decide) (by decide)) | (with_reducible exact T_FL (by decide)) | (with_reducible exact T_FS (by decide) (by decide)) | (with_reducible refine T_li ?_) | (with_reducible refine T_ite (fun _ => ?_) (fun _ => ?_)) | (with_reducible refine T_cl ?_ (fun _ => ?_)))

theorem tt_x_X4_kindAt (L : MS) (a0 : Int32) : T [] [] (x_X4_kindAt L a0) := by
  unfold x_X4_kindAt
  repeat (first | (with_reducible exact T_rt _) | (with_reducible intro _) | (with_reducible exact T_RF) | (with_reducible exact T_GT) | (with_reducible exact T_GD) | (with_reducible exact T_GS) | (with_reducible exact T_WF (by decide)) | (with_reducible exact T_ST (by decide)) | (with_reducible exact T_SD (by decide)) | (with_reducible exact T_SS (by decide) (by decide)) | (with_reducible exact T_FL (by decide)) | (with_reducible exact T_FS (by decide) (by decide)) | (with_reducible refine T_li ?_) | (with_reducible refine T_ite (fun _ => ?_) (fun _ => ?_)) | (with_reducible refine T_cl ?_ (fun _ => ?_)))

theorem tt_x_X3_pop : T [16] [] (x_X3_pop) := by
  unfold x_X3_pop
  repeat (first | (with_reducible exact T_rt _) | (with_reducible intro _) | (with_reducible exact T_RF) | (with_reducible exact T_GT) | (with_reducible exact T_GD) | (with_reducible exact T_GS) | (with_reducible exact T_WF (by decide)) | (with_reducible exact T_ST (by decide)) | (with_reducible exact T_SD (by decide)) | (with_reducible exact T_SS (by decide) (by decide)) | (with_reducible exact T_FL (by decide)) | (with_reducible exact T_FS (by decide) (by decide)) | (with_reducible refine T_li ?_) | (with_reducible refine T_ite (fun _ => ?_) (fun _ => ?_)) | (with_reducible refine T_cl ?_ (fun _ => ?_)))

theorem tt_x_X3_workOn (a0 : Int32) (a1 : Int32) (a2 : Int32) : T [] [] (x_X3_workOn a0 a1 a2) := by
  unfold x_X3_workOn
  repeat (first | (with_reducible exact T_rt _) | (with_reducible intro _) | (with_reducible exact T_RF) | (with_reducible exact T_GT) | (with_reducible exact T_GD) | (with_reducible exact T_GS) | (with_reducible exact T_WF (by decide)) | (with_reducible exact T_ST (by decide)) | (with_reducible exact T_SD (by decide)) | (with_reducible exact T_SS (by decide) (by decide)) | (with_reducible exact T_FL (by decide)) | (with_reducible exact T_FS (by decide) (by decide)) | (with_reducible refine T_li ?_) | (with_reducible refine T_ite (fun _ => ?_) (fun _ => ?_)) | (with_reducible refine T_cl ?_ (fun _ => ?_)))

theorem tt_x_X3_push (a0 : Int32) : T [16] [18] (x_X3_push a0) := by
  unfold x_X3_push
  repeat (first | (with_reducible exact T_rt _) | (with_reducible intro _) | (with_reducible exact T_RF) | (with_reducible exact T_GT) | (with_reducible exact T_GD) | (with_reducible exact T_GS) | (with_reducible exact T_WF (by decide)) | (with_reducible exact T_ST (by decide)) | (with_reducible exact T_SD (by decide)) | (with_reducible exact T_SS (by decide) (by decide)) | (with_reducible exact T_FL (by decide)) | (with_reducible exact T_FS (by decide) (by decide)) | (with_reducible refine T_li ?_) | (with_reducible refine T_ite (fun _ => ?_) (fun _ => ?_)) | (with_reducible refine T_cl ?_ (fun _ => ?_)))

theorem tt_x_X4_valueAt (L : MS) (a0 : Int32) : T [] [] (x_X4_valueAt L a0) := by
  unfold x_X4_valueAt
  repeat (first | (with_reducible exact T_rt _) | (with_reducible intro _) | (with_reducible exact T_RF) | (with_reducible exact T_GT) | (with_reducible exact T_GD) | (with_reducible exact T_GS) | (with_reducible exact T_WF (by decide)) | (with_reducible exact T_ST (by decide)) | (with_reducible exact T_SD (by decide)) | (with_reducible exact T_SS (by decide) (by decide)) | (with_reducible exact T_FL (by decide)) | (with_reducible exact T_FS (by decide) (by decide)) | (with_reducible refine T_li ?_) | (with_reducible refine T_ite (fun _ => ?_) (fun _ => ?_)) | (with_reducible refine T_cl ?_ (fun _ => ?_)))

theorem tt_x_X3_valueOf (a0 : Int32) (a1 : Int32) (a2 : Int32) (a3 : Int32) : T [] [] (x_X3_valueOf a0 a1 a2 a3) := by
  unfold x_X3_valueOf
  repeat (first | (with_reducible exact T_rt _) | (with_reducible intro _) | (with_reducible exact (tt_x_X3_on _ _).mono (by decide) (by decide)) | (with_reducible exact (tt_x_X3_signsOf _ _ _).mono (by decide) (by decide)) | (with_reducible exact T_RF) | (with_reducible exact T_GT) | (with_reducible exact T_GD) | (with_reducible exact T_GS) | (with_reducible exact T_WF (by decide)) | (with_reducible exact T_ST (by decide)) | (with_reducible exact T_SD (by decide)) | (with_reducible exact T_SS (by decide) (by decide)) | (with_reducible exact T_FL (by decide)) | (with_reducible exact T_FS (by decide) (by decide)) | (with_reducible refine T_li ?_) | (with_reducible refine T_ite (fun _ => ?_) (fun _ => ?_)) | (with_reducible refine T_cl ?_ (fun _ => ?_)))

theorem tt_xl_X3_holds_12 (L : MS) (K : Int32 → Int32 → Int32 → Int32 → NG Int32) : ∀ (n : Nat) (v2 v3 v4 v5 : Int32), msr v5 ≤ n → (∀ (v5' : Int32), T [16] [18] (K v2 v3 v4 v5')) → T [16] [18] (xl_X3_holds_12 L n v2 v3 v4 v5 K) := by
  intro n
  induction n with
  | zero =>
    intro v2 v3 v4 v5 hm _
    exact absurd hm (msr_0 _)
  | succ n ih =>
    intro v2 v3 v4 v5 hm hK
    unfold xl_X3_holds_12
    repeat (first | (with_reducible exact T_rt _) | (with_reducible intro _) | (with_reducible exact hK _) | (with_reducible exact ih _ _ _ _ (msr_up (by assumption) hm) hK) | (with_reducible exact (tt_x_X4_kindAt _ _).mono (by decide) (by decide)) | (with_reducible exact (tt_x_X3_pop).mono (by decide) (by decide)) | (with_reducible exact (tt_x_X3_push _).mono (by decide) (by decide)) | (with_reducible exact (tt_x_X3_workOn _ _ _).mono (by decide) (by decide)) | (with_reducible exact (tt_x_X4_valueAt _ _).mono (by decide) (by decide)) | (with_reducible exact (tt_x_X3_valueOf _ _ _ _).mono (by decide) (by decide)) | (with_reducible exact T_RF) | (with_reducible exact T_GT) | (with_reducible exact T_GD) | (with_reducible exact T_GS) | (with_reducible exact T_WF (by decide)) | (with_reducible exact T_ST (by decide)) | (with_reducible exact T_SD (by decide)) | (with_reducible exact T_SS (by decide) (by decide)) | (with_reducible exact T_FL (by decide)) | (with_reducible exact T_FS (by decide) (by decide)) | (with_reducible refine T_li ?_) | (with_reducible refine T_ite (fun _ => ?_) (fun _ => ?_)) | (with_reducible refine T_cl ?_ (fun _ => ?_)))

theorem tt_x_X3_holds (L : MS) (a1 : Int32) (a2 : Int32) (a3 : Int32) : T [16] [18] (x_X3_holds L a1 a2 a3) := by
  unfold x_X3_holds
  repeat (first | (with_reducible exact T_rt _) | (with_reducible intro _) | (with_reducible refine tt_xl_X3_holds_12 _ _ fuel _ _ _ _ (msr_fuel _) ?_) | (with_reducible exact (tt_x_X4_startOf _ _).mono (by decide) (by decide)) | (with_reducible exact (tt_x_X3_pop).mono (by decide) (by decide)) | (with_reducible exact T_RF) | (with_reducible exact T_GT) | (with_reducible exact T_GD) | (with_reducible exact T_GS) | (with_reducible exact T_WF (by decide)) | (with_reducible exact T_ST (by decide)) | (with_reducible exact T_SD (by decide)) | (with_reducible exact T_SS (by decide) (by decide)) | (with_reducible exact T_FL (by decide)) | (with_reducible exact T_FS (by decide) (by decide)) | (with_reducible refine T_li ?_) | (with_reducible refine T_ite (fun _ => ?_) (fun _ => ?_)) | (with_reducible refine T_cl ?_ (fun _ => ?_)))

