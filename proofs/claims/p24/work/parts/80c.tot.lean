theorem tt_x_X6_tell (a0 : Int32) (a1 : Int32) (a2 : Int32) : T [] [] (x_X6_tell a0 a1 a2) := by
  unfold x_X6_tell
  repeat (first | (with_reducible exact T_rt _) | (with_reducible intro _) | (with_reducible exact (tt_x_X0_slot _ _).mono (by decide) (by decide)) | (with_reducible exact T_RF) | (with_reducible exact T_GT) | (with_reducible exact T_GD) | (with_reducible exact T_GS) | (with_reducible exact T_WF (by decide)) | (with_reducible exact T_ST (by decide)) | (with_reducible exact T_SD (by decide)) | (with_reducible exact T_SS (by decide) (by decide)) | (with_reducible exact T_FL (by decide)) | (with_reducible exact T_FS (by decide) (by decide)) | (with_reducible refine T_li ?_) | (with_reducible refine T_ite (fun _ => ?_) (fun _ => ?_)) | (with_reducible refine T_cl ?_ (fun _ => ?_)))

theorem tt_xl_X6_clear_49 (K : Int32 → NG Int32) : ∀ (n : Nat) (v1 : Int32), msr v1 ≤ n → (∀ (v1' : Int32), T [19] [22, 23, 24, 26, 27, 28, 29] (K v1')) → T [19] [22, 23, 24, 26, 27, 28, 29] (xl_X6_clear_49 n v1 K) := by
  intro n
  induction n with
  | zero =>
    intro v1 hm _
    exact absurd hm (msr_0 _)
  | succ n ih =>
    intro v1 hm hK
    unfold xl_X6_clear_49
    repeat (first | (with_reducible exact T_rt _) | (with_reducible intro _) | (with_reducible exact hK _) | (with_reducible exact ih _ (msr_up (by assumption) hm) hK) | (with_reducible exact (tt_x_X1_ofFighter _ _).mono (by decide) (by decide)) | (with_reducible exact T_RF) | (with_reducible exact T_GT) | (with_reducible exact T_GD) | (with_reducible exact T_GS) | (with_reducible exact T_WF (by decide)) | (with_reducible exact T_ST (by decide)) | (with_reducible exact T_SD (by decide)) | (with_reducible exact T_SS (by decide) (by decide)) | (with_reducible exact T_FL (by decide)) | (with_reducible exact T_FS (by decide) (by decide)) | (with_reducible refine T_li ?_) | (with_reducible refine T_ite (fun _ => ?_) (fun _ => ?_)) | (with_reducible refine T_cl ?_ (fun _ => ?_)))

theorem tt_x_X6_clear : T [19] [22, 23, 24, 26, 27, 28, 29] (x_X6_clear) := by
  unfold x_X6_clear
  repeat (first | (with_reducible exact T_rt _) | (with_reducible intro _) | (with_reducible refine tt_xl_X6_clear_49 _ fuel _ (msr_fuel _) ?_) | (with_reducible exact T_RF) | (with_reducible exact T_GT) | (with_reducible exact T_GD) | (with_reducible exact T_GS) | (with_reducible exact T_WF (by decide)) | (with_reducible exact T_ST (by decide)) | (with_reducible exact T_SD (by decide)) | (with_reducible exact T_SS (by decide) (by decide)) | (with_reducible exact T_FL (by decide)) | (with_reducible exact T_FS (by decide) (by decide)) | (with_reducible refine T_li ?_) | (with_reducible refine T_ite (fun _ => ?_) (fun _ => ?_)) | (with_reducible refine T_cl ?_ (fun _ => ?_)))

theorem tt_x_X6_holdTill (a0 : Int32) (a1 : Int32) : T [] [24] (x_X6_holdTill a0 a1) := by
  unfold x_X6_holdTill
  repeat (first | (with_reducible exact T_rt _) | (with_reducible intro _) | (with_reducible exact T_RF) | (with_reducible exact T_GT) | (with_reducible exact T_GD) | (with_reducible exact T_GS) | (with_reducible exact T_WF (by decide)) | (with_reducible exact T_ST (by decide)) | (with_reducible exact T_SD (by decide)) | (with_reducible exact T_SS (by decide) (by decide)) | (with_reducible exact T_FL (by decide)) | (with_reducible exact T_FS (by decide) (by decide)) | (with_reducible refine T_li ?_) | (with_reducible refine T_ite (fun _ => ?_) (fun _ => ?_)) | (with_reducible refine T_cl ?_ (fun _ => ?_)))

theorem tt_x_X6_put (a0 : Int32) (a1 : Int32) (a2 : Int32) (a3 : Int32) : T [19] [22, 23, 24, 26, 27, 28, 29] (x_X6_put a0 a1 a2 a3) := by
  unfold x_X6_put
  repeat (first | (with_reducible exact T_rt _) | (with_reducible intro _) | (with_reducible exact (tt_x_X0_slot _ _).mono (by decide) (by decide)) | (with_reducible exact (tt_x_X0_whiteOf _ _).mono (by decide) (by decide)) | (with_reducible exact (tt_x_X6_holdTill _ _).mono (by decide) (by decide)) | (with_reducible exact (tt_x_X0_blueOf _ _).mono (by decide) (by decide)) | (with_reducible exact T_RF) | (with_reducible exact T_GT) | (with_reducible exact T_GD) | (with_reducible exact T_GS) | (with_reducible exact T_WF (by decide)) | (with_reducible exact T_ST (by decide)) | (with_reducible exact T_SD (by decide)) | (with_reducible exact T_SS (by decide) (by decide)) | (with_reducible exact T_FL (by decide)) | (with_reducible exact T_FS (by decide) (by decide)) | (with_reducible refine T_li ?_) | (with_reducible refine T_ite (fun _ => ?_) (fun _ => ?_)) | (with_reducible refine T_cl ?_ (fun _ => ?_)))

theorem tt_xl_X6_putOpenOnes_2 (K : Int32 → NG Int32) : ∀ (n : Nat) (v1 : Int32), msr v1 ≤ n → (∀ (v1' : Int32), T [19] [22, 23, 24, 26, 27, 28, 29] (K v1')) → T [19] [22, 23, 24, 26, 27, 28, 29] (xl_X6_putOpenOnes_2 n v1 K) := by
  intro n
  induction n with
  | zero =>
    intro v1 hm _
    exact absurd hm (msr_0 _)
  | succ n ih =>
    intro v1 hm hK
    unfold xl_X6_putOpenOnes_2
    repeat (first | (with_reducible exact T_rt _) | (with_reducible intro _) | (with_reducible exact hK _) | (with_reducible exact ih _ (msr_up (by assumption) hm) hK) | (with_reducible exact (tt_x_X1_ofMat _ _).mono (by decide) (by decide)) | (with_reducible exact (tt_x_X6_put _ _ _ _).mono (by decide) (by decide)) | (with_reducible exact T_RF) | (with_reducible exact T_GT) | (with_reducible exact T_GD) | (with_reducible exact T_GS) | (with_reducible exact T_WF (by decide)) | (with_reducible exact T_ST (by decide)) | (with_reducible exact T_SD (by decide)) | (with_reducible exact T_SS (by decide) (by decide)) | (with_reducible exact T_FL (by decide)) | (with_reducible exact T_FS (by decide) (by decide)) | (with_reducible refine T_li ?_) | (with_reducible refine T_ite (fun _ => ?_) (fun _ => ?_)) | (with_reducible refine T_cl ?_ (fun _ => ?_)))

theorem tt_x_X6_putOpenOnes : T [19] [22, 23, 24, 26, 27, 28, 29] (x_X6_putOpenOnes) := by
  unfold x_X6_putOpenOnes
  repeat (first | (with_reducible exact T_rt _) | (with_reducible intro _) | (with_reducible refine tt_xl_X6_putOpenOnes_2 _ fuel _ (msr_fuel _) ?_) | (with_reducible exact T_RF) | (with_reducible exact T_GT) | (with_reducible exact T_GD) | (with_reducible exact T_GS) | (with_reducible exact T_WF (by decide)) | (with_reducible exact T_ST (by decide)) | (with_reducible exact T_SD (by decide)) | (with_reducible exact T_SS (by decide) (by decide)) | (with_reducible exact T_FL (by decide)) | (with_reducible exact T_FS (by decide) (by decide)) | (with_reducible refine T_li ?_) | (with_reducible refine T_ite (fun _ => ?_) (fun _ => ?_)) | (with_reducible refine T_cl ?_ (fun _ => ?_)))

theorem tt_xl_X6_putStageInOrder_2 (K : Int32 → Int32 → Int32 → NG Int32) : ∀ (n : Nat) (v1 v2 v3 : Int32), msr v3 ≤ n → (∀ (v3' : Int32), T [17] [21] (K v1 v2 v3')) → T [17] [21] (xl_X6_putStageInOrder_2 n v1 v2 v3 K) := by
  intro n
  induction n with
  | zero =>
    intro v1 v2 v3 hm _
    exact absurd hm (msr_0 _)
  | succ n ih =>
    intro v1 v2 v3 hm hK
    unfold xl_X6_putStageInOrder_2
    repeat (first | (with_reducible exact T_rt _) | (with_reducible intro _) | (with_reducible exact hK _) | (with_reducible exact ih _ _ _ (msr_up (by assumption) hm) hK) | (with_reducible exact (tt_x_X0_fightsOf _).mono (by decide) (by decide)) | (with_reducible exact (tt_x_X0_stateOf _ _).mono (by decide) (by decide)) | (with_reducible exact (tt_x_X0_stageOf _ _).mono (by decide) (by decide)) | (with_reducible exact (tt_x_X0_slot _ _).mono (by decide) (by decide)) | (with_reducible exact T_RF) | (with_reducible exact T_GT) | (with_reducible exact T_GD) | (with_reducible exact T_GS) | (with_reducible exact T_WF (by decide)) | (with_reducible exact T_ST (by decide)) | (with_reducible exact T_SD (by decide)) | (with_reducible exact T_SS (by decide) (by decide)) | (with_reducible exact T_FL (by decide)) | (with_reducible exact T_FS (by decide) (by decide)) | (with_reducible refine T_li ?_) | (with_reducible refine T_ite (fun _ => ?_) (fun _ => ?_)) | (with_reducible refine T_cl ?_ (fun _ => ?_)))

theorem tt_x_X6_putStageInOrder (a0 : Int32) (a1 : Int32) : T [17] [21] (x_X6_putStageInOrder a0 a1) := by
  unfold x_X6_putStageInOrder
  repeat (first | (with_reducible exact T_rt _) | (with_reducible intro _) | (with_reducible refine tt_xl_X6_putStageInOrder_2 _ fuel _ _ _ (msr_fuel _) ?_) | (with_reducible exact T_RF) | (with_reducible exact T_GT) | (with_reducible exact T_GD) | (with_reducible exact T_GS) | (with_reducible exact T_WF (by decide)) | (with_reducible exact T_ST (by decide)) | (with_reducible exact T_SD (by decide)) | (with_reducible exact T_SS (by decide) (by decide)) | (with_reducible exact T_FL (by decide)) | (with_reducible exact T_FS (by decide) (by decide)) | (with_reducible refine T_li ?_) | (with_reducible refine T_ite (fun _ => ?_) (fun _ => ?_)) | (with_reducible refine T_cl ?_ (fun _ => ?_)))

theorem tt_xl_X6_putInOrder_15 (K : Int32 → Int32 → NG Int32) : ∀ (n : Nat) (v1 v2 : Int32), msr v2 ≤ n → (∀ (v2' : Int32), T [17] [21] (K v1 v2')) → T [17] [21] (xl_X6_putInOrder_15 n v1 v2 K) := by
  intro n
  induction n with
  | zero =>
    intro v1 v2 hm _
    exact absurd hm (msr_0 _)
  | succ n ih =>
    intro v1 v2 hm hK
    unfold xl_X6_putInOrder_15
    repeat (first | (with_reducible exact T_rt _) | (with_reducible intro _) | (with_reducible exact hK _) | (with_reducible exact ih _ _ (msr_up (by assumption) hm) hK) | (with_reducible exact (tt_x_X6_putStageInOrder _ _).mono (by decide) (by decide)) | (with_reducible exact T_RF) | (with_reducible exact T_GT) | (with_reducible exact T_GD) | (with_reducible exact T_GS) | (with_reducible exact T_WF (by decide)) | (with_reducible exact T_ST (by decide)) | (with_reducible exact T_SD (by decide)) | (with_reducible exact T_SS (by decide) (by decide)) | (with_reducible exact T_FL (by decide)) | (with_reducible exact T_FS (by decide) (by decide)) | (with_reducible refine T_li ?_) | (with_reducible refine T_ite (fun _ => ?_) (fun _ => ?_)) | (with_reducible refine T_cl ?_ (fun _ => ?_)))

theorem tt_xl_X6_putInOrder_7 (K : Int32 → NG Int32) : ∀ (n : Nat) (v1 : Int32), msr v1 ≤ n → (∀ (v1' : Int32), T [17] [21] (K v1')) → T [17] [21] (xl_X6_putInOrder_7 n v1 K) := by
  intro n
  induction n with
  | zero =>
    intro v1 hm _
    exact absurd hm (msr_0 _)
  | succ n ih =>
    intro v1 hm hK
    unfold xl_X6_putInOrder_7
    repeat (first | (with_reducible exact T_rt _) | (with_reducible intro _) | (with_reducible exact hK _) | (with_reducible exact ih _ (msr_lt (by assumption) (by decide) hm) hK) | (with_reducible refine tt_xl_X6_putInOrder_15 _ fuel _ _ (msr_fuel _) ?_) | (with_reducible exact T_RF) | (with_reducible exact T_GT) | (with_reducible exact T_GD) | (with_reducible exact T_GS) | (with_reducible exact T_WF (by decide)) | (with_reducible exact T_ST (by decide)) | (with_reducible exact T_SD (by decide)) | (with_reducible exact T_SS (by decide) (by decide)) | (with_reducible exact T_FL (by decide)) | (with_reducible exact T_FS (by decide) (by decide)) | (with_reducible refine T_li ?_) | (with_reducible refine T_ite (fun _ => ?_) (fun _ => ?_)) | (with_reducible refine T_cl ?_ (fun _ => ?_)))

theorem tt_x_X6_putInOrder : T [17] [21] (x_X6_putInOrder) := by
  unfold x_X6_putInOrder
  repeat (first | (with_reducible exact T_rt _) | (with_reducible intro _) | (with_reducible refine tt_xl_X6_putInOrder_7 _ fuel _ (msr_fuel _) ?_) | (with_reducible exact T_RF) | (with_reducible exact T_GT) | (with_reducible exact T_GD) | (with_reducible exact T_GS) | (with_reducible exact T_WF (by decide)) | (with_reducible exact T_ST (by decide)) | (with_reducible exact T_SD (by decide)) | (with_reducible exact T_SS (by decide) (by decide)) | (with_reducible exact T_FL (by decide)) | (with_reducible exact T_FS (by decide) (by decide)) | (with_reducible refine T_li ?_) | (with_reducible refine T_ite (fun _ => ?_) (fun _ => ?_)) | (with_reducible refine T_cl ?_ (fun _ => ?_)))

theorem tt_x_X6_freeFrom (a0 : Int32) : T [] [] (x_X6_freeFrom a0) := by
  unfold x_X6_freeFrom
  repeat (first | (with_reducible exact T_rt _) | (with_reducible intro _) | (with_reducible exact T_RF) | (with_reducible exact T_GT) | (with_reducible exact T_GD) | (with_reducible exact T_GS) | (with_reducible exact T_WF (by decide)) | (with_reducible exact T_ST (by decide)) | (with_reducible exact T_SD (by decide)) | (with_reducible exact T_SS (by decide) (by decide)) | (with_reducible exact T_FL (by decide)) | (with_reducible exact T_FS (by decide) (by decide)) | (with_reducible refine T_li ?_) | (with_reducible refine T_ite (fun _ => ?_) (fun _ => ?_)) | (with_reducible refine T_cl ?_ (fun _ => ?_)))

theorem tt_x_X6_behindFight (a0 : Int32) (a1 : Int32) : T [] [] (x_X6_behindFight a0 a1) := by
  unfold x_X6_behindFight
  repeat (first | (with_reducible exact T_rt _) | (with_reducible intro _) | (with_reducible exact (tt_x_X0_stateOf _ _).mono (by decide) (by decide)) | (with_reducible exact (tt_x_X0_slot _ _).mono (by decide) (by decide)) | (with_reducible exact T_RF) | (with_reducible exact T_GT) | (with_reducible exact T_GD) | (with_reducible exact T_GS) | (with_reducible exact T_WF (by decide)) | (with_reducible exact T_ST (by decide)) | (with_reducible exact T_SD (by decide)) | (with_reducible exact T_SS (by decide) (by decide)) | (with_reducible exact T_FL (by decide)) | (with_reducible exact T_FS (by decide) (by decide)) | (with_reducible refine T_li ?_) | (with_reducible refine T_ite (fun _ => ?_) (fun _ => ?_)) | (with_reducible refine T_cl ?_ (fun _ => ?_)))

theorem tt_xl_X6_findEarliest_2 (K : Int32 → Int32 → NG Int32) : ∀ (n : Nat) (v1 v2 : Int32), msr v2 ≤ n → (∀ (v2' : Int32), T [] [25] (K v1 v2')) → T [] [25] (xl_X6_findEarliest_2 n v1 v2 K) := by
  intro n
  induction n with
  | zero =>
    intro v1 v2 hm _
    exact absurd hm (msr_0 _)
  | succ n ih =>
    intro v1 v2 hm hK
    unfold xl_X6_findEarliest_2
    repeat (first | (with_reducible exact T_rt _) | (with_reducible intro _) | (with_reducible exact hK _) | (with_reducible exact ih _ _ (msr_up (by assumption) hm) hK) | (with_reducible exact (tt_x_X0_fightsOf _).mono (by decide) (by decide)) | (with_reducible exact (tt_x_X0_whiteOf _ _).mono (by decide) (by decide)) | (with_reducible exact (tt_x_X6_freeFrom _).mono (by decide) (by decide)) | (with_reducible exact (tt_x_X0_blueOf _ _).mono (by decide) (by decide)) | (with_reducible exact (tt_x_X0_aheadOf _ _ _).mono (by decide) (by decide)) | (with_reducible exact (tt_x_X6_behindFight _ _).mono (by decide) (by decide)) | (with_reducible exact (tt_x_X0_slot _ _).mono (by decide) (by decide)) | (with_reducible exact T_RF) | (with_reducible exact T_GT) | (with_reducible exact T_GD) | (with_reducible exact T_GS) | (with_reducible exact T_WF (by decide)) | (with_reducible exact T_ST (by decide)) | (with_reducible exact T_SD (by decide)) | (with_reducible exact T_SS (by decide) (by decide)) | (with_reducible exact T_FL (by decide)) | (with_reducible exact T_FS (by decide) (by decide)) | (with_reducible refine T_li ?_) | (with_reducible refine T_ite (fun _ => ?_) (fun _ => ?_)) | (with_reducible refine T_cl ?_ (fun _ => ?_)))

theorem tt_x_X6_findEarliest (a0 : Int32) : T [] [25] (x_X6_findEarliest a0) := by
  unfold x_X6_findEarliest
  repeat (first | (with_reducible exact T_rt _) | (with_reducible intro _) | (with_reducible refine tt_xl_X6_findEarliest_2 _ fuel _ _ (msr_fuel _) ?_) | (with_reducible exact T_RF) | (with_reducible exact T_GT) | (with_reducible exact T_GD) | (with_reducible exact T_GS) | (with_reducible exact T_WF (by decide)) | (with_reducible exact T_ST (by decide)) | (with_reducible exact T_SD (by decide)) | (with_reducible exact T_SS (by decide) (by decide)) | (with_reducible exact T_FL (by decide)) | (with_reducible exact T_FS (by decide) (by decide)) | (with_reducible refine T_li ?_) | (with_reducible refine T_ite (fun _ => ?_) (fun _ => ?_)) | (with_reducible refine T_cl ?_ (fun _ => ?_)))

theorem tt_xl_X6_takeOutOfOrder_12 (K : Int32 → Int32 → NG Int32) : ∀ (n : Nat) (v1 v2 : Int32), msr v2 ≤ n → (∀ (v2' : Int32), T [17] [21] (K v1 v2')) → T [17] [21] (xl_X6_takeOutOfOrder_12 n v1 v2 K) := by
  intro n
  induction n with
  | zero =>
    intro v1 v2 hm _
    exact absurd hm (msr_0 _)
  | succ n ih =>
    intro v1 v2 hm hK
    unfold xl_X6_takeOutOfOrder_12
    repeat (first | (with_reducible exact T_rt _) | (with_reducible intro _) | (with_reducible exact hK _) | (with_reducible exact ih _ _ (msr_up (by assumption) hm) hK) | (with_reducible exact T_RF) | (with_reducible exact T_GT) | (with_reducible exact T_GD) | (with_reducible exact T_GS) | (with_reducible exact T_WF (by decide)) | (with_reducible exact T_ST (by decide)) | (with_reducible exact T_SD (by decide)) | (with_reducible exact T_SS (by decide) (by decide)) | (with_reducible exact T_FL (by decide)) | (with_reducible exact T_FS (by decide) (by decide)) | (with_reducible refine T_li ?_) | (with_reducible refine T_ite (fun _ => ?_) (fun _ => ?_)) | (with_reducible refine T_cl ?_ (fun _ => ?_)))

theorem tt_x_X6_takeOutOfOrder (a0 : Int32) : T [17] [21] (x_X6_takeOutOfOrder a0) := by
  unfold x_X6_takeOutOfOrder
  repeat (first | (with_reducible exact T_rt _) | (with_reducible intro _) | (with_reducible refine tt_xl_X6_takeOutOfOrder_12 _ fuel _ _ (msr_fuel _) ?_) | (with_reducible exact T_RF) | (with_reducible exact T_GT) | (with_reducible exact T_GD) | (with_reducible exact T_GS) | (with_reducible exact T_WF (by decide)) | (with_reducible exact T_ST (by decide)) | (with_reducible exact T_SD (by decide)) | (with_reducible exact T_SS (by decide) (by decide)) | (with_reducible exact T_FL (by decide)) | (with_reducible exact T_FS (by decide) (by decide)) | (with_reducible refine T_li ?_) | (with_reducible refine T_ite (fun _ => ?_) (fun _ => ?_)) | (with_reducible refine T_cl ?_ (fun _ => ?_)))

theorem tt_xl_X6_firstThatMay_2 (K : Int32 → Int32 → NG Int32) : ∀ (n : Nat) (v1 v2 : Int32), msr v2 ≤ n → (∀ (v2' : Int32), T [] [] (K v1 v2')) → T [] [] (xl_X6_firstThatMay_2 n v1 v2 K) := by
  intro n
  induction n with
  | zero =>
    intro v1 v2 hm _
    exact absurd hm (msr_0 _)
  | succ n ih =>
    intro v1 v2 hm hK
    unfold xl_X6_firstThatMay_2
    repeat (first | (with_reducible exact T_rt _) | (with_reducible intro _) | (with_reducible exact hK _) | (with_reducible exact ih _ _ (msr_up (by assumption) hm) hK) | (with_reducible exact T_RF) | (with_reducible exact T_GT) | (with_reducible exact T_GD) | (with_reducible exact T_GS) | (with_reducible exact T_WF (by decide)) | (with_reducible exact T_ST (by decide)) | (with_reducible exact T_SD (by decide)) | (with_reducible exact T_SS (by decide) (by decide)) | (with_reducible exact T_FL (by decide)) | (with_reducible exact T_FS (by decide) (by decide)) | (with_reducible refine T_li ?_) | (with_reducible refine T_ite (fun _ => ?_) (fun _ => ?_)) | (with_reducible refine T_cl ?_ (fun _ => ?_)))

theorem tt_x_X6_firstThatMay (a0 : Int32) : T [] [] (x_X6_firstThatMay a0) := by
  unfold x_X6_firstThatMay
  repeat (first | (with_reducible exact T_rt _) | (with_reducible intro _) | (with_reducible refine tt_xl_X6_firstThatMay_2 _ fuel _ _ (msr_fuel _) ?_) | (with_reducible exact T_RF) | (with_reducible exact T_GT) | (with_reducible exact T_GD) | (with_reducible exact T_GS) | (with_reducible exact T_WF (by decide)) | (with_reducible exact T_ST (by decide)) | (with_reducible exact T_SD (by decide)) | (with_reducible exact T_SS (by decide) (by decide)) | (with_reducible exact T_FL (by decide)) | (with_reducible exact T_FS (by decide) (by decide)) | (with_reducible refine T_li ?_) | (with_reducible refine T_ite (fun _ => ?_) (fun _ => ?_)) | (with_reducible refine T_cl ?_ (fun _ => ?_)))

theorem tt_xl_X6_putFrom_2 (K : Int32 → Int32 → Int32 → NG Int32) : ∀ (n : Nat) (v1 v2 v3 : Int32), msr v3 ≤ n → (∀ (v3' : Int32), T [17, 19] [21, 22, 23, 24, 25, 26, 27, 28, 29] (K v1 v2 v3')) → T [17, 19] [21, 22, 23, 24, 25, 26, 27, 28, 29] (xl_X6_putFrom_2 n v1 v2 v3 K) := by
  intro n
  induction n with
  | zero =>
    intro v1 v2 v3 hm _
    exact absurd hm (msr_0 _)
  | succ n ih =>
    intro v1 v2 v3 hm hK
    unfold xl_X6_putFrom_2
    repeat (first | (with_reducible exact T_rt _) | (with_reducible intro _) | (with_reducible exact hK _) | (with_reducible exact ih _ _ _ (msr_up (by assumption) hm) hK) | (with_reducible exact (tt_x_X6_put _ _ _ _).mono (by decide) (by decide)) | (with_reducible exact (tt_x_X6_takeOutOfOrder _).mono (by decide) (by decide)) | (with_reducible exact (tt_x_X6_findEarliest _).mono (by decide) (by decide)) | (with_reducible exact (tt_x_X6_firstThatMay _).mono (by decide) (by decide)) | (with_reducible exact T_RF) | (with_reducible exact T_GT) | (with_reducible exact T_GD) | (with_reducible exact T_GS) | (with_reducible exact T_WF (by decide)) | (with_reducible exact T_ST (by decide)) | (with_reducible exact T_SD (by decide)) | (with_reducible exact T_SS (by decide) (by decide)) | (with_reducible exact T_FL (by decide)) | (with_reducible exact T_FS (by decide) (by decide)) | (with_reducible refine T_li ?_) | (with_reducible refine T_ite (fun _ => ?_) (fun _ => ?_)) | (with_reducible refine T_cl ?_ (fun _ => ?_)))

theorem tt_x_X6_putFrom (a0 : Int32) (a1 : Int32) : T [17, 19] [21, 22, 23, 24, 25, 26, 27, 28, 29] (x_X6_putFrom a0 a1) := by
  unfold x_X6_putFrom
  repeat (first | (with_reducible exact T_rt _) | (with_reducible intro _) | (with_reducible refine tt_xl_X6_putFrom_2 _ fuel _ _ _ (msr_fuel _) ?_) | (with_reducible exact T_RF) | (with_reducible exact T_GT) | (with_reducible exact T_GD) | (with_reducible exact T_GS) | (with_reducible exact T_WF (by decide)) | (with_reducible exact T_ST (by decide)) | (with_reducible exact T_SD (by decide)) | (with_reducible exact T_SS (by decide) (by decide)) | (with_reducible exact T_FL (by decide)) | (with_reducible exact T_FS (by decide) (by decide)) | (with_reducible refine T_li ?_) | (with_reducible refine T_ite (fun _ => ?_) (fun _ => ?_)) | (with_reducible refine T_cl ?_ (fun _ => ?_)))

theorem tt_xl_X6_soonestMat_5 (K : Int32 → Int32 → Int32 → NG Int32) : ∀ (n : Nat) (v1 v2 v3 : Int32), msr v3 ≤ n → (∀ (v2' v3' : Int32), T [] [] (K v1 v2' v3')) → T [] [] (xl_X6_soonestMat_5 n v1 v2 v3 K) := by
  intro n
  induction n with
  | zero =>
    intro v1 v2 v3 hm _
    exact absurd hm (msr_0 _)
  | succ n ih =>
    intro v1 v2 v3 hm hK
    unfold xl_X6_soonestMat_5
    repeat (first | (with_reducible exact T_rt _) | (with_reducible intro _) | (with_reducible exact hK _ _) | (with_reducible exact ih _ _ _ (msr_up (by assumption) hm) hK) | (with_reducible exact T_RF) | (with_reducible exact T_GT) | (with_reducible exact T_GD) | (with_reducible exact T_GS) | (with_reducible exact T_WF (by decide)) | (with_reducible exact T_ST (by decide)) | (with_reducible exact T_SD (by decide)) | (with_reducible exact T_SS (by decide) (by decide)) | (with_reducible exact T_FL (by decide)) | (with_reducible exact T_FS (by decide) (by decide)) | (with_reducible refine T_li ?_) | (with_reducible refine T_ite (fun _ => ?_) (fun _ => ?_)) | (with_reducible refine T_cl ?_ (fun _ => ?_)))

theorem tt_x_X6_soonestMat (a0 : Int32) : T [] [] (x_X6_soonestMat a0) := by
  unfold x_X6_soonestMat
  repeat (first | (with_reducible exact T_rt _) | (with_reducible intro _) | (with_reducible refine tt_xl_X6_soonestMat_5 _ fuel _ _ _ (msr_fuel _) ?_) | (with_reducible exact T_RF) | (with_reducible exact T_GT) | (with_reducible exact T_GD) | (with_reducible exact T_GS) | (with_reducible exact T_WF (by decide)) | (with_reducible exact T_ST (by decide)) | (with_reducible exact T_SD (by decide)) | (with_reducible exact T_SS (by decide) (by decide)) | (with_reducible exact T_FL (by decide)) | (with_reducible exact T_FS (by decide) (by decide)) | (with_reducible refine T_li ?_) | (with_reducible refine T_ite (fun _ => ?_) (fun _ => ?_)) | (with_reducible refine T_cl ?_ (fun _ => ?_)))

theorem tt_xl_X6_soonestFight_5 (K : Int32 → Int32 → NG Int32) : ∀ (n : Nat) (v1 v2 : Int32), msr v2 ≤ n → (∀ (v1' v2' : Int32), T [] [] (K v1' v2')) → T [] [] (xl_X6_soonestFight_5 n v1 v2 K) := by
  intro n
  induction n with
  | zero =>
    intro v1 v2 hm _
    exact absurd hm (msr_0 _)
  | succ n ih =>
    intro v1 v2 hm hK
    unfold xl_X6_soonestFight_5
    repeat (first | (with_reducible exact T_rt _) | (with_reducible intro _) | (with_reducible exact hK _ _) | (with_reducible exact ih _ _ (msr_up (by assumption) hm) hK) | (with_reducible exact T_RF) | (with_reducible exact T_GT) | (with_reducible exact T_GD) | (with_reducible exact T_GS) | (with_reducible exact T_WF (by decide)) | (with_reducible exact T_ST (by decide)) | (with_reducible exact T_SD (by decide)) | (with_reducible exact T_SS (by decide) (by decide)) | (with_reducible exact T_FL (by decide)) | (with_reducible exact T_FS (by decide) (by decide)) | (with_reducible refine T_li ?_) | (with_reducible refine T_ite (fun _ => ?_) (fun _ => ?_)) | (with_reducible refine T_cl ?_ (fun _ => ?_)))

theorem tt_x_X6_soonestFight : T [] [] (x_X6_soonestFight) := by
  unfold x_X6_soonestFight
  repeat (first | (with_reducible exact T_rt _) | (with_reducible intro _) | (with_reducible refine tt_xl_X6_soonestFight_5 _ fuel _ _ (msr_fuel _) ?_) | (with_reducible exact T_RF) | (with_reducible exact T_GT) | (with_reducible exact T_GD) | (with_reducible exact T_GS) | (with_reducible exact T_WF (by decide)) | (with_reducible exact T_ST (by decide)) | (with_reducible exact T_SD (by decide)) | (with_reducible exact T_SS (by decide) (by decide)) | (with_reducible exact T_FL (by decide)) | (with_reducible exact T_FS (by decide) (by decide)) | (with_reducible refine T_li ?_) | (with_reducible refine T_ite (fun _ => ?_) (fun _ => ?_)) | (with_reducible refine T_cl ?_ (fun _ => ?_)))

theorem tt_x_X6_keep : T [61, 62, 63, 64] [] (x_X6_keep) := by
  unfold x_X6_keep
  repeat (first | (with_reducible exact T_rt _) | (with_reducible intro _) | (with_reducible exact T_RF) | (with_reducible exact T_GT) | (with_reducible exact T_GD) | (with_reducible exact T_GS) | (with_reducible exact T_WF (by decide)) | (with_reducible exact T_ST (by decide)) | (with_reducible exact T_SD (by decide)) | (with_reducible exact T_SS (by decide) (by decide)) | (with_reducible exact T_FL (by decide)) | (with_reducible exact T_FS (by decide) (by decide)) | (with_reducible refine T_li ?_) | (with_reducible refine T_ite (fun _ => ?_) (fun _ => ?_)) | (with_reducible refine T_cl ?_ (fun _ => ?_)))

theorem tt_xl_X6_planDay_19 (K : Int32 → Int32 → Int32 → NG Int32) : ∀ (n : Nat) (v1 v2 v3 : Int32), msr v3 ≤ n → (∀ (v3' : Int32), T [17, 18, 19, 61, 62, 63, 64] [21, 22, 23, 24, 25, 26, 27, 28, 29] (K v1 v2 v3')) → T [17, 18, 19, 61, 62, 63, 64] [21, 22, 23, 24, 25, 26, 27, 28, 29] (xl_X6_planDay_19 n v1 v2 v3 K) := by
  intro n
  induction n with
  | zero =>
    intro v1 v2 v3 hm _
    exact absurd hm (msr_0 _)
  | succ n ih =>
    intro v1 v2 v3 hm hK
    unfold xl_X6_planDay_19
    repeat (first | (with_reducible exact T_rt _) | (with_reducible intro _) | (with_reducible exact hK _) | (with_reducible exact ih _ _ _ (msr_up (by assumption) hm) hK) | (with_reducible exact (tt_x_X6_findEarliest _).mono (by decide) (by decide)) | (with_reducible exact T_RF) | (with_reducible exact T_GT) | (with_reducible exact T_GD) | (with_reducible exact T_GS) | (with_reducible exact T_WF (by decide)) | (with_reducible exact T_ST (by decide)) | (with_reducible exact T_SD (by decide)) | (with_reducible exact T_SS (by decide) (by decide)) | (with_reducible exact T_FL (by decide)) | (with_reducible exact T_FS (by decide) (by decide)) | (with_reducible refine T_li ?_) | (with_reducible refine T_ite (fun _ => ?_) (fun _ => ?_)) | (with_reducible refine T_cl ?_ (fun _ => ?_)))

theorem tt_xl_X6_planDay_47 (K : Int32 → Int32 → Int32 → Int32 → NG Int32) : ∀ (n : Nat) (v1 v2 v3 v4 : Int32), msr v4 ≤ n → (∀ (v3' v4' : Int32), T [17, 18, 19, 61, 62, 63, 64] [21, 22, 23, 24, 25, 26, 27, 28, 29] (K v1 v2 v3' v4')) → T [17, 18, 19, 61, 62, 63, 64] [21, 22, 23, 24, 25, 26, 27, 28, 29] (xl_X6_planDay_47 n v1 v2 v3 v4 K) := by
  intro n
  induction n with
  | zero =>
    intro v1 v2 v3 v4 hm _
    exact absurd hm (msr_0 _)
  | succ n ih =>
    intro v1 v2 v3 v4 hm hK
    unfold xl_X6_planDay_47
    repeat (first | (with_reducible exact T_rt _) | (with_reducible intro _) | (with_reducible exact hK _ _) | (with_reducible exact ih _ _ _ _ (msr_up (by assumption) hm) hK) | (with_reducible exact (tt_x_X6_putFrom _ _).mono (by decide) (by decide)) | (with_reducible exact (tt_x_X6_soonestMat _).mono (by decide) (by decide)) | (with_reducible exact (tt_x_X6_soonestFight).mono (by decide) (by decide)) | (with_reducible exact T_RF) | (with_reducible exact T_GT) | (with_reducible exact T_GD) | (with_reducible exact T_GS) | (with_reducible exact T_WF (by decide)) | (with_reducible exact T_ST (by decide)) | (with_reducible exact T_SD (by decide)) | (with_reducible exact T_SS (by decide) (by decide)) | (with_reducible exact T_FL (by decide)) | (with_reducible exact T_FS (by decide) (by decide)) | (with_reducible refine T_li ?_) | (with_reducible refine T_ite (fun _ => ?_) (fun _ => ?_)) | (with_reducible refine T_cl ?_ (fun _ => ?_)))

theorem tt_x_X6_planDay (a0 : Int32) (a1 : Int32) : T [17, 18, 19, 61, 62, 63, 64] [21, 22, 23, 24, 25, 26, 27, 28, 29] (x_X6_planDay a0 a1) := by
  unfold x_X6_planDay
  repeat (first | (with_reducible exact T_rt _) | (with_reducible intro _) | (with_reducible refine tt_xl_X6_planDay_19 _ fuel _ _ _ (msr_fuel _) ?_) | (with_reducible refine tt_xl_X6_planDay_47 _ fuel _ _ _ _ (msr_fuel _) ?_) | (with_reducible exact (tt_x_X6_clear).mono (by decide) (by decide)) | (with_reducible exact (tt_x_X6_putOpenOnes).mono (by decide) (by decide)) | (with_reducible exact (tt_x_X6_putInOrder).mono (by decide) (by decide)) | (with_reducible exact (tt_x_X6_keep).mono (by decide) (by decide)) | (with_reducible exact T_RF) | (with_reducible exact T_GT) | (with_reducible exact T_GD) | (with_reducible exact T_GS) | (with_reducible exact T_WF (by decide)) | (with_reducible exact T_ST (by decide)) | (with_reducible exact T_SD (by decide)) | (with_reducible exact T_SS (by decide) (by decide)) | (with_reducible exact T_FL (by decide)) | (with_reducible exact T_FS (by decide) (by decide)) | (with_reducible refine T_li ?_) | (with_reducible refine T_ite (fun _ => ?_) (fun _ => ?_)) | (with_reducible refine T_cl ?_ (fun _ => ?_)))

theorem tt_x_X7_ofTree (a0 : Int32) (a1 : Int32) : T [] [] (x_X7_ofTree a0 a1) := by
  unfold x_X7_ofTree
  repeat (first | (with_reducible exact T_rt _) | (with_reducible intro _) | (with_reducible exact (tt_x_X0_sizeOf _).mono (by decide) (by decide)) | (with_reducible exact (tt_x_X0_fightsOf _).mono (by decide) (by decide)) | (with_reducible exact (tt_x_X0_winnerOf _ _).mono (by decide) (by decide)) | (with_reducible exact (tt_x_X0_loserOf _ _).mono (by decide) (by decide)) | (with_reducible exact T_RF) | (with_reducible exact T_GT) | (with_reducible exact T_GD) | (with_reducible exact T_GS) | (with_reducible exact T_WF (by decide)) | (with_reducible exact T_ST (by decide)) | (with_reducible exact T_SD (by decide)) | (with_reducible exact T_SS (by decide) (by decide)) | (with_reducible exact T_FL (by decide)) | (with_reducible exact T_FS (by decide) (by decide)) | (with_reducible refine T_li ?_) | (with_reducible refine T_ite (fun _ => ?_) (fun _ => ?_)) | (with_reducible refine T_cl ?_ (fun _ => ?_)))

theorem tt_xl_X7_addUp_18 (K : Int32 → Int32 → NG Int32) : ∀ (n : Nat) (v1 v2 : Int32), msr v2 ≤ n → (∀ (v2' : Int32), T [] [19, 20] (K v1 v2')) → T [] [19, 20] (xl_X7_addUp_18 n v1 v2 K) := by
  intro n
  induction n with
  | zero =>
    intro v1 v2 hm _
    exact absurd hm (msr_0 _)
  | succ n ih =>
    intro v1 v2 hm hK
    unfold xl_X7_addUp_18
    repeat (first | (with_reducible exact T_rt _) | (with_reducible intro _) | (with_reducible exact hK _) | (with_reducible exact ih _ _ (msr_up (by assumption) hm) hK) | (with_reducible exact (tt_x_X0_fightsOf _).mono (by decide) (by decide)) | (with_reducible exact (tt_x_X0_winnerOf _ _).mono (by decide) (by decide)) | (with_reducible exact (tt_x_X1_ofFight _ _ _).mono (by decide) (by decide)) | (with_reducible exact T_RF) | (with_reducible exact T_GT) | (with_reducible exact T_GD) | (with_reducible exact T_GS) | (with_reducible exact T_WF (by decide)) | (with_reducible exact T_ST (by decide)) | (with_reducible exact T_SD (by decide)) | (with_reducible exact T_SS (by decide) (by decide)) | (with_reducible exact T_FL (by decide)) | (with_reducible exact T_FS (by decide) (by decide)) | (with_reducible refine T_li ?_) | (with_reducible refine T_ite (fun _ => ?_) (fun _ => ?_)) | (with_reducible refine T_cl ?_ (fun _ => ?_)))

theorem tt_x_X7_addUp (a0 : Int32) : T [] [19, 20] (x_X7_addUp a0) := by
  unfold x_X7_addUp
  repeat (first | (with_reducible exact T_rt _) | (with_reducible intro _) | (with_reducible refine tt_xl_X7_addUp_18 _ fuel _ _ (msr_fuel _) ?_) | (with_reducible exact T_RF) | (with_reducible exact T_GT) | (with_reducible exact T_GD) | (with_reducible exact T_GS) | (with_reducible exact T_WF (by decide)) | (with_reducible exact T_ST (by decide)) | (with_reducible exact T_SD (by decide)) | (with_reducible exact T_SS (by decide) (by decide)) | (with_reducible exact T_FL (by decide)) | (with_reducible exact T_FS (by decide) (by decide)) | (with_reducible refine T_li ?_) | (with_reducible refine T_ite (fun _ => ?_) (fun _ => ?_)) | (with_reducible refine T_cl ?_ (fun _ => ?_)))

theorem tt_x_X7_member (a0 : Int32) (a1 : Int32) : T [] [] (x_X7_member a0 a1) := by
  unfold x_X7_member
  repeat (first | (with_reducible exact T_rt _) | (with_reducible intro _) | (with_reducible exact (tt_x_X1_ofClass _ _).mono (by decide) (by decide)) | (with_reducible exact T_RF) | (with_reducible exact T_GT) | (with_reducible exact T_GD) | (with_reducible exact T_GS) | (with_reducible exact T_WF (by decide)) | (with_reducible exact T_ST (by decide)) | (with_reducible exact T_SD (by decide)) | (with_reducible exact T_SS (by decide) (by decide)) | (with_reducible exact T_FL (by decide)) | (with_reducible exact T_FS (by decide) (by decide)) | (with_reducible refine T_li ?_) | (with_reducible refine T_ite (fun _ => ?_) (fun _ => ?_)) | (with_reducible refine T_cl ?_ (fun _ => ?_)))

theorem tt_x_X7_areAlike (a0 : Int32) (a1 : Int32) : T [] [] (x_X7_areAlike a0 a1) := by
  unfold x_X7_areAlike
  repeat (first | (with_reducible exact T_rt _) | (with_reducible intro _) | (with_reducible exact T_RF) | (with_reducible exact T_GT) | (with_reducible exact T_GD) | (with_reducible exact T_GS) | (with_reducible exact T_WF (by decide)) | (with_reducible exact T_ST (by decide)) | (with_reducible exact T_SD (by decide)) | (with_reducible exact T_SS (by decide) (by decide)) | (with_reducible exact T_FL (by decide)) | (with_reducible exact T_FS (by decide) (by decide)) | (with_reducible refine T_li ?_) | (with_reducible refine T_ite (fun _ => ?_) (fun _ => ?_)) | (with_reducible refine T_cl ?_ (fun _ => ?_)))

theorem tt_x_X7_hasMore (a0 : Int32) (a1 : Int32) : T [] [] (x_X7_hasMore a0 a1) := by
  unfold x_X7_hasMore
  repeat (first | (with_reducible exact T_rt _) | (with_reducible intro _) | (with_reducible exact T_RF) | (with_reducible exact T_GT) | (with_reducible exact T_GD) | (with_reducible exact T_GS) | (with_reducible exact T_WF (by decide)) | (with_reducible exact T_ST (by decide)) | (with_reducible exact T_SD (by decide)) | (with_reducible exact T_SS (by decide) (by decide)) | (with_reducible exact T_FL (by decide)) | (with_reducible exact T_FS (by decide) (by decide)) | (with_reducible refine T_li ?_) | (with_reducible refine T_ite (fun _ => ?_) (fun _ => ?_)) | (with_reducible refine T_cl ?_ (fun _ => ?_)))

theorem tt_xl_X7_beat_3 (K : Int32 → Int32 → Int32 → Int32 → NG Int32) : ∀ (n : Nat) (v1 v2 v3 v4 : Int32), msr v4 ≤ n → (∀ (v4' : Int32), T [] [] (K v1 v2 v3 v4')) → T [] [] (xl_X7_beat_3 n v1 v2 v3 v4 K) := by
  intro n
  induction n with
  | zero =>
    intro v1 v2 v3 v4 hm _
    exact absurd hm (msr_0 _)
  | succ n ih =>
    intro v1 v2 v3 v4 hm hK
    unfold xl_X7_beat_3
    repeat (first | (with_reducible exact T_rt _) | (with_reducible intro _) | (with_reducible exact hK _) | (with_reducible exact ih _ _ _ _ (msr_up (by assumption) hm) hK) | (with_reducible exact (tt_x_X0_fightsOf _).mono (by decide) (by decide)) | (with_reducible exact (tt_x_X0_winnerOf _ _).mono (by decide) (by decide)) | (with_reducible exact (tt_x_X0_loserOf _ _).mono (by decide) (by decide)) | (with_reducible exact T_RF) | (with_reducible exact T_GT) | (with_reducible exact T_GD) | (with_reducible exact T_GS) | (with_reducible exact T_WF (by decide)) | (with_reducible exact T_ST (by decide)) | (with_reducible exact T_SD (by decide)) | (with_reducible exact T_SS (by decide) (by decide)) | (with_reducible exact T_FL (by decide)) | (with_reducible exact T_FS (by decide) (by decide)) | (with_reducible refine T_li ?_) | (with_reducible refine T_ite (fun _ => ?_) (fun _ => ?_)) | (with_reducible refine T_cl ?_ (fun _ => ?_)))

theorem tt_x_X7_beat (a0 : Int32) (a1 : Int32) (a2 : Int32) : T [] [] (x_X7_beat a0 a1 a2) := by
  unfold x_X7_beat
  repeat (first | (with_reducible exact T_rt _) | (with_reducible intro _) | (with_reducible refine tt_xl_X7_beat_3 _ fuel _ _ _ _ (msr_fuel _) ?_) | (with_reducible exact T_RF) | (with_reducible exact T_GT) | (with_reducible exact T_GD) | (with_reducible exact T_GS) | (with_reducible exact T_WF (by decide)) | (with_reducible exact T_ST (by decide)) | (with_reducible exact T_SD (by decide)) | (with_reducible exact T_SS (by decide) (by decide)) | (with_reducible exact T_FL (by decide)) | (with_reducible exact T_FS (by decide) (by decide)) | (with_reducible refine T_li ?_) | (with_reducible refine T_ite (fun _ => ?_) (fun _ => ?_)) | (with_reducible refine T_cl ?_ (fun _ => ?_)))

def Vb (p : NG Int32) : Prop := ∀ u r v, p u = some (r, v) → r = 0 ∨ r = 1
theorem Vb_cl {α : Type} {p : NG α} {q : α → NG Int32} (h : ∀ a, Vb (q a)) : Vb (ncl p q) := fun u r v e => by
  obtain ⟨a, w, -, e2⟩ := ncl_some e
  exact h a w r v e2
theorem Vb_ite {b : Prop} [Decidable b] {p q : NG Int32} (h1 : Vb p) (h2 : Vb q) : Vb (if b then p else q) := by
  by_cases h : b
  · rw [if_pos h]; exact h1
  · rw [if_neg h]; exact h2
theorem Vb_li {x : Int32} {q : Int32 → NG Int32} (h : Vb (q x)) : Vb (nli x q) := h
theorem Vb_1 : Vb (nrt 1) := fun u r v e => by cases e; exact Or.inr rfl
theorem Vb_0 : Vb (nrt 0) := fun u r v e => by cases e; exact Or.inl rfl
theorem vb_beat_3 : ∀ (n : Nat) (v1 v2 v3 v4 : Int32), Vb (xl_X7_beat_3 n v1 v2 v3 v4 (fun v1 v2 v3 v4 => nrt 0)) := by
  intro n
  induction n with
  | zero => intro v1 v2 v3 v4 u r v e; cases e
  | succ n ih =>
    intro v1 v2 v3 v4
    unfold xl_X7_beat_3
    exact Vb_cl (fun _ => Vb_ite Vb_0 (Vb_cl (fun _ => Vb_ite (Vb_cl (fun _ => Vb_ite Vb_1 (Vb_li (ih _ _ _ _)))) (Vb_li (ih _ _ _ _)))))
theorem tt_x_X7_breaksTie (a0 a1 a2 a3 : Int32) : T [] [] (x_X7_breaksTie a0 a1 a2 a3) := by
  unfold x_X7_breaksTie
  refine T_ite (fun _ => fun u => ?_) (fun _ => ?_)
  · obtain ⟨r, v, e, hs⟩ := tt_x_X7_beat a0 a1 a2 u
    have hr : r = 0 ∨ r = 1 := by
      have e2 := e
      unfold x_X7_beat at e2
      exact vb_beat_3 _ _ _ _ _ u r v e2
    have hg : gb r = true := by rcases hr with rfl | rfl <;> decide
    exact ⟨r, v, by unfold ncl; rw [e]; show nog (gb r) (nrt r) v = _; rw [hg]; rfl, hs⟩
  · repeat (first | (with_reducible exact T_rt _) | (with_reducible exact (tt_x_X1_ofFighter _ _).mono (by decide) (by decide)) | (with_reducible exact T_GT) | (with_reducible refine T_ite (fun _ => ?_) (fun _ => ?_)) | (with_reducible refine T_cl ?_ (fun _ => ?_)))

theorem tt_xl_X7_aheadOf_8 (K : Int32 → Int32 → Int32 → Int32 → Int32 → NG Int32) : ∀ (n : Nat) (v1 v2 v3 v4 v5 : Int32), msr v5 ≤ n → (∀ (v4' v5' : Int32), T [] [] (K v1 v2 v3 v4' v5')) → T [] [] (xl_X7_aheadOf_8 n v1 v2 v3 v4 v5 K) := by
  intro n
  induction n with
  | zero =>
    intro v1 v2 v3 v4 v5 hm _
    exact absurd hm (msr_0 _)
  | succ n ih =>
    intro v1 v2 v3 v4 v5 hm hK
    unfold xl_X7_aheadOf_8
    repeat (first | (with_reducible exact T_rt _) | (with_reducible intro _) | (with_reducible exact hK _ _) | (with_reducible exact ih _ _ _ _ _ (msr_up (by assumption) hm) hK) | (with_reducible exact (tt_x_X0_sizeOf _).mono (by decide) (by decide)) | (with_reducible exact (tt_x_X7_member _ _).mono (by decide) (by decide)) | (with_reducible exact (tt_x_X7_areAlike _ _).mono (by decide) (by decide)) | (with_reducible exact T_RF) | (with_reducible exact T_GT) | (with_reducible exact T_GD) | (with_reducible exact T_GS) | (with_reducible exact T_WF (by decide)) | (with_reducible exact T_ST (by decide)) | (with_reducible exact T_SD (by decide)) | (with_reducible exact T_SS (by decide) (by decide)) | (with_reducible exact T_FL (by decide)) | (with_reducible exact T_FS (by decide) (by decide)) | (with_reducible refine T_li ?_) | (with_reducible refine T_ite (fun _ => ?_) (fun _ => ?_)) | (with_reducible refine T_cl ?_ (fun _ => ?_)))

theorem tt_xl_X7_aheadOf_55 (K : Int32 → Int32 → Int32 → Int32 → Int32 → NG Int32) : ∀ (n : Nat) (v1 v2 v3 v4 v5 : Int32), msr v5 ≤ n → (∀ (v3' v5' : Int32), T [] [] (K v1 v2 v3' v4 v5')) → T [] [] (xl_X7_aheadOf_55 n v1 v2 v3 v4 v5 K) := by
  intro n
  induction n with
  | zero =>
    intro v1 v2 v3 v4 v5 hm _
    exact absurd hm (msr_0 _)
  | succ n ih =>
    intro v1 v2 v3 v4 v5 hm hK
    unfold xl_X7_aheadOf_55
    repeat (first | (with_reducible exact T_rt _) | (with_reducible intro _) | (with_reducible exact hK _ _) | (with_reducible exact ih _ _ _ _ _ (msr_up (by assumption) hm) hK) | (with_reducible exact (tt_x_X0_sizeOf _).mono (by decide) (by decide)) | (with_reducible exact (tt_x_X7_member _ _).mono (by decide) (by decide)) | (with_reducible exact (tt_x_X7_areAlike _ _).mono (by decide) (by decide)) | (with_reducible exact (tt_x_X7_hasMore _ _).mono (by decide) (by decide)) | (with_reducible exact (tt_x_X7_breaksTie _ _ _ _).mono (by decide) (by decide)) | (with_reducible exact T_RF) | (with_reducible exact T_GT) | (with_reducible exact T_GD) | (with_reducible exact T_GS) | (with_reducible exact T_WF (by decide)) | (with_reducible exact T_ST (by decide)) | (with_reducible exact T_SD (by decide)) | (with_reducible exact T_SS (by decide) (by decide)) | (with_reducible exact T_FL (by decide)) | (with_reducible exact T_FS (by decide) (by decide)) | (with_reducible refine T_li ?_) | (with_reducible refine T_ite (fun _ => ?_) (fun _ => ?_)) | (with_reducible refine T_cl ?_ (fun _ => ?_)))

theorem tt_x_X7_aheadOf (a0 : Int32) (a1 : Int32) : T [] [] (x_X7_aheadOf a0 a1) := by
  unfold x_X7_aheadOf
  repeat (first | (with_reducible exact T_rt _) | (with_reducible intro _) | (with_reducible refine tt_xl_X7_aheadOf_8 _ fuel _ _ _ _ _ (msr_fuel _) ?_) | (with_reducible refine tt_xl_X7_aheadOf_55 _ fuel _ _ _ _ _ (msr_fuel _) ?_) | (with_reducible exact T_RF) | (with_reducible exact T_GT) | (with_reducible exact T_GD) | (with_reducible exact T_GS) | (with_reducible exact T_WF (by decide)) | (with_reducible exact T_ST (by decide)) | (with_reducible exact T_SD (by decide)) | (with_reducible exact T_SS (by decide) (by decide)) | (with_reducible exact T_FL (by decide)) | (with_reducible exact T_FS (by decide) (by decide)) | (with_reducible refine T_li ?_) | (with_reducible refine T_ite (fun _ => ?_) (fun _ => ?_)) | (with_reducible refine T_cl ?_ (fun _ => ?_)))

theorem tt_xl_X7_ofPool_29 (K : Int32 → Int32 → Int32 → NG Int32) : ∀ (n : Nat) (v1 v2 v3 : Int32), msr v3 ≤ n → (∀ (v3' : Int32), T [] [19, 20] (K v1 v2 v3')) → T [] [19, 20] (xl_X7_ofPool_29 n v1 v2 v3 K) := by
  intro n
  induction n with
  | zero =>
    intro v1 v2 v3 hm _
    exact absurd hm (msr_0 _)
  | succ n ih =>
    intro v1 v2 v3 hm hK
    unfold xl_X7_ofPool_29
    repeat (first | (with_reducible exact T_rt _) | (with_reducible intro _) | (with_reducible exact hK _) | (with_reducible exact ih _ _ _ (msr_up (by assumption) hm) hK) | (with_reducible exact (tt_x_X0_sizeOf _).mono (by decide) (by decide)) | (with_reducible exact (tt_x_X7_member _ _).mono (by decide) (by decide)) | (with_reducible exact (tt_x_X7_aheadOf _ _).mono (by decide) (by decide)) | (with_reducible exact T_RF) | (with_reducible exact T_GT) | (with_reducible exact T_GD) | (with_reducible exact T_GS) | (with_reducible exact T_WF (by decide)) | (with_reducible exact T_ST (by decide)) | (with_reducible exact T_SD (by decide)) | (with_reducible exact T_SS (by decide) (by decide)) | (with_reducible exact T_FL (by decide)) | (with_reducible exact T_FS (by decide) (by decide)) | (with_reducible refine T_li ?_) | (with_reducible refine T_ite (fun _ => ?_) (fun _ => ?_)) | (with_reducible refine T_cl ?_ (fun _ => ?_)))

theorem tt_x_X7_ofPool (a0 : Int32) (a1 : Int32) : T [] [19, 20] (x_X7_ofPool a0 a1) := by
  unfold x_X7_ofPool
  repeat (first | (with_reducible exact T_rt _) | (with_reducible intro _) | (with_reducible refine tt_xl_X7_ofPool_29 _ fuel _ _ _ (msr_fuel _) ?_) | (with_reducible exact (tt_x_X0_howMany _ _).mono (by decide) (by decide)) | (with_reducible exact (tt_x_X0_fightsOf _).mono (by decide) (by decide)) | (with_reducible exact (tt_x_X7_addUp _).mono (by decide) (by decide)) | (with_reducible exact T_RF) | (with_reducible exact T_GT) | (with_reducible exact T_GD) | (with_reducible exact T_GS) | (with_reducible exact T_WF (by decide)) | (with_reducible exact T_ST (by decide)) | (with_reducible exact T_SD (by decide)) | (with_reducible exact T_SS (by decide) (by decide)) | (with_reducible exact T_FL (by decide)) | (with_reducible exact T_FS (by decide) (by decide)) | (with_reducible refine T_li ?_) | (with_reducible refine T_ite (fun _ => ?_) (fun _ => ?_)) | (with_reducible refine T_cl ?_ (fun _ => ?_)))

theorem tt_x_X8_people : T [] [] (x_X8_people) := by
  unfold x_X8_people
  repeat (first | (with_reducible exact T_rt _) | (with_reducible intro _) | (with_reducible exact T_RF) | (with_reducible exact T_GT) | (with_reducible exact T_GD) | (with_reducible exact T_GS) | (with_reducible exact T_WF (by decide)) | (with_reducible exact T_ST (by decide)) | (with_reducible exact T_SD (by decide)) | (with_reducible exact T_SS (by decide) (by decide)) | (with_reducible exact T_FL (by decide)) | (with_reducible exact T_FS (by decide) (by decide)) | (with_reducible refine T_li ?_) | (with_reducible refine T_ite (fun _ => ?_) (fun _ => ?_)) | (with_reducible refine T_cl ?_ (fun _ => ?_)))

theorem tt_x_X8_has (a0 : Int32) : T [] [] (x_X8_has a0) := by
  unfold x_X8_has
  repeat (first | (with_reducible exact T_rt _) | (with_reducible intro _) | (with_reducible exact (tt_x_X8_people).mono (by decide) (by decide)) | (with_reducible exact T_RF) | (with_reducible exact T_GT) | (with_reducible exact T_GD) | (with_reducible exact T_GS) | (with_reducible exact T_WF (by decide)) | (with_reducible exact T_ST (by decide)) | (with_reducible exact T_SD (by decide)) | (with_reducible exact T_SS (by decide) (by decide)) | (with_reducible exact T_FL (by decide)) | (with_reducible exact T_FS (by decide) (by decide)) | (with_reducible refine T_li ?_) | (with_reducible refine T_ite (fun _ => ?_) (fun _ => ?_)) | (with_reducible refine T_cl ?_ (fun _ => ?_)))

theorem tt_x_X8_classOf (a0 : Int32) : T [] [] (x_X8_classOf a0) := by
  unfold x_X8_classOf
  repeat (first | (with_reducible exact T_rt _) | (with_reducible intro _) | (with_reducible exact (tt_x_X1_ofFighter _ _).mono (by decide) (by decide)) | (with_reducible exact T_RF) | (with_reducible exact T_GT) | (with_reducible exact T_GD) | (with_reducible exact T_GS) | (with_reducible exact T_WF (by decide)) | (with_reducible exact T_ST (by decide)) | (with_reducible exact T_SD (by decide)) | (with_reducible exact T_SS (by decide) (by decide)) | (with_reducible exact T_FL (by decide)) | (with_reducible exact T_FS (by decide) (by decide)) | (with_reducible refine T_li ?_) | (with_reducible refine T_ite (fun _ => ?_) (fun _ => ?_)) | (with_reducible refine T_cl ?_ (fun _ => ?_)))

theorem tt_xl_X8_wasAnyAtScales_2 (K : Int32 → Int32 → NG Int32) : ∀ (n : Nat) (v1 v2 : Int32), msr v2 ≤ n → (∀ (v2' : Int32), T [] [] (K v1 v2')) → T [] [] (xl_X8_wasAnyAtScales_2 n v1 v2 K) := by
  intro n
  induction n with
  | zero =>
    intro v1 v2 hm _
    exact absurd hm (msr_0 _)
  | succ n ih =>
    intro v1 v2 hm hK
    unfold xl_X8_wasAnyAtScales_2
    repeat (first | (with_reducible exact T_rt _) | (with_reducible intro _) | (with_reducible exact hK _) | (with_reducible exact ih _ _ (msr_up (by assumption) hm) hK) | (with_reducible exact (tt_x_X8_people).mono (by decide) (by decide)) | (with_reducible exact (tt_x_X8_classOf _).mono (by decide) (by decide)) | (with_reducible exact (tt_x_X1_ofFighter _ _).mono (by decide) (by decide)) | (with_reducible exact T_RF) | (with_reducible exact T_GT) | (with_reducible exact T_GD) | (with_reducible exact T_GS) | (with_reducible exact T_WF (by decide)) | (with_reducible exact T_ST (by decide)) | (with_reducible exact T_SD (by decide)) | (with_reducible exact T_SS (by decide) (by decide)) | (with_reducible exact T_FL (by decide)) | (with_reducible exact T_FS (by decide) (by decide)) | (with_reducible refine T_li ?_) | (with_reducible refine T_ite (fun _ => ?_) (fun _ => ?_)) | (with_reducible refine T_cl ?_ (fun _ => ?_)))

theorem tt_x_X8_wasAnyAtScales (a0 : Int32) : T [] [] (x_X8_wasAnyAtScales a0) := by
  unfold x_X8_wasAnyAtScales
  repeat (first | (with_reducible exact T_rt _) | (with_reducible intro _) | (with_reducible refine tt_xl_X8_wasAnyAtScales_2 _ fuel _ _ (msr_fuel _) ?_) | (with_reducible exact T_RF) | (with_reducible exact T_GT) | (with_reducible exact T_GD) | (with_reducible exact T_GS) | (with_reducible exact T_WF (by decide)) | (with_reducible exact T_ST (by decide)) | (with_reducible exact T_SD (by decide)) | (with_reducible exact T_SS (by decide) (by decide)) | (with_reducible exact T_FL (by decide)) | (with_reducible exact T_FS (by decide) (by decide)) | (with_reducible refine T_li ?_) | (with_reducible refine T_ite (fun _ => ?_) (fun _ => ?_)) | (with_reducible refine T_cl ?_ (fun _ => ?_)))

theorem tt_xl_X8_isSeedOfAnother_2 (K : Int32 → Int32 → Int32 → NG Int32) : ∀ (n : Nat) (v1 v2 v3 : Int32), msr v3 ≤ n → (∀ (v3' : Int32), T [] [] (K v1 v2 v3')) → T [] [] (xl_X8_isSeedOfAnother_2 n v1 v2 v3 K) := by
  intro n
  induction n with
  | zero =>
    intro v1 v2 v3 hm _
    exact absurd hm (msr_0 _)
  | succ n ih =>
    intro v1 v2 v3 hm hK
    unfold xl_X8_isSeedOfAnother_2
    repeat (first | (with_reducible exact T_rt _) | (with_reducible intro _) | (with_reducible exact hK _) | (with_reducible exact ih _ _ _ (msr_up (by assumption) hm) hK) | (with_reducible exact (tt_x_X8_people).mono (by decide) (by decide)) | (with_reducible exact (tt_x_X1_ofFighter _ _).mono (by decide) (by decide)) | (with_reducible exact (tt_x_X8_classOf _).mono (by decide) (by decide)) | (with_reducible exact T_RF) | (with_reducible exact T_GT) | (with_reducible exact T_GD) | (with_reducible exact T_GS) | (with_reducible exact T_WF (by decide)) | (with_reducible exact T_ST (by decide)) | (with_reducible exact T_SD (by decide)) | (with_reducible exact T_SS (by decide) (by decide)) | (with_reducible exact T_FL (by decide)) | (with_reducible exact T_FS (by decide) (by decide)) | (with_reducible refine T_li ?_) | (with_reducible refine T_ite (fun _ => ?_) (fun _ => ?_)) | (with_reducible refine T_cl ?_ (fun _ => ?_)))

theorem tt_x_X8_isSeedOfAnother (a0 : Int32) (a1 : Int32) : T [] [] (x_X8_isSeedOfAnother a0 a1) := by
  unfold x_X8_isSeedOfAnother
  repeat (first | (with_reducible exact T_rt _) | (with_reducible intro _) | (with_reducible refine tt_xl_X8_isSeedOfAnother_2 _ fuel _ _ _ (msr_fuel _) ?_) | (with_reducible exact T_RF) | (with_reducible exact T_GT) | (with_reducible exact T_GD) | (with_reducible exact T_GS) | (with_reducible exact T_WF (by decide)) | (with_reducible exact T_ST (by decide)) | (with_reducible exact T_SD (by decide)) | (with_reducible exact T_SS (by decide) (by decide)) | (with_reducible exact T_FL (by decide)) | (with_reducible exact T_FS (by decide) (by decide)) | (with_reducible refine T_li ?_) | (with_reducible refine T_ite (fun _ => ?_) (fun _ => ?_)) | (with_reducible refine T_cl ?_ (fun _ => ?_)))

theorem tt_xl_X8_fightersOf_4 (K : Int32 → Int32 → Int32 → NG Int32) : ∀ (n : Nat) (v1 v2 v3 : Int32), msr v3 ≤ n → (∀ (v2' v3' : Int32), T [] [] (K v1 v2' v3')) → T [] [] (xl_X8_fightersOf_4 n v1 v2 v3 K) := by
  intro n
  induction n with
  | zero =>
    intro v1 v2 v3 hm _
    exact absurd hm (msr_0 _)
  | succ n ih =>
    intro v1 v2 v3 hm hK
    unfold xl_X8_fightersOf_4
    repeat (first | (with_reducible exact T_rt _) | (with_reducible intro _) | (with_reducible exact hK _ _) | (with_reducible exact ih _ _ _ (msr_up (by assumption) hm) hK) | (with_reducible exact (tt_x_X8_people).mono (by decide) (by decide)) | (with_reducible exact (tt_x_X8_classOf _).mono (by decide) (by decide)) | (with_reducible exact T_RF) | (with_reducible exact T_GT) | (with_reducible exact T_GD) | (with_reducible exact T_GS) | (with_reducible exact T_WF (by decide)) | (with_reducible exact T_ST (by decide)) | (with_reducible exact T_SD (by decide)) | (with_reducible exact T_SS (by decide) (by decide)) | (with_reducible exact T_FL (by decide)) | (with_reducible exact T_FS (by decide) (by decide)) | (with_reducible refine T_li ?_) | (with_reducible refine T_ite (fun _ => ?_) (fun _ => ?_)) | (with_reducible refine T_cl ?_ (fun _ => ?_)))

theorem tt_x_X8_fightersOf (a0 : Int32) : T [] [] (x_X8_fightersOf a0) := by
  unfold x_X8_fightersOf
  repeat (first | (with_reducible exact T_rt _) | (with_reducible intro _) | (with_reducible refine tt_xl_X8_fightersOf_4 _ fuel _ _ _ (msr_fuel _) ?_) | (with_reducible exact T_RF) | (with_reducible exact T_GT) | (with_reducible exact T_GD) | (with_reducible exact T_GS) | (with_reducible exact T_WF (by decide)) | (with_reducible exact T_ST (by decide)) | (with_reducible exact T_SD (by decide)) | (with_reducible exact T_SS (by decide) (by decide)) | (with_reducible exact T_FL (by decide)) | (with_reducible exact T_FS (by decide) (by decide)) | (with_reducible refine T_li ?_) | (with_reducible refine T_ite (fun _ => ?_) (fun _ => ?_)) | (with_reducible refine T_cl ?_ (fun _ => ?_)))

theorem tt_x_X8_isWeighed (a1 : Int32) (a2 : Int32) : T [] [] (x_X8_isWeighed a1 a2) := by
  unfold x_X8_isWeighed
  repeat (first | (with_reducible exact T_rt _) | (with_reducible intro _) | (with_reducible exact (tt_x_X1_ofFighter _ _).mono (by decide) (by decide)) | (with_reducible exact T_RF) | (with_reducible exact T_GT) | (with_reducible exact T_GD) | (with_reducible exact T_GS) | (with_reducible exact T_WF (by decide)) | (with_reducible exact T_ST (by decide)) | (with_reducible exact T_SD (by decide)) | (with_reducible exact T_SS (by decide) (by decide)) | (with_reducible exact T_FL (by decide)) | (with_reducible exact T_FS (by decide) (by decide)) | (with_reducible refine T_li ?_) | (with_reducible refine T_ite (fun _ => ?_) (fun _ => ?_)) | (with_reducible refine T_cl ?_ (fun _ => ?_)))

theorem tt_xl_X8_weighedOf_4 (K : Int32 → Int32 → Int32 → NG Int32) : ∀ (n : Nat) (v1 v2 v3 : Int32), msr v3 ≤ n → (∀ (v2' v3' : Int32), T [] [] (K v1 v2' v3')) → T [] [] (xl_X8_weighedOf_4 n v1 v2 v3 K) := by
  intro n
  induction n with
  | zero =>
    intro v1 v2 v3 hm _
    exact absurd hm (msr_0 _)
  | succ n ih =>
    intro v1 v2 v3 hm hK
    unfold xl_X8_weighedOf_4
    repeat (first | (with_reducible exact T_rt _) | (with_reducible intro _) | (with_reducible exact hK _ _) | (with_reducible exact ih _ _ _ (msr_up (by assumption) hm) hK) | (with_reducible exact (tt_x_X8_people).mono (by decide) (by decide)) | (with_reducible exact (tt_x_X8_isWeighed _ _).mono (by decide) (by decide)) | (with_reducible exact T_RF) | (with_reducible exact T_GT) | (with_reducible exact T_GD) | (with_reducible exact T_GS) | (with_reducible exact T_WF (by decide)) | (with_reducible exact T_ST (by decide)) | (with_reducible exact T_SD (by decide)) | (with_reducible exact T_SS (by decide) (by decide)) | (with_reducible exact T_FL (by decide)) | (with_reducible exact T_FS (by decide) (by decide)) | (with_reducible refine T_li ?_) | (with_reducible refine T_ite (fun _ => ?_) (fun _ => ?_)) | (with_reducible refine T_cl ?_ (fun _ => ?_)))

theorem tt_x_X8_weighedOf (a0 : Int32) : T [] [] (x_X8_weighedOf a0) := by
  unfold x_X8_weighedOf
  repeat (first | (with_reducible exact T_rt _) | (with_reducible intro _) | (with_reducible refine tt_xl_X8_weighedOf_4 _ fuel _ _ _ (msr_fuel _) ?_) | (with_reducible exact T_RF) | (with_reducible exact T_GT) | (with_reducible exact T_GD) | (with_reducible exact T_GS) | (with_reducible exact T_WF (by decide)) | (with_reducible exact T_ST (by decide)) | (with_reducible exact T_SD (by decide)) | (with_reducible exact T_SS (by decide) (by decide)) | (with_reducible exact T_FL (by decide)) | (with_reducible exact T_FS (by decide) (by decide)) | (with_reducible refine T_li ?_) | (with_reducible refine T_ite (fun _ => ?_) (fun _ => ?_)) | (with_reducible refine T_cl ?_ (fun _ => ?_)))

theorem tt_x_X11_fault (a0 : Int32) : T [] [] (x_X11_fault a0) := by
  unfold x_X11_fault
  repeat (first | (with_reducible exact T_rt _) | (with_reducible intro _) | (with_reducible exact T_RF) | (with_reducible exact T_GT) | (with_reducible exact T_GD) | (with_reducible exact T_GS) | (with_reducible exact T_WF (by decide)) | (with_reducible exact T_ST (by decide)) | (with_reducible exact T_SD (by decide)) | (with_reducible exact T_SS (by decide) (by decide)) | (with_reducible exact T_FL (by decide)) | (with_reducible exact T_FS (by decide) (by decide)) | (with_reducible refine T_li ?_) | (with_reducible refine T_ite (fun _ => ?_) (fun _ => ?_)) | (with_reducible refine T_cl ?_ (fun _ => ?_)))

theorem tt_x_X11_fighter (a0 : Int32) (a1 : Int32) : T [] [] (x_X11_fighter a0 a1) := by
  unfold x_X11_fighter
  repeat (first | (with_reducible exact T_rt _) | (with_reducible intro _) | (with_reducible exact (tt_x_X8_has _).mono (by decide) (by decide)) | (with_reducible exact (tt_x_X1_ofFighter _ _).mono (by decide) (by decide)) | (with_reducible exact T_RF) | (with_reducible exact T_GT) | (with_reducible exact T_GD) | (with_reducible exact T_GS) | (with_reducible exact T_WF (by decide)) | (with_reducible exact T_ST (by decide)) | (with_reducible exact T_SD (by decide)) | (with_reducible exact T_SS (by decide) (by decide)) | (with_reducible exact T_FL (by decide)) | (with_reducible exact T_FS (by decide) (by decide)) | (with_reducible refine T_li ?_) | (with_reducible refine T_ite (fun _ => ?_) (fun _ => ?_)) | (with_reducible refine T_cl ?_ (fun _ => ?_)))

theorem tt_x_X11_about (a0 : Int32) (a1 : Int32) : T [] [] (x_X11_about a0 a1) := by
  unfold x_X11_about
  repeat (first | (with_reducible exact T_rt _) | (with_reducible intro _) | (with_reducible exact (tt_x_X11_isClass _).mono (by decide) (by decide)) | (with_reducible exact (tt_x_X8_fightersOf _).mono (by decide) (by decide)) | (with_reducible exact (tt_x_X8_weighedOf _).mono (by decide) (by decide)) | (with_reducible exact (tt_x_X0_kindOf _).mono (by decide) (by decide)) | (with_reducible exact (tt_x_X0_isDrawn _).mono (by decide) (by decide)) | (with_reducible exact (tt_x_X0_sizeOf _).mono (by decide) (by decide)) | (with_reducible exact (tt_x_X0_fightsOf _).mono (by decide) (by decide)) | (with_reducible exact (tt_x_X0_howMany _ _).mono (by decide) (by decide)) | (with_reducible exact (tt_x_X0_onPlace _ _).mono (by decide) (by decide)) | (with_reducible exact T_RF) | (with_reducible exact T_GT) | (with_reducible exact T_GD) | (with_reducible exact T_GS) | (with_reducible exact T_WF (by decide)) | (with_reducible exact T_ST (by decide)) | (with_reducible exact T_SD (by decide)) | (with_reducible exact T_SS (by decide) (by decide)) | (with_reducible exact T_FL (by decide)) | (with_reducible exact T_FS (by decide) (by decide)) | (with_reducible refine T_li ?_) | (with_reducible refine T_ite (fun _ => ?_) (fun _ => ?_)) | (with_reducible refine T_cl ?_ (fun _ => ?_)))

theorem tt_x_X11_fight (a0 : Int32) (a1 : Int32) (a2 : Int32) : T [] [] (x_X11_fight a0 a1 a2) := by
  unfold x_X11_fight
  repeat (first | (with_reducible exact T_rt _) | (with_reducible intro _) | (with_reducible exact (tt_x_X0_has _ _).mono (by decide) (by decide)) | (with_reducible exact (tt_x_X0_stateOf _ _).mono (by decide) (by decide)) | (with_reducible exact (tt_x_X0_whiteOf _ _).mono (by decide) (by decide)) | (with_reducible exact (tt_x_X0_blueOf _ _).mono (by decide) (by decide)) | (with_reducible exact (tt_x_X0_winnerOf _ _).mono (by decide) (by decide)) | (with_reducible exact (tt_x_X1_ofFight _ _ _).mono (by decide) (by decide)) | (with_reducible exact T_RF) | (with_reducible exact T_GT) | (with_reducible exact T_GD) | (with_reducible exact T_GS) | (with_reducible exact T_WF (by decide)) | (with_reducible exact T_ST (by decide)) | (with_reducible exact T_SD (by decide)) | (with_reducible exact T_SS (by decide) (by decide)) | (with_reducible exact T_FL (by decide)) | (with_reducible exact T_FS (by decide) (by decide)) | (with_reducible refine T_li ?_) | (with_reducible refine T_ite (fun _ => ?_) (fun _ => ?_)) | (with_reducible refine T_cl ?_ (fun _ => ?_)))

theorem tt_x_X11_medal (a0 : Int32) (a1 : Int32) : T [] [19, 20] (x_X11_medal a0 a1) := by
  unfold x_X11_medal
  repeat (first | (with_reducible exact T_rt _) | (with_reducible intro _) | (with_reducible exact (tt_x_X11_isClass _).mono (by decide) (by decide)) | (with_reducible exact (tt_x_X0_kindOf _).mono (by decide) (by decide)) | (with_reducible exact (tt_x_X7_ofPool _ _).mono (by decide) (by decide)) | (with_reducible exact (tt_x_X7_ofTree _ _).mono (by decide) (by decide)) | (with_reducible exact T_RF) | (with_reducible exact T_GT) | (with_reducible exact T_GD) | (with_reducible exact T_GS) | (with_reducible exact T_WF (by decide)) | (with_reducible exact T_ST (by decide)) | (with_reducible exact T_SD (by decide)) | (with_reducible exact T_SS (by decide) (by decide)) | (with_reducible exact T_FL (by decide)) | (with_reducible exact T_FS (by decide) (by decide)) | (with_reducible refine T_li ?_) | (with_reducible refine T_ite (fun _ => ?_) (fun _ => ?_)) | (with_reducible refine T_cl ?_ (fun _ => ?_)))

theorem tt_x_X11_plan (a0 : Int32) (a1 : Int32) : T [17, 18, 19, 61, 62, 63, 64] [21, 22, 23, 24, 25, 26, 27, 28, 29] (x_X11_plan a0 a1) := by
  unfold x_X11_plan
  repeat (first | (with_reducible exact T_rt _) | (with_reducible intro _) | (with_reducible exact (tt_x_X6_planDay _ _).mono (by decide) (by decide)) | (with_reducible exact T_RF) | (with_reducible exact T_GT) | (with_reducible exact T_GD) | (with_reducible exact T_GS) | (with_reducible exact T_WF (by decide)) | (with_reducible exact T_ST (by decide)) | (with_reducible exact T_SD (by decide)) | (with_reducible exact T_SS (by decide) (by decide)) | (with_reducible exact T_FL (by decide)) | (with_reducible exact T_FS (by decide) (by decide)) | (with_reducible refine T_li ?_) | (with_reducible refine T_ite (fun _ => ?_) (fun _ => ?_)) | (with_reducible refine T_cl ?_ (fun _ => ?_)))

theorem tt_x_X11_planned (a0 : Int32) (a1 : Int32) (a2 : Int32) : T [] [] (x_X11_planned a0 a1 a2) := by
  unfold x_X11_planned
  repeat (first | (with_reducible exact T_rt _) | (with_reducible intro _) | (with_reducible exact (tt_x_X0_has _ _).mono (by decide) (by decide)) | (with_reducible exact (tt_x_X6_tell _ _ _).mono (by decide) (by decide)) | (with_reducible exact T_RF) | (with_reducible exact T_GT) | (with_reducible exact T_GD) | (with_reducible exact T_GS) | (with_reducible exact T_WF (by decide)) | (with_reducible exact T_ST (by decide)) | (with_reducible exact T_SD (by decide)) | (with_reducible exact T_SS (by decide) (by decide)) | (with_reducible exact T_FL (by decide)) | (with_reducible exact T_FS (by decide) (by decide)) | (with_reducible refine T_li ?_) | (with_reducible refine T_ite (fun _ => ?_) (fun _ => ?_)) | (with_reducible refine T_cl ?_ (fun _ => ?_)))

theorem tt_xl_X11_undo_21 (K : Int32 → NG Int32) : ∀ (n : Nat) (v1 : Int32), msr v1 ≤ n → (∀ (v1' : Int32), T [0, 1] [0, 13, 14, 15, 16, 17] (K v1')) → T [0, 1] [0, 13, 14, 15, 16, 17] (xl_X11_undo_21 n v1 K) := by
  intro n
  induction n with
  | zero =>
    intro v1 hm _
    exact absurd hm (msr_0 _)
  | succ n ih =>
    intro v1 hm hK
    unfold xl_X11_undo_21
    repeat (first | (with_reducible exact T_rt _) | (with_reducible intro _) | (with_reducible exact hK _) | (with_reducible exact ih _ (msr_up (by assumption) hm) hK) | (with_reducible exact (tt_x_X0_settle _).mono (by decide) (by decide)) | (with_reducible exact T_RF) | (with_reducible exact T_GT) | (with_reducible exact T_GD) | (with_reducible exact T_GS) | (with_reducible exact T_WF (by decide)) | (with_reducible exact T_ST (by decide)) | (with_reducible exact T_SD (by decide)) | (with_reducible exact T_SS (by decide) (by decide)) | (with_reducible exact T_FL (by decide)) | (with_reducible exact T_FS (by decide) (by decide)) | (with_reducible refine T_li ?_) | (with_reducible refine T_ite (fun _ => ?_) (fun _ => ?_)) | (with_reducible refine T_cl ?_ (fun _ => ?_)))

theorem tt_x_X11_undo : T [0, 1] [0, 13, 14, 15, 16, 17] (x_X11_undo) := by
  unfold x_X11_undo
  repeat (first | (with_reducible exact T_rt _) | (with_reducible intro _) | (with_reducible refine tt_xl_X11_undo_21 _ fuel _ (msr_fuel _) ?_) | (with_reducible exact (tt_x_X1_takeBack).mono (by decide) (by decide)) | (with_reducible exact T_RF) | (with_reducible exact T_GT) | (with_reducible exact T_GD) | (with_reducible exact T_GS) | (with_reducible exact T_WF (by decide)) | (with_reducible exact T_ST (by decide)) | (with_reducible exact T_SD (by decide)) | (with_reducible exact T_SS (by decide) (by decide)) | (with_reducible exact T_FL (by decide)) | (with_reducible exact T_FS (by decide) (by decide)) | (with_reducible refine T_li ?_) | (with_reducible refine T_ite (fun _ => ?_) (fun _ => ?_)) | (with_reducible refine T_cl ?_ (fun _ => ?_)))

theorem tt_x_X11_isMat (a0 : Int32) : T [] [] (x_X11_isMat a0) := by
  unfold x_X11_isMat
  repeat (first | (with_reducible exact T_rt _) | (with_reducible intro _) | (with_reducible exact T_RF) | (with_reducible exact T_GT) | (with_reducible exact T_GD) | (with_reducible exact T_GS) | (with_reducible exact T_WF (by decide)) | (with_reducible exact T_ST (by decide)) | (with_reducible exact T_SD (by decide)) | (with_reducible exact T_SS (by decide) (by decide)) | (with_reducible exact T_FL (by decide)) | (with_reducible exact T_FS (by decide) (by decide)) | (with_reducible refine T_li ?_) | (with_reducible refine T_ite (fun _ => ?_) (fun _ => ?_)) | (with_reducible refine T_cl ?_ (fun _ => ?_)))

theorem tt_x_X11_isSide (a0 : Int32) : T [] [] (x_X11_isSide a0) := by
  unfold x_X11_isSide
  repeat (first | (with_reducible exact T_rt _) | (with_reducible intro _) | (with_reducible exact T_RF) | (with_reducible exact T_GT) | (with_reducible exact T_GD) | (with_reducible exact T_GS) | (with_reducible exact T_WF (by decide)) | (with_reducible exact T_ST (by decide)) | (with_reducible exact T_SD (by decide)) | (with_reducible exact T_SS (by decide) (by decide)) | (with_reducible exact T_FL (by decide)) | (with_reducible exact T_FS (by decide) (by decide)) | (with_reducible refine T_li ?_) | (with_reducible refine T_ite (fun _ => ?_) (fun _ => ?_)) | (with_reducible refine T_cl ?_ (fun _ => ?_)))

