/-! ===== take(kind), by where the parser stands ===== -/
section
variable {k : Int32} {u : MS} {q : Int32 → NG Int32} {Q : Int32 → MS → Prop}
theorem tk6 (hm : u.1 12 = 6) (h : CN (x_X5_takeSignOrLine k) u (fun _ v => CN (q 0) v Q)) : CN (ncl (x_X5_take k) q) u Q := by
  refine CN_cl (?_ : CN (x_X5_take k) u (fun r v => CN (q r) v Q))
  unfold x_X5_take
  refine CN_RFx hm (CN_ite (fun _ => CN_RFx hm (CN_ite (fun z => absurd z (by decide)) (fun _ => CN_RFx hm ?_))) (fun z => absurd (by decide) z))
  refine CN_ite (fun _ => ?_) (fun z => absurd rfl z)
  exact CN_cl (h.mono (fun _ _ z => CN_rt z))
theorem tk7 (hm : u.1 12 = 7) (h : CN (x_X5_takeSignName k) u (fun _ v => CN (q 0) v Q)) : CN (ncl (x_X5_take k) q) u Q := by
  refine CN_cl (?_ : CN (x_X5_take k) u (fun r v => CN (q r) v Q))
  unfold x_X5_take
  refine CN_RFx hm (CN_ite (fun _ => CN_RFx hm (CN_ite (fun z => absurd z (by decide)) (fun _ => CN_RFx hm ?_))) (fun z => absurd (by decide) z))
  refine CN_ite (fun z => absurd z (by decide)) (fun _ => ?_)
  refine CN_ite (fun _ => ?_) (fun z => absurd rfl z)
  exact CN_cl (h.mono (fun _ _ z => CN_rt z))
theorem tk9 (hm : u.1 12 = 9) (h : CN (x_X5_takeSignOrLine k) u (fun _ v => CN (q 0) v Q)) : CN (ncl (x_X5_take k) q) u Q := by
  refine CN_cl (?_ : CN (x_X5_take k) u (fun r v => CN (q r) v Q))
  unfold x_X5_take
  refine CN_RFx hm (CN_ite (fun _ => CN_RFx hm (CN_ite (fun z => absurd z (by decide)) (fun _ => CN_RFx hm ?_))) (fun z => absurd (by decide) z))
  refine CN_ite (fun z => absurd z (by decide)) (fun _ => ?_)
  refine CN_ite (fun z => absurd z (by decide)) (fun _ => ?_)
  refine CN_ite (fun z => absurd z (by decide)) (fun _ => ?_)
  refine CN_ite (fun _ => ?_) (fun z => absurd rfl z)
  exact CN_cl (h.mono (fun _ _ z => CN_rt z))
theorem tk10 (hm : u.1 12 = 10) (h : CN (x_X5_takePoints k) u (fun _ v => CN (q 0) v Q)) : CN (ncl (x_X5_take k) q) u Q := by
  refine CN_cl (?_ : CN (x_X5_take k) u (fun r v => CN (q r) v Q))
  unfold x_X5_take
  refine CN_RFx hm (CN_ite (fun _ => CN_RFx hm (CN_ite (fun z => absurd z (by decide)) (fun _ => CN_RFx hm ?_))) (fun z => absurd (by decide) z))
  refine CN_ite (fun z => absurd z (by decide)) (fun _ => ?_)
  refine CN_ite (fun z => absurd z (by decide)) (fun _ => ?_)
  refine CN_ite (fun z => absurd z (by decide)) (fun _ => ?_)
  refine CN_ite (fun z => absurd z (by decide)) (fun _ => ?_)
  refine CN_ite (fun _ => ?_) (fun z => absurd rfl z)
  exact CN_cl (h.mono (fun _ _ z => CN_rt z))
theorem tk12 (hm : u.1 12 = 12) (h : CN (x_X5_takeCond k) u (fun _ v => CN (q 0) v Q)) : CN (ncl (x_X5_take k) q) u Q := by
  refine CN_cl (?_ : CN (x_X5_take k) u (fun r v => CN (q r) v Q))
  unfold x_X5_take
  refine CN_RFx hm (CN_ite (fun _ => CN_RFx hm (CN_ite (fun z => absurd z (by decide)) (fun _ => CN_RFx hm ?_))) (fun z => absurd (by decide) z))
  refine CN_ite (fun z => absurd z (by decide)) (fun _ => ?_)
  refine CN_ite (fun z => absurd z (by decide)) (fun _ => ?_)
  refine CN_ite (fun z => absurd z (by decide)) (fun _ => ?_)
  refine CN_ite (fun z => absurd z (by decide)) (fun _ => ?_)
  refine CN_ite (fun z => absurd z (by decide)) (fun _ => ?_)
  refine CN_ite (fun z => absurd z (by decide)) (fun _ => ?_)
  refine CN_ite (fun _ => ?_) (fun z => absurd rfl z)
  exact CN_cl (h.mono (fun _ _ z => CN_rt z))
theorem tk13 (hm : u.1 12 = 13) (h : CN (x_X5_takeTerm k) u (fun _ v => CN (q 0) v Q)) : CN (ncl (x_X5_take k) q) u Q := by
  refine CN_cl (?_ : CN (x_X5_take k) u (fun r v => CN (q r) v Q))
  unfold x_X5_take
  refine CN_RFx hm (CN_ite (fun _ => CN_RFx hm (CN_ite (fun z => absurd z (by decide)) (fun _ => CN_RFx hm ?_))) (fun z => absurd (by decide) z))
  refine CN_ite (fun z => absurd z (by decide)) (fun _ => ?_)
  refine CN_ite (fun z => absurd z (by decide)) (fun _ => ?_)
  refine CN_ite (fun z => absurd z (by decide)) (fun _ => ?_)
  refine CN_ite (fun z => absurd z (by decide)) (fun _ => ?_)
  refine CN_ite (fun z => absurd z (by decide)) (fun _ => ?_)
  refine CN_ite (fun z => absurd z (by decide)) (fun _ => ?_)
  refine CN_ite (fun z => absurd z (by decide)) (fun _ => ?_)
  refine CN_ite (fun _ => ?_) (fun z => absurd rfl z)
  exact CN_cl (h.mono (fun _ _ z => CN_rt z))
theorem tk14 (hm : u.1 12 = 14) (h : CN (x_X5_takeTermName k) u (fun _ v => CN (q 0) v Q)) : CN (ncl (x_X5_take k) q) u Q := by
  refine CN_cl (?_ : CN (x_X5_take k) u (fun r v => CN (q r) v Q))
  unfold x_X5_take
  refine CN_RFx hm (CN_ite (fun _ => CN_RFx hm (CN_ite (fun z => absurd z (by decide)) (fun _ => CN_RFx hm ?_))) (fun z => absurd (by decide) z))
  refine CN_ite (fun z => absurd z (by decide)) (fun _ => ?_)
  refine CN_ite (fun z => absurd z (by decide)) (fun _ => ?_)
  refine CN_ite (fun z => absurd z (by decide)) (fun _ => ?_)
  refine CN_ite (fun z => absurd z (by decide)) (fun _ => ?_)
  refine CN_ite (fun z => absurd z (by decide)) (fun _ => ?_)
  refine CN_ite (fun z => absurd z (by decide)) (fun _ => ?_)
  refine CN_ite (fun z => absurd z (by decide)) (fun _ => ?_)
  refine CN_ite (fun z => absurd z (by decide)) (fun _ => ?_)
  refine CN_ite (fun _ => ?_) (fun z => absurd rfl z)
  exact CN_cl (h.mono (fun _ _ z => CN_rt z))
theorem tk16 (hm : u.1 12 = 16) (h : CN (x_X5_takeBehindCond k) u (fun _ v => CN (q 0) v Q)) : CN (ncl (x_X5_take k) q) u Q := by
  refine CN_cl (?_ : CN (x_X5_take k) u (fun r v => CN (q r) v Q))
  unfold x_X5_take
  refine CN_RFx hm (CN_ite (fun _ => CN_RFx hm (CN_ite (fun z => absurd z (by decide)) (fun _ => CN_RFx hm ?_))) (fun z => absurd (by decide) z))
  refine CN_ite (fun z => absurd z (by decide)) (fun _ => ?_)
  refine CN_ite (fun z => absurd z (by decide)) (fun _ => ?_)
  refine CN_ite (fun z => absurd z (by decide)) (fun _ => ?_)
  refine CN_ite (fun z => absurd z (by decide)) (fun _ => ?_)
  refine CN_ite (fun z => absurd z (by decide)) (fun _ => ?_)
  refine CN_ite (fun z => absurd z (by decide)) (fun _ => ?_)
  refine CN_ite (fun z => absurd z (by decide)) (fun _ => ?_)
  refine CN_ite (fun z => absurd z (by decide)) (fun _ => ?_)
  refine CN_ite (fun z => absurd z (by decide)) (fun _ => ?_)
  refine CN_ite (fun z => absurd z (by decide)) (fun _ => ?_)
  exact CN_cl (h.mono (fun _ _ z => CN_rt z))
theorem tk8 (hm : u.1 12 = 8) (h : CN (if k = 19 then x_X5_goIf 1 6 else x_X5_goIf 0 6) u (fun _ v => CN (q 0) v Q)) : CN (ncl (x_X5_take k) q) u Q := by
  refine CN_cl (?_ : CN (x_X5_take k) u (fun r v => CN (q r) v Q))
  unfold x_X5_take
  refine CN_RFx hm (CN_ite (fun _ => CN_RFx hm (CN_ite (fun z => absurd z (by decide)) (fun _ => CN_RFx hm ?_))) (fun z => absurd (by decide) z))
  refine CN_ite (fun z => absurd z (by decide)) (fun _ => ?_)
  refine CN_ite (fun z => absurd z (by decide)) (fun _ => ?_)
  refine CN_ite (fun _ => ?_) (fun z => absurd rfl z)
  refine CN_ite (fun z => ?_) (fun z => ?_)
  · rw [if_pos z] at h
    exact CN_cl (h.mono (fun _ _ z => CN_rt z))
  · rw [if_neg z] at h
    exact CN_cl (h.mono (fun _ _ z => CN_rt z))
theorem tk11 (hm : u.1 12 = 11) (h : CN (if k = 8 then x_X5_goIf 1 12 else x_X5_goIf 0 12) u (fun _ v => CN (q 0) v Q)) : CN (ncl (x_X5_take k) q) u Q := by
  refine CN_cl (?_ : CN (x_X5_take k) u (fun r v => CN (q r) v Q))
  unfold x_X5_take
  refine CN_RFx hm (CN_ite (fun _ => CN_RFx hm (CN_ite (fun z => absurd z (by decide)) (fun _ => CN_RFx hm ?_))) (fun z => absurd (by decide) z))
  refine CN_ite (fun z => absurd z (by decide)) (fun _ => ?_)
  refine CN_ite (fun z => absurd z (by decide)) (fun _ => ?_)
  refine CN_ite (fun z => absurd z (by decide)) (fun _ => ?_)
  refine CN_ite (fun z => absurd z (by decide)) (fun _ => ?_)
  refine CN_ite (fun z => absurd z (by decide)) (fun _ => ?_)
  refine CN_ite (fun _ => ?_) (fun z => absurd rfl z)
  refine CN_ite (fun z => ?_) (fun z => ?_)
  · rw [if_pos z] at h
    exact CN_cl (h.mono (fun _ _ z => CN_rt z))
  · rw [if_neg z] at h
    exact CN_cl (h.mono (fun _ _ z => CN_rt z))
theorem tk15 {c : Int32} (hm : u.1 12 = 15) (hc : u.1 15 = c) (h : (c = 0 ∨ k = 20 ∨ k = 21) → CN (x_X5_takeBehindTerm k) u (fun _ v => CN (q 0) v Q)) (h2 : ¬ (c = 0 ∨ k = 20 ∨ k = 21) → CN x_X5_endComparison u (fun _ v => v.1 12 = 16 ∧ CN (x_X5_takeBehindCond k) v (fun _ v => CN (q 0) v Q))) : CN (ncl (x_X5_take k) q) u Q := by
  refine CN_cl (?_ : CN (x_X5_take k) u (fun r v => CN (q r) v Q))
  unfold x_X5_take
  refine CN_RFx hm (CN_ite (fun _ => CN_RFx hm (CN_ite (fun _ => CN_RFx hc ?_) (fun z => absurd rfl z))) (fun z => absurd (by decide) z))
  refine CN_ite (fun z => CN_RFx hm ?_) (fun nz => CN_ite (fun z => CN_RFx hm ?_) (fun n20 => CN_ite (fun z => CN_RFx hm ?_) (fun n21 => ?_)))
  · refine CN_ite (fun z => absurd z (by decide)) (fun _ => ?_)
    refine CN_ite (fun z => absurd z (by decide)) (fun _ => ?_)
    refine CN_ite (fun z => absurd z (by decide)) (fun _ => ?_)
    refine CN_ite (fun z => absurd z (by decide)) (fun _ => ?_)
    refine CN_ite (fun z => absurd z (by decide)) (fun _ => ?_)
    refine CN_ite (fun z => absurd z (by decide)) (fun _ => ?_)
    refine CN_ite (fun z => absurd z (by decide)) (fun _ => ?_)
    refine CN_ite (fun z => absurd z (by decide)) (fun _ => ?_)
    refine CN_ite (fun z => absurd z (by decide)) (fun _ => ?_)
    refine CN_ite (fun _ => ?_) (fun z => absurd rfl z)
    exact CN_cl ((h (Or.inl z)).mono (fun _ _ z => CN_rt z))
  · refine CN_ite (fun z => absurd z (by decide)) (fun _ => ?_)
    refine CN_ite (fun z => absurd z (by decide)) (fun _ => ?_)
    refine CN_ite (fun z => absurd z (by decide)) (fun _ => ?_)
    refine CN_ite (fun z => absurd z (by decide)) (fun _ => ?_)
    refine CN_ite (fun z => absurd z (by decide)) (fun _ => ?_)
    refine CN_ite (fun z => absurd z (by decide)) (fun _ => ?_)
    refine CN_ite (fun z => absurd z (by decide)) (fun _ => ?_)
    refine CN_ite (fun z => absurd z (by decide)) (fun _ => ?_)
    refine CN_ite (fun z => absurd z (by decide)) (fun _ => ?_)
    refine CN_ite (fun _ => ?_) (fun z => absurd rfl z)
    exact CN_cl ((h (Or.inr (Or.inl z))).mono (fun _ _ z => CN_rt z))
  · refine CN_ite (fun z => absurd z (by decide)) (fun _ => ?_)
    refine CN_ite (fun z => absurd z (by decide)) (fun _ => ?_)
    refine CN_ite (fun z => absurd z (by decide)) (fun _ => ?_)
    refine CN_ite (fun z => absurd z (by decide)) (fun _ => ?_)
    refine CN_ite (fun z => absurd z (by decide)) (fun _ => ?_)
    refine CN_ite (fun z => absurd z (by decide)) (fun _ => ?_)
    refine CN_ite (fun z => absurd z (by decide)) (fun _ => ?_)
    refine CN_ite (fun z => absurd z (by decide)) (fun _ => ?_)
    refine CN_ite (fun z => absurd z (by decide)) (fun _ => ?_)
    refine CN_ite (fun _ => ?_) (fun z => absurd rfl z)
    exact CN_cl ((h (Or.inr (Or.inr z))).mono (fun _ _ z => CN_rt z))
  · refine CN_cl (CN.mono (h2 (fun z => by
      rcases z with z | z | z
      · exact nz z
      · exact n20 z
      · exact n21 z)) (fun _ v y => ?_))
    obtain ⟨y1, y2⟩ := y
    refine CN_RFx y1 ?_
    refine CN_ite (fun z => absurd z (by decide)) (fun _ => ?_)
    refine CN_ite (fun z => absurd z (by decide)) (fun _ => ?_)
    refine CN_ite (fun z => absurd z (by decide)) (fun _ => ?_)
    refine CN_ite (fun z => absurd z (by decide)) (fun _ => ?_)
    refine CN_ite (fun z => absurd z (by decide)) (fun _ => ?_)
    refine CN_ite (fun z => absurd z (by decide)) (fun _ => ?_)
    refine CN_ite (fun z => absurd z (by decide)) (fun _ => ?_)
    refine CN_ite (fun z => absurd z (by decide)) (fun _ => ?_)
    refine CN_ite (fun z => absurd z (by decide)) (fun _ => ?_)
    refine CN_ite (fun z => absurd z (by decide)) (fun _ => ?_)
    exact CN_cl (y2.mono (fun _ _ z => CN_rt z))
end
