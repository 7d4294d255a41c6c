/-! ===== the acts of the reference, as they are called ===== -/
theorem does_1 (a1 a2 a3 : Int32) : f_does 1 a1 a2 a3 = pwd 0 4 a1 a2 (pwd 1 4 a1 a3 (prt 1)) := by
  unfold f_does
  rw [if_neg (by decide), if_pos rfl]
theorem does_2 (a1 a2 a3 : Int32) : f_does 2 a1 a2 a3 = pcl (f_comes a1 a2) (fun r_13 => prt r_13) := by
  unfold f_does
  rw [if_neg (by decide), if_neg (by decide), if_pos rfl]
theorem does_3 (a1 a2 a3 : Int32) : f_does 3 a1 a2 a3 = pwd 7 96 a1 a2 (prd 5 96 a1 (fun x_20 => prd 0 4 x_20 (fun x_23 => prd 5 96 a1 (fun x_26 => prd 1 4 x_26 (fun x_29 => pcl (f_in a2.toInt64 x_23.toInt64 x_29.toInt64) (fun r_32 => (if r_32 = 0 then pwd 8 96 a1 2 (prd 8 96 a1 (fun x_39 => (if x_39 = 1 then prt 1 else prt 0))) else pwd 8 96 a1 1 (prd 8 96 a1 (fun x_46 => (if x_46 = 1 then prt 1 else prt 0)))))))))) := by
  unfold f_does
  rw [if_neg (by decide), if_neg (by decide), if_neg (by decide), if_pos rfl]
theorem does_4 (a1 a2 a3 : Int32) : f_does 4 a1 a2 a3 = prd 9 96 a1 (fun x_51 => pwd 9 96 a1 a2 (prt x_51)) := by
  unfold f_does
  rw [if_neg (by decide), if_neg (by decide), if_neg (by decide), if_neg (by decide), if_pos rfl]
theorem does_5 (a1 a2 a3 : Int32) : f_does 5 a1 a2 a3 = pcl (f_draws a1) (fun r_58 => prt r_58) := by
  unfold f_does
  rw [if_neg (by decide), if_neg (by decide), if_neg (by decide), if_neg (by decide), if_neg (by decide), if_pos rfl]
theorem does_6 (a1 a2 a3 : Int32) : f_does 6 a1 a2 a3 = pwf 3 a1 (prt a1) := by
  unfold f_does
  rw [if_neg (by decide), if_neg (by decide), if_neg (by decide), if_neg (by decide), if_neg (by decide), if_neg (by decide), if_pos rfl]
theorem does_7 (a1 a2 a3 : Int32) : f_does 7 a1 a2 a3 = prf 4 (fun x_65 => pwf 4 a1 (prt x_65)) := by
  unfold f_does
  rw [if_neg (by decide), if_neg (by decide), if_neg (by decide), if_neg (by decide), if_neg (by decide), if_neg (by decide), if_neg (by decide), if_pos rfl]
theorem does_8 (a1 a2 a3 : Int32) : f_does 8 a1 a2 a3 = pcl (f_begins a1 a2 a3) (fun r_70 => prt r_70) := by
  unfold f_does
  rw [if_neg (by decide), if_neg (by decide), if_neg (by decide), if_neg (by decide), if_neg (by decide), if_neg (by decide), if_neg (by decide), if_neg (by decide), if_pos rfl]
theorem does_9 (a1 a2 a3 : Int32) : f_does 9 a1 a2 a3 = pli ((((2 * a1) + a2) * 8) + a3) (fun x_74 => prd 24 64 x_74 (fun x_76 => pwd 24 64 x_74 (if (x_76 + 1) < 99 then (x_76 + 1) else 99) (prd 25 4 a1 (fun x_82 => pcl (f_asked a1 x_82) (fun r_85 => prt r_85))))) := by
  unfold f_does
  rw [if_neg (by decide), if_neg (by decide), if_neg (by decide), if_neg (by decide), if_neg (by decide), if_neg (by decide), if_neg (by decide), if_neg (by decide), if_neg (by decide), if_pos rfl]
theorem does_10 (a1 a2 a3 : Int32) : f_does 10 a1 a2 a3 = pcl (f_passes a1 a2) (fun r_89 => prt r_89) := by
  unfold f_does
  rw [if_neg (by decide), if_neg (by decide), if_neg (by decide), if_neg (by decide), if_neg (by decide), if_neg (by decide), if_neg (by decide), if_neg (by decide), if_neg (by decide), if_neg (by decide), if_pos rfl]
theorem does_11 (a1 a2 a3 : Int32) : f_does 11 a1 a2 a3 = pcl (f_ends a1 a2 (-1) 0) (fun r_93 => prt r_93) := by
  unfold f_does
  rw [if_neg (by decide), if_neg (by decide), if_neg (by decide), if_neg (by decide), if_neg (by decide), if_neg (by decide), if_neg (by decide), if_neg (by decide), if_neg (by decide), if_neg (by decide), if_neg (by decide), if_pos rfl]
theorem does_12 (a1 a2 a3 : Int32) : f_does 12 a1 a2 a3 = pcl (f_struck a1 a2) (fun r_96 => prt r_96) := by
  unfold f_does
  rw [if_neg (by decide), if_neg (by decide), if_neg (by decide), if_neg (by decide), if_neg (by decide), if_neg (by decide), if_neg (by decide), if_neg (by decide), if_neg (by decide), if_neg (by decide), if_neg (by decide), if_neg (by decide)]
theorem nI_ofT {x : Int32} (h0 : 0 ≤ x.toInt) : x = nI x.toInt.toNat := by
  have h1 := x.toInt_lt
  refine Int32.toInt_inj.mp ?_
  rw [nI_toInt (by omega)]
  omega
theorem ok_inB (a b c : Int64) (w : GS) : Rd (f_in a b c) w (fun r => r = 0 ∨ r = 1) := Rd.mono (ok_in a b c w) (fun _ h => h.elim (fun z => Or.inr z.1) (fun z => Or.inl z.1))
theorem gb01 {r : Int32} (h : r = 0 ∨ r = 1) : gb r = true := by rcases h with rfl | rfl <;> decide
theorem sub1_64 : ∀ n < 97, ((nI n).toInt64 - 1).toInt = (n : Int) - 1 := by decide +kernel
theorem Inv.m12 {w : GS} (h : Inv w) {c : Nat} (hc : c < 4) : w.2.2 12 c = true := by
  rcases (h.1.2.2.2.1 c hc).2.2.1 with z | ⟨n, -, -, ⟨s, -, -, -, z, -⟩ | ⟨L, -, -, -, z, -⟩⟩
  · exact z.1
  · exact z.1
  · exact z.1
theorem Inv.kd {w : GS} (h : Inv w) (h13 : ∀ c, c < 4 → w.2.2 13 c = true) : ∀ c, c < 4 → w.2.2 13 c = true ∧ ∃ n, Kd w c n := fun c hc => by
  refine ⟨h13 c hc, ?_⟩
  rcases (h.1.2.2.2.1 c hc).2.2.1 with z | ⟨n, z⟩
  · exact ⟨0, Or.inl ⟨z, rfl⟩⟩
  · exact ⟨n, Or.inr (h.1.dr z)⟩
