/-! ===== a whole token in the reference, exactly ===== -/
theorem mkk_nf {t : Nat} {e : Bool} (h : ¬ (t = 33 ∨ t = 60 ∨ t = 62)) : mkk t e = mkk t false ∧ wide t e = 0 := by
  refine ⟨?_, if_neg (fun q => h q.2)⟩
  unfold mkk
  rw [if_neg (fun q => h (Or.inl q)), if_neg (fun q => h (Or.inl q)), if_neg (fun q => h (Or.inr (Or.inl q))), if_neg (fun q => h (Or.inr (Or.inl q))), if_neg (fun q => h (Or.inr (Or.inr q))), if_neg (fun q => h (Or.inr (Or.inr q)))]
section
variable {T : Nat → Nat} {N : Nat} {w : GS}
theorem rkk_m {a b : Nat} (hlt : a < N) (hL : ¬ tLe (T a)) (hD : ¬ tDi (T a)) : rkk T N a b = if mkk (T a) (eqn T N (a + 1)) = 1 then 4 else 3 := by
  unfold rkk
  rw [if_pos hlt, if_neg hL, if_neg hD]
theorem tkm {v : GS} {a b0 : Nat} (hR : Run tBl T N b0 a) (hs : ScF w v) (ha : Im v 44 (nI a)) (hb : Im v 45 (nI a)) (hlt : a < N) (hL : ¬ tLe (T a)) (hD : ¬ tDi (T a)) (k : Nat) (P : Prop) [Decidable P] (hh : rkk T N a (a + 1 + wide (T a) (eqn T N (a + 1))) = k) (hP : P → wide (T a) (eqn T N (a + 1)) = 0) (hP2 : ¬ P → wide (T a) (eqn T N (a + 1)) = 1) : Ok (pwf 46 (nI k) (prf 45 (fun x => (if P then pwf 45 (x + 1) (prt (0 : Int32)) else pwf 45 (x + 2) (prt 0))))) v (fun _ v => TokR T N b0 w v) := by
  have hn2 : ¬ k = 2 := by
    rw [← hh, rkk_m hlt hL hD]
    by_cases z : mkk (T a) (eqn T N (a + 1)) = 1
    · rw [if_pos z]; decide
    · rw [if_neg z]; decide
  refine Ok_wf (Ok_rfN (hb.o (by decide)) (Ok_ite (fun p => ?_) (fun p => ?_)))
  · rw [nI_1]
    have e := hP p
    refine Ok_wf (Ok_rt ⟨a, a + 1 + wide (T a) (eqn T N (a + 1)), hR, Or.inr (Or.inr (Or.inr ⟨hlt, hL, hD, rfl⟩)), (hs.wf 46 _ (by decide)).wf 45 _ (by decide), (ha.o (by decide)).o (by decide), ?_, ?_, fun z => absurd (hh.symm.trans z) hn2⟩)
    · rw [e]; exact swf_e
    · rw [hh]; exact Im.o (by decide) swf_e
  · have e1 : nI a + 2 = nI (a + 2) := nI_add a 2
    rw [e1]
    have e := hP2 p
    refine Ok_wf (Ok_rt ⟨a, a + 1 + wide (T a) (eqn T N (a + 1)), hR, Or.inr (Or.inr (Or.inr ⟨hlt, hL, hD, rfl⟩)), (hs.wf 46 _ (by decide)).wf 45 _ (by decide), (ha.o (by decide)).o (by decide), ?_, ?_, fun z => absurd (hh.symm.trans z) hn2⟩)
    · rw [e]; exact swf_e
    · rw [hh]; exact Im.o (by decide) swf_e
theorem r_token {b0 : Nat} (hT : TR T N w) (h45 : Im w 45 (nI b0)) (hb0 : b0 ≤ N) : Ok f_scan w (fun _ v => TokR T N b0 w v) := by
  have h4 := hT.1.2.2.2
  unfold f_scan
  refine r_skip hT b0 _ _ (fun v a hs hb hR => ?_) (N - b0) b0 fuel w (by omega) (by unfold fuel; omega) (Nat.le_refl _) (fun i h1 h2 => absurd h1 (by omega)) (ScF.rf w) h45
  have haN := hR.2.1
  refine Ok_rfN hb (Ok_wf ?_)
  have hs2 := hs.wf 44 (nI a) (by decide)
  have ha2 : Im (swf 44 (nI a) v) 44 (nI a) := swf_e
  have hb2 : Im (swf 44 (nI a) v) 45 (nI a) := hb.o (by decide)
  generalize swf 44 (nI a) v = u at hs2 ha2 hb2 ⊢
  have hTu := hT.sc hs2
  refine Ok_rfN ha2 (Ok_clR (r_byte hTu a (by omega)) (fun r hr => ?_))
  subst hr
  refine Ok_rfN ha2 (Ok_rfN hTu.1.2.2.1 (Ok_ite (fun z => ?_) (fun z => ?_)))
  · have he : a = N := (nI_eq (by omega) (by omega)).mp z
    have hk : rkk T N a N = 0 := by
      unfold rkk
      rw [if_neg (by omega)]
    refine Ok_wf (Ok_rt ⟨a, N, hR, Or.inl ⟨he, rfl⟩, hs2.wf 46 _ (by decide), ha2.o (by decide), ?_, ?_, fun q => ?_⟩)
    · rw [he] at hb2
      exact hb2.o (by decide)
    · rw [hk]; exact swf_e
    · rw [hk] at q; exact absurd q (by decide)
  have hlt : a < N := Nat.lt_of_le_of_ne haN (fun y => z (by rw [y]))
  have e : byt T N a = T a := by unfold byt; rw [if_pos hlt]
  have ht := (hT.2.2 a hlt).1
  rw [e]
  refine Ok_clR (r_letter ht u) (fun r2 hr2 => ?_)
  by_cases hL : tLe (T a)
  · rw [if_pos hL] at hr2
    subst hr2
    refine Ok_ite (fun z => absurd z (by decide)) (fun _ => ?_)
    refine r_word hTu a (nI (T a)) _ _ (fun v3 b k1 k2 k3 hRb => ?_) (N - a) a fuel u (by omega) (by unfold fuel; omega) (Nat.le_refl _) (fun i h1 h2 => absurd h1 (by omega)) (ScF.rf u) ha2 hb2
    refine Ok_rfN k3 (Ok_rfN k2 ?_)
    rw [nI_sub hRb.1]
    have hbN := hRb.2.1
    refine Ok_ite (fun z => Ok_wf (Ok_rt ?_)) (fun z => Ok_wf (Ok_rt ?_))
    · have h10 := (nI_leI (a := b - a) (b := 10) (by omega) (by decide)).mp z
      have hk : rkk T N a b = 1 := by unfold rkk; rw [if_pos hlt, if_pos hL, if_pos h10]
      exact ⟨a, b, hR, Or.inr (Or.inl ⟨hlt, hL, hRb⟩), (hs2.trans k1).wf 46 _ (by decide), k2.o (by decide), k3.o (by decide), by rw [hk]; exact swf_e, fun q => by rw [hk] at q; exact absurd q (by decide)⟩
    · have h10 : ¬ b - a ≤ 10 := fun y => z (nI_le (b := 10) y (by decide))
      have hk : rkk T N a b = 4 := by unfold rkk; rw [if_pos hlt, if_pos hL, if_neg h10]
      exact ⟨a, b, hR, Or.inr (Or.inl ⟨hlt, hL, hRb⟩), (hs2.trans k1).wf 46 _ (by decide), k2.o (by decide), k3.o (by decide), by rw [hk]; exact swf_e, fun q => by rw [hk] at q; exact absurd q (by decide)⟩
  rw [if_neg hL] at hr2
  subst hr2
  refine Ok_ite (fun _ => Ok_clR (r_digit ht u) (fun r2 hr2 => ?_)) (fun z => absurd rfl z)
  by_cases hD : tDi (T a)
  · rw [if_pos hD] at hr2
    subst hr2
    refine Ok_ite (fun z => absurd z (by decide)) (fun _ => Ok_wf ?_)
    refine r_num (w := swf 47 0 u) (hTu.sc ((ScF.rf u).wf 47 0 (by decide))) a (nI (T a)) _ _ (fun v3 b k1 k2 k3 k4 hRb => ?_) (N - a) a fuel _ (by omega) (by unfold fuel; omega) (Nat.le_refl _) (fun i h1 h2 => absurd h1 (by omega)) (ScF.rf _) (ha2.o (by decide)) (hb2.o (by decide)) (by rw [Nat.sub_self]; exact swf_e)
    refine Ok_rfN k3 (Ok_rfN k2 ?_)
    rw [nI_sub hRb.1]
    have hbN := hRb.2.1
    have hsf := (hs2.wf 47 0 (by decide)).trans k1
    refine Ok_ite (fun z => Ok_wf (Ok_rt ?_)) (fun z => Ok_wf (Ok_rt ?_))
    · have h10 := (nI_leI (a := b - a) (b := 4) (by omega) (by decide)).mp z
      have hk : rkk T N a b = 2 := by unfold rkk; rw [if_pos hlt, if_neg hL, if_pos hD, if_pos h10]
      exact ⟨a, b, hR, Or.inr (Or.inr (Or.inl ⟨hlt, hL, hD, hRb⟩)), hsf.wf 46 _ (by decide), k2.o (by decide), k3.o (by decide), by rw [hk]; exact swf_e, fun _ => k4.o (by decide)⟩
    · have h10 : ¬ b - a ≤ 4 := fun y => z (nI_le (b := 4) y (by decide))
      have hk : rkk T N a b = 4 := by unfold rkk; rw [if_pos hlt, if_neg hL, if_pos hD, if_neg h10]
      exact ⟨a, b, hR, Or.inr (Or.inr (Or.inl ⟨hlt, hL, hD, hRb⟩)), hsf.wf 46 _ (by decide), k2.o (by decide), k3.o (by decide), by rw [hk]; exact swf_e, fun q => by rw [hk] at q; exact absurd q (by decide)⟩
  rw [if_neg hD] at hr2
  subst hr2
  refine Ok_ite (fun _ => Ok_rfN ha2 ?_) (fun z => absurd rfl z)
  rw [nI_1]
  refine Ok_clR (r_byte hTu (a + 1) (by omega)) (fun r4 hr4 => ?_)
  subst hr4
  obtain ⟨i, hi⟩ := Option.isSome_iff_exists.mp (idx_some (T a) ht)
  have hneg := idx_neg (T a) ht
  rw [hi] at hneg
  have hneg : i < 0 ↔ mkk (T a) false = 1 := hneg
  have ee : eqn T N (a + 1) = true ↔ (a + 1 < N ∧ T (a + 1) = 61) := decide_eq_true_iff
  have key : ∀ c : Nat, c < 256 → (nI (T a) = nI c ↔ T a = c) := fun c hc => nI_eq (by omega) (by omega)
  have plain : mkk (T a) (eqn T N (a + 1)) = mkk (T a) false → wide (T a) (eqn T N (a + 1)) = 0 → ∀ (P : Prop) [Decidable P], P → Ok (poi (fj_indexOf 0 ((nI (T a)).toUInt32 % 65536).toInt32) (fun r => (if r < 0 then pwf 46 4 (prf 45 (fun x => (if P then pwf 45 (x + 1) (prt (0 : Int32)) else pwf 45 (x + 2) (prt 0)))) else pwf 46 3 (prf 45 (fun x => (if P then pwf 45 (x + 1) (prt (0 : Int32)) else pwf 45 (x + 2) (prt 0))))))) u (fun _ v => TokR T N b0 w v) := fun h1 h2 P _ hP => by
    refine Ok_oi hi (Ok_ite (fun z => ?_) (fun z => ?_))
    · exact tkm hR hs2 ha2 hb2 hlt hL hD 4 P (by rw [rkk_m hlt hL hD, h1, if_pos (hneg.mp z)]) (fun _ => h2) (fun z => absurd hP z)
    · exact tkm hR hs2 ha2 hb2 hlt hL hD 3 P (by rw [rkk_m hlt hL hD, h1, if_neg (fun y => z (hneg.mpr y))]) (fun _ => h2) (fun z => absurd hP z)
  refine Ok_ite (fun e61 => ?_) (fun e61 => ?_)
  · have hb61 : byt T N (a + 1) = 61 := (nI_eq (a := byt T N (a + 1)) (b := 61) (by have := byt_lt hTu (a + 1); omega) (by decide)).mp e61
    have hq : eqn T N (a + 1) = true := ee.mpr (by
      unfold byt at hb61
      by_cases z : a + 1 < N
      · rw [if_pos z] at hb61; exact ⟨z, hb61⟩
      · rw [if_neg z] at hb61; exact absurd hb61 (by decide))
    have wd : ∀ c, (c = 33 ∨ c = 60 ∨ c = 62) → T a = c → wide (T a) (eqn T N (a + 1)) = 1 := fun c hc h => if_pos ⟨hq, by rw [h]; exact hc⟩
    refine Ok_ite (fun z => Ok_ite (fun y => absurd y (by decide)) (fun _ => ?_)) (fun n60 => Ok_ite (fun z => Ok_ite (fun y => absurd y (by decide)) (fun _ => ?_)) (fun n62 => Ok_ite (fun z => Ok_ite (fun y => absurd y (by decide)) (fun _ => ?_)) (fun n33 => Ok_ite (fun _ => ?_) (fun y => absurd rfl y))))
    · have hc := (key 60 (by decide)).mp z
      exact tkm hR hs2 ha2 hb2 hlt hL hD 3 _ (by rw [rkk_m hlt hL hD, hc, hq]; rfl) (fun y => absurd y (by decide)) (fun _ => wd 60 (by decide) hc)
    · have hc := (key 62 (by decide)).mp z
      exact tkm hR hs2 ha2 hb2 hlt hL hD 3 _ (by rw [rkk_m hlt hL hD, hc, hq]; rfl) (fun y => absurd y (by decide)) (fun _ => wd 62 (by decide) hc)
    · have hc := (key 33 (by decide)).mp z
      exact tkm hR hs2 ha2 hb2 hlt hL hD 3 _ (by rw [rkk_m hlt hL hD, hc, hq]; rfl) (fun y => absurd y (by decide)) (fun _ => wd 33 (by decide) hc)
    · obtain ⟨m1, m2⟩ := mkk_nf (t := T a) (e := eqn T N (a + 1)) (fun q => by
        rcases q with q | q | q
        · exact n33 ((key 33 (by decide)).mpr q)
        · exact n60 ((key 60 (by decide)).mpr q)
        · exact n62 ((key 62 (by decide)).mpr q))
      exact plain m1 m2 _ rfl
  · have hq : eqn T N (a + 1) = false := by
      cases hz : eqn T N (a + 1) with
      | false => rfl
      | true =>
        obtain ⟨q1, q2⟩ := ee.mp hz
        refine absurd ?_ e61
        unfold byt
        rw [if_pos q1, q2]
        rfl
    refine Ok_ite (fun _ => ?_) (fun y => absurd rfl y)
    exact plain (by rw [hq]) (by rw [hq]; exact if_neg (fun q => by cases q.1)) _ rfl
end
