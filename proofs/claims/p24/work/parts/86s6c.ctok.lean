/-! ===== words and whole tokens in the class ===== -/
def chn (k j : Nat) : Nat := ((fj_charAt k (nI j)).getD 0).toNatClampNeg
theorem sln38 : ∀ k < 38, fj_len k = some (nI (sln k)) ∧ sln k ≤ 8 := by decide +kernel
theorem chn38 : ∀ k < 38, ∀ j < 8, j < sln k → fj_charAt k (nI j) = some (nI (chn k j)) ∧ chn k j < 128 := by decide +kernel
abbrev Spl (T : Nat → Nat) (a b k : Nat) : Prop := b - a = sln k ∧ ∀ j, j < sln k → T (a + j) = chn k j
def wk (T : Nat → Nat) (a b : Nat) : Nat := if Spl T a b 25 then 4 else if Spl T a b 26 then 5 else if Spl T a b 27 then 6 else if Spl T a b 28 then 7 else if Spl T a b 29 then 8 else if Spl T a b 30 then 9 else if Spl T a b 31 then 10 else if Spl T a b 32 then 11 else if Spl T a b 33 then 12 else if Spl T a b 34 then 13 else if Spl T a b 35 then 14 else if Spl T a b 36 then 15 else if Spl T a b 37 then 16 else 2
theorem wk_v (T : Nat → Nat) (a b : Nat) : wk T a b = 2 ∨ (4 ≤ wk T a b ∧ wk T a b ≤ 16 ∧ Spl T a b (wk T a b + 21)) := by
  unfold wk
  by_cases h25 : Spl T a b 25
  · rw [if_pos h25]
    exact Or.inr ⟨by decide, by decide, h25⟩
  rw [if_neg h25]
  by_cases h26 : Spl T a b 26
  · rw [if_pos h26]
    exact Or.inr ⟨by decide, by decide, h26⟩
  rw [if_neg h26]
  by_cases h27 : Spl T a b 27
  · rw [if_pos h27]
    exact Or.inr ⟨by decide, by decide, h27⟩
  rw [if_neg h27]
  by_cases h28 : Spl T a b 28
  · rw [if_pos h28]
    exact Or.inr ⟨by decide, by decide, h28⟩
  rw [if_neg h28]
  by_cases h29 : Spl T a b 29
  · rw [if_pos h29]
    exact Or.inr ⟨by decide, by decide, h29⟩
  rw [if_neg h29]
  by_cases h30 : Spl T a b 30
  · rw [if_pos h30]
    exact Or.inr ⟨by decide, by decide, h30⟩
  rw [if_neg h30]
  by_cases h31 : Spl T a b 31
  · rw [if_pos h31]
    exact Or.inr ⟨by decide, by decide, h31⟩
  rw [if_neg h31]
  by_cases h32 : Spl T a b 32
  · rw [if_pos h32]
    exact Or.inr ⟨by decide, by decide, h32⟩
  rw [if_neg h32]
  by_cases h33 : Spl T a b 33
  · rw [if_pos h33]
    exact Or.inr ⟨by decide, by decide, h33⟩
  rw [if_neg h33]
  by_cases h34 : Spl T a b 34
  · rw [if_pos h34]
    exact Or.inr ⟨by decide, by decide, h34⟩
  rw [if_neg h34]
  by_cases h35 : Spl T a b 35
  · rw [if_pos h35]
    exact Or.inr ⟨by decide, by decide, h35⟩
  rw [if_neg h35]
  by_cases h36 : Spl T a b 36
  · rw [if_pos h36]
    exact Or.inr ⟨by decide, by decide, h36⟩
  rw [if_neg h36]
  by_cases h37 : Spl T a b 37
  · rw [if_pos h37]
    exact Or.inr ⟨by decide, by decide, h37⟩
  rw [if_neg h37]
  exact Or.inl rfl
theorem CN_noi {β : Type} {x : Option Int32} {a : Int32} {q : Int32 → NG β} {u : MS} {Q : β → MS → Prop} (hx : x = some a) (h : CN (q a) u Q) : CN (noi x q) u Q := by
  rw [hx]
  exact h
section
variable {T : Nat → Nat} {N : Nat}
theorem c_spells {v : MS} {a b : Nat} (hT : TC T N v) (h3 : v.1 3 = nI b) (h5 : v.1 5 = nI a) (hab : a ≤ b) (hbN : b ≤ N) (k : Nat) (hk : k < 38) : CN (x_X10_spells k) v (fun r w => w = v ∧ ((r = 1 ∧ Spl T a b k) ∨ (r = 0 ∧ ¬ Spl T a b k))) := by
  have hN := hT.1
  obtain ⟨e1, e2⟩ := sln38 k hk
  unfold x_X10_spells
  refine CN_RFx h3 (CN_RFx h5 (CN_noi e1 ?_))
  rw [nI_sub hab]
  refine CN_ite (fun z => ?_) (fun z => CN_rt ⟨rfl, Or.inr ⟨rfl, fun y => z (by rw [y.1])⟩⟩)
  have hl : b - a = sln k := (nI_eq (by omega) (by omega)).mp z
  have hlp : ∀ (g j : Nat), j ≤ sln k → (∀ i, i < j → T (a + i) = chn k i) → CN (xl_X10_spells_20 k g (nI j) (fun v2 => nrt 1)) v (fun r w => w = v ∧ ((r = 1 ∧ Spl T a b k) ∨ (r = 0 ∧ ¬ Spl T a b k))) := by
    intro g
    induction g with
    | zero => exact fun j _ _ r w e => by cases e
    | succ g ih =>
      intro j hj hp
      unfold xl_X10_spells_20
      refine CN_noi e1 (CN_ite (fun z => CN_rt ⟨rfl, Or.inl ⟨rfl, hl, ?_⟩⟩) (fun z => CN_RFx h5 ?_))
      · have := (nI_leI (by omega) (by omega)).mp z
        have hj2 : j = sln k := by omega
        rw [← hj2]
        exact hp
      · have hlt : j < sln k := Nat.not_le.mp (fun y => z (nI_le y (by omega)))
        obtain ⟨c1, c2⟩ := chn38 k hk j (by omega) hlt
        rw [nI_add]
        refine CN_GT ?_
        rw [hT.gt (by omega)]
        have ht := (hT.2.2 (a + j) (by omega)).1
        refine CN_noi c1 (CN_ite (fun z => CN_li ?_) (fun z => CN_rt ⟨rfl, Or.inr ⟨rfl, fun y => z (by rw [y.2 j hlt])⟩⟩))
        rw [nI_1]
        refine ih (j + 1) (by omega) (fun i hi => ?_)
        by_cases he : i = j
        · rw [he]
          exact (nI_eq (by omega) (by omega)).mp z
        · exact hp i (by omega)
  exact hlp fuel 0 (Nat.zero_le _) (fun i hi => absurd hi (Nat.not_lt_zero _))
theorem c_wordKind {v : MS} {a b : Nat} (hT : TC T N v) (h3 : v.1 3 = nI b) (h5 : v.1 5 = nI a) (hab : a ≤ b) (hbN : b ≤ N) : CN x_X10_wordKind v (fun r w => w = v ∧ r = nI (wk T a b)) := by
  unfold x_X10_wordKind wk
  refine CN_cl (CN.mono (c_spells hT h3 h5 hab hbN 25 (by decide)) (fun r w y => ?_))
  obtain ⟨y0, y⟩ := y
  rw [y0]
  clear y0
  rcases y with ⟨rfl, y25⟩ | ⟨rfl, y25⟩
  · rw [if_pos y25]
    exact CN_ite (fun z => absurd z (by decide)) (fun _ => CN_rt ⟨rfl, rfl⟩)
  rw [if_neg y25]
  refine CN_ite (fun _ => ?_) (fun z => absurd rfl z)
  refine CN_cl (CN.mono (c_spells hT h3 h5 hab hbN 26 (by decide)) (fun r w y => ?_))
  obtain ⟨y0, y⟩ := y
  rw [y0]
  clear y0
  rcases y with ⟨rfl, y26⟩ | ⟨rfl, y26⟩
  · rw [if_pos y26]
    exact CN_ite (fun z => absurd z (by decide)) (fun _ => CN_rt ⟨rfl, rfl⟩)
  rw [if_neg y26]
  refine CN_ite (fun _ => ?_) (fun z => absurd rfl z)
  refine CN_cl (CN.mono (c_spells hT h3 h5 hab hbN 27 (by decide)) (fun r w y => ?_))
  obtain ⟨y0, y⟩ := y
  rw [y0]
  clear y0
  rcases y with ⟨rfl, y27⟩ | ⟨rfl, y27⟩
  · rw [if_pos y27]
    exact CN_ite (fun z => absurd z (by decide)) (fun _ => CN_rt ⟨rfl, rfl⟩)
  rw [if_neg y27]
  refine CN_ite (fun _ => ?_) (fun z => absurd rfl z)
  refine CN_cl (CN.mono (c_spells hT h3 h5 hab hbN 28 (by decide)) (fun r w y => ?_))
  obtain ⟨y0, y⟩ := y
  rw [y0]
  clear y0
  rcases y with ⟨rfl, y28⟩ | ⟨rfl, y28⟩
  · rw [if_pos y28]
    exact CN_ite (fun z => absurd z (by decide)) (fun _ => CN_rt ⟨rfl, rfl⟩)
  rw [if_neg y28]
  refine CN_ite (fun _ => ?_) (fun z => absurd rfl z)
  refine CN_cl (CN.mono (c_spells hT h3 h5 hab hbN 29 (by decide)) (fun r w y => ?_))
  obtain ⟨y0, y⟩ := y
  rw [y0]
  clear y0
  rcases y with ⟨rfl, y29⟩ | ⟨rfl, y29⟩
  · rw [if_pos y29]
    exact CN_ite (fun z => absurd z (by decide)) (fun _ => CN_rt ⟨rfl, rfl⟩)
  rw [if_neg y29]
  refine CN_ite (fun _ => ?_) (fun z => absurd rfl z)
  refine CN_cl (CN.mono (c_spells hT h3 h5 hab hbN 30 (by decide)) (fun r w y => ?_))
  obtain ⟨y0, y⟩ := y
  rw [y0]
  clear y0
  rcases y with ⟨rfl, y30⟩ | ⟨rfl, y30⟩
  · rw [if_pos y30]
    exact CN_ite (fun z => absurd z (by decide)) (fun _ => CN_rt ⟨rfl, rfl⟩)
  rw [if_neg y30]
  refine CN_ite (fun _ => ?_) (fun z => absurd rfl z)
  refine CN_cl (CN.mono (c_spells hT h3 h5 hab hbN 31 (by decide)) (fun r w y => ?_))
  obtain ⟨y0, y⟩ := y
  rw [y0]
  clear y0
  rcases y with ⟨rfl, y31⟩ | ⟨rfl, y31⟩
  · rw [if_pos y31]
    exact CN_ite (fun z => absurd z (by decide)) (fun _ => CN_rt ⟨rfl, rfl⟩)
  rw [if_neg y31]
  refine CN_ite (fun _ => ?_) (fun z => absurd rfl z)
  refine CN_cl (CN.mono (c_spells hT h3 h5 hab hbN 32 (by decide)) (fun r w y => ?_))
  obtain ⟨y0, y⟩ := y
  rw [y0]
  clear y0
  rcases y with ⟨rfl, y32⟩ | ⟨rfl, y32⟩
  · rw [if_pos y32]
    exact CN_ite (fun z => absurd z (by decide)) (fun _ => CN_rt ⟨rfl, rfl⟩)
  rw [if_neg y32]
  refine CN_ite (fun _ => ?_) (fun z => absurd rfl z)
  refine CN_cl (CN.mono (c_spells hT h3 h5 hab hbN 33 (by decide)) (fun r w y => ?_))
  obtain ⟨y0, y⟩ := y
  rw [y0]
  clear y0
  rcases y with ⟨rfl, y33⟩ | ⟨rfl, y33⟩
  · rw [if_pos y33]
    exact CN_ite (fun z => absurd z (by decide)) (fun _ => CN_rt ⟨rfl, rfl⟩)
  rw [if_neg y33]
  refine CN_ite (fun _ => ?_) (fun z => absurd rfl z)
  refine CN_cl (CN.mono (c_spells hT h3 h5 hab hbN 34 (by decide)) (fun r w y => ?_))
  obtain ⟨y0, y⟩ := y
  rw [y0]
  clear y0
  rcases y with ⟨rfl, y34⟩ | ⟨rfl, y34⟩
  · rw [if_pos y34]
    exact CN_ite (fun z => absurd z (by decide)) (fun _ => CN_rt ⟨rfl, rfl⟩)
  rw [if_neg y34]
  refine CN_ite (fun _ => ?_) (fun z => absurd rfl z)
  refine CN_cl (CN.mono (c_spells hT h3 h5 hab hbN 35 (by decide)) (fun r w y => ?_))
  obtain ⟨y0, y⟩ := y
  rw [y0]
  clear y0
  rcases y with ⟨rfl, y35⟩ | ⟨rfl, y35⟩
  · rw [if_pos y35]
    exact CN_ite (fun z => absurd z (by decide)) (fun _ => CN_rt ⟨rfl, rfl⟩)
  rw [if_neg y35]
  refine CN_ite (fun _ => ?_) (fun z => absurd rfl z)
  refine CN_cl (CN.mono (c_spells hT h3 h5 hab hbN 36 (by decide)) (fun r w y => ?_))
  obtain ⟨y0, y⟩ := y
  rw [y0]
  clear y0
  rcases y with ⟨rfl, y36⟩ | ⟨rfl, y36⟩
  · rw [if_pos y36]
    exact CN_ite (fun z => absurd z (by decide)) (fun _ => CN_rt ⟨rfl, rfl⟩)
  rw [if_neg y36]
  refine CN_ite (fun _ => ?_) (fun z => absurd rfl z)
  refine CN_cl (CN.mono (c_spells hT h3 h5 hab hbN 37 (by decide)) (fun r w y => ?_))
  obtain ⟨y0, y⟩ := y
  rw [y0]
  clear y0
  rcases y with ⟨rfl, y37⟩ | ⟨rfl, y37⟩
  · rw [if_pos y37]
    exact CN_ite (fun z => absurd z (by decide)) (fun _ => CN_rt ⟨rfl, rfl⟩)
  rw [if_neg y37]
  refine CN_ite (fun _ => ?_) (fun z => absurd rfl z)
  exact CN_rt ⟨rfl, rfl⟩
def TkE (T : Nat → Nat) (N a b : Nat) : Prop := (a = N ∧ b = N) ∨ (a < N ∧ tLe (T a) ∧ Run tLe T N a b) ∨ (a < N ∧ ¬ tLe (T a) ∧ tDi (T a) ∧ Run tDi T N a b) ∨ (a < N ∧ ¬ tLe (T a) ∧ ¬ tDi (T a) ∧ b = a + 1 + wide (T a) (eqn T N (a + 1)))
def tkk (T : Nat → Nat) (N a b : Nat) : Nat := if a < N then (if tLe (T a) then (if b - a ≤ 10 then wk T a b else 1) else if tDi (T a) then (if b - a ≤ 4 then 3 else 1) else mkk (T a) (eqn T N (a + 1))) else 0
def TokC (T : Nat → Nat) (N b0 : Nat) (u v : MS) : Prop := ∃ a b, Run tBl T N b0 a ∧ TkE T N a b ∧ Same [3, 4, 5, 6] [] u v ∧ v.1 5 = nI a ∧ v.1 3 = nI b ∧ v.1 4 = nI (tkk T N a b) ∧ (tkk T N a b = 3 → v.1 6 = nI (vl T a (min 4 (b - a))))
theorem c_token {u : MS} {b0 : Nat} (hT : TC T N u) (h3 : u.1 3 = nI b0) (hb0 : b0 ≤ N) : CN x_X10_readToken u (fun _ v => TokC T N b0 u v) := by
  have hN := hT.1
  unfold x_X10_readToken
  refine c_skip hT _ _ b0 (fun v1 a hs1 h31 hR => ?_) fuel b0 u (Nat.le_refl _) hb0 (fun i h1 h2 => absurd h1 (by omega)) (Same.rf _) h3
  have haN := hR.2.1
  refine CN_RFx h31 (CN_WFx ?_)
  have hs2 : Same [3, 4, 5, 6] [] u (si v1 5 (nI a)) := hs1.trans (Same_si (by decide))
  have h32 : (si v1 5 (nI a)).1 3 = nI a := (siO (by decide)).trans h31
  have h52 : (si v1 5 (nI a)).1 5 = nI a := siE _ _ _
  generalize si v1 5 (nI a) = v2 at hs2 h32 h52 ⊢
  have hT2 := hT.sm hs2 (by decide) (by decide)
  refine CN_RFx h32 (CN_RFx hT2.2.1 (CN_ite (fun z => CN_RFx h32 (CN_GT ?_)) (fun z => CN_WFx (CN_rt ?_))))
  rotate_left
  · have he : a = N := Nat.le_antisymm haN (Nat.not_lt.mp (fun y => z ((nI_ltI (by omega) (by omega)).mpr y)))
    refine ⟨a, N, hR, Or.inl ⟨he, rfl⟩, hs2.trans (Same_si (by decide)), (siO (by decide)).trans h52, (siO (by decide)).trans (by rw [h32, he]), ?_, fun q => ?_⟩
    · rw [siE]
      unfold tkk
      rw [if_neg (by omega)]
      rfl
    · unfold tkk at q
      rw [if_neg (by omega)] at q
      exact absurd q (by decide)
  have hlt : a < N := (nI_ltI (by omega) (by omega)).mp z
  have ht := (hT2.2.2 a hlt).1
  rw [hT2.gt hlt, e_isLetter ht, ncl_rt]
  by_cases hL : tLe (T a)
  · rw [if_pos hL]
    refine CN_ite (fun z => absurd z (by decide)) (fun _ => CN_cl (CN.mono (?_ : CN x_X10_readWord v2 (fun _ v => TokC T N b0 u v)) (fun r v y => CN_rt y)))
    unfold x_X10_readWord
    refine c_word hT2 _ _ a (fun v3 b hs3 h33 h53 hRb => ?_) fuel a v2 (Nat.le_refl _) haN (fun i h1 h2 => absurd h1 (by omega)) (Same.rf _) rfl h32
    rw [h52] at h53
    refine CN_RFx h33 (CN_RFx h53 ?_)
    rw [nI_sub hRb.1]
    have hb := hRb.2.1
    refine CN_ite (fun z => CN_cl (CN.mono (c_wordKind (hT2.sm hs3 (by decide) (by decide)) h33 h53 hRb.1 hRb.2.1) (fun r v4 y => ?_))) (fun z => CN_WFx (CN_rt ?_))
    · obtain ⟨rfl, rfl⟩ := y
      have h10 := (nI_leI (a := b - a) (b := 10) (by omega) (by decide)).mp z
      have hk : tkk T N a b = wk T a b := by
        unfold tkk
        rw [if_pos hlt, if_pos hL, if_pos h10]
      refine CN_WFx (CN_rt ⟨a, b, hR, Or.inr (Or.inl ⟨hlt, hL, hRb⟩), (hs2.trans hs3).trans (Same_si (by decide)), (siO (by decide)).trans h53, (siO (by decide)).trans h33, ?_, fun q => ?_⟩)
      · rw [siE, hk]
      · rw [hk] at q
        rcases wk_v T a b with y | y
        · omega
        · omega
    · have h10 : ¬ b - a ≤ 10 := fun y => z (nI_le (b := 10) y (by decide))
      have hk : tkk T N a b = 1 := by
        unfold tkk
        rw [if_pos hlt, if_pos hL, if_neg h10]
      refine ⟨a, b, hR, Or.inr (Or.inl ⟨hlt, hL, hRb⟩), (hs2.trans hs3).trans (Same_si (by decide)), (siO (by decide)).trans h53, (siO (by decide)).trans h33, ?_, fun q => ?_⟩
      · rw [siE, hk]
        rfl
      · rw [hk] at q
        exact absurd q (by decide)
  rw [if_neg hL]
  refine CN_ite (fun _ => ?_) (fun z => absurd rfl z)
  rw [e_isDigit ht, ncl_rt]
  by_cases hD : tDi (T a)
  · rw [if_pos hD]
    refine CN_ite (fun z => absurd z (by decide)) (fun _ => CN_cl (CN.mono (?_ : CN x_X10_readNumber v2 (fun _ v => TokC T N b0 u v)) (fun r v y => CN_rt y)))
    unfold x_X10_readNumber
    refine CN_WFx ?_
    have hs0 : Same [3, 4, 5, 6] [] v2 (si v2 6 0) := Same_si (by decide)
    refine c_number (u0 := si v2 6 0) (hT2.sm hs0 (by decide) (by decide)) _ _ a ((siO (by decide)).trans h52) (fun v3 b hs3 h33 h53 h63 hRb => ?_) fuel a _ (Nat.le_refl _) haN (fun i h1 h2 => absurd h1 (by omega)) (Same.rf _) ((siO (by decide)).trans h52) ?_ ((siO (by decide)).trans h32)
    · refine CN_RFx h33 (CN_RFx h53 ?_)
      rw [nI_sub hRb.1]
      have hb := hRb.2.1
      refine CN_ite (fun z => CN_WFx (CN_rt ?_)) (fun z => CN_WFx (CN_rt ?_))
      · have h10 := (nI_leI (a := b - a) (b := 4) (by omega) (by decide)).mp z
        have hk : tkk T N a b = 3 := by
          unfold tkk
          rw [if_pos hlt, if_neg hL, if_pos hD, if_pos h10]
        refine ⟨a, b, hR, Or.inr (Or.inr (Or.inl ⟨hlt, hL, hD, hRb⟩)), ((hs2.trans hs0).trans hs3).trans (Same_si (by decide)), (siO (by decide)).trans h53, (siO (by decide)).trans h33, ?_, fun q => (siO (by decide)).trans h63⟩
        rw [siE, hk]
        rfl
      · have h10 : ¬ b - a ≤ 4 := fun y => z (nI_le (b := 4) y (by decide))
        have hk : tkk T N a b = 1 := by
          unfold tkk
          rw [if_pos hlt, if_neg hL, if_pos hD, if_neg h10]
        refine ⟨a, b, hR, Or.inr (Or.inr (Or.inl ⟨hlt, hL, hD, hRb⟩)), ((hs2.trans hs0).trans hs3).trans (Same_si (by decide)), (siO (by decide)).trans h53, (siO (by decide)).trans h33, ?_, fun q => ?_⟩
        · rw [siE, hk]
          rfl
        · rw [hk] at q
          exact absurd q (by decide)
    · rw [siE, Nat.sub_self]
      rfl
  rw [if_neg hD]
  refine CN_ite (fun _ => CN_RFx h32 (CN_WFx ?_)) (fun z => absurd rfl z)
  rw [nI_1]
  have hs4 : Same [3, 4, 5, 6] [] v2 (si v2 3 (nI (a + 1))) := Same_si (by decide)
  refine CN_cl (CN.mono (c_mark (b := a + 1) (hT2.sm hs4 (by decide) (by decide)) (siE _ _ _) (by omega) ht) (fun r v5 y => ?_))
  obtain ⟨rfl, y2, y3⟩ := y
  have hk : ∀ b, tkk T N a b = mkk (T a) (eqn T N (a + 1)) := fun b => by
    unfold tkk
    rw [if_pos hlt, if_neg hL, if_neg hD]
  refine CN_WFx (CN_rt ⟨a, a + 1 + wide (T a) (eqn T N (a + 1)), hR, Or.inr (Or.inr (Or.inr ⟨hlt, hL, hD, rfl⟩)), ((hs2.trans hs4).trans (y2.mono (by decide) (by decide))).trans (Same_si (by decide)), (siO (by decide)).trans ((y2.1 5 (by decide)).trans ((siO (by decide)).trans h52)), (siO (by decide)).trans y3, ?_, fun q => ?_⟩)
  · rw [siE, hk]
  · rw [hk] at q
    have : ∀ t : Nat, ∀ e : Bool, ¬ mkk t e = 3 := fun t e => by
      unfold mkk
      repeat' split
      all_goals decide
    exact absurd q (this _ _)
end
