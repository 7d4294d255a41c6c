/-! ===== draw, both sides in step: what a placing leaves; the best place ===== -/
def FrD (c : Nat) (B0 B : Nat → Int32) : Prop := ∀ j, ¬ (6 + 36 * c ≤ j ∧ j < 40 + 36 * c) → (∀ f, f < 96 → B0 (148 + 7 * f) = nI c → ¬ j = 153 + 7 * f) → B j = B0 j
theorem FrD.up1 {c j : Nat} {B0 B : Nat → Int32} (h : FrD c B0 B) (x : Int32) (hj : 6 + 36 * c ≤ j ∧ j < 40 + 36 * c) : FrD c B0 (upd B j x) := fun k a b => by
  rw [upd_n (fun z => a (by omega))]
  exact h k a b
theorem FrD.up2 {c f : Nat} {B0 B : Nat → Int32} (h : FrD c B0 B) (x : Int32) (hf : f < 96) (hc : B0 (148 + 7 * f) = nI c) : FrD c B0 (upd B (153 + 7 * f) x) := fun k a b => by
  rw [upd_n (b f hf hc)]
  exact h k a b
theorem FrD.ft {c f k : Nat} {B0 B : Nat → Int32} (h : FrD c B0 B) (hk : k < 5 ∨ k = 6) (hc : c < 4) : B (148 + 7 * f + k) = B0 (148 + 7 * f + k) := h _ (by omega) (fun f2 _ _ => by omega)
/-- the book tells the places that the reference has given so far -/
def SD (B0 : Nat → Int32) (w : GS) (c S : Nat) (B : Nat → Int32) (v : GS) : Prop := (∀ p, p < S → Am v 14 (32 * c + p) (B (8 + 36 * c + p))) ∧ (∀ f, f < nF w → Am v 10 f (B (153 + 7 * f))) ∧ FrD c B0 B ∧ B (7 + 36 * c) = nI S ∧ B (6 + 36 * c) = 2
theorem SD.place {B0 B : Nat → Int32} {w v : GS} {c S f p : Nat} (h : SD B0 w c S B v) (hc : c < 4) (hS : S ≤ 32) (h96 : nF w ≤ 96) (hf : f < nF w) (hp : p < S) (hcl : B0 (148 + 7 * f) = nI c) : SD B0 w c S (upd (upd B (8 + 36 * c + p) (nI f)) (153 + 7 * f) (nI p)) (swd 10 (nI f) (nI p) (swd 14 (nI (32 * c + p)) (nI f) v)) := by
  obtain ⟨a, b, d, e⟩ := h
  refine ⟨fun q hq => ?_, fun g hg => ?_, (d.up1 _ (by omega)).up2 _ (by omega) hcl, ?_⟩
  · rw [upd_n (by omega)]
    refine Am.o (by decide) ?_
    by_cases he : q = p
    · rw [he, upd_e]
      exact sw_A (by omega)
    · rw [upd_n (by omega)]
      exact (a q hq).sw (by omega) (fun z => by omega)
  · by_cases he : g = f
    · rw [he, upd_e]
      exact sw_A (by omega)
    · rw [upd_n (by omega), upd_n (by omega)]
      exact ((b g hg).o (by decide)).sw (by omega) (fun z => he z.2)
  · rw [upd_n (by omega), upd_n (by omega), upd_n (by omega), upd_n (by omega)]
    exact e
theorem SD.w {B0 B : Nat → Int32} {w v : GS} {c S k : Nat} {i x : Int32} (h : SD B0 w c S B v) (hk : ¬ k = 14 ∧ ¬ k = 10) : SD B0 w c S B (swd k i x v) := ⟨fun p hp => (h.1 p hp).o (fun z => hk.1 z.symm), fun f hf => (h.2.1 f hf).o (fun z => hk.2 z.symm), h.2.2⟩
theorem SD.st1 {B0 B : Nat → Int32} {w v : GS} {c S f p : Nat} (h : SD B0 w c S B v) (hc : c < 4) (hS : S ≤ 32) (h96 : nF w ≤ 96) (hf : f < nF w) (hp : p < S) (hcl : B0 (148 + 7 * f) = nI c) : SD B0 w c S (upd (upd B (8 + 36 * c + p) (nI f)) (153 + 7 * f) (nI p)) (st1 c f p v) := (h.place hc hS h96 hf hp hcl).w (by decide)
/-! conditions of a fighter -/
theorem e_isWeighed {B0 B : Nat → Int32} {u : MS} {w : GS} {c f : Nat} (hB : u.2 0 = B) (hF : FrD c B0 B) (hR : R0 B0 w) (hf : f < nF w) (hf96 : f < 96) (hc : c < 4) : x_X8_isWeighed (nI f) (nI c) u = some (if due w c f = true then 1 else 0, u) := by
  obtain ⟨a5, -, -, a8, -⟩ := hR.2.2.1 f hf
  have b5 : B (148 + 7 * f) = B0 (148 + 7 * f) := hF.ft (k := 0) (Or.inl (by decide)) hc
  have b8 : B (148 + 7 * f + 3) = B0 (148 + 7 * f + 3) := hF.ft (k := 3) (Or.inl (by decide)) hc
  have e3 : 148 + 7 * f + 3 = 151 + 7 * f := by omega
  rw [e3] at b8
  have g : ∀ k, k < 7 → nGT 0 2088 (nI (148 + 7 * f + k)) u = some (B (148 + 7 * f + k), u) := fun k hk => by
    show some (rg (u.2 0) 2088 (nI (148 + 7 * f + k)), u) = _
    rw [rdB _ (by omega), hB]
  unfold x_X8_isWeighed
  rw [e_ofFighter f 0 (show (0 : Int32) = nI 0 from rfl), ncl_rt]
  refine ncl_eq (g 0 (by decide)) ?_
  rw [Nat.add_zero, b5]
  by_cases h5 : B0 (148 + 7 * f) = nI c
  · rw [if_pos h5, e_ofFighter f 3 (show (3 : Int32) = nI 3 from rfl), ncl_rt]
    refine ncl_eq (g 3 (by decide)) ?_
    rw [e3, b8]
    by_cases h8 : B0 (151 + 7 * f) = 1
    · rw [if_pos h8, if_pos (due_iff.mpr ⟨a5.2.trans h5, a8.2.trans h8⟩)]
      rfl
    · rw [if_neg h8, if_neg (fun z => h8 (a8.2.symm.trans (due_iff.mp z).2))]
      rfl
  · rw [if_neg h5, if_neg (fun z => h5 (a5.2.symm.trans (due_iff.mp z).1))]
    rfl
theorem c_weighedOf {B0 : Nat → Int32} {u : MS} {w : GS} {c : Nat} (hB : u.2 0 = B0) (hR : R0 B0 w) (hI : Inv w) (hc : c < 4) : CN (x_X8_weighedOf (nI c)) u (fun r v => r = nI (cb (due w c) (nF w)) ∧ v = u) := by
  have h96 := hI.1.1.2.2
  have eF : B0 2 = nI (nF w) := hR.nf.symm.trans hI.1.1.2.1
  have hF : FrD c B0 B0 := fun _ _ _ => rfl
  have hlp : ∀ (n f : Nat), f ≤ nF w → CN (xl_X8_weighedOf_4 n (nI c) (nI (cb (due w c) f)) (nI f) (fun v1 v2 v3 => nrt v2)) u (fun r v => r = nI (cb (due w c) (nF w)) ∧ v = u) := by
    intro n
    induction n with
    | zero => exact fun f _ r w e => by cases e
    | succ n ih =>
      intro f hf
      unfold xl_X8_weighedOf_4
      refine CN_rd e_people ?_
      rw [hB, eF]
      by_cases hle : nF w ≤ f
      · have : f = nF w := by omega
        subst this
        exact CN_ite (fun _ => CN_rt ⟨rfl, rfl⟩) (fun z => absurd (Int32.le_refl _) z)
      · refine CN_ite (fun z => absurd ((nI_leI (by omega) (by omega)).mp z) hle) (fun _ => CN_rd (e_isWeighed hB hF hR (by omega) (by omega) hc) ?_)
        by_cases hd : due w c f = true
        · rw [if_pos hd]
          refine CN_ite (fun z => absurd z (by decide)) (fun _ => CN_li (CN_li ?_))
          have h9 := ih (f + 1) (by omega)
          rw [cb_t hd] at h9
          rw [nI_1, nI_1]
          exact h9
        · rw [if_neg hd]
          refine CN_ite (fun _ => CN_li (CN_li ?_)) (fun z => absurd rfl z)
          have h9 := ih (f + 1) (by omega)
          rw [cb_f hd] at h9
          have e0 : nI (cb (due w c) f) + 0 = nI (cb (due w c) f) := nI_add _ 0
          rw [nI_1, e0]
          exact h9
  unfold x_X8_weighedOf
  exact hlp fuel 0 (by omega)
/-! the round of a meeting -/
def mr (p q : Nat) : Nat := if p / 2 = q / 2 then 0 else if p / 4 = q / 4 then 1 else if p / 8 = q / 8 then 2 else if p / 16 = q / 16 then 3 else 4
def bl (x : Nat) : Nat := if x = 0 then 0 else if x < 2 then 1 else if x < 4 then 2 else if x < 8 then 3 else 4
theorem mr_bl : ∀ p < 32, ∀ q < 32, bl ((p ^^^ q) / 2) = mr p q ∧ (p ^^^ q) / 2 < 16 ∧ (nI p ^^^ nI q) >>> ((1 : Int32) &&& 31) = nI ((p ^^^ q) / 2) := by decide +kernel
theorem bl_half : ∀ x < 16, ¬ x = 0 → bl x = bl (x / 2) + 1 ∧ nI x >>> ((1 : Int32) &&& 31) = nI (x / 2) := by decide +kernel
theorem mr_le : ∀ p < 32, ∀ q < 32, mr p q ≤ 4 := by decide +kernel
theorem mr_shr : ∀ r < 5, ∀ p < 32, ∀ q < 32, (nI p >>> ((nI r + 1) &&& 31) = nI q >>> ((nI r + 1) &&& 31)) ↔ mr p q ≤ r := by decide +kernel
theorem c_mr {u : MS} {p q : Nat} (hp : p < 32) (hq : q < 32) : CN (x_X2_meetingRound (nI p) (nI q)) u (fun k v => k = nI (mr p q) ∧ v = u) := by
  obtain ⟨h1, h2, h3⟩ := mr_bl p hp q hq
  have hlp : ∀ (n r x : Nat), x < 16 → CN (xl_X2_meetingRound_8 n (nI p) (nI q) (nI r) (nI x) (fun v0 v1 v2 v3 => nrt v2)) u (fun k v => k = nI (r + bl x) ∧ v = u) := by
    intro n
    induction n with
    | zero => exact fun r x _ r w e => by cases e
    | succ n ih =>
      intro r x hx
      unfold xl_X2_meetingRound_8
      by_cases h0 : x = 0
      · subst h0
        exact CN_ite (fun _ => CN_rt ⟨rfl, rfl⟩) (fun z => absurd (Int32.le_refl _) z)
      · obtain ⟨b1, b2⟩ := bl_half x hx h0
        refine CN_ite (fun z => absurd ((nI_leI (a := x) (b := 0) (by omega) (by decide)).mp z) (by omega)) (fun _ => CN_li (CN_li ?_))
        rw [b2, nI_1, b1, show r + (bl (x / 2) + 1) = r + 1 + bl (x / 2) by omega]
        exact ih (r + 1) (x / 2) (by omega)
  unfold x_X2_meetingRound
  refine CN_li ?_
  rw [h3]
  have h9 := hlp fuel 0 _ h2
  rw [h1, Nat.zero_add] at h9
  exact h9
theorem r_mr (v : GS) (p q : Nat) (hp : p < 32) (hq : q < 32) (v1 v2 v3 v4 v5 v6 v8 v10 : Int32) (K : Int32 → Int32 → Int32 → Int32 → Int32 → Int32 → Int32 → Int32 → Int32 → Int32 → Int32 → PG Int32) (R : Int32 → Prop) (hK : Rd (K v1 v2 v3 v4 v5 v6 (nI p) v8 (nI q) v10 (nI (mr p q))) v R) :
    ∀ (t r m : Nat), r + t = 4 → t < m → r ≤ mr p q → Rd (lp_bestPlace_87 m v1 v2 v3 v4 v5 v6 (nI p) v8 (nI q) v10 (nI r) K) v R := by
  have h4 := mr_le p hp q hq
  intro t
  induction t with
  | zero =>
    intro r m h1 h2 h3
    cases m with
    | zero => omega
    | succ m =>
      have e4 : mr p q = 4 := by omega
      have : r = 4 := by omega
      subst this
      unfold lp_bestPlace_87
      rw [e4] at hK
      exact Rd_ite (fun _ => hK) (fun z => absurd ((mr_shr 4 (by decide) p hp q hq).mpr (by omega)) z)
  | succ t ih =>
    intro r m h1 h2 h3
    cases m with
    | zero => omega
    | succ m =>
      unfold lp_bestPlace_87
      have hiff := mr_shr r (by omega) p hp q hq
      refine Rd_ite (fun z => ?_) (fun z => Rd_li ?_)
      · have e : mr p q = r := by
          have := hiff.mp z
          omega
        rw [e] at hK
        exact hK
      · rw [nI_1]
        refine ih (r + 1) m (by omega) (by omega) ?_
        have : ¬ mr p q ≤ r := fun y => z (hiff.mpr y)
        omega
theorem l_first {B0 B : Nat → Int32} {u : MS} {w v : GS} {c L n p k : Nat} {P : Nat → Bool} (hB : u.2 0 = B) (hR : R0 B0 w) (hG : iG w) (h96 : nF w ≤ 96) (hc : c < 4) (hL : L ≤ 5) (hn : n ≤ 2 ^ L) (hT : TD w v c L n P) (hS : SD B0 w c (2 ^ L) B v) (hp : p < 32) (v4 v5 v6 : Int32) : ∀ (t q m f b : Nat), q + t = 2 ^ L → t < m → b ≤ 99 → CN (xl_X2_firstMeeting_21 f (nI c) (nI k) (nI p) (nI b) (nI (2 ^ L)) (nI q) (fun v1 v2 v3 v4 v5 v6 => nrt v4)) u (fun r u' => u' = u ∧ ∃ b', b' ≤ 99 ∧ r = nI b' ∧ ∀ (K : Int32 → Int32 → Int32 → Int32 → Int32 → Int32 → Int32 → Int32 → Int32 → PG Int32) (R : Int32 → Prop), Rd (K (nI c) (nI k) (nI (2 ^ L)) v4 v5 v6 (nI p) (nI b') (nI (2 ^ L))) v R → Rd (lp_bestPlace_44 m (nI c) (nI k) (nI (2 ^ L)) v4 v5 v6 (nI p) (nI b) (nI q) K) v R) := by
  have h32 := pow_lt32 hL
  intro t
  induction t with
  | zero =>
    intro q m f b h1 h2 hb
    cases f with
    | zero => exact fun r w e => by cases e
    | succ f =>
      cases m with
      | zero => omega
      | succ m =>
        have : q = 2 ^ L := by omega
        subst this
        unfold xl_X2_firstMeeting_21 lp_bestPlace_44
        exact CN_ite (fun _ => CN_rt ⟨rfl, b, hb, rfl, fun K R hK => Rd_ite (fun _ => hK) (fun z => absurd (Int32.le_refl _) z)⟩) (fun z => absurd (Int32.le_refl _) z)
  | succ t ih =>
    intro q m f b h1 h2 hb
    cases f with
    | zero => exact fun r w e => by cases e
    | succ f =>
      cases m with
      | zero => omega
      | succ m =>
        have hnext : ∀ b, b ≤ 99 → CN (nli (nI q + 1) (fun x => xl_X2_firstMeeting_21 f (nI c) (nI k) (nI p) (nI b) (nI (2 ^ L)) x (fun v1 v2 v3 v4 v5 v6 => nrt v4))) u (fun r u' => u' = u ∧ ∃ b', b' ≤ 99 ∧ r = nI b' ∧ ∀ (K : Int32 → Int32 → Int32 → Int32 → Int32 → Int32 → Int32 → Int32 → Int32 → PG Int32) (R : Int32 → Prop), Rd (K (nI c) (nI k) (nI (2 ^ L)) v4 v5 v6 (nI p) (nI b') (nI (2 ^ L))) v R → Rd (pli (nI q + 1) (fun x => lp_bestPlace_44 m (nI c) (nI k) (nI (2 ^ L)) v4 v5 v6 (nI p) (nI b) x K)) v R) := fun b hb => by
          refine CN_li ?_
          rw [nI_1]
          exact ih (q + 1) m f b (by omega) (by omega) hb
        have hle : ¬ nI (2 ^ L) ≤ nI q := fun z => absurd ((nI_leI (by omega) (by omega)).mp z) (by omega)
        have i1 : (4 : Int32) + nI q = nI (4 + q) := nI_add 4 q
        have ei : 4 + 36 * c + (4 + q) = 8 + 36 * c + q := by omega
        have g : nGT 0 2088 (nI (8 + 36 * c + q)) u = some (B (8 + 36 * c + q), u) := by
          show some (rg (u.2 0) 2088 (nI (8 + 36 * c + q)), u) = _
          rw [rdB _ (by omega), hB]
        have h14 := hS.1 q (by omega)
        have hw : B (8 + 36 * c + q) = -1 ∨ ∃ g, g < nF w ∧ B (8 + 36 * c + q) = nI g := by
          obtain ⟨x, hx, hxq⟩ := rowf_sur L (by omega) q (by omega) (by omega)
          rw [← hxq] at h14
          rcases Nat.lt_or_ge x.val n with h5 | h5
          · rcases hT.2.2.2.2.2.1 x.val h5 with ⟨-, z⟩ | ⟨-, f, z1, -, -, z2, -⟩
            · rw [hxq] at h14 z; exact Or.inl (h14.inj z)
            · rw [hxq] at h14 z2; exact Or.inr ⟨f, z1, h14.inj z2⟩
          · have z := (hT.2.2.2.2.1 x.val h5 hx).2
            rw [hxq] at h14 z; exact Or.inl (h14.inj z)
        unfold xl_X2_firstMeeting_21
        refine CN_ite (fun z => absurd z hle) (fun _ => ?_)
        rw [i1, e_ofClass c (4 + q) rfl, ncl_rt, ei]
        refine CN_rd g ?_
        rcases hw with hw | ⟨h, hh, hw⟩
        · refine CN_ite (fun _ => CN.mono (hnext b hb) (fun r u' y => ?_)) (fun z => absurd hw z)
          obtain ⟨y1, b', y2, y3, y4⟩ := y
          refine ⟨y1, b', y2, y3, fun K R hK => ?_⟩
          rw [hw] at h14
          unfold lp_bestPlace_44
          refine Rd_ite (fun z => absurd z hle) (fun _ => ?_)
          rw [ix32]
          exact Rd_rdN rfl (by omega) (by decide) h14 (Rd_ite (fun _ => y4 K R hK) (fun z => absurd rfl z))
        · have hne : ¬ nI h = -1 := nI_ne_1 (by omega)
          refine CN_ite (fun z => absurd (hw.symm.trans z) hne) (fun _ => ?_)
          have g2 : nGT 0 2088 (nI (148 + 7 * h + 1)) u = some (B0 (149 + 7 * h), u) := by
            show some (rg (u.2 0) 2088 (nI (148 + 7 * h + 1)), u) = _
            rw [rdB _ (by omega), hB, hS.2.2.1.ft (k := 1) (Or.inl (by decide)) hc, show 148 + 7 * h + 1 = 149 + 7 * h by omega]
          rw [hw, e_ofFighter h 1 (show (1 : Int32) = nI 1 from rfl), ncl_rt]
          refine CN_rd g2 ?_
          rw [hw] at h14
          have h6 := hT.1.at (by decide) (by decide) (by decide) (hR.2.2.1 h hh).2.1
          have ref : ∀ (K : Int32 → Int32 → Int32 → Int32 → Int32 → Int32 → Int32 → Int32 → Int32 → PG Int32) (R : Int32 → Prop), Rd (if B0 (149 + 7 * h) = nI k then lp_bestPlace_87 fuel (nI c) (nI k) (nI (2 ^ L)) v4 v5 v6 (nI p) (nI b) (nI q) (nI h) 0 (fun v1 v2 v3 v4 v5 v6 v7 v8 v9 v10 v11 => pli (if v11 < v8 then v11 else v8) (fun x_23 => pli (v9 + 1) (fun x_25 => lp_bestPlace_44 m v1 v2 v3 v4 v5 v6 v7 x_23 x_25 K))) else pli (nI q + 1) (fun x_27 => lp_bestPlace_44 m (nI c) (nI k) (nI (2 ^ L)) v4 v5 v6 (nI p) (nI b) x_27 K)) v R → Rd (lp_bestPlace_44 (m + 1) (nI c) (nI k) (nI (2 ^ L)) v4 v5 v6 (nI p) (nI b) (nI q) K) v R := fun K R hK => by
            unfold lp_bestPlace_44
            refine Rd_ite (fun z => absurd z hle) (fun _ => ?_)
            rw [ix32]
            exact Rd_rdN rfl (by omega) (by decide) h14 (Rd_ite (fun z => absurd z hne) (fun _ => Rd_rdN rfl (by omega) (by decide) h6 hK))
          refine CN_ite (fun hk => CN_cl (CN.mono (c_mr hp (by omega)) (fun r u' y => ?_))) (fun hk => CN.mono (hnext b hb) (fun r u' y => ?_))
          · obtain ⟨y1, y2⟩ := y
            rw [y1, y2]
            have hm := mr_le p hp q (by omega)
            have hmin : ∃ b2, b2 ≤ 99 ∧ (if nI (mr p q) < nI b then nI (mr p q) else nI b) = nI b2 := by
              by_cases z : nI (mr p q) < nI b
              · exact ⟨mr p q, by omega, if_pos z⟩
              · exact ⟨b, hb, if_neg z⟩
            obtain ⟨b2, hb2, eb2⟩ := hmin
            refine CN_li ?_
            rw [eb2]
            refine CN.mono (hnext b2 hb2) (fun r u' y => ?_)
            obtain ⟨y1, b', y2, y3, y4⟩ := y
            refine ⟨y1, b', y2, y3, fun K R hK => ref K R ?_⟩
            rw [if_pos hk]
            refine r_mr v p q hp (by omega) _ _ _ _ _ _ _ _ _ R (Rd_li ?_) 4 0 fuel (by omega) (by unfold fuel; omega) (by omega)
            rw [eb2]
            exact y4 K R hK
          · obtain ⟨y1, b', y2, y3, y4⟩ := y
            refine ⟨y1, b', y2, y3, fun K R hK => ref K R ?_⟩
            rw [if_neg hk]
            exact y4 K R hK

