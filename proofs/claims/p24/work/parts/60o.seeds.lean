/-! ===== the seeds' places ===== -/
def sdn (w : GS) (f : Nat) : Nat := (w.1.2 9 f).toNatClampNeg
def PS (w : GS) (c q k f : Nat) : Bool := decide (due w c f = true ∧ 1 ≤ sdn w f ∧ (sdn w f < q ∨ (sdn w f = q ∧ f < k)))
theorem PS_iff {w : GS} {c q k f : Nat} : PS w c q k f = true ↔ (due w c f = true ∧ 1 ≤ sdn w f ∧ (sdn w f < q ∨ (sdn w f = q ∧ f < k))) := decide_eq_true_iff
theorem PS_ext {w : GS} {c q k q2 k2 f : Nat} (h : (due w c f = true ∧ 1 ≤ sdn w f ∧ (sdn w f < q ∨ (sdn w f = q ∧ f < k))) ↔ (due w c f = true ∧ 1 ≤ sdn w f ∧ (sdn w f < q2 ∨ (sdn w f = q2 ∧ f < k2)))) : PS w c q k f = PS w c q2 k2 f := by
  unfold PS
  exact decide_eq_decide.mpr h
theorem DF.im2 {c : Nat} {w v : GS} (hd : DF c w v) (hF : iF w) : Im v 2 (nI (nF w)) := ⟨by rw [hd.2.1]; exact hF.1, by rw [hd.1]; exact hF.2.1⟩
def Fre (v : GS) (L n k : Nat) : Prop := ∀ x, k ≤ x → x < n → Am v 60 (rowf L x) 0
theorem ok_draws230 {w : GS} (h : Inv w) (c L n q : Nat) (hc : c < 4) (hL : L ≤ 5) (hnd : n = cb (due w c) (nF w)) (hn : n ≤ 2 ^ L) (hq1 : 1 ≤ q) (hq8 : q ≤ 8) (v2 : Int32) (K : Int32 → Int32 → Int32 → Int32 → Int32 → PG Int32) (Q : Int32 → GS → Prop)
    (hK : ∀ v v5, TD w v c L n (PS w c (q + 1) 0) → Fre v L n (cb (PS w c (q + 1) 0) (nF w)) → Ok (K (nI c) v2 (nI (cb (PS w c (q + 1) 0) (nF w))) (nI q) v5) v Q) :
    ∀ (t k m : Nat) (v : GS), k + t = nF w → t < m → TD w v c L n (PS w c q k) → Fre v L n (cb (PS w c q k) (nF w)) → Ok (lp_draws_230 m (nI c) v2 (nI (cb (PS w c q k) (nF w))) (nI q) (nI k) K) v Q := by
  have h32 := pow_lt32 hL
  have h96 := h.1.1.2.2
  intro t
  induction t with
  | zero =>
    intro k m v h1 h2 hT hFr
    have hk : k = nF w := by omega
    cases m with
    | zero => omega
    | succ m =>
      unfold lp_draws_230
      rw [hk] at hT hFr ⊢
      refine Ok_rfN (hT.1.im2 h.1.1) (Ok_ite (fun _ => ?_) (fun z => absurd (Int32.le_refl _) z))
      have he : ∀ f, f < nF w → PS w c q (nF w) f = PS w c (q + 1) 0 f := by
        intro f hf
        refine PS_ext ⟨fun z => ⟨z.1, z.2.1, ?_⟩, fun z => ⟨z.1, z.2.1, ?_⟩⟩
        · rcases z.2.2 with z2 | z2
          · exact Or.inl (by omega)
          · exact Or.inl (by omega)
        · rcases z.2.2 with z2 | z2
          · by_cases h9 : sdn w f = q
            · exact Or.inr ⟨h9, hf⟩
            · exact Or.inl (by omega)
          · exact absurd z2.2 (Nat.not_lt_zero _)
      have e2 := cb_congr (nF w) he
      rw [e2] at hFr ⊢
      exact hK v _ (hT.congr he) hFr
  | succ t ih =>
    intro k m v h1 h2 hT hFr
    cases m with
    | zero => omega
    | succ m =>
      unfold lp_draws_230
      refine Ok_rfN (hT.1.im2 h.1.1) (Ok_ite (fun z => absurd z (nI_ge (by omega) (by omega))) (fun _ => ?_))
      obtain ⟨⟨c2, hc2, h5⟩, -, -, m8, ⟨q9, hq9, h9⟩, -⟩ := h.1.2.2.1 k (by omega)
      have hsk : sdn w k = q9 := by unfold sdn; rw [h9.2]; exact nI_clamp (by omega)
      have hskip : ¬ (due w c k = true ∧ sdn w k = q) → Ok (pli (nI k + 1) (fun x => lp_draws_230 m (nI c) v2 (nI (cb (PS w c q k) (nF w))) (nI q) x K)) v Q := by
        intro hno
        have he : ∀ f, f < nF w → PS w c q k f = PS w c q (k + 1) f := by
          intro f hf
          refine PS_ext ⟨fun z => ⟨z.1, z.2.1, z.2.2.imp id (fun y => ⟨y.1, by omega⟩)⟩, fun z => ⟨z.1, z.2.1, z.2.2.imp id (fun y => ⟨y.1, ?_⟩)⟩⟩
          by_cases hz : f = k
          · subst hz
            exact absurd ⟨z.1, y.1⟩ hno
          · omega
        refine Ok_li ?_
        have e2 := cb_congr (nF w) he
        rw [nI_1, e2]
        rw [e2] at hFr
        exact ih (k + 1) m v (by omega) (by omega) (hT.congr he) hFr
      refine Ok_rdN rfl (by omega) (by decide) (hT.1.at (by decide) (by decide) (by decide) (Am.val h5.1)) (Ok_ite (fun e5 => ?_) (fun e5 => hskip (fun z => e5 (due_iff.mp z.1).1)))
      refine Ok_rdN rfl (by omega) (by decide) (hT.1.at (by decide) (by decide) (by decide) (Am.val m8)) (Ok_ite (fun e8 => ?_) (fun e8 => hskip (fun z => e8 (due_iff.mp z.1).2)))
      refine Ok_rdN rfl (by omega) (by decide) (hT.1.at (by decide) (by decide) (by decide) h9) (Ok_ite (fun e9 => ?_) (fun e9 => hskip (fun z => e9 (by rw [← hsk, z.2]))))
      have hqq : q9 = q := (nI_eq (by omega) (by omega)).mp e9
      have hdue : due w c k = true := due_iff.mpr ⟨e5, e8⟩
      have hP : PS w c q k k = false := by
        cases hz : PS w c q k k with
        | false => rfl
        | true =>
          have := PS_iff.mp hz
          rcases this.2.2 with z | z
          · omega
          · omega
      have hQ : PS w c q (k + 1) k = true := PS_iff.mpr ⟨hdue, by omega, Or.inr ⟨by omega, by omega⟩⟩
      have hPQ : ∀ g, ¬ g = k → PS w c q (k + 1) g = PS w c q k g := by
        intro g hg
        refine PS_ext ⟨fun z => ⟨z.1, z.2.1, z.2.2.imp id (fun y => ⟨y.1, by omega⟩)⟩, fun z => ⟨z.1, z.2.1, z.2.2.imp id (fun y => ⟨y.1, by omega⟩)⟩⟩
      have hlt : cb (PS w c q k) (nF w) < n := by
        rw [hnd]
        exact cb_sub_lt (nF w) k (by omega) (fun g _ z => (PS_iff.mp z).1) hP hdue
      have hcb := cb_add (P := PS w c q k) (Q := PS w c q (k + 1)) k hP hQ hPQ (nF w) (by omega)
      refine Ok_rdN rfl (by omega) (by decide) (hT.2.2.2.1 _ (by omega)) ?_
      have hp := rowf_lt L (by omega) (cb (PS w c q k) (nF w)) (by omega) (by omega)
      refine Ok_cl (ok_settle c k _ hc (by omega) (by omega) _ (Ok_li (Ok_li ?_)))
      rw [nI_1, nI_1]
      have hT2 := td_settle hT hc hL hn h96 (cb (PS w c q k) (nF w)) k hlt (hFr _ (Nat.le_refl _) hlt) (by omega) hP hQ hPQ ⟨h5.1, e5⟩
      have h8 := ih (k + 1) m _ (by omega) (by omega) hT2
      rw [hcb] at h8
      refine h8 (fun x hx1 hx2 => st1_60n c k _ v (by omega) _ 0 (fun he => ?_) (hFr x (by omega) hx2))
      have := rowf_inj L (by omega) x (by omega) (cb (PS w c q k) (nF w)) (by omega) ⟨by omega, by omega, he⟩
      omega
theorem ok_draws220 {w : GS} (h : Inv w) (c L n : Nat) (hc : c < 4) (hL : L ≤ 5) (hnd : n = cb (due w c) (nF w)) (hn : n ≤ 2 ^ L) (v2 : Int32) (K : Int32 → Int32 → Int32 → Int32 → PG Int32) (Q : Int32 → GS → Prop)
    (hK : ∀ v v3 v4, TD w v c L n (PS w c 9 0) → Ok (K (nI c) v2 v3 v4) v Q) :
    ∀ (t q m : Nat) (v : GS), q + t = 9 → t < m → 1 ≤ q → TD w v c L n (PS w c q 0) → Fre v L n (cb (PS w c q 0) (nF w)) → Ok (lp_draws_220 m (nI c) v2 (nI (cb (PS w c q 0) (nF w))) (nI q) K) v Q := by
  intro t
  induction t with
  | zero =>
    intro q m v h1 h2 hq hT hFr
    cases m with
    | zero => omega
    | succ m =>
      have : q = 9 := by omega
      subst this
      unfold lp_draws_220
      exact Ok_ite (fun _ => hK v _ _ hT) (fun z => absurd (by decide) z)
  | succ t ih =>
    intro q m v h1 h2 hq hT hFr
    cases m with
    | zero => omega
    | succ m =>
      unfold lp_draws_220
      refine Ok_ite (fun z => absurd z (nI_nlt (b := q) (a := 8) (by omega) (by decide))) (fun _ => ?_)
      refine ok_draws230 h c L n q hc hL hnd hn hq (by omega) v2 _ Q (fun v' v5 g1 g2 => Ok_li ?_) (nF w) 0 fuel v (by omega) (by have := h.1.1.2.2; unfold fuel; omega) hT hFr
      rw [nI_1]
      exact ih (q + 1) m v' (by omega) (by omega) (by omega) g1 g2
/-! ===== bestPlace ===== -/
theorem shr_end : ∀ p < 32, ∀ q < 32, nI p >>> ((nI 4 + 1) &&& 31) = nI q >>> ((nI 4 + 1) &&& 31) := by decide +kernel
theorem ok_bp87 (v : GS) (p q : Nat) (hp : p < 32) (hq : q < 32) (v1 v2 v3 v4 v5 v6 v8 v10 : Int32) (K : Int32 → Int32 → Int32 → Int32 → Int32 → Int32 → Int32 → Int32 → Int32 → Int32 → Int32 → PG Int32) (R : Int32 → Prop) (hK : ∀ r, r ≤ 4 → Rd (K v1 v2 v3 v4 v5 v6 (nI p) v8 (nI q) v10 (nI r)) v R) :
    ∀ (t r m : Nat), r + t = 4 → t < m → Rd (lp_bestPlace_87 m v1 v2 v3 v4 v5 v6 (nI p) v8 (nI q) v10 (nI r) K) v R := by
  intro t
  induction t with
  | zero =>
    intro r m h1 h2
    cases m with
    | zero => omega
    | succ m =>
      have : r = 4 := by omega
      subst this
      unfold lp_bestPlace_87
      exact Rd_ite (fun _ => hK 4 (by omega)) (fun z => absurd (shr_end p hp q hq) z)
  | succ t ih =>
    intro r m h1 h2
    cases m with
    | zero => omega
    | succ m =>
      unfold lp_bestPlace_87
      refine Rd_ite (fun _ => hK r (by omega)) (fun _ => Rd_li ?_)
      rw [nI_1]
      exact ih (r + 1) m (by omega) (by omega)
theorem ok_bp44 {w v : GS} (hG : iG w) (h96 : nF w ≤ 96) (c L n : Nat) (P : Nat → Bool) (hc : c < 4) (hL : L ≤ 5) (hn : n ≤ 2 ^ L) (hT : TD w v c L n P) (p : Nat) (hp : p < 32) (v2 v4 v5 v6 : Int32) (K : Int32 → Int32 → Int32 → Int32 → Int32 → Int32 → Int32 → Int32 → Int32 → PG Int32) (R : Int32 → Prop) (hK : ∀ b v9, b ≤ 99 → Rd (K (nI c) v2 (nI (2 ^ L)) v4 v5 v6 (nI p) (nI b) v9) v R) :
    ∀ (t q m b : Nat), q + t = 2 ^ L → t < m → b ≤ 99 → Rd (lp_bestPlace_44 m (nI c) v2 (nI (2 ^ L)) v4 v5 v6 (nI p) (nI b) (nI q) K) v R := by
  have h32 := pow_lt32 hL
  intro t
  induction t with
  | zero =>
    intro q m b h1 h2 hb
    cases m with
    | zero => omega
    | succ m =>
      have : q = 2 ^ L := by omega
      subst this
      unfold lp_bestPlace_44
      exact Rd_ite (fun _ => hK b _ hb) (fun z => absurd (Int32.le_refl _) z)
  | succ t ih =>
    intro q m b h1 h2 hb
    cases m with
    | zero => omega
    | succ m =>
      unfold lp_bestPlace_44
      refine Rd_ite (fun z => absurd z (nI_ge (by omega) (by omega))) (fun _ => ?_)
      have hnext : ∀ b, b ≤ 99 → Rd (pli (nI q + 1) (fun x => lp_bestPlace_44 m (nI c) v2 (nI (2 ^ L)) v4 v5 v6 (nI p) (nI b) x K)) v R := by
        intro b hb
        refine Rd_li ?_
        rw [nI_1]
        exact ih (q + 1) m b (by omega) (by omega) hb
      rw [ix32]
      obtain ⟨x, hx, hxq⟩ := rowf_sur L (by omega) q (by omega) (by omega)
      have hw : Am v 14 (32 * c + q) (-1) ∨ ∃ f, f < nF w ∧ Am v 14 (32 * c + q) (nI f) := by
        rw [← hxq]
        rcases Nat.lt_or_ge x.val n with h5 | h5
        · rcases hT.2.2.2.2.2.1 x.val h5 with ⟨-, z⟩ | ⟨-, f, z1, -, -, z2, -⟩
          · exact Or.inl z
          · exact Or.inr ⟨f, z1, z2⟩
        · exact Or.inl (hT.2.2.2.2.1 x.val h5 hx).2
      rcases hw with hw | ⟨f, hf, hw⟩
      · exact Rd_rdN rfl (by omega) (by decide) hw (Rd_ite (fun _ => hnext b hb) (fun z => absurd rfl z))
      · refine Rd_rdN rfl (by omega) (by decide) hw (Rd_ite (fun z => absurd z (nI_ne_1 (by omega))) (fun _ => ?_))
        obtain ⟨-, ⟨k, -, h6⟩, -⟩ := hG f hf
        refine Rd_rdN rfl (by omega) (by decide) (hT.1.at (by decide) (by decide) (by decide) h6) (Rd_ite (fun _ => ?_) (fun _ => hnext b hb))
        refine ok_bp87 v p q hp (by omega) _ _ _ _ _ _ _ _ _ R (fun r hr => Rd_li ?_) 4 0 fuel (by omega) (by unfold fuel; omega)
        by_cases hz : nI r < nI b
        · rw [if_pos hz]
          exact hnext r (by omega)
        · rw [if_neg hz]
          exact hnext b hb
theorem ok_bestPlace {w v : GS} (hG : iG w) (h96 : nF w ≤ 96) (c L n : Nat) (P : Nat → Bool) (hc : c < 4) (hL : L ≤ 5) (hn : n ≤ 2 ^ L) (hT : TD w v c L n P) (hfree : ∃ x, x < n ∧ tkn v L x = false) (v2 : Int32) : Rd (f_bestPlace (nI c) v2 (nI (2 ^ L))) v (fun r => ∃ x, x < n ∧ r = nI (rowf L x) ∧ Am v 60 (rowf L x) 0) := by
  have h32 := pow_lt32 hL
  have hm1 : (-1 : Int32) < nI 0 := by decide
  have hlp : ∀ (t x m : Nat) (v4 v5 : Int32), x + t = 2 ^ L → t < m → ((v4 = -1 ∧ v5 = -1 ∧ ∀ y, y < x → y < n → tkn v L y = true) ∨ ∃ y, y < n ∧ v4 = nI (rowf L y) ∧ Am v 60 (rowf L y) 0) → Rd (lp_bestPlace_9 m (nI c) v2 (nI (2 ^ L)) v4 v5 (nI x) (fun v1 v2 v3 v4 v5 v6 => prt v4)) v (fun r => ∃ x, x < n ∧ r = nI (rowf L x) ∧ Am v 60 (rowf L x) 0) := by
    intro t
    induction t with
    | zero =>
      intro x m v4 v5 h1 h2 hi
      cases m with
      | zero => omega
      | succ m =>
        have : x = 2 ^ L := by omega
        subst this
        unfold lp_bestPlace_9
        refine Rd_ite (fun _ => Rd_rt ?_) (fun z => absurd (Int32.le_refl _) z)
        rcases hi with ⟨-, -, h3⟩ | h3
        · obtain ⟨y, hy, hy2⟩ := hfree
          rw [h3 y (by omega) hy] at hy2
          cases hy2
        · exact h3
    | succ t ih =>
      intro x m v4 v5 h1 h2 hi
      cases m with
      | zero => omega
      | succ m =>
        have hp := rowf_lt L (by omega) x (by omega) (by omega)
        unfold lp_bestPlace_9
        refine Rd_ite (fun z => absurd z (nI_ge (by omega) (by omega))) (fun _ => ?_)
        refine Rd_rdN rfl (by omega) (by decide) (hT.2.2.2.1 x (by omega)) ?_
        have htk : Am v 60 (rowf L x) 1 ∨ (x < n ∧ Am v 60 (rowf L x) 0) := by
          rcases Nat.lt_or_ge x n with h5 | h5
          · rcases hT.2.2.2.2.2.1 x h5 with ⟨z, -⟩ | ⟨z, -⟩
            · exact Or.inr ⟨h5, z⟩
            · exact Or.inl z
          · exact Or.inl (hT.2.2.2.2.1 x h5 (by omega)).1
        rcases htk with hz | ⟨hxn, hz⟩
        · refine Rd_rdN rfl (by omega) (by decide) hz (Rd_ite (fun e => absurd e (by decide)) (fun _ => Rd_li ?_))
          rw [nI_1]
          refine ih (x + 1) m v4 v5 (by omega) (by omega) (hi.imp (fun z => ⟨z.1, z.2.1, fun y hy hyn => ?_⟩) id)
          by_cases he : y = x
          · subst he
            unfold tkn
            rw [hz.2]
            decide
          · exact z.2.2 y (by omega) hyn
        · refine Rd_rdN rfl (by omega) (by decide) hz (Rd_ite (fun _ => ?_) (fun e => absurd rfl e))
          refine ok_bp44 hG h96 c L n P hc hL hn hT (rowf L x) (by omega) _ _ _ _ _ _ (fun b v9 hb => ?_) (2 ^ L) 0 fuel 99 (by omega) (by unfold fuel; omega) (by omega)
          refine Rd_ite (fun _ => Rd_li ?_) (fun e => Rd_li ?_)
          · rw [nI_1]
            exact ih (x + 1) m _ _ (by omega) (by omega) (Or.inr ⟨x, hxn, rfl, hz⟩)
          · rw [nI_1]
            refine ih (x + 1) m v4 v5 (by omega) (by omega) (Or.inr ?_)
            rcases hi with ⟨-, h5, -⟩ | h5
            · rw [h5] at e
              refine absurd ?_ e
              have hh : ∀ b < 100, (-1 : Int32) < nI b := by decide +kernel
              exact hh b (by omega)
            · exact h5
  unfold f_bestPlace
  exact hlp (2 ^ L) 0 fuel (-1) (-1) (by omega) (by unfold fuel; omega) (Or.inl ⟨rfl, rfl, fun y hy => absurd hy (Nat.not_lt_zero _)⟩)

