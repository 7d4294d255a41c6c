/-! ===== the draw of a tree, both sides ===== -/
theorem nl_ch {α β : Type} {p : NG α} {q q2 : α → AG β} {u : MS} {Q1 Q2 : β → MS → Prop} (h : ∀ a v, CQ (q2 a) v Q2 → CQ (q a) v Q1) (z : CQ (anl p q2) u Q2) : CQ (anl p q) u Q1 := CQ_nl (fun a v e => h a v (fun r v2 c d e2 => z r v2 c d (anl_eq e e2)))
theorem cl_ch {α β : Type} {p : AG α} {q q2 : α → AG β} {u : MS} {Q1 Q2 : β → MS → Prop} (h : ∀ a v, CQ (q2 a) v Q2 → CQ (q a) v Q1) (z : CQ (acl p q2) u Q2) : CQ (acl p q) u Q1 := CQ_cl (fun a v _ _ e => h a v (fun r v2 _ _ e2 => z r v2 _ _ (acl_eq e e2)))
theorem ite_ch {β : Type} {b : Prop} [Decidable b] {p q p2 q2 : AG β} {u : MS} {Q1 Q2 : β → MS → Prop} (h1 : CQ p2 u Q2 → CQ p u Q1) (h2 : CQ q2 u Q2 → CQ q u Q1) (z : CQ (if b then p2 else q2) u Q2) : CQ (if b then p else q) u Q1 := by
  by_cases hb : b
  · rw [if_pos hb] at z ⊢
    exact h1 z
  · rw [if_neg hb] at z ⊢
    exact h2 z
theorem kc13 {K1 K2 : Int32 → Int32 → Int32 → Int32 → AG Int32} {Q1 Q2 : Int32 → MS → Prop} (hK : ∀ a b c d u, CQ (K2 a b c d) u Q2 → CQ (K1 a b c d) u Q1) : ∀ (g : Nat) (v1 v2 v3 v4 : Int32) (u : MS), CQ (xl_X2_placeSeeds_13 g v1 v2 v3 v4 K2) u Q2 → CQ (xl_X2_placeSeeds_13 g v1 v2 v3 v4 K1) u Q1 := by
  intro g
  induction g with
  | zero => exact fun v1 v2 v3 v4 u _ r w c d e => by cases e
  | succ g ih =>
    intro v1 v2 v3 v4 u
    unfold xl_X2_placeSeeds_13
    exact nl_ch (fun _ _ => ite_ch (hK _ _ _ _ _) (nl_ch (fun _ _ => ite_ch (ih _ _ _ _ _) (nl_ch (fun _ _ => nl_ch (fun _ _ => ite_ch (nl_ch (fun _ _ => cl_ch (fun _ _ => ih _ _ _ _ _))) (ih _ _ _ _ _)))))))
theorem kc4 {K1 K2 : Int32 → Int32 → Int32 → AG Int32} {Q1 Q2 : Int32 → MS → Prop} (hK : ∀ a b c u, CQ (K2 a b c) u Q2 → CQ (K1 a b c) u Q1) : ∀ (g : Nat) (v1 v2 v3 : Int32) (u : MS), CQ (xl_X2_placeSeeds_4 g v1 v2 v3 K2) u Q2 → CQ (xl_X2_placeSeeds_4 g v1 v2 v3 K1) u Q1 := by
  intro g
  induction g with
  | zero => exact fun v1 v2 v3 u _ r w c d e => by cases e
  | succ g ih =>
    intro v1 v2 v3 u
    unfold xl_X2_placeSeeds_4
    exact ite_ch (hK _ _ _ _) (kc13 (fun _ _ _ _ u2 z => ih _ _ _ u2 z) _ _ _ _ _ _)
theorem seeds_then {q : Int32 → AG Int32} {c : Int32} {u : MS} {Q : Int32 → MS → Prop} (h : CQ (xl_X2_placeSeeds_4 fuel c 0 1 (fun _ _ _ => q 0)) u Q) : CQ (acl (x_X2_placeSeeds c) q) u Q := CQ_cl (kc4 (K2 := fun _ _ _ => q 0) (Q2 := Q) (fun _ _ _ _ z => CQ_rt z) _ _ _ _ _ h)
theorem CQ_FL {β : Type} {a n : Nat} {x : Int32} {q : Unit → AG β} {u : MS} {Q : β → MS → Prop} (h : CQ (q ()) (sf u a (fl n x (u.2 a))) Q) : CQ (anl (nFL a n x) q) u Q := h
theorem r_307 {B0 B : Nat → Int32} {w : GS} (c L n : Nat) (P : Nat → Bool) (v2 v3 : Int32) (K : Int32 → Int32 → Int32 → Int32 → PG Int32) (Q : Int32 → GS → Prop) (hK : ∀ v v4, SD B0 w c (2 ^ L) B v → TD w v c L n P → (∀ k, k < 16 → Am v 59 k 0) → Ok (K (nI c) v2 v3 v4) v Q) :
    ∀ (t k m : Nat) (v : GS), k + t = 16 → t < m → SD B0 w c (2 ^ L) B v → TD w v c L n P → (∀ j, j < k → Am v 59 j 0) → Ok (lp_draws_307 m (nI c) v2 v3 (nI k) K) v Q := by
  intro t
  induction t with
  | zero =>
    intro k m v h1 h2 hS hT h3
    cases m with
    | zero => omega
    | succ m =>
      have : k = 16 := by omega
      subst this
      unfold lp_draws_307
      exact Ok_ite (fun _ => hK v _ hS hT h3) (fun z => absurd (Int32.le_refl _) z)
  | succ t ih =>
    intro k m v h1 h2 hS hT h3
    cases m with
    | zero => omega
    | succ m =>
      unfold lp_draws_307
      refine Ok_ite (fun z => absurd z (nI_ge (b := 16) (by omega) (by decide))) (fun _ => Ok_wdN rfl (by omega) (by decide) (Ok_li ?_))
      rw [nI_1]
      refine ih (k + 1) m _ (by omega) (by omega) (hS.w (by decide)) (hT.w59 _ _) (fun j hj => ?_)
      by_cases he : j = k
      · subst he
        exact sw_A (by omega)
      · exact sw_An (by omega) he (h3 j (by omega))

def refT (c L n : Nat) : PG Int32 := pwd 13 4 (nI c) (nI (2 ^ L)) (prd 13 4 (nI c) (fun x_13 => pcl (f_makeRow x_13) (fun r_16 => lp_draws_150 fuel (nI c) (nI n) 0 (fun v1 v2 v3 => lp_draws_187 fuel v1 v2 v2 (fun v1 v2 v3 => lp_draws_220 fuel v1 v2 0 1 (fun v1 v2 v3 v4 => lp_draws_307 fuel v1 v2 v3 0 (fun v1 v2 v3 v4 => lp_draws_331 fuel v1 v2 v3 0 (fun v1 v2 v3 v4 => lp_draws_375 fuel v1 v2 v3 0 (fun v1 v2 v3 v4 => pcl (f_fights v1) (fun r_147 => prt r_147))))))))))
def DrawP (u0 : MS) (ne ch : Nat) (B0 : Nat → Int32) (w : GS) (c : Nat) (x : MS) (s : Int32) (y : GS) : Prop := EntS u0 x ne ch ∧ (x.2 13 = u0.2 13 ∧ x.2 14 = u0.2 14 ∧ x.2 15 = u0.2 15 ∧ x.2 16 = u0.2 16) ∧ R1 (x.2 0) y ∧ MB (x.2 0) ∧ Inv y ∧ FrD c B0 (x.2 0) ∧ DF c w y ∧ s = nI (nFi (x.2 0) c)
theorem tree_end {w v : GS} {c L n : Nat} (h : Inv w) (hc : c < 4) (hL3 : 3 ≤ L) (hL : L ≤ 5) (hnd : n = cb (due w c) (nF w)) (hn : n ≤ 2 ^ L) (hh : 2 ^ L / 2 < n) (hT5 : TD w v c L n (due w c)) : DrS v c (2 ^ L - 1 + 2 * (L - 2)) ∧ ∀ x, x < n → ∃ f, Am v 14 (32 * c + rowf L x) (nI f) ∧ f < nF w ∧ Am v 10 f (nI (rowf L x)) := by
  have h32 := pow_lt32 hL
  have h96 := h.1.1.2.2
  obtain ⟨b1, b2, b3, b4, b5, b6, b7⟩ := hT5
  have hall := cb_all n (b7.trans hnd.symm)
  have hsz : szP v c = 2 ^ L := by
    unfold szP
    rw [b3.2]
    exact nI_clamp (by omega)
  have hpl : ∀ x, x < n → ∃ f, Am v 14 (32 * c + rowf L x) (nI f) ∧ Plc v c f := by
    intro x hx
    rcases b6 x hx with ⟨z, -⟩ | ⟨-, f, g1, g2, g3, g4, g5⟩
    · have h9 := hall x hx
      unfold tkn at h9
      rw [z.2] at h9
      exact absurd h9 (by decide)
    · exact ⟨f, g4, by rw [b1.nFe]; exact g1, b1.at (by decide) (by decide) (by decide) g3, rowf L x, by rw [hsz]; exact rowf_lt L (by omega) x (by omega) (by omega), g5⟩
  have hdr : DrS v c (2 ^ L - 1 + 2 * (L - 2)) := by
    refine ⟨by rw [b1.nFe]; exact h96, hc, Or.inr ⟨L, hL3, hL, hsz, b2, b3, fun p hp => ?_, fun j hj => ?_, rfl⟩⟩
    · obtain ⟨x, hx, hxp⟩ := rowf_sur L (by omega) p (by omega) hp
      rw [← hxp]
      rcases Nat.lt_or_ge x.val n with h5 | h5
      · exact Or.inr (hpl x.val h5)
      · exact Or.inl (b5 x.val h5 hx).2
    · obtain ⟨x, hx, hxp⟩ := rowf_pair L (by omega) j (by omega) ⟨hL3, hj⟩
      obtain ⟨f, k1, k2⟩ := hpl x.val (by omega)
      refine ⟨f, ?_, hxp.imp (fun z => by rw [z] at k1; exact k1) (fun z => by rw [z] at k1; exact k1)⟩
      have := k2.1
      rw [b1.nFe] at this
      omega
  refine ⟨hdr, fun x hx => ?_⟩
  rcases b6 x hx with ⟨z, -⟩ | ⟨-, f, g1, g2, g3, g4, g5⟩
  · have h9 := hall x hx
    unfold tkn at h9
    rw [z.2] at h9
    exact absurd h9 (by decide)
  · exact ⟨f, g4, g1, g5⟩

