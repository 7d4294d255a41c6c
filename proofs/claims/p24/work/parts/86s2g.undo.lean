/-! ===== undo, both sides ===== -/
theorem kn_of {B : Nat → Int32} {w : GS} {c : Nat} (hI : Inv w) (hR : R0 B w) (hc : c < 4) : Kn B c := by
  rcases (hI.1.2.2.2.1 c hc).2.2.1 with z | ⟨n, z⟩
  · exact Or.inl ((hR.kd hc).inj z)
  · rcases hI.1.dr z with ⟨s, hP, -⟩ | ⟨L, hT, -⟩
    · obtain ⟨e6, e7, -⟩ := (hR.kz hc).1 s hP
      exact Or.inr (Or.inl ⟨e6, s, hP.2.2.1, hP.2.2.2.1, e7⟩)
    · obtain ⟨e6, e7, -⟩ := (hR.kz hc).2 L hT
      have hL3 := hT.2.2.1
      have hL5 := hT.2.2.2.1
      exact Or.inr (Or.inr ⟨e6, 2 ^ L, siz_pow L (by omega) hL3, e7⟩)
theorem Acc.rf (B : Nat → Int32) (c : Nat) : Acc B B c := ⟨fun _ _ => rfl, fun _ _ => ⟨rfl, rfl⟩, rfl, rfl⟩
theorem CN_undo_lp {u0 : MS} (hk : ∀ c, c < 4 → Kn (u0.2 0) c) (K : Int32 → NG Int32) (Q : Int32 → MS → Prop) (hK : ∀ v, Same [] [13, 14, 15, 16, 17] u0 v → (∀ c, c < 4 → Bd (u0.2 0) c v) → CN (K (nI 4)) v Q) : ∀ (n k : Nat) (v : MS), k ≤ 4 → Same [] [13, 14, 15, 16, 17] u0 v → (∀ c, c < k → Bd (u0.2 0) c v) → CN (xl_X11_undo_21 n (nI k) K) v Q := by
  intro n
  induction n with
  | zero => exact fun k v _ _ _ r w e => by cases e
  | succ n ih =>
    intro k v hk4 hs hb
    unfold xl_X11_undo_21
    have e0 : v.2 0 = u0.2 0 := hs.2 0 (by decide)
    by_cases h4 : 4 ≤ k
    · have : k = 4 := by omega
      subst this
      rw [if_pos (show (4 : Int32) ≤ nI 4 from Int32.le_refl _)]
      exact hK v hs hb
    · rw [if_neg (show ¬ (4 : Int32) ≤ nI k from fun z => h4 ((nI_leI (a := 4) (b := k) (by decide) (by omega)).mp z))]
      refine CN_settle (by omega) (by rw [e0]; exact hk k (by omega)) (fun v2 hs2 hb2 hr => ?_)
      rw [e0] at hb2
      show CN (xl_X11_undo_21 n (nI k + 1) K) v2 Q
      rw [nI_1]
      refine ih (k + 1) v2 (by omega) (hs.trans hs2) (fun c hc => ?_)
      by_cases hck : c = k
      · subst hck
        exact hb2
      · exact (hb c (by omega)).to (Acc.rf _ _) (fun i hi => hr _ (Or.inl (by omega)))
theorem sim_undo {P : LwP} {LW : List LwP} {N tp n E ch C : Nat} {u v : MS} {w : GS} {lg : Nat → En} {s : Nat → GS} {p q : Nat → Nat} {r : Int32} (h : SmX P LW N tp u w n E lg s p q ch C) (e : x_X11_undo u = some (r, v)) : Ok f_undo w (fun r2 w2 => r2 = r ∧ SmE P LW N tp v w2) := by
  have h9 := h
  obtain ⟨hL, h1, hKl, hp, hm, hBk, hnow, hqm, hbd, hln⟩ := h9
  have hn := h.le
  have hcl : CN x_X11_undo u (fun r v => (n = 0 ∧ r = -1 ∧ v = u) ∨ (1 ≤ n ∧ r = nI (n - 1) ∧ v.1 1 = nI (n - 1) ∧ v.2 0 = hB u (p (n - 1)) ∧ Kl v (p (n - 1)) C ∧ (∀ q, q ≤ p (n - 1) → hB v q = hB u q) ∧ v.2 3 = u.2 3 ∧ ∀ c, c < 4 → Bd (v.2 0) c v)) := by
    unfold x_X11_undo
    refine CN_RF ?_
    rw [h1]
    refine CN_ite (fun z => CN_rt (Or.inl ⟨(nI_eq (a := n) (b := 0) (by omega) (by decide)).mp z, rfl, rfl⟩)) (fun z => ?_)
    have hn1 : 1 ≤ n := by
      rcases Nat.eq_zero_or_pos n with y | y
      · subst y
        exact absurd rfl z
      · exact y
    obtain ⟨hp1, hp2⟩ := hp (n - 1) (by omega)
    refine CN_cl (fun r1 v1 e1 => ?_)
    obtain ⟨a1, a2, a3, a4, a5⟩ := tb_ex hKl ⟨hn1, hn⟩ h1 hp1 hp2 e1
    have hIv : Inv (s (n - 1)) := (hL.2.2.2.2.2.2.1.2.1 (n - 1) (by omega)).1
    have hkn : ∀ c, c < 4 → Kn (v1.2 0) c := fun c hc => by
      rw [a2]
      exact kn_of hIv (hBk (n - 1) (by omega)).1.1 hc
    refine CN_undo_lp hkn _ _ (fun v2 hs hb => ?_) fuel 0 v1 (by decide) (Same.rf _) (fun c hc => absurd hc (Nat.not_lt_zero c))
    have i1 : v2.1 1 = nI (n - 1) := (hs.1 1 (by decide)).trans a1
    have i0 : v2.1 0 = v1.1 0 := hs.1 0 (by decide)
    have c0 : v2.2 0 = v1.2 0 := hs.2 0 (by decide)
    show CN (ncl (nRF 1) (fun x_15 => nrt x_15)) v2 _
    refine CN_RF (CN_rt (Or.inr ⟨hn1, i1, i1, c0.trans a2, ⟨i0.trans a3.1, (hs.1 60 (by decide)).trans a3.2.1, (hs.1 65 (by decide)).trans a3.2.2.1, a3.2.2.2⟩, fun q hq => ?_, (hs.2 3 (by decide)).trans (a5.2 3 (by decide)), fun c hc => ?_⟩))
    · rw [← a4 q hq]
      unfold hB
      rw [i0, c0, hs.2 1 (by decide), hs.2 2 (by decide)]
    · rw [c0]
      exact hb c hc
  have hc := hcl r v e
  refine Ok.mono (undo_ex hL) (fun r2 w2 y => ?_)
  rcases y with ⟨y1, y2, y3⟩ | ⟨y1, y2, y3⟩
  · rcases hc with ⟨-, z2, z3⟩ | ⟨z1, -⟩
    · subst z3
      subst y3
      exact ⟨y2.trans z2.symm, h.e⟩
    · omega
  · rcases hc with ⟨z1, -⟩ | ⟨z1, z2, z3, z4, z5, z6, z7, z8⟩
    · omega
    · refine ⟨y2.trans z2.symm, ⟨n - 1, E, lg, s, p, q, p (n - 1), C, y3, z3, z5, fun k hk => ⟨?_, hm k (n - 1) (by omega) (by omega)⟩, fun i j hij hj => hm i j hij (by omega), fun k hk => ?_, ?_, fun i j hij hj => hqm i j hij (by omega), z8, hln⟩⟩
      · rw [z7]
        exact (hp k (by omega)).1
      · rw [z6 (p k) (hm k (n - 1) (by omega) (by omega))]
        exact hBk k (by omega)
      · rw [z4]
        exact hBk (n - 1) (by omega)

