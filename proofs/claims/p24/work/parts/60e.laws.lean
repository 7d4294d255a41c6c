/-! ===== the laws at work: holds, asked, goesOver, passes ===== -/
def StpG (w : GS) (g : Nat → Nat) (k : Nat) : Prop := ∃ op pf, Am w 36 k op ∧ Am w 37 k pf ∧ ((¬ 5 < op ∧ g (k + 1) = g k + 1 ∧ ((op = 1 ∨ op = 2) → ∃ s, s < 8 ∧ pf = nI s)) ∨ (op = 6 ∧ 1 ≤ g k ∧ g (k + 1) = g k) ∨ (5 < op ∧ ¬ op = 6 ∧ 2 ≤ g k ∧ g (k + 1) + 1 = g k))
/-- the parts from a to b, at any height, leave one value more -/
def Ex (w : GS) (a b : Nat) : Prop := a ≤ b ∧ ∀ h, ∃ g : Nat → Nat, g a = h ∧ g b = h + 1 ∧ ∀ k, a ≤ k → k < b → StpG w g k
def Lw (w : GS) : Prop := w.2.1 27 = true ∧ w.2.1 28 = true ∧ ∃ ln, ln ≤ 20 ∧ w.1.1 30 = nI ln ∧ ∀ l, l < ln → w.2.2 35 l = true ∧ ∃ a b, b ≤ 300 ∧ Am w 34 l (nI a) ∧ Am w 34 (l + 1) (nI b) ∧ Ex w a b
def iL (w : GS) : Prop := w.1.1 30 = 0 ∨ Lw w
def iE (w : GS) : Prop := ∀ m, m < 4 → ¬ w.1.2 22 m = -1 → ¬ w.1.1 30 = 0
def Inv (w : GS) : Prop := Iv w ∧ iL w ∧ iE w
/-- w with another pile -/
def s38 (w : GS) (f : Nat → Int32) (m : Nat → Bool) : GS := ((w.1.1, fun a => if a = 38 then f else w.1.2 a), w.2.1, fun a j => if a = 38 then m j else w.2.2 a j)
theorem s38_sw (w : GS) (f : Nat → Int32) (m : Nat → Bool) (j : Nat) (v : Int32) (hj : j < 2 ^ 31) : swd 38 (nI j) v (s38 w f m) = s38 w (upd f j v) (fun i => if i = j then true else m i) := by
  unfold swd s38 wa
  rw [nI_clamp hj]
  refine Prod.ext (Prod.ext rfl ?_) (Prod.ext rfl ?_)
  · funext a
    show (if a = 38 then upd (if 38 = 38 then f else w.1.2 38) j v else if a = 38 then f else w.1.2 a) = if a = 38 then upd f j v else w.1.2 a
    by_cases h : a = 38
    · rw [if_pos h, if_pos h, if_pos rfl]
    · rw [if_neg h, if_neg h, if_neg h]
  · funext a i
    show (if a = 38 then (if i = j then true else if 38 = 38 then m i else w.2.2 38 i) else if a = 38 then m i else w.2.2 a i) = if a = 38 then (if i = j then true else m i) else w.2.2 a i
    by_cases h : a = 38
    · rw [if_pos h, if_pos h, if_pos rfl]
    · rw [if_neg h, if_neg h, if_neg h]
theorem s38_id (w : GS) : s38 w (w.1.2 38) (w.2.2 38) = w := by
  unfold s38
  refine Prod.ext (Prod.ext rfl ?_) (Prod.ext rfl ?_)
  · funext a
    show (if a = 38 then w.1.2 38 else w.1.2 a) = w.1.2 a
    by_cases h : a = 38
    · rw [if_pos h, h]
    · rw [if_neg h]
  · funext a j
    show (if a = 38 then w.2.2 38 j else w.2.2 a j) = w.2.2 a j
    by_cases h : a = 38
    · rw [if_pos h, h]
    · rw [if_neg h]
theorem ok_joined (w : GS) (a b d : Int32) : Rd (f_joined a b d) w (fun _ => True) := by
  unfold f_joined
  repeat (first | exact Rd_rt trivial | refine Rd_ite (fun _ => ?_) (fun _ => ?_))
theorem ix16 {m sd s : Nat} (hm : m < 4) (hsd : sd < 2) (hs : s < 8) : ((2 : Int32) * nI m + nI sd) * 8 + nI s = nI (16 * m + (8 * sd + s)) ∧ ((2 : Int32) * nI m + 1 - nI sd) * 8 + nI s = nI (16 * m + (8 * (1 - sd) + s)) := by
  have hh : ∀ m < 4, ∀ sd < 2, ∀ s < 8, ((2 : Int32) * nI m + nI sd) * 8 + nI s = nI (16 * m + (8 * sd + s)) ∧ ((2 : Int32) * nI m + 1 - nI sd) * 8 + nI s = nI (16 * m + (8 * (1 - sd) + s)) := by decide +kernel
  exact hh m hm sd hsd s hs
/-- mat m has a fight with its cells -/
def Mk (w : GS) (m : Nat) : Prop := w.2.2 23 m = true ∧ (Am w 25 m 0 ∨ Am w 25 m 1) ∧ ∀ k, k < 16 → w.2.2 24 (16 * m + k) = true
theorem ok_termOf (w : GS) (g : Nat → Nat) (k m sd : Nat) (over op pf : Int32) (hk : k < 300) (hm : m < 4) (hsd : sd < 2) (hM : Mk w m) (h36 : Am w 36 k op) (h37 : Am w 37 k pf) (hs : (op = 1 ∨ op = 2) → ∃ s, s < 8 ∧ pf = nI s) : Rd (f_termOf (nI k) (nI m) (nI sd) over) w (fun _ => True) := by
  obtain ⟨m23, m25, m24⟩ := hM
  have h25 : w.2.2 25 m = true := m25.elim (fun z => z.1) (fun z => z.1)
  unfold f_termOf
  refine Rd_rdN rfl hk (by decide) h36 (Rd_ite (fun _ => ?_) (fun _ => Rd_ite (fun h => ?_) (fun _ => Rd_ite (fun h => ?_) (fun _ => Rd_ite (fun _ => ?_) (fun _ => Rd_ite (fun _ => ?_) (fun _ => ?_))))))
  · exact Rd_rdN rfl hk (by decide) h37 (Rd_rt trivial)
  · obtain ⟨s, hs8, rfl⟩ := hs (Or.inl h)
    exact Rd_rdN rfl hk (by decide) h37 (Rd_rdN (ix16 hm hsd hs8).1 (by omega) (by decide) (Am.val (m24 (8 * sd + s) (by omega))) (Rd_rt trivial))
  · obtain ⟨s, hs8, rfl⟩ := hs (Or.inr h)
    exact Rd_rdN rfl hk (by decide) h37 (Rd_rdN (ix16 hm hsd hs8).2 (by omega) (by decide) (Am.val (m24 (8 * (1 - sd) + s) (by omega))) (Rd_rt trivial))
  · exact Rd_rdN rfl hm (by decide) (Am.val m23) (Rd_rt trivial)
  · exact Rd_ite (fun _ => Rd_rt trivial) (fun _ => Rd_rt trivial)
  · exact Rd_rdN rfl hm (by decide) (Am.val h25) (Rd_ite (fun _ => Rd_rt trivial) (fun _ => Rd_rt trivial))
theorem ok_holds_lp (w : GS) (l m sd a b : Nat) (over : Int32) (hl : l < 20) (hm : m < 4) (hsd : sd < 2) (hM : Mk w m) (hb : b ≤ 300) (h34 : Am w 34 (l + 1) (nI b)) (g : Nat → Nat) (ga : g a = 0) (hg : ∀ k, a ≤ k → k < b → StpG w g k) (K : Int32 → Int32 → Int32 → Int32 → Int32 → Int32 → PG Int32) (Q : Int32 → GS → Prop) (hK : ∀ f mk, (∀ j, j < g b → mk j = true) → Ok (K (nI l) (nI m) (nI sd) over (nI (g b)) (nI b)) (s38 w f mk) Q) :
    ∀ (t k n : Nat) (f : Nat → Int32) (mk : Nat → Bool), k + t = b → t < n → a ≤ k → g k + a ≤ k → (∀ j, j < g k → mk j = true) → Ok (lp_holds_11 n (nI l) (nI m) (nI sd) over (nI (g k)) (nI k) K) (s38 w f mk) Q := by
  intro t
  induction t with
  | zero =>
    intro k n f mk hk hn hak hgk hmk
    cases n with
    | zero => omega
    | succ n =>
      have hkb : k = b := by omega
      subst hkb
      unfold lp_holds_11
      rw [nI_1]
      exact Ok_rdN rfl (by omega) (by decide) h34 (Ok_ite (fun _ => hK f mk hmk) (fun h => absurd (Int32.le_refl _) h))
  | succ t ih =>
    intro k n f mk hk hn hak hgk hmk
    cases n with
    | zero => omega
    | succ n =>
      unfold lp_holds_11
      rw [nI_1]
      refine Ok_rdN rfl (by omega) (by decide) h34 (Ok_ite (fun h => absurd h (nI_ge (by omega) (by omega))) (fun _ => ?_))
      obtain ⟨op, pf, h36, h37, hst⟩ := hg k hak (by omega)
      refine Ok_rdN rfl (by omega) (by decide) h36 (Ok_ite (fun h5 => ?_) (fun h5 => ?_))
      · refine Ok_rdN rfl (by omega) (by decide) h36 (Ok_ite (fun h6 => ?_) (fun h6 => ?_))
        · rcases hst with ⟨z, -⟩ | ⟨-, g1, g2⟩ | ⟨-, z, -⟩
          · exact absurd h5 z
          · have e1 : nI (g k) - 1 = nI (g k - 1) := nI_sub (b := 1) g1
            rw [e1]
            have hmj := hmk (g k - 1) (by omega)
            refine Ok_rdN (x := f (g k - 1)) rfl (by omega) (by decide) ⟨hmj, rfl⟩ (Ok_ite (fun _ => ?_) (fun _ => ?_))
            · refine Ok_wdN rfl (by omega) (by decide) (Ok_li ?_)
              rw [s38_sw _ _ _ _ _ (by omega), nI_1]
              have h9 := ih (k + 1) n (upd f (g k - 1) 1) (fun i => if i = g k - 1 then true else mk i) (by omega) (by omega) (by omega) (by omega) (fun j hj => by
                show (if j = g k - 1 then true else mk j) = true
                by_cases hz : j = g k - 1
                · rw [if_pos hz]
                · rw [if_neg hz]; exact hmk j (by omega))
              rw [g2] at h9
              exact h9
            · refine Ok_wdN rfl (by omega) (by decide) (Ok_li ?_)
              rw [s38_sw _ _ _ _ _ (by omega), nI_1]
              have h9 := ih (k + 1) n (upd f (g k - 1) 0) (fun i => if i = g k - 1 then true else mk i) (by omega) (by omega) (by omega) (by omega) (fun j hj => by
                show (if j = g k - 1 then true else mk j) = true
                by_cases hz : j = g k - 1
                · rw [if_pos hz]
                · rw [if_neg hz]; exact hmk j (by omega))
              rw [g2] at h9
              exact h9
          · exact absurd h6 z
        · rcases hst with ⟨z, -⟩ | ⟨z, -⟩ | ⟨-, -, g1, g2⟩
          · exact absurd h5 z
          · exact absurd z h6
          · refine Ok_li ?_
            have e1 : nI (g k) + -1 = nI (g (k + 1)) := by
              rw [← Int32.sub_eq_add_neg]
              have h9 := nI_sub (a := g k) (b := 1) (by omega)
              refine h9.trans ?_
              congr 1
              omega
            rw [e1]
            have e2 : nI (g (k + 1)) - 1 = nI (g (k + 1) - 1) := nI_sub (b := 1) (by omega)
            rw [e2]
            refine Ok_rdN rfl (by omega) (by decide) h36 ?_
            refine Ok_rdN (x := f (g (k + 1) - 1)) rfl (by omega) (by decide) ⟨hmk (g (k + 1) - 1) (by omega), rfl⟩ ?_
            refine Ok_rdN (x := f (g (k + 1))) rfl (by omega) (by decide) ⟨hmk (g (k + 1)) (by omega), rfl⟩ ?_
            refine Ok_clR (ok_joined _ _ _ _) (fun r _ => Ok_wdN rfl (by omega) (by decide) (Ok_li ?_))
            rw [s38_sw _ _ _ _ _ (by omega), nI_1]
            exact ih (k + 1) n (upd f (g (k + 1) - 1) r) (fun i => if i = g (k + 1) - 1 then true else mk i) (by omega) (by omega) (by omega) (by omega) (fun j hj => by
              show (if j = g (k + 1) - 1 then true else mk j) = true
              by_cases hz : j = g (k + 1) - 1
              · rw [if_pos hz]
              · rw [if_neg hz]; exact hmk j (by omega))
      · rcases hst with ⟨-, g1, g2⟩ | ⟨z, -⟩ | ⟨z, -⟩
        · refine Ok_clR (ok_termOf (s38 w f mk) g k m sd over op pf (by omega) hm hsd hM h36 h37 g2) (fun r _ => Ok_wdN rfl (by omega) (by decide) (Ok_li (Ok_li ?_)))
          rw [s38_sw _ _ _ _ _ (by omega), nI_1, nI_1]
          have h9 := ih (k + 1) n (upd f (g k) r) (fun i => if i = g k then true else mk i) (by omega) (by omega) (by omega) (by omega) (fun j hj => by
              show (if j = g k then true else mk j) = true
              by_cases hz : j = g k
              · rw [if_pos hz]
              · rw [if_neg hz]; exact hmk j (by omega))
          rw [g1] at h9
          exact h9
        · exact absurd (by rw [z]; decide) h5
        · exact absurd z h5
theorem ok_holds (w : GS) (l m sd ln : Nat) (over : Int32) (hl : l < ln) (hln : ln ≤ 20) (hm : m < 4) (hsd : sd < 2) (hM : Mk w m) (hE : ∃ a b, b ≤ 300 ∧ Am w 34 l (nI a) ∧ Am w 34 (l + 1) (nI b) ∧ Ex w a b) : Ok (f_holds (nI l) (nI m) (nI sd) over) w (fun _ w1 => ∃ f mk, w1 = s38 w f mk) := by
  obtain ⟨a, b, hb, ha1, hb1, hab, hE⟩ := hE
  obtain ⟨g, g0, g1, hg⟩ := hE 0
  unfold f_holds
  refine Ok_rdN rfl (by omega) (by decide) ha1 ?_
  have h9 := ok_holds_lp w l m sd a b over (by omega) hm hsd hM hb hb1 g g0 hg (fun v1 v2 v3 v4 v5 v6 => prd 38 301 0 (fun x_59 => (if x_59 = 0 then prt 0 else prt 1))) (fun _ w1 => ∃ f mk, w1 = s38 w f mk) (fun f mk hmk => ?_) (b - a) a fuel (w.1.2 38) (w.2.2 38) (by omega) (by unfold fuel; omega) (Nat.le_refl _) (by omega) (fun j hj => by omega)
  · rw [g0, s38_id] at h9
    exact h9
  · exact Ok_rdN (j := 0) (x := f 0) rfl (by decide) (by decide) ⟨hmk 0 (by omega), rfl⟩ (Ok_ite (fun _ => Ok_rt ⟨f, mk, rfl⟩) (fun _ => Ok_rt ⟨f, mk, rfl⟩))

