/-! ===== who fights or rests, on both sides ===== -/
theorem R0.onm2 {B : Nat → Int32} {w : GS} {m : Nat} (h : R0 B w) (hO : MO B) (hm : m < 4) : (B (mc0 m + 1) = -1 ∧ Am w 22 m (-1)) ∨ ∃ c i, OnM B w m c i ∧ B (fc c i) = 2 ∧ B (fc c i + 7) = nI m := by
  rcases h.onm hm with z | ⟨c, i, z⟩
  · exact Or.inl z
  · obtain ⟨c2, i2, hc2, hi2, a, b, d, e⟩ := hO m hm z.ne.1
    have hc := z.1
    have hi := z.2.1
    have e1 : c2 = c := (nI_eq (by omega) (by omega)).mp (a.symm.trans z.2.2.1)
    have e2 : i2 = i := (nI_eq (by omega) (by omega)).mp (b.symm.trans z.2.2.2.1)
    subst e1
    subst e2
    exact Or.inr ⟨c2, i2, z, d, e⟩
/-- the two of a fight that is begun, in both worlds -/
theorem R0.two {B : Nat → Int32} {w : GS} {c i : Nat} (h : R0 B w) (hI : Inv w) (hc : c < 4) (hi : i < 37) (hm : ¬ B (fc c i) = 0) : ∃ a b, Plc w c a ∧ Plc w c b ∧ a < 96 ∧ b < 96 ∧ B (fc c i + 1) = nI a ∧ B (fc c i + 2) = nI b ∧ Am w 16 (40 * c + i) (nI a) ∧ Am w 17 (40 * c + i) (nI b) := by
  obtain ⟨a, b, h1, h2, h3, h4, h5, h6⟩ := mk_ge hI h hc hi (by unfold mkF; rw [if_pos hi]; exact hm)
  rcases h.2.2.2.2.1 c hc i hi with ⟨z, -⟩ | ⟨-, y, z⟩
  · exact absurd z hm
  · rw [h5] at y
    rw [h6] at z
    exact ⟨a, b, h1, h2, h3, h4, h5, h6, y, z⟩
/-- the reference's state of a live world: the marks that Inv gives, from R0 and the log's state -/
def Fig (B : Nat → Int32) (f : Nat) (k : Nat) : Prop := ∃ m, k ≤ m ∧ m < 4 ∧ ∃ c i, c < 4 ∧ i < 37 ∧ B (mc0 m) = nI c ∧ B (mc0 m + 1) = nI i ∧ (B (fc c i + 1) = nI f ∨ B (fc c i + 2) = nI f)
def Rst (B : Nat → Int32) (f : Nat) : Prop := ∃ e t r, e ≤ 1440 ∧ t ≤ 1440 ∧ r ≤ 120 ∧ B (154 + 7 * f) = nI e ∧ B 0 = nI t ∧ B 1 = nI r ∧ t < e + r
theorem Fig.no {B : Nat → Int32} {f k : Nat} (h : B (mc0 k + 1) = -1) : Fig B f k ↔ Fig B f (k + 1) := by
  refine ⟨?_, fun ⟨m, h1, h2⟩ => ⟨m, by omega, h2⟩⟩
  rintro ⟨m, h1, h2, c, i, hc, hi, a, b, d⟩
  refine ⟨m, ?_, h2, c, i, hc, hi, a, b, d⟩
  have hne : ¬ m = k := fun z => by
    subst z
    rw [h] at b
    exact nI_ne_1 (by omega) b.symm
  omega
theorem Fig.stp {B : Nat → Int32} {f k c i : Nat} (hk : k < 4) (hc : c < 4) (hi : i < 37) (e0 : B (mc0 k) = nI c) (e1 : B (mc0 k + 1) = nI i) : Fig B f k ↔ ((B (fc c i + 1) = nI f ∨ B (fc c i + 2) = nI f) ∨ Fig B f (k + 1)) := by
  refine ⟨?_, ?_⟩
  · rintro ⟨m, h1, h2, c2, i2, hc2, hi2, a, b, d⟩
    by_cases hz : m = k
    · subst hz
      have q1 : c2 = c := (nI_eq (by omega) (by omega)).mp (a.symm.trans e0)
      have q2 : i2 = i := (nI_eq (by omega) (by omega)).mp (b.symm.trans e1)
      subst q1
      subst q2
      exact Or.inl d
    · exact Or.inr ⟨m, by omega, h2, c2, i2, hc2, hi2, a, b, d⟩
  · rintro (d | ⟨m, h1, h2⟩)
    · exact ⟨k, Nat.le_refl _, hk, c, i, hc, hi, e0, e1, d⟩
    · exact ⟨m, by omega, h2⟩
theorem rst_lt {e t r : Nat} (he : e ≤ 1440) (ht : t ≤ 1440) (hr : r ≤ 120) : (nI e + nI r ≤ nI t ↔ ¬ t < e + r) ∧ (nI r ≤ nI t - nI e ↔ ¬ t < e + r) := by
  refine ⟨?_, ?_⟩
  · rw [nI_add, nI_leI (by omega) (by omega)]
    omega
  · rw [Int32.le_iff_toInt_le, Int32.toInt_sub, nI_toInt (by omega), nI_toInt (by omega), nI_toInt (by omega), Int.bmod_eq_of_le (by omega) (by omega)]
    omega
theorem ncl_eq2 {α β : Type} {p : NG α} {q : α → NG β} {u v : MS} {a : α} {y : Option (β × MS)} (h : p u = some (a, v)) (h2 : q a v = y) : ncl p q u = y := by
  unfold ncl
  rw [h]
  exact h2
def hldK (v1 _v2 : Int32) : NG Int32 := ncl (x_X1_ofFighter v1 6) (fun r_18 => ncl (nGT 0 2088 r_18) (fun x_21 => (if x_21 = (-1) then nrt 0 else ncl (nGT 0 2088 0) (fun x_26 => ncl (nGT 0 2088 1) (fun x_30 => (if (x_21 + x_30) ≤ x_26 then nrt 0 else nrt 1))))))
theorem hldK_e {B : Nat → Int32} {u : MS} {f : Nat} (x : Int32) (hB : u.2 0 = B) (hV : VB B) (hf : f < 96) : (hldK (nI f) x u = some (1, u) ∧ Rst B f) ∨ (hldK (nI f) x u = some (0, u) ∧ ¬ Rst B f) := by
  obtain ⟨⟨t, ht, e0⟩, ⟨r, hr, e1⟩, hE⟩ := hV
  have g : ∀ (j : Nat) (z : Int32), z = nI j → j < 2088 → nGT 0 2088 z u = some (B j, u) := fun j z hz hj => by
    show some (rg (u.2 0) 2088 z, u) = _
    rw [hz, rdB _ hj, hB]
  unfold hldK
  rw [e_ofFighter f 6 (show (6 : Int32) = nI 6 from rfl), ncl_rt]
  have ef : 148 + 7 * f + 6 = 154 + 7 * f := by omega
  rw [ef]
  have h1 := g (154 + 7 * f) _ rfl (by omega)
  rcases hE f hf with z | ⟨e, he, z⟩
  · refine Or.inr ⟨ncl_eq h1 (by rw [if_pos z]; rfl), ?_⟩
    rintro ⟨e, _, _, h1, _, _, h4, _⟩
    rw [z] at h4
    exact nI_ne_1 (by omega) h4.symm
  · have hiff := (rst_lt he ht hr).1
    have h2 : ∀ y, (if (B (154 + 7 * f) + B 1) ≤ B 0 then nrt (0 : Int32) else nrt 1) u = y → ncl (nGT 0 2088 (nI (154 + 7 * f))) (fun x_21 => (if x_21 = (-1) then nrt 0 else ncl (nGT 0 2088 0) (fun x_26 => ncl (nGT 0 2088 1) (fun x_30 => (if (x_21 + x_30) ≤ x_26 then nrt 0 else nrt 1))))) u = y := fun y hy => by
      refine ncl_eq2 h1 ?_
      rw [if_neg (by rw [z]; exact nI_ne_1 (by omega))]
      exact ncl_eq2 (g 0 0 rfl (by decide)) (ncl_eq2 (g 1 1 rfl (by decide)) hy)
    rw [z, e0, e1] at h2
    by_cases hle : nI e + nI r ≤ nI t
    · refine Or.inr ⟨h2 _ (by rw [if_pos hle]; rfl), ?_⟩
      rintro ⟨e', t', r', h1, h2, h3, h4, h5, h6, h7⟩
      have q1 : e' = e := (nI_eq (by omega) (by omega)).mp (h4.symm.trans z)
      have q2 : t' = t := (nI_eq (by omega) (by omega)).mp (h5.symm.trans e0)
      have q3 : r' = r := (nI_eq (by omega) (by omega)).mp (h6.symm.trans e1)
      subst q1
      subst q2
      subst q3
      exact hiff.mp hle h7
    · refine Or.inl ⟨h2 _ (by rw [if_neg hle]; rfl), e, t, r, he, ht, hr, z, e0, e1, ?_⟩
      exact Classical.byContradiction (fun q => hle (hiff.mpr q))
theorem held_lp {B : Nat → Int32} {w : GS} {u : MS} {f : Nat} {P : Prop} (hB : u.2 0 = B) (hR : R0 B w) (K : Int32 → Int32 → NG Int32) (hK : (K (nI f) (nI 4) u = some (1, u) ∧ P) ∨ (K (nI f) (nI 4) u = some (0, u) ∧ ¬ P)) : ∀ (d k n : Nat), k + d = 4 → d < n → (xl_X3_isHeld_2 n (nI f) (nI k) K u = some (1, u) ∧ (Fig B f k ∨ P)) ∨ (xl_X3_isHeld_2 n (nI f) (nI k) K u = some (0, u) ∧ ¬ (Fig B f k ∨ P)) := by
  intro d
  induction d with
  | zero =>
    intro k n hk hn
    cases n with
    | zero => omega
    | succ n =>
      have : k = 4 := by omega
      subst this
      have hnf : ¬ Fig B f 4 := fun ⟨m, h1, h2, _⟩ => by omega
      unfold xl_X3_isHeld_2
      rw [if_pos (show (4 : Int32) ≤ nI 4 from Int32.le_refl _)]
      exact hK.imp (fun z => ⟨z.1, Or.inr z.2⟩) (fun z => ⟨z.1, fun y => y.elim hnf z.2⟩)
  | succ d ih =>
    intro k n hk hn
    cases n with
    | zero => omega
    | succ n =>
      have hi := ih (k + 1) n (by omega) (by omega)
      rw [← nI_1] at hi
      have hk4 : ¬ (4 : Int32) ≤ nI k := fun z => absurd ((nI_leI (a := 4) (b := k) (by decide) (by omega)).mp z) (by omega)
      have hfr := e_isFree (u := u) (m := k) (by omega)
      rw [hB] at hfr
      unfold xl_X3_isHeld_2
      rw [if_neg hk4]
      rcases hR.onm (m := k) (by omega) with ⟨z, -⟩ | ⟨c, i, hOn⟩
      · rw [Fig.no z]
        rw [if_pos z] at hfr
        have hs : ∀ y, xl_X3_isHeld_2 n (nI f) (nI k + 1) K u = some y → ncl (x_X3_isFree (nI k)) (fun r_2 => (if r_2 = 0 then ncl (x_X3_fighterOn (nI k) 0) (fun r_8 => (if r_8 = nI f then nrt 1 else ncl (x_X3_fighterOn (nI k) 1) (fun r_12 => (if r_12 = nI f then nrt 1 else nli (nI k + 1) (fun x_16 => xl_X3_isHeld_2 n (nI f) x_16 K))))) else nli (nI k + 1) (fun x_6 => xl_X3_isHeld_2 n (nI f) x_6 K))) u = some y := fun y hy => ncl_eq2 hfr (by
          rw [if_neg (by decide)]
          exact hy)
        exact hi.imp (fun q => ⟨hs _ q.1, q.2⟩) (fun q => ⟨hs _ q.1, q.2⟩)
      · have hne := hOn.ne.1
        obtain ⟨hc, hi37, m0, m1, -⟩ := hOn
        rw [if_neg hne] at hfr
        have hf0 := e_fOn (u := u) (m := k) (c := c) (i := i) (sd := 0) (by omega) hc hi37 (by decide) (by rw [hB]; exact m0) (by rw [hB]; exact m1)
        have hf1 := e_fOn (u := u) (m := k) (c := c) (i := i) (sd := 1) (by omega) hc hi37 (by decide) (by rw [hB]; exact m0) (by rw [hB]; exact m1)
        rw [hB, Nat.add_zero] at hf0
        rw [hB] at hf1
        rw [Fig.stp (f := f) (k := k) (by omega) hc hi37 m0 m1]
        have s1 : ∀ y, (if B (fc c i + 1) = nI f then nrt 1 else ncl (x_X3_fighterOn (nI k) 1) (fun r_12 => (if r_12 = nI f then nrt (1 : Int32) else nli (nI k + 1) (fun x_16 => xl_X3_isHeld_2 n (nI f) x_16 K)))) u = some y → ncl (x_X3_isFree (nI k)) (fun r_2 => (if r_2 = 0 then ncl (x_X3_fighterOn (nI k) 0) (fun r_8 => (if r_8 = nI f then nrt 1 else ncl (x_X3_fighterOn (nI k) 1) (fun r_12 => (if r_12 = nI f then nrt 1 else nli (nI k + 1) (fun x_16 => xl_X3_isHeld_2 n (nI f) x_16 K))))) else nli (nI k + 1) (fun x_6 => xl_X3_isHeld_2 n (nI f) x_6 K))) u = some y := fun y hy => ncl_eq2 hfr (by
          rw [if_pos rfl]
          exact ncl_eq2 hf0 hy)
        by_cases h1 : B (fc c i + 1) = nI f
        · exact Or.inl ⟨s1 _ (by rw [if_pos h1]; rfl), Or.inl (Or.inl (Or.inl h1))⟩
        · rw [if_neg h1] at s1
          by_cases h2 : B (fc c i + 2) = nI f
          · exact Or.inl ⟨s1 _ (ncl_eq2 hf1 (by
              rw [if_pos (show B (fc c i + 1 + 1) = nI f from h2)]
              rfl)), Or.inl (Or.inl (Or.inr h2))⟩
          · have s2 : ∀ y, xl_X3_isHeld_2 n (nI f) (nI k + 1) K u = some y → _ := fun y hy => s1 y (ncl_eq2 hf1 (by
              rw [if_neg (show ¬ B (fc c i + 1 + 1) = nI f from h2)]
              exact hy))
            rcases hi with ⟨y1, y2⟩ | ⟨y1, y2⟩
            · exact Or.inl ⟨s2 _ y1, y2.imp (fun q => Or.inr q) (fun q => q)⟩
            · exact Or.inr ⟨s2 _ y1, fun q => y2 (q.imp (fun k => k.resolve_left (fun l => l.elim h1 h2)) (fun k => k))⟩
theorem c_isHeld {B : Nat → Int32} {w : GS} {u : MS} {f : Nat} (hB : u.2 0 = B) (hR : R0 B w) (hO : MO B) (hV : VB B) (hf : f < 96) : (x_X3_isHeld (nI f) u = some (1, u) ∧ (Fig B f 0 ∨ Rst B f)) ∨ (x_X3_isHeld (nI f) u = some (0, u) ∧ ¬ (Fig B f 0 ∨ Rst B f)) := held_lp hB hR hldK (hldK_e _ hB hV hf) 4 0 fuel (by omega) (by unfold fuel; omega)
theorem r_rests {B : Nat → Int32} {w : GS} {f : Nat} (hR : R0 B w) (hI2 : ∀ m, m < 4 → w.2.2 22 m = true) (hO : MO B) (hV : VB B) (hf : f < nF w) (hf96 : f < 96) : Rd (f_rests (nI f)) w (fun r => (r = 1 ∧ (Fig B f 0 ∨ Rst B f)) ∨ (r = 0 ∧ ¬ (Fig B f 0 ∨ Rst B f))) := by
  obtain ⟨⟨t, ht, e0⟩, ⟨r, hr, e1⟩, hE⟩ := hV
  have hlp : ∀ (d k n : Nat) (v2 : Int32) (P : Prop), ((v2 = 1 ∧ P) ∨ (v2 = 0 ∧ ¬ P)) → k + d = 4 → d < n → Rd (lp_rests_36 n (nI f) v2 (nI k) (fun v1 v2 v3 => pog (gb v2) (prt v2))) w (fun r => (r = 1 ∧ (Fig B f k ∨ P)) ∨ (r = 0 ∧ ¬ (Fig B f k ∨ P))) := by
    intro d
    induction d with
    | zero =>
      intro k n v2 P hv h1 h2
      cases n with
      | zero => omega
      | succ n =>
        have : k = 4 := by omega
        subst this
        have hnf : ¬ Fig B f 4 := fun ⟨m, h1, h2, _⟩ => by omega
        unfold lp_rests_36
        refine Rd_ite (fun _ => Rd_og (gb01 (hv.elim (fun z => Or.inr z.1) (fun z => Or.inl z.1))) (Rd_rt ?_)) (fun z => absurd (Int32.le_refl _) z)
        rcases hv with ⟨z, y⟩ | ⟨z, y⟩
        · exact Or.inl ⟨z, Or.inr y⟩
        · exact Or.inr ⟨z, fun q => q.elim hnf y⟩
    | succ d ih =>
      intro k n v2 P hv h1 h2
      cases n with
      | zero => omega
      | succ n =>
        have hn : ∀ (v2 : Int32) (P : Prop), ((v2 = 1 ∧ P) ∨ (v2 = 0 ∧ ¬ P)) → Rd (pli (nI k + 1) (fun x => lp_rests_36 n (nI f) v2 x (fun v1 v2 v3 => pog (gb v2) (prt v2)))) w (fun r => (r = 1 ∧ (Fig B f (k + 1) ∨ P)) ∨ (r = 0 ∧ ¬ (Fig B f (k + 1) ∨ P))) := fun v2 P hv => by
          refine Rd_li ?_
          rw [nI_1]
          exact ih (k + 1) n v2 P hv (by omega) (by omega)
        have up : ∀ {r : Int32}, ((r = 1 ∧ (Fig B f (k + 1) ∨ P)) ∨ (r = 0 ∧ ¬ (Fig B f (k + 1) ∨ P))) → (Fig B f k ∨ P ↔ Fig B f (k + 1) ∨ P) → ((r = 1 ∧ (Fig B f k ∨ P)) ∨ (r = 0 ∧ ¬ (Fig B f k ∨ P))) := fun z y => by
          rw [y]
          exact z
        unfold lp_rests_36
        refine Rd_ite (fun z => absurd ((nI_le4 (k := k) (n := 4) (by omega) (by decide)).mp z) (by omega)) (fun _ => Rd_ite (fun hz => ?_) (fun hz => ?_))
        · have hP : ¬ P := by
            rcases hv with ⟨z, -⟩ | ⟨-, y⟩
            · rw [hz] at z
              exact absurd z (by decide)
            · exact y
          rcases hR.onm2 hO (m := k) (by omega) with ⟨z, y⟩ | ⟨c, i, hOn, hmk, -⟩
          · refine Rd_rdN rfl (by omega) (by decide) y (Rd_ite (fun _ => (hn 0 P (Or.inr ⟨rfl, hP⟩)).mono (fun r hr => up hr ?_)) (fun q => absurd rfl q))
            rw [Fig.no z]
          · obtain ⟨hc, hi37, m0, m1, m22, -⟩ := hOn
            have hab : Am w 16 (40 * c + i) (B (fc c i + 1)) ∧ Am w 17 (40 * c + i) (B (fc c i + 2)) := by
              rcases hR.2.2.2.2.1 c hc i hi37 with ⟨q, -⟩ | ⟨-, q⟩
              · rw [hmk] at q
                exact absurd q (by decide)
              · exact q
            have hstp := Fig.stp (f := f) (k := k) (by omega) hc hi37 m0 m1
            have yes : (B (fc c i + 1) = nI f ∨ B (fc c i + 2) = nI f) → Rd (pli (nI k + 1) (fun x => lp_rests_36 n (nI f) 1 x (fun v1 v2 v3 => pog (gb v2) (prt v2)))) w (fun r => (r = 1 ∧ (Fig B f k ∨ P)) ∨ (r = 0 ∧ ¬ (Fig B f k ∨ P))) := fun q => (hn 1 True (Or.inl ⟨rfl, trivial⟩)).mono (fun r hr => by
              rcases hr with ⟨y, -⟩ | ⟨-, y⟩
              · exact Or.inl ⟨y, Or.inl (hstp.mpr (Or.inl q))⟩
              · exact absurd (Or.inr trivial) y)
            refine Rd_rdN rfl (by omega) (by decide) m22 (Rd_ite (fun q => absurd q (nI_ne_1 (by omega))) (fun _ => ?_))
            refine Rd_rdN rfl (by omega) (by decide) m22 (Rd_rdN rfl (by omega) (by decide) hab.1 (Rd_ite (fun q => yes (Or.inl q)) (fun q1 => ?_)))
            refine Rd_rdN rfl (by omega) (by decide) m22 (Rd_rdN rfl (by omega) (by decide) hab.2 (Rd_ite (fun q => yes (Or.inr q)) (fun q2 => ?_)))
            refine (hn 0 P (Or.inr ⟨rfl, hP⟩)).mono (fun r hr => up hr ?_)
            rw [hstp]
            exact ⟨fun z => z.imp (fun k => k.resolve_left (fun l => l.elim q1 q2)) (fun k => k), fun z => z.imp (fun k => Or.inr k) (fun k => k)⟩
        · have hP : P ∧ v2 = 1 := by
            rcases hv with ⟨z, y⟩ | ⟨z, -⟩
            · exact ⟨y, z⟩
            · exact absurd z hz
          refine (hn 1 P (Or.inl ⟨rfl, hP.1⟩)).mono (fun r hr => up hr ⟨fun _ => Or.inr hP.1, fun _ => Or.inr hP.1⟩)
  have h11 := (hR.2.2.1 f hf).2.2.2.2.2.2
  unfold f_rests
  rcases hE f hf96 with z | ⟨e, he, z⟩
  · rw [z] at h11
    refine Rd_rdN rfl hf96 (by decide) h11 (Rd_ite (fun _ => (hlp 4 0 fuel 0 (Rst B f) (Or.inr ⟨rfl, ?_⟩) (by omega) (by unfold fuel; omega))) (fun q => absurd rfl q))
    rintro ⟨e, _, _, h1, _, _, h4, _⟩
    rw [z] at h4
    exact nI_ne_1 (by omega) h4.symm
  · rw [z] at h11
    have i3 : Im w 3 (nI t) := by rw [← e0]; exact hR.1.2.1
    have i4 : Im w 4 (nI r) := by rw [← e1]; exact hR.1.2.2
    have hiff := (rst_lt he ht hr).2
    refine Rd_rdN rfl hf96 (by decide) h11 (Rd_ite (fun q => absurd q (nI_ne_1 (by omega))) (fun _ => Ok_rfN i3 (Rd_rdN rfl hf96 (by decide) h11 (Ok_rfN i4 (Rd_ite (fun q => ?_) (fun q => ?_))))))
    · refine hlp 4 0 fuel 0 (Rst B f) (Or.inr ⟨rfl, ?_⟩) (by omega) (by unfold fuel; omega)
      rintro ⟨e', t', r', h1, h2, h3, h4, h5, h6, h7⟩
      have q1 : e' = e := (nI_eq (by omega) (by omega)).mp (h4.symm.trans z)
      have q2 : t' = t := (nI_eq (by omega) (by omega)).mp (h5.symm.trans e0)
      have q3 : r' = r := (nI_eq (by omega) (by omega)).mp (h6.symm.trans e1)
      subst q1
      subst q2
      subst q3
      exact hiff.mp q h7
    · refine hlp 4 0 fuel 1 (Rst B f) (Or.inl ⟨rfl, e, t, r, he, ht, hr, z, e0, e1, ?_⟩) (by omega) (by unfold fuel; omega)
      exact Classical.byContradiction (fun y => q (hiff.mpr y))

