/-! ===== which line ends a fight, on both sides ===== -/
def lnA (L : MS) (l : Nat) : Nat := if l = 0 then 0 else (L.2 1 (l - 1)).toNatClampNeg
def lnB (L : MS) (l : Nat) : Nat := (L.2 1 l).toNatClampNeg
def hvL (L : MS) (B : Nat → Int32) (m l sd : Nat) : Int32 := hdS (evS L (valT B m sd) (lnB L l - lnA L l) (lnA L l) [])
theorem LnR.ab {L : MS} {w : GS} {l : Nat} (h : LnR L w l) : lnA L l ≤ lnB L l ∧ lnB L l ≤ 300 ∧ Am w 34 l (nI (lnA L l)) ∧ Am w 34 (l + 1) (nI (lnB L l)) ∧ (1 ≤ l → L.2 1 (l - 1) = nI (lnA L l)) ∧ L.2 1 l = nI (lnB L l) ∧ CdR L w (lnA L l) (lnB L l) := by
  obtain ⟨pt, p1, p2, p3, a, b, q1, q2, q3, q4, q5, q6, q7, q8⟩ := h
  have eb : lnB L l = b := by
    unfold lnB
    rw [q7, nI_clamp (by omega)]
  have ea : lnA L l = a := by
    unfold lnA
    by_cases hl : l = 0
    · rw [if_pos hl]
      exact (q5 hl).symm
    · rw [if_neg hl, q6 (by omega), nI_clamp (by omega)]
  rw [ea, eb]
  exact ⟨q1, q2, q3, q4, q6, q7, q8⟩
theorem evS_ty {L : MS} {w : GS} {vl : Nat → Nat → Int32} {a b : Nat} {T : Nat → List Bool} (hv : ∀ kd f, (kd = 12 ∨ kd = 13) → vl kd f = 0 ∨ vl kd f = 1) (hT : ∀ k, a ≤ k → k < b → (T k).length ≤ 63 ∧ ∃ kd f, Am w 36 k (nI (opK kd)) ∧ Am w 37 k (nI f) ∧ L.2 0 k = nI (kd * 10000 + f) ∧ f < 10000 ∧ CdT (T k) (T (k + 1)) kd f) : ∀ (t k : Nat) (S : List Int32), k + t = b → a ≤ k → TyS S (T k) → TyS (evS L vl t k S) (T b) := by
  intro t
  induction t with
  | zero =>
    intro k S hk _ hty
    have : k = b := by omega
    subst this
    exact hty
  | succ t ih =>
    intro k S hk hak hty
    obtain ⟨-, kd, f, -, -, hcode, hf, hcd⟩ := hT k hak (by omega)
    rw [evS_succ, cdA_e hcode hf hcd.kd.1]
    exact ih (k + 1) _ (by omega) (by omega) (stepS_ty (hv kd f) hty hcd)
theorem hv_one {L : MS} {w : GS} {B : Nat → Int32} {m l sd : Nat} (h01 : B (mc0 m + 3) = 0 ∨ B (mc0 m + 3) = 1) (h : LnR L w l) : evS L (valT B m sd) (lnB L l - lnA L l) (lnA L l) [] = [hvL L B m l sd] ∧ (hvL L B m l sd = 0 ∨ hvL L B m l sd = 1) := by
  obtain ⟨h1, h2, -, -, -, -, T, t1, t2, t3⟩ := h.ab
  have hty := evS_ty (L := L) (vl := valT B m sd) (fun kd f z => valT01 h01 z) t3 (lnB L l - lnA L l) (lnA L l) [] (by omega) (Nat.le_refl _) (by rw [t1]; exact trivial)
  rw [t2] at hty
  unfold hvL
  obtain ⟨x, R, e, hx, hR⟩ := hty.one
  have hR2 := hR.len
  have hR3 : R = [] := List.length_eq_zero_iff.mp hR2
  rw [e, hR3]
  exact ⟨rfl, hx rfl⟩
theorem c_holds {L u : MS} {w : GS} {B : Nat → Int32} {m l sd : Nat} (hB : u.2 0 = B) (hm : m < 4) (hsd : sd < 2) (hl : l < 20) (h01 : B (mc0 m + 3) = 0 ∨ B (mc0 m + 3) = 1) (h : LnR L w l) : CN (x_X3_holds L (nI l) (nI m) (nI sd)) u (fun r v => r = (if hvL L B m l sd = 1 then 1 else 0) ∧ Same [16] [18] u v) := by
  obtain ⟨e1, e2⟩ := hv_one (B := B) (m := m) (sd := sd) h01 h
  obtain ⟨h1, h2, -, -, h5, h6, T, t1, t2, t3⟩ := h.ab
  have es : x_X4_startOf L (nI l) = nrt (nI (lnA L l)) := by
    unfold x_X4_startOf
    by_cases hz : l = 0
    · rw [hz, if_pos (show nI 0 = 0 from rfl)]
      rfl
    · have e9 : nI l - 1 = nI (l - 1) := nI_sub (b := 1) (by omega)
      rw [if_neg (show ¬ nI l = 0 from fun z => hz ((nI_eq (a := l) (b := 0) (by omega) (by decide)).mp z)), e9, rg_in (by omega) (by decide), h5 (by omega)]
  unfold x_X3_holds
  refine CN_WF ?_
  rw [es, ncl_rt]
  have hB1 : (si u 16 0).2 0 = B := hB
  refine c_holds_lp (u0 := si u 16 0) (w := w) (a := lnA L l) hB1 hm hsd hl h6 h2 h01 t3 _ _ [hvL L B m l sd] (fun v hs hst => ?_) (lnB L l - lnA L l) (lnA L l) fuel _ [] (by omega) (Nat.le_refl _) (Same.rf _) ⟨rfl, trivial⟩ (by rw [t1]; exact trivial) e1
  have hs0 : Same [16] [18] u v := (Same_si (by decide)).trans hs
  refine CN_pop hst (by decide) (fun v2 s2 _ => CN_ite (fun z => CN_rt ⟨?_, hs0.trans s2⟩) (fun z => CN_rt ⟨?_, hs0.trans s2⟩))
  · rw [if_pos z]
  · rw [if_neg z]
theorem s38_s38 (w : GS) (f f2 : Nat → Int32) (mk mk2 : Nat → Bool) : s38 (s38 w f mk) f2 mk2 = s38 w f2 mk2 := by
  unfold s38
  refine Prod.ext (Prod.ext rfl ?_) (Prod.ext rfl ?_)
  · funext a
    show (if a = 38 then f2 else if a = 38 then f else w.1.2 a) = if a = 38 then f2 else w.1.2 a
    by_cases hz : a = 38
    · rw [if_pos hz, if_pos hz]
    · rw [if_neg hz, if_neg hz, if_neg hz]
  · funext a j
    show (if a = 38 then mk2 j else if a = 38 then mk j else w.2.2 a j) = if a = 38 then mk2 j else w.2.2 a j
    by_cases hz : a = 38
    · rw [if_pos hz, if_pos hz]
    · rw [if_neg hz, if_neg hz, if_neg hz]
theorem r_holds {L : MS} {B : Nat → Int32} {w : GS} {m c i l sd : Nat} {over : Int32} (hm : m < 4) (hsd : sd < 2) (hl : l < 20) (hO : OnM B w m c i) (hov : over = 0 ↔ ¬ (B (mc0 m + 3) = 1 ∨ B (mc0 m + 2) = 0)) (h01 : B (mc0 m + 3) = 0 ∨ B (mc0 m + 3) = 1) (h : LnR L w l) : Ok (f_holds (nI l) (nI m) (nI sd) over) w (fun r v => r = (if hvL L B m l sd = 1 then 1 else 0) ∧ ∃ f mk, v = s38 w f mk) := by
  obtain ⟨e1, e2⟩ := hv_one (B := B) (m := m) (sd := sd) h01 h
  obtain ⟨h1, h2, h3, h4, h5, h6, T, t1, t2, t3⟩ := h.ab
  unfold f_holds
  refine Ok_rdN rfl (by omega) (by decide) h3 ?_
  have h9 := r_holds_lp (L := L) (a := lnA L l) hm hsd hl hO hov h4 h2 h01 t3 (fun v1 v2 v3 v4 v5 v6 => prd 38 301 0 (fun x_59 => (if x_59 = 0 then prt 0 else prt 1))) (fun r v => r = (if hvL L B m l sd = 1 then 1 else 0) ∧ ∃ f mk, v = s38 w f mk) [hvL L B m l sd] (fun f mk hmk hrp => ?_) (lnB L l - lnA L l) (lnA L l) fuel (w.1.2 38) (w.2.2 38) [] (by omega) (by unfold fuel; omega) (Nat.le_refl _) (fun j hj => absurd hj (Nat.not_lt_zero _)) trivial (by rw [t1]; exact trivial) e1
  · rw [s38_id] at h9
    exact h9
  · refine Ok_rdN (j := 0) (x := hvL L B m l sd) rfl (by decide) (by decide) ⟨hmk 0 (show 0 < 1 from Nat.one_pos), hrp.1⟩ (Ok_ite (fun z => Ok_rt ⟨?_, f, mk, rfl⟩) (fun z => Ok_rt ⟨?_, f, mk, rfl⟩))
    · rw [z, if_neg (by decide)]
    · rw [if_pos (e2.resolve_left z)]
/-- (l, sd) is the first that holds -/
def FstL (H : Nat → Nat → Prop) (l sd : Nat) : Prop := H l sd ∧ (∀ l2, l2 < l → ∀ sd2, sd2 < 2 → ¬ H l2 sd2) ∧ ∀ sd2, sd2 < sd → ¬ H l sd2
theorem FstL.un {H : Nat → Nat → Prop} {l sd l2 sd2 : Nat} (h1 : FstL H l sd) (h2 : FstL H l2 sd2) (hs : sd < 2) (hs2 : sd2 < 2) : l = l2 ∧ sd = sd2 := by
  obtain ⟨a, b, d⟩ := h1
  obtain ⟨a2, b2, d2⟩ := h2
  have e : l = l2 := by
    rcases Nat.lt_trichotomy l l2 with z | z | z
    · exact absurd a (b2 l z sd hs)
    · exact z
    · exact absurd a2 (b l2 z sd2 hs2)
  subst e
  refine ⟨rfl, ?_⟩
  rcases Nat.lt_trichotomy sd sd2 with z | z | z
  · exact absurd a (d2 sd z)
  · exact z
  · exact absurd a2 (d sd2 z)
theorem c_ask {L u : MS} {w : GS} {B : Nat → Int32} {m nl : Nat} {Q : Int32 → MS → Prop} (hB : u.2 0 = B) (hm : m < 4) (hnl : nl ≤ 20) (e3 : L.1 3 = nI nl) (h01 : B (mc0 m + 3) = 0 ∨ B (mc0 m + 3) = 1) (h : ∀ l, l < nl → LnR L w l) (hN : (∀ l, l < nl → ∀ sd, sd < 2 → ¬ hvL L B m l sd = 1) → ∀ v, Same [16] [18] u v → Q (-1) v) (hF : ∀ l sd, l < nl → sd < 2 → FstL (fun l sd => hvL L B m l sd = 1) l sd → ∀ v, Same [16] [18] u v → CQ (acl (x_X3_finish (nI m) (nI sd) (nI l) (L.2 2 l)) (fun r => art (nI l))) v Q) : CQ (x_X3_ask L (nI m)) u Q := by
  have hin : ∀ (l : Nat), l < nl → (∀ l2, l2 < l → ∀ sd2, sd2 < 2 → ¬ hvL L B m l2 sd2 = 1) → ∀ (K : Int32 → Int32 → Int32 → AG Int32), ((∀ sd, sd < 2 → ¬ hvL L B m l sd = 1) → ∀ v, Same [16] [18] u v → CQ (K (nI m) (nI l) (nI 2)) v Q) → ∀ (n sd : Nat) (v : MS), sd ≤ 2 → (∀ sd2, sd2 < sd → ¬ hvL L B m l sd2 = 1) → Same [16] [18] u v → CQ (xl_X3_ask_13 L n (nI m) (nI l) (nI sd) K) v Q := by
    intro l hl hlo K hK n
    induction n with
    | zero => exact fun sd v _ _ _ r w c d e => by cases e
    | succ n ih =>
      intro sd v hsd hno hs
      unfold xl_X3_ask_13
      by_cases h2 : 2 ≤ sd
      · have : sd = 2 := by omega
        subst this
        exact CQ_ite (fun _ => hK hno v hs) (fun z => absurd (Int32.le_refl _) z)
      · refine CQ_ite (fun z => absurd ((nI_leI (a := 2) (b := sd) (by decide) (by omega)).mp z) h2) (fun _ => ?_)
        refine CQ_nl (CN.mono (c_holds ((hs.2 0 (by decide)).trans hB) hm (by omega) (by omega) h01 (h l hl)) (fun r v2 y => ?_))
        obtain ⟨y1, y2⟩ := y
        have hs2 := hs.trans y2
        by_cases hh : hvL L B m l sd = 1
        · rw [if_pos hh] at y1
          subst y1
          refine CQ_ite (fun z => absurd z (by decide)) (fun _ => ?_)
          rw [rg_in (by omega) (by decide)]
          exact hF l sd hl (by omega) ⟨hh, hlo, hno⟩ v2 hs2
        · rw [if_neg hh] at y1
          subst y1
          refine CQ_ite (fun _ => CQ_li ?_) (fun z => absurd rfl z)
          rw [nI_1]
          refine ih (sd + 1) v2 (by omega) (fun sd2 hsd2 => ?_) hs2
          rcases Nat.lt_or_ge sd2 sd with z | z
          · exact hno sd2 z
          · have : sd2 = sd := by omega
            rw [this]
            exact hh
  have hout : ∀ (n l : Nat) (v : MS), l ≤ nl → (∀ l2, l2 < l → ∀ sd2, sd2 < 2 → ¬ hvL L B m l2 sd2 = 1) → Same [16] [18] u v → CQ (xl_X3_ask_2 L n (nI m) (nI l) (fun v2 v3 => art (-1))) v Q := by
    intro n
    induction n with
    | zero => exact fun l v _ _ _ r w c d e => by cases e
    | succ n ih =>
      intro l v hl hlo hs
      unfold xl_X3_ask_2
      rw [e3]
      by_cases h2 : nl ≤ l
      · have : l = nl := by omega
        subst this
        exact CQ_ite (fun _ => CQ_rt (hN hlo v hs)) (fun z => absurd (Int32.le_refl _) z)
      · refine CQ_ite (fun z => absurd ((nI_leI (by omega) (by omega)).mp z) h2) (fun _ => ?_)
        refine hin l (by omega) hlo _ (fun hno v2 hs2 => CQ_li ?_) fuel 0 v (by decide) (fun _ z => absurd z (Nat.not_lt_zero _)) hs
        rw [nI_1]
        refine ih (l + 1) v2 (by omega) (fun l2 hl2 => ?_) hs2
        rcases Nat.lt_or_ge l2 l with z | z
        · exact hlo l2 z
        · have : l2 = l := by omega
          rw [this]
          exact hno
  unfold x_X3_ask
  exact hout fuel 0 u (by omega) (fun _ z => absurd z (Nat.not_lt_zero _)) (Same.rf _)
theorem r_asked {L : MS} {B : Nat → Int32} {w : GS} {m c i nl : Nat} {over : Int32} {Q : Int32 → GS → Prop} (hm : m < 4) (hnl : nl ≤ 20) (h30 : Im w 30 (nI nl)) (hO : OnM B w m c i) (hov : over = 0 ↔ ¬ (B (mc0 m + 3) = 1 ∨ B (mc0 m + 2) = 0)) (h01 : B (mc0 m + 3) = 0 ∨ B (mc0 m + 3) = 1) (h : ∀ l, l < nl → LnR L w l) (hN : (∀ l, l < nl → ∀ sd, sd < 2 → ¬ hvL L B m l sd = 1) → ∀ f mk, Q (-1) (s38 w f mk)) (hF : ∀ l sd, l < nl → sd < 2 → FstL (fun l sd => hvL L B m l sd = 1) l sd → ∀ f mk, Ok (pcl (f_ends (nI m) (nI sd) (nI l) (L.2 2 l)) (fun r => prt (nI l))) (s38 w f mk) Q) : Ok (f_asked (nI m) over) w Q := by
  have hin : ∀ (l : Nat), l < nl → (∀ l2, l2 < l → ∀ sd2, sd2 < 2 → ¬ hvL L B m l2 sd2 = 1) → ∀ (K : Int32 → Int32 → Int32 → Int32 → PG Int32), ((∀ sd, sd < 2 → ¬ hvL L B m l sd = 1) → ∀ f mk, Ok (K (nI m) over (nI l) (nI 2)) (s38 w f mk) Q) → ∀ (t sd n : Nat) (f : Nat → Int32) (mk : Nat → Bool), sd + t = 2 → t < n → (∀ sd2, sd2 < sd → ¬ hvL L B m l sd2 = 1) → Ok (lp_asked_13 n (nI m) over (nI l) (nI sd) K) (s38 w f mk) Q := by
    intro l hl hlo K hK t
    induction t with
    | zero =>
      intro sd n f mk h1 h2 hno
      cases n with
      | zero => omega
      | succ n =>
        have : sd = 2 := by omega
        subst this
        unfold lp_asked_13
        exact Ok_ite (fun _ => hK hno f mk) (fun z => absurd (Int32.le_refl _) z)
    | succ t ih =>
      intro sd n f mk h1 h2 hno
      cases n with
      | zero => omega
      | succ n =>
        unfold lp_asked_13
        refine Ok_ite (fun z => absurd z (nI_ge (b := 2) (by omega) (by decide))) (fun _ => ?_)
        refine Ok_cl (Ok.mono (r_holds (L := L) (B := B) (w := s38 w f mk) hm (by omega) (by omega) (hO.s38 f mk) hov h01 (h l hl)) (fun r w1 hw => ?_))
        obtain ⟨y1, f2, mk2, rfl⟩ := hw
        rw [s38_s38]
        by_cases hh : hvL L B m l sd = 1
        · rw [if_pos hh] at y1
          subst y1
          refine Ok_ite (fun z => absurd z (by decide)) (fun _ => ?_)
          obtain ⟨pt, p1, p2, p3, -⟩ := h l hl
          have h9 := hF l sd hl (by omega) ⟨hh, hlo, hno⟩ f2 mk2
          rw [p2] at h9
          exact Ok_rdN rfl (by omega) (by decide) (show Am (s38 w f2 mk2) 35 l (nI pt) from p3) h9
        · rw [if_neg hh] at y1
          subst y1
          refine Ok_ite (fun _ => Ok_li ?_) (fun z => absurd rfl z)
          rw [nI_1]
          refine ih (sd + 1) n f2 mk2 (by omega) (by omega) (fun sd2 hsd2 => ?_)
          rcases Nat.lt_or_ge sd2 sd with z | z
          · exact hno sd2 z
          · have : sd2 = sd := by omega
            rw [this]
            exact hh
  have hout : ∀ (t l n : Nat) (f : Nat → Int32) (mk : Nat → Bool), l + t = nl → t < n → (∀ l2, l2 < l → ∀ sd2, sd2 < 2 → ¬ hvL L B m l2 sd2 = 1) → Ok (lp_asked_2 n (nI m) over (nI l) (fun v1 v2 v3 => prt (-1))) (s38 w f mk) Q := by
    intro t
    induction t with
    | zero =>
      intro l n f mk h1 h2 hlo
      cases n with
      | zero => omega
      | succ n =>
        have : l = nl := by omega
        subst this
        unfold lp_asked_2
        exact Ok_rfN (w := s38 w f mk) h30 (Ok_ite (fun _ => Ok_rt (hN hlo f mk)) (fun z => absurd (Int32.le_refl _) z))
    | succ t ih =>
      intro l n f mk h1 h2 hlo
      cases n with
      | zero => omega
      | succ n =>
        unfold lp_asked_2
        refine Ok_rfN (w := s38 w f mk) h30 (Ok_ite (fun z => absurd z (nI_ge (by omega) (by omega))) (fun _ => ?_))
        refine hin l (by omega) hlo _ (fun hno f2 mk2 => Ok_li ?_) 2 0 fuel f mk (by omega) (by unfold fuel; omega) (fun _ z => absurd z (Nat.not_lt_zero _))
        rw [nI_1]
        refine ih (l + 1) n f2 mk2 (by omega) (by omega) (fun l2 hl2 => ?_)
        rcases Nat.lt_or_ge l2 l with z | z
        · exact hlo l2 z
        · have : l2 = l := by omega
          rw [this]
          exact hno
  unfold f_asked
  have h9 := hout nl 0 fuel (w.1.2 38) (w.2.2 38) (by omega) (by unfold fuel; omega) (fun _ z => absurd z (Nat.not_lt_zero _))
  rw [s38_id] at h9
  exact h9

