/-! ===== the log as a run of its own; the live state agrees with its end ===== -/
abbrev En : Type := Int32 × Int32 × Int32 × Int32
def B0 : GS := ((fun _ => 0, fun _ _ => 0), fun _ => false, fun _ _ => false)
theorem B0_ag (v : GS) : Ag B0 v := ⟨fun _ _ h => (by cases h), fun _ _ _ h => (by cases h)⟩
/-- a text at its place, marked -/
def tput (f n : Nat) (tx : Nat → Int32) (u : GS) : GS := ((u.1.1, fun a => if a = 54 then (fun j => if f ≤ j ∧ j < f + n then tx j else u.1.2 54 j) else u.1.2 a), u.2.1, fun a j => if a = 54 then (if f ≤ j ∧ j < f + n then true else u.2.2 54 j) else u.2.2 a j)
theorem tput_ag {f n : Nat} {tx : Nat → Int32} {u v : GS} (h : Ag u v) (hv : ∀ j, f ≤ j → j < f + n → v.2.2 54 j = true ∧ v.1.2 54 j = tx j) : Ag (tput f n tx u) v := by
  refine ⟨h.1, fun a j ht hj => ?_⟩
  have hj2 : (if a = 54 then (if f ≤ j ∧ j < f + n then true else u.2.2 54 j) else u.2.2 a j) = true := hj
  show v.2.2 a j = true ∧ v.1.2 a j = (if a = 54 then (fun j => if f ≤ j ∧ j < f + n then tx j else u.1.2 54 j) else u.1.2 a) j
  by_cases ha : a = 54
  · subst ha
    rw [if_pos rfl] at hj2 ⊢
    show v.2.2 54 j = true ∧ v.1.2 54 j = if f ≤ j ∧ j < f + n then tx j else u.1.2 54 j
    by_cases hb : f ≤ j ∧ j < f + n
    · rw [if_pos hb]
      exact hv j hb.1 hb.2
    · rw [if_neg hb] at hj2 ⊢
      exact h.2 54 j ht hj2
  · rw [if_neg ha] at hj2 ⊢
    exact h.2 a j ht hj2
theorem tput_o {f n : Nat} {tx : Nat → Int32} {u : GS} {k : Nat} (hk : ¬ k = 54) : (tput f n tx u).1.2 k = u.1.2 k ∧ (tput f n tx u).2.2 k = u.2.2 k := by
  refine ⟨if_neg hk, ?_⟩
  funext j
  exact if_neg hk
theorem tput_m {f n : Nat} {tx : Nat → Int32} {u : GS} (k : Nat) (hk : k < n) : (tput f n tx u).2.2 54 (f + k) = true := by
  show (if 54 = 54 then (if f ≤ f + k ∧ f + k < f + n then true else u.2.2 54 (f + k)) else u.2.2 54 (f + k)) = true
  rw [if_pos rfl, if_pos ⟨by omega, by omega⟩]
theorem tput_congr {f n : Nat} {tx tx2 : Nat → Int32} {u : GS} (h : ∀ j, j < f + n → tx2 j = tx j) : tput f n tx2 u = tput f n tx u := by
  unfold tput
  have e : (fun a : Nat => if a = 54 then (fun j => if f ≤ j ∧ j < f + n then tx2 j else u.1.2 54 j) else u.1.2 a) = (fun a => if a = 54 then (fun j => if f ≤ j ∧ j < f + n then tx j else u.1.2 54 j) else u.1.2 a) := by
    funext a
    by_cases ha : a = 54
    · rw [if_pos ha, if_pos ha]
      funext j
      by_cases hb : f ≤ j ∧ j < f + n
      · rw [if_pos hb, if_pos hb, h j hb.2]
      · rw [if_neg hb, if_neg hb]
    · rw [if_neg ha, if_neg ha]
  rw [e]
/-- what a text alone leaves -/
def t1 (f n : Nat) (tx : Nat → Int32) : GS := match f_takeLaws (nI f) (nI n) (tput f n tx B0) with
  | some y => y.2
  | none => B0
theorem t1_ok {f n : Nat} {tx : Nat → Int32} (hf : f + n ≤ 24000) (hn : n ≤ 3000) : (∃ r, f_takeLaws (nI f) (nI n) (tput f n tx B0) = some (r, t1 f n tx)) ∧ LwOk (t1 f n tx) := by
  obtain ⟨r, v, e, -, hL, -⟩ := ok_takeLaws (u := tput f n tx B0) f n hf hn (fun k hk => tput_m k hk)
  have e2 : t1 f n tx = v := by unfold t1; rw [e]
  rw [e2]
  exact ⟨⟨r, e⟩, hL⟩
theorem t1_congr {f n : Nat} {tx tx2 : Nat → Int32} (h : ∀ j, j < f + n → tx2 j = tx j) : t1 f n tx2 = t1 f n tx := by
  unfold t1
  rw [tput_congr h]
def isL (k : Nat) : Bool := decide (27 ≤ k ∧ k ≤ 31)
def isA (k : Nat) : Bool := decide (32 ≤ k ∧ k ≤ 37)
def isS (k : Nat) : Bool := [41, 43, 44, 45, 46, 47, 48, 51].contains k
/-- of the laws' cells t's marks alone are kept; the scanner's are forgotten -/
def lf (t u : GS) : GS := (u.1, (fun k => if isL k = true then t.2.1 k && u.2.1 k else if isS k = true then false else u.2.1 k), fun k j => if isA k = true then t.2.2 k j && u.2.2 k j else if k = 54 ∨ k = 56 ∨ 63 ≤ k then false else u.2.2 k j)
theorem lf_ag {t u v : GS} (h : Ag u v) : Ag (lf t u) v := by
  refine ⟨fun k ht hk => ?_, fun k j ht hk => ?_⟩
  · have hk2 : (if isL k = true then t.2.1 k && u.2.1 k else if isS k = true then false else u.2.1 k) = true := hk
    have hu : u.2.1 k = true := by
      by_cases h1 : isL k = true
      · rw [if_pos h1] at hk2; exact (Bool.and_eq_true_iff.mp hk2).2
      · rw [if_neg h1] at hk2
        by_cases h2 : isS k = true
        · rw [if_pos h2] at hk2; cases hk2
        · rw [if_neg h2] at hk2; exact hk2
    exact h.1 k ht hu
  · have hk2 : (if isA k = true then t.2.2 k j && u.2.2 k j else if k = 54 ∨ k = 56 ∨ 63 ≤ k then false else u.2.2 k j) = true := hk
    have hu : u.2.2 k j = true := by
      by_cases h1 : isA k = true
      · rw [if_pos h1] at hk2; exact (Bool.and_eq_true_iff.mp hk2).2
      · rw [if_neg h1] at hk2
        by_cases h2 : k = 54 ∨ k = 56 ∨ 63 ≤ k
        · rw [if_pos h2] at hk2; cases hk2
        · rw [if_neg h2] at hk2; exact hk2
    exact h.2 k j ht hu
theorem lf_i {t u : GS} {k : Nat} (h1 : isL k = false) (h2 : isS k = false) : (lf t u).2.1 k = u.2.1 k := by
  show (if isL k = true then t.2.1 k && u.2.1 k else if isS k = true then false else u.2.1 k) = u.2.1 k
  rw [if_neg (by rw [h1]; decide), if_neg (by rw [h2]; decide)]
theorem lf_a {t u : GS} {k : Nat} (h1 : isA k = false) (h2 : ¬ (k = 54 ∨ k = 56 ∨ 63 ≤ k)) : (lf t u).2.2 k = u.2.2 k := by
  funext j
  show (if isA k = true then t.2.2 k j && u.2.2 k j else if k = 54 ∨ k = 56 ∨ 63 ≤ k then false else u.2.2 k j) = u.2.2 k j
  rw [if_neg (by rw [h1]; decide), if_neg h2]
theorem lf_li {t u : GS} {k : Nat} (h1 : isL k = true) : (lf t u).2.1 k = (t.2.1 k && u.2.1 k) := if_pos h1
theorem lf_la {t u : GS} {k j : Nat} (h1 : isA k = true) : (lf t u).2.2 k j = (t.2.2 k j && u.2.2 k j) := if_pos h1
theorem isA_lt {k : Nat} (h : k < 32) : isA k = false := decide_eq_false (by omega)
/-- w's marked cells of the laws are t's -/
def lawc (w t : GS) : Prop := (∀ k, isL k = true → w.2.1 k = true → t.2.1 k = true ∧ t.1.1 k = w.1.1 k) ∧ ∀ k j, isA k = true → w.2.2 k j = true → t.2.2 k j = true ∧ t.1.2 k j = w.1.2 k j
theorem trk_L {k : Nat} (h : isL k = true) : trk k = true := by
  have h2 := of_decide_eq_true h
  rcases (by omega : k = 27 ∨ k = 28 ∨ k = 29 ∨ k = 30 ∨ k = 31) with rfl | rfl | rfl | rfl | rfl <;> rfl
theorem trk_A {k : Nat} (h : isA k = true) : trk k = true := by
  have h2 := of_decide_eq_true h
  rcases (by omega : k = 32 ∨ k = 33 ∨ k = 34 ∨ k = 35 ∨ k = 36 ∨ k = 37) with rfl | rfl | rfl | rfl | rfl | rfl <;> rfl
theorem lf_lawc {t u : GS} (h : Ag t u) : lawc (lf t u) t := by
  refine ⟨fun k hk hm => ?_, fun k j hk hm => ?_⟩
  · rw [lf_li hk] at hm
    have h1 := (Bool.and_eq_true_iff.mp hm).1
    exact ⟨h1, (h.1 k (trk_L hk) h1).2.symm⟩
  · rw [lf_la hk] at hm
    have h1 := (Bool.and_eq_true_iff.mp hm).1
    exact ⟨h1, (h.2 k j (trk_A hk) h1).2.symm⟩
theorem lf_LwOk {t u : GS} (h : Ag t u) (hL : LwOk t) : LwOk (lf t u) := by
  obtain ⟨⟨g, g1, g2⟩, m30, m31, hl⟩ := hL
  have im : ∀ k, isL k = true → t.2.1 k = true → (lf t u).2.1 k = true ∧ (lf t u).1.1 k = t.1.1 k := fun k hk hm => by
    rw [lf_li hk, hm, (h.1 k (trk_L hk) hm).1]
    exact ⟨rfl, (h.1 k (trk_L hk) hm).2⟩
  have am : ∀ k j x, isA k = true → Am t k j x → Am (lf t u) k j x := fun k j x hk hm => by
    refine ⟨?_, (h.2 k j (trk_A hk) hm.1).2.trans hm.2⟩
    rw [lf_la hk, hm.1, (h.2 k j (trk_A hk) hm.1).1]
    rfl
  refine ⟨⟨g, g1, (im 29 rfl g2.1).1, (im 29 rfl g2.1).2.trans g2.2⟩, (im 30 rfl m30).1, (im 31 rfl m31).1, ?_⟩
  rcases hl with hl | ⟨l1, l2, ln, l3, l4, l5⟩
  · exact Or.inl ((im 30 rfl m30).2.trans hl)
  · refine Or.inr ⟨(im 27 rfl l1).1, (im 28 rfl l2).1, ln, l3, (im 30 rfl m30).2.trans l4, fun l hl => ?_⟩
    obtain ⟨m35, a, b, hb, k1, k2, k0, k3⟩ := l5 l hl
    refine ⟨(am 35 l _ rfl (Am.val m35)).1, a, b, hb, am 34 _ _ rfl k1, am 34 _ _ rfl k2, k0, fun hh => ?_⟩
    obtain ⟨gg, e1, e2, e3⟩ := k3 hh
    refine ⟨gg, e1, e2, fun k n1 n2 => ?_⟩
    obtain ⟨op, pf, o1, o2, o3⟩ := e3 k n1 n2
    exact ⟨op, pf, am 36 _ _ rfl o1, am 37 _ _ rfl o2, o3⟩
/-- no mark of the scanner, of a text -/
def NoS (u : GS) : Prop := (∀ k, isS k = true → u.2.1 k = false) ∧ ∀ k j, (k = 54 ∨ k = 56 ∨ (63 ≤ k ∧ k ≤ 71 ∧ ¬ k = 69)) → u.2.2 k j = false
theorem isS_or {k : Nat} (h : isS k = true) : k = 41 ∨ k = 43 ∨ k = 44 ∨ k = 45 ∨ k = 46 ∨ k = 47 ∨ k = 48 ∨ k = 51 := by
  have h2 := List.contains_iff_mem.mp h
  simp only [List.mem_cons, List.not_mem_nil, or_false] at h2
  exact h2
theorem lf_nos (t u : GS) : NoS (lf t u) := by
  refine ⟨fun k hk => ?_, fun k j hk => ?_⟩
  · show (if isL k = true then t.2.1 k && u.2.1 k else if isS k = true then false else u.2.1 k) = false
    rcases isS_or hk with rfl | rfl | rfl | rfl | rfl | rfl | rfl | rfl <;> rfl
  · show (if isA k = true then t.2.2 k j && u.2.2 k j else if k = 54 ∨ k = 56 ∨ 63 ≤ k then false else u.2.2 k j) = false
    have hA : isA k = false := decide_eq_false (by omega)
    rw [if_neg (by rw [hA]; decide), if_pos (by omega)]
theorem NoS.fr {u v : GS} (h : NoS u) (hF : FrR fI fA u v) : NoS v := by
  refine ⟨fun k hk => ?_, fun k j hk => ?_⟩
  · rw [(hF.1 k (by rcases isS_or hk with rfl | rfl | rfl | rfl | rfl | rfl | rfl | rfl <;> rfl)).2]
    exact h.1 k hk
  · rw [(hF.2.1 k (by rcases (by omega : k = 54 ∨ k = 56 ∨ k = 63 ∨ k = 64 ∨ k = 65 ∨ k = 66 ∨ k = 67 ∨ k = 68 ∨ k = 70 ∨ k = 71) with rfl | rfl | rfl | rfl | rfl | rfl | rfl | rfl | rfl | rfl <;> rfl)).2]
    exact h.2 k j hk
/-- one entry of the log -/
def stp (E : Nat) (e : En) (tx : Nat → Int32) (u v : GS) : Prop := (e.1 = 0 ∧ ∃ f n r u1, e.2.1 = nI f ∧ e.2.2.1 = nI n ∧ f + n ≤ E ∧ E ≤ 24000 ∧ n ≤ 3000 ∧ f_does e.1 e.2.1 e.2.2.1 e.2.2.2 (tput f n tx u) = some (r, u1) ∧ v = lf (t1 f n tx) u1) ∨ (¬ e.1 = 0 ∧ ∃ r, f_does e.1 e.2.1 e.2.2.1 e.2.2.2 u = some (r, v))
theorem stp.up {E E2 : Nat} {e : En} {tx tx2 : Nat → Int32} {u v : GS} (h : stp E e tx u v) (hE : E ≤ E2) (hE2 : E2 ≤ 24000) (ht : ∀ j, j < E → tx2 j = tx j) : stp E2 e tx2 u v := by
  rcases h with ⟨h0, f, n, r, u1, a1, a2, a3, a4, a5, a6, a7⟩ | h
  · have hc : ∀ j, j < f + n → tx2 j = tx j := fun j hj => ht j (by omega)
    refine Or.inl ⟨h0, f, n, r, u1, a1, a2, by omega, hE2, a5, ?_, ?_⟩
    · rw [tput_congr hc]; exact a6
    · rw [t1_congr hc]; exact a7
  · exact Or.inr h
/-- the last laws of the log -/
def ll (lg : Nat → En) : Nat → Option Nat
  | 0 => none
  | n + 1 => if (lg n).1 = 0 then some n else ll lg n
theorem ll_congr {lg lg2 : Nat → En} : ∀ n, (∀ k, k < n → lg2 k = lg k) → ll lg2 n = ll lg n := by
  intro n
  induction n with
  | zero => intro _; rfl
  | succ n ih =>
    intro h
    unfold ll
    rw [h n (by omega), ih (fun k hk => h k (by omega))]
def Z0 : GS := ((fun _ => 0, fun _ _ => 0), fun k => isL k, fun _ _ => false)
def LC (E : Nat) (lg : Nat → En) (tx : Nat → Int32) (n : Nat) (w : GS) : Prop := match ll lg n with
  | none => lawc w Z0
  | some k => ∃ f m, (lg k).2.1 = nI f ∧ (lg k).2.2.1 = nI m ∧ f + m ≤ E ∧ m ≤ 3000 ∧ lawc w (t1 f m tx)
theorem LC.up {E E2 : Nat} {lg lg2 : Nat → En} {tx tx2 : Nat → Int32} {n : Nat} {w : GS} (h : LC E lg tx n w) (hl : ∀ k, k < n → lg2 k = lg k) (hE : E ≤ E2) (ht : ∀ j, j < E → tx2 j = tx j) : LC E2 lg2 tx2 n w := by
  have hlt : ∀ n k, ll lg n = some k → k < n := by
    intro n
    induction n with
    | zero => intro k z; cases z
    | succ n ih =>
      intro k z
      unfold ll at z
      by_cases h0 : (lg n).1 = 0
      · rw [if_pos h0] at z; cases z; omega
      · rw [if_neg h0] at z
        have := ih k z
        omega
  unfold LC at h ⊢
  rw [ll_congr n hl]
  cases hk : ll lg n with
  | none => rw [hk] at h; exact h
  | some k =>
    rw [hk] at h
    obtain ⟨f, m, a1, a2, a3, a4, a5⟩ := h
    have hkn := hlt n k hk
    refine ⟨f, m, by rw [hl k hkn]; exact a1, by rw [hl k hkn]; exact a2, by omega, a4, ?_⟩
    rw [t1_congr (fun j hj => ht j (by omega))]
    exact a5
/-- a new hall, of the laws' arrays nothing is marked -/
def s0 : GS := match f_anew B0 with
  | some y => lf Z0 y.2
  | none => B0
theorem s0_eq : ∃ r c0, f_anew B0 = some (r, c0) ∧ s0 = lf Z0 c0 ∧ Nw c0 := by
  obtain ⟨r, c0, e, h⟩ := ok_anew2 B0
  exact ⟨r, c0, e, by unfold s0; rw [e], h⟩
theorem s0_nos : NoS s0 := by
  obtain ⟨r, c0, e, e2, h⟩ := s0_eq
  rw [e2]
  exact lf_nos _ _
theorem s0_inv : Inv s0 ∧ lawc s0 Z0 := by
  obtain ⟨r, c0, e, e2, h⟩ := s0_eq
  rw [e2]
  have hI := h.inv
  have h8 := h.2.2
  have im : ∀ k, isL k = true → Im (lf Z0 c0) k 0 := fun k hk => by
    have h2 := of_decide_eq_true hk
    have h9 := h8 k h2.1 h2.2
    refine ⟨?_, h9.2⟩
    rw [lf_li hk, h9.1]
    show (isL k && true) = true
    rw [hk]; rfl
  refine ⟨⟨hI.1.fr rfl (lf_i rfl rfl) ⟨(lf_i rfl rfl).trans hI.1.2.1.1, (lf_i rfl rfl).trans hI.1.2.1.2.1, (im 29 rfl).1, (im 30 rfl).1, (im 31 rfl).1, 0, by decide, (im 29 rfl).2⟩ (fun k hk => ⟨rfl, lf_a (isA_lt (by omega)) (by omega)⟩), Or.inl (im 30 rfl).2, fun m hm z => absurd (h.2.1 m hm).2 z⟩, fun k hk hm => ⟨hk, ((im k hk).2).symm⟩, fun k j hk hm => ?_⟩
  rw [lf_la hk] at hm
  cases hm
/-- a log, its states -/
def Rp (E : Nat) (lg : Nat → En) (tx : Nat → Int32) (n : Nat) (s : Nat → GS) : Prop := s 0 = s0 ∧ (∀ k, k ≤ n → Inv (s k) ∧ LC E lg tx k (s k) ∧ NoS (s k)) ∧ ∀ k, k < n → stp E (lg k) tx (s k) (s (k + 1))
theorem Rp.up {E E2 : Nat} {lg lg2 : Nat → En} {tx tx2 : Nat → Int32} {n : Nat} {s : Nat → GS} (h : Rp E lg tx n s) (hl : ∀ k, k < n → lg2 k = lg k) (hE : E ≤ E2) (hE2 : E2 ≤ 24000) (ht : ∀ j, j < E → tx2 j = tx j) : Rp E2 lg2 tx2 n s := by
  refine ⟨h.1, fun k hk => ⟨(h.2.1 k hk).1, (h.2.1 k hk).2.1.up (fun j hj => hl j (by omega)) hE ht, (h.2.1 k hk).2.2⟩, fun k hk => ?_⟩
  rw [hl k hk]
  exact (h.2.2 k hk).up hE hE2 ht
theorem Rp.less {E : Nat} {lg : Nat → En} {tx : Nat → Int32} {n m : Nat} {s : Nat → GS} (h : Rp E lg tx n s) (hm : m ≤ n) : Rp E lg tx m s := ⟨h.1, fun k hk => h.2.1 k (by omega), fun k hk => h.2.2 k (by omega)⟩
/-- one entry more -/
theorem Rp.more {E : Nat} {lg : Nat → En} {tx : Nat → Int32} {n : Nat} {s : Nat → GS} (h : Rp E lg tx n s) (hE : E ≤ 24000) (e : En) (v : GS) (hs : stp E e tx (s n) v) (hv : Inv v) (hns : NoS v) (hc : e.1 = 0 → ∃ f m, e.2.1 = nI f ∧ e.2.2.1 = nI m ∧ f + m ≤ E ∧ m ≤ 3000 ∧ lawc v (t1 f m tx)) (hnc : ¬ e.1 = 0 → FrR fI fA (s n) v) : Rp E (fun k => if k = n then e else lg k) tx (n + 1) (fun k => if k = n + 1 then v else s k) := by
  have hlg : ∀ k, k < n → (fun k => if k = n then e else lg k) k = lg k := fun k hk => if_neg (by omega)
  have h2 := h.up (lg2 := fun k => if k = n then e else lg k) hlg (Nat.le_refl _) hE (fun _ _ => rfl)
  have es : ∀ k, k ≤ n → (fun k => if k = n + 1 then v else s k) k = s k := fun k hk => if_neg (by omega)
  have en : (fun k => if k = n + 1 then v else s k) (n + 1) = v := if_pos rfl
  refine ⟨(es 0 (by omega)).trans h.1, fun k hk => ?_, fun k hk => ?_⟩
  · by_cases hkn : k = n + 1
    · subst hkn
      rw [en]
      refine ⟨hv, ?_, hns⟩
      have hl := (h2.2.1 n (Nat.le_refl _)).2.1
      unfold LC ll
      show (match (if (if n = n then e else lg n).1 = 0 then some n else ll (fun k => if k = n then e else lg k) n) with | none => _ | some k => _)
      by_cases h0 : e.1 = 0
      · rw [if_pos rfl, if_pos h0]
        obtain ⟨f, m, a1, a2, a3⟩ := hc h0
        refine ⟨f, m, ?_, ?_, a3⟩
        · show (if n = n then e else lg n).2.1 = nI f
          rw [if_pos rfl]; exact a1
        · show (if n = n then e else lg n).2.2.1 = nI m
          rw [if_pos rfl]; exact a2
      · rw [if_pos rfl, if_neg h0]
        have hF := hnc h0
        have hlc : ∀ t, lawc (s n) t → lawc v t := fun t z => by
          refine ⟨fun k hk hm => ?_, fun k j hk hm => ?_⟩
          · have h9 := hF.1 k (by
              have h2 := of_decide_eq_true hk
              rcases (by omega : k = 27 ∨ k = 28 ∨ k = 29 ∨ k = 30 ∨ k = 31) with rfl | rfl | rfl | rfl | rfl <;> rfl)
            rw [h9.1]
            exact z.1 k hk (h9.2.symm.trans hm)
          · have h9 := hF.2.1 k (by
              have h2 := of_decide_eq_true hk
              rcases (by omega : k = 32 ∨ k = 33 ∨ k = 34 ∨ k = 35 ∨ k = 36 ∨ k = 37) with rfl | rfl | rfl | rfl | rfl | rfl <;> rfl)
            rw [h9.1]
            exact z.2 k j hk ((congrFun h9.2 j).symm.trans hm)
        unfold LC at hl
        cases hk2 : ll (fun k => if k = n then e else lg k) n with
        | none => rw [hk2] at hl; exact hlc _ hl
        | some k =>
          rw [hk2] at hl
          obtain ⟨f, m, a1, a2, a3, a4, a5⟩ := hl
          exact ⟨f, m, a1, a2, a3, a4, hlc _ a5⟩
    · rw [es k (by omega)]
      exact h2.2.1 k (by omega)
  · by_cases hkn : k = n
    · subst hkn
      rw [es k (Nat.le_refl _), en]
      show stp E (if k = k then e else lg k) tx (s k) v
      rw [if_pos rfl]
      exact hs
    · rw [es k (by omega), es (k + 1) (by omega)]
      exact h2.2.2 k (by omega)

