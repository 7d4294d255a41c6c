/-! ===== the class's run from token to token ===== -/
def LK : NG Int32 := ncl (nRF 11) (fun x_54 => (if x_54 = 0 then nrt 1 else nrt 0))
def RN (g : Nat) (n : Int32) : NG Int32 := xl_X5_readLaws_46 g n (fun _ => LK)
def LQ (g n : Nat) : NG Int32 := ncl (nRF 4) (fun k => ncl (x_X5_take k) (fun _ => RN g (nI n + 1)))
def FaultC (f p : Nat) (u : MS) : Prop := u.1 11 = nI f ∧ u.1 10 = nI p
def FaultV (f p : Nat) (v : GS) : Prop := Im v 49 (nI f) ∧ Im v 50 (nI p)
/-- whatever holds at the end of all runs from B holds at the end of those from A -/
def To (A B : NG Int32 → MS → Prop) : Prop := ∀ p u, A p u → ∀ Q : Int32 → MS → Prop, (∀ p2 u2, B p2 u2 → CN p2 u2 Q) → CN p u Q
theorem To.trans {A B C : NG Int32 → MS → Prop} (h1 : To A B) (h2 : To B C) : To A C := fun p u ha Q hq => h1 p u ha Q (fun p2 u2 hb => h2 p2 u2 hb Q hq)
theorem To.imp {A B C : NG Int32 → MS → Prop} (h : To A B) (hi : ∀ p u, B p u → C p u) : To A C := fun p u ha Q hq => h p u ha Q (fun p2 u2 hb => hq p2 u2 (hi p2 u2 hb))
def FP (f p : Nat) (c : NG Int32) (u : MS) : Prop := c = nrt 0 ∧ FaultC f p u
/-- the reference's outcome, and where the class's run gets -/
def LSd {D : Type} (A : NG Int32 → MS → Prop) (PV : D → GS → Prop) (PC : D → NG Int32 → MS → Prop) (ro : Option Int32) (v : GS) : Prop := (ro = none ∧ ∃ f p, 1 ≤ f ∧ f ≤ 3 ∧ FaultV f p v ∧ To A (FP f p)) ∨ (ro = some 0 ∧ ∃ d, PV d v ∧ To A (PC d))
section
variable {T : Nat → Nat} {N : Nat}
theorem tkk_0 {a b : Nat} (hE : TkE T N a b) (h : ¬ tkk T N a b = 0) : a < N := by
  rcases hE with ⟨h1, -⟩ | ⟨h1, -⟩ | ⟨h1, -⟩ | ⟨h1, -⟩
  · refine absurd ?_ h
    unfold tkk
    rw [if_neg (by omega)]
  · exact h1
  · exact h1
  · exact h1
theorem run_next {u : MS} {a b n g m : Nat} (hC : CP T N a b u) (hk : ¬ tkk T N a b = 0) (hn : n ≤ a) (hf : u.1 11 = 0) (hm : u.1 12 = nI m) (hm17 : m < 17) {Q : Int32 → MS → Prop} (h : ∀ g2 u2 a2 b2, Same [3, 4, 5, 6] [] u u2 → Run tBl T N b a2 → n + 1 ≤ a2 → CP T N a2 b2 u2 → CN (LQ g2 (n + 1)) u2 Q) : CN (RN g (nI n + 1)) u Q := by
  have hlt := tkk_0 hC.2.1 hk
  have hb := hC.2.1.le.2.2 hlt
  have hN := hC.1.1
  cases g with
  | zero => exact fun r w e => by cases e
  | succ g =>
    rw [nI_1]
    unfold RN xl_X5_readLaws_46
    refine CN_ite (fun z => absurd ((nI_ltI (a := 3000) (b := n + 1) (by decide) (by omega)).mp z) (by omega)) (fun _ => CN_RFx hf (CN_ite (fun _ => CN_RFx hm (CN_ite (fun z => absurd ((nI_eq (a := m) (b := 17) (by omega) (by decide)).mp z) (by omega)) (fun _ => ?_))) (fun z => absurd rfl z)))
    refine CN_cl (CN.mono (c_next hC) (fun _ u2 y => ?_))
    obtain ⟨y1, a2, b2, y2, y3⟩ := y
    have := y2.1
    exact h g u2 a2 b2 y1 y2 (by omega) y3
theorem run_fault {u : MS} {f p g : Nat} {n : Int32} (h : FaultC f p u) (hf : 1 ≤ f ∧ f ≤ 3) {Q : Int32 → MS → Prop} (hq : ∀ c u2, FP f p c u2 → CN c u2 Q) : CN (RN g n) u Q := by
  have hne : ¬ nI f = 0 := fun z => by
    have := (nI_eq (a := f) (b := 0) (by omega) (by decide)).mp z
    omega
  have hk : CN LK u Q := by
    unfold LK
    exact CN_RFx h.1 (CN_ite (fun z => absurd z hne) (fun _ => hq _ u ⟨rfl, h⟩))
  cases g with
  | zero => exact fun r w e => by cases e
  | succ g =>
    unfold RN xl_X5_readLaws_46
    exact CN_ite (fun _ => hk) (fun _ => CN_RFx h.1 (CN_ite (fun z => absurd z hne) (fun _ => hk)))
end
/-- the class's parser within a line -/
def XC (u0 : MS) (m : Nat) (cs : List (Nat × Nat)) (S : List Nat) (parts sg cm : Nat) (u : MS) : Prop := Same [3, 4, 5, 6, 7, 8, 9, 10, 11, 12, 13, 14, 15, 24, 25] [7, 8] u0 u ∧ u.1 12 = nI m ∧ u.1 11 = 0 ∧ CgC cs u ∧ StC S u ∧ u.1 24 = nI parts ∧ u.1 8 = nI (nOp S) ∧ u.1 9 = nI (nBr S) ∧ u.1 14 = nI sg ∧ u.1 15 = nI cm
theorem XC.tok {u0 u v : MS} {m parts sg cm : Nat} {cs : List (Nat × Nat)} {S : List Nat} (h : XC u0 m cs S parts sg cm u) (hs : Same [3, 4, 5, 6] [] u v) : XC u0 m cs S parts sg cm v := by
  obtain ⟨a1, a2, a3, ⟨a4, a5⟩, ⟨a6, a7⟩, a8, a9, a10, a11, a12⟩ := h
  have e : ∀ k, ¬ k ∈ [3, 4, 5, 6] → v.1 k = u.1 k := hs.1
  have e2 : v.2 = u.2 := funext (fun k => hs.2 k (by simp))
  refine ⟨a1.trans (hs.mono (by decide) (by decide)), (e 12 (by decide)).trans a2, (e 11 (by decide)).trans a3, ⟨(e 25 (by decide)).trans a4, fun i hi => by rw [e2]; exact a5 i hi⟩, ⟨(e 7 (by decide)).trans a6, fun i hi => by rw [e2]; exact a7 i hi⟩, (e 24 (by decide)).trans a8, (e 8 (by decide)).trans a9, (e 9 (by decide)).trans a10, (e 14 (by decide)).trans a11, (e 15 (by decide)).trans a12⟩
/-- the reference's parser within a line -/
def RV (v0 v : GS) : Prop := (∀ k, ¬ (k = 31 ∨ (44 ≤ k ∧ k ≤ 51)) → v.1.1 k = v0.1.1 k ∧ v.2.1 k = v0.2.1 k) ∧ ∀ k, ¬ (k = 36 ∨ k = 37) → v.1.2 k = v0.1.2 k ∧ v.2.2 k = v0.2.2 k
theorem RV.rf (v : GS) : RV v v := ⟨fun _ _ => ⟨rfl, rfl⟩, fun _ _ => ⟨rfl, rfl⟩⟩
theorem RV.trans {u v w : GS} (h1 : RV u v) (h2 : RV v w) : RV u w := ⟨fun k hk => ⟨(h2.1 k hk).1.trans (h1.1 k hk).1, (h2.1 k hk).2.trans (h1.1 k hk).2⟩, fun k hk => ⟨(h2.2 k hk).1.trans (h1.2 k hk).1, (h2.2 k hk).2.trans (h1.2 k hk).2⟩⟩
theorem RV.wf {w v : GS} (h : RV w v) {k : Nat} (x : Int32) (hk : k = 31 ∨ (44 ≤ k ∧ k ≤ 51)) : RV w (swf k x v) := h.trans ⟨fun j hj => swf_o (fun z => hj (by rw [z]; exact hk)), fun _ _ => ⟨rfl, rfl⟩⟩
theorem RV.wd {w v : GS} (h : RV w v) {k : Nat} (i x : Int32) (hk : k = 36 ∨ k = 37) : RV w (swd k i x v) := h.trans ⟨fun _ _ => ⟨rfl, rfl⟩, fun j hj => sw_o (fun z => hj (by rw [z]; exact hk))⟩
theorem RV.sc {w v v2 : GS} (h : RV w v) (hs : ScF v v2) : RV w v2 := h.trans ⟨fun k hk => hs.2.2 k (by omega), fun k _ => by rw [hs.1, hs.2.1]; exact ⟨rfl, rfl⟩⟩
theorem RV.pv {w v : GS} (h : RV w v) (e kd f : Nat) : RV w (pv v e kd f) := ((h.wd _ _ (Or.inl rfl)).wd _ _ (Or.inr rfl)).wf _ (Or.inl rfl)
def XV (v0 : GS) (cs : List (Nat × Nat)) (h o : Nat) (v : GS) : Prop := RV v0 v ∧ CgV cs v ∧ Im v 51 (nI h) ∧ Im v 48 (nI o)
theorem XV.sc {v0 v w : GS} {cs : List (Nat × Nat)} {h o : Nat} (hx : XV v0 cs h o v) (hs : ScF v w) : XV v0 cs h o w := by
  obtain ⟨a, ⟨b1, b2⟩, c, d⟩ := hx
  have im : ∀ k x, ¬ (44 ≤ k ∧ k ≤ 47) → Im v k x → Im w k x := fun k x hk z => ⟨(hs.2.2 k hk).2.trans z.1, (hs.2.2 k hk).1.trans z.2⟩
  refine ⟨a.sc hs, ⟨im _ _ (by decide) b1, fun i hi => ?_⟩, im _ _ (by decide) c, im _ _ (by decide) d⟩
  unfold Am
  rw [hs.1, hs.2.1]
  exact b2 i hi
theorem CgV.im {cs : List (Nat × Nat)} {v w : GS} (h : CgV cs v) (h1 : Im w 31 (nI cs.length)) (h2 : w.1.2 = v.1.2 ∧ w.2.2 = v.2.2) : CgV cs w := ⟨h1, fun i hi => by
  unfold Am
  rw [h2.1, h2.2]
  exact h.2 i hi⟩
theorem XV.put {v0 v : GS} {cs : List (Nat × Nat)} {h o kd f : Nat} (hx : XV v0 cs h o v) (hl : cs.length < 300) : XV v0 (cs ++ [(kd, f)]) h o (pv v cs.length kd f) := by
  obtain ⟨a, b, c, d⟩ := hx
  exact ⟨a.pv _ _ _, b.snoc hl, Im.o (w := swd 37 (nI cs.length) (nI f) (swd 36 (nI cs.length) (nI (opK kd)) v)) (by decide) c, Im.o (w := swd 37 (nI cs.length) (nI f) (swd 36 (nI cs.length) (nI (opK kd)) v)) (by decide) d⟩
def wr (v : GS) (f a : Nat) : GS := swf 50 (nI a) (swf 49 (nI f) v)
theorem wr_f (v : GS) (f a : Nat) : FaultV f a (wr v f a) := ⟨Im.o (by decide) swf_e, swf_e⟩
theorem r_wrong {v : GS} {a : Nat} (f : Nat) {k : Int32} (hk : k = nI f) (h44 : Im v 44 (nI a)) : Ok (prf 44 (fun x => pcl (f_wrong k x) (fun _ => prt (none : Option Int32)))) v (fun ro w => ro = none ∧ w = wr v f a) := by
  subst hk
  refine Ok_rfN h44 (Ok_cl ?_)
  unfold f_wrong
  exact Ok_wf (Ok_wf (Ok_rt (Ok_rt ⟨rfl, rfl⟩)))
theorem r_counts {v0 v : GS} {cs : List (Nat × Nat)} {h o a : Nat} (hx : XV v0 cs h o v) (h44 : Im v 44 (nI a)) (hl : cs.length + h ≤ 300) : Ok f_counts v (fun ro w => (cs.length + h = 300 ∧ ro = none ∧ w = wr v 3 a) ∨ (cs.length + h < 300 ∧ ro = some 0 ∧ w = v)) := by
  unfold f_counts
  refine Ok_rfN hx.2.1.1 (Ok_rfN hx.2.2.1 ?_)
  rw [nI_add]
  refine Ok_ite (fun z => ?_) (fun z => ?_)
  · have e := (nI_eq (a := cs.length + h) (b := 300) (by omega) (by decide)).mp z
    exact Ok.mono (r_wrong 3 rfl h44) (fun ro w y => Or.inl ⟨e, y⟩)
  · exact Ok_rt (Or.inr ⟨Nat.lt_of_le_of_ne hl (fun y => z (by rw [y]; rfl)), rfl, rfl⟩)

