/-! ===== the state of a run that agrees is of the same kind ===== -/
theorem Ag.am {u v : GS} (h : Ag u v) {k j : Nat} {x : Int32} (hk : trk k = true) (ha : Am u k j x) : Am v k j x := ⟨(h.2 k j hk ha.1).1, (h.2 k j hk ha.1).2.trans ha.2⟩
theorem Ag.im {u v : GS} (h : Ag u v) {k : Nat} {x : Int32} (hk : trk k = true) (ha : Im u k x) : Im v k x := ⟨(h.1 k hk ha.1).1, (h.1 k hk ha.1).2.trans ha.2⟩
theorem Ag.mi {u v : GS} (h : Ag u v) {k : Nat} (hk : trk k = true) (ha : u.2.1 k = true) : v.2.1 k = true := (h.1 k hk ha).1
theorem Ag.vi {u v : GS} (h : Ag u v) {k : Nat} (hk : trk k = true) (ha : u.2.1 k = true) : v.1.1 k = u.1.1 k := (h.1 k hk ha).2
theorem Ag.ma {u v : GS} (h : Ag u v) {k j : Nat} (hk : trk k = true) (ha : u.2.2 k j = true) : v.2.2 k j = true := (h.2 k j hk ha).1
theorem Ag.va {u v : GS} (h : Ag u v) {k j : Nat} (hk : trk k = true) (ha : u.2.2 k j = true) : v.1.2 k j = u.1.2 k j := (h.2 k j hk ha).2
theorem Ag.nFe {u v : GS} (h : Ag u v) (hF : iF u) : nF v = nF u := by
  unfold nF
  rw [h.vi rfl hF.1]
theorem Ag.szPe {u v : GS} (h : Ag u v) {c : Nat} {x : Int32} (hc : Am u 13 c x) : szP v c = szP u c := by
  unfold szP
  rw [h.va rfl hc.1]
theorem Ag.plc {u v : GS} (h : Ag u v) (hF : iF u) {c f : Nat} {x : Int32} (hc : Am u 13 c x) (hp : Plc u c f) : Plc v c f := by
  obtain ⟨h1, h2, p, h3, h4⟩ := hp
  exact ⟨by rw [h.nFe hF]; exact h1, h.am rfl h2, p, by rw [h.szPe hc]; exact h3, h.am rfl h4⟩
theorem Ag.drs {u v : GS} (h : Ag u v) (hF : iF u) {c n : Nat} (hd : DrS u c n) : DrS v c n := by
  obtain ⟨h1, h2, hd⟩ := hd
  refine ⟨by rw [h.nFe hF]; exact h1, h2, ?_⟩
  rcases hd with ⟨s, a, b, d, e, f, g, k⟩ | ⟨L, a, b, d, e, f, g, g2, k⟩
  · refine Or.inl ⟨s, a, b, by rw [h.szPe f]; exact d, h.am rfl e, h.am rfl f, fun p hp => ?_, k⟩
    obtain ⟨q, q1, q2⟩ := g p hp
    exact ⟨q, h.am rfl q1, h.plc hF f q2⟩
  · refine Or.inr ⟨L, a, b, by rw [h.szPe f]; exact d, h.am rfl e, h.am rfl f, fun p hp => ?_, fun j hj => ?_, k⟩
    · rcases g p hp with q | ⟨q, q1, q2⟩
      · exact Or.inl (h.am rfl q)
      · exact Or.inr ⟨q, h.am rfl q1, h.plc hF f q2⟩
    · obtain ⟨q, q1, q2⟩ := g2 j hj
      exact ⟨q, q1, q2.imp (h.am rfl) (h.am rfl)⟩
theorem DrS.m13 {u : GS} {c n : Nat} (h : DrS u c n) : ∃ x, Am u 13 c x := by
  obtain ⟨-, -, ⟨s, -, -, -, -, f, -⟩ | ⟨L, -, -, -, -, f, -⟩⟩ := h
  · exact ⟨_, f⟩
  · exact ⟨_, f⟩
theorem Ag.sds {u v : GS} (h : Ag u v) (hF : iF u) {c i : Nat} (hd : Sds u c i) : Sds v c i := by
  obtain ⟨n, d, hi, ⟨a, a1, a2⟩, b, b1, b2⟩ := hd
  obtain ⟨x, hx⟩ := d.m13
  exact ⟨n, h.drs hF d, hi, ⟨a, h.am rfl a1, h.plc hF hx a2⟩, b, h.am rfl b1, h.plc hF hx b2⟩
theorem Ag.ex {u v : GS} (h : Ag u v) {a b : Nat} (hE : Ex u a b) : Ex v a b := by
  obtain ⟨h0, hE⟩ := hE
  refine ⟨h0, fun hh => ?_⟩
  obtain ⟨g, g1, g2, g3⟩ := hE hh
  refine ⟨g, g1, g2, fun k h1 h2 => ?_⟩
  obtain ⟨op, pf, k1, k2, k3⟩ := g3 k h1 h2
  exact ⟨op, pf, h.am rfl k1, h.am rfl k2, k3⟩
theorem Ag.lw {u v : GS} (h : Ag u v) (m30 : u.2.1 30 = true) (hL : Lw u) : Lw v := by
  obtain ⟨l1, l2, ln, l3, l4, l5⟩ := hL
  refine ⟨h.mi rfl l1, h.mi rfl l2, ln, l3, (h.vi rfl m30).trans l4, fun l hl => ?_⟩
  obtain ⟨m35, a, b, hb, g1, g2, g3⟩ := l5 l hl
  exact ⟨h.ma rfl m35, a, b, hb, h.am rfl g1, h.am rfl g2, h.ex g3⟩
theorem Ag.iLe {u v : GS} (h : Ag u v) (m30 : u.2.1 30 = true) (hL : iL u) : iL v := hL.imp (fun z => (h.vi rfl m30).trans z) (h.lw m30)
theorem Ag.inv {u v : GS} (h : Ag u v) (hI : Inv u) : Inv v := by
  obtain ⟨⟨jF, jI, jG, jC, jR, jM, jO⟩, jL, jE⟩ := hI
  have m30 := jI.2.2.2.1
  have e15 : ∀ c i, c < 4 → i < 40 → v.1.2 15 (40 * c + i) = u.1.2 15 (40 * c + i) := fun c i hc hi => h.va rfl ((jC c hc).2.2.2 i hi)
  have e22 : ∀ m, m < 4 → v.1.2 22 m = u.1.2 22 m := fun m hm => h.va rfl (jM m hm).1
  refine ⟨⟨⟨h.mi rfl jF.1, ?_, ?_⟩, ⟨h.mi rfl jI.1, h.mi rfl jI.2.1, h.mi rfl jI.2.2.1, h.mi rfl m30, h.mi rfl jI.2.2.2.2.1, ?_⟩, fun f hf => ?_, fun c hc => ?_, fun c hc i hi hne => ?_, fun m hm => ?_, fun c hc i hi h1 => ?_⟩, h.iLe m30 jL, fun m hm z => ?_⟩
  · rw [h.nFe jF, h.vi rfl jF.1]; exact jF.2.1
  · rw [h.nFe jF]; exact jF.2.2
  · obtain ⟨g, g1, g2⟩ := jI.2.2.2.2.2
    exact ⟨g, g1, (h.vi rfl jI.2.2.1).trans g2⟩
  · rw [h.nFe jF] at hf
    obtain ⟨⟨c, c1, c2⟩, ⟨k, k1, k2⟩, a3, a4, ⟨q, q1, q2⟩, a6, a7⟩ := jG f hf
    exact ⟨⟨c, c1, h.am rfl c2⟩, ⟨k, k1, h.am rfl k2⟩, h.ma rfl a3, h.ma rfl a4, ⟨q, q1, h.am rfl q2⟩, h.ma rfl a6, h.ma rfl a7⟩
  · obtain ⟨a1, a2, a3, a4⟩ := jC c hc
    exact ⟨h.ma rfl a1, h.ma rfl a2, a3.imp (h.am rfl) (fun ⟨n, z⟩ => ⟨n, h.drs jF z⟩), fun i hi => h.ma rfl (a4 i hi)⟩
  · rw [e15 c i hc hi] at hne ⊢
    obtain ⟨a1, a2⟩ := jR c hc i hi hne
    refine ⟨h.sds jF a1, fun z => ?_⟩
    obtain ⟨⟨f, f1, f2⟩, b2, b3, b4⟩ := a2 z
    obtain ⟨n, d, -⟩ := a1
    obtain ⟨x, hx⟩ := d.m13
    exact ⟨⟨f, h.am rfl f1, h.plc jF hx f2⟩, h.ma rfl b2, h.ma rfl b3, h.ma rfl b4⟩
  · obtain ⟨a1, a2⟩ := jM m hm
    refine ⟨h.ma rfl a1, fun z => ?_⟩
    rw [e22 m hm] at z
    obtain ⟨⟨c, i, c1, c2, c3, c4⟩, b1, b2, b3, b4⟩ := a2 z
    exact ⟨⟨c, i, c1, c2, (e22 m hm).trans c3, h.sds jF c4⟩, h.ma rfl b1, b2.imp (h.am rfl) (h.am rfl), b3.imp (h.am rfl) (h.am rfl), fun k hk => h.ma rfl (b4 k hk)⟩
  · rw [e15 c i hc hi] at h1
    obtain ⟨m, m1, m2⟩ := jO c hc i hi h1
    exact ⟨m, m1, (e22 m m1).trans m2⟩
  · rw [e22 m hm] at z
    rw [h.vi rfl m30]
    exact jE m hm z

