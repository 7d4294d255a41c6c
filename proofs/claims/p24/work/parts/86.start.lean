/-! ===== what the start gives: strings, statics, the class of Object[] ===== -/
def flF : List Cond := flatC (Jvm.Cond.and given_1 narrow_1)
def stF (i : Nat) : Nat := ([142, 154, 168, 179, 188, 196, 205, 212, 220, 228, 237, 247, 256, 266, 163, 275, 280, 295, 300, 306, 311, 317, 322, 285, 290, 39, 47, 57, 65, 72, 80, 86, 93, 100, 108, 117, 125, 134] : List Nat).getD i 0
def srF (i : Nat) : Nat := ([1865, 1921, 1945, 1946, 1955, 1956, 1957, 1958, 1959, 1960, 1961, 1962, 1963, 1964, 1944, 1997, 1998, 2013, 2014, 2015, 2016, 2017, 2018, 2007, 2008, 660, 713, 714, 715, 716, 717, 718, 719, 720, 721, 722, 723, 724] : List Nat).getD i 0
def tmF (i : Nat) : Term := .string (sOw i) (sCp i)
def vlF (i : Nat) : Term := .field (tmF i) "java/lang/String" "value" "[B"
theorem flF_ex : ∀ i, i < 38 → flF[stF i]? = some (Cond.exactly (tmF i) "java/lang/String") := by decide +kernel
theorem flF_co : ∀ i, i < 38 → flF[stF i + 1]? = some (Cond.eq (.field (tmF i) "java/lang/String" "coder" "B") (.int 0)) := by decide +kernel
theorem flF_ar : ∀ i, i < 38 → flF[stF i + 2]? = some (Cond.arrayOf (vlF i) .byte) := by decide +kernel
theorem flF_le : ∀ i, i < 38 → flF[stF i + 3]? = some (Cond.eq (.length (vlF i)) (.int (Int32.ofNat (sBy i).length))) := by decide +kernel
theorem flF_el : ∀ i, i < 38 → ∀ j, j < (sBy i).length → flF[stF i + 4 + j]? = some (Cond.eq (.elem (vlF i) (.int (Int32.ofNat j))) (.int ((sBy i).getD j 0))) := by decide +kernel
theorem srF_at : ∀ i, i < 38 → lw_tbl[srF i]? = some (Cond.stringRef (sOw i) (sCp i) (sTx i)) := by decide +kernel
theorem sBy_le : ∀ i, i < 38 → (sBy i).length < 2 ^ 31 := by decide +kernel
theorem kO_of {A : Array Value} {s : State} (h : (Cond.arrayOver (.object "java/lang/Object")).before A s = true) : ∃ g : ClassId, kO g s := by
  obtain ⟨comp, c, k, h1, h2, h3, h4, h5⟩ := Cond.arrayOver_spec h
  exact ⟨c, fun n z => ⟨fun k h => (by cases h), k, h3, comp, h4⟩, k, comp, h3, h4, h1, h5⟩
/-- one constant -/
theorem str_of {A : Array Value} {s : State} {X : Nat → Prop} (hf : ∀ c ∈ flF, c.before A s = true) (hts : ∀ w ∈ lw_tbl, w.before A s = true) (hA : ∀ a : Nat, a < s.heap.size → ¬ X a) (i : Nat) : ∃ q : Nat × Nat, i < 38 → (va_O "java/lang/String" q.1 X s s.heap ∧ va_OF "java/lang/String" "coder" "B" (.int 0) q.1 X s s.heap ∧ va_OF "java/lang/String" "value" "[B" (.ref q.2) q.1 X s s.heap ∧ va_T .byte q.2 (sBy i).length (fun j => .int ((sBy i).getD j 0)) X s s.heap) ∧ vk_R (sOw i) (sCp i) (sTx i) q.1 s := by
  by_cases hi : i < 38
  · have h1 := hf _ (List.mem_of_getElem? (flF_ex i hi))
    have h2 := hf _ (List.mem_of_getElem? (flF_co i hi))
    have h3 := hf _ (List.mem_of_getElem? (flF_ar i hi))
    have h4 := hf _ (List.mem_of_getElem? (flF_le i hi))
    obtain ⟨a, c, cA, kA, q1, q2, q3, q4, q5, q6, -⟩ := Cond.exactly_spec (args := A) (first := s) (o := none) (s := s) (idx := []) h1
    obtain ⟨t, ht, hT⟩ := va_Tof (f := fun j => .int ((sBy i).getD j 0)) (A := X) (sBy_le i hi) h3 (va_eqt h4) (fun j hj => va_eqt (hf _ (List.mem_of_getElem? (flF_el i hi j hj)))) hA
    exact ⟨(a, t), fun _ => ⟨⟨⟨cA, q3, q5, by rw [q6]; exact q2, hA a (Array.getElem?_eq_some_iff.mp q3).1⟩, vk_OFof q1 (va_eqt h2) hA, vk_OFof q1 ht hA, hT⟩, vk_R.of (hts _ (List.mem_of_getElem? (srF_at i hi))) q1⟩⟩
  · exact ⟨(0, 0), fun h => absurd h hi⟩
set_option maxHeartbeats 4000000 in
set_option maxRecDepth 100000 in
theorem start_sE {A : Array Value} {s : State} {X : Nat → Prop} (g : Nat) (hf : ∀ c ∈ flF, c.before A s = true) (hts : ∀ w ∈ lw_tbl, w.before A s = true) (hA : ∀ a : Nat, a < s.heap.size → ¬ X a) : ∃ Z : gM, sE Z X s s.heap ∧ Z.1 1000 = g := by
  obtain ⟨ad, had⟩ := Classical.axiomOfChoice (str_of (X := X) hf hts hA)
  have hZ0 := va_Zof (A := X) (hts (.laysStatic "java/lang/String" "COMPACT_STRINGS" "Z") (List.mem_of_getElem? (i := 674) (by decide +kernel))) (hts (.initialized "java/lang/String") (List.mem_of_getElem? (i := 175) (by decide +kernel))) (va_eqt (hf (.eq (.static "java/lang/String" "COMPACT_STRINGS" "Z") (.int (1 : Int32))) (List.mem_of_getElem? (i := 8) (by decide +kernel)))) hA
  obtain ⟨v, hv, hZv⟩ : ∃ v : Value, (v = .null ∨ ∃ a, v = .ref a) ∧ va_Z "jdk/internal/util/Preconditions" "SIOOBE_FORMATTER" "Ljava/util/function/BiFunction;" v X s s.heap := by
    rcases va_Zqof (A := X) (hts (.laysStatic "jdk/internal/util/Preconditions" "SIOOBE_FORMATTER" "Ljava/util/function/BiFunction;") (List.mem_of_getElem? (i := 690) (by decide +kernel))) (hts (.initialized "jdk/internal/util/Preconditions") (List.mem_of_getElem? (i := 177) (by decide +kernel))) (hf (.isRef (.static "jdk/internal/util/Preconditions" "SIOOBE_FORMATTER" "Ljava/util/function/BiFunction;")) (List.mem_of_getElem? (i := 9) (by decide +kernel))) hA with h | ⟨t, h⟩
    · exact ⟨_, Or.inl rfl, h⟩
    · exact ⟨_, Or.inr ⟨t, rfl⟩, h⟩
  have e1 : ∀ i : Nat, i < 38 → (if i = 1000 then g else (ad i).1) = (ad i).1 := fun i hi => if_neg (by omega)
  refine ⟨(fun i => if i = 1000 then g else (ad i).1, fun i => (ad i).2, v), ⟨⟨hZ0, hZv, hv⟩, fun i hi => ?_, fun i hi => ?_, va_Nw.of rfl (hts (.castable "JudoHallModel$Stop" "JudoHallModel$Stop") (List.mem_of_getElem? (i := 1555) (by decide +kernel)))⟩, (by show (if 1000 = 1000 then g else (ad 1000).1) = g; exact if_pos rfl)⟩
  · show va_O "java/lang/String" (if i = 1000 then g else (ad i).1) X s s.heap ∧ va_OF "java/lang/String" "coder" "B" (.int 0) (if i = 1000 then g else (ad i).1) X s s.heap ∧ va_OF "java/lang/String" "value" "[B" (.ref (ad i).2) (if i = 1000 then g else (ad i).1) X s s.heap ∧ va_T .byte (ad i).2 (sBy i).length (fun j => .int ((sBy i).getD j 0)) X s s.heap
    rw [e1 i hi]
    exact (had i hi).1
  · show vk_R (sOw i) (sCp i) (sTx i) (if i = 1000 then g else (ad i).1) s
    rw [e1 i hi]
    exact (had i hi).2
set_option maxHeartbeats 4000000 in
set_option maxRecDepth 100000 in
theorem start_facts {A : Array Value} {s : State} {X : Nat → Prop} (hf : ∀ c ∈ flF, c.before A s = true) (hts : ∀ w ∈ lw_tbl, w.before A s = true) (hA : ∀ a : Nat, a < s.heap.size → ¬ X a) : ∃ (Z : gC) (mi : Nat), kE Z X s s.heap ∧ lE mi Z X s s.heap := by
  obtain ⟨g, hg⟩ := kO_of (hts (.arrayOver (.object "java/lang/Object")) (List.mem_of_getElem? (i := 933) (by decide +kernel)))
  obtain ⟨Z1, hE1, hZg⟩ := start_sE (X := X) g hf hts hA
  obtain ⟨tz, htz, hTz⟩ := va_Tof (A := X) (tm := (.static "java/util/ArrayList" "DEFAULTCAPACITY_EMPTY_ELEMENTDATA" "[Ljava/lang/Object;")) (ty := .object "java/lang/Object") (N := 0) (f := fun _ => .null) (by decide) (hf (.arrayOf (.static "java/util/ArrayList" "DEFAULTCAPACITY_EMPTY_ELEMENTDATA" "[Ljava/lang/Object;") (.object "java/lang/Object")) (List.mem_of_getElem? (i := 5) (by decide +kernel))) (va_eqt (hf (.eq (.length (.static "java/util/ArrayList" "DEFAULTCAPACITY_EMPTY_ELEMENTDATA" "[Ljava/lang/Object;")) (.int (0 : Int32))) (List.mem_of_getElem? (i := 7) (by decide +kernel)))) (fun j hj => absurd hj (Nat.not_lt_zero _)) hA
  have hZ1 := va_Zof (A := X) (hts (.laysStatic "java/util/ArrayList" "DEFAULTCAPACITY_EMPTY_ELEMENTDATA" "[Ljava/lang/Object;") (List.mem_of_getElem? (i := 542) (by decide +kernel))) (hts (.initialized "java/util/ArrayList") (List.mem_of_getElem? (i := 170) (by decide +kernel))) htz hA
  obtain ⟨v1, hv1, hZv1⟩ : ∃ v : Value, (v = .null ∨ ∃ a, v = .ref a) ∧ va_Z "java/lang/Throwable" "UNASSIGNED_STACK" "[Ljava/lang/StackTraceElement;" v X s s.heap := by
    rcases va_Zqof (A := X) (hts (.laysStatic "java/lang/Throwable" "UNASSIGNED_STACK" "[Ljava/lang/StackTraceElement;") (List.mem_of_getElem? (i := 1578) (by decide +kernel))) (hts (.initialized "java/lang/Throwable") (List.mem_of_getElem? (i := 172) (by decide +kernel))) (hf (.isRef (.static "java/lang/Throwable" "UNASSIGNED_STACK" "[Ljava/lang/StackTraceElement;")) (List.mem_of_getElem? (i := 22) (by decide +kernel))) hA with h | ⟨t, h⟩
    · exact ⟨_, Or.inl rfl, h⟩
    · exact ⟨_, Or.inr ⟨t, rfl⟩, h⟩
  obtain ⟨v2, hv2, hZv2⟩ : ∃ v : Value, (v = .null ∨ ∃ a, v = .ref a) ∧ va_Z "java/lang/Throwable" "SUPPRESSED_SENTINEL" "Ljava/util/List;" v X s s.heap := by
    rcases va_Zqof (A := X) (hts (.laysStatic "java/lang/Throwable" "SUPPRESSED_SENTINEL" "Ljava/util/List;") (List.mem_of_getElem? (i := 1580) (by decide +kernel))) (hts (.initialized "java/lang/Throwable") (List.mem_of_getElem? (i := 172) (by decide +kernel))) (hf (.isRef (.static "java/lang/Throwable" "SUPPRESSED_SENTINEL" "Ljava/util/List;")) (List.mem_of_getElem? (i := 23) (by decide +kernel))) hA with h | ⟨t, h⟩
    · exact ⟨_, Or.inl rfl, h⟩
    · exact ⟨_, Or.inr ⟨t, rfl⟩, h⟩
  obtain ⟨hd, hdE, hdT⟩ := va_Tof (A := X) (tm := (.static "JudoHall$Parser" "HEAD" "[I")) (ty := .int) (N := 6) (f := hdF) (by decide) (hf (.arrayOf (.static "JudoHall$Parser" "HEAD" "[I") .int) (List.mem_of_getElem? (i := 14) (by decide +kernel))) (va_eqt (hf (.eq (.length (.static "JudoHall$Parser" "HEAD" "[I")) (.int (6 : Int32))) (List.mem_of_getElem? (i := 15) (by decide +kernel)))) (fun j hj => by
    match j, hj with
    | 0, _ => exact va_eqt (hf (.eq (.elem (.static "JudoHall$Parser" "HEAD" "[I") (.int (0 : Int32))) (.int (4 : Int32))) (List.mem_of_getElem? (i := 16) (by decide +kernel)))
    | 1, _ => exact va_eqt (hf (.eq (.elem (.static "JudoHall$Parser" "HEAD" "[I") (.int (1 : Int32))) (.int (3 : Int32))) (List.mem_of_getElem? (i := 17) (by decide +kernel)))
    | 2, _ => exact va_eqt (hf (.eq (.elem (.static "JudoHall$Parser" "HEAD" "[I") (.int (2 : Int32))) (.int (19 : Int32))) (List.mem_of_getElem? (i := 18) (by decide +kernel)))
    | 3, _ => exact va_eqt (hf (.eq (.elem (.static "JudoHall$Parser" "HEAD" "[I") (.int (3 : Int32))) (.int (5 : Int32))) (List.mem_of_getElem? (i := 19) (by decide +kernel)))
    | 4, _ => exact va_eqt (hf (.eq (.elem (.static "JudoHall$Parser" "HEAD" "[I") (.int (4 : Int32))) (.int (3 : Int32))) (List.mem_of_getElem? (i := 20) (by decide +kernel)))
    | 5, _ => exact va_eqt (hf (.eq (.elem (.static "JudoHall$Parser" "HEAD" "[I") (.int (5 : Int32))) (.int (19 : Int32))) (List.mem_of_getElem? (i := 21) (by decide +kernel)))
    | j + 6, h => exact absurd h (by omega)) hA
  have hZh := va_Zof (A := X) (hts (.laysStatic "JudoHall$Parser" "HEAD" "[I") (List.mem_of_getElem? (i := 745) (by decide +kernel))) (hts (.initialized "JudoHall$Parser") (List.mem_of_getElem? (i := 160) (by decide +kernel))) hdE hA
  obtain ⟨mi, hmi⟩ := va_Mi.of (hf (.isRef (.mirror "[Ljava/lang/Object;")) (List.mem_of_getElem? (i := 38) (by decide +kernel)))
  refine ⟨(Z1, (tz, hd, v1, v2, ())), mi, ⟨hE1, ⟨hZ1, hZv1, hZv2, hZh, hdT, hv1, hv2⟩, by show kO (Z1.1 1000) s; rw [hZg]; exact hg⟩, hmi, va_AO.of (hts (.arrayOver (.object "java/lang/Object")) (List.mem_of_getElem? (i := 933) (by decide +kernel))), va_Nw.of rfl (hts (.castable RX4 "java/lang/Object") (List.mem_of_getElem? (i := 2342) (by decide +kernel))), va_Dc.of (hts (.declares ⟨"java/lang/Object", "getClass", "()Ljava/lang/Class;"⟩) (List.mem_of_getElem? (i := 2356) (by decide +kernel))), hTz⟩

