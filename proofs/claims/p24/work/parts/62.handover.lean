def wN2 : List Cond := [.instantiable RX4 9, .methodLink RX5 32 yX4_init, .instanceMethod yX4_init]
def wKN : List Cond := wK ++ (wN2 ++ wq_k_Laws_init)
theorem gd_wKN : ∀ w ∈ wKN, Gd w := List.forall_mem_append.mpr ⟨gd_wK, List.forall_mem_append.mpr ⟨gdl wN2 (by decide +kernel), gd_k_Laws_init⟩⟩
theorem wn0 : Cond.instantiable RX4 9 ∈ wKN := List.mem_append_right _ (List.mem_append_left _ (List.mem_of_getElem? (i := 0) rfl))
theorem wn1 : Cond.methodLink RX5 32 yX4_init ∈ wKN := List.mem_append_right _ (List.mem_append_left _ (List.mem_of_getElem? (i := 1) rfl))
theorem wn2 : Cond.instanceMethod yX4_init ∈ wKN := List.mem_append_right _ (List.mem_append_left _ (List.mem_of_getElem? (i := 2) rfl))
theorem c_join {A : Nat → Prop} {D : va_G} {cl : List vw_C} {ws w1 : va_W} {x : Nat × va_E} {H H1 : Heap} (hP : va_P D cl (ws ++ [x]) H) (hD : va_D A (ws ++ [x])) (hk : ∀ q : Nat, q < H.size → ¬ va_A [x] H.size q → H1[q]? = H[q]?) (hF : ∀ q, va_A [x] H.size q → A q) (hP1 : va_P D cl w1 H1) (hD1 : va_D (va_A [x] H.size) w1) : va_P D cl (ws ++ w1) H1 ∧ va_D A (ws ++ w1) := by
  have hxn : (ws ++ [x])[ws.length]? = some x := by rw [List.getElem?_append_right (Nat.le_refl _), Nat.sub_self]; rfl
  have old : ∀ (k : Nat) (q : Nat × va_E), k < ws.length → (ws ++ w1)[k]? = some q → (ws ++ [x])[k]? = some q := fun k q hl hq => by
    rw [List.getElem?_append_left hl] at hq ⊢
    exact hq
  have new : ∀ (k : Nat) (q : Nat × va_E), ¬ k < ws.length → (ws ++ w1)[k]? = some q → w1[k - ws.length]? = some q := fun k q hl hq => by
    rw [List.getElem?_append_right (Nat.not_lt.mp hl)] at hq
    exact hq
  have apart : ∀ (k : Nat) (q : Nat × va_E), k < ws.length → (ws ++ [x])[k]? = some q → ¬ va_A [x] H.size q.1 := fun k q hl hq z => by
    rcases z with ⟨k2, y, z⟩ | z
    · match k2, z with
      | 0, z =>
        have he : x = (q.1, y) := Option.some.inj z
        have := hD.1 k ws.length q x hq hxn (by rw [he])
        omega
      | k2 + 1, z => cases z
    · have := (hP k q hq).lt
      omega
  refine ⟨fun k q hq => ?_, fun a b p q ha hb hpq => ?_, fun k q hq => ?_⟩
  · by_cases hl : k < ws.length
    · have h2 := old k q hl hq
      exact (hP k q h2).kept (hk q.1 (hP k q h2).lt (apart k q hl h2))
    · exact hP1 _ q (new k q hl hq)
  · by_cases hla : a < ws.length
    · by_cases hlb : b < ws.length
      · exact hD.1 a b p q (old a p hla ha) (old b q hlb hb) hpq
      · exact absurd (hpq ▸ hD1.2 _ q (new b q hlb hb)) (apart a p hla (old a p hla ha))
    · by_cases hlb : b < ws.length
      · exact absurd (hpq ▸ hD1.2 _ p (new a p hla ha)) (apart b q hlb (old b q hlb hb))
      · have := hD1.1 _ _ p q (new a p hla ha) (new b q hlb hb) hpq
        omega
  · by_cases hl : k < ws.length
    · exact hD.2 k q (old k q hl hq)
    · exact hF _ (hD1.2 _ q (new k q hl hq))
theorem va_reidx {A : Nat → Prop} {D : va_G} {cl : List vw_C} {ws ws2 : va_W} {H : Heap} (f : Nat → Nat) (hf : ∀ (k : Nat) (q : Nat × va_E), ws2[k]? = some q → ws[f k]? = some q) (hinj : ∀ a b : Nat, a < ws2.length → b < ws2.length → f a = f b → a = b) (hP : va_P D cl ws H) (hD : va_D A ws) : va_P D cl ws2 H ∧ va_D A ws2 :=
  ⟨fun k q hq => hP _ q (hf k q hq), fun a b p q ha hb hpq => hinj a b (List.getElem?_eq_some_iff.mp ha).1 (List.getElem?_eq_some_iff.mp hb).1 (hD.1 _ _ p q (hf a p ha) (hf b q hb) hpq), fun k q hq => hD.2 _ q (hf k q hq)⟩
def opk (G : gG) (Q : Nat → Nat) (D : Nat × Nat) (u : MS) : va_W := [(Q 10, .inr (5, [.int (u.1 20), .int (u.1 21), .int (u.1 22), .int (u.1 23), .int (u.1 24), .int (u.1 25), .ref (Q 34), .ref (Q 36), .ref (Q 38)])), (Q 34, .inr (10, [.ref (Q 35)])), (Q 35, .inl (gI G, 300, .inl (u.2 8))), (Q 36, .inr (10, [.ref (Q 37)])), (Q 37, .inl (gI G, 20, .inl (u.2 9))), (Q 38, .inr (10, [.ref (Q 39)])), (Q 39, .inl (gI G, 20, .inl (u.2 10)))]
def dnew (u : MS) : MS := (fun j => if [20, 21, 22, 23, 24, 25].contains j then 0 else u.1 j, fun a => if a = 8 then fl 300 0 (fun _ => 0) else if a = 9 then fl 20 0 (fun _ => 0) else if a = 10 then fl 20 0 (fun _ => 0) else u.2 a)
def Qn (Q : Nat → Nat) (q hc ac he ae ho ao : Nat) : Nat → Nat := fun k => if k = 10 then q else if k = 34 then hc else if k = 35 then ac else if k = 36 then he else if k = 37 then ae else if k = 38 then ho else if k = 39 then ao else Q k
def npk (G : gG) (q hc ac he ae ho ao : Nat) : va_W := [(q, .inr (5, [.int 0, .int 0, .int 0, .int 0, .int 0, .int 0, .ref hc, .ref he, .ref ho])), (hc, .inr (10, [.ref ac])), (ac, .inl (gI G, 300, .inl (fl 300 0 (fun _ => 0)))), (he, .inr (10, [.ref ae])), (ae, .inl (gI G, 20, .inl (fl 20 0 (fun _ => 0)))), (ho, .inr (10, [.ref ao])), (ao, .inl (gI G, 20, .inl (fl 20 0 (fun _ => 0))))]
def prn (Q : Nat → Nat) (D : Nat × Nat) (u : MS) (q : Nat) : Nat × va_E := (Q 3, .inr (6, [.ref (Q 2), .ref (Q 28), .ref (Q 30), .ref (Q 32), .ref q, .int (u.1 7), .int (u.1 8), .int (u.1 9), .int (u.1 10), .int (u.1 11), .int (u.1 12), .int (u.1 13), .int (u.1 14), .int (u.1 15)]))
def fho (n : Nat) (k : Nat) : Nat := if k = 10 then 70 + n + 0 else if k = 26 then 70 + n + 1 else if k = 27 then 70 + n + 2 else if k = 28 then 70 + n + 3 else if k = 29 then 70 + n + 4 else if k = 30 then 70 + n + 5 else if k = 31 then 70 + n + 6 else if k < 70 then k else if k = 70 then 10 else if k = 71 then 26 else if k = 72 then 27 else if k = 73 then 28 else if k = 74 then 29 else if k = 75 then 30 else if k = 76 then 31 else k - 7
theorem fho_c (n k : Nat) : (k = 10 ∧ fho n k = 70 + n + 0) ∨ (¬ k = 10 ∧ k = 26 ∧ fho n k = 70 + n + 1) ∨ (¬ k = 10 ∧ ¬ k = 26 ∧ k = 27 ∧ fho n k = 70 + n + 2) ∨ (¬ k = 10 ∧ ¬ k = 26 ∧ ¬ k = 27 ∧ k = 28 ∧ fho n k = 70 + n + 3) ∨ (¬ k = 10 ∧ ¬ k = 26 ∧ ¬ k = 27 ∧ ¬ k = 28 ∧ k = 29 ∧ fho n k = 70 + n + 4) ∨ (¬ k = 10 ∧ ¬ k = 26 ∧ ¬ k = 27 ∧ ¬ k = 28 ∧ ¬ k = 29 ∧ k = 30 ∧ fho n k = 70 + n + 5) ∨ (¬ k = 10 ∧ ¬ k = 26 ∧ ¬ k = 27 ∧ ¬ k = 28 ∧ ¬ k = 29 ∧ ¬ k = 30 ∧ k = 31 ∧ fho n k = 70 + n + 6) ∨ (¬ k = 10 ∧ ¬ k = 26 ∧ ¬ k = 27 ∧ ¬ k = 28 ∧ ¬ k = 29 ∧ ¬ k = 30 ∧ ¬ k = 31 ∧ k < 70 ∧ fho n k = k) ∨ (¬ k = 10 ∧ ¬ k = 26 ∧ ¬ k = 27 ∧ ¬ k = 28 ∧ ¬ k = 29 ∧ ¬ k = 30 ∧ ¬ k = 31 ∧ ¬ k < 70 ∧ k = 70 ∧ fho n k = 10) ∨ (¬ k = 10 ∧ ¬ k = 26 ∧ ¬ k = 27 ∧ ¬ k = 28 ∧ ¬ k = 29 ∧ ¬ k = 30 ∧ ¬ k = 31 ∧ ¬ k < 70 ∧ ¬ k = 70 ∧ k = 71 ∧ fho n k = 26) ∨ (¬ k = 10 ∧ ¬ k = 26 ∧ ¬ k = 27 ∧ ¬ k = 28 ∧ ¬ k = 29 ∧ ¬ k = 30 ∧ ¬ k = 31 ∧ ¬ k < 70 ∧ ¬ k = 70 ∧ ¬ k = 71 ∧ k = 72 ∧ fho n k = 27) ∨ (¬ k = 10 ∧ ¬ k = 26 ∧ ¬ k = 27 ∧ ¬ k = 28 ∧ ¬ k = 29 ∧ ¬ k = 30 ∧ ¬ k = 31 ∧ ¬ k < 70 ∧ ¬ k = 70 ∧ ¬ k = 71 ∧ ¬ k = 72 ∧ k = 73 ∧ fho n k = 28) ∨ (¬ k = 10 ∧ ¬ k = 26 ∧ ¬ k = 27 ∧ ¬ k = 28 ∧ ¬ k = 29 ∧ ¬ k = 30 ∧ ¬ k = 31 ∧ ¬ k < 70 ∧ ¬ k = 70 ∧ ¬ k = 71 ∧ ¬ k = 72 ∧ ¬ k = 73 ∧ k = 74 ∧ fho n k = 29) ∨ (¬ k = 10 ∧ ¬ k = 26 ∧ ¬ k = 27 ∧ ¬ k = 28 ∧ ¬ k = 29 ∧ ¬ k = 30 ∧ ¬ k = 31 ∧ ¬ k < 70 ∧ ¬ k = 70 ∧ ¬ k = 71 ∧ ¬ k = 72 ∧ ¬ k = 73 ∧ ¬ k = 74 ∧ k = 75 ∧ fho n k = 30) ∨ (¬ k = 10 ∧ ¬ k = 26 ∧ ¬ k = 27 ∧ ¬ k = 28 ∧ ¬ k = 29 ∧ ¬ k = 30 ∧ ¬ k = 31 ∧ ¬ k < 70 ∧ ¬ k = 70 ∧ ¬ k = 71 ∧ ¬ k = 72 ∧ ¬ k = 73 ∧ ¬ k = 74 ∧ ¬ k = 75 ∧ k = 76 ∧ fho n k = 31) ∨ (¬ k = 10 ∧ ¬ k = 26 ∧ ¬ k = 27 ∧ ¬ k = 28 ∧ ¬ k = 29 ∧ ¬ k = 30 ∧ ¬ k = 31 ∧ ¬ k < 70 ∧ ¬ k = 70 ∧ ¬ k = 71 ∧ ¬ k = 72 ∧ ¬ k = 73 ∧ ¬ k = 74 ∧ ¬ k = 75 ∧ ¬ k = 76 ∧ fho n k = k - 7) := by
  by_cases h0 : k = 10
  · exact Or.inl ⟨h0, by unfold fho; rw [if_pos h0]⟩
  by_cases h1 : k = 26
  · exact Or.inr (Or.inl ⟨h0, h1, by unfold fho; rw [if_neg h0, if_pos h1]⟩)
  by_cases h2 : k = 27
  · exact Or.inr (Or.inr (Or.inl ⟨h0, h1, h2, by unfold fho; rw [if_neg h0, if_neg h1, if_pos h2]⟩))
  by_cases h3 : k = 28
  · exact Or.inr (Or.inr (Or.inr (Or.inl ⟨h0, h1, h2, h3, by unfold fho; rw [if_neg h0, if_neg h1, if_neg h2, if_pos h3]⟩)))
  by_cases h4 : k = 29
  · exact Or.inr (Or.inr (Or.inr (Or.inr (Or.inl ⟨h0, h1, h2, h3, h4, by unfold fho; rw [if_neg h0, if_neg h1, if_neg h2, if_neg h3, if_pos h4]⟩))))
  by_cases h5 : k = 30
  · exact Or.inr (Or.inr (Or.inr (Or.inr (Or.inr (Or.inl ⟨h0, h1, h2, h3, h4, h5, by unfold fho; rw [if_neg h0, if_neg h1, if_neg h2, if_neg h3, if_neg h4, if_pos h5]⟩)))))
  by_cases h6 : k = 31
  · exact Or.inr (Or.inr (Or.inr (Or.inr (Or.inr (Or.inr (Or.inl ⟨h0, h1, h2, h3, h4, h5, h6, by unfold fho; rw [if_neg h0, if_neg h1, if_neg h2, if_neg h3, if_neg h4, if_neg h5, if_pos h6]⟩))))))
  by_cases h7 : k < 70
  · exact Or.inr (Or.inr (Or.inr (Or.inr (Or.inr (Or.inr (Or.inr (Or.inl ⟨h0, h1, h2, h3, h4, h5, h6, h7, by unfold fho; rw [if_neg h0, if_neg h1, if_neg h2, if_neg h3, if_neg h4, if_neg h5, if_neg h6, if_pos h7]⟩)))))))
  by_cases h8 : k = 70
  · exact Or.inr (Or.inr (Or.inr (Or.inr (Or.inr (Or.inr (Or.inr (Or.inr (Or.inl ⟨h0, h1, h2, h3, h4, h5, h6, h7, h8, by unfold fho; rw [if_neg h0, if_neg h1, if_neg h2, if_neg h3, if_neg h4, if_neg h5, if_neg h6, if_neg h7, if_pos h8]⟩))))))))
  by_cases h9 : k = 71
  · exact Or.inr (Or.inr (Or.inr (Or.inr (Or.inr (Or.inr (Or.inr (Or.inr (Or.inr (Or.inl ⟨h0, h1, h2, h3, h4, h5, h6, h7, h8, h9, by unfold fho; rw [if_neg h0, if_neg h1, if_neg h2, if_neg h3, if_neg h4, if_neg h5, if_neg h6, if_neg h7, if_neg h8, if_pos h9]⟩)))))))))
  by_cases h10 : k = 72
  · exact Or.inr (Or.inr (Or.inr (Or.inr (Or.inr (Or.inr (Or.inr (Or.inr (Or.inr (Or.inr (Or.inl ⟨h0, h1, h2, h3, h4, h5, h6, h7, h8, h9, h10, by unfold fho; rw [if_neg h0, if_neg h1, if_neg h2, if_neg h3, if_neg h4, if_neg h5, if_neg h6, if_neg h7, if_neg h8, if_neg h9, if_pos h10]⟩))))))))))
  by_cases h11 : k = 73
  · exact Or.inr (Or.inr (Or.inr (Or.inr (Or.inr (Or.inr (Or.inr (Or.inr (Or.inr (Or.inr (Or.inr (Or.inl ⟨h0, h1, h2, h3, h4, h5, h6, h7, h8, h9, h10, h11, by unfold fho; rw [if_neg h0, if_neg h1, if_neg h2, if_neg h3, if_neg h4, if_neg h5, if_neg h6, if_neg h7, if_neg h8, if_neg h9, if_neg h10, if_pos h11]⟩)))))))))))
  by_cases h12 : k = 74
  · exact Or.inr (Or.inr (Or.inr (Or.inr (Or.inr (Or.inr (Or.inr (Or.inr (Or.inr (Or.inr (Or.inr (Or.inr (Or.inl ⟨h0, h1, h2, h3, h4, h5, h6, h7, h8, h9, h10, h11, h12, by unfold fho; rw [if_neg h0, if_neg h1, if_neg h2, if_neg h3, if_neg h4, if_neg h5, if_neg h6, if_neg h7, if_neg h8, if_neg h9, if_neg h10, if_neg h11, if_pos h12]⟩))))))))))))
  by_cases h13 : k = 75
  · exact Or.inr (Or.inr (Or.inr (Or.inr (Or.inr (Or.inr (Or.inr (Or.inr (Or.inr (Or.inr (Or.inr (Or.inr (Or.inr (Or.inl ⟨h0, h1, h2, h3, h4, h5, h6, h7, h8, h9, h10, h11, h12, h13, by unfold fho; rw [if_neg h0, if_neg h1, if_neg h2, if_neg h3, if_neg h4, if_neg h5, if_neg h6, if_neg h7, if_neg h8, if_neg h9, if_neg h10, if_neg h11, if_neg h12, if_pos h13]⟩)))))))))))))
  by_cases h14 : k = 76
  · exact Or.inr (Or.inr (Or.inr (Or.inr (Or.inr (Or.inr (Or.inr (Or.inr (Or.inr (Or.inr (Or.inr (Or.inr (Or.inr (Or.inr (Or.inl ⟨h0, h1, h2, h3, h4, h5, h6, h7, h8, h9, h10, h11, h12, h13, h14, by unfold fho; rw [if_neg h0, if_neg h1, if_neg h2, if_neg h3, if_neg h4, if_neg h5, if_neg h6, if_neg h7, if_neg h8, if_neg h9, if_neg h10, if_neg h11, if_neg h12, if_neg h13, if_pos h14]⟩))))))))))))))
  exact Or.inr (Or.inr (Or.inr (Or.inr (Or.inr (Or.inr (Or.inr (Or.inr (Or.inr (Or.inr (Or.inr (Or.inr (Or.inr (Or.inr (Or.inr (⟨h0, h1, h2, h3, h4, h5, h6, h7, h8, h9, h10, h11, h12, h13, h14, by unfold fho; rw [if_neg h0, if_neg h1, if_neg h2, if_neg h3, if_neg h4, if_neg h5, if_neg h6, if_neg h7, if_neg h8, if_neg h9, if_neg h10, if_neg h11, if_neg h12, if_neg h13, if_neg h14]⟩)))))))))))))))

set_option maxHeartbeats 4000000 in
set_option maxRecDepth 100000 in
theorem ho_idx {A : Nat → Prop} {G : gG} {Q : Nat → Nat} {D : Nat × Nat} {T : va_W} {u : MS} {H : Heap} {q hc ac he ae ho ao : Nat} (hP : va_P (gD G) vwCl (((cW G Q D T u) ++ npk G q hc ac he ae ho ao).set 3 (prn Q D u q)) H) (hD : va_D A (((cW G Q D T u) ++ npk G q hc ac he ae ho ao).set 3 (prn Q D u q))) : va_P (gD G) vwCl (cW G (Qn Q q hc ac he ae ho ao) D (opk G Q D u ++ T) (dnew u)) H ∧ va_D A (cW G (Qn Q q hc ac he ae ho ao) D (opk G Q D u ++ T) (dnew u)) := by
  have hlen : (cW G Q D T u).length = 70 + T.length := by show T.length + 70 = _; omega
  have hset : ∀ k : Nat, ¬ k = 3 → (((cW G Q D T u) ++ npk G q hc ac he ae ho ao).set 3 (prn Q D u q))[k]? = ((cW G Q D T u) ++ npk G q hc ac he ae ho ao)[k]? := fun k hk => List.getElem?_set_ne (fun z => hk z.symm)
  have happ : ∀ i : Nat, ((cW G Q D T u) ++ npk G q hc ac he ae ho ao)[70 + T.length + i]? = (npk G q hc ac he ae ho ao)[i]? := fun i => by
    rw [List.getElem?_append_right (by rw [hlen]; omega), hlen, Nat.add_sub_cancel_left]
  refine va_reidx (fho T.length) (fun k x hk => ?_) (fun a b ha hb hab => ?_) hP hD
  · match k, hk with
    | 0, hk => exact hk
    | 1, hk => exact hk
    | 2, hk => exact hk
    | 3, hk => exact hk
    | 4, hk => exact hk
    | 5, hk => exact hk
    | 6, hk => exact hk
    | 7, hk => exact hk
    | 8, hk => exact hk
    | 9, hk => exact hk
    | 10, hk => show (((cW G Q D T u) ++ npk G q hc ac he ae ho ao).set 3 (prn Q D u q))[70 + T.length + 0]? = some x; rw [hset (70 + T.length + 0) (by omega), happ 0]; exact hk
    | 11, hk => exact hk
    | 12, hk => exact hk
    | 13, hk => exact hk
    | 14, hk => exact hk
    | 15, hk => exact hk
    | 16, hk => exact hk
    | 17, hk => exact hk
    | 18, hk => exact hk
    | 19, hk => exact hk
    | 20, hk => exact hk
    | 21, hk => exact hk
    | 22, hk => exact hk
    | 23, hk => exact hk
    | 24, hk => exact hk
    | 25, hk => exact hk
    | 26, hk => show (((cW G Q D T u) ++ npk G q hc ac he ae ho ao).set 3 (prn Q D u q))[70 + T.length + 1]? = some x; rw [hset (70 + T.length + 1) (by omega), happ 1]; exact hk
    | 27, hk => show (((cW G Q D T u) ++ npk G q hc ac he ae ho ao).set 3 (prn Q D u q))[70 + T.length + 2]? = some x; rw [hset (70 + T.length + 2) (by omega), happ 2]; exact hk
    | 28, hk => show (((cW G Q D T u) ++ npk G q hc ac he ae ho ao).set 3 (prn Q D u q))[70 + T.length + 3]? = some x; rw [hset (70 + T.length + 3) (by omega), happ 3]; exact hk
    | 29, hk => show (((cW G Q D T u) ++ npk G q hc ac he ae ho ao).set 3 (prn Q D u q))[70 + T.length + 4]? = some x; rw [hset (70 + T.length + 4) (by omega), happ 4]; exact hk
    | 30, hk => show (((cW G Q D T u) ++ npk G q hc ac he ae ho ao).set 3 (prn Q D u q))[70 + T.length + 5]? = some x; rw [hset (70 + T.length + 5) (by omega), happ 5]; exact hk
    | 31, hk => show (((cW G Q D T u) ++ npk G q hc ac he ae ho ao).set 3 (prn Q D u q))[70 + T.length + 6]? = some x; rw [hset (70 + T.length + 6) (by omega), happ 6]; exact hk
    | 32, hk => exact hk
    | 33, hk => exact hk
    | 34, hk => exact hk
    | 35, hk => exact hk
    | 36, hk => exact hk
    | 37, hk => exact hk
    | 38, hk => exact hk
    | 39, hk => exact hk
    | 40, hk => exact hk
    | 41, hk => exact hk
    | 42, hk => exact hk
    | 43, hk => exact hk
    | 44, hk => exact hk
    | 45, hk => exact hk
    | 46, hk => exact hk
    | 47, hk => exact hk
    | 48, hk => exact hk
    | 49, hk => exact hk
    | 50, hk => exact hk
    | 51, hk => exact hk
    | 52, hk => exact hk
    | 53, hk => exact hk
    | 54, hk => exact hk
    | 55, hk => exact hk
    | 56, hk => exact hk
    | 57, hk => exact hk
    | 58, hk => exact hk
    | 59, hk => exact hk
    | 60, hk => exact hk
    | 61, hk => exact hk
    | 62, hk => exact hk
    | 63, hk => exact hk
    | 64, hk => exact hk
    | 65, hk => exact hk
    | 66, hk => exact hk
    | 67, hk => exact hk
    | 68, hk => exact hk
    | 69, hk => exact hk
    | 70, hk => exact hk
    | 71, hk => exact hk
    | 72, hk => exact hk
    | 73, hk => exact hk
    | 74, hk => exact hk
    | 75, hk => exact hk
    | 76, hk => exact hk
    | k + 77, hk =>
      have hf : fho T.length (k + 77) = k + 70 := by
        unfold fho
        rw [if_neg (by omega), if_neg (by omega), if_neg (by omega), if_neg (by omega), if_neg (by omega), if_neg (by omega), if_neg (by omega), if_neg (by omega), if_neg (by omega), if_neg (by omega), if_neg (by omega), if_neg (by omega), if_neg (by omega), if_neg (by omega), if_neg (by omega)]
        omega
      rw [hf, hset _ (by omega), List.getElem?_append_left]
      · exact hk
      · rw [hlen]
        have : k < T.length := (List.getElem?_eq_some_iff.mp (show T[k]? = some x from hk)).1
        omega
  · have hl2 : (cW G (Qn Q q hc ac he ae ho ao) D (opk G Q D u ++ T) (dnew u)).length = 77 + T.length := by show (opk G Q D u ++ T).length + 70 = _; rw [List.length_append]; show 7 + T.length + 70 = _; omega
    rw [hl2] at ha hb
    have ca := fho_c T.length a
    have cb := fho_c T.length b
    rw [hab] at ca
    generalize fho T.length b = z at ca cb
    omega

