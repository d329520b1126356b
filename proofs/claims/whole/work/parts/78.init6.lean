/-! ===== worlds that are laid anew ===== -/
theorem D_perm {A : Nat → Prop} {ws ws' : va_W} (h : ws.Perm ws') (hD : va_D A ws) : va_D A ws' := by
  have n1 : (ws.map Prod.fst).Nodup := by
    rw [List.Nodup, List.pairwise_iff_getElem]
    intro i j hi hj hij e
    rw [List.length_map] at hi hj
    rw [List.getElem_map, List.getElem_map] at e
    have := hD.1 i j _ _ (List.getElem?_eq_getElem hi) (List.getElem?_eq_getElem hj) e
    omega
  have n2 : (ws'.map Prod.fst).Nodup := (h.map Prod.fst).nodup_iff.mp n1
  refine ⟨fun i j p q hi hj e => ?_, fun k q hk => ?_⟩
  · obtain ⟨hi1, hi2⟩ := List.getElem?_eq_some_iff.mp hi
    obtain ⟨hj1, hj2⟩ := List.getElem?_eq_some_iff.mp hj
    rw [List.Nodup, List.pairwise_iff_getElem] at n2
    have ei : (ws'.map Prod.fst)[i]'(by rw [List.length_map]; exact hi1) = p.1 := by rw [List.getElem_map, hi2]
    have ej : (ws'.map Prod.fst)[j]'(by rw [List.length_map]; exact hj1) = q.1 := by rw [List.getElem_map, hj2]
    by_cases c1 : i < j
    · exact absurd (by rw [ei, ej, e]) (n2 i j (by rw [List.length_map]; exact hi1) (by rw [List.length_map]; exact hj1) c1)
    · by_cases c2 : j < i
      · exact absurd (by rw [ei, ej, e]) (n2 j i (by rw [List.length_map]; exact hj1) (by rw [List.length_map]; exact hi1) c2)
      · omega
  · have hm : q ∈ ws := h.mem_iff.mpr (List.mem_of_getElem? hk)
    obtain ⟨i, hi⟩ := List.getElem?_of_mem hm
    exact hD.2 i q hi
theorem P_perm {D : va_G} {cl : List vw_C} {H : Heap} {ws ws' : va_W} (h : ws.Perm ws') (hP : va_P D cl ws H) : va_P D cl ws' H := by
  intro k q hk
  have hm : q ∈ ws := h.mem_iff.mpr (List.mem_of_getElem? hk)
  obtain ⟨i, hi⟩ := List.getElem?_of_mem hm
  exact hP i q hi
theorem kk_perm {D : va_G} {A0 : Nat → Prop} {H0 : Heap} {ws ws' : va_W} {H : Heap} {locs : List Loc} (hM : KK D A0 H0 ws H locs) (h : ws.Perm ws') : KK D A0 H0 ws' H locs := ⟨P_perm h hM.1, D_perm h hM.2.1, hM.2.2⟩
theorem kk_eq {D : va_G} {A0 : Nat → Prop} {H0 : Heap} {ws ws' : va_W} {H : Heap} {locs : List Loc} (hM : KK D A0 H0 ws H locs) (h : ws = ws') : KK D A0 H0 ws' H locs := h ▸ hM
theorem app2 {P : va_W} {a b : Nat × va_E} : P ++ [a] ++ [b] = P ++ [a, b] := by rw [List.append_assoc]; rfl
theorem app3 {P : va_W} {a b c : Nat × va_E} : P ++ [a] ++ [b] ++ [c] = P ++ [a, b, c] := by rw [List.append_assoc, List.append_assoc]; rfl
theorem perm_z {X R Z : va_W} : ((X ++ R) ++ Z).Perm ((X ++ Z) ++ R) := by
  rw [List.append_assoc, List.append_assoc]
  exact List.Perm.append_left X List.perm_append_comm
theorem perm_n {X K1 K2 : va_W} {o1 o2 : Nat × va_E} : (X ++ ((o1 :: K1) ++ (o2 :: K2))).Perm ((X ++ [o1, o2]) ++ (K1 ++ K2)) := by
  rw [List.append_assoc]
  refine List.Perm.append_left X ?_
  show (o1 :: (K1 ++ o2 :: K2)).Perm (o1 :: o2 :: (K1 ++ K2))
  exact List.Perm.cons o1 List.perm_middle
theorem perm_h {X R K Z : va_W} {o : Nat × va_E} : ((X ++ R) ++ ((o :: K) ++ Z)).Perm ((X ++ (o :: Z)) ++ (R ++ K)) := by
  refine (perm_z (X := X) (R := R) (Z := (o :: K) ++ Z)).trans ?_
  have e : ((o :: K) ++ Z).Perm ((o :: Z) ++ K) := List.Perm.cons o List.perm_append_comm
  refine ((List.Perm.append_left X e).append_right R).trans ?_
  rw [← List.append_assoc X, List.append_assoc (X ++ (o :: Z))]
  exact List.Perm.append_left _ List.perm_append_comm
