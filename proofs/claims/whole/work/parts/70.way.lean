/-! ===== a way is told ===== -/
theorem pl_cases {nn : Nat} (h12 : nn ≤ 12) (x : Int32) : (f_X3_has (nI nn) x = some 0 ∧ f_X7_isPlace (nI nn) x = some 0) ∨ ∃ a, a < nn ∧ x = nI a ∧ f_X3_has (nI nn) x = some 1 ∧ f_X7_isPlace (nI nn) x = some 1 := by
  rcases ix_cases x (show nn < 2147483648 by omega) with (h | h) | ⟨a, ha, rfl⟩
  · left
    unfold f_X3_has f_X7_isPlace
    rw [if_pos h]
    exact ⟨rfl, rfl⟩
  · left
    unfold f_X3_has f_X7_isPlace
    by_cases c : x < 0
    · rw [if_pos c]
      exact ⟨rfl, rfl⟩
    · rw [if_neg c, if_pos h]
      exact ⟨rfl, rfl⟩
  · right
    refine ⟨a, ha, rfl, ?_⟩
    unfold f_X3_has f_X7_isPlace
    rw [if_neg (by rw [zero32, nI_lti (by omega) (by omega)]; omega), if_neg (by rw [nI_lei (by omega) (by omega)]; omega)]
    exact ⟨rfl, rfl⟩
/-- what is told: none where the number is no way's length -/
def tz (x : Int) : Int := if x < 0 ∨ 1000000 < x then -1 else x
def w_up (w : Nat → Nat → Int) (a b : Nat) (z : Int) : Nat → Nat → Int := fun i j => if i = a ∧ j = b then z else w i j
theorem WW_up {nn : Nat} {w : Nat → Nat → Int} {a b : Nat} {x : Int} (hw : WW nn w) (hab : a ≠ b) : WW nn (w_up w a b (tz x)) := by
  refine ⟨hw.1, hw.2.1, fun i j hi hj => ?_, fun i hi => ?_⟩
  · unfold w_up
    split
    · unfold tz; split <;> omega
    · exact hw.2.2.1 i j hi hj
  · unfold w_up
    rw [if_neg (by omega)]
    exact hw.2.2.2 i hi
theorem st_up {w : Nat → Nat → Int} {a b i j : Nat} {z : Int} (h1 : ¬ (i = a ∧ j = b)) (h2 : ¬ (j = a ∧ i = b)) : st (w_up w a b z) i j = st w i j := by
  have e1 : w_up w a b z i j = w i j := if_neg h1
  have e2 : w_up w a b z j i = w j i := if_neg h2
  unfold st
  rw [e1, e2]
theorem t_tell {nn : Nat} {w : Nat → Nat → Int} {g0 g1 : Nat → Nat → Int32} {a b : Nat} {x : Int} {v : Int32} (hw : WW nn w) (h0 : Cw nn w g0) (h1 : Cs nn w g1) (ha : a < nn) (hb : b < nn) (hab : a ≠ b) (hv : v.toInt = tz x) : ∃ r, f_X3_tell nn g0 g1 (nI a) (nI b) v = some r ∧ Cw nn (w_up w a b (tz x)) r.1 ∧ Cs nn (w_up w a b (tz x)) r.2 := by
  have h12 := hw.2.1
  have wba := h0 b a hb ha
  have m1 : (-1 : Int32).toInt = -1 := by decide
  obtain ⟨z, ez⟩ : ∃ z, tz x = z := ⟨_, rfl⟩
  rw [ez] at hv ⊢
  have sh : ∃ o, f_X3_shorter v (g0 b a) = some o ∧ o.toInt = (if z = -1 then (if z < w b a then w b a else z) else if w b a = -1 then (if z < w b a then w b a else z) else if w b a < z then w b a else z) := by
    unfold f_X3_shorter
    simp only [i32_eq, i32_lt, hv, wba, m1]
    by_cases c1 : z = -1
    · rw [if_pos c1, if_pos c1]
      refine ⟨_, rfl, ?_⟩
      by_cases c2 : z < w b a
      · rw [if_pos c2, if_pos c2]; exact wba
      · rw [if_neg c2, if_neg c2]; exact hv
    · rw [if_neg c1, if_neg c1]
      by_cases c3 : w b a = -1
      · rw [if_pos c3, if_pos c3]
        refine ⟨_, rfl, ?_⟩
        by_cases c2 : z < w b a
        · rw [if_pos c2, if_pos c2]; exact wba
        · rw [if_neg c2, if_neg c2]; exact hv
      · rw [if_neg c3, if_neg c3]
        refine ⟨_, rfl, ?_⟩
        by_cases c2 : w b a < z
        · rw [if_pos c2, if_pos c2]; exact wba
        · rw [if_neg c2, if_neg c2]; exact hv
  obtain ⟨o, eo, ho⟩ := sh
  have z1 : -1 ≤ z := by rw [← ez]; unfold tz; split <;> omega
  have wr := hw.2.2.1 b a hb ha
  have so : o.toInt = st (w_up w a b z) a b ∧ o.toInt = st (w_up w a b z) b a := by
    have e1 : w_up w a b z a b = z := if_pos ⟨rfl, rfl⟩
    have e2 : w_up w a b z b a = w b a := if_neg (by omega)
    have : o.toInt = st (w_up w a b z) a b := by
      unfold st
      rw [e1, e2, ho]
      repeat' split
      all_goals omega
    exact ⟨this, by rw [st_symm]; exact this⟩
  unfold f_X3_tell
  have e3 : va_up g0 a (upd (g0 a) b v) b a = g0 b a := by
    unfold va_up
    rw [if_neg (fun e => hab e.symm)]
  simp only [ck_N ha (show nn < 2147483648 by omega), ck_N hb (show nn < 2147483648 by omega), nI_c (show a < 2147483648 by omega), nI_c (show b < 2147483648 by omega), nmd, e3, eo, bd]
  refine ⟨_, rfl, fun i j hi hj => ?_, fun i j hi hj => ?_⟩
  · show (va_up g0 a (upd (g0 a) b v) i j).toInt = w_up w a b z i j
    unfold va_up w_up
    by_cases c1 : i = a
    · rw [if_pos c1]
      by_cases c2 : j = b
      · rw [c2, pk_us, if_pos ⟨c1, rfl⟩]; exact hv
      · rw [pk_un c2, if_neg (fun q => c2 q.2), c1]; exact h0 a j ha hj
    · rw [if_neg c1, if_neg (fun q => c1 q.1)]; exact h0 i j hi hj
  · show (va_up (va_up g1 a (upd (g1 a) b o)) b (upd (va_up g1 a (upd (g1 a) b o) b) a o) i j).toInt = st (w_up w a b z) i j
    have eb : va_up g1 a (upd (g1 a) b o) b = g1 b := if_neg (fun e => hab e.symm)
    rw [eb]
    by_cases c1 : i = b
    · subst c1
      have : va_up (va_up g1 a (upd (g1 a) i o)) i (upd (g1 i) a o) i = upd (g1 i) a o := if_pos rfl
      rw [this]
      by_cases c2 : j = a
      · rw [c2, pk_us]; exact so.2
      · rw [pk_un c2, h1 i j hi hj]
        exact (st_up (fun q => hab q.1.symm) (fun q => c2 q.1)).symm
    · have e4 : va_up (va_up g1 a (upd (g1 a) b o)) b (upd (g1 b) a o) i = va_up g1 a (upd (g1 a) b o) i := if_neg c1
      rw [e4]
      by_cases c3 : i = a
      · subst c3
        have : va_up g1 i (upd (g1 i) b o) i = upd (g1 i) b o := if_pos rfl
        rw [this]
        by_cases c2 : j = b
        · rw [c2, pk_us]; exact so.1
        · rw [pk_un c2, h1 i j hi hj]
          exact (st_up (fun q => c2 q.2) (fun q => c1 q.2)).symm
      · have : va_up g1 a (upd (g1 a) b o) i = g1 i := if_neg c3
        rw [this, h1 i j hi hj]
        exact (st_up (fun q => c3 q.1) (fun q => c1 q.2)).symm
theorem t_rway {nn : Nat} {w : Nat → Nat → Int} {b54 : Nat → Int64} {a b : Nat} {i5 : Int32} (x : Int64) (hw : WW nn w) (hR : Rw nn w b54) (ha : a < nn) (hb : b < nn) (hab : a ≠ b) : ∃ b', f_X7_way (nI nn) i5 b54 (nI a) (nI b) x = some (0, b') ∧ Rw nn (w_up w a b (tz x.toInt)) b' := by
  have h12 := hw.2.1
  have z64 : (0 : Int64).toInt = 0 := by decide
  have m64 : (1000000 : Int64).toInt = 1000000 := by decide
  have far : (1000000000000 : Int64).toInt = 1000000000000 := by decide
  have rel : ∀ v : Int64, v.toInt = fr (tz x.toInt) → Rw nn (w_up w a b (tz x.toInt)) (vp_updL b54 (12 * a + b) v) := fun v hv i j hi hj => by
    unfold w_up
    rw [upL]
    by_cases c : i = a ∧ j = b
    · rw [if_pos c, if_pos (by omega)]; exact hv
    · rw [if_neg c, if_neg (by omega)]; exact hR i j hi hj
  have p1 : f_X7_isPlace (nI nn) (nI a) = some 1 := by
    rcases pl_cases h12 (nI a) with ⟨_, h⟩ | ⟨_, _, _, _, h⟩
    · unfold f_X7_isPlace at h
      rw [if_neg (by rw [zero32, nI_lti (by omega) (by omega)]; omega), if_neg (by rw [nI_lei (by omega) (by omega)]; omega)] at h
      exact absurd (Option.some.inj h) (by decide)
    · exact h
  have p2 : f_X7_isPlace (nI nn) (nI b) = some 1 := by
    rcases pl_cases h12 (nI b) with ⟨_, h⟩ | ⟨_, _, _, _, h⟩
    · unfold f_X7_isPlace at h
      rw [if_neg (by rw [zero32, nI_lti (by omega) (by omega)]; omega), if_neg (by rw [nI_lei (by omega) (by omega)]; omega)] at h
      exact absurd (Option.some.inj h) (by decide)
    · exact h
  have h10 : ¬ (1 : Int32) = 0 := by decide
  have hne : ¬ nI a = nI b := by rw [nI_eqi (by omega) (by omega)]; exact hab
  unfold f_X7_way
  simp only [p1, p2, bd, if_neg h10, if_neg hne]
  rw [if_pos trivial]
  simp only [i12, ck_N (show 12 * a + b < 144 by omega) (show 144 < 2147483648 by omega), nI_c (show 12 * a + b < 2147483648 by omega), nmd]
  by_cases c1 : x < 0
  · rw [if_pos c1]
    rw [i64_lt, z64] at c1
    refine ⟨_, rfl, rel _ ?_⟩
    rw [far]
    unfold tz fr
    rw [if_pos (Or.inl c1), if_pos rfl]
  · rw [if_neg c1]
    rw [i64_lt, z64] at c1
    by_cases c2 : x ≤ 1000000
    · rw [if_pos c2]
      rw [i64_le, m64] at c2
      refine ⟨_, rfl, rel _ ?_⟩
      unfold tz fr
      rw [if_neg (by omega), if_neg (by omega)]
    · rw [if_neg c2]
      rw [i64_le, m64] at c2
      refine ⟨_, rfl, rel _ ?_⟩
      rw [far]
      unfold tz fr
      rw [if_pos (Or.inr (by omega)), if_pos rfl]
theorem t_rsame {nn : Nat} {b54 : Nat → Int64} {a b : Int32} {i5 : Int32} (x : Int64) (h : f_X7_isPlace (nI nn) a = some 0 ∨ (f_X7_isPlace (nI nn) a = some 1 ∧ f_X7_isPlace (nI nn) b = some 0)) : f_X7_way (nI nn) i5 b54 a b x = some (1, b54) := by
  have h10 : ¬ (1 : Int32) = 0 := by decide
  unfold f_X7_way
  rcases h with h | ⟨h1, h2⟩
  · simp only [h, bd, if_neg h10, if_pos]
  · simp only [h1, h2, bd, if_neg h10, if_pos]
theorem t_req {nn : Nat} {b54 : Nat → Int64} {a : Int32} {i5 : Int32} (x : Int64) (h : f_X7_isPlace (nI nn) a = some 1) : f_X7_way (nI nn) i5 b54 a a x = some (0, b54) := by
  have h10 : ¬ (1 : Int32) = 0 := by decide
  unfold f_X7_way
  simp only [h, bd, if_neg h10, if_pos]
