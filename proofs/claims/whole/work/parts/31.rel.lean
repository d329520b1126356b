/-! ===== what class and reference hold, in numbers: w a b is the way's length, -1 where there is none ===== -/
/-- a street's length, -1 where there is none -/
def st (w : Nat → Nat → Int) (a b : Nat) : Int := if w a b = -1 then w b a else if w b a = -1 then w a b else if w b a < w a b then w b a else w a b
/-- a table of ways -/
def WW (nn : Nat) (w : Nat → Nat → Int) : Prop := 3 ≤ nn ∧ nn ≤ 12 ∧ (∀ a b, a < nn → b < nn → -1 ≤ w a b ∧ w a b ≤ 1000000) ∧ ∀ a, a < nn → w a a = -1
/-- the class's ways and streets -/
def Cw (nn : Nat) (w : Nat → Nat → Int) (g0 : Nat → Nat → Int32) : Prop := ∀ a b, a < nn → b < nn → (g0 a b).toInt = w a b
def Cs (nn : Nat) (w : Nat → Nat → Int) (g1 : Nat → Nat → Int32) : Prop := ∀ a b, a < nn → b < nn → (g1 a b).toInt = st w a b
/-- far for none -/
def fr (x : Int) : Int := if x = -1 then 1000000000000 else x
/-- the reference's ways -/
def Rw (nn : Nat) (w : Nat → Nat → Int) (b54 : Nat → Int64) : Prop := ∀ a b, a < nn → b < nn → (b54 (12 * a + b)).toInt = fr (w a b)
theorem st_symm (w : Nat → Nat → Int) (a b : Nat) : st w a b = st w b a := by
  unfold st
  repeat' split
  all_goals omega
theorem st_rng {nn : Nat} {w : Nat → Nat → Int} (hw : WW nn w) {a b : Nat} (ha : a < nn) (hb : b < nn) : -1 ≤ st w a b ∧ st w a b ≤ 1000000 := by
  have h1 := hw.2.2.1 a b ha hb
  have h2 := hw.2.2.1 b a hb ha
  unfold st
  repeat' split
  all_goals omega
theorem st_self {nn : Nat} {w : Nat → Nat → Int} (hw : WW nn w) {a : Nat} (ha : a < nn) : st w a a = -1 := by
  have h := hw.2.2.2 a ha
  unfold st
  rw [if_pos h]
  exact h
theorem fr_rng {x : Int} (h1 : -1 ≤ x) (h2 : x ≤ 1000000) : 0 ≤ fr x ∧ fr x ≤ 1000000000000 ∧ (fr x = 1000000000000 ↔ x = -1) ∧ (fr x < 1000000000000 ↔ x ≠ -1) ∧ (x ≠ -1 → fr x = x) := by
  unfold fr
  split
  all_goals omega
theorem fr_st (w : Nat → Nat → Int) (a b : Nat) (h1 : -1 ≤ w a b ∧ w a b ≤ 1000000) (h2 : -1 ≤ w b a ∧ w b a ≤ 1000000) : fr (st w a b) = if fr (w b a) ≤ fr (w a b) then fr (w b a) else fr (w a b) := by
  unfold fr st
  repeat' split
  all_goals omega
theorem ck_in {ρ : Type} {i : Int32} {n : Nat} {k : Option ρ} (h : vp_in i n) : ck i n k = k := if_neg h
theorem ck_N {ρ : Type} {i n : Nat} {k : Option ρ} (h : i < n) (hn : n < 2147483648) : ck (nI i) n k = k := ck_in (vp_in_nI h hn)
theorem i12 {a b : Nat} : (12 : Int32) * nI a + nI b = nI (12 * a + b) := by
  rw [show (12 : Int32) = nI 12 by decide, pk_mul, nI_add]
theorem r_way {b54 : Nat → Int64} {a b : Nat} (ha : a < 12) (hb : b < 12) : f_X7_way_ b54 (nI a) (nI b) = some (b54 (12 * a + b)) := by
  unfold f_X7_way_ ck
  rw [i12, if_neg (vp_in_nI (show 12 * a + b < 144 by omega) (by omega)), nI_c (by omega)]
theorem r_length {nn : Nat} {w : Nat → Nat → Int} {b54 : Nat → Int64} (hw : WW nn w) (hR : Rw nn w b54) {a b : Nat} (ha : a < nn) (hb : b < nn) : ∃ v, f_X7_length b54 (nI a) (nI b) = some v ∧ v.toInt = fr (st w a b) := by
  have h12 := hw.2.1
  have e1 := hR a b ha hb
  have e2 := hR b a hb ha
  have e3 := fr_st w a b (hw.2.2.1 a b ha hb) (hw.2.2.1 b a hb ha)
  unfold f_X7_length
  rw [r_way (by omega) (by omega), r_way (by omega) (by omega)]
  by_cases h : b54 (12 * b + a) ≤ b54 (12 * a + b)
  · refine ⟨b54 (12 * b + a), by simp only [bd, if_pos h], ?_⟩
    rw [i64_le, e1, e2] at h
    rw [e3, if_pos h, e2]
  · refine ⟨b54 (12 * a + b), by simp only [bd, if_neg h], ?_⟩
    rw [i64_le, e1, e2] at h
    rw [e3, if_neg h, e1]
theorem c_has (nn : Nat) (hn : nn < 2147483648) (x : Int32) : (f_X3_has (nI nn) x = some 1 ∧ ∃ j, j < nn ∧ x = nI j) ∨ (f_X3_has (nI nn) x = some 0 ∧ ¬ ∃ j, j < nn ∧ x = nI j) := by
  unfold f_X3_has bz
  by_cases h1 : x < 0
  · refine Or.inr ⟨by rw [if_pos h1]; rfl, ?_⟩
    rintro ⟨j, hj, rfl⟩
    exact nI_pos (by omega) h1
  · by_cases h2 : nI nn ≤ x
    · refine Or.inr ⟨by rw [if_neg h1, if_pos h2]; rfl, ?_⟩
      rintro ⟨j, hj, rfl⟩
      exact nI_ge hj hn h2
    · refine Or.inl ⟨by rw [if_neg h1, if_neg h2]; rfl, ?_⟩
      rcases ix_cases x hn with (h | h) | h
      · exact absurd h h1
      · exact absurd h h2
      · exact h
theorem r_isPlace (nn : Nat) (x : Int32) : f_X7_isPlace (nI nn) x = f_X3_has (nI nn) x := rfl
/-- the length of the street, of two ways -/
theorem c_shorter {x y : Int32} {a b : Int} (hx : x.toInt = a) (hy : y.toInt = b) (ha : -1 ≤ a) (hb : -1 ≤ b) : ∃ v, f_X3_shorter x y = some v ∧ v.toInt = (if a = -1 then b else if b = -1 then a else if b < a then b else a) := by
  have e1 : x = -1 ↔ a = -1 := by rw [i32_eq, m1_toInt, hx]
  have e2 : y = -1 ↔ b = -1 := by rw [i32_eq, m1_toInt, hy]
  have e3 : x < y ↔ a < b := by rw [i32_lt, hx, hy]
  have e4 : y < x ↔ b < a := by rw [i32_lt, hx, hy]
  unfold f_X3_shorter
  simp only [e1, e2, e3, e4]
  repeat' split
  all_goals first | exact ⟨_, rfl, hx.trans (by omega)⟩ | exact ⟨_, rfl, hy.trans (by omega)⟩ | exact ⟨_, rfl, hx⟩ | exact ⟨_, rfl, hy⟩ | omega
def wup (w : Nat → Nat → Int) (a b : Nat) (t : Int) : Nat → Nat → Int := fun i j => if i = a ∧ j = b then t else w i j
theorem g_up {g : Nat → Nat → Int32} {a b i j : Nat} {x : Int32} : va_up g a (upd (g a) b x) i j = if i = a ∧ j = b then x else g i j := by
  by_cases h : i = a
  · subst h
    rw [va_up_self]
    unfold upd
    by_cases h2 : j = b
    · rw [if_pos h2, if_pos ⟨rfl, h2⟩]
    · rw [if_neg h2, if_neg (fun q => h2 q.2)]
  · rw [va_up_ne _ _ h, if_neg (fun q => h q.1)]
/-- telling a way: ways and streets as they should be -/
theorem c_tell {nn : Nat} {w : Nat → Nat → Int} {g0 g1 : Nat → Nat → Int32} (hw : WW nn w) (h0 : Cw nn w g0) (h1 : Cs nn w g1) {a b : Nat} (ha : a < nn) (hb : b < nn) (hab : a ≠ b) {x : Int32} {t : Int} (hx : x.toInt = t) (ht : -1 ≤ t ∧ t ≤ 1000000) : ∃ g0' g1', f_X3_tell nn g0 g1 (nI a) (nI b) x = some (g0', g1') ∧ WW nn (wup w a b t) ∧ Cw nn (wup w a b t) g0' ∧ Cs nn (wup w a b t) g1' := by
  have h12 := hw.2.1
  have ca : (nI a).toNatClampNeg = a := nI_c (by omega)
  have cb : (nI b).toNatClampNeg = b := nI_c (by omega)
  have ia : vp_in (nI a) nn := vp_in_nI ha (by omega)
  have ib : vp_in (nI b) nn := vp_in_nI hb (by omega)
  have eba : va_up g0 a (upd (g0 a) b x) b a = g0 b a := by
    rw [g_up, if_neg (fun q => hab q.2)]
  obtain ⟨v, hv, hvi⟩ := c_shorter hx (h0 b a hb ha) ht.1 (hw.2.2.1 b a hb ha).1
  refine ⟨va_up g0 a (upd (g0 a) b x), va_up (va_up g1 a (upd (g1 a) b v)) b (upd (va_up g1 a (upd (g1 a) b v) b) a v), ?_, ?_, ?_, ?_⟩
  · unfold f_X3_tell nmd
    simp only [ck_in ia, ck_in ib, ca, cb, eba, hv, bd]
  · refine ⟨hw.1, hw.2.1, fun i j hi hj => ?_, fun i hi => ?_⟩
    · unfold wup
      split
      · exact ht
      · exact hw.2.2.1 i j hi hj
    · unfold wup
      rw [if_neg (fun q => hab (q.1.symm.trans q.2))]
      exact hw.2.2.2 i hi
  · intro i j hi hj
    rw [g_up]
    unfold wup
    split
    · exact hx
    · exact h0 i j hi hj
  · intro i j hi hj
    rw [g_up, g_up]
    have key : st (wup w a b t) i j = if (i = a ∧ j = b) ∨ (i = b ∧ j = a) then (if t = -1 then w b a else if w b a = -1 then t else if w b a < t then w b a else t) else st w i j := by
      have e1 : wup w a b t a b = t := if_pos ⟨rfl, rfl⟩
      have e2 : wup w a b t b a = w b a := if_neg (fun q => hab q.2)
      by_cases c1 : i = a ∧ j = b
      · rw [if_pos (Or.inl c1), c1.1, c1.2]
        unfold st
        rw [e1, e2]
      · by_cases c2 : i = b ∧ j = a
        · rw [if_pos (Or.inr c2), c2.1, c2.2, st_symm]
          unfold st
          rw [e1, e2]
        · rw [if_neg (fun q => q.elim c1 c2)]
          unfold st
          rw [show wup w a b t i j = w i j from if_neg c1, show wup w a b t j i = w j i from if_neg (fun q => c2 ⟨q.2, q.1⟩)]
    rw [key]
    by_cases c2 : i = b ∧ j = a
    · rw [if_pos c2, if_pos (Or.inr c2)]
      exact hvi
    · rw [if_neg c2]
      by_cases c1 : i = a ∧ j = b
      · rw [if_pos c1, if_pos (Or.inl c1)]
        exact hvi
      · rw [if_neg c1, if_neg (fun q => q.elim c1 c2)]
        exact h1 i j hi hj
