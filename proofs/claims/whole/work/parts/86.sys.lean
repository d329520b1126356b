/-! ===== what holds between the calls ===== -/
def SysR (nn : Nat) (I : Nat → Int32) (A : Nat → Nat → Int32) (B : Nat → Nat → Int64) (G : Nat → Nat → Nat → Int32) : Prop := ∃ w, WW nn w ∧ Cw nn w (G 0) ∧ Cs nn w (G 1) ∧ Rw nn w (B 54) ∧ I 0 = nI nn ∧ I 6 = nI nn ∧ I 4 = I 7 ∧ PRel nn (I 3) (A 30) (I 8) (A 34) ∧ ∀ a b, a < 12 → b < 12 → (nn ≤ a ∨ nn ≤ b) → A 37 (12 * a + b) = 0
theorem w_assign {N nn : Nat} {w : Nat → Nat → Int} {g0 : Nat → Nat → Int32} {b54 b56 b50 b51 b52 : Nat → Int64} {a23 a24 a25 : Nat → Int32} {i5 : Int32} (hN : 5000 ≤ N) (hw : WW nn w) (h0 : Cw nn w g0) (hR : Rw nn w b54) : ∃ r s, f_X6_assign N nn (nI nn) g0 a23 a24 a25 b50 b51 b52 = some r ∧ f_X7_assign N (nI nn) b54 i5 b56 = some s ∧ r.1 = s.1 := by
  obtain ⟨r, s, e1, e2, e3, -⟩ := t_assign (a23 := a23) (a24 := a24) (a25 := a25) (b50 := b50) (b51 := b51) (b52 := b52) (b56 := b56) hN hw h0 hR
  unfold f_X6_assign f_X7_assign
  simp only [e1, e2, bd]
  exact ⟨_, _, rfl, rfl, e3⟩
theorem w_great {N nn : Nat} {w : Nat → Nat → Int} {g0 g1 : Nat → Nat → Int32} {b54 : Nat → Int64} (hN : 5000 ≤ N) (hw : WW nn w) (h0 : Cw nn w g0) (h1 : Cs nn w g1) (hR : Rw nn w b54) (i1 i5 i7 : Int32) (j0 j1 : Int64) (a20 a21 a22 a23 a24 a25 a35 a36 : Nat → Int32) (b50 b51 b52 b55 b56 : Nat → Int64) : ∃ r s, f_X6_greatest N nn (nI nn) g0 g1 i1 j0 a20 a21 a22 a23 a24 a25 b50 b51 b52 = some r ∧ f_X7_greatest N (nI nn) b54 i5 i7 j1 a35 a36 b55 b56 = some s ∧ r.1 = s.1 ∧ s.2.2.1 = i7 := by
  obtain ⟨r, g, e1, e2, e3, e4⟩ := t_great hN hw h0 h1 hR i1 i7 j0 j1 a20 a21 a22 a23 a24 a25 a35 a36 b50 b51 b52 b55 b56
  refine ⟨r, ?_⟩
  unfold f_X7_greatest
  simp only [e2, bd]
  exact ⟨_, e1, rfl, e3, e4⟩
theorem w_lin {N nn : Nat} {w : Nat → Nat → Int} {g0 g1 : Nat → Nat → Int32} {b54 : Nat → Int64} (hN : 5000 ≤ N) (hw : WW nn w) (h0 : Cw nn w g0) (h1 : Cs nn w g1) (hR : Rw nn w b54) (p i1 i5 i7 : Int32) (j0 j1 : Int64) (a20 a21 a22 a23 a24 a25 a35 a36 : Nat → Int32) (b50 b51 b52 b55 b56 : Nat → Int64) : ∃ r s, f_X6_greatest N nn (nI nn) g0 g1 i1 j0 a20 a21 a22 a23 a24 a25 b50 b51 b52 = some r ∧ f_X7_linear N (nI nn) b54 i5 i7 j1 a35 a36 b55 b56 p = some s ∧ s.2.2.1 = i7 ∧ ((r.1 = -1 ∧ s.1 = -1 ∧ s.2.1 = 0) ∨ (¬ r.1 = -1 ∧ p = 0 ∧ s.2.1 = 1) ∨ (¬ r.1 = -1 ∧ ¬ p = 0 ∧ s.2.1 = 0 ∧ s.1 = ((1000 : Int64) * r.1) / p.toInt64)) := by
  obtain ⟨r, g, e1, e2, e3, e4⟩ := t_great hN hw h0 h1 hR i1 i7 j0 j1 a20 a21 a22 a23 a24 a25 a35 a36 b50 b51 b52 b55 b56
  have z0 : (0 : Int32) ≤ (0 : Int32) := by decide
  have z1 : ¬ (1 : Int32) ≤ (0 : Int32) := by decide
  refine ⟨r, ?_⟩
  unfold f_X7_linear
  simp only [e2, bd, if_pos z0, if_neg z1]
  by_cases c1 : g.1 = -1
  · rw [if_pos c1, if_pos c1]
    exact ⟨_, e1, rfl, e4, Or.inl ⟨e3.trans c1, rfl, rfl⟩⟩
  · rw [if_neg c1]
    by_cases c2 : p = 0
    · rw [if_pos c2]
      exact ⟨_, e1, rfl, e4, Or.inr (Or.inl ⟨fun h => c1 (e3.symm.trans h), c2, rfl⟩)⟩
    · rw [if_neg c2, if_neg c1]
      have h0 : ¬ p.toInt64 = 0 := by
        rw [i64_eq, i64_of32]
        rw [i32_eq] at c2
        exact c2
      unfold dvl
      rw [if_neg h0]
      exact ⟨_, e1, rfl, e4, Or.inr (Or.inr ⟨fun h => c1 (e3.symm.trans h), c2, rfl, by rw [e3]⟩)⟩
