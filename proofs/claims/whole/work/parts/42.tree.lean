/-! ===== tree: class and reference answer alike ===== -/
theorem r_grow0 {N nn : Nat} {b54 : Nat → Int64} (h12 : nn ≤ 12) (x1 i7 : Int32) (j : Int64) (a35 a36 : Nat → Int32) : ∀ (m n i : Nat) (b : Nat → Int64), i + m = nn → m < n → (∀ v, v < i → b v = 0) → ∃ b', lq7 (f_X7_grow_2 N (nI nn) b54) n x1 (nI i) i7 j a35 a36 b = lq8 (f_X7_grow_35 N (nI nn) b54) N x1 (-1000000000000) 1 0 j a35 a36 b' ∧ ∀ v, v < nn → b' v = 0 := by
  intro m
  induction m with
  | zero =>
    intro n i b hm hn hb
    obtain ⟨n, rfl⟩ : ∃ n', n = n' + 1 := ⟨n - 1, by omega⟩
    refine ⟨b, ?_, fun v hv => hb v (by omega)⟩
    show f_X7_grow_2 N (nI nn) b54 _ x1 (nI i) i7 j a35 a36 b = _
    unfold f_X7_grow_2
    rw [if_pos]
    rw [nI_lei (by omega) (by omega)]
    omega
  | succ m ih =>
    intro n i b hm hn hb
    obtain ⟨n, rfl⟩ : ∃ n', n = n' + 1 := ⟨n - 1, by omega⟩
    have hi : i < nn := by omega
    have ci : (nI i).toNatClampNeg = i := nI_c (by omega)
    obtain ⟨b', e1, e2⟩ := ih n (i + 1) (vp_updL b i 0) (by omega) (by omega) (fun v hv => by
      by_cases e : v = i
      · subst e; exact pk_uLs
      · rw [pk_uLn e]; exact hb v (by omega))
    refine ⟨b', ?_, e2⟩
    rw [← e1]
    show f_X7_grow_2 N (nI nn) b54 (lq7 (f_X7_grow_2 N (nI nn) b54) n) x1 (nI i) i7 j a35 a36 b = _
    generalize lq7 (f_X7_grow_2 N (nI nn) b54) n = nx
    unfold f_X7_grow_2
    rw [if_neg (by rw [nI_lei (by omega) (by omega)]; omega)]
    simp only [ck_N (show i < 12 by omega) (show 12 < 2147483648 by omega), nmd, ci, nI_s]
theorem tree_same {N nn : Nat} {w : Nat → Nat → Int} {g1 : Nat → Nat → Int32} {b54 : Nat → Int64} (hN : 100 ≤ N) (hw : WW nn w) (hs : Cs nn w g1) (hR : Rw nn w b54) {R : Nat} (h1 : 1 ≤ R) (h50 : R ≤ 50) (i1 i7 : Int32) (j0 j1 : Int64) (a20 a21 a22 a35 a36 : Nat → Int32) (b55 : Nat → Int64) :
    ∃ rc rr, f_X2_bound N nn (nI nn) g1 i1 j0 a20 a21 a22 (nI R) = some rc ∧ f_X7_grow N (nI nn) b54 i7 j1 a35 a36 b55 (nI R) = some rr ∧ f_X7_half rr.1 = some rc.1 ∧ rc.2.1 = rr.2.1 := by
  have h12 := hw.2.1
  obtain ⟨b', e1, e2⟩ := r_grow0 (N := N) (b54 := b54) h12 (nI R) i7 j1 a35 a36 nn N 0 b55 (by omega) (by omega) (fun v h => absurd h (Nat.not_lt_zero v))
  obtain ⟨rc, rr, c1, c2, c3, c4⟩ := bound_grow hN hw hs hR R h50 R N N 1 (fun _ => 0) 0 (-1000000000000) 0 j0 j1 (fil nn 0 a20) a21 a22 a35 a36 b' (by omega) (by omega) (by omega) (by omega) (fun v hv => by
    refine ⟨?_, ?_, by omega, by omega⟩
    · unfold fil
      rw [if_pos hv]
      decide
    · rw [e2 v hv]
      decide) (Or.inl ⟨rfl, rfl, rfl⟩) (by omega)
  refine ⟨rc, rr, ?_, ?_, c3, c4⟩
  · unfold f_X2_bound fck nmd
    rw [if_pos (by omega)]
    exact c1
  · unfold f_X7_grow
    rw [zero32, e1]
    exact c2
/-- the rounds asked for, brought to 1 .. 50 -/
theorem rnd_cases (p : Int32) : ∃ R, 1 ≤ R ∧ R ≤ 50 ∧ (if (1 : Int32) < (if p < (50 : Int32) then p else (50 : Int32)) then (if p < (50 : Int32) then p else (50 : Int32)) else (1 : Int32)) = nI R ∧ ((¬ (1 : Int32) ≤ p ∧ nI R = 1) ∨ ((1 : Int32) ≤ p ∧ ¬ p ≤ (50 : Int32) ∧ nI R = 50) ∨ ((1 : Int32) ≤ p ∧ p ≤ (50 : Int32) ∧ nI R = p)) := by
  have e1 : (1 : Int32).toInt = 1 := by decide
  have e50 : (50 : Int32).toInt = 50 := by decide
  by_cases h1 : (1 : Int32) ≤ p
  · by_cases h2 : p ≤ (50 : Int32)
    · have h1' := h1
      have h2' := h2
      rw [i32_le, e1] at h1'
      rw [i32_le, e50] at h2'
      obtain ⟨R, hR, rfl⟩ : ∃ R, R < 51 ∧ p = nI R := by
        rcases ix_cases p (show 51 < 2147483648 by omega) with (h | h) | h
        · rw [i32_lt, show (0 : Int32).toInt = 0 by decide] at h
          omega
        · rw [i32_le, nI_i (by omega)] at h
          omega
        · exact h
      rw [nI_i (by omega)] at h1' h2'
      refine ⟨R, by omega, by omega, ?_, Or.inr (Or.inr ⟨h1, h2, rfl⟩)⟩
      have c50 : nI R < (50 : Int32) ↔ R < 50 := by rw [show (50 : Int32) = nI 50 by decide]; exact nI_lti (by omega) (by omega)
      have c1 : (1 : Int32) < nI R ↔ 1 < R := by rw [one32]; exact nI_lti (by omega) (by omega)
      by_cases q : R < 50
      · rw [if_pos (c50.mpr q)]
        by_cases z : 1 < R
        · rw [if_pos (c1.mpr z)]
        · rw [if_neg (fun y => z (c1.mp y)), show R = 1 by omega]
          decide
      · rw [if_neg (fun y => q (c50.mp y)), if_pos (by decide), show R = 50 by omega]
        decide
    · refine ⟨50, by omega, by omega, ?_, Or.inr (Or.inl ⟨h1, h2, by decide⟩)⟩
      have : ¬ p < (50 : Int32) := by
        rw [i32_lt, e50]
        rw [i32_le, e50] at h2
        omega
      rw [if_neg this]
      decide
  · refine ⟨1, by omega, by omega, ?_, Or.inl ⟨h1, by decide⟩⟩
    have h1' := h1
    rw [i32_le, e1] at h1'
    have : p < (50 : Int32) := by
      rw [i32_lt, e50]
      omega
    rw [if_pos this, if_neg (by rw [i32_lt, e1]; omega)]
    decide
theorem t_tree {N nn : Nat} {w : Nat → Nat → Int} {g1 : Nat → Nat → Int32} {b54 : Nat → Int64} (hN : 100 ≤ N) (hw : WW nn w) (hs : Cs nn w g1) (hR : Rw nn w b54) (p i1 i4 i5 i7 : Int32) (j0 j1 : Int64) (a20 a21 a22 a35 a36 : Nat → Int32) (b55 : Nat → Int64) :
    ∃ oc or', f_X6_tree N nn (nI nn) g1 i1 i4 j0 a20 a21 a22 p = some oc ∧ f_X7_tree N (nI nn) b54 i5 i7 j1 a35 a36 b55 p = some or' ∧ oc.1 = or'.1 ∧ oc.2.2.1 = or'.2.2.1 ∧ or'.2.1 = 0 := by
  obtain ⟨R, h1, h50, hc, hr⟩ := rnd_cases p
  obtain ⟨rc, rr, e1, e2, e3, e4⟩ := tree_same hN hw hs hR h1 h50 i1 i7 j0 j1 a20 a21 a22 a35 a36 b55
  refine ⟨(rc.1, rc.2.1, rc.2.1, rc.2.2.1, rc.2.2.2.1, rc.2.2.2.2.1, rc.2.2.2.2.2), (rc.1, 0, rr.2.1, rr.2.2.1, rr.2.2.2.1, rr.2.2.2.2.1, rr.2.2.2.2.2), by unfold f_X6_tree; rw [hc, e1]; rfl, ?_, rfl, e4, rfl⟩
  · unfold f_X7_tree
    rcases hr with ⟨q1, q2⟩ | ⟨q1, q2, q3⟩ | ⟨q1, q2, q3⟩
    · rw [if_neg q1, ← q2, e2]
      simp only [bd, e3]
    · rw [if_pos q1, if_neg q2, ← q3, e2]
      simp only [bd, e3]
    · rw [if_pos q1, if_pos q2, ← q3, e2]
      simp only [bd, e3]
