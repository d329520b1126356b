/-! ===== the reference's link ===== -/
/-- what was scanned when a, b is next -/
def Dr (nn a b i j : Nat) : Prop := 1 ≤ i ∧ i < nn ∧ 1 ≤ j ∧ j < nn ∧ (i < a ∨ (i = a ∧ j < b))
/-- the row 'in' -/
def In (nn : Nat) (i : Nat → Bool) (a36 : Nat → Int32) : Prop := ∀ v, v < nn → a36 v = if i v = true then 1 else 0
theorem PI_deg {nn : Nat} {w : Nat → Nat → Int} {u : Nat → Int} {t : Nat} {P : Nat → Nat → Int} {i : Nat → Bool} (h : PI nn w u t P i) (h12 : nn ≤ 12) (v : Nat) : 0 ≤ S1 nn (fun b => P v b + P b v) ∧ S1 nn (fun b => P v b + P b v) ≤ 24 := by
  have k : ∀ a b, 0 ≤ P a b ∧ P a b ≤ 1 := by
    intro a b
    rcases h.1 a b with q | q
    · rw [q]; decide
    · rw [q.1]; decide
  refine ⟨S1_nonneg (fun b _ => ?_), ?_⟩
  · have := k v b
    have := k b v
    omega
  · have := S1_bound (n := nn) (f := fun b => P v b + P b v) (c := 2) (fun b _ => by
      have := k v b
      have := k b v
      show P v b + P b v ≤ 2
      omega)
    omega
/-- what the reference's link gives -/
def RT (nn : Nat) (w : Nat → Nat → Int) (u : Nat → Int) (r : Int32 × Int64 × (Nat → Int32) × (Nat → Int32)) : Prop :=
  (r.1 = 0 ∧ ((∀ K, ¬ KF nn w u K) ∨ NZ nn w)) ∨ (r.1 = 1 ∧ ¬ KN nn w ∧ ∃ P f s, (∀ a b, P a b = 0 ∨ P a b = 1) ∧ S2 nn P = (nn : Int) - 2 ∧ (∀ K, KF nn w u K → ∀ a b, P a b = 1 → K a b = 1) ∧ FS nn w u f s ∧ r.2.1.toInt = wth nn w u P f s ∧ Dg nn (dgK nn P f s) r.2.2.1)
theorem nar1 : vp_nar .boolean (1 : Int32) = 1 := by decide
theorem nar0 : vp_nar .boolean (0 : Int32) = 0 := by decide
/-- the last loop: the weights are taken off -/
theorem r_off {N nn : Nat} {u : Nat → Int} {b54 b55 : Nat → Int64} (hN : 100 ≤ N) (h12 : nn ≤ 12) (hu : Wr nn u b55) {j1 : Int64} {a35 a36 : Nat → Int32} (hj : -1000000000000000 ≤ j1.toInt ∧ j1.toInt ≤ 1000000000000000) : Ok (fun r => r.1 = 1 ∧ r.2.1.toInt = j1.toInt - 2 * S1 nn u ∧ r.2.2.1 = a35) (lq4 (f_X7_link_267 N (nI nn) b54 b55) N (0 : Int32) j1 a35 a36) := by
  refine lq4_ok (fun m x y1 y2 y3 => a35 = y2 ∧ ∃ i, x = nI i ∧ i + m = nn ∧ y1.toInt = j1.toInt - 2 * S1 i u) ?_ N nn 0 j1 a35 a36 ⟨rfl, 0, nI_0.symm, by omega, (show j1.toInt = j1.toInt - 2 * 0 by omega)⟩ (by omega)
  rintro m nx x y1 y2 y3 ⟨rfl, i, rfl, hm, hy⟩ ih
  unfold f_X7_link_267
  refine ok_if (fun q => ?_) (fun q => ?_)
  · rw [nI_lei (by omega) (by omega)] at q
    have : i = nn := by omega
    subst this
    exact ok_bz (Or.inr rfl) (ok_some ⟨rfl, hy, rfl⟩)
  · rw [nI_lei (by omega) (by omega)] at q
    have hi : i < nn := by omega
    have ci : (nI i).toNatClampNeg = i := nI_c (by omega)
    have e2 : (2 : Int64).toInt = 2 := by decide
    have hui := hu i hi
    have s1 : S1 i u ≤ i * 100000 := S1_bound (fun j hj => (hu j (by omega)).2.2)
    have s2 : i * (-100000) ≤ S1 i u := S1_bound' (fun j hj => (hu j (by omega)).2.1)
    have m1 : ((2 : Int64) * b55 i).toInt = 2 * u i := by
      rw [i64_mul] <;> rw [e2, hui.1] <;> omega
    simp only [ck_N (show i < 12 by omega) (show 12 < 2147483648 by omega), nmd, ci, nI_s]
    refine ih (m - 1) _ _ _ _ (by omega) ⟨rfl, i + 1, rfl, by omega, ?_⟩
    show _ = j1.toInt - 2 * (S1 i u + u i)
    rw [i64_sub] <;> rw [m1, hy] <;> omega
