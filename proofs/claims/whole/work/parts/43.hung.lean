/-! ===== the class's assignment: its small methods ===== -/
/-- the cost of going from place i - 1 to place j - 1 -/
def cst (w : Nat → Nat → Int) (i j : Nat) : Int := if w (i - 1) (j - 1) = -1 then 100000000 else w (i - 1) (j - 1)
def Rl (m : Nat) (f : Nat → Int) (b : Nat → Int64) : Prop := ∀ j, j ≤ m → (b j).toInt = f j
def Ri (m : Nat) (f : Nat → Nat) (a : Nat → Int32) : Prop := ∀ j, j ≤ m → a j = nI (f j) ∧ f j ≤ m
def Rb (m : Nat) (d : Nat → Bool) (a : Nat → Int32) : Prop := ∀ j, j ≤ m → a j = if d j = true then 1 else 0
theorem cst_rng {nn : Nat} {w : Nat → Nat → Int} (hw : WW nn w) {i j : Nat} (hi : 1 ≤ i ∧ i ≤ nn) (hj : 1 ≤ j ∧ j ≤ nn) : 0 ≤ cst w i j ∧ cst w i j ≤ 100000000 := by
  have := hw.2.2.1 (i - 1) (j - 1) (by omega) (by omega)
  unfold cst
  split <;> omega
theorem nI_p1 {i : Nat} (hi : 1 ≤ i) : nI i - (1 : Int32) = nI (i - 1) := by
  obtain ⟨k, rfl⟩ : ∃ k, i = k + 1 := ⟨i - 1, by omega⟩
  exact nI_pred k
theorem c_cost {nn : Nat} {w : Nat → Nat → Int} {g0 : Nat → Nat → Int32} (hw : WW nn w) (h0 : Cw nn w g0) {i j : Nat} (hi : 1 ≤ i ∧ i ≤ nn) (hj : 1 ≤ j ∧ j ≤ nn) : ∃ v, f_X0_cost nn (nI nn) g0 (nI i) (nI j) = some v ∧ v.toInt = cst w i j := by
  have h12 := hw.2.1
  have e1 : ¬ nI i < (1 : Int32) := by rw [one32, nI_lti (by omega) (by omega)]; omega
  have e2 : ¬ nI nn < nI i := by rw [nI_lti (by omega) (by omega)]; omega
  have e3 : ¬ nI j < (1 : Int32) := by rw [one32, nI_lti (by omega) (by omega)]; omega
  have e4 : nI j ≤ nI nn := (nI_lei (by omega) (by omega)).mpr hj.2
  have ci : (nI (i - 1)).toNatClampNeg = i - 1 := nI_c (by omega)
  have cj : (nI (j - 1)).toNatClampNeg = j - 1 := nI_c (by omega)
  have hg := h0 (i - 1) (j - 1) (by omega) (by omega)
  unfold f_X0_cost
  rw [if_neg e1, if_neg e2, if_neg e3, if_pos e4, nI_p1 hi.1, nI_p1 hj.1]
  simp only [ck_N (show i - 1 < nn by omega) (show nn < 2147483648 by omega), ck_N (show j - 1 < nn by omega) (show nn < 2147483648 by omega), nmd, ci, cj]
  unfold cst
  by_cases q : g0 (i - 1) (j - 1) = -1
  · refine ⟨_, if_pos q, ?_⟩
    rw [i32_eq, m1_toInt, hg] at q
    rw [if_pos q]
    decide
  · refine ⟨_, if_neg q, ?_⟩
    rw [i32_eq, m1_toInt, hg] at q
    rw [if_neg q, i64_of32, hg]
theorem c_lower {N nn : Nat} {w : Nat → Nat → Int} {g0 : Nat → Nat → Int32} {u v sl : Nat → Int} {p : Nat → Nat} {dn : Nat → Bool} {a23 a24 a25 : Nat → Int32} {b50 b51 b52 : Nat → Int64} (hN : 100 ≤ N) (hw : WW nn w) (h0 : Cw nn w g0) (hp : Ri nn p a23) (hdn : Rb nn dn a25) (hu : Rl nn u b50) (hv : Rl nn v b51) (hs : Rl nn sl b52) (hur : ∀ i, i ≤ nn → -10000000000 ≤ u i ∧ u i ≤ 10000000000) (hvr : ∀ j, j ≤ nn → -10000000000 ≤ v j ∧ v j ≤ 10000000000) {a : Nat} (ha : a ≤ nn) (hpa : 1 ≤ p a) :
    Ok (fun r => ∀ j, j ≤ nn → if 1 ≤ j ∧ dn j = false ∧ cst w (p a) j - u (p a) - v j < sl j then (r.2 j).toInt = cst w (p a) j - u (p a) - v j ∧ r.1 j = nI a else r.2 j = b52 j ∧ r.1 j = a24 j) (f_X0_lowerSlackFrom N nn (nI nn) a23 a25 b50 b51 g0 a24 b52 (nI a)) := by
  have h12 := hw.2.1
  have ca : (nI a).toNatClampNeg = a := nI_c (by omega)
  have hpn := (hp a ha).2
  unfold f_X0_lowerSlackFrom
  rw [ck_N (show a < nn + 1 by omega) (by omega), ca, (hp a ha).1]
  refine lq5_ok (fun m x1 x2 x3 z1 z2 => x1 = nI a ∧ x2 = nI (p a) ∧ ∃ i, x3 = nI i ∧ 1 ≤ i ∧ i + m = nn + 1 ∧ ∀ j, j ≤ nn → if j < i ∧ 1 ≤ j ∧ dn j = false ∧ cst w (p a) j - u (p a) - v j < sl j then (z2 j).toInt = cst w (p a) j - u (p a) - v j ∧ z1 j = nI a else z2 j = b52 j ∧ z1 j = a24 j) ?_ N nn (nI a) (nI (p a)) 1 a24 b52 ⟨rfl, rfl, 1, by decide, by omega, by omega, fun j hj => ?_⟩ (by omega)
  · rintro m nx x1 x2 x3 z1 z2 ⟨rfl, rfl, i, rfl, hi1, hm, hz⟩ ih
    unfold f_X0_lowerSlackFrom_9
    refine ok_if (fun q => ?_) (fun q => ?_)
    · rw [nI_lti (by omega) (by omega)] at q
      refine ok_some (fun j hj => ?_)
      have := hz j hj
      by_cases c : 1 ≤ j ∧ dn j = false ∧ cst w (p a) j - u (p a) - v j < sl j
      · rw [if_pos ⟨by omega, c⟩] at this
        rw [if_pos c]
        exact this
      · rw [if_neg (fun z => c z.2)] at this
        rw [if_neg c]
        exact this
    · rw [nI_lti (by omega) (by omega)] at q
      have hi : i ≤ nn := by omega
      have ci : (nI i).toNatClampNeg = i := nI_c (by omega)
      have cp : (nI (p a)).toNatClampNeg = p a := nI_c (by omega)
      obtain ⟨x, ex, hx⟩ := c_cost hw h0 ⟨hpa, hpn⟩ ⟨hi1, hi⟩
      have hc := cst_rng hw ⟨hpa, hpn⟩ ⟨hi1, hi⟩
      have u1 := hur (p a) hpn
      have v1 := hvr i hi
      have l1 : (x - b50 (p a)).toInt = cst w (p a) i - u (p a) := by
        rw [i64_sub] <;> rw [hx, hu (p a) hpn] <;> omega
      have l2 : (x - b50 (p a) - b51 i).toInt = cst w (p a) i - u (p a) - v i := by
        rw [i64_sub] <;> rw [l1, hv i hi] <;> omega
      have hzi := hz i hi
      rw [if_neg (fun z => Nat.lt_irrefl i z.1)] at hzi
      have keep : ∀ (y1 : Nat → Int32) (y2 : Nat → Int64), (if 1 ≤ i ∧ dn i = false ∧ cst w (p a) i - u (p a) - v i < sl i then (y2 i).toInt = cst w (p a) i - u (p a) - v i ∧ y1 i = nI a else y2 i = b52 i ∧ y1 i = a24 i) → (∀ j, j ≠ i → y2 j = z2 j ∧ y1 j = z1 j) → Ok _ (nx (nI a) (nI (p a)) (nI (i + 1)) y1 y2) := fun y1 y2 h1 h2 => ih (m - 1) _ _ _ _ _ (by omega) ⟨rfl, rfl, i + 1, rfl, by omega, by omega, fun j hj => by
        by_cases e : j = i
        · subst e
          by_cases c : 1 ≤ j ∧ dn j = false ∧ cst w (p a) j - u (p a) - v j < sl j
          · rw [if_pos ⟨by omega, c⟩]
            rw [if_pos c] at h1
            exact h1
          · rw [if_neg (fun z => c z.2)]
            rw [if_neg c] at h1
            exact h1
        · have := hz j hj
          rw [(h2 j e).1, (h2 j e).2]
          by_cases c : j < i ∧ 1 ≤ j ∧ dn j = false ∧ cst w (p a) j - u (p a) - v j < sl j
          · rw [if_pos c] at this
            rw [if_pos ⟨by omega, c.2⟩]
            exact this
          · rw [if_neg c] at this
            rw [if_neg (fun z => c ⟨by omega, z.2⟩)]
            exact this⟩
      rw [ex]
      show Ok _ (ck (nI (p a)) (nn + 1) _)
      rw [ck_N (show p a < nn + 1 by omega) (by omega), ck_N (show i < nn + 1 by omega) (by omega), ci, cp]
      refine ok_nmd ?_
      rw [ck_N (show i < nn + 1 by omega) (by omega), nI_s, hdn i hi]
      refine ok_if (fun y => ?_) (fun y => ?_)
      · have hdi : dn i = false := by
          cases hh : dn i with
          | true => rw [hh] at y; exact absurd y (by decide)
          | false => rfl
        rw [ck_N (show i < nn + 1 by omega) (by omega), hzi.1]
        refine ok_if (fun z => ?_) (fun z => ?_)
        · rw [i64_le, l2, hs i hi] at z
          refine keep z1 z2 ?_ (fun j _ => ⟨rfl, rfl⟩)
          rw [if_neg (fun c => by have := c.2.2; omega)]
          exact hzi
        · rw [i64_le, l2, hs i hi] at z
          rw [ck_N (show i < nn + 1 by omega) (by omega)]
          refine ok_nmd ?_
          rw [ck_N (show i < nn + 1 by omega) (by omega)]
          refine ok_nmd ?_
          refine keep _ _ ?_ (fun j hj => ⟨pk_uLn hj, pk_un hj⟩)
          rw [if_pos ⟨hi1, hdi, by omega⟩, pk_uLs, pk_us]
          exact ⟨l2, rfl⟩
      · refine keep z1 z2 ?_ (fun j _ => ⟨rfl, rfl⟩)
        rw [if_neg (fun c => by rw [c.2.1] at y; exact y rfl)]
        exact hzi
  · rw [if_neg (fun z => by omega)]
    exact ⟨rfl, rfl⟩
theorem c_nearest {N nn : Nat} {sl : Nat → Int} {dn : Nat → Bool} {a25 : Nat → Int32} {b52 : Nat → Int64} (hN : 100 ≤ N) (h12 : nn ≤ 12) (hdn : Rb nn dn a25) (hs : Rl nn sl b52) : Ok (fun x => (x = 0 ∧ ∀ j, 1 ≤ j → j ≤ nn → dn j = true) ∨ ∃ j, x = nI j ∧ 1 ≤ j ∧ j ≤ nn ∧ dn j = false ∧ ∀ k, 1 ≤ k → k ≤ nn → dn k = false → sl j ≤ sl k) (f_X0_nearestColumn N nn (nI nn) a25 b52) := by
  unfold f_X0_nearestColumn
  refine lq2_ok (fun m x1 x2 => ∃ i, x2 = nI i ∧ 1 ≤ i ∧ i + m = nn + 1 ∧ ((x1 = 0 ∧ ∀ j, 1 ≤ j → j < i → dn j = true) ∨ ∃ j, x1 = nI j ∧ 1 ≤ j ∧ j < i ∧ dn j = false ∧ ∀ k, 1 ≤ k → k < i → dn k = false → sl j ≤ sl k)) ?_ N nn 0 1 ⟨1, by decide, by omega, by omega, Or.inl ⟨rfl, fun j h1 h2 => by omega⟩⟩ (by omega)
  rintro m nx x1 x2 ⟨i, rfl, hi1, hm, hI⟩ ih
  unfold f_X0_nearestColumn_4
  refine ok_if (fun q => ?_) (fun q => ?_)
  · rw [nI_lti (by omega) (by omega)] at q
    refine ok_some ?_
    rcases hI with ⟨h1, h2⟩ | ⟨j, h1, h2, h3, h4, h5⟩
    · exact Or.inl ⟨h1, fun j a b => h2 j a (by omega)⟩
    · exact Or.inr ⟨j, h1, h2, by omega, h4, fun k a b c => h5 k a (by omega) c⟩
  · rw [nI_lti (by omega) (by omega)] at q
    have hi : i ≤ nn := by omega
    have ci : (nI i).toNatClampNeg = i := nI_c (by omega)
    rw [ck_N (show i < nn + 1 by omega) (by omega), ci, nI_s, hdn i hi]
    refine ok_if (fun y => ?_) (fun y => ?_)
    · have hdi : dn i = false := by
        cases hh : dn i with
        | true => rw [hh] at y; exact absurd y (by decide)
        | false => rfl
      refine ok_if (fun z => ?_) (fun z => ?_)
      · subst z
        refine ih (m - 1) _ _ (by omega) ⟨i + 1, rfl, by omega, by omega, Or.inr ⟨i, rfl, hi1, by omega, hdi, fun k k1 k2 k3 => ?_⟩⟩
        rcases hI with ⟨-, h2⟩ | ⟨j, h1, h2, h3, -⟩
        · by_cases e : k = i
          · subst e; exact Int.le_refl _
          · rw [h2 k k1 (by omega)] at k3
            exact absurd k3 (by decide)
        · exact absurd h1.symm (nI_n0 h2 (by omega))
      · rcases hI with ⟨h, -⟩ | ⟨j, rfl, h2, h3, h4, h5⟩
        · exact absurd h z
        · have cj : (nI j).toNatClampNeg = j := nI_c (by omega)
          rw [ck_N (show i < nn + 1 by omega) (by omega), ck_N (show j < nn + 1 by omega) (by omega), cj]
          refine ok_if (fun t => ?_) (fun t => ?_)
          · rw [i64_le, hs j (by omega), hs i hi] at t
            refine ih (m - 1) _ _ (by omega) ⟨i + 1, rfl, by omega, by omega, Or.inr ⟨j, rfl, h2, by omega, h4, fun k k1 k2 k3 => ?_⟩⟩
            by_cases e : k = i
            · subst e; exact t
            · exact h5 k k1 (by omega) k3
          · rw [i64_le, hs j (by omega), hs i hi] at t
            refine ih (m - 1) _ _ (by omega) ⟨i + 1, rfl, by omega, by omega, Or.inr ⟨i, rfl, hi1, by omega, hdi, fun k k1 k2 k3 => ?_⟩⟩
            by_cases e : k = i
            · subst e; exact Int.le_refl _
            · have := h5 k k1 (by omega) k3
              omega
    · have hdi : dn i = true := by
        cases hh : dn i with
        | true => rfl
        | false => rw [hh] at y; exact absurd rfl y
      refine ih (m - 1) _ _ (by omega) ⟨i + 1, rfl, by omega, by omega, ?_⟩
      rcases hI with ⟨h1, h2⟩ | ⟨j, h1, h2, h3, h4, h5⟩
      · refine Or.inl ⟨h1, fun j a b => ?_⟩
        by_cases e : j = i
        · subst e; exact hdi
        · exact h2 j a (by omega)
      · refine Or.inr ⟨j, h1, h2, by omega, h4, fun k a b c => ?_⟩
        by_cases e : k = i
        · subst e
          rw [hdi] at c
          exact absurd c (by decide)
        · exact h5 k a (by omega) c
theorem c_shift {N nn : Nat} {u v sl : Nat → Int} {p : Nat → Nat} {dn : Nat → Bool} {a23 a25 : Nat → Int32} {b50 b51 b52 : Nat → Int64} (hN : 100 ≤ N) (h12 : nn ≤ 12) (hp : Ri nn p a23) (hdn : Rb nn dn a25) (hu : Rl nn u b50) (hv : Rl nn v b51) (hs : Rl nn sl b52) (hur : ∀ i, i ≤ nn → -10000000000 ≤ u i ∧ u i ≤ 10000000000) (hvr : ∀ j, j ≤ nn → -10000000000 ≤ v j ∧ v j ≤ 10000000000) (hsr : ∀ j, j ≤ nn → -2000000000000 ≤ sl j ∧ sl j ≤ 2000000000000) (hinj : ∀ j k, j ≤ nn → k ≤ nn → dn j = true → dn k = true → p j = p k → j = k) {x : Int64} {b : Int} (hb : x.toInt = b) (hbr : -10000000000 ≤ b ∧ b ≤ 10000000000) :
    Ok (fun r => (∀ i, i ≤ nn → (∃ j, j ≤ nn ∧ dn j = true ∧ p j = i ∧ (r.1 i).toInt = u i + b) ∨ ((∀ j, j ≤ nn → dn j = true → p j ≠ i) ∧ (r.1 i).toInt = u i)) ∧ (∀ j, j ≤ nn → (r.2.1 j).toInt = if dn j = true then v j - b else v j) ∧ (∀ j, j ≤ nn → (r.2.2 j).toInt = if dn j = true then sl j else sl j - b)) (f_X0_shiftPotentials N nn (nI nn) a23 a25 b50 b51 b52 x) := by
  unfold f_X0_shiftPotentials
  refine lq5_ok (fun m x1 x3 z1 z2 z3 => x = x1 ∧ ∃ k, x3 = nI k ∧ k + m = nn + 1 ∧ (∀ i, i ≤ nn → (∃ j, j < k ∧ dn j = true ∧ p j = i ∧ (z1 i).toInt = u i + b) ∨ ((∀ j, j < k → dn j = true → p j ≠ i) ∧ (z1 i).toInt = u i)) ∧ (∀ j, j ≤ nn → (z2 j).toInt = if j < k ∧ dn j = true then v j - b else v j) ∧ (∀ j, j ≤ nn → (z3 j).toInt = if j < k ∧ dn j = false then sl j - b else sl j)) ?_ N (nn + 1) x 0 b50 b51 b52 ⟨rfl, 0, nI_0.symm, by omega, fun i hi => Or.inr ⟨fun j h => absurd h (Nat.not_lt_zero j), hu i hi⟩, fun j hj => ?_, fun j hj => ?_⟩ (by omega)
  · rintro m nx x1 x3 z1 z2 z3 ⟨rfl, k, rfl, hm, hz1, hz2, hz3⟩ ih
    unfold f_X0_shiftPotentials_2
    refine ok_if (fun q => ?_) (fun q => ?_)
    · rw [nI_lti (by omega) (by omega)] at q
      refine ok_some ⟨fun i hi => ?_, fun j hj => ?_, fun j hj => ?_⟩
      · rcases hz1 i hi with ⟨j, h1, h2, h3, h4⟩ | ⟨h1, h2⟩
        · exact Or.inl ⟨j, by omega, h2, h3, h4⟩
        · exact Or.inr ⟨fun j hj => h1 j (by omega), h2⟩
      · rw [hz2 j hj]
        cases dn j
        · rw [if_neg (fun z => by have := z.2; exact absurd this (by decide)), if_neg (by decide)]
        · rw [if_pos ⟨by omega, rfl⟩, if_pos rfl]
      · rw [hz3 j hj]
        cases dn j
        · rw [if_pos ⟨by omega, rfl⟩, if_neg (by decide)]
        · rw [if_neg (fun z => by have := z.2; exact absurd this (by decide)), if_pos rfl]
    · rw [nI_lti (by omega) (by omega)] at q
      have hk : k ≤ nn := by omega
      have ck' : (nI k).toNatClampNeg = k := nI_c (by omega)
      have K : ∀ {ρ : Type} {o : Option ρ}, ck (nI k) (nn + 1) o = o := fun {ρ} {o} => ck_N (show k < nn + 1 by omega) (by omega)
      rw [K, ck', nI_s, hdn k hk]
      refine ok_if (fun y => ?_) (fun y => ?_)
      · have hdk : dn k = false := by
          cases hh : dn k with
          | true => rw [hh] at y; exact absurd y (by decide)
          | false => rfl
        rw [K, K]
        refine ok_nmd ?_
        refine ih (m - 1) _ _ _ _ _ (by omega) ⟨rfl, k + 1, rfl, by omega, fun i hi => ?_, fun j hj => ?_, fun j hj => ?_⟩
        · rcases hz1 i hi with ⟨j, h1, h2, h3, h4⟩ | ⟨h1, h2⟩
          · exact Or.inl ⟨j, by omega, h2, h3, h4⟩
          · refine Or.inr ⟨fun j hj hd => ?_, h2⟩
            by_cases e : j = k
            · subst e
              rw [hdk] at hd
              exact absurd hd (by decide)
            · exact h1 j (by omega) hd
        · rw [hz2 j hj]
          by_cases e : j = k
          · subst e
            rw [if_neg (fun z => by rw [hdk] at z; exact absurd z.2 (by decide)), if_neg (fun z => by rw [hdk] at z; exact absurd z.2 (by decide))]
          · by_cases c : j < k ∧ dn j = true
            · rw [if_pos c, if_pos ⟨by omega, c.2⟩]
            · rw [if_neg c, if_neg (fun z => c ⟨by omega, z.2⟩)]
        · by_cases e : j = k
          · subst e
            rw [pk_uLs, if_pos ⟨by omega, hdk⟩]
            have h1 := hz3 j hj
            rw [if_neg (fun z => Nat.lt_irrefl j z.1)] at h1
            have h2 := hsr j hj
            rw [i64_sub] <;> rw [h1, hb] <;> omega
          · rw [pk_uLn e, hz3 j hj]
            by_cases c : j < k ∧ dn j = false
            · rw [if_pos c, if_pos ⟨by omega, c.2⟩]
            · rw [if_neg c, if_neg (fun z => c ⟨by omega, z.2⟩)]
      · have hdk : dn k = true := by
          cases hh : dn k with
          | true => rfl
          | false => rw [hh] at y; exact absurd rfl y
        have hpk := hp k hk
        have cp : (nI (p k)).toNatClampNeg = p k := nI_c (by omega)
        have KP : ∀ {ρ : Type} {o : Option ρ}, ck (nI (p k)) (nn + 1) o = o := fun {ρ} {o} => ck_N (show p k < nn + 1 by omega) (by omega)
        rw [K, hpk.1, KP, KP, cp]
        refine ok_nmd ?_
        rw [K, K]
        refine ok_nmd ?_
        refine ih (m - 1) _ _ _ _ _ (by omega) ⟨rfl, k + 1, rfl, by omega, fun i hi => ?_, fun j hj => ?_, fun j hj => ?_⟩
        · by_cases e : i = p k
          · subst e
            refine Or.inl ⟨k, by omega, hdk, rfl, ?_⟩
            rw [pk_uLs]
            have h1 : (z1 (p k)).toInt = u (p k) := by
              rcases hz1 (p k) hi with ⟨j, j1, j2, j3, -⟩ | ⟨-, h2⟩
              · have := hinj j k (by omega) hk j2 hdk j3
                omega
              · exact h2
            have h2 := hur (p k) hi
            rw [i64_add] <;> rw [h1, hb] <;> omega
          · rw [pk_uLn e]
            rcases hz1 i hi with ⟨j, h1, h2, h3, h4⟩ | ⟨h1, h2⟩
            · exact Or.inl ⟨j, by omega, h2, h3, h4⟩
            · refine Or.inr ⟨fun j hj hd => ?_, h2⟩
              by_cases z : j = k
              · subst z
                exact fun t => e t.symm
              · exact h1 j (by omega) hd
        · by_cases e : j = k
          · subst e
            rw [pk_uLs, if_pos ⟨by omega, hdk⟩]
            have h1 := hz2 j hj
            rw [if_neg (fun z => Nat.lt_irrefl j z.1)] at h1
            have h2 := hvr j hj
            rw [i64_sub] <;> rw [h1, hb] <;> omega
          · rw [pk_uLn e, hz2 j hj]
            by_cases c : j < k ∧ dn j = true
            · rw [if_pos c, if_pos ⟨by omega, c.2⟩]
            · rw [if_neg c, if_neg (fun z => c ⟨by omega, z.2⟩)]
        · rw [hz3 j hj]
          by_cases e : j = k
          · subst e
            rw [if_neg (fun z => by rw [hdk] at z; exact absurd z.2 (by decide)), if_neg (fun z => by rw [hdk] at z; exact absurd z.2 (by decide))]
          · by_cases c : j < k ∧ dn j = false
            · rw [if_pos c, if_pos ⟨by omega, c.2⟩]
            · rw [if_neg c, if_neg (fun z => c ⟨by omega, z.2⟩)]
  · rw [hv j hj, if_neg (fun z => Nat.not_lt_zero j z.1)]
  · rw [hs j hj, if_neg (fun z => Nat.not_lt_zero j z.1)]
