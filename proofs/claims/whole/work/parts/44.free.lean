/-! ===== findFreeColumn ===== -/
/-- R rows stand, the last of them at column 0: feasible potentials, tight pairs -/
def HP (nn : Nat) (w : Nat → Nat → Int) (R : Nat) (p : Nat → Nat) (u v : Nat → Int) : Prop :=
  (p 0 = R ∧ 1 ≤ R ∧ R ≤ nn) ∧ (∀ j, j ≤ nn → p j ≤ R) ∧ (∀ j k, j ≤ nn → k ≤ nn → p j = p k → p j ≠ 0 → j = k) ∧
  (∀ i j, 1 ≤ i → i ≤ R → 1 ≤ j → j ≤ nn → u i + v j ≤ cst w i j) ∧
  (∀ j, 1 ≤ j → j ≤ nn → p j ≠ 0 → u (p j) + v j = cst w (p j) j) ∧
  (∀ j, j ≤ nn → v j ≤ 0 ∧ -(((R : Int) - 1) * 100000000 + u R) ≤ v j) ∧
  (∀ j, 1 ≤ j → j ≤ nn → p j = 0 → v j = 0) ∧
  (∀ i, i ≤ nn → (i = 0 ∨ R < i) → u i = 0) ∧
  (∀ i, 1 ≤ i → i ≤ R → 0 ≤ u i ∧ u i ≤ ((R : Int) - 1) * 100000000 + u R) ∧
  (∃ f, 1 ≤ f ∧ f ≤ nn ∧ p f = 0)
theorem HP_top {nn : Nat} {w : Nat → Nat → Int} {R : Nat} {p : Nat → Nat} {u v : Nat → Int} (hw : WW nn w) (h : HP nn w R p u v) : 0 ≤ u R ∧ u R ≤ 100000000 := by
  obtain ⟨⟨h1, h2, h3⟩, -, -, h4, -, -, h7, -, h9, f, f1, f2, f3⟩ := h
  have a := h4 R f h2 (Nat.le_refl R) f1 f2
  have b := h7 f f1 f2 f3
  have c := cst_rng hw ⟨h2, h3⟩ ⟨f1, f2⟩
  have d := (h9 R h2 (Nat.le_refl R)).1
  omega
theorem HP_rng {nn : Nat} {w : Nat → Nat → Int} {R : Nat} {p : Nat → Nat} {u v : Nat → Int} (hw : WW nn w) (h : HP nn w R p u v) : (∀ i, i ≤ nn → 0 ≤ u i ∧ u i ≤ 1300000000) ∧ ∀ j, j ≤ nn → v j ≤ 0 ∧ -1300000000 ≤ v j := by
  have h12 := hw.2.1
  have top := HP_top hw h
  obtain ⟨⟨h1, h2, h3⟩, -, -, h4, -, h6, h7, h8, h9, -⟩ := h
  refine ⟨fun i hi => ?_, fun j hj => ?_⟩
  · by_cases q : i = 0 ∨ R < i
    · rw [h8 i hi q]
      omega
    · have := h9 i (by omega) (by omega)
      omega
  · have := h6 j hj
    omega
/-- t columns are done, column a is next -/
def LI (nn : Nat) (w : Nat → Nat → Int) (R : Nat) (p : Nat → Nat) (u v : Nat → Int) (t a : Nat) (dn : Nat → Bool) (bf : Nat → Nat) (sl : Nat → Int) (rk : Nat → Nat) : Prop :=
  HP nn w R p u v ∧ (a ≤ nn ∧ dn a = false) ∧ (∀ j, j ≤ nn → dn j = true → p j ≠ 0 ∧ rk j < t) ∧ S1 (nn + 1) (fun j => if dn j = true then 1 else 0) = (t : Int) ∧
  (∀ j, j ≤ nn → -2000000000000 ≤ sl j ∧ sl j ≤ 2000000000000) ∧ (∀ j, j ≤ nn → bf j ≤ nn) ∧
  (t = 0 → a = 0 ∧ ∀ j, j ≤ nn → sl j = 1000000000000 ∧ dn j = false) ∧
  (t ≠ 0 → dn 0 = true ∧ 1 ≤ a ∧ dn (bf a) = true ∧ u (p (bf a)) + v a = cst w (p (bf a)) a ∧ ∀ j, 1 ≤ j → j ≤ nn → dn j = false → (∀ k, k ≤ nn → dn k = true → sl j ≤ cst w (p k) j - u (p k) - v j) ∧ dn (bf j) = true ∧ sl j = cst w (p (bf j)) j - u (p (bf j)) - v j) ∧
  (∀ k, 1 ≤ k → k ≤ nn → dn k = true → dn (bf k) = true ∧ rk (bf k) < rk k ∧ u (p (bf k)) + v k = cst w (p (bf k)) k)
/-- what findFreeColumn gives -/
def FF (nn : Nat) (w : Nat → Nat → Int) (R : Nat) (p : Nat → Nat) (r : Int32 × (Nat → Int32) × (Nat → Int32) × (Nat → Int64) × (Nat → Int64) × (Nat → Int64)) : Prop :=
  ∃ (a t : Nat) (dn : Nat → Bool) (bf : Nat → Nat) (u v : Nat → Int) (rk : Nat → Nat), r.1 = nI a ∧ 1 ≤ a ∧ a ≤ nn ∧ p a = 0 ∧ t ≤ nn ∧ Ri nn bf r.2.1 ∧ Rl nn u r.2.2.2.1 ∧ Rl nn v r.2.2.2.2.1 ∧ HP nn w R p u v ∧ dn a = false ∧
    (∀ j, j ≤ nn → dn j = true → p j ≠ 0 ∧ rk j < t) ∧ dn (bf a) = true ∧ u (p (bf a)) + v a = cst w (p (bf a)) a ∧
    (∀ k, 1 ≤ k → k ≤ nn → dn k = true → dn (bf k) = true ∧ rk (bf k) < rk k ∧ u (p (bf k)) + v k = cst w (p (bf k)) k)
theorem LI_t {nn : Nat} {w : Nat → Nat → Int} {R : Nat} {p : Nat → Nat} {u v : Nat → Int} {t a : Nat} {dn : Nat → Bool} {bf : Nat → Nat} {sl : Nat → Int} {rk : Nat → Nat} (h : LI nn w R p u v t a dn bf sl rk) : t ≤ nn := by
  obtain ⟨hp, -, h2, h3, -⟩ := h
  obtain ⟨-, -, -, -, -, -, -, -, -, f, f1, f2, f3⟩ := hp
  have hf : dn f = false := by
    cases hh : dn f with
    | true => exact absurd f3 (h2 f f2 hh).1
    | false => rfl
  have : S1 (nn + 1) (fun j => if dn j = true then 1 else 0) ≤ S1 (nn + 1) (fun j => (1 : Int) - if j = f then 1 else 0) := by
    refine S1_le (fun j _ => ?_)
    by_cases e : j = f
    · subst e
      rw [hf, if_pos rfl]
      decide
    · rw [if_neg e]
      split <;> decide
  have one : ∀ n : Nat, S1 n (fun _ => (1 : Int)) = n := by
    intro n
    induction n with
    | zero => rfl
    | succ n ih =>
      show S1 n (fun _ => (1 : Int)) + 1 = _
      rw [ih, Int.natCast_add]; rfl
  rw [h3, S1_sub, S1_one, if_pos (by omega), one] at this
  omega
/-- the step: mark, lower, nearest, shift -/
theorem LI_step {nn : Nat} {w : Nat → Nat → Int} {R : Nat} {p : Nat → Nat} {u v : Nat → Int} {t a : Nat} {dn : Nat → Bool} {bf : Nat → Nat} {sl : Nat → Int} {rk : Nat → Nat} (hw : WW nn w) (h : LI nn w R p u v t a dn bf sl rk) (hpa : p a ≠ 0) {bf1 : Nat → Nat} {sl1 : Nat → Int}
    (hlow : ∀ j, j ≤ nn → if 1 ≤ j ∧ (if j = a then true else dn j) = false ∧ cst w (p a) j - u (p a) - v j < sl j then sl1 j = cst w (p a) j - u (p a) - v j ∧ bf1 j = a else sl1 j = sl j ∧ bf1 j = bf j)
    {n : Nat} (hn1 : 1 ≤ n) (hn2 : n ≤ nn) (hnd : (if n = a then true else dn n) = false) (hmin : ∀ k, 1 ≤ k → k ≤ nn → (if k = a then true else dn k) = false → sl1 n ≤ sl1 k)
    {u1 v1 sl2 : Nat → Int} (hu1 : ∀ i, i ≤ nn → (∃ j, j ≤ nn ∧ (if j = a then true else dn j) = true ∧ p j = i ∧ u1 i = u i + sl1 n) ∨ ((∀ j, j ≤ nn → (if j = a then true else dn j) = true → p j ≠ i) ∧ u1 i = u i))
    (hv1 : ∀ j, j ≤ nn → v1 j = if (if j = a then true else dn j) = true then v j - sl1 n else v j)
    (hs2 : ∀ j, j ≤ nn → sl2 j = if (if j = a then true else dn j) = true then sl1 j else sl1 j - sl1 n) :
    (0 ≤ sl1 n ∧ sl1 n ≤ 100000000) ∧ LI nn w R p u1 v1 (t + 1) n (fun j => if j = a then true else dn j) bf1 sl2 (fun j => if j = a then t else rk j) := by
  have h12 := hw.2.1
  have rng := HP_rng hw h.1
  have top := HP_top hw h.1
  obtain ⟨hp, ⟨ha, hda⟩, l2, l3, l4, lb, l5, l6, l7⟩ := h
  obtain ⟨⟨p1, p2, p3⟩, q2, q3, q4, q5, q6, q7, q8, q9, f, f1, f2, f3⟩ := id hp
  -- done now
  have D0 : ∀ j, dn j = true → (if j = a then true else dn j) = true := fun j hj => by
    split
    · rfl
    · exact hj
  have Da : (if a = a then true else dn a) = true := if_pos rfl
  have Dn : ∀ j, (if j = a then true else dn j) = true → j = a ∨ dn j = true := fun j hj => by
    by_cases e : j = a
    · exact Or.inl e
    · rw [if_neg e] at hj
      exact Or.inr hj
  have Df : ∀ j, (if j = a then true else dn j) = false → j ≠ a ∧ dn j = false := fun j hj => by
    by_cases e : j = a
    · rw [if_pos e] at hj
      exact absurd hj (by decide)
    · rw [if_neg e] at hj
      exact ⟨e, hj⟩
  have pnz : ∀ j, j ≤ nn → (if j = a then true else dn j) = true → p j ≠ 0 := fun j hj hd => by
    rcases Dn j hd with rfl | q
    · exact hpa
    · exact (l2 j hj q).1
  have D00 : (if 0 = a then true else dn 0) = true := by
    by_cases e : t = 0
    · rw [if_pos (l5 e).1.symm]
    · exact D0 0 (l6 e).1
  have pr1 : ∀ j, j ≤ nn → p j ≠ 0 → 1 ≤ p j ∧ p j ≤ R ∧ p j ≤ nn := fun j hj h0 => ⟨by omega, q2 j hj, by have := q2 j hj; omega⟩
  -- what is lowered
  have low : ∀ j, 1 ≤ j → j ≤ nn → (if j = a then true else dn j) = false → (∀ k, k ≤ nn → (if k = a then true else dn k) = true → sl1 j ≤ cst w (p k) j - u (p k) - v j) ∧ (if bf1 j = a then true else dn (bf1 j)) = true ∧ bf1 j ≤ nn ∧ sl1 j = cst w (p (bf1 j)) j - u (p (bf1 j)) - v j := by
    intro j j1 j2 jd
    have hl := hlow j j2
    have hla := pr1 a ha hpa
    have ca := cst_rng hw ⟨hla.1, hla.2.2⟩ ⟨j1, j2⟩
    have ua := rng.1 (p a) hla.2.2
    have va := rng.2 j j2
    by_cases c : cst w (p a) j - u (p a) - v j < sl j
    · rw [if_pos ⟨j1, jd, c⟩] at hl
      refine ⟨fun k hk hd => ?_, ?_, ?_, ?_⟩
      · rw [hl.1]
        rcases Dn k hd with rfl | q
        · exact Int.le_refl _
        · have e : t ≠ 0 := fun e => by
            rw [((l5 e).2 k hk).2] at q
            exact absurd q (by decide)
          have := ((l6 e).2.2.2.2 j j1 j2 (Df j jd).2).1 k hk q
          omega
      · rw [hl.2]
        exact Da
      · rw [hl.2]
        exact ha
      · rw [hl.2]
        exact hl.1
    · rw [if_neg (fun z => c z.2.2)] at hl
      have e : t ≠ 0 := fun e => by
        have := ((l5 e).2 j j2).1
        omega
      have old := (l6 e).2.2.2.2 j j1 j2 (Df j jd).2
      have bn : bf j ≤ nn := lb j j2
      exact ⟨fun k hk hd => by
        rw [hl.1]
        rcases Dn k hd with rfl | q
        · omega
        · exact old.1 k hk q, by rw [hl.2]; exact D0 _ old.2.1, by rw [hl.2]; exact bn, by rw [hl.1, hl.2]; exact old.2.2⟩
  -- the shift is small
  obtain ⟨n1, n2⟩ := Df n hnd
  have lown := low n hn1 hn2 hnd
  have by0 : 0 ≤ sl1 n := by
    have hb := pnz (bf1 n) lown.2.2.1 lown.2.1
    have hbr := pr1 (bf1 n) lown.2.2.1 hb
    have := q4 (p (bf1 n)) n hbr.1 hbr.2.1 hn1 hn2
    rw [lown.2.2.2]
    omega
  have hfd : (if f = a then true else dn f) = false := by
    have e : f ≠ a := fun e => hpa (by rw [← e]; exact f3)
    rw [if_neg e]
    cases hh : dn f with
    | true => exact absurd f3 (l2 f f2 hh).1
    | false => rfl
  have byT : sl1 n + u R ≤ 100000000 := by
    have h1 := hmin f f1 f2 hfd
    have h2 := (low f f1 f2 hfd).1 0 (Nat.zero_le nn) D00
    have h3 := q7 f f1 f2 f3
    have h4 := cst_rng hw ⟨p2, p3⟩ ⟨f1, f2⟩
    rw [p1] at h2
    omega
  have uR : u1 R = u R + sl1 n := by
    rcases hu1 R p3 with ⟨j, j1, j2, j3, j4⟩ | ⟨j1, -⟩
    · exact j4
    · exact absurd p1 (j1 0 (Nat.zero_le nn) D00)
  have ud : ∀ j, j ≤ nn → (if j = a then true else dn j) = true → u1 (p j) = u (p j) + sl1 n := by
    intro j hj hd
    rcases hu1 (p j) (pr1 j hj (pnz j hj hd)).2.2 with ⟨k, k1, k2, k3, k4⟩ | ⟨k1, -⟩
    · exact k4
    · exact absurd rfl (k1 j hj hd)
  have uo : ∀ j, j ≤ nn → (if j = a then true else dn j) = false → p j ≠ 0 → u1 (p j) = u (p j) := by
    intro j hj hd h0
    rcases hu1 (p j) (pr1 j hj h0).2.2 with ⟨k, k1, k2, k3, -⟩ | ⟨-, k2⟩
    · have := q3 k j k1 hj k3 (by rw [k3]; exact h0)
      subst this
      rw [hd] at k2
      exact absurd k2 (by decide)
    · exact k2
  have uge : ∀ i, i ≤ nn → u i ≤ u1 i ∧ u1 i ≤ u i + sl1 n := by
    intro i hi
    rcases hu1 i hi with ⟨k, k1, k2, k3, k4⟩ | ⟨k1, k2⟩ <;> omega
  have vd : ∀ j, j ≤ nn → (if j = a then true else dn j) = true → v1 j = v j - sl1 n := fun j hj hd => by
    rw [hv1 j hj, if_pos hd]
  have vo : ∀ j, j ≤ nn → (if j = a then true else dn j) = false → v1 j = v j := fun j hj hd => by
    rw [hv1 j hj, hd, if_neg (by decide)]
  have bdone : ∀ k, 1 ≤ k → k ≤ nn → (if k = a then true else dn k) = true → bf1 k = bf k ∧ sl1 k = sl k := by
    intro k k1 k2 kd
    have hl := hlow k k2
    rw [if_neg (fun z => by rw [kd] at z; exact absurd z.2.1 (by decide))] at hl
    exact ⟨hl.2, hl.1⟩
  have b0 : bf1 0 = bf 0 ∧ sl1 0 = sl 0 := by
    have hl := hlow 0 (Nat.zero_le nn)
    rw [if_neg (fun z => by omega)] at hl
    exact ⟨hl.2, hl.1⟩
  have tdone : ∀ k, 1 ≤ k → k ≤ nn → (if k = a then true else dn k) = true → (if bf1 k = a then true else dn (bf1 k)) = true ∧ (if bf1 k = a then t else rk (bf1 k)) < (if k = a then t else rk k) ∧ u (p (bf1 k)) + v k = cst w (p (bf1 k)) k := by
    intro k k1 k2 kd
    rw [(bdone k k1 k2 kd).1]
    by_cases e : k = a
    · subst e
      have et : t ≠ 0 := fun e => by
        have := (l5 e).1
        omega
      have o := l6 et
      have ne : bf k ≠ k := fun z => by
        rw [z, hda] at o
        exact absurd o.2.2.1 (by decide)
      rw [if_neg ne, if_neg ne, if_pos rfl]
      exact ⟨o.2.2.1, (l2 (bf k) (lb k k2) o.2.2.1).2, o.2.2.2.1⟩
    · have kdn : dn k = true := by
        rcases Dn k kd with z | z
        · exact absurd z e
        · exact z
      have o := l7 k k1 k2 kdn
      have ne : bf k ≠ a := fun z => by
        rw [z, hda] at o
        exact absurd o.1 (by decide)
      rw [if_neg ne, if_neg ne, if_neg e]
      exact o
  refine ⟨⟨by0, by omega⟩, ⟨⟨p1, p2, p3⟩, q2, q3, fun i j i1 i2 j1 j2 => ?_, fun j j1 j2 j3 => ?_, fun j hj => ?_, fun j j1 j2 j3 => ?_, fun i i1 i2 => ?_, fun i i1 i2 => ?_, f, f1, f2, f3⟩, ⟨hn2, hnd⟩, fun j hj hd => ⟨pnz j hj hd, ?_⟩, ?_, fun j hj => ?_, fun j hj => ?_, fun e => ?_, fun _ => ⟨D00, hn1, lown.2.1, ?_, fun j j1 j2 jd => ⟨fun k hk kd => ?_, (low j j1 j2 jd).2.1, ?_⟩⟩, fun k k1 k2 kd => ⟨(tdone k k1 k2 kd).1, (tdone k k1 k2 kd).2.1, ?_⟩⟩
  · -- feasible
    have old := q4 i j i1 i2 j1 j2
    have hi := uge i (by omega)
    cases hd : (if j = a then true else dn j) with
    | true =>
      rw [vd j j2 hd]
      omega
    | false =>
      rw [vo j j2 hd]
      rcases hu1 i (by omega) with ⟨k, k1, k2, k3, k4⟩ | ⟨k1, k2⟩
      · have h1 := (low j j1 j2 hd).1 k k1 k2
        have h2 := hmin j j1 j2 hd
        rw [k3] at h1
        omega
      · omega
  · have old := q5 j j1 j2 j3
    cases hd : (if j = a then true else dn j) with
    | true =>
      rw [vd j j2 hd, ud j j2 hd]
      omega
    | false =>
      rw [vo j j2 hd, uo j j2 hd j3]
      exact old
  · have old := q6 j hj
    rw [uR]
    cases hd : (if j = a then true else dn j) with
    | true =>
      rw [vd j hj hd]
      omega
    | false =>
      rw [vo j hj hd]
      omega
  · have hd : (if j = a then true else dn j) = false := by
      cases hd : (if j = a then true else dn j) with
      | true => exact absurd j3 (pnz j j2 hd)
      | false => rfl
    rw [vo j j2 hd]
    exact q7 j j1 j2 j3
  · rcases hu1 i i1 with ⟨k, k1, k2, k3, k4⟩ | ⟨k1, k2⟩
    · have := pr1 k k1 (pnz k k1 k2)
      omega
    · rw [k2]
      exact q8 i i1 i2
  · have old := q9 i i1 i2
    have hi := uge i (by omega)
    rw [uR]
    omega
  · show (if j = a then t else rk j) < t + 1
    by_cases e : j = a
    · rw [if_pos e]
      omega
    · rw [if_neg e]
      rcases Dn j hd with z | z
      · exact absurd z e
      · have := (l2 j hj z).2
        omega
  · rw [S1_congr (g := fun j => (if dn j = true then 1 else 0) + if j = a then 1 else 0), S1_upd (by omega), l3]
    · omega
    · intro j _
      by_cases e : j = a
      · subst e
        simp [hda]
      · simp [e]
  · rw [hs2 j hj]
    cases hd : (if j = a then true else dn j) with
    | true =>
      rw [if_pos rfl]
      by_cases j0 : 1 ≤ j
      · rw [(bdone j j0 hj hd).2]
        exact l4 j hj
      · rw [show j = 0 by omega, b0.2]
        exact l4 0 (Nat.zero_le nn)
    | false =>
      rw [if_neg (by decide)]
      have j0 : 1 ≤ j := by
        apply Classical.byContradiction
        intro z
        rw [show j = 0 by omega, D00] at hd
        exact absurd hd (by decide)
      have lj := low j j0 hj hd
      have hb := pr1 (bf1 j) lj.2.2.1 (pnz (bf1 j) lj.2.2.1 lj.2.1)
      have c1 := cst_rng hw ⟨hb.1, hb.2.2⟩ ⟨j0, hj⟩
      have c2 := rng.1 (p (bf1 j)) hb.2.2
      have c3 := rng.2 j hj
      rw [lj.2.2.2]
      omega
  · have hl := hlow j hj
    by_cases c : 1 ≤ j ∧ (if j = a then true else dn j) = false ∧ cst w (p a) j - u (p a) - v j < sl j
    · rw [if_pos c] at hl
      rw [hl.2]
      exact ha
    · rw [if_neg c] at hl
      rw [hl.2]
      exact lb j hj
  · omega
  · rw [ud (bf1 n) lown.2.2.1 lown.2.1, vo n hn2 hnd]
    have := lown.2.2.2
    omega
  · have jd : (if j = a then true else dn j) = false := jd
    rw [hs2 j j2, jd, if_neg (by decide), ud k hk kd, vo j j2 jd]
    have := (low j j1 j2 jd).1 k hk kd
    omega
  · have jd : (if j = a then true else dn j) = false := jd
    rw [hs2 j j2, jd, if_neg (by decide), ud (bf1 j) (low j j1 j2 jd).2.2.1 (low j j1 j2 jd).2.1, vo j j2 jd]
    have := (low j j1 j2 jd).2.2.2
    omega
  · have hb : bf1 k ≤ nn := by
      rw [(bdone k k1 k2 kd).1]
      exact lb k k2
    rw [ud (bf1 k) hb (tdone k k1 k2 kd).1, vd k k2 kd]
    have := (tdone k k1 k2 kd).2.2
    omega
theorem c_free {N nn : Nat} {w : Nat → Nat → Int} {g0 : Nat → Nat → Int32} {R : Nat} {p : Nat → Nat} {u v : Nat → Int} {a23 a24 a25 : Nat → Int32} {b50 b51 b52 : Nat → Int64} (hN : 100 ≤ N) (hw : WW nn w) (h0 : Cw nn w g0) (hp : Ri nn p a23) (hH : HP nn w R p u v) (hu : Rl nn u b50) (hv : Rl nn v b51) : Ok (FF nn w R p) (f_X0_findFreeColumn N nn (nI nn) a23 g0 a24 a25 b50 b51 b52) := by
  have h12 := hw.2.1
  unfold f_X0_findFreeColumn
  refine lq6_ok (fun m x1 z1 z2 z3 z4 z5 => b50 = z3 ∧ b51 = z4 ∧ ∃ i, x1 = nI i ∧ i + m = nn + 1 ∧ ∀ j, j < i → z1 j = 0 ∧ z2 j = 0 ∧ z5 j = 1000000000000) ?_ N (nn + 1) 0 a24 a25 b50 b51 b52 ⟨rfl, rfl, 0, nI_0.symm, by omega, fun j h => absurd h (Nat.not_lt_zero j)⟩ (by omega)
  rintro m nx x1 z1 z2 z3 z4 z5 ⟨rfl, rfl, i, rfl, hm, hz⟩ ih
  unfold f_X0_findFreeColumn_2
  refine ok_if (fun q => ?_) (fun q => ?_)
  · rw [nI_lti (by omega) (by omega)] at q
    clear ih
    refine lq7_ok (fun m x1 x2 y1 y2 y3 y4 y5 => ∃ (t a : Nat) (dn : Nat → Bool) (bf : Nat → Nat) (u v sl : Nat → Int) (rk : Nat → Nat), x1 = nI a ∧ x2 = nI t ∧ t + m = nn + 1 ∧ Ri nn bf y1 ∧ Rb nn dn y2 ∧ Rl nn u y3 ∧ Rl nn v y4 ∧ Rl nn sl y5 ∧ LI nn w R p u v t a dn bf sl rk) ?_ N (nn + 1) 0 0 z1 z2 b50 b51 z5 ⟨0, 0, fun _ => false, fun _ => 0, u, v, fun _ => 1000000000000, fun _ => 0, nI_0.symm, nI_0.symm, by omega, fun j hj => ⟨(hz j (by omega)).1, Nat.zero_le nn⟩, fun j hj => (hz j (by omega)).2.1, hu, hv, fun j hj => ?_, hH, ⟨by omega, rfl⟩, fun j _ h => absurd (show false = true from h) (by decide), S1_zero _, fun j _ => (show (-2000000000000 : Int) ≤ 1000000000000 ∧ (1000000000000 : Int) ≤ 2000000000000 by decide), fun j _ => Nat.zero_le nn, fun _ => ⟨rfl, fun j _ => ⟨rfl, rfl⟩⟩, fun h => absurd rfl h, fun k _ _ h => absurd (show false = true from h) (by decide)⟩ (by omega)
    · rintro m nx x1 x2 y1 y2 y3 y4 y5 ⟨t, a, dn, bf, u, v, sl, rk, rfl, rfl, hm, hbf, hdn, hu, hv, hs, hL⟩ ih
      have ht := LI_t hL
      have rng := HP_rng hw hL.1
      have han := hL.2.1.1
      have ca : (nI a).toNatClampNeg = a := nI_c (by omega)
      have hpa := hp a han
      unfold f_X0_findFreeColumn_46
      refine ok_if (fun q => ?_) (fun q => ?_)
      · rw [nI_lti (by omega) (by omega)] at q
        omega
      · rw [ck_N (show a < nn + 1 by omega) (by omega), ca, hpa.1]
        refine ok_if (fun z => ?_) (fun z => ?_)
        · rw [zero32, nI_eqi (by omega) (by omega)] at z
          have et : t ≠ 0 := fun e => by
            have h1 := (hL.2.2.2.2.2.2.1 e).1
            have h2 := hL.1.1
            rw [h1] at z
            omega
          have o := hL.2.2.2.2.2.2.2.1 et
          exact ok_some ⟨a, t, dn, bf, u, v, rk, rfl, o.2.1, han, z, ht, hbf, hu, hv, hL.1, hL.2.1.2, hL.2.2.1, o.2.2.1, o.2.2.2.1, hL.2.2.2.2.2.2.2.2⟩
        · rw [zero32, nI_eqi (by omega) (by omega)] at z
          rw [ck_N (show a < nn + 1 by omega) (by omega), nar1]
          refine ok_nmd ?_
          have hdn1 : Rb nn (fun j => if j = a then true else dn j) (upd y2 a 1) := fun j hj => by
            by_cases e : j = a
            · subst e
              rw [pk_us]
              simp
            · rw [pk_un e, hdn j hj]
              simp [e]
          refine ok_bd (c_lower (a24 := y1) hN hw h0 hp hdn1 hu hv hs (fun i hi => by have := rng.1 i hi; omega) (fun j hj => by have := rng.2 j hj; omega) han (by omega)) (fun r1 hr1 => ?_)
          -- the lowered rows as numbers
          obtain ⟨bf1, sl1, hbf1, hs1, hlow⟩ : ∃ (bf1 : Nat → Nat) (sl1 : Nat → Int), Ri nn bf1 r1.1 ∧ Rl nn sl1 r1.2 ∧ ∀ j, j ≤ nn → if 1 ≤ j ∧ (if j = a then true else dn j) = false ∧ cst w (p a) j - u (p a) - v j < sl j then sl1 j = cst w (p a) j - u (p a) - v j ∧ bf1 j = a else sl1 j = sl j ∧ bf1 j = bf j := by
            refine ⟨fun j => if 1 ≤ j ∧ (if j = a then true else dn j) = false ∧ cst w (p a) j - u (p a) - v j < sl j then a else bf j, fun j => if 1 ≤ j ∧ (if j = a then true else dn j) = false ∧ cst w (p a) j - u (p a) - v j < sl j then cst w (p a) j - u (p a) - v j else sl j, fun j hj => ?_, fun j hj => ?_, fun j hj => ?_⟩
            · have h1 := hr1 j hj
              by_cases c : 1 ≤ j ∧ (if j = a then true else dn j) = false ∧ cst w (p a) j - u (p a) - v j < sl j
              · rw [if_pos c] at h1
                simp only [if_pos c]
                exact ⟨h1.2, han⟩
              · rw [if_neg c] at h1
                simp only [if_neg c]
                rw [h1.2]
                exact hbf j hj
            · have h1 := hr1 j hj
              by_cases c : 1 ≤ j ∧ (if j = a then true else dn j) = false ∧ cst w (p a) j - u (p a) - v j < sl j
              · rw [if_pos c] at h1
                simp only [if_pos c]
                exact h1.1
              · rw [if_neg c] at h1
                simp only [if_neg c]
                rw [h1.1]
                exact hs j hj
            · by_cases c : 1 ≤ j ∧ (if j = a then true else dn j) = false ∧ cst w (p a) j - u (p a) - v j < sl j
              · simp only [if_pos c]
                exact ⟨trivial, trivial⟩
              · simp only [if_neg c]
                exact ⟨trivial, trivial⟩
          refine ok_bd (c_nearest hN h12 hdn1 hs1) (fun x hx => ?_)
          rcases hx with ⟨-, hall⟩ | ⟨n, rfl, hn1, hn2, hnd, hmin⟩
          · exfalso
            obtain ⟨f, f1, f2, f3⟩ := hL.1.2.2.2.2.2.2.2.2.2
            have := hall f f1 f2
            by_cases e : f = a
            · exact z (by rw [← e]; exact f3)
            · rw [if_neg e] at this
              exact (hL.2.2.1 f f2 this).1 f3
          · have cn : (nI n).toNatClampNeg = n := nI_c (by omega)
            rw [ck_N (show n < nn + 1 by omega) (by omega), cn]
            -- the shift
            have slr : ∀ j, j ≤ nn → -2000000000000 ≤ sl1 j ∧ sl1 j ≤ 2000000000000 := fun j hj => by
              have h1 := hlow j hj
              have h2 := hL.2.2.2.2.1 j hj
              by_cases c : 1 ≤ j ∧ (if j = a then true else dn j) = false ∧ cst w (p a) j - u (p a) - v j < sl j
              · rw [if_pos c] at h1
                have c1 := cst_rng hw (show 1 ≤ p a ∧ p a ≤ nn by omega) ⟨c.1, hj⟩
                have c2 := rng.1 (p a) hpa.2
                have c3 := rng.2 j hj
                omega
              · rw [if_neg c] at h1
                omega
            have small : 0 ≤ sl1 n ∧ sl1 n ≤ 100000000 := (LI_step hw hL z hlow hn1 hn2 hnd hmin (u1 := fun i => if ∃ j, j ≤ nn ∧ (if j = a then true else dn j) = true ∧ p j = i then u i + sl1 n else u i) (v1 := fun j => if (if j = a then true else dn j) = true then v j - sl1 n else v j) (sl2 := fun j => if (if j = a then true else dn j) = true then sl1 j else sl1 j - sl1 n) (fun i hi => by
              by_cases c : ∃ j, j ≤ nn ∧ (if j = a then true else dn j) = true ∧ p j = i
              · obtain ⟨j, j1, j2, j3⟩ := id c
                exact Or.inl ⟨j, j1, j2, j3, if_pos c⟩
              · exact Or.inr ⟨fun j j1 j2 j3 => c ⟨j, j1, j2, j3⟩, if_neg c⟩) (fun j _ => rfl) (fun j _ => rfl)).1
            have hinj : ∀ j k, j ≤ nn → k ≤ nn → (if j = a then true else dn j) = true → (if k = a then true else dn k) = true → p j = p k → j = k := fun j k hj hk hd _ e => by
              refine hL.1.2.2.1 j k hj hk e ?_
              by_cases q : j = a
              · rw [q]; exact z
              · rw [if_neg q] at hd
                exact (hL.2.2.1 j hj hd).1
            refine ok_bd (c_shift hN h12 hp hdn1 hu hv hs1 (fun i hi => by have := rng.1 i hi; omega) (fun j hj => by have := rng.2 j hj; omega) slr hinj (hs1 n hn2) (by omega)) (fun r2 hr2 => ?_)
            obtain ⟨s1, s2, s3⟩ := hr2
            have st := (LI_step hw hL z hlow hn1 hn2 hnd hmin (u1 := fun i => (r2.1 i).toInt) (v1 := fun j => (r2.2.1 j).toInt) (sl2 := fun j => (r2.2.2 j).toInt) s1 s2 s3).2
            rw [nI_s]
            exact ih (m - 1) _ _ _ _ _ _ _ (by omega) ⟨t + 1, n, _, bf1, _, _, _, _, rfl, rfl, by omega, hbf1, hdn1, fun _ _ => rfl, fun _ _ => rfl, fun _ _ => rfl, st⟩
    · rw [(hz j (by omega)).2.2]
      exact far_toInt
  · rw [nI_lti (by omega) (by omega)] at q
    have hi : i < nn + 1 := by omega
    have ci : (nI i).toNatClampNeg = i := nI_c (by omega)
    simp only [ck_N hi (show nn + 1 < 2147483648 by omega), nmd, ci, nI_s, nar0]
    refine ih (m - 1) _ _ _ _ _ _ (by omega) ⟨rfl, rfl, i + 1, rfl, by omega, fun j hj => ?_⟩
    by_cases e : j = i
    · subst e
      rw [pk_us, pk_us, pk_uLs]
      exact ⟨rfl, rfl, rfl⟩
    · rw [pk_un e, pk_un e, pk_uLn e]
      exact hz j (by omega)
