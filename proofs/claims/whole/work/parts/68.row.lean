/-! ===== certificate: which row is meant ===== -/
def fc : Nat → Nat
  | 0 => 1
  | n + 1 => (n + 1) * fc n
theorem fc_pos : ∀ n, 1 ≤ fc n := by
  intro n
  induction n with
  | zero => exact Nat.le_refl 1
  | succ n ih => exact Nat.mul_pos (Nat.succ_pos n) ih
theorem fc_le : ∀ n, n ≤ 11 → fc n ≤ 39916800 := by decide
def dgt (nn P j : Nat) : Nat := P / fc (nn - 1 - j) % (nn - j)
/-- the places that are left before position i + 1, in their order, counted from 1 -/
def ee (nn P : Nat) : Nat → Nat → Nat
  | 0, k => k
  | i + 1, k => if k ≤ dgt nn P (i + 1) then ee nn P i k else ee nn P i (k + 1)
def rw_ (nn P j : Nat) : Nat := if j = 0 then 0 else ee nn P (j - 1) (dgt nn P j + 1)
theorem dgt_lt {nn P j : Nat} (h : j < nn) : dgt nn P j < nn - j := Nat.mod_lt _ (by omega)
theorem ee_ok {nn P : Nat} : ∀ i, i + 1 ≤ nn → (∀ k, 1 ≤ k → k ≤ nn - 1 - i → 1 ≤ ee nn P i k ∧ ee nn P i k ≤ nn - 1) ∧ ∀ k l, 1 ≤ k → k < l → l ≤ nn - 1 - i → ee nn P i k < ee nn P i l := by
  intro i
  induction i with
  | zero => intro h; exact ⟨fun k h1 h2 => ⟨h1, h2⟩, fun k l h1 h2 h3 => h2⟩
  | succ i ih =>
    intro h
    obtain ⟨a, b⟩ := ih (by omega)
    constructor
    · intro k h1 h2
      show 1 ≤ (if k ≤ dgt nn P (i + 1) then ee nn P i k else ee nn P i (k + 1)) ∧ (if k ≤ dgt nn P (i + 1) then ee nn P i k else ee nn P i (k + 1)) ≤ nn - 1
      split
      · exact a k h1 (by omega)
      · exact a (k + 1) (by omega) (by omega)
    · intro k l h1 h2 h3
      show (if k ≤ dgt nn P (i + 1) then ee nn P i k else ee nn P i (k + 1)) < (if l ≤ dgt nn P (i + 1) then ee nn P i l else ee nn P i (l + 1))
      split <;> split
      · exact b k l h1 h2 (by omega)
      · exact b k (l + 1) h1 (by omega) (by omega)
      · omega
      · exact b (k + 1) (l + 1) (by omega) (by omega) (by omega)
theorem ee_lo {nn P i k : Nat} (h : k ≤ dgt nn P (i + 1)) : ee nn P (i + 1) k = ee nn P i k := if_pos h
theorem ee_hi {nn P i k : Nat} (h : ¬ k ≤ dgt nn P (i + 1)) : ee nn P (i + 1) k = ee nn P i (k + 1) := if_neg h
/-- what is left later was left before -/
theorem ee_in {nn P : Nat} (i : Nat) : ∀ t, i + t + 1 ≤ nn → ∀ k, 1 ≤ k → k ≤ nn - 1 - (i + t) → ∃ l, 1 ≤ l ∧ l ≤ nn - 1 - i ∧ ee nn P (i + t) k = ee nn P i l := by
  intro t
  induction t with
  | zero => intro h k h1 h2; exact ⟨k, h1, h2, rfl⟩
  | succ t ih =>
    intro h k h1 h2
    by_cases c : k ≤ dgt nn P (i + t + 1)
    · obtain ⟨l, q1, q2, q3⟩ := ih (by omega) k h1 (by omega)
      exact ⟨l, q1, q2, (ee_lo c).trans q3⟩
    · obtain ⟨l, q1, q2, q3⟩ := ih (by omega) (k + 1) (by omega) (by omega)
      exact ⟨l, q1, q2, (ee_hi c).trans q3⟩
theorem rw_s {nn P i : Nat} : rw_ nn P (i + 1) = ee nn P i (dgt nn P (i + 1) + 1) := if_neg (by omega)
theorem rw_0 {nn P : Nat} : rw_ nn P 0 = 0 := if_pos rfl
theorem rw_pos {nn P i : Nat} (h : i + 1 < nn) : 1 ≤ rw_ nn P (i + 1) ∧ rw_ nn P (i + 1) < nn := by
  have d := dgt_lt (nn := nn) (P := P) h
  have := (ee_ok (nn := nn) (P := P) i (by omega)).1 (dgt nn P (i + 1) + 1) (by omega) (by omega)
  rw [rw_s]
  omega
theorem rw_lt {nn P j : Nat} (h : j < nn) : rw_ nn P j < nn := by
  cases j with
  | zero => rw [rw_0]; exact h
  | succ i => exact (rw_pos h).2
theorem rw_ne {nn P i j : Nat} (hij : i < j) (hj : j < nn) : rw_ nn P i ≠ rw_ nn P j := by
  cases j with
  | zero => omega
  | succ j =>
    cases i with
    | zero =>
      have := (rw_pos (nn := nn) (P := P) hj).1
      rw [rw_0]
      omega
    | succ i =>
      have dj := dgt_lt (nn := nn) (P := P) hj
      have di := dgt_lt (nn := nn) (P := P) (show i + 1 < nn by omega)
      obtain ⟨l, q1, q2, q3⟩ := ee_in (nn := nn) (P := P) (i + 1) (j - (i + 1)) (by omega) (dgt nn P (j + 1) + 1) (by omega) (by omega)
      rw [show i + 1 + (j - (i + 1)) = j by omega] at q3
      rw [rw_s, rw_s, q3]
      have mono := (ee_ok (nn := nn) (P := P) i (by omega)).2
      by_cases c : l ≤ dgt nn P (i + 1)
      · rw [ee_lo c]
        have := mono l (dgt nn P (i + 1) + 1) q1 (by omega) (by omega)
        omega
      · rw [ee_hi c]
        have := mono (dgt nn P (i + 1) + 1) (l + 1) (by omega) (by omega) (by omega)
        omega
theorem rw_inj {nn P i j : Nat} (hi : i < nn) (hj : j < nn) (e : rw_ nn P i = rw_ nn P j) : i = j := by
  by_cases c1 : i < j
  · exact absurd e (rw_ne c1 hj)
  · by_cases c2 : j < i
    · exact absurd e.symm (rw_ne c2 hi)
    · omega
theorem nI_ml {a b : Nat} (h : a * b < 2147483648) (ha : a < 2147483648) (hb : b < 2147483648) : nI a * nI b = nI (a * b) := by
  have e : ((a * b : Nat) : Int) = (a : Int) * (b : Int) := Int.natCast_mul a b
  rw [i32_eq, i32_mul] <;> rw [nI_i ha, nI_i hb]
  · rw [nI_i h, e]
  · omega
  · omega
theorem nI_rem {t k : Nat} (ht : t < 2147483648) (hk : k < 2147483648) : nI t - nI t / nI k * nI k = nI (t % k) := by
  have h1 : t / k * k ≤ t := Nat.div_mul_le_self t k
  have h2 : t / k ≤ t := Nat.div_le_self t k
  have h3 : t % k = t - t / k * k := by
    have := Nat.div_add_mod t k
    have e := Nat.mul_comm k (t / k)
    omega
  rw [nI_dv ht hk, nI_ml (by omega) (by omega) hk, pk_sub h1, h3]
theorem fc_s {nn j : Nat} (h : j + 1 < nn) : fc (nn - 1 - j) = (nn - 1 - j) * fc (nn - 1 - (j + 1)) := by
  obtain ⟨k, ek⟩ : ∃ k, nn - 1 - j = k + 1 := ⟨nn - 2 - j, by omega⟩
  rw [ek, show nn - 1 - (j + 1) = k by omega]
  rfl
theorem c_row {N nn P : Nat} {a33 : Nat → Int32} (hN : 100 ≤ N) (h3 : 3 ≤ nn) (h12 : nn ≤ 12) (hP : P < 2147483648) : Ok (fun a => ∀ j, j < nn → a j = nI (rw_ nn P j)) (f_X6_pickRow N nn a33 (nI P)) := by
  unfold f_X6_pickRow
  refine lq4_ok (fun m x2 x3 x4 a => nI nn = x2 ∧ x3 = nI (P / fc (nn - 1 - m)) ∧ x4 = nI m ∧ m + 1 ≤ nn ∧ ∀ j, m < j → j < nn → ∃ k, a j = nI k ∧ 1 ≤ k ∧ k ≤ nn - 1 - m ∧ ee nn P m k = rw_ nn P j) ?_ N (nn - 1) _ _ _ _ ⟨rfl, by rw [show nn - 1 - (nn - 1) = 0 by omega]; show nI P = nI (P / 1); rw [Nat.div_one], (show nI nn - nI 1 = nI (nn - 1) from pk_sub (by omega)), by omega, fun j hj1 hj2 => by omega⟩ (by omega)
  rintro m nx x2 x3 x4 a ⟨rfl, rfl, rfl, hm, ha⟩ ih
  unfold f_X6_pickRow_13
  refine ok_if (fun y => ?_) (fun y => ?_)
  · rw [one32, nI_lti (by omega) (by omega)] at y
    have em : m = 0 := by omega
    subst em
    rw [show (0 : Int32) = nI 0 from zero32, ck_N (show 0 < nn by omega) (by omega), nI_c (by omega)]
    refine ok_nmd (ok_some (fun j hj => ?_))
    by_cases e : j = 0
    · rw [e, pk_us, rw_0]
    · obtain ⟨k, e1, e2, e3, e4⟩ := ha j (by omega) hj
      rw [pk_un e, e1, ← e4]
      rfl
  rw [one32, nI_lti (by omega) (by omega)] at y
  obtain ⟨i, em⟩ : ∃ i, m = i + 1 := ⟨m - 1, by omega⟩
  subst em
  have d := dgt_lt (nn := nn) (P := P) (show i + 1 < nn by omega)
  have hb : nn - (i + 1) < 2147483648 := by omega
  have hQ : P / fc (nn - 1 - (i + 1)) < 2147483648 := Nat.lt_of_le_of_lt (Nat.div_le_self _ _) hP
  have n0 : ¬ nI (nn - (i + 1)) = (0 : Int32) := by
    rw [zero32, nI_eqi hb (by omega)]
    omega
  rw [pk_sub (show i + 1 ≤ nn by omega), nI_rem hQ hb, nI_dv hQ hb, ck_N (show i + 1 < nn by omega) (by omega), nI_c (show i + 1 < 2147483648 by omega)]
  refine ok_dv n0 (ok_nmd (ok_dv n0 ?_))
  have eD : (1 : Int32) + nI (P / fc (nn - 1 - (i + 1)) % (nn - (i + 1))) = nI (dgt nn P (i + 1) + 1) := by
    rw [Int32.add_comm, nI_s]; rfl
  have eQ : P / fc (nn - 1 - (i + 1)) / (nn - (i + 1)) = P / fc (nn - 1 - i) := by
    rw [Nat.div_div_eq_div_mul, fc_s (show i + 1 < nn by omega), Nat.mul_comm, show nn - (i + 1) = nn - 1 - i by omega]
  rw [eD, eQ, nI_s]
  refine lq5_ok (fun m2 x2 x3 x4 x6 a => ∃ t, nI nn = x2 ∧ nI (P / fc (nn - 1 - i)) = x3 ∧ nI (i + 1) = x4 ∧ x6 = nI t ∧ t + m2 = nn ∧ i + 1 < t ∧ a (i + 1) = nI (dgt nn P (i + 1) + 1) ∧ (∀ j, i + 1 < j → j < t → ∃ k, a j = nI k ∧ 1 ≤ k ∧ k ≤ nn - 1 - i ∧ ee nn P i k = rw_ nn P j) ∧ ∀ j, t ≤ j → j < nn → ∃ k, a j = nI k ∧ 1 ≤ k ∧ k ≤ nn - 1 - (i + 1) ∧ ee nn P (i + 1) k = rw_ nn P j) ?_ N (nn - (i + 2)) _ _ _ _ _ ⟨i + 2, rfl, rfl, rfl, rfl, by omega, by omega, pk_us, fun j h1 h2 => by omega, fun j h1 h2 => by rw [pk_un (by omega)]; exact ha j (by omega) h2⟩ (by omega)
  clear ha
  rintro m2 nx2 x2 x3 x4 x6 a ⟨t, rfl, rfl, rfl, rfl, hm2, hit, ha0, ha1, ha2⟩ ih2
  unfold f_X6_pickRow_49
  refine ok_if (fun y2 => ?_) (fun y2 => ?_)
  · rw [nI_lei (by omega) (by omega)] at y2
    have et : t = nn := by omega
    subst et
    have e1 : nI (i + 1) + (-1 : Int32) = nI i := by
      have := nI_s i
      rw [← this, Int32.add_assoc, show (1 : Int32) + (-1) = 0 by decide, Int32.add_zero]
    rw [e1]
    refine ih i _ _ _ _ (by omega) ⟨rfl, rfl, rfl, by omega, fun j h1 h2 => ?_⟩
    by_cases e : j = i + 1
    · rw [e]
      exact ⟨_, ha0, by omega, by omega, rw_s.symm⟩
    · exact ha1 j (by omega) h2
  rw [nI_lei (by omega) (by omega)] at y2
  obtain ⟨k, e1, e2, e3, e4⟩ := ha2 t (Nat.le_refl t) (by omega)
  rw [ck_N (show t < nn by omega) (by omega), ck_N (show i + 1 < nn by omega) (by omega), nI_c (show t < 2147483648 by omega), nI_c (show i + 1 < 2147483648 by omega), e1, ha0]
  refine ok_if (fun y3 => ?_) (fun y3 => ?_)
  · rw [nI_lti (by omega) (by omega)] at y3
    rw [nI_s]
    refine ih2 (m2 - 1) _ _ _ _ _ (by omega) ⟨t + 1, rfl, rfl, rfl, rfl, by omega, by omega, ha0, fun j h1 h2 => ?_, fun j h1 h2 => ha2 j (by omega) h2⟩
    by_cases e : j = t
    · rw [e]
      exact ⟨k, e1, e2, by omega, by rw [← e4, ee_lo (by omega)]⟩
    · exact ha1 j h1 (by omega)
  · rw [nI_lti (by omega) (by omega)] at y3
    rw [ck_N (show t < nn by omega) (by omega), ck_N (show t < nn by omega) (by omega), nI_s, nI_s]
    refine ok_nmd (ih2 (m2 - 1) _ _ _ _ _ (by omega) ⟨t + 1, rfl, rfl, rfl, rfl, by omega, by omega, by rw [pk_un (by omega)]; exact ha0, fun j h1 h2 => ?_, fun j h1 h2 => by rw [pk_un (by omega)]; exact ha2 j (by omega) h2⟩)
    by_cases e : j = t
    · rw [e, pk_us]
      exact ⟨k + 1, rfl, by omega, by omega, by rw [← e4, ee_hi (by omega)]⟩
    · rw [pk_un e]; exact ha1 j h1 (by omega)
/-- the position after -/
def nxt (nn i : Nat) : Nat := if i + 1 < nn then i + 1 else 0
theorem nxt_lt {nn i : Nat} (h : 1 ≤ nn) : nxt nn i < nn := by unfold nxt; split <;> omega
theorem c_length {N nn : Nat} {w : Nat → Nat → Int} {g0 : Nat → Nat → Int32} {a33 : Nat → Int32} {ρ : Nat → Nat} (hN : 100 ≤ N) (hw : WW nn w) (h0 : Cw nn w g0) (ha : ∀ j, j < nn → a33 j = nI (ρ j)) (hρ : ∀ j, j < nn → ρ j < nn) : Ok (fun r => (r = -1 ∧ ∃ i, i < nn ∧ w (ρ i) (ρ (nxt nn i)) = -1) ∨ ((∀ i, i < nn → w (ρ i) (ρ (nxt nn i)) ≠ -1) ∧ r.toInt = S1 nn (fun i => w (ρ i) (ρ (nxt nn i))) ∧ 0 ≤ r.toInt)) (f_X6_lengthOfRow N nn a33 g0) := by
  have h3 := hw.1
  have h12 := hw.2.1
  have wr : ∀ i j, i < nn → j < nn → -1 ≤ w (ρ i) (ρ j) ∧ w (ρ i) (ρ j) ≤ 1000000 := fun i j hi hj => hw.2.2.1 _ _ (hρ i hi) (hρ j hj)
  unfold f_X6_lengthOfRow
  refine lq3_ok (fun m x1 x2 x4 => ∃ t, nI nn = x1 ∧ x4 = nI t ∧ t + m = nn ∧ (∀ i, i < t → w (ρ i) (ρ (nxt nn i)) ≠ -1) ∧ x2.toInt = S1 t (fun i => w (ρ i) (ρ (nxt nn i)))) ?_ N nn _ _ _ ⟨0, rfl, zero32, by omega, fun i hi => absurd hi (Nat.not_lt_zero i), (show (0 : Int64).toInt = 0 by decide)⟩ (by omega)
  rintro m nx x1 x2 x4 ⟨t, rfl, rfl, hm, hall, hx⟩ ih
  unfold f_X6_lengthOfRow_11
  have nn1 : ∀ i, i < t → t ≤ nn → 0 ≤ w (ρ i) (ρ (nxt nn i)) ∧ w (ρ i) (ρ (nxt nn i)) ≤ 1000000 := fun i hi ht => by
    have a := hall i hi
    have b := wr i (nxt nn i) (by omega) (nxt_lt (by omega))
    omega
  have b1 : 0 ≤ S1 t (fun i => w (ρ i) (ρ (nxt nn i))) := S1_nonneg (fun i hi => (nn1 i hi (by omega)).1)
  have b2 := S1_bd (n := t) (f := fun i => w (ρ i) (ρ (nxt nn i))) (c := 1000000) (by omega) (by decide) (fun i hi => (nn1 i hi (by omega)).2)
  refine ok_if (fun y => ?_) (fun y => ?_)
  · rw [nI_lei (by omega) (by omega)] at y
    have et : t = nn := by omega
    subst et
    exact ok_some (Or.inr ⟨hall, hx, by omega⟩)
  rw [nI_lei (by omega) (by omega)] at y
  have ht : t < nn := by omega
  have fin : ∀ (g : Int32), g.toInt = w (ρ t) (ρ (nxt nn t)) → Ok (fun r => (r = -1 ∧ ∃ i, i < nn ∧ w (ρ i) (ρ (nxt nn i)) = -1) ∨ ((∀ i, i < nn → w (ρ i) (ρ (nxt nn i)) ≠ -1) ∧ r.toInt = S1 nn (fun i => w (ρ i) (ρ (nxt nn i))) ∧ 0 ≤ r.toInt)) (if g = (-1 : Int32) then some (-1 : Int64) else nx (nI nn) (x2 + g.toInt64) (nI t + 1)) := by
    intro g hg
    have wt := wr t (nxt nn t) ht (nxt_lt (by omega))
    refine ok_if (fun y2 => ?_) (fun y2 => ?_)
    · rw [i32_eq, hg, m1_toInt] at y2
      exact ok_some (Or.inl ⟨rfl, t, ht, y2⟩)
    · rw [i32_eq, hg, m1_toInt] at y2
      rw [nI_s]
      refine ih (m - 1) _ _ _ (by omega) ⟨t + 1, rfl, rfl, by omega, fun i hi => ?_, ?_⟩
      · by_cases e : i = t
        · rw [e]; exact y2
        · exact hall i (by omega)
      · show _ = S1 t (fun i => w (ρ i) (ρ (nxt nn i))) + w (ρ t) (ρ (nxt nn t))
        rw [i64_add] <;> rw [i64_of32, hg, hx] <;> omega
  have r0 := hρ 0 (by omega)
  have rt := hρ t ht
  rw [nI_s]
  refine ok_if (fun y2 => ?_) (fun y2 => ?_)
  · rw [nI_lei (by omega) (by omega)] at y2
    have en : nxt nn t = 0 := if_neg (by omega)
    rw [show (0 : Int32) = nI 0 from zero32, ck_N (show 0 < nn by omega) (by omega), ck_N ht (by omega), nI_c (show t < 2147483648 by omega), nI_c (show 0 < 2147483648 by omega), ha t ht, ha 0 (by omega), ck_N rt (by omega), ck_N r0 (by omega), nI_c (show ρ t < 2147483648 by omega), nI_c (show ρ 0 < 2147483648 by omega), ← nI_s]
    refine ok_nmd (fin _ ?_)
    rw [en]
    exact h0 _ _ rt r0
  · rw [nI_lei (by omega) (by omega)] at y2
    have en : nxt nn t = t + 1 := if_pos (by omega)
    have r1 := hρ (t + 1) (by omega)
    rw [ck_N (show t + 1 < nn by omega) (by omega), ck_N ht (by omega), nI_c (show t < 2147483648 by omega), nI_c (show t + 1 < 2147483648 by omega), ha t ht, ha (t + 1) (by omega), ck_N rt (by omega), ck_N r1 (by omega), nI_c (show ρ t < 2147483648 by omega), nI_c (show ρ (t + 1) < 2147483648 by omega), ← nI_s]
    refine ok_nmd (fin _ ?_)
    rw [en]
    exact h0 _ _ rt r1
