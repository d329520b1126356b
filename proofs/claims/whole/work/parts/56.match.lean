/-! ===== the class's pairs: least sums over even sets of odd places ===== -/
def wo (s p : Nat) : Nat := (s &&& (2 ^ lo 12 s ^^^ 4294967295)) &&& (2 ^ p ^^^ 4294967295)
theorem bt_not {a k : Nat} (hk : k < 32) : bt (2 ^ a ^^^ 4294967295) k = !decide (a = k) := by
  unfold bt
  rw [Nat.testBit_xor, Nat.testBit_two_pow, show (4294967295 : Nat) = 2 ^ 32 - 1 by decide, Nat.testBit_two_pow_sub_one, decide_eq_true hk]
  cases decide (a = k) <;> rfl
theorem bt_wo {s p k : Nat} (hk : k < 32) : bt (wo s p) k = true ↔ bt s k = true ∧ k ≠ lo 12 s ∧ k ≠ p := by
  unfold wo
  rw [bt_and, bt_and, bt_not hk, bt_not hk, Bool.and_eq_true, Bool.and_eq_true, Bool.not_eq_true', Bool.not_eq_true', decide_eq_false_iff_not, decide_eq_false_iff_not]
  constructor
  · rintro ⟨⟨h1, h2⟩, h3⟩
    exact ⟨h1, fun e => h2 e.symm, fun e => h3 e.symm⟩
  · rintro ⟨h1, h2, h3⟩
    exact ⟨⟨h1, fun e => h2 e.symm⟩, fun e => h3 e.symm⟩
theorem wo_le (s p : Nat) : wo s p ≤ s := Nat.le_trans Nat.and_le_left Nat.and_le_left
theorem bt_lt {s k n : Nat} (hs : s < 2 ^ n) (h : bt s k = true) : k < n := Nat.lt_of_not_le (fun hle => by
  have h1 : 2 ^ n ≤ 2 ^ k := Nat.pow_le_pow_right (by omega) hle
  unfold bt at h
  rw [Nat.testBit_lt_two_pow (by omega)] at h
  exact absurd h (by decide))
theorem bt_ff {b : Bool} (h : ¬ b = true) : b = false := by
  cases b with
  | true => exact absurd rfl h
  | false => rfl
theorem bool_eq {a b : Bool} (h : a = true ↔ b = true) : a = b := by
  cases a with
  | true => exact (h.mp rfl).symm
  | false =>
    cases b with
    | true => exact h.mpr rfl
    | false => rfl
theorem c_first {s : Nat} (hs : s < 4096) (h0 : s ≠ 0) : f_X4_firstOf (nI s) = some (nI (lo 12 s)) := by
  unfold f_X4_firstOf
  rw [c_ntz s hs, if_neg h0]
  rfl
theorem c_without {s p : Nat} (hs : s < 4096) (h0 : s ≠ 0) (hp : p < 12) : f_X4_without (nI s) (nI p) = some (nI (wo s p)) := by
  have := (lo_12 (nn := 12) (Nat.le_refl 12) hs h0).2.2
  unfold f_X4_without
  rw [c_first hs h0]
  show some _ = _
  rw [b_pow (by omega), b_pow (by omega), show (-1 : Int32) = nI 4294967295 by decide, b_xor, b_xor, b_and, b_and]
  rfl
theorem pc_pcn (s : Nat) : ∀ n, (pc n s : Int) = pcn n s := by
  intro n
  induction n with
  | zero => rfl
  | succ n ih =>
    show ((pc n s + (if bt s n = true then 1 else 0) : Nat) : Int) = pcn n s + (if bt s n = true then 1 else 0)
    rw [Int.natCast_add, ih]
    split <;> rfl
theorem wo_or {s p : Nat} (hs : s < 4096) (h0 : s ≠ 0) (hp : bt s p = true) (hpl : p ≠ lo 12 s) : pc 12 (wo s p) + 2 = pc 12 s ∧ wo s p < s := by
  have h12 : s < 2 ^ 12 := hs
  obtain ⟨l1, l2, l3⟩ := lo_12 (nn := 12) (Nat.le_refl 12) h12 h0
  have hp12 := bt_lt h12 hp
  have hwl : wo s p < 2 ^ 12 := Nat.lt_of_le_of_lt (wo_le s p) h12
  have f1 : bt (wo s p) p = false := bt_ff (fun h => ((bt_wo (by omega)).mp h).2.2 rfl)
  have f2 : bt (wo s p ||| 2 ^ p) (lo 12 s) = false := bt_ff (fun h => by
    rw [bt_or, Bool.or_eq_true, decide_eq_true_eq] at h
    rcases h with h | h
    · exact ((bt_wo (by omega)).mp h).2.1 rfl
    · exact hpl h)
  have e : (wo s p ||| 2 ^ p) ||| 2 ^ lo 12 s = s := bt_ext (or_lt (or_lt hwl hp12) l3) h12 (fun k hk => bool_eq (by
    rw [bt_or, bt_or, Bool.or_eq_true, Bool.or_eq_true, decide_eq_true_eq, decide_eq_true_eq, bt_wo (by omega)]
    constructor
    · rintro ((h | rfl) | rfl)
      · exact h.1
      · exact hp
      · exact l1
    · intro h
      by_cases e1 : lo 12 s = k
      · exact Or.inr e1
      · by_cases e2 : p = k
        · exact Or.inl (Or.inr e2)
        · exact Or.inl (Or.inl ⟨h, fun z => e1 z.symm, fun z => e2 z.symm⟩)))
  have a1 := pcn_or (n := 12) hp12 f1
  have a2 := pcn_or (n := 12) l3 f2
  rw [e] at a2
  have b1 := or_gt f1
  have b2 := or_gt f2
  rw [e] at b2
  rw [← pc_pcn, ← pc_pcn] at a2
  rw [← pc_pcn, ← pc_pcn] at a1
  omega
def ev (s : Nat) : Prop := pc 12 s % 2 = 0
theorem pc_half (s : Nat) : ∀ n, pc (n + 1) s = pc n (s / 2) + s % 2 := by
  intro n
  induction n with
  | zero =>
    show 0 + (if bt s 0 = true then 1 else 0) = 0 + s % 2
    by_cases c : bt s 0 = true
    · rw [if_pos c]
      have := bt_0.mp c
      omega
    · rw [if_neg c]
      have : ¬ s % 2 = 1 := fun h => c (bt_0.mpr h)
      omega
  | succ n ih =>
    show pc (n + 1) s + (if bt s (n + 1) = true then 1 else 0) = pc n (s / 2) + (if bt (s / 2) n = true then 1 else 0) + s % 2
    rw [ih, bt_s]
    omega
theorem half_inj {s t : Nat} (hs : ev s) (ht : ev t) (h : s / 2 = t / 2) : s = t := by
  unfold ev at hs ht
  rw [pc_half s 11] at hs
  rw [pc_half t 11, ← h] at ht
  omega
theorem ev_more {s : Nat} (hs : s < 4096) (h0 : s ≠ 0) (h : ev s) : ∃ p, bt s p = true ∧ lo 12 s < p := by
  have h12 : s < 2 ^ 12 := hs
  obtain ⟨l1, l2, l3⟩ := lo_12 (nn := 12) (Nat.le_refl 12) h12 h0
  refine Classical.byContradiction (fun hn => ?_)
  have e : 0 ||| 2 ^ lo 12 s = s := bt_ext (or_lt (Nat.two_pow_pos 12) l3) h12 (fun k hk => bool_eq (by
    rw [bt_or, Bool.or_eq_true, decide_eq_true_eq]
    have z0 : ¬ bt 0 k = true := fun z => by unfold bt at z; rw [Nat.zero_testBit] at z; exact absurd z (by decide)
    constructor
    · rintro (h | rfl)
      · exact absurd h z0
      · exact l1
    · intro h
      refine Or.inr ?_
      by_cases c : k < lo 12 s
      · rw [l2 k c] at h; exact absurd h (by decide)
      · exact Nat.le_antisymm (by omega) (Nat.le_of_not_lt (fun z => hn ⟨k, h, z⟩))))
  have a := pcn_or (n := 12) (s := 0) l3 (by unfold bt; rw [Nat.zero_testBit])
  rw [e, pcn_0, ← pc_pcn] at a
  unfold ev at h
  omega
theorem ev_wo {s p : Nat} (hs : s < 4096) (h0 : s ≠ 0) (hp : bt s p = true) (hpl : p ≠ lo 12 s) (h : ev s) : ev (wo s p) := by
  have := (wo_or hs h0 hp hpl).1
  unfold ev at h ⊢
  omega
def vl (D : Nat → Nat → Int) (od : Nat → Nat) (a29 : Nat → Int32) (s p : Nat) : Int := D (od (lo 12 s)) (od p) + (a29 (wo s p / 2)).toInt
/-- what the pairing works on -/
def PH (nn oc : Nat) (D : Nat → Nat → Int) (od : Nat → Nat) (a28 : Nat → Int32) (g3 : Nat → Nat → Int32) : Prop := nn ≤ 12 ∧ oc ≤ nn ∧ (∀ i, i < oc → od i < nn ∧ a28 i = nI (od i)) ∧ Cw nn D g3 ∧ ∀ i j, i < oc → j < oc → i ≠ j → 0 ≤ D (od i) (od j) ∧ D (od i) (od j) ≤ 22000000
def LB (oc s : Nat) (a29 : Nat → Int32) : Prop := ∀ t, t < s → t < 2 ^ oc → ev t → 0 ≤ (a29 (t / 2)).toInt ∧ (a29 (t / 2)).toInt ≤ 22000000 * (pc 12 t : Int)
theorem shr1 {s : Nat} (hs : s < 2147483648) : nI s >>> ((1 : Int32) &&& 31) = nI (s / 2) := by
  have := b_shr (s := s) (k := 1) hs (by decide)
  rw [← one32] at this
  exact this
theorem half_lt {s oc nn : Nat} (h : oc ≤ nn) (h1 : 1 ≤ nn) (hs : s < 2 ^ oc) : s / 2 < 2 ^ (nn - 1) := by
  have h2 : 2 ^ oc ≤ 2 ^ nn := Nat.pow_le_pow_right (by omega) h
  have h3 : 2 ^ nn = 2 ^ (nn - 1) * 2 := by
    rw [← Nat.pow_succ]
    congr 1
    omega
  omega
theorem c_sumWith {nn oc : Nat} {D : Nat → Nat → Int} {od : Nat → Nat} {a28 a29 : Nat → Int32} {g3 : Nat → Nat → Int32} (h : PH nn oc D od a28 g3) {s p : Nat} (hs : s < 2 ^ oc) (h0 : s ≠ 0) (he : ev s) (hp : bt s p = true) (hpl : p ≠ lo 12 s) (hL : LB oc s a29) : (∃ v, f_X4_sumWith nn (nI oc) a28 a29 g3 (nI s) (nI p) = some v ∧ v.toInt = vl D od a29 s p) ∧ 0 ≤ vl D od a29 s p ∧ vl D od a29 s p ≤ 22000000 * (pc 12 s : Int) := by
  obtain ⟨h1, h2, h3, h4, h5⟩ := h
  have hp12 := pow12 (show oc ≤ 12 by omega)
  have s4 : s < 4096 := by omega
  obtain ⟨l1, l2, l3⟩ := lo_12 (show oc ≤ 12 by omega) hs h0
  have hpo := bt_lt hs hp
  obtain ⟨w1, w2⟩ := wo_or s4 h0 hp hpl
  have b1 := hL (wo s p) w2 (by omega) (ev_wo s4 h0 hp hpl he)
  have b2 := h5 (lo 12 s) p l3 hpo (fun e => hpl e.symm)
  have hb : 0 ≤ vl D od a29 s p ∧ vl D od a29 s p ≤ 22000000 * (pc 12 s : Int) := by
    unfold vl
    omega
  refine ⟨?_, hb⟩
  have q1 := h3 (lo 12 s) l3
  have q2 := h3 p hpo
  have pcs : pc 12 s ≤ 12 := by
    have := (pcn_rng 12 s).2
    rw [← pc_pcn] at this
    omega
  unfold f_X4_sumWith
  rw [c_first s4 h0]
  show ∃ v, (if nI oc ≤ nI (lo 12 s) then _ else _) = _ ∧ _
  rw [if_neg (by rw [nI_lei (by omega) (by omega)]; omega), if_neg (show ¬ nI p < (0 : Int32) by rw [zero32, nI_lti (by omega) (by omega)]; omega), if_pos (by rw [nI_lti (by omega) (by omega)]; exact hpo)]
  rw [nI_c (show lo 12 s < 2147483648 by omega), nI_c (show p < 2147483648 by omega), q1.2, q2.2, ck_N (show lo 12 s < nn by omega) (by omega), ck_N q1.1 (by omega), ck_N (show p < nn by omega) (by omega), ck_N q2.1 (by omega), c_without s4 h0 (by omega)]
  show ∃ v, ck (nI (wo s p) >>> ((1 : Int32) &&& 31)) (2 ^ (nn - 1)) _ = _ ∧ _
  have hwl : wo s p / 2 < 2 ^ (nn - 1) := half_lt h2 (by omega) (show wo s p < 2 ^ oc by omega)
  have hpw : 2 ^ (nn - 1) ≤ 4096 := pow12 (by omega)
  rw [shr1 (by omega), ck_N hwl (by omega), nI_c (show od (lo 12 s) < 2147483648 by omega), nI_c (show od p < 2147483648 by omega), nI_c (show wo s p / 2 < 2147483648 by omega)]
  refine ⟨_, rfl, ?_⟩
  have e4 := h4 _ _ q1.1 q2.1
  unfold vl at hb ⊢
  rw [i32_add] <;> rw [e4] <;> omega
/-- the first of the best partners -/
def BP (oc : Nat) (D : Nat → Nat → Int) (od : Nat → Nat) (a29 : Nat → Int32) (s p : Nat) : Prop := lo 12 s < p ∧ p < oc ∧ bt s p = true ∧ (∀ q, lo 12 s < q → q < oc → bt s q = true → vl D od a29 s p ≤ vl D od a29 s q) ∧ ∀ q, lo 12 s < q → q < p → bt s q = true → vl D od a29 s p < vl D od a29 s q
theorem c_best {N nn oc : Nat} {D : Nat → Nat → Int} {od : Nat → Nat} {a28 a29 : Nat → Int32} {g3 : Nat → Nat → Int32} (hN : 100 ≤ N) (h : PH nn oc D od a28 g3) {s : Nat} (hs : s < 2 ^ oc) (h0 : s ≠ 0) (he : ev s) (hL : LB oc s a29) : Ok (fun x => ∃ p, x = nI p ∧ BP oc D od a29 s p) (f_X4_bestPartner N nn (nI oc) a28 a29 g3 (nI s)) := by
  have h12 := h.1
  have hoc := h.2.1
  have hp12 := pow12 (show oc ≤ 12 by omega)
  have s4 : s < 4096 := by omega
  obtain ⟨l1, l2, l3⟩ := lo_12 (show oc ≤ 12 by omega) hs h0
  have pcs : pc 12 s ≤ 12 := by
    have := (pcn_rng 12 s).2
    rw [← pc_pcn] at this
    omega
  unfold f_X4_bestPartner
  rw [c_first s4 h0]
  show Ok _ (lq4 _ N (nI s) (-1) 2147483647 (nI (lo 12 s) + 1))
  rw [nI_s]
  refine lq4_ok (fun m x1 x2 x3 x4 => ∃ j, nI s = x1 ∧ x4 = nI j ∧ j + m = oc ∧ lo 12 s < j ∧ ((x2 = -1 ∧ x3 = 2147483647 ∧ ∀ q, lo 12 s < q → q < j → ¬ bt s q = true) ∨ ∃ p, x2 = nI p ∧ x3.toInt = vl D od a29 s p ∧ lo 12 s < p ∧ p < j ∧ bt s p = true ∧ (∀ q, lo 12 s < q → q < j → bt s q = true → vl D od a29 s p ≤ vl D od a29 s q) ∧ ∀ q, lo 12 s < q → q < p → bt s q = true → vl D od a29 s p < vl D od a29 s q)) ?_ N (oc - (lo 12 s + 1)) _ _ _ _ ⟨lo 12 s + 1, rfl, rfl, by omega, by omega, Or.inl ⟨rfl, rfl, fun q q1 q2 => by omega⟩⟩ (by omega)
  rintro m nx x1 x2 x3 x4 ⟨j, rfl, rfl, hm, hj, hq⟩ ih
  unfold f_X4_bestPartner_13
  refine ok_if (fun y => ?_) (fun y => ?_)
  · rw [nI_lei (by omega) (by omega)] at y
    have ej : j = oc := by omega
    subst ej
    rcases hq with ⟨-, -, q⟩ | ⟨p, q1, q2, q3, q4, q5, q6, q7⟩
    · obtain ⟨p, p1, p2⟩ := ev_more s4 h0 he
      exact absurd p1 (q p p2 (bt_lt hs p1))
    · exact ok_some ⟨p, q1, q3, q4, q5, q6, q7⟩
  rw [nI_lei (by omega) (by omega)] at y
  have hjo : j < oc := by omega
  simp only [bt_nul (show s < 2147483648 by omega) (show j < 32 by omega)]
  refine ok_if (fun y2 => ?_) (fun y2 => ?_)
  · rw [nI_s]
    refine ih (m - 1) _ _ _ _ (by omega) ⟨j + 1, rfl, rfl, by omega, by omega, ?_⟩
    rcases hq with ⟨r1, r2, q⟩ | ⟨p, q1, q2, q3, q4, q5, q6, q7⟩
    · refine Or.inl ⟨r1, r2, fun q' a1 a2 a3 => ?_⟩
      by_cases e : q' = j
      · rw [e, y2] at a3; exact absurd a3 (by decide)
      · exact q q' a1 (by omega) a3
    · refine Or.inr ⟨p, q1, q2, q3, by omega, q5, fun q' a1 a2 a3 => ?_, q7⟩
      by_cases e : q' = j
      · rw [e, y2] at a3; exact absurd a3 (by decide)
      · exact q6 q' a1 (by omega) a3
  have bj : bt s j = true := by
    cases hh : bt s j with
    | true => rfl
    | false => exact absurd hh y2
  obtain ⟨⟨v, hv, hvi⟩, vb⟩ := c_sumWith h hs h0 he bj (by omega) hL
  rw [hv]
  show Ok _ (if x3 ≤ v then nx (nI s) x2 x3 (nI j + 1) else nx (nI s) (nI j) v (nI j + 1))
  rw [nI_s]
  refine ok_if (fun y3 => ?_) (fun y3 => ?_)
  · rw [i32_le, hvi] at y3
    refine ih (m - 1) _ _ _ _ (by omega) ⟨j + 1, rfl, rfl, by omega, by omega, ?_⟩
    rcases hq with ⟨r1, r2, q⟩ | ⟨p, q1, q2, q3, q4, q5, q6, q7⟩
    · rw [r2, show (2147483647 : Int32).toInt = 2147483647 by decide] at y3
      omega
    · refine Or.inr ⟨p, q1, q2, q3, by omega, q5, fun q' a1 a2 a3 => ?_, q7⟩
      by_cases e : q' = j
      · rw [e]; omega
      · exact q6 q' a1 (by omega) a3
  · rw [i32_le, hvi] at y3
    refine ih (m - 1) _ _ _ _ (by omega) ⟨j + 1, rfl, rfl, by omega, by omega, Or.inr ⟨j, rfl, hvi, hj, by omega, bj, fun q' a1 a2 a3 => ?_, fun q' a1 a2 a3 => ?_⟩⟩
    · by_cases e : q' = j
      · rw [e]; exact Int.le_refl _
      · rcases hq with ⟨r1, r2, q⟩ | ⟨p, q1, q2, q3, q4, q5, q6, q7⟩
        · exact absurd a3 (q q' a1 (by omega))
        · have := q6 q' a1 (by omega) a3
          omega
    · rcases hq with ⟨r1, r2, q⟩ | ⟨p, q1, q2, q3, q4, q5, q6, q7⟩
      · exact absurd a3 (q q' a1 (by omega))
      · have := q6 q' a1 (by omega) a3
        omega
def CD (oc : Nat) (D : Nat → Nat → Int) (od : Nat → Nat) (s : Nat) (a29 : Nat → Int32) : Prop := (a29 0).toInt = 0 ∧ LB oc s a29 ∧ ∀ t, t ≠ 0 → t < s → t < 2 ^ oc → ev t → (∀ q, lo 12 t < q → q < oc → bt t q = true → (a29 (t / 2)).toInt ≤ vl D od a29 t q) ∧ ∃ p, lo 12 t < p ∧ p < oc ∧ bt t p = true ∧ (a29 (t / 2)).toInt = vl D od a29 t p
theorem c_sums {N nn oc : Nat} {D : Nat → Nat → Int} {od : Nat → Nat} {a28 a29 : Nat → Int32} {g3 : Nat → Nat → Int32} (hN : 5000 ≤ N) (h3 : 3 ≤ nn) (h : PH nn oc D od a28 g3) : Ok (CD oc D od (2 ^ oc)) (f_X4_findLeastSums N nn (nI oc) a28 g3 a29) := by
  have h12 := h.1
  have hoc := h.2.1
  have hp12 := pow12 (show oc ≤ 12 by omega)
  have hp0 : 0 < 2 ^ oc := Nat.two_pow_pos oc
  have hpn : 0 < 2 ^ (nn - 1) := Nat.two_pow_pos _
  have hpw : 2 ^ (nn - 1) ≤ 4096 := pow12 (by omega)
  unfold f_X4_findLeastSums
  refine ok_ck (by rw [zero32]; exact vp_in_nI hpn (by omega)) (ok_nmd ?_)
  rw [show (0 : Int32).toNatClampNeg = 0 by decide]
  refine lq2_ok (fun m x1 z => ∃ s, x1 = nI s ∧ s + m = 2 ^ oc ∧ 1 ≤ s ∧ CD oc D od s z) ?_ N (2 ^ oc - 1) _ _ ⟨1, one32, by omega, Nat.le_refl 1, ?_, fun t t1 _ _ => ?_, fun t t0 t1 => by omega⟩ (by omega)
  · rintro m nx x1 z ⟨s, rfl, hm, hs1, hC⟩ ih
    unfold f_X4_findLeastSums_9 f_X4_everyOdd
    show Ok _ (if ((1 : Int32) <<< (nI oc &&& 31) - 1) < nI s then _ else _)
    rw [b_pow (by omega), nI_p1 (by omega)]
    refine ok_if (fun y => ok_some ?_) (fun y => ?_)
    · rw [nI_lti (by omega) (by omega)] at y
      have es : s = 2 ^ oc := by omega
      subst es
      exact hC
    rw [nI_lti (by omega) (by omega)] at y
    have hs : s < 2 ^ oc := by omega
    have s4 : s < 4096 := by omega
    have s0 : s ≠ 0 := by omega
    obtain ⟨c1, c2, c3⟩ := hC
    rw [c_bitc s s4]
    show Ok _ (if (nI (pc 12 s) &&& (1 : Int32)) = 0 then _ else _)
    have pcs : pc 12 s ≤ 12 := by
      have := (pcn_rng 12 s).2
      rw [← pc_pcn] at this
      omega
    rw [b_and1 (by omega)]
    have hmod : pc 12 s % 2 < 2 := Nat.mod_lt _ (by decide)
    refine ok_if (fun y2 => ?_) (fun y2 => ?_)
    · rw [zero32, nI_eqi (by omega) (by omega)] at y2
      have he : ev s := y2
      refine ok_bd (c_best (by omega) h hs s0 he c2) (fun o ho => ?_)
      obtain ⟨p, rfl, p1, p2, p3, p4, p5⟩ := ho
      obtain ⟨⟨v, hv, hvi⟩, vb⟩ := c_sumWith h hs s0 he p3 (by omega) c2
      rw [hv]
      show Ok _ (ck (nI s >>> ((1 : Int32) &&& 31)) (2 ^ (nn - 1)) _)
      have hh := half_lt hoc (by omega) hs
      rw [shr1 (by omega), ck_N hh (by omega), nI_c (show s / 2 < 2147483648 by omega)]
      refine ok_nmd ?_
      rw [nI_s]
      have keep : ∀ t, t < s → ev t → upd z (s / 2) v (t / 2) = z (t / 2) := fun t ht het => pk_un (fun e => by
        have := half_inj het he e
        omega)
      have new : upd z (s / 2) v (s / 2) = v := pk_us
      have vk : ∀ t q, t ≤ s → t ≠ 0 → ev t → bt t q = true → lo 12 t < q → vl D od (upd z (s / 2) v) t q = vl D od z t q := fun t q ht ht0 het hb hq => by
        unfold vl
        have a := wo_or (show t < 4096 by omega) ht0 hb (by omega)
        rw [keep (wo t q) (by omega) (ev_wo (by omega) ht0 hb (by omega) het)]
      refine ih (m - 1) _ _ (by omega) ⟨s + 1, rfl, by omega, by omega, ?_, fun t t1 t2 t3 => ?_, fun t t0 t1 t2 t3 => ?_⟩
      · have := keep 0 (by omega) (show pc 12 0 % 2 = 0 by decide)
        rw [show (0 : Nat) / 2 = 0 by decide] at this
        rw [this]; exact c1
      · by_cases et : t = s
        · subst et
          rw [new, hvi]; exact vb
        · rw [keep t (by omega) t3]
          exact c2 t (by omega) t2 t3
      · by_cases et : t = s
        · subst et
          rw [new, hvi]
          refine ⟨fun q q1 q2 q3 => ?_, p, p1, p2, p3, ?_⟩
          · rw [vk t q (Nat.le_refl t) t0 t3 q3 q1]; exact p4 q q1 q2 q3
          · rw [vk t p (Nat.le_refl t) t0 t3 p3 p1]
        · rw [keep t (by omega) t3]
          obtain ⟨k1, p', k2, k3, k4, k5⟩ := c3 t t0 (by omega) t2 t3
          refine ⟨fun q q1 q2 q3 => ?_, p', k2, k3, k4, ?_⟩
          · rw [vk t q (by omega) t0 t3 q3 q1]; exact k1 q q1 q2 q3
          · rw [vk t p' (by omega) t0 t3 k4 k2]; exact k5
    · rw [zero32, nI_eqi (by omega) (by omega)] at y2
      rw [nI_s]
      refine ih (m - 1) _ _ (by omega) ⟨s + 1, rfl, by omega, by omega, c1, fun t t1 t2 t3 => ?_, fun t t0 t1 t2 t3 => ?_⟩
      · by_cases et : t = s
        · subst et; exact absurd t3 y2
        · exact c2 t (by omega) t2 t3
      · by_cases et : t = s
        · subst et; exact absurd t3 y2
        · exact c3 t t0 (by omega) t2 t3
  · rw [pk_us]; decide
  · have et : t = 0 := by omega
    subst et
    rw [show (0 : Nat) / 2 = 0 by decide, pk_us]
    decide
/-- the pairs, one after another -/
def PS (oc : Nat) (D : Nat → Nat → Int) (od : Nat → Nat) (a29 : Nat → Int32) (t : Nat) (lam pp : Nat → Nat) : Prop := lam 0 = 2 ^ oc - 1 ∧ ∀ i, i < t → BP oc D od a29 (lam i) (pp i) ∧ lam (i + 1) = wo (lam i) (pp i) ∧ lam i < 2 ^ oc ∧ lam i ≠ 0 ∧ ev (lam i)
theorem pc_full : ∀ oc, oc < 13 → pc 12 (2 ^ oc - 1) = oc := by decide
theorem c_keep {N nn oc : Nat} {D : Nat → Nat → Int} {od : Nat → Nat} {a28 a29 a30 : Nat → Int32} {g3 : Nat → Nat → Int32} {i3 : Int32} (hN : 100 ≤ N) (h : PH nn oc D od a28 g3) (hev : oc % 2 = 0) (hC : CD oc D od (2 ^ oc) a29) : Ok (fun x => x.1 = nI (oc / 2) ∧ ∃ lam pp, PS oc D od a29 (oc / 2) lam pp ∧ lam (oc / 2) = 0 ∧ ∀ i, i < oc / 2 → x.2 (2 * i) = nI (od (lo 12 (lam i))) ∧ x.2 (2 * i + 1) = nI (od (pp i))) (f_X4_keepPairs N nn (nI oc) a28 a29 g3 i3 a30) := by
  have h12 := h.1
  have hoc := h.2.1
  have hp12 := pow12 (show oc ≤ 12 by omega)
  have hp0 : 0 < 2 ^ oc := Nat.two_pow_pos oc
  unfold f_X4_keepPairs f_X4_everyOdd
  show Ok _ (lq4 _ N ((1 : Int32) <<< (nI oc &&& 31) - 1) 0 0 a30)
  rw [b_pow (by omega), nI_p1 (by omega)]
  refine lq4_ok (fun m x1 x2 y3 z => ∃ t lam pp, x1 = nI (lam t) ∧ x2 = nI (2 * t) ∧ y3 = nI t ∧ t + m = oc / 2 ∧ PS oc D od a29 t lam pp ∧ lam t < 2 ^ oc ∧ pc 12 (lam t) + 2 * t = oc ∧ ∀ i, i < t → z (2 * i) = nI (od (lo 12 (lam i))) ∧ z (2 * i + 1) = nI (od (pp i))) ?_ N (oc / 2) _ _ _ _ ⟨0, fun _ => 2 ^ oc - 1, fun _ => 0, rfl, zero32, zero32, by omega, ⟨rfl, fun i hi => absurd hi (Nat.not_lt_zero i)⟩, (show 2 ^ oc - 1 < 2 ^ oc by omega), pc_full oc (by omega), fun i hi => absurd hi (Nat.not_lt_zero i)⟩ (by omega)
  rintro m nx x1 x2 y3 z ⟨t, lam, pp, rfl, rfl, rfl, hm, hPS, hlt, hpc, hz⟩ ih
  unfold f_X4_keepPairs_12
  rw [nI_s]
  refine ok_if (fun y => ok_some ?_) (fun y => ?_)
  · rw [nI_lei (by omega) (by omega)] at y
    have et : t = oc / 2 := by omega
    subst et
    refine ⟨rfl, lam, pp, hPS, ?_, hz⟩
    have z0 : pc 12 (lam (oc / 2)) = 0 := by omega
    refine Classical.byContradiction (fun hne => ?_)
    obtain ⟨l1, l2, l3⟩ := lo_12 (nn := 12) (Nat.le_refl 12) (show lam (oc / 2) < 2 ^ 12 from Nat.lt_of_lt_of_le hlt hp12) hne
    have := S1_ge (n := 12) (f := fun k => if bt (lam (oc / 2)) k = true then (1 : Int) else 0) (fun k _ => by show (0 : Int) ≤ (if bt (lam (oc / 2)) k = true then (1 : Int) else 0); split <;> decide) l3
    have this : (if bt (lam (oc / 2)) (lo 12 (lam (oc / 2))) = true then (1 : Int) else 0) ≤ pcn 12 (lam (oc / 2)) := this
    rw [if_pos l1, ← pc_pcn, z0] at this
    exact absurd this (by decide)
  rw [nI_lei (by omega) (by omega)] at y
  have hl4 : lam t < 4096 := by omega
  have hl0 : lam t ≠ 0 := fun e => by
    rw [e, show pc 12 0 = 0 by decide] at hpc
    omega
  have hle : ev (lam t) := by
    unfold ev
    omega
  obtain ⟨l1, l2, l3⟩ := lo_12 (show oc ≤ 12 by omega) hlt hl0
  rw [c_first hl4 hl0]
  show Ok _ (bd (f_X4_bestPartner N nn (nI oc) a28 a29 g3 (nI (lam t))) _)
  have hLB : LB oc (lam t) a29 := fun t' h1 h2 h3 => hC.2.1 t' (by omega) h2 h3
  refine ok_bd (c_best hN h hlt hl0 hle hLB) (fun o ho => ?_)
  obtain ⟨p, rfl, hBP⟩ := ho
  have p1 := hBP.1
  have p2 := hBP.2.1
  have p3 := hBP.2.2.1
  rw [if_neg (by rw [nI_lei (by omega) (by omega)]; omega), if_neg (nI_nm1 (by omega))]
  have q1 := h.2.2.1 (lo 12 (lam t)) l3
  have q2 := h.2.2.1 p p2
  rw [nI_c (show lo 12 (lam t) < 2147483648 by omega), nI_c (show p < 2147483648 by omega), nI_c (show 2 * t < 2147483648 by omega), nI_c (show 2 * t + 1 < 2147483648 by omega), q1.2, q2.2, ck_N (show lo 12 (lam t) < nn by omega) (by omega), ck_N (show 2 * t < nn by omega) (by omega)]
  refine ok_nmd ?_
  rw [ck_N (show p < nn by omega) (by omega), ck_N (show 2 * t + 1 < nn by omega) (by omega)]
  refine ok_nmd ?_
  rw [c_without hl4 hl0 (by omega)]
  show Ok _ (nx (nI (wo (lam t) p)) (nI (2 * t) + 2) (nI t + 1) _)
  rw [nI_s, show (2 : Int32) = nI 2 by decide, nI_add]
  obtain ⟨w1, w2⟩ := wo_or hl4 hl0 p3 (by omega)
  refine ih (m - 1) _ _ _ _ (by omega) ⟨t + 1, fun i => if i = t + 1 then wo (lam t) p else lam i, fun i => if i = t then p else pp i, ?_, rfl, rfl, by omega, ⟨?_, fun i hi => ?_⟩, ?_, ?_, fun i hi => ?_⟩
  · dsimp only
    rw [if_pos rfl]
  · dsimp only
    rw [if_neg (by omega)]
    exact hPS.1
  · dsimp only
    rw [if_neg (show ¬ i = t + 1 by omega)]
    by_cases ei : i = t
    · rw [if_pos ei, if_pos (by omega), ei]
      exact ⟨hBP, rfl, hlt, hl0, hle⟩
    · rw [if_neg ei, if_neg (by omega)]
      exact hPS.2 i (by omega)
  · dsimp only
    rw [if_pos rfl]
    omega
  · dsimp only
    rw [if_pos rfl]
    omega
  · dsimp only
    rw [if_neg (show ¬ i = t + 1 by omega)]
    by_cases ei : i = t
    · subst ei
      rw [if_pos rfl, pk_us, pk_un (by omega), pk_us]
      exact ⟨rfl, rfl⟩
    · rw [if_neg ei, pk_un (by omega), pk_un (by omega), pk_un (by omega), pk_un (by omega)]
      exact hz i (by omega)
