/-! ===== bits of a set, sums over a reordering ===== -/
theorem sh_k : ∀ k, k < 32 → ((nI k &&& 31).toBitVec.smod 32).toNat = k := by decide +kernel
theorem b_shr {s k : Nat} (hs : s < 2147483648) (hk : k < 32) : nI s >>> (nI k &&& 31) = nI (s / 2 ^ k) := pk_shrN hs _ k (sh_k k hk)
theorem b_and1 {n : Nat} (h : n < 2147483648) : nI n &&& (1 : Int32) = nI (n % 2) := pk_andN (by omega) 1 (by decide)
theorem b_bit {s k : Nat} (hs : s < 2147483648) (hk : k < 32) : (nI s >>> (nI k &&& 31)) &&& (1 : Int32) = nI (s / 2 ^ k % 2) := by
  rw [b_shr hs hk, b_and1 (Nat.lt_of_le_of_lt (Nat.div_le_self _ _) hs)]
theorem b_pow {k : Nat} (hk : k < 31) : (1 : Int32) <<< (nI k &&& 31) = nI (2 ^ k) := by
  have h : 2 ^ k < 2 ^ 31 := Nat.pow_lt_pow_right (by omega) hk
  rw [one32, pk_shlN _ k (sh_k k (by omega)) (by omega), Nat.one_mul]
theorem b_or (a b : Nat) : nI a ||| nI b = nI (a ||| b) := by
  apply Int32.toBitVec_inj.mp
  show (nI a).toBitVec ||| (nI b).toBitVec = (nI (a ||| b)).toBitVec
  show BitVec.ofNat 32 a ||| BitVec.ofNat 32 b = BitVec.ofNat 32 (a ||| b)
  apply BitVec.eq_of_toNat_eq
  rw [BitVec.toNat_or, BitVec.toNat_ofNat, BitVec.toNat_ofNat, BitVec.toNat_ofNat, Nat.or_mod_two_pow]
/-- is place k in the set s? -/
def bt (s k : Nat) : Bool := s.testBit k
theorem bt_mod {s k : Nat} : s / 2 ^ k % 2 = if bt s k = true then 1 else 0 := by
  unfold bt
  rw [Nat.testBit_eq_decide_div_mod_eq]
  by_cases h : s / 2 ^ k % 2 = 1
  · rw [h]; rfl
  · have : s / 2 ^ k % 2 = 0 := by omega
    rw [this]; rfl
theorem bt_or {s k i : Nat} : bt (s ||| 2 ^ k) i = (bt s i || decide (k = i)) := by
  unfold bt
  rw [Nat.testBit_or, Nat.testBit_two_pow]
theorem or_lt {s k n : Nat} (hs : s < 2 ^ n) (hk : k < n) : s ||| 2 ^ k < 2 ^ n := Nat.or_lt_two_pow hs (Nat.pow_lt_pow_right (by omega) hk)
theorem or_gt {s k : Nat} (h : bt s k = false) : s < s ||| 2 ^ k := by
  have h1 : s ≤ s ||| 2 ^ k := Nat.left_le_or
  have h2 : s ≠ s ||| 2 ^ k := fun e => by
    have : bt (s ||| 2 ^ k) k = true := by rw [bt_or]; simp
    rw [← e, h] at this
    exact absurd this (by decide)
  omega
/-- how many are in the set -/
def pcn (n s : Nat) : Int := S1 n (fun k => if bt s k = true then 1 else 0)
theorem pcn_or {n s k : Nat} (hk : k < n) (h : bt s k = false) : pcn n (s ||| 2 ^ k) = pcn n s + 1 := by
  unfold pcn
  rw [S1_congr (g := fun i => (if bt s i = true then 1 else 0) + if i = k then 1 else 0), S1_upd hk]
  intro i _
  rw [bt_or]
  by_cases e : i = k
  · subst e
    rw [h]
    simp
  · have : decide (k = i) = false := by simp; omega
    rw [this, if_neg e, Bool.or_false, Int.add_zero]
theorem pcn_0 (n : Nat) : pcn n 0 = 0 := by
  unfold pcn
  rw [S1_congr (g := fun _ => 0) (fun k _ => by unfold bt; rw [Nat.zero_testBit]; rfl), S1_zero]
theorem pcn_rng (n s : Nat) : 0 ≤ pcn n s ∧ pcn n s ≤ n := by
  unfold pcn
  refine ⟨S1_nonneg (fun k _ => by split <;> decide), ?_⟩
  have := S1_bound (n := n) (f := fun k => if bt s k = true then (1 : Int) else 0) (c := 1) (fun k _ => by show (if bt s k = true then (1 : Int) else 0) ≤ 1; split <;> decide)
  omega
/-- the set of the first t places of a row -/
def Mk (f : Nat → Nat) : Nat → Nat
  | 0 => 0
  | t + 1 => Mk f t ||| 2 ^ (f t)
theorem Mk_bt {f : Nat → Nat} {t k : Nat} : bt (Mk f t) k = true ↔ ∃ i, i < t ∧ f i = k := by
  induction t with
  | zero =>
    show bt 0 k = true ↔ _
    unfold bt
    rw [Nat.zero_testBit]
    exact ⟨fun h => absurd h (by decide), fun ⟨i, h, _⟩ => absurd h (Nat.not_lt_zero i)⟩
  | succ t ih =>
    show bt (Mk f t ||| 2 ^ (f t)) k = true ↔ _
    rw [bt_or, Bool.or_eq_true, ih, decide_eq_true_eq]
    constructor
    · rintro (⟨i, h1, h2⟩ | h)
      · exact ⟨i, by omega, h2⟩
      · exact ⟨t, by omega, h⟩
    · rintro ⟨i, h1, h2⟩
      by_cases e : i = t
      · subst e; exact Or.inr h2
      · exact Or.inl ⟨i, by omega, h2⟩
theorem Mk_new {f : Nat → Nat} {t : Nat} (h : ∀ i, i < t → f i ≠ f t) : bt (Mk f t) (f t) = false := by
  cases hh : bt (Mk f t) (f t) with
  | true =>
    obtain ⟨i, h1, h2⟩ := Mk_bt.mp hh
    exact absurd h2 (h i h1)
  | false => rfl
theorem Mk_lt {f : Nat → Nat} {t n : Nat} (h : ∀ i, i < t → f i < n) : Mk f t < 2 ^ n := by
  induction t with
  | zero => exact Nat.two_pow_pos n
  | succ t ih => exact or_lt (ih (fun i hi => h i (by omega))) (h t (by omega))
theorem Mk_congr {f g : Nat → Nat} {t : Nat} (h : ∀ i, i < t → f i = g i) : Mk f t = Mk g t := by
  induction t with
  | zero => rfl
  | succ t ih =>
    show Mk f t ||| 2 ^ (f t) = Mk g t ||| 2 ^ (g t)
    rw [ih (fun i hi => h i (by omega)), h t (by omega)]
theorem Mk_pcn {f : Nat → Nat} {t n : Nat} (h : ∀ i, i < t → f i < n) (hi : ∀ i j, i < t → j < t → f i = f j → i = j) : pcn n (Mk f t) = t := by
  induction t with
  | zero => exact pcn_0 n
  | succ t ih =>
    show pcn n (Mk f t ||| 2 ^ (f t)) = _
    rw [pcn_or (h t (by omega)) (Mk_new (fun i hit e => by have := hi i t (by omega) (by omega) e; omega)), ih (fun i hit => h i (by omega)) (fun i j a b => hi i j (by omega) (by omega)), Int.natCast_add]
    rfl
theorem Mk_all {f : Nat → Nat} {n : Nat} (h : ∀ i, i < n → f i < n) (hi : ∀ i j, i < n → j < n → f i = f j → i = j) : ∀ k, k < n → ∃ i, i < n ∧ f i = k := by
  intro k hk
  have h1 := Mk_pcn h hi
  have h0 : S1 n (fun k => (1 : Int) - (if bt (Mk f n) k = true then 1 else 0)) = 0 := by
    rw [S1_sub, one_sum]
    unfold pcn at h1
    omega
  have := S1_null (fun k _ => by show (0 : Int) ≤ 1 - (if bt (Mk f n) k = true then 1 else 0); split <;> decide) h0 k hk
  have this : (1 : Int) - (if bt (Mk f n) k = true then 1 else 0) = 0 := this
  cases hb : bt (Mk f n) k with
  | true => exact Mk_bt.mp hb
  | false =>
    rw [hb] at this
    exact absurd this (by decide)
theorem Mk_full {f : Nat → Nat} {n : Nat} (h : ∀ i, i < n → f i < n) (hi : ∀ i j, i < n → j < n → f i = f j → i = j) : Mk f n = 2 ^ n - 1 := by
  apply Nat.eq_of_testBit_eq
  intro k
  rw [Nat.testBit_two_pow_sub_one]
  by_cases hk : k < n
  · obtain ⟨i, h1, h2⟩ := Mk_all h hi k hk
    have : bt (Mk f n) k = true := Mk_bt.mpr ⟨i, h1, h2⟩
    unfold bt at this
    rw [this]
    simp [hk]
  · have : bt (Mk f n) k = false := by
      cases hb : bt (Mk f n) k with
      | true =>
        obtain ⟨i, h1, h2⟩ := Mk_bt.mp hb
        have := h i h1
        omega
      | false => rfl
    unfold bt at this
    rw [this]
    simp [hk]
/-- a sum over a row is the sum over its reordering -/
theorem perm_sum {n : Nat} {f : Nat → Nat} (h : ∀ i, i < n → f i < n) (hi : ∀ i j, i < n → j < n → f i = f j → i = j) (g : Nat → Int) : S1 n (fun i => g (f i)) = S1 n g := by
  have e1 : S1 n (fun i => g (f i)) = S1 n (fun i => S1 n (fun k => if k = f i then g k else 0)) := S1_congr (fun i hin => by
    rw [S1_congr (g := fun k => if k = f i then g (f i) else 0) (fun k _ => by
      by_cases e : k = f i
      · rw [if_pos e, if_pos e, e]
      · rw [if_neg e, if_neg e]), S1_one, if_pos (h i hin)])
  rw [e1, S1_swap]
  refine S1_congr (fun k hk => ?_)
  obtain ⟨i, h1, h2⟩ := Mk_all h hi k hk
  rw [S1_congr (g := fun j => if j = i then g k else 0), S1_one, if_pos h1]
  intro j hj
  by_cases e : j = i
  · rw [if_pos (by rw [e]; exact h2.symm), if_pos e]
  · rw [if_neg (fun z => e (hi j i hj h1 (z.symm.trans h2.symm))), if_neg e]
