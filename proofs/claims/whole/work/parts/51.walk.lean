/-! ===== walks, and the sets of places that they reach ===== -/
/-- a walk of k links from a to b, of the length x; e is -1 where there is no link -/
def Wk (nn : Nat) (e : Nat → Nat → Int) : Nat → Nat → Nat → Int → Prop
  | 0, a, b, x => a = b ∧ x = 0
  | k + 1, a, b, x => ∃ c y, c < nn ∧ Wk nn e k a c y ∧ e c b ≠ -1 ∧ x = y + e c b
theorem Wk_cat {nn : Nat} {e : Nat → Nat → Int} {k a b : Nat} {x : Int} (h : Wk nn e k a b x) : ∀ l c y, Wk nn e l b c y → Wk nn e (k + l) a c (x + y) := by
  intro l
  induction l with
  | zero =>
    rintro c y ⟨e1, e2⟩
    subst e1
    subst e2
    rw [Int.add_zero]
    exact h
  | succ l ih =>
    rintro c y ⟨d, z, h1, h2, h3, h4⟩
    exact ⟨d, x + z, h1, ih d z h2, h3, by omega⟩
theorem Wk_one {nn : Nat} {e : Nat → Nat → Int} {a b : Nat} (ha : a < nn) (h : e a b ≠ -1) : Wk nn e 1 a b (e a b) := ⟨a, 0, ha, ⟨rfl, rfl⟩, h, by omega⟩
theorem Wk_rev {nn : Nat} {e : Nat → Nat → Int} : ∀ k a b x, b < nn → Wk nn (fun i j => e j i) k a b x → Wk nn e k b a x := by
  intro k
  induction k with
  | zero =>
    rintro a b x hb ⟨h1, h2⟩
    exact ⟨h1.symm, h2⟩
  | succ k ih =>
    rintro a b x hb ⟨c, y, h1, h2, h3, h4⟩
    have h3 : e b c ≠ -1 := h3
    have h4 : x = y + e b c := h4
    have := Wk_cat (Wk_one hb h3) k a y (ih a c y h1 h2)
    rw [show 1 + k = k + 1 by omega, show e b c + y = x by omega] at this
    exact this
theorem Wk_congr {nn : Nat} {e f : Nat → Nat → Int} (h : ∀ i j, i < nn → j < nn → e i j = f i j) : ∀ k a b x, b < nn → Wk nn e k a b x → Wk nn f k a b x := by
  intro k
  induction k with
  | zero => intro a b x _ h; exact h
  | succ k ih =>
    rintro a b x hb ⟨c, y, h1, h2, h3, h4⟩
    refine ⟨c, y, h1, ih a c y h1 h2, ?_, ?_⟩
    · rw [← h c b h1 hb]; exact h3
    · rw [← h c b h1 hb]; exact h4
/-- all links from the set end in it -/
def CL (nn : Nat) (e : Nat → Nat → Int) (s : Nat) : Prop := ∀ x y, x < nn → y < nn → bt s x = true → e x y ≠ -1 → bt s y = true
theorem CL_wk {nn : Nat} {e : Nat → Nat → Int} {s : Nat} (h : CL nn e s) {a : Nat} (ha : bt s a = true) : ∀ k b x, b < nn → Wk nn e k a b x → bt s b = true := by
  intro k
  induction k with
  | zero =>
    rintro b x _ ⟨h1, -⟩
    rw [← h1]; exact ha
  | succ k ih =>
    rintro b x hb ⟨c, y, h1, h2, h3, -⟩
    exact h c b h1 hb (ih c y h1 h2) h3
theorem b_and (a b : Nat) : nI a &&& nI b = nI (a &&& b) := by
  apply Int32.toBitVec_inj.mp
  show BitVec.ofNat 32 a &&& BitVec.ofNat 32 b = BitVec.ofNat 32 (a &&& b)
  apply BitVec.eq_of_toNat_eq
  rw [BitVec.toNat_and, BitVec.toNat_ofNat, BitVec.toNat_ofNat, BitVec.toNat_ofNat, Nat.and_mod_two_pow]
theorem b_xor (a b : Nat) : nI a ^^^ nI b = nI (a ^^^ b) := by
  apply Int32.toBitVec_inj.mp
  show BitVec.ofNat 32 a ^^^ BitVec.ofNat 32 b = BitVec.ofNat 32 (a ^^^ b)
  apply BitVec.eq_of_toNat_eq
  rw [BitVec.toNat_xor, BitVec.toNat_ofNat, BitVec.toNat_ofNat, BitVec.toNat_ofNat, Nat.xor_mod_two_pow]
theorem bt_and {s t k : Nat} : bt (s &&& t) k = (bt s k && bt t k) := by
  unfold bt
  rw [Nat.testBit_and]
theorem bt_ext {s t n : Nat} (hs : s < 2 ^ n) (ht : t < 2 ^ n) (h : ∀ k, k < n → bt s k = bt t k) : s = t := by
  apply Nat.eq_of_testBit_eq
  intro k
  by_cases hk : k < n
  · exact h k hk
  · have h1 : 2 ^ n ≤ 2 ^ k := Nat.pow_le_pow_right (by omega) (by omega)
    rw [Nat.testBit_lt_two_pow (by omega), Nat.testBit_lt_two_pow (by omega)]
theorem and_lt {s t n : Nat} (ht : t < 2 ^ n) : s &&& t < 2 ^ n := Nat.and_lt_two_pow s ht
/-- the lowest place of a set -/
def lo : Nat → Nat → Nat
  | 0, _ => 0
  | n + 1, s => if s % 2 = 1 then 0 else lo n (s / 2) + 1
theorem bt_0 {s : Nat} : bt s 0 = true ↔ s % 2 = 1 := by
  unfold bt
  rw [Nat.testBit_zero]
  exact decide_eq_true_iff
theorem bt_s {s k : Nat} : bt s (k + 1) = bt (s / 2) k := by
  unfold bt
  rw [Nat.testBit_succ]
theorem lo_ok : ∀ n s, s ≠ 0 → s < 2 ^ n → bt s (lo n s) = true ∧ (∀ k, k < lo n s → bt s k = false) ∧ lo n s < n := by
  intro n
  induction n with
  | zero => intro s h1 h2; omega
  | succ n ih =>
    intro s h1 h2
    have e : lo (n + 1) s = if s % 2 = 1 then 0 else lo n (s / 2) + 1 := rfl
    by_cases c : s % 2 = 1
    · rw [if_pos c] at e
      rw [e]
      exact ⟨bt_0.mpr c, fun k hk => by omega, by omega⟩
    · rw [if_neg c] at e
      rw [e]
      have h3 : s / 2 < 2 ^ n := by
        rw [Nat.pow_succ] at h2
        omega
      obtain ⟨q1, q2, q3⟩ := ih (s / 2) (by omega) h3
      refine ⟨by rw [bt_s]; exact q1, fun k hk => ?_, by omega⟩
      cases k with
      | zero =>
        cases hh : bt s 0 with
        | false => rfl
        | true => exact absurd (bt_0.mp hh) c
      | succ k => rw [bt_s]; exact q2 k (by omega)
theorem all64 {P : Nat → Prop} (h : ∀ a, a < 64 → ∀ b, b < 64 → P (64 * a + b)) : ∀ s, s < 4096 → P s := by
  intro s hs
  have := h (s / 64) (by omega) (s % 64) (by omega)
  rw [show 64 * (s / 64) + s % 64 = s by omega] at this
  exact this
theorem low_bit : ∀ s, s < 4096 → nI s &&& (-(nI s)) = if s = 0 then 0 else nI (2 ^ lo 12 s) := by
  refine all64 ?_
  decide +kernel
theorem c_ntz : ∀ s, s < 4096 → f_J6_numberOfTrailingZeros_0f7a4 (nI s) = if s = 0 then some 32 else some (nI (lo 12 s)) := by
  refine all64 ?_
  decide +kernel
def pc : Nat → Nat → Nat
  | 0, _ => 0
  | n + 1, s => pc n s + (if bt s n = true then 1 else 0)
theorem c_bitc : ∀ s, s < 4096 → f_J6_bitCount_0f7a4 (nI s) = some (nI (pc 12 s)) := by
  refine all64 ?_
  decide +kernel
theorem pow_le12 {s nn : Nat} (h12 : nn ≤ 12) (hs : s < 2 ^ nn) : s < 4096 := by
  have := pow12 h12
  omega
theorem lo_12 {nn s : Nat} (h12 : nn ≤ 12) (hs : s < 2 ^ nn) (h0 : s ≠ 0) : bt s (lo 12 s) = true ∧ (∀ k, k < lo 12 s → bt s k = false) ∧ lo 12 s < nn := by
  have h4 := pow_le12 h12 hs
  obtain ⟨q1, q2, q3⟩ := lo_ok 12 s h0 h4
  refine ⟨q1, q2, Nat.lt_of_not_le (fun hle => ?_)⟩
  have h1 : 2 ^ nn ≤ 2 ^ lo 12 s := Nat.pow_le_pow_right (by omega) hle
  unfold bt at q1
  rw [Nat.testBit_lt_two_pow (by omega)] at q1
  exact absurd q1 (by decide)
