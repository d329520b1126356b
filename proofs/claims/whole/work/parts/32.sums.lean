/-! ===== finite sums ===== -/
def S1 : Nat → (Nat → Int) → Int
  | 0, _ => 0
  | n + 1, f => S1 n f + f n
theorem S1_congr {n : Nat} {f g : Nat → Int} (h : ∀ i, i < n → f i = g i) : S1 n f = S1 n g := by
  induction n with
  | zero => rfl
  | succ n ih =>
    show S1 n f + f n = S1 n g + g n
    rw [ih (fun i hi => h i (by omega)), h n (by omega)]
theorem S1_zero (n : Nat) : S1 n (fun _ => 0) = 0 := by
  induction n with
  | zero => rfl
  | succ n ih =>
    show S1 n (fun _ => 0) + 0 = 0
    rw [ih]; rfl
theorem S1_add {n : Nat} {f g : Nat → Int} : S1 n (fun i => f i + g i) = S1 n f + S1 n g := by
  induction n with
  | zero => rfl
  | succ n ih =>
    show S1 n (fun i => f i + g i) + (f n + g n) = (S1 n f + f n) + (S1 n g + g n)
    rw [ih]; omega
theorem S1_sub {n : Nat} {f g : Nat → Int} : S1 n (fun i => f i - g i) = S1 n f - S1 n g := by
  induction n with
  | zero => rfl
  | succ n ih =>
    show S1 n (fun i => f i - g i) + (f n - g n) = (S1 n f + f n) - (S1 n g + g n)
    rw [ih]; omega
theorem S1_mul {n : Nat} {f : Nat → Int} {c : Int} : S1 n (fun i => c * f i) = c * S1 n f := by
  induction n with
  | zero => exact (Int.mul_zero c).symm
  | succ n ih =>
    show S1 n (fun i => c * f i) + c * f n = c * (S1 n f + f n)
    rw [ih, Int.mul_add]
theorem S1_one {n k : Nat} {c : Int} : S1 n (fun i => if i = k then c else 0) = if k < n then c else 0 := by
  induction n with
  | zero => rfl
  | succ n ih =>
    show S1 n (fun i => if i = k then c else 0) + (if n = k then c else 0) = _
    rw [ih]
    repeat' split
    all_goals omega
theorem S1_upd {n k : Nat} {f : Nat → Int} {c : Int} (hk : k < n) : S1 n (fun i => f i + if i = k then c else 0) = S1 n f + c := by
  rw [S1_add, S1_one, if_pos hk]
theorem S1_nonneg {n : Nat} {f : Nat → Int} (h : ∀ i, i < n → 0 ≤ f i) : 0 ≤ S1 n f := by
  induction n with
  | zero => exact Int.le_refl 0
  | succ n ih =>
    have h1 := ih (fun i hi => h i (by omega))
    have h2 := h n (by omega)
    show 0 ≤ S1 n f + f n
    omega
theorem S1_le {n : Nat} {f g : Nat → Int} (h : ∀ i, i < n → f i ≤ g i) : S1 n f ≤ S1 n g := by
  induction n with
  | zero => exact Int.le_refl 0
  | succ n ih =>
    have h1 := ih (fun i hi => h i (by omega))
    have h2 := h n (by omega)
    show S1 n f + f n ≤ S1 n g + g n
    omega
theorem S1_ge {n k : Nat} {f : Nat → Int} (h : ∀ i, i < n → 0 ≤ f i) (hk : k < n) : f k ≤ S1 n f := by
  induction n with
  | zero => omega
  | succ n ih =>
    show f k ≤ S1 n f + f n
    have h2 := h n (by omega)
    by_cases e : k = n
    · subst e
      have := S1_nonneg (n := k) (f := f) (fun i hi => h i (by omega))
      omega
    · have := ih (fun i hi => h i (by omega)) (by omega)
      omega
theorem S1_null {n : Nat} {f : Nat → Int} (h : ∀ i, i < n → 0 ≤ f i) (h0 : S1 n f = 0) : ∀ i, i < n → f i = 0 := by
  intro i hi
  have h1 := S1_ge h hi
  have h2 := h i hi
  omega
theorem S1_bound {n : Nat} {f : Nat → Int} {c : Int} (h : ∀ i, i < n → f i ≤ c) : S1 n f ≤ n * c := by
  induction n with
  | zero =>
    show (0 : Int) ≤ ((0 : Nat) : Int) * c
    rw [Int.natCast_zero, Int.zero_mul]; exact Int.le_refl 0
  | succ n ih =>
    have h1 := ih (fun i hi => h i (by omega))
    have h2 := h n (by omega)
    show S1 n f + f n ≤ ((n + 1 : Nat) : Int) * c
    rw [Int.natCast_add, Int.add_mul]
    have : ((1 : Nat) : Int) * c = c := by rw [Int.natCast_one, Int.one_mul]
    omega
theorem S1_bound' {n : Nat} {f : Nat → Int} {c : Int} (h : ∀ i, i < n → c ≤ f i) : n * c ≤ S1 n f := by
  induction n with
  | zero =>
    show ((0 : Nat) : Int) * c ≤ 0
    rw [Int.natCast_zero, Int.zero_mul]; exact Int.le_refl 0
  | succ n ih =>
    have h1 := ih (fun i hi => h i (by omega))
    have h2 := h n (by omega)
    show ((n + 1 : Nat) : Int) * c ≤ S1 n f + f n
    rw [Int.natCast_add, Int.add_mul]
    have : ((1 : Nat) : Int) * c = c := by rw [Int.natCast_one, Int.one_mul]
    omega
def S2 (n : Nat) (f : Nat → Nat → Int) : Int := S1 n (fun a => S1 n (f a))
theorem S2_congr {n : Nat} {f g : Nat → Nat → Int} (h : ∀ i j, i < n → j < n → f i j = g i j) : S2 n f = S2 n g := S1_congr (fun i hi => S1_congr (fun j hj => h i j hi hj))
theorem S2_add {n : Nat} {f g : Nat → Nat → Int} : S2 n (fun i j => f i j + g i j) = S2 n f + S2 n g := by
  unfold S2
  rw [← S1_add]
  exact S1_congr (fun i _ => S1_add)
theorem S2_sub {n : Nat} {f g : Nat → Nat → Int} : S2 n (fun i j => f i j - g i j) = S2 n f - S2 n g := by
  unfold S2
  rw [← S1_sub]
  exact S1_congr (fun i _ => S1_sub)
theorem S2_one {n a b : Nat} {c : Int} (ha : a < n) (hb : b < n) : S2 n (fun i j => if i = a ∧ j = b then c else 0) = c := by
  unfold S2
  rw [S1_congr (g := fun i => if i = a then c else 0), S1_one, if_pos ha]
  intro i _
  by_cases h : i = a
  · rw [if_pos h, S1_congr (g := fun j => if j = b then c else 0) (fun j _ => by simp [h]), S1_one, if_pos hb]
  · rw [if_neg h, S1_congr (g := fun _ => 0) (fun j _ => by simp [h]), S1_zero]
theorem S2_upd {n a b : Nat} {f : Nat → Nat → Int} {c : Int} (ha : a < n) (hb : b < n) : S2 n (fun i j => f i j + if i = a ∧ j = b then c else 0) = S2 n f + c := by
  rw [S2_add, S2_one ha hb]
theorem S2_zero (n : Nat) : S2 n (fun _ _ => 0) = 0 := by
  unfold S2
  rw [S1_congr (g := fun _ => 0) (fun i _ => S1_zero n), S1_zero]
theorem S2_nonneg {n : Nat} {f : Nat → Nat → Int} (h : ∀ i j, i < n → j < n → 0 ≤ f i j) : 0 ≤ S2 n f := S1_nonneg (fun i hi => S1_nonneg (fun j hj => h i j hi hj))
theorem S2_null {n : Nat} {f : Nat → Nat → Int} (h : ∀ i j, i < n → j < n → 0 ≤ f i j) (h0 : S2 n f = 0) : ∀ i j, i < n → j < n → f i j = 0 := by
  intro i j hi hj
  have h1 := S1_null (f := fun a => S1 n (f a)) (fun a ha => S1_nonneg (fun b hb => h a b ha hb)) h0 i hi
  exact S1_null (fun b hb => h i b hi hb) h1 j hj
theorem S1_swap {m n : Nat} {f : Nat → Nat → Int} : S1 n (fun i => S1 m (f i)) = S1 m (fun j => S1 n (fun i => f i j)) := by
  induction n with
  | zero =>
    show (0 : Int) = S1 m (fun _ => 0)
    rw [S1_zero]
  | succ n ih =>
    show S1 n (fun i => S1 m (f i)) + S1 m (f n) = S1 m (fun j => S1 n (fun i => f i j) + f n j)
    rw [ih, S1_add]
theorem S2_swap {n : Nat} {f : Nat → Nat → Int} : S2 n f = S2 n (fun i j => f j i) := S1_swap
/-! ===== the least of what was scanned, the first of equals ===== -/
/-- an edge's place in the order: by price, then the lesser end, then the greater -/
def Lt (p : Nat → Nat → Int) (i j a b : Nat) : Prop := p i j < p a b ∨ (p i j = p a b ∧ (i < a ∨ (i = a ∧ j < b)))
def Le (p : Nat → Nat → Int) (i j a b : Nat) : Prop := p i j < p a b ∨ (p i j = p a b ∧ (i < a ∨ (i = a ∧ j ≤ b)))
theorem Le_lt {p : Nat → Nat → Int} {i j a b : Nat} (h : Le p i j a b) (hne : ¬ (i = a ∧ j = b)) : Lt p i j a b := by
  unfold Le at h
  unfold Lt
  omega
theorem Lt_trans {p : Nat → Nat → Int} {i j a b c d : Nat} (h : Lt p i j a b) (h2 : Lt p a b c d) : Lt p i j c d := by
  unfold Lt at *
  omega
theorem Lt_irr {p : Nat → Nat → Int} {i j : Nat} (h : Lt p i j i j) : False := by
  unfold Lt at h
  omega
theorem Lt_Le {p : Nat → Nat → Int} {i j a b : Nat} (h : Lt p i j a b) (h2 : Le p a b i j) : False := by
  unfold Lt at h
  unfold Le at h2
  omega
/-- x1, x2 name the least of the candidates C in the region D, or are -1 where there is none -/
def Bs (C : Nat → Nat → Prop) (p : Nat → Nat → Int) (D : Nat → Nat → Prop) (x1 x2 : Int32) : Prop :=
  (x1 = -1 ∧ x2 = -1 ∧ ∀ a b, D a b → ¬ C a b) ∨ ∃ i j, x1 = nI i ∧ x2 = nI j ∧ D i j ∧ C i j ∧ ∀ a b, D a b → C a b → Le p i j a b
theorem Bs_skip {C : Nat → Nat → Prop} {p : Nat → Nat → Int} {D D' : Nat → Nat → Prop} {x1 x2 : Int32} {a b : Nat} (h : Bs C p D x1 x2) (hD : ∀ i j, D i j → D' i j) (hD' : ∀ i j, D' i j → D i j ∨ (i = a ∧ j = b)) (hc : ¬ C a b) : Bs C p D' x1 x2 := by
  rcases h with ⟨h1, h2, h3⟩ | ⟨i, j, h1, h2, h3, h4, h5⟩
  · refine Or.inl ⟨h1, h2, fun c d hcd hC => ?_⟩
    rcases hD' c d hcd with q | ⟨rfl, rfl⟩
    · exact h3 c d q hC
    · exact hc hC
  · refine Or.inr ⟨i, j, h1, h2, hD i j h3, h4, fun c d hcd hC => ?_⟩
    rcases hD' c d hcd with q | ⟨rfl, rfl⟩
    · exact h5 c d q hC
    · exact absurd hC hc
theorem Bs_first {C : Nat → Nat → Prop} {p : Nat → Nat → Int} {D D' : Nat → Nat → Prop} {x2 : Int32} {a b : Nat} (h : Bs C p D (-1) x2) (hi : ∀ i j, D i j → i < 2147483648) (hab : D' a b) (hD' : ∀ i j, D' i j → D i j ∨ (i = a ∧ j = b)) (hc : C a b) : Bs C p D' (nI a) (nI b) := by
  rcases h with ⟨-, -, h3⟩ | ⟨i, j, h1, h2, h3, -⟩
  · refine Or.inr ⟨a, b, rfl, rfl, hab, hc, fun c d hcd hC => ?_⟩
    rcases hD' c d hcd with q | ⟨rfl, rfl⟩
    · exact absurd hC (h3 c d q)
    · exact Or.inr ⟨rfl, Or.inr ⟨rfl, Nat.le_refl d⟩⟩
  · exact absurd h1.symm (nI_nm1 (hi i j h3))
theorem Bs_keep {C : Nat → Nat → Prop} {p : Nat → Nat → Int} {D D' : Nat → Nat → Prop} {i j a b : Nat} (h : D i j ∧ C i j ∧ ∀ a b, D a b → C a b → Le p i j a b) (hD : ∀ i j, D i j → D' i j) (hD' : ∀ i j, D' i j → D i j ∨ (i = a ∧ j = b)) (hlex : ∀ i j, D i j → i < a ∨ (i = a ∧ j < b)) (hp : p i j ≤ p a b) : Bs C p D' (nI i) (nI j) := by
  refine Or.inr ⟨i, j, rfl, rfl, hD i j h.1, h.2.1, fun c d hcd hC => ?_⟩
  rcases hD' c d hcd with q | ⟨rfl, rfl⟩
  · exact h.2.2 c d q hC
  · have := hlex i j h.1
    unfold Le
    omega
theorem Bs_new {C : Nat → Nat → Prop} {p : Nat → Nat → Int} {D D' : Nat → Nat → Prop} {i j a b : Nat} (h : D i j ∧ C i j ∧ ∀ a b, D a b → C a b → Le p i j a b) (hab : D' a b) (hD' : ∀ i j, D' i j → D i j ∨ (i = a ∧ j = b)) (hc : C a b) (hp : p a b < p i j) : Bs C p D' (nI a) (nI b) := by
  refine Or.inr ⟨a, b, rfl, rfl, hab, hc, fun c d hcd hC => ?_⟩
  rcases hD' c d hcd with q | ⟨rfl, rfl⟩
  · have := h.2.2 c d q hC
    unfold Le at this ⊢
    omega
  · exact Or.inr ⟨rfl, Or.inr ⟨rfl, Nat.le_refl d⟩⟩
