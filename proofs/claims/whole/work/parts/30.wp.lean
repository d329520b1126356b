/-! ===== the pure side: 'the answer is there, and has the property' ===== -/
def Ok {ρ : Type} (P : ρ → Prop) (o : Option ρ) : Prop := ∃ r, o = some r ∧ P r
theorem ok_some {ρ : Type} {P : ρ → Prop} {r : ρ} (h : P r) : Ok P (some r) := ⟨r, rfl, h⟩
theorem ok_mono {ρ : Type} {P Q : ρ → Prop} {o : Option ρ} (h : Ok P o) (f : ∀ r, P r → Q r) : Ok Q o := by
  obtain ⟨r, e, hr⟩ := h
  exact ⟨r, e, f r hr⟩
theorem ok_ck {ρ : Type} {P : ρ → Prop} {i : Int32} {n : Nat} {k : Option ρ} (h : vp_in i n) (hk : Ok P k) : Ok P (ck i n k) := by
  unfold ck
  rw [if_neg h]
  exact hk
theorem ok_ckN {ρ : Type} {P : ρ → Prop} {i n : Nat} {k : Option ρ} (h : i < n) (hn : n < 2 ^ 31) (hk : Ok P k) : Ok P (ck (nI i) n k) := ok_ck (vp_in_nI h hn) hk
theorem ok_dv {ρ : Type} {P : ρ → Prop} {x : Int32} {k : Option ρ} (h : ¬ x = 0) (hk : Ok P k) : Ok P (dv x k) := by
  unfold dv
  rw [if_neg h]
  exact hk
theorem ok_dvl {ρ : Type} {P : ρ → Prop} {x : Int64} {k : Option ρ} (h : ¬ x = 0) (hk : Ok P k) : Ok P (dvl x k) := by
  unfold dvl
  rw [if_neg h]
  exact hk
theorem ok_bz {ρ : Type} {P : ρ → Prop} {x : Int32} {k : Option ρ} (h : x = 0 ∨ x = 1) (hk : Ok P k) : Ok P (bz x k) := by
  unfold bz
  rw [if_pos h]
  exact hk
theorem ok_fck {ρ : Type} {P : ρ → Prop} {n : Nat} {k : Option ρ} (h : n < 2147483648) (hk : Ok P k) : Ok P (fck n k) := by
  unfold fck
  rw [if_pos h]
  exact hk
theorem ok_nmd {α ρ : Type} {P : ρ → Prop} {e : α} {k : α → Option ρ} (h : Ok P (k e)) : Ok P (nmd e k) := h
theorem ok_bd {α ρ : Type} {P : ρ → Prop} {Q : α → Prop} {o : Option α} {k : α → Option ρ} (ho : Ok Q o) (hk : ∀ x, Q x → Ok P (k x)) : Ok P (bd o k) := by
  obtain ⟨x, e, hx⟩ := ho
  subst e
  exact hk x hx
theorem ok_if {ρ : Type} {P : ρ → Prop} {c : Prop} [Decidable c] {a b : Option ρ} (ht : c → Ok P a) (hf : ¬ c → Ok P b) : Ok P (if c then a else b) := by
  by_cases h : c
  · rw [if_pos h]; exact ht h
  · rw [if_neg h]; exact hf h
theorem lq1_ok {T1 ρ : Type} {F : (T1 → Option ρ) → T1 → Option ρ} {P : ρ → Prop} (Inv : Nat → T1 → Prop) (step : ∀ (m : Nat) (nx : T1 → Option ρ) (x1 : T1), Inv m x1 → (∀ (m' : Nat) (y1 : T1), m' < m → Inv m' y1 → Ok P (nx y1)) → Ok P (F nx x1)) : ∀ (N m : Nat) (x1 : T1), Inv m x1 → m < N → Ok P (lq1 F N x1) := by
  intro N
  induction N with
  | zero => intro m x1 _ h; exact absurd h (Nat.not_lt_zero m)
  | succ n ih =>
    intro m x1 hI h
    exact step m (lq1 F n) x1 hI (fun m' y1 hm hI' => ih m' y1 hI' (by omega))
theorem lq2_ok {T1 T2 ρ : Type} {F : (T1 → T2 → Option ρ) → T1 → T2 → Option ρ} {P : ρ → Prop} (Inv : Nat → T1 → T2 → Prop) (step : ∀ (m : Nat) (nx : T1 → T2 → Option ρ) (x1 : T1) (x2 : T2), Inv m x1 x2 → (∀ (m' : Nat) (y1 : T1) (y2 : T2), m' < m → Inv m' y1 y2 → Ok P (nx y1 y2)) → Ok P (F nx x1 x2)) : ∀ (N m : Nat) (x1 : T1) (x2 : T2), Inv m x1 x2 → m < N → Ok P (lq2 F N x1 x2) := by
  intro N
  induction N with
  | zero => intro m x1 x2 _ h; exact absurd h (Nat.not_lt_zero m)
  | succ n ih =>
    intro m x1 x2 hI h
    exact step m (lq2 F n) x1 x2 hI (fun m' y1 y2 hm hI' => ih m' y1 y2 hI' (by omega))
theorem lq3_ok {T1 T2 T3 ρ : Type} {F : (T1 → T2 → T3 → Option ρ) → T1 → T2 → T3 → Option ρ} {P : ρ → Prop} (Inv : Nat → T1 → T2 → T3 → Prop) (step : ∀ (m : Nat) (nx : T1 → T2 → T3 → Option ρ) (x1 : T1) (x2 : T2) (x3 : T3), Inv m x1 x2 x3 → (∀ (m' : Nat) (y1 : T1) (y2 : T2) (y3 : T3), m' < m → Inv m' y1 y2 y3 → Ok P (nx y1 y2 y3)) → Ok P (F nx x1 x2 x3)) : ∀ (N m : Nat) (x1 : T1) (x2 : T2) (x3 : T3), Inv m x1 x2 x3 → m < N → Ok P (lq3 F N x1 x2 x3) := by
  intro N
  induction N with
  | zero => intro m x1 x2 x3 _ h; exact absurd h (Nat.not_lt_zero m)
  | succ n ih =>
    intro m x1 x2 x3 hI h
    exact step m (lq3 F n) x1 x2 x3 hI (fun m' y1 y2 y3 hm hI' => ih m' y1 y2 y3 hI' (by omega))
theorem lq4_ok {T1 T2 T3 T4 ρ : Type} {F : (T1 → T2 → T3 → T4 → Option ρ) → T1 → T2 → T3 → T4 → Option ρ} {P : ρ → Prop} (Inv : Nat → T1 → T2 → T3 → T4 → Prop) (step : ∀ (m : Nat) (nx : T1 → T2 → T3 → T4 → Option ρ) (x1 : T1) (x2 : T2) (x3 : T3) (x4 : T4), Inv m x1 x2 x3 x4 → (∀ (m' : Nat) (y1 : T1) (y2 : T2) (y3 : T3) (y4 : T4), m' < m → Inv m' y1 y2 y3 y4 → Ok P (nx y1 y2 y3 y4)) → Ok P (F nx x1 x2 x3 x4)) : ∀ (N m : Nat) (x1 : T1) (x2 : T2) (x3 : T3) (x4 : T4), Inv m x1 x2 x3 x4 → m < N → Ok P (lq4 F N x1 x2 x3 x4) := by
  intro N
  induction N with
  | zero => intro m x1 x2 x3 x4 _ h; exact absurd h (Nat.not_lt_zero m)
  | succ n ih =>
    intro m x1 x2 x3 x4 hI h
    exact step m (lq4 F n) x1 x2 x3 x4 hI (fun m' y1 y2 y3 y4 hm hI' => ih m' y1 y2 y3 y4 hI' (by omega))
theorem lq5_ok {T1 T2 T3 T4 T5 ρ : Type} {F : (T1 → T2 → T3 → T4 → T5 → Option ρ) → T1 → T2 → T3 → T4 → T5 → Option ρ} {P : ρ → Prop} (Inv : Nat → T1 → T2 → T3 → T4 → T5 → Prop) (step : ∀ (m : Nat) (nx : T1 → T2 → T3 → T4 → T5 → Option ρ) (x1 : T1) (x2 : T2) (x3 : T3) (x4 : T4) (x5 : T5), Inv m x1 x2 x3 x4 x5 → (∀ (m' : Nat) (y1 : T1) (y2 : T2) (y3 : T3) (y4 : T4) (y5 : T5), m' < m → Inv m' y1 y2 y3 y4 y5 → Ok P (nx y1 y2 y3 y4 y5)) → Ok P (F nx x1 x2 x3 x4 x5)) : ∀ (N m : Nat) (x1 : T1) (x2 : T2) (x3 : T3) (x4 : T4) (x5 : T5), Inv m x1 x2 x3 x4 x5 → m < N → Ok P (lq5 F N x1 x2 x3 x4 x5) := by
  intro N
  induction N with
  | zero => intro m x1 x2 x3 x4 x5 _ h; exact absurd h (Nat.not_lt_zero m)
  | succ n ih =>
    intro m x1 x2 x3 x4 x5 hI h
    exact step m (lq5 F n) x1 x2 x3 x4 x5 hI (fun m' y1 y2 y3 y4 y5 hm hI' => ih m' y1 y2 y3 y4 y5 hI' (by omega))
theorem lq6_ok {T1 T2 T3 T4 T5 T6 ρ : Type} {F : (T1 → T2 → T3 → T4 → T5 → T6 → Option ρ) → T1 → T2 → T3 → T4 → T5 → T6 → Option ρ} {P : ρ → Prop} (Inv : Nat → T1 → T2 → T3 → T4 → T5 → T6 → Prop) (step : ∀ (m : Nat) (nx : T1 → T2 → T3 → T4 → T5 → T6 → Option ρ) (x1 : T1) (x2 : T2) (x3 : T3) (x4 : T4) (x5 : T5) (x6 : T6), Inv m x1 x2 x3 x4 x5 x6 → (∀ (m' : Nat) (y1 : T1) (y2 : T2) (y3 : T3) (y4 : T4) (y5 : T5) (y6 : T6), m' < m → Inv m' y1 y2 y3 y4 y5 y6 → Ok P (nx y1 y2 y3 y4 y5 y6)) → Ok P (F nx x1 x2 x3 x4 x5 x6)) : ∀ (N m : Nat) (x1 : T1) (x2 : T2) (x3 : T3) (x4 : T4) (x5 : T5) (x6 : T6), Inv m x1 x2 x3 x4 x5 x6 → m < N → Ok P (lq6 F N x1 x2 x3 x4 x5 x6) := by
  intro N
  induction N with
  | zero => intro m x1 x2 x3 x4 x5 x6 _ h; exact absurd h (Nat.not_lt_zero m)
  | succ n ih =>
    intro m x1 x2 x3 x4 x5 x6 hI h
    exact step m (lq6 F n) x1 x2 x3 x4 x5 x6 hI (fun m' y1 y2 y3 y4 y5 y6 hm hI' => ih m' y1 y2 y3 y4 y5 y6 hI' (by omega))
theorem lq7_ok {T1 T2 T3 T4 T5 T6 T7 ρ : Type} {F : (T1 → T2 → T3 → T4 → T5 → T6 → T7 → Option ρ) → T1 → T2 → T3 → T4 → T5 → T6 → T7 → Option ρ} {P : ρ → Prop} (Inv : Nat → T1 → T2 → T3 → T4 → T5 → T6 → T7 → Prop) (step : ∀ (m : Nat) (nx : T1 → T2 → T3 → T4 → T5 → T6 → T7 → Option ρ) (x1 : T1) (x2 : T2) (x3 : T3) (x4 : T4) (x5 : T5) (x6 : T6) (x7 : T7), Inv m x1 x2 x3 x4 x5 x6 x7 → (∀ (m' : Nat) (y1 : T1) (y2 : T2) (y3 : T3) (y4 : T4) (y5 : T5) (y6 : T6) (y7 : T7), m' < m → Inv m' y1 y2 y3 y4 y5 y6 y7 → Ok P (nx y1 y2 y3 y4 y5 y6 y7)) → Ok P (F nx x1 x2 x3 x4 x5 x6 x7)) : ∀ (N m : Nat) (x1 : T1) (x2 : T2) (x3 : T3) (x4 : T4) (x5 : T5) (x6 : T6) (x7 : T7), Inv m x1 x2 x3 x4 x5 x6 x7 → m < N → Ok P (lq7 F N x1 x2 x3 x4 x5 x6 x7) := by
  intro N
  induction N with
  | zero => intro m x1 x2 x3 x4 x5 x6 x7 _ h; exact absurd h (Nat.not_lt_zero m)
  | succ n ih =>
    intro m x1 x2 x3 x4 x5 x6 x7 hI h
    exact step m (lq7 F n) x1 x2 x3 x4 x5 x6 x7 hI (fun m' y1 y2 y3 y4 y5 y6 y7 hm hI' => ih m' y1 y2 y3 y4 y5 y6 y7 hI' (by omega))
theorem lq8_ok {T1 T2 T3 T4 T5 T6 T7 T8 ρ : Type} {F : (T1 → T2 → T3 → T4 → T5 → T6 → T7 → T8 → Option ρ) → T1 → T2 → T3 → T4 → T5 → T6 → T7 → T8 → Option ρ} {P : ρ → Prop} (Inv : Nat → T1 → T2 → T3 → T4 → T5 → T6 → T7 → T8 → Prop) (step : ∀ (m : Nat) (nx : T1 → T2 → T3 → T4 → T5 → T6 → T7 → T8 → Option ρ) (x1 : T1) (x2 : T2) (x3 : T3) (x4 : T4) (x5 : T5) (x6 : T6) (x7 : T7) (x8 : T8), Inv m x1 x2 x3 x4 x5 x6 x7 x8 → (∀ (m' : Nat) (y1 : T1) (y2 : T2) (y3 : T3) (y4 : T4) (y5 : T5) (y6 : T6) (y7 : T7) (y8 : T8), m' < m → Inv m' y1 y2 y3 y4 y5 y6 y7 y8 → Ok P (nx y1 y2 y3 y4 y5 y6 y7 y8)) → Ok P (F nx x1 x2 x3 x4 x5 x6 x7 x8)) : ∀ (N m : Nat) (x1 : T1) (x2 : T2) (x3 : T3) (x4 : T4) (x5 : T5) (x6 : T6) (x7 : T7) (x8 : T8), Inv m x1 x2 x3 x4 x5 x6 x7 x8 → m < N → Ok P (lq8 F N x1 x2 x3 x4 x5 x6 x7 x8) := by
  intro N
  induction N with
  | zero => intro m x1 x2 x3 x4 x5 x6 x7 x8 _ h; exact absurd h (Nat.not_lt_zero m)
  | succ n ih =>
    intro m x1 x2 x3 x4 x5 x6 x7 x8 hI h
    exact step m (lq8 F n) x1 x2 x3 x4 x5 x6 x7 x8 hI (fun m' y1 y2 y3 y4 y5 y6 y7 y8 hm hI' => ih m' y1 y2 y3 y4 y5 y6 y7 y8 hI' (by omega))
theorem lq9_ok {T1 T2 T3 T4 T5 T6 T7 T8 T9 ρ : Type} {F : (T1 → T2 → T3 → T4 → T5 → T6 → T7 → T8 → T9 → Option ρ) → T1 → T2 → T3 → T4 → T5 → T6 → T7 → T8 → T9 → Option ρ} {P : ρ → Prop} (Inv : Nat → T1 → T2 → T3 → T4 → T5 → T6 → T7 → T8 → T9 → Prop) (step : ∀ (m : Nat) (nx : T1 → T2 → T3 → T4 → T5 → T6 → T7 → T8 → T9 → Option ρ) (x1 : T1) (x2 : T2) (x3 : T3) (x4 : T4) (x5 : T5) (x6 : T6) (x7 : T7) (x8 : T8) (x9 : T9), Inv m x1 x2 x3 x4 x5 x6 x7 x8 x9 → (∀ (m' : Nat) (y1 : T1) (y2 : T2) (y3 : T3) (y4 : T4) (y5 : T5) (y6 : T6) (y7 : T7) (y8 : T8) (y9 : T9), m' < m → Inv m' y1 y2 y3 y4 y5 y6 y7 y8 y9 → Ok P (nx y1 y2 y3 y4 y5 y6 y7 y8 y9)) → Ok P (F nx x1 x2 x3 x4 x5 x6 x7 x8 x9)) : ∀ (N m : Nat) (x1 : T1) (x2 : T2) (x3 : T3) (x4 : T4) (x5 : T5) (x6 : T6) (x7 : T7) (x8 : T8) (x9 : T9), Inv m x1 x2 x3 x4 x5 x6 x7 x8 x9 → m < N → Ok P (lq9 F N x1 x2 x3 x4 x5 x6 x7 x8 x9) := by
  intro N
  induction N with
  | zero => intro m x1 x2 x3 x4 x5 x6 x7 x8 x9 _ h; exact absurd h (Nat.not_lt_zero m)
  | succ n ih =>
    intro m x1 x2 x3 x4 x5 x6 x7 x8 x9 hI h
    exact step m (lq9 F n) x1 x2 x3 x4 x5 x6 x7 x8 x9 hI (fun m' y1 y2 y3 y4 y5 y6 y7 y8 y9 hm hI' => ih m' y1 y2 y3 y4 y5 y6 y7 y8 y9 hI' (by omega))
theorem lq10_ok {T1 T2 T3 T4 T5 T6 T7 T8 T9 T10 ρ : Type} {F : (T1 → T2 → T3 → T4 → T5 → T6 → T7 → T8 → T9 → T10 → Option ρ) → T1 → T2 → T3 → T4 → T5 → T6 → T7 → T8 → T9 → T10 → Option ρ} {P : ρ → Prop} (Inv : Nat → T1 → T2 → T3 → T4 → T5 → T6 → T7 → T8 → T9 → T10 → Prop) (step : ∀ (m : Nat) (nx : T1 → T2 → T3 → T4 → T5 → T6 → T7 → T8 → T9 → T10 → Option ρ) (x1 : T1) (x2 : T2) (x3 : T3) (x4 : T4) (x5 : T5) (x6 : T6) (x7 : T7) (x8 : T8) (x9 : T9) (x10 : T10), Inv m x1 x2 x3 x4 x5 x6 x7 x8 x9 x10 → (∀ (m' : Nat) (y1 : T1) (y2 : T2) (y3 : T3) (y4 : T4) (y5 : T5) (y6 : T6) (y7 : T7) (y8 : T8) (y9 : T9) (y10 : T10), m' < m → Inv m' y1 y2 y3 y4 y5 y6 y7 y8 y9 y10 → Ok P (nx y1 y2 y3 y4 y5 y6 y7 y8 y9 y10)) → Ok P (F nx x1 x2 x3 x4 x5 x6 x7 x8 x9 x10)) : ∀ (N m : Nat) (x1 : T1) (x2 : T2) (x3 : T3) (x4 : T4) (x5 : T5) (x6 : T6) (x7 : T7) (x8 : T8) (x9 : T9) (x10 : T10), Inv m x1 x2 x3 x4 x5 x6 x7 x8 x9 x10 → m < N → Ok P (lq10 F N x1 x2 x3 x4 x5 x6 x7 x8 x9 x10) := by
  intro N
  induction N with
  | zero => intro m x1 x2 x3 x4 x5 x6 x7 x8 x9 x10 _ h; exact absurd h (Nat.not_lt_zero m)
  | succ n ih =>
    intro m x1 x2 x3 x4 x5 x6 x7 x8 x9 x10 hI h
    exact step m (lq10 F n) x1 x2 x3 x4 x5 x6 x7 x8 x9 x10 hI (fun m' y1 y2 y3 y4 y5 y6 y7 y8 y9 y10 hm hI' => ih m' y1 y2 y3 y4 y5 y6 y7 y8 y9 y10 hI' (by omega))
theorem lq11_ok {T1 T2 T3 T4 T5 T6 T7 T8 T9 T10 T11 ρ : Type} {F : (T1 → T2 → T3 → T4 → T5 → T6 → T7 → T8 → T9 → T10 → T11 → Option ρ) → T1 → T2 → T3 → T4 → T5 → T6 → T7 → T8 → T9 → T10 → T11 → Option ρ} {P : ρ → Prop} (Inv : Nat → T1 → T2 → T3 → T4 → T5 → T6 → T7 → T8 → T9 → T10 → T11 → Prop) (step : ∀ (m : Nat) (nx : T1 → T2 → T3 → T4 → T5 → T6 → T7 → T8 → T9 → T10 → T11 → Option ρ) (x1 : T1) (x2 : T2) (x3 : T3) (x4 : T4) (x5 : T5) (x6 : T6) (x7 : T7) (x8 : T8) (x9 : T9) (x10 : T10) (x11 : T11), Inv m x1 x2 x3 x4 x5 x6 x7 x8 x9 x10 x11 → (∀ (m' : Nat) (y1 : T1) (y2 : T2) (y3 : T3) (y4 : T4) (y5 : T5) (y6 : T6) (y7 : T7) (y8 : T8) (y9 : T9) (y10 : T10) (y11 : T11), m' < m → Inv m' y1 y2 y3 y4 y5 y6 y7 y8 y9 y10 y11 → Ok P (nx y1 y2 y3 y4 y5 y6 y7 y8 y9 y10 y11)) → Ok P (F nx x1 x2 x3 x4 x5 x6 x7 x8 x9 x10 x11)) : ∀ (N m : Nat) (x1 : T1) (x2 : T2) (x3 : T3) (x4 : T4) (x5 : T5) (x6 : T6) (x7 : T7) (x8 : T8) (x9 : T9) (x10 : T10) (x11 : T11), Inv m x1 x2 x3 x4 x5 x6 x7 x8 x9 x10 x11 → m < N → Ok P (lq11 F N x1 x2 x3 x4 x5 x6 x7 x8 x9 x10 x11) := by
  intro N
  induction N with
  | zero => intro m x1 x2 x3 x4 x5 x6 x7 x8 x9 x10 x11 _ h; exact absurd h (Nat.not_lt_zero m)
  | succ n ih =>
    intro m x1 x2 x3 x4 x5 x6 x7 x8 x9 x10 x11 hI h
    exact step m (lq11 F n) x1 x2 x3 x4 x5 x6 x7 x8 x9 x10 x11 hI (fun m' y1 y2 y3 y4 y5 y6 y7 y8 y9 y10 y11 hm hI' => ih m' y1 y2 y3 y4 y5 y6 y7 y8 y9 y10 y11 hI' (by omega))
theorem lq12_ok {T1 T2 T3 T4 T5 T6 T7 T8 T9 T10 T11 T12 ρ : Type} {F : (T1 → T2 → T3 → T4 → T5 → T6 → T7 → T8 → T9 → T10 → T11 → T12 → Option ρ) → T1 → T2 → T3 → T4 → T5 → T6 → T7 → T8 → T9 → T10 → T11 → T12 → Option ρ} {P : ρ → Prop} (Inv : Nat → T1 → T2 → T3 → T4 → T5 → T6 → T7 → T8 → T9 → T10 → T11 → T12 → Prop) (step : ∀ (m : Nat) (nx : T1 → T2 → T3 → T4 → T5 → T6 → T7 → T8 → T9 → T10 → T11 → T12 → Option ρ) (x1 : T1) (x2 : T2) (x3 : T3) (x4 : T4) (x5 : T5) (x6 : T6) (x7 : T7) (x8 : T8) (x9 : T9) (x10 : T10) (x11 : T11) (x12 : T12), Inv m x1 x2 x3 x4 x5 x6 x7 x8 x9 x10 x11 x12 → (∀ (m' : Nat) (y1 : T1) (y2 : T2) (y3 : T3) (y4 : T4) (y5 : T5) (y6 : T6) (y7 : T7) (y8 : T8) (y9 : T9) (y10 : T10) (y11 : T11) (y12 : T12), m' < m → Inv m' y1 y2 y3 y4 y5 y6 y7 y8 y9 y10 y11 y12 → Ok P (nx y1 y2 y3 y4 y5 y6 y7 y8 y9 y10 y11 y12)) → Ok P (F nx x1 x2 x3 x4 x5 x6 x7 x8 x9 x10 x11 x12)) : ∀ (N m : Nat) (x1 : T1) (x2 : T2) (x3 : T3) (x4 : T4) (x5 : T5) (x6 : T6) (x7 : T7) (x8 : T8) (x9 : T9) (x10 : T10) (x11 : T11) (x12 : T12), Inv m x1 x2 x3 x4 x5 x6 x7 x8 x9 x10 x11 x12 → m < N → Ok P (lq12 F N x1 x2 x3 x4 x5 x6 x7 x8 x9 x10 x11 x12) := by
  intro N
  induction N with
  | zero => intro m x1 x2 x3 x4 x5 x6 x7 x8 x9 x10 x11 x12 _ h; exact absurd h (Nat.not_lt_zero m)
  | succ n ih =>
    intro m x1 x2 x3 x4 x5 x6 x7 x8 x9 x10 x11 x12 hI h
    exact step m (lq12 F n) x1 x2 x3 x4 x5 x6 x7 x8 x9 x10 x11 x12 hI (fun m' y1 y2 y3 y4 y5 y6 y7 y8 y9 y10 y11 y12 hm hI' => ih m' y1 y2 y3 y4 y5 y6 y7 y8 y9 y10 y11 y12 hI' (by omega))
theorem lq13_ok {T1 T2 T3 T4 T5 T6 T7 T8 T9 T10 T11 T12 T13 ρ : Type} {F : (T1 → T2 → T3 → T4 → T5 → T6 → T7 → T8 → T9 → T10 → T11 → T12 → T13 → Option ρ) → T1 → T2 → T3 → T4 → T5 → T6 → T7 → T8 → T9 → T10 → T11 → T12 → T13 → Option ρ} {P : ρ → Prop} (Inv : Nat → T1 → T2 → T3 → T4 → T5 → T6 → T7 → T8 → T9 → T10 → T11 → T12 → T13 → Prop) (step : ∀ (m : Nat) (nx : T1 → T2 → T3 → T4 → T5 → T6 → T7 → T8 → T9 → T10 → T11 → T12 → T13 → Option ρ) (x1 : T1) (x2 : T2) (x3 : T3) (x4 : T4) (x5 : T5) (x6 : T6) (x7 : T7) (x8 : T8) (x9 : T9) (x10 : T10) (x11 : T11) (x12 : T12) (x13 : T13), Inv m x1 x2 x3 x4 x5 x6 x7 x8 x9 x10 x11 x12 x13 → (∀ (m' : Nat) (y1 : T1) (y2 : T2) (y3 : T3) (y4 : T4) (y5 : T5) (y6 : T6) (y7 : T7) (y8 : T8) (y9 : T9) (y10 : T10) (y11 : T11) (y12 : T12) (y13 : T13), m' < m → Inv m' y1 y2 y3 y4 y5 y6 y7 y8 y9 y10 y11 y12 y13 → Ok P (nx y1 y2 y3 y4 y5 y6 y7 y8 y9 y10 y11 y12 y13)) → Ok P (F nx x1 x2 x3 x4 x5 x6 x7 x8 x9 x10 x11 x12 x13)) : ∀ (N m : Nat) (x1 : T1) (x2 : T2) (x3 : T3) (x4 : T4) (x5 : T5) (x6 : T6) (x7 : T7) (x8 : T8) (x9 : T9) (x10 : T10) (x11 : T11) (x12 : T12) (x13 : T13), Inv m x1 x2 x3 x4 x5 x6 x7 x8 x9 x10 x11 x12 x13 → m < N → Ok P (lq13 F N x1 x2 x3 x4 x5 x6 x7 x8 x9 x10 x11 x12 x13) := by
  intro N
  induction N with
  | zero => intro m x1 x2 x3 x4 x5 x6 x7 x8 x9 x10 x11 x12 x13 _ h; exact absurd h (Nat.not_lt_zero m)
  | succ n ih =>
    intro m x1 x2 x3 x4 x5 x6 x7 x8 x9 x10 x11 x12 x13 hI h
    exact step m (lq13 F n) x1 x2 x3 x4 x5 x6 x7 x8 x9 x10 x11 x12 x13 hI (fun m' y1 y2 y3 y4 y5 y6 y7 y8 y9 y10 y11 y12 y13 hm hI' => ih m' y1 y2 y3 y4 y5 y6 y7 y8 y9 y10 y11 y12 y13 hI' (by omega))
theorem lq14_ok {T1 T2 T3 T4 T5 T6 T7 T8 T9 T10 T11 T12 T13 T14 ρ : Type} {F : (T1 → T2 → T3 → T4 → T5 → T6 → T7 → T8 → T9 → T10 → T11 → T12 → T13 → T14 → Option ρ) → T1 → T2 → T3 → T4 → T5 → T6 → T7 → T8 → T9 → T10 → T11 → T12 → T13 → T14 → Option ρ} {P : ρ → Prop} (Inv : Nat → T1 → T2 → T3 → T4 → T5 → T6 → T7 → T8 → T9 → T10 → T11 → T12 → T13 → T14 → Prop) (step : ∀ (m : Nat) (nx : T1 → T2 → T3 → T4 → T5 → T6 → T7 → T8 → T9 → T10 → T11 → T12 → T13 → T14 → Option ρ) (x1 : T1) (x2 : T2) (x3 : T3) (x4 : T4) (x5 : T5) (x6 : T6) (x7 : T7) (x8 : T8) (x9 : T9) (x10 : T10) (x11 : T11) (x12 : T12) (x13 : T13) (x14 : T14), Inv m x1 x2 x3 x4 x5 x6 x7 x8 x9 x10 x11 x12 x13 x14 → (∀ (m' : Nat) (y1 : T1) (y2 : T2) (y3 : T3) (y4 : T4) (y5 : T5) (y6 : T6) (y7 : T7) (y8 : T8) (y9 : T9) (y10 : T10) (y11 : T11) (y12 : T12) (y13 : T13) (y14 : T14), m' < m → Inv m' y1 y2 y3 y4 y5 y6 y7 y8 y9 y10 y11 y12 y13 y14 → Ok P (nx y1 y2 y3 y4 y5 y6 y7 y8 y9 y10 y11 y12 y13 y14)) → Ok P (F nx x1 x2 x3 x4 x5 x6 x7 x8 x9 x10 x11 x12 x13 x14)) : ∀ (N m : Nat) (x1 : T1) (x2 : T2) (x3 : T3) (x4 : T4) (x5 : T5) (x6 : T6) (x7 : T7) (x8 : T8) (x9 : T9) (x10 : T10) (x11 : T11) (x12 : T12) (x13 : T13) (x14 : T14), Inv m x1 x2 x3 x4 x5 x6 x7 x8 x9 x10 x11 x12 x13 x14 → m < N → Ok P (lq14 F N x1 x2 x3 x4 x5 x6 x7 x8 x9 x10 x11 x12 x13 x14) := by
  intro N
  induction N with
  | zero => intro m x1 x2 x3 x4 x5 x6 x7 x8 x9 x10 x11 x12 x13 x14 _ h; exact absurd h (Nat.not_lt_zero m)
  | succ n ih =>
    intro m x1 x2 x3 x4 x5 x6 x7 x8 x9 x10 x11 x12 x13 x14 hI h
    exact step m (lq14 F n) x1 x2 x3 x4 x5 x6 x7 x8 x9 x10 x11 x12 x13 x14 hI (fun m' y1 y2 y3 y4 y5 y6 y7 y8 y9 y10 y11 y12 y13 y14 hm hI' => ih m' y1 y2 y3 y4 y5 y6 y7 y8 y9 y10 y11 y12 y13 y14 hI' (by omega))
/-! numbers -/
theorem i32_eq {x y : Int32} : x = y ↔ x.toInt = y.toInt := ⟨fun h => by rw [h], Int32.toInt_inj.mp⟩
theorem i64_eq {x y : Int64} : x = y ↔ x.toInt = y.toInt := ⟨fun h => by rw [h], Int64.toInt_inj.mp⟩
theorem i32_le {x y : Int32} : x ≤ y ↔ x.toInt ≤ y.toInt := Int32.le_iff_toInt_le
theorem i32_lt {x y : Int32} : x < y ↔ x.toInt < y.toInt := Int32.lt_iff_toInt_lt
theorem i64_le {x y : Int64} : x ≤ y ↔ x.toInt ≤ y.toInt := Int64.le_iff_toInt_le
theorem i64_lt {x y : Int64} : x < y ↔ x.toInt < y.toInt := Int64.lt_iff_toInt_lt
theorem i32_rng (x : Int32) : -2147483648 ≤ x.toInt ∧ x.toInt < 2147483648 := ⟨Int32.le_toInt x, Int32.toInt_lt x⟩
theorem i64_rng (x : Int64) : -9223372036854775808 ≤ x.toInt ∧ x.toInt < 9223372036854775808 := ⟨Int64.le_toInt x, Int64.toInt_lt x⟩
theorem bm32 {z : Int} (h1 : -2147483648 ≤ z) (h2 : z < 2147483648) : z.bmod (2 ^ 32) = z := by
  rw [Int.bmod_def]; omega
theorem bm64 {z : Int} (h1 : -9223372036854775808 ≤ z) (h2 : z < 9223372036854775808) : z.bmod (2 ^ 64) = z := by
  rw [Int.bmod_def]; omega
theorem i32_add {x y : Int32} (h1 : -2147483648 ≤ x.toInt + y.toInt) (h2 : x.toInt + y.toInt < 2147483648) : (x + y).toInt = x.toInt + y.toInt := by
  rw [Int32.toInt_add]; exact bm32 h1 h2
theorem i32_sub {x y : Int32} (h1 : -2147483648 ≤ x.toInt - y.toInt) (h2 : x.toInt - y.toInt < 2147483648) : (x - y).toInt = x.toInt - y.toInt := by
  rw [Int32.toInt_sub]; exact bm32 h1 h2
theorem i32_mul {x y : Int32} (h1 : -2147483648 ≤ x.toInt * y.toInt) (h2 : x.toInt * y.toInt < 2147483648) : (x * y).toInt = x.toInt * y.toInt := by
  rw [Int32.toInt_mul]; exact bm32 h1 h2
theorem i64_add {x y : Int64} (h1 : -9223372036854775808 ≤ x.toInt + y.toInt) (h2 : x.toInt + y.toInt < 9223372036854775808) : (x + y).toInt = x.toInt + y.toInt := by
  rw [Int64.toInt_add]; exact bm64 h1 h2
theorem i64_sub {x y : Int64} (h1 : -9223372036854775808 ≤ x.toInt - y.toInt) (h2 : x.toInt - y.toInt < 9223372036854775808) : (x - y).toInt = x.toInt - y.toInt := by
  rw [Int64.toInt_sub]; exact bm64 h1 h2
theorem i64_mul {x y : Int64} (h1 : -9223372036854775808 ≤ x.toInt * y.toInt) (h2 : x.toInt * y.toInt < 9223372036854775808) : (x * y).toInt = x.toInt * y.toInt := by
  rw [Int64.toInt_mul]; exact bm64 h1 h2
theorem i64_of32 (x : Int32) : x.toInt64.toInt = x.toInt := Int32.toInt_toInt64 x
theorem nI_c {n : Nat} (h : n < 2147483648) : (nI n).toNatClampNeg = n := nI_clamp h
theorem nI_i {n : Nat} (h : n < 2147483648) : (nI n).toInt = (n : Int) := nI_toInt h
theorem nI_lei {a b : Nat} (ha : a < 2147483648) (hb : b < 2147483648) : nI a ≤ nI b ↔ a ≤ b := nI_leI ha hb
theorem nI_lti {a b : Nat} (ha : a < 2147483648) (hb : b < 2147483648) : nI a < nI b ↔ a < b := nI_ltI ha hb
theorem nI_eqi {a b : Nat} (ha : a < 2147483648) (hb : b < 2147483648) : nI a = nI b ↔ a = b := nI_eq ha hb
theorem one32 : (1 : Int32) = nI 1 := by decide
theorem zero32 : (0 : Int32) = nI 0 := by decide
theorem m1_toInt : (-1 : Int32).toInt = -1 := by decide
theorem nI_nm1 {n : Nat} (h : n < 2147483648) : ¬ nI n = (-1 : Int32) := by
  rw [i32_eq, nI_i h, m1_toInt]; omega
theorem nI_s (n : Nat) : nI n + (1 : Int32) = nI (n + 1) := nI_1 n
/-- what an index may be: outside, or a place below n -/
theorem ix_cases (x : Int32) {n : Nat} (hn : n < 2147483648) : (x < 0 ∨ nI n ≤ x) ∨ ∃ j, j < n ∧ x = nI j := by
  rcases pk_ix x hn with h | h | h
  · exact Or.inl (Or.inl h)
  · exact Or.inl (Or.inr h)
  · exact Or.inr h
