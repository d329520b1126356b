/-! ===== the reference's way over ways: the sum at the end ===== -/
theorem S1_part (F : Nat → Int) (k : Nat) : ∀ j, S1 (k + j) F = S1 k F + S1 j (fun b => F (k + b)) := by
  intro j
  induction j with
  | zero => show S1 k F = S1 k F + 0; omega
  | succ j ih =>
    show S1 (k + j) F + F (k + j) = S1 k F + (S1 j (fun b => F (k + b)) + F (k + j))
    rw [ih]
    omega
theorem S1_rows (f : Nat → Nat → Int) : ∀ k, S1 (12 * k) (fun t => f (t / 12) (t % 12)) = S1 k (fun a => S1 12 (f a)) := by
  intro k
  induction k with
  | zero => rfl
  | succ k ih =>
    rw [show 12 * (k + 1) = 12 * k + 12 by omega, S1_part, ih]
    show _ = S1 k (fun a => S1 12 (f a)) + S1 12 (f k)
    congr 1
    refine S1_congr (fun b hb => ?_)
    show f ((12 * k + b) / 12) ((12 * k + b) % 12) = f k b
    rw [show (12 * k + b) / 12 = k by omega, show (12 * k + b) % 12 = b by omega]
theorem S1_cut {n k : Nat} {f : Nat → Int} (h : n ≤ k) (hz : ∀ i, n ≤ i → i < k → f i = 0) : S1 k f = S1 n f := by
  rw [show k = n + (k - n) by omega, S1_part, S1_congr (f := fun b => f (n + b)) (g := fun _ => 0) (fun i hi => hz (n + i) (by omega) (by omega)), S1_zero]
  omega
theorem qS_rng {nn : Nat} {w q S : Nat → Nat → Int} (h12 : nn ≤ 12) (hA : QA nn w q) (hr : ∀ a b, hs nn w a → hs nn w b → 0 ≤ S a b ∧ S a b ≤ 22000000) {a b : Nat} (ha : a < 12) (hb : b < 12) : 0 ≤ S a b * q a b ∧ S a b * q a b ≤ 3168000000 := by
  by_cases c : q a b = 0
  · rw [c, Int.mul_zero]; decide
  · have h0 := (hA.1 a b ha hb).1
    obtain ⟨h1, h2⟩ := (hA.1 a b ha hb).2 c
    have h3 := hr a b h1 h2
    have h4 := q_leB (B := 144) (by decide) hA.1 hA.2.2 ha hb h12
    refine ⟨Int.mul_nonneg h3.1 h0, ?_⟩
    exact Int.le_trans (Int.mul_le_mul h3.2 h4 h0 (by decide)) (by decide)
theorem cost_rng {nn : Nat} {w q S : Nat → Nat → Int} (h12 : nn ≤ 12) (hA : QA nn w q) (hr : ∀ a b, hs nn w a → hs nn w b → 0 ≤ S a b ∧ S a b ≤ 22000000) : 0 ≤ cost nn S q ∧ cost nn S q ≤ 456192000000 := by
  unfold cost
  refine ⟨S2_nonneg (fun i j hi hj => (qS_rng h12 hA hr (by omega) (by omega)).1), ?_⟩
  have := S2_bd (f := fun a b => S a b * q a b) (c := 3168000000) h12 (by decide) (fun i j hi hj => (qS_rng h12 hA hr (by omega) (by omega)).2)
  omega
theorem cost_144 {nn : Nat} {w q S : Nat → Nat → Int} (h12 : nn ≤ 12) (hA : QA nn w q) : S1 144 (fun t => S (t / 12) (t % 12) * q (t / 12) (t % 12)) = cost nn S q := by
  have z : ∀ a b, a < 12 → b < 12 → (nn ≤ a ∨ nn ≤ b) → S a b * q a b = 0 := fun a b ha hb h => by
    have : q a b = 0 := Classical.byContradiction (fun c => by
      have z0 := (hA.1 a b ha hb).2 c
      have z1 := z0.1.1
      have z2 := z0.2.1
      omega)
    rw [this, Int.mul_zero]
  have e := S1_rows (fun a b => S a b * q a b) 12
  rw [show 144 = 12 * 12 by decide]
  refine e.trans ?_
  unfold cost
  rw [S1_cut h12 (fun a ha1 ha2 => by
    rw [S1_congr (g := fun _ => 0) (fun b hb => z a b ha2 hb (Or.inl ha1)), S1_zero])]
  exact S1_congr (fun a ha => S1_cut h12 (fun b hb1 hb2 => z a b (by omega) hb2 (Or.inr hb1)))
theorem r_last {N nn : Nat} {w q S : Nat → Nat → Int} {b54 b57 : Nat → Int64} {x : Int64} {z1 z2 z3 : Nat → Int32} {z4 : Nat → Int64} (hN : 5000 ≤ N) (hw : WW nn w) (hA : QA nn w q) (hq : Q12 q z1) (hS : ∀ a b, a < 12 → b < 12 → (b57 (12 * a + b)).toInt = S a b) (hr : ∀ a b, hs nn w a → hs nn w b → 0 ≤ S a b ∧ S a b ≤ 22000000) (hx : x.toInt = SW nn w) : Ok (fun r => r.1.toInt = SW nn w + cost nn S q ∧ z1 = r.2.1) (lq6 (f_X7_one_236 N (nI nn) b54 b57) N x 0 z1 z2 z3 z4) := by
  have h12 := hw.2.1
  have sr := SW_rng hw (Nat.le_refl nn)
  have sr : 0 ≤ SW nn w ∧ SW nn w ≤ 144000000 := sr
  refine lq6_ok (fun m x1 x4 y1 y2 y3 y4 => ∃ t, x4 = nI t ∧ t + m = 144 ∧ z1 = y1 ∧ x1.toInt = SW nn w + S1 t (fun t => S (t / 12) (t % 12) * q (t / 12) (t % 12))) ?_ N 144 _ _ _ _ _ _ ⟨0, zero32, rfl, rfl, by rw [hx]; show _ = _ + (0 : Int); omega⟩ (by omega)
  rintro m nx x1 x4 y1 y2 y3 y4 ⟨t, rfl, hm, rfl, hx1⟩ ih
  unfold f_X7_one_236
  refine ok_if (fun y => ?_) (fun y => ?_)
  · rw [show (144 : Int32) = nI 144 by decide, nI_lei (by omega) (by omega)] at y
    have et : t = 144 := by omega
    subst et
    rw [cost_144 h12 hA] at hx1
    exact ok_some ⟨hx1, rfl⟩
  rw [show (144 : Int32) = nI 144 by decide, nI_lei (by omega) (by omega)] at y
  have eq := hq (t / 12) (t % 12) (by omega) (by omega)
  have eS := hS (t / 12) (t % 12) (by omega) (by omega)
  rw [show 12 * (t / 12) + t % 12 = t by omega] at eq eS
  have q0 := (hA.1 (t / 12) (t % 12) (by omega) (by omega)).1
  have tr := qS_rng h12 hA hr (show t / 12 < 12 by omega) (show t % 12 < 12 by omega)
  have b1 := S1_bound (n := t) (f := fun t => S (t / 12) (t % 12) * q (t / 12) (t % 12)) (c := 3168000000) (fun i hi => (qS_rng h12 hA hr (show i / 12 < 12 by omega) (show i % 12 < 12 by omega)).2)
  have b2 : 0 ≤ S1 t (fun t => S (t / 12) (t % 12) * q (t / 12) (t % 12)) := S1_nonneg (fun i hi => (qS_rng h12 hA hr (show i / 12 < 12 by omega) (show i % 12 < 12 by omega)).1)
  have es : S1 (t + 1) (fun t => S (t / 12) (t % 12) * q (t / 12) (t % 12)) = S1 t (fun t => S (t / 12) (t % 12) * q (t / 12) (t % 12)) + S (t / 12) (t % 12) * q (t / 12) (t % 12) := rfl
  rw [ck_N (show t < 144 by omega) (by omega), nI_c (show t < 2147483648 by omega)]
  refine ok_if (fun y2 => ?_) (fun y2 => ?_)
  · rw [i32_le, eq, show (0 : Int32).toInt = 0 by decide] at y2
    rw [nI_s]
    refine ih (m - 1) _ _ _ _ _ _ (by omega) ⟨t + 1, rfl, by omega, rfl, ?_⟩
    rw [es, show q (t / 12) (t % 12) = 0 by omega, Int.mul_zero, hx1]
    omega
  rw [ck_N (show t < 144 by omega) (by omega), ck_N (show t < 144 by omega) (by omega), nI_s]
  refine ok_nmd (ih (m - 1) _ _ _ _ _ _ (by omega) ⟨t + 1, rfl, by omega, rfl, ?_⟩)
  have em : ((z1 t).toInt64 * b57 t).toInt = S (t / 12) (t % 12) * q (t / 12) (t % 12) := by
    rw [i64_mul] <;> rw [i64_of32, eq, eS, Int.mul_comm] <;> omega
  rw [es, i64_add] <;> rw [em, hx1] <;> omega
def RPF (nn : Nat) (w S : Nat → Nat → Int) (x : Int) : Prop := ∃ q, QA nn w q ∧ QP nn q S ∧ x = SW nn w + cost nn S q
theorem r_wayOne {N nn : Nat} {w S : Nat → Nat → Int} {b54 b57 : Nat → Int64} {a37 a38 a40 : Nat → Int32} {b58 : Nat → Int64} (hN : 1000000000000000 ≤ N) (hw : WW nn w) (hR : Rw nn w b54) (h37 : ∀ a b, a < 12 → b < 12 → (nn ≤ a ∨ nn ≤ b) → a37 (12 * a + b) = 0) (hS : ∀ a b, a < 12 → b < 12 → (b57 (12 * a + b)).toInt = S a b) (hr : ∀ a b, hs nn w a → hs nn w b → 0 ≤ S a b ∧ S a b ≤ 22000000) : Ok (fun r => RPF nn w S r.1.toInt ∧ ∀ a b, a < 12 → b < 12 → (nn ≤ a ∨ nn ≤ b) → r.2.1 (12 * a + b) = 0) (f_X7_one N (nI nn) b54 b57 a37 a38 a40 b58) := by
  have h12 := hw.2.1
  refine r_one (by omega) hw hR h37 (fun x q z1 z2 hx hA hq => ?_)
  have cr := cost_rng h12 hA hr
  refine lq6_ok (fun m x1 x3 z1 z2 z3 z4 => ∃ q, x = x1 ∧ QA nn w q ∧ Q12 q z1 ∧ ((x3 = 1 ∧ (m : Int) = cost nn S q + 1) ∨ (x3 = 0 ∧ QP nn q S))) ?_ N (cost nn S q + 1).toNat _ _ _ _ _ _ ⟨q, rfl, hA, hq, Or.inl ⟨rfl, by omega⟩⟩ (by omega)
  clear hA hq cr q z1 z2
  rintro m nx x1 x3 z1 z2 z3 z4 ⟨q, rfl, hA, hq, h⟩ ih
  unfold f_X7_one_221
  refine ok_if (fun y => ?_) (fun y => ?_)
  · have hQP : QP nn q S := by
      rcases h with ⟨e, _⟩ | ⟨_, h⟩
      · rw [e] at y; exact absurd y (by decide)
      · exact h
    refine ok_mono (r_last (by omega) hw hA hq hS hr hx) (fun r hr2 => ⟨⟨q, hA, hQP, hr2.1⟩, fun a b ha hb hab => ?_⟩)
    rw [← hr2.2, i32_eq, hq a b ha hb]
    show q a b = 0
    refine Classical.byContradiction (fun c => ?_)
    have z0 := (hA.1 a b ha hb).2 c
    have z1 := z0.1.1
    have z2 := z0.2.1
    omega
  obtain ⟨rfl, hm⟩ : x3 = 1 ∧ (m : Int) = cost nn S q + 1 := by
    rcases h with h | ⟨e, _⟩
    · exact h
    · exact absurd e y
  have cr := cost_rng h12 hA hr
  refine ok_bd (r_cheaper (by omega) h12 hq hA hS hr) (fun o ho => ?_)
  rcases ho with ⟨h1, h2, h3⟩ | ⟨h1, q', h2, h3, h4⟩
  · exact ih 0 _ _ _ _ _ _ (by omega) ⟨q, rfl, hA, by rw [← h2]; exact hq, Or.inr ⟨h1, h3⟩⟩
  · have cr' := cost_rng h12 h2 hr
    exact ih (cost nn S q' + 1).toNat _ _ _ _ _ _ (by omega) ⟨q', rfl, h2, h3, Or.inl ⟨h1, by omega⟩⟩
