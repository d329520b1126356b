/-! ===== the least way over ways: both alike ===== -/
theorem dual {nn : Nat} (π : Nat → Int) (q : Nat → Nat → Int) : S2 nn (fun a b => (π b - π a) * q a b) = - S1 nn (fun v => π v * net nn q v) := by
  have e1 : S2 nn (fun a b => π a * q a b) = S1 nn (fun a => π a * S1 nn (q a)) := S1_congr (fun a _ => S1_mul)
  have e2 : S2 nn (fun a b => π b * q a b) = S1 nn (fun b => π b * S1 nn (fun a => q a b)) := by
    rw [S2_swap]
    exact S1_congr (fun b _ => S1_mul)
  have e3 : S2 nn (fun a b => (π b - π a) * q a b) = S2 nn (fun a b => π b * q a b) - S2 nn (fun a b => π a * q a b) := by
    rw [← S2_sub]
    exact S2_congr (fun a b _ _ => Int.sub_mul _ _ _)
  have e4 : S1 nn (fun v => π v * net nn q v) = S1 nn (fun a => π a * S1 nn (q a)) - S1 nn (fun b => π b * S1 nn (fun a => q a b)) := by
    rw [← S1_sub]
    exact S1_congr (fun v _ => Int.mul_sub _ _ _)
  rw [e3, e4, e1, e2]
  omega
theorem mul_le_q {a b q : Int} (hq : 0 ≤ q) (h : 0 < q → a ≤ b) : a * q ≤ b * q := by
  by_cases c : q = 0
  · rw [c]; omega
  · exact Int.mul_le_mul_of_nonneg_right (h (by omega)) hq
theorem mini {P : Nat → Prop} {f : Nat → Int} : ∀ n, (∃ s, s < n ∧ P s) → ∃ s, s < n ∧ P s ∧ ∀ t, t < n → P t → f s ≤ f t := by
  intro n
  induction n with
  | zero => rintro ⟨s, h, _⟩; exact absurd h (Nat.not_lt_zero s)
  | succ n ih =>
    rintro ⟨s, hs, hp⟩
    by_cases c : ∃ s, s < n ∧ P s
    · obtain ⟨k, h1, h2, h3⟩ := ih c
      by_cases c2 : P n ∧ f n < f k
      · refine ⟨n, by omega, c2.1, fun t ht hpt => ?_⟩
        by_cases e : t = n
        · rw [e]; exact Int.le_refl _
        · have := h3 t (by omega) hpt
          omega
      · refine ⟨k, by omega, h2, fun t ht hpt => ?_⟩
        by_cases e : t = n
        · rw [e] at hpt ⊢
          exact Int.not_lt.mp (fun z => c2 ⟨hpt, z⟩)
        · exact h3 t (by omega) hpt
    · have e : s = n := Classical.byContradiction (fun e => c ⟨s, by omega, hp⟩)
      subst e
      refine ⟨s, by omega, hp, fun t ht hpt => ?_⟩
      by_cases e : t = s
      · rw [e]; exact Int.le_refl _
      · exact absurd ⟨t, by omega, hpt⟩ c
/-- lengths between places with streets: of a walk, and none is shorter -/
def SL (nn : Nat) (w S : Nat → Nat → Int) : Prop := (∀ a b, hs nn w a → hs nn w b → ∃ k, Wk nn w k a b (S a b)) ∧ ∀ a b k l, a < nn → b < nn → Wk nn w k a b l → S a b ≤ l
theorem walk_pot {nn : Nat} {w : Nat → Nat → Int} {π : Nat → Int} (h : ∀ a b, a < nn → b < nn → w a b ≠ -1 → π b ≤ π a + w a b) : ∀ k a b l, a < nn → b < nn → Wk nn w k a b l → π b ≤ π a + l := by
  intro k
  induction k with
  | zero =>
    rintro a b l ha hb ⟨h1, h2⟩
    rw [h1, h2]
    omega
  | succ k ih =>
    rintro a b l ha hb ⟨c, z, h1, h2, h3, h4⟩
    have q1 := ih a c z ha h1 h2
    have q2 := h c b h1 hb h3
    omega
theorem CPF_RPF {nn : Nat} {w S : Nat → Nat → Int} {x x' : Int} (hw : WW nn w) (hL : SL nn w S) (h : CPF nn w x) (h' : RPF nn w S x') : x = x' := by
  obtain ⟨y, π, hS, hny, rfl⟩ := h
  obtain ⟨q, ⟨hQ, hnq, -⟩, ⟨u, v, hu, hv⟩, rfl⟩ := h'
  have h12 := hw.2.1
  have sums : ∀ φ : Nat → Int, S2 nn (fun a b => (φ b - φ a) * q a b) = S2 nn (fun a b => (φ b - φ a) * y a b) := fun φ => by
    rw [dual, dual, S1_congr (f := fun v => φ v * net nn q v) (g := fun v => φ v * net nn y v) (fun i hi => by show φ i * net nn q i = φ i * net nn y i; rw [hnq i hi, hny i hi])]
  have le1 : cost nn w y ≤ cost nn S q := by
    have a1 : cost nn w y = S2 nn (fun a b => (π b - π a) * y a b) := S2_congr (fun a b ha hb => by
      by_cases c : y a b = 0
      · rw [c, Int.mul_zero, Int.mul_zero]
      · have := (hS.1 a b ha hb).2 (by have := (hS.1 a b ha hb).1; omega)
        rw [show w a b = π b - π a by omega])
    rw [a1, ← sums]
    refine S2_le (fun a b ha hb => mul_le_q (hQ a b (by omega) (by omega)).1 (fun hp => ?_))
    obtain ⟨h1, h2⟩ := (hQ a b (by omega) (by omega)).2 (by omega)
    obtain ⟨k, hk⟩ := hL.1 a b h1 h2
    have := walk_pot hS.2 k a b _ ha hb hk
    omega
  have le2 : cost nn S q ≤ cost nn w y := by
    by_cases c : ∃ s, s < nn ∧ snd nn q s
    · have hφ : ∀ x, ∃ z : Int, (∃ s, s < nn ∧ snd nn q s ∧ z = u s + S s x) ∧ ∀ t, t < nn → snd nn q t → z ≤ u t + S t x := fun x => by
        obtain ⟨s, h1, h2, h3⟩ := mini (f := fun s => u s + S s x) nn c
        exact ⟨_, ⟨s, h1, h2, rfl⟩, h3⟩
      obtain ⟨φ, hφ⟩ : ∃ φ : Nat → Int, ∀ x, (∃ s, s < nn ∧ snd nn q s ∧ φ x = u s + S s x) ∧ ∀ t, t < nn → snd nn q t → φ x ≤ u t + S t x := ⟨fun x => Classical.choose (hφ x), fun x => Classical.choose_spec (hφ x)⟩
      have ss : ∀ s, s < nn → snd nn q s → hs nn w s := fun s hs ⟨b, hb, hp⟩ => ((hQ s b (by omega) (by omega)).2 (by omega)).1
      have up : S2 nn (fun a b => S a b * q a b) ≤ S2 nn (fun a b => (φ b - φ a) * q a b) := S2_le (fun a b ha hb => mul_le_q (hQ a b (by omega) (by omega)).1 (fun hp => by
        have s1 := (hφ a).2 a ha ⟨b, hb, hp⟩
        have s2 := hL.2 a a 0 0 ha ha ⟨rfl, rfl⟩
        obtain ⟨s, h1, h2, h3⟩ := (hφ b).1
        have s3 := hu s b (by omega) (by omega) h2 ⟨a, ha, hp⟩
        have s4 := hv a b (by omega) (by omega) hp
        omega))
      have dn : S2 nn (fun a b => (φ b - φ a) * y a b) ≤ S2 nn (fun a b => w a b * y a b) := S2_le (fun a b ha hb => mul_le_q (hS.1 a b ha hb).1 (fun hp => by
        have hne := ((hS.1 a b ha hb).2 hp).1
        obtain ⟨s, h1, h2, h3⟩ := (hφ a).1
        have s1 := (hφ b).2 s h1 h2
        obtain ⟨k, hk⟩ := hL.1 s a (ss s h1 h2) ⟨ha, (way_street ha hb hne).1⟩
        have s2 := hL.2 s b _ _ h1 hb (Wk_cat hk 1 b _ (Wk_one ha hne))
        omega))
      rw [← sums] at dn
      exact Int.le_trans up dn
    · have z : cost nn S q = 0 := by
        unfold cost
        rw [S2_congr (g := fun _ _ => 0) (fun a b ha hb => ?_), S2_zero]
        have : q a b = 0 := Classical.byContradiction (fun hn => c ⟨a, ha, b, hb, by have := (hQ a b (by omega) (by omega)).1; omega⟩)
        rw [this, Int.mul_zero]
      rw [z]
      refine S2_nonneg (fun a b ha hb => ?_)
      have y0 := (hS.1 a b ha hb).1
      by_cases c2 : y a b = 0
      · rw [c2, Int.mul_zero]; decide
      · have := (hS.1 a b ha hb).2 (by omega)
        have := hw.2.2.1 a b ha hb
        exact Int.mul_nonneg (by omega) y0
  omega
theorem t_way {N nn : Nat} {w : Nat → Nat → Int} {g0 g1 g3 g4 : Nat → Nat → Int32} {b54 : Nat → Int64} {i2 i3 i5 i8 : Int32} {a28 a29 a30 a31 a32 a34 a37 a38 a40 : Nat → Int32} {b53 b56 b57 b58 : Nat → Int64} (hN : 1000000000000000 ≤ N) (hw : WW nn w) (h0 : Cw nn w g0) (h1 : Cs nn w g1) (hR : Rw nn w b54) (hP : PRel nn i3 a30 i8 a34) (h37 : ∀ a b, a < 12 → b < 12 → (nn ≤ a ∨ nn ≤ b) → a37 (12 * a + b) = 0) : ∃ r s, f_X6_postman N nn (nI nn) g0 g1 i2 i3 a28 a29 a30 a31 a32 b53 g3 g4 1 = some r ∧ f_X7_postman N (nI nn) b54 i5 i8 a34 a37 a38 a40 b56 b57 b58 1 = some s ∧ r.1 = s.1 ∧ s.2.1 = 0 ∧ PRel nn r.2.2.1 r.2.2.2.2.2.1 s.2.2.1 s.2.2.2.1 ∧ ∀ a b, a < 12 → b < 12 → (nn ≤ a ∨ nn ≤ b) → s.2.2.2.2.1 (12 * a + b) = 0 := by
  have h12 := hw.2.1
  obtain ⟨o, eo, hD, ho⟩ := r_short (b57 := b57) (d := true) hN hw hR
  have eo : f_X7_shorten N (nI nn) b54 b57 1 = some o := eo
  have hD : DS nn w o.2 := hD
  obtain ⟨x, ex, hx⟩ := c_lead (N := N) (by omega) hw h0 h1
  unfold f_X6_postman f_X7_postman
  rw [eo, if_neg (show ¬ (1 : Int32) = 0 by decide)]
  unfold f_X5_leastWay
  rw [ex]
  rcases hx with ⟨rfl, hT⟩ | ⟨rfl, a, b, ha, hb, sa, sb, hn⟩
  · have hall : ∀ a b, hs nn w a → hs nn w b → 0 ≤ (o.2 (12 * a + b)).toInt ∧ (o.2 (12 * a + b)).toInt ≤ 22000000 := fun a b sa sb => by
      obtain ⟨k, l, hk, l0, l1⟩ := hT a b sa.1 sb.1 sa.2 sb.2
      have := hD a b sa.1 sb.1
      have := this.2.2.2 k l hk
      omega
    have e1 : o.1 = 1 := by
      rcases ho with h | ⟨_, a, b, ha, hb, sa, sb, h⟩
      · exact h.1
      · have := hall a b ⟨ha, sa⟩ ⟨hb, sb⟩
        omega
    obtain ⟨p, ep, hp1, hp2, hp3⟩ := c_once (N := N) (g4 := g4) (a31 := a31) (by omega) hw h0
    obtain ⟨r, er, hr⟩ := c_wayPost (N := N) (g1 := g1) (a32 := a32) (b53 := b53) (by omega) hw h0 hT hp1 hp2 hp3
    obtain ⟨t, et, ht, ht2⟩ := r_wayOne (S := fun a b => (o.2 (12 * a + b)).toInt) (a38 := a38) (a40 := a40) (b58 := b58) hN hw hR h37 (fun a b _ _ => rfl) hall
    have hL : SL nn w (fun a b => (o.2 (12 * a + b)).toInt) := ⟨fun a b sa sb => (hD a b sa.1 sb.1).2.2.1 (by have := hall a b sa sb; omega), fun a b k l ha hb hk => (hD a b ha hb).2.2.2 k l hk⟩
    have e2 : r.1.toInt = t.1.toInt := CPF_RPF hw hL hr ht
    have h10 : ¬ (1 : Int32) = 0 := by decide
    simp only [bd, e1, if_neg h10, ep, er, et]
    exact ⟨_, _, rfl, rfl, i64_eq.mpr e2, rfl, hP, ht2⟩
  · have e1 : o.1 = 0 := by
      rcases ho with ⟨_, hall⟩ | ⟨h, -⟩
      · obtain ⟨k, hk⟩ := (hD a b ha hb).2.2.1 (hall a b ha hb sa sb)
        exact absurd ⟨k, _, hk⟩ hn
      · exact h
    simp only [bd, e1, if_pos]
    exact ⟨_, _, rfl, rfl, rfl, rfl, hP, h37⟩
