/-! ===== the reference's circles of lesser cost: the rounds ===== -/
theorem nI_dv {t k : Nat} (ht : t < 2147483648) (hk : k < 2147483648) : nI t / nI k = nI (t / k) := by
  have hq : t / k < 2147483648 := Nat.lt_of_le_of_lt (Nat.div_le_self t k) ht
  rw [i32_eq, Int32.toInt_div, nI_i ht, nI_i hk, nI_i hq]
  have e : (t : Int).tdiv (k : Int) = ((t / k : Nat) : Int) := rfl
  rw [e]
  generalize t / k = v at hq ⊢
  exact bm32 (by omega) (by omega)
def snd (nn : Nat) (q : Nat → Nat → Int) (a : Nat) : Prop := ∃ b, b < nn ∧ 0 < q a b
def gts (nn : Nat) (q : Nat → Nat → Int) (b : Nat) : Prop := ∃ a, a < nn ∧ 0 < q a b
theorem r_sends {N nn : Nat} {q : Nat → Nat → Int} {a37 : Nat → Int32} (hN : 100 ≤ N) (h12 : nn ≤ 12) (hq : Q12 q a37) {a : Nat} (ha : a < 12) : Ok (fun r => (r = 1 ∧ snd nn q a) ∨ (r = 0 ∧ ¬ snd nn q a)) (f_X7_sends N (nI nn) a37 (nI a)) := by
  unfold f_X7_sends
  refine lq3_ok (fun m x1 x2 x3 => ∃ b, nI a = x1 ∧ x3 = nI b ∧ b + m = nn ∧ ((x2 = 1 ∧ snd nn q a) ∨ (x2 = 0 ∧ ∀ j, j < b → ¬ 0 < q a j))) ?_ N nn _ _ _ ⟨0, rfl, zero32, by omega, Or.inr ⟨rfl, fun j hj => absurd hj (Nat.not_lt_zero j)⟩⟩ (by omega)
  rintro m nx x1 x2 x3 ⟨b, rfl, rfl, hm, h⟩ ih
  unfold f_X7_sends_4
  refine ok_if (fun y => ?_) (fun y => ?_)
  · rw [nI_lei (by omega) (by omega)] at y
    have eb : b = nn := by omega
    subst eb
    rcases h with ⟨rfl, h⟩ | ⟨rfl, h⟩
    · exact ok_bz (Or.inr rfl) (ok_some (Or.inl ⟨rfl, h⟩))
    · exact ok_bz (Or.inl rfl) (ok_some (Or.inr ⟨rfl, fun ⟨j, hj, hp⟩ => h j hj hp⟩))
  rw [nI_lei (by omega) (by omega)] at y
  have hb : b < nn := by omega
  rcases h with ⟨rfl, h⟩ | ⟨rfl, h⟩
  · rw [if_neg (by decide), nI_s]
    exact ih (m - 1) _ _ _ (by omega) ⟨b + 1, rfl, rfl, by omega, Or.inl ⟨rfl, h⟩⟩
  · rw [if_pos rfl, i12, ck_N (show 12 * a + b < 144 by omega) (by omega), nI_c (show 12 * a + b < 2147483648 by omega)]
    refine ok_if (fun y2 => ?_) (fun y2 => ?_)
    · rw [i32_le, hq a b ha (by omega), show (0 : Int32).toInt = 0 by decide] at y2
      rw [nI_s]
      refine ih (m - 1) _ _ _ (by omega) ⟨b + 1, rfl, rfl, by omega, Or.inr ⟨rfl, fun j hj => ?_⟩⟩
      by_cases e : j = b
      · rw [e]; omega
      · exact h j (by omega)
    · rw [i32_le, hq a b ha (by omega), show (0 : Int32).toInt = 0 by decide] at y2
      rw [nI_s]
      exact ih (m - 1) _ _ _ (by omega) ⟨b + 1, rfl, rfl, by omega, Or.inl ⟨rfl, b, hb, by omega⟩⟩
theorem r_gets {N nn : Nat} {q : Nat → Nat → Int} {a37 : Nat → Int32} (hN : 100 ≤ N) (h12 : nn ≤ 12) (hq : Q12 q a37) {a : Nat} (ha : a < 12) : Ok (fun r => (r = 1 ∧ gts nn q a) ∨ (r = 0 ∧ ¬ gts nn q a)) (f_X7_gets N (nI nn) a37 (nI a)) := by
  unfold f_X7_gets
  refine lq3_ok (fun m x1 x2 x3 => ∃ b, nI a = x1 ∧ x3 = nI b ∧ b + m = nn ∧ ((x2 = 1 ∧ gts nn q a) ∨ (x2 = 0 ∧ ∀ j, j < b → ¬ 0 < q j a))) ?_ N nn _ _ _ ⟨0, rfl, zero32, by omega, Or.inr ⟨rfl, fun j hj => absurd hj (Nat.not_lt_zero j)⟩⟩ (by omega)
  rintro m nx x1 x2 x3 ⟨b, rfl, rfl, hm, h⟩ ih
  unfold f_X7_gets_4
  refine ok_if (fun y => ?_) (fun y => ?_)
  · rw [nI_lei (by omega) (by omega)] at y
    have eb : b = nn := by omega
    subst eb
    rcases h with ⟨rfl, h⟩ | ⟨rfl, h⟩
    · exact ok_bz (Or.inr rfl) (ok_some (Or.inl ⟨rfl, h⟩))
    · exact ok_bz (Or.inl rfl) (ok_some (Or.inr ⟨rfl, fun ⟨j, hj, hp⟩ => h j hj hp⟩))
  rw [nI_lei (by omega) (by omega)] at y
  have hb : b < nn := by omega
  rcases h with ⟨rfl, h⟩ | ⟨rfl, h⟩
  · rw [if_neg (by decide), nI_s]
    exact ih (m - 1) _ _ _ (by omega) ⟨b + 1, rfl, rfl, by omega, Or.inl ⟨rfl, h⟩⟩
  · rw [if_pos rfl, i12, ck_N (show 12 * b + a < 144 by omega) (by omega), nI_c (show 12 * b + a < 2147483648 by omega)]
    refine ok_if (fun y2 => ?_) (fun y2 => ?_)
    · rw [i32_le, hq b a (by omega) ha, show (0 : Int32).toInt = 0 by decide] at y2
      rw [nI_s]
      refine ih (m - 1) _ _ _ (by omega) ⟨b + 1, rfl, rfl, by omega, Or.inr ⟨rfl, fun j hj => ?_⟩⟩
      by_cases e : j = b
      · rw [e]; omega
      · exact h j (by omega)
    · rw [i32_le, hq b a (by omega) ha, show (0 : Int32).toInt = 0 by decide] at y2
      rw [nI_s]
      exact ih (m - 1) _ _ _ (by omega) ⟨b + 1, rfl, rfl, by omega, Or.inl ⟨rfl, b, hb, by omega⟩⟩
/-- what a step of the circle costs: a is left, b is come to; below 12: who sends, from 12 on: who gets -/
def CC1 (nn : Nat) (q S : Nat → Nat → Int) (a b : Nat) (z : Int) : Prop := (a < 12 ∧ 12 ≤ b ∧ snd nn q a ∧ gts nn q (b - 12) ∧ z = S a (b - 12)) ∨ (12 ≤ a ∧ b < 12 ∧ 0 < q b (a - 12) ∧ z = - S b (a - 12)) ∨ (¬ (a < 12 ∧ 12 ≤ b ∧ snd nn q a ∧ gts nn q (b - 12)) ∧ ¬ (12 ≤ a ∧ b < 12 ∧ 0 < q b (a - 12)) ∧ z = 1000000000000)
def CCP (nn : Nat) (q S c : Nat → Nat → Int) : Prop := ∀ a b, CC1 nn q S a b (c a b)
theorem CC1_u {nn : Nat} {q S : Nat → Nat → Int} {a b : Nat} {x y : Int} (hx : CC1 nn q S a b x) (hy : CC1 nn q S a b y) : x = y := by
  rcases hx with ⟨p1, p2, p3, p4, p5⟩ | ⟨p1, p2, p3, p4⟩ | ⟨p1, p2, p3⟩ <;> rcases hy with ⟨r1, r2, r3, r4, r5⟩ | ⟨r1, r2, r3, r4⟩ | ⟨r1, r2, r3⟩
  · rw [p5, r5]
  · omega
  · exact absurd ⟨p1, p2, p3, p4⟩ r1
  · omega
  · rw [p4, r4]
  · exact absurd ⟨p1, p2, p3⟩ r2
  · exact absurd ⟨r1, r2, r3, r4⟩ p1
  · exact absurd ⟨r1, r2, r3⟩ p2
  · rw [p3, r3]
theorem CCP_ex (nn : Nat) (q S : Nat → Nat → Int) : ∃ c, CCP nn q S c := by
  have h : ∀ a b, ∃ z, CC1 nn q S a b z := fun a b => by
    by_cases c1 : a < 12 ∧ 12 ≤ b ∧ snd nn q a ∧ gts nn q (b - 12)
    · exact ⟨_, Or.inl ⟨c1.1, c1.2.1, c1.2.2.1, c1.2.2.2, rfl⟩⟩
    · by_cases c2 : 12 ≤ a ∧ b < 12 ∧ 0 < q b (a - 12)
      · exact ⟨_, Or.inr (Or.inl ⟨c2.1, c2.2.1, c2.2.2, rfl⟩)⟩
      · exact ⟨_, Or.inr (Or.inr ⟨c1, c2, rfl⟩)⟩
  exact ⟨fun a b => Classical.choose (h a b), fun a b => Classical.choose_spec (h a b)⟩
theorem i12m {a b : Nat} (hb : 12 ≤ b) : (12 : Int32) * nI a + nI b - (12 : Int32) = nI (12 * a + (b - 12)) := by
  rw [i12, show (12 : Int32) = nI 12 by decide, pk_sub (by omega), show 12 * a + b - 12 = 12 * a + (b - 12) by omega]
theorem r_step46 {N nn : Nat} {q S : Nat → Nat → Int} {a37 : Nat → Int32} {b57 : Nat → Int64} (hq : Q12 q a37) (hS : ∀ a b, a < 12 → b < 12 → (b57 (12 * a + b)).toInt = S a b) (hr : ∀ a b, a < 12 → b < 12 → 0 < q a b → 0 ≤ S a b ∧ S a b ≤ 22000000) {a b : Nat} (ha : a < 24) (hb : b < 24) (hn : ¬ (a < 12 ∧ 12 ≤ b ∧ snd nn q a ∧ gts nn q (b - 12))) : Ok (fun r => CC1 nn q S a b r.toInt) (f_X7_step_46 N (nI nn) a37 b57 (nI a) (nI b)) := by
  have far : (1000000000000 : Int64).toInt = 1000000000000 := by decide
  unfold f_X7_step_46
  refine ok_if (fun y => ?_) (fun y => ?_)
  · rw [show (11 : Int32) = nI 11 by decide, nI_lei (by omega) (by omega)] at y
    exact ok_some (Or.inr (Or.inr ⟨hn, fun h => by omega, far⟩))
  rw [show (11 : Int32) = nI 11 by decide, nI_lei (by omega) (by omega)] at y
  refine ok_if (fun y2 => ?_) (fun y2 => ?_)
  · rw [show (12 : Int32) = nI 12 by decide, nI_lei (by omega) (by omega)] at y2
    exact ok_some (Or.inr (Or.inr ⟨hn, fun h => by omega, far⟩))
  rw [show (12 : Int32) = nI 12 by decide, nI_lei (by omega) (by omega)] at y2
  rw [i12m (by omega), ck_N (show 12 * b + (a - 12) < 144 by omega) (by omega), nI_c (show 12 * b + (a - 12) < 2147483648 by omega)]
  have e := hq b (a - 12) (by omega) (by omega)
  refine ok_if (fun y3 => ?_) (fun y3 => ?_)
  · rw [i32_le, e, show (0 : Int32).toInt = 0 by decide] at y3
    exact ok_some (Or.inr (Or.inr ⟨hn, fun h => by omega, far⟩))
  rw [i32_le, e, show (0 : Int32).toInt = 0 by decide] at y3
  rw [ck_N (show 12 * b + (a - 12) < 144 by omega) (by omega)]
  refine ok_some (Or.inr (Or.inl ⟨by omega, by omega, by omega, ?_⟩))
  have e2 := hS b (a - 12) (by omega) (by omega)
  have e3 := hr b (a - 12) (by omega) (by omega) (by omega)
  rw [Int64.toInt_neg, e2]
  exact bm64 (by omega) (by omega)
theorem r_step {N nn : Nat} {q S : Nat → Nat → Int} {a37 : Nat → Int32} {b57 : Nat → Int64} (hN : 100 ≤ N) (h12 : nn ≤ 12) (hq : Q12 q a37) (hS : ∀ a b, a < 12 → b < 12 → (b57 (12 * a + b)).toInt = S a b) (hr : ∀ a b, a < 12 → b < 12 → 0 < q a b → 0 ≤ S a b ∧ S a b ≤ 22000000) {a b : Nat} (ha : a < 24) (hb : b < 24) : Ok (fun r => CC1 nn q S a b r.toInt) (f_X7_step N (nI nn) a37 b57 (nI a) (nI b)) := by
  unfold f_X7_step
  refine ok_if (fun y => ?_) (fun y => ?_)
  · rw [show (12 : Int32) = nI 12 by decide, nI_lei (by omega) (by omega)] at y
    exact r_step46 hq hS hr ha hb (fun h => by omega)
  rw [show (12 : Int32) = nI 12 by decide, nI_lei (by omega) (by omega)] at y
  refine ok_if (fun y2 => ?_) (fun y2 => ?_)
  · rw [show (11 : Int32) = nI 11 by decide, nI_lei (by omega) (by omega)] at y2
    exact r_step46 hq hS hr ha hb (fun h => by omega)
  rw [show (11 : Int32) = nI 11 by decide, nI_lei (by omega) (by omega)] at y2
  refine ok_bd (r_sends hN h12 hq (show a < 12 by omega)) (fun o ho => ?_)
  refine ok_if (fun y3 => ?_) (fun y3 => ?_)
  · refine r_step46 hq hS hr ha hb (fun h => ?_)
    rcases ho with ⟨e, _⟩ | ⟨_, hn⟩
    · rw [e] at y3; exact absurd y3 (by decide)
    · exact hn h.2.2.1
  have hsn : snd nn q a := by
    rcases ho with ⟨_, h⟩ | ⟨e, _⟩
    · exact h
    · exact absurd e y3
  rw [show nI b - (12 : Int32) = nI (b - 12) from pk_sub (a := b) (b := 12) (by omega)]
  refine ok_bd (r_gets hN h12 hq (show b - 12 < 12 by omega)) (fun o2 ho2 => ?_)
  refine ok_if (fun y4 => ?_) (fun y4 => ?_)
  · refine r_step46 hq hS hr ha hb (fun h => ?_)
    rcases ho2 with ⟨e, _⟩ | ⟨_, hn⟩
    · rw [e] at y4; exact absurd y4 (by decide)
    · exact hn h.2.2.2
  have hgt : gts nn q (b - 12) := by
    rcases ho2 with ⟨_, h⟩ | ⟨e, _⟩
    · exact h
    · exact absurd e y4
  rw [i12m (by omega), ck_N (show 12 * a + (b - 12) < 144 by omega) (by omega), nI_c (show 12 * a + (b - 12) < 2147483648 by omega)]
  exact ok_some (Or.inl ⟨by omega, by omega, hsn, hgt, hS a (b - 12) (by omega) (by omega)⟩)
theorem CC_rng {nn : Nat} {q S c : Nat → Nat → Int} (hr : ∀ a b, a < 12 → b < 12 → (0 < q a b ∨ (snd nn q a ∧ gts nn q b)) → 0 ≤ S a b ∧ S a b ≤ 22000000) (hc : CCP nn q S c) {a b : Nat} (ha : a < 24) (hb : b < 24) : (a ≠ b ∧ -22000000 ≤ c a b ∧ c a b ≤ 22000000) ∨ c a b = 1000000000000 := by
  rcases hc a b with ⟨p1, p2, p3, p4, p5⟩ | ⟨p1, p2, p3, p4⟩ | ⟨p1, p2, p3⟩
  · have := hr a (b - 12) p1 (by omega) (Or.inr ⟨p3, p4⟩)
    omega
  · have := hr b (a - 12) p2 (by omega) (Or.inl p3)
    omega
  · exact Or.inr p3
theorem r_low {N nn : Nat} {q S c : Nat → Nat → Int} {a37 a40 : Nat → Int32} {b57 b58 : Nat → Int64} {P : Int32 × (Nat → Int32) × (Nat → Int32) × (Nat → Int64) → Prop} (hN : 20000 ≤ N) (h12 : nn ≤ 12) (hq : Q12 q a37) (hS : ∀ a b, a < 12 → b < 12 → (b57 (12 * a + b)).toInt = S a b) (hr : ∀ a b, a < 12 → b < 12 → (0 < q a b ∨ (snd nn q a ∧ gts nn q b)) → 0 ≤ S a b ∧ S a b ≤ 22000000) (hc : CCP nn q S c) (h0 : ∀ (d : Nat → Int) z3 z4, (∀ a b, a < 24 → b < 24 → c a b < 1000000000000 → d b ≤ d a + c a b) → P (0, a37, z3, z4)) (h1 : ∀ v K d bf R T z3 z4, v < 24 → BFI 24 c (fun _ => 0) (fun _ _ => False) 26 K d bf R T z3 → R v = 25 → Ok P (lq5 (f_X7_cheaper_158 N (nI nn) b57) N (nI v) 0 a37 z3 z4)) : Ok P (f_X7_cheaper N (nI nn) b57 a37 a40 b58) := by
  unfold f_X7_cheaper
  refine lq4_ok (fun m x1 z1 z3 z4 => ∃ t, x1 = nI t ∧ t + m = 24 ∧ a37 = z1 ∧ ∀ v, v < t → z3 v = -1 ∧ z4 v = 0) ?_ N 24 _ _ _ _ ⟨0, zero32, rfl, rfl, fun v hv => absurd hv (Nat.not_lt_zero v)⟩ (by omega)
  rintro m nx x1 z1 z3 z4 ⟨t, rfl, hm, rfl, hz⟩ ih
  unfold f_X7_cheaper_2
  refine ok_if (fun y => ?_) (fun y => ?_)
  rotate_left
  · rw [show (24 : Int32) = nI 24 by decide, nI_lei (by omega) (by omega)] at y
    rw [ck_N (show t < 24 by omega) (by omega), nI_c (show t < 2147483648 by omega)]
    refine ok_nmd ?_
    rw [ck_N (show t < 24 by omega) (by omega)]
    refine ok_nmd ?_
    rw [nI_s]
    refine ih (m - 1) _ _ _ _ (by omega) ⟨t + 1, rfl, by omega, rfl, fun v hv => ?_⟩
    by_cases e : v = t
    · rw [e, pk_us, upL, if_pos rfl]; exact ⟨rfl, rfl⟩
    · rw [pk_un e, upL, if_neg e]; exact hz v (by omega)
  rw [show (24 : Int32) = nI 24 by decide, nI_lei (by omega) (by omega)] at y
  have et : t = 24 := by omega
  subst et
  refine lq5_ok (fun m x1 x2 z1 z3 z4 => ∃ (r K : Nat) (d : Nat → Int) (bf R T : Nat → Nat), x2 = nI r ∧ r + m = 25 ∧ a37 = z1 ∧ BFI 24 c (fun _ => 0) (fun _ _ => False) (r + 1) K d bf R T z3 ∧ (∀ v, v < 24 → (z4 v).toInt = d v ∧ -22000000 * (K : Int) ≤ d v) ∧ K ≤ 576 * r ∧ (∀ v, v < 24 → R v ≤ r) ∧ ((x1 = -1 ∧ (r = 0 ∨ ∀ a b, a < 24 → b < 24 → c a b < 1000000000000 → d b ≤ d a + c a b)) ∨ ∃ v, v < 24 ∧ x1 = nI v ∧ R v = r)) ?_ N 25 _ _ _ _ _ ⟨0, 0, fun _ => 0, fun _ => 0, fun _ => 0, fun _ => 0, zero32, rfl, rfl, ⟨fun v hv => ⟨⟨Int.le_refl 0, (show (0 : Int) ≤ 1000000000000 by decide)⟩, Nat.zero_le _, Nat.le_refl _⟩, fun v hv _ => ⟨rfl, (hz v hv).1, rfl⟩, fun v hv h => absurd h (Nat.not_succ_le_zero 0), fun u v _ _ _ h => absurd h (Nat.not_succ_le_zero 0), fun a b _ _ _ _ _ => ⟨Nat.le_refl _, fun z => z.elim⟩⟩, fun v hv => ⟨by rw [(hz v hv).2]; exact (show (0 : Int64).toInt = 0 by decide), (show -22000000 * ((0 : Nat) : Int) ≤ 0 by decide)⟩, Nat.le_refl _, fun v hv => Nat.le_refl _, Or.inl ⟨rfl, Or.inl rfl⟩⟩ (by omega)
  clear ih nx hz
  rintro m nx x1 x2 z1 z3 z4 ⟨r, K, d, bf, R, T, rfl, hm, rfl, hB, hz, hK, hRr, hx⟩ ih
  unfold f_X7_cheaper_32
  refine ok_if (fun y => ?_) (fun y => ?_)
  · rw [show (25 : Int32) = nI 25 by decide, nI_lei (by omega) (by omega)] at y
    have er : r = 25 := by omega
    subst er
    refine ok_if (fun y2 => ?_) (fun y2 => ?_)
    · rcases hx with ⟨rfl, -⟩ | ⟨v, hv, rfl, hR⟩
      · exact absurd y2 (by decide)
      · exact h1 v K d bf R T z3 z4 hv hB hR
    · rcases hx with ⟨rfl, h | h⟩ | ⟨v, hv, rfl, hR⟩
      · omega
      · exact ok_bz (Or.inl rfl) (ok_some (h0 d z3 z4 h))
      · rw [zero32, nI_lei (by omega) (by omega)] at y2
        omega
  rw [show (25 : Int32) = nI 25 by decide, nI_lei (by omega) (by omega)] at y
  refine lq6_ok (fun m2 x1 y2 x3 z1 z3 z4 => ∃ (t K : Nat) (d : Nat → Int) (bf R T : Nat → Nat), nI r = y2 ∧ x3 = nI t ∧ t + m2 = 576 ∧ a37 = z1 ∧ BFI 24 c (fun _ => 0) (fun a b => b < 24 ∧ 24 * a + b < t) (r + 1) K d bf R T z3 ∧ (∀ v, v < 24 → (z4 v).toInt = d v ∧ -22000000 * (K : Int) ≤ d v) ∧ K ≤ 576 * r + t ∧ ((x1 = -1 ∧ ∀ v, v < 24 → R v < r + 1) ∨ ∃ v, v < 24 ∧ x1 = nI v ∧ R v = r + 1)) ?_ N 576 _ _ _ _ _ _ ⟨0, K, d, bf, R, T, rfl, zero32, rfl, rfl, BF_sc hB (fun i j _ _ h => absurd h.2 (Nat.not_lt_zero _)), hz, by omega, Or.inl ⟨rfl, fun v hv => by have := hRr v hv; omega⟩⟩ (by omega)
  clear hB hz hK hRr hx K d bf R T z3 z4 x1
  rintro m2 nx2 x1 y2 x3 z1 z3 z4 ⟨t, K, d, bf, R, T, rfl, rfl, hm2, rfl, hB, hz, hK, hx⟩ ih2
  unfold f_X7_cheaper_42
  refine ok_if (fun y3 => ?_) (fun y3 => ?_)
  · rw [show (576 : Int32) = nI 576 by decide, nI_lei (by omega) (by omega)] at y3
    have et : t = 576 := by omega
    subst et
    rw [nI_s]
    have sa : ∀ i j, i < 24 → j < 24 → j < 24 ∧ 24 * i + j < 576 := fun i j hi hj => by omega
    refine ih (m - 1) _ _ _ _ _ (by omega) ⟨r + 1, K, d, bf, R, T, rfl, by omega, rfl, BF_round hB sa, hz, by omega, fun v hv => (hB.1 v hv).2.1, ?_⟩
    rcases hx with ⟨rfl, hn⟩ | ⟨v, hv, rfl, hR⟩
    · refine Or.inl ⟨rfl, Or.inr (fun a b ha hb hcab => BF_fe hB sa hn a b ha hb ?_ hcab)⟩
      have this : d a ≤ 0 ∧ (0 : Int) ≤ 1000000000000 := (hB.1 a ha).1
      omega
    · exact Or.inr ⟨v, hv, rfl, hR⟩
  rw [show (576 : Int32) = nI 576 by decide, nI_lei (by omega) (by omega)] at y3
  obtain ⟨a, b, et, ha, hb⟩ : ∃ a b, t = 24 * a + b ∧ a < 24 ∧ b < 24 := ⟨t / 24, t % 24, by omega, by omega, by omega⟩
  subst et
  have e1 : nI (24 * a + b) / (24 : Int32) = nI a := by
    rw [show (24 : Int32) = nI 24 by decide, nI_dv (by omega) (by omega), show (24 * a + b) / 24 = a by omega]
  have e2 : nI (24 * a + b) - nI a * (24 : Int32) = nI b := by
    have e3 : nI a * (24 : Int32) = nI (24 * a) := by
      rw [i32_eq, show (24 : Int32) = nI 24 by decide, i32_mul] <;> rw [nI_i (show a < 2147483648 by omega), nI_i (show 24 < 2147483648 by omega)]
      · rw [nI_i (show 24 * a < 2147483648 by omega)]; omega
      · omega
      · omega
    rw [e3, pk_sub (by omega), show 24 * a + b - 24 * a = b by omega]
  have n24 : ¬ (24 : Int32) = 0 := by decide
  rw [e1, e2]
  refine ok_dv n24 (ok_dv n24 (ok_bd (r_step (by omega) h12 hq hS (fun i j hi hj h => hr i j hi hj (Or.inl h)) ha hb) (fun o ho => ?_)))
  have eo : o.toInt = c a b := CC1_u ho (hc a b)
  have far : (1000000000000 : Int64).toInt = 1000000000000 := by decide
  have hsc : ∀ i j, (j < 24 ∧ 24 * i + j < 24 * a + b + 1) → (j < 24 ∧ 24 * i + j < 24 * a + b) ∨ (i = a ∧ j = b) := fun i j h => by omega
  have skip : (d a < 1000000000000 → c a b < 1000000000000 → ¬ d a + c a b < d b) → Ok P (nx2 x1 (nI r) (nI (24 * a + b) + 1) a37 z3 z4) := fun h => by
    rw [nI_s]
    exact ih2 (m2 - 1) _ _ _ _ _ _ (by omega) ⟨24 * a + b + 1, K, d, bf, R, T, rfl, rfl, by omega, rfl, BF_skip hB h hsc, hz, by omega, hx⟩
  refine ok_if (fun y4 => ?_) (fun y4 => ?_)
  · rw [i64_le, far, eo] at y4
    exact skip (fun _ h => by omega)
  rw [i64_le, far, eo] at y4
  have hcr := CC_rng hr hc ha hb
  have za := hz a ha
  have zb := hz b hb
  have da : d a ≤ 0 ∧ (0 : Int) ≤ 1000000000000 := (hB.1 a ha).1
  have db : d b ≤ 0 ∧ (0 : Int) ≤ 1000000000000 := (hB.1 b hb).1
  have es : (z4 a + o).toInt = d a + c a b := by
    rw [i64_add] <;> rw [za.1, eo] <;> omega
  refine ok_dv n24 ?_
  rw [ck_N (show a < 24 by omega) (by omega)]
  refine ok_dv n24 ?_
  rw [ck_N (show b < 24 by omega) (by omega), nI_c (show a < 2147483648 by omega), nI_c (show b < 2147483648 by omega)]
  refine ok_if (fun y5 => ?_) (fun y5 => ?_)
  · rw [i64_le, es, zb.1] at y5
    exact skip (fun _ _ => by omega)
  rw [i64_le, es, zb.1] at y5
  refine ok_dv n24 (ok_dv n24 ?_)
  rw [ck_N (show a < 24 by omega) (by omega), ck_N (show b < 24 by omega) (by omega)]
  refine ok_nmd (ok_dv n24 (ok_dv n24 ?_))
  rw [ck_N (show b < 24 by omega) (by omega)]
  refine ok_nmd (ok_dv n24 ?_)
  rw [nI_s]
  refine ih2 (m2 - 1) _ _ _ _ _ _ (by omega) ⟨24 * a + b + 1, K + 1, up1 d b (d a + c a b), up1 bf b a, up1 R b (r + 1), up1 T b (K + 1), rfl, rfl, by omega, rfl, BF_upd hB ha hb (by omega) (by omega) (by omega) (by omega) hsc, fun v hv => ?_, by omega, Or.inr ⟨b, hb, rfl, up1_s⟩⟩
  by_cases e : v = b
  · subst e
    rw [upL, if_pos rfl, up1_s, es]
    exact ⟨rfl, by omega⟩
  · rw [upL, if_neg e, up1_n e]
    have := hz v hv
    exact ⟨this.1, by omega⟩
