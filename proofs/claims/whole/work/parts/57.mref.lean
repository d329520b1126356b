/-! ===== the reference's pairs, and both alike ===== -/
theorem bt_xor {s t k : Nat} : bt (s ^^^ t) k = (bt s k ^^ bt t k) := by
  unfold bt
  rw [Nat.testBit_xor]
theorem xo_wo {t b : Nat} (ht : t < 4096) (h0 : t ≠ 0) (hb : bt t b = true) (hbl : b ≠ lo 12 t) : (t ^^^ 2 ^ lo 12 t) ^^^ 2 ^ b = wo t b := by
  have h12 : t < 2 ^ 12 := ht
  obtain ⟨l1, l2, l3⟩ := lo_12 (nn := 12) (Nat.le_refl 12) h12 h0
  have hb12 := bt_lt h12 hb
  refine bt_ext (n := 12) (Nat.xor_lt_two_pow (Nat.xor_lt_two_pow h12 (Nat.pow_lt_pow_right (by omega) l3)) (Nat.pow_lt_pow_right (by omega) hb12)) (Nat.lt_of_le_of_lt (wo_le t b) h12) (fun k hk => bool_eq ?_)
  have p2 : ∀ a, bt (2 ^ a) k = decide (a = k) := fun a => by unfold bt; rw [Nat.testBit_two_pow]
  rw [bt_xor, bt_xor, p2, p2, bt_wo (by omega)]
  by_cases e1 : lo 12 t = k
  · rw [decide_eq_true e1, decide_eq_false (show ¬ b = k by omega), ← e1, l1]
    exact ⟨fun h => absurd h (by decide), fun h => absurd rfl h.2.1⟩
  · by_cases e2 : b = k
    · rw [decide_eq_false e1, decide_eq_true e2, ← e2, hb]
      exact ⟨fun h => absurd h (by decide), fun h => absurd rfl h.2.2⟩
    · rw [decide_eq_false e1, decide_eq_false e2, Bool.xor_false, Bool.xor_false]
      exact ⟨fun h => ⟨h, fun e => e1 e.symm, fun e => e2 e.symm⟩, fun h => h.1⟩
theorem lo_uniq {s k : Nat} (hs : s < 4096) (h1 : bt s k = true) (h2 : ∀ j, j < k → bt s j = false) : lo 12 s = k := by
  have h0 : s ≠ 0 := fun e => by
    rw [e] at h1
    unfold bt at h1
    rw [Nat.zero_testBit] at h1
    exact absurd h1 (by decide)
  obtain ⟨l1, l2, l3⟩ := lo_12 (nn := 12) (Nat.le_refl 12) (show s < 2 ^ 12 from hs) h0
  by_cases c : lo 12 s < k
  · rw [h2 _ c] at l1; exact absurd l1 (by decide)
  · by_cases c2 : k < lo 12 s
    · rw [l2 k c2] at h1; exact absurd h1 (by decide)
    · omega
theorem r_least {N s : Nat} (hN : 100 ≤ N) (hs : s < 4096) (h0 : s ≠ 0) : f_X7_least N (nI s) = some (nI (lo 12 s)) := by
  obtain ⟨l1, l2, l3⟩ := lo_12 (nn := 12) (Nat.le_refl 12) (show s < 2 ^ 12 from hs) h0
  have : Ok (fun x => x = nI (lo 12 s)) (f_X7_least N (nI s)) := by
    unfold f_X7_least
    refine lq2_ok (fun m x1 x2 => ∃ k, nI s = x1 ∧ x2 = nI k ∧ k + m = lo 12 s) ?_ N (lo 12 s) _ _ ⟨0, rfl, zero32, by omega⟩ (by omega)
    rintro m nx x1 x2 ⟨k, rfl, rfl, hm⟩ ih
    unfold f_X7_least_2
    simp only [bt_nul (show s < 2147483648 by omega) (show k < 32 by omega)]
    refine ok_if (fun y => ?_) (fun y => ok_some ?_)
    · rw [nI_s]
      have : k ≠ lo 12 s := fun e => by rw [e, l1] at y; exact absurd y (by decide)
      exact ih (m - 1) _ _ (by omega) ⟨k + 1, rfl, rfl, by omega⟩
    · have : ¬ k < lo 12 s := fun h => y (l2 k h)
      rw [show k = lo 12 s by omega]
  obtain ⟨x, e, rfl⟩ := this
  exact e
def rv (b57 b56 : Nat → Int64) (t b : Nat) : Int := (b56 (wo t b)).toInt + (b57 (12 * lo 12 t + b)).toInt
def RD (nn om : Nat) (b57 : Nat → Int64) (s : Nat) (b56 : Nat → Int64) : Prop := (b56 0).toInt = 0 ∧ (∀ t, t < s → t < 2 ^ nn → 0 ≤ (b56 t).toInt ∧ (b56 t).toInt ≤ 1000000000000) ∧ ∀ t, t ≠ 0 → t < s → t < 2 ^ nn → (∀ k, k < nn → bt t k = true → bt om k = true) → (∀ b, lo 12 t < b → b < nn → bt t b = true → (b56 t).toInt ≤ rv b57 b56 t b) ∧ ((b56 t).toInt = 1000000000000 ∨ ∃ b, lo 12 t < b ∧ b < nn ∧ bt t b = true ∧ (b56 t).toInt = rv b57 b56 t b)
theorem r_sets {N nn : Nat} {om : Nat} {b54 b57 b : Nat → Int64} {x : Int64} {i8 : Int32} {a34 : Nat → Int32} {P : (Int64 × Int32 × (Nat → Int32) × (Nat → Int64)) → Prop} (hN : 5000 ≤ N) (h3 : 3 ≤ nn) (h12 : nn ≤ 12) (hom : om < 2 ^ nn) (h57 : ∀ a b, a < nn → b < nn → 0 ≤ (b57 (12 * a + b)).toInt ∧ (b57 (12 * a + b)).toInt ≤ 1000000000000) (hb0 : (b 0).toInt = 0) (hP : ∀ z, RD nn om b57 (2 ^ nn) z → Ok P (lq6 (f_X7_both_297 N (nI nn) b54 b57) N x (nI om) (nI om) 0 a34 z)) : Ok P (lq6 (f_X7_both_133 N (nI nn) b54 b57) N x (nI om) 1 i8 a34 b) := by
  have hp := pow12 h12
  have hp0 : 0 < 2 ^ nn := Nat.two_pow_pos nn
  refine lq6_ok (fun m x1 x3 x4 y1 y2 z => ∃ s, x = x1 ∧ nI om = x3 ∧ x4 = nI s ∧ i8 = y1 ∧ a34 = y2 ∧ s + m = 2 ^ nn ∧ 1 ≤ s ∧ RD nn om b57 s z) ?_ N (2 ^ nn - 1) _ _ _ _ _ _ ⟨1, rfl, rfl, one32, rfl, rfl, by omega, Nat.le_refl 1, hb0, fun t t1 _ => ?_, fun t t0 t1 => by omega⟩ (by omega)
  · rintro m nx x1 x3 x4 y1 y2 z ⟨s, rfl, rfl, rfl, rfl, rfl, hm, hs1, hD⟩ ih
    unfold f_X7_both_133
    rw [b_pow (by omega)]
    refine ok_if (fun y => ?_) (fun y => ?_)
    · rw [nI_lei (by omega) (by omega)] at y
      have es : s = 2 ^ nn := by omega
      subst es
      exact hP z hD
    rw [nI_lei (by omega) (by omega)] at y
    have hs : s < 2 ^ nn := by omega
    have s4 : s < 4096 := by omega
    have s0 : s ≠ 0 := by omega
    obtain ⟨l1, l2, l3⟩ := lo_12 h12 hs s0
    obtain ⟨d1, d2, d3⟩ := hD
    rw [ck_N s4 (by omega), nI_c (show s < 2147483648 by omega)]
    refine ok_nmd ?_
    rw [r_least (by omega) s4 s0]
    show Ok P (lq8 _ N x (nI om) (nI s) (nI (lo 12 s)) (nI (lo 12 s) + 1) i8 a34 (vp_updL z s 1000000000000))
    rw [nI_s]
    refine lq8_ok (fun m2 x1 x3 x4 x5 x6 y1 y2 z2 => ∃ j v, x = x1 ∧ nI om = x3 ∧ nI s = x4 ∧ nI (lo 12 s) = x5 ∧ x6 = nI j ∧ i8 = y1 ∧ a34 = y2 ∧ j + m2 = nn ∧ lo 12 s < j ∧ z2 = vp_updL z s v ∧ 0 ≤ v.toInt ∧ v.toInt ≤ 1000000000000 ∧ (∀ b, lo 12 s < b → b < j → bt s b = true → (∀ k, k < nn → bt s k = true → bt om k = true) → v.toInt ≤ rv b57 z s b) ∧ (v.toInt = 1000000000000 ∨ ∃ b, lo 12 s < b ∧ b < nn ∧ bt s b = true ∧ v.toInt = rv b57 z s b)) ?_ N (nn - (lo 12 s + 1)) _ _ _ _ _ _ _ _ ⟨lo 12 s + 1, 1000000000000, rfl, rfl, rfl, rfl, rfl, rfl, rfl, by omega, by omega, rfl, by decide, by decide, fun b b1 b2 => by omega, Or.inl far64⟩ (by omega)
    rintro m2 nx2 x1 x3 x4 x5 x6 y1 y2 z2 ⟨j, v, rfl, rfl, rfl, rfl, rfl, rfl, rfl, hm2, hj, rfl, v0, v1, hlow, hat⟩ ih2
    have keep : ∀ t, t ≠ s → vp_updL z s v t = z t := fun t ht => by rw [upL, if_neg ht]
    have new : vp_updL z s v s = v := by rw [upL, if_pos rfl]
    have rvk : ∀ (v : Int64) t b, t ≤ s → t ≠ 0 → lo 12 t < b → bt t b = true → rv b57 (vp_updL z s v) t b = rv b57 z t b := fun v t b ht ht0 hb1 hb2 => by
      have := (wo_or (show t < 4096 by omega) ht0 hb2 (by omega)).2
      unfold rv
      rw [upL, if_neg (by omega)]
    have done : (∀ b, lo 12 s < b → b < nn → bt s b = true → (∀ k, k < nn → bt s k = true → bt om k = true) → v.toInt ≤ rv b57 z s b) → Ok P (nx x (nI om) (nI s + 1) i8 a34 (vp_updL z s v)) := by
      intro hl
      rw [nI_s]
      refine ih (m - 1) _ _ _ _ _ _ (by omega) ⟨s + 1, rfl, rfl, rfl, rfl, rfl, by omega, by omega, ?_, fun t t1 t2 => ?_, fun t t0 t1 t2 t3 => ?_⟩
      · rw [keep 0 (by omega)]; exact d1
      · by_cases et : t = s
        · rw [et, new]; exact ⟨v0, v1⟩
        · rw [keep t et]; exact d2 t (by omega) t2
      · by_cases et : t = s
        · subst et
          rw [new]
          refine ⟨fun b b1 b2 b3 => ?_, ?_⟩
          · rw [rvk v t b (Nat.le_refl t) t0 b1 b3]; exact hl b b1 b2 b3 t3
          · rcases hat with q | ⟨b, q1, q2, q3, q4⟩
            · exact Or.inl q
            · exact Or.inr ⟨b, q1, q2, q3, by rw [rvk v t b (Nat.le_refl t) t0 q1 q3]; exact q4⟩
        · rw [keep t et]
          obtain ⟨k1, k2⟩ := d3 t t0 (by omega) t2 t3
          refine ⟨fun b b1 b2 b3 => ?_, ?_⟩
          · rw [rvk v t b (by omega) t0 b1 b3]; exact k1 b b1 b2 b3
          · rcases k2 with q | ⟨b, q1, q2, q3, q4⟩
            · exact Or.inl q
            · exact Or.inr ⟨b, q1, q2, q3, by rw [rvk v t b (by omega) t0 q1 q3]; exact q4⟩
    unfold f_X7_both_168
    refine ok_if (fun y2 => ?_) (fun y2 => ?_)
    · rw [nI_lei (by omega) (by omega)] at y2
      exact done (fun b b1 b2 => hlow b b1 (by omega))
    rw [nI_lei (by omega) (by omega)] at y2
    have hjn : j < nn := by omega
    rw [show (-1 : Int32) = nI 4294967295 by decide, b_xor, b_and]
    have sub : nI (s &&& (om ^^^ 4294967295)) = (0 : Int32) ↔ ∀ k, k < nn → bt s k = true → bt om k = true := by
      have hlt : s &&& (om ^^^ 4294967295) < 2147483648 := Nat.lt_of_le_of_lt Nat.and_le_left (by omega)
      rw [zero32, nI_eqi hlt (by omega)]
      have eb : ∀ k, k < 32 → (bt (s &&& (om ^^^ 4294967295)) k = true ↔ bt s k = true ∧ ¬ bt om k = true) := fun k hk => by
        rw [bt_and, bt_xor, Bool.and_eq_true]
        have : bt 4294967295 k = true := by
          unfold bt
          rw [show (4294967295 : Nat) = 2 ^ 32 - 1 by decide, Nat.testBit_two_pow_sub_one]
          exact decide_eq_true hk
        rw [this]
        cases bt om k <;> simp
      constructor
      · intro h k hk hb
        refine Classical.byContradiction (fun hn => ?_)
        have := (eb k (by omega)).mpr ⟨hb, hn⟩
        rw [h] at this
        unfold bt at this
        rw [Nat.zero_testBit] at this
        exact absurd this (by decide)
      · intro h
        refine bt_ext (n := 12) (Nat.lt_of_le_of_lt Nat.and_le_left s4) (by decide) (fun k hk => ?_)
        have z0 : bt 0 k = false := by unfold bt; rw [Nat.zero_testBit]
        rw [z0]
        refine bt_ff (fun hh => ?_)
        have q := (eb k (by omega)).mp hh
        exact q.2 (h k (bt_lt hs q.1) q.1)
    refine ok_if (fun y3 => ?_) (fun y3 => ?_)
    · rw [sub] at y3
      simp only [bt_one (show s < 2147483648 by omega) (show j < 32 by omega)]
      refine ok_if (fun y4 => ?_) (fun y4 => ?_)
      · have hwo := wo_or s4 s0 y4 (show j ≠ lo 12 s by omega)
        rw [b_pow (by omega), b_pow (by omega), b_xor, b_xor, xo_wo s4 s0 y4 (by omega), i12, nI_c (show wo s j < 2147483648 by omega), nI_c (show s < 2147483648 by omega), nI_c (show 12 * lo 12 s + j < 2147483648 by omega), ck_N (show wo s j < 4096 by omega) (by omega), ck_N (show 12 * lo 12 s + j < 144 by omega) (by omega), ck_N s4 (by omega), new, keep (wo s j) (by omega)]
        have r1 := d2 (wo s j) hwo.2 (by omega)
        have r2 := h57 (lo 12 s) j l3 hjn
        have es : (z (wo s j) + b57 (12 * lo 12 s + j)).toInt = rv b57 z s j := by
          unfold rv
          rw [i64_add] <;> omega
        have r3 : 0 ≤ rv b57 z s j := by unfold rv; omega
        refine ok_if (fun y5 => ?_) (fun y5 => ?_)
        · rw [i64_le, es] at y5
          rw [nI_s]
          refine ih2 (m2 - 1) _ _ _ _ _ _ _ _ (by omega) ⟨j + 1, v, rfl, rfl, rfl, rfl, rfl, rfl, rfl, by omega, by omega, rfl, v0, v1, fun b b1 b2 b3 b4 => ?_, hat⟩
          by_cases eb : b = j
          · rw [eb]; exact y5
          · exact hlow b b1 (by omega) b3 b4
        · rw [i64_le, es] at y5
          rw [ck_N (show wo s j < 4096 by omega) (by omega), ck_N (show 12 * lo 12 s + j < 144 by omega) (by omega), ck_N s4 (by omega)]
          refine ok_nmd ?_
          rw [nI_s]
          refine ih2 (m2 - 1) _ _ _ _ _ _ _ _ (by omega) ⟨j + 1, z (wo s j) + b57 (12 * lo 12 s + j), rfl, rfl, rfl, rfl, rfl, rfl, rfl, by omega, by omega, ?_, by omega, by omega, fun b b1 b2 b3 b4 => ?_, Or.inr ⟨j, hj, hjn, y4, es⟩⟩
          · funext q
            rw [upL, upL, upL]
            by_cases eq : q = s
            · rw [if_pos eq, if_pos eq]
            · rw [if_neg eq, if_neg eq, if_neg eq]
          · rw [es]
            by_cases eb : b = j
            · rw [eb]; exact Int.le_refl _
            · have := hlow b b1 (by omega) b3 b4
              omega
      · rw [nI_s]
        refine ih2 (m2 - 1) _ _ _ _ _ _ _ _ (by omega) ⟨j + 1, v, rfl, rfl, rfl, rfl, rfl, rfl, rfl, by omega, by omega, rfl, v0, v1, fun b b1 b2 b3 b4 => ?_, hat⟩
        by_cases eb : b = j
        · rw [eb] at b3; exact absurd b3 y4
        · exact hlow b b1 (by omega) b3 b4
    · rw [sub] at y3
      exact done (fun b b1 b2 b3 b4 => absurd b4 y3)
  · have et : t = 0 := by omega
    rw [et, hb0]
    exact ⟨by decide, by decide⟩
/-- the places of a set of numbers of odd places -/
def im (od : Nat → Nat) : Nat → Nat → Nat
  | 0, _ => 0
  | k + 1, s => if bt s k = true then im od k s ||| 2 ^ od k else im od k s
theorem im_bt (od : Nat → Nat) (s : Nat) : ∀ k j, bt (im od k s) j = true ↔ ∃ i, i < k ∧ bt s i = true ∧ od i = j := by
  intro k
  induction k with
  | zero =>
    intro j
    show bt 0 j = true ↔ _
    unfold bt
    rw [Nat.zero_testBit]
    exact ⟨fun h => absurd h (by decide), fun ⟨i, h, _⟩ => absurd h (Nat.not_lt_zero i)⟩
  | succ k ih =>
    intro j
    show bt (if bt s k = true then im od k s ||| 2 ^ od k else im od k s) j = true ↔ _
    by_cases c : bt s k = true
    · rw [if_pos c, bt_or, Bool.or_eq_true, decide_eq_true_eq, ih]
      constructor
      · rintro (⟨i, h1, h2⟩ | h)
        · exact ⟨i, by omega, h2⟩
        · exact ⟨k, by omega, c, h⟩
      · rintro ⟨i, h1, h2, h3⟩
        by_cases e : i = k
        · rw [e] at h3; exact Or.inr h3
        · exact Or.inl ⟨i, by omega, h2, h3⟩
    · rw [if_neg c, ih]
      constructor
      · rintro ⟨i, h1, h2⟩
        exact ⟨i, by omega, h2⟩
      · rintro ⟨i, h1, h2, h3⟩
        by_cases e : i = k
        · rw [e] at h2; exact absurd h2 c
        · exact ⟨i, by omega, h2, h3⟩
theorem im_lt {od : Nat → Nat} {s nn : Nat} : ∀ k, (∀ i, i < k → od i < nn) → im od k s < 2 ^ nn := by
  intro k
  induction k with
  | zero => intro _; exact Nat.two_pow_pos nn
  | succ k ih =>
    intro h
    show (if bt s k = true then im od k s ||| 2 ^ od k else im od k s) < 2 ^ nn
    have := ih (fun i hi => h i (by omega))
    split
    · exact or_lt this (h k (by omega))
    · exact this
theorem im_lo {od : Nat → Nat} {s oc nn : Nat} (h12 : nn ≤ 12) (hoc : oc ≤ 12) (hod : ∀ i, i < oc → od i < nn) (hinc : ∀ i j, i < j → j < oc → od i < od j) (hs : s < 2 ^ oc) (h0 : s ≠ 0) : lo 12 (im od oc s) = od (lo 12 s) := by
  obtain ⟨l1, l2, l3⟩ := lo_12 hoc hs h0
  refine lo_uniq (pow_le12 h12 (im_lt oc hod)) ((im_bt od s oc _).mpr ⟨_, l3, l1, rfl⟩) (fun j hj => bt_ff (fun hh => ?_))
  obtain ⟨i, i1, i2, i3⟩ := (im_bt od s oc j).mp hh
  by_cases c : i < lo 12 s
  · rw [l2 i c] at i2; exact absurd i2 (by decide)
  · by_cases e : i = lo 12 s
    · rw [e] at i3; omega
    · have := hinc (lo 12 s) i (by omega) i1
      omega
theorem im_wo {od : Nat → Nat} {s p oc nn : Nat} (h12 : nn ≤ 12) (hoc : oc ≤ 12) (hod : ∀ i, i < oc → od i < nn) (hinc : ∀ i j, i < j → j < oc → od i < od j) (hs : s < 2 ^ oc) (h0 : s ≠ 0) (hp : p < oc) : wo (im od oc s) (od p) = im od oc (wo s p) := by
  have inj : ∀ i j, i < oc → j < oc → od i = od j → i = j := fun i j hi hj e => by
    by_cases c : i < j
    · have := hinc i j c hj; omega
    · by_cases c2 : j < i
      · have := hinc j i c2 hi; omega
      · omega
  obtain ⟨l1, l2, l3⟩ := lo_12 hoc hs h0
  refine bt_ext (n := nn) (Nat.lt_of_le_of_lt (wo_le _ _) (im_lt oc hod)) (im_lt oc hod) (fun k hk => bool_eq ?_)
  rw [bt_wo (by omega), im_bt, im_bt, im_lo h12 hoc hod hinc hs h0]
  constructor
  · rintro ⟨⟨i, i1, i2, i3⟩, h2, h3⟩
    refine ⟨i, i1, (bt_wo (by omega)).mpr ⟨i2, fun e => h2 ?_, fun e => h3 ?_⟩, i3⟩
    · rw [← i3, e]
    · rw [← i3, e]
  · rintro ⟨i, i1, i2, i3⟩
    obtain ⟨q1, q2, q3⟩ := (bt_wo (by omega)).mp i2
    refine ⟨⟨i, i1, q1, i3⟩, fun e => q2 (inj i _ i1 l3 (i3.trans e)), fun e => q3 (inj i p i1 hp (i3.trans e))⟩
/-- both have the same least sums -/
theorem same_sums {nn oc om : Nat} {D : Nat → Nat → Int} {od : Nat → Nat} {a29 : Nat → Int32} {b57 b56 : Nat → Int64} (h12 : nn ≤ 12) (hoc : oc ≤ nn) (hod : ∀ i, i < oc → od i < nn) (hinc : ∀ i j, i < j → j < oc → od i < od j) (hom : ∀ i, i < oc → bt om (od i) = true) (hd : ∀ i j, i < oc → j < oc → i ≠ j → D (od i) (od j) = (b57 (12 * od i + od j)).toInt) (hC : CD oc D od (2 ^ oc) a29) (hR : RD nn om b57 (2 ^ nn) b56) : ∀ k s, s < k → s < 2 ^ oc → ev s → (b56 (im od oc s)).toInt = (a29 (s / 2)).toInt := by
  intro k
  have hp12 := pow12 (show oc ≤ 12 by omega)
  induction k with
  | zero => intro s hs; exact absurd hs (Nat.not_lt_zero s)
  | succ k ih =>
    intro s hsk hs he
    by_cases h0 : s = 0
    · subst h0
      have e : im od oc 0 = 0 := bt_ext (n := nn) (im_lt oc hod) (Nat.two_pow_pos nn) (fun k hk => by
        have z0 : bt 0 k = false := by unfold bt; rw [Nat.zero_testBit]
        rw [z0]
        refine bt_ff (fun hh => ?_)
        obtain ⟨i, _, i2, _⟩ := (im_bt od 0 oc k).mp hh
        unfold bt at i2
        rw [Nat.zero_testBit] at i2
        exact absurd i2 (by decide))
      rw [e, hR.1, show (0 : Nat) / 2 = 0 by decide, hC.1]
    · have s4 : s < 4096 := by omega
      obtain ⟨l1, l2, l3⟩ := lo_12 (show oc ≤ 12 by omega) hs h0
      have hil := im_lt (s := s) oc hod
      have el := im_lo h12 (show oc ≤ 12 by omega) hod hinc hs h0
      have hi0 : im od oc s ≠ 0 := fun e => by
        have := (im_bt od s oc (od (lo 12 s))).mpr ⟨_, l3, l1, rfl⟩
        rw [e] at this
        unfold bt at this
        rw [Nat.zero_testBit] at this
        exact absurd this (by decide)
      obtain ⟨c1, p, p1, p2, p3, p4⟩ := hC.2.2 s h0 hs hs he
      have hsub : ∀ k, k < nn → bt (im od oc s) k = true → bt om k = true := fun k hk hb => by
        obtain ⟨i, i1, i2, i3⟩ := (im_bt od s oc k).mp hb
        rw [← i3]; exact hom i i1
      obtain ⟨r1, r2⟩ := hR.2.2 (im od oc s) hi0 hil hil hsub
      have val : ∀ q, lo 12 s < q → q < oc → bt s q = true → rv b57 b56 (im od oc s) (od q) = vl D od a29 s q := fun q q1 q2 q3 => by
        unfold rv vl
        have w := wo_or s4 h0 q3 (show q ≠ lo 12 s by omega)
        rw [el, im_wo h12 (show oc ≤ 12 by omega) hod hinc hs h0 q2, ih (wo s q) (by omega) (by omega) (ev_wo s4 h0 q3 (by omega) he), hd (lo 12 s) q l3 q2 (by omega)]
        omega
      have lb := (hC.2.1 s hs hs he).2
      have pcs : pc 12 s ≤ 12 := by
        have := (pcn_rng 12 s).2
        rw [← pc_pcn] at this
        omega
      have up := r1 (od p) (by rw [el]; exact hinc _ _ p1 p2) (hod p p2) ((im_bt od s oc _).mpr ⟨p, p2, p3, rfl⟩)
      rw [val p p1 p2 p3] at up
      rcases r2 with r2 | ⟨b, b1, b2, b3, b4⟩
      · omega
      · obtain ⟨q, q1, q2, q3⟩ := (im_bt od s oc b).mp b3
        subst q3
        have ql : lo 12 s < q := by
          rw [el] at b1
          refine Nat.lt_of_not_le (fun hle => ?_)
          by_cases e : q = lo 12 s
          · rw [e] at b1; omega
          · have := hinc q (lo 12 s) (by omega) l3
            omega
        have := c1 q ql q1 q2
        rw [val q ql q1 q2] at b4
        omega
