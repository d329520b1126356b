/-! ===== Net's sets: places with streets, and what is reached from the least of them ===== -/
theorem c_places {N nn : Nat} {e : Nat → Nat → Int} {g1 : Nat → Nat → Int32} (hN : 100 ≤ N) (h12 : nn ≤ 12) (hg : Cw nn e g1) : Ok (fun x => ∃ s, x = nI s ∧ s < 2 ^ nn ∧ ∀ a, a < nn → (bt s a = true ↔ ∃ b, b < nn ∧ e a b ≠ -1)) (f_X3_placesWithStreets N nn (nI nn) g1) := by
  have hp := pow12 h12
  have hp0 : 0 < 2 ^ nn := Nat.two_pow_pos nn
  unfold f_X3_placesWithStreets
  refine lq2_ok (fun m x1 x2 => ∃ s a, x1 = nI s ∧ x2 = nI a ∧ a + m = nn ∧ s < 2 ^ nn ∧ ∀ i, i < nn → (bt s i = true ↔ i < a ∧ ∃ b, b < nn ∧ e i b ≠ -1)) ?_ N nn _ _ ⟨0, 0, zero32, zero32, by omega, hp0, fun i hi => ?_⟩ (by omega)
  · rintro m nx x1 x2 ⟨s, a, rfl, rfl, hm, hs, hb⟩ ih
    unfold f_X3_placesWithStreets_4
    refine ok_if (fun y => ok_some ?_) (fun y => ?_)
    · rw [nI_lei (by omega) (by omega)] at y
      refine ⟨s, rfl, hs, fun i hi => ?_⟩
      rw [hb i hi]
      exact ⟨fun z => z.2, fun z => ⟨by omega, z⟩⟩
    · rw [nI_lei (by omega) (by omega)] at y
      have ha : a < nn := by omega
      refine lq3_ok (fun m2 x1 x2 x3 => ∃ s b, x1 = nI s ∧ nI a = x2 ∧ x3 = nI b ∧ b + m2 = nn ∧ s < 2 ^ nn ∧ ∀ i, i < nn → (bt s i = true ↔ (i < a ∧ ∃ b, b < nn ∧ e i b ≠ -1) ∨ (i = a ∧ ∃ c, c < b ∧ e a c ≠ -1))) ?_ N nn _ _ _ ⟨s, 0, rfl, rfl, zero32, by omega, hs, fun i hi => ?_⟩ (by omega)
      · rintro m2 nx2 x1 x2 x3 ⟨s, b, rfl, rfl, rfl, hm2, hs, hb⟩ ih2
        unfold f_X3_placesWithStreets_14
        refine ok_if (fun y2 => ?_) (fun y2 => ?_)
        · rw [nI_lei (by omega) (by omega)] at y2
          rw [nI_s]
          refine ih (m - 1) _ _ (by omega) ⟨s, a + 1, rfl, rfl, by omega, hs, fun i hi => ?_⟩
          rw [hb i hi]
          constructor
          · rintro (⟨z1, z2⟩ | ⟨rfl, c, z1, z2⟩)
            · exact ⟨by omega, z2⟩
            · exact ⟨by omega, c, by omega, z2⟩
          · rintro ⟨z1, c, z2, z3⟩
            by_cases ei : i = a
            · subst ei
              exact Or.inr ⟨rfl, c, by omega, z3⟩
            · exact Or.inl ⟨by omega, c, z2, z3⟩
        · rw [nI_lei (by omega) (by omega)] at y2
          have hbn : b < nn := by omega
          rw [ck_N ha (by omega), ck_N hbn (by omega), nI_c (show a < 2147483648 by omega), nI_c (show b < 2147483648 by omega), nI_s]
          have ee : g1 a b = -1 ↔ e a b = -1 := by rw [i32_eq, m1_toInt, hg a b ha hbn]
          refine ok_if (fun y3 => ?_) (fun y3 => ?_)
          · rw [ee] at y3
            refine ih2 (m2 - 1) _ _ _ (by omega) ⟨s, b + 1, rfl, rfl, rfl, by omega, hs, fun i hi => ?_⟩
            rw [hb i hi]
            constructor
            · rintro (z | ⟨z1, c, z2, z3⟩)
              · exact Or.inl z
              · exact Or.inr ⟨z1, c, by omega, z3⟩
            · rintro (z | ⟨z1, c, z2, z3⟩)
              · exact Or.inl z
              · by_cases ec : c = b
                · subst ec; exact absurd y3 z3
                · exact Or.inr ⟨z1, c, by omega, z3⟩
          · rw [ee] at y3
            rw [b_pow (by omega), b_or]
            refine ih2 (m2 - 1) _ _ _ (by omega) ⟨s ||| 2 ^ a, b + 1, rfl, rfl, rfl, by omega, or_lt hs ha, fun i hi => ?_⟩
            rw [bt_or, Bool.or_eq_true, decide_eq_true_eq, hb i hi]
            constructor
            · rintro ((z | ⟨z1, c, z2, z3⟩) | z)
              · exact Or.inl z
              · exact Or.inr ⟨z1, c, by omega, z3⟩
              · exact Or.inr ⟨z.symm, b, by omega, y3⟩
            · rintro (z | ⟨z1, c, z2, z3⟩)
              · exact Or.inl (Or.inl z)
              · exact Or.inr z1.symm
      · rw [hb i hi]
        constructor
        · intro z; exact Or.inl z
        · rintro (z | ⟨z1, c, z2, z3⟩)
          · exact z
          · omega
  · unfold bt
    rw [Nat.zero_testBit]
    exact ⟨fun h => absurd h (by decide), fun h => absurd h.1 (Nat.not_lt_zero i)⟩
/-- forwards or backwards -/
def dr (d : Bool) (e : Nat → Nat → Int) : Nat → Nat → Int := fun x y => if d = true then e y x else e x y
/-- each place of the set has a walk from the root, no longer than the set allows -/
def RB (nn : Nat) (e : Nat → Nat → Int) (r s : Nat) : Prop := ∀ v, v < nn → bt s v = true → ∃ k y, Wk nn e k r v y ∧ 0 ≤ y ∧ y ≤ 1000000 * (pcn nn s - 1)
theorem RB_add {nn : Nat} {e : Nat → Nat → Int} {r s x v : Nat} (h : RB nn e r s) (he : ∀ a b, a < nn → b < nn → -1 ≤ e a b ∧ e a b ≤ 1000000) (hx : x < nn) (hv : v < nn) (hb : bt s x = true) (hev : e x v ≠ -1) : RB nn e r (s ||| 2 ^ v) := by
  by_cases c : bt s v = true
  · have e : s ||| 2 ^ v = s := by
      apply Nat.eq_of_testBit_eq
      intro k
      have := bt_or (s := s) (k := v) (i := k)
      unfold bt at this c
      rw [this]
      by_cases ek : v = k
      · subst ek; rw [c]; rfl
      · rw [decide_eq_false ek, Bool.or_false]
    rw [e]; exact h
  · have c : bt s v = false := by
      cases hh : bt s v with
      | true => exact absurd hh c
      | false => rfl
    intro u hu hbu
    rw [pcn_or hv c]
    rw [bt_or, Bool.or_eq_true, decide_eq_true_eq] at hbu
    rcases hbu with hbu | rfl
    · obtain ⟨k, y, h1, h2, h3⟩ := h u hu hbu
      exact ⟨k, y, h1, h2, by omega⟩
    · obtain ⟨k, y, h1, h2, h3⟩ := h x hx hb
      have := he x v hx hv
      exact ⟨k + 1, y + e x v, ⟨x, y, hx, h1, hev, rfl⟩, by omega, by omega⟩
theorem or_same {s v : Nat} (c : bt s v = true) : s ||| 2 ^ v = s := by
  apply Nat.eq_of_testBit_eq
  intro k
  have := bt_or (s := s) (k := v) (i := k)
  unfold bt at this c
  rw [this]
  by_cases ek : v = k
  · subst ek; rw [c]; rfl
  · rw [decide_eq_false ek, Bool.or_false]
/-- one step of the spreading -/
def SP (nn : Nat) (e : Nat → Nat → Int) (r s f : Nat) (a b : Nat) (d : Bool) : Prop :=
  f < 2 ^ nn ∧ (∀ v, v < nn → bt s v = true → bt f v = true) ∧ RB nn e r f ∧ (CL nn e s → f = s) ∧
  ∀ i j, i < nn → j < nn → (i < a ∨ (i = a ∧ j < b)) → bt s (if d = true then j else i) = true → e (if d = true then j else i) (if d = true then i else j) ≠ -1 → bt f (if d = true then i else j) = true
theorem SP_skip {nn : Nat} {e : Nat → Nat → Int} {r s f a b : Nat} {d : Bool} (h : SP nn e r s f a b d) (hc : bt s (if d = true then b else a) = true → e (if d = true then b else a) (if d = true then a else b) ≠ -1 → bt f (if d = true then a else b) = true) : SP nn e r s f a (b + 1) d := by
  obtain ⟨h1, h2, h3, h4, h5⟩ := h
  refine ⟨h1, h2, h3, h4, fun i j hi hj hij => ?_⟩
  by_cases c : i = a ∧ j = b
  · rw [c.1, c.2]; exact hc
  · exact h5 i j hi hj (by omega)
theorem SP_add {nn : Nat} {e : Nat → Nat → Int} {r s f a b : Nat} {d : Bool} (he : ∀ a b, a < nn → b < nn → -1 ≤ e a b ∧ e a b ≤ 1000000) (h : SP nn e r s f a b d) (ha : a < nn) (hb : b < nn) (hf : bt f (if d = true then b else a) = true) (hev : e (if d = true then b else a) (if d = true then a else b) ≠ -1) : SP nn e r s (f ||| 2 ^ (if d = true then a else b)) a (b + 1) d := by
  obtain ⟨h1, h2, h3, h4, h5⟩ := h
  have hx : (if d = true then b else a) < nn := by split <;> assumption
  have hv : (if d = true then a else b) < nn := by split <;> assumption
  have up : ∀ v, bt f v = true → bt (f ||| 2 ^ (if d = true then a else b)) v = true := fun v hv => by
    rw [bt_or, hv]; rfl
  have self : bt (f ||| 2 ^ (if d = true then a else b)) (if d = true then a else b) = true := by
    rw [bt_or, decide_eq_true rfl, Bool.or_true]
  refine ⟨or_lt h1 hv, fun v hv' hbv => up v (h2 v hv' hbv), RB_add h3 he hx hv hf hev, fun hC => ?_, fun i j hi hj hij hbs hes => ?_⟩
  · have e1 := h4 hC
    subst e1
    exact or_same (hC _ _ hx hv hf hev)
  · by_cases c : i = a ∧ j = b
    · rw [c.1, c.2]; exact self
    · exact up _ (h5 i j hi hj (by omega) hbs hes)
theorem c_spread {N nn : Nat} {e : Nat → Nat → Int} {g : Nat → Nat → Int32} {r s : Nat} {d : Bool} (hN : 100 ≤ N) (h12 : nn ≤ 12) (hg : Cw nn e g) (he : ∀ a b, a < nn → b < nn → -1 ≤ e a b ∧ e a b ≤ 1000000) (hs : s < 2 ^ nn) (hr : RB nn (dr d e) r s) : Ok (fun x => ∃ f, x = nI f ∧ SP nn (dr d e) r s f nn 0 d) (f_X3_spread_w N nn (nI nn) g (nI s) (if d = true then 1 else 0)) := by
  have hp := pow12 h12
  have hdr : ∀ a b, a < nn → b < nn → -1 ≤ dr d e a b ∧ dr d e a b ≤ 1000000 := fun a b ha hb => by
    unfold dr
    split
    · exact he b a hb ha
    · exact he a b ha hb
  unfold f_X3_spread_w
  refine lq3_ok (fun m x3 x4 x5 => ∃ f a, (if d = true then (1 : Int32) else 0) = x3 ∧ x4 = nI f ∧ x5 = nI a ∧ a + m = nn ∧ SP nn (dr d e) r s f a 0 d) ?_ N nn _ _ _ ⟨s, 0, rfl, rfl, zero32, by omega, hs, fun v _ h => h, hr, fun _ => rfl, fun i j _ _ h => by omega⟩ (by omega)
  rintro m nx x3 x4 x5 ⟨f, a, rfl, rfl, rfl, hm, hS⟩ ih
  unfold f_X3_spread_w_6
  refine ok_if (fun y => ok_some ?_) (fun y => ?_)
  · rw [nI_lei (by omega) (by omega)] at y
    have ea : a = nn := by omega
    subst ea
    exact ⟨f, rfl, hS⟩
  rw [nI_lei (by omega) (by omega)] at y
  have ha : a < nn := by omega
  refine lq4_ok (fun m2 x3 x4 x5 x6 => ∃ f b, (if d = true then (1 : Int32) else 0) = x3 ∧ x4 = nI f ∧ nI a = x5 ∧ x6 = nI b ∧ b + m2 = nn ∧ SP nn (dr d e) r s f a b d) ?_ N nn _ _ _ _ ⟨f, 0, rfl, rfl, rfl, zero32, by omega, hS⟩ (by omega)
  rintro m2 nx2 x3 x4 x5 x6 ⟨f, b, rfl, rfl, rfl, rfl, hm2, hS⟩ ih2
  unfold f_X3_spread_w_18
  refine ok_if (fun y2 => ?_) (fun y2 => ?_)
  · rw [nI_lei (by omega) (by omega)] at y2
    rw [nI_s]
    refine ih (m - 1) _ _ _ (by omega) ⟨f, a + 1, rfl, rfl, rfl, by omega, hS.1, hS.2.1, hS.2.2.1, hS.2.2.2.1, fun i j hi hj hij => hS.2.2.2.2 i j hi hj (by omega)⟩
  rw [nI_lei (by omega) (by omega)] at y2
  have hb : b < nn := by omega
  have hf := hS.1
  have ee : g a b = -1 ↔ e a b = -1 := by rw [i32_eq, m1_toInt, hg a b ha hb]
  have ed : dr d e (if d = true then b else a) (if d = true then a else b) = e a b := by
    cases d <;> rfl
  have skip : (e a b = -1 ∨ bt f (if d = true then b else a) = false) → Ok (fun x => ∃ f, x = nI f ∧ SP nn (dr d e) r s f nn 0 d) (nx2 (if d = true then 1 else 0) (nI f) (nI a) (nI b + 1)) := by
    intro hc
    rw [nI_s]
    refine ih2 (m2 - 1) _ _ _ _ (by omega) ⟨f, b + 1, rfl, rfl, rfl, rfl, by omega, SP_skip hS (fun z1 z2 => ?_)⟩
    rw [ed] at z2
    rcases hc with hc | hc
    · exact absurd hc z2
    · have hx : (if d = true then b else a) < nn := by split <;> assumption
      have := hS.2.1 _ hx z1
      rw [hc] at this
      exact absurd this (by decide)
  have add : e a b ≠ -1 → bt f (if d = true then b else a) = true → Ok (fun x => ∃ f, x = nI f ∧ SP nn (dr d e) r s f nn 0 d) (nx2 (if d = true then 1 else 0) (nI (f ||| 2 ^ (if d = true then a else b))) (nI a) (nI b + 1)) := by
    intro h1 h2
    rw [nI_s]
    exact ih2 (m2 - 1) _ _ _ _ (by omega) ⟨_, b + 1, rfl, rfl, rfl, rfl, by omega, SP_add hdr hS ha hb h2 (by rw [ed]; exact h1)⟩
  cases d with
  | false =>
    have e0 : (if false = true then (1 : Int32) else 0) = 0 := rfl
    rw [e0] at skip add ⊢
    rw [if_pos rfl, if_pos rfl, ck_N ha (by omega), ck_N hb (by omega), nI_c (show a < 2147483648 by omega), nI_c (show b < 2147483648 by omega)]
    refine ok_if (fun y3 => skip (Or.inl (ee.mp y3))) (fun y3 => ?_)
    simp only [bt_nul (show f < 2147483648 by omega) (show a < 32 by omega)]
    refine ok_if (fun y4 => skip (Or.inr y4)) (fun y4 => ?_)
    rw [b_pow (by omega), b_or]
    refine add (fun z => y3 (ee.mpr z)) ?_
    show bt f a = true
    cases hh : bt f a with
    | true => rfl
    | false => exact absurd hh y4
  | true =>
    have e0 : (if true = true then (1 : Int32) else 0) = 1 := rfl
    rw [e0] at skip add ⊢
    rw [if_neg (by decide), if_neg (by decide), ck_N ha (by omega), ck_N hb (by omega), nI_c (show a < 2147483648 by omega), nI_c (show b < 2147483648 by omega)]
    refine ok_if (fun y3 => skip (Or.inl (ee.mp y3))) (fun y3 => ?_)
    simp only [bt_nul (show f < 2147483648 by omega) (show b < 32 by omega)]
    refine ok_if (fun y4 => skip (Or.inr y4)) (fun y4 => ?_)
    rw [b_pow (by omega), b_or]
    refine add (fun z => y3 (ee.mpr z)) ?_
    show bt f b = true
    cases hh : bt f b with
    | true => rfl
    | false => exact absurd hh y4
theorem pcn_mono {nn s t : Nat} (h : ∀ v, v < nn → bt s v = true → bt t v = true) : pcn nn s ≤ pcn nn t := by
  refine S1_le (fun i hi => ?_)
  show (if bt s i = true then (1 : Int) else 0) ≤ (if bt t i = true then 1 else 0)
  by_cases c : bt s i = true
  · rw [if_pos c, if_pos (h i hi c)]; decide
  · rw [if_neg c]; split <;> decide
theorem pcn_lt {nn s t y : Nat} (h : ∀ v, v < nn → bt s v = true → bt t v = true) (hy : y < nn) (h1 : ¬ bt s y = true) (h2 : bt t y = true) : pcn nn s + 1 ≤ pcn nn t := by
  unfold pcn
  rw [← S1_upd hy]
  refine S1_le (fun i hi => ?_)
  show (if bt s i = true then (1 : Int) else 0) + (if i = y then 1 else 0) ≤ (if bt t i = true then 1 else 0)
  by_cases ei : i = y
  · subst ei
    rw [if_neg h1, if_pos rfl, if_pos h2]; decide
  · rw [if_neg ei]
    by_cases c : bt s i = true
    · rw [if_pos c, if_pos (h i hi c)]; decide
    · rw [if_neg c]; split <;> decide
theorem pcn_all {nn s : Nat} (h : (nn : Int) ≤ pcn nn s) : ∀ v, v < nn → bt s v = true := by
  intro v hv
  have h0 : S1 nn (fun k => (1 : Int) - (if bt s k = true then 1 else 0)) = 0 := by
    rw [S1_sub, one_sum]
    have := (pcn_rng nn s).2
    unfold pcn at this h
    omega
  have := S1_null (fun k _ => by show (0 : Int) ≤ 1 - (if bt s k = true then 1 else 0); split <;> decide) h0 v hv
  have this : (1 : Int) - (if bt s v = true then 1 else 0) = 0 := this
  by_cases c : bt s v = true
  · exact c
  · rw [if_neg c] at this; exact absurd this (by decide)
/-- what is reached from r -/
def RS (nn : Nat) (e : Nat → Nat → Int) (r s : Nat) : Prop := s < 2 ^ nn ∧ bt s r = true ∧ CL nn e s ∧ ∀ v, v < nn → bt s v = true → ∃ k y, Wk nn e k r v y ∧ 0 ≤ y ∧ y ≤ 11000000
theorem c_reached {N nn : Nat} {e : Nat → Nat → Int} {g : Nat → Nat → Int32} {s : Nat} {d : Bool} (hN : 100 ≤ N) (h3 : 3 ≤ nn) (h12 : nn ≤ 12) (hg : Cw nn e g) (he : ∀ a b, a < nn → b < nn → -1 ≤ e a b ∧ e a b ≤ 1000000) (hs : s < 2 ^ nn) : Ok (fun x => ∃ f, x = nI f ∧ f < 2 ^ nn ∧ (s = 0 ∨ RS nn (dr d e) (lo 12 s) f)) (f_X3_reached_w N nn (nI nn) g (nI s) (if d = true then 1 else 0)) := by
  have hp := pow12 h12
  unfold f_X3_reached_w
  rw [low_bit s (by omega)]
  by_cases c : s = 0
  · rw [if_pos c]
    refine lq3_ok (fun m x3 x4 x5 => ∃ f t, (if d = true then (1 : Int32) else 0) = x3 ∧ x4 = nI f ∧ x5 = nI (t + 1) ∧ t + 1 + m = nn ∧ f < 2 ^ nn ∧ RB nn (dr d e) 0 f) ?_ N (nn - 1) _ _ _ ⟨0, 0, rfl, zero32, one32, by omega, Nat.two_pow_pos nn, ?_⟩ (by omega)
    · rintro m nx x3 x4 x5 ⟨f, t, rfl, rfl, rfl, hm, hf, hR⟩ ih
      unfold f_X3_reached_w_9
      refine ok_if (fun y => ok_some ⟨f, rfl, hf, Or.inl c⟩) (fun y => ?_)
      rw [nI_lei (by omega) (by omega)] at y
      refine ok_bd (c_spread hN h12 hg he hf hR) (fun o ho => ?_)
      obtain ⟨f', rfl, hS⟩ := ho
      rw [nI_s]
      exact ih (m - 1) _ _ _ (by omega) ⟨f', t + 1, rfl, rfl, rfl, by omega, hS.1, hS.2.2.1⟩
    · intro v _ h
      unfold bt at h
      rw [Nat.zero_testBit] at h
      exact absurd h (by decide)
  · rw [if_neg c]
    obtain ⟨l1, l2, l3⟩ := lo_12 h12 hs c
    have b0 : ∀ v, bt (2 ^ lo 12 s) v = true ↔ v = lo 12 s := fun v => by
      unfold bt
      rw [Nat.testBit_two_pow, decide_eq_true_eq]
      exact ⟨fun h => h.symm, fun h => h.symm⟩
    have p0 : pcn nn (2 ^ lo 12 s) = 1 := by
      unfold pcn
      rw [S1_congr (g := fun k => if k = lo 12 s then 1 else 0), S1_one, if_pos l3]
      intro i _
      by_cases ei : i = lo 12 s
      · rw [if_pos ei, if_pos ((b0 i).mpr ei)]
      · rw [if_neg ei, if_neg (fun z => ei ((b0 i).mp z))]
    refine lq3_ok (fun m x3 x4 x5 => ∃ f t, (if d = true then (1 : Int32) else 0) = x3 ∧ x4 = nI f ∧ x5 = nI (t + 1) ∧ t + 1 + m = nn ∧ f < 2 ^ nn ∧ bt f (lo 12 s) = true ∧ RB nn (dr d e) (lo 12 s) f ∧ (CL nn (dr d e) f ∨ (t + 1 : Int) ≤ pcn nn f)) ?_ N (nn - 1) _ _ _ ⟨2 ^ lo 12 s, 0, rfl, rfl, one32, by omega, Nat.pow_lt_pow_right (by omega) l3, (b0 _).mpr rfl, ?_, Or.inr ?_⟩ (by omega)
    · rintro m nx x3 x4 x5 ⟨f, t, rfl, rfl, rfl, hm, hf, hlo, hR, hJ⟩ ih
      unfold f_X3_reached_w_9
      refine ok_if (fun y => ok_some ⟨f, rfl, hf, Or.inr ⟨hf, hlo, ?_, fun v hv hb => ?_⟩⟩) (fun y => ?_)
      · rw [nI_lei (by omega) (by omega)] at y
        rcases hJ with hJ | hJ
        · exact hJ
        · intro x y' _ hy' _ _
          exact pcn_all (by omega) y' hy'
      · obtain ⟨k, z, h1, h2, h3⟩ := hR v hv hb
        have := (pcn_rng nn f).2
        exact ⟨k, z, h1, h2, by omega⟩
      rw [nI_lei (by omega) (by omega)] at y
      refine ok_bd (c_spread hN h12 hg he hf hR) (fun o ho => ?_)
      obtain ⟨f', rfl, hS⟩ := ho
      rw [nI_s]
      refine ih (m - 1) _ _ _ (by omega) ⟨f', t + 1, rfl, rfl, rfl, by omega, hS.1, hS.2.1 _ l3 hlo, hS.2.2.1, ?_⟩
      by_cases hC : CL nn (dr d e) f
      · rw [hS.2.2.2.1 hC]
        exact Or.inl hC
      · refine Or.inr ?_
        have hJ : (t + 1 : Int) ≤ pcn nn f := hJ.resolve_left hC
        have ⟨x, y', hx, hy, h1, h2, h3⟩ : ∃ x y, x < nn ∧ y < nn ∧ bt f x = true ∧ dr d e x y ≠ -1 ∧ ¬ bt f y = true := Classical.byContradiction (fun hn => hC (fun x y hx hy h1 h2 => Classical.byContradiction (fun h3 => hn ⟨x, y, hx, hy, h1, h2, h3⟩)))
        have h4 : bt f' y' = true := by
          cases d with
          | false => exact hS.2.2.2.2 x y' hx hy (Or.inl hx) h1 h2
          | true => exact hS.2.2.2.2 y' x hy hx (Or.inl hy) h1 h2
        have := pcn_lt hS.2.1 hy h3 h4
        rw [Int.natCast_add]
        omega
    · intro v hv hb
      have ev := (b0 v).mp hb
      rw [p0]
      exact ⟨0, 0, ⟨ev.symm, rfl⟩, by decide, by decide⟩
    · rw [p0]; decide
theorem reached_sw : @f_X3_reached_s = @f_X3_reached_w := rfl
theorem and_all {f s n : Nat} (hf : f < 2 ^ n) (hs : s < 2 ^ n) : f &&& s = s ↔ ∀ v, v < n → bt s v = true → bt f v = true := by
  constructor
  · intro h v _ hb
    rw [← h, bt_and, Bool.and_eq_true] at hb
    exact hb.1
  · intro h
    refine bt_ext (and_lt hs) hs (fun k hk => ?_)
    rw [bt_and]
    cases hh : bt s k with
    | false => rw [Bool.and_false]
    | true => rw [h k hk hh]; rfl
/-- every place with a street reaches every other -/
def HT (nn : Nat) (w e : Nat → Nat → Int) : Prop := ∀ a b, a < nn → b < nn → (∃ c, c < nn ∧ st w a c ≠ -1) → (∃ c, c < nn ∧ st w b c ≠ -1) → ∃ k y, Wk nn e k a b y ∧ 0 ≤ y ∧ y ≤ 22000000
theorem c_hang {N nn : Nat} {w : Nat → Nat → Int} {g1 : Nat → Nat → Int32} (hN : 100 ≤ N) (hw : WW nn w) (h1 : Cs nn w g1) : Ok (fun x => (x = 1 ∧ HT nn w (st w)) ∨ (x = 0 ∧ ∃ a b, a < nn ∧ b < nn ∧ (∃ c, c < nn ∧ st w a c ≠ -1) ∧ (∃ c, c < nn ∧ st w b c ≠ -1) ∧ ¬ ∃ k y, Wk nn (st w) k a b y)) (f_X3_streetsHangTogether N nn (nI nn) g1) := by
  have h12 := hw.2.1
  have hp := pow12 h12
  unfold f_X3_streetsHangTogether
  refine ok_bd (c_places hN h12 h1) (fun o ho => ?_)
  obtain ⟨s, rfl, hs, hb⟩ := ho
  rw [reached_sw]
  refine ok_bd (c_reached (d := false) hN hw.1 h12 h1 (fun a b ha hb => st_rng hw ha hb) hs) (fun o ho => ?_)
  obtain ⟨f, rfl, hf, hR⟩ := ho
  rw [b_and]
  have ed : dr false (st w) = st w := rfl
  rw [ed] at hR
  refine ok_if (fun y => ok_bz (Or.inr rfl) (ok_some (Or.inl ⟨rfl, ?_⟩))) (fun y => ok_bz (Or.inl rfl) (ok_some (Or.inr ⟨rfl, ?_⟩)))
  · rw [nI_eqi (Nat.lt_of_lt_of_le (and_lt hs) (by omega)) (by omega), and_all hf hs] at y
    intro a b ha hb' hsa hsb
    have ba := (hb a ha).mpr hsa
    have bb := (hb b hb').mpr hsb
    rcases hR with hR | ⟨r1, r2, r3, r4⟩
    · rw [hR] at ba
      unfold bt at ba
      rw [Nat.zero_testBit] at ba
      exact absurd ba (by decide)
    · obtain ⟨k1, y1, q1, q2, q3⟩ := r4 a ha (y a ha ba)
      obtain ⟨k2, y2, p1, p2, p3⟩ := r4 b hb' (y b hb' bb)
      have q1' : Wk nn (st w) k1 a (lo 12 s) y1 := by
        refine Wk_rev k1 (lo 12 s) a y1 ha ?_
        refine Wk_congr (fun i j _ _ => st_symm w i j) k1 _ a y1 ha q1
      exact ⟨k1 + k2, y1 + y2, Wk_cat q1' k2 b y2 p1, by omega, by omega⟩
  · rw [nI_eqi (Nat.lt_of_lt_of_le (and_lt hs) (by omega)) (by omega), and_all hf hs] at y
    have ⟨v, hv, b1, b2⟩ : ∃ v, v < nn ∧ bt s v = true ∧ ¬ bt f v = true := Classical.byContradiction (fun hn => y (fun v hv h1 => Classical.byContradiction (fun h2 => hn ⟨v, hv, h1, h2⟩)))
    have s0 : s ≠ 0 := fun h => by
      rw [h] at b1
      unfold bt at b1
      rw [Nat.zero_testBit] at b1
      exact absurd b1 (by decide)
    obtain ⟨l1, l2, l3⟩ := lo_12 h12 hs s0
    rcases hR with hR | ⟨r1, r2, r3, r4⟩
    · exact absurd hR s0
    · refine ⟨lo 12 s, v, l3, hv, (hb _ l3).mp l1, (hb v hv).mp b1, ?_⟩
      rintro ⟨k, y, hk⟩
      exact b2 (CL_wk r3 r2 k v y hv hk)
theorem c_lead {N nn : Nat} {w : Nat → Nat → Int} {g0 g1 : Nat → Nat → Int32} (hN : 100 ≤ N) (hw : WW nn w) (h0 : Cw nn w g0) (h1 : Cs nn w g1) : Ok (fun x => (x = 1 ∧ HT nn w w) ∨ (x = 0 ∧ ∃ a b, a < nn ∧ b < nn ∧ (∃ c, c < nn ∧ st w a c ≠ -1) ∧ (∃ c, c < nn ∧ st w b c ≠ -1) ∧ ¬ ∃ k y, Wk nn w k a b y)) (f_X3_waysLeadFromEachToEach N nn (nI nn) g0 g1) := by
  have h12 := hw.2.1
  have hp := pow12 h12
  unfold f_X3_waysLeadFromEachToEach
  refine ok_bd (c_places hN h12 h1) (fun o ho => ?_)
  obtain ⟨s, rfl, hs, hb⟩ := ho
  refine ok_bd (c_reached (d := false) hN hw.1 h12 h0 (fun a b ha hb => hw.2.2.1 a b ha hb) hs) (fun o ho => ?_)
  obtain ⟨f, rfl, hf, hR⟩ := ho
  refine ok_bd (c_reached (d := true) hN hw.1 h12 h0 (fun a b ha hb => hw.2.2.1 a b ha hb) hs) (fun o ho => ?_)
  obtain ⟨f2, rfl, hf2, hR2⟩ := ho
  rw [b_and, b_and]
  have ed : dr false w = w := rfl
  have ed2 : dr true w = fun i j => w j i := rfl
  rw [ed] at hR
  rw [ed2] at hR2
  have hff : f &&& f2 < 2 ^ nn := and_lt hf2
  refine ok_if (fun y => ok_bz (Or.inr rfl) (ok_some (Or.inl ⟨rfl, ?_⟩))) (fun y => ok_bz (Or.inl rfl) (ok_some (Or.inr ⟨rfl, ?_⟩)))
  · rw [nI_eqi (Nat.lt_of_lt_of_le (and_lt hs) (by omega)) (by omega), and_all hff hs] at y
    intro a b ha hb' hsa hsb
    have ba := (hb a ha).mpr hsa
    have bb := (hb b hb').mpr hsb
    rcases hR with hR | ⟨r1, r2, r3, r4⟩
    · rw [hR] at ba
      unfold bt at ba
      rw [Nat.zero_testBit] at ba
      exact absurd ba (by decide)
    rcases hR2 with hR2 | ⟨t1, t2, t3, t4⟩
    · rw [hR2] at ba
      unfold bt at ba
      rw [Nat.zero_testBit] at ba
      exact absurd ba (by decide)
    have ya := y a ha ba
    have yb := y b hb' bb
    rw [bt_and, Bool.and_eq_true] at ya yb
    obtain ⟨k1, y1, q1, q2, q3⟩ := t4 a ha ya.2
    obtain ⟨k2, y2, p1, p2, p3⟩ := r4 b hb' yb.1
    exact ⟨k1 + k2, y1 + y2, Wk_cat (Wk_rev k1 (lo 12 s) a y1 ha q1) k2 b y2 p1, by omega, by omega⟩
  · rw [nI_eqi (Nat.lt_of_lt_of_le (and_lt hs) (by omega)) (by omega), and_all hff hs] at y
    have ⟨v, hv, b1, b2⟩ : ∃ v, v < nn ∧ bt s v = true ∧ ¬ bt (f &&& f2) v = true := Classical.byContradiction (fun hn => y (fun v hv h1 => Classical.byContradiction (fun h2 => hn ⟨v, hv, h1, h2⟩)))
    have s0 : s ≠ 0 := fun h => by
      rw [h] at b1
      unfold bt at b1
      rw [Nat.zero_testBit] at b1
      exact absurd b1 (by decide)
    obtain ⟨l1, l2, l3⟩ := lo_12 h12 hs s0
    rcases hR with hR | ⟨r1, r2, r3, r4⟩
    · exact absurd hR s0
    rcases hR2 with hR2 | ⟨t1, t2, t3, t4⟩
    · exact absurd hR2 s0
    rw [bt_and, Bool.and_eq_true] at b2
    by_cases c : bt f v = true
    · refine ⟨v, lo 12 s, hv, l3, (hb v hv).mp b1, (hb _ l3).mp l1, ?_⟩
      rintro ⟨k, y, hk⟩
      exact b2 ⟨c, CL_wk t3 t2 k v y hv (Wk_rev (e := fun i j => w j i) k v (lo 12 s) y l3 hk)⟩
    · refine ⟨lo 12 s, v, l3, hv, (hb _ l3).mp l1, (hb v hv).mp b1, ?_⟩
      rintro ⟨k, y, hk⟩
      exact c (CL_wk r3 r2 k v y hv hk)
