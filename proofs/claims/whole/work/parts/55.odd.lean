/-! ===== the sum of the streets and the odd places ===== -/
def dgn (w : Nat → Nat → Int) (a : Nat) : Nat → Nat
  | 0 => 0
  | k + 1 => dgn w a k + (if st w a k ≠ -1 then 1 else 0)
theorem dgn_le (w : Nat → Nat → Int) (a : Nat) : ∀ k, dgn w a k ≤ k := by
  intro k
  induction k with
  | zero => exact Nat.le_refl 0
  | succ k ih =>
    show dgn w a k + (if st w a k ≠ -1 then 1 else 0) ≤ k + 1
    split <;> omega
theorem dgn_S (w : Nat → Nat → Int) (a : Nat) : ∀ k, (dgn w a k : Int) = S1 k (fun b => if st w a b ≠ -1 then 1 else 0) := by
  intro k
  induction k with
  | zero => rfl
  | succ k ih =>
    show ((dgn w a k + (if st w a k ≠ -1 then 1 else 0) : Nat) : Int) = S1 k (fun b => if st w a b ≠ -1 then 1 else 0) + (if st w a k ≠ -1 then 1 else 0)
    rw [Int.natCast_add, ih]
    split <;> rfl
theorem even_sum {f : Nat → Nat → Int} (h : ∀ i j, f i j = f j i) (h0 : ∀ i, f i i = 0) : ∀ n, ∃ t, S2 n f = 2 * t := by
  intro n
  induction n with
  | zero => exact ⟨0, rfl⟩
  | succ n ih =>
    obtain ⟨t, ht⟩ := ih
    refine ⟨t + S1 n (f n), ?_⟩
    have e : S2 (n + 1) f = S1 n (fun a => S1 n (f a) + f a n) + (S1 n (f n) + f n n) := rfl
    rw [e, S1_add, h0 n, S1_congr (f := fun a => f a n) (g := f n) (fun i _ => h i n)]
    have e2 : S1 n (fun a => S1 n (f a)) = S2 n f := rfl
    omega
/-- the odd places, in their order -/
def OL (nn : Nat) (w : Nat → Nat → Int) (a oc : Nat) (od : Nat → Nat) : Prop := oc ≤ a ∧ (∀ i, i < oc → od i < a) ∧ (∀ i j, i < j → j < oc → od i < od j) ∧ (∀ c, c < a → (dgn w c nn % 2 = 1 ↔ ∃ i, i < oc ∧ od i = c)) ∧ (oc : Int) = S1 a (fun c => ((dgn w c nn % 2 : Nat) : Int))
theorem OL_even {nn : Nat} {w : Nat → Nat → Int} {oc : Nat} {od : Nat → Nat} (hw : WW nn w) (h : OL nn w nn oc od) : oc % 2 = 0 := by
  obtain ⟨t, ht⟩ := even_sum (f := fun i j => if st w i j ≠ -1 ∧ i ≠ j then 1 else 0) (fun i j => by
    rw [st_symm]
    by_cases c : st w j i ≠ -1 ∧ i ≠ j
    · rw [if_pos c, if_pos ⟨c.1, fun e => c.2 e.symm⟩]
    · rw [if_neg c, if_neg (fun z => c ⟨z.1, fun e => z.2 e.symm⟩)]) (fun i => if_neg (fun z => z.2 rfl)) nn
  have e1 : S1 nn (fun c => ((dgn w c nn : Nat) : Int)) = 2 * t := by
    rw [← ht]
    unfold S2
    refine S1_congr (fun a ha => ?_)
    rw [dgn_S]
    refine S1_congr (fun b hb => ?_)
    dsimp only
    by_cases c : a = b
    · subst c
      rw [if_neg (fun z => z (st_self hw ha)), if_neg (fun z => z.2 rfl)]
    · by_cases c2 : st w a b ≠ -1
      · rw [if_pos c2, if_pos ⟨c2, c⟩]
      · rw [if_neg c2, if_neg (fun z => c2 z.1)]
  have e2 : S1 nn (fun c => ((dgn w c nn : Nat) : Int)) = 2 * S1 nn (fun c => ((dgn w c nn / 2 : Nat) : Int)) + S1 nn (fun c => ((dgn w c nn % 2 : Nat) : Int)) := by
    rw [← S1_mul, ← S1_add]
    exact S1_congr (fun c _ => by omega)
  have := h.2.2.2.2
  omega
theorem c_odd {N nn : Nat} {w : Nat → Nat → Int} {g1 : Nat → Nat → Int32} {i2 : Int32} {a28 : Nat → Int32} (hN : 100 ≤ N) (hw : WW nn w) (h1 : Cs nn w g1) : Ok (fun x => ∃ oc od, x.1 = nI oc ∧ (∀ i, i < oc → x.2 i = nI (od i)) ∧ OL nn w nn oc od) (f_X4_findOddPlaces N nn (nI nn) g1 i2 a28) := by
  have h12 := hw.2.1
  unfold f_X4_findOddPlaces
  refine lq3_ok (fun m x1 y2 z => ∃ a oc od, x1 = nI a ∧ y2 = nI oc ∧ a + m = nn ∧ (∀ i, i < oc → z i = nI (od i)) ∧ OL nn w a oc od) ?_ N nn _ _ _ ⟨0, 0, fun _ => 0, zero32, zero32, by omega, fun i hi => absurd hi (Nat.not_lt_zero i), Nat.le_refl 0, fun i hi => absurd hi (Nat.not_lt_zero i), fun i j _ hj => absurd hj (Nat.not_lt_zero j), fun c hc => absurd hc (Nat.not_lt_zero c), rfl⟩ (by omega)
  rintro m nx x1 y2 z ⟨a, oc, od, rfl, rfl, hm, hz, hO⟩ ih
  unfold f_X4_findOddPlaces_7
  refine ok_if (fun y => ok_some ?_) (fun y => ?_)
  · rw [nI_lei (by omega) (by omega)] at y
    have ea : a = nn := by omega
    subst ea
    exact ⟨oc, od, rfl, hz, hO⟩
  rw [nI_lei (by omega) (by omega)] at y
  have ha : a < nn := by omega
  obtain ⟨o1, o2, o3, o4, o5⟩ := hO
  refine lq5_ok (fun m2 x1 x2 x3 y2 y3 => ∃ b, nI a = x1 ∧ x2 = nI (dgn w a b) ∧ x3 = nI b ∧ b + m2 = nn ∧ nI oc = y2 ∧ z = y3) ?_ N nn _ _ _ _ _ ⟨0, rfl, zero32, zero32, by omega, rfl, rfl⟩ (by omega)
  rintro m2 nx2 x1 x2 x3 y2 y3 ⟨b, rfl, rfl, rfl, hm2, rfl, rfl⟩ ih2
  have db := dgn_le w a b
  unfold f_X4_findOddPlaces_22
  refine ok_if (fun y2 => ?_) (fun y2 => ?_)
  · rw [nI_lei (by omega) (by omega)] at y2
    have eb : b = nn := by omega
    subst eb
    rw [b_and1 (by omega), nI_s]
    have hmod : dgn w a b % 2 < 2 := Nat.mod_lt _ (by decide)
    refine ok_if (fun y3 => ?_) (fun y3 => ?_)
    · rw [zero32, nI_eqi (by omega) (by omega)] at y3
      refine ih (m - 1) _ _ _ (by omega) ⟨a + 1, oc, od, rfl, rfl, by omega, hz, by omega, fun i hi => by have := o2 i hi; omega, o3, fun c hc => ?_, ?_⟩
      · by_cases ec : c = a
        · subst ec
          constructor
          · intro h; omega
          · rintro ⟨i, hi, e⟩
            have := o2 i hi
            omega
        · exact o4 c (by omega)
      · show _ = S1 a (fun c => ((dgn w c b % 2 : Nat) : Int)) + ((dgn w a b % 2 : Nat) : Int)
        rw [← o5, y3]; exact (Int.add_zero _).symm
    · rw [zero32, nI_eqi (by omega) (by omega)] at y3
      rw [ck_N (show oc < b by omega) (by omega), nI_c (show oc < 2147483648 by omega)]
      refine ok_nmd ?_
      rw [nI_s]
      refine ih (m - 1) _ _ _ (by omega) ⟨a + 1, oc + 1, fun i => if i = oc then a else od i, rfl, rfl, by omega, fun i hi => ?_, by omega, fun i hi => ?_, fun i j hij hj => ?_, fun c hc => ?_, ?_⟩
      · dsimp only
        by_cases ei : i = oc
        · subst ei
          rw [pk_us, if_pos rfl]
        · rw [pk_un ei, if_neg ei]
          exact hz i (by omega)
      · dsimp only
        by_cases ei : i = oc
        · rw [if_pos ei]; omega
        · rw [if_neg ei]
          have := o2 i (by omega)
          omega
      · dsimp only
        rw [if_neg (show ¬ i = oc by omega)]
        by_cases ej : j = oc
        · rw [if_pos ej]
          exact o2 i (by omega)
        · rw [if_neg ej]
          exact o3 i j hij (by omega)
      · dsimp only
        by_cases ec : c = a
        · subst ec
          exact ⟨fun _ => ⟨oc, by omega, if_pos rfl⟩, fun _ => by omega⟩
        · rw [o4 c (by omega)]
          constructor
          · rintro ⟨i, hi, e⟩
            exact ⟨i, by omega, by rw [if_neg (by omega)]; exact e⟩
          · rintro ⟨i, hi, e⟩
            by_cases ei : i = oc
            · rw [if_pos ei] at e
              exact absurd e.symm ec
            · rw [if_neg ei] at e
              exact ⟨i, by omega, e⟩
      · show _ = S1 a (fun c => ((dgn w c b % 2 : Nat) : Int)) + ((dgn w a b % 2 : Nat) : Int)
        rw [← o5]
        omega
  rw [nI_lei (by omega) (by omega)] at y2
  have hb : b < nn := by omega
  have ee : g1 a b = -1 ↔ st w a b = -1 := by rw [i32_eq, m1_toInt, h1 a b ha hb]
  rw [nI_c (show a < 2147483648 by omega), nI_c (show b < 2147483648 by omega), ck_N ha (by omega), ck_N hb (by omega), nI_s]
  refine ok_if (fun y3 => ?_) (fun y3 => ?_)
  · refine ih2 (m2 - 1) _ _ _ _ _ (by omega) ⟨b + 1, rfl, ?_, rfl, by omega, rfl, rfl⟩
    show _ = nI (dgn w a b + (if st w a b ≠ -1 then 1 else 0))
    rw [if_neg (fun h => h (ee.mp y3))]; rfl
  · rw [nI_s]
    refine ih2 (m2 - 1) _ _ _ _ _ (by omega) ⟨b + 1, rfl, ?_, rfl, by omega, rfl, rfl⟩
    show _ = nI (dgn w a b + (if st w a b ≠ -1 then 1 else 0))
    rw [if_pos (fun h => y3 (ee.mpr h))]
/-- the sum of all streets -/
def SS (nn : Nat) (w : Nat → Nat → Int) : Int := S1 nn (fun a => S1 nn (fun b => if a < b then cp w a b else 0))
theorem SS_row {nn : Nat} {w : Nat → Nat → Int} (hw : WW nn w) {a k : Nat} (ha : a < nn) (hk : k ≤ nn) : 0 ≤ S1 k (fun b => if a < b then cp w a b else 0) ∧ S1 k (fun b => if a < b then cp w a b else 0) ≤ 12000000 := by
  have h12 := hw.2.1
  have r : ∀ b, b < k → 0 ≤ (if a < b then cp w a b else 0) ∧ (if a < b then cp w a b else 0) ≤ 1000000 := fun b hb => by
    have := cp_rng hw ha (show b < nn by omega)
    split <;> omega
  have q := S1_bound (n := k) (f := fun b => if a < b then cp w a b else 0) (c := 1000000) (fun b hb => (r b hb).2)
  exact ⟨S1_nonneg (fun b hb => (r b hb).1), by omega⟩
theorem SS_all {nn : Nat} {w : Nat → Nat → Int} (hw : WW nn w) {k : Nat} (hk : k ≤ nn) : 0 ≤ S1 k (fun a => S1 nn (fun b => if a < b then cp w a b else 0)) ∧ S1 k (fun a => S1 nn (fun b => if a < b then cp w a b else 0)) ≤ 144000000 := by
  have h12 := hw.2.1
  have q := S1_bound (n := k) (f := fun a => S1 nn (fun b => if a < b then cp w a b else 0)) (c := 12000000) (fun a ha => (SS_row hw (show a < nn by omega) (Nat.le_refl nn)).2)
  exact ⟨S1_nonneg (fun a ha => (SS_row hw (show a < nn by omega) (Nat.le_refl nn)).1), by omega⟩
theorem c_streets {N nn : Nat} {w : Nat → Nat → Int} {g1 : Nat → Nat → Int32} (hN : 100 ≤ N) (hw : WW nn w) (h1 : Cs nn w g1) : Ok (fun x => x.toInt = SS nn w) (f_X4_sumOfStreets N nn (nI nn) g1) := by
  have h12 := hw.2.1
  unfold f_X4_sumOfStreets
  refine lq2_ok (fun m x1 x3 => ∃ a, x3 = nI a ∧ a + m = nn ∧ x1.toInt = S1 a (fun a => S1 nn (fun b => if a < b then cp w a b else 0))) ?_ N nn _ _ ⟨0, zero32, by omega, (show (0 : Int64).toInt = 0 by decide)⟩ (by omega)
  rintro m nx x1 x3 ⟨a, rfl, hm, hx⟩ ih
  unfold f_X4_sumOfStreets_4
  refine ok_if (fun y => ok_some ?_) (fun y => ?_)
  · rw [nI_lei (by omega) (by omega)] at y
    have ea : a = nn := by omega
    subst ea
    exact hx
  rw [nI_lei (by omega) (by omega)] at y
  have ha : a < nn := by omega
  have all := SS_all hw (show a ≤ nn by omega)
  rw [nI_s]
  refine lq3_ok (fun m2 y1 x3 x4 => ∃ b, a < b ∧ nI a = x3 ∧ x4 = nI b ∧ b + m2 = nn ∧ y1.toInt = x1.toInt + S1 b (fun b => if a < b then cp w a b else 0)) ?_ N (nn - (a + 1)) _ _ _ ⟨a + 1, by omega, rfl, rfl, by omega, ?_⟩ (by omega)
  · rintro m2 nx2 y1 x3 x4 ⟨b, hab, rfl, rfl, hm2, hy⟩ ih2
    unfold f_X4_sumOfStreets_20
    refine ok_if (fun y2 => ?_) (fun y2 => ?_)
    · rw [nI_lei (by omega) (by omega)] at y2
      have eb : b = nn := by omega
      subst eb
      rw [nI_s]
      exact ih (m - 1) _ _ (by omega) ⟨a + 1, rfl, by omega, by rw [hy, hx]; rfl⟩
    rw [nI_lei (by omega) (by omega)] at y2
    have hb : b < nn := by omega
    rw [nI_c (show a < 2147483648 by omega), nI_c (show b < 2147483648 by omega), ck_N ha (by omega), ck_N hb (by omega)]
    refine ok_nmd ?_
    rw [nI_s]
    refine ih2 (m2 - 1) _ _ _ (by omega) ⟨b + 1, by omega, rfl, rfl, by omega, ?_⟩
    show _ = x1.toInt + (S1 b (fun b => if a < b then cp w a b else 0) + (if a < b then cp w a b else 0))
    have e := h1 a b ha hb
    have cr := cp_rng hw ha hb
    have row := SS_row hw ha (show b ≤ nn by omega)
    have ec : (if (0 : Int32) < g1 a b then g1 a b else 0).toInt = cp w a b := by
      unfold cp
      by_cases c2 : (0 : Int32) < g1 a b
      · rw [if_pos c2]
        rw [i32_lt, e, show (0 : Int32).toInt = 0 by decide] at c2
        rw [if_neg (by omega), e]
      · rw [if_neg c2]
        rw [i32_lt, e, show (0 : Int32).toInt = 0 by decide] at c2
        rw [show (0 : Int32).toInt = 0 by decide]
        split <;> omega
    rw [if_pos hab, i64_add] <;> rw [i64_of32, ec, hy] <;> omega
  · rw [S1_congr (g := fun _ => 0) (fun b hb => if_neg (by omega)), S1_zero, Int.add_zero]
theorem r_both {N nn : Nat} {w : Nat → Nat → Int} {b54 b57 b56 : Nat → Int64} {i8 : Int32} {a34 : Nat → Int32} {P : (Int64 × Int32 × (Nat → Int32) × (Nat → Int64)) → Prop} (hN : 100 ≤ N) (hw : WW nn w) (hR : Rw nn w b54) (hP : ∀ (x : Int64) (om : Nat) (b : Nat → Int64), x.toInt = SS nn w → om < 2 ^ nn → (∀ c, c < nn → (bt om c = true ↔ dgn w c nn % 2 = 1)) → (b 0).toInt = 0 → Ok P (lq6 (f_X7_both_133 N (nI nn) b54 b57) N x (nI om) 1 i8 a34 b)) : Ok P (f_X7_both N (nI nn) b54 b57 i8 a34 b56) := by
  have h12 := hw.2.1
  have h3 := hw.1
  have hp := pow12 h12
  unfold f_X7_both
  refine lq6_ok (fun m x1 x3 x4 y1 y2 y3 => ∃ a om, x3 = nI om ∧ x4 = nI a ∧ a + m = nn ∧ i8 = y1 ∧ a34 = y2 ∧ x1.toInt = S1 a (fun a => S1 nn (fun b => if a < b then cp w a b else 0)) ∧ om < 2 ^ nn ∧ ∀ c, c < nn → (bt om c = true ↔ c < a ∧ dgn w c nn % 2 = 1)) ?_ N nn _ _ _ _ _ _ ⟨0, 0, zero32, zero32, by omega, rfl, rfl, (show (0 : Int64).toInt = 0 by decide), Nat.two_pow_pos nn, fun c hc => ?_⟩ (by omega)
  · rintro m nx x1 x3 x4 y1 y2 y3 ⟨a, om, rfl, rfl, hm, rfl, rfl, hx, hom, hb⟩ ih
    unfold f_X7_both_7
    refine ok_if (fun y => ?_) (fun y => ?_)
    · rw [nI_lei (by omega) (by omega)] at y
      have ea : a = nn := by omega
      subst ea
      refine ok_ck (by rw [zero32]; exact vp_in_nI (by decide) (by decide)) (ok_nmd (hP x1 om _ hx hom (fun c hc => ?_) ?_))
      · rw [hb c hc]
        exact ⟨fun z => z.2, fun z => ⟨hc, z⟩⟩
      · rw [show (0 : Int32).toNatClampNeg = 0 by decide, upL, if_pos rfl]
        decide
    rw [nI_lei (by omega) (by omega)] at y
    have ha : a < nn := by omega
    have all := SS_all hw (show a ≤ nn by omega)
    refine lq8_ok (fun m2 z1 z3 z4 z5 z6 v1 v2 v3 => ∃ b, nI om = z3 ∧ nI a = z4 ∧ z5 = nI (dgn w a b) ∧ z6 = nI b ∧ b + m2 = nn ∧ i8 = v1 ∧ a34 = v2 ∧ z1.toInt = x1.toInt + S1 b (fun b => if a < b then cp w a b else 0)) ?_ N nn _ _ _ _ _ _ _ _ ⟨0, rfl, rfl, zero32, zero32, by omega, rfl, rfl, (Int.add_zero _).symm⟩ (by omega)
    rintro m2 nx2 z1 z3 z4 z5 z6 v1 v2 v3 ⟨b, rfl, rfl, rfl, rfl, hm2, rfl, rfl, hz⟩ ih2
    have db := dgn_le w a b
    unfold f_X7_both_22
    refine ok_if (fun y2 => ?_) (fun y2 => ?_)
    · rw [nI_lei (by omega) (by omega)] at y2
      have eb : b = nn := by omega
      subst eb
      refine ok_nmd ?_
      have hmod : dgn w a b % 2 < 2 := Nat.mod_lt _ (by decide)
      have esh : nI (dgn w a b % 2) <<< (nI a &&& 31) = nI (dgn w a b % 2 * 2 ^ a) := by
        have h31 : 2 ^ a ≤ 4096 := pow12 (by omega)
        have hm2 : dgn w a b % 2 * 2 ^ a ≤ 1 * 4096 := Nat.mul_le_mul (by omega) h31
        rw [pk_shlN _ a (sh_k a (by omega)) (by omega)]
      rw [b_and1 (by omega), esh, b_or, nI_s]
      have hz : z1.toInt = S1 (a + 1) (fun a => S1 b (fun b => if a < b then cp w a b else 0)) := by rw [hz, hx]; rfl
      by_cases c : dgn w a b % 2 = 1
      · rw [c, Nat.one_mul]
        refine ih (m - 1) _ _ _ _ _ _ (by omega) ⟨a + 1, om ||| 2 ^ a, rfl, rfl, by omega, rfl, rfl, hz, or_lt hom ha, fun k hk => ?_⟩
        rw [bt_or, Bool.or_eq_true, decide_eq_true_eq, hb k hk]
        constructor
        · rintro (z | rfl)
          · exact ⟨by omega, z.2⟩
          · exact ⟨by omega, c⟩
        · rintro ⟨z1, z2⟩
          by_cases ek : k = a
          · exact Or.inr ek.symm
          · exact Or.inl ⟨by omega, z2⟩
      · have c0 : dgn w a b % 2 = 0 := by omega
        rw [c0, Nat.zero_mul, Nat.or_zero]
        refine ih (m - 1) _ _ _ _ _ _ (by omega) ⟨a + 1, om, rfl, rfl, by omega, rfl, rfl, hz, hom, fun k hk => ?_⟩
        rw [hb k hk]
        constructor
        · rintro z
          exact ⟨by omega, z.2⟩
        · rintro ⟨z1, z2⟩
          refine ⟨?_, z2⟩
          by_cases ek : k = a
          · rw [ek] at z2; omega
          · omega
    rw [nI_lei (by omega) (by omega)] at y2
    have hb' : b < nn := by omega
    obtain ⟨v, hv, hvi⟩ := r_length hw hR ha hb'
    have sr := st_rng hw ha hb'
    have fw := fr_rng sr.1 sr.2
    have cr := cp_rng hw ha hb'
    have row := SS_row hw ha (show b ≤ nn by omega)
    have d1 : ∀ {z : Nat}, st w a b = -1 → dgn w a b = z → dgn w a (b + 1) = z := fun {z} he hd => by
      show dgn w a b + (if st w a b ≠ -1 then 1 else 0) = z
      rw [if_neg (fun h => h he)]; omega
    have next : ∀ (u : Int64) (k : Nat), k = dgn w a (b + 1) → u.toInt = z1.toInt + (if a < b then cp w a b else 0) → Ok P (nx2 u (nI om) (nI a) (nI k) (nI b + 1) i8 a34 v3) := by
      intro u k hk hu
      subst hk
      rw [nI_s]
      refine ih2 (m2 - 1) _ _ _ _ _ _ _ _ (by omega) ⟨b + 1, rfl, rfl, rfl, rfl, by omega, rfl, rfl, ?_⟩
      show _ = x1.toInt + (S1 b (fun b => if a < b then cp w a b else 0) + (if a < b then cp w a b else 0))
      omega
    have c60 : st w a b = -1 → Ok P (f_X7_both_60 N (nI nn) b54 b57 nx nx2 z1 (nI om) (nI a) (nI (dgn w a b)) (nI b) i8 a34 v3) := by
      intro he
      have cp0 : cp w a b = 0 := by unfold cp; rw [if_pos (by omega)]
      unfold f_X7_both_60
      refine ok_if (fun y3 => ?_) (fun y3 => ?_)
      · exact next z1 _ (d1 he rfl).symm (by split <;> omega)
      · rw [hv]
        show Ok P (if (1000000000000 : Int64) ≤ v then _ else _)
        rw [if_pos (by rw [i64_le, far64, hvi, fw.2.2.1.mpr he]; exact Int.le_refl _)]
        exact next z1 _ (d1 he rfl).symm (by split <;> omega)
    refine ok_if (fun y3 => ?_) (fun y3 => ?_)
    · rw [nI_eqi (by omega) (by omega)] at y3
      refine c60 ?_
      rw [← y3]
      exact st_self hw ha
    rw [hv]
    show Ok P (if (1000000000000 : Int64) ≤ v then _ else _)
    refine ok_if (fun y4 => ?_) (fun y4 => ?_)
    · rw [i64_le, far64, hvi] at y4
      exact c60 (by omega)
    rw [i64_le, far64, hvi] at y4
    have hne : st w a b ≠ -1 := by omega
    have d2 : dgn w a b + 1 = dgn w a (b + 1) := by
      show _ = dgn w a b + (if st w a b ≠ -1 then 1 else 0)
      rw [if_pos hne]
    rw [nI_s (dgn w a b)]
    refine ok_if (fun y5 => ?_) (fun y5 => ?_)
    · rw [nI_lei (by omega) (by omega)] at y5
      exact next z1 _ d2 (by rw [if_neg (by omega)]; omega)
    · rw [nI_lei (by omega) (by omega)] at y5
      show Ok P (if (1000000000000 : Int64) ≤ v then _ else _)
      rw [if_neg (by rw [i64_le, far64, hvi]; omega)]
      refine next (z1 + v) _ d2 ?_
      have fc := (fr_cp w a b sr.1).1 (by omega)
      rw [if_pos (by omega), i64_add] <;> rw [hvi, fc] <;> omega
  · unfold bt
    rw [Nat.zero_testBit]
    exact ⟨fun h => absurd h (by decide), fun h => absurd h.1 (Nat.not_lt_zero c)⟩
