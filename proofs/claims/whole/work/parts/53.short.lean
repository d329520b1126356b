/-! ===== the reference's shortest ways ===== -/
/-- what stands in the table: never below a walk, and below far only where there is one -/
def ST (nn : Nat) (e : Nat → Nat → Int) (b : Nat → Int64) : Prop := ∀ x y, x < nn → y < nn → 0 ≤ (b (12 * x + y)).toInt ∧ (b (12 * x + y)).toInt ≤ 1000000000000 ∧ (x = y → (b (12 * x + y)).toInt = 0) ∧ (b (12 * x + y)).toInt ≤ fr (e x y) ∧ ((b (12 * x + y)).toInt < 1000000000000 → ∃ k, Wk nn e k x y (b (12 * x + y)).toInt)
def TrI (nn : Nat) (b : Nat → Int64) (x y z : Nat) : Prop := (b (12 * x + z)).toInt ≤ (b (12 * x + y)).toInt + (b (12 * y + z)).toInt ∨ 1000000000000 ≤ (b (12 * x + y)).toInt + (b (12 * y + z)).toInt
/-- the shortest ways: below far where there is a walk, and then the length of one, no longer than any -/
def DS (nn : Nat) (e : Nat → Nat → Int) (b : Nat → Int64) : Prop := ∀ x y, x < nn → y < nn → 0 ≤ (b (12 * x + y)).toInt ∧ (b (12 * x + y)).toInt ≤ 1000000000000 ∧ ((b (12 * x + y)).toInt < 1000000000000 → ∃ k, Wk nn e k x y (b (12 * x + y)).toInt) ∧ ∀ k l, Wk nn e k x y l → (b (12 * x + y)).toInt ≤ l
theorem ST_DS {nn : Nat} {e : Nat → Nat → Int} {b : Nat → Int64} (h : ST nn e b) (ht : ∀ x y z, x < nn → y < nn → z < nn → TrI nn b x y z) : DS nn e b := by
  have low : ∀ k x y l, x < nn → y < nn → Wk nn e k x y l → (b (12 * x + y)).toInt ≤ l := by
    intro k
    induction k with
    | zero =>
      rintro x y l hx hy ⟨h1, h2⟩
      rw [(h x y hx hy).2.2.1 h1, h2]
      exact Int.le_refl 0
    | succ k ih =>
      rintro x y l hx hy ⟨c, z, h1, h2, h3, h4⟩
      have q1 := ih x c z hx h1 h2
      have q2 := (h c y h1 hy).2.2.2.1
      have q3 := (h x y hx hy).2.1
      have q4 : fr (e c y) = e c y := if_neg h3
      rcases ht x c y hx h1 hy with q | q <;> omega
  exact fun x y hx hy => ⟨(h x y hx hy).1, (h x y hx hy).2.1, (h x y hx hy).2.2.2.2, fun k l hk => low k x y l hx hy hk⟩
def sm (nn : Nat) (b : Nat → Int64) : Int := S2 nn (fun x y => (b (12 * x + y)).toInt)
theorem i12_inj {a b c d : Nat} (hb : b < 12) (hd : d < 12) : 12 * a + b = 12 * c + d ↔ a = c ∧ b = d := by omega
theorem ST_set {nn : Nat} {e : Nat → Nat → Int} {b : Nat → Int64} {x y z : Nat} {v : Int64} (h12 : nn ≤ 12) (h : ST nn e b) (hx : x < nn) (hy : y < nn) (hz : z < nn) (hv : v.toInt = (b (12 * x + y)).toInt + (b (12 * y + z)).toInt) (h1 : v.toInt < (b (12 * x + z)).toInt) (h2 : v.toInt < 1000000000000) : ST nn e (vp_updL b (12 * x + z) v) ∧ sm nn (vp_updL b (12 * x + z) v) < sm nn b := by
  have q1 := h x y hx hy
  have q2 := h y z hy hz
  have q3 := h x z hx hz
  constructor
  · intro i j hi hj
    rw [upL]
    by_cases c : i = x ∧ j = z
    · rw [if_pos (by omega), c.1, c.2]
      obtain ⟨k1, w1⟩ := q1.2.2.2.2 (by omega)
      obtain ⟨k2, w2⟩ := q2.2.2.2.2 (by omega)
      refine ⟨by omega, by omega, fun ee => ?_, by omega, fun _ => ⟨k1 + k2, ?_⟩⟩
      · have := q3.2.2.1 ee
        omega
      · rw [hv]
        exact Wk_cat w1 k2 z _ w2
    · rw [if_neg (by omega)]
      exact h i j hi hj
  · unfold sm
    have : S2 nn (fun i j => (vp_updL b (12 * x + z) v (12 * i + j)).toInt) = S2 nn (fun i j => (b (12 * i + j)).toInt + if i = x ∧ j = z then (v.toInt - (b (12 * x + z)).toInt) else 0) := by
      refine S2_congr (fun i j hi hj => ?_)
      rw [upL]
      by_cases c : i = x ∧ j = z
      · rw [if_pos (by omega), if_pos c, c.1, c.2]; omega
      · rw [if_neg (by omega), if_neg c]; omega
    rw [this, S2_upd hx hz]
    omega
theorem sm_rng {nn : Nat} {e : Nat → Nat → Int} {b : Nat → Int64} (h12 : nn ≤ 12) (h : ST nn e b) : 0 ≤ sm nn b ∧ sm nn b ≤ 144000000000000 := by
  unfold sm
  refine ⟨S2_nonneg (fun i j hi hj => (h i j hi hj).1), ?_⟩
  have h1 : ∀ i, i < nn → S1 nn (fun j => (b (12 * i + j)).toInt) ≤ 12000000000000 := fun i hi => by
    have := S1_bound (n := nn) (f := fun j => (b (12 * i + j)).toInt) (c := 1000000000000) (fun j hj => (h i j hi hj).2.1)
    omega
  have h2 := S1_bound (n := nn) (f := fun i => S1 nn (fun j => (b (12 * i + j)).toInt)) (c := 12000000000000) h1
  exact Int.le_trans h2 (by omega)
theorem length_some {b54 : Nat → Int64} {a b : Nat} (ha : a < 12) (hb : b < 12) : ∃ v, f_X7_length b54 (nI a) (nI b) = some v := by
  unfold f_X7_length
  rw [r_way ha hb, r_way hb ha]
  by_cases h : b54 (12 * b + a) ≤ b54 (12 * a + b)
  · exact ⟨b54 (12 * b + a), by simp only [bd, if_pos h]⟩
  · exact ⟨b54 (12 * a + b), by simp only [bd, if_neg h]⟩
theorem r_has {N nn : Nat} {w : Nat → Nat → Int} {b54 : Nat → Int64} (hN : 100 ≤ N) (hw : WW nn w) (hR : Rw nn w b54) {a : Nat} (ha : a < nn) (x : Int32) : Ok (fun r => (r = 1 ∧ ∃ c, c < nn ∧ st w a c ≠ -1) ∨ (r = 0 ∧ ¬ ∃ c, c < nn ∧ st w a c ≠ -1)) (f_X7_has N (nI nn) b54 (nI a) x) := by
  have h12 := hw.2.1
  unfold f_X7_has
  refine lq3_ok (fun m x1 x3 x4 => ∃ q, nI a = x1 ∧ x4 = nI q ∧ q + m = nn ∧ ((x3 = 1 ∧ ∃ c, c < nn ∧ st w a c ≠ -1) ∨ (x3 = 0 ∧ ∀ c, c < q → st w a c = -1))) ?_ N nn _ _ _ ⟨0, rfl, zero32, by omega, Or.inr ⟨rfl, fun c hc => absurd hc (Nat.not_lt_zero c)⟩⟩ (by omega)
  rintro m nx x1 x3 x4 ⟨q, rfl, rfl, hm, hq⟩ ih
  unfold f_X7_has_5
  refine ok_if (fun y => ?_) (fun y => ?_)
  · rw [nI_lei (by omega) (by omega)] at y
    rcases hq with ⟨e1, e2⟩ | ⟨e1, e2⟩
    · subst e1
      exact ok_bz (Or.inr rfl) (ok_some (Or.inl ⟨rfl, e2⟩))
    · subst e1
      refine ok_bz (Or.inl rfl) (ok_some (Or.inr ⟨rfl, ?_⟩))
      rintro ⟨c, z1, z2⟩
      exact z2 (e2 c (by omega))
  rw [nI_lei (by omega) (by omega)] at y
  have hqn : q < nn := by omega
  rw [nI_s]
  rcases hq with ⟨e1, e2⟩ | ⟨e1, e2⟩
  · subst e1
    rw [if_neg (by decide)]
    exact ih (m - 1) _ _ _ (by omega) ⟨q + 1, rfl, rfl, by omega, Or.inl ⟨rfl, e2⟩⟩
  · subst e1
    rw [if_pos rfl]
    have skip : st w a q = -1 → Ok (fun r => (r = 1 ∧ ∃ c, c < nn ∧ st w a c ≠ -1) ∨ (r = 0 ∧ ¬ ∃ c, c < nn ∧ st w a c ≠ -1)) (nx (nI a) 0 (nI (q + 1))) := fun he => by
      refine ih (m - 1) _ _ _ (by omega) ⟨q + 1, rfl, rfl, by omega, Or.inr ⟨rfl, fun c hc => ?_⟩⟩
      by_cases ec : c = q
      · rw [ec]; exact he
      · exact e2 c (by omega)
    refine ok_if (fun y2 => ?_) (fun y2 => ?_)
    · rw [nI_eqi (by omega) (by omega)] at y2
      refine skip ?_
      rw [y2]
      exact st_self hw ha
    obtain ⟨v, hv, hvi⟩ := r_length hw hR ha hqn
    have sr := st_rng hw ha hqn
    have fw := fr_rng sr.1 sr.2
    rw [hv]
    show Ok _ (if (1000000000000 : Int64) ≤ v then _ else _)
    refine ok_if (fun y3 => ?_) (fun y3 => ?_)
    · rw [i64_le, far64, hvi] at y3
      exact skip (by omega)
    · rw [i64_le, far64, hvi] at y3
      exact ih (m - 1) _ _ _ (by omega) ⟨q + 1, rfl, rfl, by omega, Or.inl ⟨rfl, q, hqn, by omega⟩⟩
/-- the reference's own check: every place with a street reaches every other -/
def SR (nn : Nat) (w e : Nat → Nat → Int) (r : Int32 × (Nat → Int64)) : Prop := DS nn e r.2 ∧ ((r.1 = 1 ∧ ∀ a b, a < nn → b < nn → (∃ c, c < nn ∧ st w a c ≠ -1) → (∃ c, c < nn ∧ st w b c ≠ -1) → (r.2 (12 * a + b)).toInt < 1000000000000) ∨ (r.1 = 0 ∧ ∃ a b, a < nn ∧ b < nn ∧ (∃ c, c < nn ∧ st w a c ≠ -1) ∧ (∃ c, c < nn ∧ st w b c ≠ -1) ∧ (r.2 (12 * a + b)).toInt = 1000000000000))
theorem r_check {N nn : Nat} {w e : Nat → Nat → Int} {b54 b : Nat → Int64} {x1 : Int32} (hN : 100 ≤ N) (hw : WW nn w) (hR : Rw nn w b54) (hD : DS nn e b) : Ok (SR nn w e) (lq4 (f_X7_shorten_213 N (nI nn) b54) N x1 1 0 b) := by
  have h12 := hw.2.1
  have bad : (∃ a b', a < nn ∧ b' < nn ∧ (∃ c, c < nn ∧ st w a c ≠ -1) ∧ (∃ c, c < nn ∧ st w b' c ≠ -1) ∧ (b (12 * a + b')).toInt = 1000000000000) → True := fun _ => trivial
  refine lq4_ok (fun m y1 x3 x4 z => ∃ a, x4 = nI a ∧ a + m = nn ∧ b = z ∧ ((x3 = 1 ∧ ∀ i j, i < a → j < nn → (∃ c, c < nn ∧ st w i c ≠ -1) → (∃ c, c < nn ∧ st w j c ≠ -1) → (b (12 * i + j)).toInt < 1000000000000) ∨ (x3 = 0 ∧ ∃ i j, i < nn ∧ j < nn ∧ (∃ c, c < nn ∧ st w i c ≠ -1) ∧ (∃ c, c < nn ∧ st w j c ≠ -1) ∧ (b (12 * i + j)).toInt = 1000000000000))) ?_ N nn _ _ _ _ ⟨0, zero32, by omega, rfl, Or.inl ⟨rfl, fun i j hi => absurd hi (Nat.not_lt_zero i)⟩⟩ (by omega)
  rintro m nx y1 x3 x4 z ⟨a, rfl, hm, rfl, hz⟩ ih
  unfold f_X7_shorten_213
  refine ok_if (fun y => ?_) (fun y => ?_)
  · rw [nI_lei (by omega) (by omega)] at y
    rcases hz with ⟨e1, e2⟩ | ⟨e1, e2⟩
    · subst e1
      exact ok_bz (Or.inr rfl) (ok_some ⟨hD, Or.inl ⟨rfl, fun i j hi hj => e2 i j (by omega) hj⟩⟩)
    · subst e1
      exact ok_bz (Or.inl rfl) (ok_some ⟨hD, Or.inr ⟨rfl, e2⟩⟩)
  rw [nI_lei (by omega) (by omega)] at y
  have ha : a < nn := by omega
  refine lq5_ok (fun m2 z1 x3 x4 x5 z => ∃ j, nI a = x4 ∧ x5 = nI j ∧ j + m2 = nn ∧ b = z ∧ ((x3 = 1 ∧ ∀ i c, i < nn → c < nn → (i < a ∨ (i = a ∧ c < j)) → (∃ c, c < nn ∧ st w i c ≠ -1) → (∃ d, d < nn ∧ st w c d ≠ -1) → (b (12 * i + c)).toInt < 1000000000000) ∨ (x3 = 0 ∧ ∃ i j, i < nn ∧ j < nn ∧ (∃ c, c < nn ∧ st w i c ≠ -1) ∧ (∃ c, c < nn ∧ st w j c ≠ -1) ∧ (b (12 * i + j)).toInt = 1000000000000))) ?_ N nn _ _ _ _ _ ⟨0, rfl, zero32, by omega, rfl, ?_⟩ (by omega)
  · rintro m2 nx2 z1 x3 x4 x5 z ⟨j, rfl, rfl, hm2, rfl, hz⟩ ih2
    unfold f_X7_shorten_225
    refine ok_if (fun y2 => ?_) (fun y2 => ?_)
    · rw [nI_lei (by omega) (by omega)] at y2
      rw [nI_s]
      refine ih (m - 1) _ _ _ _ (by omega) ⟨a + 1, rfl, by omega, rfl, ?_⟩
      rcases hz with ⟨e1, e2⟩ | q
      · exact Or.inl ⟨e1, fun i c hi hc => e2 i c (by omega) hc (by omega)⟩
      · exact Or.inr q
    rw [nI_lei (by omega) (by omega)] at y2
    have hj : j < nn := by omega
    rcases hz with ⟨e1, e2⟩ | ⟨e1, e2⟩
    · subst e1
      rw [if_neg (by decide)]
      have stay : ((∃ c, c < nn ∧ st w a c ≠ -1) → (∃ d, d < nn ∧ st w j d ≠ -1) → (b (12 * a + j)).toInt < 1000000000000) → Ok (SR nn w e) (nx2 z1 1 (nI a) (nI j + 1) b) := by
        intro hc
        rw [nI_s]
        refine ih2 (m2 - 1) _ _ _ _ _ (by omega) ⟨j + 1, rfl, rfl, by omega, rfl, Or.inl ⟨rfl, fun i c hi hcn hic => ?_⟩⟩
        by_cases ec : i = a ∧ c = j
        · rw [ec.1, ec.2]; exact hc
        · exact e2 i c hi hcn (by omega)
      refine ok_bd (r_has hN hw hR ha z1) (fun o ho => ?_)
      rcases ho with ⟨rfl, ho⟩ | ⟨rfl, ho⟩
      · rw [if_neg (by decide)]
        refine ok_bd (r_has hN hw hR hj z1) (fun o ho2 => ?_)
        rcases ho2 with ⟨rfl, ho2⟩ | ⟨rfl, ho2⟩
        · rw [if_neg (by decide), i12, ck_N (show 12 * a + j < 144 by omega) (by omega), nI_c (show 12 * a + j < 2147483648 by omega)]
          refine ok_if (fun y3 => ?_) (fun y3 => ?_)
          · rw [i64_le, far64] at y3
            rw [nI_s]
            have := (hD a j ha hj).2.1
            exact ih2 (m2 - 1) _ _ _ _ _ (by omega) ⟨j + 1, rfl, rfl, by omega, rfl, Or.inr ⟨rfl, a, j, ha, hj, ho, ho2, by omega⟩⟩
          · rw [i64_le, far64] at y3
            exact stay (fun _ _ => by omega)
        · rw [if_pos rfl]
          exact stay (fun _ h => absurd h ho2)
      · rw [if_pos rfl]
        exact stay (fun h => absurd h ho)
    · subst e1
      rw [if_pos rfl, nI_s]
      exact ih2 (m2 - 1) _ _ _ _ _ (by omega) ⟨j + 1, rfl, rfl, by omega, rfl, Or.inr ⟨rfl, e2⟩⟩
  · rcases hz with ⟨e1, e2⟩ | q
    · exact Or.inl ⟨e1, fun i c hi hc hic => e2 i c (by omega) hc⟩
    · exact Or.inr q
theorem dec3 {n k : Nat} (h : k < n * n * n) : k / n / n < n ∧ k / n % n < n ∧ k % n < n ∧ 0 < n := by
  have h0 : 0 < n := Nat.pos_of_ne_zero (fun e => by subst e; omega)
  refine ⟨?_, Nat.mod_lt _ h0, Nat.mod_lt _ h0, h0⟩
  rw [Nat.div_div_eq_div_mul]
  exact Nat.div_lt_of_lt_mul h
theorem enc3 {n x y z : Nat} (hx : x < n) (hy : y < n) (hz : z < n) : (x * n + y) * n + z < n * n * n ∧ ((x * n + y) * n + z) / n / n = x ∧ ((x * n + y) * n + z) / n % n = y ∧ ((x * n + y) * n + z) % n = z := by
  have h0 : 0 < n := by omega
  have e1 : ((x * n + y) * n + z) / n = x * n + y := by
    rw [Nat.mul_comm, Nat.mul_add_div h0, Nat.div_eq_of_lt hz, Nat.add_zero]
  have e2 : (x * n + y) / n = x := by
    rw [Nat.mul_comm, Nat.mul_add_div h0, Nat.div_eq_of_lt hy, Nat.add_zero]
  have e3 : (x * n + y) % n = y := by
    rw [Nat.mul_comm, Nat.mul_add_mod, Nat.mod_eq_of_lt hy]
  have e4 : ((x * n + y) * n + z) % n = z := by
    rw [Nat.mul_comm, Nat.mul_add_mod, Nat.mod_eq_of_lt hz]
  rw [e1, e2, e3, e4]
  refine ⟨?_, rfl, rfl, rfl⟩
  have h1 : x * n + y < n * n := by
    have : (x + 1) * n ≤ n * n := Nat.mul_le_mul_right n (by omega)
    rw [Nat.add_mul, Nat.one_mul] at this
    omega
  have h2 : (x * n + y + 1) * n ≤ n * n * n := Nat.mul_le_mul_right n (by omega)
  rw [Nat.add_mul (x * n + y), Nat.one_mul] at h2
  omega
theorem r_relax {N nn : Nat} {w e : Nat → Nat → Int} {b54 b : Nat → Int64} {x1 : Int32} (hN : 1000000000000000 ≤ N) (hw : WW nn w) (hR : Rw nn w b54) (hS : ST nn e b) : Ok (SR nn w e) (lq3 (f_X7_shorten_65 N (nI nn) b54) N x1 1 b) := by
  have h12 := hw.2.1
  have h3 := hw.1
  have hn3 : nn * nn * nn ≤ 1728 := by
    have a1 : nn * nn ≤ 12 * 12 := Nat.mul_le_mul h12 h12
    have a2 : nn * nn * nn ≤ 12 * 12 * 12 := Nat.mul_le_mul a1 h12
    omega
  refine lq3_ok (fun m y1 x2 z => ST nn e z ∧ ((x2 = 1 ∧ sm nn z + 1 ≤ m) ∨ (x2 = 0 ∧ sm nn z ≤ m ∧ ∀ x y z', x < nn → y < nn → z' < nn → TrI nn z x y z'))) ?_ N ((sm nn b).toNat + 1) _ _ _ ⟨hS, Or.inl ⟨rfl, ?_⟩⟩ ?_
  · rintro m nx y1 x2 z ⟨hz, hq⟩ ih
    unfold f_X7_shorten_65
    rcases hq with ⟨rfl, hm⟩ | ⟨rfl, hm, ht⟩
    · rw [if_neg (by decide)]
      refine lq4_ok (fun m2 y1 x2 x3 z2 => ∃ k, x3 = nI k ∧ k + m2 = nn * nn * nn ∧ ST nn e z2 ∧ ((x2 = 0 ∧ z = z2 ∧ ∀ x y z', x < nn → y < nn → z' < nn → (x * nn + y) * nn + z' < k → TrI nn z x y z') ∨ (x2 = 1 ∧ sm nn z2 < sm nn z))) ?_ N (nn * nn * nn) _ _ _ _ ⟨0, zero32, by omega, hz, Or.inl ⟨rfl, rfl, fun x y z' _ _ _ h => absurd h (Nat.not_lt_zero _)⟩⟩ (by omega)
      rintro m2 nx2 y1 x2 x3 z2 ⟨k, rfl, hm2, hz2, hq⟩ ih2
      unfold f_X7_shorten_73
      rw [pk_mul, pk_mul]
      refine ok_if (fun y => ?_) (fun y => ?_)
      · rw [nI_lei (by omega) (by omega)] at y
        have sr := sm_rng h12 hz2
        rcases hq with ⟨rfl, rfl, q⟩ | ⟨rfl, q⟩
        · exact ih (m - 1) _ _ _ (by omega) ⟨hz, Or.inr ⟨rfl, by omega, fun x y z' hx hy hz' => q x y z' hx hy hz' (by have := (enc3 hx hy hz').1; omega)⟩⟩
        · exact ih (m - 1) _ _ _ (by omega) ⟨hz2, Or.inl ⟨rfl, by omega⟩⟩
      rw [nI_lei (by omega) (by omega)] at y
      have hk : k < nn * nn * nn := by omega
      obtain ⟨d1, d2, d3, d0⟩ := dec3 hk
      have nz : ¬ nI nn = (0 : Int32) := by rw [zero32, nI_eqi (by omega) (by omega)]; omega
      have hkn : k / nn ≤ k := Nat.div_le_self _ _
      refine ok_dv nz (ok_dv nz (ok_dv nz (ok_dv nz (ok_dv nz ?_))))
      rw [pk_rem (show k < 2 ^ 31 by omega) d0 (by omega), pk_div (show k < 2 ^ 31 by omega) d0 (by omega), pk_rem (show k / nn < 2 ^ 31 by omega) d0 (by omega), pk_div (show k / nn < 2 ^ 31 by omega) d0 (by omega)]
      generalize hx : k / nn / nn = x at *
      generalize hy : k / nn % nn = yy at *
      generalize hzz : k % nn = zz at *
      have dec : ∀ a b c, a < nn → b < nn → c < nn → (a * nn + b) * nn + c = k → a = x ∧ b = yy ∧ c = zz := fun a b c ha hb hc he => by
        have q := enc3 ha hb hc
        rw [he, hx, hy, hzz] at q
        exact ⟨q.2.1.symm, q.2.2.1.symm, q.2.2.2.symm⟩
      rw [i12, i12, i12, ck_N (show 12 * x + yy < 144 by omega) (by omega), ck_N (show 12 * yy + zz < 144 by omega) (by omega), nI_c (show 12 * x + yy < 2147483648 by omega), nI_c (show 12 * yy + zz < 2147483648 by omega), nI_c (show 12 * x + zz < 2147483648 by omega)]
      refine ok_nmd ?_
      rw [ck_N (show 12 * x + zz < 144 by omega) (by omega)]
      have q1 := hz2 x yy d1 d2
      have q2 := hz2 yy zz d2 d3
      have q3 := hz2 x zz d1 d3
      have hsum : (z2 (12 * x + yy) + z2 (12 * yy + zz)).toInt = (z2 (12 * x + yy)).toInt + (z2 (12 * yy + zz)).toInt := by
        rw [i64_add] <;> omega
      have stay : TrI nn z2 x yy zz → Ok (SR nn w e) (nx2 y1 x2 (nI k + 1) z2) := by
        intro hT
        rw [nI_s]
        refine ih2 (m2 - 1) _ _ _ _ (by omega) ⟨k + 1, rfl, by omega, hz2, ?_⟩
        rcases hq with ⟨e1, e2, q⟩ | q
        · refine Or.inl ⟨e1, e2, fun a b c ha hb hc hlt => ?_⟩
          by_cases ek : (a * nn + b) * nn + c = k
          · obtain ⟨r1, r2, r3⟩ := dec a b c ha hb hc ek
            rw [r1, r2, r3, e2]
            exact hT
          · exact q a b c ha hb hc (by omega)
        · exact Or.inr q
      refine ok_if (fun y2 => ?_) (fun y2 => ?_)
      · rw [i64_le, hsum] at y2
        exact stay (Or.inl y2)
      rw [i64_le, hsum] at y2
      refine ok_if (fun y3 => ?_) (fun y3 => ?_)
      · rw [i64_le, hsum, far64] at y3
        exact stay (Or.inr y3)
      rw [i64_le, hsum, far64] at y3
      rw [ck_N (show 12 * x + zz < 144 by omega) (by omega)]
      refine ok_nmd ?_
      obtain ⟨s1, s2⟩ := ST_set h12 hz2 d1 d2 d3 hsum (by omega) (by omega)
      rw [nI_s]
      refine ih2 (m2 - 1) _ _ _ _ (by omega) ⟨k + 1, rfl, by omega, s1, Or.inr ⟨rfl, ?_⟩⟩
      rcases hq with ⟨-, e2, -⟩ | ⟨-, q⟩
      · rw [e2]; exact s2
      · omega
    · rw [if_pos rfl]
      exact r_check (by omega) hw hR (ST_DS hz ht)
  · have := sm_rng h12 hS
    omega
  · have := sm_rng h12 hS
    omega
theorem r_short {N nn : Nat} {w : Nat → Nat → Int} {b54 b57 : Nat → Int64} {d : Bool} (hN : 1000000000000000 ≤ N) (hw : WW nn w) (hR : Rw nn w b54) : Ok (SR nn w (if d = true then w else st w)) (f_X7_shorten N (nI nn) b54 b57 (if d = true then 1 else 0)) := by
  have h12 := hw.2.1
  unfold f_X7_shorten
  refine lq3_ok (fun m x1 x2 z => ∃ k, (if d = true then (1 : Int32) else 0) = x1 ∧ x2 = nI k ∧ k + m = 144 ∧ ∀ a b, a < nn → b < nn → 12 * a + b < k → (z (12 * a + b)).toInt = if a = b then 0 else fr ((if d = true then w else st w) a b)) ?_ N 144 _ _ _ ⟨0, rfl, zero32, by omega, fun a b _ _ h => absurd h (Nat.not_lt_zero _)⟩ (by omega)
  rintro m nx x1 x2 z ⟨k, rfl, rfl, hm, hz⟩ ih
  unfold f_X7_shorten_2
  rw [show (144 : Int32) = nI 144 by decide, show (12 : Int32) = nI 12 by decide]
  refine ok_if (fun y => ?_) (fun y => ?_)
  · rw [nI_lei (by omega) (by omega)] at y
    refine r_relax hN hw hR (fun a b ha hb => ?_)
    have e := hz a b ha hb (by omega)
    rw [e]
    have er : -1 ≤ (if d = true then w else st w) a b ∧ (if d = true then w else st w) a b ≤ 1000000 := by
      cases d with
      | true => exact hw.2.2.1 a b ha hb
      | false => exact st_rng hw ha hb
    have fw := fr_rng er.1 er.2
    by_cases c : a = b
    · rw [if_pos c]
      exact ⟨by omega, by omega, fun _ => rfl, by omega, fun _ => ⟨0, c, rfl⟩⟩
    · rw [if_neg c]
      refine ⟨by omega, by omega, fun h => absurd h c, by omega, fun h => ⟨1, ?_⟩⟩
      have hne := fw.2.2.2.1.mp h
      rw [fw.2.2.2.2 hne]
      exact Wk_one ha hne
  rw [nI_lei (by omega) (by omega)] at y
  have hk : k < 144 := by omega
  have nz : ¬ nI 12 = (0 : Int32) := by decide
  refine ok_dv nz (ok_dv nz ?_)
  rw [pk_rem (show k < 2 ^ 31 by omega) (by decide) (by decide), pk_div (show k < 2 ^ 31 by omega) (by decide) (by decide)]
  have next : ∀ v : Int64, (∀ a b, a < nn → b < nn → 12 * a + b = k → v.toInt = if a = b then 0 else fr ((if d = true then w else st w) a b)) → Ok (SR nn w (if d = true then w else st w)) (nx (if d = true then 1 else 0) (nI k + 1) (vp_updL z k v)) := by
    intro v hv
    rw [nI_s]
    refine ih (m - 1) _ _ _ (by omega) ⟨k + 1, rfl, rfl, by omega, fun a b ha hb hlt => ?_⟩
    rw [upL]
    by_cases c : 12 * a + b = k
    · rw [if_pos c]
      exact hv a b ha hb c
    · rw [if_neg c]
      exact hz a b ha hb (by omega)
  have hd1 : k / 12 < 12 := by omega
  have hd2 : k % 12 < 12 := by omega
  refine ok_if (fun y2 => ?_) (fun y2 => ?_)
  · rw [nI_eqi (by omega) (by omega)] at y2
    rw [ck_N hk (by omega), nI_c (show k < 2147483648 by omega)]
    refine ok_nmd (next 0 (fun a b ha hb he => ?_))
    rw [if_pos (by omega)]
    decide
  rw [nI_eqi (by omega) (by omega)] at y2
  cases d with
  | false =>
    have e0 : (if false = true then (1 : Int32) else 0) = 0 := rfl
    rw [e0] at next ⊢
    rw [if_pos rfl]
    obtain ⟨v, hv⟩ := length_some (b54 := b54) hd1 hd2
    rw [hv]
    show Ok _ (ck (nI k) 144 _)
    rw [ck_N hk (by omega), nI_c (show k < 2147483648 by omega)]
    refine ok_nmd (next v (fun a b ha hb he => ?_))
    rw [if_neg (by omega)]
    obtain ⟨v', hv', hvi⟩ := r_length hw hR ha hb
    rw [show k / 12 = a by omega, show k % 12 = b by omega, hv'] at hv
    rw [← Option.some.inj hv]
    exact hvi
  | true =>
    have e0 : (if true = true then (1 : Int32) else 0) = 1 := rfl
    rw [e0] at next ⊢
    rw [if_neg (show ¬ (1 : Int32) = 0 by decide), r_way hd1 hd2]
    show Ok _ (ck (nI k) 144 _)
    rw [ck_N hk (by omega), nI_c (show k < 2147483648 by omega)]
    refine ok_nmd (next _ (fun a b ha hb he => ?_))
    rw [if_neg (by omega), show 12 * (k / 12) + k % 12 = 12 * a + b by omega]
    exact hR a b ha hb
