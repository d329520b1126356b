/-! ===== the class's linked trees ===== -/
/-- weights -/
def Wt (nn : Nat) (u : Nat → Int) (a20 : Nat → Int32) : Prop := ∀ v, v < nn → (a20 v).toInt = u v ∧ -100000 ≤ u v ∧ u v ≤ 100000
/-- the price of a street -/
def pr (w : Nat → Nat → Int) (u : Nat → Int) (a b : Nat) : Int := 2 * st w a b + u a + u b
theorem pr_symm (w : Nat → Nat → Int) (u : Nat → Int) (a b : Nat) : pr w u a b = pr w u b a := by
  unfold pr
  rw [st_symm w a b]
  omega
theorem pr_rng {nn : Nat} {w : Nat → Nat → Int} {u : Nat → Int} {a20 : Nat → Int32} (hw : WW nn w) (hu : Wt nn u a20) {a b : Nat} (ha : a < nn) (hb : b < nn) : -200002 ≤ pr w u a b ∧ pr w u a b ≤ 2200000 := by
  have h1 := st_rng hw ha hb
  have h2 := hu a ha
  have h3 := hu b hb
  unfold pr
  omega
theorem c_price {nn : Nat} {w : Nat → Nat → Int} {u : Nat → Int} {a20 : Nat → Int32} {g1 : Nat → Nat → Int32} (hw : WW nn w) (hs : Cs nn w g1) (hu : Wt nn u a20) {a b : Nat} (ha : a < nn) (hb : b < nn) : ∃ v, f_X2_price nn a20 g1 (nI a) (nI b) = some v ∧ v.toInt = pr w u a b := by
  have h12 := hw.2.1
  have ca : (nI a).toNatClampNeg = a := nI_c (by omega)
  have cb : (nI b).toNatClampNeg = b := nI_c (by omega)
  have h1 := st_rng hw ha hb
  have h2 := hu a ha
  have h3 := hu b hb
  have h4 := hs a b ha hb
  refine ⟨_, by unfold f_X2_price; simp only [ck_N ha (show nn < 2147483648 by omega), ck_N hb (show nn < 2147483648 by omega), ca, cb]; rfl, ?_⟩
  have e2 : (2 : Int64).toInt = 2 := by decide
  have m1 : ((2 : Int64) * (g1 a b).toInt64).toInt = 2 * st w a b := by
    rw [i64_mul] <;> rw [e2, i64_of32, h4] <;> omega
  have m2 : ((2 : Int64) * (g1 a b).toInt64 + (a20 a).toInt64).toInt = 2 * st w a b + u a := by
    rw [i64_add] <;> rw [m1, i64_of32, h2.1] <;> omega
  rw [i64_add] <;> rw [m2, i64_of32, h3.1] <;> (try unfold pr) <;> omega
/-- degrees -/
def Dg (nn : Nat) (d : Nat → Int) (a21 : Nat → Int32) : Prop := ∀ v, v < nn → (a21 v).toInt = d v ∧ 0 ≤ d v ∧ d v ≤ 1000
def dup (d : Nat → Int) (a b : Nat) : Nat → Int := fun v => d v + (if v = a then 1 else 0) + (if v = b then 1 else 0)
theorem c_take {nn : Nat} {w : Nat → Nat → Int} {u d : Nat → Int} {a20 a21 : Nat → Int32} {g1 : Nat → Nat → Int32} (hw : WW nn w) (hs : Cs nn w g1) (hu : Wt nn u a20) (hd : Dg nn d a21) {a b : Nat} (ha : a < nn) (hb : b < nn) (hab : a ≠ b) {j0 : Int64} (hj : -1000000000000000 ≤ j0.toInt ∧ j0.toInt ≤ 1000000000000000) (hda : d a < 1000) (hdb : d b < 1000) : ∃ j1 a21', f_X2_take nn a20 g1 j0 a21 (nI a) (nI b) = some (j1, a21') ∧ j1.toInt = j0.toInt + pr w u a b ∧ Dg nn (dup d a b) a21' := by
  have h12 := hw.2.1
  have ca : (nI a).toNatClampNeg = a := nI_c (by omega)
  have cb : (nI b).toNatClampNeg = b := nI_c (by omega)
  obtain ⟨v, hv, hvi⟩ := c_price hw hs hu ha hb
  have hp := pr_rng hw hu ha hb
  refine ⟨j0 + v, upd (upd a21 a (a21 a + 1)) b (upd a21 a (a21 a + 1) b + 1), ?_, ?_, ?_⟩
  · unfold f_X2_take nmd
    rw [hv]
    simp only [bd, ck_N ha (show nn < 2147483648 by omega), ck_N hb (show nn < 2147483648 by omega), ca, cb]
  · rw [i64_add] <;> rw [hvi] <;> omega
  · intro x hx
    have e1 : (1 : Int32).toInt = 1 := by decide
    have ea := hd a ha
    have eb := hd b hb
    have ex := hd x hx
    have eba : upd a21 a (a21 a + 1) b = a21 b := pk_un (fun q => hab q.symm)
    rw [eba]
    unfold dup
    by_cases c1 : x = b
    · subst c1
      rw [pk_us, if_neg (fun q => hab q.symm), if_pos rfl, i32_add] <;> rw [e1, eb.1] <;> omega
    · rw [pk_un c1, if_neg c1]
      by_cases c2 : x = a
      · subst c2
        rw [pk_us, if_pos rfl, i32_add] <;> rw [e1, ea.1] <;> omega
      · rw [pk_un c2, if_neg c2]
        refine ⟨by rw [ex.1]; omega, by omega, by omega⟩
/-- pieces -/
def Pc (nn : Nat) (c : Nat → Nat) (a22 : Nat → Int32) : Prop := ∀ v, v < nn → a22 v = nI (c v) ∧ c v < nn
theorem c_unite {N nn : Nat} {c : Nat → Nat} {a22 : Nat → Int32} (hN : 100 ≤ N) (h12 : nn ≤ 12) (hc : Pc nn c a22) {k g : Nat} (hk : k < nn) (hg : g < nn) : Ok (fun a22' => Pc nn (fun v => if c v = g then k else c v) a22') (f_X2_uniteWith N nn (nI nn) a22 (nI k) (nI g)) := by
  unfold f_X2_uniteWith
  refine lq4_ok (fun m x1 x2 x3 a => x1 = nI k ∧ x2 = nI g ∧ ∃ i, x3 = nI i ∧ i + m = nn ∧ ∀ v, v < nn → a v = nI (if v < i ∧ c v = g then k else c v)) ?_ N nn (nI k) (nI g) 0 a22 ⟨rfl, rfl, 0, nI_0.symm, by omega, fun v hv => ?_⟩ (by omega)
  · rintro m nx x1 x2 x3 a ⟨rfl, rfl, i, rfl, hm, ha⟩ ih
    unfold f_X2_uniteWith_2
    refine ok_if (fun q => ?_) (fun q => ?_)
    · rw [nI_lei (by omega) (by omega)] at q
      refine ok_some (fun v hv => ?_)
      have h := ha v hv
      have hcv := (hc v hv).2
      by_cases e : c v = g
      · rw [if_pos ⟨by omega, e⟩] at h
        simp only [if_pos e]
        exact ⟨h, hk⟩
      · rw [if_neg (fun z => e z.2)] at h
        simp only [if_neg e]
        exact ⟨h, hcv⟩
    · rw [nI_lei (by omega) (by omega)] at q
      have hi : i < nn := by omega
      have hci : (nI i).toNatClampNeg = i := nI_c (by omega)
      have h := ha i hi
      rw [if_neg (fun z => Nat.lt_irrefl i z.1)] at h
      have hcv := (hc i hi).2
      rw [ck_N hi (by omega), hci, h]
      refine ok_if (fun z => ?_) (fun z => ?_)
      · rw [nI_eqi (by omega) (by omega)] at z
        rw [ck_N hi (by omega)]
        refine ok_nmd ?_
        rw [nI_s]
        refine ih (m - 1) _ _ _ _ (by omega) ⟨rfl, rfl, i + 1, rfl, by omega, fun v hv => ?_⟩
        by_cases e : v = i
        · subst e
          rw [pk_us, if_pos ⟨by omega, z⟩]
        · rw [pk_un e, ha v hv]
          by_cases e2 : v < i ∧ c v = g
          · rw [if_pos e2, if_pos ⟨by omega, e2.2⟩]
          · rw [if_neg e2, if_neg (fun y => e2 ⟨by omega, y.2⟩)]
      · rw [nI_eqi (by omega) (by omega)] at z
        rw [nI_s]
        refine ih (m - 1) _ _ _ _ (by omega) ⟨rfl, rfl, i + 1, rfl, by omega, fun v hv => ?_⟩
        rw [ha v hv]
        by_cases e2 : v < i ∧ c v = g
        · rw [if_pos e2, if_pos ⟨by omega, e2.2⟩]
        · rw [if_neg e2, if_neg (fun y => e2 ⟨by
            rcases Nat.lt_or_ge v i with q2 | q2
            · exact q2
            · exact absurd (by rw [show v = i by omega] at y; exact y.2) z, y.2⟩)]
  · rw [(hc v hv).1, if_neg (fun z => Nat.not_lt_zero v z.1)]
