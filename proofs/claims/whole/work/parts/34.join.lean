/-! ===== joinTwoPieces, cheapestFromPlace0 ===== -/
/-- streets between two pieces, place 0 apart -/
def Cd (nn : Nat) (w : Nat → Nat → Int) (c : Nat → Nat) (a b : Nat) : Prop := 1 ≤ a ∧ a < b ∧ b < nn ∧ c a ≠ c b ∧ st w a b ≠ -1
/-- what was scanned when a, b is next -/
def Dn (nn a b i j : Nat) : Prop := 1 ≤ i ∧ i < j ∧ j < nn ∧ (i < a ∨ (i = a ∧ j < b))
theorem c_join {N nn : Nat} {w : Nat → Nat → Int} {u d : Nat → Int} {c : Nat → Nat} {a20 a21 a22 : Nat → Int32} {g1 : Nat → Nat → Int32} (hN : 100 ≤ N) (hw : WW nn w) (hs : Cs nn w g1) (hu : Wt nn u a20) (hd : Dg nn d a21) (hdm : ∀ v, v < nn → d v < 1000) (hc : Pc nn c a22) {j0 : Int64} (hj : -1000000000000000 ≤ j0.toInt ∧ j0.toInt ≤ 1000000000000000) :
    Ok (fun r => (r.1 = 0 ∧ ∀ a b, ¬ Cd nn w c a b) ∨ (r.1 = 1 ∧ ∃ i j, Cd nn w c i j ∧ (∀ a b, Cd nn w c a b → Le (pr w u) i j a b) ∧ r.2.1.toInt = j0.toInt + pr w u i j ∧ Dg nn (dup d i j) r.2.2.1 ∧ Pc nn (fun v => if c v = c j then c i else c v) r.2.2.2)) (f_X2_joinTwoPieces N nn (nI nn) a20 g1 j0 a21 a22) := by
  have h3 := hw.1
  have h12 := hw.2.1
  unfold f_X2_joinTwoPieces
  refine lq6_ok (fun m x1 x2 x3 y1 y2 y3 => ∃ a, x3 = nI a ∧ 1 ≤ a ∧ a + m = nn ∧ j0 = y1 ∧ a21 = y2 ∧ a22 = y3 ∧ Bs (Cd nn w c) (pr w u) (Dn nn a (a + 1)) x1 x2) ?_ N (nn - 1) (-1) (-1) 1 j0 a21 a22 ⟨1, by decide, by omega, by omega, rfl, rfl, rfl, Or.inl ⟨rfl, rfl, fun a b h => ?_⟩⟩ (by omega)
  · rintro m nx x1 x2 x3 y1 y2 y3 ⟨a, rfl, ha1, hm, rfl, rfl, rfl, hB⟩ ih
    unfold f_X2_joinTwoPieces_6
    refine ok_if (fun q => ?_) (fun q => ?_)
    · -- the scan is through
      rw [nI_lei (by omega) (by omega)] at q
      have ea : a = nn := by omega
      refine ok_if (fun z => ?_) (fun z => ?_)
      · refine ok_bz (Or.inl rfl) (ok_some (Or.inl ⟨rfl, fun i j hij => ?_⟩))
        subst z
        rcases hB with ⟨-, -, h⟩ | ⟨i', j', h1, -, h2, -⟩
        · exact h i j ⟨hij.1, hij.2.1, hij.2.2.1, Or.inl (by have := hij.2.1; have := hij.2.2.1; omega)⟩ hij
        · exact absurd h1.symm (nI_nm1 (by have := h2.2.1; have := h2.2.2.1; omega))
      · rcases hB with ⟨h1, -, -⟩ | ⟨i, j, rfl, rfl, hD, hC, hl⟩
        · exact absurd h1 z
        · have hi : i < nn := by have := hD.2.1; have := hD.2.2.1; omega
          have hjn : j < nn := hD.2.2.1
          have hij : i ≠ j := by have := hD.2.1; omega
          obtain ⟨j1, a21', ht, htj, htd⟩ := c_take hw hs hu hd hi hjn hij hj (hdm i hi) (hdm j hjn)
          rw [ht]
          show Ok _ (ck (nI i) nn _)
          have ci : (nI i).toNatClampNeg = i := nI_c (by omega)
          have cj : (nI j).toNatClampNeg = j := nI_c (by omega)
          rw [ck_N hi (by omega), ck_N hjn (by omega), ci, cj, (hc i hi).1, (hc j hjn).1]
          refine ok_bd (c_unite hN h12 hc (hc i hi).2 (hc j hjn).2) (fun a22' h22 => ?_)
          refine ok_bz (Or.inr rfl) (ok_some (Or.inr ⟨rfl, i, j, hC, fun a' b' hab => ?_, htj, htd, h22⟩))
          exact hl a' b' ⟨hab.1, hab.2.1, hab.2.2.1, Or.inl (by have := hab.2.1; have := hab.2.2.1; omega)⟩ hab
    · -- the inner scan
      rw [nI_lei (by omega) (by omega)] at q
      have han : a < nn := by omega
      rw [nI_s]
      refine lq7_ok (fun m2 z1 z2 z3 z4 y1 y2 y3 => z3 = nI a ∧ j0 = y1 ∧ a21 = y2 ∧ a22 = y3 ∧ ∃ b, z4 = nI b ∧ a + 1 ≤ b ∧ b + m2 = nn ∧ Bs (Cd nn w c) (pr w u) (Dn nn a b) z1 z2) ?_ N (nn - (a + 1)) x1 x2 (nI a) (nI (a + 1)) j0 a21 a22 ⟨rfl, rfl, rfl, rfl, a + 1, rfl, by omega, by omega, hB⟩ (by omega)
      rintro m2 nx2 z1 z2 z3 z4 y1 y2 y3 ⟨rfl, rfl, rfl, rfl, b, rfl, hb1, hm2, hB⟩ ih2
      unfold f_X2_joinTwoPieces_22
      refine ok_if (fun q2 => ?_) (fun q2 => ?_)
      · rw [nI_lei (by omega) (by omega)] at q2
        rw [nI_s]
        refine ih (m - 1) _ _ _ _ _ _ (by omega) ⟨a + 1, rfl, by omega, by omega, rfl, rfl, rfl, ?_⟩
        have : Dn nn (a + 1) (a + 1 + 1) = Dn nn a b := by
          funext i j
          apply propext
          unfold Dn
          omega
        rw [this]
        exact hB
      · rw [nI_lei (by omega) (by omega)] at q2
        have hbn : b < nn := by omega
        have ca : (nI a).toNatClampNeg = a := nI_c (by omega)
        have cb : (nI b).toNatClampNeg = b := nI_c (by omega)
        have hD : ∀ i j, Dn nn a b i j → Dn nn a (b + 1) i j := by
          intro i j h
          unfold Dn at *
          omega
        have hD' : ∀ i j, Dn nn a (b + 1) i j → Dn nn a b i j ∨ (i = a ∧ j = b) := by
          intro i j h
          unfold Dn at *
          omega
        have hDab : Dn nn a (b + 1) a b := by
          unfold Dn
          omega
        have hlex : ∀ i j, Dn nn a b i j → i < a ∨ (i = a ∧ j < b) := fun i j h => h.2.2.2
        have hsm : ∀ i j, Dn nn a b i j → i < 2147483648 := fun i j h => by
          unfold Dn at h
          omega
        have skip : ¬ Cd nn w c a b → Ok _ (nx2 z1 z2 (nI a) (nI (b + 1)) j0 a21 a22) := fun hn =>
          ih2 (m2 - 1) _ _ _ _ _ _ _ (by omega) ⟨rfl, rfl, rfl, rfl, b + 1, rfl, by omega, by omega, Bs_skip hB hD hD' hn⟩
        rw [nI_s, ck_N han (by omega), ck_N hbn (by omega), ca, cb, (hc a han).1, (hc b hbn).1]
        refine ok_if (fun z => ?_) (fun z => ?_)
        · rw [nI_eqi (by have := (hc a han).2; omega) (by have := (hc b hbn).2; omega)] at z
          exact skip (fun h => h.2.2.2.1 z)
        · rw [nI_eqi (by have := (hc a han).2; omega) (by have := (hc b hbn).2; omega)] at z
          rw [ck_N han (by omega), ck_N hbn (by omega)]
          refine ok_if (fun y => ?_) (fun y => ?_)
          · rw [i32_eq, m1_toInt, hs a b han hbn] at y
            exact skip (fun h => h.2.2.2.2 y)
          · rw [i32_eq, m1_toInt, hs a b han hbn] at y
            have hC : Cd nn w c a b := ⟨by omega, by omega, hbn, z, y⟩
            refine ok_if (fun x => ?_) (fun x => ?_)
            · subst x
              exact ih2 (m2 - 1) _ _ _ _ _ _ _ (by omega) ⟨rfl, rfl, rfl, rfl, b + 1, rfl, by omega, by omega, Bs_first hB hsm hDab hD' hC⟩
            · rcases hB with ⟨h1, -, -⟩ | ⟨i, j, rfl, rfl, h⟩
              · exact absurd h1 x
              · have hi : i < nn := by have := h.1.2.1; have := h.1.2.2.1; omega
                obtain ⟨v1, e1, hv1⟩ := c_price hw hs hu han hbn
                obtain ⟨v2, e2, hv2⟩ := c_price hw hs hu hi h.1.2.2.1
                rw [e1, e2]
                show Ok _ (if v2 ≤ v1 then _ else _)
                refine ok_if (fun t => ?_) (fun t => ?_)
                · rw [i64_le, hv1, hv2] at t
                  exact ih2 (m2 - 1) _ _ _ _ _ _ _ (by omega) ⟨rfl, rfl, rfl, rfl, b + 1, rfl, by omega, by omega, Bs_keep h hD hD' hlex t⟩
                · rw [i64_le, hv1, hv2] at t
                  exact ih2 (m2 - 1) _ _ _ _ _ _ _ (by omega) ⟨rfl, rfl, rfl, rfl, b + 1, rfl, by omega, by omega, Bs_new h hDab hD' hC (by omega)⟩
  · unfold Dn at h
    omega
