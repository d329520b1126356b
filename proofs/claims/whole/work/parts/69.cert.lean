/-! ===== certificate: the reference's row, and both answers ===== -/
theorem bt_xp {s t k : Nat} : bt (s ^^^ 2 ^ t) k = (bt s k != decide (t = k)) := by
  unfold bt
  rw [Nat.testBit_xor, Nat.testBit_two_pow]
theorem and_pos (p : Int32) : ∃ P, P < 2147483648 ∧ p &&& (2147483647 : Int32) = nI P := by
  have h : p.toBitVec.toNat &&& 2147483647 ≤ 2147483647 := Nat.and_le_right
  refine ⟨p.toBitVec.toNat &&& 2147483647, by omega, ?_⟩
  apply Int32.toBitVec_inj.mp
  rw [Int32.toBitVec_and]
  apply BitVec.eq_of_toNat_eq
  rw [BitVec.toNat_and]
  show _ = (BitVec.ofNat 32 (p.toBitVec.toNat &&& 2147483647)).toNat
  rw [BitVec.toNat_ofNat, Nat.mod_eq_of_lt (by omega)]
  rfl
/-- the set of the places that are left before position i + 1 -/
def Lf (nn P i s : Nat) : Prop := s < 4096 ∧ ∀ x, bt s x = true ↔ ∃ k, 1 ≤ k ∧ k ≤ nn - 1 - i ∧ ee nn P i k = x
theorem Lf_0 {nn P : Nat} (h3 : 3 ≤ nn) (h12 : nn ≤ 12) : Lf nn P 0 (2 ^ nn - 2) := by
  have hd : ∀ n, n ≤ 12 → 3 ≤ n → 2 ^ n - 2 < 4096 ∧ ∀ x, x < 12 → (bt (2 ^ n - 2) x = true ↔ (1 ≤ x ∧ x < n)) := by decide +kernel
  obtain ⟨h1, h2⟩ := hd nn h12 h3
  refine ⟨h1, fun x => ?_⟩
  have h4 : (∃ k, 1 ≤ k ∧ k ≤ nn - 1 - 0 ∧ ee nn P 0 k = x) ↔ (1 ≤ x ∧ x < nn) := by
    constructor
    · rintro ⟨k, q1, q2, q3⟩
      have q3 : k = x := q3
      omega
    · rintro ⟨q1, q2⟩
      exact ⟨x, q1, by omega, rfl⟩
  rw [h4]
  by_cases c : x < 12
  · exact h2 x c
  · have : bt (2 ^ nn - 2) x = false := Nat.testBit_lt_two_pow (Nat.lt_of_lt_of_le h1 (Nat.pow_le_pow_right (n := 2) (i := 12) (j := x) (by decide) (by omega)))
    rw [this]
    constructor
    · intro h; cases h
    · intro h; omega
theorem Lf_s {nn P i s : Nat} (hi : i + 1 < nn) (h12 : nn ≤ 12) (h : Lf nn P i s) : bt s (rw_ nn P (i + 1)) = true ∧ Lf nn P (i + 1) (s ^^^ 2 ^ rw_ nn P (i + 1)) := by
  have d := dgt_lt (nn := nn) (P := P) hi
  have ok := ee_ok (nn := nn) (P := P) i (by omega)
  have pos := rw_pos (nn := nn) (P := P) hi
  have hb : bt s (rw_ nn P (i + 1)) = true := (h.2 _).mpr ⟨dgt nn P (i + 1) + 1, by omega, by omega, rw_s.symm⟩
  refine ⟨hb, ?_, fun x => ?_⟩
  · exact Nat.xor_lt_two_pow (n := 12) h.1 (Nat.pow_lt_pow_right (n := 12) (by decide) (by omega))
  · have e : bt (s ^^^ 2 ^ rw_ nn P (i + 1)) x = true ↔ bt s x = true ∧ rw_ nn P (i + 1) ≠ x := by
      rw [bt_xp]
      by_cases c : rw_ nn P (i + 1) = x
      · rw [← c, hb]; simp
      · simp [c]
    rw [e, h.2 x]
    constructor
    · rintro ⟨⟨k, q1, q2, q3⟩, q4⟩
      rw [rw_s] at q4
      by_cases c : k ≤ dgt nn P (i + 1)
      · exact ⟨k, q1, by omega, by rw [ee_lo c]; exact q3⟩
      · have : k ≠ dgt nn P (i + 1) + 1 := fun z => q4 (by rw [← z]; exact q3)
        refine ⟨k - 1, by omega, by omega, ?_⟩
        rw [ee_hi (by omega), show k - 1 + 1 = k by omega]
        exact q3
    · rintro ⟨k, q1, q2, q3⟩
      rw [rw_s]
      by_cases c : k ≤ dgt nn P (i + 1)
      · rw [ee_lo c] at q3
        refine ⟨⟨k, q1, by omega, q3⟩, ?_⟩
        have := ok.2 k (dgt nn P (i + 1) + 1) q1 (by omega) (by omega)
        omega
      · rw [ee_hi c] at q3
        refine ⟨⟨k + 1, by omega, by omega, q3⟩, ?_⟩
        have := ok.2 (dgt nn P (i + 1) + 1) (k + 1) (by omega) (by omega) (by omega)
        omega
theorem r_pick {N nn P : Nat} {b54 : Nat → Int64} {i5 i7 : Int32} {j1 : Int64} {a35 a36 a39 : Nat → Int32} {b55 b56 : Nat → Int64} {Q : Int32 × Int32 × Int32 × Int64 × (Nat → Int32) × (Nat → Int32) × (Nat → Int32) × (Nat → Int64) × (Nat → Int64) → Prop} (hN : 100 ≤ N) (h3 : 3 ≤ nn) (h12 : nn ≤ 12) (h39 : a39 0 = 0) (hQ : ∀ z, (∀ j, j < nn → z j = nI (rw_ nn P j)) → Ok Q (lq10 (f_X7_certificate_148 N (nI nn) b54) N 0 0 i5 i7 j1 a35 a36 z b55 b56)) : Ok Q (lq12 (f_X7_certificate_54 N (nI nn) b54) N (nI (fc (nn - 1))) (nI (P % fc (nn - 1))) (nI (2 ^ nn - 2)) 1 i5 i7 j1 a35 a36 a39 b55 b56) := by
  refine lq12_ok (fun m x2 x3 x4 x5 y1 y2 y3 y4 y5 y6 y7 y8 => ∃ i s, x2 = nI (fc (nn - 1 - i)) ∧ x3 = nI (P % fc (nn - 1 - i)) ∧ x4 = nI s ∧ x5 = nI (i + 1) ∧ i + 1 + m = nn ∧ i5 = y1 ∧ i7 = y2 ∧ j1 = y3 ∧ a35 = y4 ∧ a36 = y5 ∧ b55 = y7 ∧ b56 = y8 ∧ Lf nn P i s ∧ ∀ j, j < i + 1 → y6 j = nI (rw_ nn P j)) ?_ N (nn - 1) _ _ _ _ _ _ _ _ _ _ _ _ ⟨0, 2 ^ nn - 2, rfl, rfl, rfl, one32, by omega, rfl, rfl, rfl, rfl, rfl, rfl, rfl, Lf_0 h3 h12, fun j hj => by rw [show j = 0 by omega, h39, rw_0]; exact zero32⟩ (by omega)
  rintro m nx x2 x3 x4 x5 y1 y2 y3 y4 y5 y6 y7 y8 ⟨i, s, rfl, rfl, rfl, rfl, hm, rfl, rfl, rfl, rfl, rfl, rfl, rfl, hL, hz⟩ ih
  unfold f_X7_certificate_54
  refine ok_if (fun y => ?_) (fun y => ?_)
  · rw [nI_lei (by omega) (by omega)] at y
    exact hQ y6 (fun j hj => hz j (by omega))
  rw [nI_lei (by omega) (by omega)] at y
  have hi : i + 1 < nn := by omega
  have hF := fc_s hi
  have p0 := fc_pos (nn - 1 - (i + 1))
  have p1 := fc_le (nn - 1 - (i + 1)) (by omega)
  have p2 := fc_le (nn - 1 - i) (by omega)
  have d := dgt_lt (nn := nn) (P := P) hi
  have hb : nn - (i + 1) < 2147483648 := by omega
  have n0 : ¬ nI (nn - (i + 1)) = (0 : Int32) := by
    rw [zero32, nI_eqi hb (by omega)]
    omega
  have n1 : ¬ nI (fc (nn - 1 - (i + 1))) = (0 : Int32) := by
    rw [zero32, nI_eqi (by omega) (by omega)]
    omega
  have eb : nn - (i + 1) = nn - 1 - i := by omega
  have eF : fc (nn - 1 - i) / (nn - (i + 1)) = fc (nn - 1 - (i + 1)) := by
    rw [hF, eb, Nat.mul_div_cancel_left _ (by omega)]
  have hr : P % fc (nn - 1 - i) < 2147483648 := by
    have := Nat.mod_lt P (fc_pos (nn - 1 - i))
    omega
  have eR : P % fc (nn - 1 - i) % fc (nn - 1 - (i + 1)) = P % fc (nn - 1 - (i + 1)) := Nat.mod_mod_of_dvd P ⟨nn - 1 - i, by rw [hF, Nat.mul_comm]⟩
  have eD : P % fc (nn - 1 - i) / fc (nn - 1 - (i + 1)) = dgt nn P (i + 1) := by
    rw [hF, Nat.mul_comm, Nat.mod_mul_right_div_self]
    show _ = _ % (nn - (i + 1))
    rw [eb]
  rw [pk_sub (show i + 1 ≤ nn by omega), nI_dv (by omega) hb, eF, nI_rem hr (by omega), nI_dv hr (by omega), eR, eD]
  refine ok_dv n0 (ok_dv n1 (ok_dv n1 (ok_nmd ?_)))
  obtain ⟨hbit, hL'⟩ := Lf_s hi h12 hL
  have ok := ee_ok (nn := nn) (P := P) i (by omega)
  have pos := rw_pos (nn := nn) (P := P) hi
  obtain ⟨D, eD2⟩ : ∃ D, dgt nn P (i + 1) = D := ⟨_, rfl⟩
  rw [eD2] at d ⊢
  have hrow : rw_ nn P (i + 1) = ee nn P i (D + 1) := by rw [rw_s, eD2]
  have hs4 := hL.1
  refine lq14_ok (fun m2 x2 x3 x4 x5 x6 x7 y1 y2 y3 y4 y5 y6' y7 y8 => ∃ t c, nI (fc (nn - 1 - (i + 1))) = x2 ∧ nI (P % fc (nn - 1 - (i + 1))) = x3 ∧ nI s = x4 ∧ nI (i + 1) = x5 ∧ x6 = nI (D - c) ∧ x7 = nI t ∧ t + m2 = 12 ∧ c ≤ D ∧ i5 = y1 ∧ i7 = y2 ∧ j1 = y3 ∧ a35 = y4 ∧ a36 = y5 ∧ y6 = y6' ∧ b55 = y7 ∧ b56 = y8 ∧ ∀ k, 1 ≤ k → k ≤ nn - 1 - i → (ee nn P i k < t ↔ k ≤ c)) ?_ N 12 _ _ _ _ _ _ _ _ _ _ _ _ _ _ ⟨0, 0, rfl, rfl, rfl, rfl, rfl, zero32, rfl, Nat.zero_le _, rfl, rfl, rfl, rfl, rfl, rfl, rfl, rfl, fun k h1 h2 => by omega⟩ (by omega)
  rintro m2 nx2 x2 x3 x4 x5 x6 x7 y1 y2 y3 y4 y5 y6' y7 y8 ⟨t, c, rfl, rfl, rfl, rfl, rfl, rfl, hm2, hcD, rfl, rfl, rfl, rfl, rfl, rfl, rfl, rfl, hc⟩ ih2
  unfold f_X7_certificate_85
  have htt : t ≤ rw_ nn P (i + 1) := by
    rw [hrow]
    have := hc (D + 1) (by omega) (by omega)
    omega
  have ht : t < 12 := by omega
  rw [b_bit (show s < 2147483648 by omega) (show t < 32 by omega), bt_mod]
  by_cases cb : bt s t = true
  · rw [if_pos cb, if_neg (by decide)]
    obtain ⟨k, k1, k2, k3⟩ := (hL.2 t).mp cb
    have ek : k = c + 1 := by
      have a1 := hc k k1 k2
      by_cases z : c + 1 < k
      · have a2 := ok.2 (c + 1) k (by omega) z k2
        have a3 := hc (c + 1) (by omega) (by omega)
        omega
      · omega
    subst ek
    refine ok_if (fun y2 => ?_) (fun y2 => ?_)
    · rw [zero32, nI_lei (by omega) (by omega)] at y2
      have ec : c = D := by omega
      subst ec
      have et : t = rw_ nn P (i + 1) := by rw [hrow]; exact k3.symm
      rw [ck_N (show i + 1 < 12 by omega) (by omega), nI_c (show i + 1 < 2147483648 by omega), b_pow (show t < 31 by omega), b_xor, nI_s]
      rw [← et] at hL'
      refine ok_nmd (ih (m - 1) _ _ _ _ _ _ _ _ _ _ _ _ (by omega) ⟨i + 1, s ^^^ 2 ^ t, rfl, rfl, rfl, rfl, by omega, rfl, rfl, rfl, rfl, rfl, rfl, rfl, hL', fun j hj => ?_⟩)
      by_cases e : j = i + 1
      · rw [e, pk_us, et]
      · rw [pk_un e]; exact hz j (by omega)
    · rw [zero32, nI_lei (by omega) (by omega)] at y2
      have e1 : nI (D - c) - nI 1 = nI (D - (c + 1)) := by
        rw [pk_sub (by omega), show D - c - 1 = D - (c + 1) by omega]
      rw [nI_s]
      refine ok_nmd (ih2 (m2 - 1) _ _ _ _ _ _ _ _ _ _ _ _ _ _ (by omega) ⟨t + 1, c + 1, rfl, rfl, rfl, rfl, e1, rfl, by omega, by omega, rfl, rfl, rfl, rfl, rfl, rfl, rfl, rfl, fun k q1 q2 => ?_⟩)
      have a1 := hc k q1 q2
      by_cases z1 : k ≤ c
      · omega
      · by_cases z2 : k = c + 1
        · subst z2; omega
        · have a2 := ok.2 (c + 1) k (by omega) (by omega) q2
          omega
  · rw [if_neg cb, if_pos (by decide), nI_s]
    have e1 : nI (D - c) - nI 0 = nI (D - c) := by
      rw [pk_sub (Nat.zero_le _), Nat.sub_zero]
    refine ok_nmd (ih2 (m2 - 1) _ _ _ _ _ _ _ _ _ _ _ _ _ _ (by omega) ⟨t + 1, c, rfl, rfl, rfl, rfl, e1, rfl, by omega, hcD, rfl, rfl, rfl, rfl, rfl, rfl, rfl, rfl, fun k q1 q2 => ?_⟩)
    have a1 := hc k q1 q2
    have a2 : ee nn P i k ≠ t := fun z => cb ((hL.2 t).mpr ⟨k, q1, q2, z⟩)
    omega
/-- both bounds now, in both programs -/
theorem same_great {N nn : Nat} {w : Nat → Nat → Int} {g0 g1 : Nat → Nat → Int32} {b54 : Nat → Int64} (hN : 5000 ≤ N) (hw : WW nn w) (h0 : Cw nn w g0) (h1 : Cs nn w g1) (hR : Rw nn w b54) (i1 i7 : Int32) (j0 j1 : Int64) (a20 a21 a22 a23 a24 a25 a35 a36 : Nat → Int32) (b50 b51 b52 b55 b56 : Nat → Int64) : ∃ rc as_ gn, f_X2_bound N nn (nI nn) g1 i1 j0 a20 a21 a22 50 = some rc ∧ f_X0_leastSum N nn (nI nn) g0 a23 a24 a25 b50 b51 b52 = some as_ ∧ f_X7_greatestNow N (nI nn) b54 i7 j1 a35 a36 b55 b56 = some gn ∧ gn.2.1 = i7 ∧ gn.1 = (if rc.1 = -1 then -1 else if as_.1 = -1 then -1 else if rc.1 ≤ as_.1 then as_.1 else rc.1) ∧ RA nn w as_.1.toInt := by
  obtain ⟨rc, rr, e1, e2, e3, e4⟩ := tree_same (N := N) (by omega) hw h1 hR (show 1 ≤ 50 by decide) (show 50 ≤ 50 by decide) i1 i7 j0 j1 a20 a21 a22 a35 a36 b55
  obtain ⟨as_, bs, e5, e6, e7, e8⟩ := t_assign (a23 := a23) (a24 := a24) (a25 := a25) (b50 := b50) (b51 := b51) (b52 := b52) (b56 := b56) hN hw h0 hR
  have e2 : f_X7_grow N (nI nn) b54 i7 j1 a35 a36 b55 50 = some rr := e2
  have e1 : f_X2_bound N nn (nI nn) g1 i1 j0 a20 a21 a22 50 = some rc := e1
  have key : ∃ gn, f_X7_greatestNow N (nI nn) b54 i7 j1 a35 a36 b55 b56 = some gn ∧ gn.2.1 = i7 ∧ gn.1 = (if rc.1 = -1 then -1 else if as_.1 = -1 then -1 else if rc.1 ≤ as_.1 then as_.1 else rc.1) := by
    unfold f_X7_greatestNow
    simp only [e2, e3, e6, bd]
    rw [← e7]
    by_cases c1 : rc.1 = -1
    · rw [if_pos c1, if_pos c1]
      exact ⟨_, rfl, rfl, rfl⟩
    · rw [if_neg c1, if_neg c1]
      by_cases c2 : as_.1 = -1
      · rw [if_pos c2, if_pos c2]
        exact ⟨_, rfl, rfl, rfl⟩
      · rw [if_neg c2, if_neg c2]
        by_cases c3 : rc.1 ≤ as_.1
        · rw [if_pos c3, if_pos c3]
          exact ⟨_, rfl, rfl, rfl⟩
        · rw [if_neg c3, if_neg c3]
          exact ⟨_, rfl, rfl, rfl⟩
  obtain ⟨gn, k1, k2, k3⟩ := key
  exact ⟨rc, as_, gn, e1, e5, k1, k2, k3, e8⟩
theorem t_great {N nn : Nat} {w : Nat → Nat → Int} {g0 g1 : Nat → Nat → Int32} {b54 : Nat → Int64} (hN : 5000 ≤ N) (hw : WW nn w) (h0 : Cw nn w g0) (h1 : Cs nn w g1) (hR : Rw nn w b54) (i1 i7 : Int32) (j0 j1 : Int64) (a20 a21 a22 a23 a24 a25 a35 a36 : Nat → Int32) (b50 b51 b52 b55 b56 : Nat → Int64) : ∃ r g, f_X6_greatest N nn (nI nn) g0 g1 i1 j0 a20 a21 a22 a23 a24 a25 b50 b51 b52 = some r ∧ f_X7_greatestNow N (nI nn) b54 i7 j1 a35 a36 b55 b56 = some g ∧ r.1 = g.1 ∧ g.2.1 = i7 := by
  obtain ⟨rc, as_, gn, e1, e2, e3, e4, e5, -⟩ := same_great hN hw h0 h1 hR i1 i7 j0 j1 a20 a21 a22 a23 a24 a25 a35 a36 b50 b51 b52 b55 b56
  unfold f_X6_greatest
  simp only [e1, e2, bd]
  by_cases c1 : rc.1 = -1
  · rw [if_pos c1]
    rw [if_pos c1] at e5
    exact ⟨_, gn, rfl, e3, e5.symm, e4⟩
  · rw [if_neg c1]
    rw [if_neg c1] at e5
    by_cases c2 : as_.1 = -1
    · rw [if_pos c2]
      rw [if_pos c2] at e5
      exact ⟨_, gn, rfl, e3, e5.symm, e4⟩
    · rw [if_neg c2]
      rw [if_neg c2] at e5
      refine ⟨_, gn, rfl, e3, ?_, e4⟩
      show (if as_.1 < rc.1 then rc.1 else as_.1) = gn.1
      rw [e5]
      by_cases c3 : rc.1 ≤ as_.1
      · rw [if_pos c3, if_neg]
        rw [i64_lt]
        rw [i64_le] at c3
        omega
      · rw [if_neg c3, if_pos]
        rw [i64_lt]
        rw [i64_le] at c3
        omega
/-- a row with all its ways gives each place a way out and a way in -/
theorem row_RA {nn : Nat} {w : Nat → Nat → Int} {ρ : Nat → Nat} {x : Int} (h1 : 1 ≤ nn) (hρ : ∀ j, j < nn → ρ j < nn) (hi : ∀ i j, i < nn → j < nn → ρ i = ρ j → i = j) (hall : ∀ i, i < nn → w (ρ i) (ρ (nxt nn i)) ≠ -1) (h : RA nn w x) : x ≤ S1 nn (fun i => w (ρ i) (ρ (nxt nn i))) ∧ ((∀ i j, i < nn → j < nn → w i j ≠ -1 → 0 ≤ w i j) → x ≠ -1) := by
  have hex := Mk_all hρ hi
  obtain ⟨iv, hiv⟩ : ∃ iv : Nat → Nat, ∀ a, a < nn → iv a < nn ∧ ρ (iv a) = a := by
    have : ∀ a, ∃ i, a < nn → i < nn ∧ ρ i = a := fun a => by
      by_cases c : a < nn
      · obtain ⟨i, q1, q2⟩ := hex a c
        exact ⟨i, fun _ => ⟨q1, q2⟩⟩
      · exact ⟨0, fun z => absurd z c⟩
    exact ⟨fun a => Classical.choose (this a), fun a => Classical.choose_spec (this a)⟩
  have hn : ∀ i, nxt nn i < nn := fun i => nxt_lt h1
  have ninj : ∀ i j, i < nn → j < nn → nxt nn i = nxt nn j → i = j := fun i j hi hj e => by
    unfold nxt at e
    split at e <;> split at e <;> omega
  have fl : Fl nn w nn (fun a => ρ (nxt nn (iv a))) := by
    refine ⟨fun a ha => ⟨hρ _ (hn _), ?_⟩, fun a b ha hb e => ?_⟩
    · have := hall (iv a) (hiv a ha).1
      rw [(hiv a ha).2] at this
      exact this
    · have e1 := ninj _ _ (hiv a ha).1 (hiv b hb).1 (hi _ _ (hn _) (hn _) e)
      rw [← (hiv a ha).2, ← (hiv b hb).2, e1]
  have es : S1 nn (fun a => w a (ρ (nxt nn (iv a)))) = S1 nn (fun i => w (ρ i) (ρ (nxt nn i))) := by
    rw [← perm_sum hρ hi (fun a => w a (ρ (nxt nn (iv a))))]
    refine S1_congr (fun i hi2 => ?_)
    show w (ρ i) (ρ (nxt nn (iv (ρ i)))) = _
    rw [hi _ _ (hiv (ρ i) (hρ i hi2)).1 hi2 (hiv (ρ i) (hρ i hi2)).2]
  rcases h with ⟨-, hno⟩ | ⟨σ, h1, h2, h3⟩
  · exact absurd ⟨_, fl⟩ hno
  · refine ⟨?_, fun hp e => ?_⟩
    · rw [← es]
      exact h3 _ fl
    · have : 0 ≤ S1 nn (fun i => w i (σ i)) := S1_nonneg (fun i hi => hp i (σ i) hi (h1.1 i hi).1 (h1.1 i hi).2)
      omega
theorem t_cert {N nn : Nat} {w : Nat → Nat → Int} {g0 g1 : Nat → Nat → Int32} {b54 : Nat → Int64} (hN : 5000 ≤ N) (hw : WW nn w) (h0 : Cw nn w g0) (h1 : Cs nn w g1) (hR : Rw nn w b54) (p i1 i5 i7 : Int32) (j0 j1 : Int64) (a20 a21 a22 a23 a24 a25 a33 a35 a36 a39 : Nat → Int32) (b50 b51 b52 b55 b56 : Nat → Int64) : ∃ r s, f_X6_certificate N nn (nI nn) g0 g1 i1 j0 a20 a21 a22 a23 a24 a25 a33 b50 b51 b52 p = some r ∧ f_X7_certificate N (nI nn) b54 i5 i7 j1 a35 a36 a39 b55 b56 p = some s ∧ r.1 = s.1 ∧ s.2.1 = 0 ∧ s.2.2.1 = i7 := by
  have h3 := hw.1
  have h12 := hw.2.1
  obtain ⟨P, hP, eP⟩ := and_pos p
  obtain ⟨rc, as_, gn, e1, e2, e3, e4, e5, e6⟩ := same_great hN hw h0 h1 hR i1 i7 j0 j1 a20 a21 a22 a23 a24 a25 a35 a36 b50 b51 b52 b55 b56
  obtain ⟨ra, era, hra⟩ := c_row (a33 := a33) (N := N) (by omega) h3 h12 hP
  obtain ⟨L, eL, hL⟩ := c_length (N := N) (by omega) hw h0 hra (fun j hj => rw_lt hj)
  have hρ : ∀ j, j < nn → rw_ nn P j < nn := fun j hj => rw_lt hj
  have wr : ∀ i, i < nn → -1 ≤ w (rw_ nn P i) (rw_ nn P (nxt nn i)) ∧ w (rw_ nn P i) (rw_ nn P (nxt nn i)) ≤ 1000000 := fun i hi => hw.2.2.1 _ _ (hρ i hi) (hρ _ (nxt_lt (by omega)))
  have frr : ∀ i, i < nn → 0 ≤ fr (w (rw_ nn P i) (rw_ nn P (nxt nn i))) ∧ fr (w (rw_ nn P i) (rw_ nn P (nxt nn i))) ≤ 1000000000000 := fun i hi => by
    have := wr i hi
    unfold fr
    split <;> omega
  -- what the class answers
  have hc : ∃ r, f_X6_certificate N nn (nI nn) g0 g1 i1 j0 a20 a21 a22 a23 a24 a25 a33 b50 b51 b52 p = some r ∧ r.1 = if L = -1 then 0 else if L < rc.1 then 0 else if L < as_.1 then 0 else 1 := by
    unfold f_X6_certificate
    rw [eP]
    simp only [bd, era, eL, e1, e2]
    by_cases c1 : L = -1
    · rw [if_pos c1, if_pos c1]
      exact ⟨_, rfl, rfl⟩
    · rw [if_neg c1, if_neg c1]
      by_cases c2 : L < rc.1
      · rw [if_pos c2, if_pos c2]
        exact ⟨_, rfl, rfl⟩
      · rw [if_neg c2, if_neg c2]
        by_cases c3 : L < as_.1
        · rw [if_pos c3, if_pos c3]
          exact ⟨_, rfl, rfl⟩
        · rw [if_neg c3, if_neg c3]
          exact ⟨_, rfl, rfl⟩
  obtain ⟨r, er, hr⟩ := hc
  -- what the reference answers
  have hs : Ok (fun s => s.1 = r.1 ∧ s.2.1 = 0 ∧ s.2.2.1 = i7) (f_X7_certificate N (nI nn) b54 i5 i7 j1 a35 a36 a39 b55 b56 p) := by
    unfold f_X7_certificate
    refine lq11_ok (fun m x1 x2 x3 y1 y2 y3 y4 y5 y6 y7 y8 => ∃ k, p = x1 ∧ x2 = nI (fc (k + 1)) ∧ x3 = nI (k + 2) ∧ k + 2 + m = nn ∧ (0 : Int32) = y1 ∧ i7 = y2 ∧ j1 = y3 ∧ a35 = y4 ∧ a36 = y5 ∧ a39 = y6 ∧ b55 = y7 ∧ b56 = y8) ?_ N (nn - 2) _ _ _ _ _ _ _ _ _ _ _ ⟨0, rfl, by decide, by decide, by omega, rfl, rfl, rfl, rfl, rfl, rfl, rfl, rfl⟩ (by omega)
    rintro m nx x1 x2 x3 y1 y2 y3 y4 y5 y6 y7 y8 ⟨k, rfl, rfl, rfl, hm, rfl, rfl, rfl, rfl, rfl, rfl, rfl, rfl⟩ ih
    have f1 := fc_le (k + 1) (by omega)
    have f0 := fc_pos (k + 1)
    unfold f_X7_certificate_9
    refine ok_if (fun y => ?_) (fun y => ?_)
    rotate_left
    · rw [nI_lei (by omega) (by omega)] at y
      have f2 := fc_le (k + 2) (by omega)
      have f3 : fc (k + 2) = (k + 2) * fc (k + 1) := rfl
      have f4 : fc (k + 1) * (k + 2) = fc (k + 2) := by rw [f3, Nat.mul_comm]
      rw [nI_ml (by omega) (by omega) (by omega), nI_s, f4]
      exact ih (m - 1) _ _ _ _ _ _ _ _ _ _ _ (by omega) ⟨k + 1, rfl, rfl, rfl, by omega, rfl, rfl, rfl, rfl, rfl, rfl, rfl, rfl⟩
    rw [nI_lei (by omega) (by omega)] at y
    have ek : k + 1 = nn - 1 := by omega
    rw [ek] at f0 f1 ⊢
    rw [eP, nI_rem hP (by omega), b_pow (show nn < 31 by omega), show nI (2 ^ nn) - (2 : Int32) = nI (2 ^ nn - 2) from pk_sub (a := 2 ^ nn) (b := 2) (by
      have := Nat.pow_le_pow_right (n := 2) (i := 3) (j := nn) (by decide) h3
      omega)]
    refine ok_dv ?_ (ok_nmd (ok_nmd (ok_ck (show vp_in (nI 0) 12 from vp_in_nI (by decide) (by decide)) (ok_nmd ?_))))
    · rw [zero32, nI_eqi (by omega) (by omega)]
      omega
    refine r_pick (by omega) h3 h12 pk_us (fun z hz => ?_)
    clear ih nx
    refine lq10_ok (fun m x5 x7 y1 y2 y3 y4 y5 y6 y7 y8 => ∃ t, x7 = nI t ∧ t + m = nn ∧ x5.toInt = S1 t (fun i => fr (w (rw_ nn P i) (rw_ nn P (nxt nn i)))) ∧ (0 : Int32) = y1 ∧ i7 = y2 ∧ j1 = y3 ∧ a35 = y4 ∧ a36 = y5 ∧ z = y6 ∧ b55 = y7 ∧ b56 = y8) ?_ N nn _ _ _ _ _ _ _ _ _ _ ⟨0, zero32, by omega, (show (0 : Int64).toInt = 0 by decide), rfl, rfl, rfl, rfl, rfl, rfl, rfl, rfl⟩ (by omega)
    rintro m nx x5 x7 y1 y2 y3 y4 y5 y6 y7 y8 ⟨t, rfl, hm, hx, rfl, rfl, rfl, rfl, rfl, rfl, rfl, rfl⟩ ih
    unfold f_X7_certificate_148
    have b1 : 0 ≤ S1 t (fun i => fr (w (rw_ nn P i) (rw_ nn P (nxt nn i)))) := S1_nonneg (fun i hi => (frr i (by omega)).1)
    have b2 := S1_bd (n := t) (f := fun i => fr (w (rw_ nn P i) (rw_ nn P (nxt nn i)))) (c := 1000000000000) (by omega) (by decide) (fun i hi => (frr i (by omega)).2)
    refine ok_if (fun y => ?_) (fun y => ?_)
    rotate_left
    · rw [nI_lei (by omega) (by omega)] at y
      have ht : t < nn := by omega
      have en : (t + 1) % nn = nxt nn t := by
        unfold nxt
        by_cases c : t + 1 < nn
        · rw [if_pos c, Nat.mod_eq_of_lt c]
        · rw [if_neg c, show t + 1 = nn by omega, Nat.mod_self]
      have hnx := nxt_lt (nn := nn) (i := t) (by omega)
      have r1 := hρ t ht
      have r2 := hρ _ hnx
      rw [nI_s, nI_rem (by omega) (by omega), en, ck_N (show t < 12 by omega) (by omega), ck_N (show nxt nn t < 12 by omega) (by omega), nI_c (show t < 2147483648 by omega), nI_c (show nxt nn t < 2147483648 by omega), hz t ht, hz _ hnx, r_way (by omega) (by omega)]
      refine ok_dv ?_ ?_
      · rw [zero32, nI_eqi (by omega) (by omega)]
        omega
      have ew := hR _ _ r1 r2
      have f1 := frr t ht
      refine ih (m - 1) _ _ _ _ _ _ _ _ _ _ (by omega) ⟨t + 1, rfl, by omega, ?_, rfl, rfl, rfl, rfl, rfl, rfl, rfl, rfl⟩
      show _ = S1 t (fun i => fr (w (rw_ nn P i) (rw_ nn P (nxt nn i)))) + fr (w (rw_ nn P t) (rw_ nn P (nxt nn t)))
      rw [i64_add] <;> rw [ew, hx] <;> omega
    rw [nI_lei (by omega) (by omega)] at y
    have et : t = nn := by omega
    subst et
    have m1 : (-1 : Int64).toInt = -1 := by decide
    have far : (1000000000000 : Int64).toInt = 1000000000000 := by decide
    rcases hL with ⟨rfl, i, hi, hmis⟩ | ⟨hall, hsum, hpos⟩
    · have : fr (w (rw_ t P i) (rw_ t P (nxt t i))) ≤ S1 t (fun i => fr (w (rw_ t P i) (rw_ t P (nxt t i)))) := S1_ge (f := fun i => fr (w (rw_ t P i) (rw_ t P (nxt t i)))) (fun i hi => (frr i hi).1) hi
      rw [hmis] at this
      have this : 1000000000000 ≤ S1 t (fun i => fr (w (rw_ t P i) (rw_ t P (nxt t i)))) := this
      rw [if_pos (by rw [i64_le, far, hx]; exact this)]
      refine ok_bz (Or.inl rfl) (ok_some ⟨?_, rfl, rfl⟩)
      rw [hr, if_pos rfl]
    · have e7 : S1 t (fun i => fr (w (rw_ t P i) (rw_ t P (nxt t i)))) = S1 t (fun i => w (rw_ t P i) (rw_ t P (nxt t i))) := S1_congr (fun i hi => if_neg (hall i hi))
      have e8 : x5 = L := by rw [i64_eq, hx, e7, hsum]
      subst e8
      have b3 := S1_bd (n := t) (f := fun i => w (rw_ t P i) (rw_ t P (nxt t i))) (c := 1000000) (by omega) (by decide) (fun i hi => (wr i hi).2)
      obtain ⟨ra1, ra2⟩ := row_RA (by omega) hρ (fun i j hi hj e => rw_inj hi hj e) hall e6
      have ra2 := ra2 (fun i j hi hj h => by have := (hw.2.2.1 i j hi hj).1; omega)
      rw [if_neg (by rw [i64_le, far]; omega), e3]
      show Ok _ (if x5 < gn.1 then _ else _)
      have hne : ¬ x5 = -1 := by rw [i64_eq, m1]; omega
      have hna : ¬ as_.1 = -1 := by rw [i64_eq, m1]; exact ra2
      have hla : ¬ x5 < as_.1 := by rw [i64_lt, hsum]; omega
      rw [if_neg hne, if_neg hla] at hr
      have key : x5 < gn.1 ↔ x5 < rc.1 := by
        rw [e5]
        by_cases c1 : rc.1 = -1
        · rw [if_pos c1, c1]
        · rw [if_neg c1, if_neg hna]
          by_cases c3 : rc.1 ≤ as_.1
          · rw [if_pos c3]
            rw [i64_lt] at hla
            rw [i64_le] at c3
            rw [i64_lt, i64_lt]
            omega
          · rw [if_neg c3]
      refine ok_if (fun y2 => ?_) (fun y2 => ?_)
      · rw [if_pos (key.mp y2)] at hr
        exact ok_bz (Or.inl rfl) (ok_some ⟨hr.symm, rfl, e4⟩)
      · rw [if_neg (fun z => y2 (key.mpr z))] at hr
        exact ok_bz (Or.inr rfl) (ok_some ⟨hr.symm, rfl, e4⟩)
  obtain ⟨s, es, q1, q2, q3⟩ := hs
  exact ⟨r, s, er, es, q1.symm, q2, q3⟩
