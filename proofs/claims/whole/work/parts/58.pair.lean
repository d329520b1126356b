/-! ===== promises 7 (over streets) and 8: class and reference answer alike ===== -/
theorem r_pairs {N nn oc om : Nat} {D : Nat → Nat → Int} {od : Nat → Nat} {a29 a34 : Nat → Int32} {b54 b57 z : Nat → Int64} {x : Int64} {lam pp : Nat → Nat} (hN : 100 ≤ N) (h12 : nn ≤ 12) (hoc : oc ≤ nn) (hod : ∀ i, i < oc → od i < nn) (hinc : ∀ i j, i < j → j < oc → od i < od j) (hom : om < 2 ^ nn) (homb : ∀ c, c < nn → (bt om c = true ↔ ∃ i, i < oc ∧ od i = c)) (h57 : ∀ a b, a < nn → b < nn → 0 ≤ (b57 (12 * a + b)).toInt ∧ (b57 (12 * a + b)).toInt ≤ 1000000000000) (hd : ∀ i j, i < oc → j < oc → i ≠ j → D (od i) (od j) = (b57 (12 * od i + od j)).toInt) (hC : CD oc D od (2 ^ oc) a29) (hR : RD nn om b57 (2 ^ nn) z) (hPS : PS oc D od a29 (oc / 2) lam pp) (hl0 : lam (oc / 2) = 0) : Ok (fun r => r.1 = x + z om ∧ r.2.1 = nI (oc / 2) ∧ ∀ i, i < oc / 2 → r.2.2.1 (2 * i) = nI (od (lo 12 (lam i))) ∧ r.2.2.1 (2 * i + 1) = nI (od (pp i))) (lq6 (f_X7_both_297 N (nI nn) b54 b57) N x (nI om) (nI om) 0 a34 z) := by
  have hp := pow12 h12
  have hp12 := pow12 (show oc ≤ 12 by omega)
  have hp0 : 0 < 2 ^ oc := Nat.two_pow_pos oc
  have hod12 : oc ≤ 12 := by omega
  have same := same_sums h12 hoc hod hinc (fun i hi => (homb (od i) (hod i hi)).mpr ⟨i, hi, rfl⟩) hd hC hR
  have eim : om = im od oc (lam 0) := by
    refine bt_ext (n := nn) hom (im_lt oc hod) (fun k hk => bool_eq ?_)
    rw [homb k hk, im_bt, hPS.1]
    have full : ∀ i, i < oc → bt (2 ^ oc - 1) i = true := fun i hi => by
      unfold bt
      rw [Nat.testBit_two_pow_sub_one]
      exact decide_eq_true hi
    exact ⟨fun ⟨i, i1, i2⟩ => ⟨i, i1, full i i1, i2⟩, fun ⟨i, i1, _, i2⟩ => ⟨i, i1, i2⟩⟩
  refine lq6_ok (fun m x1 x3 x4 y1 y2 y3 => ∃ t, x = x1 ∧ nI om = x3 ∧ x4 = nI (im od oc (lam t)) ∧ y1 = nI t ∧ z = y3 ∧ t + m = oc / 2 ∧ ∀ i, i < t → y2 (2 * i) = nI (od (lo 12 (lam i))) ∧ y2 (2 * i + 1) = nI (od (pp i))) ?_ N (oc / 2) _ _ _ _ _ _ ⟨0, rfl, rfl, by rw [← eim], zero32, rfl, by omega, fun i hi => absurd hi (Nat.not_lt_zero i)⟩ (by omega)
  rintro m nx x1 x3 x4 y1 y2 y3 ⟨t, rfl, rfl, rfl, rfl, rfl, hm, hy⟩ ih
  have hil := im_lt (s := lam t) oc hod
  unfold f_X7_both_297
  refine ok_if (fun y => ?_) (fun y => ?_)
  · rw [zero32, nI_eqi (by omega) (by omega)] at y
    have et : t = oc / 2 := by
      refine Classical.byContradiction (fun hne => ?_)
      obtain ⟨q1, q2, q3, q4, q5⟩ := hPS.2 t (by omega)
      obtain ⟨l1, l2, l3⟩ := lo_12 hod12 q3 q4
      have := (im_bt od (lam t) oc (od (lo 12 (lam t)))).mpr ⟨_, l3, l1, rfl⟩
      rw [y] at this
      unfold bt at this
      rw [Nat.zero_testBit] at this
      exact absurd this (by decide)
    subst et
    rw [ck_N (show om < 4096 by omega) (by omega), nI_c (show om < 2147483648 by omega)]
    exact ok_some ⟨rfl, rfl, hy⟩
  rw [zero32, nI_eqi (by omega) (by omega)] at y
  have ht : t < oc / 2 := Classical.byContradiction (fun hne => by
    have et : t = oc / 2 := by omega
    rw [et, hl0] at y
    refine y (bt_ext (n := nn) (im_lt oc hod) (Nat.two_pow_pos nn) (fun k hk => ?_))
    have z0 : bt 0 k = false := by unfold bt; rw [Nat.zero_testBit]
    rw [z0]
    refine bt_ff (fun hh => ?_)
    obtain ⟨i, _, i2, _⟩ := (im_bt od 0 oc k).mp hh
    unfold bt at i2
    rw [Nat.zero_testBit] at i2
    exact absurd i2 (by decide))
  obtain ⟨⟨p1, p2, p3, p4, p5⟩, q2, q3, q4, q5⟩ := hPS.2 t ht
  obtain ⟨l1, l2, l3⟩ := lo_12 hod12 q3 q4
  have s4 : lam t < 4096 := by omega
  have el := im_lo h12 hod12 hod hinc q3 q4
  rw [r_least hN (by omega) y]
  show Ok _ (lq8 _ N x (nI om) (nI (im od oc (lam t))) (nI (lo 12 (im od oc (lam t)))) (nI (lo 12 (im od oc (lam t))) + 1) (nI t) y2 z)
  rw [el, nI_s]
  have val : ∀ q, lo 12 (lam t) < q → q < oc → bt (lam t) q = true → rv b57 z (im od oc (lam t)) (od q) = vl D od a29 (lam t) q := fun q z1 z2 z3 => by
    unfold rv vl
    have w := wo_or s4 q4 z3 (show q ≠ lo 12 (lam t) by omega)
    rw [el, im_wo h12 hod12 hod hinc q3 q4 z2, same (2 ^ oc) (wo (lam t) q) (by omega) (by omega) (ev_wo s4 q4 z3 (by omega) q5), hd (lo 12 (lam t)) q l3 z2 (by omega)]
    omega
  have vleft : (z (im od oc (lam t))).toInt = vl D od a29 (lam t) (pp t) := by
    rw [same (2 ^ oc) (lam t) q3 q3 q5]
    obtain ⟨c1, p', c2, c3, c4, c5⟩ := hC.2.2 (lam t) q4 q3 q3 q5
    have a1 := c1 (pp t) p1 p2 p3
    have a2 := p4 p' c2 c3 c4
    omega
  have hlo := hod _ l3
  have hpp := hod _ p2
  have hinc1 := hinc _ _ p1 p2
  refine lq8_ok (fun m2 x1 x3 x4 x5 x6 v1 v2 v3 => ∃ j, x = x1 ∧ nI om = x3 ∧ nI (im od oc (lam t)) = x4 ∧ nI (od (lo 12 (lam t))) = x5 ∧ x6 = nI j ∧ nI t = v1 ∧ y2 = v2 ∧ z = v3 ∧ j + m2 = od (pp t) ∧ od (lo 12 (lam t)) < j) ?_ N (od (pp t) - (od (lo 12 (lam t)) + 1)) _ _ _ _ _ _ _ _ ⟨od (lo 12 (lam t)) + 1, rfl, rfl, rfl, rfl, rfl, rfl, rfl, rfl, by omega, by omega⟩ (by omega)
  rintro m2 nx2 x1 x3 x4 x5 x6 v1 v2 v3 ⟨j, rfl, rfl, rfl, rfl, rfl, rfl, rfl, rfl, hm2, hj⟩ ih2
  unfold f_X7_both_316
  have jn : j < nn := by omega
  have i4 : im od oc (lam t) < 4096 := by omega
  have next : j ≠ od (pp t) → Ok (fun r : Int64 × Int32 × (Nat → Int32) × (Nat → Int64) => r.1 = x + z om ∧ r.2.1 = nI (oc / 2) ∧ ∀ i, i < oc / 2 → r.2.2.1 (2 * i) = nI (od (lo 12 (lam i))) ∧ r.2.2.1 (2 * i + 1) = nI (od (pp i))) (nx2 x (nI om) (nI (im od oc (lam t))) (nI (od (lo 12 (lam t)))) (nI j + 1) (nI t) y2 z) := fun hne => by
    rw [nI_s]
    exact ih2 (m2 - 1) _ _ _ _ _ _ _ _ (by omega) ⟨j + 1, rfl, rfl, rfl, rfl, rfl, rfl, rfl, rfl, by omega, by omega⟩
  have bpp : bt (im od oc (lam t)) (od (pp t)) = true := (im_bt od (lam t) oc _).mpr ⟨pp t, p2, p3, rfl⟩
  simp only [bt_nul (show im od oc (lam t) < 2147483648 by omega) (show j < 32 by omega)]
  refine ok_if (fun y6 => next (fun e => by rw [e, bpp] at y6; exact absurd y6 (by decide))) (fun y6 => ?_)
  have bj : bt (im od oc (lam t)) j = true := by
    cases hh : bt (im od oc (lam t)) j with
    | true => rfl
    | false => exact absurd hh y6
  have hw := wo_or i4 y bj (by rw [el]; omega)
  have exo : (im od oc (lam t) ^^^ 2 ^ od (lo 12 (lam t))) ^^^ 2 ^ j = wo (im od oc (lam t)) j := by
    have := xo_wo i4 y bj (by rw [el]; omega)
    rw [el] at this
    exact this
  rw [b_pow (show od (lo 12 (lam t)) < 31 by omega), b_pow (show j < 31 by omega), b_xor, b_xor, exo, i12, ck_N (show wo (im od oc (lam t)) j < 4096 by omega) (by omega), ck_N (show 12 * od (lo 12 (lam t)) + j < 144 by omega) (by omega), ck_N i4 (by omega), nI_c (show wo (im od oc (lam t)) j < 2147483648 by omega), nI_c (show 12 * od (lo 12 (lam t)) + j < 2147483648 by omega), nI_c (show im od oc (lam t) < 2147483648 by omega)]
  have r1 := hR.2.1 (wo (im od oc (lam t)) j) (by omega) (by omega)
  have r2 := h57 (od (lo 12 (lam t))) j hlo jn
  have es : (z (wo (im od oc (lam t)) j) + b57 (12 * od (lo 12 (lam t)) + j)).toInt = rv b57 z (im od oc (lam t)) j := by
    unfold rv
    rw [el, i64_add] <;> omega
  obtain ⟨q, a1, a2, a3⟩ := (im_bt od (lam t) oc j).mp bj
  have ql : lo 12 (lam t) < q := Nat.lt_of_not_le (fun hle => by
    by_cases e : q = lo 12 (lam t)
    · rw [e] at a3; omega
    · have := hinc q (lo 12 (lam t)) (by omega) l3
      omega)
  have ev' : rv b57 z (im od oc (lam t)) j = vl D od a29 (lam t) q := by
    rw [← a3]; exact val q ql a1 a2
  refine ok_if (fun y7 => ?_) (fun y7 => ?_)
  · rw [i64_eq, es, vleft, ev'] at y7
    have eq : q = pp t := by
      by_cases c : q < pp t
      · have := p5 q ql c a2
        omega
      · by_cases c2 : pp t < q
        · have := hinc _ _ c2 a1
          omega
        · omega
    subst eq
    rw [show (2 : Int32) = nI 2 by decide, pk_mul, nI_s, ck_N (show 2 * t < 12 by omega) (by omega), nI_c (show 2 * t < 2147483648 by omega), nI_c (show 2 * t + 1 < 2147483648 by omega)]
    refine ok_nmd ?_
    rw [ck_N (show 2 * t + 1 < 12 by omega) (by omega)]
    refine ok_nmd (ok_nmd ?_)
    rw [nI_s]
    refine ih (m - 1) _ _ _ _ _ _ (by omega) ⟨t + 1, rfl, rfl, ?_, rfl, rfl, by omega, fun i hi => ?_⟩
    · rw [q2, ← a3, im_wo h12 hod12 hod hinc q3 q4 p2]
    · by_cases ei : i = t
      · subst ei
        rw [pk_us, pk_un (by omega), pk_us, a3]
        exact ⟨rfl, rfl⟩
      · rw [pk_un (by omega), pk_un (by omega), pk_un (by omega), pk_un (by omega)]
        exact hy i (by omega)
  · refine next (fun e => y7 ?_)
    rw [i64_eq, es, vleft, e]
    exact val (pp t) p1 p2 p3
/-- the pairs that both keep -/
def PRel (nn : Nat) (i3 : Int32) (a30 : Nat → Int32) (i8 : Int32) (a34 : Nat → Int32) : Prop := ∃ k, i3 = nI k ∧ i8 = nI k ∧ 2 * k ≤ nn ∧ ∀ i, i < 2 * k → a30 i = a34 i
theorem t_street {N nn : Nat} {w : Nat → Nat → Int} {g0 g1 g3 g4 : Nat → Nat → Int32} {b54 : Nat → Int64} {i2 i3 i5 i8 : Int32} {a28 a29 a30 a31 a32 a34 a37 a38 a40 : Nat → Int32} {b53 b56 b57 b58 : Nat → Int64} (hN : 1000000000000000 ≤ N) (hw : WW nn w) (h1 : Cs nn w g1) (hR : Rw nn w b54) (hP : PRel nn i3 a30 i8 a34) : ∃ r s, f_X6_postman N nn (nI nn) g0 g1 i2 i3 a28 a29 a30 a31 a32 b53 g3 g4 0 = some r ∧ f_X7_postman N (nI nn) b54 i5 i8 a34 a37 a38 a40 b56 b57 b58 0 = some s ∧ r.1 = s.1 ∧ s.2.1 = 0 ∧ PRel nn r.2.2.1 r.2.2.2.2.2.1 s.2.2.1 s.2.2.2.1 ∧ s.2.2.2.2.1 = a37 := by
  have h3 := hw.1
  have h12 := hw.2.1
  unfold f_X6_postman f_X7_postman
  rw [if_pos rfl]
  obtain ⟨o, eo, hD, ho⟩ := r_short (d := false) (b57 := b57) hN hw hR
  have e0 : (if false = true then (1 : Int32) else 0) = 0 := rfl
  rw [e0] at eo
  have hD : DS nn (st w) o.2 := hD
  rw [eo]
  unfold f_X4_leastWay
  obtain ⟨x, ex, hx⟩ := c_hang (N := N) (by omega) hw h1
  rw [ex]
  rcases hx with ⟨rfl, hT⟩ | ⟨rfl, a, b, ha, hb, sa, sb, hno⟩
  · have ho1 : o.1 = 1 := by
      rcases ho with ⟨q, -⟩ | ⟨-, a, b, ha, hb, sa, sb, hf⟩
      · exact q
      · obtain ⟨k, y, w1, w2, w3⟩ := hT a b ha hb sa sb
        have := (hD a b ha hb).2.2.2 k y w1
        omega
    have h10 : ¬ (1 : Int32) = 0 := by decide
    obtain ⟨v1, ev1, hv1⟩ := c_streets (N := N) (by omega) hw h1
    obtain ⟨v2, ev2, oc, od, e21, e22, hO⟩ := c_odd (N := N) (i2 := i2) (a28 := a28) (by omega) hw h1
    obtain ⟨v3, ev3, D, hg3, hDD⟩ := c_floyd (N := N) (g3 := g3) (by omega) h12 h1 (fun a b ha hb => st_rng hw ha hb)
    have hev := OL_even hw hO
    obtain ⟨o1, o2, o3, o4, o5⟩ := hO
    have hst : ∀ i, i < oc → ∃ c, c < nn ∧ st w (od i) c ≠ -1 := fun i hi => by
      refine Classical.byContradiction (fun hn => ?_)
      have hz : ∀ k, k ≤ nn → dgn w (od i) k = 0 := by
        intro k
        induction k with
        | zero => intro _; rfl
        | succ k ih =>
          intro hk
          show dgn w (od i) k + (if st w (od i) k ≠ -1 then 1 else 0) = 0
          rw [ih (by omega), if_neg (fun h => hn ⟨k, by omega, h⟩)]
      have := (o4 (od i) (o2 i hi)).mpr ⟨i, hi, rfl⟩
      rw [hz nn (Nat.le_refl nn)] at this
      exact absurd this (by decide)
    have inj : ∀ i j, i < oc → j < oc → i ≠ j → od i ≠ od j := fun i j hi hj hne e => by
      by_cases c : i < j
      · have := o3 i j c hj; omega
      · have := o3 j i (by omega) hi; omega
    have hdd : ∀ i j, i < oc → j < oc → i ≠ j → D (od i) (od j) = (o.2 (12 * od i + od j)).toInt ∧ 0 ≤ D (od i) (od j) ∧ D (od i) (od j) ≤ 22000000 := fun i j hi hj hne => by
      obtain ⟨k, y, w1, w2, w3⟩ := hT (od i) (od j) (o2 i hi) (o2 j hj) (hst i hi) (hst j hj)
      have := same_short hDD hD (o2 i hi) (o2 j hj) (inj i j hi hj hne) (show y < 500000000 by omega) w1
      omega
    have hPH : PH nn oc D od v2.2 v3 := ⟨h12, o1, fun i hi => ⟨o2 i hi, e22 i hi⟩, hg3, fun i j hi hj hne => (hdd i j hi hj hne).2⟩
    obtain ⟨v4, ev4, hCD⟩ := c_sums (N := N) (a29 := a29) (by omega) h3 hPH
    obtain ⟨v5, ev5, e51, lam, pp, hPS, hl0, hz5⟩ := c_keep (N := N) (a30 := a30) (i3 := i3) (by omega) hPH hev hCD
    have h57 : ∀ a b, a < nn → b < nn → 0 ≤ (o.2 (12 * a + b)).toInt ∧ (o.2 (12 * a + b)).toInt ≤ 1000000000000 := fun a b ha hb => ⟨(hD a b ha hb).1, (hD a b ha hb).2.1⟩
    have main := r_both (N := N) (b54 := b54) (b57 := o.2) (b56 := b56) (i8 := i8) (a34 := a34) (P := fun r => r.1.toInt = SS nn w + (v4 ((2 ^ oc - 1) / 2)).toInt ∧ r.2.1 = nI (oc / 2) ∧ ∀ i, i < oc / 2 → r.2.2.1 (2 * i) = nI (od (lo 12 (lam i))) ∧ r.2.2.1 (2 * i + 1) = nI (od (pp i))) (by omega) hw hR (fun x om b hx hom homb hb0 => by
      have homb' : ∀ c, c < nn → (bt om c = true ↔ ∃ i, i < oc ∧ od i = c) := fun c hc => (homb c hc).trans (o4 c hc)
      refine r_sets (by omega) h3 h12 hom h57 hb0 (fun z hz => ?_)
      refine ok_mono (r_pairs (by omega) h12 o1 o2 o3 hom homb' h57 (fun i j hi hj hne => (hdd i j hi hj hne).1) hCD hz hPS hl0) (fun r hr => ⟨?_, hr.2⟩)
      have eim : om = im od oc (2 ^ oc - 1) := by
        refine bt_ext (n := nn) hom (im_lt oc o2) (fun k hk => bool_eq ?_)
        rw [homb' k hk, im_bt]
        have full : ∀ i, i < oc → bt (2 ^ oc - 1) i = true := fun i hi => by
          unfold bt
          rw [Nat.testBit_two_pow_sub_one]
          exact decide_eq_true hi
        exact ⟨fun ⟨i, i1, i2⟩ => ⟨i, i1, full i i1, i2⟩, fun ⟨i, i1, _, i2⟩ => ⟨i, i1, i2⟩⟩
      have hp0 : 0 < 2 ^ oc := Nat.two_pow_pos oc
      have evf : ev (2 ^ oc - 1) := by
        unfold ev
        rw [pc_full oc (by omega)]
        exact hev
      have es := same_sums h12 o1 o2 o3 (fun i hi => (homb' (od i) (o2 i hi)).mpr ⟨i, hi, rfl⟩) (fun i j hi hj hne => (hdd i j hi hj hne).1) hCD hz (2 ^ oc) (2 ^ oc - 1) (by omega) (by omega) evf
      rw [← eim] at es
      have sr := SS_all hw (Nat.le_refl nn)
      have sr : 0 ≤ SS nn w ∧ SS nn w ≤ 144000000 := sr
      have lr := hz.2.1 om hom hom
      rw [hr.1, i64_add] <;> omega)
    obtain ⟨v6, ev6, h61, h62, h63⟩ := main
    have hp12 := pow12 (show oc ≤ 12 by omega)
    have hp0 : 0 < 2 ^ oc := Nat.two_pow_pos oc
    have hh := half_lt o1 (by omega) (show 2 ^ oc - 1 < 2 ^ oc by omega)
    have hpw : 2 ^ (nn - 1) ≤ 4096 := pow12 (by omega)
    have eE : f_X4_everyOdd v2.1 = some (nI (2 ^ oc - 1)) := by
      unfold f_X4_everyOdd
      rw [e21, b_pow (by omega), nI_p1 (by omega)]
    have ev4' : f_X4_findLeastSums N nn v2.1 v2.2 v3 a29 = some v4 := by rw [e21]; exact ev4
    have ev5' : f_X4_keepPairs N nn v2.1 v2.2 v4 v3 i3 a30 = some v5 := by rw [e21]; exact ev5
    have eE' := eE
    have evf : ev (2 ^ oc - 1) := by
      unfold ev
      rw [pc_full oc (by omega)]
      exact hev
    have lr := hCD.2.1 (2 ^ oc - 1) (by omega) (by omega) evf
    rw [pc_full oc (by omega)] at lr
    simp only [bd, ho1, if_neg h10, if_pos, ev1, ev2, ev3, ev4', ev5', eE', ev6, shr1 (show 2 ^ oc - 1 < 2147483648 by omega), ck_N hh (show 2 ^ (nn - 1) < 2147483648 by omega), nI_c (show (2 ^ oc - 1) / 2 < 2147483648 by omega)]
    refine ⟨_, _, rfl, rfl, ?_, rfl, ⟨oc / 2, e51, h62, by omega, fun i hi => ?_⟩, rfl⟩
    · show v1 + (v4 ((2 ^ oc - 1) / 2)).toInt64 = v6.1
      have sr := SS_all hw (Nat.le_refl nn)
      have sr : 0 ≤ SS nn w ∧ SS nn w ≤ 144000000 := sr
      rw [i64_eq, h61, i64_add] <;> rw [i64_of32, hv1] <;> omega
    · show v5.2 i = v6.2.2.1 i
      have a := hz5 (i / 2) (by omega)
      have b := h63 (i / 2) (by omega)
      by_cases c : i % 2 = 0
      · rw [show 2 * (i / 2) = i by omega] at a b
        rw [a.1, b.1]
      · rw [show 2 * (i / 2) + 1 = i by omega] at a b
        rw [a.2, b.2]
  · have ho1 : o.1 = 0 := by
      rcases ho with ⟨q, hall⟩ | ⟨q, -⟩
      · obtain ⟨k, hk⟩ := (hD a b ha hb).2.2.1 (hall a b ha hb sa sb)
        exact absurd ⟨k, _, hk⟩ hno
      · exact q
    simp only [bd, ho1, if_pos]
    exact ⟨_, _, rfl, rfl, rfl, rfl, hP, rfl⟩
theorem t_pair {nn : Nat} {i3 i8 i5 : Int32} {a30 a34 : Nat → Int32} (p1 p2 : Int32) (h12 : nn ≤ 12) (h : PRel nn i3 a30 i8 a34) : ∃ r, f_X6_pair nn i3 a30 p1 p2 = some r ∧ f_X7_pair i8 a34 i5 p1 p2 = some (r, 0) := by
  obtain ⟨k, rfl, rfl, hk, ha⟩ := h
  unfold f_X6_pair f_X4_member f_X7_pair
  rcases ix_cases p1 (show k < 2147483648 by omega) with (h1 | h1) | ⟨i, hi, rfl⟩
  · rw [if_pos h1, if_pos h1]
    exact ⟨_, rfl, rfl⟩
  · by_cases c : p1 < 0
    · rw [if_pos c, if_pos c]
      exact ⟨_, rfl, rfl⟩
    · rw [if_neg c, if_neg c, if_pos h1, if_pos h1]
      exact ⟨_, rfl, rfl⟩
  · have c1 : ¬ nI i < (0 : Int32) := by rw [zero32, nI_lti (by omega) (by omega)]; omega
    have c2 : ¬ nI k ≤ nI i := by rw [nI_lei (by omega) (by omega)]; omega
    rw [if_neg c1, if_neg c1, if_neg c2, if_neg c2]
    rcases ix_cases p2 (show 2 < 2147483648 by omega) with (h2 | h2) | ⟨j, hj, rfl⟩
    · rw [if_pos h2, if_pos h2]
      exact ⟨_, rfl, rfl⟩
    · by_cases c : p2 < 0
      · rw [if_pos c, if_pos c]
        exact ⟨_, rfl, rfl⟩
      · have c3 : ¬ p2 ≤ (1 : Int32) := by
          rw [i32_le, show (nI 2).toInt = 2 by decide] at h2
          rw [i32_le, show (1 : Int32).toInt = 1 by decide]
          omega
        rw [if_neg c, if_neg c, if_neg c3, if_neg c3]
        exact ⟨_, rfl, rfl⟩
    · have c3 : ¬ nI j < (0 : Int32) := by rw [zero32, nI_lti (by omega) (by omega)]; omega
      have c4 : nI j ≤ (1 : Int32) := by rw [one32, nI_lei (by omega) (by omega)]; omega
      rw [if_neg c3, if_neg c3, if_pos c4, if_pos c4, show (2 : Int32) = nI 2 by decide, pk_mul, nI_add, ck_N (show 2 * i + j < nn by omega) (by omega), ck_N (show 2 * i + j < 12 by omega) (by omega), nI_c (show 2 * i + j < 2147483648 by omega), ha (2 * i + j) (by omega)]
      exact ⟨_, rfl, rfl⟩
