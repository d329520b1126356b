/-! ===== changeAlong, leastSum ===== -/
/-- behind changeAlong: the columns 1 .. nn bear R rows -/
def CA (nn : Nat) (w : Nat → Nat → Int) (R : Nat) (p : Nat → Nat) (u v : Nat → Int) (q : Nat → Nat) : Prop :=
  (∀ j k, 1 ≤ j → j ≤ nn → 1 ≤ k → k ≤ nn → q j = q k → q j ≠ 0 → j = k) ∧ (∀ j, 1 ≤ j → j ≤ nn → q j ≠ 0 → u (q j) + v j = cst w (q j) j) ∧ (∀ j, j ≤ nn → q j ≤ R) ∧ (∀ j, 1 ≤ j → j ≤ nn → q j = 0 → p j = 0) ∧ S1 (nn + 1) (fun j => if j ≠ 0 ∧ q j ≠ 0 then 1 else 0) = (R : Int)
theorem c_change {N nn : Nat} {w : Nat → Nat → Int} {R : Nat} {p : Nat → Nat} {a23 : Nat → Int32} (hN : 100 ≤ N) (h12 : nn ≤ 12) (hp : Ri nn p a23) (hcnt : S1 (nn + 1) (fun j => if p j ≠ 0 then 1 else 0) = (R : Int)) {a t : Nat} {dn : Nat → Bool} {bf : Nat → Nat} {u v : Nat → Int} {rk : Nat → Nat} {a24 : Nat → Int32} (ha1 : 1 ≤ a) (ha2 : a ≤ nn) (hpa : p a = 0) (htn : t ≤ nn) (hbf : Ri nn bf a24) (hH : HP nn w R p u v) (hda : dn a = false) (hdn : ∀ j, j ≤ nn → dn j = true → p j ≠ 0 ∧ rk j < t) (hba : dn (bf a) = true) (hta : u (p (bf a)) + v a = cst w (p (bf a)) a)
    (hch : ∀ k, 1 ≤ k → k ≤ nn → dn k = true → dn (bf k) = true ∧ rk (bf k) < rk k ∧ u (p (bf k)) + v k = cst w (p (bf k)) k) :
    Ok (fun z => ∃ q, Ri nn q z ∧ CA nn w R p u v q) (f_X0_changeAlong N nn (nI nn) a24 a23 (nI a)) := by
  unfold f_X0_changeAlong
  refine lq3_ok (fun m x2 x3 z => ∃ (b T : Nat) (q : Nat → Nat), x2 = nI b ∧ x3 = nI T ∧ b ≤ nn ∧ m = (if b = a then t else rk b) ∧ T + m ≤ t ∧ (b = a ∨ dn b = true) ∧ Ri nn q z ∧ (∀ j k, j ≤ nn → k ≤ nn → j ≠ b → k ≠ b → q j = q k → q j ≠ 0 → j = k) ∧ (∀ j, 1 ≤ j → j ≤ nn → j ≠ b → q j ≠ 0 → u (q j) + v j = cst w (q j) j) ∧ (∀ j, j ≤ nn → q j ≤ R) ∧ (∀ j, j ≤ nn → dn j = true → rk j < m → q j = p j) ∧ (∀ j, 1 ≤ j → j ≤ nn → q j = 0 → p j = 0) ∧ S1 (nn + 1) (fun j => if j ≠ b ∧ q j ≠ 0 then 1 else 0) = (R : Int)) ?_ N t (nI a) 0 a23 ⟨a, 0, p, rfl, nI_0.symm, ha2, by rw [if_pos rfl], by omega, Or.inl rfl, hp, fun j k hj hk _ _ e h => hH.2.2.1 j k hj hk e h, fun j j1 j2 _ h => hH.2.2.2.2.1 j j1 j2 h, hH.2.1, fun j hj hd _ => rfl, fun j _ _ h => h, ?_⟩ (by omega)
  · rintro m nx x2 x3 z ⟨b, T, q, rfl, rfl, hb, hm, hT, hbd, hq, i1, i2, i3, i4, i5, i6⟩ ih
    unfold f_X0_changeAlong_4
    refine ok_if (fun y => ?_) (fun _ => ?_)
    · rw [nI_lti (by omega) (by omega)] at y
      omega
    · refine ok_if (fun y => ?_) (fun y => ?_)
      · rw [zero32, nI_eqi (by omega) (by omega)] at y
        subst y
        exact ok_some ⟨q, hq, fun j k j1 j2 k1 k2 e h => i1 j k j2 k2 (by omega) (by omega) e h, fun j j1 j2 h => i2 j j1 j2 (by omega) h, i3, i5, i6⟩
      · rw [zero32, nI_eqi (by omega) (by omega)] at y
        have cb : (nI b).toNatClampNeg = b := nI_c (by omega)
        have hc := hbf b hb
        have cc : (nI (bf b)).toNatClampNeg = bf b := nI_c (by omega)
        -- the one before
        have key : dn (bf b) = true ∧ rk (bf b) < m ∧ u (p (bf b)) + v b = cst w (p (bf b)) b := by
          rcases hbd with rfl | hd
          · rw [if_pos rfl] at hm
            rw [hm]
            exact ⟨hba, (hdn (bf b) hc.2 hba).2, hta⟩
          · have hne : b ≠ a := fun e => by
              rw [e, hda] at hd
              exact absurd hd (by decide)
            rw [if_neg hne] at hm
            rw [hm]
            exact hch b (by omega) hb hd
        have hne : bf b ≠ a := fun e => by
          rw [e, hda] at key
          exact absurd key.1 (by decide)
        have hbb : bf b ≠ b := fun e => by
          have h1 := key.2.1
          rw [e] at h1
          rw [e] at hne
          rw [if_neg hne] at hm
          omega
        have hqp : q (bf b) = p (bf b) := i4 (bf b) hc.2 key.1 key.2.1
        have hpn := (hdn (bf b) hc.2 key.1).1
        rw [ck_N (show b < nn + 1 by omega) (by omega), cb, hc.1, ck_N (show bf b < nn + 1 by omega) (by omega), ck_N (show b < nn + 1 by omega) (by omega), cc, nI_s, (hq (bf b) hc.2).1]
        refine ok_nmd ?_
        have qb : (if b = b then q (bf b) else q b) = q (bf b) := if_pos rfl
        refine ih (rk (bf b)) _ _ _ key.2.1 ⟨bf b, T + 1, fun j => if j = b then q (bf b) else q j, rfl, rfl, hc.2, by rw [if_neg hne], by omega, Or.inr key.1, fun j hj => ?_, fun j k hj hk j1 k1 e h => ?_, fun j j1 j2 j3 h => ?_, fun j hj => ?_, fun j hj hd hr => ?_, fun j j1 j2 h => ?_, ?_⟩
        · by_cases e : j = b
          · subst e
            rw [pk_us]
            dsimp only
            rw [if_pos rfl]
            exact ⟨rfl, (hq (bf j) hc.2).2⟩
          · rw [pk_un e]
            dsimp only
            rw [if_neg e]
            exact hq j hj
        · have e : (if j = b then q (bf b) else q j) = (if k = b then q (bf b) else q k) := e
          have h : (if j = b then q (bf b) else q j) ≠ 0 := h
          by_cases ej : j = b
          · by_cases ek : k = b
            · rw [ej, ek]
            · rw [if_pos ej, if_neg ek] at e
              rw [if_pos ej] at h
              exact absurd (i1 (bf b) k hc.2 hk hbb ek e h).symm k1
          · rw [if_neg ej] at e h
            by_cases ek : k = b
            · rw [if_pos ek] at e
              exact absurd (i1 j (bf b) hj hc.2 ej hbb e h) j1
            · rw [if_neg ek] at e
              exact i1 j k hj hk ej ek e h
        · have h : (if j = b then q (bf b) else q j) ≠ 0 := h
          show u (if j = b then q (bf b) else q j) + v j = cst w (if j = b then q (bf b) else q j) j
          by_cases e : j = b
          · rw [if_pos e, hqp, e]
            exact key.2.2
          · rw [if_neg e] at h ⊢
            exact i2 j j1 j2 e h
        · show (if j = b then q (bf b) else q j) ≤ R
          split
          · exact i3 _ hc.2
          · exact i3 j hj
        · show (if j = b then q (bf b) else q j) = p j
          have e : j ≠ b := fun e => by
            subst e
            rcases hbd with z | z
            · rw [z, hda] at hd
              exact absurd hd (by decide)
            · have : j ≠ a := fun y => by
                rw [y, hda] at z
                exact absurd z (by decide)
              rw [if_neg this] at hm
              omega
          rw [if_neg e]
          exact i4 j hj hd (by omega)
        · have h : (if j = b then q (bf b) else q j) = 0 := h
          by_cases e : j = b
          · rw [if_pos e, hqp] at h
            exact absurd h hpn
          · rw [if_neg e] at h
            exact i5 j j1 j2 h
        · rw [S1_congr (g := fun j => ((if j ≠ b ∧ q j ≠ 0 then 1 else 0) + (if j = b then 1 else 0)) + (if j = bf b then -1 else 0)), S1_upd (by omega), S1_upd (by omega), i6]
          · omega
          · intro j _
            show (if j ≠ bf b ∧ (if j = b then q (bf b) else q j) ≠ 0 then (1 : Int) else 0) = _
            by_cases e : j = b
            · have e2 : j ≠ bf b := fun z => hbb (z.symm.trans e)
              rw [if_pos e, if_pos ⟨e2, by rw [hqp]; exact hpn⟩, if_neg (fun z => z.1 e), if_pos e, if_neg e2]
              rfl
            · rw [if_neg e, if_neg e]
              by_cases e2 : j = bf b
              · rw [if_neg (fun z => z.1 e2), if_pos ⟨e, by rw [e2, hqp]; exact hpn⟩, if_pos e2]
                rfl
              · rw [if_neg e2]
                by_cases e3 : q j ≠ 0
                · rw [if_pos ⟨e2, e3⟩, if_pos ⟨e, e3⟩]
                  rfl
                · rw [if_neg (fun z => e3 z.2), if_neg (fun z => e3 z.2)]
                  rfl
  · rw [← hcnt]
    refine S1_congr (fun j _ => ?_)
    by_cases e : j = a
    · subst e
      rw [if_neg (fun z => z.1 rfl), if_neg (fun z => z hpa)]
    · by_cases e2 : p j ≠ 0
      · rw [if_pos ⟨e, e2⟩, if_pos e2]
      · rw [if_neg (fun z => e2 z.2), if_neg e2]
/-- r rows stand in the columns 1 .. nn -/
def MS (nn : Nat) (w : Nat → Nat → Int) (r : Nat) (q : Nat → Nat) (u v : Nat → Int) : Prop :=
  (∀ j, 1 ≤ j → j ≤ nn → q j ≤ r) ∧ (∀ j k, 1 ≤ j → j ≤ nn → 1 ≤ k → k ≤ nn → q j = q k → q j ≠ 0 → j = k) ∧ S1 (nn + 1) (fun j => if j ≠ 0 ∧ q j ≠ 0 then 1 else 0) = (r : Int) ∧
  (∀ i j, 1 ≤ i → i ≤ r → 1 ≤ j → j ≤ nn → u i + v j ≤ cst w i j) ∧ (∀ j, 1 ≤ j → j ≤ nn → q j ≠ 0 → u (q j) + v j = cst w (q j) j) ∧
  (∀ j, j ≤ nn → v j ≤ 0 ∧ -((r : Int) * 100000000) ≤ v j) ∧ (∀ j, 1 ≤ j → j ≤ nn → q j = 0 → v j = 0) ∧ (∀ i, i ≤ nn → (i = 0 ∨ r < i) → u i = 0) ∧ (∀ i, 1 ≤ i → i ≤ r → 0 ≤ u i ∧ u i ≤ (r : Int) * 100000000)
theorem one_sum : ∀ n : Nat, S1 n (fun _ => (1 : Int)) = n := by
  intro n
  induction n with
  | zero => rfl
  | succ n ih =>
    show S1 n (fun _ => (1 : Int)) + 1 = _
    rw [ih, Int.natCast_add]; rfl
theorem MS_free {nn : Nat} {w : Nat → Nat → Int} {r : Nat} {q : Nat → Nat} {u v : Nat → Int} (h : MS nn w r q u v) (hr : r < nn) : ∃ f, 1 ≤ f ∧ f ≤ nn ∧ q f = 0 := by
  apply Classical.byContradiction
  intro hno
  have : S1 (nn + 1) (fun j => if j ≠ 0 ∧ q j ≠ 0 then 1 else 0) = S1 (nn + 1) (fun j => (1 : Int) - if j = 0 then 1 else 0) := S1_congr (fun j hj => by
    by_cases e : j = 0
    · rw [if_neg (fun z => z.1 e), if_pos e]; rfl
    · rw [if_pos ⟨e, fun z => hno ⟨j, by omega, by omega, z⟩⟩, if_neg e]; rfl)
  rw [h.2.2.1, S1_sub, S1_one, if_pos (by omega), one_sum] at this
  omega
theorem MS_full {nn : Nat} {w : Nat → Nat → Int} {q : Nat → Nat} {u v : Nat → Int} (h : MS nn w nn q u v) : ∀ j, 1 ≤ j → j ≤ nn → q j ≠ 0 := by
  intro j j1 j2 hj
  have h0 : S1 (nn + 1) (fun k => ((1 : Int) - (if k = 0 then 1 else 0)) - (if k ≠ 0 ∧ q k ≠ 0 then 1 else 0)) = 0 := by
    rw [S1_sub, S1_sub, S1_one, if_pos (by omega), one_sum, h.2.2.1]
    omega
  have := S1_null (fun k hk => by
    show (0 : Int) ≤ ((1 : Int) - (if k = 0 then 1 else 0)) - (if k ≠ 0 ∧ q k ≠ 0 then 1 else 0)
    by_cases e : k = 0
    · rw [if_pos e, if_neg (fun z => z.1 e)]; decide
    · rw [if_neg e]
      split <;> decide) h0 j (by omega)
  have this : ((1 : Int) - (if j = 0 then 1 else 0)) - (if j ≠ 0 ∧ q j ≠ 0 then 1 else 0) = 0 := this
  rw [if_neg (by omega), if_neg (fun z => z.2 hj)] at this
  exact absurd this (by decide)
theorem MS_HP {nn : Nat} {w : Nat → Nat → Int} {r : Nat} {q : Nat → Nat} {u v : Nat → Int} (hw : WW nn w) (h : MS nn w r q u v) (hr : r < nn) : HP nn w (r + 1) (fun j => if j = 0 then r + 1 else q j) u v ∧ S1 (nn + 1) (fun j => if (if j = 0 then r + 1 else q j) ≠ 0 then 1 else 0) = ((r + 1 : Nat) : Int) := by
  obtain ⟨f, f1, f2, f3⟩ := MS_free h hr
  obtain ⟨m1, m2, m3, m4, m5, m6, m7, m8, m9⟩ := h
  have u0 : u (r + 1) = 0 := m8 (r + 1) (by omega) (Or.inr (by omega))
  refine ⟨⟨⟨rfl, by omega, by omega⟩, fun j hj => ?_, fun j k hj hk e h => ?_, fun i j i1 i2 j1 j2 => ?_, fun j j1 j2 h => ?_, fun j hj => ?_, fun j j1 j2 h => ?_, fun i i1 i2 => m8 i i1 (by omega), fun i i1 i2 => ?_, f, f1, f2, ?_⟩, ?_⟩
  · show (if j = 0 then r + 1 else q j) ≤ r + 1
    split
    · omega
    · have := m1 j (by omega) hj
      omega
  · have e : (if j = 0 then r + 1 else q j) = (if k = 0 then r + 1 else q k) := e
    have h : (if j = 0 then r + 1 else q j) ≠ 0 := h
    by_cases ej : j = 0
    · by_cases ek : k = 0
      · omega
      · rw [if_pos ej, if_neg ek] at e
        have := m1 k (by omega) hk
        omega
    · rw [if_neg ej] at e h
      by_cases ek : k = 0
      · rw [if_pos ek] at e
        have := m1 j (by omega) hj
        omega
      · rw [if_neg ek] at e
        exact m2 j k (by omega) hj (by omega) hk e h
  · by_cases e : i = r + 1
    · rw [e, u0]
      have := m6 j j2
      have := cst_rng hw (show 1 ≤ r + 1 ∧ r + 1 ≤ nn by omega) ⟨j1, j2⟩
      omega
    · exact m4 i j i1 (by omega) j1 j2
  · have h : (if j = 0 then r + 1 else q j) ≠ 0 := h
    show u (if j = 0 then r + 1 else q j) + v j = cst w (if j = 0 then r + 1 else q j) j
    rw [if_neg (by omega)] at h ⊢
    exact m5 j j1 j2 h
  · have := m6 j hj
    rw [u0, Int.natCast_add]
    omega
  · have h : (if j = 0 then r + 1 else q j) = 0 := h
    rw [if_neg (by omega)] at h
    exact m7 j j1 j2 h
  · by_cases e : i = r + 1
    · rw [e, u0, Int.natCast_add]
      omega
    · have := m9 i i1 (by omega)
      rw [u0, Int.natCast_add]
      omega
  · show (if f = 0 then r + 1 else q f) = 0
    rw [if_neg (by omega)]
    exact f3
  · rw [S1_congr (g := fun j => (if j ≠ 0 ∧ q j ≠ 0 then 1 else 0) + if j = 0 then 1 else 0), S1_upd (by omega), m3, Int.natCast_add]
    · rfl
    · intro j _
      by_cases e : j = 0
      · rw [if_pos e, if_pos (by omega), if_neg (fun z => z.1 e), if_pos e]; rfl
      · rw [if_neg e, if_neg e]
        by_cases e2 : q j ≠ 0
        · rw [if_pos e2, if_pos ⟨e, e2⟩]; rfl
        · rw [if_neg e2, if_neg (fun z => e2 z.2)]; rfl
theorem HP_MS {nn : Nat} {w : Nat → Nat → Int} {R : Nat} {p q : Nat → Nat} {u v : Nat → Int} (hw : WW nn w) (h : HP nn w R p u v) (hc : CA nn w R p u v q) : MS nn w R q u v := by
  have top := HP_top hw h
  obtain ⟨⟨h1, h2, h3⟩, q2, q3, q4, q5, q6, q7, q8, q9, -⟩ := h
  obtain ⟨c1, c2, c3, c4, c5⟩ := hc
  refine ⟨fun j _ j2 => c3 j j2, c1, c5, q4, c2, fun j hj => ?_, fun j j1 j2 h => q7 j j1 j2 (c4 j j1 j2 h), q8, fun i i1 i2 => ?_⟩
  · have := q6 j hj
    omega
  · have := q9 i i1 i2
    omega
/-- what leastSum tells: the sum over all columns, with what shows that none is less -/
def AS (nn : Nat) (w : Nat → Nat → Int) (x : Int64) : Prop := ∃ (q : Nat → Nat) (u v : Nat → Int), MS nn w nn q u v ∧ x.toInt = if S1 nn (fun j => cst w (q (j + 1)) (j + 1)) < 100000000 then S1 nn (fun j => cst w (q (j + 1)) (j + 1)) else -1
theorem c_sum {N nn : Nat} {w : Nat → Nat → Int} {g0 : Nat → Nat → Int32} {q : Nat → Nat} {a23 : Nat → Int32} (hN : 100 ≤ N) (hw : WW nn w) (h0 : Cw nn w g0) (hq : Ri nn q a23) (hq1 : ∀ j, 1 ≤ j → j ≤ nn → q j ≠ 0) : Ok (fun x => x.toInt = if S1 nn (fun j => cst w (q (j + 1)) (j + 1)) < 100000000 then S1 nn (fun j => cst w (q (j + 1)) (j + 1)) else -1) (f_X0_sumOfChosen N nn (nI nn) a23 g0) := by
  have h12 := hw.2.1
  unfold f_X0_sumOfChosen
  refine lq2_ok (fun m x1 x3 => ∃ i, x3 = nI (i + 1) ∧ i + m = nn ∧ x1.toInt = S1 i (fun j => cst w (q (j + 1)) (j + 1))) ?_ N nn 0 1 ⟨0, by decide, by omega, (show (0 : Int64).toInt = 0 by decide)⟩ (by omega)
  rintro m nx x1 x3 ⟨i, rfl, hm, hx⟩ ih
  unfold f_X0_sumOfChosen_4
  refine ok_if (fun z => ?_) (fun z => ?_)
  · rw [nI_lti (by omega) (by omega)] at z
    have e : i = nn := by omega
    subst e
    refine ok_if (fun y => ?_) (fun y => ?_)
    · rw [i64_lt, hx, show (100000000 : Int64).toInt = 100000000 by decide] at y
      refine ok_some ?_
      rw [if_pos y]
      exact hx
    · rw [i64_lt, hx, show (100000000 : Int64).toInt = 100000000 by decide] at y
      refine ok_some ?_
      rw [if_neg y]
      decide
  · rw [nI_lti (by omega) (by omega)] at z
    have ci : (nI (i + 1)).toNatClampNeg = i + 1 := nI_c (by omega)
    have hqi := hq (i + 1) (by omega)
    have hq0 := hq1 (i + 1) (by omega) (by omega)
    obtain ⟨y, ey, hy⟩ := c_cost hw h0 (show 1 ≤ q (i + 1) ∧ q (i + 1) ≤ nn by omega) (show 1 ≤ i + 1 ∧ i + 1 ≤ nn by omega)
    have hc := cst_rng hw (show 1 ≤ q (i + 1) ∧ q (i + 1) ≤ nn by omega) (show 1 ≤ i + 1 ∧ i + 1 ≤ nn by omega)
    have b1 : S1 i (fun j => cst w (q (j + 1)) (j + 1)) ≤ i * 100000000 := S1_bound (fun j hj => by
      have h1 := hq (j + 1) (by omega)
      have h2 := hq1 (j + 1) (by omega) (by omega)
      exact (cst_rng hw (show 1 ≤ q (j + 1) ∧ q (j + 1) ≤ nn by omega) (show 1 ≤ j + 1 ∧ j + 1 ≤ nn by omega)).2)
    have b2 : 0 ≤ S1 i (fun j => cst w (q (j + 1)) (j + 1)) := S1_nonneg (fun j hj => by
      have h1 := hq (j + 1) (by omega)
      have h2 := hq1 (j + 1) (by omega) (by omega)
      exact (cst_rng hw (show 1 ≤ q (j + 1) ∧ q (j + 1) ≤ nn by omega) (show 1 ≤ j + 1 ∧ j + 1 ≤ nn by omega)).1)
    rw [ck_N (show i + 1 < nn + 1 by omega) (by omega), ci, hqi.1, ey]
    show Ok _ (nx (x1 + y) (nI (i + 1) + 1))
    rw [nI_s]
    refine ih (m - 1) _ _ (by omega) ⟨i + 1, rfl, by omega, ?_⟩
    show _ = S1 i (fun j => cst w (q (j + 1)) (j + 1)) + cst w (q (i + 1)) (i + 1)
    rw [i64_add] <;> rw [hx, hy] <;> omega
theorem c_least {N nn : Nat} {w : Nat → Nat → Int} {g0 : Nat → Nat → Int32} {a23 a24 a25 : Nat → Int32} {b50 b51 b52 : Nat → Int64} (hN : 100 ≤ N) (hw : WW nn w) (h0 : Cw nn w g0) : Ok (fun r => AS nn w r.1) (f_X0_leastSum N nn (nI nn) g0 a23 a24 a25 b50 b51 b52) := by
  have h3 := hw.1
  have h12 := hw.2.1
  unfold f_X0_leastSum
  refine ok_fck (by omega) (ok_nmd (ok_fck (by omega) (ok_nmd (ok_fck (by omega) (ok_nmd ?_)))))
  refine lq7_ok (fun m x1 z1 z2 z3 z4 z5 z6 => ∃ (r : Nat) (q : Nat → Nat) (u v : Nat → Int), x1 = nI (r + 1) ∧ r + m = nn ∧ Ri nn q z1 ∧ Rl nn u z4 ∧ Rl nn v z5 ∧ MS nn w r q u v) ?_ N nn 1 _ a24 a25 _ _ b52 ⟨0, fun _ => 0, fun _ => 0, fun _ => 0, by decide, by omega, fun j hj => ?_, fun j hj => ?_, fun j hj => ?_, fun j _ _ => Nat.le_refl 0, fun j k _ _ _ _ _ h => absurd rfl h, ?_, fun i j i1 i2 => by omega, fun j _ _ h => absurd rfl h, fun j _ => (show (0 : Int) ≤ 0 ∧ -(((0 : Nat) : Int) * 100000000) ≤ 0 by decide), fun j _ _ _ => rfl, fun i _ _ => rfl, fun i i1 i2 => by omega⟩ (by omega)
  · rintro m nx x1 z1 z2 z3 z4 z5 z6 ⟨r, q, u, v, rfl, hm, hq, hu, hv, hM⟩ ih
    unfold f_X0_leastSum_26
    refine ok_if (fun y => ?_) (fun y => ?_)
    · rw [nI_lti (by omega) (by omega)] at y
      have e : r = nn := by omega
      subst e
      refine ok_bd (c_sum hN hw h0 hq (MS_full hM)) (fun x hx => ok_some ⟨q, u, v, hM, hx⟩)
    · rw [nI_lti (by omega) (by omega)] at y
      have hr : r < nn := by omega
      obtain ⟨hH, hcnt⟩ := MS_HP hw hM hr
      have c0 : (0 : Int32).toNatClampNeg = 0 := by decide
      have hp : Ri nn (fun j => if j = 0 then r + 1 else q j) (upd z1 0 (nI (r + 1))) := fun j hj => by
        by_cases e : j = 0
        · subst e
          rw [pk_us]
          exact ⟨rfl, (show (if 0 = 0 then r + 1 else q 0) ≤ nn by rw [if_pos rfl]; omega)⟩
        · rw [pk_un e]
          dsimp only
          rw [if_neg e]
          exact hq j hj
      rw [c0, zero32, ck_N (show 0 < nn + 1 by omega) (by omega)]
      refine ok_nmd ?_
      refine ok_bd (c_free hN hw h0 hp hH hu hv) (fun r1 hr1 => ?_)
      obtain ⟨a, t, dn, bf, u1, v1, rk, e1, a1, a2, a3, t1, f1, f2, f3, f4, f5, f6, f7, f8, f9⟩ := hr1
      rw [e1]
      refine ok_bd (c_change hN h12 hp hcnt a1 a2 a3 t1 f1 f4 f5 f6 f7 f8 f9) (fun z hz => ?_)
      obtain ⟨q', hq', hca⟩ := hz
      rw [nI_s]
      exact ih (m - 1) _ _ _ _ _ _ _ (by omega) ⟨r + 1, q', u1, v1, rfl, by omega, hq', f2, f3, HP_MS hw f4 hca⟩
  · show fil (nn + 1) (0 : Int32) a23 j = nI 0 ∧ 0 ≤ nn
    unfold fil
    rw [if_pos (by omega)]
    exact ⟨zero32, Nat.zero_le nn⟩
  · show (fil (nn + 1) (0 : Int64) b50 j).toInt = 0
    unfold fil
    rw [if_pos (by omega)]
    decide
  · show (fil (nn + 1) (0 : Int64) b51 j).toInt = 0
    unfold fil
    rw [if_pos (by omega)]
    decide
  · rw [S1_congr (g := fun _ => 0) (fun j _ => if_neg (fun z => z.2 rfl)), S1_zero]
    rfl
