/-! ===== WayPost: the costs of the chains ===== -/
def cs (w y : Nat → Nat → Int) (a b : Nat) : Int := if 0 < y b a then -(w b a) else if w a b = -1 then 1000000000000 else w a b
theorem i32_neg {x : Int32} (h1 : -2147483648 < x.toInt) : (-x).toInt = -x.toInt := by
  rw [Int32.toInt_neg]
  have := (i32_rng x).2
  exact bm32 (by omega) (by omega)
theorem c_stepc {nn : Nat} {w y : Nat → Nat → Int} {g0 g4 : Nat → Nat → Int32} (hw : WW nn w) (h0 : Cw nn w g0) (h4 : Cw nn y g4) {a b : Nat} (ha : a < nn) (hb : b < nn) : ∃ v, f_X5_costOfStep nn g0 g4 (nI a) (nI b) = some v ∧ v.toInt = cs w y a b := by
  have h12 := hw.2.1
  unfold f_X5_costOfStep cs
  rw [ck_N hb (by omega), ck_N ha (by omega), ck_N hb (by omega), ck_N ha (by omega), nI_c (show a < 2147483648 by omega), nI_c (show b < 2147483648 by omega), ck_N ha (by omega), ck_N hb (by omega), ck_N ha (by omega), ck_N hb (by omega)]
  have e4 := h4 b a hb ha
  have e0 := h0 a b ha hb
  have e1 := h0 b a hb ha
  have r := hw.2.2.1 b a hb ha
  by_cases c : g4 b a ≤ (0 : Int32)
  · rw [if_pos c]
    rw [i32_le, e4, show (0 : Int32).toInt = 0 by decide] at c
    rw [if_neg (show ¬ 0 < y b a by omega)]
    have ee : g0 a b = -1 ↔ w a b = -1 := by rw [i32_eq, m1_toInt, e0]
    by_cases c2 : g0 a b = -1
    · rw [if_pos c2, if_pos (ee.mp c2)]
      exact ⟨_, rfl, far64⟩
    · rw [if_neg c2, if_neg (fun z => c2 (ee.mpr z))]
      exact ⟨_, rfl, by rw [i64_of32]; exact e0⟩
  · rw [if_neg c]
    rw [i32_le, e4, show (0 : Int32).toInt = 0 by decide] at c
    rw [if_pos (show 0 < y b a by omega)]
    exact ⟨_, rfl, by rw [i64_of32, i32_neg (by omega), e1]⟩
/-- what the trips keep: only ways are gone again, and the potentials show that no other choice is cheaper -/
def WS (nn : Nat) (w y : Nat → Nat → Int) (d : Nat → Int) : Prop := (∀ a b, a < nn → b < nn → 0 ≤ y a b ∧ (0 < y a b → w a b ≠ -1 ∧ d b = d a + w a b)) ∧ ∀ a b, a < nn → b < nn → w a b ≠ -1 → d b ≤ d a + w a b
theorem cs_rng {nn : Nat} {w y : Nat → Nat → Int} {d : Nat → Int} (hw : WW nn w) (h : WS nn w y d) {a b : Nat} (ha : a < nn) (hb : b < nn) : -1000000 ≤ cs w y a b ∧ cs w y a b ≤ 1000000000000 ∧ (a = b → cs w y a b = 1000000000000) ∧ (cs w y a b < 1000000000000 → d b ≤ d a + cs w y a b) := by
  have r1 := hw.2.2.1 a b ha hb
  have r2 := hw.2.2.1 b a hb ha
  have q := h.1 b a hb ha
  unfold cs
  by_cases c : 0 < y b a
  · rw [if_pos c]
    have q2 := q.2 c
    refine ⟨by omega, by omega, fun e => ?_, fun _ => by omega⟩
    subst e
    exact absurd (hw.2.2.2 a ha) q2.1
  · rw [if_neg c]
    by_cases c2 : w a b = -1
    · rw [if_pos c2]
      exact ⟨by decide, by decide, fun _ => rfl, fun z => absurd z (by decide)⟩
    · rw [if_neg c2]
      refine ⟨by omega, by omega, fun e => ?_, fun _ => h.2 a b ha hb c2⟩
      subst e
      exact absurd (hw.2.2.2 a ha) c2
theorem c_lowc {N nn : Nat} {w y : Nat → Nat → Int} {g0 g4 : Nat → Nat → Int32} {π d0 d : Nat → Int} {ρ K : Nat} {bf R T : Nat → Nat} {a32 : Nat → Int32} {b53 : Nat → Int64} (hN : 100 ≤ N) (hw : WW nn w) (h0 : Cw nn w g0) (h4 : Cw nn y g4) (hS : WS nn w y π) (hB : BFI nn (cs w y) d0 (fun _ _ => False) ρ K d bf R T a32) (hR : ∀ v, v < nn → R v < ρ) (hd : ∀ v, v < nn → (b53 v).toInt = d v ∧ 0 ≤ π v ∧ π v ≤ d v) : Ok (fun x => ∃ K d bf R T, BFI nn (cs w y) d0 (fun _ _ => True) ρ K d bf R T x.2.1 ∧ (∀ v, v < nn → (x.2.2 v).toInt = d v ∧ 0 ≤ π v ∧ π v ≤ d v) ∧ ((x.1 = 0 ∧ ∀ v, v < nn → R v < ρ) ∨ (x.1 = 1 ∧ ∃ v, v < nn ∧ R v = ρ))) (f_X5_lowerCosts N nn (nI nn) g0 g4 a32 b53) := by
  have h12 := hw.2.1
  unfold f_X5_lowerCosts
  refine lq4_ok (fun m x1 x2 z1 z2 => ∃ a K d bf R T, x2 = nI a ∧ a + m = nn ∧ BFI nn (cs w y) d0 (fun i _ => i < a) ρ K d bf R T z1 ∧ (∀ v, v < nn → (z2 v).toInt = d v ∧ 0 ≤ π v ∧ π v ≤ d v) ∧ ((x1 = 0 ∧ ∀ v, v < nn → R v < ρ) ∨ (x1 = 1 ∧ ∃ v, v < nn ∧ R v = ρ))) ?_ N nn _ _ _ _ ⟨0, K, d, bf, R, T, zero32, by omega, BF_sc hB (fun i j _ _ h => absurd h (Nat.not_lt_zero i)), hd, Or.inl ⟨rfl, hR⟩⟩ (by omega)
  rintro m nx x1 x2 z1 z2 ⟨a, K, d, bf, R, T, rfl, hm, hB, hd, hf⟩ ih
  unfold f_X5_lowerCosts_4
  refine ok_if (fun yy => ?_) (fun yy => ?_)
  · rw [nI_lei (by omega) (by omega)] at yy
    have fin : ∃ K d bf R T, BFI nn (cs w y) d0 (fun _ _ => True) ρ K d bf R T z1 ∧ (∀ v, v < nn → (z2 v).toInt = d v ∧ 0 ≤ π v ∧ π v ≤ d v) ∧ ((x1 = 0 ∧ ∀ v, v < nn → R v < ρ) ∨ (x1 = 1 ∧ ∃ v, v < nn ∧ R v = ρ)) := ⟨K, d, bf, R, T, BF_sc hB (fun i j hi _ _ => by omega), hd, hf⟩
    have hx : x1 = 0 ∨ x1 = 1 := by
      rcases hf with q | q
      · exact Or.inl q.1
      · exact Or.inr q.1
    exact ok_bz hx (ok_some fin)
  rw [nI_lei (by omega) (by omega)] at yy
  have ha : a < nn := by omega
  refine lq5_ok (fun m2 x1 x2 x3 z1 z2 => ∃ b K d bf R T, nI a = x2 ∧ x3 = nI b ∧ b + m2 = nn ∧ BFI nn (cs w y) d0 (fun i j => i < a ∨ (i = a ∧ j < b)) ρ K d bf R T z1 ∧ (∀ v, v < nn → (z2 v).toInt = d v ∧ 0 ≤ π v ∧ π v ≤ d v) ∧ ((x1 = 0 ∧ ∀ v, v < nn → R v < ρ) ∨ (x1 = 1 ∧ ∃ v, v < nn ∧ R v = ρ))) ?_ N nn _ _ _ _ _ ⟨0, K, d, bf, R, T, rfl, zero32, by omega, BF_sc hB (fun i j _ _ h => by omega), hd, hf⟩ (by omega)
  rintro m2 nx2 x1 x2 x3 z1 z2 ⟨b, K, d, bf, R, T, rfl, rfl, hm2, hB, hd, hf⟩ ih2
  unfold f_X5_lowerCosts_17
  refine ok_if (fun y2 => ?_) (fun y2 => ?_)
  · rw [nI_lei (by omega) (by omega)] at y2
    rw [nI_s]
    exact ih (m - 1) _ _ _ _ (by omega) ⟨a + 1, K, d, bf, R, T, rfl, by omega, BF_sc hB (fun i j _ hj h => by omega), hd, hf⟩
  rw [nI_lei (by omega) (by omega)] at y2
  have hb : b < nn := by omega
  obtain ⟨v, hv, hvi⟩ := c_stepc hw h0 h4 ha hb
  have cr := cs_rng hw hS ha hb
  have da := hd a ha
  have db := hd b hb
  have d1 := (hB.1 b hb).1
  have d2 := (hB.1 a ha).1
  have hsc : ∀ i j, (i < a ∨ (i = a ∧ j < b + 1)) → (i < a ∨ (i = a ∧ j < b)) ∨ (i = a ∧ j = b) := fun i j h => by omega
  rw [nI_c (show a < 2147483648 by omega), nI_c (show b < 2147483648 by omega), nI_s, hv, ck_N ha (by omega)]
  have skip : (d a < 1000000000000 → cs w y a b < 1000000000000 → ¬ d a + cs w y a b < d b) → Ok (fun x : Int32 × (Nat → Int32) × (Nat → Int64) => ∃ K d bf R T, BFI nn (cs w y) d0 (fun _ _ => True) ρ K d bf R T x.2.1 ∧ (∀ v, v < nn → (x.2.2 v).toInt = d v ∧ 0 ≤ π v ∧ π v ≤ d v) ∧ ((x.1 = 0 ∧ ∀ v, v < nn → R v < ρ) ∨ (x.1 = 1 ∧ ∃ v, v < nn ∧ R v = ρ))) (nx2 x1 (nI a) (nI (b + 1)) z1 z2) := fun hn => ih2 (m2 - 1) _ _ _ _ _ (by omega) ⟨b + 1, K, d, bf, R, T, rfl, rfl, by omega, BF_skip hB hn hsc, hd, hf⟩
  refine ok_if (fun y3 => ?_) (fun y3 => ?_)
  · rw [i64_le, far64, da.1] at y3
    exact skip (fun h => by omega)
  rw [i64_le, far64, da.1] at y3
  rw [ck_N ha (by omega)]
  show Ok _ (ck (nI b) nn _)
  rw [ck_N hb (by omega)]
  have es : (z2 a + v).toInt = d a + cs w y a b := by
    rw [i64_add] <;> rw [da.1, hvi] <;> omega
  refine ok_if (fun y4 => ?_) (fun y4 => ?_)
  · rw [i64_le, es, db.1] at y4
    exact skip (fun _ _ => by omega)
  rw [i64_le, es, db.1] at y4
  have hc : cs w y a b < 1000000000000 := by omega
  have hab : a ≠ b := fun e => by have := cr.2.2.1 e; omega
  rw [ck_N ha (by omega)]
  show Ok _ (ck (nI b) nn _)
  rw [ck_N hb (by omega)]
  refine ok_nmd ?_
  rw [ck_N hb (by omega)]
  refine ok_nmd ?_
  refine ih2 (m2 - 1) _ _ _ _ _ (by omega) ⟨b + 1, K + 1, up1 d b (d a + cs w y a b), up1 bf b a, up1 R b ρ, up1 T b (K + 1), rfl, rfl, by omega, BF_upd hB ha hb hab (by omega) hc (by omega) hsc, fun u hu => ?_, Or.inr ⟨rfl, b, hb, up1_s⟩⟩
  rw [upL]
  by_cases e : u = b
  · rw [if_pos e, e, up1_s, es]
    have := cr.2.2.2 hc
    exact ⟨rfl, db.2.1, by omega⟩
  · rw [if_neg e, up1_n e]
    exact hd u hu
/-- what findCosts leaves: costs that nothing lowers, and chains back -/
def FCo (nn : Nat) (c : Nat → Nat → Int) (d0 π d : Nat → Int) (bf T : Nat → Nat) (a32 : Nat → Int32) (b53 : Nat → Int64) : Prop := (∃ ρ K R, BFI nn c d0 (fun _ _ => True) ρ K d bf R T a32) ∧ (∀ v, v < nn → (b53 v).toInt = d v ∧ 0 ≤ π v ∧ π v ≤ d v) ∧ ∀ a b, a < nn → b < nn → d a < 1000000000000 → c a b < 1000000000000 → d b ≤ d a + c a b
theorem c_costs {N nn : Nat} {w y : Nat → Nat → Int} {g0 g4 : Nat → Nat → Int32} {π s : Nat → Int} {a31 a32 : Nat → Int32} {b53 : Nat → Int64} (hN : 100 ≤ N) (hw : WW nn w) (h0 : Cw nn w g0) (h4 : Cw nn y g4) (hS : WS nn w y π) (hs : ∀ v, v < nn → (a31 v).toInt = s v) (hπ : ∀ v, v < nn → 0 ≤ π v ∧ π v ≤ 1000000000000 ∧ (0 < s v → π v = 0)) : Ok (fun x => ∃ d bf T, FCo nn (cs w y) (fun v => if 0 < s v then 0 else 1000000000000) π d bf T x.1 x.2) (f_X5_findCosts N nn (nI nn) a31 g0 g4 a32 b53) := by
  have h12 := hw.2.1
  have h3 := hw.1
  unfold f_X5_findCosts
  refine lq3_ok (fun m x1 z1 z2 => ∃ a, x1 = nI a ∧ a + m = nn ∧ ∀ v, v < a → z1 v = -1 ∧ (z2 v).toInt = if 0 < s v then 0 else 1000000000000) ?_ N nn _ _ _ ⟨0, zero32, by omega, fun v hv => absurd hv (Nat.not_lt_zero v)⟩ (by omega)
  rintro m nx x1 z1 z2 ⟨a, rfl, hm, hz⟩ ih
  unfold f_X5_findCosts_2
  refine ok_if (fun yy => ?_) (fun yy => ?_)
  · rw [nI_lei (by omega) (by omega)] at yy
    have hfe : ∀ i j, i < nn → j < nn → cs w y i j < 1000000000000 → π j ≤ π i + cs w y i j := fun i j hi hj hc => (cs_rng hw hS hi hj).2.2.2 hc
    refine lq4_ok (fun m2 x1 x2 z1 z2 => ∃ t, x2 = nI t ∧ t + m2 = nn ∧ ((x1 = 1 ∧ t < nn ∧ ∃ K d bf R T, BFI nn (cs w y) (fun v => if 0 < s v then 0 else 1000000000000) (fun _ _ => False) (t + 1) K d bf R T z1 ∧ (∀ v, v < nn → R v < t + 1) ∧ (∀ v, v < nn → (z2 v).toInt = d v ∧ 0 ≤ π v ∧ π v ≤ d v)) ∨ (x1 = 0 ∧ ∃ d bf T, FCo nn (cs w y) (fun v => if 0 < s v then 0 else 1000000000000) π d bf T z1 z2))) ?_ N nn _ _ _ _ ⟨0, zero32, by omega, Or.inl ⟨rfl, by omega, 0, fun v => if 0 < s v then 0 else 1000000000000, fun _ => 0, fun _ => 0, fun _ => 0, ⟨fun v hv => ⟨⟨Int.le_refl _, ?_⟩, Nat.zero_le _, Nat.le_refl 0⟩, fun v hv _ => ⟨rfl, (hz v (by omega)).1, rfl⟩, fun v hv h => absurd h (Nat.not_succ_le_zero 0), fun u v _ _ _ h => absurd h (Nat.not_succ_le_zero 0), fun i j _ _ _ _ _ => ⟨Nat.le_refl _, fun z => z.elim⟩⟩, fun v _ => Nat.zero_lt_one, fun v hv => ⟨(hz v (by omega)).2, (hπ v hv).1, ?_⟩⟩⟩ (by omega)
    · rintro m2 nx2 x1 x2 z1 z2 ⟨t, rfl, hm2, hq⟩ ih2
      unfold f_X5_findCosts_52
      rcases hq with ⟨rfl, ht, K, d, bf, R, T, hB, hR, hd⟩ | ⟨rfl, hfin⟩
      · rw [if_neg (by rw [nI_lei (by omega) (by omega)]; omega), if_neg (by decide)]
        refine ok_bd (c_lowc hN hw h0 h4 hS hB hR hd) (fun o ho => ?_)
        obtain ⟨K', d', bf', R', T', hB', hd', hq⟩ := ho
        rw [nI_s]
        refine ih2 (m2 - 1) _ _ _ _ (by omega) ⟨t + 1, rfl, by omega, ?_⟩
        rcases hq with ⟨e, hno⟩ | ⟨e, v, hv, hRv⟩
        · exact Or.inr ⟨e, d', bf', T', ⟨t + 1, K', R', hB'⟩, hd', BF_fe hB' (fun _ _ _ _ => trivial) hno⟩
        · have := BF_R hB' hfe hv
          exact Or.inl ⟨e, by omega, K', d', bf', R', T', BF_round hB' (fun _ _ _ _ => trivial), fun u hu => Nat.lt_succ_of_le (hB'.1 u hu).2.1, hd'⟩
      · by_cases c : nI nn ≤ nI t
        · rw [if_pos c]; exact ok_some hfin
        · rw [if_neg c, if_pos rfl]; exact ok_some hfin
    · show (if 0 < s v then (0 : Int) else 1000000000000) ≤ 1000000000000
      split <;> decide
    · show π v ≤ (if 0 < s v then (0 : Int) else 1000000000000)
      have := hπ v hv
      split
      · have := this.2.2 (by assumption)
        omega
      · omega
  rw [nI_lei (by omega) (by omega)] at yy
  have ha : a < nn := by omega
  have next : ∀ x : Int64, x.toInt = (if 0 < s a then 0 else 1000000000000) → Ok (fun x : (Nat → Int32) × (Nat → Int64) => ∃ d bf T, FCo nn (cs w y) (fun v => if 0 < s v then 0 else 1000000000000) π d bf T x.1 x.2) (nx (nI a + 1) (upd z1 a (-1)) (vp_updL z2 a x)) := fun x hx => by
    rw [nI_s]
    refine ih (m - 1) _ _ _ (by omega) ⟨a + 1, rfl, by omega, fun v hv => ?_⟩
    rw [upL]
    by_cases e : v = a
    · subst e
      rw [pk_us, if_pos rfl]
      exact ⟨rfl, hx⟩
    · rw [pk_un e, if_neg e]
      exact hz v (by omega)
  have ea := hs a ha
  rw [nI_c (show a < 2147483648 by omega), ck_N ha (by omega), ck_N ha (by omega), ck_N ha (by omega)]
  refine ok_if (fun y2 => ?_) (fun y2 => ?_)
  · rw [i32_le, ea, show (0 : Int32).toInt = 0 by decide] at y2
    refine ok_nmd ?_
    rw [ck_N ha (by omega)]
    refine ok_nmd (next _ ?_)
    rw [if_neg (by omega)]
    exact far64
  · rw [i32_le, ea, show (0 : Int32).toInt = 0 by decide] at y2
    refine ok_nmd ?_
    rw [ck_N ha (by omega)]
    refine ok_nmd (next _ ?_)
    rw [if_pos (by omega)]
    decide
theorem c_end {N nn : Nat} {s d : Nat → Int} {a31 : Nat → Int32} {b53 : Nat → Int64} (hN : 100 ≤ N) (h12 : nn ≤ 12) (hs : ∀ v, v < nn → (a31 v).toInt = s v) (hd : ∀ v, v < nn → (b53 v).toInt = d v) : Ok (fun x => (x = -1 ∧ ∀ v, v < nn → s v < 0 → 1000000000000 ≤ d v) ∨ ∃ e, x = nI e ∧ e < nn ∧ s e < 0 ∧ d e < 1000000000000) (f_X5_cheapestEnd N nn (nI nn) a31 b53) := by
  unfold f_X5_cheapestEnd
  refine lq2_ok (fun m x1 x2 => ∃ a, x2 = nI a ∧ a + m = nn ∧ ((x1 = -1 ∧ ∀ v, v < a → s v < 0 → 1000000000000 ≤ d v) ∨ ∃ e, x1 = nI e ∧ e < nn ∧ s e < 0 ∧ d e < 1000000000000)) ?_ N nn _ _ ⟨0, zero32, by omega, Or.inl ⟨rfl, fun v hv => absurd hv (Nat.not_lt_zero v)⟩⟩ (by omega)
  rintro m nx x1 x2 ⟨a, rfl, hm, hq⟩ ih
  unfold f_X5_cheapestEnd_4
  refine ok_if (fun yy => ok_some ?_) (fun yy => ?_)
  · rw [nI_lei (by omega) (by omega)] at yy
    rcases hq with ⟨q1, q2⟩ | q
    · exact Or.inl ⟨q1, fun v hv => q2 v (by omega)⟩
    · exact Or.inr q
  rw [nI_lei (by omega) (by omega)] at yy
  have ha : a < nn := by omega
  have skip : (s a < 0 → 1000000000000 ≤ d a) → Ok (fun x => (x = -1 ∧ ∀ v, v < nn → s v < 0 → 1000000000000 ≤ d v) ∨ ∃ e, x = nI e ∧ e < nn ∧ s e < 0 ∧ d e < 1000000000000) (nx x1 (nI a + 1)) := fun hn => by
    rw [nI_s]
    refine ih (m - 1) _ _ (by omega) ⟨a + 1, rfl, by omega, ?_⟩
    rcases hq with ⟨q1, q2⟩ | q
    · refine Or.inl ⟨q1, fun v hv hsv => ?_⟩
      by_cases e : v = a
      · rw [e] at hsv ⊢; exact hn hsv
      · exact q2 v (by omega) hsv
    · exact Or.inr q
  rw [nI_c (show a < 2147483648 by omega), ck_N ha (by omega), ck_N ha (by omega)]
  refine ok_if (fun y2 => ?_) (fun y2 => ?_)
  · rw [i32_le, hs a ha, show (0 : Int32).toInt = 0 by decide] at y2
    exact skip (fun h => by omega)
  rw [i32_le, hs a ha, show (0 : Int32).toInt = 0 by decide] at y2
  refine ok_if (fun y3 => ?_) (fun y3 => ?_)
  · rw [i64_le, far64, hd a ha] at y3
    exact skip (fun _ => y3)
  rw [i64_le, far64, hd a ha] at y3
  have take : Ok (fun x => (x = -1 ∧ ∀ v, v < nn → s v < 0 → 1000000000000 ≤ d v) ∨ ∃ e, x = nI e ∧ e < nn ∧ s e < 0 ∧ d e < 1000000000000) (nx (nI a) (nI a + 1)) := by
    rw [nI_s]
    exact ih (m - 1) _ _ (by omega) ⟨a + 1, rfl, by omega, Or.inr ⟨a, rfl, ha, by omega, by omega⟩⟩
  refine ok_if (fun y4 => take) (fun y4 => ?_)
  rcases hq with ⟨q1, q2⟩ | ⟨e, q1, q2, q3, q4⟩
  · exact absurd q1 y4
  · subst q1
    rw [ck_N ha (by omega), ck_N q2 (by omega)]
    refine ok_if (fun _ => ?_) (fun _ => take)
    rw [nI_s]
    exact ih (m - 1) _ _ (by omega) ⟨a + 1, rfl, by omega, Or.inr ⟨e, rfl, q2, q3, q4⟩⟩
