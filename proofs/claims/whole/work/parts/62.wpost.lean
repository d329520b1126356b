/-! ===== WayPost: a trip, and all trips ===== -/
theorem c_goTo {N nn : Nat} {w y : Nat → Nat → Int} {g4 : Nat → Nat → Int32} {s d : Nat → Int} {a31 a32 : Nat → Int32} {bf : Nat → Nat} {B : Nat} {e k : Nat} (hN : 100 ≤ N) (hw : WW nn w) (h4 : Cw nn y g4) (hs : ∀ v, v < nn → (a31 v).toInt = s v ∧ -1000 ≤ s v ∧ s v ≤ 1000) (hS : WS nn w y d) (hB : ∀ a b, a < nn → b < nn → y a b ≤ (B : Int)) (hB2 : B ≤ 100000) (hk : k + 1 ≤ nn) (hk1 : 1 ≤ k) (hp : ∀ i, i ≤ k → pt bf e i < nn) (hinj : ∀ i j, i ≤ k → j ≤ k → pt bf e i = pt bf e j → i = j) (harr : ∀ i, i < k → a32 (pt bf e i) = nI (pt bf e (i + 1))) (hroot : a32 (pt bf e k) = -1) (ht : ∀ i, i < k → cs w y (pt bf e (i + 1)) (pt bf e i) < 1000000000000 ∧ d (pt bf e (i + 1)) + cs w y (pt bf e (i + 1)) (pt bf e i) = d (pt bf e i)) : Ok (fun x => ∃ y', Cw nn y' x.2 ∧ WS nn w y' d ∧ (∀ v, v < nn → net nn y' v = net nn y v + (if v = pt bf e k then 1 else 0) - (if v = e then 1 else 0)) ∧ cost nn w y' = cost nn w y + d e - d (pt bf e k) ∧ (∀ a b, a < nn → b < nn → y' a b ≤ ((B + 12 : Nat) : Int)) ∧ ∀ v, v < nn → (x.1 v).toInt = s v - (if v = pt bf e k then 1 else 0) + (if v = e then 1 else 0)) (f_X5_goTo N nn (nI nn) a32 a31 g4 (nI e)) := by
  have h12 := hw.2.1
  have he : e < nn := hp 0 (Nat.zero_le k)
  have o1 : (1 : Int32).toInt = 1 := by decide
  unfold f_X5_goTo
  refine lq5_ok (fun m x1 x2 x3 z1 z2 => ∃ t yt, nI e = x1 ∧ x2 = nI (pt bf e t) ∧ x3 = nI t ∧ t + m = k ∧ a31 = z1 ∧ Cw nn yt z2 ∧ WS nn w yt d ∧ (∀ v, v < nn → net nn yt v = net nn y v + (if v = pt bf e t then 1 else 0) - (if v = e then 1 else 0)) ∧ cost nn w yt = cost nn w y + d e - d (pt bf e t) ∧ (∀ a b, a < nn → b < nn → yt a b ≤ ((B + t : Nat) : Int)) ∧ ∀ j, t ≤ j → j < k → yt (pt bf e j) (pt bf e (j + 1)) = y (pt bf e j) (pt bf e (j + 1))) ?_ N k _ _ _ _ _ ⟨0, y, rfl, rfl, zero32, by omega, rfl, h4, hS, fun v _ => ?_, (show cost nn w y = cost nn w y + d e - d e by omega), hB, fun j _ _ => rfl⟩ (by omega)
  · rintro m nx x1 x2 x3 z1 z2 ⟨t, yt, rfl, rfl, rfl, hm, rfl, hz, hW, hn, hcost, hbt, hrest⟩ ih
    have hpt := hp t (by omega)
    unfold f_X5_goTo_4
    rw [if_neg (by rw [nI_lei (by omega) (by omega)]; omega), nI_c (show pt bf e t < 2147483648 by omega), ck_N hpt (by omega)]
    by_cases c : t = k
    · subst c
      rw [if_pos hroot]
      unfold f_X5_goTo_83
      rw [ck_N hpt (by omega), ck_N hpt (by omega), nI_c (show pt bf e t < 2147483648 by omega), nI_c (show e < 2147483648 by omega)]
      refine ok_nmd ?_
      rw [ck_N he (by omega), ck_N he (by omega)]
      refine ok_nmd (ok_some ⟨yt, hz, hW, hn, hcost, fun a b ha hb => ?_, fun v hv => ?_⟩)
      · have := hbt a b ha hb
        omega
      · have hne : e ≠ pt bf e t := fun h => by
          have := hinj 0 t (Nat.zero_le t) (Nat.le_refl t) h
          omega
        have q1 := hs e he
        have q2 := hs (pt bf e t) hpt
        dsimp only
        by_cases ev : v = e
        · subst ev
          rw [pk_us, pk_un hne, if_neg hne, if_pos rfl]
          rw [i32_add] <;> rw [q1.1, o1] <;> omega
        · rw [pk_un ev, if_neg ev]
          by_cases ev2 : v = pt bf e t
          · subst ev2
            rw [pk_us, if_pos rfl]
            rw [i32_sub] <;> rw [q2.1, o1] <;> omega
          · rw [pk_un ev2, if_neg ev2, (hs v hv).1]
            omega
    · have htk : t < k := by omega
      have hpt1 := hp (t + 1) (by omega)
      rw [harr t htk, if_neg (nI_nm1 (by omega)), ck_N hpt (by omega), ck_N hpt (by omega), nI_c (show pt bf e (t + 1) < 2147483648 by omega), ck_N hpt1 (by omega)]
      have tt := ht t htk
      have er := hrest t (Nat.le_refl t) htk
      have ey := hz (pt bf e t) (pt bf e (t + 1)) hpt hpt1
      have ey2 := hz (pt bf e (t + 1)) (pt bf e t) hpt1 hpt
      have hne : pt bf e t ≠ pt bf e (t + 1) := fun h => by
        have := hinj t (t + 1) (by omega) (by omega) h
        omega
      have b1 := hbt (pt bf e (t + 1)) (pt bf e t) hpt1 hpt
      have b2 := hbt (pt bf e t) (pt bf e (t + 1)) hpt hpt1
      have n1 := (hW.1 (pt bf e (t + 1)) (pt bf e t) hpt1 hpt).1
      have others : ∀ (a0 b0 : Nat) (δ : Int), ((a0 = pt bf e (t + 1) ∧ b0 = pt bf e t) ∨ (a0 = pt bf e t ∧ b0 = pt bf e (t + 1))) → ∀ j, t + 1 ≤ j → j < k → yu yt a0 b0 δ (pt bf e j) (pt bf e (j + 1)) = y (pt bf e j) (pt bf e (j + 1)) := fun a0 b0 δ h0 j j1 j2 => by
        unfold yu
        rw [hrest j (by omega) j2, if_neg, Int.add_zero]
        rintro ⟨z1, z2⟩
        rcases h0 with ⟨r1, r2⟩ | ⟨r1, r2⟩
        · have := hinj (j + 1) t (by omega) (by omega) (z2.trans r2)
          omega
        · have := hinj j t (by omega) (by omega) (z1.trans r1)
          omega
      refine ok_if (fun y5 => ?_) (fun y5 => ?_)
      · rw [i32_le, ey, er, show (0 : Int32).toInt = 0 by decide] at y5
        have ecs : cs w y (pt bf e (t + 1)) (pt bf e t) = if w (pt bf e (t + 1)) (pt bf e t) = -1 then 1000000000000 else w (pt bf e (t + 1)) (pt bf e t) := by
          unfold cs
          rw [if_neg (by omega)]
        have hway : w (pt bf e (t + 1)) (pt bf e t) ≠ -1 := fun h => by
          rw [if_pos h] at ecs
          omega
        rw [if_neg hway] at ecs
        rw [ck_N hpt1 (by omega), ck_N hpt (by omega), ck_N hpt (by omega)]
        refine ok_nmd ?_
        rw [nI_s]
        refine ih (m - 1) _ _ _ _ _ (by omega) ⟨t + 1, yu yt (pt bf e (t + 1)) (pt bf e t) 1, rfl, rfl, rfl, by omega, rfl, fun a b ha hb => ?_, ⟨fun a b ha hb => ?_, hW.2⟩, fun v hv => ?_, ?_, fun a b ha hb => ?_, others _ _ 1 (Or.inl ⟨rfl, rfl⟩)⟩
        · rw [g_up]
          unfold yu
          by_cases q : a = pt bf e (t + 1) ∧ b = pt bf e t
          · rw [if_pos q, if_pos q, q.1, q.2]
            rw [i32_add] <;> rw [ey2, o1] <;> omega
          · rw [if_neg q, if_neg q, hz a b ha hb]; omega
        · unfold yu
          have qq := hW.1 a b ha hb
          by_cases q : a = pt bf e (t + 1) ∧ b = pt bf e t
          · rw [if_pos q, q.1, q.2]
            exact ⟨by omega, fun _ => ⟨hway, by omega⟩⟩
          · rw [if_neg q, Int.add_zero]
            exact qq
        · rw [net_yu hpt1 hpt, hn v hv]
          omega
        · rw [cost_yu hpt1 hpt, hcost, Int.mul_one]
          omega
        · unfold yu
          have := hbt a b ha hb
          split <;> omega
      · rw [i32_le, ey, er, show (0 : Int32).toInt = 0 by decide] at y5
        have ecs : cs w y (pt bf e (t + 1)) (pt bf e t) = -(w (pt bf e t) (pt bf e (t + 1))) := by
          unfold cs
          rw [if_pos (by omega)]
        rw [ck_N hpt (by omega), ck_N hpt1 (by omega), ck_N hpt1 (by omega)]
        refine ok_nmd ?_
        rw [nI_s]
        refine ih (m - 1) _ _ _ _ _ (by omega) ⟨t + 1, yu yt (pt bf e t) (pt bf e (t + 1)) (-1), rfl, rfl, rfl, by omega, rfl, fun a b ha hb => ?_, ⟨fun a b ha hb => ?_, hW.2⟩, fun v hv => ?_, ?_, fun a b ha hb => ?_, others _ _ (-1) (Or.inr ⟨rfl, rfl⟩)⟩
        · rw [g_up]
          unfold yu
          by_cases q : a = pt bf e t ∧ b = pt bf e (t + 1)
          · rw [if_pos q, if_pos q, q.1, q.2]
            rw [i32_sub] <;> rw [ey, o1] <;> omega
          · rw [if_neg q, if_neg q, hz a b ha hb]; omega
        · unfold yu
          have qq := hW.1 a b ha hb
          by_cases q : a = pt bf e t ∧ b = pt bf e (t + 1)
          · rw [if_pos q]
            refine ⟨?_, fun h => qq.2 (by omega)⟩
            rw [q.1, q.2]
            omega
          · rw [if_neg q, Int.add_zero]
            exact qq
        · rw [net_yu hpt hpt1, hn v hv]
          have hne' : v = pt bf e t → ¬ v = pt bf e (t + 1) := fun h1 h2 => hne (h1.symm.trans h2)
          by_cases q1 : v = pt bf e t
          · rw [if_pos q1, if_pos q1, if_neg (hne' q1), if_neg (hne' q1)]; omega
          · rw [if_neg q1, if_neg q1]
            by_cases q2 : v = pt bf e (t + 1)
            · rw [if_pos q2, if_pos q2]; omega
            · rw [if_neg q2, if_neg q2]; omega
        · rw [cost_yu hpt hpt1, hcost, Int.mul_neg, Int.mul_one]
          omega
        · unfold yu
          have := hbt a b ha hb
          split <;> omega
  · show net nn y v = net nn y v + (if v = e then 1 else 0) - (if v = e then 1 else 0)
    omega
/-- what all trips leave -/
def CPF (nn : Nat) (w : Nat → Nat → Int) (x : Int) : Prop := ∃ (y : Nat → Nat → Int) (π : Nat → Int), WS nn w y π ∧ (∀ v, v < nn → net nn y v = sg nn w v) ∧ x = SW nn w + cost nn w y
theorem sg_rng {nn : Nat} {w : Nat → Nat → Int} (h12 : nn ≤ 12) (v : Nat) : -12 ≤ sg nn w v ∧ sg nn w v ≤ nn := by
  have q : ∀ b, -1 ≤ ((if w b v ≠ -1 then 1 else 0) - (if w v b ≠ -1 then 1 else 0) : Int) ∧ ((if w b v ≠ -1 then 1 else 0) - (if w v b ≠ -1 then 1 else 0) : Int) ≤ 1 := fun b => by
    repeat' split
    all_goals decide
  have h1 := S1_bound (n := nn) (f := fun b => ((if w b v ≠ -1 then 1 else 0) - (if w v b ≠ -1 then 1 else 0) : Int)) (c := 1) (fun b _ => (q b).2)
  have h2 := S1_bound' (n := nn) (f := fun b => ((if w b v ≠ -1 then 1 else 0) - (if w v b ≠ -1 then 1 else 0) : Int)) (c := -1) (fun b _ => (q b).1)
  unfold sg
  omega
theorem sg_street {nn : Nat} {w : Nat → Nat → Int} {v : Nat} (h : sg nn w v ≠ 0) : ∃ c, c < nn ∧ st w v c ≠ -1 := by
  refine Classical.byContradiction (fun hn => h ?_)
  unfold sg
  rw [S1_congr (g := fun _ => 0), S1_zero]
  intro b hb
  have : st w v b = -1 := Classical.byContradiction (fun z => hn ⟨b, hb, z⟩)
  have q1 : w b v = -1 ∧ w v b = -1 := by
    unfold st at this
    by_cases c1 : w v b = -1
    · rw [if_pos c1] at this; exact ⟨this, c1⟩
    · rw [if_neg c1] at this
      by_cases c2 : w b v = -1
      · rw [if_pos c2] at this; exact absurd this c1
      · rw [if_neg c2] at this
        by_cases c3 : w b v < w v b
        · rw [if_pos c3] at this; exact absurd this c2
        · rw [if_neg c3] at this; exact absurd this c1
  rw [if_neg (fun z => z q1.1), if_neg (fun z => z q1.2)]
  rfl
theorem way_street {nn : Nat} {w : Nat → Nat → Int} {a b : Nat} (ha : a < nn) (hb : b < nn) (h : w a b ≠ -1) : (∃ c, c < nn ∧ st w a c ≠ -1) ∧ ∃ c, c < nn ∧ st w b c ≠ -1 := by
  have : st w a b ≠ -1 := fun z => by
    unfold st at z
    rw [if_neg h] at z
    by_cases c2 : w b a = -1
    · rw [if_pos c2] at z; exact h z
    · rw [if_neg c2] at z
      by_cases c3 : w b a < w a b
      · rw [if_pos c3] at z; exact c2 z
      · rw [if_neg c3] at z; exact h z
  exact ⟨⟨b, hb, this⟩, a, ha, by rw [st_symm]; exact this⟩
theorem sg_sum (nn : Nat) (w : Nat → Nat → Int) : S1 nn (sg nn w) = 0 := by
  have e : S1 nn (sg nn w) = S2 nn (fun v b => (if w b v ≠ -1 then 1 else 0) - (if w v b ≠ -1 then 1 else 0)) := rfl
  have sw : S2 nn (fun v b => if w b v ≠ -1 then (1 : Int) else 0) = S2 nn (fun v b => if w v b ≠ -1 then (1 : Int) else 0) := S2_swap
  rw [e, S2_sub, sw]
  omega
/-- walks bound the costs -/
theorem walk_cost {nn : Nat} {w : Nat → Nat → Int} {y : Nat → Nat → Int} {d : Nat → Int} (hw : WW nn w) (hfe : ∀ a b, a < nn → b < nn → d a < 1000000000000 → cs w y a b < 1000000000000 → d b ≤ d a + cs w y a b) {π : Nat → Int} (hS : WS nn w y π) {a : Nat} (ha : a < nn) (hda : d a ≤ 0) : ∀ k b l, b < nn → Wk nn w k a b l → l ≤ 22000000 → d b ≤ l ∧ 0 ≤ l := by
  intro k
  induction k with
  | zero =>
    rintro b l hb ⟨h1, h2⟩ _
    subst h1
    omega
  | succ k ih =>
    rintro b l hb ⟨c, z, h1, h2, h3, h4⟩ hl
    have r := hw.2.2.1 c b h1 hb
    obtain ⟨q1, q2⟩ := ih c z h1 h2 (by omega)
    have hc : cs w y c b ≤ w c b := by
      unfold cs
      by_cases c1 : 0 < y b c
      · rw [if_pos c1]
        have := (hS.1 b c hb h1).2 c1
        have := hw.2.2.1 b c hb h1
        omega
      · rw [if_neg c1, if_neg h3]
        exact Int.le_refl _
    have := hfe c b h1 hb (by omega) (by omega)
    omega
theorem c_wayPost {N nn : Nat} {w : Nat → Nat → Int} {g0 g1 g4 : Nat → Nat → Int32} {a31 a32 : Nat → Int32} {b53 : Nat → Int64} {x : Int64} (hN : 5000 ≤ N) (hw : WW nn w) (h0 : Cw nn w g0) (hT : HT nn w w) (hx : x.toInt = SW nn w) (hs : ∀ v, v < nn → (a31 v).toInt = sg nn w v) (h4 : Cw nn (fun _ _ => 0) g4) : Ok (fun r => CPF nn w r.1.toInt) (lq7 (f_X5_leastWay_38 N nn (nI nn) g0 g1) N x (nI nn * nI nn) 0 a31 a32 b53 g4) := by
  have h12 := hw.2.1
  have h3 := hw.1
  have hnn : nn * nn ≤ 144 := Nat.mul_le_mul h12 h12
  rw [pk_mul]
  refine lq7_ok (fun m x1 x3 x4 z1 z2 z3 g => ∃ (t : Nat) (y : Nat → Nat → Int) (s π : Nat → Int), x3 = nI (nn * nn) ∧ x4 = nI t ∧ Cw nn y g ∧ (∀ v, v < nn → (z1 v).toInt = s v) ∧ WS nn w y π ∧ (∀ v, v < nn → 0 ≤ π v ∧ π v ≤ 1000000000000 ∧ (0 < s v → π v = 0)) ∧ (∀ v, v < nn → net nn y v = sg nn w v - s v) ∧ (∀ v, v < nn → (0 ≤ s v ∧ s v ≤ sg nn w v) ∨ (sg nn w v ≤ s v ∧ s v ≤ 0)) ∧ S1 nn s = 0 ∧ (∀ a b, a < nn → b < nn → y a b ≤ ((12 * t : Nat) : Int)) ∧ x1.toInt = SW nn w + cost nn w y ∧ S1 nn (fun v => if 0 < s v then s v else 0) ≤ (m : Int) ∧ (t : Int) + S1 nn (fun v => if 0 < s v then s v else 0) ≤ ((nn * nn : Nat) : Int)) ?_ N (nn * nn) _ _ _ _ _ _ _ ⟨0, fun _ _ => 0, sg nn w, fun _ => 0, rfl, zero32, h4, hs, ⟨fun a b _ _ => ⟨Int.le_refl 0, fun h => absurd h (Int.lt_irrefl 0)⟩, fun a b ha hb h => ?_⟩, fun v _ => ⟨Int.le_refl 0, (show (0 : Int) ≤ 1000000000000 by decide), fun _ => rfl⟩, fun v _ => ?_, fun v _ => by omega, sg_sum nn w, fun a b _ _ => Int.le_refl 0, ?_, ?_, ?_⟩ (by omega)
  · rintro m nx x1 x3 x4 z1 z2 z3 g ⟨t, y, s, π, rfl, rfl, hy, hz1, hS, hπ, hnet, hsgn, hsum, hyb, hx1, hrem, htr⟩ ih
    have rem0 : 0 ≤ S1 nn (fun v => if 0 < s v then s v else 0) := S1_nonneg (fun v _ => by
      show (0 : Int) ≤ (if 0 < s v then s v else 0)
      split <;> omega)
    have fin : (∀ v, v < nn → ¬ 0 < s v) → CPF nn w x1.toInt := fun hno => by
      refine ⟨y, π, hS, fun v hv => ?_, hx1⟩
      have hz : S1 nn (fun v => 0 - s v) = 0 := by
        rw [S1_sub, S1_zero, hsum]; rfl
      have := S1_null (f := fun v => 0 - s v) (fun v hv => by have := hno v hv; show (0 : Int) ≤ 0 - s v; omega) hz v hv
      have this : 0 - s v = 0 := this
      rw [hnet v hv]
      omega
    unfold f_X5_leastWay_38
    refine ok_if (fun yy => ok_some ?_) (fun yy => ?_)
    · rw [nI_lei (by omega) (by omega)] at yy
      refine fin (fun v hv hpos => ?_)
      have := S1_ge (n := nn) (f := fun v => if 0 < s v then s v else 0) (fun v _ => by
        show (0 : Int) ≤ (if 0 < s v then s v else 0)
        split <;> omega) hv
      have this : (if 0 < s v then s v else 0) ≤ S1 nn (fun v => if 0 < s v then s v else 0) := this
      rw [if_pos hpos] at this
      omega
    rw [nI_lei (by omega) (by omega)] at yy
    refine ok_bd (c_costs (by omega) hw h0 hy hS hz1 hπ) (fun o ho => ?_)
    obtain ⟨d, bf, T, hBF, hd, hfe⟩ := ho
    refine ok_bd (c_end (by omega) h12 hz1 (fun v hv => (hd v hv).1)) (fun q hq => ?_)
    have hB := hBF
    obtain ⟨ρ, K, R, hB⟩ := hB
    have src : ∀ v, v < nn → 0 < s v → d v = 0 := fun v hv hpos => by
      have q1 := (hB.1 v hv).1.1
      have q1 : d v ≤ (if 0 < s v then 0 else 1000000000000) := q1
      rw [if_pos hpos] at q1
      have := hd v hv
      omega
    have reach : ∀ a, a < nn → 0 < s a → ∀ b, b < nn → (∃ c, c < nn ∧ st w b c ≠ -1) → d b ≤ 22000000 := fun a ha hpa b hb hsb => by
      have hsa : ∃ c, c < nn ∧ st w a c ≠ -1 := sg_street (by have := hsgn a ha; omega)
      obtain ⟨k, l, w1, w2, w3⟩ := hT a b ha hb hsa hsb
      have := walk_cost hw hfe hS ha (by rw [src a ha hpa]; exact Int.le_refl 0) k b l hb w1 w3
      omega
    rcases hq with ⟨rfl, hno⟩ | ⟨e, rfl, he, hse, hde⟩
    · rw [if_pos rfl]
      refine ok_some (fin (fun v hv hpos => ?_))
      have hneg : ∃ b, b < nn ∧ s b < 0 := Classical.byContradiction (fun hn => by
        have hz := S1_null (f := s) (fun u hu => Int.not_lt.mp (fun h => hn ⟨u, hu, h⟩)) hsum v hv
        omega)
      obtain ⟨b, hb, hsb⟩ := hneg
      have := hno b hb hsb
      have := reach v hv hpos b hb (sg_street (by have := hsgn b hb; omega))
      omega
    · rw [if_neg (nI_nm1 (by omega)), ck_N he (by omega), nI_c (show e < 2147483648 by omega)]
      have hfeπ : ∀ i j, i < nn → j < nn → cs w y i j < 1000000000000 → π j ≤ π i + cs w y i j := fun i j hi hj hc => (cs_rng hw hS hi hj).2.2.2 hc
      obtain ⟨k, k1, k2, k3, k4, k5⟩ := chain_end hBF hfeπ he
      have hk1 : 1 ≤ k := Nat.pos_of_ne_zero (fun z => by
        subst z
        have := (hB.2.1 e he k3).2.2
        have this : d e = (if 0 < s e then 0 else 1000000000000) := this
        rw [if_neg (by omega)] at this
        omega)
      have step : ∀ i, i < k → o.1 (pt bf e i) = nI (pt bf e (i + 1)) ∧ cs w y (pt bf e (i + 1)) (pt bf e i) < 1000000000000 ∧ d (pt bf e (i + 1)) < 1000000000000 ∧ d (pt bf e (i + 1)) + cs w y (pt bf e (i + 1)) (pt bf e i) = d (pt bf e i) := fun i hi => by
        obtain ⟨p1, p2, p3, p4, p5, p6, -⟩ := hB.2.2.1 _ (k4 i (by omega)) (k2 i hi)
        have := hfe _ _ p2 (k4 i (by omega)) p5 p4
        exact ⟨p1, p4, p5, (show d (bf (pt bf e i)) + cs w y (bf (pt bf e i)) (pt bf e i) = d (pt bf e i) by omega)⟩
      have root := hB.2.1 _ (k4 k (Nat.le_refl k)) k3
      have rootd : d (pt bf e k) < 1000000000000 := by
        have := (step (k - 1) (by omega)).2.2.1
        rw [show k - 1 + 1 = k by omega] at this
        exact this
      have hroot : 0 < s (pt bf e k) := Classical.byContradiction (fun hn => by
        have := root.2.2
        have this : d (pt bf e k) = (if 0 < s (pt bf e k) then 0 else 1000000000000) := this
        rw [if_neg hn] at this
        omega)
      have droot := src _ (k4 k (Nat.le_refl k)) hroot
      have hr := k4 k (Nat.le_refl k)
      have far : ∀ a b, a < nn → b < nn → w a b ≠ -1 → d a ≤ 22000000 ∧ d b ≤ 22000000 := fun a b ha hb hab => by
        have := way_street ha hb hab
        exact ⟨reach _ hr hroot a ha this.1, reach _ hr hroot b hb this.2⟩
      have hcw : ∀ a b, a < nn → b < nn → w a b ≠ -1 → cs w y a b ≤ w a b := fun a b ha hb hab => by
        unfold cs
        by_cases c1 : 0 < y b a
        · rw [if_pos c1]
          have := (hS.1 b a hb ha).2 c1
          have := hw.2.2.1 b a hb ha
          have := hw.2.2.1 a b ha hb
          omega
        · rw [if_neg c1, if_neg hab]
          exact Int.le_refl _
      have hSd : WS nn w y d := by
        refine ⟨fun a b ha hb => ⟨(hS.1 a b ha hb).1, fun hpos => ?_⟩, fun a b ha hb hab => ?_⟩
        · have hab := ((hS.1 a b ha hb).2 hpos).1
          have f1 := far a b ha hb hab
          have wr := hw.2.2.1 a b ha hb
          have c1 := hcw a b ha hb hab
          have c2 : cs w y b a = -(w a b) := if_pos hpos
          have e1 := hfe a b ha hb (by omega) (by omega)
          have e2 := hfe b a hb ha (by omega) (by omega)
          exact ⟨hab, by omega⟩
        · have f1 := far a b ha hb hab
          have wr := hw.2.2.1 a b ha hb
          have c1 := hcw a b ha hb hab
          have e1 := hfe a b ha hb (by omega) (by omega)
          omega
      have hsr : ∀ v, v < nn → (z1 v).toInt = s v ∧ -1000 ≤ s v ∧ s v ≤ 1000 := fun v hv => by
        have a1 := sg_rng (w := w) h12 v
        have a2 := hsgn v hv
        exact ⟨hz1 v hv, by omega, by omega⟩
      refine ok_bd (c_goTo (by omega) hw hy hsr hSd hyb (by omega) k1 hk1 k4 k5 (fun i hi => (step i hi).1) root.2.1 (fun i hi => ⟨(step i hi).2.1, (step i hi).2.2.2⟩)) (fun r hr' => ?_)
      obtain ⟨y', hy', hS', hn', hc', hb', hs'⟩ := hr'
      have hre : pt bf e k ≠ e := fun h => by rw [h] at hroot; omega
      rw [nI_s]
      obtain ⟨s', es'⟩ : ∃ s' : Nat → Int, ∀ v, s' v = s v - (if v = pt bf e k then 1 else 0) + (if v = e then 1 else 0) := ⟨_, fun _ => rfl⟩
      have rem' : S1 nn (fun v => if 0 < s' v then s' v else 0) + 1 = S1 nn (fun v => if 0 < s v then s v else 0) := by
        rw [← S1_upd (c := 1) hr]
        refine S1_congr (fun v hv => ?_)
        rw [es' v]
        by_cases q1 : v = pt bf e k
        · subst q1
          rw [if_pos rfl, if_neg hre, if_pos hroot]
          split <;> omega
        · rw [if_neg q1]
          by_cases q2 : v = e
          · subst q2
            rw [if_pos rfl, if_neg (by omega), if_neg (by omega)]; rfl
          · rw [if_neg q2]
            simp only [Int.sub_zero, Int.add_zero]
      refine ih (m - 1) _ _ _ _ _ _ _ ?_ ⟨t + 1, y', s', d, rfl, rfl, hy', fun v hv => by rw [es' v]; exact hs' v hv, hS', fun v hv => ?_, fun v hv => ?_, fun v hv => ?_, ?_, fun a b ha hb => ?_, ?_, ?_, ?_⟩
      · have := S1_ge (n := nn) (f := fun v => if 0 < s v then s v else 0) (fun v _ => by
          show (0 : Int) ≤ (if 0 < s v then s v else 0)
          split <;> omega) hr
        have this : (if 0 < s (pt bf e k) then s (pt bf e k) else 0) ≤ S1 nn (fun v => if 0 < s v then s v else 0) := this
        rw [if_pos hroot] at this
        omega
      · have a1 := hd v hv
        have a2 := (hB.1 v hv).1
        refine ⟨by omega, by omega, fun hpos => ?_⟩
        rw [es' v] at hpos
        refine src v hv ?_
        by_cases q1 : v = e
        · subst q1
          rw [if_pos rfl] at hpos
          split at hpos <;> omega
        · rw [if_neg q1] at hpos
          split at hpos <;> omega
      · rw [hn' v hv, hnet v hv, es' v]
        omega
      · have a2 := hsgn v hv
        rw [es' v]
        by_cases q1 : v = pt bf e k
        · subst q1
          rw [if_pos rfl, if_neg hre]
          omega
        · rw [if_neg q1]
          by_cases q2 : v = e
          · subst q2
            rw [if_pos rfl]
            omega
          · rw [if_neg q2]
            omega
      · rw [S1_congr (g := fun v => (s v + if v = e then 1 else 0) + if v = pt bf e k then (-1) else 0), S1_upd hr, S1_upd he, hsum]
        · rfl
        · intro v _
          rw [es' v]
          by_cases q1 : v = pt bf e k
          · rw [if_pos q1, if_pos q1]; omega
          · rw [if_neg q1, if_neg q1]; omega
      · have := hb' a b ha hb
        omega
      · have d0 := hd e he
        have cr : 0 ≤ cost nn w y ∧ cost nn w y ≤ 144 * 2000000000 := by
          have q : ∀ a b, a < nn → b < nn → 0 ≤ w a b * y a b ∧ w a b * y a b ≤ 2000000000 := fun a b ha hb => by
            have y0 := (hS.1 a b ha hb)
            have yb := hyb a b ha hb
            by_cases c : 0 < y a b
            · have wr := hw.2.2.1 a b ha hb
              have wn := (y0.2 c).1
              refine ⟨Int.mul_nonneg (by omega) (by omega), ?_⟩
              have m1 : w a b * y a b ≤ 1000000 * y a b := Int.mul_le_mul_of_nonneg_right (by omega) (by omega)
              omega
            · have : y a b = 0 := by omega
              rw [this, Int.mul_zero]
              exact ⟨Int.le_refl 0, by decide⟩
          exact ⟨S2_nonneg (fun a b ha hb => (q a b ha hb).1), S2_bd h12 (by decide) (fun a b ha hb => (q a b ha hb).2)⟩
        have sw := SW_rng hw (Nat.le_refl nn)
        have sw : 0 ≤ SW nn w ∧ SW nn w ≤ 144000000 := sw
        rw [hc', droot]
        rw [i64_add] <;> rw [hx1, d0.1] <;> omega
      · omega
      · omega
  · have := hw.2.2.1 a b ha hb
    show (0 : Int) ≤ 0 + w a b
    omega
  · unfold net
    rw [S1_zero]
    omega
  · have : cost nn w (fun _ _ => 0) = 0 := by
      unfold cost
      rw [S2_congr (g := fun _ _ => 0) (fun a b _ _ => Int.mul_zero _), S2_zero]
    rw [this, hx, Int.add_zero]
  · have := S1_bound (n := nn) (f := fun v => if 0 < sg nn w v then sg nn w v else 0) (c := nn) (fun v _ => by
      have := (sg_rng (w := w) h12 v).2
      show (if 0 < sg nn w v then sg nn w v else 0) ≤ (nn : Int)
      split <;> omega)
    rw [Int.natCast_mul]
    exact this
  · have := S1_bound (n := nn) (f := fun v => if 0 < sg nn w v then sg nn w v else 0) (c := nn) (fun v _ => by
      have := (sg_rng (w := w) h12 v).2
      show (if 0 < sg nn w v then sg nn w v else 0) ≤ (nn : Int)
      split <;> omega)
    rw [Int.natCast_mul]
    show ((0 : Nat) : Int) + S1 nn (fun v => if 0 < sg nn w v then sg nn w v else 0) ≤ (nn : Int) * nn
    omega
