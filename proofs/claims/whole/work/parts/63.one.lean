/-! ===== the reference's way over ways: what is sent at first ===== -/
def Q12 (q : Nat → Nat → Int) (a37 : Nat → Int32) : Prop := ∀ a b, a < 12 → b < 12 → (a37 (12 * a + b)).toInt = q a b
def hs (nn : Nat) (w : Nat → Nat → Int) (a : Nat) : Prop := a < nn ∧ ∃ c, c < nn ∧ st w a c ≠ -1
/-- what is sent goes from places with streets to such -/
def QS (nn : Nat) (w q : Nat → Nat → Int) : Prop := ∀ a b, a < 12 → b < 12 → 0 ≤ q a b ∧ (q a b ≠ 0 → hs nn w a ∧ hs nn w b)
def rm (nn : Nat) (s : Nat → Int) : Int := S1 nn (fun v => if 0 < s v then s v else 0)
/-- what is being sent: s is what is left to send -/
def TS (nn : Nat) (w : Nat → Nat → Int) (s : Nat → Int) (q : Nat → Nat → Int) : Prop := QS nn w q ∧ (∀ v, v < nn → net nn q v = sg nn w v - s v) ∧ (∀ v, v < nn → (0 ≤ s v ∧ s v ≤ sg nn w v) ∨ (sg nn w v ≤ s v ∧ s v ≤ 0)) ∧ S1 nn s = 0 ∧ S2 nn q + rm nn s ≤ 144
def QA (nn : Nat) (w q : Nat → Nat → Int) : Prop := QS nn w q ∧ (∀ v, v < nn → net nn q v = sg nn w v) ∧ S2 nn q ≤ 144
theorem TS_QA {nn : Nat} {w : Nat → Nat → Int} {s : Nat → Int} {q : Nat → Nat → Int} (h : TS nn w s q) (hd : ∀ a b, a < nn → b < nn → ¬ (0 < s a ∧ s b < 0)) : QA nn w q := by
  obtain ⟨h1, h2, h3, h4, h5⟩ := h
  have r0 : 0 ≤ rm nn s := S1_nonneg (fun v _ => by
    show (0 : Int) ≤ (if 0 < s v then s v else 0)
    split <;> omega)
  have z : ∀ v, v < nn → s v = 0 := by
    by_cases c : ∃ a, a < nn ∧ 0 < s a
    · obtain ⟨a, ha, hpa⟩ := c
      intro v hv
      have := S1_null (f := s) (fun u hu => Int.not_lt.mp (fun h => hd a u ha hu ⟨hpa, h⟩)) h4 a ha
      omega
    · intro v hv
      have e : S1 nn (fun v => 0 - s v) = 0 := by
        rw [S1_sub, S1_zero, h4]; rfl
      have := S1_null (f := fun v => 0 - s v) (fun u hu => by
        show (0 : Int) ≤ 0 - s u
        have : ¬ 0 < s u := fun h => c ⟨u, hu, h⟩
        omega) e v hv
      have this : 0 - s v = 0 := this
      omega
  exact ⟨h1, fun v hv => by rw [h2 v hv, z v hv, Int.sub_zero], by omega⟩
theorem q_le {nn : Nat} {w q : Nat → Nat → Int} (hq : QS nn w q) (ht : S2 nn q ≤ 144) {a b : Nat} (ha : a < 12) (hb : b < 12) (h12 : nn ≤ 12) : q a b ≤ 144 := by
  by_cases c : q a b = 0
  · rw [c]; decide
  · obtain ⟨⟨h1, -⟩, h2, -⟩ := (hq a b ha hb).2 c
    have r1 := S1_ge (n := nn) (f := q a) (fun j hj => (hq a j ha (by omega)).1) h2
    have r2 := S1_ge (n := nn) (f := fun i => S1 nn (q i)) (fun i hi => S1_nonneg (fun j hj => (hq i j (by omega) (by omega)).1)) h1
    have r2 : S1 nn (q a) ≤ S2 nn q := r2
    omega
theorem TS_send {nn : Nat} {w : Nat → Nat → Int} {s : Nat → Int} {q : Nat → Nat → Int} {a b : Nat} (h12 : nn ≤ 12) (h : TS nn w s q) (ha : a < nn) (hb : b < nn) (hpa : 0 < s a) (hnb : s b < 0) {s' : Nat → Int} (es' : ∀ v, s' v = s v - (if v = a then 1 else 0) + (if v = b then 1 else 0)) : TS nn w s' (yu q a b 1) ∧ rm nn s' + 1 = rm nn s := by
  obtain ⟨h1, h2, h3, h4, h5⟩ := h
  have hab : a ≠ b := fun e => by rw [e] at hpa; omega
  have rem : rm nn s' + 1 = rm nn s := by
    unfold rm
    rw [← S1_upd (c := 1) ha]
    refine S1_congr (fun v hv => ?_)
    rw [es' v]
    by_cases q1 : v = a
    · subst q1
      rw [if_pos rfl, if_neg hab, if_pos hpa]
      split <;> omega
    · rw [if_neg q1]
      by_cases q2 : v = b
      · subst q2
        rw [if_pos rfl, if_neg (by omega), if_neg (by omega)]; rfl
      · rw [if_neg q2]
        simp only [Int.sub_zero, Int.add_zero]
  refine ⟨⟨fun i j hi hj => ?_, fun v hv => ?_, fun v hv => ?_, ?_, ?_⟩, rem⟩
  · unfold yu
    have := h1 i j hi hj
    by_cases c : i = a ∧ j = b
    · rw [if_pos c]
      have s1 := h3 a ha
      have s2 := h3 b hb
      refine ⟨by omega, fun _ => ?_⟩
      rw [c.1, c.2]
      exact ⟨⟨ha, sg_street (by omega)⟩, hb, sg_street (by omega)⟩
    · rw [if_neg c, Int.add_zero]
      exact this
  · rw [net_yu ha hb, h2 v hv, es' v]
    omega
  · have a2 := h3 v hv
    rw [es' v]
    by_cases q1 : v = a
    · subst q1
      rw [if_pos rfl, if_neg hab]
      omega
    · rw [if_neg q1]
      by_cases q2 : v = b
      · subst q2
        rw [if_pos rfl]
        omega
      · rw [if_neg q2]
        omega
  · rw [S1_congr (g := fun v => (s v + if v = b then 1 else 0) + if v = a then (-1) else 0), S1_upd ha, S1_upd hb, h4]
    · rfl
    · intro v _
      rw [es' v]
      by_cases q1 : v = a
      · rw [if_pos q1, if_pos q1]; omega
      · rw [if_neg q1, if_neg q1]; omega
  · have e : S2 nn (yu q a b 1) = S2 nn q + 1 := S2_upd ha hb
    omega
theorem r_send {N nn : Nat} {w : Nat → Nat → Int} {b54 b57 : Nat → Int64} {x : Int64} {a37 a38 a40 : Nat → Int32} {b58 : Nat → Int64} {P : Int64 × (Nat → Int32) × (Nat → Int32) × (Nat → Int32) × (Nat → Int64) → Prop} (hN : 5000 ≤ N) (hw : WW nn w) (hq : TS nn w (sg nn w) (fun _ _ => 0)) (h37 : Q12 (fun _ _ => 0) a37) (h38 : ∀ v, v < nn → (a38 v).toInt = sg nn w v) (hP : ∀ q z1 z2, QA nn w q → Q12 q z1 → Ok P (lq6 (f_X7_one_221 N (nI nn) b54 b57) N x 1 z1 z2 a40 b58)) : Ok P (lq6 (f_X7_one_128 N (nI nn) b54 b57) N x 0 a37 a38 a40 b58) := by
  have h12 := hw.2.1
  have o1 : (1 : Int32).toInt = 1 := by decide
  refine lq6_ok (fun m x1 x3 z1 z2 z3 z4 => ∃ a s q, x = x1 ∧ x3 = nI a ∧ a + m = nn ∧ a40 = z3 ∧ b58 = z4 ∧ TS nn w s q ∧ Q12 q z1 ∧ (∀ v, v < nn → (z2 v).toInt = s v) ∧ ∀ i j, i < a → j < nn → ¬ (0 < s i ∧ s j < 0)) ?_ N nn _ _ _ _ _ _ ⟨0, sg nn w, fun _ _ => 0, rfl, zero32, by omega, rfl, rfl, hq, h37, h38, fun i j hi => absurd hi (Nat.not_lt_zero i)⟩ (by omega)
  rintro m nx x1 x3 z1 z2 z3 z4 ⟨a, s, q, rfl, rfl, hm, rfl, rfl, hT, hz1, hz2, hd⟩ ih
  unfold f_X7_one_128
  refine ok_if (fun y => ?_) (fun y => ?_)
  · rw [nI_lei (by omega) (by omega)] at y
    exact hP q z1 z2 (TS_QA hT (fun i j hi hj => hd i j (by omega) hj)) hz1
  rw [nI_lei (by omega) (by omega)] at y
  have ha : a < nn := by omega
  refine lq7_ok (fun m2 x1 x3 x4 z1 z2 z3 z4 => ∃ b s q, x = x1 ∧ nI a = x3 ∧ x4 = nI b ∧ b + m2 = nn ∧ a40 = z3 ∧ b58 = z4 ∧ TS nn w s q ∧ Q12 q z1 ∧ (∀ v, v < nn → (z2 v).toInt = s v) ∧ ∀ i j, i < nn → j < nn → (i < a ∨ (i = a ∧ j < b)) → ¬ (0 < s i ∧ s j < 0)) ?_ N nn _ _ _ _ _ _ _ ⟨0, s, q, rfl, rfl, zero32, by omega, rfl, rfl, hT, hz1, hz2, fun i j hi hj h => hd i j (by omega) hj⟩ (by omega)
  rintro m2 nx2 x1 x3 x4 z1 z2 z3 z4 ⟨b, s, q, rfl, rfl, rfl, hm2, rfl, rfl, hT, hz1, hz2, hd⟩ ih2
  unfold f_X7_one_139
  refine ok_if (fun y2 => ?_) (fun y2 => ?_)
  · rw [nI_lei (by omega) (by omega)] at y2
    rw [nI_s]
    exact ih (m - 1) _ _ _ _ _ _ (by omega) ⟨a + 1, s, q, rfl, rfl, by omega, rfl, rfl, hT, hz1, hz2, fun i j hi hj => hd i j (by omega) hj (by omega)⟩
  rw [nI_lei (by omega) (by omega)] at y2
  have hb : b < nn := by omega
  have rm0 : ∀ s : Nat → Int, 0 ≤ rm nn s := fun s => S1_nonneg (fun v _ => by
    show (0 : Int) ≤ (if 0 < s v then s v else 0)
    split <;> omega)
  have r144 : rm nn s ≤ 144 := by
    have a1 := hT.2.2.2.2
    have a2 : 0 ≤ S2 nn q := S2_nonneg (fun i j hi hj => (hT.1 i j (by omega) (by omega)).1)
    omega
  refine lq7_ok (fun m3 x1 x3 x4 z1 z2 z3 z4 => ∃ s q, x = x1 ∧ nI a = x3 ∧ nI b = x4 ∧ rm nn s = (m3 : Int) ∧ a40 = z3 ∧ b58 = z4 ∧ TS nn w s q ∧ Q12 q z1 ∧ (∀ v, v < nn → (z2 v).toInt = s v) ∧ ∀ i j, i < nn → j < nn → (i < a ∨ (i = a ∧ j < b)) → ¬ (0 < s i ∧ s j < 0)) ?_ N (rm nn s).toNat _ _ _ _ _ _ _ ⟨s, q, rfl, rfl, rfl, by have := rm0 s; omega, rfl, rfl, hT, hz1, hz2, hd⟩ (by omega)
  rintro m3 nx3 x1 x3 x4 z1 z2 z3 z4 ⟨s, q, rfl, rfl, rfl, hm3, rfl, rfl, hT, hz1, hz2, hd⟩ ih3
  have done : ¬ (0 < s a ∧ s b < 0) → Ok P (nx2 x (nI a) (nI b + 1) z1 z2 a40 b58) := fun hn => by
    rw [nI_s]
    refine ih2 (m2 - 1) _ _ _ _ _ _ _ (by omega) ⟨b + 1, s, q, rfl, rfl, rfl, by omega, rfl, rfl, hT, hz1, hz2, fun i j hi hj hij => ?_⟩
    by_cases c : i = a ∧ j = b
    · rw [c.1, c.2]; exact hn
    · exact hd i j hi hj (by omega)
  unfold f_X7_one_148
  rw [nI_c (show a < 2147483648 by omega), nI_c (show b < 2147483648 by omega), ck_N (show a < 12 by omega) (by omega)]
  refine ok_if (fun y3 => ?_) (fun y3 => ?_)
  · rw [i32_le, hz2 a ha, show (0 : Int32).toInt = 0 by decide] at y3
    exact done (fun z => by omega)
  rw [i32_le, hz2 a ha, show (0 : Int32).toInt = 0 by decide] at y3
  rw [ck_N (show b < 12 by omega) (by omega)]
  refine ok_if (fun y4 => ?_) (fun y4 => ?_)
  · rw [i32_le, hz2 b hb, show (0 : Int32).toInt = 0 by decide] at y4
    exact done (fun z => by omega)
  rw [i32_le, hz2 b hb, show (0 : Int32).toInt = 0 by decide] at y4
  have hpa : 0 < s a := by omega
  have hnb : s b < 0 := by omega
  have hab : b ≠ a := fun e => by rw [e] at hnb; omega
  obtain ⟨s', es'⟩ : ∃ s' : Nat → Int, ∀ v, s' v = s v - (if v = a then 1 else 0) + (if v = b then 1 else 0) := ⟨_, fun _ => rfl⟩
  obtain ⟨hT', hr'⟩ := TS_send h12 hT ha hb hpa hnb es'
  rw [i12, nI_c (show 12 * a + b < 2147483648 by omega), ck_N (show 12 * a + b < 144 by omega) (by omega), ck_N (show 12 * a + b < 144 by omega) (by omega)]
  refine ok_nmd ?_
  rw [ck_N (show a < 12 by omega) (by omega), ck_N (show a < 12 by omega) (by omega)]
  refine ok_nmd ?_
  rw [ck_N (show b < 12 by omega) (by omega), ck_N (show b < 12 by omega) (by omega)]
  refine ok_nmd ?_
  have rm1 := rm0 s'
  have qr := q_le hT.1 (by have := hT.2.2.2.2; have := rm0 s; omega) (show a < 12 by omega) (show b < 12 by omega) h12
  have q0 := (hT.1 a b (by omega) (by omega)).1
  have sa := sg_rng (w := w) h12 a
  have sb := sg_rng (w := w) h12 b
  have ta := hT.2.2.1 a ha
  have tb := hT.2.2.1 b hb
  refine ih3 (m3 - 1) _ _ _ _ _ _ _ (by omega) ⟨s', yu q a b 1, rfl, rfl, rfl, by omega, rfl, rfl, hT', fun i j hi hj => ?_, fun v hv => ?_, fun i j hi hj hij => ?_⟩
  · unfold yu
    by_cases c : i = a ∧ j = b
    · rw [if_pos c, c.1, c.2, pk_us]
      have e := hz1 a b (by omega) (by omega)
      rw [i32_add] <;> rw [e, o1] <;> omega
    · rw [if_neg c, pk_un (by omega), hz1 i j hi hj]; omega
  · rw [es' v]
    by_cases ev : v = b
    · subst ev
      rw [pk_us, pk_un hab, if_neg hab, if_pos rfl]
      rw [i32_add] <;> rw [hz2 v hv, o1] <;> omega
    · rw [pk_un ev, if_neg ev]
      by_cases ev2 : v = a
      · subst ev2
        rw [pk_us, if_pos rfl]
        rw [i32_sub] <;> rw [hz2 v hv, o1] <;> omega
      · rw [pk_un ev2, if_neg ev2, hz2 v hv]; omega
  · have := hd i j hi hj hij
    rintro ⟨z1, z2⟩
    rw [es' i] at z1
    rw [es' j] at z2
    apply this
    constructor
    · by_cases c : i = b
      · subst c
        rw [if_neg hab, if_pos rfl] at z1
        omega
      · rw [if_neg c] at z1
        split at z1 <;> omega
    · by_cases c : j = a
      · subst c
        rw [if_pos rfl, if_neg (fun e => hab e.symm)] at z2
        omega
      · rw [if_neg c] at z2
        split at z2 <;> omega
/-- the surplus of a place as the reference counts it -/
def sgp (w : Nat → Nat → Int) (v k : Nat) : Int := S1 k (fun b => (if w b v ≠ -1 then 1 else 0) - (if w v b ≠ -1 then 1 else 0))
theorem sgp_rng (w : Nat → Nat → Int) (v k : Nat) (hk : k ≤ 12) : -12 ≤ sgp w v k ∧ sgp w v k ≤ 12 := by
  have := sg_rng (nn := k) (w := w) hk v
  unfold sg at this
  unfold sgp
  omega
theorem TS_0 {nn : Nat} {w : Nat → Nat → Int} (h12 : nn ≤ 12) : TS nn w (sg nn w) (fun _ _ => 0) := by
  refine ⟨fun a b _ _ => ⟨Int.le_refl 0, fun h => absurd rfl h⟩, fun v _ => ?_, fun v _ => by omega, sg_sum nn w, ?_⟩
  · unfold net
    rw [S1_zero]
    omega
  · rw [S2_zero]
    unfold rm
    have := S1_bd (n := nn) (f := fun v => if 0 < sg nn w v then sg nn w v else 0) (c := 12) h12 (by decide) (fun v _ => by
      have := (sg_rng (w := w) h12 v).2
      show (if 0 < sg nn w v then sg nn w v else 0) ≤ (12 : Int)
      split <;> omega)
    omega
theorem r_one {N nn : Nat} {w : Nat → Nat → Int} {b54 b57 : Nat → Int64} {a37 a38 a40 : Nat → Int32} {b58 : Nat → Int64} {P : Int64 × (Nat → Int32) × (Nat → Int32) × (Nat → Int32) × (Nat → Int64) → Prop} (hN : 5000 ≤ N) (hw : WW nn w) (hR : Rw nn w b54) (h37 : ∀ a b, a < 12 → b < 12 → (nn ≤ a ∨ nn ≤ b) → a37 (12 * a + b) = 0) (hP : ∀ x q z1 z2, x.toInt = SW nn w → QA nn w q → Q12 q z1 → Ok P (lq6 (f_X7_one_221 N (nI nn) b54 b57) N x 1 z1 z2 a40 b58)) : Ok P (f_X7_one N (nI nn) b54 b57 a37 a38 a40 b58) := by
  have h12 := hw.2.1
  have o1 : (1 : Int32).toInt = 1 := by decide
  have z0 : (0 : Int32).toInt = 0 := by decide
  unfold f_X7_one
  refine lq6_ok (fun m x1 x3 z1 z2 z3 z4 => ∃ a, x3 = nI a ∧ a + m = nn ∧ a40 = z3 ∧ b58 = z4 ∧ x1.toInt = S1 a (fun a => S1 nn (swf w a)) ∧ (∀ i j, i < 12 → j < 12 → (nn ≤ i ∨ nn ≤ j ∨ i < a) → z1 (12 * i + j) = 0) ∧ ∀ v, v < a → (z2 v).toInt = sg nn w v) ?_ N nn _ _ _ _ _ _ ⟨0, zero32, by omega, rfl, rfl, (show (0 : Int64).toInt = 0 by decide), fun i j hi hj h => h37 i j hi hj (by omega), fun v hv => absurd hv (Nat.not_lt_zero v)⟩ (by omega)
  rintro m nx x1 x3 z1 z2 z3 z4 ⟨a, rfl, hm, rfl, rfl, hx, hz1, hz2⟩ ih
  unfold f_X7_one_4
  refine ok_if (fun y => ?_) (fun y => ?_)
  · rw [nI_lei (by omega) (by omega)] at y
    have ea : a = nn := by omega
    subst ea
    refine r_send hN hw (TS_0 h12) (fun i j hi hj => ?_) hz2 (fun q w1 w2 hq hw1 => hP x1 q w1 w2 hx hq hw1)
    rw [hz1 i j hi hj (by omega)]
    exact z0
  rw [nI_lei (by omega) (by omega)] at y
  have ha : a < nn := by omega
  have sr := SW_rng hw (show a ≤ nn by omega)
  rw [ck_N (show a < 12 by omega) (by omega), nI_c (show a < 2147483648 by omega)]
  refine ok_nmd ?_
  refine lq7_ok (fun m2 y1 x3 x4 z1 z2 z3 z4 => ∃ b, nI a = x3 ∧ x4 = nI b ∧ b + m2 = nn ∧ a40 = z3 ∧ b58 = z4 ∧ y1.toInt = x1.toInt + S1 b (swf w a) ∧ (∀ i j, i < 12 → j < 12 → (nn ≤ i ∨ nn ≤ j ∨ i < a ∨ (i = a ∧ j < b)) → z1 (12 * i + j) = 0) ∧ (∀ v, v < a → (z2 v).toInt = sg nn w v) ∧ (z2 a).toInt = sgp w a b) ?_ N nn _ _ _ _ _ _ _ ⟨0, rfl, zero32, by omega, rfl, rfl, (Int.add_zero _).symm, fun i j hi hj h => hz1 i j hi hj (by omega), fun v hv => by rw [pk_un (by omega)]; exact hz2 v hv, by rw [pk_us]; exact z0⟩ (by omega)
  rintro m2 nx2 y1 x3 x4 z1 z2 z3 z4 ⟨b, rfl, rfl, hm2, rfl, rfl, hy, hz1, hz2, hza⟩ ih2
  unfold f_X7_one_22
  refine ok_if (fun y2 => ?_) (fun y2 => ?_)
  · rw [nI_lei (by omega) (by omega)] at y2
    have eb : b = nn := by omega
    subst eb
    rw [nI_s]
    refine ih (m - 1) _ _ _ _ _ _ (by omega) ⟨a + 1, rfl, by omega, rfl, rfl, by rw [hy, hx]; rfl, fun i j hi hj h => hz1 i j hi hj (by omega), fun v hv => ?_⟩
    by_cases e : v = a
    · subst e; exact hza
    · exact hz2 v (by omega)
  rw [nI_lei (by omega) (by omega)] at y2
  have hb : b < nn := by omega
  have row : 0 ≤ S1 b (swf w a) ∧ S1 b (swf w a) ≤ 12000000 := by
    have := S1_bd (n := b) (f := swf w a) (c := 1000000) (by omega) (by decide) (fun j hj => (swf_rng hw ha (show j < nn by omega)).2)
    exact ⟨S1_nonneg (fun j hj => (swf_rng hw ha (show j < nn by omega)).1), by omega⟩
  have w1 := hw.2.2.1 a b ha hb
  have w2 := hw.2.2.1 b a hb ha
  have f1 := fr_rng w1.1 w1.2
  have f2 := fr_rng w2.1 w2.2
  have e1 := hR a b ha hb
  have e2 := hR b a hb ha
  have sgr := sgp_rng w a b (by omega)
  rw [i12, ck_N (show 12 * a + b < 144 by omega) (by omega), nI_c (show 12 * a + b < 2147483648 by omega), nI_c (show a < 2147483648 by omega)]
  refine ok_nmd ?_
  have hz1' : ∀ i j, i < 12 → j < 12 → (nn ≤ i ∨ nn ≤ j ∨ i < a ∨ (i = a ∧ j < b + 1)) → upd z1 (12 * a + b) 0 (12 * i + j) = 0 := fun i j hi hj h => by
    by_cases c : i = a ∧ j = b
    · rw [c.1, c.2, pk_us]
    · rw [pk_un (by omega)]; exact hz1 i j hi hj (by omega)
  have tail : ∀ (u : Nat → Int32), (∀ v, v < a → (u v).toInt = sg nn w v) → (u a).toInt = sgp w a b + (if w b a ≠ -1 then 1 else 0) → Ok P (f_X7_one_74 N (nI nn) b54 b57 nx nx2 y1 (nI a) (nI b) (upd z1 (12 * a + b) 0) u a40 b58) := by
    intro u hu hua
    have hua' : -12 ≤ (u a).toInt ∧ (u a).toInt ≤ 13 := by rw [hua]; split <;> omega
    unfold f_X7_one_74
    have skip : w a b = -1 → Ok P (nx2 y1 (nI a) (nI b + 1) (upd z1 (12 * a + b) 0) u a40 b58) := fun h => by
      rw [nI_s]
      refine ih2 (m2 - 1) _ _ _ _ _ _ _ (by omega) ⟨b + 1, rfl, rfl, by omega, rfl, rfl, ?_, hz1', hu, ?_⟩
      · show _ = x1.toInt + (S1 b (swf w a) + swf w a b)
        have : swf w a b = 0 := if_neg (fun z => z h)
        omega
      · show _ = sgp w a b + ((if w b a ≠ -1 then 1 else 0) - (if w a b ≠ -1 then 1 else 0))
        rw [hua, if_neg (show ¬ w a b ≠ -1 from fun z => z h)]
        omega
    refine ok_if (fun y3 => ?_) (fun y3 => ?_)
    · rw [nI_eqi (by omega) (by omega)] at y3
      refine skip ?_
      rw [← y3]
      exact hw.2.2.2 a ha
    rw [r_way (by omega) (by omega)]
    show Ok P (if (1000000000000 : Int64) ≤ b54 (12 * a + b) then _ else _)
    refine ok_if (fun y4 => ?_) (fun y4 => ?_)
    · rw [i64_le, far64, e1] at y4
      exact skip (by omega)
    rw [i64_le, far64, e1] at y4
    have hne : w a b ≠ -1 := by omega
    rw [ck_N (show a < 12 by omega) (by omega), ck_N (show a < 12 by omega) (by omega), nI_c (show a < 2147483648 by omega)]
    refine ok_nmd ?_
    show Ok P (nx2 (y1 + b54 (12 * a + b)) (nI a) (nI b + 1) _ _ a40 b58)
    rw [nI_s]
    refine ih2 (m2 - 1) _ _ _ _ _ _ _ (by omega) ⟨b + 1, rfl, rfl, by omega, rfl, rfl, ?_, hz1', fun v hv => by rw [pk_un (by omega)]; exact hu v hv, ?_⟩
    · show _ = x1.toInt + (S1 b (swf w a) + swf w a b)
      have s1 : swf w a b = w a b := if_pos hne
      have s2 := f1.2.2.2.2 hne
      rw [i64_add] <;> rw [e1, hy] <;> omega
    · show _ = sgp w a b + ((if w b a ≠ -1 then 1 else 0) - (if w a b ≠ -1 then 1 else 0))
      rw [pk_us, if_pos hne]
      rw [i32_sub] <;> rw [hua, o1] <;> omega
  refine ok_if (fun y3 => ?_) (fun y3 => ?_)
  · rw [nI_eqi (by omega) (by omega)] at y3
    refine tail z2 hz2 ?_
    rw [if_neg (fun z => z (by rw [← y3]; exact hw.2.2.2 a ha)), hza]
    omega
  rw [r_way (by omega) (by omega)]
  show Ok P (if (1000000000000 : Int64) ≤ b54 (12 * b + a) then _ else _)
  refine ok_if (fun y4 => ?_) (fun y4 => ?_)
  · rw [i64_le, far64, e2] at y4
    refine tail z2 hz2 ?_
    rw [if_neg (fun z => z (by omega)), hza]
    omega
  rw [i64_le, far64, e2] at y4
  have hne : w b a ≠ -1 := by omega
  rw [ck_N (show a < 12 by omega) (by omega), ck_N (show a < 12 by omega) (by omega)]
  refine ok_nmd (tail _ (fun v hv => by rw [pk_un (by omega)]; exact hz2 v hv) ?_)
  rw [pk_us, if_pos hne]
  rw [i32_add] <;> rw [hza, o1] <;> omega
