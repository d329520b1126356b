/-! ===== StreetPost's shortest ways: over one place after another ===== -/
def FB (nn : Nat) (e : Nat → Nat → Int) (D : Nat → Nat → Int) : Prop := ∀ a b, a < nn → b < nn → 0 ≤ D a b ∧ D a b ≤ 500000000 ∧ (e a b ≠ -1 → D a b ≤ e a b) ∧ (D a b < 500000000 → ∃ k, Wk nn e k a b (D a b))
def TK (nn k : Nat) (D : Nat → Nat → Int) : Prop := ∀ a b c, a < nn → b < nn → c < nn → c < k → D a b ≤ D a c + D c b
def nw (D : Nat → Nat → Int) (k a b : Nat) : Int := if D a k + D k b < D a b then D a k + D k b else D a b
theorem nw_le (D : Nat → Nat → Int) (k a b : Nat) : nw D k a b ≤ D a b ∧ nw D k a b ≤ D a k + D k b ∧ (nw D k a b = D a b ∨ nw D k a b = D a k + D k b) := by
  unfold nw
  split <;> omega
theorem FB_nw {nn : Nat} {e D : Nat → Nat → Int} {k : Nat} (h : FB nn e D) (hk : k < nn) : FB nn e (nw D k) := by
  intro a b ha hb
  have q1 := h a b ha hb
  have q2 := h a k ha hk
  have q3 := h k b hk hb
  have q4 := nw_le D k a b
  refine ⟨by omega, by omega, fun z => by have := q1.2.2.1 z; omega, fun z => ?_⟩
  rcases q4.2.2 with q | q
  · rw [q] at z ⊢
    exact q1.2.2.2 z
  · rw [q] at z ⊢
    obtain ⟨k1, w1⟩ := q2.2.2.2 (by omega)
    obtain ⟨k2, w2⟩ := q3.2.2.2 (by omega)
    exact ⟨k1 + k2, Wk_cat w1 k2 b _ w2⟩
theorem TK_nw {nn : Nat} {e D : Nat → Nat → Int} {k : Nat} (h : FB nn e D) (ht : TK nn k D) (hk : k < nn) : TK nn (k + 1) (nw D k) := by
  intro a b c ha hb hc hck
  have n1 := nw_le D k a b
  have n2 := nw_le D k a c
  have n3 := nw_le D k c b
  have p1 := (h k k hk hk).1
  have p2 := (h k c hk hc).1
  have p3 := (h c k hc hk).1
  by_cases ec : c = k
  · subst ec
    rcases n2.2.2 with q | q <;> rcases n3.2.2 with q' | q' <;> omega
  · have t1 := ht a b c ha hb hc (by omega)
    have t2 := ht a k c ha hk hc (by omega)
    have t3 := ht k b c hk hb hc (by omega)
    rcases n2.2.2 with q | q <;> rcases n3.2.2 with q' | q' <;> omega
/-- the class's shortest ways -/
def DD (nn : Nat) (e D : Nat → Nat → Int) : Prop := FB nn e D ∧ ∀ k a b y, a < nn → b < nn → Wk nn e (k + 1) a b y → D a b ≤ y
theorem TK_DD {nn : Nat} {e D : Nat → Nat → Int} (h : FB nn e D) (ht : TK nn nn D) : DD nn e D := by
  refine ⟨h, ?_⟩
  intro k
  induction k with
  | zero =>
    rintro a b y ha hb ⟨c, z, h1, ⟨h2, h3⟩, h4, h5⟩
    subst h2
    have := (h a b ha hb).2.2.1 h4
    omega
  | succ k ih =>
    rintro a b y ha hb ⟨c, z, h1, h2, h4, h5⟩
    have q1 := ih a c z ha h1 h2
    have q2 := (h c b h1 hb).2.2.1 h4
    have q3 := ht a b c ha hb h1 h1
    omega
theorem c_floyd {N nn : Nat} {e : Nat → Nat → Int} {g1 g3 : Nat → Nat → Int32} (hN : 100 ≤ N) (h12 : nn ≤ 12) (hg : Cw nn e g1) (he : ∀ a b, a < nn → b < nn → -1 ≤ e a b ∧ e a b ≤ 1000000) : Ok (fun x => ∃ D, Cw nn D x ∧ DD nn e D) (f_X4_findShortest N nn (nI nn) g1 g3) := by
  unfold f_X4_findShortest
  have phase : ∀ (D : Nat → Nat → Int) (z : Nat → Nat → Int32), Cw nn D z → FB nn e D → Ok (fun x => ∃ D, Cw nn D x ∧ DD nn e D) (lq2 (f_X4_findShortest_79 N nn (nI nn) g1) N 0 z) := by
    intro D z hz hF
    refine lq2_ok (fun m x1 z => ∃ k D, x1 = nI k ∧ k + m = nn ∧ Cw nn D z ∧ FB nn e D ∧ TK nn k D) ?_ N nn _ _ ⟨0, D, zero32, by omega, hz, hF, fun a b c _ _ _ h => absurd h (Nat.not_lt_zero c)⟩ (by omega)
    rintro m nx x1 z ⟨k, D, rfl, hm, hz, hF, hT⟩ ih
    unfold f_X4_findShortest_79
    refine ok_if (fun y => ok_some ?_) (fun y => ?_)
    · rw [nI_lei (by omega) (by omega)] at y
      have ek : k = nn := by omega
      subst ek
      exact ⟨D, hz, TK_DD hF hT⟩
    rw [nI_lei (by omega) (by omega)] at y
    have hk : k < nn := by omega
    refine lq3_ok (fun m2 x1 x2 z => ∃ a, nI k = x1 ∧ x2 = nI a ∧ a + m2 = nn ∧ Cw nn (fun i j => if i < a then nw D k i j else D i j) z) ?_ N nn _ _ _ ⟨0, rfl, zero32, by omega, fun i j hi hj => ?_⟩ (by omega)
    · rintro m2 nx2 x1 x2 z ⟨a, rfl, rfl, hm2, hz⟩ ih2
      unfold f_X4_findShortest_92
      refine ok_if (fun y2 => ?_) (fun y2 => ?_)
      · rw [nI_lei (by omega) (by omega)] at y2
        rw [nI_s]
        refine ih (m - 1) _ _ (by omega) ⟨k + 1, nw D k, rfl, by omega, fun i j hi hj => ?_, FB_nw hF hk, TK_nw hF hT hk⟩
        rw [hz i j hi hj]
        dsimp only
        rw [if_pos (by omega)]
      rw [nI_lei (by omega) (by omega)] at y2
      have ha : a < nn := by omega
      refine lq4_ok (fun m3 x1 x2 x3 z => ∃ b, nI k = x1 ∧ nI a = x2 ∧ x3 = nI b ∧ b + m3 = nn ∧ Cw nn (fun i j => if i < a ∨ (i = a ∧ j < b) then nw D k i j else D i j) z) ?_ N nn _ _ _ _ ⟨0, rfl, rfl, zero32, by omega, fun i j hi hj => ?_⟩ (by omega)
      · rintro m3 nx3 x1 x2 x3 z ⟨b, rfl, rfl, rfl, hm3, hz⟩ ih3
        unfold f_X4_findShortest_105
        refine ok_if (fun y3 => ?_) (fun y3 => ?_)
        · rw [nI_lei (by omega) (by omega)] at y3
          rw [nI_s]
          refine ih2 (m2 - 1) _ _ _ (by omega) ⟨a + 1, rfl, rfl, by omega, fun i j hi hj => ?_⟩
          rw [hz i j hi hj]
          dsimp only
          by_cases c : i < a + 1
          · rw [if_pos c, if_pos (by omega)]
          · rw [if_neg c, if_neg (by omega)]
        rw [nI_lei (by omega) (by omega)] at y3
        have hb : b < nn := by omega
        have p0 := (hF k k hk hk).1
        have eak : (z a k).toInt = D a k := by
          rw [hz a k ha hk]
          dsimp only
          split
          · have := nw_le D k a k; omega
          · rfl
        have ekb : (z k b).toInt = D k b := by
          rw [hz k b hk hb]
          dsimp only
          split
          · have := nw_le D k k b; omega
          · rfl
        have eab : (z a b).toInt = D a b := by
          rw [hz a b ha hb]
          dsimp only
          rw [if_neg (by omega)]
        have r1 := hF a k ha hk
        have r2 := hF k b hk hb
        have es : (z a k + z k b).toInt = D a k + D k b := by
          rw [i32_add] <;> rw [eak, ekb] <;> omega
        rw [nI_c (show k < 2147483648 by omega), nI_c (show a < 2147483648 by omega), nI_c (show b < 2147483648 by omega), ck_N ha (by omega), ck_N ha (by omega), ck_N hb (by omega), ck_N ha (by omega), ck_N hk (by omega), ck_N hk (by omega), ck_N hb (by omega), ck_N hb (by omega)]
        refine ok_nmd ?_
        rw [nI_s]
        refine ih3 (m3 - 1) _ _ _ _ (by omega) ⟨b + 1, rfl, rfl, rfl, by omega, fun i j hi hj => ?_⟩
        rw [g_up]
        dsimp only
        by_cases c : i = a ∧ j = b
        · rw [if_pos c, c.1, c.2, if_pos (show a < a ∨ (a = a ∧ b < b + 1) by omega)]
          unfold nw
          by_cases c2 : z a k + z k b < z a b
          · rw [if_pos c2]
            rw [i32_lt, es, eab] at c2
            rw [if_pos c2, es]
          · rw [if_neg c2]
            rw [i32_lt, es, eab] at c2
            rw [if_neg c2, eab]
        · rw [if_neg c, hz i j hi hj]
          dsimp only
          by_cases c2 : i < a ∨ (i = a ∧ j < b + 1)
          · rw [if_pos c2, if_pos (by omega)]
          · rw [if_neg c2, if_neg (by omega)]
      · rw [hz i j hi hj]
        dsimp only
        by_cases c : i < a
        · rw [if_pos c, if_pos (by omega)]
        · rw [if_neg c, if_neg (by omega)]
    · rw [hz i j hi hj]
      dsimp only
      rw [if_neg (Nat.not_lt_zero i)]
  refine lq2_ok (fun m x1 z => ∃ a, x1 = nI a ∧ a + m = nn ∧ ∀ i j, i < a → j < nn → (z i j).toInt = if e i j = -1 then 500000000 else e i j) ?_ N nn _ _ ⟨0, zero32, by omega, fun i j hi => absurd hi (Nat.not_lt_zero i)⟩ (by omega)
  rintro m nx x1 z ⟨a, rfl, hm, hz⟩ ih
  unfold f_X4_findShortest_2
  refine ok_if (fun y => ?_) (fun y => ?_)
  · rw [nI_lei (by omega) (by omega)] at y
    refine phase (fun i j => if e i j = -1 then 500000000 else e i j) z (fun i j hi hj => hz i j (by omega) hj) (fun i j hi hj => ?_)
    have := he i j hi hj
    dsimp only
    by_cases c : e i j = -1
    · rw [if_pos c]
      exact ⟨by decide, by decide, fun h => absurd c h, fun h => absurd h (by decide)⟩
    · rw [if_neg c]
      exact ⟨by omega, by omega, fun _ => Int.le_refl _, fun _ => ⟨1, Wk_one hi c⟩⟩
  rw [nI_lei (by omega) (by omega)] at y
  have ha : a < nn := by omega
  refine lq3_ok (fun m2 x1 x2 z => ∃ b, nI a = x1 ∧ x2 = nI b ∧ b + m2 = nn ∧ ∀ i j, i < nn → j < nn → (i < a ∨ (i = a ∧ j < b)) → (z i j).toInt = if e i j = -1 then 500000000 else e i j) ?_ N nn _ _ _ ⟨0, rfl, zero32, by omega, fun i j hi hj h => hz i j (by omega) hj⟩ (by omega)
  rintro m2 nx2 x1 x2 z ⟨b, rfl, rfl, hm2, hz⟩ ih2
  unfold f_X4_findShortest_15
  refine ok_if (fun y2 => ?_) (fun y2 => ?_)
  · rw [nI_lei (by omega) (by omega)] at y2
    rw [nI_s]
    exact ih (m - 1) _ _ (by omega) ⟨a + 1, rfl, by omega, fun i j hi hj => hz i j (by omega) hj (by omega)⟩
  rw [nI_lei (by omega) (by omega)] at y2
  have hb : b < nn := by omega
  have eg := hg a b ha hb
  have ee : g1 a b = -1 ↔ e a b = -1 := by rw [i32_eq, m1_toInt, eg]
  rw [nI_c (show a < 2147483648 by omega), nI_c (show b < 2147483648 by omega), ck_N ha (by omega), ck_N ha (by omega), ck_N hb (by omega)]
  have next : ∀ v : Int32, v.toInt = (if e a b = -1 then 500000000 else e a b) → Ok (fun x => ∃ D, Cw nn D x ∧ DD nn e D) (nx2 (nI a) (nI b + 1) (va_up z a (upd (z a) b v))) := by
    intro v hv
    rw [nI_s]
    refine ih2 (m2 - 1) _ _ _ (by omega) ⟨b + 1, rfl, rfl, by omega, fun i j hi hj hij => ?_⟩
    rw [g_up]
    by_cases c : i = a ∧ j = b
    · rw [if_pos c, c.1, c.2]; exact hv
    · rw [if_neg c]; exact hz i j hi hj (by omega)
  refine ok_if (fun y3 => ?_) (fun y3 => ?_)
  · rw [ck_N hb (by omega)]
    refine ok_nmd (next _ ?_)
    rw [if_pos (ee.mp y3)]
    decide
  · rw [ck_N ha (by omega), ck_N hb (by omega), ck_N hb (by omega)]
    refine ok_nmd (next _ ?_)
    rw [if_neg (fun h => y3 (ee.mpr h))]
    exact eg
/-- where there is a walk, both have the same length -/
theorem same_short {nn : Nat} {e D : Nat → Nat → Int} {b : Nat → Int64} {x y k : Nat} {l : Int} (hD : DD nn e D) (hS : DS nn e b) (hx : x < nn) (hy : y < nn) (hxy : x ≠ y) (hl : l < 500000000) (hw : Wk nn e k x y l) : D x y = (b (12 * x + y)).toInt ∧ 0 ≤ D x y ∧ D x y ≤ l := by
  have nz : ∀ k l, Wk nn e k x y l → D x y ≤ l := fun k l h => by
    cases k with
    | zero => exact absurd h.1 hxy
    | succ k => exact hD.2 k x y l hx hy h
  have a1 := nz k l hw
  have a2 := hD.1 x y hx hy
  obtain ⟨k1, w1⟩ := a2.2.2.2 (by omega)
  have s := hS x y hx hy
  have a3 := s.2.2.2 k1 _ w1
  obtain ⟨k2, w2⟩ := s.2.2.1 (by omega)
  have a4 := nz k2 _ w2
  exact ⟨by omega, a2.1, a1⟩
