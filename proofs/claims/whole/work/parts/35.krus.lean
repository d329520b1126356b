/-! ===== the tree by joining pieces ===== -/
/-- after t joins: K says which streets were taken, c which piece a place is in -/
def KI (nn : Nat) (w : Nat → Nat → Int) (u : Nat → Int) (t : Nat) (K : Nat → Nat → Int) (c : Nat → Nat) : Prop :=
  (∀ a b, K a b = 0 ∨ (K a b = 1 ∧ 1 ≤ a ∧ a < b ∧ b < nn ∧ st w a b ≠ -1 ∧ c a = c b)) ∧
  S2 nn K = t ∧
  (∀ v, 1 ≤ v → v < nn → 1 ≤ c v ∧ c v < nn ∧ c (c v) = c v) ∧
  S1 nn (fun v => if 1 ≤ v ∧ c v = v then 1 else 0) = (nn : Int) - 1 - t ∧
  (∀ x y, 1 ≤ x → x < nn → 1 ≤ y → y < nn → c x = c y → ∀ S : Nat → Bool, S x ≠ S y → ∃ a b, K a b = 1 ∧ S a ≠ S b) ∧
  (∀ a b, K a b = 1 → ∀ e f, Cd nn w c e f → Lt (pr w u) a b e f) ∧
  (∀ e f, 1 ≤ e → e < f → f < nn → st w e f ≠ -1 → c e = c f → K e f = 0 → ∀ S : Nat → Bool, S e ≠ S f → ∃ a b, K a b = 1 ∧ Lt (pr w u) a b e f ∧ S a ≠ S b)
theorem KI_0 {nn : Nat} (w : Nat → Nat → Int) (u : Nat → Int) (hn : 3 ≤ nn) {c : Nat → Nat} (hc : ∀ v, v < nn → c v = v) : KI nn w u 0 (fun _ _ => 0) c := by
  refine ⟨fun a b => Or.inl rfl, S2_zero nn, fun v h1 h2 => ?_, ?_, fun x y h1 h2 h3 h4 e S hS => ?_, fun a b h => ?_, fun e f h1 h2 h3 h4 h5 h6 S hS => ?_⟩
  · have := hc v h2
    rw [this, this]
    exact ⟨h1, h2, rfl⟩
  · rw [S1_congr (g := fun v => (fun _ => (1 : Int)) v - (if v = 0 then 1 else 0)), S1_sub, S1_one, if_pos (by omega)]
    · have : ∀ n : Nat, S1 n (fun _ => (1 : Int)) = n := by
        intro n
        induction n with
        | zero => rfl
        | succ n ih =>
          show S1 n (fun _ => (1 : Int)) + 1 = _
          rw [ih, Int.natCast_add]; rfl
      rw [this]
      omega
    · intro v hv
      have := hc v hv
      by_cases h : v = 0
      · subst h
        rw [if_neg (fun q => by omega), if_pos rfl]; rfl
      · rw [if_pos ⟨by omega, this⟩, if_neg h]; rfl
  · rw [hc x h2, hc y h4] at e
    exact absurd (by rw [e]) hS
  · exact absurd (show (0 : Int) = 1 from h) (by decide)
  · rw [hc e (by omega), hc f h3] at h5
    omega
theorem KI_join {nn : Nat} {w : Nat → Nat → Int} {u : Nat → Int} {t : Nat} {K : Nat → Nat → Int} {c : Nat → Nat} (h : KI nn w u t K c) {i j : Nat} (hij : Cd nn w c i j) (hl : ∀ a b, Cd nn w c a b → Le (pr w u) i j a b) : KI nn w u (t + 1) (fun a b => K a b + if a = i ∧ b = j then 1 else 0) (fun v => if c v = c j then c i else c v) := by
  obtain ⟨k1, k2, k3, k4, k5, k6, k7⟩ := h
  obtain ⟨i1, i2, i3, i4, i5⟩ := id hij
  have Kij : K i j = 0 := by
    rcases k1 i j with q | q
    · exact q
    · exact absurd q.2.2.2.2.2 i4
  have Kle : ∀ a b, K a b = 1 → K a b + (if a = i ∧ b = j then 1 else 0) = 1 := by
    intro a b q
    rw [if_neg, q]
    · rfl
    · rintro ⟨rfl, rfl⟩
      rw [Kij] at q
      exact absurd q (by decide)
  have Knew : K i j + (if i = i ∧ j = j then 1 else 0) = 1 := by
    rw [if_pos ⟨rfl, rfl⟩, Kij]; rfl
  have cs : ∀ x y, c x = c y → (if c x = c j then c i else c x) = (if c y = c j then c i else c y) := by
    intro x y q
    rw [q]
  have cc : ∀ x y, (if c x = c j then c i else c x) = (if c y = c j then c i else c y) → c x ≠ c y → (c x = c i ∧ c y = c j) ∨ (c x = c j ∧ c y = c i) := by
    intro x y q1 q2
    by_cases hx : c x = c j
    · by_cases hy : c y = c j
      · exact absurd (hx.trans hy.symm) q2
      · rw [if_pos hx, if_neg hy] at q1
        exact Or.inr ⟨hx, q1.symm⟩
    · by_cases hy : c y = c j
      · rw [if_neg hx, if_pos hy] at q1
        exact Or.inl ⟨q1, hy⟩
      · rw [if_neg hx, if_neg hy] at q1
        exact absurd q1 q2
  have hi : i < nn := by omega
  -- a cut between two places of the joined pieces is crossed by the new street or by an old one
  have cross : ∀ x y, 1 ≤ x → x < nn → 1 ≤ y → y < nn → c x = c i → c y = c j → ∀ S : Nat → Bool, S x ≠ S y → S i ≠ S j ∨ ∃ a b, K a b = 1 ∧ S a ≠ S b := by
    intro x y x1 x2 y1 y2 ex ey S hS
    by_cases q : S i = S j
    · right
      by_cases q2 : S x = S i
      · refine k5 y j y1 y2 (by omega) i3 ey S (fun z => hS ?_)
        rw [q2, q, z]
      · exact k5 x i x1 x2 i1 hi ex S q2
    · exact Or.inl q
  have cross2 : ∀ x y, 1 ≤ x → x < nn → 1 ≤ y → y < nn → (if c x = c j then c i else c x) = (if c y = c j then c i else c y) → c x ≠ c y → ∀ S : Nat → Bool, S x ≠ S y → S i ≠ S j ∨ ∃ a b, K a b = 1 ∧ S a ≠ S b := by
    intro x y x1 x2 y1 y2 e1 e2 S hS
    rcases cc x y e1 e2 with ⟨q1, q2⟩ | ⟨q1, q2⟩
    · exact cross x y x1 x2 y1 y2 q1 q2 S hS
    · exact cross y x y1 y2 x1 x2 q2 q1 S (fun z => hS z.symm)
  refine ⟨fun a b => ?_, ?_, fun v v1 v2 => ?_, ?_, fun x y x1 x2 y1 y2 e S hS => ?_, fun a b q e f hef => ?_, fun e f e1 e2 e3 e4 e5 e6 S hS => ?_⟩
  · by_cases q : a = i ∧ b = j
    · obtain ⟨rfl, rfl⟩ := q
      refine Or.inr ⟨Knew, i1, i2, i3, i5, ?_⟩
      show (if c a = c b then c a else c a) = (if c b = c b then c a else c b)
      rw [if_neg i4, if_pos rfl]
    · have e0 : K a b + (if a = i ∧ b = j then 1 else 0) = K a b := by rw [if_neg q]; omega
      show K a b + (if a = i ∧ b = j then 1 else 0) = 0 ∨ _
      rcases k1 a b with z | ⟨z1, z2, z3, z4, z5, z6⟩
      · exact Or.inl (e0.trans z)
      · exact Or.inr ⟨e0.trans z1, z2, z3, z4, z5, cs a b z6⟩
  · rw [S2_upd hi i3, k2]
    omega
  · have hv := k3 v v1 v2
    have hiv := k3 i i1 hi
    show 1 ≤ (if c v = c j then c i else c v) ∧ (if c v = c j then c i else c v) < nn ∧ (if c (if c v = c j then c i else c v) = c j then c i else c (if c v = c j then c i else c v)) = (if c v = c j then c i else c v)
    by_cases q : c v = c j
    · rw [if_pos q, hiv.2.2, if_neg i4]
      exact ⟨hiv.1, hiv.2.1, rfl⟩
    · rw [if_neg q, hv.2.2, if_neg q]
      exact ⟨hv.1, hv.2.1, rfl⟩
  · have hjv := k3 j (by omega) i3
    have hiv := k3 i i1 hi
    rw [S1_congr (g := fun v => (if 1 ≤ v ∧ c v = v then (1 : Int) else 0) + (if v = c j then -1 else 0)), S1_upd hjv.2.1, k4]
    · omega
    · intro v hv
      show (if 1 ≤ v ∧ (if c v = c j then c i else c v) = v then (1 : Int) else 0) = _
      by_cases q0 : 1 ≤ v
      · by_cases q : v = c j
        · subst q
          rw [hjv.2.2, if_pos rfl, if_neg (fun z => i4 ?_), if_pos ⟨q0, rfl⟩, if_pos rfl]
          · rfl
          · have := z.2
            rw [← this, hiv.2.2] at hjv
            rw [← this]
        · rw [if_neg q]
          by_cases q2 : c v = c j
          · rw [if_pos q2, if_neg (fun z => ?_), if_neg (fun z => q (z.2.symm.trans q2))]
            · rfl
            · have e1 := z.2
              rw [← e1, hiv.2.2] at q2
              exact i4 q2
          · rw [if_neg q2]
            omega
      · rw [if_neg (fun z => q0 z.1), if_neg (fun z => q0 z.1), if_neg (fun z => ?_)]
        · rfl
        · rw [z] at q0
          exact q0 hjv.1
  · by_cases q : c x = c y
    · obtain ⟨a, b, h1, h2⟩ := k5 x y x1 x2 y1 y2 q S hS
      exact ⟨a, b, Kle a b h1, h2⟩
    · rcases cross2 x y x1 x2 y1 y2 e q S hS with z | ⟨a, b, h1, h2⟩
      · exact ⟨i, j, Knew, z⟩
      · exact ⟨a, b, Kle a b h1, h2⟩
  · have hold : Cd nn w c e f := ⟨hef.1, hef.2.1, hef.2.2.1, fun z => hef.2.2.2.1 (cs e f z), hef.2.2.2.2⟩
    by_cases z : a = i ∧ b = j
    · obtain ⟨rfl, rfl⟩ := z
      refine Le_lt (hl e f hold) ?_
      rintro ⟨rfl, rfl⟩
      apply hef.2.2.2.1
      show (if c a = c b then c a else c a) = (if c b = c b then c a else c b)
      rw [if_neg i4, if_pos rfl]
    · refine k6 a b ?_ e f hold
      have q : K a b + (if a = i ∧ b = j then 1 else 0) = 1 := q
      rw [if_neg z] at q
      omega
  · have e6 : K e f + (if e = i ∧ f = j then 1 else 0) = 0 := e6
    have hne : ¬ (i = e ∧ j = f) := by
      rintro ⟨rfl, rfl⟩
      rw [Knew] at e6
      exact absurd e6 (by decide)
    have K0 : K e f = 0 := by
      rw [if_neg (fun z => hne ⟨z.1.symm, z.2.symm⟩)] at e6
      omega
    by_cases q : c e = c f
    · obtain ⟨a, b, h1, h2, h3⟩ := k7 e f e1 e2 e3 e4 q K0 S hS
      exact ⟨a, b, Kle a b h1, h2, h3⟩
    · have hcd : Cd nn w c e f := ⟨e1, e2, e3, q, e4⟩
      rcases cross2 e f e1 (by omega) (by omega) e3 e5 q S hS with z | ⟨a, b, h1, h2⟩
      · exact ⟨i, j, Knew, Le_lt (hl e f hcd) hne, z⟩
      · exact ⟨a, b, Kle a b h1, k6 a b h1 e f hcd, h2⟩
/-- the tree is whole: what it is -/
def KF (nn : Nat) (w : Nat → Nat → Int) (u : Nat → Int) (K : Nat → Nat → Int) : Prop :=
  (∀ a b, K a b = 0 ∨ (K a b = 1 ∧ 1 ≤ a ∧ a < b ∧ b < nn ∧ st w a b ≠ -1)) ∧ S2 nn K = (nn : Int) - 2 ∧
  (∀ x y, 1 ≤ x → x < nn → 1 ≤ y → y < nn → ∀ S : Nat → Bool, S x ≠ S y → ∃ a b, K a b = 1 ∧ S a ≠ S b) ∧
  (∀ e f, 1 ≤ e → e < f → f < nn → st w e f ≠ -1 → K e f = 0 → ∀ S : Nat → Bool, S e ≠ S f → ∃ a b, K a b = 1 ∧ Lt (pr w u) a b e f ∧ S a ≠ S b)
/-- there is none: some places are parted from place 1 -/
def KN (nn : Nat) (w : Nat → Nat → Int) : Prop := ∃ S : Nat → Bool, (∃ v, 1 ≤ v ∧ v < nn ∧ S v ≠ S 1) ∧ ∀ a b, 1 ≤ a → a < b → b < nn → st w a b ≠ -1 → S a = S b
theorem KI_one {nn : Nat} {w : Nat → Nat → Int} {u : Nat → Int} {t : Nat} {K : Nat → Nat → Int} {c : Nat → Nat} (hn : 3 ≤ nn) (h : KI nn w u t K c) (ht : (t : Int) = (nn : Int) - 2) : ∀ v, 1 ≤ v → v < nn → c v = c 1 := by
  obtain ⟨k1, k2, k3, k4, k5, k6, k7⟩ := h
  intro v v1 v2
  have h1 := k3 1 (Nat.le_refl 1) (by omega)
  have hv := k3 v v1 v2
  rw [ht] at k4
  by_cases e : c v = c 1
  · exact e
  · exfalso
    -- two labels: the sum is at least 2
    have e2 : S1 nn (fun x => (if 1 ≤ x ∧ c x = x then (1 : Int) else 0) - (if x = c v then 1 else 0) - (if x = c 1 then 1 else 0)) = -1 := by
      rw [S1_sub, S1_sub, k4, S1_one, S1_one, if_pos hv.2.1, if_pos h1.2.1]
      omega
    have e3 : 0 ≤ S1 nn (fun x => (if 1 ≤ x ∧ c x = x then (1 : Int) else 0) - (if x = c v then 1 else 0) - (if x = c 1 then 1 else 0)) := by
      refine S1_nonneg (fun x hx => ?_)
      by_cases q1 : x = c v
      · subst q1
        rw [if_pos ⟨hv.1, hv.2.2⟩, if_pos rfl, if_neg e]
        decide
      · by_cases q2 : x = c 1
        · subst q2
          rw [if_pos ⟨h1.1, h1.2.2⟩, if_pos rfl, if_neg q1]
          decide
        · rw [if_neg q1, if_neg q2]
          split <;> decide
    omega
theorem KI_end {nn : Nat} {w : Nat → Nat → Int} {u : Nat → Int} {t : Nat} {K : Nat → Nat → Int} {c : Nat → Nat} (hn : 3 ≤ nn) (h : KI nn w u t K c) (ht : (t : Int) = (nn : Int) - 2) : KF nn w u K := by
  have one := KI_one hn h ht
  obtain ⟨k1, k2, k3, k4, k5, k6, k7⟩ := h
  refine ⟨fun a b => ?_, by rw [k2, ht], fun x y x1 x2 y1 y2 S hS => ?_, fun e f e1 e2 e3 e4 e5 S hS => ?_⟩
  · rcases k1 a b with q | ⟨q1, q2, q3, q4, q5, -⟩
    · exact Or.inl q
    · exact Or.inr ⟨q1, q2, q3, q4, q5⟩
  · exact k5 x y x1 x2 y1 y2 ((one x x1 x2).trans (one y y1 y2).symm) S hS
  · exact k7 e f e1 e2 e3 e4 ((one e e1 (by omega)).trans (one f (by omega) e3).symm) e5 S hS
theorem KI_none {nn : Nat} {w : Nat → Nat → Int} {u : Nat → Int} {t : Nat} {K : Nat → Nat → Int} {c : Nat → Nat} (hn : 3 ≤ nn) (h : KI nn w u t K c) (ht : (t : Int) < (nn : Int) - 2) (hno : ∀ a b, ¬ Cd nn w c a b) : KN nn w := by
  obtain ⟨k1, k2, k3, k4, k5, k6, k7⟩ := h
  have h1 := k3 1 (Nat.le_refl 1) (by omega)
  refine ⟨fun v => decide (c v = c 1), ?_, fun a b a1 a2 a3 a4 => ?_⟩
  · -- were all in the piece of 1, there would be one label
    apply Classical.byContradiction
    intro hall
    have all : ∀ v, 1 ≤ v → v < nn → c v = c 1 := by
      intro v v1 v2
      apply Classical.byContradiction
      intro q
      exact hall ⟨v, v1, v2, by simp [q]⟩
    have : S1 nn (fun v => if 1 ≤ v ∧ c v = v then (1 : Int) else 0) ≤ S1 nn (fun v => if v = c 1 then (1 : Int) else 0) := by
      refine S1_le (fun v hv => ?_)
      by_cases q : 1 ≤ v ∧ c v = v
      · rw [if_pos q, if_pos (q.2.symm.trans (all v q.1 hv))]
        exact Int.le_refl 1
      · rw [if_neg q]
        split <;> decide
    rw [k4, S1_one, if_pos h1.2.1] at this
    omega
  · have e : c a = c b := by
      apply Classical.byContradiction
      intro q
      exact hno a b ⟨a1, a2, a3, q, a4⟩
    show decide (c a = c 1) = decide (c b = c 1)
    rw [e]
