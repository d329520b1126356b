/-! ===== the reference's linked tree ===== -/
def Wr (nn : Nat) (u : Nat → Int) (b55 : Nat → Int64) : Prop := ∀ v, v < nn → (b55 v).toInt = u v ∧ -100000 ≤ u v ∧ u v ≤ 100000
theorem Wr_pr {nn : Nat} {w : Nat → Nat → Int} {u : Nat → Int} {b55 : Nat → Int64} (hw : WW nn w) (hu : Wr nn u b55) {a b : Nat} (ha : a < nn) (hb : b < nn) : -200002 ≤ pr w u a b ∧ pr w u a b ≤ 2200000 := by
  have h1 := st_rng hw ha hb
  have h2 := hu a ha
  have h3 := hu b hb
  unfold pr
  omega
theorem far_toInt : (1000000000000 : Int64).toInt = 1000000000000 := by decide
theorem r_price {nn : Nat} {w : Nat → Nat → Int} {u : Nat → Int} {b54 b55 : Nat → Int64} (hw : WW nn w) (hR : Rw nn w b54) (hu : Wr nn u b55) {a b : Nat} (ha : a < nn) (hb : b < nn) (hs : st w a b ≠ -1) : ∃ v, f_X7_price b54 b55 (nI a) (nI b) = some v ∧ v.toInt = pr w u a b := by
  have h12 := hw.2.1
  obtain ⟨v, e, hv⟩ := r_length hw hR ha hb
  have h1 := st_rng hw ha hb
  have h2 := hu a ha
  have h3 := hu b hb
  have hf := fr_rng h1.1 h1.2
  have ca : (nI a).toNatClampNeg = a := nI_c (by omega)
  have cb : (nI b).toNatClampNeg = b := nI_c (by omega)
  have hvs : v.toInt = st w a b := by rw [hv, hf.2.2.2.2 hs]
  have hne : ¬ v = 1000000000000 := by
    rw [i64_eq, far_toInt, hvs]
    omega
  refine ⟨_, by unfold f_X7_price; rw [e]; simp only [bd, if_neg hne, ck_N (show a < 12 by omega) (show 12 < 2147483648 by omega), ck_N (show b < 12 by omega) (show 12 < 2147483648 by omega), ca, cb]; rfl, ?_⟩
  have e2 : (2 : Int64).toInt = 2 := by decide
  have m1 : ((2 : Int64) * v).toInt = 2 * st w a b := by
    rw [i64_mul] <;> rw [e2, hvs] <;> omega
  have m2 : ((2 : Int64) * v + b55 a).toInt = 2 * st w a b + u a := by
    rw [i64_add] <;> rw [m1, h2.1] <;> omega
  rw [i64_add] <;> rw [m2, h3.1] <;> (try unfold pr) <;> omega
/-- the order of streets, whichever end is named first -/
def LO (p : Nat → Nat → Int) (a b c d : Nat) : Prop := p a b < p c d ∨ (p a b = p c d ∧ (min a b < min c d ∨ (min a b = min c d ∧ max a b < max c d)))
theorem LO_trans {p : Nat → Nat → Int} {a b c d e f : Nat} (h : LO p a b c d) (h2 : LO p c d e f) : LO p a b e f := by
  unfold LO at *
  omega
theorem bz0 {ρ : Type} {k : Option ρ} : bz (0 : Int32) k = k := if_pos (Or.inl rfl)
theorem bz1 {ρ : Type} {k : Option ρ} : bz (1 : Int32) k = k := if_pos (Or.inr rfl)
theorem r_before {nn : Nat} {w : Nat → Nat → Int} {u : Nat → Int} {b54 b55 : Nat → Int64} (hw : WW nn w) (hR : Rw nn w b54) (hu : Wr nn u b55) {a b c d : Nat} (ha : a < nn) (hb : b < nn) (hc : c < nn) (hd : d < nn) (hab : a ≠ b) (hcd : c ≠ d) (h1 : st w a b ≠ -1) (h2 : st w c d ≠ -1) : ∃ v : Int32, f_X7_isBefore b54 b55 (nI a) (nI b) (nI c) (nI d) = some v ∧ ((v = 1 ∧ LO (pr w u) a b c d) ∨ (v = 0 ∧ ¬ LO (pr w u) a b c d)) := by
  have h12 := hw.2.1
  obtain ⟨v1, e1, hv1⟩ := r_price hw hR hu ha hb h1
  obtain ⟨v2, e2, hv2⟩ := r_price hw hR hu hc hd h2
  have q1 : v1 = v2 ↔ pr w u a b = pr w u c d := by rw [i64_eq, hv1, hv2]
  have q2 : v2 ≤ v1 ↔ pr w u c d ≤ pr w u a b := by rw [i64_le, hv1, hv2]
  have L : ∀ x, x < nn → x < 2147483648 := fun x hx => by omega
  unfold f_X7_isBefore
  rw [e1, e2]
  simp only [bd, q1, q2, nI_lei (L b hb) (L a ha), nI_lei (L d hd) (L c hc), nI_lei (L c hc) (L a ha), nI_lei (L d hd) (L a ha), nI_lei (L c hc) (L b hb), nI_lei (L d hd) (L b hb), nI_eqi (L b hb) (L d hd), nI_eqi (L b hb) (L c hc), nI_eqi (L a ha) (L d hd), nI_eqi (L a ha) (L c hc), bz0, bz1]
  unfold LO
  repeat' split
  all_goals first | exact ⟨0, rfl, Or.inr ⟨rfl, by omega⟩⟩ | exact ⟨1, rfl, Or.inl ⟨rfl, by omega⟩⟩
theorem r_take {nn : Nat} {w : Nat → Nat → Int} {u d : Nat → Int} {b54 b55 : Nat → Int64} {a35 : Nat → Int32} (hw : WW nn w) (hR : Rw nn w b54) (hu : Wr nn u b55) (hd : Dg nn d a35) {a b : Nat} (ha : a < nn) (hb : b < nn) (hab : a ≠ b) (hs : st w a b ≠ -1) {j1 : Int64} (hj : -1000000000000000 ≤ j1.toInt ∧ j1.toInt ≤ 1000000000000000) (hda : d a < 1000) (hdb : d b < 1000) : ∃ j2 a35', f_X7_take b54 b55 j1 a35 (nI a) (nI b) = some (j2, a35') ∧ j2.toInt = j1.toInt + pr w u a b ∧ Dg nn (dup d a b) a35' := by
  have h12 := hw.2.1
  have ca : (nI a).toNatClampNeg = a := nI_c (by omega)
  have cb : (nI b).toNatClampNeg = b := nI_c (by omega)
  obtain ⟨v, hv, hvi⟩ := r_price hw hR hu ha hb hs
  have hp := Wr_pr hw hu ha hb
  refine ⟨j1 + v, upd (upd a35 a (a35 a + 1)) b (upd a35 a (a35 a + 1) b + 1), ?_, ?_, ?_⟩
  · unfold f_X7_take nmd
    rw [hv]
    simp only [bd, ck_N (show a < 12 by omega) (show 12 < 2147483648 by omega), ck_N (show b < 12 by omega) (show 12 < 2147483648 by omega), ca, cb]
  · rw [i64_add] <;> rw [hvi] <;> omega
  · intro x hx
    have e1 : (1 : Int32).toInt = 1 := by decide
    have ea := hd a ha
    have eb := hd b hb
    have ex := hd x hx
    have eba : upd a35 a (a35 a + 1) b = a35 b := pk_un (fun q => hab q.symm)
    rw [eba]
    unfold dup
    by_cases c1 : x = b
    · subst c1
      rw [pk_us, if_neg (fun q => hab q.symm), if_pos rfl, i32_add] <;> rw [e1, eb.1] <;> omega
    · rw [pk_un c1, if_neg c1]
      by_cases c2 : x = a
      · subst c2
        rw [pk_us, if_pos rfl, i32_add] <;> rw [e1, ea.1] <;> omega
      · rw [pk_un c2, if_neg c2]
        refine ⟨by rw [ex.1]; omega, by omega, by omega⟩
/-- the least of what was scanned, none of it before -/
def BR (C : Nat → Nat → Prop) (p : Nat → Nat → Int) (D : Nat → Nat → Prop) (x2 x3 : Int32) : Prop :=
  (x2 = 0 ∧ x3 = 0 ∧ ∀ a b, D a b → ¬ C a b) ∨ ∃ i j, x2 = nI i ∧ x3 = nI j ∧ C i j ∧ ∀ a b, D a b → C a b → ¬ LO p a b i j
theorem BR_skip {C : Nat → Nat → Prop} {p : Nat → Nat → Int} {D D' : Nat → Nat → Prop} {x2 x3 : Int32} {a b : Nat} (h : BR C p D x2 x3) (hD' : ∀ i j, D' i j → D i j ∨ (i = a ∧ j = b)) (hc : ¬ C a b) : BR C p D' x2 x3 := by
  rcases h with ⟨h1, h2, h3⟩ | ⟨i, j, h1, h2, h4, h5⟩
  · refine Or.inl ⟨h1, h2, fun c d hcd hC => ?_⟩
    rcases hD' c d hcd with q | ⟨rfl, rfl⟩
    · exact h3 c d q hC
    · exact hc hC
  · refine Or.inr ⟨i, j, h1, h2, h4, fun c d hcd hC => ?_⟩
    rcases hD' c d hcd with q | ⟨rfl, rfl⟩
    · exact h5 c d q hC
    · exact absurd hC hc
theorem LO_irr {p : Nat → Nat → Int} {a b : Nat} : ¬ LO p a b a b := by
  unfold LO
  omega
theorem BR_first {C : Nat → Nat → Prop} {p : Nat → Nat → Int} {D D' : Nat → Nat → Prop} {a b : Nat} (h : ∀ a b, D a b → ¬ C a b) (hD' : ∀ i j, D' i j → D i j ∨ (i = a ∧ j = b)) (hc : C a b) : BR C p D' (nI a) (nI b) := by
  refine Or.inr ⟨a, b, rfl, rfl, hc, fun c d hcd hC => ?_⟩
  rcases hD' c d hcd with q | ⟨rfl, rfl⟩
  · exact absurd hC (h c d q)
  · exact LO_irr
theorem BR_keep {C : Nat → Nat → Prop} {p : Nat → Nat → Int} {D D' : Nat → Nat → Prop} {i j a b : Nat} (h : C i j ∧ ∀ a b, D a b → C a b → ¬ LO p a b i j) (hD' : ∀ i j, D' i j → D i j ∨ (i = a ∧ j = b)) (hp : ¬ LO p a b i j) : BR C p D' (nI i) (nI j) := by
  refine Or.inr ⟨i, j, rfl, rfl, h.1, fun c d hcd hC => ?_⟩
  rcases hD' c d hcd with q | ⟨rfl, rfl⟩
  · exact h.2 c d q hC
  · exact hp
theorem BR_new {C : Nat → Nat → Prop} {p : Nat → Nat → Int} {D D' : Nat → Nat → Prop} {i j a b : Nat} (h : C i j ∧ ∀ a b, D a b → C a b → ¬ LO p a b i j) (hD' : ∀ i j, D' i j → D i j ∨ (i = a ∧ j = b)) (hc : C a b) (hp : LO p a b i j) : BR C p D' (nI a) (nI b) := by
  refine Or.inr ⟨a, b, rfl, rfl, hc, fun c d hcd hC => ?_⟩
  rcases hD' c d hcd with q | ⟨rfl, rfl⟩
  · exact fun z => h.2 c d q hC (LO_trans z hp)
  · exact LO_irr
/-- after t steps: P says which streets were taken, i which places are in -/
def PI (nn : Nat) (w : Nat → Nat → Int) (u : Nat → Int) (t : Nat) (P : Nat → Nat → Int) (i : Nat → Bool) : Prop :=
  (∀ a b, P a b = 0 ∨ (P a b = 1 ∧ 1 ≤ a ∧ a < b ∧ b < nn ∧ i a = true ∧ i b = true)) ∧
  S2 nn P = t ∧ S1 nn (fun v => if i v = true then 1 else 0) = (t : Int) + 1 ∧ i 1 = true ∧ i 0 = false ∧
  (∀ S : Nat → Bool, (∀ a b, 1 ≤ a → a < b → b < nn → st w a b ≠ -1 → S a = S b) → ∀ v, v < nn → i v = true → S v = S 1) ∧
  (∀ K, KF nn w u K → ∀ a b, P a b = 1 → K a b = 1)
/-- streets that leave what is in -/
def Cr (nn : Nat) (w : Nat → Nat → Int) (i : Nat → Bool) (a b : Nat) : Prop := 1 ≤ a ∧ a < nn ∧ 1 ≤ b ∧ b < nn ∧ i a = true ∧ i b = false ∧ st w a b ≠ -1
theorem PI_0 {nn : Nat} (w : Nat → Nat → Int) (u : Nat → Int) (hn : 3 ≤ nn) : PI nn w u 0 (fun _ _ => 0) (fun v => decide (v = 1)) := by
  refine ⟨fun a b => Or.inl rfl, S2_zero nn, ?_, rfl, rfl, fun S hS v hv h => ?_, fun K hK a b h => ?_⟩
  · rw [S1_congr (g := fun v => if v = 1 then 1 else 0) (fun v _ => by simp), S1_one, if_pos (by omega)]
    rfl
  · have : v = 1 := by simpa using h
    rw [this]
  · exact absurd (show (0 : Int) = 1 from h) (by decide)
theorem PI_step {nn : Nat} {w : Nat → Nat → Int} {u : Nat → Int} {t : Nat} {P : Nat → Nat → Int} {i : Nat → Bool} (h : PI nn w u t P i) {a b : Nat} (hab : Cr nn w i a b) (hl : ∀ c d, Cr nn w i c d → ¬ LO (pr w u) c d a b) : PI nn w u (t + 1) (fun x y => P x y + if x = min a b ∧ y = max a b then 1 else 0) (fun v => if v = b then true else i v) := by
  obtain ⟨p1, p2, p3, p4, p5, p6, p7⟩ := h
  obtain ⟨a1, a2, b1, b2, ia, ib, hs⟩ := id hab
  have hne : a ≠ b := by
    intro e
    rw [e, ib] at ia
    exact absurd ia (by decide)
  have mlt : min a b < max a b := by omega
  have pm : ∀ x y, pr w u (min x y) (max x y) = pr w u x y := by
    intro x y
    by_cases q : x ≤ y
    · rw [Nat.min_eq_left q, Nat.max_eq_right q]
    · rw [Nat.min_eq_right (by omega), Nat.max_eq_left (by omega), pr_symm]
  have sm : st w (min a b) (max a b) = st w a b := by
    by_cases q : a ≤ b
    · rw [Nat.min_eq_left q, Nat.max_eq_right q]
    · rw [Nat.min_eq_right (by omega), Nat.max_eq_left (by omega), st_symm]
  have P0 : P (min a b) (max a b) = 0 := by
    rcases p1 (min a b) (max a b) with q | ⟨-, -, -, -, q1, q2⟩
    · exact q
    · exfalso
      by_cases z : a ≤ b
      · rw [Nat.max_eq_right z, ib] at q2
        exact absurd q2 (by decide)
      · rw [Nat.min_eq_right (by omega), ib] at q1
        exact absurd q1 (by decide)
  have inL : ∀ v, i v = true → (if v = b then true else i v) = true := by
    intro v hv
    split
    · rfl
    · exact hv
  refine ⟨fun x y => ?_, ?_, ?_, inL 1 p4, ?_, fun S hS v hv hin => ?_, fun K hK x y hxy => ?_⟩
  · show P x y + (if x = min a b ∧ y = max a b then 1 else 0) = 0 ∨ _
    by_cases q : x = min a b ∧ y = max a b
    · obtain ⟨rfl, rfl⟩ := q
      refine Or.inr ⟨by dsimp only; rw [P0, if_pos ⟨rfl, rfl⟩]; rfl, by omega, mlt, by omega, ?_, ?_⟩
      · by_cases z : a ≤ b
        · rw [Nat.min_eq_left z]; exact inL a ia
        · rw [Nat.min_eq_right (by omega)]; exact if_pos rfl
      · by_cases z : a ≤ b
        · rw [Nat.max_eq_right z]; exact if_pos rfl
        · rw [Nat.max_eq_left (by omega)]; exact inL a ia
    · have e0 : P x y + (if x = min a b ∧ y = max a b then 1 else 0) = P x y := by rw [if_neg q, Int.add_zero]
      rcases p1 x y with z | ⟨z1, z2, z3, z4, z5, z6⟩
      · exact Or.inl (e0.trans z)
      · exact Or.inr ⟨e0.trans z1, z2, z3, z4, inL x z5, inL y z6⟩
  · rw [S2_upd (by omega) (by omega), p2]
    omega
  · rw [S1_congr (g := fun v => (if i v = true then 1 else 0) + if v = b then 1 else 0), S1_upd b2, p3]
    · omega
    · intro v _
      by_cases q : v = b
      · subst q
        simp [ib]
      · simp [q]
  · show (if 0 = b then true else i 0) = false
    rw [if_neg (by omega), p5]
  · by_cases q : v = b
    · subst q
      have e1 := p6 S hS a a2 ia
      have e2 : S a = S v := by
        by_cases z : a < v
        · exact hS a v a1 z hv hs
        · exact (hS v a b1 (by omega) a2 (by rw [st_symm]; exact hs)).symm
      rw [← e2, e1]
    · have hin : (if v = b then true else i v) = true := hin
      rw [if_neg q] at hin
      exact p6 S hS v hv hin
  · by_cases q : x = min a b ∧ y = max a b
    · obtain ⟨rfl, rfl⟩ := q
      rcases hK.1 (min a b) (max a b) with z | z
      · exfalso
        have cr : i (min a b) ≠ i (max a b) := by
          by_cases y : a ≤ b
          · rw [Nat.min_eq_left y, Nat.max_eq_right y, ia, ib]; decide
          · rw [Nat.min_eq_right (by omega), Nat.max_eq_left (by omega), ia, ib]; decide
        obtain ⟨c, d, k1, k2, k3⟩ := hK.2.2.2 (min a b) (max a b) (by omega) mlt (by omega) (by rw [sm]; exact hs) z i cr
        rcases hK.1 c d with y | ⟨-, y1, y2, y3, y4⟩
        · rw [y] at k1
          exact absurd k1 (by decide)
        · have lo : ∀ {x y}, (x = c ∧ y = d) ∨ (x = d ∧ y = c) → LO (pr w u) x y a b := by
            intro x y hxy
            have e1 : pr w u x y = pr w u c d := by
              rcases hxy with ⟨rfl, rfl⟩ | ⟨rfl, rfl⟩
              · rfl
              · exact pr_symm w u _ _
            have e2 : min x y = c := by omega
            have e3 : max x y = d := by omega
            unfold Lt at k2
            rw [pm] at k2
            unfold LO
            rw [e1, e2, e3]
            exact k2
          cases hc : i c with
          | true =>
            have hd : i d = false := by
              cases hd : i d with
              | true => rw [hc, hd] at k3; exact absurd rfl k3
              | false => rfl
            exact hl c d ⟨y1, by omega, by omega, y3, hc, hd, y4⟩ (lo (Or.inl ⟨rfl, rfl⟩))
          | false =>
            have hd : i d = true := by
              cases hd : i d with
              | true => rfl
              | false => rw [hc, hd] at k3; exact absurd rfl k3
            exact hl d c ⟨by omega, y3, y1, by omega, hd, hc, by rw [st_symm]; exact y4⟩ (lo (Or.inr ⟨rfl, rfl⟩))
      · exact z.1
    · have hxy : P x y + (if x = min a b ∧ y = max a b then 1 else 0) = 1 := hxy
      rw [if_neg q, Int.add_zero] at hxy
      exact p7 K hK x y hxy
theorem PI_some {nn : Nat} {w : Nat → Nat → Int} {u : Nat → Int} {t : Nat} {P : Nat → Nat → Int} {i : Nat → Bool} (hn : 3 ≤ nn) (h : PI nn w u t P i) (ht : (t : Int) < (nn : Int) - 2) : ∃ v, 1 ≤ v ∧ v < nn ∧ i v = false := by
  obtain ⟨p1, p2, p3, p4, p5, p6, p7⟩ := h
  apply Classical.byContradiction
  intro hno
  have all : ∀ v, 1 ≤ v → v < nn → i v = true := by
    intro v v1 v2
    cases hv : i v with
    | true => rfl
    | false => exact absurd ⟨v, v1, v2, hv⟩ hno
  have : S1 nn (fun v => (1 : Int) - (if v = 0 then 1 else 0)) ≤ S1 nn (fun v => if i v = true then 1 else 0) := by
    refine S1_le (fun v hv => ?_)
    by_cases q : v = 0
    · subst q
      rw [if_pos rfl, p5]
      decide
    · rw [if_neg q, all v (by omega) hv]
      decide
  have one : ∀ n : Nat, S1 n (fun _ => (1 : Int)) = n := by
    intro n
    induction n with
    | zero => rfl
    | succ n ih =>
      show S1 n (fun _ => (1 : Int)) + 1 = _
      rw [ih, Int.natCast_add]; rfl
  rw [S1_sub, S1_one, if_pos (by omega), one, p3] at this
  omega
theorem PI_none {nn : Nat} {w : Nat → Nat → Int} {u : Nat → Int} {t : Nat} {P : Nat → Nat → Int} {i : Nat → Bool} (hn : 3 ≤ nn) (h : PI nn w u t P i) (ht : (t : Int) < (nn : Int) - 2) (hno : ∀ a b, ¬ Cr nn w i a b) : ∀ K, ¬ KF nn w u K := by
  intro K hK
  obtain ⟨v, v1, v2, v3⟩ := PI_some hn h ht
  obtain ⟨p1, p2, p3, p4, p5, p6, p7⟩ := h
  obtain ⟨a, b, k1, k2⟩ := hK.2.2.1 1 v (Nat.le_refl 1) (by omega) v1 v2 i (by rw [p4, v3]; decide)
  rcases hK.1 a b with y | ⟨-, y1, y2, y3, y4⟩
  · rw [y] at k1
    exact absurd k1 (by decide)
  · cases ha : i a with
    | true =>
      cases hb : i b with
      | true => rw [ha, hb] at k2; exact k2 rfl
      | false => exact hno a b ⟨y1, by omega, by omega, y3, ha, hb, y4⟩
    | false =>
      cases hb : i b with
      | true => exact hno b a ⟨by omega, y3, y1, by omega, hb, ha, by rw [st_symm]; exact y4⟩
      | false => rw [ha, hb] at k2; exact k2 rfl
theorem PI_all {nn : Nat} {w : Nat → Nat → Int} {u : Nat → Int} {t : Nat} {P : Nat → Nat → Int} {i : Nat → Bool} (hn : 3 ≤ nn) (h : PI nn w u t P i) (ht : (t : Int) = (nn : Int) - 2) : ¬ KN nn w := by
  obtain ⟨p1, p2, p3, p4, p5, p6, p7⟩ := h
  rintro ⟨S, ⟨v, v1, v2, v3⟩, hS⟩
  -- all are in
  have one : ∀ n : Nat, S1 n (fun _ => (1 : Int)) = n := by
    intro n
    induction n with
    | zero => rfl
    | succ n ih =>
      show S1 n (fun _ => (1 : Int)) + 1 = _
      rw [ih, Int.natCast_add]; rfl
  have z : S1 nn (fun v => ((1 : Int) - (if v = 0 then 1 else 0)) - (if i v = true then 1 else 0)) = 0 := by
    rw [S1_sub, S1_sub, S1_one, if_pos (by omega), one, p3]
    omega
  have nz := S1_null (f := fun v => ((1 : Int) - (if v = 0 then 1 else 0)) - (if i v = true then 1 else 0)) (fun x hx => by
    by_cases q : x = 0
    · subst q
      show (0 : Int) ≤ (1 - (if 0 = 0 then 1 else 0)) - (if i 0 = true then 1 else 0)
      rw [p5]
      decide
    · show (0 : Int) ≤ (1 - (if x = 0 then 1 else 0)) - (if i x = true then 1 else 0)
      rw [if_neg q]
      split <;> decide) z v v2
  have hv : i v = true := by
    cases hv : i v with
    | true => rfl
    | false =>
      have nz : (1 - (if v = 0 then 1 else 0)) - (if i v = true then 1 else 0) = (0 : Int) := nz
      rw [if_neg (by omega), hv] at nz
      exact absurd nz (by decide)
  exact v3 (p6 S hS v v2 hv)
