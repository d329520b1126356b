/-! ===== the least cut: filling a chain ===== -/
/-- the chain back from t -/
def pt (bf : Nat → Nat) (t : Nat) : Nat → Nat
  | 0 => t
  | i + 1 => bf (pt bf t i)
theorem pt_ok {nn : Nat} {r : Nat → Nat → Int} {f : Nat} {bf lv : Nat → Nat} {a27 : Nat → Int32} (h : BE nn r f bf lv a27) {t : Nat} (ht : t < nn) (hF : a27 t ≠ -1) : ∀ i, i ≤ lv t → pt bf t i < nn ∧ a27 (pt bf t i) ≠ -1 ∧ lv (pt bf t i) + i = lv t := by
  intro i
  induction i with
  | zero => intro _; exact ⟨ht, hF, rfl⟩
  | succ i ih =>
    intro hi
    obtain ⟨h1, h2, h3⟩ := ih (by omega)
    have hne : pt bf t i ≠ f := fun e => by
      rw [e, h.2.1] at h3
      omega
    have z := h.2.2.2.1 _ h1 h2 hne
    have y := h.2.2.1 _ h1 h2
    exact ⟨y.2.1, z.1, (show lv (bf (pt bf t i)) + (i + 1) = lv t by omega)⟩
theorem pt_last {nn : Nat} {r : Nat → Nat → Int} {f : Nat} {bf lv : Nat → Nat} {a27 : Nat → Int32} (h : BE nn r f bf lv a27) {t : Nat} (ht : t < nn) (hF : a27 t ≠ -1) {i : Nat} (hi : i ≤ lv t) : pt bf t i = f ↔ i = lv t := by
  obtain ⟨h1, h2, h3⟩ := pt_ok h ht hF i hi
  constructor
  · intro e
    rw [e, h.2.1] at h3
    omega
  · intro e
    refine Classical.byContradiction (fun hne => ?_)
    have z := h.2.2.2.1 _ h1 h2 hne
    omega
theorem pt_step {nn : Nat} {r : Nat → Nat → Int} {f : Nat} {bf lv : Nat → Nat} {a27 : Nat → Int32} (h : BE nn r f bf lv a27) {t : Nat} (ht : t < nn) (hF : a27 t ≠ -1) {i : Nat} (hi : i < lv t) : 0 < r (pt bf t (i + 1)) (pt bf t i) ∧ a27 (pt bf t i) = nI (pt bf t (i + 1)) := by
  obtain ⟨h1, h2, h3⟩ := pt_ok h ht hF i (by omega)
  have hne : pt bf t i ≠ f := fun e => by
    have := (pt_last h ht hF (show i ≤ lv t by omega)).mp e
    omega
  exact ⟨(h.2.2.2.1 _ h1 h2 hne).2.2, (h.2.2.1 _ h1 h2).1⟩
/-- what k steps of the chain p, filled with d, make of the room -/
def fl (p : Nat → Nat) (d : Int) (k a b : Nat) : Int := S1 k (fun i => if p (i + 1) = a ∧ p i = b then d else 0)
def rf (r : Nat → Nat → Int) (p : Nat → Nat) (d : Int) (k : Nat) : Nat → Nat → Int := fun a b => r a b - fl p d k a b + fl p d k b a
theorem fl_uniq {p lv : Nat → Nat} {d : Int} {k D a b : Nat} (h : ∀ i, i < k → lv (p i) + i = D) : fl p d k a b = 0 ∨ (fl p d k a b = d ∧ ∃ i, i < k ∧ p (i + 1) = a ∧ p i = b) := by
  induction k with
  | zero => exact Or.inl rfl
  | succ k ih =>
    have e : fl p d (k + 1) a b = fl p d k a b + (if p (k + 1) = a ∧ p k = b then d else 0) := rfl
    rcases ih (fun i hi => h i (by omega)) with h1 | ⟨h1, i, h2, h3, h4⟩
    · by_cases c : p (k + 1) = a ∧ p k = b
      · rw [if_pos c] at e
        exact Or.inr ⟨by omega, k, by omega, c.1, c.2⟩
      · rw [if_neg c] at e
        exact Or.inl (by omega)
    · have c : ¬ (p (k + 1) = a ∧ p k = b) := fun c => by
        have z1 := h i (by omega)
        have z2 := h k (by omega)
        rw [h4] at z1
        rw [c.2] at z2
        omega
      rw [if_neg c] at e
      exact Or.inr ⟨by omega, i, by omega, h3, h4⟩
theorem fl_at {p lv : Nat → Nat} {d : Int} {k D a b : Nat} (h : ∀ i, i < k → lv (p i) + i = D) {i : Nat} (hi : i < k) (h1 : p (i + 1) = a) (h2 : p i = b) : fl p d k a b = d := by
  induction k with
  | zero => omega
  | succ k ih =>
    have e : fl p d (k + 1) a b = fl p d k a b + (if p (k + 1) = a ∧ p k = b then d else 0) := rfl
    by_cases c : i = k
    · subst c
      rw [if_pos ⟨h1, h2⟩] at e
      rcases fl_uniq (p := p) (lv := lv) (d := d) (k := i) (D := D) (a := a) (b := b) (fun j hj => h j (by omega)) with q | ⟨q, j, q2, q3, q4⟩
      · omega
      · have z1 := h i (by omega)
        have z2 := h j (by omega)
        rw [q4] at z2
        rw [h2] at z1
        omega
    · have z := ih (fun j hj => h j (by omega)) (by omega)
      have c2 : ¬ (p (k + 1) = a ∧ p k = b) := fun c2 => by
        have z1 := h i (by omega)
        have z2 := h k (by omega)
        rw [h2] at z1
        rw [c2.2] at z2
        omega
      rw [if_neg c2] at e
      omega
/-- the sum of a row after filling -/
theorem fl_row {p : Nat → Nat} {d : Int} {k nn v : Nat} (hp : ∀ i, i ≤ k → p i < nn) : S1 nn (fun b => fl p d k v b) = S1 k (fun i => if p (i + 1) = v then d else 0) := by
  show S1 nn (fun b => S1 k (fun i => if p (i + 1) = v ∧ p i = b then d else 0)) = _
  rw [S1_swap]
  refine S1_congr (fun i hi => ?_)
  by_cases c : p (i + 1) = v
  · rw [if_pos c, S1_congr (g := fun b => if b = p i then d else 0), S1_one, if_pos (hp i (by omega))]
    intro b _
    by_cases e : b = p i
    · rw [if_pos e, if_pos ⟨c, e.symm⟩]
    · rw [if_neg e, if_neg (fun z => e z.2.symm)]
  · rw [if_neg c, S1_congr (g := fun _ => 0) (fun b _ => if_neg (fun z => c z.1)), S1_zero]
theorem fl_col {p : Nat → Nat} {d : Int} {k nn v : Nat} (hp : ∀ i, i ≤ k → p i < nn) : S1 nn (fun b => fl p d k b v) = S1 k (fun i => if p i = v then d else 0) := by
  show S1 nn (fun b => S1 k (fun i => if p (i + 1) = b ∧ p i = v then d else 0)) = _
  rw [S1_swap]
  refine S1_congr (fun i hi => ?_)
  by_cases c : p i = v
  · rw [if_pos c, S1_congr (g := fun b => if b = p (i + 1) then d else 0), S1_one, if_pos (hp (i + 1) (by omega))]
    intro b _
    by_cases e : b = p (i + 1)
    · rw [if_pos e, if_pos ⟨e.symm, c⟩]
    · rw [if_neg e, if_neg (fun z => e z.1.symm)]
  · rw [if_neg c, S1_congr (g := fun _ => 0) (fun b _ => if_neg (fun z => c z.2)), S1_zero]
theorem tele {f : Nat → Int} : ∀ k, S1 k (fun i => f i) - S1 k (fun i => f (i + 1)) = f 0 - f k := by
  intro k
  induction k with
  | zero => show (0 : Int) - 0 = f 0 - f 0; omega
  | succ k ih =>
    show (S1 k (fun i => f i) + f k) - (S1 k (fun i => f (i + 1)) + f (k + 1)) = f 0 - f (k + 1)
    omega
theorem rf_row {r : Nat → Nat → Int} {p : Nat → Nat} {d : Int} {k nn v : Nat} (hp : ∀ i, i ≤ k → p i < nn) : S1 nn (rf r p d k v) = S1 nn (r v) + (if p 0 = v then d else 0) - (if p k = v then d else 0) := by
  have e : S1 nn (rf r p d k v) = S1 nn (r v) - S1 nn (fun b => fl p d k v b) + S1 nn (fun b => fl p d k b v) := by
    show S1 nn (fun b => r v b - fl p d k v b + fl p d k b v) = _
    rw [S1_add, S1_sub]
  rw [e, fl_row hp, fl_col hp]
  have := tele (f := fun i => if p i = v then d else 0) k
  have this : S1 k (fun i => if p i = v then d else 0) - S1 k (fun i => if p (i + 1) = v then d else 0) = (if p 0 = v then d else 0) - (if p k = v then d else 0) := this
  omega
/-- the chain filled: by d, the least on it -/
def FC (nn : Nat) (r : Nat → Nat → Int) (p : Nat → Nat) (D : Nat) (x : Int32 × (Nat → Nat → Int32)) : Prop :=
  (∃ i, i < D ∧ x.1.toInt = r (p (i + 1)) (p i)) ∧ (∀ i, i < D → x.1.toInt ≤ r (p (i + 1)) (p i)) ∧ Cw nn (rf r p x.1.toInt D) x.2
theorem c_fill {N nn : Nat} {r : Nat → Nat → Int} {g2 : Nat → Nat → Int32} {a27 : Nat → Int32} {f t : Nat} {bf lv : Nat → Nat} (hN : 100 ≤ N) (h12 : nn ≤ 12) (hg : Cw nn r g2) (hr : ∀ a b, a < nn → b < nn → 0 ≤ r a b ∧ r a b ≤ 2000000) (h : BE nn r f bf lv a27) (hf : f < nn) (ht : t < nn) (hft : t ≠ f) (hF : a27 t ≠ -1) : Ok (FC nn r (pt bf t) (lv t)) (f_X1_fillChain N nn (nI nn) a27 g2 (nI f) (nI t)) := by
  have hD := (h.2.2.1 t ht hF).2.2
  have hP := pt_ok h ht hF
  have hL := @pt_last nn r f bf lv a27 h t ht hF
  have hS := @pt_step nn r f bf lv a27 h t ht hF
  have hD0 : lv t ≠ 0 := fun e => hft ((pt_last h ht hF (Nat.zero_le _)).mpr e.symm)
  unfold f_X1_fillChain
  have fill : ∀ (x : Int32), (∃ i, i < lv t ∧ x.toInt = r (pt bf t (i + 1)) (pt bf t i)) → (∀ i, i < lv t → x.toInt ≤ r (pt bf t (i + 1)) (pt bf t i)) → Ok (FC nn r (pt bf t) (lv t)) (lq5 (f_X1_fillChain_68 N nn (nI nn) a27) N (nI f) x (nI t) 0 g2) := by
    intro x hx1 hx2
    have xr : 0 ≤ x.toInt ∧ x.toInt ≤ 2000000 := by
      obtain ⟨i, hi, e⟩ := hx1
      rw [e]
      exact hr _ _ (hP (i + 1) (by omega)).1 (hP i (by omega)).1
    refine lq5_ok (fun m x1 x3 x4 x5 z => ∃ k, nI f = x1 ∧ x = x3 ∧ x4 = nI (pt bf t k) ∧ x5 = nI k ∧ k + m = lv t ∧ Cw nn (rf r (pt bf t) x.toInt k) z) ?_ N (lv t) _ _ _ _ _ ⟨0, rfl, rfl, rfl, zero32, by omega, fun a b ha hb => ?_⟩ (by omega)
    · rintro m nx x1 x3 x4 x5 z ⟨k, rfl, rfl, rfl, rfl, hm, hz⟩ ih
      have hk := hP k (by omega)
      unfold f_X1_fillChain_68
      refine ok_if (fun y => ?_) (fun y => ?_)
      · rw [nI_lei (by omega) (by omega)] at y
        omega
      · refine ok_if (fun y2 => ?_) (fun y2 => ?_)
        · rw [nI_eqi (by omega) (by omega)] at y2
          have e := (hL (show k ≤ lv t by omega)).mp y2
          subst e
          exact ok_some ⟨hx1, hx2, hz⟩
        · rw [nI_eqi (by omega) (by omega)] at y2
          have e : k ≠ lv t := fun e => y2 ((hL (show k ≤ lv t by omega)).mpr e)
          have hk1 := hP (k + 1) (by omega)
          have hs := hS (show k < lv t by omega)
          have ne : pt bf t (k + 1) ≠ pt bf t k := fun e => by
            have a := hk.2.2
            have b := hk1.2.2
            rw [e] at b
            omega
          rw [nI_c (show pt bf t k < 2147483648 by omega), hs.2, nI_c (show pt bf t (k + 1) < 2147483648 by omega), ck_N hk.1 (by omega), ck_N hk1.1 (by omega), ck_N hk.1 (by omega), ck_N hk.1 (by omega)]
          refine ok_nmd ?_
          rw [ck_N hk.1 (by omega), ck_N hk.1 (by omega), ck_N hk1.1 (by omega), ck_N hk1.1 (by omega)]
          refine ok_nmd ?_
          rw [ck_N hk.1 (by omega), nI_s]
          refine ih (m - 1) _ _ _ _ _ (by omega) ⟨k + 1, rfl, rfl, rfl, rfl, by omega, fun a b ha hb => ?_⟩
          have ez := hz a b ha hb
          have e1 : rf r (pt bf t) x.toInt (k + 1) a b = rf r (pt bf t) x.toInt k a b - (if pt bf t (k + 1) = a ∧ pt bf t k = b then x.toInt else 0) + (if pt bf t (k + 1) = b ∧ pt bf t k = a then x.toInt else 0) := by
            have q1 : fl (pt bf t) x.toInt (k + 1) a b = fl (pt bf t) x.toInt k a b + (if pt bf t (k + 1) = a ∧ pt bf t k = b then x.toInt else 0) := rfl
            have q2 : fl (pt bf t) x.toInt (k + 1) b a = fl (pt bf t) x.toInt k b a + (if pt bf t (k + 1) = b ∧ pt bf t k = a then x.toInt else 0) := rfl
            unfold rf
            rw [q1, q2]
            omega
          have fr1 : ∀ a b, a < nn → b < nn → -2000000 ≤ rf r (pt bf t) x.toInt k a b ∧ rf r (pt bf t) x.toInt k a b ≤ 4000000 := fun a b ha hb => by
            have q1 := hr a b ha hb
            have hu : ∀ i, i < k → lv (pt bf t i) + i = lv t := fun i hi => (hP i (by omega)).2.2
            have q2 := fl_uniq (d := x.toInt) (a := a) (b := b) hu
            have q3 := fl_uniq (d := x.toInt) (a := b) (b := a) hu
            show -2000000 ≤ r a b - fl (pt bf t) x.toInt k a b + fl (pt bf t) x.toInt k b a ∧ r a b - fl (pt bf t) x.toInt k a b + fl (pt bf t) x.toInt k b a ≤ 4000000
            rcases q2 with q2 | ⟨q2, -⟩ <;> rcases q3 with q3 | ⟨q3, -⟩ <;> omega
          rw [e1, g_up, g_up, g_up]
          by_cases c1 : a = pt bf t k ∧ b = pt bf t (k + 1)
          · rw [if_pos c1, if_neg (fun z => ne z.2), if_neg (show ¬ (pt bf t (k + 1) = a ∧ pt bf t k = b) from fun z => ne (z.1.trans c1.1)), if_pos ⟨c1.2.symm, c1.1.symm⟩]
            rw [← c1.1, ← c1.2]
            have := fr1 a b ha hb
            rw [i32_add] <;> rw [ez] <;> omega
          · rw [if_neg c1, if_neg (show ¬ (pt bf t (k + 1) = b ∧ pt bf t k = a) from fun z => c1 ⟨z.2.symm, z.1.symm⟩)]
            by_cases c2 : a = pt bf t (k + 1) ∧ b = pt bf t k
            · rw [if_pos c2, if_pos ⟨c2.1.symm, c2.2.symm⟩, ← c2.1, ← c2.2]
              have := fr1 a b ha hb
              rw [i32_sub] <;> rw [ez] <;> omega
            · rw [if_neg c2, if_neg (fun z => c2 ⟨z.1.symm, z.2.symm⟩), ez]
              omega
    · rw [hg a b ha hb]
      show r a b = r a b - 0 + 0
      omega
  refine lq6_ok (fun m x1 x2 x3 x4 x5 z => ∃ k, nI f = x1 ∧ nI t = x2 ∧ x4 = nI (pt bf t k) ∧ x5 = nI k ∧ k + m = lv t ∧ g2 = z ∧ ((k = 0 ∧ x3 = 2147483647) ∨ ((∃ i, i < k ∧ x3.toInt = r (pt bf t (i + 1)) (pt bf t i)) ∧ ∀ i, i < k → x3.toInt ≤ r (pt bf t (i + 1)) (pt bf t i)))) ?_ N (lv t) _ _ _ _ _ _ ⟨0, rfl, rfl, rfl, zero32, by omega, rfl, Or.inl ⟨rfl, rfl⟩⟩ (by omega)
  rintro m nx x1 x2 x3 x4 x5 z ⟨k, rfl, rfl, rfl, rfl, hm, rfl, hz⟩ ih
  have hk := hP k (by omega)
  unfold f_X1_fillChain_9
  refine ok_if (fun y => ?_) (fun y => ?_)
  · rw [nI_lei (by omega) (by omega)] at y
    omega
  · refine ok_if (fun y2 => ?_) (fun y2 => ?_)
    · rw [nI_eqi (by omega) (by omega)] at y2
      have e := (hL (show k ≤ lv t by omega)).mp y2
      subst e
      rcases hz with ⟨hz, -⟩ | ⟨h1, h2⟩
      · exact absurd hz hD0
      · exact fill x3 h1 h2
    · rw [nI_eqi (by omega) (by omega)] at y2
      have e : k ≠ lv t := fun e => y2 ((hL (show k ≤ lv t by omega)).mpr e)
      have hk1 := hP (k + 1) (by omega)
      have hs := hS (show k < lv t by omega)
      rw [nI_c (show pt bf t k < 2147483648 by omega), hs.2, nI_c (show pt bf t (k + 1) < 2147483648 by omega), ck_N hk.1 (by omega), ck_N hk1.1 (by omega), ck_N hk.1 (by omega)]
      refine ok_nmd ?_
      rw [ck_N hk.1 (by omega), nI_s]
      refine ih (m - 1) _ _ _ _ _ _ (by omega) ⟨k + 1, rfl, rfl, rfl, rfl, by omega, rfl, Or.inr ?_⟩
      have eg := hg _ _ hk1.1 hk.1
      have rr := hr _ _ hk1.1 hk.1
      by_cases c : g2 (pt bf t (k + 1)) (pt bf t k) < x3
      · rw [if_pos c]
        rw [i32_lt, eg] at c
        refine ⟨⟨k, by omega, eg⟩, fun i hi => ?_⟩
        rw [eg]
        by_cases e2 : i = k
        · subst e2; exact Int.le_refl _
        · rcases hz with ⟨hz, -⟩ | ⟨-, h2⟩
          · omega
          · have := h2 i (by omega)
            omega
      · rw [if_neg c]
        rw [i32_lt, eg] at c
        rcases hz with ⟨hz, e3⟩ | ⟨⟨i, h0, h1⟩, h2⟩
        · rw [e3, show (2147483647 : Int32).toInt = 2147483647 by decide] at c
          omega
        · refine ⟨⟨i, by omega, h1⟩, fun j hj => ?_⟩
          by_cases e2 : j = k
          · subst e2; omega
          · exact h2 j (by omega)
