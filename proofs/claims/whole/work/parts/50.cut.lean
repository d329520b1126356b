/-! ===== the least cut: chains until there is none, and the cut that shows it ===== -/
def cp (w : Nat → Nat → Int) (a b : Nat) : Int := if st w a b < 0 then 0 else st w a b
theorem cp_symm (w : Nat → Nat → Int) (a b : Nat) : cp w a b = cp w b a := by
  unfold cp
  rw [st_symm]
theorem cp_rng {nn : Nat} {w : Nat → Nat → Int} (hw : WW nn w) {a b : Nat} (ha : a < nn) (hb : b < nn) : 0 ≤ cp w a b ∧ cp w a b ≤ 1000000 := by
  have := st_rng hw ha hb
  unfold cp
  split <;> omega
def FI (nn : Nat) (w : Nat → Nat → Int) (f t : Nat) (r : Nat → Nat → Int) (x : Int) : Prop :=
  (∀ a b, a < nn → b < nn → 0 ≤ r a b ∧ r a b + r b a = 2 * cp w a b) ∧ (∀ v, v < nn → v ≠ f → v ≠ t → S1 nn (r v) = S1 nn (cp w v)) ∧ x = S1 nn (cp w f) - S1 nn (r f)
def LV (nn f : Nat) (r : Nat → Nat → Int) (L : Nat → Nat) : Prop := L f = 0 ∧ ∀ a b, a < nn → b < nn → 0 < r a b → L b ≤ L a + 1
def TC (nn : Nat) (r : Nat → Nat → Int) (L : Nat → Nat) : Int := S2 nn (fun a b => if 0 < r a b ∧ L b = L a + 1 then 1 else 0)
theorem TC_rng {nn : Nat} {r : Nat → Nat → Int} {L : Nat → Nat} (h12 : nn ≤ 12) : 0 ≤ TC nn r L ∧ TC nn r L ≤ 144 := by
  unfold TC
  refine ⟨S2_nonneg (fun i j _ _ => by split <;> decide), ?_⟩
  have h1 : ∀ i, i < nn → S1 nn (fun b => if 0 < r i b ∧ L b = L i + 1 then (1 : Int) else 0) ≤ 12 := fun i _ => by
    have := S1_bound (n := nn) (f := fun b => if 0 < r i b ∧ L b = L i + 1 then (1 : Int) else 0) (c := 1) (fun j _ => by show (if 0 < r i j ∧ L j = L i + 1 then (1 : Int) else 0) ≤ 1; split <;> decide)
    omega
  have h2 := S1_bound (n := nn) (f := fun a => S1 nn (fun b => if 0 < r a b ∧ L b = L a + 1 then (1 : Int) else 0)) (c := 12) h1
  exact Int.le_trans h2 (by omega)
theorem fill_step {nn : Nat} {w r : Nat → Nat → Int} {f t : Nat} {x d : Int} {p lv L : Nat → Nat} {D : Nat} (h : FI nn w f t r x) (hL : LV nn f r L) (hf : f < nn) (ht : t < nn) (hft : t ≠ f) (hp : ∀ i, i ≤ D → p i < nn) (h0 : p 0 = t) (hD : p D = f) (hu : ∀ i, i < D → lv (p i) + i = D) (hti : ∀ i, i < D → L (p i) = L (p (i + 1)) + 1) (hd0 : 0 ≤ d) (hd : ∃ i, i < D ∧ 0 < d ∧ d = r (p (i + 1)) (p i)) (hdm : ∀ i, i < D → d ≤ r (p (i + 1)) (p i)) : FI nn w f t (rf r p d D) (x + d) ∧ LV nn f (rf r p d D) L ∧ TC nn (rf r p d D) L + 1 ≤ TC nn r L := by
  obtain ⟨h1, h2, h3⟩ := h
  have hb : ∀ a b, a < nn → b < nn → (0 < rf r p d D a b → 0 < r a b ∨ L a = L b + 1) ∧ (L b = L a + 1 → rf r p d D a b ≤ r a b) ∧ 0 ≤ rf r p d D a b := by
    intro a b ha hb
    have q0 := (h1 a b ha hb).1
    have q1 := fl_uniq (d := d) (a := a) (b := b) hu
    have q2 := fl_uniq (d := d) (a := b) (b := a) hu
    have q3 : ∀ a b, (∃ i, i < D ∧ p (i + 1) = a ∧ p i = b) → L b = L a + 1 ∧ d ≤ r a b := by
      rintro a b ⟨i, hi, e1, e2⟩
      have z1 := hti i hi
      have z2 := hdm i hi
      rw [e1, e2] at z1 z2
      exact ⟨z1, z2⟩
    have e : rf r p d D a b = r a b - fl p d D a b + fl p d D b a := rfl
    rw [e]
    rcases q1 with q1 | ⟨q1, q1'⟩ <;> rcases q2 with q2 | ⟨q2, q2'⟩
    · exact ⟨fun _ => by omega, fun _ => by omega, by omega⟩
    · have z := q3 b a q2'
      exact ⟨fun _ => by omega, fun _ => by omega, by omega⟩
    · have z := q3 a b q1'
      exact ⟨fun _ => by omega, fun _ => by omega, by omega⟩
    · have z := q3 a b q1'
      exact ⟨fun _ => by omega, fun _ => by omega, by omega⟩
  refine ⟨⟨fun a b ha hb' => ⟨(hb a b ha hb').2.2, ?_⟩, fun v hv hvf hvt => ?_, ?_⟩, ⟨hL.1, fun a b ha hb' hr => ?_⟩, ?_⟩
  · have := (h1 a b ha hb').2
    unfold rf
    omega
  · rw [rf_row hp, h0, hD, if_neg (fun e => hvt e.symm), if_neg (fun e => hvf e.symm), h2 v hv hvf hvt]
    omega
  · rw [rf_row hp, h0, hD, if_neg hft, if_pos rfl]
    omega
  · rcases (hb a b ha hb').1 hr with q | q
    · exact hL.2 a b ha hb' q
    · omega
  · obtain ⟨i, hi, hd1, hd2⟩ := hd
    have z1 := hti i hi
    have p1 := hp (i + 1) (by omega)
    have p2 := hp i (by omega)
    have e0 : rf r p d D (p (i + 1)) (p i) = 0 := by
      have a1 : fl p d D (p (i + 1)) (p i) = d := fl_at hu hi rfl rfl
      have a2 : fl p d D (p i) (p (i + 1)) = 0 := by
        rcases fl_uniq (d := d) (a := p i) (b := p (i + 1)) hu with q | ⟨-, j, hj, e1, e2⟩
        · exact q
        · have := hti j hj
          rw [e1, e2] at this
          omega
      unfold rf
      rw [a1, a2]
      omega
    unfold TC
    rw [← S2_upd (c := 1) p1 p2]
    refine S2_le (fun a b ha hb' => ?_)
    show (if 0 < rf r p d D a b ∧ L b = L a + 1 then (1 : Int) else 0) + (if a = p (i + 1) ∧ b = p i then 1 else 0) ≤ (if 0 < r a b ∧ L b = L a + 1 then (1 : Int) else 0)
    by_cases c : a = p (i + 1) ∧ b = p i
    · rw [if_pos c, c.1, c.2, e0, if_neg (fun z => absurd z.1 (by omega)), if_pos ⟨by omega, z1⟩]
      decide
    · rw [if_neg c]
      by_cases c2 : 0 < rf r p d D a b ∧ L b = L a + 1
      · have := (hb a b ha hb').2.1 c2.2
        rw [if_pos c2, if_pos ⟨by omega, c2.2⟩]
        decide
      · rw [if_neg c2]
        split <;> decide
/-- the value, over any cut -/
theorem cut_val {nn : Nat} {w r : Nat → Nat → Int} {f t : Nat} {x : Int} (h : FI nn w f t r x) (hf : f < nn) {X : Nat → Bool} (hXf : X f = true) (hXt : X t = false) : x = S2 nn (fun a b => if X a = true ∧ X b = false then cp w a b - r a b else 0) := by
  obtain ⟨h1, h2, h3⟩ := h
  have e1 : x = S2 nn (fun a b => if X a = true then cp w a b - r a b else 0) := by
    unfold S2
    rw [S1_congr (g := fun a => if a = f then x else 0), S1_one, if_pos hf]
    intro a ha
    by_cases c : a = f
    · subst c
      rw [if_pos rfl, S1_congr (g := fun b => cp w a b - r a b) (fun b _ => if_pos hXf), S1_sub, h3]
    · rw [if_neg c]
      by_cases c2 : X a = true
      · have hat : a ≠ t := fun e => by rw [e, hXt] at c2; exact absurd c2 (by decide)
        rw [S1_congr (g := fun b => cp w a b - r a b) (fun b _ => if_pos c2), S1_sub]
        have := h2 a ha c hat
        omega
      · rw [S1_congr (g := fun _ => 0) (fun b _ => if_neg c2), S1_zero]
  have e2 : S2 nn (fun a b => if X a = true then cp w a b - r a b else 0) = S2 nn (fun a b => if X a = true ∧ X b = false then cp w a b - r a b else 0) + S2 nn (fun a b => if X a = true ∧ X b = true then cp w a b - r a b else 0) := by
    rw [← S2_add]
    refine S2_congr (fun a b _ _ => ?_)
    by_cases c1 : X a = true
    · by_cases c2 : X b = true
      · rw [if_pos c1, if_neg (fun z => by rw [c2] at z; exact absurd z.2 (by decide)), if_pos ⟨c1, c2⟩]; omega
      · have c3 : X b = false := by cases hh : X b with
          | true => exact absurd hh c2
          | false => rfl
        rw [if_pos c1, if_pos ⟨c1, c3⟩, if_neg (fun z => c2 z.2)]; omega
    · rw [if_neg c1, if_neg (fun z => c1 z.1), if_neg (fun z => c1 z.1)]; rfl
  have e3 : S2 nn (fun a b => if X a = true ∧ X b = true then cp w a b - r a b else 0) + S2 nn (fun a b => if X a = true ∧ X b = true then cp w a b - r a b else 0) = 0 := by
    have sw : S2 nn (fun a b => if X a = true ∧ X b = true then cp w a b - r a b else 0) = S2 nn (fun a b => if X b = true ∧ X a = true then cp w b a - r b a else 0) := S2_swap
    have z0 := S2_zero nn
    rw [S2_congr (g := fun i j => (if X i = true ∧ X j = true then cp w i j - r i j else 0) + (if X j = true ∧ X i = true then cp w j i - r j i else 0)), S2_add, ← sw] at z0
    · exact z0
    · intro a b ha hb
      have q1 := (h1 a b ha hb).2
      have q2 := cp_symm w a b
      by_cases c : X a = true ∧ X b = true
      · rw [if_pos c, if_pos ⟨c.2, c.1⟩]; omega
      · rw [if_neg c, if_neg (fun z => c ⟨z.2, z.1⟩)]; rfl
  omega
def CutS (nn : Nat) (w : Nat → Nat → Int) (X : Nat → Bool) : Int := S2 nn (fun a b => if X a = true ∧ X b = false then cp w a b else 0)
/-- the width of the least cut -/
def MC (nn : Nat) (w : Nat → Nat → Int) (f t : Nat) (x : Int) : Prop := (∀ X : Nat → Bool, X f = true → X t = false → x ≤ CutS nn w X) ∧ ∃ X : Nat → Bool, X f = true ∧ X t = false ∧ x = CutS nn w X
theorem MC_uniq {nn : Nat} {w : Nat → Nat → Int} {f t : Nat} {x y : Int} (h1 : MC nn w f t x) (h2 : MC nn w f t y) : x = y := by
  obtain ⟨a, X, a1, a2, a3⟩ := h1
  obtain ⟨b, Y, b1, b2, b3⟩ := h2
  have := a Y b1 b2
  have := b X a1 a2
  omega
theorem FI_MC {nn : Nat} {w r : Nat → Nat → Int} {f t : Nat} {x : Int} {bf lv : Nat → Nat} {a27 : Nat → Int32} (h : FI nn w f t r x) (hf : f < nn) (hB : BE nn r f bf lv a27) (ht : a27 t = -1) : MC nn w f t x := by
  refine ⟨fun X h1 h2 => ?_, fun b => decide (a27 b ≠ -1), decide_eq_true hB.1, decide_eq_false (fun z => z ht), ?_⟩
  · rw [cut_val h hf h1 h2]
    refine S2_le (fun a b ha hb => ?_)
    have := (h.1 a b ha hb).1
    split <;> omega
  · rw [cut_val h hf (X := fun b => decide (a27 b ≠ -1)) (decide_eq_true hB.1) (decide_eq_false (fun z => z ht))]
    refine S2_congr (fun a b ha hb => ?_)
    by_cases c : decide (a27 a ≠ -1) = true ∧ decide (a27 b ≠ -1) = false
    · rw [if_pos c, if_pos c]
      have c1 := of_decide_eq_true c.1
      have c2 := of_decide_eq_false c.2
      have q := (h.1 a b ha hb).1
      have : ¬ 0 < r a b := fun z => c2 (hB.2.2.2.2 a b ha hb c1 z).1
      omega
    · rw [if_neg c, if_neg c]
theorem lv_chain {nn f : Nat} {r : Nat → Nat → Int} {L p : Nat → Nat} {D : Nat} (hL : LV nn f r L) (hp : ∀ i, i ≤ D → p i < nn) (hr : ∀ i, i < D → 0 < r (p (i + 1)) (p i)) : ∀ k i, i + k ≤ D → L (p i) ≤ L (p (i + k)) + k := by
  intro k
  induction k with
  | zero => intro i _; exact Nat.le_refl _
  | succ k ih =>
    intro i hi
    have h1 := ih i (by omega)
    have h2 := hL.2 (p (i + k + 1)) (p (i + k)) (hp _ (by omega)) (hp _ (by omega)) (hr (i + k) (by omega))
    show L (p i) ≤ L (p (i + k + 1)) + (k + 1)
    omega
theorem c_width {N nn : Nat} {w : Nat → Nat → Int} {g1 g2 : Nat → Nat → Int32} {a26 a27 : Nat → Int32} {f t : Nat} (hN : 5000 ≤ N) (hw : WW nn w) (h1 : Cs nn w g1) (hf : f < nn) (ht : t < nn) (hft : t ≠ f) : Ok (fun x => MC nn w f t x.1.toInt) (f_X1_width N nn (nI nn) g1 a26 a27 g2 (nI f) (nI t)) := by
  have h3 := hw.1
  have h12 := hw.2.1
  unfold f_X1_width
  have loop : ∀ (z1 z2 : Nat → Int32) (g : Nat → Nat → Int32), Cw nn (cp w) g → Ok (fun x : Int64 × (Nat → Int32) × (Nat → Int32) × (Nat → Nat → Int32) => MC nn w f t x.1.toInt) (lq7 (f_X1_width_70 N nn (nI nn) g1) N (nI f) (nI t) 0 0 z1 z2 g) := by
    intro z1 z2 g hg
    refine lq7_ok (fun m x1 x2 x3 x5 z1 z2 g => ∃ (c : Nat) (r : Nat → Nat → Int) (L : Nat → Nat), nI f = x1 ∧ nI t = x2 ∧ x5 = nI c ∧ c + m ≤ 3000 ∧ Cw nn r g ∧ FI nn w f t r x3.toInt ∧ LV nn f r L ∧ L t ≤ 12 ∧ (13 - (L t : Int)) * 150 + TC nn r L ≤ m) ?_ N 2200 _ _ _ _ _ _ _ ⟨0, cp w, fun _ => 0, rfl, rfl, zero32, by omega, hg, ⟨fun a b ha hb => ?_, fun v _ _ _ => rfl, ?_⟩, ⟨rfl, fun a b _ _ _ => Nat.zero_le _⟩, Nat.zero_le _, ?_⟩ (by omega)
    · rintro m nx x1 x2 x3 x5 z1 z2 g ⟨c, r, L, rfl, rfl, rfl, hc, hg, hF, hL, hLt, hm⟩ ih
      unfold f_X1_width_70
      rw [show (1000000 : Int32) = nI 1000000 by decide]
      refine ok_if (fun y => ?_) (fun y => ?_)
      · rw [nI_lei (by omega) (by omega)] at y
        omega
      · refine ok_bd (c_chain (by omega) h12 hg hf ht) (fun o ho => ?_)
        obtain ⟨ho1, ho2, bf, lv, hB⟩ := ho
        refine ok_if (fun y2 => ok_some ?_) (fun y2 => ?_)
        · exact FI_MC hF hf hB (ho2.mp y2)
        · have hFt : o.2.2 t ≠ -1 := fun e => y2 (ho2.mpr e)
          have rr : ∀ a b, a < nn → b < nn → 0 ≤ r a b ∧ r a b ≤ 2000000 := fun a b ha hb => by
            have q1 := hF.1 a b ha hb
            have q2 := hF.1 b a hb ha
            have q3 := cp_rng hw ha hb
            omega
          refine ok_bd (c_fill (by omega) h12 hg rr hB hf ht hft hFt) (fun v hv => ?_)
          obtain ⟨⟨i, hi, hvi⟩, hmin, hgv⟩ := hv
          have hP := pt_ok hB ht hFt
          have hS := @pt_step nn r f bf lv o.2.2 hB t ht hFt
          have hlast := (pt_last hB ht hFt (Nat.le_refl (lv t))).mpr rfl
          have hp : ∀ i, i ≤ lv t → pt bf t i < nn := fun i hi => (hP i hi).1
          have hu : ∀ i, i < lv t → lv (pt bf t i) + i = lv t := fun i hi => (hP i (by omega)).2.2
          have hpos : 0 < v.1.toInt := by rw [hvi]; exact (hS hi).1
          have hch := lv_chain hL hp (fun i hi => (hS hi).1)
          have hlvt := (hB.2.2.1 t ht hFt).2.2
          have main : ∃ L' : Nat → Nat, LV nn f r L' ∧ L' t ≤ 12 ∧ (∀ i, i < lv t → L' (pt bf t i) = L' (pt bf t (i + 1)) + 1) ∧ (13 - (L' t : Int)) * 150 + TC nn r L' ≤ m := by
            have top := hch (lv t) 0 (by omega)
            rw [Nat.zero_add, hlast, hL.1] at top
            have top : L t ≤ 0 + lv t := top
            by_cases cs : L t < lv t
            · refine ⟨fun b => if o.2.2 b ≠ -1 then lv b else nn, ⟨?_, fun a b ha hb hr => ?_⟩, ?_, fun i hi => ?_, ?_⟩
              · show (if o.2.2 f ≠ -1 then lv f else nn) = 0
                rw [if_pos hB.1]
                exact hB.2.1
              · show (if o.2.2 b ≠ -1 then lv b else nn) ≤ (if o.2.2 a ≠ -1 then lv a else nn) + 1
                by_cases ca : o.2.2 a ≠ -1
                · have q := hB.2.2.2.2 a b ha hb ca hr
                  rw [if_pos ca, if_pos q.1]
                  exact q.2
                · rw [if_neg ca]
                  by_cases cb : o.2.2 b ≠ -1
                  · rw [if_pos cb]
                    have := (hB.2.2.1 b hb cb).2.2
                    omega
                  · rw [if_neg cb]
                    omega
              · show (if o.2.2 t ≠ -1 then lv t else nn) ≤ 12
                rw [if_pos hFt]
                omega
              · show (if o.2.2 (pt bf t i) ≠ -1 then lv (pt bf t i) else nn) = (if o.2.2 (pt bf t (i + 1)) ≠ -1 then lv (pt bf t (i + 1)) else nn) + 1
                have q1 := hP i (by omega)
                have q2 := hP (i + 1) (by omega)
                rw [if_pos q1.2.1, if_pos q2.2.1]
                omega
              · have e : (if o.2.2 t ≠ -1 then lv t else nn) = lv t := if_pos hFt
                have q := (TC_rng (r := r) (L := fun b => if o.2.2 b ≠ -1 then lv b else nn) h12).2
                have q2 := (TC_rng (r := r) (L := L) h12).1
                show (13 - ((if o.2.2 t ≠ -1 then lv t else nn : Nat) : Int)) * 150 + TC nn r (fun b => if o.2.2 b ≠ -1 then lv b else nn) ≤ m
                rw [e]
                omega
            · refine ⟨L, hL, hLt, fun i hi => ?_, hm⟩
              have a1 := hch i 0 (by omega)
              have a2 := hch (lv t - i) i (by omega)
              have a3 := hch (i + 1) 0 (by omega)
              have a4 := hch (lv t - (i + 1)) (i + 1) (by omega)
              rw [show i + (lv t - i) = lv t by omega, hlast, hL.1] at a2
              rw [show i + 1 + (lv t - (i + 1)) = lv t by omega, hlast, hL.1] at a4
              rw [Nat.zero_add] at a1 a3
              have a1 : L t ≤ L (pt bf t i) + i := a1
              have a3 : L t ≤ L (pt bf t (i + 1)) + (i + 1) := a3
              omega
          obtain ⟨L', hL', hL't, hti, hm'⟩ := main
          obtain ⟨k1, k2, k3⟩ := fill_step (lv := lv) hF hL' hf ht hft hp rfl hlast hu hti (by omega) ⟨i, hi, hpos, hvi⟩ hmin
          have xr : -24000000 ≤ x3.toInt ∧ x3.toInt ≤ 12000000 := by
            have q1 := S1_bound (n := nn) (f := cp w f) (c := 1000000) (fun b hb => (cp_rng hw hf hb).2)
            have q2 := S1_nonneg (n := nn) (f := r f) (fun b hb => (hF.1 f b hf hb).1)
            have q3 := hF.2.2
            have q4 := S1_bound (n := nn) (f := r f) (c := 2000000) (fun b hb => (rr f b hf hb).2)
            have q5 := S1_nonneg (n := nn) (f := cp w f) (fun b hb => (cp_rng hw hf hb).1)
            omega
          have tc0 := (TC_rng (r := r) (L := L) h12).1
          rw [nI_s]
          refine ih (m - 1) _ _ _ _ _ _ _ (by omega) ⟨c + 1, rf r (pt bf t) v.1.toInt (lv t), L', rfl, rfl, rfl, by omega, hgv, ?_, k2, hL't, by omega⟩
          have e : (x3 + v.1.toInt64).toInt = x3.toInt + v.1.toInt := by
            have := rr _ _ (hp (i + 1) (by omega)) (hp i (by omega))
            rw [i64_add] <;> rw [i64_of32] <;> omega
          rw [e]
          exact k1
    · have q1 := cp_rng hw ha hb
      have q2 := cp_symm w a b
      omega
    · show (0 : Int64).toInt = _
      rw [Int.sub_self]; decide
    · have q := (TC_rng (r := cp w) (L := fun _ => 0) h12).2
      show (13 - ((0 : Nat) : Int)) * 150 + TC nn (cp w) (fun _ => 0) ≤ ((2200 : Nat) : Int)
      omega
  refine lq6_ok (fun m x1 x2 x3 z1 z2 g => ∃ a, nI f = x1 ∧ nI t = x2 ∧ x3 = nI a ∧ a + m = nn ∧ ∀ i j, i < a → j < nn → (g i j).toInt = cp w i j) ?_ N nn _ _ _ _ _ _ ⟨0, rfl, rfl, zero32, by omega, fun i j hi => absurd hi (Nat.not_lt_zero i)⟩ (by omega)
  rintro m nx x1 x2 x3 z1 z2 g ⟨a, rfl, rfl, rfl, hm, hg⟩ ih
  unfold f_X1_width_2
  refine ok_if (fun y => ?_) (fun y => ?_)
  · rw [nI_lei (by omega) (by omega)] at y
    exact loop z1 z2 g (fun i j hi hj => hg i j (by omega) hj)
  · rw [nI_lei (by omega) (by omega)] at y
    refine lq7_ok (fun m2 x1 x2 x3 x4 z1 z2 g => ∃ b, nI f = x1 ∧ nI t = x2 ∧ x3 = nI a ∧ x4 = nI b ∧ b + m2 = nn ∧ ∀ i j, i < nn → j < nn → (i < a ∨ (i = a ∧ j < b)) → (g i j).toInt = cp w i j) ?_ N nn _ _ _ _ _ _ _ ⟨0, rfl, rfl, rfl, zero32, by omega, fun i j hi hj hij => hg i j (by omega) hj⟩ (by omega)
    rintro m2 nx2 x1 x2 x3 x4 z1 z2 g ⟨b, rfl, rfl, rfl, rfl, hm2, hg⟩ ih2
    unfold f_X1_width_16
    refine ok_if (fun y2 => ?_) (fun y2 => ?_)
    · rw [nI_lei (by omega) (by omega)] at y2
      rw [nI_s]
      exact ih (m - 1) _ _ _ _ _ _ (by omega) ⟨a + 1, rfl, rfl, rfl, by omega, fun i j hi hj => hg i j (by omega) hj (by omega)⟩
    · rw [nI_lei (by omega) (by omega)] at y2
      have ha : a < nn := by omega
      have hb : b < nn := by omega
      rw [ck_N ha (by omega), ck_N ha (by omega), ck_N hb (by omega), ck_N hb (by omega), nI_c (show a < 2147483648 by omega), nI_c (show b < 2147483648 by omega)]
      refine ok_nmd ?_
      rw [nI_s]
      refine ih2 (m2 - 1) _ _ _ _ _ _ _ (by omega) ⟨b + 1, rfl, rfl, rfl, rfl, by omega, fun i j hi hj hij => ?_⟩
      rw [g_up]
      by_cases c : i = a ∧ j = b
      · rw [if_pos c, c.1, c.2]
        have e := h1 a b ha hb
        unfold cp
        by_cases c2 : (0 : Int32) < g1 a b
        · rw [if_pos c2]
          rw [i32_lt, e, show (0 : Int32).toInt = 0 by decide] at c2
          rw [if_neg (by omega), e]
        · rw [if_neg c2]
          rw [i32_lt, e, show (0 : Int32).toInt = 0 by decide] at c2
          rw [show (0 : Int32).toInt = 0 by decide]
          split <;> omega
      · rw [if_neg c]
        exact hg i j hi hj (by omega)
/-! the reference: all sets -/
def En (X : Nat → Bool) : Nat → Nat
  | 0 => 0
  | n + 1 => if X n = true then En X n ||| 2 ^ n else En X n
theorem En_lt (X : Nat → Bool) : ∀ n, En X n < 2 ^ n := by
  intro n
  induction n with
  | zero => exact Nat.one_pos
  | succ n ih =>
    have h : 2 ^ n < 2 ^ (n + 1) := Nat.pow_lt_pow_right (by omega) (by omega)
    show (if X n = true then En X n ||| 2 ^ n else En X n) < 2 ^ (n + 1)
    split
    · exact or_lt (by omega) (by omega)
    · omega
theorem En_bt (X : Nat → Bool) : ∀ n k, k < n → bt (En X n) k = X k := by
  intro n
  induction n with
  | zero => intro k hk; omega
  | succ n ih =>
    intro k hk
    show bt (if X n = true then En X n ||| 2 ^ n else En X n) k = X k
    have hn : bt (En X n) n = false := by
      unfold bt
      exact Nat.testBit_lt_two_pow (En_lt X n)
    by_cases c : X n = true
    · rw [if_pos c, bt_or]
      by_cases e : k = n
      · subst e
        rw [hn, c]
        simp
      · rw [ih k (by omega), show decide (n = k) = false from decide_eq_false (by omega), Bool.or_false]
    · rw [if_neg c]
      by_cases e : k = n
      · subst e
        rw [hn]
        cases hh : X k with
        | true => exact absurd hh c
        | false => rfl
      · exact ih k (by omega)
theorem bt_one {s k : Nat} (hs : s < 2147483648) (hk : k < 32) : ((nI s >>> (nI k &&& 31)) &&& (1 : Int32) = (1 : Int32)) ↔ bt s k = true := by
  rw [b_bit hs hk, bt_mod]
  cases bt s k with
  | true => exact ⟨fun _ => rfl, fun _ => by decide⟩
  | false => exact ⟨fun h => absurd h (by decide), fun h => absurd h (by decide)⟩
theorem bt_nul {s k : Nat} (hs : s < 2147483648) (hk : k < 32) : ((nI s >>> (nI k &&& 31)) &&& (1 : Int32) = (0 : Int32)) ↔ bt s k = false := by
  rw [b_bit hs hk, bt_mod]
  cases bt s k with
  | false => exact ⟨fun _ => rfl, fun _ => by decide⟩
  | true => exact ⟨fun h => absurd h (by decide), fun h => absurd h (by decide)⟩
theorem fr_cp (w : Nat → Nat → Int) (a b : Nat) (h : -1 ≤ st w a b) : (fr (st w a b) < 1000000000000 → fr (st w a b) = cp w a b) ∧ (¬ fr (st w a b) < 1000000000000 → st w a b ≤ 1000000 → cp w a b = 0) := by
  unfold fr cp
  constructor
  · intro h2
    by_cases c : st w a b = -1
    · rw [if_pos c] at h2; omega
    · rw [if_neg c, if_neg (by omega)]
  · intro h1 h2
    by_cases c : st w a b = -1
    · rw [if_pos (by omega)]
    · rw [if_neg c] at h1; omega
theorem CutS_rng {nn : Nat} {w : Nat → Nat → Int} (hw : WW nn w) (X : Nat → Bool) : 0 ≤ CutS nn w X ∧ CutS nn w X ≤ 144000000 := by
  have h12 := hw.2.1
  have q : ∀ a b, a < nn → b < nn → 0 ≤ (if X a = true ∧ X b = false then cp w a b else 0) ∧ (if X a = true ∧ X b = false then cp w a b else 0) ≤ 1000000 := fun a b ha hb => by
    have := cp_rng hw ha hb
    split <;> omega
  refine ⟨S2_nonneg (fun a b ha hb => (q a b ha hb).1), ?_⟩
  have h1 : ∀ i, i < nn → S1 nn (fun b => if X i = true ∧ X b = false then cp w i b else 0) ≤ 12000000 := fun i hi => by
    have := S1_bound (n := nn) (f := fun b => if X i = true ∧ X b = false then cp w i b else 0) (c := 1000000) (fun j hj => (q i j hi hj).2)
    omega
  have h2 := S1_bound (n := nn) (f := fun a => S1 nn (fun b => if X a = true ∧ X b = false then cp w a b else 0)) (c := 12000000) h1
  exact Int.le_trans h2 (by omega)
theorem r_cut {N nn : Nat} {w : Nat → Nat → Int} {b54 : Nat → Int64} {f t : Nat} (hN : 5000 ≤ N) (hw : WW nn w) (hR : Rw nn w b54) (hf : f < nn) (ht : t < nn) (hft : t ≠ f) : Ok (fun x => MC nn w f t x.1.toInt ∧ x.2 = 0) (lq5 (f_X7_cut_37 N (nI nn) b54) N (nI f) (nI t) 1000000000000 0 0) := by
  have h3 := hw.1
  have h12 := hw.2.1
  have hp := pow12 h12
  have hp0 : 0 < 2 ^ nn := Nat.two_pow_pos nn
  refine lq5_ok (fun m x1 x2 x3 x5 i5 => ∃ s, nI f = x1 ∧ nI t = x2 ∧ x5 = nI s ∧ (0 : Int32) = i5 ∧ s + m = 2 ^ nn ∧ (∀ s', s' < s → bt s' f = true → bt s' t = false → x3.toInt ≤ CutS nn w (bt s')) ∧ (x3.toInt = 1000000000000 ∨ ∃ s', s' < s ∧ bt s' f = true ∧ bt s' t = false ∧ x3.toInt = CutS nn w (bt s'))) ?_ N (2 ^ nn) _ _ _ _ _ ⟨0, rfl, rfl, zero32, rfl, by omega, fun s' hs' => absurd hs' (Nat.not_lt_zero s'), Or.inl far64⟩ (by omega)
  rintro m nx x1 x2 x3 x5 i5 ⟨s, rfl, rfl, rfl, rfl, hm, hlow, hat⟩ ih
  unfold f_X7_cut_37
  rw [b_pow (by omega)]
  refine ok_if (fun y => ok_some ⟨?_, rfl⟩) (fun y => ?_)
  · rw [nI_lei (by omega) (by omega)] at y
    have e : s = 2 ^ nn := by omega
    subst e
    have cong : ∀ X, CutS nn w (bt (En X nn)) = CutS nn w X := fun X => S2_congr (fun a b ha hb => by rw [En_bt X nn a ha, En_bt X nn b hb])
    have hlow' : ∀ X : Nat → Bool, X f = true → X t = false → x3.toInt ≤ CutS nn w X := fun X h1 h2 => by
      rw [← cong X]
      exact hlow _ (En_lt X nn) (by rw [En_bt X nn f hf]; exact h1) (by rw [En_bt X nn t ht]; exact h2)
    refine ⟨hlow', ?_⟩
    rcases hat with h | ⟨s', h1, h2, h3, h4⟩
    · have := hlow' (fun b => decide (b = f)) (decide_eq_true rfl) (decide_eq_false hft)
      have := CutS_rng hw (fun b => decide (b = f))
      omega
    · exact ⟨bt s', h2, h3, h4⟩
  rw [nI_lei (by omega) (by omega)] at y
  have hs : s < 2 ^ nn := by omega
  have skip : ¬ (bt s f = true ∧ bt s t = false) → Ok (fun x : Int64 × Int32 => MC nn w f t x.1.toInt ∧ x.2 = 0) (nx (nI f) (nI t) x3 (nI s + 1) 0) := by
    intro hc
    rw [nI_s]
    refine ih (m - 1) _ _ _ _ _ (by omega) ⟨s + 1, rfl, rfl, rfl, rfl, by omega, fun s' hs' h1 h2 => ?_, ?_⟩
    · by_cases e : s' = s
      · subst e; exact absurd ⟨h1, h2⟩ hc
      · exact hlow s' (by omega) h1 h2
    · rcases hat with h | ⟨s', h1, h2⟩
      · exact Or.inl h
      · exact Or.inr ⟨s', by omega, h2⟩
  simp only [bt_one (show s < 2147483648 by omega) (show f < 32 by omega), bt_nul (show s < 2147483648 by omega) (show t < 32 by omega)]
  refine ok_if (fun y1 => ?_) (fun y1 => skip (fun z => y1 z.1))
  refine ok_if (fun y2 => ?_) (fun y2 => skip (fun z => y2 z.2))
  have row : ∀ a b, a < nn → b < nn → 0 ≤ (if bt s a = true ∧ bt s b = false then cp w a b else 0) ∧ (if bt s a = true ∧ bt s b = false then cp w a b else 0) ≤ 1000000 := fun a b ha hb => by
    have := cp_rng hw ha hb
    split <;> omega
  have rowS : ∀ a k, a < nn → k ≤ nn → 0 ≤ S1 k (fun b => if bt s a = true ∧ bt s b = false then cp w a b else 0) ∧ S1 k (fun b => if bt s a = true ∧ bt s b = false then cp w a b else 0) ≤ 12000000 := fun a k ha hk => by
    have q := S1_bound (n := k) (f := fun b => if bt s a = true ∧ bt s b = false then cp w a b else 0) (c := 1000000) (fun j hj => (row a j ha (by omega)).2)
    exact ⟨S1_nonneg (fun b hb => (row a b ha (by omega)).1), by omega⟩
  have allS : ∀ k, k ≤ nn → 0 ≤ S1 k (fun a => S1 nn (fun b => if bt s a = true ∧ bt s b = false then cp w a b else 0)) ∧ S1 k (fun a => S1 nn (fun b => if bt s a = true ∧ bt s b = false then cp w a b else 0)) ≤ 144000000 := fun k hk => by
    have q := S1_bound (n := k) (f := fun a => S1 nn (fun b => if bt s a = true ∧ bt s b = false then cp w a b else 0)) (c := 12000000) (fun a ha => (rowS a nn (by omega) (Nat.le_refl nn)).2)
    exact ⟨S1_nonneg (fun a ha => (rowS a nn (by omega) (Nat.le_refl nn)).1), by omega⟩
  refine lq7_ok (fun m2 x1 x2 y3 x5 x6 x8 i5 => ∃ i, nI f = x1 ∧ nI t = x2 ∧ x3 = y3 ∧ nI s = x5 ∧ x8 = nI i ∧ (0 : Int32) = i5 ∧ i + m2 = nn ∧ x6.toInt = S1 i (fun a => S1 nn (fun b => if bt s a = true ∧ bt s b = false then cp w a b else 0))) ?_ N nn _ _ _ _ _ _ _ ⟨0, rfl, rfl, rfl, rfl, zero32, rfl, by omega, (show (0 : Int64).toInt = 0 by decide)⟩ (by omega)
  rintro m2 nx2 x1 x2 y3 x5 x6 x8 i5 ⟨i, rfl, rfl, rfl, rfl, rfl, rfl, hm2, hx6⟩ ih2
  unfold f_X7_cut_73
  refine ok_if (fun y3 => ?_) (fun y3 => ?_)
  · rw [nI_lei (by omega) (by omega)] at y3
    have e : i = nn := by omega
    subst e
    have hx6 : x6.toInt = CutS i w (bt s) := hx6
    rw [nI_s]
    refine ok_if (fun y4 => ?_) (fun y4 => ?_)
    · rw [i64_le, hx6] at y4
      refine ih (m - 1) _ _ _ _ _ (by omega) ⟨s + 1, rfl, rfl, rfl, rfl, by omega, fun s' hs' h1 h2 => ?_, ?_⟩
      · by_cases e : s' = s
        · subst e; exact y4
        · exact hlow s' (by omega) h1 h2
      · rcases hat with h | ⟨s', h1, h2⟩
        · exact Or.inl h
        · exact Or.inr ⟨s', by omega, h2⟩
    · rw [i64_le, hx6] at y4
      refine ih (m - 1) _ _ _ _ _ (by omega) ⟨s + 1, rfl, rfl, rfl, rfl, by omega, fun s' hs' h1 h2 => ?_, Or.inr ⟨s, by omega, y1, y2, hx6⟩⟩
      rw [hx6]
      by_cases e : s' = s
      · subst e; exact Int.le_refl _
      · have := hlow s' (by omega) h1 h2
        omega
  · rw [nI_lei (by omega) (by omega)] at y3
    have hi : i < nn := by omega
    refine lq8_ok (fun m3 x1 x2 y3 x5 y6 x8 x9 i5 => ∃ j, nI f = x1 ∧ nI t = x2 ∧ x3 = y3 ∧ nI s = x5 ∧ nI i = x8 ∧ x9 = nI j ∧ (0 : Int32) = i5 ∧ j + m3 = nn ∧ y6.toInt = x6.toInt + S1 j (fun b => if bt s i = true ∧ bt s b = false then cp w i b else 0)) ?_ N nn _ _ _ _ _ _ _ _ ⟨0, rfl, rfl, rfl, rfl, rfl, zero32, rfl, by omega, (Int.add_zero _).symm⟩ (by omega)
    rintro m3 nx3 x1 x2 y3 x5 y6 x8 x9 i5 ⟨j, rfl, rfl, rfl, rfl, rfl, rfl, rfl, hm3, hy6⟩ ih3
    unfold f_X7_cut_85
    refine ok_if (fun y5 => ?_) (fun y5 => ?_)
    · rw [nI_lei (by omega) (by omega)] at y5
      have e : j = nn := by omega
      subst e
      rw [nI_s]
      refine ih2 (m2 - 1) _ _ _ _ _ _ _ (by omega) ⟨i + 1, rfl, rfl, rfl, rfl, rfl, rfl, by omega, ?_⟩
      rw [hy6, hx6]
      rfl
    rw [nI_lei (by omega) (by omega)] at y5
    have hj : j < nn := by omega
    simp only [bt_one (show s < 2147483648 by omega) (show i < 32 by omega), bt_nul (show s < 2147483648 by omega) (show j < 32 by omega)]
    obtain ⟨v, hv, hvi⟩ := r_length hw hR hi hj
    have sr := st_rng hw hi hj
    have fc := fr_cp w i j sr.1
    have same : (bt s i = true ∧ bt s j = false → cp w i j = 0) → Ok (fun x : Int64 × Int32 => MC nn w f t x.1.toInt ∧ x.2 = 0) (f_X7_cut_134 N (nI nn) b54 nx nx2 nx3 (nI f) (nI t) x3 (nI s) y6 (nI i) (nI j) 0) := by
      intro h
      unfold f_X7_cut_134
      rw [if_pos rfl, nI_s]
      refine ih3 (m3 - 1) _ _ _ _ _ _ _ _ (by omega) ⟨j + 1, rfl, rfl, rfl, rfl, rfl, rfl, rfl, by omega, ?_⟩
      show _ = x6.toInt + (S1 j (fun b => if bt s i = true ∧ bt s b = false then cp w i b else 0) + (if bt s i = true ∧ bt s j = false then cp w i j else 0))
      by_cases c : bt s i = true ∧ bt s j = false
      · rw [if_pos c, h c, hy6]; omega
      · rw [if_neg c, hy6]; omega
    refine ok_if (fun c1 => ?_) (fun c1 => same (fun z => absurd z.1 c1))
    refine ok_if (fun c2 => ?_) (fun c2 => same (fun z => absurd z.2 c2))
    rw [hv]
    show Ok _ (if (1000000000000 : Int64) ≤ v then _ else _)
    refine ok_if (fun c3 => ?_) (fun c3 => ?_)
    · rw [i64_le, far64, hvi] at c3
      exact same (fun _ => fc.2 (by omega) sr.2)
    · rw [i64_le, far64, hvi] at c3
      rw [if_neg (by decide)]
      show Ok _ (nx3 (nI f) (nI t) x3 (nI s) (y6 + v) (nI i) (nI j + 1) 0)
      rw [nI_s]
      refine ih3 (m3 - 1) _ _ _ _ _ _ _ _ (by omega) ⟨j + 1, rfl, rfl, rfl, rfl, rfl, rfl, rfl, by omega, ?_⟩
      show _ = x6.toInt + (S1 j (fun b => if bt s i = true ∧ bt s b = false then cp w i b else 0) + (if bt s i = true ∧ bt s j = false then cp w i j else 0))
      have e1 := fc.1 (by omega)
      have e2 := cp_rng hw hi hj
      have e3 := rowS i j hi (by omega)
      have e4 := allS i (by omega)
      rw [if_pos ⟨c1, c2⟩, i64_add] <;> rw [hy6, hvi, e1] <;> omega
/-- promise 6: class and reference answer alike -/
theorem t_cut {N nn : Nat} {w : Nat → Nat → Int} {g1 g2 : Nat → Nat → Int32} {a26 a27 : Nat → Int32} {b54 : Nat → Int64} {i5 : Int32} (p1 p2 : Int32) (hN : 5000 ≤ N) (hw : WW nn w) (h1 : Cs nn w g1) (hR : Rw nn w b54) : ∃ r s, f_X6_cut N nn (nI nn) g1 a26 a27 g2 p1 p2 = some r ∧ f_X7_cut N (nI nn) b54 i5 p1 p2 = some s ∧ r.1 = s.1 ∧ s.2 = 0 := by
  have h12 := hw.2.1
  unfold f_X6_cut f_X7_cut
  rw [r_isPlace, r_isPlace]
  rcases c_has nn (by omega) p1 with ⟨e1, a, ha, rfl⟩ | ⟨e1, -⟩
  · rcases c_has nn (by omega) p2 with ⟨e2, b, hb, rfl⟩ | ⟨e2, -⟩
    · rw [e1, e2]
      simp only [bd, if_neg (show ¬ (1 : Int32) = 0 by decide)]
      by_cases c : nI a = nI b
      · rw [if_pos c, if_pos c]
        exact ⟨_, _, rfl, rfl, rfl, rfl⟩
      · rw [if_neg c, if_neg c]
        rw [nI_eqi (by omega) (by omega)] at c
        obtain ⟨r, er, hr⟩ := c_width (N := N) (a26 := a26) (a27 := a27) (g2 := g2) hN hw h1 ha hb (fun e => c e.symm)
        obtain ⟨s, es, hs, hs2⟩ := r_cut hN hw hR ha hb (fun e => c e.symm)
        rw [er, es]
        exact ⟨_, _, rfl, rfl, i64_eq.mpr (MC_uniq hr hs), hs2⟩
    · rw [e1, e2]
      simp only [bd, if_neg (show ¬ (1 : Int32) = 0 by decide), if_pos]
      exact ⟨_, _, rfl, rfl, rfl, rfl⟩
  · rw [e1]
    simp only [bd, if_pos]
    exact ⟨_, _, rfl, rfl, rfl, rfl⟩
