/-! ===== WayPost: the trips ===== -/
theorem S1_bd {n : Nat} {f : Nat → Int} {c : Int} (h12 : n ≤ 12) (hc : 0 ≤ c) (h : ∀ i, i < n → f i ≤ c) : S1 n f ≤ 12 * c := by
  have a := S1_bound h
  have b : (n : Int) * c ≤ 12 * c := Int.mul_le_mul_of_nonneg_right (by omega) hc
  omega
theorem S2_bd {n : Nat} {f : Nat → Nat → Int} {c : Int} (h12 : n ≤ 12) (hc : 0 ≤ c) (h : ∀ i j, i < n → j < n → f i j ≤ c) : S2 n f ≤ 144 * c := by
  have := S1_bd (f := fun a => S1 n (f a)) (c := 12 * c) h12 (by omega) (fun i hi => S1_bd h12 hc (fun j hj => h i j hi hj))
  have this : S2 n f ≤ 12 * (12 * c) := this
  omega
/-- how many more come to a place than go from it -/
def sg (nn : Nat) (w : Nat → Nat → Int) (v : Nat) : Int := S1 nn (fun b => (if w b v ≠ -1 then 1 else 0) - (if w v b ≠ -1 then 1 else 0))
def swf (w : Nat → Nat → Int) (a b : Nat) : Int := if w a b ≠ -1 then w a b else 0
def SW (nn : Nat) (w : Nat → Nat → Int) : Int := S1 nn (fun a => S1 nn (swf w a))
theorem swf_rng {nn : Nat} {w : Nat → Nat → Int} (hw : WW nn w) {a b : Nat} (ha : a < nn) (hb : b < nn) : 0 ≤ swf w a b ∧ swf w a b ≤ 1000000 := by
  have := hw.2.2.1 a b ha hb
  unfold swf
  split <;> omega
theorem SW_rng {nn : Nat} {w : Nat → Nat → Int} (hw : WW nn w) {k : Nat} (hk : k ≤ nn) : 0 ≤ S1 k (fun a => S1 nn (swf w a)) ∧ S1 k (fun a => S1 nn (swf w a)) ≤ 144000000 := by
  have h12 := hw.2.1
  have r : ∀ a, a < nn → 0 ≤ S1 nn (swf w a) ∧ S1 nn (swf w a) ≤ 12000000 := fun a ha => by
    have := S1_bd (f := swf w a) (c := 1000000) h12 (by decide) (fun b hb => (swf_rng hw ha hb).2)
    exact ⟨S1_nonneg (fun b hb => (swf_rng hw ha hb).1), by omega⟩
  have := S1_bd (n := k) (f := fun a => S1 nn (swf w a)) (c := 12000000) (by omega) (by decide) (fun a ha => (r a (by omega)).2)
  exact ⟨S1_nonneg (fun a ha => (r a (by omega)).1), by omega⟩
def sp (nn : Nat) (w : Nat → Nat → Int) (a b v : Nat) : Int := S2 nn (fun i j => if (i < a ∨ (i = a ∧ j < b)) ∧ w i j ≠ -1 then (if j = v then 1 else 0) - (if i = v then 1 else 0) else 0)
theorem sp_rng {nn : Nat} {w : Nat → Nat → Int} (h12 : nn ≤ 12) (a b v : Nat) : -144 ≤ sp nn w a b v ∧ sp nn w a b v ≤ 144 := by
  have q : ∀ i j : Nat, -1 ≤ (if (i < a ∨ (i = a ∧ j < b)) ∧ w i j ≠ -1 then ((if j = v then 1 else 0) - (if i = v then 1 else 0) : Int) else 0) ∧ (if (i < a ∨ (i = a ∧ j < b)) ∧ w i j ≠ -1 then ((if j = v then 1 else 0) - (if i = v then 1 else 0) : Int) else 0) ≤ 1 := fun i j => by
    repeat' split
    all_goals decide
  unfold sp
  have h1 := S2_bd (f := fun i j => if (i < a ∨ (i = a ∧ j < b)) ∧ w i j ≠ -1 then ((if j = v then 1 else 0) - (if i = v then 1 else 0) : Int) else 0) (c := 1) h12 (by decide) (fun i j _ _ => (q i j).2)
  have h2 := S2_bd (f := fun i j => 0 - if (i < a ∨ (i = a ∧ j < b)) ∧ w i j ≠ -1 then ((if j = v then 1 else 0) - (if i = v then 1 else 0) : Int) else 0) (c := 1) h12 (by decide) (fun i j _ _ => by have := (q i j).1; omega)
  rw [S2_sub, S2_zero] at h2
  omega
theorem sp_no {nn : Nat} {w : Nat → Nat → Int} {a b v : Nat} (h : w a b = -1) : sp nn w a (b + 1) v = sp nn w a b v := by
  unfold sp
  refine S2_congr (fun i j _ _ => ?_)
  by_cases c : (i < a ∨ (i = a ∧ j < b)) ∧ w i j ≠ -1
  · rw [if_pos c, if_pos ⟨by omega, c.2⟩]
  · rw [if_neg c, if_neg (fun z => c ⟨?_, z.2⟩)]
    by_cases e : i = a ∧ j = b
    · obtain ⟨rfl, rfl⟩ := e
      exact absurd h z.2
    · omega
theorem sp_yes {nn : Nat} {w : Nat → Nat → Int} {a b v : Nat} (ha : a < nn) (hb : b < nn) (h : w a b ≠ -1) : sp nn w a (b + 1) v = sp nn w a b v + ((if b = v then 1 else 0) - (if a = v then 1 else 0)) := by
  unfold sp
  rw [← S2_upd ha hb]
  refine S2_congr (fun i j _ _ => ?_)
  by_cases e : i = a ∧ j = b
  · rw [e.1, e.2, if_pos (show (a < a ∨ (a = a ∧ b < b + 1)) ∧ w a b ≠ -1 from ⟨by omega, h⟩), if_neg (show ¬ ((a < a ∨ (a = a ∧ b < b)) ∧ w a b ≠ -1) from fun z => by omega), if_pos (show a = a ∧ b = b from ⟨rfl, rfl⟩)]
    omega
  · rw [if_neg e]
    by_cases c : (i < a ∨ (i = a ∧ j < b)) ∧ w i j ≠ -1
    · rw [if_pos c, if_pos (show (i < a ∨ (i = a ∧ j < b + 1)) ∧ w i j ≠ -1 from ⟨by omega, c.2⟩)]; omega
    · rw [if_neg c, if_neg (show ¬ ((i < a ∨ (i = a ∧ j < b + 1)) ∧ w i j ≠ -1) from fun z => c ⟨by omega, z.2⟩)]; rfl
theorem sp_next {nn : Nat} {w : Nat → Nat → Int} {a v : Nat} : sp nn w a nn v = sp nn w (a + 1) 0 v := by
  unfold sp
  refine S2_congr (fun i j _ hj => ?_)
  by_cases c : (i < a ∨ (i = a ∧ j < nn)) ∧ w i j ≠ -1
  · rw [if_pos c, if_pos (show (i < a + 1 ∨ (i = a + 1 ∧ j < 0)) ∧ w i j ≠ -1 from ⟨by omega, c.2⟩)]
  · rw [if_neg c, if_neg (show ¬ ((i < a + 1 ∨ (i = a + 1 ∧ j < 0)) ∧ w i j ≠ -1) from fun z => c ⟨by omega, z.2⟩)]
theorem sp_0 {nn : Nat} {w : Nat → Nat → Int} {v : Nat} : sp nn w 0 0 v = 0 := by
  unfold sp
  rw [S2_congr (g := fun _ _ => 0) (fun i j _ _ => if_neg (by omega)), S2_zero]
theorem sp_all {nn : Nat} {w : Nat → Nat → Int} {v : Nat} (hv : v < nn) : sp nn w nn 0 v = sg nn w v := by
  unfold sp sg
  have e1 : S2 nn (fun i j => if (i < nn ∨ (i = nn ∧ j < 0)) ∧ w i j ≠ -1 then ((if j = v then 1 else 0) - (if i = v then 1 else 0) : Int) else 0) = S2 nn (fun i j => (if j = v then (if w i v ≠ -1 then 1 else 0) else 0) - (if i = v then (if w v j ≠ -1 then 1 else 0) else 0)) := S2_congr (fun i j hi hj => by
    by_cases c : w i j ≠ -1
    · rw [if_pos ⟨Or.inl hi, c⟩]
      by_cases e2 : j = v
      · subst e2
        rw [if_pos rfl, if_pos rfl, if_pos c]
        by_cases e3 : i = j
        · rw [if_pos e3, if_pos e3, if_pos (by rw [e3] at c; exact c)]
        · rw [if_neg e3, if_neg e3]
      · rw [if_neg e2, if_neg e2]
        by_cases e3 : i = v
        · subst e3
          rw [if_pos rfl, if_pos rfl, if_pos c]
        · rw [if_neg e3, if_neg e3]
    · rw [if_neg (fun z => c z.2)]
      have a1 : (if j = v then (if w i v ≠ -1 then (1 : Int) else 0) else 0) = 0 := by
        by_cases e2 : j = v
        · subst e2; rw [if_pos rfl, if_neg c]
        · rw [if_neg e2]
      have a2 : (if i = v then (if w v j ≠ -1 then (1 : Int) else 0) else 0) = 0 := by
        by_cases e3 : i = v
        · subst e3; rw [if_pos rfl, if_neg c]
        · rw [if_neg e3]
      rw [a1, a2]; rfl)
  rw [e1, S2_sub, S1_sub]
  have e2 : S2 nn (fun i j => if j = v then (if w i v ≠ -1 then (1 : Int) else 0) else 0) = S1 nn (fun b => if w b v ≠ -1 then 1 else 0) := S1_congr (fun i _ => by
    rw [S1_one, if_pos hv])
  have e3 : S2 nn (fun i j => if i = v then (if w v j ≠ -1 then (1 : Int) else 0) else 0) = S1 nn (fun b => if w v b ≠ -1 then 1 else 0) := by
    rw [S2_swap]
    exact S1_congr (fun i _ => by
      dsimp only
      rw [S1_one, if_pos hv])
  rw [e2, e3]
theorem c_once {N nn : Nat} {w : Nat → Nat → Int} {g0 g4 : Nat → Nat → Int32} {a31 : Nat → Int32} (hN : 100 ≤ N) (hw : WW nn w) (h0 : Cw nn w g0) : Ok (fun x => x.1.toInt = SW nn w ∧ (∀ v, v < nn → (x.2.1 v).toInt = sg nn w v) ∧ Cw nn (fun _ _ => 0) x.2.2) (f_X5_goEachOnce N nn (nI nn) g0 a31 g4) := by
  have h12 := hw.2.1
  unfold f_X5_goEachOnce
  refine ok_fck (by omega) (ok_nmd ?_)
  refine lq4_ok (fun m x1 x3 z1 z2 => ∃ a, x3 = nI a ∧ a + m = nn ∧ x1.toInt = S1 a (fun a => S1 nn (swf w a)) ∧ (∀ v, v < nn → (z1 v).toInt = sp nn w a 0 v) ∧ ∀ i j, i < a → j < nn → (z2 i j).toInt = 0) ?_ N nn _ _ _ _ ⟨0, zero32, by omega, (show (0 : Int64).toInt = 0 by decide), fun v hv => ?_, fun i j hi => absurd hi (Nat.not_lt_zero i)⟩ (by omega)
  · rintro m nx x1 x3 z1 z2 ⟨a, rfl, hm, hx, hz1, hz2⟩ ih
    unfold f_X5_goEachOnce_12
    refine ok_if (fun y => ok_some ?_) (fun y => ?_)
    · rw [nI_lei (by omega) (by omega)] at y
      have ea : a = nn := by omega
      subst ea
      exact ⟨hx, fun v hv => by rw [hz1 v hv, sp_all hv], fun i j hi hj => hz2 i j hi hj⟩
    rw [nI_lei (by omega) (by omega)] at y
    have ha : a < nn := by omega
    have sr := SW_rng hw (show a ≤ nn by omega)
    refine lq5_ok (fun m2 y1 x3 x4 z1 z2 => ∃ b, nI a = x3 ∧ x4 = nI b ∧ b + m2 = nn ∧ y1.toInt = x1.toInt + S1 b (swf w a) ∧ (∀ v, v < nn → (z1 v).toInt = sp nn w a b v) ∧ ∀ i j, i < nn → j < nn → (i < a ∨ (i = a ∧ j < b)) → (z2 i j).toInt = 0) ?_ N nn _ _ _ _ _ ⟨0, rfl, zero32, by omega, (Int.add_zero _).symm, hz1, fun i j hi hj h => hz2 i j (by omega) hj⟩ (by omega)
    rintro m2 nx2 y1 x3 x4 z1 z2 ⟨b, rfl, rfl, hm2, hy, hz1, hz2⟩ ih2
    unfold f_X5_goEachOnce_26
    refine ok_if (fun y2 => ?_) (fun y2 => ?_)
    · rw [nI_lei (by omega) (by omega)] at y2
      have eb : b = nn := by omega
      subst eb
      rw [nI_s]
      exact ih (m - 1) _ _ _ _ (by omega) ⟨a + 1, rfl, by omega, by rw [hy, hx]; rfl, fun v hv => by rw [hz1 v hv, sp_next], fun i j hi hj => hz2 i j (by omega) hj (by omega)⟩
    rw [nI_lei (by omega) (by omega)] at y2
    have hb : b < nn := by omega
    have e := h0 a b ha hb
    have ee : g0 a b = -1 ↔ w a b = -1 := by rw [i32_eq, m1_toInt, e]
    rw [nI_c (show a < 2147483648 by omega), nI_c (show b < 2147483648 by omega), ck_N ha (by omega), ck_N hb (by omega)]
    refine ok_nmd ?_
    have hz2' : ∀ i j, i < nn → j < nn → (i < a ∨ (i = a ∧ j < b + 1)) → (va_up z2 a (upd (z2 a) b 0) i j).toInt = 0 := fun i j hi hj hij => by
      rw [g_up]
      by_cases c : i = a ∧ j = b
      · rw [if_pos c]; decide
      · rw [if_neg c]; exact hz2 i j hi hj (by omega)
    rw [ck_N ha (by omega), ck_N hb (by omega), nI_s]
    refine ok_if (fun y3 => ?_) (fun y3 => ?_)
    · have y3 := ee.mp y3
      refine ih2 (m2 - 1) _ _ _ _ _ (by omega) ⟨b + 1, rfl, rfl, by omega, ?_, fun v hv => by rw [hz1 v hv, sp_no y3], hz2'⟩
      show _ = x1.toInt + (S1 b (swf w a) + swf w a b)
      have : swf w a b = 0 := if_neg (fun h => h y3)
      omega
    · have y3 : w a b ≠ -1 := fun h => y3 (ee.mpr h)
      have hab : b ≠ a := fun h => by rw [h] at y3; exact y3 (hw.2.2.2 a ha)
      rw [ck_N ha (by omega), ck_N ha (by omega)]
      refine ok_nmd ?_
      rw [ck_N hb (by omega), ck_N hb (by omega)]
      refine ok_nmd ?_
      rw [ck_N ha (by omega), ck_N hb (by omega)]
      refine ok_nmd ?_
      have wr := hw.2.2.1 a b ha hb
      have sw : swf w a b = w a b := if_pos y3
      have row : 0 ≤ S1 b (swf w a) ∧ S1 b (swf w a) ≤ 12000000 := by
        have := S1_bd (n := b) (f := swf w a) (c := 1000000) (by omega) (by decide) (fun j hj => (swf_rng hw ha (show j < nn by omega)).2)
        exact ⟨S1_nonneg (fun j hj => (swf_rng hw ha (show j < nn by omega)).1), by omega⟩
      refine ih2 (m2 - 1) _ _ _ _ _ (by omega) ⟨b + 1, rfl, rfl, by omega, ?_, fun v hv => ?_, hz2'⟩
      · show _ = x1.toInt + (S1 b (swf w a) + swf w a b)
        rw [i64_add] <;> rw [i64_of32, e, hy] <;> omega
      · rw [sp_yes ha hb y3]
        have ra := hz1 a ha
        have rb := hz1 b hb
        have pa := sp_rng (w := w) h12 a b a
        have pb := sp_rng (w := w) h12 a b b
        have o1 : (1 : Int32).toInt = 1 := by decide
        by_cases ev : v = b
        · subst ev
          rw [pk_us, pk_un hab, if_pos rfl, if_neg (fun h => hab h.symm)]
          rw [i32_add] <;> rw [rb, o1] <;> omega
        · rw [pk_un ev, if_neg (fun h => ev h.symm)]
          by_cases eva : v = a
          · subst eva
            rw [pk_us, if_pos rfl]
            rw [i32_sub] <;> rw [ra, o1] <;> omega
          · rw [pk_un eva, if_neg (fun h => eva h.symm), hz1 v hv]
            omega
  · rw [sp_0]
    show (fil nn (0 : Int32) a31 v).toInt = 0
    unfold fil
    rw [if_pos hv]
    decide
/-! one more or one less on a way -/
def yu (y : Nat → Nat → Int) (a0 b0 : Nat) (δ : Int) : Nat → Nat → Int := fun a b => y a b + if a = a0 ∧ b = b0 then δ else 0
def net (nn : Nat) (y : Nat → Nat → Int) (v : Nat) : Int := S1 nn (fun b => y v b) - S1 nn (fun a => y a v)
def cost (nn : Nat) (w y : Nat → Nat → Int) : Int := S2 nn (fun a b => w a b * y a b)
theorem net_yu {nn : Nat} {y : Nat → Nat → Int} {a0 b0 v : Nat} {δ : Int} (ha : a0 < nn) (hb : b0 < nn) : net nn (yu y a0 b0 δ) v = net nn y v + (if v = a0 then δ else 0) - (if v = b0 then δ else 0) := by
  unfold net yu
  have e1 : S1 nn (fun b => y v b + if v = a0 ∧ b = b0 then δ else 0) = S1 nn (fun b => y v b) + (if v = a0 then δ else 0) := by
    by_cases c : v = a0
    · rw [if_pos c, ← S1_upd hb]
      exact S1_congr (fun b _ => by
        by_cases e : b = b0
        · rw [if_pos e, if_pos ⟨c, e⟩]
        · rw [if_neg e, if_neg (fun z => e z.2)])
    · rw [if_neg c, Int.add_zero]
      exact S1_congr (fun b _ => by rw [if_neg (fun z => c z.1), Int.add_zero])
  have e2 : S1 nn (fun a => y a v + if a = a0 ∧ v = b0 then δ else 0) = S1 nn (fun a => y a v) + (if v = b0 then δ else 0) := by
    by_cases c : v = b0
    · rw [if_pos c, ← S1_upd ha]
      exact S1_congr (fun b _ => by
        by_cases e : b = a0
        · rw [if_pos e, if_pos ⟨e, c⟩]
        · rw [if_neg e, if_neg (fun z => e z.1)])
    · rw [if_neg c, Int.add_zero]
      exact S1_congr (fun b _ => by rw [if_neg (fun z => c z.2), Int.add_zero])
  rw [e1, e2]
  omega
theorem cost_yu {nn : Nat} {w y : Nat → Nat → Int} {a0 b0 : Nat} {δ : Int} (ha : a0 < nn) (hb : b0 < nn) : cost nn w (yu y a0 b0 δ) = cost nn w y + w a0 b0 * δ := by
  unfold cost yu
  rw [← S2_upd ha hb]
  refine S2_congr (fun a b _ _ => ?_)
  by_cases c : a = a0 ∧ b = b0
  · rw [if_pos c, if_pos c, c.1, c.2, Int.mul_add]
  · rw [if_neg c, if_neg c, Int.add_zero, Int.add_zero]
theorem chain_end {m : Nat} {c : Nat → Nat → Int} {d0 π d : Nat → Int} {bf T : Nat → Nat} {arr : Nat → Int32} (h : ∃ ρ K R, BFI m c d0 (fun _ _ => True) ρ K d bf R T arr) (hπ : ∀ a b, a < m → b < m → c a b < 1000000000000 → π b ≤ π a + c a b) {v : Nat} (hv : v < m) : ∃ k, k + 1 ≤ m ∧ (∀ i, i < k → 1 ≤ T (pt bf v i)) ∧ T (pt bf v k) = 0 ∧ (∀ i, i ≤ k → pt bf v i < m) ∧ ∀ i j, i ≤ k → j ≤ k → pt bf v i = pt bf v j → i = j := by
  obtain ⟨ρ, K, R, hB⟩ := h
  refine Classical.byContradiction (fun hn => ?_)
  have all : ∀ k, ∀ i, i < k → 1 ≤ T (pt bf v i) := by
    intro k
    induction k with
    | zero => intro i hi; exact absurd hi (Nat.not_lt_zero i)
    | succ k ih =>
      intro i hi
      by_cases e : i = k
      · subst e
        refine Nat.pos_of_ne_zero (fun z => hn ?_)
        obtain ⟨q1, q2, q3⟩ := BF_acyc hB hπ hv ih
        exact ⟨i, q3, ih, z, q1, q2⟩
      · exact ih i (by omega)
  have := (BF_acyc hB hπ hv (all m)).2.2
  omega
