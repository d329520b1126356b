/-! ===== the rounds of linked trees: class and reference in step ===== -/
def stp (k : Nat) : Nat := if k < 5 then 16 else if k < 9 then 8 else if k < 13 then 4 else if k < 17 then 2 else 1
theorem c_step : ∀ k, k < 51 → 1 ≤ k → f_X2_stepOf (nI k) = some (nI (stp k)) := by decide +kernel
theorem stp_le (k : Nat) : 1 ≤ stp k ∧ stp k ≤ 16 := by
  unfold stp
  repeat' split
  all_goals omega
/-- weights after a round -/
def mvw (u d : Nat → Int) (k : Nat) : Nat → Int := fun v => u v + (d v - 2) * (stp k : Int)
theorem mvw_32 {nn : Nat} {d : Nat → Int} {a21 : Nat → Int32} {k v : Nat} (hd : Dg nn d a21) (hdr : ∀ v, 0 ≤ d v ∧ d v ≤ 28) (hv : v < nn) : ((a21 v - (2 : Int32)) * nI (stp k)).toInt = (d v - 2) * (stp k : Int) ∧ -32 ≤ (d v - 2) * (stp k : Int) ∧ (d v - 2) * (stp k : Int) ≤ 416 := by
  have h1 := hd v hv
  have h2 := hdr v
  have h3 := stp_le k
  have e2 : (2 : Int32).toInt = 2 := by decide
  have s1 : (a21 v - (2 : Int32)).toInt = d v - 2 := by
    rw [i32_sub] <;> rw [e2, h1.1] <;> omega
  have b1 : -32 ≤ (d v - 2) * (stp k : Int) := by
    have := Int.mul_le_mul_of_nonneg_right (show (-2 : Int) ≤ d v - 2 by omega) (show (0 : Int) ≤ (stp k : Int) by omega)
    omega
  have b2 : (d v - 2) * (stp k : Int) ≤ 416 := by
    have := Int.mul_le_mul_of_nonneg_right (show d v - 2 ≤ (26 : Int) by omega) (show (0 : Int) ≤ (stp k : Int) by omega)
    omega
  have e3 : (nI (stp k)).toInt = (stp k : Int) := nI_i (by omega)
  refine ⟨?_, b1, b2⟩
  rw [i32_mul] <;> rw [s1, e3] <;> omega
theorem c_move {N nn : Nat} {u d : Nat → Int} {a20 a21 : Nat → Int32} {k : Nat} (hN : 100 ≤ N) (h12 : nn ≤ 12) (hk : k ≤ 50) (hu : ∀ v, v < nn → (a20 v).toInt = u v ∧ -500 * (k : Int) ≤ u v ∧ u v ≤ 500 * (k : Int)) (hd : Dg nn d a21) (hdr : ∀ v, 0 ≤ d v ∧ d v ≤ 28) : Ok (fun a => ∀ v, v < nn → (a v).toInt = mvw u d k v) (f_X2_moveWeights N nn (nI nn) a21 a20 (nI (stp k))) := by
  unfold f_X2_moveWeights
  refine lq3_ok (fun m x1 x2 a => x1 = nI (stp k) ∧ ∃ i, x2 = nI i ∧ i + m = nn ∧ ∀ v, v < nn → if v < i then (a v).toInt = mvw u d k v else a v = a20 v) ?_ N nn (nI (stp k)) 0 a20 ⟨rfl, 0, nI_0.symm, by omega, fun v hv => by rw [if_neg (Nat.not_lt_zero v)]⟩ (by omega)
  rintro m nx x1 x2 a ⟨rfl, i, rfl, hm, ha⟩ ih
  unfold f_X2_moveWeights_2
  refine ok_if (fun q => ?_) (fun q => ?_)
  · rw [nI_lei (by omega) (by omega)] at q
    refine ok_some (fun v hv => ?_)
    have := ha v hv
    rw [if_pos (by omega)] at this
    exact this
  · rw [nI_lei (by omega) (by omega)] at q
    have hi : i < nn := by omega
    have ci : (nI i).toNatClampNeg = i := nI_c (by omega)
    have hai := ha i hi
    rw [if_neg (Nat.lt_irrefl i)] at hai
    simp only [ck_N hi (show nn < 2147483648 by omega), nmd, ci, nI_s]
    refine ih (m - 1) _ _ _ (by omega) ⟨rfl, i + 1, rfl, by omega, fun v hv => ?_⟩
    by_cases e : v = i
    · subst e
      rw [if_pos (by omega), pk_us, hai]
      have h1 := mvw_32 (k := k) hd hdr hi
      have h2 := hu v hi
      unfold mvw
      rw [i32_add] <;> rw [h1.1, h2.1] <;> omega
    · have := ha v hv
      rw [pk_un e]
      by_cases z : v < i
      · rw [if_pos z] at this
        rw [if_pos (by omega)]
        exact this
      · rw [if_neg z] at this
        rw [if_neg (by omega)]
        exact this
theorem r_move {N nn : Nat} {u d : Nat → Int} {b54 : Nat → Int64} {a35 a36 : Nat → Int32} {k : Nat} (h12 : nn ≤ 12) (hk : k ≤ 50) (hd : Dg nn d a35) (hdr : ∀ v, 0 ≤ d v ∧ d v ≤ 28) (nx : Int32 → Int64 → Int32 → Int32 → Int64 → (Nat → Int32) → (Nat → Int32) → (Nat → Int64) → Option (Int64 × Int32 × Int64 × (Nat → Int32) × (Nat → Int32) × (Nat → Int64))) (x1 : Int32) (x2 : Int64) (x4 i7 : Int32) (j : Int64) {b55 : Nat → Int64} (hu : ∀ v, v < nn → (b55 v).toInt = u v ∧ -500 * (k : Int) ≤ u v ∧ u v ≤ 500 * (k : Int)) : ∀ (m n i : Nat) (b : Nat → Int64), i + m = nn → m < n → (∀ v, v < nn → if v < i then (b v).toInt = mvw u d k v else b v = b55 v) → ∃ b', lq10 (f_X7_grow_123 N (nI nn) b54 nx) n x1 x2 x4 (nI (stp k)) (nI i) i7 j a35 a36 b = nx x1 x2 (x4 + 1) i7 j a35 a36 b' ∧ ∀ v, v < nn → (b' v).toInt = mvw u d k v := by
  intro m
  induction m with
  | zero =>
    intro n i b hm hn hb
    obtain ⟨n, rfl⟩ : ∃ n', n = n' + 1 := ⟨n - 1, by omega⟩
    refine ⟨b, ?_, fun v hv => ?_⟩
    · show f_X7_grow_123 N (nI nn) b54 nx _ x1 x2 x4 (nI (stp k)) (nI i) i7 j a35 a36 b = _
      unfold f_X7_grow_123
      rw [if_pos]
      rw [nI_lei (by omega) (by omega)]
      omega
    · have := hb v hv
      rw [if_pos (by omega)] at this
      exact this
  | succ m ih =>
    intro n i b hm hn hb
    obtain ⟨n, rfl⟩ : ∃ n', n = n' + 1 := ⟨n - 1, by omega⟩
    have hi : i < nn := by omega
    have ci : (nI i).toNatClampNeg = i := nI_c (by omega)
    have hbi := hb i hi
    rw [if_neg (Nat.lt_irrefl i)] at hbi
    have h1 := mvw_32 (k := k) hd hdr hi
    have h2 := hu i hi
    obtain ⟨b', e1, e2⟩ := ih n (i + 1) (vp_updL b i (b i + ((a35 i - 2) * nI (stp k)).toInt64)) (by omega) (by omega) (fun v hv => by
      by_cases e : v = i
      · subst e
        rw [if_pos (by omega), pk_uLs, hbi]
        unfold mvw
        rw [i64_add] <;> rw [i64_of32, h1.1, h2.1] <;> omega
      · have := hb v hv
        rw [pk_uLn e]
        by_cases z : v < i
        · rw [if_pos z] at this
          rw [if_pos (by omega)]
          exact this
        · rw [if_neg z] at this
          rw [if_neg (by omega)]
          exact this)
    refine ⟨b', ?_, e2⟩
    rw [← e1]
    show f_X7_grow_123 N (nI nn) b54 nx (lq10 (f_X7_grow_123 N (nI nn) b54 nx) n) x1 x2 x4 (nI (stp k)) (nI i) i7 j a35 a36 b = _
    generalize lq10 (f_X7_grow_123 N (nI nn) b54 nx) n = nx2
    unfold f_X7_grow_123
    rw [if_neg (by rw [nI_lei (by omega) (by omega)]; omega)]
    simp only [ck_N (show i < 12 by omega) (show 12 < 2147483648 by omega), nmd, ci, nI_s]
theorem r_stp {k : Nat} (hk : k ≤ 50) {ρ : Type} (f : Int32 → Option ρ) : (if (5 : Int32) ≤ nI k then (if (9 : Int32) ≤ nI k then (if (13 : Int32) ≤ nI k then (if (17 : Int32) ≤ nI k then f 1 else f 2) else f 4) else f 8) else f 16) = f (nI (stp k)) := by
  have e5 : (5 : Int32) ≤ nI k ↔ 5 ≤ k := by rw [show (5 : Int32) = nI 5 by decide]; exact nI_lei (by omega) (by omega)
  have e9 : (9 : Int32) ≤ nI k ↔ 9 ≤ k := by rw [show (9 : Int32) = nI 9 by decide]; exact nI_lei (by omega) (by omega)
  have e13 : (13 : Int32) ≤ nI k ↔ 13 ≤ k := by rw [show (13 : Int32) = nI 13 by decide]; exact nI_lei (by omega) (by omega)
  have e17 : (17 : Int32) ≤ nI k ↔ 17 ≤ k := by rw [show (17 : Int32) = nI 17 by decide]; exact nI_lei (by omega) (by omega)
  simp only [e5, e9, e13, e17]
  unfold stp
  by_cases c1 : 5 ≤ k
  · by_cases c2 : 9 ≤ k
    · by_cases c3 : 13 ≤ k
      · by_cases c4 : 17 ≤ k
        · rw [if_pos c1, if_pos c2, if_pos c3, if_pos c4, if_neg (by omega), if_neg (by omega), if_neg (by omega), if_neg (by omega)]; rfl
        · rw [if_pos c1, if_pos c2, if_pos c3, if_neg c4, if_neg (by omega), if_neg (by omega), if_neg (by omega), if_pos (by omega)]; rfl
      · rw [if_pos c1, if_pos c2, if_neg c3, if_neg (by omega), if_neg (by omega), if_pos (by omega)]; rfl
    · rw [if_pos c1, if_neg c2, if_neg (by omega), if_pos (by omega)]; rfl
  · rw [if_neg c1, if_pos (by omega)]; rfl
theorem half_same {x : Int64} (h1 : -100000000 ≤ x.toInt) (h2 : x.toInt ≤ 100000000) : f_X7_half x = some (if (0 : Int64) ≤ x then (x + 1) / 2 else 0) := by
  have hne : ¬ x = 1000000000000 := by
    rw [i64_eq, far_toInt]
    omega
  unfold f_X7_half dvl
  rw [if_neg hne]
  by_cases h : (0 : Int64) ≤ x
  · rw [if_pos h, if_pos h, if_neg (by decide)]
  · rw [if_neg h, if_neg h]
theorem bound_grow {N nn : Nat} {w : Nat → Nat → Int} {g1 : Nat → Nat → Int32} {b54 : Nat → Int64} (hN : 100 ≤ N) (hw : WW nn w) (hs : Cs nn w g1) (hR : Rw nn w b54) (R : Nat) (hR50 : R ≤ 50) : ∀ (m nc nr k : Nat) (u : Nat → Int) (x x' : Int64) (i1 : Int32) (j0 j1 : Int64) (a20 a21 a22 a35 a36 : Nat → Int32) (b55 : Nat → Int64), m < nc → m < nr → 1 ≤ k → k + m = R + 1 → (∀ v, v < nn → (a20 v).toInt = u v ∧ (b55 v).toInt = u v ∧ -500 * ((k - 1 : Nat) : Int) ≤ u v ∧ u v ≤ 500 * ((k - 1 : Nat) : Int)) → ((i1 = 0 ∧ k = 1 ∧ x' = -1000000000000) ∨ (i1 ≠ 0 ∧ x = x' ∧ -100000000 ≤ x.toInt ∧ x.toInt ≤ 100000000)) → (k = R + 1 → i1 ≠ 0) →
    ∃ rc rr, lq8 (f_X2_bound_18 N nn (nI nn) g1) nc (nI R) x (nI k) i1 j0 a20 a21 a22 = some rc ∧ lq8 (f_X7_grow_35 N (nI nn) b54) nr (nI R) x' (nI k) i1 j1 a35 a36 b55 = some rr ∧ f_X7_half rr.1 = some rc.1 ∧ rc.2.1 = rr.2.1 := by
  have h3 := hw.1
  have h12 := hw.2.1
  intro m
  induction m with
  | zero =>
    intro nc nr k u x x' i1 j0 j1 a20 a21 a22 a35 a36 b55 hnc hnr hk1 hkm hu hst hend
    obtain ⟨nc, rfl⟩ : ∃ n', nc = n' + 1 := ⟨nc - 1, by omega⟩
    obtain ⟨nr, rfl⟩ : ∃ n', nr = n' + 1 := ⟨nr - 1, by omega⟩
    have hlt : nI R < nI k := (nI_lti (by omega) (by omega)).mpr (by omega)
    rcases hst with ⟨h, -, -⟩ | ⟨-, rfl, hx1, hx2⟩
    · exact absurd h (hend (by omega))
    · refine ⟨(if (0 : Int64) ≤ x then (x + 1) / 2 else 0, i1, j0, a20, a21, a22), (x, i1, j1, a35, a36, b55), ?_, ?_, half_same hx1 hx2, rfl⟩
      · show f_X2_bound_18 N nn (nI nn) g1 _ (nI R) x (nI k) i1 j0 a20 a21 a22 = _
        unfold f_X2_bound_18 dvl
        rw [if_pos hlt]
        by_cases h : (0 : Int64) ≤ x
        · rw [if_pos h, if_pos h, if_neg (by decide)]
        · rw [if_neg h, if_neg h]
      · show f_X7_grow_35 N (nI nn) b54 _ (nI R) x (nI k) i1 j1 a35 a36 b55 = _
        unfold f_X7_grow_35
        rw [if_pos hlt]
  | succ m ih =>
    intro nc nr k u x x' i1 j0 j1 a20 a21 a22 a35 a36 b55 hnc hnr hk1 hkm hu hst hend
    obtain ⟨nc, rfl⟩ : ∃ n', nc = n' + 1 := ⟨nc - 1, by omega⟩
    obtain ⟨nr, rfl⟩ : ∃ n', nr = n' + 1 := ⟨nr - 1, by omega⟩
    have hlt : ¬ nI R < nI k := fun z => by
      rw [nI_lti (by omega) (by omega)] at z
      omega
    have huc : Wt nn u a20 := fun v hv => ⟨(hu v hv).1, by have := hu v hv; omega, by have := hu v hv; omega⟩
    have hur : Wr nn u b55 := fun v hv => ⟨(hu v hv).2.1, by have := hu v hv; omega, by have := hu v hv; omega⟩
    obtain ⟨r, er, hr⟩ := c_make (j0 := j0) (a21 := a21) (a22 := a22) hN hw hs huc
    obtain ⟨r', er', hr'⟩ := r_link (j1 := j1) (a35 := a35) (a36 := a36) hN hw hR hur
    have hc0 : lq8 (f_X2_bound_18 N nn (nI nn) g1) (nc + 1) (nI R) x (nI k) i1 j0 a20 a21 a22 = f_X2_bound_18 N nn (nI nn) g1 (lq8 (f_X2_bound_18 N nn (nI nn) g1) nc) (nI R) x (nI k) i1 j0 a20 a21 a22 := rfl
    have hr0 : lq8 (f_X7_grow_35 N (nI nn) b54) (nr + 1) (nI R) x' (nI k) i1 j1 a35 a36 b55 = f_X7_grow_35 N (nI nn) b54 (lq8 (f_X7_grow_35 N (nI nn) b54) nr) (nI R) x' (nI k) i1 j1 a35 a36 b55 := rfl
    rw [hc0, hr0]
    have IH := ih nc nr (k + 1)
    generalize lq8 (f_X2_bound_18 N nn (nI nn) g1) nc = nxc at IH ⊢
    generalize lq8 (f_X7_grow_35 N (nI nn) b54) nr = nxr at IH ⊢
    unfold f_X2_bound_18 f_X7_grow_35
    rw [if_neg hlt, if_neg hlt, er, er']
    simp only [bd]
    rcases same_tree hw huc hr hr' with ⟨q1, q2⟩ | ⟨q1, q2, q3, q4, d, q5, q6, q7⟩
    · rw [if_pos q1, if_pos q2]
      exact ⟨_, _, rfl, rfl, rfl, rfl⟩
    · rw [if_neg (show ¬ r.1 = 0 by rw [q1]; decide), if_neg (show ¬ r'.1 = 0 by rw [q2]; decide)]
      -- the new weights on both sides
      have hkk : ∀ v, v < nn → (a20 v).toInt = u v ∧ -500 * (k : Int) ≤ u v ∧ u v ≤ 500 * (k : Int) := fun v hv => ⟨(hu v hv).1, by have := hu v hv; omega, by have := hu v hv; omega⟩
      have hkr : ∀ v, v < nn → (b55 v).toInt = u v ∧ -500 * (k : Int) ≤ u v ∧ u v ≤ 500 * (k : Int) := fun v hv => ⟨(hu v hv).2.1, by have := hu v hv; omega, by have := hu v hv; omega⟩
      obtain ⟨a20', ea, ha⟩ := c_move (k := k) hN h12 (by omega) hkk q6 q5
      have hnew : ∀ v, v < nn → -500 * ((k + 1 - 1 : Nat) : Int) ≤ mvw u d k v ∧ mvw u d k v ≤ 500 * ((k + 1 - 1 : Nat) : Int) := by
        intro v hv
        have h1 := (mvw_32 (k := k) q6 q5 hv).2
        have h2 := hu v hv
        unfold mvw
        omega
      have go : ∀ (y : Int64) (bi : Int32), (bi ≠ 0 ∧ -100000000 ≤ y.toInt ∧ y.toInt ≤ 100000000) → ∃ rc rr, nxc (nI R) y (nI (k + 1)) bi r.2.1 a20' r.2.2.1 r.2.2.2 = some rc ∧ f_X7_grow_72 N (nI nn) b54 nxr (nI R) y (nI k) bi r'.2.1 r'.2.2.1 r'.2.2.2 b55 = some rr ∧ f_X7_half rr.1 = some rc.1 ∧ rc.2.1 = rr.2.1 := by
        intro y bi hy
        obtain ⟨b', e1, e2⟩ := r_move (N := N) (b54 := b54) (a36 := r'.2.2.2) h12 (show k ≤ 50 by omega) q7 q5 nxr (nI R) y (nI k) bi r'.2.1 hkr nn N 0 b55 (by omega) (by omega) (fun v _ => by rw [if_neg (Nat.not_lt_zero v)])
        obtain ⟨rc, rr, c1, c2, c3, c4⟩ := IH (mvw u d k) y y bi r.2.1 r'.2.1 a20' r.2.2.1 r.2.2.2 r'.2.2.1 r'.2.2.2 b' (by omega) (by omega) (by omega) (by omega) (fun v hv => ⟨ha v hv, e2 v hv, (hnew v hv).1, (hnew v hv).2⟩) (Or.inr ⟨hy.1, rfl, hy.2.1, hy.2.2⟩) (fun _ => hy.1)
        refine ⟨rc, rr, c1, ?_, c3, c4⟩
        unfold f_X7_grow_72
        rw [r_stp (show k ≤ 50 by omega) (fun s => lq10 (f_X7_grow_123 N (nI nn) b54 nxr) N (nI R) y (nI k) s 0 bi r'.2.1 r'.2.2.1 r'.2.2.2 b55), zero32, e1, nI_s]
        exact c2
      have hknz : nI k ≠ 0 := nI_n0 hk1 (by omega)
      have e51 : ∀ y, f_X2_bound_51 N nn (nI nn) g1 nxc (nI R) (nI k) y r.2.1 a20 r.2.2.1 r.2.2.2 = nxc (nI R) r.2.1 (nI (k + 1)) (nI k) r.2.1 a20' r.2.2.1 r.2.2.2 := by
        intro y
        unfold f_X2_bound_51
        rw [c_step k (by omega) hk1]
        simp only [bd, ea, nI_s]
      rcases hst with ⟨rfl, rfl, rfl⟩ | ⟨hi1, rfl, hx1, hx2⟩
      · rw [if_pos rfl, if_neg (by rw [i64_le, ← q3, show (-1000000000000 : Int64).toInt = -1000000000000 by decide]; omega), e51]
        obtain ⟨rc, rr, c1, c2, c3⟩ := go r.2.1 (nI 1) ⟨hknz, q4⟩
        refine ⟨rc, rr, c1, ?_, c3⟩
        rw [← c2, q3]
      · rw [if_neg hi1]
        by_cases hle : r.2.1 ≤ x
        · rw [if_pos hle, if_pos (by rw [← q3]; exact hle), c_step k (by omega) hk1]
          simp only [bd, ea, nI_s]
          exact go x i1 ⟨hi1, hx1, hx2⟩
        · rw [if_neg hle, if_neg (by rw [← q3]; exact hle), e51]
          obtain ⟨rc, rr, c1, c2, c3⟩ := go r.2.1 (nI k) ⟨hknz, q4⟩
          refine ⟨rc, rr, c1, ?_, c3⟩
          rw [← c2, q3]
