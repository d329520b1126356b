/-! ===== the reference's assignment: the least sum for each set, place after place ===== -/
/-- a whole choice with all its ways -/
def Fl (nn : Nat) (w : Nat → Nat → Int) (t : Nat) (σ : Nat → Nat) : Prop := (∀ i, i < t → σ i < nn ∧ w i (σ i) ≠ -1) ∧ ∀ i j, i < t → j < t → σ i = σ j → i = j
/-- least of all whole choices, or -1 where there is none -/
def RA (nn : Nat) (w : Nat → Nat → Int) (x : Int) : Prop := (x = -1 ∧ ¬ ∃ σ, Fl nn w nn σ) ∨ ∃ σ, Fl nn w nn σ ∧ x = S1 nn (fun i => w i (σ i)) ∧ ∀ τ, Fl nn w nn τ → x ≤ S1 nn (fun i => w i (τ i))
theorem Fl_rng {nn t : Nat} {w : Nat → Nat → Int} {σ : Nat → Nat} (hw : WW nn w) (ht : t ≤ nn) (h : Fl nn w t σ) : 0 ≤ S1 t (fun i => w i (σ i)) ∧ S1 t (fun i => w i (σ i)) ≤ 12000000 := by
  have h12 := hw.2.1
  have h1 : ∀ i, i < t → 0 ≤ w i (σ i) ∧ w i (σ i) ≤ 1000000 := fun i hi => by
    have a := h.1 i hi
    have b := hw.2.2.1 i (σ i) (by omega) a.1
    omega
  have b1 := S1_bound (n := t) (f := fun i => w i (σ i)) (c := 1000000) (fun i hi => (h1 i hi).2)
  exact ⟨S1_nonneg (fun i hi => (h1 i hi).1), by omega⟩
theorem RA_uniq {nn : Nat} {w : Nat → Nat → Int} {x y : Int} (h1 : RA nn w x) (h2 : RA nn w y) : x = y := by
  rcases h1 with ⟨a, b⟩ | ⟨σ, a, b, c⟩
  · rcases h2 with ⟨d, e⟩ | ⟨τ, d, e, f⟩
    · rw [a, d]
    · exact absurd ⟨τ, d⟩ b
  · rcases h2 with ⟨d, e⟩ | ⟨τ, d, e, f⟩
    · exact absurd ⟨σ, a⟩ e
    · have := c τ d
      have := f σ a
      omega
/-- what stands at a set is far, or some choice's sum -/
def AT (nn : Nat) (w : Nat → Nat → Int) (m : Nat) (x : Int) : Prop := x = 1000000000000 ∨ ∃ (σ : Nat → Nat) (t : Nat), t ≤ nn ∧ pcn nn m = (t : Int) ∧ Fl nn w t σ ∧ Mk σ t = m ∧ x = S1 t (fun i => w i (σ i))
/-- all steps from the sets below s, and from s itself to places below k, have been taken -/
def DP (nn : Nat) (w : Nat → Nat → Int) (s k : Nat) (b : Nat → Int64) : Prop := (b 0).toInt = 0 ∧ (∀ m, m < 2 ^ nn → AT nn w m (b m).toInt ∧ 0 ≤ (b m).toInt ∧ (b m).toInt ≤ 1000000000000) ∧
  ∀ r t j : Nat, r < 2 ^ nn → pcn nn r = (t : Int) → t < nn → j < nn → bt r j = false → w t j ≠ -1 → (r < s ∨ (r = s ∧ j < k)) → (b (r ||| 2 ^ j)).toInt ≤ (b r).toInt + w t j
theorem pow12 {nn : Nat} (h : nn ≤ 12) : 2 ^ nn ≤ 4096 := Nat.pow_le_pow_right (by omega) h
theorem AT_step {nn : Nat} {w : Nat → Nat → Int} {s t k : Nat} {x : Int} (hw : WW nn w) (h : AT nn w s x) (hx : x ≠ 1000000000000) (ht : pcn nn s = (t : Int)) (htn : t < nn) (hk : k < nn) (hb : bt s k = false) (hwk : w t k ≠ -1) : AT nn w (s ||| 2 ^ k) (x + w t k) := by
  rcases h with h | ⟨σ, t', h1, h2, h3, h4, h5⟩
  · exact absurd h hx
  · have e : t' = t := by omega
    subst e
    have hn : ∀ i, i < t' → σ i ≠ k := fun i hi e => by
      have : bt s k = true := by rw [← h4]; exact Mk_bt.mpr ⟨i, hi, e⟩
      rw [hb] at this
      exact absurd this (by decide)
    have es : ∀ i, i < t' → (if i = t' then k else σ i) = σ i := fun i hi => if_neg (by omega)
    have et : (if t' = t' then k else σ t') = k := if_pos rfl
    refine Or.inr ⟨fun i => if i = t' then k else σ i, t' + 1, by omega, ?_, ⟨fun i hi => ?_, fun i j hi hj e => ?_⟩, ?_, ?_⟩
    · rw [pcn_or hk hb, ht, Int.natCast_add]; rfl
    · by_cases e : i = t'
      · subst e
        dsimp only
        rw [if_pos rfl]
        exact ⟨hk, hwk⟩
      · dsimp only
        rw [if_neg e]
        exact h3.1 i (by omega)
    · dsimp only at e
      by_cases ei : i = t'
      · by_cases ej : j = t'
        · omega
        · rw [if_pos ei, if_neg ej] at e
          exact absurd e.symm (hn j (by omega))
      · by_cases ej : j = t'
        · rw [if_neg ei, if_pos ej] at e
          exact absurd e (hn i (by omega))
        · rw [if_neg ei, if_neg ej] at e
          exact h3.2 i j (by omega) (by omega) e
    · show Mk (fun i => if i = t' then k else σ i) t' ||| 2 ^ (if t' = t' then k else σ t') = _
      rw [et, Mk_congr (g := σ) es, h4]
    · show _ = S1 t' (fun i => w i (if i = t' then k else σ i)) + w t' (if t' = t' then k else σ t')
      rw [et, S1_congr (g := fun i => w i (σ i)) (fun i hi => by rw [es i hi]), h5]
theorem upL {b : Nat → Int64} {k i : Nat} {x : Int64} : vp_updL b k x i = if i = k then x else b i := rfl
theorem DP_skip {nn : Nat} {w : Nat → Nat → Int} {s k t : Nat} {b : Nat → Int64} (h : DP nn w s k b) (ht : pcn nn s = (t : Int)) (hc : bt s k = false → w t k ≠ -1 → (b (s ||| 2 ^ k)).toInt ≤ (b s).toInt + w t k) : DP nn w s (k + 1) b := by
  refine ⟨h.1, h.2.1, fun r t' j hr h1 h2 h3 h4 h5 h6 => ?_⟩
  by_cases e : r = s ∧ j = k
  · obtain ⟨rfl, rfl⟩ := e
    have : t' = t := by omega
    subst this
    exact hc h4 h5
  · exact h.2.2 r t' j hr h1 h2 h3 h4 h5 (by omega)
theorem DP_set {nn : Nat} {w : Nat → Nat → Int} {s k t : Nat} {b : Nat → Int64} {x : Int64} (hw : WW nn w) (h : DP nn w s k b) (hs : s < 2 ^ nn) (hk : k < nn) (htn : t < nn) (ht : pcn nn s = (t : Int)) (hb : bt s k = false) (hwk : w t k ≠ -1) (hx : x.toInt = (b s).toInt + w t k) (hlt : x.toInt < (b (s ||| 2 ^ k)).toInt) : DP nn w s (k + 1) (vp_updL b (s ||| 2 ^ k) x) := by
  have hgt := or_gt hb
  have hm := h.2.1 s hs
  have ho := h.2.1 (s ||| 2 ^ k) (or_lt hs hk)
  have wr := hw.2.2.1 t k htn hk
  refine ⟨?_, fun m hmn => ?_, fun r t' j hr h1 h2 h3 h4 h5 h6 => ?_⟩
  · rw [upL, if_neg (by omega)]
    exact h.1
  · rw [upL]
    by_cases e : m = s ||| 2 ^ k
    · rw [if_pos e, e, hx]
      refine ⟨AT_step hw hm.1 (by omega) ht htn hk hb hwk, by omega, by omega⟩
    · rw [if_neg e]
      exact h.2.1 m hmn
  · have er : vp_updL b (s ||| 2 ^ k) x r = b r := by rw [upL, if_neg (by omega)]
    rw [er]
    by_cases e : r = s ∧ j = k
    · obtain ⟨rfl, rfl⟩ := e
      have : t' = t := by omega
      subst this
      rw [upL, if_pos rfl]
      omega
    · have := h.2.2 r t' j hr h1 h2 h3 h4 h5 (by omega)
      rw [upL]
      by_cases e2 : r ||| 2 ^ j = s ||| 2 ^ k
      · rw [if_pos e2]
        rw [e2] at this
        omega
      · rw [if_neg e2]
        exact this
theorem DP_end {nn : Nat} {w : Nat → Nat → Int} {k : Nat} {b : Nat → Int64} (hw : WW nn w) (h : DP nn w (2 ^ nn) k b) : RA nn w (if (b (2 ^ nn - 1)).toInt = 1000000000000 then -1 else (b (2 ^ nn - 1)).toInt) := by
  have hp : 0 < 2 ^ nn := Nat.two_pow_pos nn
  have low : ∀ τ, Fl nn w nn τ → ∀ t, t ≤ nn → (b (Mk τ t)).toInt ≤ S1 t (fun i => w i (τ i)) := by
    intro τ hτ t
    induction t with
    | zero => intro _; show (b 0).toInt ≤ 0; rw [h.1]; exact Int.le_refl 0
    | succ t ih =>
      intro htn
      have h1 := ih (by omega)
      have hm : Mk τ t < 2 ^ nn := Mk_lt (fun i hi => (hτ.1 i (by omega)).1)
      have h2 := h.2.2 (Mk τ t) t (τ t) hm (Mk_pcn (fun i hi => (hτ.1 i (by omega)).1) (fun i j hi hj => hτ.2 i j (by omega) (by omega))) (by omega) (hτ.1 t (by omega)).1 (Mk_new (fun i hi e => by have := hτ.2 i t (by omega) (by omega) e; omega)) (hτ.1 t (by omega)).2 (Or.inl hm)
      show (b (Mk τ t ||| 2 ^ (τ t))).toInt ≤ S1 t (fun i => w i (τ i)) + w t (τ t)
      omega
  have lowf : ∀ τ, Fl nn w nn τ → (b (2 ^ nn - 1)).toInt ≤ S1 nn (fun i => w i (τ i)) := fun τ hτ => by
    have := low τ hτ nn (Nat.le_refl nn)
    rw [Mk_full (fun i hi => (hτ.1 i hi).1) hτ.2] at this
    exact this
  have hf := h.2.1 (2 ^ nn - 1) (by omega)
  by_cases e : (b (2 ^ nn - 1)).toInt = 1000000000000
  · rw [if_pos e]
    refine Or.inl ⟨rfl, ?_⟩
    rintro ⟨τ, hτ⟩
    have := lowf τ hτ
    have := Fl_rng hw (Nat.le_refl nn) hτ
    omega
  · rw [if_neg e]
    rcases hf.1 with h1 | ⟨σ, t, h1, h2, h3, h4, h5⟩
    · exact absurd h1 e
    · have hid : pcn nn (2 ^ nn - 1) = (nn : Int) := by
        have := Mk_pcn (f := fun i => i) (t := nn) (n := nn) (fun i hi => hi) (fun i j _ _ e => e)
        rw [Mk_full (fun i hi => hi) (fun i j _ _ e => e)] at this
        exact this
      have et : t = nn := by omega
      subst et
      exact Or.inr ⟨σ, h3, h5, lowf⟩
theorem far64 : (1000000000000 : Int64).toInt = 1000000000000 := by decide
theorem c_assignNow {N nn : Nat} {w : Nat → Nat → Int} {b54 b56 : Nat → Int64} (hN : 5000 ≤ N) (hw : WW nn w) (hR : Rw nn w b54) : Ok (fun r => RA nn w r.1.toInt) (f_X7_assignNow N (nI nn) b54 b56) := by
  have h3 := hw.1
  have h12 := hw.2.1
  have hp := pow12 h12
  have hp0 : 0 < 2 ^ nn := Nat.two_pow_pos nn
  unfold f_X7_assignNow
  rw [b_pow (by omega)]
  have outer : ∀ (b : Nat → Int64), DP nn w 0 0 b → Ok (fun r : Int64 × (Nat → Int64) => RA nn w r.1.toInt) (lq3 (f_X7_assignNow_39 N (nI nn) b54) N (nI (2 ^ nn)) 0 b) := by
    intro b hb
    refine lq3_ok (fun m x1 x2 z => ∃ s, x1 = nI (2 ^ nn) ∧ x2 = nI s ∧ s + m = 2 ^ nn ∧ DP nn w s 0 z) ?_ N (2 ^ nn) _ _ _ ⟨0, rfl, zero32, by omega, hb⟩ (by omega)
    rintro m nx x1 x2 z ⟨s, rfl, rfl, hm, hz⟩ ih
    unfold f_X7_assignNow_39
    have pm : nI (2 ^ nn) - (1 : Int32) = nI (2 ^ nn - 1) := nI_p1 (by omega)
    refine ok_if (fun y => ?_) (fun y => ?_)
    · rw [nI_lei (by omega) (by omega)] at y
      have e : s = 2 ^ nn := by omega
      subst e
      have fin := DP_end hw hz
      rw [pm, ck_N (by omega) (by omega), ck_N (by omega) (by omega), nI_c (by omega)]
      refine ok_if (fun y => ok_some ?_) (fun y => ok_some ?_)
      · rw [i64_eq, far64] at y
        rw [if_pos y] at fin
        exact fin
      · rw [i64_eq, far64] at y
        rw [if_neg y] at fin
        exact fin
    · rw [nI_lei (by omega) (by omega)] at y
      have hs : s < 2 ^ nn := by omega
      refine lq5_ok (fun m2 y1 y2 y3 y4 z2 => ∃ k t : Nat, y1 = nI (2 ^ nn) ∧ y2 = nI s ∧ y3 = nI t ∧ y4 = nI k ∧ k + m2 = nn ∧ t ≤ k ∧ z2 = z ∧ S1 k (fun i => if bt s i = true then 1 else 0) = (t : Int)) ?_ N nn _ _ _ _ _ ⟨0, 0, rfl, rfl, zero32, zero32, by omega, Nat.le_refl 0, rfl, rfl⟩ (by omega)
      rintro m2 nx2 y1 y2 y3 y4 z2 ⟨k, t, rfl, rfl, rfl, rfl, hm2, htk, rfl, ht⟩ ih2
      unfold f_X7_assignNow_49
      refine ok_if (fun y => ?_) (fun y => ?_)
      · rw [nI_lei (by omega) (by omega)] at y
        have e : k = nn := by omega
        subst e
        have ht : pcn k s = (t : Int) := ht
        refine lq5_ok (fun m3 y1 y2 y3 y4 z3 => ∃ j : Nat, y1 = nI (2 ^ k) ∧ y2 = nI s ∧ y3 = nI t ∧ y4 = nI j ∧ j + m3 = k ∧ DP k w s j z3) ?_ N k _ _ _ _ _ ⟨0, rfl, rfl, rfl, zero32, by omega, hz⟩ (by omega)
        rintro m3 nx3 y1 y2 y3 y4 z3 ⟨j, rfl, rfl, rfl, rfl, hm3, hD⟩ ih3
        unfold f_X7_assignNow_76
        have go : ∀ b, DP k w s k b ∨ (k ≤ t ∧ DP k w s j b) → Ok (fun r : Int64 × (Nat → Int64) => RA k w r.1.toInt) (nx (nI (2 ^ k)) (nI s + 1) b) := by
          intro b hb
          rw [nI_s]
          refine ih (m - 1) _ _ _ (by omega) ⟨s + 1, rfl, rfl, by omega, ?_⟩
          rcases hb with hb | ⟨hkt, hb⟩
          · refine ⟨hb.1, hb.2.1, fun r t' j' hr h1 h2 h3 h4 h5 h6 => hb.2.2 r t' j' hr h1 h2 h3 h4 h5 (by omega)⟩
          · refine ⟨hb.1, hb.2.1, fun r t' j' hr h1 h2 h3 h4 h5 h6 => hb.2.2 r t' j' hr h1 h2 h3 h4 h5 ?_⟩
            by_cases e : r = s
            · subst e
              omega
            · omega
        refine ok_if (fun y => ?_) (fun y => ?_)
        · rw [nI_lei (by omega) (by omega)] at y
          have e : j = k := by omega
          rw [e] at hD
          exact go z3 (Or.inl hD)
        rw [nI_lei (by omega) (by omega)] at y
        refine ok_if (fun y2 => ?_) (fun y2 => ?_)
        · rw [nI_lei (by omega) (by omega)] at y2
          exact go z3 (Or.inr ⟨y2, hD⟩)
        rw [nI_lei (by omega) (by omega)] at y2
        have hj : j < k := by omega
        have htn : t < k := by omega
        have stay : (bt s j = false → w t j ≠ -1 → (z3 (s ||| 2 ^ j)).toInt ≤ (z3 s).toInt + w t j) → Ok (fun r : Int64 × (Nat → Int64) => RA k w r.1.toInt) (nx3 (nI (2 ^ k)) (nI s) (nI t) (nI j + 1) z3) := by
          intro hc
          rw [nI_s]
          exact ih3 (m3 - 1) _ _ _ _ _ (by omega) ⟨j + 1, rfl, rfl, rfl, rfl, by omega, DP_skip hD ht hc⟩
        rw [b_bit (by omega) (by omega), bt_mod]
        refine ok_if (fun y3 => ?_) (fun y3 => ?_)
        · have hb : bt s j = false := by
            cases hh : bt s j with
            | false => rfl
            | true => rw [hh] at y3; exact absurd y3 (by decide)
          refine ok_if (fun y4 => ?_) (fun y4 => ?_)
          · rw [nI_eqi (by omega) (by omega)] at y4
            refine stay (fun _ h => absurd ?_ h)
            rw [y4]
            exact hw.2.2.2 t htn
          rw [r_way (by omega) (by omega)]
          have ew := hR t j htn hj
          have wr := hw.2.2.1 t j htn hj
          have fw := fr_rng wr.1 wr.2
          show Ok _ (if (1000000000000 : Int64) ≤ b54 (12 * t + j) then _ else _)
          refine ok_if (fun y5 => ?_) (fun y5 => ?_)
          · rw [i64_le, far64, ew] at y5
            refine stay (fun _ h => absurd ?_ h)
            omega
          rw [i64_le, far64, ew] at y5
          have hwt : w t j ≠ -1 := by omega
          have hor := or_lt hs hj
          have ds := hD.2.1 s hs
          rw [b_pow (by omega), b_or, nI_c (by omega), nI_c (by omega), ck_N (by omega) (by omega)]
          show Ok _ (ck (nI (s ||| 2 ^ j)) 4096 _)
          rw [ck_N (by omega) (by omega)]
          have esum : (z3 s + b54 (12 * t + j)).toInt = (z3 s).toInt + w t j := by
            have := fw.2.2.2.2 hwt
            rw [i64_add] <;> rw [ew] <;> omega
          refine ok_if (fun y6 => ?_) (fun y6 => ?_)
          · rw [i64_le, esum] at y6
            exact stay (fun _ _ => y6)
          · rw [i64_le, esum] at y6
            rw [ck_N (by omega) (by omega)]
            show Ok _ (ck (nI (s ||| 2 ^ j)) 4096 _)
            rw [ck_N (by omega) (by omega)]
            refine ok_nmd ?_
            rw [nI_s]
            exact ih3 (m3 - 1) _ _ _ _ _ (by omega) ⟨j + 1, rfl, rfl, rfl, rfl, by omega, DP_set hw hD hs hj htn ht hb hwt esum (by omega)⟩
        · refine stay (fun h => absurd ?_ y3)
          rw [h]
          decide
      · rw [nI_lei (by omega) (by omega)] at y
        refine ok_nmd ?_
        rw [b_bit (by omega) (by omega), nI_add, nI_s]
        have hmod : s / 2 ^ k % 2 < 2 := Nat.mod_lt _ (by decide)
        refine ih2 (m2 - 1) _ _ _ _ _ (by omega) ⟨k + 1, t + s / 2 ^ k % 2, rfl, rfl, rfl, rfl, by omega, by omega, rfl, ?_⟩
        show S1 k (fun i => if bt s i = true then 1 else 0) + (if bt s k = true then 1 else 0) = _
        rw [ht, Int.natCast_add, bt_mod]
        split <;> rfl
  refine lq3_ok (fun m x1 x2 z => ∃ s, x1 = nI (2 ^ nn) ∧ x2 = nI s ∧ s + m = 2 ^ nn ∧ ∀ i, i < s → z i = if i = 0 then 0 else 1000000000000) ?_ N (2 ^ nn) _ _ _ ⟨0, rfl, zero32, by omega, fun i hi => absurd hi (Nat.not_lt_zero i)⟩ (by omega)
  rintro m nx x1 x2 z ⟨s, rfl, rfl, hm, hz⟩ ih
  unfold f_X7_assignNow_9
  refine ok_if (fun y => ?_) (fun y => ?_)
  · rw [nI_lei (by omega) (by omega)] at y
    have e : s = 2 ^ nn := by omega
    subst e
    refine outer z ⟨?_, fun i hi => ?_, fun r t' j' hr h1 h2 h3 h4 h5 h6 => by omega⟩
    · rw [hz 0 hp0, if_pos rfl]; decide
    · rw [hz i hi]
      by_cases e : i = 0
      · rw [if_pos e, e]
        refine ⟨Or.inr ⟨fun _ => 0, 0, by omega, pcn_0 nn, ⟨fun i hi => absurd hi (Nat.not_lt_zero i), fun i j hi => absurd hi (Nat.not_lt_zero i)⟩, rfl, (show (0 : Int64).toInt = 0 by decide)⟩, by decide, by decide⟩
      · rw [if_neg e, far64]
        exact ⟨Or.inl rfl, by decide, by decide⟩
  · rw [nI_lei (by omega) (by omega)] at y
    rw [ck_N (by omega) (by omega), ck_N (by omega) (by omega), nI_c (by omega)]
    refine ok_if (fun y2 => ?_) (fun y2 => ?_)
    · rw [zero32, nI_eqi (by omega) (by omega)] at y2
      subst y2
      refine ok_nmd ?_
      rw [nI_s]
      refine ih (m - 1) _ _ _ (by omega) ⟨0 + 1, rfl, rfl, by omega, fun i hi => ?_⟩
      rw [upL, if_pos (by omega), if_pos (by omega)]
    · rw [zero32, nI_eqi (by omega) (by omega)] at y2
      refine ok_nmd ?_
      rw [nI_s]
      refine ih (m - 1) _ _ _ (by omega) ⟨s + 1, rfl, rfl, by omega, fun i hi => ?_⟩
      rw [upL]
      by_cases e : i = s
      · rw [if_pos e, if_neg (by omega)]
      · rw [if_neg e]
        exact hz i (by omega)
/-- the class's assignment is least of all, too -/
theorem AS_RA {nn : Nat} {w : Nat → Nat → Int} {x : Int64} (hw : WW nn w) (h : AS nn w x) : RA nn w x.toInt := by
  obtain ⟨q, u, v, hM, hx⟩ := h
  have hfull := MS_full hM
  obtain ⟨m1, m2, m3, m4, m5, m6, m7, m8, m9⟩ := hM
  have h12 := hw.2.1
  have r1 : ∀ j, j < nn → q (j + 1) - 1 < nn ∧ q (j + 1) - 1 + 1 = q (j + 1) := fun j hj => by
    have a := m1 (j + 1) (by omega) (by omega)
    have b := hfull (j + 1) (by omega) (by omega)
    omega
  have inj : ∀ i j, i < nn → j < nn → q (i + 1) - 1 = q (j + 1) - 1 → i = j := fun i j hi hj e => by
    have a := r1 i hi
    have b := r1 j hj
    have := m2 (i + 1) (j + 1) (by omega) (by omega) (by omega) (by omega) (by omega) (hfull (i + 1) (by omega) (by omega))
    omega
  have eS : S1 nn (fun j => cst w (q (j + 1)) (j + 1)) = S1 nn (fun i => u (i + 1)) + S1 nn (fun j => v (j + 1)) := by
    rw [← perm_sum (f := fun j => q (j + 1) - 1) (fun j hj => (r1 j hj).1) inj (fun i => u (i + 1)), ← S1_add]
    refine S1_congr (fun j hj => ?_)
    show _ = u (q (j + 1) - 1 + 1) + v (j + 1)
    rw [(r1 j hj).2]
    exact (m5 (j + 1) (by omega) (by omega) (hfull (j + 1) (by omega) (by omega))).symm
  have ec : ∀ i j, w i j ≠ -1 → cst w (i + 1) (j + 1) = w i j := fun i j h => if_neg h
  have low : ∀ τ, Fl nn w nn τ → S1 nn (fun j => cst w (q (j + 1)) (j + 1)) ≤ S1 nn (fun i => w i (τ i)) := fun τ hτ => by
    rw [eS, ← perm_sum (f := τ) (fun i hi => (hτ.1 i hi).1) hτ.2 (fun j => v (j + 1)), ← S1_add]
    refine S1_le (fun i hi => ?_)
    rw [← ec i (τ i) (hτ.1 i hi).2]
    have := (hτ.1 i hi).1
    exact m4 (i + 1) (τ i + 1) (by omega) (by omega) (by omega) (by omega)
  have cr : ∀ j, j < nn → 0 ≤ cst w (q (j + 1)) (j + 1) := fun j hj => (cst_rng hw (by have := r1 j hj; omega) (by omega)).1
  by_cases c : S1 nn (fun j => cst w (q (j + 1)) (j + 1)) < 100000000
  · rw [if_pos c] at hx
    have hall := Mk_all (f := fun j => q (j + 1) - 1) (fun j hj => (r1 j hj).1) inj
    have hσ : ∃ σ : Nat → Nat, ∀ i, i < nn → σ i < nn ∧ q (σ i + 1) - 1 = i :=
      ⟨fun i => if h : i < nn then (hall i h).choose else 0, fun i hi => by
        dsimp only
        rw [dif_pos hi]
        exact (hall i hi).choose_spec⟩
    obtain ⟨σ, hσ⟩ := hσ
    have hww : ∀ j, j < nn → w (q (j + 1) - 1) j ≠ -1 := fun j hj e => by
      have h1 := S1_ge (f := fun j => cst w (q (j + 1)) (j + 1)) cr hj
      have h2 : cst w (q (j + 1)) (j + 1) = 100000000 := if_pos e
      have h1 : cst w (q (j + 1)) (j + 1) ≤ S1 nn (fun j => cst w (q (j + 1)) (j + 1)) := h1
      omega
    have hF : Fl nn w nn σ := ⟨fun i hi => ⟨(hσ i hi).1, by
      have := hww (σ i) (hσ i hi).1
      rw [(hσ i hi).2] at this
      exact this⟩, fun i j hi hj e => by
      have a := (hσ i hi).2
      have b := (hσ j hj).2
      rw [e] at a
      omega⟩
    refine Or.inr ⟨σ, hF, ?_, fun τ hτ => by rw [hx]; exact low τ hτ⟩
    rw [hx, ← perm_sum (f := fun j => q (j + 1) - 1) (fun j hj => (r1 j hj).1) inj (fun i => w i (σ i))]
    refine S1_congr (fun j hj => ?_)
    have es : σ (q (j + 1) - 1) = j := inj _ _ (hσ _ (r1 j hj).1).1 hj (hσ _ (r1 j hj).1).2
    show _ = w (q (j + 1) - 1) (σ (q (j + 1) - 1))
    rw [es]
    exact if_neg (hww j hj)
  · rw [if_neg c] at hx
    refine Or.inl ⟨hx, ?_⟩
    rintro ⟨τ, hτ⟩
    have := low τ hτ
    have := Fl_rng hw (Nat.le_refl nn) hτ
    omega
/-- promise 5: class and reference answer alike -/
theorem t_assign {N nn : Nat} {w : Nat → Nat → Int} {g0 : Nat → Nat → Int32} {b54 b56 b50 b51 b52 : Nat → Int64} {a23 a24 a25 : Nat → Int32} (hN : 5000 ≤ N) (hw : WW nn w) (h0 : Cw nn w g0) (hR : Rw nn w b54) : ∃ r s, f_X0_leastSum N nn (nI nn) g0 a23 a24 a25 b50 b51 b52 = some r ∧ f_X7_assignNow N (nI nn) b54 b56 = some s ∧ r.1 = s.1 ∧ RA nn w r.1.toInt := by
  obtain ⟨r, er, hr⟩ := c_least (N := N) (a23 := a23) (a24 := a24) (a25 := a25) (b50 := b50) (b51 := b51) (b52 := b52) (by omega) hw h0
  obtain ⟨s, es, hs⟩ := c_assignNow (b56 := b56) hN hw hR
  have hr := AS_RA hw hr
  exact ⟨r, s, er, es, i64_eq.mpr (RA_uniq hr hs), hr⟩
