/-! ===== cheapestFromPlace0, makeTree ===== -/
/-- streets at place 0, but one -/
def C0 (nn : Nat) (w : Nat → Nat → Int) (but : Int32) (b : Nat) : Prop := 1 ≤ b ∧ b < nn ∧ nI b ≠ but ∧ st w 0 b ≠ -1
def L1 (q : Nat → Int) (j b : Nat) : Prop := q j < q b ∨ (q j = q b ∧ j ≤ b)
def B1 (C : Nat → Prop) (q : Nat → Int) (n : Nat) (x : Int32) : Prop := (x = -1 ∧ ∀ b, b < n → ¬ C b) ∨ ∃ j, x = nI j ∧ j < n ∧ C j ∧ ∀ b, b < n → C b → L1 q j b
theorem B1_skip {C : Nat → Prop} {q : Nat → Int} {n : Nat} {x : Int32} (h : B1 C q n x) (hc : ¬ C n) : B1 C q (n + 1) x := by
  rcases h with ⟨h1, h2⟩ | ⟨j, h1, h2, h3, h4⟩
  · refine Or.inl ⟨h1, fun b hb hC => ?_⟩
    by_cases e : b = n
    · subst e; exact hc hC
    · exact h2 b (by omega) hC
  · refine Or.inr ⟨j, h1, by omega, h3, fun b hb hC => ?_⟩
    by_cases e : b = n
    · subst e; exact absurd hC hc
    · exact h4 b (by omega) hC
theorem B1_first {C : Nat → Prop} {q : Nat → Int} {n : Nat} (hn : n < 2147483648) (h : B1 C q n (-1)) (hc : C n) : B1 C q (n + 1) (nI n) := by
  rcases h with ⟨-, h2⟩ | ⟨j, h1, h2, -⟩
  · refine Or.inr ⟨n, rfl, by omega, hc, fun b hb hC => ?_⟩
    by_cases e : b = n
    · subst e; exact Or.inr ⟨rfl, Nat.le_refl b⟩
    · exact absurd hC (h2 b (by omega))
  · exact absurd h1.symm (nI_nm1 (by omega))
theorem B1_keep {C : Nat → Prop} {q : Nat → Int} {n j : Nat} (h : j < n ∧ C j ∧ ∀ b, b < n → C b → L1 q j b) (hq : q j ≤ q n) : B1 C q (n + 1) (nI j) := by
  refine Or.inr ⟨j, rfl, by omega, h.2.1, fun b hb hC => ?_⟩
  by_cases e : b = n
  · subst e
    have := h.1
    unfold L1
    omega
  · exact h.2.2 b (by omega) hC
theorem B1_new {C : Nat → Prop} {q : Nat → Int} {n j : Nat} (h : j < n ∧ C j ∧ ∀ b, b < n → C b → L1 q j b) (hc : C n) (hq : q n < q j) : B1 C q (n + 1) (nI n) := by
  refine Or.inr ⟨n, rfl, by omega, hc, fun b hb hC => ?_⟩
  by_cases e : b = n
  · subst e; exact Or.inr ⟨rfl, Nat.le_refl b⟩
  · have := h.2.2 b (by omega) hC
    unfold L1 at this ⊢
    omega
theorem c_cheap {N nn : Nat} {w : Nat → Nat → Int} {u : Nat → Int} {a20 : Nat → Int32} {g1 : Nat → Nat → Int32} (hN : 100 ≤ N) (hw : WW nn w) (hs : Cs nn w g1) (hu : Wt nn u a20) (but : Int32) : Ok (fun x => B1 (C0 nn w but) (pr w u 0) nn x) (f_X2_cheapestFromPlace0 N nn (nI nn) a20 g1 but) := by
  have h3 := hw.1
  have h12 := hw.2.1
  unfold f_X2_cheapestFromPlace0
  refine lq3_ok (fun m x1 x2 x3 => but = x1 ∧ ∃ b, x3 = nI b ∧ 1 ≤ b ∧ b + m = nn ∧ B1 (C0 nn w but) (pr w u 0) b x2) ?_ N (nn - 1) but (-1) 1 ⟨rfl, 1, by decide, by omega, by omega, Or.inl ⟨rfl, fun b h1 h2 => ?_⟩⟩ (by omega)
  · rintro m nx x1 x2 x3 ⟨rfl, b, rfl, hb1, hm, hB⟩ ih
    unfold f_X2_cheapestFromPlace0_4
    refine ok_if (fun q => ?_) (fun q => ?_)
    · rw [nI_lei (by omega) (by omega)] at q
      have : b = nn := by omega
      subst this
      exact ok_some hB
    · rw [nI_lei (by omega) (by omega)] at q
      have hbn : b < nn := by omega
      have cb : (nI b).toNatClampNeg = b := nI_c (by omega)
      have c0 : (0 : Int32).toNatClampNeg = 0 := by decide
      have skip : ¬ C0 nn w but b → Ok _ (nx but x2 (nI (b + 1))) := fun hn => ih (m - 1) _ _ _ (by omega) ⟨rfl, b + 1, rfl, by omega, by omega, B1_skip hB hn⟩
      rw [nI_s]
      refine ok_if (fun z => skip (fun h => h.2.2.1 z)) (fun z => ?_)
      rw [zero32, ck_N (show 0 < nn by omega) (by omega), ck_N hbn (by omega), ← zero32, c0, cb]
      refine ok_if (fun y => ?_) (fun y => ?_)
      · rw [i32_eq, m1_toInt, hs 0 b (by omega) hbn] at y
        exact skip (fun h => h.2.2.2 y)
      · rw [i32_eq, m1_toInt, hs 0 b (by omega) hbn] at y
        have hC : C0 nn w but b := ⟨hb1, hbn, z, y⟩
        refine ok_if (fun x => ?_) (fun x => ?_)
        · subst x
          exact ih (m - 1) _ _ _ (by omega) ⟨rfl, b + 1, rfl, by omega, by omega, B1_first (by omega) hB hC⟩
        · rcases hB with ⟨h1, -⟩ | ⟨j, rfl, h⟩
          · exact absurd h1 x
          · obtain ⟨v1, e1, hv1⟩ := c_price hw hs hu (show 0 < nn by omega) hbn
            obtain ⟨v2, e2, hv2⟩ := c_price hw hs hu (show 0 < nn by omega) (show j < nn by have := h.1; omega)
            rw [zero32, e1, e2]
            show Ok _ (if v2 ≤ v1 then _ else _)
            refine ok_if (fun t => ?_) (fun t => ?_)
            · rw [i64_le, hv1, hv2] at t
              exact ih (m - 1) _ _ _ (by omega) ⟨rfl, b + 1, rfl, by omega, by omega, B1_keep h t⟩
            · rw [i64_le, hv1, hv2] at t
              exact ih (m - 1) _ _ _ (by omega) ⟨rfl, b + 1, rfl, by omega, by omega, B1_new h hC (by omega)⟩
  · have := h2.1
    omega
/-- the two cheapest streets at place 0 -/
def FS (nn : Nat) (w : Nat → Nat → Int) (u : Nat → Int) (f s : Nat) : Prop := (1 ≤ f ∧ f < nn ∧ st w 0 f ≠ -1 ∧ ∀ b, 1 ≤ b → b < nn → st w 0 b ≠ -1 → L1 (pr w u 0) f b) ∧ 1 ≤ s ∧ s < nn ∧ s ≠ f ∧ st w 0 s ≠ -1 ∧ ∀ b, 1 ≤ b → b < nn → b ≠ f → st w 0 b ≠ -1 → L1 (pr w u 0) s b
def NZ (nn : Nat) (w : Nat → Nat → Int) : Prop := ∀ f s, 1 ≤ f → f < nn → 1 ≤ s → s < nn → f ≠ s → st w 0 f ≠ -1 → st w 0 s ≠ -1 → False
theorem FS_one {nn : Nat} {w : Nat → Nat → Int} {u : Nat → Int} {f s f' s' : Nat} (h : FS nn w u f s) (h' : FS nn w u f' s') : f = f' ∧ s = s' := by
  obtain ⟨⟨a1, a2, a3, a4⟩, b1, b2, b3, b4, b5⟩ := h
  obtain ⟨⟨c1, c2, c3, c4⟩, d1, d2, d3, d4, d5⟩ := h'
  have e1 := a4 f' c1 c2 c3
  have e2 := c4 f a1 a2 a3
  have ef : f = f' := by
    unfold L1 at e1 e2
    omega
  subst ef
  have e3 := b5 s' d1 d2 d3 d4
  have e4 := d5 s b1 b2 b3 b4
  refine ⟨rfl, ?_⟩
  unfold L1 at e3 e4
  omega
/-- how many streets of the linked tree end at v -/
def dgK (nn : Nat) (K : Nat → Nat → Int) (f s : Nat) (v : Nat) : Int := S1 nn (fun b => K v b + K b v) + (if v = 0 then 2 else 0) + (if v = f then 1 else 0) + (if v = s then 1 else 0)
/-- its worth -/
def wth (nn : Nat) (w : Nat → Nat → Int) (u : Nat → Int) (K : Nat → Nat → Int) (f s : Nat) : Int := S2 nn (fun a b => K a b * pr w u a b) + pr w u 0 f + pr w u 0 s - 2 * S1 nn u
/-- what making a linked tree gives -/
def TR (nn : Nat) (w : Nat → Nat → Int) (u : Nat → Int) (ok : Prop) (wo : Int) (d : Nat → Int) : Prop := (¬ ok ∧ (KN nn w ∨ NZ nn w)) ∨ (ok ∧ ∃ K f s, KF nn w u K ∧ FS nn w u f s ∧ wo = wth nn w u K f s ∧ ∀ v, v < nn → d v = dgK nn K f s v)
theorem dgK_upd {nn : Nat} {K : Nat → Nat → Int} {i j v : Nat} (hi : i < nn) (hj : j < nn) (hij : i ≠ j) (hv : v < nn) : S1 nn (fun b => (K v b + if v = i ∧ b = j then 1 else 0) + (K b v + if b = i ∧ v = j then 1 else 0)) = S1 nn (fun b => K v b + K b v) + (if v = i then 1 else 0) + (if v = j then 1 else 0) := by
  rw [S1_congr (g := fun b => (K v b + K b v) + ((if v = i ∧ b = j then 1 else 0) + (if b = i ∧ v = j then 1 else 0))) (fun b _ => by omega), S1_add (f := fun b => K v b + K b v) (g := fun b => (if v = i ∧ b = j then 1 else 0) + (if b = i ∧ v = j then 1 else 0)), S1_add (f := fun b => if v = i ∧ b = j then 1 else 0) (g := fun b => if b = i ∧ v = j then 1 else 0)]
  have e1 : S1 nn (fun b => if v = i ∧ b = j then (1 : Int) else 0) = if v = i then 1 else 0 := by
    by_cases q : v = i
    · rw [if_pos q, S1_congr (g := fun b => if b = j then 1 else 0) (fun b _ => by simp [q]), S1_one, if_pos hj]
    · rw [if_neg q, S1_congr (g := fun _ => 0) (fun b _ => by simp [q]), S1_zero]
  have e2 : S1 nn (fun b => if b = i ∧ v = j then (1 : Int) else 0) = if v = j then 1 else 0 := by
    by_cases q : v = j
    · rw [if_pos q, S1_congr (g := fun b => if b = i then 1 else 0) (fun b _ => by simp [q]), S1_one, if_pos hi]
    · rw [if_neg q, S1_congr (g := fun _ => 0) (fun b _ => by simp [q]), S1_zero]
  rw [e1, e2]
  omega
theorem wth_upd {nn : Nat} {w : Nat → Nat → Int} {u : Nat → Int} {K : Nat → Nat → Int} {i j : Nat} (hi : i < nn) (hj : j < nn) : S2 nn (fun a b => (K a b + if a = i ∧ b = j then 1 else 0) * pr w u a b) = S2 nn (fun a b => K a b * pr w u a b) + pr w u i j := by
  rw [S2_congr (g := fun a b => K a b * pr w u a b + if a = i ∧ b = j then pr w u i j else 0), S2_upd hi hj]
  intro a b _ _
  by_cases q : a = i ∧ b = j
  · rw [if_pos q, if_pos q, q.1, q.2, Int.add_mul, Int.one_mul]
  · rw [if_neg q, if_neg q, Int.add_zero, Int.add_zero]
theorem Dg_to {nn : Nat} {d d' : Nat → Int} {a : Nat → Int32} (h : Dg nn d a) (e : ∀ v, v < nn → d v = d' v) : Dg nn d' a := fun v hv => by
  rw [← e v hv]; exact h v hv
theorem KI_deg {nn : Nat} {w : Nat → Nat → Int} {u : Nat → Int} {t : Nat} {K : Nat → Nat → Int} {c : Nat → Nat} (h : KI nn w u t K c) (h12 : nn ≤ 12) (v : Nat) : 0 ≤ S1 nn (fun b => K v b + K b v) ∧ S1 nn (fun b => K v b + K b v) ≤ 24 := by
  have k : ∀ a b, 0 ≤ K a b ∧ K a b ≤ 1 := by
    intro a b
    rcases h.1 a b with q | q
    · rw [q]; decide
    · rw [q.1]; decide
  refine ⟨S1_nonneg (fun b _ => ?_), ?_⟩
  · have := k v b
    have := k b v
    omega
  · have := S1_bound (n := nn) (f := fun b => K v b + K b v) (c := 2) (fun b _ => by
      have := k v b
      have := k b v
      show K v b + K b v ≤ 2
      omega)
    omega
/-- what the class's makeTree gives -/
def CT (nn : Nat) (w : Nat → Nat → Int) (u : Nat → Int) (r : Int32 × Int64 × (Nat → Int32) × (Nat → Int32)) : Prop := (r.1 = 0 ∧ (KN nn w ∨ NZ nn w)) ∨ (r.1 = 1 ∧ ∃ K f s, KF nn w u K ∧ FS nn w u f s ∧ r.2.1.toInt = wth nn w u K f s ∧ Dg nn (dgK nn K f s) r.2.2.1)
theorem c_make {N nn : Nat} {w : Nat → Nat → Int} {u : Nat → Int} {a20 a21 a22 : Nat → Int32} {g1 : Nat → Nat → Int32} {j0 : Int64} (hN : 100 ≤ N) (hw : WW nn w) (hs : Cs nn w g1) (hu : Wt nn u a20) : Ok (CT nn w u) (f_X2_makeTree N nn (nI nn) a20 g1 j0 a21 a22) := by
  have h3 := hw.1
  have h12 := hw.2.1
  have u1 : S1 nn u ≤ nn * 100000 := S1_bound (fun i hi => (hu i hi).2.2)
  have u2 : nn * (-100000) ≤ S1 nn u := S1_bound' (fun i hi => (hu i hi).2.1)
  unfold f_X2_makeTree
  refine lq4_ok (fun m x1 y1 y2 y3 => ∃ i, x1 = nI i ∧ i + m = nn ∧ y1.toInt = -2 * S1 i u ∧ ∀ v, v < i → y2 v = 0 ∧ y3 v = nI v) ?_ N nn 0 0 a21 a22 ⟨0, nI_0.symm, by omega, (show (0 : Int64).toInt = -2 * 0 by decide), fun v h => absurd h (Nat.not_lt_zero v)⟩ (by omega)
  rintro m nx x1 y1 y2 y3 ⟨i, rfl, hm, hy1, hv⟩ ih
  unfold f_X2_makeTree_7
  refine ok_if (fun q => ?_) (fun q => ?_)
  · rw [nI_lei (by omega) (by omega)] at q
    have ei : i = nn := by omega
    subst ei
    clear ih
    refine lq4_ok (fun m x1 z1 z2 z3 => ∃ (t : Nat) (K : Nat → Nat → Int) (c : Nat → Nat), x1 = nI (t + 2) ∧ t + 2 + m = i ∧ KI i w u t K c ∧ Pc i c z3 ∧ Dg i (fun v => S1 i (fun b => K v b + K b v)) z2 ∧ z1.toInt = S2 i (fun a b => K a b * pr w u a b) - 2 * S1 i u ∧ -200002 * (t : Int) ≤ S2 i (fun a b => K a b * pr w u a b) ∧ S2 i (fun a b => K a b * pr w u a b) ≤ 2200000 * (t : Int)) ?_ N (i - 2) 2 y1 y2 y3 ⟨0, fun _ _ => 0, fun v => v, by decide, by omega, KI_0 w u h3 (fun _ _ => rfl), fun v h => ⟨(hv v h).2, h⟩, fun v h => ?_, ?_, ?_, ?_⟩ (by omega)
    · rintro m nx x1 z1 z2 z3 ⟨t, K, c, rfl, hm, hK, hP, hD, hz, hb1, hb2⟩ ih
      unfold f_X2_makeTree_60
      have hdeg := KI_deg hK h12
      refine ok_if (fun q => ?_) (fun q => ?_)
      · rw [nI_lei (by omega) (by omega)] at q
        have hKF := KI_end h3 hK (by omega)
        refine ok_bd (c_cheap hN hw hs hu (-1)) (fun f hf => ?_)
        refine ok_bd (c_cheap hN hw hs hu f) (fun s hs' => ?_)
        refine ok_if (fun e => ?_) (fun e => ?_)
        · subst e
          refine ok_bz (Or.inl rfl) (ok_some (Or.inl ⟨rfl, Or.inr ?_⟩))
          intro f s f1 f2 s1 s2 hfs hf0 _
          rcases hf with ⟨-, h⟩ | ⟨j, h1, h2, -⟩
          · exact h f f2 ⟨f1, f2, nI_nm1 (by omega), hf0⟩
          · exact absurd h1.symm (nI_nm1 (by omega))
        · rcases hf with ⟨h, -⟩ | ⟨f', rfl, f1, f2, f3⟩
          · exact absurd h e
          · refine ok_if (fun e2 => ?_) (fun e2 => ?_)
            · subst e2
              refine ok_bz (Or.inl rfl) (ok_some (Or.inl ⟨rfl, Or.inr ?_⟩))
              intro a b a1 a2 b1 b2 hab ha0 hb0
              rcases hs' with ⟨-, h⟩ | ⟨j, h1, h2, -⟩
              · by_cases z : a = f'
                · subst z
                  exact h b b2 ⟨b1, b2, fun y => hab ((nI_eqi (by omega) (by omega)).mp y).symm, hb0⟩
                · exact h a a2 ⟨a1, a2, fun y => z ((nI_eqi (by omega) (by omega)).mp y), ha0⟩
              · exact absurd h1.symm (nI_nm1 (by omega))
            · rcases hs' with ⟨h, -⟩ | ⟨s', rfl, s1, s2, s3⟩
              · exact absurd h e2
              · have hFS : FS i w u f' s' := ⟨⟨f2.1, f1, f2.2.2.2, fun b b1 b2 b3 => f3 b b2 ⟨b1, b2, nI_nm1 (by omega), b3⟩⟩, s2.1, s1, fun y => s2.2.2.1 (by rw [y]), s2.2.2.2, fun b b1 b2 b3 b4 => s3 b b2 ⟨b1, b2, fun y => b3 ((nI_eqi (by omega) (by omega)).mp y), b4⟩⟩
                have f0 : (0 : Nat) ≠ f' := by have := f2.1; omega
                have s0 : (0 : Nat) ≠ s' := by have := s2.1; omega
                have p1 := pr_rng hw hu (show 0 < i by omega) f1
                have p2 := pr_rng hw hu (show 0 < i by omega) s1
                obtain ⟨j1, d1, t1, t2, t3⟩ := c_take hw hs hu hD (show 0 < i by omega) f1 f0 (j0 := z1) (by rw [hz]; omega) (by have := hdeg 0; omega) (by have := hdeg f'; omega)
                have dd : ∀ v, dup (fun v => S1 i (fun b => K v b + K b v)) 0 f' v ≤ 26 := by
                  intro v
                  have := (hdeg v).2
                  unfold dup
                  dsimp only
                  repeat' split
                  all_goals omega
                obtain ⟨j2, d2, t4, t5, t6⟩ := c_take hw hs hu t3 (show 0 < i by omega) s1 s0 (j0 := j1) (by rw [t2, hz]; omega) (by have := dd 0; omega) (by have := dd s'; omega)
                rw [zero32, t1]
                show Ok _ (bd (f_X2_take i a20 g1 j1 d1 (nI 0) (nI s')) _)
                rw [t4]
                refine ok_bz (Or.inr rfl) (ok_some (Or.inr ⟨rfl, K, f', s', hKF, hFS, ?_, Dg_to t6 (fun v _ => ?_)⟩))
                · show j2.toInt = _
                  rw [t5, t2, hz]
                  unfold wth
                  omega
                · unfold dup dgK
                  dsimp only
                  repeat' split
                  all_goals omega
      · rw [nI_lei (by omega) (by omega)] at q
        refine ok_bd (c_join hN hw hs hu hD (fun v _ => by have := (hdeg v).2; show S1 i (fun b => K v b + K b v) < 1000; omega) hP (j0 := z1) (by rw [hz]; omega)) (fun r hr => ?_)
        rcases hr with ⟨r1, r2⟩ | ⟨r1, a, b, hab, hle, hj, hd, hp⟩
        · rw [if_pos r1]
          exact ok_bz (Or.inl rfl) (ok_some (Or.inl ⟨rfl, Or.inl (KI_none h3 hK (by omega) r2)⟩))
        · rw [if_neg (by rw [r1]; decide), nI_s]
          have ha : a < i := by have := hab.2.1; have := hab.2.2.1; omega
          have hb := hab.2.2.1
          have hne : a ≠ b := by have := hab.2.1; omega
          have p1 := pr_rng hw hu ha hb
          refine ih (m - 1) _ _ _ _ (by omega) ⟨t + 1, _, _, rfl, by omega, KI_join hK hab hle, hp, Dg_to hd (fun v hv => ?_), ?_, ?_, ?_⟩
          · rw [dgK_upd ha hb hne hv]
            rfl
          · rw [hj, hz, wth_upd ha hb]
            omega
          · rw [wth_upd ha hb]
            omega
          · rw [wth_upd ha hb]
            omega
    · rw [(hv v h).1]
      have e0 : (fun v => S1 i (fun b => (fun _ _ => (0 : Int)) v b + (fun _ _ => (0 : Int)) b v)) v = 0 := by
        exact S1_zero i
      rw [e0]
      exact ⟨by decide, by decide, by decide⟩
    · rw [hy1, S2_congr (g := fun _ _ => 0) (fun a b _ _ => Int.zero_mul _), S2_zero]
      omega
    · rw [S2_congr (g := fun _ _ => 0) (fun a b _ _ => Int.zero_mul _), S2_zero]
      decide
    · rw [S2_congr (g := fun _ _ => 0) (fun a b _ _ => Int.zero_mul _), S2_zero]
      decide
  · rw [nI_lei (by omega) (by omega)] at q
    have hi : i < nn := by omega
    have ci : (nI i).toNatClampNeg = i := nI_c (by omega)
    have e2 : (2 : Int64).toInt = 2 := by decide
    have hui := hu i hi
    have s1 : S1 i u ≤ i * 100000 := S1_bound (fun j hj => (hu j (by omega)).2.2)
    have s2 : i * (-100000) ≤ S1 i u := S1_bound' (fun j hj => (hu j (by omega)).2.1)
    simp only [ck_N hi (show nn < 2147483648 by omega), nmd, ci, nI_s]
    have m1 : ((2 : Int64) * (a20 i).toInt64).toInt = 2 * u i := by
      rw [i64_mul] <;> rw [e2, i64_of32, hui.1] <;> omega
    refine ih (m - 1) _ _ _ _ (by omega) ⟨i + 1, rfl, by omega, ?_, fun v hvi => ?_⟩
    · show _ = -2 * (S1 i u + u i)
      rw [i64_sub] <;> rw [m1, hy1] <;> omega
    · by_cases e : v = i
      · subst e
        rw [pk_us, pk_us]
        exact ⟨rfl, rfl⟩
      · rw [pk_un e, pk_un e]
        exact hv v (by omega)
