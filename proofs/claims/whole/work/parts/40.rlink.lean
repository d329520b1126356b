/-! ===== the reference's link, whole ===== -/
theorem dup_min {d : Nat → Int} {a b v : Nat} (hab : a ≠ b) : dup d a b v = d v + (if v = min a b then 1 else 0) + (if v = max a b then 1 else 0) := by
  unfold dup
  by_cases q : a ≤ b
  · rw [Nat.min_eq_left q, Nat.max_eq_right q]
  · rw [Nat.min_eq_right (by omega), Nat.max_eq_left (by omega)]
    repeat' split
    all_goals omega
theorem pr_min {w : Nat → Nat → Int} {u : Nat → Int} {a b : Nat} : pr w u (min a b) (max a b) = pr w u a b := by
  by_cases q : a ≤ b
  · rw [Nat.min_eq_left q, Nat.max_eq_right q]
  · rw [Nat.min_eq_right (by omega), Nat.max_eq_left (by omega), pr_symm]
theorem r_link {N nn : Nat} {w : Nat → Nat → Int} {u : Nat → Int} {b54 b55 : Nat → Int64} {j1 : Int64} {a35 a36 : Nat → Int32} (hN : 100 ≤ N) (hw : WW nn w) (hR : Rw nn w b54) (hu : Wr nn u b55) : Ok (RT nn w u) (f_X7_link N (nI nn) b54 b55 j1 a35 a36) := by
  have h3 := hw.1
  have h12 := hw.2.1
  unfold f_X7_link
  refine lq4_ok (fun m x1 y1 y2 y3 => ∃ i, x1 = nI i ∧ i + m = nn ∧ y1 = 0 ∧ ∀ v, v < i → y2 v = 0 ∧ y3 v = if v = 1 then 1 else 0) ?_ N nn 0 0 a35 a36 ⟨0, nI_0.symm, by omega, rfl, fun v h => absurd h (Nat.not_lt_zero v)⟩ (by omega)
  rintro m nx x1 y1 y2 y3 ⟨i, rfl, hm, rfl, hv⟩ ih
  unfold f_X7_link_7
  refine ok_if (fun q => ?_) (fun q => ?_)
  · rw [nI_lei (by omega) (by omega)] at q
    have ei : i = nn := by omega
    subst ei
    clear ih
    refine lq4_ok (fun m x1 z1 z2 z3 => ∃ (t : Nat) (P : Nat → Nat → Int) (n : Nat → Bool), x1 = nI (t + 2) ∧ t + 2 + m = i ∧ PI i w u t P n ∧ In i n z3 ∧ Dg i (fun v => S1 i (fun b => P v b + P b v)) z2 ∧ z1.toInt = S2 i (fun a b => P a b * pr w u a b) ∧ -200002 * (t : Int) ≤ z1.toInt ∧ z1.toInt ≤ 2200000 * (t : Int)) ?_ N (i - 2) 2 0 y2 y3 ⟨0, fun _ _ => 0, fun v => decide (v = 1), by decide, by omega, PI_0 w u h3, fun v h => ?_, fun v h => ?_, ?_, by decide, by decide⟩ (by omega)
    · rintro m nx x1 z1 z2 z3 ⟨t, P, n, rfl, hm, hP, hI, hD, hz, hb1, hb2⟩ ih
      have hdeg := PI_deg hP h12
      unfold f_X7_link_46
      refine ok_if (fun q => ?_) (fun q => ?_)
      · rw [nI_lei (by omega) (by omega)] at q
        refine ok_mono (r_zero (a36 := z3) hN hw hR hu hD (fun v _ => by have := (hdeg v).2; show S1 i (fun b => P v b + P b v) ≤ 30; omega) (j := z1) (by omega)) (fun r hr => ?_)
        rcases hr with ⟨r1, r2⟩ | ⟨r1, f, s, hFS, r2, r3⟩
        · exact Or.inl ⟨r1, Or.inr r2⟩
        · refine Or.inr ⟨r1, PI_all h3 hP (by omega), P, f, s, fun a b => ?_, by rw [hP.2.1]; omega, hP.2.2.2.2.2.2, hFS, ?_, Dg_to r3 (fun v _ => ?_)⟩
          · rcases hP.1 a b with q | q
            · exact Or.inl q
            · exact Or.inr q.1
          · rw [r2, hz]
            unfold wth
            omega
          · unfold dup dgK
            dsimp only
            repeat' split
            all_goals omega
      · rw [nI_lei (by omega) (by omega)] at q
        refine lq7_ok (fun m2 x1 x2 x3 x4 s1 s2 s3 => x1 = nI (t + 2) ∧ z1 = s1 ∧ z2 = s2 ∧ z3 = s3 ∧ ∃ a, x4 = nI a ∧ 1 ≤ a ∧ a + m2 = i ∧ BR (Cr i w n) (pr w u) (Dr i a 1) x2 x3) ?_ N (i - 1) (nI (t + 2)) 0 0 1 z1 z2 z3 ⟨rfl, rfl, rfl, rfl, 1, by decide, by omega, by omega, Or.inl ⟨rfl, rfl, fun a b h => ?_⟩⟩ (by omega)
        · rintro m2 nx2 x1 x2 x3 x4 s1 s2 s3 ⟨rfl, rfl, rfl, rfl, a, rfl, ha1, hm2, hB⟩ ih2
          unfold f_X7_link_61
          refine ok_if (fun q2 => ?_) (fun q2 => ?_)
          · rw [nI_lei (by omega) (by omega)] at q2
            have all : ∀ c d, Cr i w n c d → Dr i a 1 c d := fun c d h => ⟨h.1, h.2.1, h.2.2.1, h.2.2.2.1, Or.inl (by have := h.2.1; omega)⟩
            refine ok_if (fun z => ?_) (fun z => ?_)
            · subst z
              refine ok_bz (Or.inl rfl) (ok_some (Or.inl ⟨rfl, Or.inl (PI_none h3 hP (by omega) ?_)⟩))
              rcases hB with ⟨-, -, h⟩ | ⟨c, d, -, h1, h2, -⟩
              · exact fun c d hcd => h c d (all c d hcd) hcd
              · exact absurd h1.symm (nI_n0 h2.2.2.1 (by have := h2.2.2.2.1; omega))
            · rcases hB with ⟨-, h, -⟩ | ⟨c, d, rfl, rfl, hcd, hl⟩
              · exact absurd h z
              · obtain ⟨c1, c2, d1, d2, ic, id', hs⟩ := id hcd
                have hne : c ≠ d := by
                  intro e
                  rw [e, id'] at ic
                  exact absurd ic (by decide)
                have cd : (nI d).toNatClampNeg = d := nI_c (by omega)
                have pp := Wr_pr hw hu c2 d2
                obtain ⟨j2, dd, e, t1, t2⟩ := r_take hw hR hu hD c2 d2 hne hs (j1 := z1) (by omega) (by have := hdeg c; show S1 i (fun b => P c b + P b c) < 1000; omega) (by have := hdeg d; show S1 i (fun b => P d b + P b d) < 1000; omega)
                rw [ck_N (show d < 12 by omega) (by omega), cd, nar1]
                refine ok_nmd ?_
                rw [e, nI_s]
                refine ih (m - 1) _ _ _ _ (by omega) ⟨t + 1, _, _, rfl, by omega, PI_step hP hcd (fun x y hxy => hl x y (all x y hxy) hxy), fun v hv => ?_, Dg_to t2 (fun v hv => ?_), ?_, ?_, ?_⟩
                · by_cases y : v = d
                  · subst y
                    rw [pk_us]
                    simp
                  · rw [pk_un y, hI v hv]
                    simp [y]
                · rw [dgK_upd (by omega) (by omega) (by omega) hv, dup_min hne]
                · show j2.toInt = _
                  rw [t1, hz, wth_upd (by omega) (by omega), pr_min]
                · show _ ≤ j2.toInt
                  omega
                · show j2.toInt ≤ _
                  omega
          · rw [nI_lei (by omega) (by omega)] at q2
            have han : a < i := by omega
            refine lq8_ok (fun m3 x1 x2 x3 x4 x5 s1 s2 s3 => x1 = nI (t + 2) ∧ x4 = nI a ∧ z1 = s1 ∧ z2 = s2 ∧ z3 = s3 ∧ ∃ b, x5 = nI b ∧ 1 ≤ b ∧ b + m3 = i ∧ BR (Cr i w n) (pr w u) (Dr i a b) x2 x3) ?_ N (i - 1) (nI (t + 2)) x2 x3 (nI a) 1 z1 z2 z3 ⟨rfl, rfl, rfl, rfl, rfl, 1, by decide, by omega, by omega, hB⟩ (by omega)
            rintro m3 nx3 x1 x2 x3 x4 x5 s1 s2 s3 ⟨rfl, rfl, rfl, rfl, rfl, b, rfl, hb1, hm3, hB⟩ ih3
            unfold f_X7_link_73
            refine ok_if (fun q3 => ?_) (fun q3 => ?_)
            · rw [nI_lei (by omega) (by omega)] at q3
              rw [nI_s]
              refine ih2 (m2 - 1) _ _ _ _ _ _ _ (by omega) ⟨rfl, rfl, rfl, rfl, a + 1, rfl, by omega, by omega, ?_⟩
              have : Dr i (a + 1) 1 = Dr i a b := by
                funext x y
                apply propext
                unfold Dr
                omega
              rw [this]
              exact hB
            · rw [nI_lei (by omega) (by omega)] at q3
              have hbn : b < i := by omega
              have ca : (nI a).toNatClampNeg = a := nI_c (by omega)
              have cb : (nI b).toNatClampNeg = b := nI_c (by omega)
              have hD' : ∀ x y, Dr i a (b + 1) x y → Dr i a b x y ∨ (x = a ∧ y = b) := by
                intro x y h
                unfold Dr at *
                omega
              have skip : ¬ Cr i w n a b → Ok _ (nx3 (nI (t + 2)) x2 x3 (nI a) (nI (b + 1)) z1 z2 z3) := fun hn => ih3 (m3 - 1) _ _ _ _ _ _ _ _ (by omega) ⟨rfl, rfl, rfl, rfl, rfl, b + 1, rfl, by omega, by omega, BR_skip hB hD' hn⟩
              rw [ck_N (show a < 12 by omega) (by omega), ca, nI_s, hI a han]
              refine ok_if (fun y => ?_) (fun y => ?_)
              · refine skip (fun h => ?_)
                rw [h.2.2.2.2.1] at y
                exact absurd y (by decide)
              · have ia : n a = true := by
                  cases hh : n a with
                  | true => rfl
                  | false => rw [hh] at y; exact absurd rfl y
                rw [ck_N (show b < 12 by omega) (by omega), cb, hI b hbn]
                refine ok_if (fun z => ?_) (fun z => ?_)
                · have ib : n b = false := by
                    cases hh : n b with
                    | true => rw [hh] at z; exact absurd z (by decide)
                    | false => rfl
                  obtain ⟨v, e, hv'⟩ := r_length hw hR han hbn
                  have hst := st_rng hw han hbn
                  have hf := fr_rng hst.1 hst.2
                  rw [e]
                  show Ok _ (if (1000000000000 : Int64) ≤ v then _ else _)
                  refine ok_if (fun x => ?_) (fun x => ?_)
                  · rw [i64_le, far_toInt, hv'] at x
                    exact skip (fun h => h.2.2.2.2.2.2 (hf.2.2.1.mp (by omega)))
                  · rw [i64_le, far_toInt, hv'] at x
                    have hne : st w a b ≠ -1 := fun y => x (by rw [hf.2.2.1.mpr y]; exact Int.le_refl _)
                    have hC : Cr i w n a b := ⟨ha1, han, hb1, hbn, ia, ib, hne⟩
                    have hab : a ≠ b := by
                      intro e
                      rw [e, ib] at ia
                      exact absurd ia (by decide)
                    refine ok_if (fun g => ?_) (fun g => ?_)
                    · subst g
                      rcases hB with ⟨-, -, h⟩ | ⟨c, d, -, h1, h2, -⟩
                      · exact ih3 (m3 - 1) _ _ _ _ _ _ _ _ (by omega) ⟨rfl, rfl, rfl, rfl, rfl, b + 1, rfl, by omega, by omega, BR_first h hD' hC⟩
                      · exact absurd h1.symm (nI_n0 h2.2.2.1 (by have := h2.2.2.2.1; omega))
                    · rcases hB with ⟨-, h, -⟩ | ⟨c, d, rfl, rfl, h⟩
                      · exact absurd h g
                      · obtain ⟨c1, c2, d1, d2, ic, id', hs⟩ := id h.1
                        have hcd : c ≠ d := by
                          intro e
                          rw [e, id'] at ic
                          exact absurd ic (by decide)
                        obtain ⟨r, er, hr⟩ := r_before hw hR hu han hbn c2 d2 hab hcd hne hs
                        rw [er]
                        show Ok _ (if r = 0 then _ else _)
                        rcases hr with ⟨rfl, hr⟩ | ⟨rfl, hr⟩
                        · rw [if_neg (by decide)]
                          exact ih3 (m3 - 1) _ _ _ _ _ _ _ _ (by omega) ⟨rfl, rfl, rfl, rfl, rfl, b + 1, rfl, by omega, by omega, BR_new h hD' hC hr⟩
                        · rw [if_pos rfl]
                          exact ih3 (m3 - 1) _ _ _ _ _ _ _ _ (by omega) ⟨rfl, rfl, rfl, rfl, rfl, b + 1, rfl, by omega, by omega, BR_keep h hD' hr⟩
                · refine skip (fun h => ?_)
                  rw [h.2.2.2.2.2.1] at z
                  exact z rfl
        · unfold Dr at h
          omega
    · rw [(hv v h).2]
      by_cases y : v = 1
      · simp [y]
      · simp [y]
    · rw [(hv v h).1]
      have e0 : (fun v => S1 i (fun b => (fun _ _ => (0 : Int)) v b + (fun _ _ => (0 : Int)) b v)) v = 0 := by
        exact S1_zero i
      rw [e0]
      exact ⟨by decide, by decide, by decide⟩
    · rw [S2_congr (g := fun _ _ => 0) (fun a b _ _ => Int.zero_mul _), S2_zero]
      decide
  · rw [nI_lei (by omega) (by omega)] at q
    have hi : i < nn := by omega
    have ci : (nI i).toNatClampNeg = i := nI_c (by omega)
    simp only [ck_N (show i < 12 by omega) (show 12 < 2147483648 by omega), nmd, ci, nI_s, nar1, nar0]
    refine ok_if (fun z => ?_) (fun z => ?_)
    · rw [one32, nI_eqi (by omega) (by omega)] at z
      refine ih (m - 1) _ _ _ _ (by omega) ⟨i + 1, rfl, by omega, rfl, fun v hvi => ?_⟩
      by_cases e : v = i
      · subst e
        rw [pk_us, pk_us, if_pos z]
        exact ⟨rfl, rfl⟩
      · rw [pk_un e, pk_un e]
        exact hv v (by omega)
    · rw [one32, nI_eqi (by omega) (by omega)] at z
      refine ih (m - 1) _ _ _ _ (by omega) ⟨i + 1, rfl, by omega, rfl, fun v hvi => ?_⟩
      by_cases e : v = i
      · subst e
        rw [pk_us, pk_us, if_neg z]
        exact ⟨rfl, rfl⟩
      · rw [pk_un e, pk_un e]
        exact hv v (by omega)
theorem S2_le {n : Nat} {f g : Nat → Nat → Int} (h : ∀ i j, i < n → j < n → f i j ≤ g i j) : S2 n f ≤ S2 n g := S1_le (fun i hi => S1_le (fun j hj => h i j hi hj))
theorem S2_mul {n : Nat} {f : Nat → Nat → Int} {c : Int} : S2 n (fun i j => c * f i j) = c * S2 n f := by
  unfold S2
  rw [← S1_mul]
  exact S1_congr (fun i _ => S1_mul)
theorem KF_01 {nn : Nat} {w : Nat → Nat → Int} {u : Nat → Int} {K : Nat → Nat → Int} (h : KF nn w u K) (a b : Nat) : 0 ≤ K a b ∧ K a b ≤ 1 := by
  rcases h.1 a b with q | q
  · rw [q]; decide
  · rw [q.1]; decide
theorem KF_deg {nn : Nat} {w : Nat → Nat → Int} {u : Nat → Int} {K : Nat → Nat → Int} {f s : Nat} (h : KF nn w u K) (h12 : nn ≤ 12) (v : Nat) : 0 ≤ dgK nn K f s v ∧ dgK nn K f s v ≤ 28 := by
  have k := KF_01 h
  have a1 : 0 ≤ S1 nn (fun b => K v b + K b v) := S1_nonneg (fun b _ => by
    have := k v b
    have := k b v
    omega)
  have a2 := S1_bound (n := nn) (f := fun b => K v b + K b v) (c := 2) (fun b _ => by
      have := k v b
      have := k b v
      show K v b + K b v ≤ 2
      omega)
  unfold dgK
  repeat' split
  all_goals omega
theorem KF_wth {nn : Nat} {w : Nat → Nat → Int} {u : Nat → Int} {K : Nat → Nat → Int} {f s : Nat} {a20 : Nat → Int32} (hw : WW nn w) (hu : Wt nn u a20) (h : KF nn w u K) (hf : FS nn w u f s) : -100000000 ≤ wth nn w u K f s ∧ wth nn w u K f s ≤ 100000000 := by
  have h3 := hw.1
  have h12 := hw.2.1
  have k := KF_01 h
  have u1 : S1 nn u ≤ nn * 100000 := S1_bound (fun i hi => (hu i hi).2.2)
  have u2 : nn * (-100000) ≤ S1 nn u := S1_bound' (fun i hi => (hu i hi).2.1)
  have p1 := pr_rng hw hu (show 0 < nn by omega) hf.1.2.1
  have p2 := pr_rng hw hu (show 0 < nn by omega) hf.2.2.1
  have b1 : S2 nn (fun a b => K a b * pr w u a b) ≤ S2 nn (fun a b => 2200000 * K a b) := S2_le (fun a b ha hb => by
    have := k a b
    have := pr_rng hw hu ha hb
    show K a b * pr w u a b ≤ 2200000 * K a b
    rcases (show K a b = 0 ∨ K a b = 1 by omega) with q | q <;> rw [q] <;> omega)
  have b2 : S2 nn (fun a b => -200002 * K a b) ≤ S2 nn (fun a b => K a b * pr w u a b) := S2_le (fun a b ha hb => by
    have := k a b
    have := pr_rng hw hu ha hb
    show -200002 * K a b ≤ K a b * pr w u a b
    rcases (show K a b = 0 ∨ K a b = 1 by omega) with q | q <;> rw [q] <;> omega)
  rw [S2_mul, h.2.1] at b1 b2
  unfold wth
  omega
/-- class and reference make the same linked tree -/
theorem same_tree {nn : Nat} {w : Nat → Nat → Int} {u : Nat → Int} {a20 : Nat → Int32} {r r' : Int32 × Int64 × (Nat → Int32) × (Nat → Int32)} (hw : WW nn w) (hu : Wt nn u a20) (h : CT nn w u r) (h' : RT nn w u r') : (r.1 = 0 ∧ r'.1 = 0) ∨ (r.1 = 1 ∧ r'.1 = 1 ∧ r.2.1 = r'.2.1 ∧ (-100000000 ≤ r.2.1.toInt ∧ r.2.1.toInt ≤ 100000000) ∧ ∃ d, (∀ v, 0 ≤ d v ∧ d v ≤ 28) ∧ Dg nn d r.2.2.1 ∧ Dg nn d r'.2.2.1) := by
  rcases h with ⟨a1, a2⟩ | ⟨a1, K, f, s, k1, k2, k3, k4⟩
  · rcases h' with ⟨b1, -⟩ | ⟨b1, b2, P, f', s', p1, p2, p3, p4, p5, p6⟩
    · exact Or.inl ⟨a1, b1⟩
    · exfalso
      rcases a2 with q | q
      · exact b2 q
      · exact q f' s' p4.1.1 p4.1.2.1 p4.2.1 p4.2.2.1 (fun e => p4.2.2.2.1 e.symm) p4.1.2.2.1 p4.2.2.2.2.1
  · rcases h' with ⟨b1, b2⟩ | ⟨b1, b2, P, f', s', p1, p2, p3, p4, p5, p6⟩
    · exfalso
      rcases b2 with q | q
      · exact q K k1
      · exact q f s k2.1.1 k2.1.2.1 k2.2.1 k2.2.2.1 (fun e => k2.2.2.2.1 e.symm) k2.1.2.2.1 k2.2.2.2.2.1
    · obtain ⟨rfl, rfl⟩ := FS_one k2 p4
      have e : ∀ a b, a < nn → b < nn → K a b - P a b = 0 := by
        refine S2_null (fun a b _ _ => ?_) ?_
        · rcases p1 a b with q | q
          · rcases k1.1 a b with z | z
            · omega
            · omega
          · have := p3 K k1 a b q
            omega
        · rw [S2_sub, k1.2.1, p2]
          omega
      have eW : wth nn w u K f s = wth nn w u P f s := by
        unfold wth
        rw [S2_congr (f := fun a b => K a b * pr w u a b) (g := fun a b => P a b * pr w u a b)]
        intro a b ha hb
        have := e a b ha hb
        rw [show K a b = P a b by omega]
      refine Or.inr ⟨a1, b1, ?_, by rw [k3]; exact KF_wth hw hu k1 k2, dgK nn K f s, KF_deg k1 hw.2.1, k4, Dg_to p6 (fun v hv => ?_)⟩
      · rw [i64_eq, k3, p5, eW]
      · unfold dgK
        rw [S1_congr (f := fun b => P v b + P b v) (g := fun b => K v b + K b v)]
        intro b hb
        have e1 := e v b hv hb
        have e2 := e b v hb hv
        omega
