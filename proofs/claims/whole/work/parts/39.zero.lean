/-! ===== the reference's two streets at place 0 ===== -/
def B0 (C : Nat → Prop) (q : Nat → Int) (n : Nat) (x : Int32) : Prop := (x = 0 ∧ ∀ b, b < n → ¬ C b) ∨ ∃ j, x = nI j ∧ (1 ≤ j ∧ j < n) ∧ C j ∧ ∀ b, b < n → C b → L1 q j b
theorem nI_n0 {n : Nat} (h1 : 1 ≤ n) (h : n < 2147483648) : ¬ nI n = (0 : Int32) := nI_ne0 (by omega) h
theorem B0_skip {C : Nat → Prop} {q : Nat → Int} {n : Nat} {x : Int32} (h : B0 C q n x) (hc : ¬ C n) : B0 C q (n + 1) x := by
  rcases h with ⟨h1, h2⟩ | ⟨j, h1, h2, h3, h4⟩
  · refine Or.inl ⟨h1, fun b hb hC => ?_⟩
    by_cases e : b = n
    · subst e; exact hc hC
    · exact h2 b (by omega) hC
  · refine Or.inr ⟨j, h1, by omega, h3, fun b hb hC => ?_⟩
    by_cases e : b = n
    · subst e; exact absurd hC hc
    · exact h4 b (by omega) hC
theorem B0_first {C : Nat → Prop} {q : Nat → Int} {n : Nat} (hn : 1 ≤ n ∧ n < 2147483648) (h : B0 C q n 0) (hc : C n) : B0 C q (n + 1) (nI n) := by
  rcases h with ⟨-, h2⟩ | ⟨j, h1, h2, -⟩
  · refine Or.inr ⟨n, rfl, by omega, hc, fun b hb hC => ?_⟩
    by_cases e : b = n
    · subst e; exact Or.inr ⟨rfl, Nat.le_refl b⟩
    · exact absurd hC (h2 b (by omega))
  · exact absurd h1.symm (nI_n0 h2.1 (by omega))
theorem B0_keep {C : Nat → Prop} {q : Nat → Int} {n j : Nat} (h : (1 ≤ j ∧ j < n) ∧ C j ∧ ∀ b, b < n → C b → L1 q j b) (hq : q j ≤ q n) : B0 C q (n + 1) (nI j) := by
  refine Or.inr ⟨j, rfl, by omega, h.2.1, fun b hb hC => ?_⟩
  by_cases e : b = n
  · subst e
    have := h.1
    unfold L1
    omega
  · exact h.2.2 b (by omega) hC
theorem B0_new {C : Nat → Prop} {q : Nat → Int} {n j : Nat} (hn : 1 ≤ n) (h : (1 ≤ j ∧ j < n) ∧ C j ∧ ∀ b, b < n → C b → L1 q j b) (hc : C n) (hq : q n < q j) : B0 C q (n + 1) (nI n) := by
  refine Or.inr ⟨n, rfl, by omega, hc, fun b hb hC => ?_⟩
  by_cases e : b = n
  · subst e; exact Or.inr ⟨rfl, Nat.le_refl b⟩
  · have := h.2.2 b (by omega) hC
    unfold L1 at this ⊢
    omega
theorem r_zero {N nn : Nat} {w : Nat → Nat → Int} {u d : Nat → Int} {b54 b55 : Nat → Int64} (hN : 100 ≤ N) (hw : WW nn w) (hR : Rw nn w b54) (hu : Wr nn u b55) {j : Int64} {a35 a36 : Nat → Int32} (hd : Dg nn d a35) (hdm : ∀ v, v < nn → d v ≤ 30) (hj : -100000000000000 ≤ j.toInt ∧ j.toInt ≤ 100000000000000) :
    Ok (fun r => (r.1 = 0 ∧ NZ nn w) ∨ (r.1 = 1 ∧ ∃ f s, FS nn w u f s ∧ r.2.1.toInt = j.toInt + pr w u 0 f + pr w u 0 s - 2 * S1 nn u ∧ Dg nn (dup (dup d 0 f) 0 s) r.2.2.1)) (lq5 (f_X7_link_181 N (nI nn) b54 b55) N (0 : Int32) (0 : Int32) j a35 a36) := by
  have h3 := hw.1
  have h12 := hw.2.1
  refine lq5_ok (fun m x1 x2 y1 y2 y3 => (m = 2 ∧ x1 = 0 ∧ x2 = 0 ∧ j = y1 ∧ a35 = y2) ∨ (m = 1 ∧ x2 = 1 ∧ ∃ f, x1 = nI f ∧ (1 ≤ f ∧ f < nn ∧ st w 0 f ≠ -1 ∧ ∀ b, 1 ≤ b → b < nn → st w 0 b ≠ -1 → L1 (pr w u 0) f b) ∧ y1.toInt = j.toInt + pr w u 0 f ∧ Dg nn (dup d 0 f) y2) ∨ (m = 0 ∧ x2 = 2 ∧ ∃ f s, FS nn w u f s ∧ y1.toInt = j.toInt + pr w u 0 f + pr w u 0 s ∧ Dg nn (dup (dup d 0 f) 0 s) y2)) ?_ N 2 0 0 j a35 a36 (Or.inl ⟨rfl, rfl, rfl, rfl, rfl⟩) (by omega)
  intro m nx x1 x2 y1 y2 y3 hI ih
  -- one scan: the least but one, or none
  have scan : ∀ (x1 x2 : Int32) (y1 : Int64) (y2 : Nat → Int32), (∀ b, ¬ C0 nn w x1 b → True) → ((∀ b, b < nn → ¬ C0 nn w x1 b) → NZ nn w) → (∀ g, (1 ≤ g ∧ g < nn) → C0 nn w x1 g → (∀ b, b < nn → C0 nn w x1 b → L1 (pr w u 0) g b) → Ok (fun r => (r.1 = 0 ∧ NZ nn w) ∨ (r.1 = 1 ∧ ∃ f s, FS nn w u f s ∧ r.2.1.toInt = j.toInt + pr w u 0 f + pr w u 0 s - 2 * S1 nn u ∧ Dg nn (dup (dup d 0 f) 0 s) r.2.2.1)) (bd (f_X7_take b54 b55 y1 y2 (0 : Int32) (nI g)) fun o => nx (nI g) (x2 + 1) o.1 o.2 y3)) → Ok (fun r => (r.1 = 0 ∧ NZ nn w) ∨ (r.1 = 1 ∧ ∃ f s, FS nn w u f s ∧ r.2.1.toInt = j.toInt + pr w u 0 f + pr w u 0 s - 2 * S1 nn u ∧ Dg nn (dup (dup d 0 f) 0 s) r.2.2.1)) (lq7 (f_X7_link_191 N (nI nn) b54 b55 nx) N x1 x2 (0 : Int32) (1 : Int32) y1 y2 y3) := by
    intro x1 x2 y1 y2 _ hno hgo
    refine lq7_ok (fun m z1 z2 z3 z4 t1 t2 t3 => x1 = z1 ∧ x2 = z2 ∧ y1 = t1 ∧ y2 = t2 ∧ y3 = t3 ∧ ∃ b, z4 = nI b ∧ 1 ≤ b ∧ b + m = nn ∧ B0 (C0 nn w x1) (pr w u 0) b z3) ?_ N (nn - 1) x1 x2 0 1 y1 y2 y3 ⟨rfl, rfl, rfl, rfl, rfl, 1, by decide, by omega, by omega, Or.inl ⟨rfl, fun b h1 h2 => ?_⟩⟩ (by omega)
    · rintro m nx2 z1 z2 z3 z4 t1 t2 t3 ⟨rfl, rfl, rfl, rfl, rfl, b, rfl, hb1, hm, hB⟩ ih2
      unfold f_X7_link_191
      refine ok_if (fun q => ?_) (fun q => ?_)
      · rw [nI_lei (by omega) (by omega)] at q
        have eb : b = nn := by omega
        subst eb
        refine ok_if (fun z => ?_) (fun z => ?_)
        · subst z
          refine ok_bz (Or.inl rfl) (ok_some (Or.inl ⟨rfl, hno ?_⟩))
          rcases hB with ⟨-, h⟩ | ⟨g, h1, h2, -⟩
          · exact h
          · exact absurd h1.symm (nI_n0 h2.1 (by omega))
        · rcases hB with ⟨h, -⟩ | ⟨g, rfl, h2, h3, h4⟩
          · exact absurd h z
          · exact hgo g h2 h3 h4
      · rw [nI_lei (by omega) (by omega)] at q
        have hbn : b < nn := by omega
        obtain ⟨v, e, hv⟩ := r_length hw hR (show 0 < nn by omega) hbn
        have hst := st_rng hw (show 0 < nn by omega) hbn
        have hf := fr_rng hst.1 hst.2
        have skip : ¬ C0 nn w x1 b → Ok _ (nx2 x1 x2 z3 (nI (b + 1)) y1 y2 y3) := fun hn => ih2 (m - 1) _ _ _ _ _ _ _ (by omega) ⟨rfl, rfl, rfl, rfl, rfl, b + 1, rfl, by omega, by omega, B0_skip hB hn⟩
        rw [zero32, e]
        show Ok _ (if (1000000000000 : Int64) ≤ v then _ else _)
        rw [nI_s]
        refine ok_if (fun z => ?_) (fun z => ?_)
        · rw [i64_le, far_toInt, hv] at z
          exact skip (fun h => h.2.2.2 (hf.2.2.1.mp (by omega)))
        · rw [i64_le, far_toInt, hv] at z
          have hne : st w 0 b ≠ -1 := fun y => z (by rw [hf.2.2.1.mpr y]; exact Int.le_refl _)
          refine ok_if (fun y => skip (fun h => h.2.2.1 y)) (fun y => ?_)
          have hC : C0 nn w x1 b := ⟨hb1, hbn, y, hne⟩
          rw [← zero32]
          refine ok_if (fun x => ?_) (fun x => ?_)
          · subst x
            exact ih2 (m - 1) _ _ _ _ _ _ _ (by omega) ⟨rfl, rfl, rfl, rfl, rfl, b + 1, rfl, by omega, by omega, B0_first ⟨hb1, by omega⟩ hB hC⟩
          · rcases hB with ⟨h, -⟩ | ⟨g, rfl, h⟩
            · exact absurd h x
            · obtain ⟨r, er, hr⟩ := r_before hw hR hu (show 0 < nn by omega) hbn (show 0 < nn by omega) (show g < nn by omega) (show 0 ≠ b by omega) (show 0 ≠ g by omega) hne h.2.1.2.2.2
              rw [zero32, er]
              show Ok _ (if r = 0 then _ else _)
              rcases hr with ⟨rfl, hr⟩ | ⟨rfl, hr⟩
              · rw [if_neg (by decide)]
                refine ih2 (m - 1) _ _ _ _ _ _ _ (by omega) ⟨rfl, rfl, rfl, rfl, rfl, b + 1, rfl, by omega, by omega, B0_new hb1 h hC ?_⟩
                unfold LO at hr
                omega
              · rw [if_pos rfl]
                refine ih2 (m - 1) _ _ _ _ _ _ _ (by omega) ⟨rfl, rfl, rfl, rfl, rfl, b + 1, rfl, by omega, by omega, B0_keep h ?_⟩
                unfold LO at hr
                omega
    · have := h2.1
      omega
  unfold f_X7_link_181
  have up1 : ∀ v, v < nn → ∀ g, dup d 0 g v ≤ 32 := by
    intro v hv g
    have := hdm v hv
    unfold dup
    repeat' split
    all_goals omega
  rcases hI with ⟨rfl, rfl, rfl, rfl, rfl⟩ | ⟨rfl, rfl, f, rfl, hf, hy, hD⟩ | ⟨rfl, rfl, f, s, hFS, hy, hD⟩
  · rw [if_neg (by decide)]
    refine scan 0 0 j a35 (fun _ _ => trivial) (fun hno => ?_) (fun g hg1 hg2 hg3 => ?_)
    · intro f s f1 f2 s1 s2 hfs hf0 _
      exact hno f f2 ⟨f1, f2, nI_n0 f1 (by omega), hf0⟩
    · obtain ⟨j2, d2, e, t1, t2⟩ := r_take hw hR hu hd (show 0 < nn by omega) hg1.2 (show 0 ≠ g by omega) hg2.2.2.2 (j1 := j) (by omega) (by have := hdm 0 (by omega); omega) (by have := hdm g hg1.2; omega)
      rw [zero32, e]
      exact ih 1 _ _ _ _ _ (by omega) (Or.inr (Or.inl ⟨rfl, by decide, g, rfl, ⟨hg1.1, hg1.2, hg2.2.2.2, fun b b1 b2 b3 => hg3 b b2 ⟨b1, b2, nI_n0 b1 (by omega), b3⟩⟩, t1, t2⟩))
  · rw [if_neg (by decide)]
    have pf := Wr_pr hw hu (show 0 < nn by omega) hf.2.1
    refine scan (nI f) 1 y1 y2 (fun _ _ => trivial) (fun hno => ?_) (fun g hg1 hg2 hg3 => ?_)
    · intro a b a1 a2 b1 b2 hab ha0 hb0
      by_cases z : a = f
      · subst z
        exact hno b b2 ⟨b1, b2, fun y => hab ((nI_eqi (by omega) (by omega)).mp y).symm, hb0⟩
      · exact hno a a2 ⟨a1, a2, fun y => z ((nI_eqi (by omega) (by omega)).mp y), ha0⟩
    · obtain ⟨j2, d2, e, t1, t2⟩ := r_take hw hR hu hD (show 0 < nn by omega) hg1.2 (show 0 ≠ g by omega) hg2.2.2.2 (j1 := y1) (by rw [hy]; omega) (by have := up1 0 (by omega) f; omega) (by have := up1 g hg1.2 f; omega)
      rw [zero32, e]
      refine ih 0 _ _ _ _ _ (by omega) (Or.inr (Or.inr ⟨rfl, by decide, f, g, ⟨hf, hg1.1, hg1.2, fun y => hg2.2.2.1 (by rw [y]), hg2.2.2.2, fun b b1 b2 b3 b4 => hg3 b b2 ⟨b1, b2, fun y => b3 ((nI_eqi (by omega) (by omega)).mp y), b4⟩⟩, ?_, t2⟩))
      show j2.toInt = _
      rw [t1, hy]
  · rw [if_pos (by decide)]
    have pf := Wr_pr hw hu (show 0 < nn by omega) hFS.1.2.1
    have ps := Wr_pr hw hu (show 0 < nn by omega) hFS.2.2.1
    refine ok_mono (r_off (a36 := y3) hN h12 hu (j1 := y1) (a35 := y2) (b54 := b54) (by rw [hy]; omega)) (fun r hr => Or.inr ⟨hr.1, f, s, hFS, ?_, ?_⟩)
    · rw [hr.2.1, hy]
    · rw [hr.2.2]
      exact hD
