/-! ===== the least cut: the search for a chain ===== -/
def Qd (W : Nat) (q : Nat → Nat) (b : Nat) : Prop := ∃ i, i < W ∧ q i = b
def BI (nn : Nat) (r : Nat → Nat → Int) (f W nx : Nat) (q bf lv : Nat → Nat) (a26 a27 : Nat → Int32) : Prop :=
  1 ≤ W ∧ W ≤ nn ∧ q 0 = f ∧ lv f = 0 ∧ (∀ i, i < W → a26 i = nI (q i) ∧ q i < nn ∧ lv (q i) ≤ i) ∧
  (∀ i j, i < W → j < W → q i = q j → i = j) ∧ (∀ i j, i ≤ j → j < W → lv (q i) ≤ lv (q j)) ∧
  (∀ b, b < nn → (Qd W q b → a27 b = nI (bf b) ∧ bf b < nn) ∧ (¬ Qd W q b → a27 b = -1)) ∧
  (∀ b, b < nn → Qd W q b → b ≠ f → Qd W q (bf b) ∧ lv b = lv (bf b) + 1 ∧ 0 < r (bf b) b) ∧
  (∀ i, i < W → nx < W → lv (q i) ≤ lv (q nx) + 1) ∧
  (∀ i b, i < nx → i < W → b < nn → 0 < r (q i) b → Qd W q b ∧ lv b ≤ lv (q i) + 1)
theorem BI_room {nn : Nat} {r : Nat → Nat → Int} {f W nx : Nat} {q bf lv : Nat → Nat} {a26 a27 : Nat → Int32} (h : BI nn r f W nx q bf lv a26 a27) {b : Nat} (hb : b < nn) (hf : ¬ Qd W q b) : W < nn := by
  obtain ⟨h1, h2, h3, h4, h5, h6, -⟩ := h
  refine Nat.lt_of_not_le (fun hle => hf ?_)
  have e : W = nn := by omega
  subst e
  exact Mk_all (fun i hi => (h5 i hi).2.1) h6 b hb
theorem BI_add {nn : Nat} {r : Nat → Nat → Int} {f W nx : Nat} {q bf lv : Nat → Nat} {a26 a27 : Nat → Int32} (h : BI nn r f W nx q bf lv a26 a27) (hnx : nx < W) {b : Nat} (hb : b < nn) (hf : ¬ Qd W q b) (hr : 0 < r (q nx) b) : BI nn r f (W + 1) nx (fun i => if i = W then b else q i) (fun i => if i = b then q nx else bf i) (fun i => if i = b then lv (q nx) + 1 else lv i) (upd a26 W (nI b)) (upd a27 b (nI (q nx))) := by
  have hW := BI_room h hb hf
  obtain ⟨h1, h2, h3, h4, h5, h6, h7, h8, h9, h10, h11⟩ := h
  have qn : ∀ i, i < W → q i ≠ b := fun i hi e => hf ⟨i, hi, e⟩
  have eq' : ∀ i, i < W → (if i = W then b else q i) = q i := fun i hi => if_neg (by omega)
  have eW : (if W = W then b else q W) = b := if_pos rfl
  have el : ∀ i, i < W → (if q i = b then lv (q nx) + 1 else lv (q i)) = lv (q i) := fun i hi => if_neg (qn i hi)
  have elb : (if b = b then lv (q nx) + 1 else lv b) = lv (q nx) + 1 := if_pos rfl
  have up : ∀ {c}, Qd W q c → Qd (W + 1) (fun i => if i = W then b else q i) c := fun {c} ⟨i, hi, e⟩ => ⟨i, by omega, by dsimp only; rw [eq' i hi]; exact e⟩
  have upb : Qd (W + 1) (fun i => if i = W then b else q i) b := ⟨W, by omega, eW⟩
  have dn : ∀ {c}, Qd (W + 1) (fun i => if i = W then b else q i) c → Qd W q c ∨ c = b := fun {c} ⟨i, hi, e⟩ => by
    dsimp only at e
    by_cases ei : i = W
    · rw [if_pos ei] at e; exact Or.inr e.symm
    · rw [if_neg ei] at e; exact Or.inl ⟨i, by omega, e⟩
  have fne : f ≠ b := by rw [← h3]; exact qn 0 (by omega)
  have lvF : ∀ {c}, Qd W q c → (if c = b then lv (q nx) + 1 else lv c) = lv c := fun {c} ⟨i, hi, e⟩ => if_neg (by rw [← e]; exact qn i hi)
  refine ⟨by omega, by omega, ?_, ?_, fun i hi => ?_, fun i j hi hj e => ?_, fun i j hij hj => ?_, fun c hc => ⟨fun hF => ?_, fun hF => ?_⟩, fun c hc hF hcf => ?_, fun i hi _ => ?_, fun i c hi hiW hc hrc => ?_⟩
  · show (if 0 = W then b else q 0) = f
    rw [if_neg (by omega)]; exact h3
  · show (if f = b then lv (q nx) + 1 else lv f) = 0
    rw [if_neg fne]; exact h4
  · show upd a26 W (nI b) i = nI (if i = W then b else q i) ∧ (if i = W then b else q i) < nn ∧ (if (if i = W then b else q i) = b then lv (q nx) + 1 else lv (if i = W then b else q i)) ≤ i
    by_cases e : i = W
    · subst e
      rw [pk_us, eW, elb]
      have := (h5 nx hnx).2.2
      exact ⟨rfl, hb, by omega⟩
    · rw [pk_un e, if_neg e, el i (by omega)]
      exact h5 i (by omega)
  · dsimp only at e
    by_cases ei : i = W
    · by_cases ej : j = W
      · omega
      · rw [if_pos ei, if_neg ej] at e
        exact absurd e.symm (qn j (by omega))
    · by_cases ej : j = W
      · rw [if_neg ei, if_pos ej] at e
        exact absurd e (qn i (by omega))
      · rw [if_neg ei, if_neg ej] at e
        exact h6 i j (by omega) (by omega) e
  · show (if (if i = W then b else q i) = b then lv (q nx) + 1 else lv (if i = W then b else q i)) ≤ (if (if j = W then b else q j) = b then lv (q nx) + 1 else lv (if j = W then b else q j))
    by_cases ej : j = W
    · rw [if_pos ej, elb]
      by_cases ei : i = W
      · rw [if_pos ei, elb]; exact Nat.le_refl _
      · rw [if_neg ei, el i (by omega)]
        exact h10 i (by omega) hnx
    · rw [if_neg ej, el j (by omega), if_neg (show ¬ i = W by omega), el i (by omega)]
      exact h7 i j hij (by omega)
  · show upd a27 b (nI (q nx)) c = nI (if c = b then q nx else bf c) ∧ (if c = b then q nx else bf c) < nn
    by_cases e : c = b
    · subst e
      rw [pk_us, if_pos rfl]
      exact ⟨rfl, (h5 nx hnx).2.1⟩
    · rw [pk_un e, if_neg e]
      rcases dn hF with q1 | q1
      · exact (h8 c hc).1 q1
      · exact absurd q1 e
  · by_cases e : c = b
    · subst e; exact absurd upb hF
    · rw [pk_un e]
      exact (h8 c hc).2 (fun z => hF (up z))
  · show Qd (W + 1) (fun i => if i = W then b else q i) (if c = b then q nx else bf c) ∧ (if c = b then lv (q nx) + 1 else lv c) = (if (if c = b then q nx else bf c) = b then lv (q nx) + 1 else lv (if c = b then q nx else bf c)) + 1 ∧ 0 < r (if c = b then q nx else bf c) c
    by_cases e : c = b
    · subst e
      rw [if_pos rfl, if_pos rfl, el nx hnx]
      exact ⟨up ⟨nx, hnx, rfl⟩, rfl, hr⟩
    · rcases dn hF with q1 | q1
      · obtain ⟨z1, z2, z3⟩ := h9 c hc q1 hcf
        rw [if_neg e, if_neg e, lvF z1]
        exact ⟨up z1, z2, z3⟩
      · exact absurd q1 e
  · show (if (if i = W then b else q i) = b then lv (q nx) + 1 else lv (if i = W then b else q i)) ≤ (if (if nx = W then b else q nx) = b then lv (q nx) + 1 else lv (if nx = W then b else q nx)) + 1
    rw [if_neg (show ¬ nx = W by omega), el nx hnx]
    by_cases ei : i = W
    · rw [if_pos ei, elb]; exact Nat.le_refl _
    · rw [if_neg ei, el i (by omega)]
      exact h10 i (by omega) hnx
  · have hrc : 0 < r (if i = W then b else q i) c := hrc
    show Qd (W + 1) (fun i => if i = W then b else q i) c ∧ (if c = b then lv (q nx) + 1 else lv c) ≤ (if (if i = W then b else q i) = b then lv (q nx) + 1 else lv (if i = W then b else q i)) + 1
    rw [if_neg (show ¬ i = W by omega)] at hrc ⊢
    rw [el i (by omega)]
    obtain ⟨z1, z2⟩ := h11 i c hi (by omega) hc hrc
    rw [lvF z1]
    exact ⟨up z1, z2⟩
/-- what the search has found -/
def BE (nn : Nat) (r : Nat → Nat → Int) (f : Nat) (bf lv : Nat → Nat) (a27 : Nat → Int32) : Prop :=
  a27 f ≠ -1 ∧ lv f = 0 ∧ (∀ b, b < nn → a27 b ≠ -1 → a27 b = nI (bf b) ∧ bf b < nn ∧ lv b < nn) ∧
  (∀ b, b < nn → a27 b ≠ -1 → b ≠ f → a27 (bf b) ≠ -1 ∧ lv b = lv (bf b) + 1 ∧ 0 < r (bf b) b) ∧
  ∀ a b, a < nn → b < nn → a27 a ≠ -1 → 0 < r a b → a27 b ≠ -1 ∧ lv b ≤ lv a + 1
theorem BI_end {nn : Nat} {r : Nat → Nat → Int} {f W nx : Nat} {q bf lv : Nat → Nat} {a26 a27 : Nat → Int32} (h12 : nn ≤ 12) (h : BI nn r f W nx q bf lv a26 a27) (hx : W ≤ nx) (hf : f < nn) : BE nn r f bf lv a27 := by
  obtain ⟨h1, h2, h3, h4, h5, h6, h7, h8, h9, h10, h11⟩ := h
  have d1 : ∀ b, b < nn → a27 b ≠ -1 → Qd W q b := fun b hb hne => Classical.byContradiction (fun hc => hne ((h8 b hb).2 hc))
  have d2 : ∀ b, b < nn → Qd W q b → a27 b ≠ -1 := fun b hb hF => by
    have := (h8 b hb).1 hF
    rw [this.1]
    exact nI_nm1 (by omega)
  refine ⟨d2 f hf ⟨0, by omega, h3⟩, h4, fun b hb hne => ?_, fun b hb hne hbf => ?_, fun a b ha hb hne hr => ?_⟩
  · have hF := d1 b hb hne
    have z := (h8 b hb).1 hF
    obtain ⟨i, hi, e⟩ := hF
    have := (h5 i hi).2.2
    rw [e] at this
    exact ⟨z.1, z.2, by omega⟩
  · have hF := d1 b hb hne
    have z := (h8 b hb).1 hF
    have y := h9 b hb hF hbf
    exact ⟨d2 (bf b) z.2 y.1, y.2⟩
  · obtain ⟨i, hi, e⟩ := d1 a ha hne
    subst e
    have z := h11 i b (by omega) hi hb hr
    exact ⟨d2 b hb z.1, z.2⟩
theorem c_chain {N nn : Nat} {r : Nat → Nat → Int} {g2 : Nat → Nat → Int32} {a26 a27 : Nat → Int32} {f t : Nat} (hN : 100 ≤ N) (h12 : nn ≤ 12) (hg : Cw nn r g2) (hf : f < nn) (ht : t < nn) : Ok (fun x => (x.1 = 0 ∨ x.1 = 1) ∧ (x.1 = 0 ↔ x.2.2 t = -1) ∧ ∃ bf lv, BE nn r f bf lv x.2.2) (f_X1_findChain N nn (nI nn) g2 a26 a27 (nI f) (nI t)) := by
  unfold f_X1_findChain
  refine ok_fck (by omega) (ok_nmd ?_)
  have c0 : (0 : Int32).toNatClampNeg = 0 := by decide
  rw [ck_N hf (by omega), c0, nI_c (show f < 2147483648 by omega)]
  refine ok_nmd (ok_ck (by rw [zero32]; exact vp_in_nI (show 0 < nn by omega) (by omega)) (ok_nmd ?_))
  refine lq5_ok (fun m x2 x3 x4 z1 z2 => ∃ (W nx : Nat) (q bf lv : Nat → Nat), x2 = nI t ∧ x3 = nI W ∧ x4 = nI nx ∧ nx ≤ W ∧ nx + m = nn ∧ BI nn r f W nx q bf lv z1 z2) ?_ N nn _ _ _ _ _ ⟨1, 0, fun _ => f, fun _ => f, fun _ => 0, rfl, one32, zero32, by omega, by omega, by omega, by omega, rfl, rfl, fun i hi => ?_, fun i j hi hj _ => by omega, fun i j _ _ => Nat.le_refl 0, fun b hb => ⟨fun hF => ?_, fun hF => ?_⟩, fun b hb hF hbf => ?_, fun i _ _ => Nat.le_succ 0, fun i b hi => absurd hi (Nat.not_lt_zero i)⟩ (by omega)
  · rintro m nx' x2 x3 x4 z1 z2 ⟨W, nx, q, bf, lv, rfl, rfl, rfl, hnW, hm, hB⟩ ih
    have hWn := hB.2.1
    unfold f_X1_findChain_27
    refine ok_if (fun y => ?_) (fun y => ?_)
    · rw [nI_lei (by omega) (by omega)] at y
      have hE := BI_end h12 hB y hf
      rw [ck_N ht (by omega), nI_c (by omega)]
      refine ok_if (fun y2 => ok_bz (Or.inl rfl) (ok_some ⟨Or.inl rfl, ⟨fun _ => y2, fun _ => rfl⟩, bf, lv, hE⟩)) (fun y2 => ok_bz (Or.inr rfl) (ok_some ⟨Or.inr rfl, ⟨fun h => absurd h (show ¬ (1 : Int32) = 0 by decide), fun h => absurd h y2⟩, bf, lv, hE⟩))
    · rw [nI_lei (by omega) (by omega)] at y
      have hqn := (hB.2.2.2.2.1 nx (by omega)).1
      have hql := (hB.2.2.2.2.1 nx (by omega)).2.1
      rw [ck_N (show nx < nn by omega) (by omega), nI_c (show nx < 2147483648 by omega), hqn]
      refine lq7_ok (fun m2 y2 y3 y4 y5 y6 v1 v2 => ∃ (W2 b : Nat) (q2 bf2 lv2 : Nat → Nat), y2 = nI t ∧ y3 = nI W2 ∧ y4 = nI nx ∧ y5 = nI (q nx) ∧ y6 = nI b ∧ q2 nx = q nx ∧ nx < W2 ∧ b + m2 = nn ∧ BI nn r f W2 nx q2 bf2 lv2 v1 v2 ∧ ∀ c, c < b → 0 < r (q nx) c → Qd W2 q2 c) ?_ N nn _ _ _ _ _ _ _ ⟨W, 0, q, bf, lv, rfl, rfl, rfl, rfl, zero32, rfl, by omega, by omega, hB, fun c hc => absurd hc (Nat.not_lt_zero c)⟩ (by omega)
      rintro m2 nx2 y2 y3 y4 y5 y6 v1 v2 ⟨W2, b, q2, bf2, lv2, rfl, rfl, rfl, rfl, rfl, hqe, hW2, hm2, hB2, hdone⟩ ih2
      have hWn2 := hB2.2.1
      unfold f_X1_findChain_45
      refine ok_if (fun z => ?_) (fun z => ?_)
      · rw [nI_lei (by omega) (by omega)] at z
        rw [nI_s]
        refine ih (m - 1) _ _ _ _ _ (by omega) ⟨W2, nx + 1, q2, bf2, lv2, rfl, rfl, rfl, by omega, by omega, ?_⟩
        obtain ⟨h1, h2, h3, h4, h5, h6, h7, h8, h9, h10, h11⟩ := hB2
        refine ⟨h1, h2, h3, h4, h5, h6, h7, h8, h9, fun i hi hn => ?_, fun i c hi hiW hc hr => ?_⟩
        · have a := h10 i hi hW2
          have b := h7 nx (nx + 1) (by omega) hn
          omega
        · by_cases e : i = nx
          · subst e
            rw [hqe] at hr
            have hF := hdone c (by omega) hr
            obtain ⟨j, hj, ej⟩ := hF
            refine ⟨⟨j, hj, ej⟩, ?_⟩
            rw [← ej]
            exact h10 j hj hW2
          · exact h11 i c (by omega) hiW hc hr
      · rw [nI_lei (by omega) (by omega)] at z
        have hb : b < nn := by omega
        have keep : (0 < r (q nx) b → Qd W2 q2 b) → Ok (fun x : Int32 × (Nat → Int32) × (Nat → Int32) => (x.1 = 0 ∨ x.1 = 1) ∧ (x.1 = 0 ↔ x.2.2 t = -1) ∧ ∃ bf lv, BE nn r f bf lv x.2.2) (nx2 (nI t) (nI W2) (nI nx) (nI (q nx)) (nI b + 1) v1 v2) := by
          intro hk
          rw [nI_s]
          refine ih2 (m2 - 1) _ _ _ _ _ _ _ (by omega) ⟨W2, b + 1, q2, bf2, lv2, rfl, rfl, rfl, rfl, rfl, hqe, hW2, by omega, hB2, fun c hc hr => ?_⟩
          by_cases e : c = b
          · subst e; exact hk hr
          · exact hdone c (by omega) hr
        rw [ck_N hb (by omega), nI_c (show b < 2147483648 by omega)]
        refine ok_if (fun z2 => ?_) (fun z2 => ?_)
        · have hnF : ¬ Qd W2 q2 b := fun hF => by
            have := (hB2.2.2.2.2.2.2.2.1 b hb).1 hF
            rw [this.1] at z2
            exact nI_nm1 (by omega) z2
          have hroom := BI_room hB2 hb hnF
          rw [ck_N hql (by omega), ck_N hb (by omega), nI_c (show q nx < 2147483648 by omega)]
          refine ok_if (fun z3 => ?_) (fun z3 => ?_)
          · rw [i32_le, hg (q nx) b hql hb, show (0 : Int32).toInt = 0 by decide] at z3
            exact keep (fun h => by omega)
          rw [i32_le, hg (q nx) b hql hb, show (0 : Int32).toInt = 0 by decide] at z3
          refine ok_if (fun z4 => ?_) (fun z4 => ?_)
          · rw [nI_lei (by omega) (by omega)] at z4
            omega
          · rw [ck_N hb (by omega)]
            refine ok_nmd ?_
            rw [ck_N (show W2 < nn by omega) (by omega), nI_c (show W2 < 2147483648 by omega)]
            refine ok_nmd ?_
            rw [nI_s, nI_s]
            have hadd := BI_add hB2 hW2 hb hnF (by rw [hqe]; omega)
            rw [hqe] at hadd
            refine ih2 (m2 - 1) _ _ _ _ _ _ _ (by omega) ⟨W2 + 1, b + 1, _, _, _, rfl, rfl, rfl, rfl, rfl, ?_, by omega, by omega, hadd, fun c hc hr => ?_⟩
            · show (if nx = W2 then b else q2 nx) = q nx
              rw [if_neg (by omega)]; exact hqe
            · by_cases e : c = b
              · subst e
                exact ⟨W2, by omega, if_pos rfl⟩
              · obtain ⟨i, hi, ei⟩ := hdone c (by omega) hr
                exact ⟨i, by omega, by dsimp only; rw [if_neg (by omega)]; exact ei⟩
        · exact keep (fun _ => Classical.byContradiction (fun hc => z2 ((hB2.2.2.2.2.2.2.2.1 b hb).2 hc)))
  · have e : i = 0 := by omega
    subst e
    rw [pk_us]
    exact ⟨rfl, hf, Nat.le_refl 0⟩
  · obtain ⟨i, hi, e⟩ := hF
    have e : f = b := e
    subst e
    rw [pk_us]
    exact ⟨rfl, hf⟩
  · have e : b ≠ f := fun e => hF ⟨0, by omega, e.symm⟩
    rw [pk_un e]
    show fil nn (-1 : Int32) a27 b = -1
    unfold fil
    rw [if_pos hb]
  · obtain ⟨i, hi, e⟩ := hF
    exact absurd e.symm hbf
