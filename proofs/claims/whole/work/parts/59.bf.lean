/-! ===== costs that are lowered round after round: what holds all the while ===== -/
/-- d: the costs; bf: where one comes from; R: the round, T: the moment in which a cost was last lowered (0: never) -/
def BFI (m : Nat) (c : Nat → Nat → Int) (d0 : Nat → Int) (sc : Nat → Nat → Prop) (ρ K : Nat) (d : Nat → Int) (bf R T : Nat → Nat) (arr : Nat → Int32) : Prop :=
  (∀ v, v < m → (d v ≤ d0 v ∧ d0 v ≤ 1000000000000) ∧ R v ≤ ρ ∧ T v ≤ K) ∧
  (∀ v, v < m → T v = 0 → R v = 0 ∧ arr v = -1 ∧ d v = d0 v) ∧
  (∀ v, v < m → 1 ≤ T v → arr v = nI (bf v) ∧ bf v < m ∧ bf v ≠ v ∧ c (bf v) v < 1000000000000 ∧ d (bf v) < 1000000000000 ∧ d (bf v) + c (bf v) v ≤ d v ∧ (T v < T (bf v) → d (bf v) + c (bf v) v < d v) ∧ R v ≤ R (bf v) + 1) ∧
  (∀ u v, u < m → v < m → u ≠ v → 1 ≤ T v → T u ≠ T v) ∧
  (∀ a b, a < m → b < m → d a < 1000000000000 → c a b < 1000000000000 → d a + c a b < d b → ρ ≤ R a + 1 ∧ (sc a b → ρ ≤ R a))
def up1 {α : Type} (f : Nat → α) (b : Nat) (x : α) : Nat → α := fun i => if i = b then x else f i
theorem up1_s {α : Type} {f : Nat → α} {b : Nat} {x : α} : up1 f b x b = x := if_pos rfl
theorem up1_n {α : Type} {f : Nat → α} {b i : Nat} {x : α} (h : i ≠ b) : up1 f b x i = f i := if_neg h
theorem BF_upd {m : Nat} {c : Nat → Nat → Int} {d0 : Nat → Int} {sc sc' : Nat → Nat → Prop} {ρ K : Nat} {d : Nat → Int} {bf R T : Nat → Nat} {arr : Nat → Int32} (h : BFI m c d0 sc ρ K d bf R T arr) {a b : Nat} (ha : a < m) (hb : b < m) (hab : a ≠ b) (hda : d a < 1000000000000) (hc : c a b < 1000000000000) (hv : d a + c a b < d b) (hsc : ∀ i j, sc' i j → sc i j ∨ (i = a ∧ j = b)) : BFI m c d0 sc' ρ (K + 1) (up1 d b (d a + c a b)) (up1 bf b a) (up1 R b ρ) (up1 T b (K + 1)) (upd arr b (nI a)) := by
  obtain ⟨h1, h2, h3, h4, h5⟩ := h
  have hR := (h5 a b ha hb hda hc hv).1
  have dle : ∀ i, i < m → up1 d b (d a + c a b) i ≤ d i := fun i hi => by
    by_cases e : i = b
    · subst e; rw [up1_s]; omega
    · rw [up1_n e]; exact Int.le_refl _
  refine ⟨fun v hv' => ?_, fun v hv' hT => ?_, fun v hv' hT => ?_, fun u v hu hv' huv hT => ?_, fun i j hi hj hdi hcij hvio => ?_⟩
  · have q := h1 v hv'
    by_cases e : v = b
    · subst e
      rw [up1_s, up1_s, up1_s]
      exact ⟨by omega, Nat.le_refl _, Nat.le_refl _⟩
    · rw [up1_n e, up1_n e, up1_n e]
      exact ⟨q.1, q.2.1, by omega⟩
  · by_cases e : v = b
    · subst e
      rw [up1_s] at hT
      omega
    · rw [up1_n e] at hT
      rw [up1_n e, up1_n e, pk_un e]
      exact h2 v hv' hT
  · by_cases e : v = b
    · subst e
      rw [up1_s, up1_s, up1_s, up1_s, pk_us, up1_n hab, up1_n hab, up1_n hab]
      have := (h1 a ha).2.2
      exact ⟨rfl, ha, hab, hc, hda, Int.le_refl _, fun z => by omega, hR⟩
    · rw [up1_n e] at hT
      obtain ⟨q1, q2, q3, q4, q5, q6, q7, q8⟩ := h3 v hv' hT
      rw [up1_n e, up1_n e, up1_n e, up1_n e, pk_un e]
      by_cases e2 : bf v = b
      · rw [e2] at q1 q2 q3 q4 q5 q6 q7 q8 ⊢
        rw [up1_s, up1_s, up1_s]
        have := (h1 v hv').2.1
        exact ⟨q1, q2, q3, q4, by omega, by omega, fun _ => by omega, by omega⟩
      · rw [up1_n e2, up1_n e2, up1_n e2]
        exact ⟨q1, q2, q3, q4, q5, q6, q7, q8⟩
  · by_cases e : v = b
    · subst e
      rw [up1_s, up1_n huv]
      have := (h1 u hu).2.2
      omega
    · rw [up1_n e] at hT ⊢
      by_cases e2 : u = b
      · subst e2
        rw [up1_s]
        have := (h1 v hv').2.2
        omega
      · rw [up1_n e2]
        exact h4 u v hu hv' huv hT
  · by_cases e : i = b
    · subst e
      rw [up1_s]
      exact ⟨by omega, fun _ => Nat.le_refl _⟩
    · rw [up1_n e] at hdi hvio ⊢
      have := dle j hj
      obtain ⟨q1, q2⟩ := h5 i j hi hj hdi hcij (by omega)
      refine ⟨q1, fun z => ?_⟩
      rcases hsc i j z with z | ⟨rfl, rfl⟩
      · exact q2 z
      · rw [up1_s] at hvio
        omega
theorem BF_skip {m : Nat} {c : Nat → Nat → Int} {d0 : Nat → Int} {sc sc' : Nat → Nat → Prop} {ρ K : Nat} {d : Nat → Int} {bf R T : Nat → Nat} {arr : Nat → Int32} (h : BFI m c d0 sc ρ K d bf R T arr) {a b : Nat} (hv : d a < 1000000000000 → c a b < 1000000000000 → ¬ d a + c a b < d b) (hsc : ∀ i j, sc' i j → sc i j ∨ (i = a ∧ j = b)) : BFI m c d0 sc' ρ K d bf R T arr := by
  obtain ⟨h1, h2, h3, h4, h5⟩ := h
  refine ⟨h1, h2, h3, h4, fun i j hi hj hdi hcij hvio => ?_⟩
  obtain ⟨q1, q2⟩ := h5 i j hi hj hdi hcij hvio
  refine ⟨q1, fun z => ?_⟩
  rcases hsc i j z with z | ⟨rfl, rfl⟩
  · exact q2 z
  · exact absurd hvio (hv hdi hcij)
theorem BF_sc {m : Nat} {c : Nat → Nat → Int} {d0 : Nat → Int} {sc sc' : Nat → Nat → Prop} {ρ K : Nat} {d : Nat → Int} {bf R T : Nat → Nat} {arr : Nat → Int32} (h : BFI m c d0 sc ρ K d bf R T arr) (hsc : ∀ i j, i < m → j < m → sc' i j → sc i j) : BFI m c d0 sc' ρ K d bf R T arr := by
  obtain ⟨h1, h2, h3, h4, h5⟩ := h
  refine ⟨h1, h2, h3, h4, fun i j hi hj hdi hcij hvio => ?_⟩
  obtain ⟨q1, q2⟩ := h5 i j hi hj hdi hcij hvio
  exact ⟨q1, fun z => q2 (hsc i j hi hj z)⟩
theorem BF_round {m : Nat} {c : Nat → Nat → Int} {d0 : Nat → Int} {sc : Nat → Nat → Prop} {ρ K : Nat} {d : Nat → Int} {bf R T : Nat → Nat} {arr : Nat → Int32} (h : BFI m c d0 sc ρ K d bf R T arr) (hsc : ∀ i j, i < m → j < m → sc i j) : BFI m c d0 (fun _ _ => False) (ρ + 1) K d bf R T arr := by
  obtain ⟨h1, h2, h3, h4, h5⟩ := h
  refine ⟨fun v hv => ?_, h2, h3, h4, fun i j hi hj hdi hcij hvio => ?_⟩
  · have := h1 v hv
    exact ⟨this.1, by omega, this.2.2⟩
  · have := (h5 i j hi hj hdi hcij hvio).2 (hsc i j hi hj)
    exact ⟨by omega, fun z => z.elim⟩
/-- a round in which nothing was lowered: nothing can be lowered -/
theorem BF_fe {m : Nat} {c : Nat → Nat → Int} {d0 : Nat → Int} {sc : Nat → Nat → Prop} {ρ K : Nat} {d : Nat → Int} {bf R T : Nat → Nat} {arr : Nat → Int32} (h : BFI m c d0 sc ρ K d bf R T arr) (hsc : ∀ i j, i < m → j < m → sc i j) (hn : ∀ v, v < m → R v < ρ) : ∀ a b, a < m → b < m → d a < 1000000000000 → c a b < 1000000000000 → d b ≤ d a + c a b := by
  intro a b ha hb hda hc
  refine Int.not_lt.mp (fun hv => ?_)
  have := (h.2.2.2.2 a b ha hb hda hc hv).2 (hsc a b ha hb)
  have := hn a ha
  omega
/-- the chain back is as long as the round says -/
theorem BF_back {m : Nat} {c : Nat → Nat → Int} {d0 : Nat → Int} {sc : Nat → Nat → Prop} {ρ K : Nat} {d : Nat → Int} {bf R T : Nat → Nat} {arr : Nat → Int32} (h : BFI m c d0 sc ρ K d bf R T arr) {v : Nat} (hv : v < m) : ∀ i, i ≤ R v → pt bf v i < m ∧ R v ≤ R (pt bf v i) + i ∧ ∀ j, j < i → 1 ≤ T (pt bf v j) := by
  intro i
  induction i with
  | zero => intro _; exact ⟨hv, Nat.le_refl _, fun j hj => absurd hj (Nat.not_lt_zero j)⟩
  | succ i ih =>
    intro hi
    obtain ⟨q1, q2, q3⟩ := ih (by omega)
    have hT : 1 ≤ T (pt bf v i) := Nat.pos_of_ne_zero (fun e => by
      have := (h.2.1 _ q1 e).1
      omega)
    obtain ⟨p1, p2, p3, p4, p5, p6, p7, p8⟩ := h.2.2.1 _ q1 hT
    refine ⟨p2, (show R v ≤ R (bf (pt bf v i)) + (i + 1) by omega), fun j hj => ?_⟩
    by_cases e : j = i
    · rw [e]; exact hT
    · exact q3 j (by omega)
theorem inj_le {p : Nat → Nat} {k m : Nat} (h : ∀ i, i < k → p i < m) (hi : ∀ i j, i < k → j < k → p i = p j → i = j) : k ≤ m := by
  have a := Mk_pcn h hi
  have b := (pcn_rng m (Mk p k)).2
  omega
/-- with potentials, the chain back comes to no place twice -/
theorem BF_acyc {m : Nat} {c : Nat → Nat → Int} {d0 : Nat → Int} {sc : Nat → Nat → Prop} {ρ K : Nat} {d : Nat → Int} {bf R T : Nat → Nat} {arr : Nat → Int32} {π : Nat → Int} (h : BFI m c d0 sc ρ K d bf R T arr) (hπ : ∀ a b, a < m → b < m → c a b < 1000000000000 → π b ≤ π a + c a b) {v : Nat} (hv : v < m) {k : Nat} (hk : ∀ i, i < k → 1 ≤ T (pt bf v i)) : (∀ i, i ≤ k → pt bf v i < m) ∧ (∀ i j, i ≤ k → j ≤ k → pt bf v i = pt bf v j → i = j) ∧ k + 1 ≤ m := by
  have hp : ∀ i, i ≤ k → pt bf v i < m := by
    intro i
    induction i with
    | zero => intro _; exact hv
    | succ i ih =>
      intro hi
      exact (h.2.2.1 _ (ih (by omega)) (hk i (by omega))).2.1
  have key : ∀ i, i < k → d (pt bf v (i + 1)) - π (pt bf v (i + 1)) < d (pt bf v i) - π (pt bf v i) ∨ (d (pt bf v (i + 1)) - π (pt bf v (i + 1)) = d (pt bf v i) - π (pt bf v i) ∧ T (pt bf v (i + 1)) < T (pt bf v i)) := by
    intro i hi
    obtain ⟨p1, p2, p3, p4, p5, p6, p7, p8⟩ := h.2.2.1 _ (hp i (by omega)) (hk i hi)
    have q := hπ _ _ p2 (hp i (by omega)) p4
    have u := h.2.2.2.1 _ _ p2 (hp i (by omega)) p3 (hk i hi)
    show d (bf (pt bf v i)) - π (bf (pt bf v i)) < d (pt bf v i) - π (pt bf v i) ∨ (d (bf (pt bf v i)) - π (bf (pt bf v i)) = d (pt bf v i) - π (pt bf v i) ∧ T (bf (pt bf v i)) < T (pt bf v i))
    by_cases z : T (pt bf v i) < T (bf (pt bf v i))
    · have := p7 z
      omega
    · omega
  have keys : ∀ t i, i + (t + 1) ≤ k → d (pt bf v (i + (t + 1))) - π (pt bf v (i + (t + 1))) < d (pt bf v i) - π (pt bf v i) ∨ (d (pt bf v (i + (t + 1))) - π (pt bf v (i + (t + 1))) = d (pt bf v i) - π (pt bf v i) ∧ T (pt bf v (i + (t + 1))) < T (pt bf v i)) := by
    intro t
    induction t with
    | zero => intro i hi; exact key i (by omega)
    | succ t ih =>
      intro i hi
      have a := ih i (by omega)
      have b := key (i + (t + 1)) (by omega)
      rw [show i + (t + 1 + 1) = i + (t + 1) + 1 by omega]
      omega
  have inj : ∀ i j, i ≤ k → j ≤ k → pt bf v i = pt bf v j → i = j := by
    have lt : ∀ i j, i < j → j ≤ k → pt bf v i ≠ pt bf v j := fun i j hij hj e => by
      have := keys (j - i - 1) i (by omega)
      rw [show i + (j - i - 1 + 1) = j by omega, ← e] at this
      omega
    intro i j hi hj e
    by_cases c1 : i < j
    · exact absurd e (lt i j c1 hj)
    · by_cases c2 : j < i
      · exact absurd e.symm (lt j i c2 hi)
      · omega
  exact ⟨hp, inj, inj_le (fun i hi => hp i (by omega)) (fun i j hi hj => inj i j (by omega) (by omega))⟩
theorem BF_R {m : Nat} {c : Nat → Nat → Int} {d0 : Nat → Int} {sc : Nat → Nat → Prop} {ρ K : Nat} {d : Nat → Int} {bf R T : Nat → Nat} {arr : Nat → Int32} {π : Nat → Int} (h : BFI m c d0 sc ρ K d bf R T arr) (hπ : ∀ a b, a < m → b < m → c a b < 1000000000000 → π b ≤ π a + c a b) {v : Nat} (hv : v < m) : R v + 1 ≤ m := (BF_acyc h hπ hv (k := R v) (BF_back h hv (R v) (Nat.le_refl _)).2.2).2.2
