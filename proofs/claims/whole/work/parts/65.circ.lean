/-! ===== the reference's circles of lesser cost: one circle ===== -/
theorem pt_add (bf : Nat → Nat) (v a : Nat) : ∀ b, pt bf (pt bf v a) b = pt bf v (a + b) := by
  intro b
  induction b with
  | zero => rfl
  | succ b ih =>
    show bf (pt bf (pt bf v a) b) = bf (pt bf v (a + b))
    rw [ih]
theorem mn_ex {P : Nat → Prop} : ∀ n, P n → ∃ k, k ≤ n ∧ P k ∧ ∀ m, m < k → ¬ P m := by
  intro n
  induction n using Nat.strongRecOn with
  | _ n ih =>
    intro h
    by_cases c : ∃ m, m < n ∧ P m
    · obtain ⟨m, hm, hp⟩ := c
      obtain ⟨k, h1, h2, h3⟩ := ih m hm hp
      exact ⟨k, by omega, h2, h3⟩
    · exact ⟨n, Nat.le_refl n, h, fun m hm hp => c ⟨m, hm, hp⟩⟩
theorem circ {m : Nat} {c : Nat → Nat → Int} {d0 : Nat → Int} {sc : Nat → Nat → Prop} {ρ K : Nat} {d : Nat → Int} {bf R T : Nat → Nat} {arr : Nat → Int32} (h : BFI m c d0 sc ρ K d bf R T arr) {v : Nat} (hv : v < m) (hR : R v = m + 1) : (∀ n, pt bf v n < m ∧ 1 ≤ T (pt bf v n)) ∧ ∃ L, 1 ≤ L ∧ L ≤ m ∧ pt bf (pt bf v m) L = pt bf v m ∧ ∀ i j, i < L → j < L → pt bf (pt bf v m) i = pt bf (pt bf v m) j → i = j := by
  have hb : ∀ i, i ≤ m → pt bf v i < m ∧ 1 ≤ T (pt bf v i) := fun i hi => ⟨(BF_back h hv i (by omega)).1, (BF_back h hv (m + 1) (by omega)).2.2 i (by omega)⟩
  obtain ⟨i, j, hij, hj, e⟩ : ∃ i j, i < j ∧ j ≤ m ∧ pt bf v i = pt bf v j := by
    refine Classical.byContradiction (fun hn => ?_)
    have := inj_le (p := pt bf v) (k := m + 1) (m := m) (fun i hi => (hb i (by omega)).1) (fun i j hi hj e => by
      by_cases c1 : i < j
      · exact absurd ⟨i, j, c1, by omega, e⟩ hn
      · by_cases c2 : j < i
        · exact absurd ⟨j, i, c2, by omega, e.symm⟩ hn
        · omega)
    omega
  have per : ∀ n, pt bf v (j + n) = pt bf v (i + n) := by
    intro n
    rw [← pt_add, ← pt_add, e]
  have all : ∀ n, ∃ k, k < j ∧ pt bf v n = pt bf v k := by
    intro n
    induction n using Nat.strongRecOn with
    | _ n ih =>
      by_cases c : n < j
      · exact ⟨n, c, rfl⟩
      · obtain ⟨k, hk, ek⟩ := ih (i + (n - j)) (by omega)
        refine ⟨k, hk, ?_⟩
        rw [← ek, ← per, show j + (n - j) = n by omega]
  refine ⟨fun n => ?_, ?_⟩
  · obtain ⟨k, hk, ek⟩ := all n
    rw [ek]
    exact hb k (by omega)
  · have ret : pt bf (pt bf v m) (j - i) = pt bf v m := by
      rw [pt_add, show m + (j - i) = j + (m - i) by omega, per, show i + (m - i) = m by omega]
    obtain ⟨L, h1, ⟨h2, h3⟩, h4⟩ := mn_ex (P := fun n => 1 ≤ n ∧ pt bf (pt bf v m) n = pt bf v m) (j - i) ⟨by omega, ret⟩
    have lt : ∀ a b, a < b → b < L → pt bf (pt bf v m) a ≠ pt bf (pt bf v m) b := fun a b hab hb2 ee => by
      refine h4 (a + (L - b)) (by omega) ⟨by omega, ?_⟩
      rw [← pt_add, ee, pt_add, show b + (L - b) = L by omega, h3]
    refine ⟨L, h2, by omega, h3, fun a b ha hb2 ee => ?_⟩
    by_cases c1 : a < b
    · exact absurd ee (lt a b c1 hb2)
    · by_cases c2 : b < a
      · exact absurd ee.symm (lt b a c2 ha)
      · omega
theorem circ_cost {m : Nat} {c : Nat → Nat → Int} {d0 : Nat → Int} {sc : Nat → Nat → Prop} {ρ K : Nat} {d : Nat → Int} {bf R T : Nat → Nat} {arr : Nat → Int32} (h : BFI m c d0 sc ρ K d bf R T arr) {s L : Nat} (hL : 1 ≤ L) (hp : ∀ k, pt bf s k < m ∧ 1 ≤ T (pt bf s k)) (e : pt bf s L = s) : S1 L (fun k => c (pt bf s (k + 1)) (pt bf s k)) < 0 := by
  have key : ∀ k, S1 k (fun k => c (pt bf s (k + 1)) (pt bf s k)) + d (pt bf s k) < d s ∨ (S1 k (fun k => c (pt bf s (k + 1)) (pt bf s k)) + d (pt bf s k) ≤ d s ∧ T (pt bf s k) + k ≤ T s) := by
    intro k
    induction k with
    | zero =>
      refine Or.inr ⟨?_, Nat.le_refl _⟩
      show (0 : Int) + d s ≤ d s
      omega
    | succ k ih =>
      obtain ⟨p1, p2, p3, p4, p5, p6, p7, p8⟩ := h.2.2.1 _ (hp k).1 (hp k).2
      have u := h.2.2.2.1 _ _ p2 (hp k).1 p3 (hp k).2
      have es : S1 (k + 1) (fun k => c (pt bf s (k + 1)) (pt bf s k)) = S1 k (fun k => c (pt bf s (k + 1)) (pt bf s k)) + c (bf (pt bf s k)) (pt bf s k) := rfl
      rw [es]
      show _ + d (bf (pt bf s k)) < d s ∨ (_ + d (bf (pt bf s k)) ≤ d s ∧ T (bf (pt bf s k)) + (k + 1) ≤ T s)
      by_cases z : T (pt bf s k) < T (bf (pt bf s k))
      · have := p7 z
        omega
      · omega
  have := key L
  rw [e] at this
  omega
def pl (x : Nat) : Nat := if x < 12 then x else x - 12
def sd (x : Nat) : Int := if x < 12 then 1 else 0
theorem q_leB {nn : Nat} {w q : Nat → Nat → Int} {B : Int} (hB : 0 ≤ B) (hq : QS nn w q) (ht : S2 nn q ≤ B) {a b : Nat} (ha : a < 12) (hb : b < 12) (h12 : nn ≤ 12) : q a b ≤ B := by
  by_cases c : q a b = 0
  · rw [c]; exact hB
  · obtain ⟨⟨h1, -⟩, h2, -⟩ := (hq a b ha hb).2 c
    have r1 := S1_ge (n := nn) (f := q a) (fun j hj => (hq a j ha (by omega)).1) h2
    have r2 := S1_ge (n := nn) (f := fun i => S1 nn (q i)) (fun i hi => S1_nonneg (fun j hj => (hq i j (by omega) (by omega)).1)) h1
    have r2 : S1 nn (q a) ≤ S2 nn q := r2
    omega
theorem r_circ {N nn : Nat} {w q S c : Nat → Nat → Int} {a37 z3 : Nat → Int32} {b57 z4 : Nat → Int64} {v K : Nat} {d : Nat → Int} {bf R T : Nat → Nat} (hN : 20000 ≤ N) (h12 : nn ≤ 12) (hq : Q12 q a37) (hA : QA nn w q) (hc : CCP nn q S c) (hv : v < 24) (hB : BFI 24 c (fun _ => 0) (fun _ _ => False) 26 K d bf R T z3) (hR : R v = 25) : Ok (fun r => r.1 = 1 ∧ ∃ q', QA nn w q' ∧ Q12 q' r.2.1 ∧ cost nn S q' < cost nn S q) (lq5 (f_X7_cheaper_158 N (nI nn) b57) N (nI v) 0 a37 z3 z4) := by
  obtain ⟨hall, L, hL1, hL2, hret, hinj⟩ := circ hB hv hR
  have o1 : (1 : Int32).toInt = 1 := by decide
  refine lq5_ok (fun m x2 x3 y1 y3 y4 => ∃ i, x2 = nI (pt bf v i) ∧ x3 = nI i ∧ i + m = 24 ∧ a37 = y1 ∧ z3 = y3 ∧ z4 = y4) ?_ N 24 _ _ _ _ _ ⟨0, rfl, zero32, rfl, rfl, rfl, rfl⟩ (by omega)
  rintro m nx x2 x3 y1 y3 y4 ⟨i, rfl, rfl, hm, rfl, rfl, rfl⟩ ih
  unfold f_X7_cheaper_158
  refine ok_if (fun y => ?_) (fun y => ?_)
  rotate_left
  · rw [show (24 : Int32) = nI 24 by decide, nI_lei (by omega) (by omega)] at y
    have := (hall i).1
    rw [ck_N (hall i).1 (by omega), nI_c (by omega), (hB.2.2.1 _ (hall i).1 (hall i).2).1, nI_s]
    exact ih (m - 1) _ _ _ _ _ (by omega) ⟨i + 1, rfl, rfl, by omega, rfl, rfl, rfl⟩
  rw [show (24 : Int32) = nI 24 by decide, nI_lei (by omega) (by omega)] at y
  have ei : i = 24 := by omega
  subst ei
  clear ih nx
  obtain ⟨s, es⟩ : ∃ s, pt bf v 24 = s := ⟨_, rfl⟩
  have hp : ∀ k, pt bf s k < 24 ∧ 1 ≤ T (pt bf s k) := fun k => by rw [← es, pt_add]; exact hall _
  rw [es] at hret hinj ⊢
  have hcost := circ_cost hB hL1 hp hret
  have hs24 : s < 24 := (hp 0).1
  refine lq6_ok (fun m x2 x3 x4 y1 y3 y4 => ∃ (k : Nat) (q' : Nat → Nat → Int), x2 = nI (pt bf s k) ∧ nI s = x3 ∧ k + m = L ∧ ((k < L ∧ x4 = 1) ∨ (k = L ∧ x4 = 0)) ∧ z3 = y3 ∧ z4 = y4 ∧ Q12 q' y1 ∧ QS nn w q' ∧ (∀ u, u < nn → net nn q' u = net nn q u + (if u = pl (pt bf s k) then 1 else 0) - (if u = pl s then 1 else 0)) ∧ S2 nn q' = S2 nn q + sd (pt bf s k) - sd s ∧ cost nn S q' = cost nn S q + S1 k (fun k => c (pt bf s (k + 1)) (pt bf s k)) ∧ ∀ j, k ≤ j → j < L → 12 ≤ pt bf s (j + 1) → 1 ≤ q' (pt bf s j) (pt bf s (j + 1) - 12)) ?_ N L _ _ _ _ _ _ ⟨0, q, rfl, rfl, by omega, Or.inl ⟨by omega, rfl⟩, rfl, rfl, hq, hA.1, fun u _ => by show _ = _ + (if u = pl s then 1 else 0) - (if u = pl s then 1 else 0); omega, by show _ = _ + sd s - sd s; omega, by show _ = _ + (0 : Int); omega, fun j _ hj hf => ?_⟩ (by omega)
  rotate_left
  · have hq1 := hB.2.2.1 _ (hp j).1 (hp j).2
    have hq4 : c (pt bf s (j + 1)) (pt bf s j) < 1000000000000 := hq1.2.2.2.1
    rcases hc (pt bf s (j + 1)) (pt bf s j) with ⟨p1, _⟩ | ⟨p1, p2, p3, p4⟩ | ⟨p1, p2, p3⟩
    · omega
    · omega
    · omega
  rintro m nx x2 x3 x4 y1 y3 y4 ⟨k, q', rfl, rfl, hm, hx4, rfl, rfl, hq', hQS, hnet, htot, hcs, hlow⟩ ih
  unfold f_X7_cheaper_182
  refine ok_if (fun y2 => ?_) (fun y2 => ?_)
  · rcases hx4 with ⟨-, e⟩ | ⟨ek, -⟩
    · rw [e] at y2; exact absurd y2 (by decide)
    subst ek
    rw [hret] at hnet htot
    refine ok_bz (Or.inr rfl) (ok_some ⟨rfl, q', ⟨hQS, fun u hu => ?_, ?_⟩, hq', ?_⟩)
    · rw [hnet u hu, hA.2.1 u hu]; omega
    · have := hA.2.2
      omega
    · omega
  have hk : k < L := by
    rcases hx4 with ⟨h, -⟩ | ⟨-, e⟩
    · exact h
    · exact absurd e y2
  clear hx4 y2
  obtain ⟨t, et⟩ : ∃ t, pt bf s k = t := ⟨_, rfl⟩
  obtain ⟨f, ef⟩ : ∃ f, pt bf s (k + 1) = f := ⟨_, rfl⟩
  have ht24 : t < 24 := by rw [← et]; exact (hp k).1
  have hf24 : f < 24 := by rw [← ef]; exact (hp (k + 1)).1
  have hbf := hB.2.2.1 _ (hp k).1 (hp k).2
  have ef' : bf (pt bf s k) = f := ef
  rw [ef', et] at hbf
  obtain ⟨harr, -, hne, hcf, -⟩ := hbf
  have hfs : f = s ↔ k + 1 = L := by
    constructor
    · intro e
      refine Classical.byContradiction (fun hn => ?_)
      have := hinj 0 (k + 1) (by omega) (by omega) (by rw [ef, e]; rfl)
      omega
    · intro e
      rw [← ef, e, hret]
  have hS' : S1 (k + 1) (fun k => c (pt bf s (k + 1)) (pt bf s k)) = S1 k (fun k => c (pt bf s (k + 1)) (pt bf s k)) + c f t := by
    rw [← et, ← ef]; rfl
  have sdr : ∀ x, 0 ≤ sd x ∧ sd x ≤ 1 := fun x => by unfold sd; split <;> omega
  have s1 := sdr (pt bf s k)
  have s2 := sdr s
  have q2 := hA.2.2
  have qr : ∀ a b, a < 12 → b < 12 → q' a b ≤ 145 := fun a b ha hb => q_leB (by omega) hQS (by omega) ha hb h12
  rw [et] at hnet htot ⊢
  have tail : ∀ (q'' : Nat → Nat → Int) (z1 : Nat → Int32), Q12 q'' z1 → QS nn w q'' → (∀ u, u < nn → net nn q'' u = net nn q u + (if u = pl f then 1 else 0) - (if u = pl s then 1 else 0)) → S2 nn q'' = S2 nn q + sd f - sd s → cost nn S q'' = cost nn S q' + c f t → (∀ j, k + 1 ≤ j → j < L → 12 ≤ pt bf s (j + 1) → 1 ≤ q'' (pt bf s j) (pt bf s (j + 1) - 12)) → Ok (fun r => r.1 = 1 ∧ ∃ q', QA nn w q' ∧ Q12 q' r.2.1 ∧ cost nn S q' < cost nn S q) (if nI f = nI s then nx (nI f) (nI s) 0 z1 z3 z4 else nx (nI f) (nI s) 1 z1 z3 z4) := by
    intro q'' z1 g1 g2 g3 g4 g5 g6
    refine ok_if (fun y2 => ?_) (fun y2 => ?_)
    · rw [nI_eqi (by omega) (by omega), hfs] at y2
      exact ih (m - 1) _ _ _ _ _ _ (by omega) ⟨k + 1, q'', by rw [ef], rfl, by omega, Or.inr ⟨y2, rfl⟩, rfl, rfl, g1, g2, by rw [ef]; exact g3, by rw [ef]; exact g4, by rw [hS', g5, hcs]; omega, g6⟩
    · rw [nI_eqi (by omega) (by omega), hfs] at y2
      exact ih (m - 1) _ _ _ _ _ _ (by omega) ⟨k + 1, q'', by rw [ef], rfl, by omega, Or.inl ⟨by omega, rfl⟩, rfl, rfl, g1, g2, by rw [ef]; exact g3, by rw [ef]; exact g4, by rw [hS', g5, hcs]; omega, g6⟩
  rw [ck_N (show t < 24 from ht24) (by omega), nI_c (show t < 2147483648 by omega), harr]
  refine ok_if (fun y3 => ?_) (fun y3 => ?_)
  · rw [show (12 : Int32) = nI 12 by decide, nI_lei (by omega) (by omega)] at y3
    rcases hc f t with ⟨p1, _⟩ | ⟨p1, p2, p3, p4⟩ | ⟨p1, p2, p3⟩
    · omega
    rotate_left
    · omega
    have hst := (hA.1 t (f - 12) p2 (by omega)).2 (by omega)
    have htn := hst.1.1
    have hfn := hst.2.1
    have q1 := hlow k (Nat.le_refl k) hk (by rw [ef]; exact p1)
    rw [et, ef] at q1
    have qq := qr t (f - 12) p2 (by omega)
    rw [i12m p1, ck_N (show 12 * t + (f - 12) < 144 by omega) (by omega), ck_N (show 12 * t + (f - 12) < 144 by omega) (by omega), nI_c (show 12 * t + (f - 12) < 2147483648 by omega)]
    refine ok_nmd (tail (yu q' t (f - 12) (-1)) _ (fun a b ha hb => ?_) (fun a b ha hb => ?_) (fun u hu => ?_) ?_ ?_ (fun j hj1 hj2 hj3 => ?_))
    · unfold yu
      by_cases cc : a = t ∧ b = f - 12
      · rw [if_pos cc, cc.1, cc.2, pk_us]
        have e := hq' t (f - 12) p2 (by omega)
        rw [i32_sub] <;> rw [e, o1] <;> omega
      · rw [if_neg cc, pk_un (by omega), hq' a b ha hb]; omega
    · unfold yu
      have := hQS a b ha hb
      by_cases cc : a = t ∧ b = f - 12
      · rw [if_pos cc, cc.1, cc.2]
        exact ⟨by omega, fun _ => hst⟩
      · rw [if_neg cc, Int.add_zero]
        exact this
    · rw [net_yu htn hfn, hnet u hu]
      have e1 : pl t = t := if_pos p2
      have e2 : pl f = f - 12 := if_neg (by omega)
      rw [e1, e2]
      split <;> split <;> omega
    · have e : S2 nn (yu q' t (f - 12) (-1)) = S2 nn q' + (-1) := S2_upd htn hfn
      have e1 : sd t = 1 := if_pos p2
      have e2 : sd f = 0 := if_neg (by omega)
      omega
    · rw [cost_yu htn hfn, p4]
      omega
    · have := hlow j (by omega) hj2 hj3
      unfold yu
      rw [if_neg (fun cc => by
        have := hinj j k hj2 hk (by rw [cc.1, et])
        omega)]
      omega
  · rw [show (12 : Int32) = nI 12 by decide, nI_lei (by omega) (by omega)] at y3
    rcases hc f t with ⟨p1, p2, p3, p4, p5⟩ | ⟨p1, p2, p3, p4⟩ | ⟨p1, p2, p3⟩
    rotate_left
    · omega
    · omega
    obtain ⟨b1, hb1, hq1⟩ := p3
    obtain ⟨a1, ha1, hq2⟩ := p4
    have hsf := ((hA.1 f b1 p1 (by omega)).2 (by omega)).1
    have hst := ((hA.1 a1 (t - 12) (by omega) (by omega)).2 (by omega)).2
    have hfn := hsf.1
    have htn := hst.1
    have q1 := (hQS f (t - 12) p1 (by omega)).1
    have qq := qr f (t - 12) p1 (by omega)
    rw [i12m p2, ck_N (show 12 * f + (t - 12) < 144 by omega) (by omega), ck_N (show 12 * f + (t - 12) < 144 by omega) (by omega), nI_c (show 12 * f + (t - 12) < 2147483648 by omega)]
    refine ok_nmd (tail (yu q' f (t - 12) 1) _ (fun a b ha hb => ?_) (fun a b ha hb => ?_) (fun u hu => ?_) ?_ ?_ (fun j hj1 hj2 hj3 => ?_))
    · unfold yu
      by_cases cc : a = f ∧ b = t - 12
      · rw [if_pos cc, cc.1, cc.2, pk_us]
        have e := hq' f (t - 12) p1 (by omega)
        rw [i32_add] <;> rw [e, o1] <;> omega
      · rw [if_neg cc, pk_un (by omega), hq' a b ha hb]; omega
    · unfold yu
      have := hQS a b ha hb
      by_cases cc : a = f ∧ b = t - 12
      · rw [if_pos cc, cc.1, cc.2]
        exact ⟨by omega, fun _ => ⟨hsf, hst⟩⟩
      · rw [if_neg cc, Int.add_zero]
        exact this
    · rw [net_yu hfn htn, hnet u hu]
      have e1 : pl t = t - 12 := if_neg (by omega)
      have e2 : pl f = f := if_pos p1
      rw [e1, e2]
      split <;> split <;> omega
    · have e : S2 nn (yu q' f (t - 12) 1) = S2 nn q' + 1 := S2_upd hfn htn
      have e1 : sd t = 0 := if_neg (by omega)
      have e2 : sd f = 1 := if_pos p1
      omega
    · rw [cost_yu hfn htn, p5]
      omega
    · have := hlow j (by omega) hj2 hj3
      unfold yu
      split <;> omega
/-- no circle of lesser cost: potentials for who sends and who gets -/
def QP (nn : Nat) (q S : Nat → Nat → Int) : Prop := ∃ u v : Nat → Int, (∀ a b, a < 12 → b < 12 → snd nn q a → gts nn q b → v b ≤ u a + S a b) ∧ ∀ a b, a < 12 → b < 12 → 0 < q a b → u a + S a b ≤ v b
theorem r_cheaper {N nn : Nat} {w q S : Nat → Nat → Int} {a37 a40 : Nat → Int32} {b57 b58 : Nat → Int64} (hN : 20000 ≤ N) (h12 : nn ≤ 12) (hq : Q12 q a37) (hA : QA nn w q) (hS : ∀ a b, a < 12 → b < 12 → (b57 (12 * a + b)).toInt = S a b) (hr : ∀ a b, hs nn w a → hs nn w b → 0 ≤ S a b ∧ S a b ≤ 22000000) : Ok (fun r => (r.1 = 0 ∧ a37 = r.2.1 ∧ QP nn q S) ∨ (r.1 = 1 ∧ ∃ q', QA nn w q' ∧ Q12 q' r.2.1 ∧ cost nn S q' < cost nn S q)) (f_X7_cheaper N (nI nn) b57 a37 a40 b58) := by
  obtain ⟨c, hc⟩ := CCP_ex nn q S
  have hr' : ∀ a b, a < 12 → b < 12 → (0 < q a b ∨ (snd nn q a ∧ gts nn q b)) → 0 ≤ S a b ∧ S a b ≤ 22000000 := by
    rintro a b ha hb (h | ⟨⟨b1, hb1, h1⟩, ⟨a1, ha1, h2⟩⟩)
    · have := (hA.1 a b ha hb).2 (by omega)
      exact hr a b this.1 this.2
    · exact hr a b ((hA.1 a b1 ha (by omega)).2 (by omega)).1 ((hA.1 a1 b (by omega) hb).2 (by omega)).2
  refine r_low hN h12 hq hS hr' hc (fun d z3 z4 hd => ?_) (fun v K d bf R T z3 z4 hv hB hR => ?_)
  · refine Or.inl ⟨rfl, rfl, d, fun b => d (b + 12), fun a b ha hb h1 h2 => ?_, fun a b ha hb h => ?_⟩
    · have e : c a (b + 12) = S a b := CC1_u (hc a (b + 12)) (Or.inl ⟨ha, by omega, h1, h2, rfl⟩)
      have := hr' a b ha hb (Or.inr ⟨h1, h2⟩)
      have := hd a (b + 12) (by omega) (by omega) (by omega)
      show d (b + 12) ≤ _
      omega
    · have e : c (b + 12) a = - S a b := CC1_u (hc (b + 12) a) (Or.inr (Or.inl ⟨by omega, ha, h, rfl⟩))
      have := hr' a b ha hb (Or.inl h)
      have := hd (b + 12) a (by omega) (by omega) (by omega)
      show _ ≤ d (b + 12)
      omega
  · exact ok_mono (r_circ hN h12 hq hA hc hv hB hR) (fun r h => Or.inr h)
