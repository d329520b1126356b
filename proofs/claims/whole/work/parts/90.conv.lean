/-! ===== the memory as the constructors leave it (gen/conv.py) ===== -/
abbrev U6 : Type := (Nat → Nat) × (Nat → Nat → Nat)
abbrev U7 : Type := Nat × Nat × Nat × Nat × Nat × Nat × Nat × Nat × Nat × Nat × Nat × Nat
def ad_ (x0 : Nat) (u : U6) (mm : Nat) (v : U7) (o : Nat) : Nat → Nat := fun k => if k = 0 then x0 else if k = 7 then mm else if k = 59 then o else if k = 54 then v.1 else if k = 34 then v.2.1 else if k = 55 then v.2.2.1 else if k = 35 then v.2.2.2.1 else if k = 36 then v.2.2.2.2.1 else if k = 56 then v.2.2.2.2.2.1 else if k = 57 then v.2.2.2.2.2.2.1 else if k = 37 then v.2.2.2.2.2.2.2.1 else if k = 38 then v.2.2.2.2.2.2.2.2.1 else if k = 39 then v.2.2.2.2.2.2.2.2.2.1 else if k = 58 then v.2.2.2.2.2.2.2.2.2.2.1 else if k = 40 then v.2.2.2.2.2.2.2.2.2.2.2 else if k < 100 then u.1 k else u.2 ((k - 100) / 16) ((k - 100) % 16)
def I0_ (nn : Nat) : Nat → Int32 := fun q => if q = 0 then nI nn else if q = 6 then nI nn else 0
def J0_ : Nat → Int64 := fun _ => 0
def A0_ : Nat → Nat → Int32 := fun _ _ => 0
def B0_ : Nat → Nat → Int64 := fun q => if q = 54 then fil 144 1000000000000 (fun _ => 0) else fun _ => 0
def G0_ (nn : Nat) : Nat → Nat → Nat → Int32 := fun g => if g = 0 then gt_ nn nn else if g = 1 then gt_ nn nn else fun _ _ => 0
theorem ad_row {x0 : Nat} {u : U6} {mm : Nat} {v : U7} {o g i : Nat} (hi : i < 16) : rad (ad_ x0 u mm v o) g i = u.2 g i := by
  unfold rad ad_
  have e1 : (100 + 16 * g + i - 100) / 16 = g := by omega
  have e2 : (100 + 16 * g + i - 100) % 16 = i := by omega
  rw [if_neg (show ¬ 100 + 16 * g + i = 0 by omega), if_neg (show ¬ 100 + 16 * g + i = 7 by omega), if_neg (show ¬ 100 + 16 * g + i = 59 by omega), if_neg (show ¬ 100 + 16 * g + i = 54 by omega), if_neg (show ¬ 100 + 16 * g + i = 34 by omega), if_neg (show ¬ 100 + 16 * g + i = 55 by omega), if_neg (show ¬ 100 + 16 * g + i = 35 by omega), if_neg (show ¬ 100 + 16 * g + i = 36 by omega), if_neg (show ¬ 100 + 16 * g + i = 56 by omega), if_neg (show ¬ 100 + 16 * g + i = 57 by omega), if_neg (show ¬ 100 + 16 * g + i = 37 by omega), if_neg (show ¬ 100 + 16 * g + i = 38 by omega), if_neg (show ¬ 100 + 16 * g + i = 39 by omega), if_neg (show ¬ 100 + 16 * g + i = 58 by omega), if_neg (show ¬ 100 + 16 * g + i = 40 by omega), if_neg (by omega), e1, e2]
theorem kout_eq {y : Nat → ClassId} {nn g : Nat} {x0 : Nat} {u : U6} {mm : Nat} {v : U7} {o : Nat} (h12 : nn ≤ 12) : kout y nn (u.2 g) = .inl (y 3, nn, .inr (.inr (.inr (.inr (mgo nn (ad_ x0 u mm v o) g))))) := by
  unfold kout mgo
  congr 7
  funext i
  by_cases c : i < nn
  · rw [if_pos c, if_pos c, ad_row (by omega)]
  · rw [if_neg c, if_neg c]
abbrev XL (y : Nat → ClassId) (nn x0 : Nat) (u : U6) (mm : Nat) (v : U7) (o : Nat) : va_W := [(x0, .inr (7, [.ref (u.1 1), .ref (u.1 2), .ref (u.1 3), .ref (u.1 4), .ref (u.1 5), .ref (u.1 6), .ref (u.1 33), .int 0])), ((u.1 1), .inr (4, [.int (nI nn), .ref (u.1 8), .ref (u.1 9)])), ((u.1 8), kout y nn (u.2 0)), ((u.1 9), kout y nn (u.2 1)), ((u.1 2), .inr (3, [.ref (u.1 1), .ref (u.1 20), .ref (u.1 21), .ref (u.1 22), .long 0, .int 0])), ((u.1 20), .inl (y 0, (nn), .inl fun _ => 0)), ((u.1 21), .inl (y 0, (nn), .inl fun _ => 0)), ((u.1 22), .inl (y 0, (nn), .inl fun _ => 0)), ((u.1 3), .inr (1, [.ref (u.1 1), .ref (u.1 50), .ref (u.1 51), .ref (u.1 52), .ref (u.1 23), .ref (u.1 24), .ref (u.1 25)])), ((u.1 50), .inl (y 1, (nn + 1), .inr (.inl fun _ => 0))), ((u.1 51), .inl (y 1, (nn + 1), .inr (.inl fun _ => 0))), ((u.1 52), .inl (y 1, (nn + 1), .inr (.inl fun _ => 0))), ((u.1 23), .inl (y 0, (nn + 1), .inl fun _ => 0)), ((u.1 24), .inl (y 0, (nn + 1), .inl fun _ => 0)), ((u.1 25), .inl (y 2, (nn + 1), .inl fun _ => 0)), ((u.1 4), .inr (2, [.ref (u.1 1), .ref (u.1 10), .ref (u.1 26), .ref (u.1 27)])), ((u.1 10), kout y nn (u.2 2)), ((u.1 26), .inl (y 0, (nn), .inl fun _ => 0)), ((u.1 27), .inl (y 0, (nn), .inl fun _ => 0)), ((u.1 5), .inr (5, [.ref (u.1 1), .ref (u.1 11), .ref (u.1 28), .int 0, .ref (u.1 29), .ref (u.1 30), .int 0])), ((u.1 11), kout y nn (u.2 3)), ((u.1 28), .inl (y 0, (nn), .inl fun _ => 0)), ((u.1 29), .inl (y 0, (2 ^ (nn - 1)), .inl fun _ => 0)), ((u.1 30), .inl (y 0, (nn), .inl fun _ => 0)), ((u.1 6), .inr (6, [.ref (u.1 1), .ref (u.1 12), .ref (u.1 31), .ref (u.1 53), .ref (u.1 32)])), ((u.1 12), kout y nn (u.2 4)), ((u.1 31), .inl (y 0, (nn), .inl fun _ => 0)), ((u.1 53), .inl (y 1, (nn), .inr (.inl fun _ => 0))), ((u.1 32), .inl (y 0, (nn), .inl fun _ => 0)), ((u.1 33), .inl (y 0, (nn), .inl fun _ => 0)), (mm, .inr (8, [.int 0, .int (nI nn), .ref v.1, .int 0, .int 0, .ref v.2.1, .ref v.2.2.1, .ref v.2.2.2.1, .ref v.2.2.2.2.1, .long 0, .ref v.2.2.2.2.2.1, .ref v.2.2.2.2.2.2.1, .ref v.2.2.2.2.2.2.2.1, .ref v.2.2.2.2.2.2.2.2.1, .ref v.2.2.2.2.2.2.2.2.2.1, .ref v.2.2.2.2.2.2.2.2.2.2.1, .ref v.2.2.2.2.2.2.2.2.2.2.2])), (v.1, .inl (y 1, 144, .inr (.inl (fil 144 1000000000000 (fun _ => 0))))), (v.2.1, .inl (y 0, 12, .inl fun _ => 0)), (v.2.2.1, .inl (y 1, 12, .inr (.inl fun _ => 0))), (v.2.2.2.1, .inl (y 0, 12, .inl fun _ => 0)), (v.2.2.2.2.1, .inl (y 2, 12, .inl fun _ => 0)), (v.2.2.2.2.2.1, .inl (y 1, 4096, .inr (.inl fun _ => 0))), (v.2.2.2.2.2.2.1, .inl (y 1, 144, .inr (.inl fun _ => 0))), (v.2.2.2.2.2.2.2.1, .inl (y 0, 144, .inl fun _ => 0)), (v.2.2.2.2.2.2.2.2.1, .inl (y 0, 12, .inl fun _ => 0)), (v.2.2.2.2.2.2.2.2.2.1, .inl (y 0, 12, .inl fun _ => 0)), (v.2.2.2.2.2.2.2.2.2.2.1, .inl (y 1, 24, .inr (.inl fun _ => 0))), (v.2.2.2.2.2.2.2.2.2.2.2, .inl (y 0, 24, .inl fun _ => 0)), (o, .inl (y 1, 1, .inr (.inl fun _ => 0)))]
def fL (y : Nat → ClassId) (nn x0 : Nat) (u : U6) (mm : Nat) (v : U7) (o : Nat) (k : Nat) : Nat × va_E := (mo y nn (ad_ x0 u mm v o) (I0_ nn) J0_ A0_ B0_).getD k (0, .inr (0, []))
abbrev psL : List Nat := [0, 1, 8, 9, 2, 13, 14, 15, 3, 34, 35, 36, 16, 17, 18, 4, 10, 19, 20, 5, 11, 21, 22, 23, 6, 12, 24, 37, 25, 26, 7, 38, 27, 39, 28, 29, 40, 41, 30, 31, 32, 42, 33, 43]
theorem XL_eq {y : Nat → ClassId} {nn : Nat} {x0 : Nat} {u : U6} {mm : Nat} {v : U7} {o : Nat} (h12 : nn ≤ 12) : XL y nn x0 u mm v o = psL.map (fL y nn x0 u mm v o) := by
  unfold XL
  rw [kout_eq (g := 0) (x0 := x0) (mm := mm) (v := v) (o := o) h12, kout_eq (g := 1) (x0 := x0) (mm := mm) (v := v) (o := o) h12, kout_eq (g := 2) (x0 := x0) (mm := mm) (v := v) (o := o) h12, kout_eq (g := 3) (x0 := x0) (mm := mm) (v := v) (o := o) h12, kout_eq (g := 4) (x0 := x0) (mm := mm) (v := v) (o := o) h12]
  rfl
theorem mo_eq {y : Nat → ClassId} {nn : Nat} {x0 : Nat} {u : U6} {mm : Nat} {v : U7} {o : Nat} : (List.range 44).map (fL y nn x0 u mm v o) = mo y nn (ad_ x0 u mm v o) (I0_ nn) J0_ A0_ B0_ := rfl
theorem psL_perm : psL.Perm (List.range 44) := by decide
theorem perm5 (l : List Nat) : (l.map (fun i => ((0 : Nat), i)) ++ l.map (fun i => (1, i)) ++ l.map (fun i => (2, i)) ++ l.map (fun i => (3, i)) ++ l.map (fun i => (4, i))).Perm (l.flatMap fun i => [(0, i), (1, i), (2, i), (3, i), (4, i)]) := by
  rw [List.perm_iff_count]
  intro z
  induction l with
  | nil => rfl
  | cons a l ih =>
    simp only [List.map_cons, List.flatMap_cons, List.count_append, List.count_cons, List.count_nil] at ih ⊢
    omega
def hLf (y : Nat → ClassId) (nn : Nat) (ad : Nat → Nat) (G : Nat → Nat → Nat → Int32) (q : Nat × Nat) : Nat × va_E := (rad ad q.1 q.2, .inl (y 0, nn, .inl (G q.1 q.2)))
theorem krow_eq {y : Nat → ClassId} {nn g : Nat} {x0 : Nat} {u : U6} {mm : Nat} {v : U7} {o : Nat} {gg : Nat → Nat → Int32} {G : Nat → Nat → Nat → Int32} (h12 : nn ≤ 12) (hg : G g = gg) : krow y nn (u.2 g) gg = ((List.range nn).map (fun i => (g, i))).map (hLf y nn (ad_ x0 u mm v o) G) := by
  unfold krow
  rw [List.map_map]
  refine List.map_congr_left (fun i hi => ?_)
  have hi := List.mem_range.mp hi
  show ((u.2 g i, Sum.inl (y 0, nn, Sum.inl (gg i))) : Nat × va_E) = (rad (ad_ x0 u mm v o) g i, Sum.inl (y 0, nn, Sum.inl (G g i)))
  rw [ad_row (by omega), hg]
theorem conv {D : va_G} {A0 : Nat → Prop} {H0 : Heap} {H : Heap} {locs : List Loc} {y : Nat → ClassId} {nn : Nat} {x0 : Nat} {u : U6} {mm : Nat} {v : U7} {o : Nat} (h12 : nn ≤ 12) (hM : KK D A0 H0 (XL y nn x0 u mm v o ++ ((((krow y nn (u.2 0) (gt_ nn nn) ++ krow y nn (u.2 1) (gt_ nn nn)) ++ krow y nn (u.2 2) (fun _ _ => 0)) ++ krow y nn (u.2 3) (fun _ _ => 0)) ++ krow y nn (u.2 4) (fun _ _ => 0))) H locs) : MM D y nn (ad_ x0 u mm v o) A0 H0 (I0_ nn) J0_ A0_ B0_ (G0_ nn) H locs := by
  rw [XL_eq h12, krow_eq (y := y) (u := u) (gg := gt_ nn nn) (g := 0) (x0 := x0) (mm := mm) (v := v) (o := o) (G := G0_ nn) h12 rfl, krow_eq (y := y) (u := u) (gg := gt_ nn nn) (g := 1) (x0 := x0) (mm := mm) (v := v) (o := o) (G := G0_ nn) h12 rfl, krow_eq (y := y) (u := u) (gg := fun _ _ => 0) (g := 2) (x0 := x0) (mm := mm) (v := v) (o := o) (G := G0_ nn) h12 rfl, krow_eq (y := y) (u := u) (gg := fun _ _ => 0) (g := 3) (x0 := x0) (mm := mm) (v := v) (o := o) (G := G0_ nn) h12 rfl, krow_eq (y := y) (u := u) (gg := fun _ _ => 0) (g := 4) (x0 := x0) (mm := mm) (v := v) (o := o) (G := G0_ nn) h12 rfl, ← List.map_append, ← List.map_append, ← List.map_append, ← List.map_append] at hM
  have hp := List.Perm.append (psL_perm.map (fL y nn x0 u mm v o)) ((perm5 (List.range nn)).map (hLf y nn (ad_ x0 u mm v o) (G0_ nn)))
  rw [mo_eq] at hp
  exact kk_perm hM hp
theorem sys_0 {nn : Nat} (h3 : 3 ≤ nn) (h12 : nn ≤ 12) : SysR nn (I0_ nn) A0_ B0_ (G0_ nn) := by
  have m1 : (-1 : Int32).toInt = -1 := by decide
  have hg : ∀ a b, a < nn → b < nn → (gt_ nn nn a b).toInt = -1 := fun a b ha hb => by
    unfold gt_ fil
    rw [if_pos ha, if_pos hb]
    exact m1
  refine ⟨fun _ _ => -1, ⟨h3, h12, fun _ _ _ _ => (show (-1 : Int) ≤ -1 ∧ (-1 : Int) ≤ 1000000 by decide), fun _ _ => rfl⟩, fun a b ha hb => hg a b ha hb, fun a b ha hb => hg a b ha hb, fun a b ha hb => ?_, rfl, rfl, rfl, ⟨0, (show (0 : Int32) = nI 0 by decide), (show (0 : Int32) = nI 0 by decide), by omega, fun i hi => absurd hi (by omega)⟩, fun a b _ _ _ => rfl⟩
  show (fil 144 (1000000000000 : Int64) (fun _ => 0) (12 * a + b)).toInt = fr (-1)
  unfold fil
  rw [if_pos (by omega)]
  decide
