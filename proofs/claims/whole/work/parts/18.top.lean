/-! ===== X6_tree: reads I0 G1, writes I1 I4 J0 A20 A21 A22, frames 5, locals 114 ===== -/
def f_X6_tree (N : Nat) (nn : Nat) (i0 : Int32) (g1 : Nat → Nat → Int32) (i1 : Int32) (i4 : Int32) (j0 : Int64) (a20 : Nat → Int32) (a21 : Nat → Int32) (a22 : Nat → Int32) (p1 : Int32) : Option (Int64 × Int32 × Int32 × Int64 × (Nat → Int32) × (Nat → Int32) × (Nat → Int32)) :=
bd (f_X2_bound N nn i0 g1 i1 j0 a20 a21 a22 (if (1 : Int32) < (if p1 < (50 : Int32) then p1 else (50 : Int32)) then (if p1 < (50 : Int32) then p1 else (50 : Int32)) else (1 : Int32))) fun o14_0 =>
some (o14_0.1, o14_0.2.1, o14_0.2.1, o14_0.2.2.1, o14_0.2.2.2.1, o14_0.2.2.2.2.1, o14_0.2.2.2.2.2)
set_option maxHeartbeats 4000000 in
set_option maxRecDepth 100000 in
theorem c_X6_tree (l : Launch) (D : va_G) (y : Nat → ClassId) (nn : Nat) (ad : Nat → Nat) (sz : Nat) (I : Nat → Int32) (J : Nat → Int64) (A : Nat → Nat → Int32) (B : Nat → Nat → Int64) (G : Nat → Nat → Nat → Int32) (p1 : Int32) (N : Nat) (out : Int64 × Int32 × Int32 × Int64 × (Nat → Int32) × (Nat → Int32) × (Nat → Int32)) (hE : f_X6_tree N nn (I 0) (G 1) (I 1) (I 4) (J 0) (A 20) (A 21) (A 22) p1 = some out) : Met l yX6_tree wsX6_tree ({ frames := 5, cells := 0, slots := 0, locals := 114 } : Room) (mPc [.ref (ad 0), .int p1] D y nn ad sz I J A B G) (mQl D y nn ad (mA y nn ad I J A B G sz) out.1 ((va_up (va_up I 1 out.2.1) 4 out.2.2.1), (va_up J 0 out.2.2.2.1), (va_up (va_up (va_up A 20 out.2.2.2.2.1) 21 out.2.2.2.2.2.1) 22 out.2.2.2.2.2.2), B, G)) 0 0 (mA y nn ad I J A B G sz) := by
  refine Met.ofW (cc := cX6_tree) (maxL := 4) (ret := (some .long)) (by decide) rfl ?_
  intro p e s m args below meth c s₁ Bd hml hv
  obtain ⟨rfl, hsz, hP, hK, hD0, hN⟩ := hv
  have hr := Bd.returns
  subst hsz
  have F : Fx p s m ([.ref (ad 0), .int p1] : List Value).toArray meth c cX6_tree 4 wsX6_tree RX6 D y (mA y nn ad I J A B G s.heap.size) := ⟨⟨Bd.exec, Bd.bytes, hml, findClass_of_methodNamed Bd.named, atoms_spec (ws := wsX6_tree) Bd.pre⟩, hK, hN, fun q h => Or.inr h, Bd.notSynchronized⟩
  have hM := m_start (s := s) rfl hP hD0
  have hM := m_mem (I2 := (va_up (va_up I 1 (I 1)) 4 (I 4))) (J2 := (va_up J 0 (J 0))) (A2 := (va_up (va_up (va_up A 20 (A 20)) 21 (A 21)) 22 (A 22))) (B2 := B) (G2 := G) hM (by simp only [up_id]) (by simp only [up_id]) (by simp only [up_id]) (by rfl) (by rfl)
  have hx := F.1.1
  have hb := F.1.2.1
  have hl := lv_entry ([.ref (ad 0), .int p1]) (n := 4) (Nat.le_of_ble_eq_true rfl)
  rw [lg_entry_eq]
  generalize (lg_sl ([.ref (ad 0), .int p1]) ++ List.replicate (4 - (lg_sl ([.ref (ad 0), .int p1])).length) Slot.unset).toArray = ls at hl ⊢
  have hl : lv_has ls 4 [(0, .ref (ad 0)), (1, .int p1)] := hl
  show W p l e ({ frames := 5, cells := 0, slots := 0, locals := 114 } : Room) s m _ below meth c s.heap [] 0 0 _ _
  obtain ⟨locs, hlo⟩ : ∃ locs : List Loc, locs = [] := ⟨_, rfl⟩
  rw [← hlo]; rw [← hlo] at hM
  unfold f_X6_tree at hE
  revert hM
  suffices hH : ∀ H : Heap, MM D y nn ad (mA y nn ad I J A B G s.heap.size) s.heap (va_up (va_up I 1 (I 1)) 4 (I 4)) (va_up J 0 (J 0)) (va_up (va_up (va_up A 20 (A 20)) 21 (A 21)) 22 (A 22)) B G H locs → W p l e ({ frames := 5, cells := 0, slots := 0, locals := 114 } : Room) s m ([.ref (ad 0), .int p1] : List Value).toArray below meth c H locs 0 0 (MQ below (mQl D y nn ad (mA y nn ad I J A B G s.heap.size) out.1 ((va_up (va_up I 1 out.2.1) 4 out.2.2.1), (va_up J 0 out.2.2.2.1), (va_up (va_up (va_up A 20 out.2.2.2.2.1) 21 out.2.2.2.2.2.1) 22 out.2.2.2.2.2.2), B, G)) ([.ref (ad 0), .int p1] : List Value).toArray s 0 0 (mA y nn ad I J A B G s.heap.size)) (F0 m 0 ls []) from hH s.heap
  intro H hM
  refine lv_aload_n hx hb dX6_tree_0 rfl (lv_at hl 0 rfl) ?_
  refine m_get F hM 0 mg_0 rfl 1 (by decide) (by decide +kernel) (by decide +kernel) (v := .ref (ad 2)) rfl dX6_tree_1 ?_
  refine lv_iconst (v := 1) hx hb dX6_tree_4 (by decide) ?_
  refine lv_bipush (v := 50) hx hb dX6_tree_5 (by decide) ?_
  refine lv_iload_n hx hb dX6_tree_7 rfl (lv_at hl 1 rfl) ?_
  refine va_mmin hx hb (F.1.2.2.1.trans hl.1.symm) F.1.2.2.2.1 (F.1.2.2.2.2 (.methodLink RX6 9 Lib.Math.min.name) (by decide +kernel)) (F.1.2.2.2.2 (.static Lib.Math.min.name) (by decide +kernel)) (F.1.2.2.2.2 (.initialized "java/lang/Math") (by decide +kernel)) (F.1.2.2.2.2 (.code Lib.Math.min.name Lib.Math.min.code 2 (some .int)) (by decide +kernel)) (Nat.le_of_ble_eq_true rfl) (Nat.le_of_ble_eq_true rfl) (Nat.le_refl 0) (Nat.le_refl 0) dX6_tree_8 ?_
  refine va_mmax hx hb (F.1.2.2.1.trans hl.1.symm) F.1.2.2.2.1 (F.1.2.2.2.2 (.methodLink RX6 15 Lib.Math.max.name) (by decide +kernel)) (F.1.2.2.2.2 (.static Lib.Math.max.name) (by decide +kernel)) (F.1.2.2.2.2 (.initialized "java/lang/Math") (by decide +kernel)) (F.1.2.2.2.2 (.code Lib.Math.max.name Lib.Math.max.code 2 (some .int)) (by decide +kernel)) (Nat.le_of_ble_eq_true rfl) (Nat.le_of_ble_eq_true rfl) (Nat.le_refl 0) (Nat.le_refl 0) dX6_tree_11 ?_
  obtain ⟨o14_0, ho14_0, hE⟩ := bd_some hE
  refine m_callVl (As := [.int (if (1 : Int32) < (if p1 < (50 : Int32) then p1 else (50 : Int32)) then (if p1 < (50 : Int32) then p1 else (50 : Int32)) else (1 : Int32))]) (I2 := (va_up (va_up I 1 o14_0.2.1) 4 (I 4))) (J2 := (va_up J 0 o14_0.2.2.1)) (A2 := (va_up (va_up (va_up A 20 o14_0.2.2.2.1) 21 o14_0.2.2.2.2.1) 22 o14_0.2.2.2.2.2)) (B2 := B) (G2 := G) F hM (c_X2_bound l D y nn ad H.size (va_up (va_up I 1 (I 1)) 4 (I 4)) (va_up J 0 (J 0)) (va_up (va_up (va_up A 20 (A 20)) 21 (A 21)) 22 (A 22)) B G (if (1 : Int32) < (if p1 < (50 : Int32) then p1 else (50 : Int32)) then (if p1 < (50 : Int32) then p1 else (50 : Int32)) else (1 : Int32)) N o14_0 ho14_0) (cwV 1 F.1.2.2.2.2 gX6_tree_X2_bound rfl rfl rfl (by decide +kernel) ⟨Nat.le_of_ble_eq_true rfl, Nat.le_of_ble_eq_true rfl⟩) (m_recv F hM mg_2 rfl) rfl hl.1 (Nat.le_of_ble_eq_true rfl) dX6_tree_14 ⟨Nat.le_refl 0, Nat.le_refl 0⟩ un_1_4__1 (bx_uu _ _ _ _) un_20_21_22__20_21_22 rfl rfl (fun H locs hM => ?_)
  refine lv_lstore_n (lv' := [(2, .long o14_0.1), (0, .ref (ad 0)), (1, .int p1)]) hx hb dX6_tree_17 rfl hl (by decide) rfl (fun ls hl => ?_)
  refine lv_aload_n hx hb dX6_tree_18 rfl (lv_at hl 1 rfl) ?_
  refine lv_aload_n hx hb dX6_tree_19 rfl (lv_at hl 1 rfl) ?_
  refine m_get F hM 0 mg_0 rfl 1 (by decide) (by decide +kernel) (by decide +kernel) (v := .ref (ad 2)) rfl dX6_tree_20 ?_
  refine m_getN F hM 2 mg_2 rfl 5 (by decide) (by decide +kernel) (by decide +kernel) (v := .int o14_0.2.1) rfl dX6_tree_23 ?_
  refine m_put F hM 0 mg_0 rfl tyX6 tyX6_ok nmX6 7 (by decide) (by decide +kernel) (by decide +kernel) rfl (ty := .int) (v := .int o14_0.2.1) (by decide +kernel) rfl rfl (Nat.le_of_ble_eq_true rfl) (ms_0_7 _) un_1_4__4  rfl dX6_tree_26 (fun H locs hM => ?_)
  refine lv_lload_n hx hb dX6_tree_29 rfl (lv_at hl 0 rfl) ?_
  obtain rfl := Option.some.inj hE
  exact m_lret F hM hr rfl rfl dX6_tree_30
/-! ===== X6_rounds: reads I4, writes , frames 0, locals 0 ===== -/
def f_X6_rounds (i4 : Int32)   : Option (Int32) :=
some i4
set_option maxHeartbeats 4000000 in
set_option maxRecDepth 100000 in
theorem c_X6_rounds (l : Launch) (D : va_G) (y : Nat → ClassId) (nn : Nat) (ad : Nat → Nat) (sz : Nat) (I : Nat → Int32) (J : Nat → Int64) (A : Nat → Nat → Int32) (B : Nat → Nat → Int64) (G : Nat → Nat → Nat → Int32)   (out : Int32) (hE : f_X6_rounds (I 4)   = some out) : Met l yX6_rounds wsX6_rounds ({ frames := 0, cells := 0, slots := 0, locals := 0 } : Room) (mPc [.ref (ad 0)] D y nn ad sz I J A B G) (mQi D y nn ad (mA y nn ad I J A B G sz) out (I, J, A, B, G)) 0 0 (mA y nn ad I J A B G sz) := by
  refine Met.ofW (cc := cX6_rounds) (maxL := 1) (ret := (some .int)) (by decide) rfl ?_
  intro p e s m args below meth c s₁ Bd hml hv
  obtain ⟨rfl, hsz, hP, hK, hD0, hN⟩ := hv
  have hr := Bd.returns
  subst hsz
  have F : Fx p s m ([.ref (ad 0)] : List Value).toArray meth c cX6_rounds 1 wsX6_rounds RX6 D y (mA y nn ad I J A B G s.heap.size) := ⟨⟨Bd.exec, Bd.bytes, hml, findClass_of_methodNamed Bd.named, atoms_spec (ws := wsX6_rounds) Bd.pre⟩, hK, hN, fun q h => Or.inr h, Bd.notSynchronized⟩
  have hM := m_start (s := s) rfl hP hD0
  have hM := m_mem (I2 := I) (J2 := J) (A2 := A) (B2 := B) (G2 := G) hM (by rfl) (by rfl) (by rfl) (by rfl) (by rfl)
  have hx := F.1.1
  have hb := F.1.2.1
  have hl := lv_entry ([.ref (ad 0)]) (n := 1) (Nat.le_of_ble_eq_true rfl)
  rw [lg_entry_eq]
  generalize (lg_sl ([.ref (ad 0)]) ++ List.replicate (1 - (lg_sl ([.ref (ad 0)])).length) Slot.unset).toArray = ls at hl ⊢
  have hl : lv_has ls 1 [(0, .ref (ad 0))] := hl
  show W p l e ({ frames := 0, cells := 0, slots := 0, locals := 0 } : Room) s m _ below meth c s.heap [] 0 0 _ _
  obtain ⟨locs, hlo⟩ : ∃ locs : List Loc, locs = [] := ⟨_, rfl⟩
  rw [← hlo]; rw [← hlo] at hM
  unfold f_X6_rounds at hE
  revert hM
  suffices hH : ∀ H : Heap, MM D y nn ad (mA y nn ad I J A B G s.heap.size) s.heap I J A B G H locs → W p l e ({ frames := 0, cells := 0, slots := 0, locals := 0 } : Room) s m ([.ref (ad 0)] : List Value).toArray below meth c H locs 0 0 (MQ below (mQi D y nn ad (mA y nn ad I J A B G s.heap.size) out (I, J, A, B, G)) ([.ref (ad 0)] : List Value).toArray s 0 0 (mA y nn ad I J A B G s.heap.size)) (F0 m 0 ls []) from hH s.heap
  intro H hM
  refine lv_aload_n hx hb dX6_rounds_0 rfl (lv_at hl 0 rfl) ?_
  refine m_get F hM 0 mg_0 rfl 7 (by decide) (by decide +kernel) (by decide +kernel) (v := .int (I 4)) rfl dX6_rounds_1 ?_
  obtain rfl := Option.some.inj hE
  exact m_iret F hM hr rfl rfl dX6_rounds_4
/-! ===== X6_assign: reads I0 G0, writes A23 A24 A25 B50 B51 B52, frames 4, locals 91 ===== -/
def f_X6_assign (N : Nat) (nn : Nat) (i0 : Int32) (g0 : Nat → Nat → Int32) (a23 : Nat → Int32) (a24 : Nat → Int32) (a25 : Nat → Int32) (b50 : Nat → Int64) (b51 : Nat → Int64) (b52 : Nat → Int64)  : Option (Int64 × (Nat → Int32) × (Nat → Int32) × (Nat → Int32) × (Nat → Int64) × (Nat → Int64) × (Nat → Int64)) :=
bd (f_X0_leastSum N nn i0 g0 a23 a24 a25 b50 b51 b52) fun o4_0 =>
some (o4_0.1, o4_0.2.1, o4_0.2.2.1, o4_0.2.2.2.1, o4_0.2.2.2.2.1, o4_0.2.2.2.2.2.1, o4_0.2.2.2.2.2.2)
set_option maxHeartbeats 4000000 in
set_option maxRecDepth 100000 in
theorem c_X6_assign (l : Launch) (D : va_G) (y : Nat → ClassId) (nn : Nat) (ad : Nat → Nat) (sz : Nat) (I : Nat → Int32) (J : Nat → Int64) (A : Nat → Nat → Int32) (B : Nat → Nat → Int64) (G : Nat → Nat → Nat → Int32)  (N : Nat) (out : Int64 × (Nat → Int32) × (Nat → Int32) × (Nat → Int32) × (Nat → Int64) × (Nat → Int64) × (Nat → Int64)) (hE : f_X6_assign N nn (I 0) (G 0) (A 23) (A 24) (A 25) (B 50) (B 51) (B 52)  = some out) : Met l yX6_assign wsX6_assign ({ frames := 4, cells := 0, slots := 0, locals := 91 } : Room) (mPc [.ref (ad 0)] D y nn ad sz I J A B G) (mQl D y nn ad (mA y nn ad I J A B G sz) out.1 (I, J, (va_up (va_up (va_up A 23 out.2.1) 24 out.2.2.1) 25 out.2.2.2.1), (va_up (va_up (va_up B 50 out.2.2.2.2.1) 51 out.2.2.2.2.2.1) 52 out.2.2.2.2.2.2), G)) 0 0 (mA y nn ad I J A B G sz) := by
  refine Met.ofW (cc := cX6_assign) (maxL := 1) (ret := (some .long)) (by decide) rfl ?_
  intro p e s m args below meth c s₁ Bd hml hv
  obtain ⟨rfl, hsz, hP, hK, hD0, hN⟩ := hv
  have hr := Bd.returns
  subst hsz
  have F : Fx p s m ([.ref (ad 0)] : List Value).toArray meth c cX6_assign 1 wsX6_assign RX6 D y (mA y nn ad I J A B G s.heap.size) := ⟨⟨Bd.exec, Bd.bytes, hml, findClass_of_methodNamed Bd.named, atoms_spec (ws := wsX6_assign) Bd.pre⟩, hK, hN, fun q h => Or.inr h, Bd.notSynchronized⟩
  have hM := m_start (s := s) rfl hP hD0
  have hM := m_mem (I2 := I) (J2 := J) (A2 := (va_up (va_up (va_up A 23 (A 23)) 24 (A 24)) 25 (A 25))) (B2 := (va_up (va_up (va_up B 50 (B 50)) 51 (B 51)) 52 (B 52))) (G2 := G) hM (by rfl) (by rfl) (by simp only [up_id]) (by simp only [up_id]) (by rfl)
  have hx := F.1.1
  have hb := F.1.2.1
  have hl := lv_entry ([.ref (ad 0)]) (n := 1) (Nat.le_of_ble_eq_true rfl)
  rw [lg_entry_eq]
  generalize (lg_sl ([.ref (ad 0)]) ++ List.replicate (1 - (lg_sl ([.ref (ad 0)])).length) Slot.unset).toArray = ls at hl ⊢
  have hl : lv_has ls 1 [(0, .ref (ad 0))] := hl
  show W p l e ({ frames := 4, cells := 0, slots := 0, locals := 91 } : Room) s m _ below meth c s.heap [] 0 0 _ _
  obtain ⟨locs, hlo⟩ : ∃ locs : List Loc, locs = [] := ⟨_, rfl⟩
  rw [← hlo]; rw [← hlo] at hM
  unfold f_X6_assign at hE
  revert hM
  suffices hH : ∀ H : Heap, MM D y nn ad (mA y nn ad I J A B G s.heap.size) s.heap I J (va_up (va_up (va_up A 23 (A 23)) 24 (A 24)) 25 (A 25)) (va_up (va_up (va_up B 50 (B 50)) 51 (B 51)) 52 (B 52)) G H locs → W p l e ({ frames := 4, cells := 0, slots := 0, locals := 91 } : Room) s m ([.ref (ad 0)] : List Value).toArray below meth c H locs 0 0 (MQ below (mQl D y nn ad (mA y nn ad I J A B G s.heap.size) out.1 (I, J, (va_up (va_up (va_up A 23 out.2.1) 24 out.2.2.1) 25 out.2.2.2.1), (va_up (va_up (va_up B 50 out.2.2.2.2.1) 51 out.2.2.2.2.2.1) 52 out.2.2.2.2.2.2), G)) ([.ref (ad 0)] : List Value).toArray s 0 0 (mA y nn ad I J A B G s.heap.size)) (F0 m 0 ls []) from hH s.heap
  intro H hM
  refine lv_aload_n hx hb dX6_assign_0 rfl (lv_at hl 0 rfl) ?_
  refine m_get F hM 0 mg_0 rfl 2 (by decide) (by decide +kernel) (by decide +kernel) (v := .ref (ad 3)) rfl dX6_assign_1 ?_
  obtain ⟨o4_0, ho4_0, hE⟩ := bd_some hE
  refine m_callVl (As := []) (I2 := I) (J2 := J) (A2 := (va_up (va_up (va_up A 23 o4_0.2.1) 24 o4_0.2.2.1) 25 o4_0.2.2.2.1)) (B2 := (va_up (va_up (va_up B 50 o4_0.2.2.2.2.1) 51 o4_0.2.2.2.2.2.1) 52 o4_0.2.2.2.2.2.2)) (G2 := G) F hM (c_X0_leastSum l D y nn ad H.size I J (va_up (va_up (va_up A 23 (A 23)) 24 (A 24)) 25 (A 25)) (va_up (va_up (va_up B 50 (B 50)) 51 (B 51)) 52 (B 52)) G  N o4_0 ho4_0) (cwV 0 F.1.2.2.2.2 gX6_assign_X0_leastSum rfl rfl rfl (by decide +kernel) ⟨Nat.le_of_ble_eq_true rfl, Nat.le_of_ble_eq_true rfl⟩) (m_recv F hM mg_3 rfl) rfl hl.1 (Nat.le_of_ble_eq_true rfl) dX6_assign_4 ⟨Nat.le_refl 0, Nat.le_refl 0⟩ rfl rfl un_23_24_25__23_24_25 un_50_51_52__50_51_52 rfl (fun H locs hM => ?_)
  obtain rfl := Option.some.inj hE
  exact m_lret F hM hr rfl rfl dX6_assign_7
/-! ===== X6_cut: reads I0 G1, writes A26 A27 G2, frames 3, locals 74 ===== -/
def f_X6_cut (N : Nat) (nn : Nat) (i0 : Int32) (g1 : Nat → Nat → Int32) (a26 : Nat → Int32) (a27 : Nat → Int32) (g2 : Nat → Nat → Int32) (p1 : Int32) (p2 : Int32) : Option (Int64 × (Nat → Int32) × (Nat → Int32) × (Nat → Nat → Int32)) :=
bd (f_X3_has i0 p1) fun o5_0 =>
(if o5_0 = (0 : Int32) then
some ((-1 : Int64), a26, a27, g2)
else
bd (f_X3_has i0 p2) fun o16_1 =>
(if o16_1 = (0 : Int32) then
some ((-1 : Int64), a26, a27, g2)
else
(if p1 = p2 then
some ((-1 : Int64), a26, a27, g2)
else
bd (f_X1_width N nn i0 g1 a26 a27 g2 p1 p2) fun o37_2 =>
some (o37_2.1, o37_2.2.1, o37_2.2.2.1, o37_2.2.2.2))))
set_option maxHeartbeats 4000000 in
set_option maxRecDepth 100000 in
theorem c_X6_cut (l : Launch) (D : va_G) (y : Nat → ClassId) (nn : Nat) (ad : Nat → Nat) (sz : Nat) (I : Nat → Int32) (J : Nat → Int64) (A : Nat → Nat → Int32) (B : Nat → Nat → Int64) (G : Nat → Nat → Nat → Int32) (p1 : Int32) (p2 : Int32) (N : Nat) (out : Int64 × (Nat → Int32) × (Nat → Int32) × (Nat → Nat → Int32)) (hE : f_X6_cut N nn (I 0) (G 1) (A 26) (A 27) (G 2) p1 p2 = some out) : Met l yX6_cut wsX6_cut ({ frames := 3, cells := 0, slots := 0, locals := 74 } : Room) (mPc [.ref (ad 0), .int p1, .int p2] D y nn ad sz I J A B G) (mQl D y nn ad (mA y nn ad I J A B G sz) out.1 (I, J, (va_up (va_up A 26 out.2.1) 27 out.2.2.1), B, (va_up G 2 out.2.2.2))) 0 0 (mA y nn ad I J A B G sz) := by
  refine Met.ofW (cc := cX6_cut) (maxL := 3) (ret := (some .long)) (by decide) rfl ?_
  intro p e s m args below meth c s₁ Bd hml hv
  obtain ⟨rfl, hsz, hP, hK, hD0, hN⟩ := hv
  have hr := Bd.returns
  subst hsz
  have F : Fx p s m ([.ref (ad 0), .int p1, .int p2] : List Value).toArray meth c cX6_cut 3 wsX6_cut RX6 D y (mA y nn ad I J A B G s.heap.size) := ⟨⟨Bd.exec, Bd.bytes, hml, findClass_of_methodNamed Bd.named, atoms_spec (ws := wsX6_cut) Bd.pre⟩, hK, hN, fun q h => Or.inr h, Bd.notSynchronized⟩
  have hM := m_start (s := s) rfl hP hD0
  have hM := m_mem (I2 := I) (J2 := J) (A2 := (va_up (va_up A 26 (A 26)) 27 (A 27))) (B2 := B) (G2 := (va_up G 2 (G 2))) hM (by rfl) (by rfl) (by simp only [up_id]) (by rfl) (by simp only [up_id])
  have hx := F.1.1
  have hb := F.1.2.1
  have hl := lv_entry ([.ref (ad 0), .int p1, .int p2]) (n := 3) (Nat.le_of_ble_eq_true rfl)
  rw [lg_entry_eq]
  generalize (lg_sl ([.ref (ad 0), .int p1, .int p2]) ++ List.replicate (3 - (lg_sl ([.ref (ad 0), .int p1, .int p2])).length) Slot.unset).toArray = ls at hl ⊢
  have hl : lv_has ls 3 [(0, .ref (ad 0)), (1, .int p1), (2, .int p2)] := hl
  show W p l e ({ frames := 3, cells := 0, slots := 0, locals := 74 } : Room) s m _ below meth c s.heap [] 0 0 _ _
  obtain ⟨locs, hlo⟩ : ∃ locs : List Loc, locs = [] := ⟨_, rfl⟩
  rw [← hlo]; rw [← hlo] at hM
  unfold f_X6_cut at hE
  revert hM
  suffices hH : ∀ H : Heap, MM D y nn ad (mA y nn ad I J A B G s.heap.size) s.heap I J (va_up (va_up A 26 (A 26)) 27 (A 27)) B (va_up G 2 (G 2)) H locs → W p l e ({ frames := 3, cells := 0, slots := 0, locals := 74 } : Room) s m ([.ref (ad 0), .int p1, .int p2] : List Value).toArray below meth c H locs 0 0 (MQ below (mQl D y nn ad (mA y nn ad I J A B G s.heap.size) out.1 (I, J, (va_up (va_up A 26 out.2.1) 27 out.2.2.1), B, (va_up G 2 out.2.2.2))) ([.ref (ad 0), .int p1, .int p2] : List Value).toArray s 0 0 (mA y nn ad I J A B G s.heap.size)) (F0 m 0 ls []) from hH s.heap
  intro H hM
  refine lv_aload_n hx hb dX6_cut_0 rfl (lv_at hl 0 rfl) ?_
  refine m_get F hM 0 mg_0 rfl 0 (by decide) (by decide +kernel) (by decide +kernel) (v := .ref (ad 1)) rfl dX6_cut_1 ?_
  refine lv_iload_n hx hb dX6_cut_4 rfl (lv_at hl 1 rfl) ?_
  obtain ⟨o5_0, ho5_0, hE⟩ := bd_some hE
  refine m_callVi (As := [.int p1]) (I2 := I) (J2 := J) (A2 := (va_up (va_up A 26 (A 26)) 27 (A 27))) (B2 := B) (G2 := (va_up G 2 (G 2))) F hM (c_X3_has l D y nn ad H.size I J (va_up (va_up A 26 (A 26)) 27 (A 27)) B (va_up G 2 (G 2)) p1  o5_0 ho5_0) (cwV 1 F.1.2.2.2.2 gX6_cut_X3_has rfl rfl rfl (by decide +kernel) ⟨Nat.le_of_ble_eq_true rfl, Nat.le_of_ble_eq_true rfl⟩) (m_recv F hM mg_1 rfl) rfl hl.1 (Nat.le_of_ble_eq_true rfl) dX6_cut_5 ⟨Nat.le_refl 0, Nat.le_refl 0⟩ rfl rfl rfl rfl rfl (fun H locs hM => ?_)
  refine lv_if_eq (tgt := 27) hx hb dX6_cut_8 (by decide) (fun c8 => ?_) (fun c8 => ?_)
  · replace hE := (if_pos c8).symm.trans hE
    refine lv_ldc2 (v := (-1)) hx hb F.1.2.2.2.1 (F.1.2.2.2.2 (.constantLong RX6 100 (-1)) (by decide +kernel)) dX6_cut_27 ?_
    obtain rfl := Option.some.inj hE
    exact m_lret F hM hr rfl rfl dX6_cut_30
  · replace hE := (if_neg c8).symm.trans hE
    refine lv_aload_n hx hb dX6_cut_11 rfl (lv_at hl 0 rfl) ?_
    refine m_get F hM 0 mg_0 rfl 0 (by decide) (by decide +kernel) (by decide +kernel) (v := .ref (ad 1)) rfl dX6_cut_12 ?_
    refine lv_iload_n hx hb dX6_cut_15 rfl (lv_at hl 2 rfl) ?_
    obtain ⟨o16_1, ho16_1, hE⟩ := bd_some hE
    refine m_callVi (As := [.int p2]) (I2 := I) (J2 := J) (A2 := (va_up (va_up A 26 (A 26)) 27 (A 27))) (B2 := B) (G2 := (va_up G 2 (G 2))) F hM (c_X3_has l D y nn ad H.size I J (va_up (va_up A 26 (A 26)) 27 (A 27)) B (va_up G 2 (G 2)) p2  o16_1 ho16_1) (cwV 1 F.1.2.2.2.2 gX6_cut_X3_has rfl rfl rfl (by decide +kernel) ⟨Nat.le_of_ble_eq_true rfl, Nat.le_of_ble_eq_true rfl⟩) (m_recv F hM mg_1 rfl) rfl hl.1 (Nat.le_of_ble_eq_true rfl) dX6_cut_16 ⟨Nat.le_refl 0, Nat.le_refl 0⟩ rfl rfl rfl rfl rfl (fun H locs hM => ?_)
    refine lv_if_eq (tgt := 27) hx hb dX6_cut_19 (by decide) (fun c19 => ?_) (fun c19 => ?_)
    · replace hE := (if_pos c19).symm.trans hE
      refine lv_ldc2 (v := (-1)) hx hb F.1.2.2.2.1 (F.1.2.2.2.2 (.constantLong RX6 100 (-1)) (by decide +kernel)) dX6_cut_27 ?_
      obtain rfl := Option.some.inj hE
      exact m_lret F hM hr rfl rfl dX6_cut_30
    · replace hE := (if_neg c19).symm.trans hE
      refine lv_iload_n hx hb dX6_cut_22 rfl (lv_at hl 1 rfl) ?_
      refine lv_iload_n hx hb dX6_cut_23 rfl (lv_at hl 2 rfl) ?_
      refine lv_icmp_ne (tgt := 31) hx hb dX6_cut_24 (by decide) (fun c24 => ?_) (fun c24 => ?_)
      · replace hE := (if_neg c24).symm.trans hE
        refine lv_aload_n hx hb dX6_cut_31 rfl (lv_at hl 0 rfl) ?_
        refine m_get F hM 0 mg_0 rfl 3 (by decide) (by decide +kernel) (by decide +kernel) (v := .ref (ad 4)) rfl dX6_cut_32 ?_
        refine lv_iload_n hx hb dX6_cut_35 rfl (lv_at hl 1 rfl) ?_
        refine lv_iload_n hx hb dX6_cut_36 rfl (lv_at hl 2 rfl) ?_
        obtain ⟨o37_2, ho37_2, hE⟩ := bd_some hE
        refine m_callVl (As := [.int p1, .int p2]) (I2 := I) (J2 := J) (A2 := (va_up (va_up A 26 o37_2.2.1) 27 o37_2.2.2.1)) (B2 := B) (G2 := (va_up G 2 o37_2.2.2.2)) F hM (c_X1_width l D y nn ad H.size I J (va_up (va_up A 26 (A 26)) 27 (A 27)) B (va_up G 2 (G 2)) p1 p2 N o37_2 ho37_2) (cwV 2 F.1.2.2.2.2 gX6_cut_X1_width rfl rfl rfl (by decide +kernel) ⟨Nat.le_of_ble_eq_true rfl, Nat.le_of_ble_eq_true rfl⟩) (m_recv F hM mg_4 rfl) rfl hl.1 (Nat.le_of_ble_eq_true rfl) dX6_cut_37 ⟨Nat.le_refl 0, Nat.le_refl 0⟩ rfl rfl un_26_27__26_27 rfl (bx_uu _ _ _ _) (fun H locs hM => ?_)
        obtain rfl := Option.some.inj hE
        exact m_lret F hM hr rfl rfl dX6_cut_40
      · replace hE := (if_pos c24).symm.trans hE
        refine lv_ldc2 (v := (-1)) hx hb F.1.2.2.2.1 (F.1.2.2.2.2 (.constantLong RX6 100 (-1)) (by decide +kernel)) dX6_cut_27 ?_
        obtain rfl := Option.some.inj hE
        exact m_lret F hM hr rfl rfl dX6_cut_30
/-! ===== X6_postman: reads I0 G0 G1, writes I2 I3 A28 A29 A30 A31 A32 B53 G3 G4, frames 7, locals 155 ===== -/
def f_X6_postman (N : Nat) (nn : Nat) (i0 : Int32) (g0 : Nat → Nat → Int32) (g1 : Nat → Nat → Int32) (i2 : Int32) (i3 : Int32) (a28 : Nat → Int32) (a29 : Nat → Int32) (a30 : Nat → Int32) (a31 : Nat → Int32) (a32 : Nat → Int32) (b53 : Nat → Int64) (g3 : Nat → Nat → Int32) (g4 : Nat → Nat → Int32) (p1 : Int32) : Option (Int64 × Int32 × Int32 × (Nat → Int32) × (Nat → Int32) × (Nat → Int32) × (Nat → Int32) × (Nat → Int32) × (Nat → Int64) × (Nat → Nat → Int32) × (Nat → Nat → Int32)) :=
(if p1 = (0 : Int32) then
bd (f_X4_leastWay N nn i0 g1 i2 i3 a28 a29 a30 g3) fun o18_0 =>
some (o18_0.1, o18_0.2.1, o18_0.2.2.1, o18_0.2.2.2.1, o18_0.2.2.2.2.1, o18_0.2.2.2.2.2.1, a31, a32, b53, o18_0.2.2.2.2.2.2, g4)
else
bd (f_X5_leastWay N nn i0 g0 g1 a31 a32 b53 g4) fun o8_1 =>
some (o8_1.1, i2, i3, a28, a29, a30, o8_1.2.1, o8_1.2.2.1, o8_1.2.2.2.1, g3, o8_1.2.2.2.2))
set_option maxHeartbeats 4000000 in
set_option maxRecDepth 100000 in
theorem c_X6_postman (l : Launch) (D : va_G) (y : Nat → ClassId) (nn : Nat) (ad : Nat → Nat) (sz : Nat) (I : Nat → Int32) (J : Nat → Int64) (A : Nat → Nat → Int32) (B : Nat → Nat → Int64) (G : Nat → Nat → Nat → Int32) (p1 : Int32) (N : Nat) (out : Int64 × Int32 × Int32 × (Nat → Int32) × (Nat → Int32) × (Nat → Int32) × (Nat → Int32) × (Nat → Int32) × (Nat → Int64) × (Nat → Nat → Int32) × (Nat → Nat → Int32)) (hE : f_X6_postman N nn (I 0) (G 0) (G 1) (I 2) (I 3) (A 28) (A 29) (A 30) (A 31) (A 32) (B 53) (G 3) (G 4) p1 = some out) : Met l yX6_postman wsX6_postman ({ frames := 7, cells := 0, slots := 0, locals := 155 } : Room) (mPc [.ref (ad 0), .int p1] D y nn ad sz I J A B G) (mQl D y nn ad (mA y nn ad I J A B G sz) out.1 ((va_up (va_up I 2 out.2.1) 3 out.2.2.1), J, (va_up (va_up (va_up (va_up (va_up A 28 out.2.2.2.1) 29 out.2.2.2.2.1) 30 out.2.2.2.2.2.1) 31 out.2.2.2.2.2.2.1) 32 out.2.2.2.2.2.2.2.1), (va_up B 53 out.2.2.2.2.2.2.2.2.1), (va_up (va_up G 3 out.2.2.2.2.2.2.2.2.2.1) 4 out.2.2.2.2.2.2.2.2.2.2))) 0 0 (mA y nn ad I J A B G sz) := by
  refine Met.ofW (cc := cX6_postman) (maxL := 2) (ret := (some .long)) (by decide) rfl ?_
  intro p e s m args below meth c s₁ Bd hml hv
  obtain ⟨rfl, hsz, hP, hK, hD0, hN⟩ := hv
  have hr := Bd.returns
  subst hsz
  have F : Fx p s m ([.ref (ad 0), .int p1] : List Value).toArray meth c cX6_postman 2 wsX6_postman RX6 D y (mA y nn ad I J A B G s.heap.size) := ⟨⟨Bd.exec, Bd.bytes, hml, findClass_of_methodNamed Bd.named, atoms_spec (ws := wsX6_postman) Bd.pre⟩, hK, hN, fun q h => Or.inr h, Bd.notSynchronized⟩
  have hM := m_start (s := s) rfl hP hD0
  have hM := m_mem (I2 := (va_up (va_up I 2 (I 2)) 3 (I 3))) (J2 := J) (A2 := (va_up (va_up (va_up (va_up (va_up A 28 (A 28)) 29 (A 29)) 30 (A 30)) 31 (A 31)) 32 (A 32))) (B2 := (va_up B 53 (B 53))) (G2 := (va_up (va_up G 3 (G 3)) 4 (G 4))) hM (by simp only [up_id]) (by rfl) (by simp only [up_id]) (by simp only [up_id]) (by simp only [up_id])
  have hx := F.1.1
  have hb := F.1.2.1
  have hl := lv_entry ([.ref (ad 0), .int p1]) (n := 2) (Nat.le_of_ble_eq_true rfl)
  rw [lg_entry_eq]
  generalize (lg_sl ([.ref (ad 0), .int p1]) ++ List.replicate (2 - (lg_sl ([.ref (ad 0), .int p1])).length) Slot.unset).toArray = ls at hl ⊢
  have hl : lv_has ls 2 [(0, .ref (ad 0)), (1, .int p1)] := hl
  show W p l e ({ frames := 7, cells := 0, slots := 0, locals := 155 } : Room) s m _ below meth c s.heap [] 0 0 _ _
  obtain ⟨locs, hlo⟩ : ∃ locs : List Loc, locs = [] := ⟨_, rfl⟩
  rw [← hlo]; rw [← hlo] at hM
  unfold f_X6_postman at hE
  revert hM
  suffices hH : ∀ H : Heap, MM D y nn ad (mA y nn ad I J A B G s.heap.size) s.heap (va_up (va_up I 2 (I 2)) 3 (I 3)) J (va_up (va_up (va_up (va_up (va_up A 28 (A 28)) 29 (A 29)) 30 (A 30)) 31 (A 31)) 32 (A 32)) (va_up B 53 (B 53)) (va_up (va_up G 3 (G 3)) 4 (G 4)) H locs → W p l e ({ frames := 7, cells := 0, slots := 0, locals := 155 } : Room) s m ([.ref (ad 0), .int p1] : List Value).toArray below meth c H locs 0 0 (MQ below (mQl D y nn ad (mA y nn ad I J A B G s.heap.size) out.1 ((va_up (va_up I 2 out.2.1) 3 out.2.2.1), J, (va_up (va_up (va_up (va_up (va_up A 28 out.2.2.2.1) 29 out.2.2.2.2.1) 30 out.2.2.2.2.2.1) 31 out.2.2.2.2.2.2.1) 32 out.2.2.2.2.2.2.2.1), (va_up B 53 out.2.2.2.2.2.2.2.2.1), (va_up (va_up G 3 out.2.2.2.2.2.2.2.2.2.1) 4 out.2.2.2.2.2.2.2.2.2.2))) ([.ref (ad 0), .int p1] : List Value).toArray s 0 0 (mA y nn ad I J A B G s.heap.size)) (F0 m 0 ls []) from hH s.heap
  intro H hM
  refine lv_iload_n hx hb dX6_postman_0 rfl (lv_at hl 1 rfl) ?_
  refine lv_if_eq (tgt := 14) hx hb dX6_postman_1 (by decide) (fun c1 => ?_) (fun c1 => ?_)
  · replace hE := (if_pos c1).symm.trans hE
    refine lv_aload_n hx hb dX6_postman_14 rfl (lv_at hl 0 rfl) ?_
    refine m_get F hM 0 mg_0 rfl 4 (by decide) (by decide +kernel) (by decide +kernel) (v := .ref (ad 5)) rfl dX6_postman_15 ?_
    obtain ⟨o18_0, ho18_0, hE⟩ := bd_some hE
    refine m_callVl (As := []) (I2 := (va_up (va_up I 2 o18_0.2.1) 3 o18_0.2.2.1)) (J2 := J) (A2 := (va_up (va_up (va_up (va_up (va_up A 28 o18_0.2.2.2.1) 29 o18_0.2.2.2.2.1) 30 o18_0.2.2.2.2.2.1) 31 (A 31)) 32 (A 32))) (B2 := (va_up B 53 (B 53))) (G2 := (va_up (va_up G 3 o18_0.2.2.2.2.2.2) 4 (G 4))) F hM (c_X4_leastWay l D y nn ad H.size (va_up (va_up I 2 (I 2)) 3 (I 3)) J (va_up (va_up (va_up (va_up (va_up A 28 (A 28)) 29 (A 29)) 30 (A 30)) 31 (A 31)) 32 (A 32)) (va_up B 53 (B 53)) (va_up (va_up G 3 (G 3)) 4 (G 4))  N o18_0 ho18_0) (cwV 0 F.1.2.2.2.2 gX6_postman_X4_leastWay rfl rfl rfl (by decide +kernel) ⟨Nat.le_of_ble_eq_true rfl, Nat.le_of_ble_eq_true rfl⟩) (m_recv F hM mg_5 rfl) rfl hl.1 (Nat.le_of_ble_eq_true rfl) dX6_postman_18 ⟨Nat.le_refl 0, Nat.le_refl 0⟩ un_2_3__2_3 rfl un_28_29_30_31_32__28_29_30 rfl un_3_4__3 (fun H locs hM => ?_)
    obtain rfl := Option.some.inj hE
    exact m_lret F hM hr rfl rfl dX6_postman_21
  · replace hE := (if_neg c1).symm.trans hE
    refine lv_aload_n hx hb dX6_postman_4 rfl (lv_at hl 0 rfl) ?_
    refine m_get F hM 0 mg_0 rfl 5 (by decide) (by decide +kernel) (by decide +kernel) (v := .ref (ad 6)) rfl dX6_postman_5 ?_
    obtain ⟨o8_1, ho8_1, hE⟩ := bd_some hE
    refine m_callVl (As := []) (I2 := (va_up (va_up I 2 (I 2)) 3 (I 3))) (J2 := J) (A2 := (va_up (va_up (va_up (va_up (va_up A 28 (A 28)) 29 (A 29)) 30 (A 30)) 31 o8_1.2.1) 32 o8_1.2.2.1)) (B2 := (va_up B 53 o8_1.2.2.2.1)) (G2 := (va_up (va_up G 3 (G 3)) 4 o8_1.2.2.2.2)) F hM (c_X5_leastWay l D y nn ad H.size (va_up (va_up I 2 (I 2)) 3 (I 3)) J (va_up (va_up (va_up (va_up (va_up A 28 (A 28)) 29 (A 29)) 30 (A 30)) 31 (A 31)) 32 (A 32)) (va_up B 53 (B 53)) (va_up (va_up G 3 (G 3)) 4 (G 4))  N o8_1 ho8_1) (cwV 0 F.1.2.2.2.2 gX6_postman_X5_leastWay rfl rfl rfl (by decide +kernel) ⟨Nat.le_of_ble_eq_true rfl, Nat.le_of_ble_eq_true rfl⟩) (m_recv F hM mg_6 rfl) rfl hl.1 (Nat.le_of_ble_eq_true rfl) dX6_postman_8 ⟨Nat.le_refl 0, Nat.le_refl 0⟩ rfl rfl un_28_29_30_31_32__31_32 (bx_uu _ _ _ _) un_3_4__4 (fun H locs hM => ?_)
    refine lv_goto (tgt := 21) hx hb dX6_postman_11 (by decide) ?_
    obtain rfl := Option.some.inj hE
    exact m_lret F hM hr rfl rfl dX6_postman_21
/-! ===== X6_pair: reads I3 A30, writes , frames 1, locals 22 ===== -/
def f_X6_pair (nn : Nat) (i3 : Int32) (a30 : Nat → Int32)  (p1 : Int32) (p2 : Int32) : Option (Int32) :=
bd (f_X4_member nn i3 a30 p1 p2) fun o6_0 =>
some o6_0
set_option maxHeartbeats 4000000 in
set_option maxRecDepth 100000 in
theorem c_X6_pair (l : Launch) (D : va_G) (y : Nat → ClassId) (nn : Nat) (ad : Nat → Nat) (sz : Nat) (I : Nat → Int32) (J : Nat → Int64) (A : Nat → Nat → Int32) (B : Nat → Nat → Int64) (G : Nat → Nat → Nat → Int32) (p1 : Int32) (p2 : Int32)  (out : Int32) (hE : f_X6_pair nn (I 3) (A 30)  p1 p2 = some out) : Met l yX6_pair wsX6_pair ({ frames := 1, cells := 0, slots := 0, locals := 22 } : Room) (mPc [.ref (ad 0), .int p1, .int p2] D y nn ad sz I J A B G) (mQi D y nn ad (mA y nn ad I J A B G sz) out (I, J, A, B, G)) 0 0 (mA y nn ad I J A B G sz) := by
  refine Met.ofW (cc := cX6_pair) (maxL := 3) (ret := (some .int)) (by decide) rfl ?_
  intro p e s m args below meth c s₁ Bd hml hv
  obtain ⟨rfl, hsz, hP, hK, hD0, hN⟩ := hv
  have hr := Bd.returns
  subst hsz
  have F : Fx p s m ([.ref (ad 0), .int p1, .int p2] : List Value).toArray meth c cX6_pair 3 wsX6_pair RX6 D y (mA y nn ad I J A B G s.heap.size) := ⟨⟨Bd.exec, Bd.bytes, hml, findClass_of_methodNamed Bd.named, atoms_spec (ws := wsX6_pair) Bd.pre⟩, hK, hN, fun q h => Or.inr h, Bd.notSynchronized⟩
  have hM := m_start (s := s) rfl hP hD0
  have hM := m_mem (I2 := I) (J2 := J) (A2 := A) (B2 := B) (G2 := G) hM (by rfl) (by rfl) (by rfl) (by rfl) (by rfl)
  have hx := F.1.1
  have hb := F.1.2.1
  have hl := lv_entry ([.ref (ad 0), .int p1, .int p2]) (n := 3) (Nat.le_of_ble_eq_true rfl)
  rw [lg_entry_eq]
  generalize (lg_sl ([.ref (ad 0), .int p1, .int p2]) ++ List.replicate (3 - (lg_sl ([.ref (ad 0), .int p1, .int p2])).length) Slot.unset).toArray = ls at hl ⊢
  have hl : lv_has ls 3 [(0, .ref (ad 0)), (1, .int p1), (2, .int p2)] := hl
  show W p l e ({ frames := 1, cells := 0, slots := 0, locals := 22 } : Room) s m _ below meth c s.heap [] 0 0 _ _
  obtain ⟨locs, hlo⟩ : ∃ locs : List Loc, locs = [] := ⟨_, rfl⟩
  rw [← hlo]; rw [← hlo] at hM
  unfold f_X6_pair at hE
  revert hM
  suffices hH : ∀ H : Heap, MM D y nn ad (mA y nn ad I J A B G s.heap.size) s.heap I J A B G H locs → W p l e ({ frames := 1, cells := 0, slots := 0, locals := 22 } : Room) s m ([.ref (ad 0), .int p1, .int p2] : List Value).toArray below meth c H locs 0 0 (MQ below (mQi D y nn ad (mA y nn ad I J A B G s.heap.size) out (I, J, A, B, G)) ([.ref (ad 0), .int p1, .int p2] : List Value).toArray s 0 0 (mA y nn ad I J A B G s.heap.size)) (F0 m 0 ls []) from hH s.heap
  intro H hM
  refine lv_aload_n hx hb dX6_pair_0 rfl (lv_at hl 0 rfl) ?_
  refine m_get F hM 0 mg_0 rfl 4 (by decide) (by decide +kernel) (by decide +kernel) (v := .ref (ad 5)) rfl dX6_pair_1 ?_
  refine lv_iload_n hx hb dX6_pair_4 rfl (lv_at hl 1 rfl) ?_
  refine lv_iload_n hx hb dX6_pair_5 rfl (lv_at hl 2 rfl) ?_
  obtain ⟨o6_0, ho6_0, hE⟩ := bd_some hE
  refine m_callVi (As := [.int p1, .int p2]) (I2 := I) (J2 := J) (A2 := A) (B2 := B) (G2 := G) F hM (c_X4_member l D y nn ad H.size I J A B G p1 p2  o6_0 ho6_0) (cwV 2 F.1.2.2.2.2 gX6_pair_X4_member rfl rfl rfl (by decide +kernel) ⟨Nat.le_of_ble_eq_true rfl, Nat.le_of_ble_eq_true rfl⟩) (m_recv F hM mg_5 rfl) rfl hl.1 (Nat.le_of_ble_eq_true rfl) dX6_pair_6 ⟨Nat.le_refl 0, Nat.le_refl 0⟩ rfl rfl rfl rfl rfl (fun H locs hM => ?_)
  obtain rfl := Option.some.inj hE
  exact m_iret F hM hr rfl rfl dX6_pair_9
/-! ===== X6_greatest: reads I0 G0 G1, writes I1 J0 A20 A21 A22 A23 A24 A25 B50 B51 B52, frames 5, locals 114 ===== -/
def f_X6_greatest (N : Nat) (nn : Nat) (i0 : Int32) (g0 : Nat → Nat → Int32) (g1 : Nat → Nat → Int32) (i1 : Int32) (j0 : Int64) (a20 : Nat → Int32) (a21 : Nat → Int32) (a22 : Nat → Int32) (a23 : Nat → Int32) (a24 : Nat → Int32) (a25 : Nat → Int32) (b50 : Nat → Int64) (b51 : Nat → Int64) (b52 : Nat → Int64)  : Option (Int64 × Int32 × Int64 × (Nat → Int32) × (Nat → Int32) × (Nat → Int32) × (Nat → Int32) × (Nat → Int32) × (Nat → Int32) × (Nat → Int64) × (Nat → Int64) × (Nat → Int64)) :=
bd (f_X2_bound N nn i0 g1 i1 j0 a20 a21 a22 (50 : Int32)) fun o6_0 =>
bd (f_X0_leastSum N nn i0 g0 a23 a24 a25 b50 b51 b52) fun o14_1 =>
(if o6_0.1 = (-1 : Int64) then
some ((-1 : Int64), o6_0.2.1, o6_0.2.2.1, o6_0.2.2.2.1, o6_0.2.2.2.2.1, o6_0.2.2.2.2.2, o14_1.2.1, o14_1.2.2.1, o14_1.2.2.2.1, o14_1.2.2.2.2.1, o14_1.2.2.2.2.2.1, o14_1.2.2.2.2.2.2)
else
(if o14_1.1 = (-1 : Int64) then
some ((-1 : Int64), o6_0.2.1, o6_0.2.2.1, o6_0.2.2.2.1, o6_0.2.2.2.2.1, o6_0.2.2.2.2.2, o14_1.2.1, o14_1.2.2.1, o14_1.2.2.2.1, o14_1.2.2.2.2.1, o14_1.2.2.2.2.2.1, o14_1.2.2.2.2.2.2)
else
some ((if o14_1.1 < o6_0.1 then o6_0.1 else o14_1.1), o6_0.2.1, o6_0.2.2.1, o6_0.2.2.2.1, o6_0.2.2.2.2.1, o6_0.2.2.2.2.2, o14_1.2.1, o14_1.2.2.1, o14_1.2.2.2.1, o14_1.2.2.2.2.1, o14_1.2.2.2.2.2.1, o14_1.2.2.2.2.2.2)))
set_option maxHeartbeats 4000000 in
set_option maxRecDepth 100000 in
theorem c_X6_greatest (l : Launch) (D : va_G) (y : Nat → ClassId) (nn : Nat) (ad : Nat → Nat) (sz : Nat) (I : Nat → Int32) (J : Nat → Int64) (A : Nat → Nat → Int32) (B : Nat → Nat → Int64) (G : Nat → Nat → Nat → Int32)  (N : Nat) (out : Int64 × Int32 × Int64 × (Nat → Int32) × (Nat → Int32) × (Nat → Int32) × (Nat → Int32) × (Nat → Int32) × (Nat → Int32) × (Nat → Int64) × (Nat → Int64) × (Nat → Int64)) (hE : f_X6_greatest N nn (I 0) (G 0) (G 1) (I 1) (J 0) (A 20) (A 21) (A 22) (A 23) (A 24) (A 25) (B 50) (B 51) (B 52)  = some out) : Met l yX6_greatest wsX6_greatest ({ frames := 5, cells := 0, slots := 0, locals := 114 } : Room) (mPc [.ref (ad 0)] D y nn ad sz I J A B G) (mQl D y nn ad (mA y nn ad I J A B G sz) out.1 ((va_up I 1 out.2.1), (va_up J 0 out.2.2.1), (va_up (va_up (va_up (va_up (va_up (va_up A 20 out.2.2.2.1) 21 out.2.2.2.2.1) 22 out.2.2.2.2.2.1) 23 out.2.2.2.2.2.2.1) 24 out.2.2.2.2.2.2.2.1) 25 out.2.2.2.2.2.2.2.2.1), (va_up (va_up (va_up B 50 out.2.2.2.2.2.2.2.2.2.1) 51 out.2.2.2.2.2.2.2.2.2.2.1) 52 out.2.2.2.2.2.2.2.2.2.2.2), G)) 0 0 (mA y nn ad I J A B G sz) := by
  refine Met.ofW (cc := cX6_greatest) (maxL := 5) (ret := (some .long)) (by decide) rfl ?_
  intro p e s m args below meth c s₁ Bd hml hv
  obtain ⟨rfl, hsz, hP, hK, hD0, hN⟩ := hv
  have hr := Bd.returns
  subst hsz
  have F : Fx p s m ([.ref (ad 0)] : List Value).toArray meth c cX6_greatest 5 wsX6_greatest RX6 D y (mA y nn ad I J A B G s.heap.size) := ⟨⟨Bd.exec, Bd.bytes, hml, findClass_of_methodNamed Bd.named, atoms_spec (ws := wsX6_greatest) Bd.pre⟩, hK, hN, fun q h => Or.inr h, Bd.notSynchronized⟩
  have hM := m_start (s := s) rfl hP hD0
  have hM := m_mem (I2 := (va_up I 1 (I 1))) (J2 := (va_up J 0 (J 0))) (A2 := (va_up (va_up (va_up (va_up (va_up (va_up A 20 (A 20)) 21 (A 21)) 22 (A 22)) 23 (A 23)) 24 (A 24)) 25 (A 25))) (B2 := (va_up (va_up (va_up B 50 (B 50)) 51 (B 51)) 52 (B 52))) (G2 := G) hM (by simp only [up_id]) (by simp only [up_id]) (by simp only [up_id]) (by simp only [up_id]) (by rfl)
  have hx := F.1.1
  have hb := F.1.2.1
  have hl := lv_entry ([.ref (ad 0)]) (n := 5) (Nat.le_of_ble_eq_true rfl)
  rw [lg_entry_eq]
  generalize (lg_sl ([.ref (ad 0)]) ++ List.replicate (5 - (lg_sl ([.ref (ad 0)])).length) Slot.unset).toArray = ls at hl ⊢
  have hl : lv_has ls 5 [(0, .ref (ad 0))] := hl
  show W p l e ({ frames := 5, cells := 0, slots := 0, locals := 114 } : Room) s m _ below meth c s.heap [] 0 0 _ _
  obtain ⟨locs, hlo⟩ : ∃ locs : List Loc, locs = [] := ⟨_, rfl⟩
  rw [← hlo]; rw [← hlo] at hM
  unfold f_X6_greatest at hE
  revert hM
  suffices hH : ∀ H : Heap, MM D y nn ad (mA y nn ad I J A B G s.heap.size) s.heap (va_up I 1 (I 1)) (va_up J 0 (J 0)) (va_up (va_up (va_up (va_up (va_up (va_up A 20 (A 20)) 21 (A 21)) 22 (A 22)) 23 (A 23)) 24 (A 24)) 25 (A 25)) (va_up (va_up (va_up B 50 (B 50)) 51 (B 51)) 52 (B 52)) G H locs → W p l e ({ frames := 5, cells := 0, slots := 0, locals := 114 } : Room) s m ([.ref (ad 0)] : List Value).toArray below meth c H locs 0 0 (MQ below (mQl D y nn ad (mA y nn ad I J A B G s.heap.size) out.1 ((va_up I 1 out.2.1), (va_up J 0 out.2.2.1), (va_up (va_up (va_up (va_up (va_up (va_up A 20 out.2.2.2.1) 21 out.2.2.2.2.1) 22 out.2.2.2.2.2.1) 23 out.2.2.2.2.2.2.1) 24 out.2.2.2.2.2.2.2.1) 25 out.2.2.2.2.2.2.2.2.1), (va_up (va_up (va_up B 50 out.2.2.2.2.2.2.2.2.2.1) 51 out.2.2.2.2.2.2.2.2.2.2.1) 52 out.2.2.2.2.2.2.2.2.2.2.2), G)) ([.ref (ad 0)] : List Value).toArray s 0 0 (mA y nn ad I J A B G s.heap.size)) (F0 m 0 ls []) from hH s.heap
  intro H hM
  refine lv_aload_n hx hb dX6_greatest_0 rfl (lv_at hl 0 rfl) ?_
  refine m_get F hM 0 mg_0 rfl 1 (by decide) (by decide +kernel) (by decide +kernel) (v := .ref (ad 2)) rfl dX6_greatest_1 ?_
  refine lv_bipush (v := 50) hx hb dX6_greatest_4 (by decide) ?_
  obtain ⟨o6_0, ho6_0, hE⟩ := bd_some hE
  refine m_callVl (As := [.int (50 : Int32)]) (I2 := (va_up I 1 o6_0.2.1)) (J2 := (va_up J 0 o6_0.2.2.1)) (A2 := (va_up (va_up (va_up (va_up (va_up (va_up A 20 o6_0.2.2.2.1) 21 o6_0.2.2.2.2.1) 22 o6_0.2.2.2.2.2) 23 (A 23)) 24 (A 24)) 25 (A 25))) (B2 := (va_up (va_up (va_up B 50 (B 50)) 51 (B 51)) 52 (B 52))) (G2 := G) F hM (c_X2_bound l D y nn ad H.size (va_up I 1 (I 1)) (va_up J 0 (J 0)) (va_up (va_up (va_up (va_up (va_up (va_up A 20 (A 20)) 21 (A 21)) 22 (A 22)) 23 (A 23)) 24 (A 24)) 25 (A 25)) (va_up (va_up (va_up B 50 (B 50)) 51 (B 51)) 52 (B 52)) G (50 : Int32) N o6_0 ho6_0) (cwV 1 F.1.2.2.2.2 gX6_greatest_X2_bound rfl rfl rfl (by decide +kernel) ⟨Nat.le_of_ble_eq_true rfl, Nat.le_of_ble_eq_true rfl⟩) (m_recv F hM mg_2 rfl) rfl hl.1 (Nat.le_of_ble_eq_true rfl) dX6_greatest_6 ⟨Nat.le_refl 0, Nat.le_refl 0⟩ (bx_uu _ _ _ _) (bx_uu _ _ _ _) un_20_21_22_23_24_25__20_21_22 rfl rfl (fun H locs hM => ?_)
  refine lv_lstore_n (lv' := [(1, .long o6_0.1), (0, .ref (ad 0))]) hx hb dX6_greatest_9 rfl hl (by decide) rfl (fun ls hl => ?_)
  refine lv_aload_n hx hb dX6_greatest_10 rfl (lv_at hl 1 rfl) ?_
  refine m_get F hM 0 mg_0 rfl 2 (by decide) (by decide +kernel) (by decide +kernel) (v := .ref (ad 3)) rfl dX6_greatest_11 ?_
  obtain ⟨o14_1, ho14_1, hE⟩ := bd_some hE
  refine m_callVl (As := []) (I2 := (va_up I 1 o6_0.2.1)) (J2 := (va_up J 0 o6_0.2.2.1)) (A2 := (va_up (va_up (va_up (va_up (va_up (va_up A 20 o6_0.2.2.2.1) 21 o6_0.2.2.2.2.1) 22 o6_0.2.2.2.2.2) 23 o14_1.2.1) 24 o14_1.2.2.1) 25 o14_1.2.2.2.1)) (B2 := (va_up (va_up (va_up B 50 o14_1.2.2.2.2.1) 51 o14_1.2.2.2.2.2.1) 52 o14_1.2.2.2.2.2.2)) (G2 := G) F hM (c_X0_leastSum l D y nn ad H.size (va_up I 1 o6_0.2.1) (va_up J 0 o6_0.2.2.1) (va_up (va_up (va_up (va_up (va_up (va_up A 20 o6_0.2.2.2.1) 21 o6_0.2.2.2.2.1) 22 o6_0.2.2.2.2.2) 23 (A 23)) 24 (A 24)) 25 (A 25)) (va_up (va_up (va_up B 50 (B 50)) 51 (B 51)) 52 (B 52)) G  N o14_1 ho14_1) (cwV 0 F.1.2.2.2.2 gX6_greatest_X0_leastSum rfl rfl rfl (by decide +kernel) ⟨Nat.le_of_ble_eq_true rfl, Nat.le_of_ble_eq_true rfl⟩) (m_recv F hM mg_3 rfl) rfl hl.1 (Nat.le_of_ble_eq_true rfl) dX6_greatest_14 ⟨Nat.le_refl 0, Nat.le_refl 0⟩ rfl rfl un_20_21_22_23_24_25__23_24_25 un_50_51_52__50_51_52 rfl (fun H locs hM => ?_)
  refine lv_lstore_n (lv' := [(3, .long o14_1.1), (1, .long o6_0.1), (0, .ref (ad 0))]) hx hb dX6_greatest_17 rfl hl (by decide) rfl (fun ls hl => ?_)
  refine lv_lload_n hx hb dX6_greatest_18 rfl (lv_at hl 1 rfl) ?_
  refine lv_ldc2 (v := (-1)) hx hb F.1.2.2.2.1 (F.1.2.2.2.2 (.constantLong RX6 100 (-1)) (by decide +kernel)) dX6_greatest_19 ?_
  refine m_leq (tgt := 34) F dX6_greatest_22 dX6_greatest_23 (by decide) (fun c23 => ?_) (fun c23 => ?_)
  · replace hE := (if_pos c23).symm.trans hE
    refine lv_ldc2 (v := (-1)) hx hb F.1.2.2.2.1 (F.1.2.2.2.2 (.constantLong RX6 100 (-1)) (by decide +kernel)) dX6_greatest_34 ?_
    obtain rfl := Option.some.inj hE
    exact m_lret F hM hr rfl rfl dX6_greatest_37
  · replace hE := (if_neg c23).symm.trans hE
    refine lv_lload_n hx hb dX6_greatest_26 rfl (lv_at hl 0 rfl) ?_
    refine lv_ldc2 (v := (-1)) hx hb F.1.2.2.2.1 (F.1.2.2.2.2 (.constantLong RX6 100 (-1)) (by decide +kernel)) dX6_greatest_27 ?_
    refine m_lne (tgt := 38) F dX6_greatest_30 dX6_greatest_31 (by decide) (fun c31 => ?_) (fun c31 => ?_)
    · replace hE := (if_neg c31).symm.trans hE
      refine lv_lload_n hx hb dX6_greatest_38 rfl (lv_at hl 1 rfl) ?_
      refine lv_lload_n hx hb dX6_greatest_39 rfl (lv_at hl 0 rfl) ?_
      refine va_mmax_long hx hb (F.1.2.2.1.trans hl.1.symm) F.1.2.2.2.1 (F.1.2.2.2.2 (.methodLink RX6 113 Lib.MathLoose.max_long.x) (by decide +kernel)) (F.1.2.2.2.2 (.static Lib.MathLoose.max_long.x) (by decide +kernel)) (F.1.2.2.2.2 (.initialized "java/lang/Math") (by decide +kernel)) (F.1.2.2.2.2 (.code Lib.MathLoose.max_long.x Lib.MathLoose.max_long.code 4 (some .long)) (by decide +kernel)) (Nat.le_of_ble_eq_true rfl) (Nat.le_of_ble_eq_true rfl) (Nat.le_refl 0) (Nat.le_refl 0) dX6_greatest_40 ?_
      obtain rfl := Option.some.inj hE
      exact m_lret F hM hr rfl rfl dX6_greatest_43
    · replace hE := (if_pos c31).symm.trans hE
      refine lv_ldc2 (v := (-1)) hx hb F.1.2.2.2.1 (F.1.2.2.2.2 (.constantLong RX6 100 (-1)) (by decide +kernel)) dX6_greatest_34 ?_
      obtain rfl := Option.some.inj hE
      exact m_lret F hM hr rfl rfl dX6_greatest_37
/-! ===== X6_pickRow: reads , writes A33, frames 0, locals 0 ===== -/
def f_X6_pickRow_49 (N : Nat) (nn : Nat) (nx13 : Int32 → Int32 → Int32 → (Nat → Int32) → Option ((Nat → Int32))) (nx49 : Int32 → Int32 → Int32 → Int32 → (Nat → Int32) → Option ((Nat → Int32))) (x2 : Int32) (x3 : Int32) (x4 : Int32) (x6 : Int32) (a33' : Nat → Int32) : Option ((Nat → Int32)) :=
(if x2 ≤ x6 then
nx13 x2 x3 (x4 + (-1 : Int32)) a33'
else
ck x6 nn (
ck x4 nn (
(if (a33' x6.toNatClampNeg) < (a33' x4.toNatClampNeg) then
nx49 x2 x3 x4 (x6 + (1 : Int32)) a33'
else
ck x6 nn (
ck x6 nn (
nmd (upd a33' x6.toNatClampNeg ((a33' x6.toNatClampNeg) + (1 : Int32))) fun w82_8 =>
nx49 x2 x3 x4 (x6 + (1 : Int32)) w82_8))))))
def f_X6_pickRow_13 (N : Nat) (nn : Nat)  (nx13 : Int32 → Int32 → Int32 → (Nat → Int32) → Option ((Nat → Int32))) (x2 : Int32) (x3 : Int32) (x4 : Int32) (a33' : Nat → Int32) : Option ((Nat → Int32)) :=
(if x4 < (1 : Int32) then
ck (0 : Int32) nn (
nmd (upd a33' (0 : Int32).toNatClampNeg (0 : Int32)) fun w101_1 =>
some w101_1)
else
dv (x2 - x4) (
ck x4 nn (
nmd (upd a33' x4.toNatClampNeg ((1 : Int32) + (x3 - x3 / (x2 - x4) * (x2 - x4)))) fun w37_3 =>
dv (x2 - x4) (
lq5 (f_X6_pickRow_49 N nn nx13) N x2 (x3 / (x2 - x4)) x4 (x4 + (1 : Int32)) w37_3))))
def f_X6_pickRow (N : Nat) (nn : Nat) (a33 : Nat → Int32) (p1 : Int32) : Option ((Nat → Int32)) :=
lq4 (f_X6_pickRow_13 N nn ) N (Int32.ofNat nn) p1 ((Int32.ofNat nn) - (1 : Int32)) a33
set_option maxHeartbeats 4000000 in
set_option maxRecDepth 100000 in
theorem s_X6_pickRow_49 {p : Program} {l : Launch} {e : Env} {s : State} {m : MethodId} {args : Array Value} {below : List Frame} {meth : Method} {c : Code} {D : va_G} {y : Nat → ClassId} {nn : Nat} {ad : Nat → Nat} {A0 : Nat → Prop} {I : Nat → Int32} {J : Nat → Int64} {A : Nat → Nat → Int32} {B : Nat → Nat → Int64} {G : Nat → Nat → Nat → Int32} (F : Fx p s m args meth c cX6_pickRow 7 wsX6_pickRow RX6 D y A0) (hr : meth.sig.returnType = none) {out : (Nat → Int32)} {N : Nat} (nx13 : Int32 → Int32 → Int32 → (Nat → Int32) → Option ((Nat → Int32))) (hn13 : ∀ (x2 : Int32) (x3 : Int32) (x4 : Int32) (a33' : Nat → Int32) (ls : Array Slot) (H : Heap) (locs : List Loc), nx13 x2 x3 x4 a33' = some out → MM D y nn ad A0 s.heap I J (va_up A 33 a33') B G H locs → lv_has ls 7 [(0, .ref (ad 0)), (2, .int x2), (3, .int x3), (4, .int x4)] → W p l e ({ frames := 0, cells := 0, slots := 0, locals := 0 } : Room) s m args below meth c H locs 0 0 (MQ below (mQv D y nn ad A0 (I, J, (va_up A 33 out), B, G)) args s 0 0 A0) (F0 m 13 ls [])) (nx49 : Int32 → Int32 → Int32 → Int32 → (Nat → Int32) → Option ((Nat → Int32))) (hn49 : ∀ (x2 : Int32) (x3 : Int32) (x4 : Int32) (x6 : Int32) (a33' : Nat → Int32) (ls : Array Slot) (H : Heap) (locs : List Loc), nx49 x2 x3 x4 x6 a33' = some out → MM D y nn ad A0 s.heap I J (va_up A 33 a33') B G H locs → lv_has ls 7 [(0, .ref (ad 0)), (2, .int x2), (3, .int x3), (4, .int x4), (6, .int x6)] → W p l e ({ frames := 0, cells := 0, slots := 0, locals := 0 } : Room) s m args below meth c H locs 0 0 (MQ below (mQv D y nn ad A0 (I, J, (va_up A 33 out), B, G)) args s 0 0 A0) (F0 m 49 ls [])) : ∀ (x2 : Int32) (x3 : Int32) (x4 : Int32) (x6 : Int32) (a33' : Nat → Int32) (ls : Array Slot) (H : Heap) (locs : List Loc), f_X6_pickRow_49 N nn nx13 nx49 x2 x3 x4 x6 a33' = some out → MM D y nn ad A0 s.heap I J (va_up A 33 a33') B G H locs → lv_has ls 7 [(0, .ref (ad 0)), (2, .int x2), (3, .int x3), (4, .int x4), (6, .int x6)] → W p l e ({ frames := 0, cells := 0, slots := 0, locals := 0 } : Room) s m args below meth c H locs 0 0 (MQ below (mQv D y nn ad A0 (I, J, (va_up A 33 out), B, G)) args s 0 0 A0) (F0 m 49 ls []) := by
  intro x2 x3 x4 x6 a33' ls H locs hE hM hl
  have hx := F.1.1
  have hb := F.1.2.1
  unfold f_X6_pickRow_49 at hE
  refine lv_iload hx hb dX6_pickRow_49 (lv_at hl 4 rfl) ?_
  refine lv_iload_n hx hb dX6_pickRow_51 rfl (lv_at hl 1 rfl) ?_
  refine lv_icmp_ge (tgt := 89) hx hb dX6_pickRow_52 (by decide) (fun c52 => ?_) (fun c52 => ?_)
  · replace hE := (if_pos c52).symm.trans hE
    refine lv_iinc (v := x4 + (-1 : Int32)) (lv' := [(4, .int (x4 + (-1 : Int32))), (0, .ref (ad 0)), (2, .int x2), (3, .int x3), (6, .int x6)]) hx hb dX6_pickRow_89 hl (k := 3) rfl rfl (by decide) rfl (fun ls hl => ?_)
    refine lv_goto (tgt := 13) hx hb dX6_pickRow_92 (by decide) ?_
    exact hn13 x2 x3 (x4 + (-1 : Int32)) a33' ls H locs hE hM (lv_sub hl [1, 2, 3, 0] rfl)
  · replace hE := (if_neg c52).symm.trans hE
    refine lv_aload_n hx hb dX6_pickRow_55 rfl (lv_at hl 0 rfl) ?_
    refine m_get F hM 0 mg_0 rfl 6 (by decide) (by decide +kernel) (by decide +kernel) (v := .ref (ad 33)) rfl dX6_pickRow_56 ?_
    refine lv_iload hx hb dX6_pickRow_59 (lv_at hl 4 rfl) ?_
    obtain ⟨hi61_4, hE⟩ := ck_some hE
    refine m_iald (g := a33') F hM mg_33 rfl hi61_4 dX6_pickRow_61 ?_
    refine lv_aload_n hx hb dX6_pickRow_62 rfl (lv_at hl 0 rfl) ?_
    refine m_get F hM 0 mg_0 rfl 6 (by decide) (by decide +kernel) (by decide +kernel) (v := .ref (ad 33)) rfl dX6_pickRow_63 ?_
    refine lv_iload hx hb dX6_pickRow_66 (lv_at hl 3 rfl) ?_
    obtain ⟨hi68_5, hE⟩ := ck_some hE
    refine m_iald (g := a33') F hM mg_33 rfl hi68_5 dX6_pickRow_68 ?_
    refine lv_icmp_lt (tgt := 83) hx hb dX6_pickRow_69 (by decide) (fun c69 => ?_) (fun c69 => ?_)
    · replace hE := (if_pos c69).symm.trans hE
      refine lv_iinc (v := x6 + (1 : Int32)) (lv' := [(6, .int (x6 + (1 : Int32))), (0, .ref (ad 0)), (2, .int x2), (3, .int x3), (4, .int x4)]) hx hb dX6_pickRow_83 hl (k := 4) rfl rfl (by decide) rfl (fun ls hl => ?_)
      refine lv_goto (tgt := 49) hx hb dX6_pickRow_86 (by decide) ?_
      exact hn49 x2 x3 x4 (x6 + (1 : Int32)) a33' ls H locs hE hM (lv_sub hl [1, 2, 3, 4, 0] rfl)
    · replace hE := (if_neg c69).symm.trans hE
      refine lv_aload_n hx hb dX6_pickRow_72 rfl (lv_at hl 0 rfl) ?_
      refine m_get F hM 0 mg_0 rfl 6 (by decide) (by decide +kernel) (by decide +kernel) (v := .ref (ad 33)) rfl dX6_pickRow_73 ?_
      refine lv_iload hx hb dX6_pickRow_76 (lv_at hl 4 rfl) ?_
      refine lv_dup2_11 hx hb dX6_pickRow_78 rfl rfl ?_
      obtain ⟨hi79_6, hE⟩ := ck_some hE
      refine m_iald (g := a33') F hM mg_33 rfl hi79_6 dX6_pickRow_79 ?_
      refine lv_iconst (v := 1) hx hb dX6_pickRow_80 (by decide) ?_
      refine lv_iadd hx hb dX6_pickRow_81 ?_
      obtain ⟨hi82_7, hE⟩ := ck_some hE
      obtain ⟨w82_8, ew82_8, hE⟩ := nmd_some hE
      refine m_iast (f := a33') (A' := (va_up A 33 w82_8)) F hM mg_33 ms_33 (by rw [ew82_8]; exact (bx_uu _ _ _ _)) hi82_7 dX6_pickRow_82 (fun H locs hM => ?_)
      refine lv_iinc (v := x6 + (1 : Int32)) (lv' := [(6, .int (x6 + (1 : Int32))), (0, .ref (ad 0)), (2, .int x2), (3, .int x3), (4, .int x4)]) hx hb dX6_pickRow_83 hl (k := 4) rfl rfl (by decide) rfl (fun ls hl => ?_)
      refine lv_goto (tgt := 49) hx hb dX6_pickRow_86 (by decide) ?_
      exact hn49 x2 x3 x4 (x6 + (1 : Int32)) w82_8 ls H locs hE hM (lv_sub hl [1, 2, 3, 4, 0] rfl)
theorem k_X6_pickRow_49 {p : Program} {l : Launch} {e : Env} {s : State} {m : MethodId} {args : Array Value} {below : List Frame} {meth : Method} {c : Code} {D : va_G} {y : Nat → ClassId} {nn : Nat} {ad : Nat → Nat} {A0 : Nat → Prop} {I : Nat → Int32} {J : Nat → Int64} {A : Nat → Nat → Int32} {B : Nat → Nat → Int64} {G : Nat → Nat → Nat → Int32} (F : Fx p s m args meth c cX6_pickRow 7 wsX6_pickRow RX6 D y A0) (hr : meth.sig.returnType = none) {out : (Nat → Int32)} {N : Nat} (nx13 : Int32 → Int32 → Int32 → (Nat → Int32) → Option ((Nat → Int32))) (hn13 : ∀ (x2 : Int32) (x3 : Int32) (x4 : Int32) (a33' : Nat → Int32) (ls : Array Slot) (H : Heap) (locs : List Loc), nx13 x2 x3 x4 a33' = some out → MM D y nn ad A0 s.heap I J (va_up A 33 a33') B G H locs → lv_has ls 7 [(0, .ref (ad 0)), (2, .int x2), (3, .int x3), (4, .int x4)] → W p l e ({ frames := 0, cells := 0, slots := 0, locals := 0 } : Room) s m args below meth c H locs 0 0 (MQ below (mQv D y nn ad A0 (I, J, (va_up A 33 out), B, G)) args s 0 0 A0) (F0 m 13 ls [])) : ∀ (n : Nat), ∀ (x2 : Int32) (x3 : Int32) (x4 : Int32) (x6 : Int32) (a33' : Nat → Int32) (ls : Array Slot) (H : Heap) (locs : List Loc), lq5 (f_X6_pickRow_49 N nn nx13) n x2 x3 x4 x6 a33' = some out → MM D y nn ad A0 s.heap I J (va_up A 33 a33') B G H locs → lv_has ls 7 [(0, .ref (ad 0)), (2, .int x2), (3, .int x3), (4, .int x4), (6, .int x6)] → W p l e ({ frames := 0, cells := 0, slots := 0, locals := 0 } : Room) s m args below meth c H locs 0 0 (MQ below (mQv D y nn ad A0 (I, J, (va_up A 33 out), B, G)) args s 0 0 A0) (F0 m 49 ls []) := by
  intro n
  induction n with
  | zero =>
    intro x2 x3 x4 x6 a33' ls H locs hE
    cases (show (none : Option _) = some out from hE)
  | succ n ih =>
    intro x2 x3 x4 x6 a33' ls H locs hE hM hl
    exact s_X6_pickRow_49 F hr (N := N) nx13 hn13 (lq5 (f_X6_pickRow_49 N nn nx13) n) ih x2 x3 x4 x6 a33' ls H locs hE hM hl
set_option maxHeartbeats 4000000 in
set_option maxRecDepth 100000 in
theorem s_X6_pickRow_13 {p : Program} {l : Launch} {e : Env} {s : State} {m : MethodId} {args : Array Value} {below : List Frame} {meth : Method} {c : Code} {D : va_G} {y : Nat → ClassId} {nn : Nat} {ad : Nat → Nat} {A0 : Nat → Prop} {I : Nat → Int32} {J : Nat → Int64} {A : Nat → Nat → Int32} {B : Nat → Nat → Int64} {G : Nat → Nat → Nat → Int32} (F : Fx p s m args meth c cX6_pickRow 7 wsX6_pickRow RX6 D y A0) (hr : meth.sig.returnType = none) {out : (Nat → Int32)} {N : Nat}  (nx13 : Int32 → Int32 → Int32 → (Nat → Int32) → Option ((Nat → Int32))) (hn13 : ∀ (x2 : Int32) (x3 : Int32) (x4 : Int32) (a33' : Nat → Int32) (ls : Array Slot) (H : Heap) (locs : List Loc), nx13 x2 x3 x4 a33' = some out → MM D y nn ad A0 s.heap I J (va_up A 33 a33') B G H locs → lv_has ls 7 [(0, .ref (ad 0)), (2, .int x2), (3, .int x3), (4, .int x4)] → W p l e ({ frames := 0, cells := 0, slots := 0, locals := 0 } : Room) s m args below meth c H locs 0 0 (MQ below (mQv D y nn ad A0 (I, J, (va_up A 33 out), B, G)) args s 0 0 A0) (F0 m 13 ls [])) : ∀ (x2 : Int32) (x3 : Int32) (x4 : Int32) (a33' : Nat → Int32) (ls : Array Slot) (H : Heap) (locs : List Loc), f_X6_pickRow_13 N nn  nx13 x2 x3 x4 a33' = some out → MM D y nn ad A0 s.heap I J (va_up A 33 a33') B G H locs → lv_has ls 7 [(0, .ref (ad 0)), (2, .int x2), (3, .int x3), (4, .int x4)] → W p l e ({ frames := 0, cells := 0, slots := 0, locals := 0 } : Room) s m args below meth c H locs 0 0 (MQ below (mQv D y nn ad A0 (I, J, (va_up A 33 out), B, G)) args s 0 0 A0) (F0 m 13 ls []) := by
  intro x2 x3 x4 a33' ls H locs hE hM hl
  have hx := F.1.1
  have hb := F.1.2.1
  unfold f_X6_pickRow_13 at hE
  refine lv_iload hx hb dX6_pickRow_13 (lv_at hl 3 rfl) ?_
  refine lv_iconst (v := 1) hx hb dX6_pickRow_15 (by decide) ?_
  refine lv_icmp_lt (tgt := 95) hx hb dX6_pickRow_16 (by decide) (fun c16 => ?_) (fun c16 => ?_)
  · replace hE := (if_pos c16).symm.trans hE
    refine lv_aload_n hx hb dX6_pickRow_95 rfl (lv_at hl 0 rfl) ?_
    refine m_get F hM 0 mg_0 rfl 6 (by decide) (by decide +kernel) (by decide +kernel) (v := .ref (ad 33)) rfl dX6_pickRow_96 ?_
    refine lv_iconst (v := 0) hx hb dX6_pickRow_99 (by decide) ?_
    refine lv_iconst (v := 0) hx hb dX6_pickRow_100 (by decide) ?_
    obtain ⟨hi101_0, hE⟩ := ck_some hE
    obtain ⟨w101_1, ew101_1, hE⟩ := nmd_some hE
    refine m_iast (f := a33') (A' := (va_up A 33 w101_1)) F hM mg_33 ms_33 (by rw [ew101_1]; exact (bx_uu _ _ _ _)) hi101_0 dX6_pickRow_101 (fun H locs hM => ?_)
    obtain rfl := Option.some.inj hE
    exact m_vret F hM hr rfl dX6_pickRow_102
  · replace hE := (if_neg c16).symm.trans hE
    refine lv_iload_n hx hb dX6_pickRow_19 rfl (lv_at hl 1 rfl) ?_
    refine lv_iload hx hb dX6_pickRow_20 (lv_at hl 3 rfl) ?_
    refine lv_isub hx hb dX6_pickRow_22 ?_
    refine lv_istore (lv' := [(5, .int (x2 - x4)), (0, .ref (ad 0)), (2, .int x2), (3, .int x3), (4, .int x4)]) hx hb dX6_pickRow_23 hl (by decide) rfl (fun ls hl => ?_)
    refine lv_aload_n hx hb dX6_pickRow_25 rfl (lv_at hl 1 rfl) ?_
    refine m_get F hM 0 mg_0 rfl 6 (by decide) (by decide +kernel) (by decide +kernel) (v := .ref (ad 33)) rfl dX6_pickRow_26 ?_
    refine lv_iload hx hb dX6_pickRow_29 (lv_at hl 4 rfl) ?_
    refine lv_iconst (v := 1) hx hb dX6_pickRow_31 (by decide) ?_
    refine lv_iload_n hx hb dX6_pickRow_32 rfl (lv_at hl 3 rfl) ?_
    refine lv_iload hx hb dX6_pickRow_33 (lv_at hl 0 rfl) ?_
    obtain ⟨hz35, hE⟩ := dv_some hE
    refine lv_irem hx hb dX6_pickRow_35 hz35 ?_
    refine lv_iadd hx hb dX6_pickRow_36 ?_
    obtain ⟨hi37_2, hE⟩ := ck_some hE
    obtain ⟨w37_3, ew37_3, hE⟩ := nmd_some hE
    refine m_iast (f := a33') (A' := (va_up A 33 w37_3)) F hM mg_33 ms_33 (by rw [ew37_3]; exact (bx_uu _ _ _ _)) hi37_2 dX6_pickRow_37 (fun H locs hM => ?_)
    refine lv_iload_n hx hb dX6_pickRow_38 rfl (lv_at hl 3 rfl) ?_
    refine lv_iload hx hb dX6_pickRow_39 (lv_at hl 0 rfl) ?_
    obtain ⟨hz41, hE⟩ := dv_some hE
    refine lv_idiv hx hb dX6_pickRow_41 hz41 ?_
    refine lv_istore_n (lv' := [(3, .int (x3 / (x2 - x4))), (5, .int (x2 - x4)), (0, .ref (ad 0)), (2, .int x2), (4, .int x4)]) hx hb dX6_pickRow_42 rfl hl (by decide) rfl (fun ls hl => ?_)
    refine lv_iload hx hb dX6_pickRow_43 (lv_at hl 4 rfl) ?_
    refine lv_iconst (v := 1) hx hb dX6_pickRow_45 (by decide) ?_
    refine lv_iadd hx hb dX6_pickRow_46 ?_
    refine lv_istore (lv' := [(6, .int (x4 + (1 : Int32))), (3, .int (x3 / (x2 - x4))), (5, .int (x2 - x4)), (0, .ref (ad 0)), (2, .int x2), (4, .int x4)]) hx hb dX6_pickRow_47 hl (by decide) rfl (fun ls hl => ?_)
    exact k_X6_pickRow_49 F hr (N := N) nx13 hn13 N x2 (x3 / (x2 - x4)) x4 (x4 + (1 : Int32)) w37_3 ls H locs hE hM (lv_sub hl [3, 4, 1, 5, 0] rfl)
theorem k_X6_pickRow_13 {p : Program} {l : Launch} {e : Env} {s : State} {m : MethodId} {args : Array Value} {below : List Frame} {meth : Method} {c : Code} {D : va_G} {y : Nat → ClassId} {nn : Nat} {ad : Nat → Nat} {A0 : Nat → Prop} {I : Nat → Int32} {J : Nat → Int64} {A : Nat → Nat → Int32} {B : Nat → Nat → Int64} {G : Nat → Nat → Nat → Int32} (F : Fx p s m args meth c cX6_pickRow 7 wsX6_pickRow RX6 D y A0) (hr : meth.sig.returnType = none) {out : (Nat → Int32)} {N : Nat}  : ∀ (n : Nat), ∀ (x2 : Int32) (x3 : Int32) (x4 : Int32) (a33' : Nat → Int32) (ls : Array Slot) (H : Heap) (locs : List Loc), lq4 (f_X6_pickRow_13 N nn ) n x2 x3 x4 a33' = some out → MM D y nn ad A0 s.heap I J (va_up A 33 a33') B G H locs → lv_has ls 7 [(0, .ref (ad 0)), (2, .int x2), (3, .int x3), (4, .int x4)] → W p l e ({ frames := 0, cells := 0, slots := 0, locals := 0 } : Room) s m args below meth c H locs 0 0 (MQ below (mQv D y nn ad A0 (I, J, (va_up A 33 out), B, G)) args s 0 0 A0) (F0 m 13 ls []) := by
  intro n
  induction n with
  | zero =>
    intro x2 x3 x4 a33' ls H locs hE
    cases (show (none : Option _) = some out from hE)
  | succ n ih =>
    intro x2 x3 x4 a33' ls H locs hE hM hl
    exact s_X6_pickRow_13 F hr (N := N)  (lq4 (f_X6_pickRow_13 N nn ) n) ih x2 x3 x4 a33' ls H locs hE hM hl
set_option maxHeartbeats 4000000 in
set_option maxRecDepth 100000 in
theorem c_X6_pickRow (l : Launch) (D : va_G) (y : Nat → ClassId) (nn : Nat) (ad : Nat → Nat) (sz : Nat) (I : Nat → Int32) (J : Nat → Int64) (A : Nat → Nat → Int32) (B : Nat → Nat → Int64) (G : Nat → Nat → Nat → Int32) (p1 : Int32) (N : Nat) (out : (Nat → Int32)) (hE : f_X6_pickRow N nn (A 33) p1 = some out) : Met l yX6_pickRow wsX6_pickRow ({ frames := 0, cells := 0, slots := 0, locals := 0 } : Room) (mPc [.ref (ad 0), .int p1] D y nn ad sz I J A B G) (mQv D y nn ad (mA y nn ad I J A B G sz) (I, J, (va_up A 33 out), B, G)) 0 0 (mA y nn ad I J A B G sz) := by
  refine Met.ofW (cc := cX6_pickRow) (maxL := 7) (ret := none) (by decide) rfl ?_
  intro p e s m args below meth c s₁ Bd hml hv
  obtain ⟨rfl, hsz, hP, hK, hD0, hN⟩ := hv
  have hr := Bd.returns
  subst hsz
  have F : Fx p s m ([.ref (ad 0), .int p1] : List Value).toArray meth c cX6_pickRow 7 wsX6_pickRow RX6 D y (mA y nn ad I J A B G s.heap.size) := ⟨⟨Bd.exec, Bd.bytes, hml, findClass_of_methodNamed Bd.named, atoms_spec (ws := wsX6_pickRow) Bd.pre⟩, hK, hN, fun q h => Or.inr h, Bd.notSynchronized⟩
  have hM := m_start (s := s) rfl hP hD0
  have hM := m_mem (I2 := I) (J2 := J) (A2 := (va_up A 33 (A 33))) (B2 := B) (G2 := G) hM (by rfl) (by rfl) (by simp only [up_id]) (by rfl) (by rfl)
  have hx := F.1.1
  have hb := F.1.2.1
  have hl := lv_entry ([.ref (ad 0), .int p1]) (n := 7) (Nat.le_of_ble_eq_true rfl)
  rw [lg_entry_eq]
  generalize (lg_sl ([.ref (ad 0), .int p1]) ++ List.replicate (7 - (lg_sl ([.ref (ad 0), .int p1])).length) Slot.unset).toArray = ls at hl ⊢
  have hl : lv_has ls 7 [(0, .ref (ad 0)), (1, .int p1)] := hl
  show W p l e ({ frames := 0, cells := 0, slots := 0, locals := 0 } : Room) s m _ below meth c s.heap [] 0 0 _ _
  obtain ⟨locs, hlo⟩ : ∃ locs : List Loc, locs = [] := ⟨_, rfl⟩
  rw [← hlo]; rw [← hlo] at hM
  unfold f_X6_pickRow at hE
  revert hM
  suffices hH : ∀ H : Heap, MM D y nn ad (mA y nn ad I J A B G s.heap.size) s.heap I J (va_up A 33 (A 33)) B G H locs → W p l e ({ frames := 0, cells := 0, slots := 0, locals := 0 } : Room) s m ([.ref (ad 0), .int p1] : List Value).toArray below meth c H locs 0 0 (MQ below (mQv D y nn ad (mA y nn ad I J A B G s.heap.size) (I, J, (va_up A 33 out), B, G)) ([.ref (ad 0), .int p1] : List Value).toArray s 0 0 (mA y nn ad I J A B G s.heap.size)) (F0 m 0 ls []) from hH s.heap
  intro H hM
  refine lv_aload_n hx hb dX6_pickRow_0 rfl (lv_at hl 0 rfl) ?_
  refine m_get F hM 0 mg_0 rfl 6 (by decide) (by decide +kernel) (by decide +kernel) (v := .ref (ad 33)) rfl dX6_pickRow_1 ?_
  refine m_alen (t := 0) F hM mg_33 rfl rfl dX6_pickRow_4 ?_
  refine lv_istore_n (lv' := [(2, .int (Int32.ofNat nn)), (0, .ref (ad 0)), (1, .int p1)]) hx hb dX6_pickRow_5 rfl hl (by decide) rfl (fun ls hl => ?_)
  refine lv_iload_n hx hb dX6_pickRow_6 rfl (lv_at hl 2 rfl) ?_
  refine lv_istore_n (lv' := [(3, .int p1), (2, .int (Int32.ofNat nn)), (0, .ref (ad 0)), (1, .int p1)]) hx hb dX6_pickRow_7 rfl hl (by decide) rfl (fun ls hl => ?_)
  refine lv_iload_n hx hb dX6_pickRow_8 rfl (lv_at hl 1 rfl) ?_
  refine lv_iconst (v := 1) hx hb dX6_pickRow_9 (by decide) ?_
  refine lv_isub hx hb dX6_pickRow_10 ?_
  refine lv_istore (lv' := [(4, .int ((Int32.ofNat nn) - (1 : Int32))), (3, .int p1), (2, .int (Int32.ofNat nn)), (0, .ref (ad 0)), (1, .int p1)]) hx hb dX6_pickRow_11 hl (by decide) rfl (fun ls hl => ?_)
  exact k_X6_pickRow_13 F hr (N := N)  N (Int32.ofNat nn) p1 ((Int32.ofNat nn) - (1 : Int32)) (A 33) ls H locs hE hM (lv_sub hl [3, 2, 1, 0] rfl)
/-! ===== X6_lengthOfRow: reads A33 G0, writes , frames 0, locals 0 ===== -/
def f_X6_lengthOfRow_11 (N : Nat) (nn : Nat) (a33 : Nat → Int32) (g0 : Nat → Nat → Int32)  (nx11 : Int32 → Int64 → Int32 → Option (Int64)) (x1 : Int32) (x2 : Int64) (x4 : Int32) : Option (Int64) :=
(if x1 ≤ x4 then
some x2
else
(if x1 ≤ (x4 + (1 : Int32)) then
ck (0 : Int32) nn (
ck x4 nn (
ck (a33 x4.toNatClampNeg) nn (
ck (a33 (0 : Int32).toNatClampNeg) nn (
nmd ((g0 (a33 x4.toNatClampNeg).toNatClampNeg (a33 (0 : Int32).toNatClampNeg).toNatClampNeg)) fun v63_4 =>
(if v63_4 = (-1 : Int32) then
some (-1 : Int64)
else
nx11 x1 (x2 + v63_4.toInt64) (x4 + (1 : Int32)))))))
else
ck (x4 + (1 : Int32)) nn (
ck x4 nn (
ck (a33 x4.toNatClampNeg) nn (
ck (a33 (x4 + (1 : Int32)).toNatClampNeg) nn (
nmd ((g0 (a33 x4.toNatClampNeg).toNatClampNeg (a33 (x4 + (1 : Int32)).toNatClampNeg).toNatClampNeg)) fun v63_9 =>
(if v63_9 = (-1 : Int32) then
some (-1 : Int64)
else
nx11 x1 (x2 + v63_9.toInt64) (x4 + (1 : Int32)))))))))
def f_X6_lengthOfRow (N : Nat) (nn : Nat) (a33 : Nat → Int32) (g0 : Nat → Nat → Int32)   : Option (Int64) :=
lq3 (f_X6_lengthOfRow_11 N nn a33 g0 ) N (Int32.ofNat nn) (0 : Int64) (0 : Int32)
set_option maxHeartbeats 4000000 in
set_option maxRecDepth 100000 in
theorem s_X6_lengthOfRow_11 {p : Program} {l : Launch} {e : Env} {s : State} {m : MethodId} {args : Array Value} {below : List Frame} {meth : Method} {c : Code} {D : va_G} {y : Nat → ClassId} {nn : Nat} {ad : Nat → Nat} {A0 : Nat → Prop} {I : Nat → Int32} {J : Nat → Int64} {A : Nat → Nat → Int32} {B : Nat → Nat → Int64} {G : Nat → Nat → Nat → Int32} (F : Fx p s m args meth c cX6_lengthOfRow 7 wsX6_lengthOfRow RX6 D y A0) (hr : meth.sig.returnType = (some .long)) {out : Int64} {N : Nat}  (nx11 : Int32 → Int64 → Int32 → Option (Int64)) (hn11 : ∀ (x1 : Int32) (x2 : Int64) (x4 : Int32) (ls : Array Slot) (H : Heap) (locs : List Loc), nx11 x1 x2 x4 = some out → MM D y nn ad A0 s.heap I J A B G H locs → lv_has ls 7 [(0, .ref (ad 0)), (1, .int x1), (2, .long x2), (4, .int x4)] → W p l e ({ frames := 0, cells := 0, slots := 0, locals := 0 } : Room) s m args below meth c H locs 0 0 (MQ below (mQl D y nn ad A0 out (I, J, A, B, G)) args s 0 0 A0) (F0 m 11 ls [])) : ∀ (x1 : Int32) (x2 : Int64) (x4 : Int32) (ls : Array Slot) (H : Heap) (locs : List Loc), f_X6_lengthOfRow_11 N nn (A 33) (G 0)  nx11 x1 x2 x4 = some out → MM D y nn ad A0 s.heap I J A B G H locs → lv_has ls 7 [(0, .ref (ad 0)), (1, .int x1), (2, .long x2), (4, .int x4)] → W p l e ({ frames := 0, cells := 0, slots := 0, locals := 0 } : Room) s m args below meth c H locs 0 0 (MQ below (mQl D y nn ad A0 out (I, J, A, B, G)) args s 0 0 A0) (F0 m 11 ls []) := by
  intro x1 x2 x4 ls H locs hE hM hl
  have hx := F.1.1
  have hb := F.1.2.1
  unfold f_X6_lengthOfRow_11 at hE
  refine lv_iload hx hb dX6_lengthOfRow_11 (lv_at hl 3 rfl) ?_
  refine lv_iload_n hx hb dX6_lengthOfRow_13 rfl (lv_at hl 1 rfl) ?_
  refine lv_icmp_ge (tgt := 87) hx hb dX6_lengthOfRow_14 (by decide) (fun c14 => ?_) (fun c14 => ?_)
  · replace hE := (if_pos c14).symm.trans hE
    refine lv_lload_n hx hb dX6_lengthOfRow_87 rfl (lv_at hl 2 rfl) ?_
    obtain rfl := Option.some.inj hE
    exact m_lret F hM hr rfl rfl dX6_lengthOfRow_88
  · replace hE := (if_neg c14).symm.trans hE
    refine lv_iload hx hb dX6_lengthOfRow_17 (lv_at hl 3 rfl) ?_
    refine lv_iconst (v := 1) hx hb dX6_lengthOfRow_19 (by decide) ?_
    refine lv_iadd hx hb dX6_lengthOfRow_20 ?_
    refine lv_iload_n hx hb dX6_lengthOfRow_21 rfl (lv_at hl 1 rfl) ?_
    refine lv_icmp_ge (tgt := 37) hx hb dX6_lengthOfRow_22 (by decide) (fun c22 => ?_) (fun c22 => ?_)
    · replace hE := (if_pos c22).symm.trans hE
      refine lv_aload_n hx hb dX6_lengthOfRow_37 rfl (lv_at hl 0 rfl) ?_
      refine m_get F hM 0 mg_0 rfl 6 (by decide) (by decide +kernel) (by decide +kernel) (v := .ref (ad 33)) rfl dX6_lengthOfRow_38 ?_
      refine lv_iconst (v := 0) hx hb dX6_lengthOfRow_41 (by decide) ?_
      obtain ⟨hi42_0, hE⟩ := ck_some hE
      refine m_iald (g := (A 33)) F hM mg_33 rfl hi42_0 dX6_lengthOfRow_42 ?_
      refine lv_istore (lv' := [(5, .int ((A 33) (0 : Int32).toNatClampNeg)), (0, .ref (ad 0)), (1, .int x1), (2, .long x2), (4, .int x4)]) hx hb dX6_lengthOfRow_43 hl (by decide) rfl (fun ls hl => ?_)
      refine lv_aload_n hx hb dX6_lengthOfRow_45 rfl (lv_at hl 1 rfl) ?_
      refine m_get F hM 0 mg_0 rfl 0 (by decide) (by decide +kernel) (by decide +kernel) (v := .ref (ad 1)) rfl dX6_lengthOfRow_46 ?_
      refine m_getN F hM 1 mg_1 rfl 1 (by decide) (by decide +kernel) (by decide +kernel) (v := .ref (ad 8)) rfl dX6_lengthOfRow_49 ?_
      refine lv_aload_n hx hb dX6_lengthOfRow_52 rfl (lv_at hl 1 rfl) ?_
      refine m_get F hM 0 mg_0 rfl 6 (by decide) (by decide +kernel) (by decide +kernel) (v := .ref (ad 33)) rfl dX6_lengthOfRow_53 ?_
      refine lv_iload hx hb dX6_lengthOfRow_56 (lv_at hl 4 rfl) ?_
      obtain ⟨hi58_1, hE⟩ := ck_some hE
      refine m_iald (g := (A 33)) F hM mg_33 rfl hi58_1 dX6_lengthOfRow_58 ?_
      obtain ⟨hi59_2, hE⟩ := ck_some hE
      refine m_aald F hM mg_8 hi59_2 dX6_lengthOfRow_59 ?_
      refine lv_iload hx hb dX6_lengthOfRow_60 (lv_at hl 0 rfl) ?_
      obtain ⟨hi62_3, hE⟩ := ck_some hE
      refine m_rald (M := (G 0)) F hM (by decide) (vp_lt hi59_2) rfl hi62_3 dX6_lengthOfRow_62 ?_
      obtain ⟨v63_4, ev63_4, hE⟩ := nmd_some hE
      refine m_topi ev63_4 ?_
      refine lv_istore (lv' := [(6, .int v63_4), (5, .int ((A 33) (0 : Int32).toNatClampNeg)), (0, .ref (ad 0)), (1, .int x1), (2, .long x2), (4, .int x4)]) hx hb dX6_lengthOfRow_63 hl (by decide) rfl (fun ls hl => ?_)
      refine lv_iload hx hb dX6_lengthOfRow_65 (lv_at hl 0 rfl) ?_
      refine lv_iconst (v := (-1)) hx hb dX6_lengthOfRow_67 (by decide) ?_
      refine lv_icmp_ne (tgt := 75) hx hb dX6_lengthOfRow_68 (by decide) (fun c68 => ?_) (fun c68 => ?_)
      · replace hE := (if_neg c68).symm.trans hE
        refine lv_lload_n hx hb dX6_lengthOfRow_75 rfl (lv_at hl 4 rfl) ?_
        refine lv_iload hx hb dX6_lengthOfRow_76 (lv_at hl 0 rfl) ?_
        refine lv_i2l hx hb dX6_lengthOfRow_78 rfl ?_
        refine lv_ladd hx hb dX6_lengthOfRow_79 ?_
        refine lv_lstore_n (lv' := [(2, .long (x2 + v63_4.toInt64)), (6, .int v63_4), (5, .int ((A 33) (0 : Int32).toNatClampNeg)), (0, .ref (ad 0)), (1, .int x1), (4, .int x4)]) hx hb dX6_lengthOfRow_80 rfl hl (by decide) rfl (fun ls hl => ?_)
        refine lv_iinc (v := x4 + (1 : Int32)) (lv' := [(4, .int (x4 + (1 : Int32))), (2, .long (x2 + v63_4.toInt64)), (6, .int v63_4), (5, .int ((A 33) (0 : Int32).toNatClampNeg)), (0, .ref (ad 0)), (1, .int x1)]) hx hb dX6_lengthOfRow_81 hl (k := 5) rfl rfl (by decide) rfl (fun ls hl => ?_)
        refine lv_goto (tgt := 11) hx hb dX6_lengthOfRow_84 (by decide) ?_
        exact hn11 x1 (x2 + v63_4.toInt64) (x4 + (1 : Int32)) ls H locs hE hM (lv_sub hl [4, 5, 1, 0] rfl)
      · replace hE := (if_pos c68).symm.trans hE
        refine lv_ldc2 (v := (-1)) hx hb F.1.2.2.2.1 (F.1.2.2.2.2 (.constantLong RX6 100 (-1)) (by decide +kernel)) dX6_lengthOfRow_71 ?_
        obtain rfl := Option.some.inj hE
        exact m_lret F hM hr rfl rfl dX6_lengthOfRow_74
    · replace hE := (if_neg c22).symm.trans hE
      refine lv_aload_n hx hb dX6_lengthOfRow_25 rfl (lv_at hl 0 rfl) ?_
      refine m_get F hM 0 mg_0 rfl 6 (by decide) (by decide +kernel) (by decide +kernel) (v := .ref (ad 33)) rfl dX6_lengthOfRow_26 ?_
      refine lv_iload hx hb dX6_lengthOfRow_29 (lv_at hl 3 rfl) ?_
      refine lv_iconst (v := 1) hx hb dX6_lengthOfRow_31 (by decide) ?_
      refine lv_iadd hx hb dX6_lengthOfRow_32 ?_
      obtain ⟨hi33_5, hE⟩ := ck_some hE
      refine m_iald (g := (A 33)) F hM mg_33 rfl hi33_5 dX6_lengthOfRow_33 ?_
      refine lv_goto (tgt := 43) hx hb dX6_lengthOfRow_34 (by decide) ?_
      refine lv_istore (lv' := [(5, .int ((A 33) (x4 + (1 : Int32)).toNatClampNeg)), (0, .ref (ad 0)), (1, .int x1), (2, .long x2), (4, .int x4)]) hx hb dX6_lengthOfRow_43 hl (by decide) rfl (fun ls hl => ?_)
      refine lv_aload_n hx hb dX6_lengthOfRow_45 rfl (lv_at hl 1 rfl) ?_
      refine m_get F hM 0 mg_0 rfl 0 (by decide) (by decide +kernel) (by decide +kernel) (v := .ref (ad 1)) rfl dX6_lengthOfRow_46 ?_
      refine m_getN F hM 1 mg_1 rfl 1 (by decide) (by decide +kernel) (by decide +kernel) (v := .ref (ad 8)) rfl dX6_lengthOfRow_49 ?_
      refine lv_aload_n hx hb dX6_lengthOfRow_52 rfl (lv_at hl 1 rfl) ?_
      refine m_get F hM 0 mg_0 rfl 6 (by decide) (by decide +kernel) (by decide +kernel) (v := .ref (ad 33)) rfl dX6_lengthOfRow_53 ?_
      refine lv_iload hx hb dX6_lengthOfRow_56 (lv_at hl 4 rfl) ?_
      obtain ⟨hi58_6, hE⟩ := ck_some hE
      refine m_iald (g := (A 33)) F hM mg_33 rfl hi58_6 dX6_lengthOfRow_58 ?_
      obtain ⟨hi59_7, hE⟩ := ck_some hE
      refine m_aald F hM mg_8 hi59_7 dX6_lengthOfRow_59 ?_
      refine lv_iload hx hb dX6_lengthOfRow_60 (lv_at hl 0 rfl) ?_
      obtain ⟨hi62_8, hE⟩ := ck_some hE
      refine m_rald (M := (G 0)) F hM (by decide) (vp_lt hi59_7) rfl hi62_8 dX6_lengthOfRow_62 ?_
      obtain ⟨v63_9, ev63_9, hE⟩ := nmd_some hE
      refine m_topi ev63_9 ?_
      refine lv_istore (lv' := [(6, .int v63_9), (5, .int ((A 33) (x4 + (1 : Int32)).toNatClampNeg)), (0, .ref (ad 0)), (1, .int x1), (2, .long x2), (4, .int x4)]) hx hb dX6_lengthOfRow_63 hl (by decide) rfl (fun ls hl => ?_)
      refine lv_iload hx hb dX6_lengthOfRow_65 (lv_at hl 0 rfl) ?_
      refine lv_iconst (v := (-1)) hx hb dX6_lengthOfRow_67 (by decide) ?_
      refine lv_icmp_ne (tgt := 75) hx hb dX6_lengthOfRow_68 (by decide) (fun c68 => ?_) (fun c68 => ?_)
      · replace hE := (if_neg c68).symm.trans hE
        refine lv_lload_n hx hb dX6_lengthOfRow_75 rfl (lv_at hl 4 rfl) ?_
        refine lv_iload hx hb dX6_lengthOfRow_76 (lv_at hl 0 rfl) ?_
        refine lv_i2l hx hb dX6_lengthOfRow_78 rfl ?_
        refine lv_ladd hx hb dX6_lengthOfRow_79 ?_
        refine lv_lstore_n (lv' := [(2, .long (x2 + v63_9.toInt64)), (6, .int v63_9), (5, .int ((A 33) (x4 + (1 : Int32)).toNatClampNeg)), (0, .ref (ad 0)), (1, .int x1), (4, .int x4)]) hx hb dX6_lengthOfRow_80 rfl hl (by decide) rfl (fun ls hl => ?_)
        refine lv_iinc (v := x4 + (1 : Int32)) (lv' := [(4, .int (x4 + (1 : Int32))), (2, .long (x2 + v63_9.toInt64)), (6, .int v63_9), (5, .int ((A 33) (x4 + (1 : Int32)).toNatClampNeg)), (0, .ref (ad 0)), (1, .int x1)]) hx hb dX6_lengthOfRow_81 hl (k := 5) rfl rfl (by decide) rfl (fun ls hl => ?_)
        refine lv_goto (tgt := 11) hx hb dX6_lengthOfRow_84 (by decide) ?_
        exact hn11 x1 (x2 + v63_9.toInt64) (x4 + (1 : Int32)) ls H locs hE hM (lv_sub hl [4, 5, 1, 0] rfl)
      · replace hE := (if_pos c68).symm.trans hE
        refine lv_ldc2 (v := (-1)) hx hb F.1.2.2.2.1 (F.1.2.2.2.2 (.constantLong RX6 100 (-1)) (by decide +kernel)) dX6_lengthOfRow_71 ?_
        obtain rfl := Option.some.inj hE
        exact m_lret F hM hr rfl rfl dX6_lengthOfRow_74
theorem k_X6_lengthOfRow_11 {p : Program} {l : Launch} {e : Env} {s : State} {m : MethodId} {args : Array Value} {below : List Frame} {meth : Method} {c : Code} {D : va_G} {y : Nat → ClassId} {nn : Nat} {ad : Nat → Nat} {A0 : Nat → Prop} {I : Nat → Int32} {J : Nat → Int64} {A : Nat → Nat → Int32} {B : Nat → Nat → Int64} {G : Nat → Nat → Nat → Int32} (F : Fx p s m args meth c cX6_lengthOfRow 7 wsX6_lengthOfRow RX6 D y A0) (hr : meth.sig.returnType = (some .long)) {out : Int64} {N : Nat}  : ∀ (n : Nat), ∀ (x1 : Int32) (x2 : Int64) (x4 : Int32) (ls : Array Slot) (H : Heap) (locs : List Loc), lq3 (f_X6_lengthOfRow_11 N nn (A 33) (G 0) ) n x1 x2 x4 = some out → MM D y nn ad A0 s.heap I J A B G H locs → lv_has ls 7 [(0, .ref (ad 0)), (1, .int x1), (2, .long x2), (4, .int x4)] → W p l e ({ frames := 0, cells := 0, slots := 0, locals := 0 } : Room) s m args below meth c H locs 0 0 (MQ below (mQl D y nn ad A0 out (I, J, A, B, G)) args s 0 0 A0) (F0 m 11 ls []) := by
  intro n
  induction n with
  | zero =>
    intro x1 x2 x4 ls H locs hE
    cases (show (none : Option _) = some out from hE)
  | succ n ih =>
    intro x1 x2 x4 ls H locs hE hM hl
    exact s_X6_lengthOfRow_11 F hr (N := N)  (lq3 (f_X6_lengthOfRow_11 N nn (A 33) (G 0) ) n) ih x1 x2 x4 ls H locs hE hM hl
set_option maxHeartbeats 4000000 in
set_option maxRecDepth 100000 in
theorem c_X6_lengthOfRow (l : Launch) (D : va_G) (y : Nat → ClassId) (nn : Nat) (ad : Nat → Nat) (sz : Nat) (I : Nat → Int32) (J : Nat → Int64) (A : Nat → Nat → Int32) (B : Nat → Nat → Int64) (G : Nat → Nat → Nat → Int32)  (N : Nat) (out : Int64) (hE : f_X6_lengthOfRow N nn (A 33) (G 0)   = some out) : Met l yX6_lengthOfRow wsX6_lengthOfRow ({ frames := 0, cells := 0, slots := 0, locals := 0 } : Room) (mPc [.ref (ad 0)] D y nn ad sz I J A B G) (mQl D y nn ad (mA y nn ad I J A B G sz) out (I, J, A, B, G)) 0 0 (mA y nn ad I J A B G sz) := by
  refine Met.ofW (cc := cX6_lengthOfRow) (maxL := 7) (ret := (some .long)) (by decide) rfl ?_
  intro p e s m args below meth c s₁ Bd hml hv
  obtain ⟨rfl, hsz, hP, hK, hD0, hN⟩ := hv
  have hr := Bd.returns
  subst hsz
  have F : Fx p s m ([.ref (ad 0)] : List Value).toArray meth c cX6_lengthOfRow 7 wsX6_lengthOfRow RX6 D y (mA y nn ad I J A B G s.heap.size) := ⟨⟨Bd.exec, Bd.bytes, hml, findClass_of_methodNamed Bd.named, atoms_spec (ws := wsX6_lengthOfRow) Bd.pre⟩, hK, hN, fun q h => Or.inr h, Bd.notSynchronized⟩
  have hM := m_start (s := s) rfl hP hD0
  have hM := m_mem (I2 := I) (J2 := J) (A2 := A) (B2 := B) (G2 := G) hM (by rfl) (by rfl) (by rfl) (by rfl) (by rfl)
  have hx := F.1.1
  have hb := F.1.2.1
  have hl := lv_entry ([.ref (ad 0)]) (n := 7) (Nat.le_of_ble_eq_true rfl)
  rw [lg_entry_eq]
  generalize (lg_sl ([.ref (ad 0)]) ++ List.replicate (7 - (lg_sl ([.ref (ad 0)])).length) Slot.unset).toArray = ls at hl ⊢
  have hl : lv_has ls 7 [(0, .ref (ad 0))] := hl
  show W p l e ({ frames := 0, cells := 0, slots := 0, locals := 0 } : Room) s m _ below meth c s.heap [] 0 0 _ _
  obtain ⟨locs, hlo⟩ : ∃ locs : List Loc, locs = [] := ⟨_, rfl⟩
  rw [← hlo]; rw [← hlo] at hM
  unfold f_X6_lengthOfRow at hE
  revert hM
  suffices hH : ∀ H : Heap, MM D y nn ad (mA y nn ad I J A B G s.heap.size) s.heap I J A B G H locs → W p l e ({ frames := 0, cells := 0, slots := 0, locals := 0 } : Room) s m ([.ref (ad 0)] : List Value).toArray below meth c H locs 0 0 (MQ below (mQl D y nn ad (mA y nn ad I J A B G s.heap.size) out (I, J, A, B, G)) ([.ref (ad 0)] : List Value).toArray s 0 0 (mA y nn ad I J A B G s.heap.size)) (F0 m 0 ls []) from hH s.heap
  intro H hM
  refine lv_aload_n hx hb dX6_lengthOfRow_0 rfl (lv_at hl 0 rfl) ?_
  refine m_get F hM 0 mg_0 rfl 6 (by decide) (by decide +kernel) (by decide +kernel) (v := .ref (ad 33)) rfl dX6_lengthOfRow_1 ?_
  refine m_alen (t := 0) F hM mg_33 rfl rfl dX6_lengthOfRow_4 ?_
  refine lv_istore_n (lv' := [(1, .int (Int32.ofNat nn)), (0, .ref (ad 0))]) hx hb dX6_lengthOfRow_5 rfl hl (by decide) rfl (fun ls hl => ?_)
  refine lv_lconst (v := 0) hx hb dX6_lengthOfRow_6 (by decide) ?_
  refine lv_lstore_n (lv' := [(2, .long (0 : Int64)), (1, .int (Int32.ofNat nn)), (0, .ref (ad 0))]) hx hb dX6_lengthOfRow_7 rfl hl (by decide) rfl (fun ls hl => ?_)
  refine lv_iconst (v := 0) hx hb dX6_lengthOfRow_8 (by decide) ?_
  refine lv_istore (lv' := [(4, .int (0 : Int32)), (2, .long (0 : Int64)), (1, .int (Int32.ofNat nn)), (0, .ref (ad 0))]) hx hb dX6_lengthOfRow_9 hl (by decide) rfl (fun ls hl => ?_)
  exact k_X6_lengthOfRow_11 F hr (N := N)  N (Int32.ofNat nn) (0 : Int64) (0 : Int32) ls H locs hE hM (lv_sub hl [3, 2, 1, 0] rfl)
/-! ===== X6_certificate: reads I0 G0 G1, writes I1 J0 A20 A21 A22 A23 A24 A25 A33 B50 B51 B52, frames 5, locals 114 ===== -/
def f_X6_certificate (N : Nat) (nn : Nat) (i0 : Int32) (g0 : Nat → Nat → Int32) (g1 : Nat → Nat → Int32) (i1 : Int32) (j0 : Int64) (a20 : Nat → Int32) (a21 : Nat → Int32) (a22 : Nat → Int32) (a23 : Nat → Int32) (a24 : Nat → Int32) (a25 : Nat → Int32) (a33 : Nat → Int32) (b50 : Nat → Int64) (b51 : Nat → Int64) (b52 : Nat → Int64) (p1 : Int32) : Option (Int32 × Int32 × Int64 × (Nat → Int32) × (Nat → Int32) × (Nat → Int32) × (Nat → Int32) × (Nat → Int32) × (Nat → Int32) × (Nat → Int32) × (Nat → Int64) × (Nat → Int64) × (Nat → Int64)) :=
bd (f_X6_pickRow N nn a33 (p1 &&& (2147483647 : Int32))) fun o5_0 =>
bd (f_X6_lengthOfRow N nn o5_0 g0) fun o9_1 =>
(if o9_1 = (-1 : Int64) then
bz (0 : Int32) (some ((0 : Int32), i1, j0, a20, a21, a22, a23, a24, a25, o5_0, b50, b51, b52))
else
bd (f_X2_bound N nn i0 g1 i1 j0 a20 a21 a22 (50 : Int32)) fun o28_2 =>
(if o9_1 < o28_2.1 then
bz (0 : Int32) (some ((0 : Int32), o28_2.2.1, o28_2.2.2.1, o28_2.2.2.2.1, o28_2.2.2.2.2.1, o28_2.2.2.2.2.2, a23, a24, a25, o5_0, b50, b51, b52))
else
bd (f_X0_leastSum N nn i0 g0 a23 a24 a25 b50 b51 b52) fun o40_3 =>
(if o9_1 < o40_3.1 then
bz (0 : Int32) (some ((0 : Int32), o28_2.2.1, o28_2.2.2.1, o28_2.2.2.2.1, o28_2.2.2.2.2.1, o28_2.2.2.2.2.2, o40_3.2.1, o40_3.2.2.1, o40_3.2.2.2.1, o5_0, o40_3.2.2.2.2.1, o40_3.2.2.2.2.2.1, o40_3.2.2.2.2.2.2))
else
bz (1 : Int32) (some ((1 : Int32), o28_2.2.1, o28_2.2.2.1, o28_2.2.2.2.1, o28_2.2.2.2.2.1, o28_2.2.2.2.2.2, o40_3.2.1, o40_3.2.2.1, o40_3.2.2.2.1, o5_0, o40_3.2.2.2.2.1, o40_3.2.2.2.2.2.1, o40_3.2.2.2.2.2.2)))))
set_option maxHeartbeats 4000000 in
set_option maxRecDepth 100000 in
theorem c_X6_certificate (l : Launch) (D : va_G) (y : Nat → ClassId) (nn : Nat) (ad : Nat → Nat) (sz : Nat) (I : Nat → Int32) (J : Nat → Int64) (A : Nat → Nat → Int32) (B : Nat → Nat → Int64) (G : Nat → Nat → Nat → Int32) (p1 : Int32) (N : Nat) (out : Int32 × Int32 × Int64 × (Nat → Int32) × (Nat → Int32) × (Nat → Int32) × (Nat → Int32) × (Nat → Int32) × (Nat → Int32) × (Nat → Int32) × (Nat → Int64) × (Nat → Int64) × (Nat → Int64)) (hE : f_X6_certificate N nn (I 0) (G 0) (G 1) (I 1) (J 0) (A 20) (A 21) (A 22) (A 23) (A 24) (A 25) (A 33) (B 50) (B 51) (B 52) p1 = some out) : Met l yX6_certificate wsX6_certificate ({ frames := 5, cells := 0, slots := 0, locals := 114 } : Room) (mPc [.ref (ad 0), .int p1] D y nn ad sz I J A B G) (mQi D y nn ad (mA y nn ad I J A B G sz) out.1 ((va_up I 1 out.2.1), (va_up J 0 out.2.2.1), (va_up (va_up (va_up (va_up (va_up (va_up (va_up A 20 out.2.2.2.1) 21 out.2.2.2.2.1) 22 out.2.2.2.2.2.1) 23 out.2.2.2.2.2.2.1) 24 out.2.2.2.2.2.2.2.1) 25 out.2.2.2.2.2.2.2.2.1) 33 out.2.2.2.2.2.2.2.2.2.1), (va_up (va_up (va_up B 50 out.2.2.2.2.2.2.2.2.2.2.1) 51 out.2.2.2.2.2.2.2.2.2.2.2.1) 52 out.2.2.2.2.2.2.2.2.2.2.2.2), G)) 0 0 (mA y nn ad I J A B G sz) := by
  refine Met.ofW (cc := cX6_certificate) (maxL := 4) (ret := (some .boolean)) (by decide) rfl ?_
  intro p e s m args below meth c s₁ Bd hml hv
  obtain ⟨rfl, hsz, hP, hK, hD0, hN⟩ := hv
  have hr := Bd.returns
  subst hsz
  have F : Fx p s m ([.ref (ad 0), .int p1] : List Value).toArray meth c cX6_certificate 4 wsX6_certificate RX6 D y (mA y nn ad I J A B G s.heap.size) := ⟨⟨Bd.exec, Bd.bytes, hml, findClass_of_methodNamed Bd.named, atoms_spec (ws := wsX6_certificate) Bd.pre⟩, hK, hN, fun q h => Or.inr h, Bd.notSynchronized⟩
  have hM := m_start (s := s) rfl hP hD0
  have hM := m_mem (I2 := (va_up I 1 (I 1))) (J2 := (va_up J 0 (J 0))) (A2 := (va_up (va_up (va_up (va_up (va_up (va_up (va_up A 20 (A 20)) 21 (A 21)) 22 (A 22)) 23 (A 23)) 24 (A 24)) 25 (A 25)) 33 (A 33))) (B2 := (va_up (va_up (va_up B 50 (B 50)) 51 (B 51)) 52 (B 52))) (G2 := G) hM (by simp only [up_id]) (by simp only [up_id]) (by simp only [up_id]) (by simp only [up_id]) (by rfl)
  have hx := F.1.1
  have hb := F.1.2.1
  have hl := lv_entry ([.ref (ad 0), .int p1]) (n := 4) (Nat.le_of_ble_eq_true rfl)
  rw [lg_entry_eq]
  generalize (lg_sl ([.ref (ad 0), .int p1]) ++ List.replicate (4 - (lg_sl ([.ref (ad 0), .int p1])).length) Slot.unset).toArray = ls at hl ⊢
  have hl : lv_has ls 4 [(0, .ref (ad 0)), (1, .int p1)] := hl
  show W p l e ({ frames := 5, cells := 0, slots := 0, locals := 114 } : Room) s m _ below meth c s.heap [] 0 0 _ _
  obtain ⟨locs, hlo⟩ : ∃ locs : List Loc, locs = [] := ⟨_, rfl⟩
  rw [← hlo]; rw [← hlo] at hM
  unfold f_X6_certificate at hE
  revert hM
  suffices hH : ∀ H : Heap, MM D y nn ad (mA y nn ad I J A B G s.heap.size) s.heap (va_up I 1 (I 1)) (va_up J 0 (J 0)) (va_up (va_up (va_up (va_up (va_up (va_up (va_up A 20 (A 20)) 21 (A 21)) 22 (A 22)) 23 (A 23)) 24 (A 24)) 25 (A 25)) 33 (A 33)) (va_up (va_up (va_up B 50 (B 50)) 51 (B 51)) 52 (B 52)) G H locs → W p l e ({ frames := 5, cells := 0, slots := 0, locals := 114 } : Room) s m ([.ref (ad 0), .int p1] : List Value).toArray below meth c H locs 0 0 (MQ below (mQi D y nn ad (mA y nn ad I J A B G s.heap.size) out.1 ((va_up I 1 out.2.1), (va_up J 0 out.2.2.1), (va_up (va_up (va_up (va_up (va_up (va_up (va_up A 20 out.2.2.2.1) 21 out.2.2.2.2.1) 22 out.2.2.2.2.2.1) 23 out.2.2.2.2.2.2.1) 24 out.2.2.2.2.2.2.2.1) 25 out.2.2.2.2.2.2.2.2.1) 33 out.2.2.2.2.2.2.2.2.2.1), (va_up (va_up (va_up B 50 out.2.2.2.2.2.2.2.2.2.2.1) 51 out.2.2.2.2.2.2.2.2.2.2.2.1) 52 out.2.2.2.2.2.2.2.2.2.2.2.2), G)) ([.ref (ad 0), .int p1] : List Value).toArray s 0 0 (mA y nn ad I J A B G s.heap.size)) (F0 m 0 ls []) from hH s.heap
  intro H hM
  refine lv_aload_n hx hb dX6_certificate_0 rfl (lv_at hl 0 rfl) ?_
  refine lv_iload_n hx hb dX6_certificate_1 rfl (lv_at hl 1 rfl) ?_
  refine lv_ldc (v := 2147483647) hx hb F.1.2.2.2.1 (F.1.2.2.2.2 (.constant RX6 126 (2147483647)) (by decide +kernel)) dX6_certificate_2 ?_
  refine lv_iand hx hb dX6_certificate_4 ?_
  obtain ⟨o5_0, ho5_0, hE⟩ := bd_some hE
  refine m_callVv (As := [.int (p1 &&& (2147483647 : Int32))]) (I2 := (va_up I 1 (I 1))) (J2 := (va_up J 0 (J 0))) (A2 := (va_up (va_up (va_up (va_up (va_up (va_up (va_up A 20 (A 20)) 21 (A 21)) 22 (A 22)) 23 (A 23)) 24 (A 24)) 25 (A 25)) 33 o5_0)) (B2 := (va_up (va_up (va_up B 50 (B 50)) 51 (B 51)) 52 (B 52))) (G2 := G) F hM (c_X6_pickRow l D y nn ad H.size (va_up I 1 (I 1)) (va_up J 0 (J 0)) (va_up (va_up (va_up (va_up (va_up (va_up (va_up A 20 (A 20)) 21 (A 21)) 22 (A 22)) 23 (A 23)) 24 (A 24)) 25 (A 25)) 33 (A 33)) (va_up (va_up (va_up B 50 (B 50)) 51 (B 51)) 52 (B 52)) G (p1 &&& (2147483647 : Int32)) N o5_0 ho5_0) (cwV 1 F.1.2.2.2.2 gX6_certificate_X6_pickRow rfl rfl rfl (by decide +kernel) ⟨Nat.le_of_ble_eq_true rfl, Nat.le_of_ble_eq_true rfl⟩) (m_recv F hM mg_0 rfl) rfl hl.1 (Nat.le_of_ble_eq_true rfl) dX6_certificate_5 ⟨Nat.le_refl 0, Nat.le_refl 0⟩ rfl rfl un_20_21_22_23_24_25_33__33 rfl rfl (fun H locs hM => ?_)
  refine lv_aload_n hx hb dX6_certificate_8 rfl (lv_at hl 0 rfl) ?_
  obtain ⟨o9_1, ho9_1, hE⟩ := bd_some hE
  refine m_callVl (As := []) (I2 := (va_up I 1 (I 1))) (J2 := (va_up J 0 (J 0))) (A2 := (va_up (va_up (va_up (va_up (va_up (va_up (va_up A 20 (A 20)) 21 (A 21)) 22 (A 22)) 23 (A 23)) 24 (A 24)) 25 (A 25)) 33 o5_0)) (B2 := (va_up (va_up (va_up B 50 (B 50)) 51 (B 51)) 52 (B 52))) (G2 := G) F hM (c_X6_lengthOfRow l D y nn ad H.size (va_up I 1 (I 1)) (va_up J 0 (J 0)) (va_up (va_up (va_up (va_up (va_up (va_up (va_up A 20 (A 20)) 21 (A 21)) 22 (A 22)) 23 (A 23)) 24 (A 24)) 25 (A 25)) 33 o5_0) (va_up (va_up (va_up B 50 (B 50)) 51 (B 51)) 52 (B 52)) G  N o9_1 ho9_1) (cwV 0 F.1.2.2.2.2 gX6_certificate_X6_lengthOfRow rfl rfl rfl (by decide +kernel) ⟨Nat.le_of_ble_eq_true rfl, Nat.le_of_ble_eq_true rfl⟩) (m_recv F hM mg_0 rfl) rfl hl.1 (Nat.le_of_ble_eq_true rfl) dX6_certificate_9 ⟨Nat.le_refl 0, Nat.le_refl 0⟩ rfl rfl rfl rfl rfl (fun H locs hM => ?_)
  refine lv_lstore_n (lv' := [(2, .long o9_1), (0, .ref (ad 0)), (1, .int p1)]) hx hb dX6_certificate_12 rfl hl (by decide) rfl (fun ls hl => ?_)
  refine lv_lload_n hx hb dX6_certificate_13 rfl (lv_at hl 0 rfl) ?_
  refine lv_ldc2 (v := (-1)) hx hb F.1.2.2.2.1 (F.1.2.2.2.2 (.constantLong RX6 100 (-1)) (by decide +kernel)) dX6_certificate_14 ?_
  refine m_leq (tgt := 51) F dX6_certificate_17 dX6_certificate_18 (by decide) (fun c18 => ?_) (fun c18 => ?_)
  · replace hE := (if_pos c18).symm.trans hE
    refine lv_iconst (v := 0) hx hb dX6_certificate_51 (by decide) ?_
    obtain ⟨hz, hE⟩ := bz_some hE
    obtain rfl := Option.some.inj hE
    exact m_zret F hM hr hz rfl rfl dX6_certificate_52
  · replace hE := (if_neg c18).symm.trans hE
    refine lv_lload_n hx hb dX6_certificate_21 rfl (lv_at hl 0 rfl) ?_
    refine lv_aload_n hx hb dX6_certificate_22 rfl (lv_at hl 1 rfl) ?_
    refine m_get F hM 0 mg_0 rfl 1 (by decide) (by decide +kernel) (by decide +kernel) (v := .ref (ad 2)) rfl dX6_certificate_23 ?_
    refine lv_bipush (v := 50) hx hb dX6_certificate_26 (by decide) ?_
    obtain ⟨o28_2, ho28_2, hE⟩ := bd_some hE
    refine m_callVl (As := [.int (50 : Int32)]) (I2 := (va_up I 1 o28_2.2.1)) (J2 := (va_up J 0 o28_2.2.2.1)) (A2 := (va_up (va_up (va_up (va_up (va_up (va_up (va_up A 20 o28_2.2.2.2.1) 21 o28_2.2.2.2.2.1) 22 o28_2.2.2.2.2.2) 23 (A 23)) 24 (A 24)) 25 (A 25)) 33 o5_0)) (B2 := (va_up (va_up (va_up B 50 (B 50)) 51 (B 51)) 52 (B 52))) (G2 := G) F hM (c_X2_bound l D y nn ad H.size (va_up I 1 (I 1)) (va_up J 0 (J 0)) (va_up (va_up (va_up (va_up (va_up (va_up (va_up A 20 (A 20)) 21 (A 21)) 22 (A 22)) 23 (A 23)) 24 (A 24)) 25 (A 25)) 33 o5_0) (va_up (va_up (va_up B 50 (B 50)) 51 (B 51)) 52 (B 52)) G (50 : Int32) N o28_2 ho28_2) (cwV 1 F.1.2.2.2.2 gX6_certificate_X2_bound rfl rfl rfl (by decide +kernel) ⟨Nat.le_of_ble_eq_true rfl, Nat.le_of_ble_eq_true rfl⟩) (m_recv F hM mg_2 rfl) rfl hl.1 (Nat.le_of_ble_eq_true rfl) dX6_certificate_28 ⟨Nat.le_refl 0, Nat.le_refl 0⟩ (bx_uu _ _ _ _) (bx_uu _ _ _ _) un_20_21_22_23_24_25_33__20_21_22 rfl rfl (fun H locs hM => ?_)
    refine m_llt (tgt := 51) F dX6_certificate_31 dX6_certificate_32 (by decide) (fun c32 => ?_) (fun c32 => ?_)
    · replace hE := (if_pos c32).symm.trans hE
      refine lv_iconst (v := 0) hx hb dX6_certificate_51 (by decide) ?_
      obtain ⟨hz, hE⟩ := bz_some hE
      obtain rfl := Option.some.inj hE
      exact m_zret F hM hr hz rfl rfl dX6_certificate_52
    · replace hE := (if_neg c32).symm.trans hE
      refine lv_lload_n hx hb dX6_certificate_35 rfl (lv_at hl 0 rfl) ?_
      refine lv_aload_n hx hb dX6_certificate_36 rfl (lv_at hl 1 rfl) ?_
      refine m_get F hM 0 mg_0 rfl 2 (by decide) (by decide +kernel) (by decide +kernel) (v := .ref (ad 3)) rfl dX6_certificate_37 ?_
      obtain ⟨o40_3, ho40_3, hE⟩ := bd_some hE
      refine m_callVl (As := []) (I2 := (va_up I 1 o28_2.2.1)) (J2 := (va_up J 0 o28_2.2.2.1)) (A2 := (va_up (va_up (va_up (va_up (va_up (va_up (va_up A 20 o28_2.2.2.2.1) 21 o28_2.2.2.2.2.1) 22 o28_2.2.2.2.2.2) 23 o40_3.2.1) 24 o40_3.2.2.1) 25 o40_3.2.2.2.1) 33 o5_0)) (B2 := (va_up (va_up (va_up B 50 o40_3.2.2.2.2.1) 51 o40_3.2.2.2.2.2.1) 52 o40_3.2.2.2.2.2.2)) (G2 := G) F hM (c_X0_leastSum l D y nn ad H.size (va_up I 1 o28_2.2.1) (va_up J 0 o28_2.2.2.1) (va_up (va_up (va_up (va_up (va_up (va_up (va_up A 20 o28_2.2.2.2.1) 21 o28_2.2.2.2.2.1) 22 o28_2.2.2.2.2.2) 23 (A 23)) 24 (A 24)) 25 (A 25)) 33 o5_0) (va_up (va_up (va_up B 50 (B 50)) 51 (B 51)) 52 (B 52)) G  N o40_3 ho40_3) (cwV 0 F.1.2.2.2.2 gX6_certificate_X0_leastSum rfl rfl rfl (by decide +kernel) ⟨Nat.le_of_ble_eq_true rfl, Nat.le_of_ble_eq_true rfl⟩) (m_recv F hM mg_3 rfl) rfl hl.1 (Nat.le_of_ble_eq_true rfl) dX6_certificate_40 ⟨Nat.le_refl 0, Nat.le_refl 0⟩ rfl rfl un_20_21_22_23_24_25_33__23_24_25 un_50_51_52__50_51_52 rfl (fun H locs hM => ?_)
      refine m_llt (tgt := 51) F dX6_certificate_43 dX6_certificate_44 (by decide) (fun c44 => ?_) (fun c44 => ?_)
      · replace hE := (if_pos c44).symm.trans hE
        refine lv_iconst (v := 0) hx hb dX6_certificate_51 (by decide) ?_
        obtain ⟨hz, hE⟩ := bz_some hE
        obtain rfl := Option.some.inj hE
        exact m_zret F hM hr hz rfl rfl dX6_certificate_52
      · replace hE := (if_neg c44).symm.trans hE
        refine lv_iconst (v := 1) hx hb dX6_certificate_47 (by decide) ?_
        refine lv_goto (tgt := 52) hx hb dX6_certificate_48 (by decide) ?_
        obtain ⟨hz, hE⟩ := bz_some hE
        obtain rfl := Option.some.inj hE
        exact m_zret F hM hr hz rfl rfl dX6_certificate_52
