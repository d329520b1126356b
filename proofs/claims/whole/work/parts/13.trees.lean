/-! ===== X2_stepOf: reads , writes , frames 0, locals 0 ===== -/
def f_X2_stepOf   (p0 : Int32) : Option (Int32) :=
dv (4 : Int32) (
(if (4 : Int32) ≤ ((p0 - (1 : Int32)) / (4 : Int32)) then
some (1 : Int32)
else
some ((16 : Int32) >>> (((p0 - (1 : Int32)) / (4 : Int32)) &&& 31))))
set_option maxHeartbeats 4000000 in
set_option maxRecDepth 100000 in
theorem c_X2_stepOf (l : Launch) (D : va_G) (y : Nat → ClassId) (nn : Nat) (ad : Nat → Nat) (sz : Nat) (I : Nat → Int32) (J : Nat → Int64) (A : Nat → Nat → Int32) (B : Nat → Nat → Int64) (G : Nat → Nat → Nat → Int32) (p0 : Int32)  (out : Int32) (hE : f_X2_stepOf   p0 = some out) : Met l yX2_stepOf wsX2_stepOf ({ frames := 0, cells := 0, slots := 0, locals := 0 } : Room) (mPc [.int p0] D y nn ad sz I J A B G) (mQi D y nn ad (mA y nn ad I J A B G sz) out (I, J, A, B, G)) 0 0 (mA y nn ad I J A B G sz) := by
  refine Met.ofW (cc := cX2_stepOf) (maxL := 2) (ret := (some .int)) (by decide) rfl ?_
  intro p e s m args below meth c s₁ Bd hml hv
  obtain ⟨rfl, hsz, hP, hK, hD0, hN⟩ := hv
  have hr := Bd.returns
  subst hsz
  have F : Fx p s m ([.int p0] : List Value).toArray meth c cX2_stepOf 2 wsX2_stepOf RX2 D y (mA y nn ad I J A B G s.heap.size) := ⟨⟨Bd.exec, Bd.bytes, hml, findClass_of_methodNamed Bd.named, atoms_spec (ws := wsX2_stepOf) Bd.pre⟩, hK, hN, fun q h => Or.inr h, Bd.notSynchronized⟩
  have hM := m_start (s := s) rfl hP hD0
  have hM := m_mem (I2 := I) (J2 := J) (A2 := A) (B2 := B) (G2 := G) hM (by rfl) (by rfl) (by rfl) (by rfl) (by rfl)
  have hx := F.1.1
  have hb := F.1.2.1
  have hl := lv_entry ([.int p0]) (n := 2) (Nat.le_of_ble_eq_true rfl)
  rw [lg_entry_eq]
  generalize (lg_sl ([.int p0]) ++ List.replicate (2 - (lg_sl ([.int p0])).length) Slot.unset).toArray = ls at hl ⊢
  have hl : lv_has ls 2 [(0, .int p0)] := hl
  show W p l e ({ frames := 0, cells := 0, slots := 0, locals := 0 } : Room) s m _ below meth c s.heap [] 0 0 _ _
  obtain ⟨locs, hlo⟩ : ∃ locs : List Loc, locs = [] := ⟨_, rfl⟩
  rw [← hlo]; rw [← hlo] at hM
  unfold f_X2_stepOf at hE
  revert hM
  suffices hH : ∀ H : Heap, MM D y nn ad (mA y nn ad I J A B G s.heap.size) s.heap I J A B G H locs → W p l e ({ frames := 0, cells := 0, slots := 0, locals := 0 } : Room) s m ([.int p0] : List Value).toArray below meth c H locs 0 0 (MQ below (mQi D y nn ad (mA y nn ad I J A B G s.heap.size) out (I, J, A, B, G)) ([.int p0] : List Value).toArray s 0 0 (mA y nn ad I J A B G s.heap.size)) (F0 m 0 ls []) from hH s.heap
  intro H hM
  refine lv_iload_n hx hb dX2_stepOf_0 rfl (lv_at hl 0 rfl) ?_
  refine lv_iconst (v := 1) hx hb dX2_stepOf_1 (by decide) ?_
  refine lv_isub hx hb dX2_stepOf_2 ?_
  refine lv_iconst (v := 4) hx hb dX2_stepOf_3 (by decide) ?_
  obtain ⟨hz4, hE⟩ := dv_some hE
  refine lv_idiv hx hb dX2_stepOf_4 hz4 ?_
  refine lv_istore_n (lv' := [(1, .int ((p0 - (1 : Int32)) / (4 : Int32))), (0, .int p0)]) hx hb dX2_stepOf_5 rfl hl (by decide) rfl (fun ls hl => ?_)
  refine lv_iload_n hx hb dX2_stepOf_6 rfl (lv_at hl 0 rfl) ?_
  refine lv_iconst (v := 4) hx hb dX2_stepOf_7 (by decide) ?_
  refine lv_icmp_ge (tgt := 18) hx hb dX2_stepOf_8 (by decide) (fun c8 => ?_) (fun c8 => ?_)
  · replace hE := (if_pos c8).symm.trans hE
    refine lv_iconst (v := 1) hx hb dX2_stepOf_18 (by decide) ?_
    obtain rfl := Option.some.inj hE
    exact m_iret F hM hr rfl rfl dX2_stepOf_19
  · replace hE := (if_neg c8).symm.trans hE
    refine lv_bipush (v := 16) hx hb dX2_stepOf_11 (by decide) ?_
    refine lv_iload_n hx hb dX2_stepOf_13 rfl (lv_at hl 0 rfl) ?_
    refine lv_ishr hx hb dX2_stepOf_14 ?_
    refine lv_goto (tgt := 19) hx hb dX2_stepOf_15 (by decide) ?_
    obtain rfl := Option.some.inj hE
    exact m_iret F hM hr rfl rfl dX2_stepOf_19
/-! ===== X2_price: reads A20 G1, writes , frames 0, locals 0 ===== -/
def f_X2_price (nn : Nat) (a20 : Nat → Int32) (g1 : Nat → Nat → Int32)  (p1 : Int32) (p2 : Int32) : Option (Int64) :=
ck p1 nn (
ck p2 nn (
ck p1 nn (
ck p2 nn (
some ((((2 : Int64) * ((g1 p1.toNatClampNeg p2.toNatClampNeg).toInt64)) + ((a20 p1.toNatClampNeg).toInt64)) + ((a20 p2.toNatClampNeg).toInt64))))))
set_option maxHeartbeats 4000000 in
set_option maxRecDepth 100000 in
theorem c_X2_price (l : Launch) (D : va_G) (y : Nat → ClassId) (nn : Nat) (ad : Nat → Nat) (sz : Nat) (I : Nat → Int32) (J : Nat → Int64) (A : Nat → Nat → Int32) (B : Nat → Nat → Int64) (G : Nat → Nat → Nat → Int32) (p1 : Int32) (p2 : Int32)  (out : Int64) (hE : f_X2_price nn (A 20) (G 1)  p1 p2 = some out) : Met l yX2_price wsX2_price ({ frames := 0, cells := 0, slots := 0, locals := 0 } : Room) (mPc [.ref (ad 2), .int p1, .int p2] D y nn ad sz I J A B G) (mQl D y nn ad (mA y nn ad I J A B G sz) out (I, J, A, B, G)) 0 0 (mA y nn ad I J A B G sz) := by
  refine Met.ofW (cc := cX2_price) (maxL := 3) (ret := (some .long)) (by decide) rfl ?_
  intro p e s m args below meth c s₁ Bd hml hv
  obtain ⟨rfl, hsz, hP, hK, hD0, hN⟩ := hv
  have hr := Bd.returns
  subst hsz
  have F : Fx p s m ([.ref (ad 2), .int p1, .int p2] : List Value).toArray meth c cX2_price 3 wsX2_price RX2 D y (mA y nn ad I J A B G s.heap.size) := ⟨⟨Bd.exec, Bd.bytes, hml, findClass_of_methodNamed Bd.named, atoms_spec (ws := wsX2_price) Bd.pre⟩, hK, hN, fun q h => Or.inr h, Bd.notSynchronized⟩
  have hM := m_start (s := s) rfl hP hD0
  have hM := m_mem (I2 := I) (J2 := J) (A2 := A) (B2 := B) (G2 := G) hM (by rfl) (by rfl) (by rfl) (by rfl) (by rfl)
  have hx := F.1.1
  have hb := F.1.2.1
  have hl := lv_entry ([.ref (ad 2), .int p1, .int p2]) (n := 3) (Nat.le_of_ble_eq_true rfl)
  rw [lg_entry_eq]
  generalize (lg_sl ([.ref (ad 2), .int p1, .int p2]) ++ List.replicate (3 - (lg_sl ([.ref (ad 2), .int p1, .int p2])).length) Slot.unset).toArray = ls at hl ⊢
  have hl : lv_has ls 3 [(0, .ref (ad 2)), (1, .int p1), (2, .int p2)] := hl
  show W p l e ({ frames := 0, cells := 0, slots := 0, locals := 0 } : Room) s m _ below meth c s.heap [] 0 0 _ _
  obtain ⟨locs, hlo⟩ : ∃ locs : List Loc, locs = [] := ⟨_, rfl⟩
  rw [← hlo]; rw [← hlo] at hM
  unfold f_X2_price at hE
  revert hM
  suffices hH : ∀ H : Heap, MM D y nn ad (mA y nn ad I J A B G s.heap.size) s.heap I J A B G H locs → W p l e ({ frames := 0, cells := 0, slots := 0, locals := 0 } : Room) s m ([.ref (ad 2), .int p1, .int p2] : List Value).toArray below meth c H locs 0 0 (MQ below (mQl D y nn ad (mA y nn ad I J A B G s.heap.size) out (I, J, A, B, G)) ([.ref (ad 2), .int p1, .int p2] : List Value).toArray s 0 0 (mA y nn ad I J A B G s.heap.size)) (F0 m 0 ls []) from hH s.heap
  intro H hM
  refine lv_ldc2 (v := (2)) hx hb F.1.2.2.2.1 (F.1.2.2.2.2 (.constantLong RX2 58 (2)) (by decide +kernel)) dX2_price_0 ?_
  refine lv_aload_n hx hb dX2_price_3 rfl (lv_at hl 0 rfl) ?_
  refine m_get F hM 2 mg_2 rfl 0 (by decide) (by decide +kernel) (by decide +kernel) (v := .ref (ad 1)) rfl dX2_price_4 ?_
  refine m_getN F hM 1 mg_1 rfl 2 (by decide) (by decide +kernel) (by decide +kernel) (v := .ref (ad 9)) rfl dX2_price_7 ?_
  refine lv_iload_n hx hb dX2_price_10 rfl (lv_at hl 1 rfl) ?_
  obtain ⟨hi11_0, hE⟩ := ck_some hE
  refine m_aald F hM mg_9 hi11_0 dX2_price_11 ?_
  refine lv_iload_n hx hb dX2_price_12 rfl (lv_at hl 2 rfl) ?_
  obtain ⟨hi13_1, hE⟩ := ck_some hE
  refine m_rald (M := (G 1)) F hM (by decide) (vp_lt hi11_0) rfl hi13_1 dX2_price_13 ?_
  refine lv_i2l hx hb dX2_price_14 rfl ?_
  refine lv_lmul hx hb dX2_price_15 ?_
  refine lv_aload_n hx hb dX2_price_16 rfl (lv_at hl 0 rfl) ?_
  refine m_get F hM 2 mg_2 rfl 1 (by decide) (by decide +kernel) (by decide +kernel) (v := .ref (ad 20)) rfl dX2_price_17 ?_
  refine lv_iload_n hx hb dX2_price_20 rfl (lv_at hl 1 rfl) ?_
  obtain ⟨hi21_2, hE⟩ := ck_some hE
  refine m_iald (g := (A 20)) F hM mg_20 rfl hi21_2 dX2_price_21 ?_
  refine lv_i2l hx hb dX2_price_22 rfl ?_
  refine lv_ladd hx hb dX2_price_23 ?_
  refine lv_aload_n hx hb dX2_price_24 rfl (lv_at hl 0 rfl) ?_
  refine m_get F hM 2 mg_2 rfl 1 (by decide) (by decide +kernel) (by decide +kernel) (v := .ref (ad 20)) rfl dX2_price_25 ?_
  refine lv_iload_n hx hb dX2_price_28 rfl (lv_at hl 2 rfl) ?_
  obtain ⟨hi29_3, hE⟩ := ck_some hE
  refine m_iald (g := (A 20)) F hM mg_20 rfl hi29_3 dX2_price_29 ?_
  refine lv_i2l hx hb dX2_price_30 rfl ?_
  refine lv_ladd hx hb dX2_price_31 ?_
  obtain rfl := Option.some.inj hE
  exact m_lret F hM hr rfl rfl dX2_price_32
/-! ===== X2_take: reads A20 G1, writes J0 A21, frames 1, locals 22 ===== -/
def f_X2_take (nn : Nat) (a20 : Nat → Int32) (g1 : Nat → Nat → Int32) (j0 : Int64) (a21 : Nat → Int32) (p1 : Int32) (p2 : Int32) : Option (Int64 × (Nat → Int32)) :=
bd (f_X2_price nn a20 g1 p1 p2) fun o8_0 =>
ck p1 nn (
ck p1 nn (
nmd (upd a21 p1.toNatClampNeg ((a21 p1.toNatClampNeg) + (1 : Int32))) fun w24_3 =>
ck p2 nn (
ck p2 nn (
nmd (upd w24_3 p2.toNatClampNeg ((w24_3 p2.toNatClampNeg) + (1 : Int32))) fun w34_6 =>
some ((j0 + o8_0), w34_6)))))
set_option maxHeartbeats 4000000 in
set_option maxRecDepth 100000 in
theorem c_X2_take (l : Launch) (D : va_G) (y : Nat → ClassId) (nn : Nat) (ad : Nat → Nat) (sz : Nat) (I : Nat → Int32) (J : Nat → Int64) (A : Nat → Nat → Int32) (B : Nat → Nat → Int64) (G : Nat → Nat → Nat → Int32) (p1 : Int32) (p2 : Int32)  (out : Int64 × (Nat → Int32)) (hE : f_X2_take nn (A 20) (G 1) (J 0) (A 21) p1 p2 = some out) : Met l yX2_take wsX2_take ({ frames := 1, cells := 0, slots := 0, locals := 22 } : Room) (mPc [.ref (ad 2), .int p1, .int p2] D y nn ad sz I J A B G) (mQv D y nn ad (mA y nn ad I J A B G sz) (I, (va_up J 0 out.1), (va_up A 21 out.2), B, G)) 0 0 (mA y nn ad I J A B G sz) := by
  refine Met.ofW (cc := cX2_take) (maxL := 3) (ret := none) (by decide) rfl ?_
  intro p e s m args below meth c s₁ Bd hml hv
  obtain ⟨rfl, hsz, hP, hK, hD0, hN⟩ := hv
  have hr := Bd.returns
  subst hsz
  have F : Fx p s m ([.ref (ad 2), .int p1, .int p2] : List Value).toArray meth c cX2_take 3 wsX2_take RX2 D y (mA y nn ad I J A B G s.heap.size) := ⟨⟨Bd.exec, Bd.bytes, hml, findClass_of_methodNamed Bd.named, atoms_spec (ws := wsX2_take) Bd.pre⟩, hK, hN, fun q h => Or.inr h, Bd.notSynchronized⟩
  have hM := m_start (s := s) rfl hP hD0
  have hM := m_mem (I2 := I) (J2 := (va_up J 0 (J 0))) (A2 := (va_up A 21 (A 21))) (B2 := B) (G2 := G) hM (by rfl) (by simp only [up_id]) (by simp only [up_id]) (by rfl) (by rfl)
  have hx := F.1.1
  have hb := F.1.2.1
  have hl := lv_entry ([.ref (ad 2), .int p1, .int p2]) (n := 3) (Nat.le_of_ble_eq_true rfl)
  rw [lg_entry_eq]
  generalize (lg_sl ([.ref (ad 2), .int p1, .int p2]) ++ List.replicate (3 - (lg_sl ([.ref (ad 2), .int p1, .int p2])).length) Slot.unset).toArray = ls at hl ⊢
  have hl : lv_has ls 3 [(0, .ref (ad 2)), (1, .int p1), (2, .int p2)] := hl
  show W p l e ({ frames := 1, cells := 0, slots := 0, locals := 22 } : Room) s m _ below meth c s.heap [] 0 0 _ _
  obtain ⟨locs, hlo⟩ : ∃ locs : List Loc, locs = [] := ⟨_, rfl⟩
  rw [← hlo]; rw [← hlo] at hM
  unfold f_X2_take at hE
  revert hM
  suffices hH : ∀ H : Heap, MM D y nn ad (mA y nn ad I J A B G s.heap.size) s.heap I (va_up J 0 (J 0)) (va_up A 21 (A 21)) B G H locs → W p l e ({ frames := 1, cells := 0, slots := 0, locals := 22 } : Room) s m ([.ref (ad 2), .int p1, .int p2] : List Value).toArray below meth c H locs 0 0 (MQ below (mQv D y nn ad (mA y nn ad I J A B G s.heap.size) (I, (va_up J 0 out.1), (va_up A 21 out.2), B, G)) ([.ref (ad 2), .int p1, .int p2] : List Value).toArray s 0 0 (mA y nn ad I J A B G s.heap.size)) (F0 m 0 ls []) from hH s.heap
  intro H hM
  refine lv_aload_n hx hb dX2_take_0 rfl (lv_at hl 0 rfl) ?_
  refine lv_dup hx hb dX2_take_1 rfl ?_
  refine m_get F hM 2 mg_2 rfl 4 (by decide) (by decide +kernel) (by decide +kernel) (v := .long (J 0)) rfl dX2_take_2 ?_
  refine lv_aload_n hx hb dX2_take_5 rfl (lv_at hl 0 rfl) ?_
  refine lv_iload_n hx hb dX2_take_6 rfl (lv_at hl 1 rfl) ?_
  refine lv_iload_n hx hb dX2_take_7 rfl (lv_at hl 2 rfl) ?_
  obtain ⟨o8_0, ho8_0, hE⟩ := bd_some hE
  refine m_callVl (As := [.int p1, .int p2]) (I2 := I) (J2 := (va_up J 0 (J 0))) (A2 := (va_up A 21 (A 21))) (B2 := B) (G2 := G) F hM (c_X2_price l D y nn ad H.size I (va_up J 0 (J 0)) (va_up A 21 (A 21)) B G p1 p2  o8_0 ho8_0) (cwV 2 F.1.2.2.2.2 gX2_take_X2_price rfl rfl rfl (by decide +kernel) ⟨Nat.le_of_ble_eq_true rfl, Nat.le_of_ble_eq_true rfl⟩) (m_recv F hM mg_2 rfl) rfl hl.1 (Nat.le_of_ble_eq_true rfl) dX2_take_8 ⟨Nat.le_refl 0, Nat.le_refl 0⟩ rfl rfl rfl rfl rfl (fun H locs hM => ?_)
  refine lv_ladd hx hb dX2_take_11 ?_
  refine m_put F hM 2 mg_2 rfl tyX2 tyX2_ok nmX2 4 (by decide) (by decide +kernel) (by decide +kernel) rfl (ty := .long) (v := .long ((J 0) + o8_0)) (by decide +kernel) rfl rfl (Nat.le_of_ble_eq_true rfl) (ms_2_4 _) rfl  (bx_uu _ _ _ _) dX2_take_12 (fun H locs hM => ?_)
  refine lv_aload_n hx hb dX2_take_15 rfl (lv_at hl 0 rfl) ?_
  refine m_get F hM 2 mg_2 rfl 2 (by decide) (by decide +kernel) (by decide +kernel) (v := .ref (ad 21)) rfl dX2_take_16 ?_
  refine lv_iload_n hx hb dX2_take_19 rfl (lv_at hl 1 rfl) ?_
  refine lv_dup2_11 hx hb dX2_take_20 rfl rfl ?_
  obtain ⟨hi21_1, hE⟩ := ck_some hE
  refine m_iald (g := (A 21)) F hM mg_21 rfl hi21_1 dX2_take_21 ?_
  refine lv_iconst (v := 1) hx hb dX2_take_22 (by decide) ?_
  refine lv_iadd hx hb dX2_take_23 ?_
  obtain ⟨hi24_2, hE⟩ := ck_some hE
  obtain ⟨w24_3, ew24_3, hE⟩ := nmd_some hE
  refine m_iast (f := (A 21)) (A' := (va_up A 21 w24_3)) F hM mg_21 ms_21 (by rw [ew24_3]; exact (bx_uu _ _ _ _)) hi24_2 dX2_take_24 (fun H locs hM => ?_)
  refine lv_aload_n hx hb dX2_take_25 rfl (lv_at hl 0 rfl) ?_
  refine m_get F hM 2 mg_2 rfl 2 (by decide) (by decide +kernel) (by decide +kernel) (v := .ref (ad 21)) rfl dX2_take_26 ?_
  refine lv_iload_n hx hb dX2_take_29 rfl (lv_at hl 2 rfl) ?_
  refine lv_dup2_11 hx hb dX2_take_30 rfl rfl ?_
  obtain ⟨hi31_4, hE⟩ := ck_some hE
  refine m_iald (g := w24_3) F hM mg_21 rfl hi31_4 dX2_take_31 ?_
  refine lv_iconst (v := 1) hx hb dX2_take_32 (by decide) ?_
  refine lv_iadd hx hb dX2_take_33 ?_
  obtain ⟨hi34_5, hE⟩ := ck_some hE
  obtain ⟨w34_6, ew34_6, hE⟩ := nmd_some hE
  refine m_iast (f := w24_3) (A' := (va_up A 21 w34_6)) F hM mg_21 ms_21 (by rw [ew34_6]; exact (bx_uu _ _ _ _)) hi34_5 dX2_take_34 (fun H locs hM => ?_)
  obtain rfl := Option.some.inj hE
  exact m_vret F hM hr rfl dX2_take_35
/-! ===== X2_uniteWith: reads I0, writes A22, frames 0, locals 0 ===== -/
def f_X2_uniteWith_2 (N : Nat) (nn : Nat) (i0 : Int32)  (nx2 : Int32 → Int32 → Int32 → (Nat → Int32) → Option ((Nat → Int32))) (x1 : Int32) (x2 : Int32) (x3 : Int32) (a22' : Nat → Int32) : Option ((Nat → Int32)) :=
(if i0 ≤ x3 then
some a22'
else
ck x3 nn (
(if (a22' x3.toNatClampNeg) = x2 then
ck x3 nn (
nmd (upd a22' x3.toNatClampNeg x1) fun w29_2 =>
nx2 x1 x2 (x3 + (1 : Int32)) w29_2)
else
nx2 x1 x2 (x3 + (1 : Int32)) a22')))
def f_X2_uniteWith (N : Nat) (nn : Nat) (i0 : Int32) (a22 : Nat → Int32) (p1 : Int32) (p2 : Int32) : Option ((Nat → Int32)) :=
lq4 (f_X2_uniteWith_2 N nn i0 ) N p1 p2 (0 : Int32) a22
set_option maxHeartbeats 4000000 in
set_option maxRecDepth 100000 in
theorem s_X2_uniteWith_2 {p : Program} {l : Launch} {e : Env} {s : State} {m : MethodId} {args : Array Value} {below : List Frame} {meth : Method} {c : Code} {D : va_G} {y : Nat → ClassId} {nn : Nat} {ad : Nat → Nat} {A0 : Nat → Prop} {I : Nat → Int32} {J : Nat → Int64} {A : Nat → Nat → Int32} {B : Nat → Nat → Int64} {G : Nat → Nat → Nat → Int32} (F : Fx p s m args meth c cX2_uniteWith 4 wsX2_uniteWith RX2 D y A0) (hr : meth.sig.returnType = none) {out : (Nat → Int32)} {N : Nat}  (nx2 : Int32 → Int32 → Int32 → (Nat → Int32) → Option ((Nat → Int32))) (hn2 : ∀ (x1 : Int32) (x2 : Int32) (x3 : Int32) (a22' : Nat → Int32) (ls : Array Slot) (H : Heap) (locs : List Loc), nx2 x1 x2 x3 a22' = some out → MM D y nn ad A0 s.heap I J (va_up A 22 a22') B G H locs → lv_has ls 4 [(0, .ref (ad 2)), (1, .int x1), (2, .int x2), (3, .int x3)] → W p l e ({ frames := 0, cells := 0, slots := 0, locals := 0 } : Room) s m args below meth c H locs 0 0 (MQ below (mQv D y nn ad A0 (I, J, (va_up A 22 out), B, G)) args s 0 0 A0) (F0 m 2 ls [])) : ∀ (x1 : Int32) (x2 : Int32) (x3 : Int32) (a22' : Nat → Int32) (ls : Array Slot) (H : Heap) (locs : List Loc), f_X2_uniteWith_2 N nn (I 0)  nx2 x1 x2 x3 a22' = some out → MM D y nn ad A0 s.heap I J (va_up A 22 a22') B G H locs → lv_has ls 4 [(0, .ref (ad 2)), (1, .int x1), (2, .int x2), (3, .int x3)] → W p l e ({ frames := 0, cells := 0, slots := 0, locals := 0 } : Room) s m args below meth c H locs 0 0 (MQ below (mQv D y nn ad A0 (I, J, (va_up A 22 out), B, G)) args s 0 0 A0) (F0 m 2 ls []) := by
  intro x1 x2 x3 a22' ls H locs hE hM hl
  have hx := F.1.1
  have hb := F.1.2.1
  unfold f_X2_uniteWith_2 at hE
  refine lv_iload_n hx hb dX2_uniteWith_2 rfl (lv_at hl 3 rfl) ?_
  refine lv_aload_n hx hb dX2_uniteWith_3 rfl (lv_at hl 0 rfl) ?_
  refine m_get F hM 2 mg_2 rfl 0 (by decide) (by decide +kernel) (by decide +kernel) (v := .ref (ad 1)) rfl dX2_uniteWith_4 ?_
  refine m_getN F hM 1 mg_1 rfl 0 (by decide) (by decide +kernel) (by decide +kernel) (v := .int (I 0)) rfl dX2_uniteWith_7 ?_
  refine lv_icmp_ge (tgt := 36) hx hb dX2_uniteWith_10 (by decide) (fun c10 => ?_) (fun c10 => ?_)
  · replace hE := (if_pos c10).symm.trans hE
    obtain rfl := Option.some.inj hE
    exact m_vret F hM hr rfl dX2_uniteWith_36
  · replace hE := (if_neg c10).symm.trans hE
    refine lv_aload_n hx hb dX2_uniteWith_13 rfl (lv_at hl 0 rfl) ?_
    refine m_get F hM 2 mg_2 rfl 3 (by decide) (by decide +kernel) (by decide +kernel) (v := .ref (ad 22)) rfl dX2_uniteWith_14 ?_
    refine lv_iload_n hx hb dX2_uniteWith_17 rfl (lv_at hl 3 rfl) ?_
    obtain ⟨hi18_0, hE⟩ := ck_some hE
    refine m_iald (g := a22') F hM mg_22 rfl hi18_0 dX2_uniteWith_18 ?_
    refine lv_iload_n hx hb dX2_uniteWith_19 rfl (lv_at hl 2 rfl) ?_
    refine lv_icmp_ne (tgt := 30) hx hb dX2_uniteWith_20 (by decide) (fun c20 => ?_) (fun c20 => ?_)
    · replace hE := (if_neg c20).symm.trans hE
      refine lv_iinc (v := x3 + (1 : Int32)) (lv' := [(3, .int (x3 + (1 : Int32))), (0, .ref (ad 2)), (1, .int x1), (2, .int x2)]) hx hb dX2_uniteWith_30 hl (k := 3) rfl rfl (by decide) rfl (fun ls hl => ?_)
      refine lv_goto (tgt := 2) hx hb dX2_uniteWith_33 (by decide) ?_
      exact hn2 x1 x2 (x3 + (1 : Int32)) a22' ls H locs hE hM (lv_sub hl [1, 2, 3, 0] rfl)
    · replace hE := (if_pos c20).symm.trans hE
      refine lv_aload_n hx hb dX2_uniteWith_23 rfl (lv_at hl 0 rfl) ?_
      refine m_get F hM 2 mg_2 rfl 3 (by decide) (by decide +kernel) (by decide +kernel) (v := .ref (ad 22)) rfl dX2_uniteWith_24 ?_
      refine lv_iload_n hx hb dX2_uniteWith_27 rfl (lv_at hl 3 rfl) ?_
      refine lv_iload_n hx hb dX2_uniteWith_28 rfl (lv_at hl 1 rfl) ?_
      obtain ⟨hi29_1, hE⟩ := ck_some hE
      obtain ⟨w29_2, ew29_2, hE⟩ := nmd_some hE
      refine m_iast (f := a22') (A' := (va_up A 22 w29_2)) F hM mg_22 ms_22 (by rw [ew29_2]; exact (bx_uu _ _ _ _)) hi29_1 dX2_uniteWith_29 (fun H locs hM => ?_)
      refine lv_iinc (v := x3 + (1 : Int32)) (lv' := [(3, .int (x3 + (1 : Int32))), (0, .ref (ad 2)), (1, .int x1), (2, .int x2)]) hx hb dX2_uniteWith_30 hl (k := 3) rfl rfl (by decide) rfl (fun ls hl => ?_)
      refine lv_goto (tgt := 2) hx hb dX2_uniteWith_33 (by decide) ?_
      exact hn2 x1 x2 (x3 + (1 : Int32)) w29_2 ls H locs hE hM (lv_sub hl [1, 2, 3, 0] rfl)
theorem k_X2_uniteWith_2 {p : Program} {l : Launch} {e : Env} {s : State} {m : MethodId} {args : Array Value} {below : List Frame} {meth : Method} {c : Code} {D : va_G} {y : Nat → ClassId} {nn : Nat} {ad : Nat → Nat} {A0 : Nat → Prop} {I : Nat → Int32} {J : Nat → Int64} {A : Nat → Nat → Int32} {B : Nat → Nat → Int64} {G : Nat → Nat → Nat → Int32} (F : Fx p s m args meth c cX2_uniteWith 4 wsX2_uniteWith RX2 D y A0) (hr : meth.sig.returnType = none) {out : (Nat → Int32)} {N : Nat}  : ∀ (n : Nat), ∀ (x1 : Int32) (x2 : Int32) (x3 : Int32) (a22' : Nat → Int32) (ls : Array Slot) (H : Heap) (locs : List Loc), lq4 (f_X2_uniteWith_2 N nn (I 0) ) n x1 x2 x3 a22' = some out → MM D y nn ad A0 s.heap I J (va_up A 22 a22') B G H locs → lv_has ls 4 [(0, .ref (ad 2)), (1, .int x1), (2, .int x2), (3, .int x3)] → W p l e ({ frames := 0, cells := 0, slots := 0, locals := 0 } : Room) s m args below meth c H locs 0 0 (MQ below (mQv D y nn ad A0 (I, J, (va_up A 22 out), B, G)) args s 0 0 A0) (F0 m 2 ls []) := by
  intro n
  induction n with
  | zero =>
    intro x1 x2 x3 a22' ls H locs hE
    cases (show (none : Option _) = some out from hE)
  | succ n ih =>
    intro x1 x2 x3 a22' ls H locs hE hM hl
    exact s_X2_uniteWith_2 F hr (N := N)  (lq4 (f_X2_uniteWith_2 N nn (I 0) ) n) ih x1 x2 x3 a22' ls H locs hE hM hl
set_option maxHeartbeats 4000000 in
set_option maxRecDepth 100000 in
theorem c_X2_uniteWith (l : Launch) (D : va_G) (y : Nat → ClassId) (nn : Nat) (ad : Nat → Nat) (sz : Nat) (I : Nat → Int32) (J : Nat → Int64) (A : Nat → Nat → Int32) (B : Nat → Nat → Int64) (G : Nat → Nat → Nat → Int32) (p1 : Int32) (p2 : Int32) (N : Nat) (out : (Nat → Int32)) (hE : f_X2_uniteWith N nn (I 0) (A 22) p1 p2 = some out) : Met l yX2_uniteWith wsX2_uniteWith ({ frames := 0, cells := 0, slots := 0, locals := 0 } : Room) (mPc [.ref (ad 2), .int p1, .int p2] D y nn ad sz I J A B G) (mQv D y nn ad (mA y nn ad I J A B G sz) (I, J, (va_up A 22 out), B, G)) 0 0 (mA y nn ad I J A B G sz) := by
  refine Met.ofW (cc := cX2_uniteWith) (maxL := 4) (ret := none) (by decide) rfl ?_
  intro p e s m args below meth c s₁ Bd hml hv
  obtain ⟨rfl, hsz, hP, hK, hD0, hN⟩ := hv
  have hr := Bd.returns
  subst hsz
  have F : Fx p s m ([.ref (ad 2), .int p1, .int p2] : List Value).toArray meth c cX2_uniteWith 4 wsX2_uniteWith RX2 D y (mA y nn ad I J A B G s.heap.size) := ⟨⟨Bd.exec, Bd.bytes, hml, findClass_of_methodNamed Bd.named, atoms_spec (ws := wsX2_uniteWith) Bd.pre⟩, hK, hN, fun q h => Or.inr h, Bd.notSynchronized⟩
  have hM := m_start (s := s) rfl hP hD0
  have hM := m_mem (I2 := I) (J2 := J) (A2 := (va_up A 22 (A 22))) (B2 := B) (G2 := G) hM (by rfl) (by rfl) (by simp only [up_id]) (by rfl) (by rfl)
  have hx := F.1.1
  have hb := F.1.2.1
  have hl := lv_entry ([.ref (ad 2), .int p1, .int p2]) (n := 4) (Nat.le_of_ble_eq_true rfl)
  rw [lg_entry_eq]
  generalize (lg_sl ([.ref (ad 2), .int p1, .int p2]) ++ List.replicate (4 - (lg_sl ([.ref (ad 2), .int p1, .int p2])).length) Slot.unset).toArray = ls at hl ⊢
  have hl : lv_has ls 4 [(0, .ref (ad 2)), (1, .int p1), (2, .int p2)] := hl
  show W p l e ({ frames := 0, cells := 0, slots := 0, locals := 0 } : Room) s m _ below meth c s.heap [] 0 0 _ _
  obtain ⟨locs, hlo⟩ : ∃ locs : List Loc, locs = [] := ⟨_, rfl⟩
  rw [← hlo]; rw [← hlo] at hM
  unfold f_X2_uniteWith at hE
  revert hM
  suffices hH : ∀ H : Heap, MM D y nn ad (mA y nn ad I J A B G s.heap.size) s.heap I J (va_up A 22 (A 22)) B G H locs → W p l e ({ frames := 0, cells := 0, slots := 0, locals := 0 } : Room) s m ([.ref (ad 2), .int p1, .int p2] : List Value).toArray below meth c H locs 0 0 (MQ below (mQv D y nn ad (mA y nn ad I J A B G s.heap.size) (I, J, (va_up A 22 out), B, G)) ([.ref (ad 2), .int p1, .int p2] : List Value).toArray s 0 0 (mA y nn ad I J A B G s.heap.size)) (F0 m 0 ls []) from hH s.heap
  intro H hM
  refine lv_iconst (v := 0) hx hb dX2_uniteWith_0 (by decide) ?_
  refine lv_istore_n (lv' := [(3, .int (0 : Int32)), (0, .ref (ad 2)), (1, .int p1), (2, .int p2)]) hx hb dX2_uniteWith_1 rfl hl (by decide) rfl (fun ls hl => ?_)
  exact k_X2_uniteWith_2 F hr (N := N)  N p1 p2 (0 : Int32) (A 22) ls H locs hE hM (lv_sub hl [1, 2, 3, 0] rfl)
/-! ===== X2_cheapestFromPlace0: reads I0 A20 G1, writes , frames 1, locals 22 ===== -/
def f_X2_cheapestFromPlace0_4 (N : Nat) (nn : Nat) (i0 : Int32) (a20 : Nat → Int32) (g1 : Nat → Nat → Int32)  (nx4 : Int32 → Int32 → Int32 → Option (Int32)) (x1 : Int32) (x2 : Int32) (x3 : Int32) : Option (Int32) :=
(if i0 ≤ x3 then
some x2
else
(if x3 = x1 then
nx4 x1 x2 (x3 + (1 : Int32))
else
ck (0 : Int32) nn (
ck x3 nn (
(if (g1 (0 : Int32).toNatClampNeg x3.toNatClampNeg) = (-1 : Int32) then
nx4 x1 x2 (x3 + (1 : Int32))
else
(if x2 = (-1 : Int32) then
nx4 x1 x3 (x3 + (1 : Int32))
else
bd (f_X2_price nn a20 g1 (0 : Int32) x3) fun o43_2 =>
bd (f_X2_price nn a20 g1 (0 : Int32) x2) fun o49_3 =>
(if o49_3 ≤ o43_2 then
nx4 x1 x2 (x3 + (1 : Int32))
else
nx4 x1 x3 (x3 + (1 : Int32)))))))))
def f_X2_cheapestFromPlace0 (N : Nat) (nn : Nat) (i0 : Int32) (a20 : Nat → Int32) (g1 : Nat → Nat → Int32)  (p1 : Int32) : Option (Int32) :=
lq3 (f_X2_cheapestFromPlace0_4 N nn i0 a20 g1 ) N p1 (-1 : Int32) (1 : Int32)
set_option maxHeartbeats 4000000 in
set_option maxRecDepth 100000 in
theorem s_X2_cheapestFromPlace0_4 {p : Program} {l : Launch} {e : Env} {s : State} {m : MethodId} {args : Array Value} {below : List Frame} {meth : Method} {c : Code} {D : va_G} {y : Nat → ClassId} {nn : Nat} {ad : Nat → Nat} {A0 : Nat → Prop} {I : Nat → Int32} {J : Nat → Int64} {A : Nat → Nat → Int32} {B : Nat → Nat → Int64} {G : Nat → Nat → Nat → Int32} (F : Fx p s m args meth c cX2_cheapestFromPlace0 4 wsX2_cheapestFromPlace0 RX2 D y A0) (hr : meth.sig.returnType = (some .int)) {out : Int32} {N : Nat}  (nx4 : Int32 → Int32 → Int32 → Option (Int32)) (hn4 : ∀ (x1 : Int32) (x2 : Int32) (x3 : Int32) (ls : Array Slot) (H : Heap) (locs : List Loc), nx4 x1 x2 x3 = some out → MM D y nn ad A0 s.heap I J A B G H locs → lv_has ls 4 [(0, .ref (ad 2)), (1, .int x1), (2, .int x2), (3, .int x3)] → W p l e ({ frames := 1, cells := 0, slots := 0, locals := 22 } : Room) s m args below meth c H locs 0 0 (MQ below (mQi D y nn ad A0 out (I, J, A, B, G)) args s 0 0 A0) (F0 m 4 ls [])) : ∀ (x1 : Int32) (x2 : Int32) (x3 : Int32) (ls : Array Slot) (H : Heap) (locs : List Loc), f_X2_cheapestFromPlace0_4 N nn (I 0) (A 20) (G 1)  nx4 x1 x2 x3 = some out → MM D y nn ad A0 s.heap I J A B G H locs → lv_has ls 4 [(0, .ref (ad 2)), (1, .int x1), (2, .int x2), (3, .int x3)] → W p l e ({ frames := 1, cells := 0, slots := 0, locals := 22 } : Room) s m args below meth c H locs 0 0 (MQ below (mQi D y nn ad A0 out (I, J, A, B, G)) args s 0 0 A0) (F0 m 4 ls []) := by
  intro x1 x2 x3 ls H locs hE hM hl
  have hx := F.1.1
  have hb := F.1.2.1
  unfold f_X2_cheapestFromPlace0_4 at hE
  refine lv_iload_n hx hb dX2_cheapestFromPlace0_4 rfl (lv_at hl 3 rfl) ?_
  refine lv_aload_n hx hb dX2_cheapestFromPlace0_5 rfl (lv_at hl 0 rfl) ?_
  refine m_get F hM 2 mg_2 rfl 0 (by decide) (by decide +kernel) (by decide +kernel) (v := .ref (ad 1)) rfl dX2_cheapestFromPlace0_6 ?_
  refine m_getN F hM 1 mg_1 rfl 0 (by decide) (by decide +kernel) (by decide +kernel) (v := .int (I 0)) rfl dX2_cheapestFromPlace0_9 ?_
  refine lv_icmp_ge (tgt := 64) hx hb dX2_cheapestFromPlace0_12 (by decide) (fun c12 => ?_) (fun c12 => ?_)
  · replace hE := (if_pos c12).symm.trans hE
    refine lv_iload_n hx hb dX2_cheapestFromPlace0_64 rfl (lv_at hl 2 rfl) ?_
    obtain rfl := Option.some.inj hE
    exact m_iret F hM hr rfl rfl dX2_cheapestFromPlace0_65
  · replace hE := (if_neg c12).symm.trans hE
    refine lv_iload_n hx hb dX2_cheapestFromPlace0_15 rfl (lv_at hl 3 rfl) ?_
    refine lv_iload_n hx hb dX2_cheapestFromPlace0_16 rfl (lv_at hl 1 rfl) ?_
    refine lv_icmp_eq (tgt := 58) hx hb dX2_cheapestFromPlace0_17 (by decide) (fun c17 => ?_) (fun c17 => ?_)
    · replace hE := (if_pos c17).symm.trans hE
      refine lv_iinc (v := x3 + (1 : Int32)) (lv' := [(3, .int (x3 + (1 : Int32))), (0, .ref (ad 2)), (1, .int x1), (2, .int x2)]) hx hb dX2_cheapestFromPlace0_58 hl (k := 3) rfl rfl (by decide) rfl (fun ls hl => ?_)
      refine lv_goto (tgt := 4) hx hb dX2_cheapestFromPlace0_61 (by decide) ?_
      exact hn4 x1 x2 (x3 + (1 : Int32)) ls H locs hE hM (lv_sub hl [1, 2, 3, 0] rfl)
    · replace hE := (if_neg c17).symm.trans hE
      refine lv_aload_n hx hb dX2_cheapestFromPlace0_20 rfl (lv_at hl 0 rfl) ?_
      refine m_get F hM 2 mg_2 rfl 0 (by decide) (by decide +kernel) (by decide +kernel) (v := .ref (ad 1)) rfl dX2_cheapestFromPlace0_21 ?_
      refine m_getN F hM 1 mg_1 rfl 2 (by decide) (by decide +kernel) (by decide +kernel) (v := .ref (ad 9)) rfl dX2_cheapestFromPlace0_24 ?_
      refine lv_iconst (v := 0) hx hb dX2_cheapestFromPlace0_27 (by decide) ?_
      obtain ⟨hi28_0, hE⟩ := ck_some hE
      refine m_aald F hM mg_9 hi28_0 dX2_cheapestFromPlace0_28 ?_
      refine lv_iload_n hx hb dX2_cheapestFromPlace0_29 rfl (lv_at hl 3 rfl) ?_
      obtain ⟨hi30_1, hE⟩ := ck_some hE
      refine m_rald (M := (G 1)) F hM (by decide) (vp_lt hi28_0) rfl hi30_1 dX2_cheapestFromPlace0_30 ?_
      refine lv_iconst (v := (-1)) hx hb dX2_cheapestFromPlace0_31 (by decide) ?_
      refine lv_icmp_eq (tgt := 58) hx hb dX2_cheapestFromPlace0_32 (by decide) (fun c32 => ?_) (fun c32 => ?_)
      · replace hE := (if_pos c32).symm.trans hE
        refine lv_iinc (v := x3 + (1 : Int32)) (lv' := [(3, .int (x3 + (1 : Int32))), (0, .ref (ad 2)), (1, .int x1), (2, .int x2)]) hx hb dX2_cheapestFromPlace0_58 hl (k := 3) rfl rfl (by decide) rfl (fun ls hl => ?_)
        refine lv_goto (tgt := 4) hx hb dX2_cheapestFromPlace0_61 (by decide) ?_
        exact hn4 x1 x2 (x3 + (1 : Int32)) ls H locs hE hM (lv_sub hl [1, 2, 3, 0] rfl)
      · replace hE := (if_neg c32).symm.trans hE
        refine lv_iload_n hx hb dX2_cheapestFromPlace0_35 rfl (lv_at hl 2 rfl) ?_
        refine lv_iconst (v := (-1)) hx hb dX2_cheapestFromPlace0_36 (by decide) ?_
        refine lv_icmp_eq (tgt := 56) hx hb dX2_cheapestFromPlace0_37 (by decide) (fun c37 => ?_) (fun c37 => ?_)
        · replace hE := (if_pos c37).symm.trans hE
          refine lv_iload_n hx hb dX2_cheapestFromPlace0_56 rfl (lv_at hl 3 rfl) ?_
          refine lv_istore_n (lv' := [(2, .int x3), (0, .ref (ad 2)), (1, .int x1), (3, .int x3)]) hx hb dX2_cheapestFromPlace0_57 rfl hl (by decide) rfl (fun ls hl => ?_)
          refine lv_iinc (v := x3 + (1 : Int32)) (lv' := [(3, .int (x3 + (1 : Int32))), (2, .int x3), (0, .ref (ad 2)), (1, .int x1)]) hx hb dX2_cheapestFromPlace0_58 hl (k := 3) rfl rfl (by decide) rfl (fun ls hl => ?_)
          refine lv_goto (tgt := 4) hx hb dX2_cheapestFromPlace0_61 (by decide) ?_
          exact hn4 x1 x3 (x3 + (1 : Int32)) ls H locs hE hM (lv_sub hl [2, 3, 1, 0] rfl)
        · replace hE := (if_neg c37).symm.trans hE
          refine lv_aload_n hx hb dX2_cheapestFromPlace0_40 rfl (lv_at hl 0 rfl) ?_
          refine lv_iconst (v := 0) hx hb dX2_cheapestFromPlace0_41 (by decide) ?_
          refine lv_iload_n hx hb dX2_cheapestFromPlace0_42 rfl (lv_at hl 3 rfl) ?_
          obtain ⟨o43_2, ho43_2, hE⟩ := bd_some hE
          refine m_callVl (As := [.int (0 : Int32), .int x3]) (I2 := I) (J2 := J) (A2 := A) (B2 := B) (G2 := G) F hM (c_X2_price l D y nn ad H.size I J A B G (0 : Int32) x3  o43_2 ho43_2) (cwV 2 F.1.2.2.2.2 gX2_cheapestFromPlace0_X2_price rfl rfl rfl (by decide +kernel) ⟨Nat.le_of_ble_eq_true rfl, Nat.le_of_ble_eq_true rfl⟩) (m_recv F hM mg_2 rfl) rfl hl.1 (Nat.le_of_ble_eq_true rfl) dX2_cheapestFromPlace0_43 ⟨Nat.le_refl 0, Nat.le_refl 0⟩ rfl rfl rfl rfl rfl (fun H locs hM => ?_)
          refine lv_aload_n hx hb dX2_cheapestFromPlace0_46 rfl (lv_at hl 0 rfl) ?_
          refine lv_iconst (v := 0) hx hb dX2_cheapestFromPlace0_47 (by decide) ?_
          refine lv_iload_n hx hb dX2_cheapestFromPlace0_48 rfl (lv_at hl 2 rfl) ?_
          obtain ⟨o49_3, ho49_3, hE⟩ := bd_some hE
          refine m_callVl (As := [.int (0 : Int32), .int x2]) (I2 := I) (J2 := J) (A2 := A) (B2 := B) (G2 := G) F hM (c_X2_price l D y nn ad H.size I J A B G (0 : Int32) x2  o49_3 ho49_3) (cwV 2 F.1.2.2.2.2 gX2_cheapestFromPlace0_X2_price rfl rfl rfl (by decide +kernel) ⟨Nat.le_of_ble_eq_true rfl, Nat.le_of_ble_eq_true rfl⟩) (m_recv F hM mg_2 rfl) rfl hl.1 (Nat.le_of_ble_eq_true rfl) dX2_cheapestFromPlace0_49 ⟨Nat.le_refl 0, Nat.le_refl 0⟩ rfl rfl rfl rfl rfl (fun H locs hM => ?_)
          refine m_lge (tgt := 58) F dX2_cheapestFromPlace0_52 dX2_cheapestFromPlace0_53 (by decide) (fun c53 => ?_) (fun c53 => ?_)
          · replace hE := (if_pos c53).symm.trans hE
            refine lv_iinc (v := x3 + (1 : Int32)) (lv' := [(3, .int (x3 + (1 : Int32))), (0, .ref (ad 2)), (1, .int x1), (2, .int x2)]) hx hb dX2_cheapestFromPlace0_58 hl (k := 3) rfl rfl (by decide) rfl (fun ls hl => ?_)
            refine lv_goto (tgt := 4) hx hb dX2_cheapestFromPlace0_61 (by decide) ?_
            exact hn4 x1 x2 (x3 + (1 : Int32)) ls H locs hE hM (lv_sub hl [1, 2, 3, 0] rfl)
          · replace hE := (if_neg c53).symm.trans hE
            refine lv_iload_n hx hb dX2_cheapestFromPlace0_56 rfl (lv_at hl 3 rfl) ?_
            refine lv_istore_n (lv' := [(2, .int x3), (0, .ref (ad 2)), (1, .int x1), (3, .int x3)]) hx hb dX2_cheapestFromPlace0_57 rfl hl (by decide) rfl (fun ls hl => ?_)
            refine lv_iinc (v := x3 + (1 : Int32)) (lv' := [(3, .int (x3 + (1 : Int32))), (2, .int x3), (0, .ref (ad 2)), (1, .int x1)]) hx hb dX2_cheapestFromPlace0_58 hl (k := 3) rfl rfl (by decide) rfl (fun ls hl => ?_)
            refine lv_goto (tgt := 4) hx hb dX2_cheapestFromPlace0_61 (by decide) ?_
            exact hn4 x1 x3 (x3 + (1 : Int32)) ls H locs hE hM (lv_sub hl [2, 3, 1, 0] rfl)
theorem k_X2_cheapestFromPlace0_4 {p : Program} {l : Launch} {e : Env} {s : State} {m : MethodId} {args : Array Value} {below : List Frame} {meth : Method} {c : Code} {D : va_G} {y : Nat → ClassId} {nn : Nat} {ad : Nat → Nat} {A0 : Nat → Prop} {I : Nat → Int32} {J : Nat → Int64} {A : Nat → Nat → Int32} {B : Nat → Nat → Int64} {G : Nat → Nat → Nat → Int32} (F : Fx p s m args meth c cX2_cheapestFromPlace0 4 wsX2_cheapestFromPlace0 RX2 D y A0) (hr : meth.sig.returnType = (some .int)) {out : Int32} {N : Nat}  : ∀ (n : Nat), ∀ (x1 : Int32) (x2 : Int32) (x3 : Int32) (ls : Array Slot) (H : Heap) (locs : List Loc), lq3 (f_X2_cheapestFromPlace0_4 N nn (I 0) (A 20) (G 1) ) n x1 x2 x3 = some out → MM D y nn ad A0 s.heap I J A B G H locs → lv_has ls 4 [(0, .ref (ad 2)), (1, .int x1), (2, .int x2), (3, .int x3)] → W p l e ({ frames := 1, cells := 0, slots := 0, locals := 22 } : Room) s m args below meth c H locs 0 0 (MQ below (mQi D y nn ad A0 out (I, J, A, B, G)) args s 0 0 A0) (F0 m 4 ls []) := by
  intro n
  induction n with
  | zero =>
    intro x1 x2 x3 ls H locs hE
    cases (show (none : Option _) = some out from hE)
  | succ n ih =>
    intro x1 x2 x3 ls H locs hE hM hl
    exact s_X2_cheapestFromPlace0_4 F hr (N := N)  (lq3 (f_X2_cheapestFromPlace0_4 N nn (I 0) (A 20) (G 1) ) n) ih x1 x2 x3 ls H locs hE hM hl
set_option maxHeartbeats 4000000 in
set_option maxRecDepth 100000 in
theorem c_X2_cheapestFromPlace0 (l : Launch) (D : va_G) (y : Nat → ClassId) (nn : Nat) (ad : Nat → Nat) (sz : Nat) (I : Nat → Int32) (J : Nat → Int64) (A : Nat → Nat → Int32) (B : Nat → Nat → Int64) (G : Nat → Nat → Nat → Int32) (p1 : Int32) (N : Nat) (out : Int32) (hE : f_X2_cheapestFromPlace0 N nn (I 0) (A 20) (G 1)  p1 = some out) : Met l yX2_cheapestFromPlace0 wsX2_cheapestFromPlace0 ({ frames := 1, cells := 0, slots := 0, locals := 22 } : Room) (mPc [.ref (ad 2), .int p1] D y nn ad sz I J A B G) (mQi D y nn ad (mA y nn ad I J A B G sz) out (I, J, A, B, G)) 0 0 (mA y nn ad I J A B G sz) := by
  refine Met.ofW (cc := cX2_cheapestFromPlace0) (maxL := 4) (ret := (some .int)) (by decide) rfl ?_
  intro p e s m args below meth c s₁ Bd hml hv
  obtain ⟨rfl, hsz, hP, hK, hD0, hN⟩ := hv
  have hr := Bd.returns
  subst hsz
  have F : Fx p s m ([.ref (ad 2), .int p1] : List Value).toArray meth c cX2_cheapestFromPlace0 4 wsX2_cheapestFromPlace0 RX2 D y (mA y nn ad I J A B G s.heap.size) := ⟨⟨Bd.exec, Bd.bytes, hml, findClass_of_methodNamed Bd.named, atoms_spec (ws := wsX2_cheapestFromPlace0) Bd.pre⟩, hK, hN, fun q h => Or.inr h, Bd.notSynchronized⟩
  have hM := m_start (s := s) rfl hP hD0
  have hM := m_mem (I2 := I) (J2 := J) (A2 := A) (B2 := B) (G2 := G) hM (by rfl) (by rfl) (by rfl) (by rfl) (by rfl)
  have hx := F.1.1
  have hb := F.1.2.1
  have hl := lv_entry ([.ref (ad 2), .int p1]) (n := 4) (Nat.le_of_ble_eq_true rfl)
  rw [lg_entry_eq]
  generalize (lg_sl ([.ref (ad 2), .int p1]) ++ List.replicate (4 - (lg_sl ([.ref (ad 2), .int p1])).length) Slot.unset).toArray = ls at hl ⊢
  have hl : lv_has ls 4 [(0, .ref (ad 2)), (1, .int p1)] := hl
  show W p l e ({ frames := 1, cells := 0, slots := 0, locals := 22 } : Room) s m _ below meth c s.heap [] 0 0 _ _
  obtain ⟨locs, hlo⟩ : ∃ locs : List Loc, locs = [] := ⟨_, rfl⟩
  rw [← hlo]; rw [← hlo] at hM
  unfold f_X2_cheapestFromPlace0 at hE
  revert hM
  suffices hH : ∀ H : Heap, MM D y nn ad (mA y nn ad I J A B G s.heap.size) s.heap I J A B G H locs → W p l e ({ frames := 1, cells := 0, slots := 0, locals := 22 } : Room) s m ([.ref (ad 2), .int p1] : List Value).toArray below meth c H locs 0 0 (MQ below (mQi D y nn ad (mA y nn ad I J A B G s.heap.size) out (I, J, A, B, G)) ([.ref (ad 2), .int p1] : List Value).toArray s 0 0 (mA y nn ad I J A B G s.heap.size)) (F0 m 0 ls []) from hH s.heap
  intro H hM
  refine lv_iconst (v := (-1)) hx hb dX2_cheapestFromPlace0_0 (by decide) ?_
  refine lv_istore_n (lv' := [(2, .int (-1 : Int32)), (0, .ref (ad 2)), (1, .int p1)]) hx hb dX2_cheapestFromPlace0_1 rfl hl (by decide) rfl (fun ls hl => ?_)
  refine lv_iconst (v := 1) hx hb dX2_cheapestFromPlace0_2 (by decide) ?_
  refine lv_istore_n (lv' := [(3, .int (1 : Int32)), (2, .int (-1 : Int32)), (0, .ref (ad 2)), (1, .int p1)]) hx hb dX2_cheapestFromPlace0_3 rfl hl (by decide) rfl (fun ls hl => ?_)
  exact k_X2_cheapestFromPlace0_4 F hr (N := N)  N p1 (-1 : Int32) (1 : Int32) ls H locs hE hM (lv_sub hl [2, 3, 1, 0] rfl)
/-! ===== X2_joinTwoPieces: reads I0 A20 G1, writes J0 A21 A22, frames 2, locals 44 ===== -/
def f_X2_joinTwoPieces_22 (N : Nat) (nn : Nat) (i0 : Int32) (a20 : Nat → Int32) (g1 : Nat → Nat → Int32) (nx6 : Int32 → Int32 → Int32 → Int64 → (Nat → Int32) → (Nat → Int32) → Option (Int32 × Int64 × (Nat → Int32) × (Nat → Int32))) (nx22 : Int32 → Int32 → Int32 → Int32 → Int64 → (Nat → Int32) → (Nat → Int32) → Option (Int32 × Int64 × (Nat → Int32) × (Nat → Int32))) (x1 : Int32) (x2 : Int32) (x3 : Int32) (x4 : Int32) (j0' : Int64) (a21' : Nat → Int32) (a22' : Nat → Int32) : Option (Int32 × Int64 × (Nat → Int32) × (Nat → Int32)) :=
(if i0 ≤ x4 then
nx6 x1 x2 (x3 + (1 : Int32)) j0' a21' a22'
else
ck x3 nn (
ck x4 nn (
(if (a22' x3.toNatClampNeg) = (a22' x4.toNatClampNeg) then
nx22 x1 x2 x3 (x4 + (1 : Int32)) j0' a21' a22'
else
ck x3 nn (
ck x4 nn (
(if (g1 x3.toNatClampNeg x4.toNatClampNeg) = (-1 : Int32) then
nx22 x1 x2 x3 (x4 + (1 : Int32)) j0' a21' a22'
else
(if x1 = (-1 : Int32) then
nx22 x3 x4 x3 (x4 + (1 : Int32)) j0' a21' a22'
else
bd (f_X2_price nn a20 g1 x3 x4) fun o75_8 =>
bd (f_X2_price nn a20 g1 x1 x2) fun o81_9 =>
(if o81_9 ≤ o75_8 then
nx22 x1 x2 x3 (x4 + (1 : Int32)) j0' a21' a22'
else
nx22 x3 x4 x3 (x4 + (1 : Int32)) j0' a21' a22')))))))))
def f_X2_joinTwoPieces_6 (N : Nat) (nn : Nat) (i0 : Int32) (a20 : Nat → Int32) (g1 : Nat → Nat → Int32)  (nx6 : Int32 → Int32 → Int32 → Int64 → (Nat → Int32) → (Nat → Int32) → Option (Int32 × Int64 × (Nat → Int32) × (Nat → Int32))) (x1 : Int32) (x2 : Int32) (x3 : Int32) (j0' : Int64) (a21' : Nat → Int32) (a22' : Nat → Int32) : Option (Int32 × Int64 × (Nat → Int32) × (Nat → Int32)) :=
(if i0 ≤ x3 then
(if x1 = (-1 : Int32) then
bz (0 : Int32) (some ((0 : Int32), j0', a21', a22'))
else
bd (f_X2_take nn a20 g1 j0' a21' x1 x2) fun o115_0 =>
ck x1 nn (
ck x2 nn (
bd (f_X2_uniteWith N nn i0 a22' (a22' x1.toNatClampNeg) (a22' x2.toNatClampNeg)) fun o131_3 =>
bz (1 : Int32) (some ((1 : Int32), o115_0.1, o115_0.2, o131_3)))))
else
lq7 (f_X2_joinTwoPieces_22 N nn i0 a20 g1 nx6) N x1 x2 x3 (x3 + (1 : Int32)) j0' a21' a22')
def f_X2_joinTwoPieces (N : Nat) (nn : Nat) (i0 : Int32) (a20 : Nat → Int32) (g1 : Nat → Nat → Int32) (j0 : Int64) (a21 : Nat → Int32) (a22 : Nat → Int32)  : Option (Int32 × Int64 × (Nat → Int32) × (Nat → Int32)) :=
lq6 (f_X2_joinTwoPieces_6 N nn i0 a20 g1 ) N (-1 : Int32) (-1 : Int32) (1 : Int32) j0 a21 a22
set_option maxHeartbeats 4000000 in
set_option maxRecDepth 100000 in
theorem s_X2_joinTwoPieces_22 {p : Program} {l : Launch} {e : Env} {s : State} {m : MethodId} {args : Array Value} {below : List Frame} {meth : Method} {c : Code} {D : va_G} {y : Nat → ClassId} {nn : Nat} {ad : Nat → Nat} {A0 : Nat → Prop} {I : Nat → Int32} {J : Nat → Int64} {A : Nat → Nat → Int32} {B : Nat → Nat → Int64} {G : Nat → Nat → Nat → Int32} (F : Fx p s m args meth c cX2_joinTwoPieces 5 wsX2_joinTwoPieces RX2 D y A0) (hr : meth.sig.returnType = (some .boolean)) {out : Int32 × Int64 × (Nat → Int32) × (Nat → Int32)} {N : Nat} (nx6 : Int32 → Int32 → Int32 → Int64 → (Nat → Int32) → (Nat → Int32) → Option (Int32 × Int64 × (Nat → Int32) × (Nat → Int32))) (hn6 : ∀ (x1 : Int32) (x2 : Int32) (x3 : Int32) (j0' : Int64) (a21' : Nat → Int32) (a22' : Nat → Int32) (ls : Array Slot) (H : Heap) (locs : List Loc), nx6 x1 x2 x3 j0' a21' a22' = some out → MM D y nn ad A0 s.heap I (va_up J 0 j0') (va_up (va_up A 21 a21') 22 a22') B G H locs → lv_has ls 5 [(0, .ref (ad 2)), (1, .int x1), (2, .int x2), (3, .int x3)] → W p l e ({ frames := 2, cells := 0, slots := 0, locals := 44 } : Room) s m args below meth c H locs 0 0 (MQ below (mQi D y nn ad A0 out.1 (I, (va_up J 0 out.2.1), (va_up (va_up A 21 out.2.2.1) 22 out.2.2.2), B, G)) args s 0 0 A0) (F0 m 6 ls [])) (nx22 : Int32 → Int32 → Int32 → Int32 → Int64 → (Nat → Int32) → (Nat → Int32) → Option (Int32 × Int64 × (Nat → Int32) × (Nat → Int32))) (hn22 : ∀ (x1 : Int32) (x2 : Int32) (x3 : Int32) (x4 : Int32) (j0' : Int64) (a21' : Nat → Int32) (a22' : Nat → Int32) (ls : Array Slot) (H : Heap) (locs : List Loc), nx22 x1 x2 x3 x4 j0' a21' a22' = some out → MM D y nn ad A0 s.heap I (va_up J 0 j0') (va_up (va_up A 21 a21') 22 a22') B G H locs → lv_has ls 5 [(0, .ref (ad 2)), (1, .int x1), (2, .int x2), (3, .int x3), (4, .int x4)] → W p l e ({ frames := 2, cells := 0, slots := 0, locals := 44 } : Room) s m args below meth c H locs 0 0 (MQ below (mQi D y nn ad A0 out.1 (I, (va_up J 0 out.2.1), (va_up (va_up A 21 out.2.2.1) 22 out.2.2.2), B, G)) args s 0 0 A0) (F0 m 22 ls [])) : ∀ (x1 : Int32) (x2 : Int32) (x3 : Int32) (x4 : Int32) (j0' : Int64) (a21' : Nat → Int32) (a22' : Nat → Int32) (ls : Array Slot) (H : Heap) (locs : List Loc), f_X2_joinTwoPieces_22 N nn (I 0) (A 20) (G 1) nx6 nx22 x1 x2 x3 x4 j0' a21' a22' = some out → MM D y nn ad A0 s.heap I (va_up J 0 j0') (va_up (va_up A 21 a21') 22 a22') B G H locs → lv_has ls 5 [(0, .ref (ad 2)), (1, .int x1), (2, .int x2), (3, .int x3), (4, .int x4)] → W p l e ({ frames := 2, cells := 0, slots := 0, locals := 44 } : Room) s m args below meth c H locs 0 0 (MQ below (mQi D y nn ad A0 out.1 (I, (va_up J 0 out.2.1), (va_up (va_up A 21 out.2.2.1) 22 out.2.2.2), B, G)) args s 0 0 A0) (F0 m 22 ls []) := by
  intro x1 x2 x3 x4 j0' a21' a22' ls H locs hE hM hl
  have hx := F.1.1
  have hb := F.1.2.1
  unfold f_X2_joinTwoPieces_22 at hE
  refine lv_iload hx hb dX2_joinTwoPieces_22 (lv_at hl 4 rfl) ?_
  refine lv_aload_n hx hb dX2_joinTwoPieces_24 rfl (lv_at hl 0 rfl) ?_
  refine m_get F hM 2 mg_2 rfl 0 (by decide) (by decide +kernel) (by decide +kernel) (v := .ref (ad 1)) rfl dX2_joinTwoPieces_25 ?_
  refine m_getN F hM 1 mg_1 rfl 0 (by decide) (by decide +kernel) (by decide +kernel) (v := .int (I 0)) rfl dX2_joinTwoPieces_28 ?_
  refine lv_icmp_ge (tgt := 99) hx hb dX2_joinTwoPieces_31 (by decide) (fun c31 => ?_) (fun c31 => ?_)
  · replace hE := (if_pos c31).symm.trans hE
    refine lv_iinc (v := x3 + (1 : Int32)) (lv' := [(3, .int (x3 + (1 : Int32))), (0, .ref (ad 2)), (1, .int x1), (2, .int x2), (4, .int x4)]) hx hb dX2_joinTwoPieces_99 hl (k := 3) rfl rfl (by decide) rfl (fun ls hl => ?_)
    refine lv_goto (tgt := 6) hx hb dX2_joinTwoPieces_102 (by decide) ?_
    exact hn6 x1 x2 (x3 + (1 : Int32)) j0' a21' a22' ls H locs hE hM (lv_sub hl [1, 2, 3, 0] rfl)
  · replace hE := (if_neg c31).symm.trans hE
    refine lv_aload_n hx hb dX2_joinTwoPieces_34 rfl (lv_at hl 0 rfl) ?_
    refine m_get F hM 2 mg_2 rfl 3 (by decide) (by decide +kernel) (by decide +kernel) (v := .ref (ad 22)) rfl dX2_joinTwoPieces_35 ?_
    refine lv_iload_n hx hb dX2_joinTwoPieces_38 rfl (lv_at hl 3 rfl) ?_
    obtain ⟨hi39_4, hE⟩ := ck_some hE
    refine m_iald (g := a22') F hM mg_22 rfl hi39_4 dX2_joinTwoPieces_39 ?_
    refine lv_aload_n hx hb dX2_joinTwoPieces_40 rfl (lv_at hl 0 rfl) ?_
    refine m_get F hM 2 mg_2 rfl 3 (by decide) (by decide +kernel) (by decide +kernel) (v := .ref (ad 22)) rfl dX2_joinTwoPieces_41 ?_
    refine lv_iload hx hb dX2_joinTwoPieces_44 (lv_at hl 4 rfl) ?_
    obtain ⟨hi46_5, hE⟩ := ck_some hE
    refine m_iald (g := a22') F hM mg_22 rfl hi46_5 dX2_joinTwoPieces_46 ?_
    refine lv_icmp_eq (tgt := 93) hx hb dX2_joinTwoPieces_47 (by decide) (fun c47 => ?_) (fun c47 => ?_)
    · replace hE := (if_pos c47).symm.trans hE
      refine lv_iinc (v := x4 + (1 : Int32)) (lv' := [(4, .int (x4 + (1 : Int32))), (0, .ref (ad 2)), (1, .int x1), (2, .int x2), (3, .int x3)]) hx hb dX2_joinTwoPieces_93 hl (k := 4) rfl rfl (by decide) rfl (fun ls hl => ?_)
      refine lv_goto (tgt := 22) hx hb dX2_joinTwoPieces_96 (by decide) ?_
      exact hn22 x1 x2 x3 (x4 + (1 : Int32)) j0' a21' a22' ls H locs hE hM (lv_sub hl [1, 2, 3, 4, 0] rfl)
    · replace hE := (if_neg c47).symm.trans hE
      refine lv_aload_n hx hb dX2_joinTwoPieces_50 rfl (lv_at hl 0 rfl) ?_
      refine m_get F hM 2 mg_2 rfl 0 (by decide) (by decide +kernel) (by decide +kernel) (v := .ref (ad 1)) rfl dX2_joinTwoPieces_51 ?_
      refine m_getN F hM 1 mg_1 rfl 2 (by decide) (by decide +kernel) (by decide +kernel) (v := .ref (ad 9)) rfl dX2_joinTwoPieces_54 ?_
      refine lv_iload_n hx hb dX2_joinTwoPieces_57 rfl (lv_at hl 3 rfl) ?_
      obtain ⟨hi58_6, hE⟩ := ck_some hE
      refine m_aald F hM mg_9 hi58_6 dX2_joinTwoPieces_58 ?_
      refine lv_iload hx hb dX2_joinTwoPieces_59 (lv_at hl 4 rfl) ?_
      obtain ⟨hi61_7, hE⟩ := ck_some hE
      refine m_rald (M := (G 1)) F hM (by decide) (vp_lt hi58_6) rfl hi61_7 dX2_joinTwoPieces_61 ?_
      refine lv_iconst (v := (-1)) hx hb dX2_joinTwoPieces_62 (by decide) ?_
      refine lv_icmp_eq (tgt := 93) hx hb dX2_joinTwoPieces_63 (by decide) (fun c63 => ?_) (fun c63 => ?_)
      · replace hE := (if_pos c63).symm.trans hE
        refine lv_iinc (v := x4 + (1 : Int32)) (lv' := [(4, .int (x4 + (1 : Int32))), (0, .ref (ad 2)), (1, .int x1), (2, .int x2), (3, .int x3)]) hx hb dX2_joinTwoPieces_93 hl (k := 4) rfl rfl (by decide) rfl (fun ls hl => ?_)
        refine lv_goto (tgt := 22) hx hb dX2_joinTwoPieces_96 (by decide) ?_
        exact hn22 x1 x2 x3 (x4 + (1 : Int32)) j0' a21' a22' ls H locs hE hM (lv_sub hl [1, 2, 3, 4, 0] rfl)
      · replace hE := (if_neg c63).symm.trans hE
        refine lv_iload_n hx hb dX2_joinTwoPieces_66 rfl (lv_at hl 1 rfl) ?_
        refine lv_iconst (v := (-1)) hx hb dX2_joinTwoPieces_67 (by decide) ?_
        refine lv_icmp_eq (tgt := 88) hx hb dX2_joinTwoPieces_68 (by decide) (fun c68 => ?_) (fun c68 => ?_)
        · replace hE := (if_pos c68).symm.trans hE
          refine lv_iload_n hx hb dX2_joinTwoPieces_88 rfl (lv_at hl 3 rfl) ?_
          refine lv_istore_n (lv' := [(1, .int x3), (0, .ref (ad 2)), (2, .int x2), (3, .int x3), (4, .int x4)]) hx hb dX2_joinTwoPieces_89 rfl hl (by decide) rfl (fun ls hl => ?_)
          refine lv_iload hx hb dX2_joinTwoPieces_90 (lv_at hl 4 rfl) ?_
          refine lv_istore_n (lv' := [(2, .int x4), (1, .int x3), (0, .ref (ad 2)), (3, .int x3), (4, .int x4)]) hx hb dX2_joinTwoPieces_92 rfl hl (by decide) rfl (fun ls hl => ?_)
          refine lv_iinc (v := x4 + (1 : Int32)) (lv' := [(4, .int (x4 + (1 : Int32))), (2, .int x4), (1, .int x3), (0, .ref (ad 2)), (3, .int x3)]) hx hb dX2_joinTwoPieces_93 hl (k := 4) rfl rfl (by decide) rfl (fun ls hl => ?_)
          refine lv_goto (tgt := 22) hx hb dX2_joinTwoPieces_96 (by decide) ?_
          exact hn22 x3 x4 x3 (x4 + (1 : Int32)) j0' a21' a22' ls H locs hE hM (lv_sub hl [3, 2, 1, 4, 0] rfl)
        · replace hE := (if_neg c68).symm.trans hE
          refine lv_aload_n hx hb dX2_joinTwoPieces_71 rfl (lv_at hl 0 rfl) ?_
          refine lv_iload_n hx hb dX2_joinTwoPieces_72 rfl (lv_at hl 3 rfl) ?_
          refine lv_iload hx hb dX2_joinTwoPieces_73 (lv_at hl 4 rfl) ?_
          obtain ⟨o75_8, ho75_8, hE⟩ := bd_some hE
          refine m_callVl (As := [.int x3, .int x4]) (I2 := I) (J2 := (va_up J 0 j0')) (A2 := (va_up (va_up A 21 a21') 22 a22')) (B2 := B) (G2 := G) F hM (c_X2_price l D y nn ad H.size I (va_up J 0 j0') (va_up (va_up A 21 a21') 22 a22') B G x3 x4  o75_8 ho75_8) (cwV 2 F.1.2.2.2.2 gX2_joinTwoPieces_X2_price rfl rfl rfl (by decide +kernel) ⟨Nat.le_of_ble_eq_true rfl, Nat.le_of_ble_eq_true rfl⟩) (m_recv F hM mg_2 rfl) rfl hl.1 (Nat.le_of_ble_eq_true rfl) dX2_joinTwoPieces_75 ⟨Nat.le_refl 0, Nat.le_refl 0⟩ rfl rfl rfl rfl rfl (fun H locs hM => ?_)
          refine lv_aload_n hx hb dX2_joinTwoPieces_78 rfl (lv_at hl 0 rfl) ?_
          refine lv_iload_n hx hb dX2_joinTwoPieces_79 rfl (lv_at hl 1 rfl) ?_
          refine lv_iload_n hx hb dX2_joinTwoPieces_80 rfl (lv_at hl 2 rfl) ?_
          obtain ⟨o81_9, ho81_9, hE⟩ := bd_some hE
          refine m_callVl (As := [.int x1, .int x2]) (I2 := I) (J2 := (va_up J 0 j0')) (A2 := (va_up (va_up A 21 a21') 22 a22')) (B2 := B) (G2 := G) F hM (c_X2_price l D y nn ad H.size I (va_up J 0 j0') (va_up (va_up A 21 a21') 22 a22') B G x1 x2  o81_9 ho81_9) (cwV 2 F.1.2.2.2.2 gX2_joinTwoPieces_X2_price rfl rfl rfl (by decide +kernel) ⟨Nat.le_of_ble_eq_true rfl, Nat.le_of_ble_eq_true rfl⟩) (m_recv F hM mg_2 rfl) rfl hl.1 (Nat.le_of_ble_eq_true rfl) dX2_joinTwoPieces_81 ⟨Nat.le_refl 0, Nat.le_refl 0⟩ rfl rfl rfl rfl rfl (fun H locs hM => ?_)
          refine m_lge (tgt := 93) F dX2_joinTwoPieces_84 dX2_joinTwoPieces_85 (by decide) (fun c85 => ?_) (fun c85 => ?_)
          · replace hE := (if_pos c85).symm.trans hE
            refine lv_iinc (v := x4 + (1 : Int32)) (lv' := [(4, .int (x4 + (1 : Int32))), (0, .ref (ad 2)), (1, .int x1), (2, .int x2), (3, .int x3)]) hx hb dX2_joinTwoPieces_93 hl (k := 4) rfl rfl (by decide) rfl (fun ls hl => ?_)
            refine lv_goto (tgt := 22) hx hb dX2_joinTwoPieces_96 (by decide) ?_
            exact hn22 x1 x2 x3 (x4 + (1 : Int32)) j0' a21' a22' ls H locs hE hM (lv_sub hl [1, 2, 3, 4, 0] rfl)
          · replace hE := (if_neg c85).symm.trans hE
            refine lv_iload_n hx hb dX2_joinTwoPieces_88 rfl (lv_at hl 3 rfl) ?_
            refine lv_istore_n (lv' := [(1, .int x3), (0, .ref (ad 2)), (2, .int x2), (3, .int x3), (4, .int x4)]) hx hb dX2_joinTwoPieces_89 rfl hl (by decide) rfl (fun ls hl => ?_)
            refine lv_iload hx hb dX2_joinTwoPieces_90 (lv_at hl 4 rfl) ?_
            refine lv_istore_n (lv' := [(2, .int x4), (1, .int x3), (0, .ref (ad 2)), (3, .int x3), (4, .int x4)]) hx hb dX2_joinTwoPieces_92 rfl hl (by decide) rfl (fun ls hl => ?_)
            refine lv_iinc (v := x4 + (1 : Int32)) (lv' := [(4, .int (x4 + (1 : Int32))), (2, .int x4), (1, .int x3), (0, .ref (ad 2)), (3, .int x3)]) hx hb dX2_joinTwoPieces_93 hl (k := 4) rfl rfl (by decide) rfl (fun ls hl => ?_)
            refine lv_goto (tgt := 22) hx hb dX2_joinTwoPieces_96 (by decide) ?_
            exact hn22 x3 x4 x3 (x4 + (1 : Int32)) j0' a21' a22' ls H locs hE hM (lv_sub hl [3, 2, 1, 4, 0] rfl)
theorem k_X2_joinTwoPieces_22 {p : Program} {l : Launch} {e : Env} {s : State} {m : MethodId} {args : Array Value} {below : List Frame} {meth : Method} {c : Code} {D : va_G} {y : Nat → ClassId} {nn : Nat} {ad : Nat → Nat} {A0 : Nat → Prop} {I : Nat → Int32} {J : Nat → Int64} {A : Nat → Nat → Int32} {B : Nat → Nat → Int64} {G : Nat → Nat → Nat → Int32} (F : Fx p s m args meth c cX2_joinTwoPieces 5 wsX2_joinTwoPieces RX2 D y A0) (hr : meth.sig.returnType = (some .boolean)) {out : Int32 × Int64 × (Nat → Int32) × (Nat → Int32)} {N : Nat} (nx6 : Int32 → Int32 → Int32 → Int64 → (Nat → Int32) → (Nat → Int32) → Option (Int32 × Int64 × (Nat → Int32) × (Nat → Int32))) (hn6 : ∀ (x1 : Int32) (x2 : Int32) (x3 : Int32) (j0' : Int64) (a21' : Nat → Int32) (a22' : Nat → Int32) (ls : Array Slot) (H : Heap) (locs : List Loc), nx6 x1 x2 x3 j0' a21' a22' = some out → MM D y nn ad A0 s.heap I (va_up J 0 j0') (va_up (va_up A 21 a21') 22 a22') B G H locs → lv_has ls 5 [(0, .ref (ad 2)), (1, .int x1), (2, .int x2), (3, .int x3)] → W p l e ({ frames := 2, cells := 0, slots := 0, locals := 44 } : Room) s m args below meth c H locs 0 0 (MQ below (mQi D y nn ad A0 out.1 (I, (va_up J 0 out.2.1), (va_up (va_up A 21 out.2.2.1) 22 out.2.2.2), B, G)) args s 0 0 A0) (F0 m 6 ls [])) : ∀ (n : Nat), ∀ (x1 : Int32) (x2 : Int32) (x3 : Int32) (x4 : Int32) (j0' : Int64) (a21' : Nat → Int32) (a22' : Nat → Int32) (ls : Array Slot) (H : Heap) (locs : List Loc), lq7 (f_X2_joinTwoPieces_22 N nn (I 0) (A 20) (G 1) nx6) n x1 x2 x3 x4 j0' a21' a22' = some out → MM D y nn ad A0 s.heap I (va_up J 0 j0') (va_up (va_up A 21 a21') 22 a22') B G H locs → lv_has ls 5 [(0, .ref (ad 2)), (1, .int x1), (2, .int x2), (3, .int x3), (4, .int x4)] → W p l e ({ frames := 2, cells := 0, slots := 0, locals := 44 } : Room) s m args below meth c H locs 0 0 (MQ below (mQi D y nn ad A0 out.1 (I, (va_up J 0 out.2.1), (va_up (va_up A 21 out.2.2.1) 22 out.2.2.2), B, G)) args s 0 0 A0) (F0 m 22 ls []) := by
  intro n
  induction n with
  | zero =>
    intro x1 x2 x3 x4 j0' a21' a22' ls H locs hE
    cases (show (none : Option _) = some out from hE)
  | succ n ih =>
    intro x1 x2 x3 x4 j0' a21' a22' ls H locs hE hM hl
    exact s_X2_joinTwoPieces_22 F hr (N := N) nx6 hn6 (lq7 (f_X2_joinTwoPieces_22 N nn (I 0) (A 20) (G 1) nx6) n) ih x1 x2 x3 x4 j0' a21' a22' ls H locs hE hM hl
set_option maxHeartbeats 4000000 in
set_option maxRecDepth 100000 in
theorem s_X2_joinTwoPieces_6 {p : Program} {l : Launch} {e : Env} {s : State} {m : MethodId} {args : Array Value} {below : List Frame} {meth : Method} {c : Code} {D : va_G} {y : Nat → ClassId} {nn : Nat} {ad : Nat → Nat} {A0 : Nat → Prop} {I : Nat → Int32} {J : Nat → Int64} {A : Nat → Nat → Int32} {B : Nat → Nat → Int64} {G : Nat → Nat → Nat → Int32} (F : Fx p s m args meth c cX2_joinTwoPieces 5 wsX2_joinTwoPieces RX2 D y A0) (hr : meth.sig.returnType = (some .boolean)) {out : Int32 × Int64 × (Nat → Int32) × (Nat → Int32)} {N : Nat}  (nx6 : Int32 → Int32 → Int32 → Int64 → (Nat → Int32) → (Nat → Int32) → Option (Int32 × Int64 × (Nat → Int32) × (Nat → Int32))) (hn6 : ∀ (x1 : Int32) (x2 : Int32) (x3 : Int32) (j0' : Int64) (a21' : Nat → Int32) (a22' : Nat → Int32) (ls : Array Slot) (H : Heap) (locs : List Loc), nx6 x1 x2 x3 j0' a21' a22' = some out → MM D y nn ad A0 s.heap I (va_up J 0 j0') (va_up (va_up A 21 a21') 22 a22') B G H locs → lv_has ls 5 [(0, .ref (ad 2)), (1, .int x1), (2, .int x2), (3, .int x3)] → W p l e ({ frames := 2, cells := 0, slots := 0, locals := 44 } : Room) s m args below meth c H locs 0 0 (MQ below (mQi D y nn ad A0 out.1 (I, (va_up J 0 out.2.1), (va_up (va_up A 21 out.2.2.1) 22 out.2.2.2), B, G)) args s 0 0 A0) (F0 m 6 ls [])) : ∀ (x1 : Int32) (x2 : Int32) (x3 : Int32) (j0' : Int64) (a21' : Nat → Int32) (a22' : Nat → Int32) (ls : Array Slot) (H : Heap) (locs : List Loc), f_X2_joinTwoPieces_6 N nn (I 0) (A 20) (G 1)  nx6 x1 x2 x3 j0' a21' a22' = some out → MM D y nn ad A0 s.heap I (va_up J 0 j0') (va_up (va_up A 21 a21') 22 a22') B G H locs → lv_has ls 5 [(0, .ref (ad 2)), (1, .int x1), (2, .int x2), (3, .int x3)] → W p l e ({ frames := 2, cells := 0, slots := 0, locals := 44 } : Room) s m args below meth c H locs 0 0 (MQ below (mQi D y nn ad A0 out.1 (I, (va_up J 0 out.2.1), (va_up (va_up A 21 out.2.2.1) 22 out.2.2.2), B, G)) args s 0 0 A0) (F0 m 6 ls []) := by
  intro x1 x2 x3 j0' a21' a22' ls H locs hE hM hl
  have hx := F.1.1
  have hb := F.1.2.1
  unfold f_X2_joinTwoPieces_6 at hE
  refine lv_iload_n hx hb dX2_joinTwoPieces_6 rfl (lv_at hl 3 rfl) ?_
  refine lv_aload_n hx hb dX2_joinTwoPieces_7 rfl (lv_at hl 0 rfl) ?_
  refine m_get F hM 2 mg_2 rfl 0 (by decide) (by decide +kernel) (by decide +kernel) (v := .ref (ad 1)) rfl dX2_joinTwoPieces_8 ?_
  refine m_getN F hM 1 mg_1 rfl 0 (by decide) (by decide +kernel) (by decide +kernel) (v := .int (I 0)) rfl dX2_joinTwoPieces_11 ?_
  refine lv_icmp_ge (tgt := 105) hx hb dX2_joinTwoPieces_14 (by decide) (fun c14 => ?_) (fun c14 => ?_)
  · replace hE := (if_pos c14).symm.trans hE
    refine lv_iload_n hx hb dX2_joinTwoPieces_105 rfl (lv_at hl 1 rfl) ?_
    refine lv_iconst (v := (-1)) hx hb dX2_joinTwoPieces_106 (by decide) ?_
    refine lv_icmp_ne (tgt := 112) hx hb dX2_joinTwoPieces_107 (by decide) (fun c107 => ?_) (fun c107 => ?_)
    · replace hE := (if_neg c107).symm.trans hE
      refine lv_aload_n hx hb dX2_joinTwoPieces_112 rfl (lv_at hl 0 rfl) ?_
      refine lv_iload_n hx hb dX2_joinTwoPieces_113 rfl (lv_at hl 1 rfl) ?_
      refine lv_iload_n hx hb dX2_joinTwoPieces_114 rfl (lv_at hl 2 rfl) ?_
      obtain ⟨o115_0, ho115_0, hE⟩ := bd_some hE
      refine m_callVv (As := [.int x1, .int x2]) (I2 := I) (J2 := (va_up J 0 o115_0.1)) (A2 := (va_up (va_up A 21 o115_0.2) 22 a22')) (B2 := B) (G2 := G) F hM (c_X2_take l D y nn ad H.size I (va_up J 0 j0') (va_up (va_up A 21 a21') 22 a22') B G x1 x2  o115_0 ho115_0) (cwV 2 F.1.2.2.2.2 gX2_joinTwoPieces_X2_take rfl rfl rfl (by decide +kernel) ⟨Nat.le_of_ble_eq_true rfl, Nat.le_of_ble_eq_true rfl⟩) (m_recv F hM mg_2 rfl) rfl hl.1 (Nat.le_of_ble_eq_true rfl) dX2_joinTwoPieces_115 ⟨Nat.le_refl 0, Nat.le_refl 0⟩ rfl (bx_uu _ _ _ _) un_21_22__21 rfl rfl (fun H locs hM => ?_)
      refine lv_aload_n hx hb dX2_joinTwoPieces_118 rfl (lv_at hl 0 rfl) ?_
      refine lv_aload_n hx hb dX2_joinTwoPieces_119 rfl (lv_at hl 0 rfl) ?_
      refine m_get F hM 2 mg_2 rfl 3 (by decide) (by decide +kernel) (by decide +kernel) (v := .ref (ad 22)) rfl dX2_joinTwoPieces_120 ?_
      refine lv_iload_n hx hb dX2_joinTwoPieces_123 rfl (lv_at hl 1 rfl) ?_
      obtain ⟨hi124_1, hE⟩ := ck_some hE
      refine m_iald (g := a22') F hM mg_22 rfl hi124_1 dX2_joinTwoPieces_124 ?_
      refine lv_aload_n hx hb dX2_joinTwoPieces_125 rfl (lv_at hl 0 rfl) ?_
      refine m_get F hM 2 mg_2 rfl 3 (by decide) (by decide +kernel) (by decide +kernel) (v := .ref (ad 22)) rfl dX2_joinTwoPieces_126 ?_
      refine lv_iload_n hx hb dX2_joinTwoPieces_129 rfl (lv_at hl 2 rfl) ?_
      obtain ⟨hi130_2, hE⟩ := ck_some hE
      refine m_iald (g := a22') F hM mg_22 rfl hi130_2 dX2_joinTwoPieces_130 ?_
      obtain ⟨o131_3, ho131_3, hE⟩ := bd_some hE
      refine m_callVv (As := [.int (a22' x1.toNatClampNeg), .int (a22' x2.toNatClampNeg)]) (I2 := I) (J2 := (va_up J 0 o115_0.1)) (A2 := (va_up (va_up A 21 o115_0.2) 22 o131_3)) (B2 := B) (G2 := G) F hM (c_X2_uniteWith l D y nn ad H.size I (va_up J 0 o115_0.1) (va_up (va_up A 21 o115_0.2) 22 a22') B G (a22' x1.toNatClampNeg) (a22' x2.toNatClampNeg) N o131_3 ho131_3) (cwV 2 F.1.2.2.2.2 gX2_joinTwoPieces_X2_uniteWith rfl rfl rfl (by decide +kernel) ⟨Nat.le_of_ble_eq_true rfl, Nat.le_of_ble_eq_true rfl⟩) (m_recv F hM mg_2 rfl) rfl hl.1 (Nat.le_of_ble_eq_true rfl) dX2_joinTwoPieces_131 ⟨Nat.le_refl 0, Nat.le_refl 0⟩ rfl rfl un_21_22__22 rfl rfl (fun H locs hM => ?_)
      refine lv_iconst (v := 1) hx hb dX2_joinTwoPieces_134 (by decide) ?_
      obtain ⟨hz, hE⟩ := bz_some hE
      obtain rfl := Option.some.inj hE
      exact m_zret F hM hr hz rfl rfl dX2_joinTwoPieces_135
    · replace hE := (if_pos c107).symm.trans hE
      refine lv_iconst (v := 0) hx hb dX2_joinTwoPieces_110 (by decide) ?_
      obtain ⟨hz, hE⟩ := bz_some hE
      obtain rfl := Option.some.inj hE
      exact m_zret F hM hr hz rfl rfl dX2_joinTwoPieces_111
  · replace hE := (if_neg c14).symm.trans hE
    refine lv_iload_n hx hb dX2_joinTwoPieces_17 rfl (lv_at hl 3 rfl) ?_
    refine lv_iconst (v := 1) hx hb dX2_joinTwoPieces_18 (by decide) ?_
    refine lv_iadd hx hb dX2_joinTwoPieces_19 ?_
    refine lv_istore (lv' := [(4, .int (x3 + (1 : Int32))), (0, .ref (ad 2)), (1, .int x1), (2, .int x2), (3, .int x3)]) hx hb dX2_joinTwoPieces_20 hl (by decide) rfl (fun ls hl => ?_)
    exact k_X2_joinTwoPieces_22 F hr (N := N) nx6 hn6 N x1 x2 x3 (x3 + (1 : Int32)) j0' a21' a22' ls H locs hE hM (lv_sub hl [1, 2, 3, 4, 0] rfl)
theorem k_X2_joinTwoPieces_6 {p : Program} {l : Launch} {e : Env} {s : State} {m : MethodId} {args : Array Value} {below : List Frame} {meth : Method} {c : Code} {D : va_G} {y : Nat → ClassId} {nn : Nat} {ad : Nat → Nat} {A0 : Nat → Prop} {I : Nat → Int32} {J : Nat → Int64} {A : Nat → Nat → Int32} {B : Nat → Nat → Int64} {G : Nat → Nat → Nat → Int32} (F : Fx p s m args meth c cX2_joinTwoPieces 5 wsX2_joinTwoPieces RX2 D y A0) (hr : meth.sig.returnType = (some .boolean)) {out : Int32 × Int64 × (Nat → Int32) × (Nat → Int32)} {N : Nat}  : ∀ (n : Nat), ∀ (x1 : Int32) (x2 : Int32) (x3 : Int32) (j0' : Int64) (a21' : Nat → Int32) (a22' : Nat → Int32) (ls : Array Slot) (H : Heap) (locs : List Loc), lq6 (f_X2_joinTwoPieces_6 N nn (I 0) (A 20) (G 1) ) n x1 x2 x3 j0' a21' a22' = some out → MM D y nn ad A0 s.heap I (va_up J 0 j0') (va_up (va_up A 21 a21') 22 a22') B G H locs → lv_has ls 5 [(0, .ref (ad 2)), (1, .int x1), (2, .int x2), (3, .int x3)] → W p l e ({ frames := 2, cells := 0, slots := 0, locals := 44 } : Room) s m args below meth c H locs 0 0 (MQ below (mQi D y nn ad A0 out.1 (I, (va_up J 0 out.2.1), (va_up (va_up A 21 out.2.2.1) 22 out.2.2.2), B, G)) args s 0 0 A0) (F0 m 6 ls []) := by
  intro n
  induction n with
  | zero =>
    intro x1 x2 x3 j0' a21' a22' ls H locs hE
    cases (show (none : Option _) = some out from hE)
  | succ n ih =>
    intro x1 x2 x3 j0' a21' a22' ls H locs hE hM hl
    exact s_X2_joinTwoPieces_6 F hr (N := N)  (lq6 (f_X2_joinTwoPieces_6 N nn (I 0) (A 20) (G 1) ) n) ih x1 x2 x3 j0' a21' a22' ls H locs hE hM hl
set_option maxHeartbeats 4000000 in
set_option maxRecDepth 100000 in
theorem c_X2_joinTwoPieces (l : Launch) (D : va_G) (y : Nat → ClassId) (nn : Nat) (ad : Nat → Nat) (sz : Nat) (I : Nat → Int32) (J : Nat → Int64) (A : Nat → Nat → Int32) (B : Nat → Nat → Int64) (G : Nat → Nat → Nat → Int32)  (N : Nat) (out : Int32 × Int64 × (Nat → Int32) × (Nat → Int32)) (hE : f_X2_joinTwoPieces N nn (I 0) (A 20) (G 1) (J 0) (A 21) (A 22)  = some out) : Met l yX2_joinTwoPieces wsX2_joinTwoPieces ({ frames := 2, cells := 0, slots := 0, locals := 44 } : Room) (mPc [.ref (ad 2)] D y nn ad sz I J A B G) (mQi D y nn ad (mA y nn ad I J A B G sz) out.1 (I, (va_up J 0 out.2.1), (va_up (va_up A 21 out.2.2.1) 22 out.2.2.2), B, G)) 0 0 (mA y nn ad I J A B G sz) := by
  refine Met.ofW (cc := cX2_joinTwoPieces) (maxL := 5) (ret := (some .boolean)) (by decide) rfl ?_
  intro p e s m args below meth c s₁ Bd hml hv
  obtain ⟨rfl, hsz, hP, hK, hD0, hN⟩ := hv
  have hr := Bd.returns
  subst hsz
  have F : Fx p s m ([.ref (ad 2)] : List Value).toArray meth c cX2_joinTwoPieces 5 wsX2_joinTwoPieces RX2 D y (mA y nn ad I J A B G s.heap.size) := ⟨⟨Bd.exec, Bd.bytes, hml, findClass_of_methodNamed Bd.named, atoms_spec (ws := wsX2_joinTwoPieces) Bd.pre⟩, hK, hN, fun q h => Or.inr h, Bd.notSynchronized⟩
  have hM := m_start (s := s) rfl hP hD0
  have hM := m_mem (I2 := I) (J2 := (va_up J 0 (J 0))) (A2 := (va_up (va_up A 21 (A 21)) 22 (A 22))) (B2 := B) (G2 := G) hM (by rfl) (by simp only [up_id]) (by simp only [up_id]) (by rfl) (by rfl)
  have hx := F.1.1
  have hb := F.1.2.1
  have hl := lv_entry ([.ref (ad 2)]) (n := 5) (Nat.le_of_ble_eq_true rfl)
  rw [lg_entry_eq]
  generalize (lg_sl ([.ref (ad 2)]) ++ List.replicate (5 - (lg_sl ([.ref (ad 2)])).length) Slot.unset).toArray = ls at hl ⊢
  have hl : lv_has ls 5 [(0, .ref (ad 2))] := hl
  show W p l e ({ frames := 2, cells := 0, slots := 0, locals := 44 } : Room) s m _ below meth c s.heap [] 0 0 _ _
  obtain ⟨locs, hlo⟩ : ∃ locs : List Loc, locs = [] := ⟨_, rfl⟩
  rw [← hlo]; rw [← hlo] at hM
  unfold f_X2_joinTwoPieces at hE
  revert hM
  suffices hH : ∀ H : Heap, MM D y nn ad (mA y nn ad I J A B G s.heap.size) s.heap I (va_up J 0 (J 0)) (va_up (va_up A 21 (A 21)) 22 (A 22)) B G H locs → W p l e ({ frames := 2, cells := 0, slots := 0, locals := 44 } : Room) s m ([.ref (ad 2)] : List Value).toArray below meth c H locs 0 0 (MQ below (mQi D y nn ad (mA y nn ad I J A B G s.heap.size) out.1 (I, (va_up J 0 out.2.1), (va_up (va_up A 21 out.2.2.1) 22 out.2.2.2), B, G)) ([.ref (ad 2)] : List Value).toArray s 0 0 (mA y nn ad I J A B G s.heap.size)) (F0 m 0 ls []) from hH s.heap
  intro H hM
  refine lv_iconst (v := (-1)) hx hb dX2_joinTwoPieces_0 (by decide) ?_
  refine lv_istore_n (lv' := [(1, .int (-1 : Int32)), (0, .ref (ad 2))]) hx hb dX2_joinTwoPieces_1 rfl hl (by decide) rfl (fun ls hl => ?_)
  refine lv_iconst (v := (-1)) hx hb dX2_joinTwoPieces_2 (by decide) ?_
  refine lv_istore_n (lv' := [(2, .int (-1 : Int32)), (1, .int (-1 : Int32)), (0, .ref (ad 2))]) hx hb dX2_joinTwoPieces_3 rfl hl (by decide) rfl (fun ls hl => ?_)
  refine lv_iconst (v := 1) hx hb dX2_joinTwoPieces_4 (by decide) ?_
  refine lv_istore_n (lv' := [(3, .int (1 : Int32)), (2, .int (-1 : Int32)), (1, .int (-1 : Int32)), (0, .ref (ad 2))]) hx hb dX2_joinTwoPieces_5 rfl hl (by decide) rfl (fun ls hl => ?_)
  exact k_X2_joinTwoPieces_6 F hr (N := N)  N (-1 : Int32) (-1 : Int32) (1 : Int32) (J 0) (A 21) (A 22) ls H locs hE hM (lv_sub hl [3, 2, 1, 0] rfl)
/-! ===== X2_moveWeights: reads I0 A21, writes A20, frames 0, locals 0 ===== -/
def f_X2_moveWeights_2 (N : Nat) (nn : Nat) (i0 : Int32) (a21 : Nat → Int32)  (nx2 : Int32 → Int32 → (Nat → Int32) → Option ((Nat → Int32))) (x1 : Int32) (x2 : Int32) (a20' : Nat → Int32) : Option ((Nat → Int32)) :=
(if i0 ≤ x2 then
some a20'
else
ck x2 nn (
ck x2 nn (
ck x2 nn (
nmd (upd a20' x2.toNatClampNeg ((a20' x2.toNatClampNeg) + (((a21 x2.toNatClampNeg) - (2 : Int32)) * x1))) fun w31_3 =>
nx2 x1 (x2 + (1 : Int32)) w31_3))))
def f_X2_moveWeights (N : Nat) (nn : Nat) (i0 : Int32) (a21 : Nat → Int32) (a20 : Nat → Int32) (p1 : Int32) : Option ((Nat → Int32)) :=
lq3 (f_X2_moveWeights_2 N nn i0 a21 ) N p1 (0 : Int32) a20
set_option maxHeartbeats 4000000 in
set_option maxRecDepth 100000 in
theorem s_X2_moveWeights_2 {p : Program} {l : Launch} {e : Env} {s : State} {m : MethodId} {args : Array Value} {below : List Frame} {meth : Method} {c : Code} {D : va_G} {y : Nat → ClassId} {nn : Nat} {ad : Nat → Nat} {A0 : Nat → Prop} {I : Nat → Int32} {J : Nat → Int64} {A : Nat → Nat → Int32} {B : Nat → Nat → Int64} {G : Nat → Nat → Nat → Int32} (F : Fx p s m args meth c cX2_moveWeights 3 wsX2_moveWeights RX2 D y A0) (hr : meth.sig.returnType = none) {out : (Nat → Int32)} {N : Nat}  (nx2 : Int32 → Int32 → (Nat → Int32) → Option ((Nat → Int32))) (hn2 : ∀ (x1 : Int32) (x2 : Int32) (a20' : Nat → Int32) (ls : Array Slot) (H : Heap) (locs : List Loc), nx2 x1 x2 a20' = some out → MM D y nn ad A0 s.heap I J (va_up A 20 a20') B G H locs → lv_has ls 3 [(0, .ref (ad 2)), (1, .int x1), (2, .int x2)] → W p l e ({ frames := 0, cells := 0, slots := 0, locals := 0 } : Room) s m args below meth c H locs 0 0 (MQ below (mQv D y nn ad A0 (I, J, (va_up A 20 out), B, G)) args s 0 0 A0) (F0 m 2 ls [])) : ∀ (x1 : Int32) (x2 : Int32) (a20' : Nat → Int32) (ls : Array Slot) (H : Heap) (locs : List Loc), f_X2_moveWeights_2 N nn (I 0) (A 21)  nx2 x1 x2 a20' = some out → MM D y nn ad A0 s.heap I J (va_up A 20 a20') B G H locs → lv_has ls 3 [(0, .ref (ad 2)), (1, .int x1), (2, .int x2)] → W p l e ({ frames := 0, cells := 0, slots := 0, locals := 0 } : Room) s m args below meth c H locs 0 0 (MQ below (mQv D y nn ad A0 (I, J, (va_up A 20 out), B, G)) args s 0 0 A0) (F0 m 2 ls []) := by
  intro x1 x2 a20' ls H locs hE hM hl
  have hx := F.1.1
  have hb := F.1.2.1
  unfold f_X2_moveWeights_2 at hE
  refine lv_iload_n hx hb dX2_moveWeights_2 rfl (lv_at hl 2 rfl) ?_
  refine lv_aload_n hx hb dX2_moveWeights_3 rfl (lv_at hl 0 rfl) ?_
  refine m_get F hM 2 mg_2 rfl 0 (by decide) (by decide +kernel) (by decide +kernel) (v := .ref (ad 1)) rfl dX2_moveWeights_4 ?_
  refine m_getN F hM 1 mg_1 rfl 0 (by decide) (by decide +kernel) (by decide +kernel) (v := .int (I 0)) rfl dX2_moveWeights_7 ?_
  refine lv_icmp_ge (tgt := 38) hx hb dX2_moveWeights_10 (by decide) (fun c10 => ?_) (fun c10 => ?_)
  · replace hE := (if_pos c10).symm.trans hE
    obtain rfl := Option.some.inj hE
    exact m_vret F hM hr rfl dX2_moveWeights_38
  · replace hE := (if_neg c10).symm.trans hE
    refine lv_aload_n hx hb dX2_moveWeights_13 rfl (lv_at hl 0 rfl) ?_
    refine m_get F hM 2 mg_2 rfl 1 (by decide) (by decide +kernel) (by decide +kernel) (v := .ref (ad 20)) rfl dX2_moveWeights_14 ?_
    refine lv_iload_n hx hb dX2_moveWeights_17 rfl (lv_at hl 2 rfl) ?_
    refine lv_dup2_11 hx hb dX2_moveWeights_18 rfl rfl ?_
    obtain ⟨hi19_0, hE⟩ := ck_some hE
    refine m_iald (g := a20') F hM mg_20 rfl hi19_0 dX2_moveWeights_19 ?_
    refine lv_aload_n hx hb dX2_moveWeights_20 rfl (lv_at hl 0 rfl) ?_
    refine m_get F hM 2 mg_2 rfl 2 (by decide) (by decide +kernel) (by decide +kernel) (v := .ref (ad 21)) rfl dX2_moveWeights_21 ?_
    refine lv_iload_n hx hb dX2_moveWeights_24 rfl (lv_at hl 2 rfl) ?_
    obtain ⟨hi25_1, hE⟩ := ck_some hE
    refine m_iald (g := (A 21)) F hM mg_21 rfl hi25_1 dX2_moveWeights_25 ?_
    refine lv_iconst (v := 2) hx hb dX2_moveWeights_26 (by decide) ?_
    refine lv_isub hx hb dX2_moveWeights_27 ?_
    refine lv_iload_n hx hb dX2_moveWeights_28 rfl (lv_at hl 1 rfl) ?_
    refine lv_imul hx hb dX2_moveWeights_29 ?_
    refine lv_iadd hx hb dX2_moveWeights_30 ?_
    obtain ⟨hi31_2, hE⟩ := ck_some hE
    obtain ⟨w31_3, ew31_3, hE⟩ := nmd_some hE
    refine m_iast (f := a20') (A' := (va_up A 20 w31_3)) F hM mg_20 ms_20 (by rw [ew31_3]; exact (bx_uu _ _ _ _)) hi31_2 dX2_moveWeights_31 (fun H locs hM => ?_)
    refine lv_iinc (v := x2 + (1 : Int32)) (lv' := [(2, .int (x2 + (1 : Int32))), (0, .ref (ad 2)), (1, .int x1)]) hx hb dX2_moveWeights_32 hl (k := 2) rfl rfl (by decide) rfl (fun ls hl => ?_)
    refine lv_goto (tgt := 2) hx hb dX2_moveWeights_35 (by decide) ?_
    exact hn2 x1 (x2 + (1 : Int32)) w31_3 ls H locs hE hM (lv_sub hl [1, 2, 0] rfl)
theorem k_X2_moveWeights_2 {p : Program} {l : Launch} {e : Env} {s : State} {m : MethodId} {args : Array Value} {below : List Frame} {meth : Method} {c : Code} {D : va_G} {y : Nat → ClassId} {nn : Nat} {ad : Nat → Nat} {A0 : Nat → Prop} {I : Nat → Int32} {J : Nat → Int64} {A : Nat → Nat → Int32} {B : Nat → Nat → Int64} {G : Nat → Nat → Nat → Int32} (F : Fx p s m args meth c cX2_moveWeights 3 wsX2_moveWeights RX2 D y A0) (hr : meth.sig.returnType = none) {out : (Nat → Int32)} {N : Nat}  : ∀ (n : Nat), ∀ (x1 : Int32) (x2 : Int32) (a20' : Nat → Int32) (ls : Array Slot) (H : Heap) (locs : List Loc), lq3 (f_X2_moveWeights_2 N nn (I 0) (A 21) ) n x1 x2 a20' = some out → MM D y nn ad A0 s.heap I J (va_up A 20 a20') B G H locs → lv_has ls 3 [(0, .ref (ad 2)), (1, .int x1), (2, .int x2)] → W p l e ({ frames := 0, cells := 0, slots := 0, locals := 0 } : Room) s m args below meth c H locs 0 0 (MQ below (mQv D y nn ad A0 (I, J, (va_up A 20 out), B, G)) args s 0 0 A0) (F0 m 2 ls []) := by
  intro n
  induction n with
  | zero =>
    intro x1 x2 a20' ls H locs hE
    cases (show (none : Option _) = some out from hE)
  | succ n ih =>
    intro x1 x2 a20' ls H locs hE hM hl
    exact s_X2_moveWeights_2 F hr (N := N)  (lq3 (f_X2_moveWeights_2 N nn (I 0) (A 21) ) n) ih x1 x2 a20' ls H locs hE hM hl
set_option maxHeartbeats 4000000 in
set_option maxRecDepth 100000 in
theorem c_X2_moveWeights (l : Launch) (D : va_G) (y : Nat → ClassId) (nn : Nat) (ad : Nat → Nat) (sz : Nat) (I : Nat → Int32) (J : Nat → Int64) (A : Nat → Nat → Int32) (B : Nat → Nat → Int64) (G : Nat → Nat → Nat → Int32) (p1 : Int32) (N : Nat) (out : (Nat → Int32)) (hE : f_X2_moveWeights N nn (I 0) (A 21) (A 20) p1 = some out) : Met l yX2_moveWeights wsX2_moveWeights ({ frames := 0, cells := 0, slots := 0, locals := 0 } : Room) (mPc [.ref (ad 2), .int p1] D y nn ad sz I J A B G) (mQv D y nn ad (mA y nn ad I J A B G sz) (I, J, (va_up A 20 out), B, G)) 0 0 (mA y nn ad I J A B G sz) := by
  refine Met.ofW (cc := cX2_moveWeights) (maxL := 3) (ret := none) (by decide) rfl ?_
  intro p e s m args below meth c s₁ Bd hml hv
  obtain ⟨rfl, hsz, hP, hK, hD0, hN⟩ := hv
  have hr := Bd.returns
  subst hsz
  have F : Fx p s m ([.ref (ad 2), .int p1] : List Value).toArray meth c cX2_moveWeights 3 wsX2_moveWeights RX2 D y (mA y nn ad I J A B G s.heap.size) := ⟨⟨Bd.exec, Bd.bytes, hml, findClass_of_methodNamed Bd.named, atoms_spec (ws := wsX2_moveWeights) Bd.pre⟩, hK, hN, fun q h => Or.inr h, Bd.notSynchronized⟩
  have hM := m_start (s := s) rfl hP hD0
  have hM := m_mem (I2 := I) (J2 := J) (A2 := (va_up A 20 (A 20))) (B2 := B) (G2 := G) hM (by rfl) (by rfl) (by simp only [up_id]) (by rfl) (by rfl)
  have hx := F.1.1
  have hb := F.1.2.1
  have hl := lv_entry ([.ref (ad 2), .int p1]) (n := 3) (Nat.le_of_ble_eq_true rfl)
  rw [lg_entry_eq]
  generalize (lg_sl ([.ref (ad 2), .int p1]) ++ List.replicate (3 - (lg_sl ([.ref (ad 2), .int p1])).length) Slot.unset).toArray = ls at hl ⊢
  have hl : lv_has ls 3 [(0, .ref (ad 2)), (1, .int p1)] := hl
  show W p l e ({ frames := 0, cells := 0, slots := 0, locals := 0 } : Room) s m _ below meth c s.heap [] 0 0 _ _
  obtain ⟨locs, hlo⟩ : ∃ locs : List Loc, locs = [] := ⟨_, rfl⟩
  rw [← hlo]; rw [← hlo] at hM
  unfold f_X2_moveWeights at hE
  revert hM
  suffices hH : ∀ H : Heap, MM D y nn ad (mA y nn ad I J A B G s.heap.size) s.heap I J (va_up A 20 (A 20)) B G H locs → W p l e ({ frames := 0, cells := 0, slots := 0, locals := 0 } : Room) s m ([.ref (ad 2), .int p1] : List Value).toArray below meth c H locs 0 0 (MQ below (mQv D y nn ad (mA y nn ad I J A B G s.heap.size) (I, J, (va_up A 20 out), B, G)) ([.ref (ad 2), .int p1] : List Value).toArray s 0 0 (mA y nn ad I J A B G s.heap.size)) (F0 m 0 ls []) from hH s.heap
  intro H hM
  refine lv_iconst (v := 0) hx hb dX2_moveWeights_0 (by decide) ?_
  refine lv_istore_n (lv' := [(2, .int (0 : Int32)), (0, .ref (ad 2)), (1, .int p1)]) hx hb dX2_moveWeights_1 rfl hl (by decide) rfl (fun ls hl => ?_)
  exact k_X2_moveWeights_2 F hr (N := N)  N p1 (0 : Int32) (A 20) ls H locs hE hM (lv_sub hl [1, 2, 0] rfl)
/-! ===== X2_makeTree: reads I0 A20 G1, writes J0 A21 A22, frames 3, locals 68 ===== -/
def f_X2_makeTree_60 (N : Nat) (nn : Nat) (i0 : Int32) (a20 : Nat → Int32) (g1 : Nat → Nat → Int32)  (nx60 : Int32 → Int64 → (Nat → Int32) → (Nat → Int32) → Option (Int32 × Int64 × (Nat → Int32) × (Nat → Int32))) (x1 : Int32) (j0' : Int64) (a21' : Nat → Int32) (a22' : Nat → Int32) : Option (Int32 × Int64 × (Nat → Int32) × (Nat → Int32)) :=
(if i0 ≤ x1 then
bd (f_X2_cheapestFromPlace0 N nn i0 a20 g1 (-1 : Int32)) fun o88_0 =>
bd (f_X2_cheapestFromPlace0 N nn i0 a20 g1 o88_0) fun o94_1 =>
(if o88_0 = (-1 : Int32) then
bz (0 : Int32) (some ((0 : Int32), j0', a21', a22'))
else
(if o94_1 = (-1 : Int32) then
bz (0 : Int32) (some ((0 : Int32), j0', a21', a22'))
else
bd (f_X2_take nn a20 g1 j0' a21' (0 : Int32) o88_0) fun o113_2 =>
bd (f_X2_take nn a20 g1 o113_2.1 o113_2.2 (0 : Int32) o94_1) fun o119_3 =>
bz (1 : Int32) (some ((1 : Int32), o119_3.1, o119_3.2, a22'))))
else
bd (f_X2_joinTwoPieces N nn i0 a20 g1 j0' a21' a22') fun o72_4 =>
(if o72_4.1 = (0 : Int32) then
bz (0 : Int32) (some ((0 : Int32), o72_4.2.1, o72_4.2.2.1, o72_4.2.2.2))
else
nx60 (x1 + (1 : Int32)) o72_4.2.1 o72_4.2.2.1 o72_4.2.2.2))
def f_X2_makeTree_7 (N : Nat) (nn : Nat) (i0 : Int32) (a20 : Nat → Int32) (g1 : Nat → Nat → Int32)  (nx7 : Int32 → Int64 → (Nat → Int32) → (Nat → Int32) → Option (Int32 × Int64 × (Nat → Int32) × (Nat → Int32))) (x1 : Int32) (j0' : Int64) (a21' : Nat → Int32) (a22' : Nat → Int32) : Option (Int32 × Int64 × (Nat → Int32) × (Nat → Int32)) :=
(if i0 ≤ x1 then
lq4 (f_X2_makeTree_60 N nn i0 a20 g1 ) N (2 : Int32) j0' a21' a22'
else
ck x1 nn (
nmd (upd a21' x1.toNatClampNeg (0 : Int32)) fun w24_6 =>
ck x1 nn (
nmd (upd a22' x1.toNatClampNeg x1) fun w31_8 =>
ck x1 nn (
nmd ((j0' - ((2 : Int64) * ((a20 x1.toNatClampNeg).toInt64)))) fun v49_10 =>
nx7 (x1 + (1 : Int32)) v49_10 w24_6 w31_8))))
def f_X2_makeTree (N : Nat) (nn : Nat) (i0 : Int32) (a20 : Nat → Int32) (g1 : Nat → Nat → Int32) (j0 : Int64) (a21 : Nat → Int32) (a22 : Nat → Int32)  : Option (Int32 × Int64 × (Nat → Int32) × (Nat → Int32)) :=
lq4 (f_X2_makeTree_7 N nn i0 a20 g1 ) N (0 : Int32) (0 : Int64) a21 a22
set_option maxHeartbeats 4000000 in
set_option maxRecDepth 100000 in
theorem s_X2_makeTree_60 {p : Program} {l : Launch} {e : Env} {s : State} {m : MethodId} {args : Array Value} {below : List Frame} {meth : Method} {c : Code} {D : va_G} {y : Nat → ClassId} {nn : Nat} {ad : Nat → Nat} {A0 : Nat → Prop} {I : Nat → Int32} {J : Nat → Int64} {A : Nat → Nat → Int32} {B : Nat → Nat → Int64} {G : Nat → Nat → Nat → Int32} (F : Fx p s m args meth c cX2_makeTree 3 wsX2_makeTree RX2 D y A0) (hr : meth.sig.returnType = (some .boolean)) {out : Int32 × Int64 × (Nat → Int32) × (Nat → Int32)} {N : Nat}  (nx60 : Int32 → Int64 → (Nat → Int32) → (Nat → Int32) → Option (Int32 × Int64 × (Nat → Int32) × (Nat → Int32))) (hn60 : ∀ (x1 : Int32) (j0' : Int64) (a21' : Nat → Int32) (a22' : Nat → Int32) (ls : Array Slot) (H : Heap) (locs : List Loc), nx60 x1 j0' a21' a22' = some out → MM D y nn ad A0 s.heap I (va_up J 0 j0') (va_up (va_up A 21 a21') 22 a22') B G H locs → lv_has ls 3 [(0, .ref (ad 2)), (1, .int x1)] → W p l e ({ frames := 3, cells := 0, slots := 0, locals := 68 } : Room) s m args below meth c H locs 0 0 (MQ below (mQi D y nn ad A0 out.1 (I, (va_up J 0 out.2.1), (va_up (va_up A 21 out.2.2.1) 22 out.2.2.2), B, G)) args s 0 0 A0) (F0 m 60 ls [])) : ∀ (x1 : Int32) (j0' : Int64) (a21' : Nat → Int32) (a22' : Nat → Int32) (ls : Array Slot) (H : Heap) (locs : List Loc), f_X2_makeTree_60 N nn (I 0) (A 20) (G 1)  nx60 x1 j0' a21' a22' = some out → MM D y nn ad A0 s.heap I (va_up J 0 j0') (va_up (va_up A 21 a21') 22 a22') B G H locs → lv_has ls 3 [(0, .ref (ad 2)), (1, .int x1)] → W p l e ({ frames := 3, cells := 0, slots := 0, locals := 68 } : Room) s m args below meth c H locs 0 0 (MQ below (mQi D y nn ad A0 out.1 (I, (va_up J 0 out.2.1), (va_up (va_up A 21 out.2.2.1) 22 out.2.2.2), B, G)) args s 0 0 A0) (F0 m 60 ls []) := by
  intro x1 j0' a21' a22' ls H locs hE hM hl
  have hx := F.1.1
  have hb := F.1.2.1
  unfold f_X2_makeTree_60 at hE
  refine lv_iload_n hx hb dX2_makeTree_60 rfl (lv_at hl 1 rfl) ?_
  refine lv_aload_n hx hb dX2_makeTree_61 rfl (lv_at hl 0 rfl) ?_
  refine m_get F hM 2 mg_2 rfl 0 (by decide) (by decide +kernel) (by decide +kernel) (v := .ref (ad 1)) rfl dX2_makeTree_62 ?_
  refine m_getN F hM 1 mg_1 rfl 0 (by decide) (by decide +kernel) (by decide +kernel) (v := .int (I 0)) rfl dX2_makeTree_65 ?_
  refine lv_icmp_ge (tgt := 86) hx hb dX2_makeTree_68 (by decide) (fun c68 => ?_) (fun c68 => ?_)
  · replace hE := (if_pos c68).symm.trans hE
    refine lv_aload_n hx hb dX2_makeTree_86 rfl (lv_at hl 0 rfl) ?_
    refine lv_iconst (v := (-1)) hx hb dX2_makeTree_87 (by decide) ?_
    obtain ⟨o88_0, ho88_0, hE⟩ := bd_some hE
    refine m_callVi (As := [.int (-1 : Int32)]) (I2 := I) (J2 := (va_up J 0 j0')) (A2 := (va_up (va_up A 21 a21') 22 a22')) (B2 := B) (G2 := G) F hM (c_X2_cheapestFromPlace0 l D y nn ad H.size I (va_up J 0 j0') (va_up (va_up A 21 a21') 22 a22') B G (-1 : Int32) N o88_0 ho88_0) (cwV 1 F.1.2.2.2.2 gX2_makeTree_X2_cheapestFromPlace0 rfl rfl rfl (by decide +kernel) ⟨Nat.le_of_ble_eq_true rfl, Nat.le_of_ble_eq_true rfl⟩) (m_recv F hM mg_2 rfl) rfl hl.1 (Nat.le_of_ble_eq_true rfl) dX2_makeTree_88 ⟨Nat.le_refl 0, Nat.le_refl 0⟩ rfl rfl rfl rfl rfl (fun H locs hM => ?_)
    refine lv_istore_n (lv' := [(1, .int o88_0), (0, .ref (ad 2))]) hx hb dX2_makeTree_91 rfl hl (by decide) rfl (fun ls hl => ?_)
    refine lv_aload_n hx hb dX2_makeTree_92 rfl (lv_at hl 1 rfl) ?_
    refine lv_iload_n hx hb dX2_makeTree_93 rfl (lv_at hl 0 rfl) ?_
    obtain ⟨o94_1, ho94_1, hE⟩ := bd_some hE
    refine m_callVi (As := [.int o88_0]) (I2 := I) (J2 := (va_up J 0 j0')) (A2 := (va_up (va_up A 21 a21') 22 a22')) (B2 := B) (G2 := G) F hM (c_X2_cheapestFromPlace0 l D y nn ad H.size I (va_up J 0 j0') (va_up (va_up A 21 a21') 22 a22') B G o88_0 N o94_1 ho94_1) (cwV 1 F.1.2.2.2.2 gX2_makeTree_X2_cheapestFromPlace0 rfl rfl rfl (by decide +kernel) ⟨Nat.le_of_ble_eq_true rfl, Nat.le_of_ble_eq_true rfl⟩) (m_recv F hM mg_2 rfl) rfl hl.1 (Nat.le_of_ble_eq_true rfl) dX2_makeTree_94 ⟨Nat.le_refl 0, Nat.le_refl 0⟩ rfl rfl rfl rfl rfl (fun H locs hM => ?_)
    refine lv_istore_n (lv' := [(2, .int o94_1), (1, .int o88_0), (0, .ref (ad 2))]) hx hb dX2_makeTree_97 rfl hl (by decide) rfl (fun ls hl => ?_)
    refine lv_iload_n hx hb dX2_makeTree_98 rfl (lv_at hl 1 rfl) ?_
    refine lv_iconst (v := (-1)) hx hb dX2_makeTree_99 (by decide) ?_
    refine lv_icmp_eq (tgt := 108) hx hb dX2_makeTree_100 (by decide) (fun c100 => ?_) (fun c100 => ?_)
    · replace hE := (if_pos c100).symm.trans hE
      refine lv_iconst (v := 0) hx hb dX2_makeTree_108 (by decide) ?_
      obtain ⟨hz, hE⟩ := bz_some hE
      obtain rfl := Option.some.inj hE
      exact m_zret F hM hr hz rfl rfl dX2_makeTree_109
    · replace hE := (if_neg c100).symm.trans hE
      refine lv_iload_n hx hb dX2_makeTree_103 rfl (lv_at hl 0 rfl) ?_
      refine lv_iconst (v := (-1)) hx hb dX2_makeTree_104 (by decide) ?_
      refine lv_icmp_ne (tgt := 110) hx hb dX2_makeTree_105 (by decide) (fun c105 => ?_) (fun c105 => ?_)
      · replace hE := (if_neg c105).symm.trans hE
        refine lv_aload_n hx hb dX2_makeTree_110 rfl (lv_at hl 2 rfl) ?_
        refine lv_iconst (v := 0) hx hb dX2_makeTree_111 (by decide) ?_
        refine lv_iload_n hx hb dX2_makeTree_112 rfl (lv_at hl 1 rfl) ?_
        obtain ⟨o113_2, ho113_2, hE⟩ := bd_some hE
        refine m_callVv (As := [.int (0 : Int32), .int o88_0]) (I2 := I) (J2 := (va_up J 0 o113_2.1)) (A2 := (va_up (va_up A 21 o113_2.2) 22 a22')) (B2 := B) (G2 := G) F hM (c_X2_take l D y nn ad H.size I (va_up J 0 j0') (va_up (va_up A 21 a21') 22 a22') B G (0 : Int32) o88_0  o113_2 ho113_2) (cwV 2 F.1.2.2.2.2 gX2_makeTree_X2_take rfl rfl rfl (by decide +kernel) ⟨Nat.le_of_ble_eq_true rfl, Nat.le_of_ble_eq_true rfl⟩) (m_recv F hM mg_2 rfl) rfl hl.1 (Nat.le_of_ble_eq_true rfl) dX2_makeTree_113 ⟨Nat.le_refl 0, Nat.le_refl 0⟩ rfl (bx_uu _ _ _ _) un_21_22__21 rfl rfl (fun H locs hM => ?_)
        refine lv_aload_n hx hb dX2_makeTree_116 rfl (lv_at hl 2 rfl) ?_
        refine lv_iconst (v := 0) hx hb dX2_makeTree_117 (by decide) ?_
        refine lv_iload_n hx hb dX2_makeTree_118 rfl (lv_at hl 0 rfl) ?_
        obtain ⟨o119_3, ho119_3, hE⟩ := bd_some hE
        refine m_callVv (As := [.int (0 : Int32), .int o94_1]) (I2 := I) (J2 := (va_up J 0 o119_3.1)) (A2 := (va_up (va_up A 21 o119_3.2) 22 a22')) (B2 := B) (G2 := G) F hM (c_X2_take l D y nn ad H.size I (va_up J 0 o113_2.1) (va_up (va_up A 21 o113_2.2) 22 a22') B G (0 : Int32) o94_1  o119_3 ho119_3) (cwV 2 F.1.2.2.2.2 gX2_makeTree_X2_take rfl rfl rfl (by decide +kernel) ⟨Nat.le_of_ble_eq_true rfl, Nat.le_of_ble_eq_true rfl⟩) (m_recv F hM mg_2 rfl) rfl hl.1 (Nat.le_of_ble_eq_true rfl) dX2_makeTree_119 ⟨Nat.le_refl 0, Nat.le_refl 0⟩ rfl (bx_uu _ _ _ _) un_21_22__21 rfl rfl (fun H locs hM => ?_)
        refine lv_iconst (v := 1) hx hb dX2_makeTree_122 (by decide) ?_
        obtain ⟨hz, hE⟩ := bz_some hE
        obtain rfl := Option.some.inj hE
        exact m_zret F hM hr hz rfl rfl dX2_makeTree_123
      · replace hE := (if_pos c105).symm.trans hE
        refine lv_iconst (v := 0) hx hb dX2_makeTree_108 (by decide) ?_
        obtain ⟨hz, hE⟩ := bz_some hE
        obtain rfl := Option.some.inj hE
        exact m_zret F hM hr hz rfl rfl dX2_makeTree_109
  · replace hE := (if_neg c68).symm.trans hE
    refine lv_aload_n hx hb dX2_makeTree_71 rfl (lv_at hl 0 rfl) ?_
    obtain ⟨o72_4, ho72_4, hE⟩ := bd_some hE
    refine m_callVi (As := []) (I2 := I) (J2 := (va_up J 0 o72_4.2.1)) (A2 := (va_up (va_up A 21 o72_4.2.2.1) 22 o72_4.2.2.2)) (B2 := B) (G2 := G) F hM (c_X2_joinTwoPieces l D y nn ad H.size I (va_up J 0 j0') (va_up (va_up A 21 a21') 22 a22') B G  N o72_4 ho72_4) (cwV 0 F.1.2.2.2.2 gX2_makeTree_X2_joinTwoPieces rfl rfl rfl (by decide +kernel) ⟨Nat.le_of_ble_eq_true rfl, Nat.le_of_ble_eq_true rfl⟩) (m_recv F hM mg_2 rfl) rfl hl.1 (Nat.le_of_ble_eq_true rfl) dX2_makeTree_72 ⟨Nat.le_refl 0, Nat.le_refl 0⟩ rfl (bx_uu _ _ _ _) un_21_22__21_22 rfl rfl (fun H locs hM => ?_)
    refine lv_if_ne (tgt := 80) hx hb dX2_makeTree_75 (by decide) (fun c75 => ?_) (fun c75 => ?_)
    · replace hE := (if_neg c75).symm.trans hE
      refine lv_iinc (v := x1 + (1 : Int32)) (lv' := [(1, .int (x1 + (1 : Int32))), (0, .ref (ad 2))]) hx hb dX2_makeTree_80 hl (k := 1) rfl rfl (by decide) rfl (fun ls hl => ?_)
      refine lv_goto (tgt := 60) hx hb dX2_makeTree_83 (by decide) ?_
      exact hn60 (x1 + (1 : Int32)) o72_4.2.1 o72_4.2.2.1 o72_4.2.2.2 ls H locs hE hM (lv_sub hl [1, 0] rfl)
    · replace hE := (if_pos c75).symm.trans hE
      refine lv_iconst (v := 0) hx hb dX2_makeTree_78 (by decide) ?_
      obtain ⟨hz, hE⟩ := bz_some hE
      obtain rfl := Option.some.inj hE
      exact m_zret F hM hr hz rfl rfl dX2_makeTree_79
theorem k_X2_makeTree_60 {p : Program} {l : Launch} {e : Env} {s : State} {m : MethodId} {args : Array Value} {below : List Frame} {meth : Method} {c : Code} {D : va_G} {y : Nat → ClassId} {nn : Nat} {ad : Nat → Nat} {A0 : Nat → Prop} {I : Nat → Int32} {J : Nat → Int64} {A : Nat → Nat → Int32} {B : Nat → Nat → Int64} {G : Nat → Nat → Nat → Int32} (F : Fx p s m args meth c cX2_makeTree 3 wsX2_makeTree RX2 D y A0) (hr : meth.sig.returnType = (some .boolean)) {out : Int32 × Int64 × (Nat → Int32) × (Nat → Int32)} {N : Nat}  : ∀ (n : Nat), ∀ (x1 : Int32) (j0' : Int64) (a21' : Nat → Int32) (a22' : Nat → Int32) (ls : Array Slot) (H : Heap) (locs : List Loc), lq4 (f_X2_makeTree_60 N nn (I 0) (A 20) (G 1) ) n x1 j0' a21' a22' = some out → MM D y nn ad A0 s.heap I (va_up J 0 j0') (va_up (va_up A 21 a21') 22 a22') B G H locs → lv_has ls 3 [(0, .ref (ad 2)), (1, .int x1)] → W p l e ({ frames := 3, cells := 0, slots := 0, locals := 68 } : Room) s m args below meth c H locs 0 0 (MQ below (mQi D y nn ad A0 out.1 (I, (va_up J 0 out.2.1), (va_up (va_up A 21 out.2.2.1) 22 out.2.2.2), B, G)) args s 0 0 A0) (F0 m 60 ls []) := by
  intro n
  induction n with
  | zero =>
    intro x1 j0' a21' a22' ls H locs hE
    cases (show (none : Option _) = some out from hE)
  | succ n ih =>
    intro x1 j0' a21' a22' ls H locs hE hM hl
    exact s_X2_makeTree_60 F hr (N := N)  (lq4 (f_X2_makeTree_60 N nn (I 0) (A 20) (G 1) ) n) ih x1 j0' a21' a22' ls H locs hE hM hl
set_option maxHeartbeats 4000000 in
set_option maxRecDepth 100000 in
theorem s_X2_makeTree_7 {p : Program} {l : Launch} {e : Env} {s : State} {m : MethodId} {args : Array Value} {below : List Frame} {meth : Method} {c : Code} {D : va_G} {y : Nat → ClassId} {nn : Nat} {ad : Nat → Nat} {A0 : Nat → Prop} {I : Nat → Int32} {J : Nat → Int64} {A : Nat → Nat → Int32} {B : Nat → Nat → Int64} {G : Nat → Nat → Nat → Int32} (F : Fx p s m args meth c cX2_makeTree 3 wsX2_makeTree RX2 D y A0) (hr : meth.sig.returnType = (some .boolean)) {out : Int32 × Int64 × (Nat → Int32) × (Nat → Int32)} {N : Nat}  (nx7 : Int32 → Int64 → (Nat → Int32) → (Nat → Int32) → Option (Int32 × Int64 × (Nat → Int32) × (Nat → Int32))) (hn7 : ∀ (x1 : Int32) (j0' : Int64) (a21' : Nat → Int32) (a22' : Nat → Int32) (ls : Array Slot) (H : Heap) (locs : List Loc), nx7 x1 j0' a21' a22' = some out → MM D y nn ad A0 s.heap I (va_up J 0 j0') (va_up (va_up A 21 a21') 22 a22') B G H locs → lv_has ls 3 [(0, .ref (ad 2)), (1, .int x1)] → W p l e ({ frames := 3, cells := 0, slots := 0, locals := 68 } : Room) s m args below meth c H locs 0 0 (MQ below (mQi D y nn ad A0 out.1 (I, (va_up J 0 out.2.1), (va_up (va_up A 21 out.2.2.1) 22 out.2.2.2), B, G)) args s 0 0 A0) (F0 m 7 ls [])) : ∀ (x1 : Int32) (j0' : Int64) (a21' : Nat → Int32) (a22' : Nat → Int32) (ls : Array Slot) (H : Heap) (locs : List Loc), f_X2_makeTree_7 N nn (I 0) (A 20) (G 1)  nx7 x1 j0' a21' a22' = some out → MM D y nn ad A0 s.heap I (va_up J 0 j0') (va_up (va_up A 21 a21') 22 a22') B G H locs → lv_has ls 3 [(0, .ref (ad 2)), (1, .int x1)] → W p l e ({ frames := 3, cells := 0, slots := 0, locals := 68 } : Room) s m args below meth c H locs 0 0 (MQ below (mQi D y nn ad A0 out.1 (I, (va_up J 0 out.2.1), (va_up (va_up A 21 out.2.2.1) 22 out.2.2.2), B, G)) args s 0 0 A0) (F0 m 7 ls []) := by
  intro x1 j0' a21' a22' ls H locs hE hM hl
  have hx := F.1.1
  have hb := F.1.2.1
  unfold f_X2_makeTree_7 at hE
  refine lv_iload_n hx hb dX2_makeTree_7 rfl (lv_at hl 1 rfl) ?_
  refine lv_aload_n hx hb dX2_makeTree_8 rfl (lv_at hl 0 rfl) ?_
  refine m_get F hM 2 mg_2 rfl 0 (by decide) (by decide +kernel) (by decide +kernel) (v := .ref (ad 1)) rfl dX2_makeTree_9 ?_
  refine m_getN F hM 1 mg_1 rfl 0 (by decide) (by decide +kernel) (by decide +kernel) (v := .int (I 0)) rfl dX2_makeTree_12 ?_
  refine lv_icmp_ge (tgt := 58) hx hb dX2_makeTree_15 (by decide) (fun c15 => ?_) (fun c15 => ?_)
  · replace hE := (if_pos c15).symm.trans hE
    refine lv_iconst (v := 2) hx hb dX2_makeTree_58 (by decide) ?_
    refine lv_istore_n (lv' := [(1, .int (2 : Int32)), (0, .ref (ad 2))]) hx hb dX2_makeTree_59 rfl hl (by decide) rfl (fun ls hl => ?_)
    exact k_X2_makeTree_60 F hr (N := N)  N (2 : Int32) j0' a21' a22' ls H locs hE hM (lv_sub hl [1, 0] rfl)
  · replace hE := (if_neg c15).symm.trans hE
    refine lv_aload_n hx hb dX2_makeTree_18 rfl (lv_at hl 0 rfl) ?_
    refine m_get F hM 2 mg_2 rfl 2 (by decide) (by decide +kernel) (by decide +kernel) (v := .ref (ad 21)) rfl dX2_makeTree_19 ?_
    refine lv_iload_n hx hb dX2_makeTree_22 rfl (lv_at hl 1 rfl) ?_
    refine lv_iconst (v := 0) hx hb dX2_makeTree_23 (by decide) ?_
    obtain ⟨hi24_5, hE⟩ := ck_some hE
    obtain ⟨w24_6, ew24_6, hE⟩ := nmd_some hE
    refine m_iast (f := a21') (A' := (va_up (va_up A 21 w24_6) 22 a22')) F hM mg_21 ms_21 (by rw [ew24_6]; exact un_21_22__21) hi24_5 dX2_makeTree_24 (fun H locs hM => ?_)
    refine lv_aload_n hx hb dX2_makeTree_25 rfl (lv_at hl 0 rfl) ?_
    refine m_get F hM 2 mg_2 rfl 3 (by decide) (by decide +kernel) (by decide +kernel) (v := .ref (ad 22)) rfl dX2_makeTree_26 ?_
    refine lv_iload_n hx hb dX2_makeTree_29 rfl (lv_at hl 1 rfl) ?_
    refine lv_iload_n hx hb dX2_makeTree_30 rfl (lv_at hl 1 rfl) ?_
    obtain ⟨hi31_7, hE⟩ := ck_some hE
    obtain ⟨w31_8, ew31_8, hE⟩ := nmd_some hE
    refine m_iast (f := a22') (A' := (va_up (va_up A 21 w24_6) 22 w31_8)) F hM mg_22 ms_22 (by rw [ew31_8]; exact un_21_22__22) hi31_7 dX2_makeTree_31 (fun H locs hM => ?_)
    refine lv_aload_n hx hb dX2_makeTree_32 rfl (lv_at hl 0 rfl) ?_
    refine lv_dup hx hb dX2_makeTree_33 rfl ?_
    refine m_get F hM 2 mg_2 rfl 4 (by decide) (by decide +kernel) (by decide +kernel) (v := .long j0') rfl dX2_makeTree_34 ?_
    refine lv_ldc2 (v := (2)) hx hb F.1.2.2.2.1 (F.1.2.2.2.2 (.constantLong RX2 58 (2)) (by decide +kernel)) dX2_makeTree_37 ?_
    refine lv_aload_n hx hb dX2_makeTree_40 rfl (lv_at hl 0 rfl) ?_
    refine m_get F hM 2 mg_2 rfl 1 (by decide) (by decide +kernel) (by decide +kernel) (v := .ref (ad 20)) rfl dX2_makeTree_41 ?_
    refine lv_iload_n hx hb dX2_makeTree_44 rfl (lv_at hl 1 rfl) ?_
    obtain ⟨hi45_9, hE⟩ := ck_some hE
    refine m_iald (g := (A 20)) F hM mg_20 rfl hi45_9 dX2_makeTree_45 ?_
    refine lv_i2l hx hb dX2_makeTree_46 rfl ?_
    refine lv_lmul hx hb dX2_makeTree_47 ?_
    refine lv_lsub hx hb dX2_makeTree_48 ?_
    obtain ⟨v49_10, ev49_10, hE⟩ := nmd_some hE
    refine m_topl ev49_10 ?_
    refine m_put F hM 2 mg_2 rfl tyX2 tyX2_ok nmX2 4 (by decide) (by decide +kernel) (by decide +kernel) rfl (ty := .long) (v := .long v49_10) (by decide +kernel) rfl rfl (Nat.le_of_ble_eq_true rfl) (ms_2_4 _) rfl  (bx_uu _ _ _ _) dX2_makeTree_49 (fun H locs hM => ?_)
    refine lv_iinc (v := x1 + (1 : Int32)) (lv' := [(1, .int (x1 + (1 : Int32))), (0, .ref (ad 2))]) hx hb dX2_makeTree_52 hl (k := 1) rfl rfl (by decide) rfl (fun ls hl => ?_)
    refine lv_goto (tgt := 7) hx hb dX2_makeTree_55 (by decide) ?_
    exact hn7 (x1 + (1 : Int32)) v49_10 w24_6 w31_8 ls H locs hE hM (lv_sub hl [1, 0] rfl)
theorem k_X2_makeTree_7 {p : Program} {l : Launch} {e : Env} {s : State} {m : MethodId} {args : Array Value} {below : List Frame} {meth : Method} {c : Code} {D : va_G} {y : Nat → ClassId} {nn : Nat} {ad : Nat → Nat} {A0 : Nat → Prop} {I : Nat → Int32} {J : Nat → Int64} {A : Nat → Nat → Int32} {B : Nat → Nat → Int64} {G : Nat → Nat → Nat → Int32} (F : Fx p s m args meth c cX2_makeTree 3 wsX2_makeTree RX2 D y A0) (hr : meth.sig.returnType = (some .boolean)) {out : Int32 × Int64 × (Nat → Int32) × (Nat → Int32)} {N : Nat}  : ∀ (n : Nat), ∀ (x1 : Int32) (j0' : Int64) (a21' : Nat → Int32) (a22' : Nat → Int32) (ls : Array Slot) (H : Heap) (locs : List Loc), lq4 (f_X2_makeTree_7 N nn (I 0) (A 20) (G 1) ) n x1 j0' a21' a22' = some out → MM D y nn ad A0 s.heap I (va_up J 0 j0') (va_up (va_up A 21 a21') 22 a22') B G H locs → lv_has ls 3 [(0, .ref (ad 2)), (1, .int x1)] → W p l e ({ frames := 3, cells := 0, slots := 0, locals := 68 } : Room) s m args below meth c H locs 0 0 (MQ below (mQi D y nn ad A0 out.1 (I, (va_up J 0 out.2.1), (va_up (va_up A 21 out.2.2.1) 22 out.2.2.2), B, G)) args s 0 0 A0) (F0 m 7 ls []) := by
  intro n
  induction n with
  | zero =>
    intro x1 j0' a21' a22' ls H locs hE
    cases (show (none : Option _) = some out from hE)
  | succ n ih =>
    intro x1 j0' a21' a22' ls H locs hE hM hl
    exact s_X2_makeTree_7 F hr (N := N)  (lq4 (f_X2_makeTree_7 N nn (I 0) (A 20) (G 1) ) n) ih x1 j0' a21' a22' ls H locs hE hM hl
set_option maxHeartbeats 4000000 in
set_option maxRecDepth 100000 in
theorem c_X2_makeTree (l : Launch) (D : va_G) (y : Nat → ClassId) (nn : Nat) (ad : Nat → Nat) (sz : Nat) (I : Nat → Int32) (J : Nat → Int64) (A : Nat → Nat → Int32) (B : Nat → Nat → Int64) (G : Nat → Nat → Nat → Int32)  (N : Nat) (out : Int32 × Int64 × (Nat → Int32) × (Nat → Int32)) (hE : f_X2_makeTree N nn (I 0) (A 20) (G 1) (J 0) (A 21) (A 22)  = some out) : Met l yX2_makeTree wsX2_makeTree ({ frames := 3, cells := 0, slots := 0, locals := 68 } : Room) (mPc [.ref (ad 2)] D y nn ad sz I J A B G) (mQi D y nn ad (mA y nn ad I J A B G sz) out.1 (I, (va_up J 0 out.2.1), (va_up (va_up A 21 out.2.2.1) 22 out.2.2.2), B, G)) 0 0 (mA y nn ad I J A B G sz) := by
  refine Met.ofW (cc := cX2_makeTree) (maxL := 3) (ret := (some .boolean)) (by decide) rfl ?_
  intro p e s m args below meth c s₁ Bd hml hv
  obtain ⟨rfl, hsz, hP, hK, hD0, hN⟩ := hv
  have hr := Bd.returns
  subst hsz
  have F : Fx p s m ([.ref (ad 2)] : List Value).toArray meth c cX2_makeTree 3 wsX2_makeTree RX2 D y (mA y nn ad I J A B G s.heap.size) := ⟨⟨Bd.exec, Bd.bytes, hml, findClass_of_methodNamed Bd.named, atoms_spec (ws := wsX2_makeTree) Bd.pre⟩, hK, hN, fun q h => Or.inr h, Bd.notSynchronized⟩
  have hM := m_start (s := s) rfl hP hD0
  have hM := m_mem (I2 := I) (J2 := (va_up J 0 (J 0))) (A2 := (va_up (va_up A 21 (A 21)) 22 (A 22))) (B2 := B) (G2 := G) hM (by rfl) (by simp only [up_id]) (by simp only [up_id]) (by rfl) (by rfl)
  have hx := F.1.1
  have hb := F.1.2.1
  have hl := lv_entry ([.ref (ad 2)]) (n := 3) (Nat.le_of_ble_eq_true rfl)
  rw [lg_entry_eq]
  generalize (lg_sl ([.ref (ad 2)]) ++ List.replicate (3 - (lg_sl ([.ref (ad 2)])).length) Slot.unset).toArray = ls at hl ⊢
  have hl : lv_has ls 3 [(0, .ref (ad 2))] := hl
  show W p l e ({ frames := 3, cells := 0, slots := 0, locals := 68 } : Room) s m _ below meth c s.heap [] 0 0 _ _
  obtain ⟨locs, hlo⟩ : ∃ locs : List Loc, locs = [] := ⟨_, rfl⟩
  rw [← hlo]; rw [← hlo] at hM
  unfold f_X2_makeTree at hE
  revert hM
  suffices hH : ∀ H : Heap, MM D y nn ad (mA y nn ad I J A B G s.heap.size) s.heap I (va_up J 0 (J 0)) (va_up (va_up A 21 (A 21)) 22 (A 22)) B G H locs → W p l e ({ frames := 3, cells := 0, slots := 0, locals := 68 } : Room) s m ([.ref (ad 2)] : List Value).toArray below meth c H locs 0 0 (MQ below (mQi D y nn ad (mA y nn ad I J A B G s.heap.size) out.1 (I, (va_up J 0 out.2.1), (va_up (va_up A 21 out.2.2.1) 22 out.2.2.2), B, G)) ([.ref (ad 2)] : List Value).toArray s 0 0 (mA y nn ad I J A B G s.heap.size)) (F0 m 0 ls []) from hH s.heap
  intro H hM
  refine lv_aload_n hx hb dX2_makeTree_0 rfl (lv_at hl 0 rfl) ?_
  refine lv_lconst (v := 0) hx hb dX2_makeTree_1 (by decide) ?_
  refine m_put F hM 2 mg_2 rfl tyX2 tyX2_ok nmX2 4 (by decide) (by decide +kernel) (by decide +kernel) rfl (ty := .long) (v := .long (0 : Int64)) (by decide +kernel) rfl rfl (Nat.le_of_ble_eq_true rfl) (ms_2_4 _) rfl  (bx_uu _ _ _ _) dX2_makeTree_2 (fun H locs hM => ?_)
  refine lv_iconst (v := 0) hx hb dX2_makeTree_5 (by decide) ?_
  refine lv_istore_n (lv' := [(1, .int (0 : Int32)), (0, .ref (ad 2))]) hx hb dX2_makeTree_6 rfl hl (by decide) rfl (fun ls hl => ?_)
  exact k_X2_makeTree_7 F hr (N := N)  N (0 : Int32) (0 : Int64) (A 21) (A 22) ls H locs hE hM (lv_sub hl [1, 0] rfl)
/-! ===== X2_bound: reads I0 G1, writes I1 J0 A20 A21 A22, frames 4, locals 90 ===== -/
def f_X2_bound_51 (N : Nat) (nn : Nat) (i0 : Int32) (g1 : Nat → Nat → Int32) (nx18 : Int32 → Int64 → Int32 → Int32 → Int64 → (Nat → Int32) → (Nat → Int32) → (Nat → Int32) → Option (Int64 × Int32 × Int64 × (Nat → Int32) × (Nat → Int32) × (Nat → Int32))) (x1 : Int32) (x4 : Int32) (i1' : Int32) (j0' : Int64) (a20' : Nat → Int32) (a21' : Nat → Int32) (a22' : Nat → Int32) : Option (Int64 × Int32 × Int64 × (Nat → Int32) × (Nat → Int32) × (Nat → Int32)) :=
bd (f_X2_stepOf x4) fun o65_3 =>
bd (f_X2_moveWeights N nn i0 a21' a20' o65_3) fun o68_4 =>
nx18 x1 j0' (x4 + (1 : Int32)) x4 j0' o68_4 a21' a22'
def f_X2_bound_18 (N : Nat) (nn : Nat) (i0 : Int32) (g1 : Nat → Nat → Int32)  (nx18 : Int32 → Int64 → Int32 → Int32 → Int64 → (Nat → Int32) → (Nat → Int32) → (Nat → Int32) → Option (Int64 × Int32 × Int64 × (Nat → Int32) × (Nat → Int32) × (Nat → Int32))) (x1 : Int32) (x2 : Int64) (x4 : Int32) (i1' : Int32) (j0' : Int64) (a20' : Nat → Int32) (a21' : Nat → Int32) (a22' : Nat → Int32) : Option (Int64 × Int32 × Int64 × (Nat → Int32) × (Nat → Int32) × (Nat → Int32)) :=
(if x1 < x4 then
(if (0 : Int64) ≤ x2 then
dvl (2 : Int64) (
some (((x2 + (1 : Int64)) / (2 : Int64)), i1', j0', a20', a21', a22'))
else
some ((0 : Int64), i1', j0', a20', a21', a22'))
else
bd (f_X2_makeTree N nn i0 a20' g1 j0' a21' a22') fun o25_2 =>
(if o25_2.1 = (0 : Int32) then
some ((-1 : Int64), i1', o25_2.2.1, a20', o25_2.2.2.1, o25_2.2.2.2)
else
(if i1' = (0 : Int32) then
f_X2_bound_51 N nn i0 g1 nx18 x1 x4 i1' o25_2.2.1 a20' o25_2.2.2.1 o25_2.2.2.2
else
(if o25_2.2.1 ≤ x2 then
bd (f_X2_stepOf x4) fun o65_5 =>
bd (f_X2_moveWeights N nn i0 o25_2.2.2.1 a20' o65_5) fun o68_6 =>
nx18 x1 x2 (x4 + (1 : Int32)) i1' o25_2.2.1 o68_6 o25_2.2.2.1 o25_2.2.2.2
else
f_X2_bound_51 N nn i0 g1 nx18 x1 x4 i1' o25_2.2.1 a20' o25_2.2.2.1 o25_2.2.2.2))))
def f_X2_bound (N : Nat) (nn : Nat) (i0 : Int32) (g1 : Nat → Nat → Int32) (i1 : Int32) (j0 : Int64) (a20 : Nat → Int32) (a21 : Nat → Int32) (a22 : Nat → Int32) (p1 : Int32) : Option (Int64 × Int32 × Int64 × (Nat → Int32) × (Nat → Int32) × (Nat → Int32)) :=
fck nn (
nmd (fil nn (0 : Int32) a20) fun w5_0 =>
lq8 (f_X2_bound_18 N nn i0 g1 ) N p1 (0 : Int64) (1 : Int32) (0 : Int32) j0 w5_0 a21 a22)
set_option maxHeartbeats 4000000 in
set_option maxRecDepth 100000 in
theorem s_X2_bound_51 {p : Program} {l : Launch} {e : Env} {s : State} {m : MethodId} {args : Array Value} {below : List Frame} {meth : Method} {c : Code} {D : va_G} {y : Nat → ClassId} {nn : Nat} {ad : Nat → Nat} {A0 : Nat → Prop} {I : Nat → Int32} {J : Nat → Int64} {A : Nat → Nat → Int32} {B : Nat → Nat → Int64} {G : Nat → Nat → Nat → Int32} (F : Fx p s m args meth c cX2_bound 5 wsX2_bound RX2 D y A0) (hr : meth.sig.returnType = (some .long)) {out : Int64 × Int32 × Int64 × (Nat → Int32) × (Nat → Int32) × (Nat → Int32)} {N : Nat} (nx18 : Int32 → Int64 → Int32 → Int32 → Int64 → (Nat → Int32) → (Nat → Int32) → (Nat → Int32) → Option (Int64 × Int32 × Int64 × (Nat → Int32) × (Nat → Int32) × (Nat → Int32))) (hn18 : ∀ (x1 : Int32) (x2 : Int64) (x4 : Int32) (i1' : Int32) (j0' : Int64) (a20' : Nat → Int32) (a21' : Nat → Int32) (a22' : Nat → Int32) (ls : Array Slot) (H : Heap) (locs : List Loc), nx18 x1 x2 x4 i1' j0' a20' a21' a22' = some out → MM D y nn ad A0 s.heap (va_up I 1 i1') (va_up J 0 j0') (va_up (va_up (va_up A 20 a20') 21 a21') 22 a22') B G H locs → lv_has ls 5 [(0, .ref (ad 2)), (1, .int x1), (2, .long x2), (4, .int x4)] → W p l e ({ frames := 4, cells := 0, slots := 0, locals := 90 } : Room) s m args below meth c H locs 0 0 (MQ below (mQl D y nn ad A0 out.1 ((va_up I 1 out.2.1), (va_up J 0 out.2.2.1), (va_up (va_up (va_up A 20 out.2.2.2.1) 21 out.2.2.2.2.1) 22 out.2.2.2.2.2), B, G)) args s 0 0 A0) (F0 m 18 ls [])) : ∀ (x1 : Int32) (x4 : Int32) (i1' : Int32) (j0' : Int64) (a20' : Nat → Int32) (a21' : Nat → Int32) (a22' : Nat → Int32) (ls : Array Slot) (H : Heap) (locs : List Loc), f_X2_bound_51 N nn (I 0) (G 1) nx18 x1 x4 i1' j0' a20' a21' a22' = some out → MM D y nn ad A0 s.heap (va_up I 1 i1') (va_up J 0 j0') (va_up (va_up (va_up A 20 a20') 21 a21') 22 a22') B G H locs → lv_has ls 5 [(0, .ref (ad 2)), (1, .int x1), (4, .int x4)] → W p l e ({ frames := 4, cells := 0, slots := 0, locals := 90 } : Room) s m args below meth c H locs 0 0 (MQ below (mQl D y nn ad A0 out.1 ((va_up I 1 out.2.1), (va_up J 0 out.2.2.1), (va_up (va_up (va_up A 20 out.2.2.2.1) 21 out.2.2.2.2.1) 22 out.2.2.2.2.2), B, G)) args s 0 0 A0) (F0 m 51 ls []) := by
  intro x1 x4 i1' j0' a20' a21' a22' ls H locs hE hM hl
  have hx := F.1.1
  have hb := F.1.2.1
  unfold f_X2_bound_51 at hE
  refine lv_aload_n hx hb dX2_bound_51 rfl (lv_at hl 0 rfl) ?_
  refine m_get F hM 2 mg_2 rfl 4 (by decide) (by decide +kernel) (by decide +kernel) (v := .long j0') rfl dX2_bound_52 ?_
  refine lv_lstore_n (lv' := [(2, .long j0'), (0, .ref (ad 2)), (1, .int x1), (4, .int x4)]) hx hb dX2_bound_55 rfl hl (by decide) rfl (fun ls hl => ?_)
  refine lv_aload_n hx hb dX2_bound_56 rfl (lv_at hl 1 rfl) ?_
  refine lv_iload hx hb dX2_bound_57 (lv_at hl 3 rfl) ?_
  refine m_put F hM 2 mg_2 rfl tyX2 tyX2_ok nmX2 5 (by decide) (by decide +kernel) (by decide +kernel) rfl (ty := .int) (v := .int x4) (by decide +kernel) rfl rfl (Nat.le_of_ble_eq_true rfl) (ms_2_5 _) (bx_uu _ _ _ _)  rfl dX2_bound_59 (fun H locs hM => ?_)
  refine lv_aload_n hx hb dX2_bound_62 rfl (lv_at hl 1 rfl) ?_
  refine lv_iload hx hb dX2_bound_63 (lv_at hl 3 rfl) ?_
  obtain ⟨o65_3, ho65_3, hE⟩ := bd_some hE
  refine m_callSi (As := [.int x4]) (I2 := (va_up I 1 x4)) (J2 := (va_up J 0 j0')) (A2 := (va_up (va_up (va_up A 20 a20') 21 a21') 22 a22')) (B2 := B) (G2 := G) F hM (c_X2_stepOf l D y nn ad H.size (va_up I 1 x4) (va_up J 0 j0') (va_up (va_up (va_up A 20 a20') 21 a21') 22 a22') B G x4  o65_3 ho65_3) (va_cwS 1 F.1.2.2.2.2 gX2_bound_X2_stepOf rfl rfl rfl (by decide +kernel) ⟨Nat.le_of_ble_eq_true rfl, Nat.le_of_ble_eq_true rfl⟩) rfl hl.1 (Nat.le_of_ble_eq_true rfl) dX2_bound_65 ⟨Nat.le_refl 0, Nat.le_refl 0⟩ rfl rfl rfl rfl rfl (fun H locs hM => ?_)
  obtain ⟨o68_4, ho68_4, hE⟩ := bd_some hE
  refine m_callVv (As := [.int o65_3]) (I2 := (va_up I 1 x4)) (J2 := (va_up J 0 j0')) (A2 := (va_up (va_up (va_up A 20 o68_4) 21 a21') 22 a22')) (B2 := B) (G2 := G) F hM (c_X2_moveWeights l D y nn ad H.size (va_up I 1 x4) (va_up J 0 j0') (va_up (va_up (va_up A 20 a20') 21 a21') 22 a22') B G o65_3 N o68_4 ho68_4) (cwV 1 F.1.2.2.2.2 gX2_bound_X2_moveWeights rfl rfl rfl (by decide +kernel) ⟨Nat.le_of_ble_eq_true rfl, Nat.le_of_ble_eq_true rfl⟩) (m_recv F hM mg_2 rfl) rfl hl.1 (Nat.le_of_ble_eq_true rfl) dX2_bound_68 ⟨Nat.le_refl 0, Nat.le_refl 0⟩ rfl rfl un_20_21_22__20 rfl rfl (fun H locs hM => ?_)
  refine lv_iinc (v := x4 + (1 : Int32)) (lv' := [(4, .int (x4 + (1 : Int32))), (2, .long j0'), (0, .ref (ad 2)), (1, .int x1)]) hx hb dX2_bound_71 hl (k := 3) rfl rfl (by decide) rfl (fun ls hl => ?_)
  refine lv_goto (tgt := 18) hx hb dX2_bound_74 (by decide) ?_
  exact hn18 x1 j0' (x4 + (1 : Int32)) x4 j0' o68_4 a21' a22' ls H locs hE hM (lv_sub hl [2, 3, 1, 0] rfl)
set_option maxHeartbeats 4000000 in
set_option maxRecDepth 100000 in
theorem s_X2_bound_18 {p : Program} {l : Launch} {e : Env} {s : State} {m : MethodId} {args : Array Value} {below : List Frame} {meth : Method} {c : Code} {D : va_G} {y : Nat → ClassId} {nn : Nat} {ad : Nat → Nat} {A0 : Nat → Prop} {I : Nat → Int32} {J : Nat → Int64} {A : Nat → Nat → Int32} {B : Nat → Nat → Int64} {G : Nat → Nat → Nat → Int32} (F : Fx p s m args meth c cX2_bound 5 wsX2_bound RX2 D y A0) (hr : meth.sig.returnType = (some .long)) {out : Int64 × Int32 × Int64 × (Nat → Int32) × (Nat → Int32) × (Nat → Int32)} {N : Nat}  (nx18 : Int32 → Int64 → Int32 → Int32 → Int64 → (Nat → Int32) → (Nat → Int32) → (Nat → Int32) → Option (Int64 × Int32 × Int64 × (Nat → Int32) × (Nat → Int32) × (Nat → Int32))) (hn18 : ∀ (x1 : Int32) (x2 : Int64) (x4 : Int32) (i1' : Int32) (j0' : Int64) (a20' : Nat → Int32) (a21' : Nat → Int32) (a22' : Nat → Int32) (ls : Array Slot) (H : Heap) (locs : List Loc), nx18 x1 x2 x4 i1' j0' a20' a21' a22' = some out → MM D y nn ad A0 s.heap (va_up I 1 i1') (va_up J 0 j0') (va_up (va_up (va_up A 20 a20') 21 a21') 22 a22') B G H locs → lv_has ls 5 [(0, .ref (ad 2)), (1, .int x1), (2, .long x2), (4, .int x4)] → W p l e ({ frames := 4, cells := 0, slots := 0, locals := 90 } : Room) s m args below meth c H locs 0 0 (MQ below (mQl D y nn ad A0 out.1 ((va_up I 1 out.2.1), (va_up J 0 out.2.2.1), (va_up (va_up (va_up A 20 out.2.2.2.1) 21 out.2.2.2.2.1) 22 out.2.2.2.2.2), B, G)) args s 0 0 A0) (F0 m 18 ls [])) : ∀ (x1 : Int32) (x2 : Int64) (x4 : Int32) (i1' : Int32) (j0' : Int64) (a20' : Nat → Int32) (a21' : Nat → Int32) (a22' : Nat → Int32) (ls : Array Slot) (H : Heap) (locs : List Loc), f_X2_bound_18 N nn (I 0) (G 1)  nx18 x1 x2 x4 i1' j0' a20' a21' a22' = some out → MM D y nn ad A0 s.heap (va_up I 1 i1') (va_up J 0 j0') (va_up (va_up (va_up A 20 a20') 21 a21') 22 a22') B G H locs → lv_has ls 5 [(0, .ref (ad 2)), (1, .int x1), (2, .long x2), (4, .int x4)] → W p l e ({ frames := 4, cells := 0, slots := 0, locals := 90 } : Room) s m args below meth c H locs 0 0 (MQ below (mQl D y nn ad A0 out.1 ((va_up I 1 out.2.1), (va_up J 0 out.2.2.1), (va_up (va_up (va_up A 20 out.2.2.2.1) 21 out.2.2.2.2.1) 22 out.2.2.2.2.2), B, G)) args s 0 0 A0) (F0 m 18 ls []) := by
  intro x1 x2 x4 i1' j0' a20' a21' a22' ls H locs hE hM hl
  have hx := F.1.1
  have hb := F.1.2.1
  unfold f_X2_bound_18 at hE
  refine lv_iload hx hb dX2_bound_18 (lv_at hl 3 rfl) ?_
  refine lv_iload_n hx hb dX2_bound_20 rfl (lv_at hl 1 rfl) ?_
  refine lv_icmp_gt (tgt := 77) hx hb dX2_bound_21 (by decide) (fun c21 => ?_) (fun c21 => ?_)
  · replace hE := (if_pos c21).symm.trans hE
    refine lv_lload_n hx hb dX2_bound_77 rfl (lv_at hl 2 rfl) ?_
    refine lv_lconst (v := 0) hx hb dX2_bound_78 (by decide) ?_
    refine m_lge (tgt := 87) F dX2_bound_79 dX2_bound_80 (by decide) (fun c80 => ?_) (fun c80 => ?_)
    · replace hE := (if_pos c80).symm.trans hE
      refine lv_lload_n hx hb dX2_bound_87 rfl (lv_at hl 2 rfl) ?_
      refine lv_lconst (v := 1) hx hb dX2_bound_88 (by decide) ?_
      refine lv_ladd hx hb dX2_bound_89 ?_
      refine lv_ldc2 (v := (2)) hx hb F.1.2.2.2.1 (F.1.2.2.2.2 (.constantLong RX2 58 (2)) (by decide +kernel)) dX2_bound_90 ?_
      obtain ⟨hz93, hE⟩ := dvl_some hE
      refine lv_ldiv hx hb dX2_bound_93 hz93 ?_
      obtain rfl := Option.some.inj hE
      exact m_lret F hM hr rfl rfl dX2_bound_94
    · replace hE := (if_neg c80).symm.trans hE
      refine lv_lconst (v := 0) hx hb dX2_bound_83 (by decide) ?_
      refine lv_goto (tgt := 94) hx hb dX2_bound_84 (by decide) ?_
      obtain rfl := Option.some.inj hE
      exact m_lret F hM hr rfl rfl dX2_bound_94
  · replace hE := (if_neg c21).symm.trans hE
    refine lv_aload_n hx hb dX2_bound_24 rfl (lv_at hl 0 rfl) ?_
    obtain ⟨o25_2, ho25_2, hE⟩ := bd_some hE
    refine m_callVi (As := []) (I2 := (va_up I 1 i1')) (J2 := (va_up J 0 o25_2.2.1)) (A2 := (va_up (va_up (va_up A 20 a20') 21 o25_2.2.2.1) 22 o25_2.2.2.2)) (B2 := B) (G2 := G) F hM (c_X2_makeTree l D y nn ad H.size (va_up I 1 i1') (va_up J 0 j0') (va_up (va_up (va_up A 20 a20') 21 a21') 22 a22') B G  N o25_2 ho25_2) (cwV 0 F.1.2.2.2.2 gX2_bound_X2_makeTree rfl rfl rfl (by decide +kernel) ⟨Nat.le_of_ble_eq_true rfl, Nat.le_of_ble_eq_true rfl⟩) (m_recv F hM mg_2 rfl) rfl hl.1 (Nat.le_of_ble_eq_true rfl) dX2_bound_25 ⟨Nat.le_refl 0, Nat.le_refl 0⟩ rfl (bx_uu _ _ _ _) un_20_21_22__21_22 rfl rfl (fun H locs hM => ?_)
    refine lv_if_ne (tgt := 35) hx hb dX2_bound_28 (by decide) (fun c28 => ?_) (fun c28 => ?_)
    · replace hE := (if_neg c28).symm.trans hE
      refine lv_aload_n hx hb dX2_bound_35 rfl (lv_at hl 0 rfl) ?_
      refine m_get F hM 2 mg_2 rfl 5 (by decide) (by decide +kernel) (by decide +kernel) (v := .int i1') rfl dX2_bound_36 ?_
      refine lv_if_eq (tgt := 51) hx hb dX2_bound_39 (by decide) (fun c39 => ?_) (fun c39 => ?_)
      · replace hE := (if_pos c39).symm.trans hE
        exact s_X2_bound_51 F hr (N := N) nx18 hn18 x1 x4 i1' o25_2.2.1 a20' o25_2.2.2.1 o25_2.2.2.2 ls H locs hE hM (lv_sub hl [0, 1, 3] rfl)
      · replace hE := (if_neg c39).symm.trans hE
        refine lv_aload_n hx hb dX2_bound_42 rfl (lv_at hl 0 rfl) ?_
        refine m_get F hM 2 mg_2 rfl 4 (by decide) (by decide +kernel) (by decide +kernel) (v := .long o25_2.2.1) rfl dX2_bound_43 ?_
        refine lv_lload_n hx hb dX2_bound_46 rfl (lv_at hl 2 rfl) ?_
        refine m_lle (tgt := 62) F dX2_bound_47 dX2_bound_48 (by decide) (fun c48 => ?_) (fun c48 => ?_)
        · replace hE := (if_pos c48).symm.trans hE
          refine lv_aload_n hx hb dX2_bound_62 rfl (lv_at hl 0 rfl) ?_
          refine lv_iload hx hb dX2_bound_63 (lv_at hl 3 rfl) ?_
          obtain ⟨o65_5, ho65_5, hE⟩ := bd_some hE
          refine m_callSi (As := [.int x4]) (I2 := (va_up I 1 i1')) (J2 := (va_up J 0 o25_2.2.1)) (A2 := (va_up (va_up (va_up A 20 a20') 21 o25_2.2.2.1) 22 o25_2.2.2.2)) (B2 := B) (G2 := G) F hM (c_X2_stepOf l D y nn ad H.size (va_up I 1 i1') (va_up J 0 o25_2.2.1) (va_up (va_up (va_up A 20 a20') 21 o25_2.2.2.1) 22 o25_2.2.2.2) B G x4  o65_5 ho65_5) (va_cwS 1 F.1.2.2.2.2 gX2_bound_X2_stepOf rfl rfl rfl (by decide +kernel) ⟨Nat.le_of_ble_eq_true rfl, Nat.le_of_ble_eq_true rfl⟩) rfl hl.1 (Nat.le_of_ble_eq_true rfl) dX2_bound_65 ⟨Nat.le_refl 0, Nat.le_refl 0⟩ rfl rfl rfl rfl rfl (fun H locs hM => ?_)
          obtain ⟨o68_6, ho68_6, hE⟩ := bd_some hE
          refine m_callVv (As := [.int o65_5]) (I2 := (va_up I 1 i1')) (J2 := (va_up J 0 o25_2.2.1)) (A2 := (va_up (va_up (va_up A 20 o68_6) 21 o25_2.2.2.1) 22 o25_2.2.2.2)) (B2 := B) (G2 := G) F hM (c_X2_moveWeights l D y nn ad H.size (va_up I 1 i1') (va_up J 0 o25_2.2.1) (va_up (va_up (va_up A 20 a20') 21 o25_2.2.2.1) 22 o25_2.2.2.2) B G o65_5 N o68_6 ho68_6) (cwV 1 F.1.2.2.2.2 gX2_bound_X2_moveWeights rfl rfl rfl (by decide +kernel) ⟨Nat.le_of_ble_eq_true rfl, Nat.le_of_ble_eq_true rfl⟩) (m_recv F hM mg_2 rfl) rfl hl.1 (Nat.le_of_ble_eq_true rfl) dX2_bound_68 ⟨Nat.le_refl 0, Nat.le_refl 0⟩ rfl rfl un_20_21_22__20 rfl rfl (fun H locs hM => ?_)
          refine lv_iinc (v := x4 + (1 : Int32)) (lv' := [(4, .int (x4 + (1 : Int32))), (0, .ref (ad 2)), (1, .int x1), (2, .long x2)]) hx hb dX2_bound_71 hl (k := 3) rfl rfl (by decide) rfl (fun ls hl => ?_)
          refine lv_goto (tgt := 18) hx hb dX2_bound_74 (by decide) ?_
          exact hn18 x1 x2 (x4 + (1 : Int32)) i1' o25_2.2.1 o68_6 o25_2.2.2.1 o25_2.2.2.2 ls H locs hE hM (lv_sub hl [1, 2, 3, 0] rfl)
        · replace hE := (if_neg c48).symm.trans hE
          exact s_X2_bound_51 F hr (N := N) nx18 hn18 x1 x4 i1' o25_2.2.1 a20' o25_2.2.2.1 o25_2.2.2.2 ls H locs hE hM (lv_sub hl [0, 1, 3] rfl)
    · replace hE := (if_pos c28).symm.trans hE
      refine lv_ldc2 (v := (-1)) hx hb F.1.2.2.2.1 (F.1.2.2.2.2 (.constantLong RX2 48 (-1)) (by decide +kernel)) dX2_bound_31 ?_
      obtain rfl := Option.some.inj hE
      exact m_lret F hM hr rfl rfl dX2_bound_34
theorem k_X2_bound_18 {p : Program} {l : Launch} {e : Env} {s : State} {m : MethodId} {args : Array Value} {below : List Frame} {meth : Method} {c : Code} {D : va_G} {y : Nat → ClassId} {nn : Nat} {ad : Nat → Nat} {A0 : Nat → Prop} {I : Nat → Int32} {J : Nat → Int64} {A : Nat → Nat → Int32} {B : Nat → Nat → Int64} {G : Nat → Nat → Nat → Int32} (F : Fx p s m args meth c cX2_bound 5 wsX2_bound RX2 D y A0) (hr : meth.sig.returnType = (some .long)) {out : Int64 × Int32 × Int64 × (Nat → Int32) × (Nat → Int32) × (Nat → Int32)} {N : Nat}  : ∀ (n : Nat), ∀ (x1 : Int32) (x2 : Int64) (x4 : Int32) (i1' : Int32) (j0' : Int64) (a20' : Nat → Int32) (a21' : Nat → Int32) (a22' : Nat → Int32) (ls : Array Slot) (H : Heap) (locs : List Loc), lq8 (f_X2_bound_18 N nn (I 0) (G 1) ) n x1 x2 x4 i1' j0' a20' a21' a22' = some out → MM D y nn ad A0 s.heap (va_up I 1 i1') (va_up J 0 j0') (va_up (va_up (va_up A 20 a20') 21 a21') 22 a22') B G H locs → lv_has ls 5 [(0, .ref (ad 2)), (1, .int x1), (2, .long x2), (4, .int x4)] → W p l e ({ frames := 4, cells := 0, slots := 0, locals := 90 } : Room) s m args below meth c H locs 0 0 (MQ below (mQl D y nn ad A0 out.1 ((va_up I 1 out.2.1), (va_up J 0 out.2.2.1), (va_up (va_up (va_up A 20 out.2.2.2.1) 21 out.2.2.2.2.1) 22 out.2.2.2.2.2), B, G)) args s 0 0 A0) (F0 m 18 ls []) := by
  intro n
  induction n with
  | zero =>
    intro x1 x2 x4 i1' j0' a20' a21' a22' ls H locs hE
    cases (show (none : Option _) = some out from hE)
  | succ n ih =>
    intro x1 x2 x4 i1' j0' a20' a21' a22' ls H locs hE hM hl
    exact s_X2_bound_18 F hr (N := N)  (lq8 (f_X2_bound_18 N nn (I 0) (G 1) ) n) ih x1 x2 x4 i1' j0' a20' a21' a22' ls H locs hE hM hl
set_option maxHeartbeats 4000000 in
set_option maxRecDepth 100000 in
theorem c_X2_bound (l : Launch) (D : va_G) (y : Nat → ClassId) (nn : Nat) (ad : Nat → Nat) (sz : Nat) (I : Nat → Int32) (J : Nat → Int64) (A : Nat → Nat → Int32) (B : Nat → Nat → Int64) (G : Nat → Nat → Nat → Int32) (p1 : Int32) (N : Nat) (out : Int64 × Int32 × Int64 × (Nat → Int32) × (Nat → Int32) × (Nat → Int32)) (hE : f_X2_bound N nn (I 0) (G 1) (I 1) (J 0) (A 20) (A 21) (A 22) p1 = some out) : Met l yX2_bound wsX2_bound ({ frames := 4, cells := 0, slots := 0, locals := 90 } : Room) (mPc [.ref (ad 2), .int p1] D y nn ad sz I J A B G) (mQl D y nn ad (mA y nn ad I J A B G sz) out.1 ((va_up I 1 out.2.1), (va_up J 0 out.2.2.1), (va_up (va_up (va_up A 20 out.2.2.2.1) 21 out.2.2.2.2.1) 22 out.2.2.2.2.2), B, G)) 0 0 (mA y nn ad I J A B G sz) := by
  refine Met.ofW (cc := cX2_bound) (maxL := 5) (ret := (some .long)) (by decide) rfl ?_
  intro p e s m args below meth c s₁ Bd hml hv
  obtain ⟨rfl, hsz, hP, hK, hD0, hN⟩ := hv
  have hr := Bd.returns
  subst hsz
  have F : Fx p s m ([.ref (ad 2), .int p1] : List Value).toArray meth c cX2_bound 5 wsX2_bound RX2 D y (mA y nn ad I J A B G s.heap.size) := ⟨⟨Bd.exec, Bd.bytes, hml, findClass_of_methodNamed Bd.named, atoms_spec (ws := wsX2_bound) Bd.pre⟩, hK, hN, fun q h => Or.inr h, Bd.notSynchronized⟩
  have hM := m_start (s := s) rfl hP hD0
  have hM := m_mem (I2 := (va_up I 1 (I 1))) (J2 := (va_up J 0 (J 0))) (A2 := (va_up (va_up (va_up A 20 (A 20)) 21 (A 21)) 22 (A 22))) (B2 := B) (G2 := G) hM (by simp only [up_id]) (by simp only [up_id]) (by simp only [up_id]) (by rfl) (by rfl)
  have hx := F.1.1
  have hb := F.1.2.1
  have hl := lv_entry ([.ref (ad 2), .int p1]) (n := 5) (Nat.le_of_ble_eq_true rfl)
  rw [lg_entry_eq]
  generalize (lg_sl ([.ref (ad 2), .int p1]) ++ List.replicate (5 - (lg_sl ([.ref (ad 2), .int p1])).length) Slot.unset).toArray = ls at hl ⊢
  have hl : lv_has ls 5 [(0, .ref (ad 2)), (1, .int p1)] := hl
  show W p l e ({ frames := 4, cells := 0, slots := 0, locals := 90 } : Room) s m _ below meth c s.heap [] 0 0 _ _
  obtain ⟨locs, hlo⟩ : ∃ locs : List Loc, locs = [] := ⟨_, rfl⟩
  rw [← hlo]; rw [← hlo] at hM
  unfold f_X2_bound at hE
  revert hM
  suffices hH : ∀ H : Heap, MM D y nn ad (mA y nn ad I J A B G s.heap.size) s.heap (va_up I 1 (I 1)) (va_up J 0 (J 0)) (va_up (va_up (va_up A 20 (A 20)) 21 (A 21)) 22 (A 22)) B G H locs → W p l e ({ frames := 4, cells := 0, slots := 0, locals := 90 } : Room) s m ([.ref (ad 2), .int p1] : List Value).toArray below meth c H locs 0 0 (MQ below (mQl D y nn ad (mA y nn ad I J A B G s.heap.size) out.1 ((va_up I 1 out.2.1), (va_up J 0 out.2.2.1), (va_up (va_up (va_up A 20 out.2.2.2.1) 21 out.2.2.2.2.1) 22 out.2.2.2.2.2), B, G)) ([.ref (ad 2), .int p1] : List Value).toArray s 0 0 (mA y nn ad I J A B G s.heap.size)) (F0 m 0 ls []) from hH s.heap
  intro H hM
  refine lv_aload_n hx hb dX2_bound_0 rfl (lv_at hl 0 rfl) ?_
  refine m_get F hM 2 mg_2 rfl 1 (by decide) (by decide +kernel) (by decide +kernel) (v := .ref (ad 20)) rfl dX2_bound_1 ?_
  refine lv_iconst (v := 0) hx hb dX2_bound_4 (by decide) ?_
  obtain ⟨hf5_1, hE⟩ := fck_some hE
  obtain ⟨w5_0, ew5_0, hE⟩ := nmd_some hE
  refine m_callSv (As := [.ref (ad 20), .int (0 : Int32)]) (A2 := (va_up (va_up (va_up A 20 w5_0) 21 (A 21)) 22 (A 22))) (B2 := B) F hM (c_J7_fill_53178 l D y nn ad H.size _ _ _ _ _ hf5_1 (fun _ => mg_20) (fun _ f1 => ms_20 f1) (0 : Int32)) (va_cwS 2 F.1.2.2.2.2 gX2_bound_J7_fill_53178 rfl rfl rfl (by decide +kernel) ⟨Nat.le_of_ble_eq_true rfl, Nat.le_of_ble_eq_true rfl⟩) rfl hl.1 (Nat.le_of_ble_eq_true rfl) dX2_bound_5 ⟨Nat.le_refl 0, Nat.le_refl 0⟩ rfl rfl (by rw [ew5_0]; exact un_20_21_22__20) rfl rfl (fun H locs hM => ?_)
  refine lv_aload_n hx hb dX2_bound_8 rfl (lv_at hl 0 rfl) ?_
  refine lv_iconst (v := 0) hx hb dX2_bound_9 (by decide) ?_
  refine m_put F hM 2 mg_2 rfl tyX2 tyX2_ok nmX2 5 (by decide) (by decide +kernel) (by decide +kernel) rfl (ty := .int) (v := .int (0 : Int32)) (by decide +kernel) rfl rfl (Nat.le_of_ble_eq_true rfl) (ms_2_5 _) (bx_uu _ _ _ _)  rfl dX2_bound_10 (fun H locs hM => ?_)
  refine lv_lconst (v := 0) hx hb dX2_bound_13 (by decide) ?_
  refine lv_lstore_n (lv' := [(2, .long (0 : Int64)), (0, .ref (ad 2)), (1, .int p1)]) hx hb dX2_bound_14 rfl hl (by decide) rfl (fun ls hl => ?_)
  refine lv_iconst (v := 1) hx hb dX2_bound_15 (by decide) ?_
  refine lv_istore (lv' := [(4, .int (1 : Int32)), (2, .long (0 : Int64)), (0, .ref (ad 2)), (1, .int p1)]) hx hb dX2_bound_16 hl (by decide) rfl (fun ls hl => ?_)
  exact k_X2_bound_18 F hr (N := N)  N p1 (0 : Int64) (1 : Int32) (0 : Int32) (J 0) w5_0 (A 21) (A 22) ls H locs hE hM (lv_sub hl [2, 3, 1, 0] rfl)
