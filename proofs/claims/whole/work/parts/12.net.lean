/-! ===== X3_has: reads I0, writes , frames 0, locals 0 ===== -/
def f_X3_has (i0 : Int32)  (p1 : Int32) : Option (Int32) :=
(if p1 < (0 : Int32) then
bz (0 : Int32) (some (0 : Int32))
else
(if i0 ≤ p1 then
bz (0 : Int32) (some (0 : Int32))
else
bz (1 : Int32) (some (1 : Int32))))
set_option maxHeartbeats 4000000 in
set_option maxRecDepth 100000 in
theorem c_X3_has (l : Launch) (D : va_G) (y : Nat → ClassId) (nn : Nat) (ad : Nat → Nat) (sz : Nat) (I : Nat → Int32) (J : Nat → Int64) (A : Nat → Nat → Int32) (B : Nat → Nat → Int64) (G : Nat → Nat → Nat → Int32) (p1 : Int32)  (out : Int32) (hE : f_X3_has (I 0)  p1 = some out) : Met l yX3_has wsX3_has ({ frames := 0, cells := 0, slots := 0, locals := 0 } : Room) (mPc [.ref (ad 1), .int p1] D y nn ad sz I J A B G) (mQi D y nn ad (mA y nn ad I J A B G sz) out (I, J, A, B, G)) 0 0 (mA y nn ad I J A B G sz) := by
  refine Met.ofW (cc := cX3_has) (maxL := 2) (ret := (some .boolean)) (by decide) rfl ?_
  intro p e s m args below meth c s₁ Bd hml hv
  obtain ⟨rfl, hsz, hP, hK, hD0, hN⟩ := hv
  have hr := Bd.returns
  subst hsz
  have F : Fx p s m ([.ref (ad 1), .int p1] : List Value).toArray meth c cX3_has 2 wsX3_has RX3 D y (mA y nn ad I J A B G s.heap.size) := ⟨⟨Bd.exec, Bd.bytes, hml, findClass_of_methodNamed Bd.named, atoms_spec (ws := wsX3_has) Bd.pre⟩, hK, hN, fun q h => Or.inr h, Bd.notSynchronized⟩
  have hM := m_start (s := s) rfl hP hD0
  have hM := m_mem (I2 := I) (J2 := J) (A2 := A) (B2 := B) (G2 := G) hM (by rfl) (by rfl) (by rfl) (by rfl) (by rfl)
  have hx := F.1.1
  have hb := F.1.2.1
  have hl := lv_entry ([.ref (ad 1), .int p1]) (n := 2) (Nat.le_of_ble_eq_true rfl)
  rw [lg_entry_eq]
  generalize (lg_sl ([.ref (ad 1), .int p1]) ++ List.replicate (2 - (lg_sl ([.ref (ad 1), .int p1])).length) Slot.unset).toArray = ls at hl ⊢
  have hl : lv_has ls 2 [(0, .ref (ad 1)), (1, .int p1)] := hl
  show W p l e ({ frames := 0, cells := 0, slots := 0, locals := 0 } : Room) s m _ below meth c s.heap [] 0 0 _ _
  obtain ⟨locs, hlo⟩ : ∃ locs : List Loc, locs = [] := ⟨_, rfl⟩
  rw [← hlo]; rw [← hlo] at hM
  unfold f_X3_has at hE
  revert hM
  suffices hH : ∀ H : Heap, MM D y nn ad (mA y nn ad I J A B G s.heap.size) s.heap I J A B G H locs → W p l e ({ frames := 0, cells := 0, slots := 0, locals := 0 } : Room) s m ([.ref (ad 1), .int p1] : List Value).toArray below meth c H locs 0 0 (MQ below (mQi D y nn ad (mA y nn ad I J A B G s.heap.size) out (I, J, A, B, G)) ([.ref (ad 1), .int p1] : List Value).toArray s 0 0 (mA y nn ad I J A B G s.heap.size)) (F0 m 0 ls []) from hH s.heap
  intro H hM
  refine lv_iload_n hx hb dX3_has_0 rfl (lv_at hl 1 rfl) ?_
  refine lv_if_lt (tgt := 16) hx hb dX3_has_1 (by decide) (fun c1 => ?_) (fun c1 => ?_)
  · replace hE := (if_pos c1).symm.trans hE
    refine lv_iconst (v := 0) hx hb dX3_has_16 (by decide) ?_
    obtain ⟨hz, hE⟩ := bz_some hE
    obtain rfl := Option.some.inj hE
    exact m_zret F hM hr hz rfl rfl dX3_has_17
  · replace hE := (if_neg c1).symm.trans hE
    refine lv_iload_n hx hb dX3_has_4 rfl (lv_at hl 1 rfl) ?_
    refine lv_aload_n hx hb dX3_has_5 rfl (lv_at hl 0 rfl) ?_
    refine m_get F hM 1 mg_1 rfl 0 (by decide) (by decide +kernel) (by decide +kernel) (v := .int (I 0)) rfl dX3_has_6 ?_
    refine lv_icmp_ge (tgt := 16) hx hb dX3_has_9 (by decide) (fun c9 => ?_) (fun c9 => ?_)
    · replace hE := (if_pos c9).symm.trans hE
      refine lv_iconst (v := 0) hx hb dX3_has_16 (by decide) ?_
      obtain ⟨hz, hE⟩ := bz_some hE
      obtain rfl := Option.some.inj hE
      exact m_zret F hM hr hz rfl rfl dX3_has_17
    · replace hE := (if_neg c9).symm.trans hE
      refine lv_iconst (v := 1) hx hb dX3_has_12 (by decide) ?_
      refine lv_goto (tgt := 17) hx hb dX3_has_13 (by decide) ?_
      obtain ⟨hz, hE⟩ := bz_some hE
      obtain rfl := Option.some.inj hE
      exact m_zret F hM hr hz rfl rfl dX3_has_17
/-! ===== X3_shorter: reads , writes , frames 1, locals 22 ===== -/
def f_X3_shorter   (p0 : Int32) (p1 : Int32) : Option (Int32) :=
(if p0 = (-1 : Int32) then
some (if p0 < p1 then p1 else p0)
else
(if p1 = (-1 : Int32) then
some (if p0 < p1 then p1 else p0)
else
some (if p1 < p0 then p1 else p0)))
set_option maxHeartbeats 4000000 in
set_option maxRecDepth 100000 in
theorem c_X3_shorter (l : Launch) (D : va_G) (y : Nat → ClassId) (nn : Nat) (ad : Nat → Nat) (sz : Nat) (I : Nat → Int32) (J : Nat → Int64) (A : Nat → Nat → Int32) (B : Nat → Nat → Int64) (G : Nat → Nat → Nat → Int32) (p0 : Int32) (p1 : Int32)  (out : Int32) (hE : f_X3_shorter   p0 p1 = some out) : Met l yX3_shorter wsX3_shorter ({ frames := 1, cells := 0, slots := 0, locals := 22 } : Room) (mPc [.int p0, .int p1] D y nn ad sz I J A B G) (mQi D y nn ad (mA y nn ad I J A B G sz) out (I, J, A, B, G)) 0 0 (mA y nn ad I J A B G sz) := by
  refine Met.ofW (cc := cX3_shorter) (maxL := 2) (ret := (some .int)) (by decide) rfl ?_
  intro p e s m args below meth c s₁ Bd hml hv
  obtain ⟨rfl, hsz, hP, hK, hD0, hN⟩ := hv
  have hr := Bd.returns
  subst hsz
  have F : Fx p s m ([.int p0, .int p1] : List Value).toArray meth c cX3_shorter 2 wsX3_shorter RX3 D y (mA y nn ad I J A B G s.heap.size) := ⟨⟨Bd.exec, Bd.bytes, hml, findClass_of_methodNamed Bd.named, atoms_spec (ws := wsX3_shorter) Bd.pre⟩, hK, hN, fun q h => Or.inr h, Bd.notSynchronized⟩
  have hM := m_start (s := s) rfl hP hD0
  have hM := m_mem (I2 := I) (J2 := J) (A2 := A) (B2 := B) (G2 := G) hM (by rfl) (by rfl) (by rfl) (by rfl) (by rfl)
  have hx := F.1.1
  have hb := F.1.2.1
  have hl := lv_entry ([.int p0, .int p1]) (n := 2) (Nat.le_of_ble_eq_true rfl)
  rw [lg_entry_eq]
  generalize (lg_sl ([.int p0, .int p1]) ++ List.replicate (2 - (lg_sl ([.int p0, .int p1])).length) Slot.unset).toArray = ls at hl ⊢
  have hl : lv_has ls 2 [(0, .int p0), (1, .int p1)] := hl
  show W p l e ({ frames := 1, cells := 0, slots := 0, locals := 22 } : Room) s m _ below meth c s.heap [] 0 0 _ _
  obtain ⟨locs, hlo⟩ : ∃ locs : List Loc, locs = [] := ⟨_, rfl⟩
  rw [← hlo]; rw [← hlo] at hM
  unfold f_X3_shorter at hE
  revert hM
  suffices hH : ∀ H : Heap, MM D y nn ad (mA y nn ad I J A B G s.heap.size) s.heap I J A B G H locs → W p l e ({ frames := 1, cells := 0, slots := 0, locals := 22 } : Room) s m ([.int p0, .int p1] : List Value).toArray below meth c H locs 0 0 (MQ below (mQi D y nn ad (mA y nn ad I J A B G s.heap.size) out (I, J, A, B, G)) ([.int p0, .int p1] : List Value).toArray s 0 0 (mA y nn ad I J A B G s.heap.size)) (F0 m 0 ls []) from hH s.heap
  intro H hM
  refine lv_iload_n hx hb dX3_shorter_0 rfl (lv_at hl 0 rfl) ?_
  refine lv_iconst (v := (-1)) hx hb dX3_shorter_1 (by decide) ?_
  refine lv_icmp_eq (tgt := 10) hx hb dX3_shorter_2 (by decide) (fun c2 => ?_) (fun c2 => ?_)
  · replace hE := (if_pos c2).symm.trans hE
    refine lv_iload_n hx hb dX3_shorter_10 rfl (lv_at hl 0 rfl) ?_
    refine lv_iload_n hx hb dX3_shorter_11 rfl (lv_at hl 1 rfl) ?_
    refine va_mmax hx hb (F.1.2.2.1.trans hl.1.symm) F.1.2.2.2.1 (F.1.2.2.2.2 (.methodLink RX3 33 Lib.Math.max.name) (by decide +kernel)) (F.1.2.2.2.2 (.static Lib.Math.max.name) (by decide +kernel)) (F.1.2.2.2.2 (.initialized "java/lang/Math") (by decide +kernel)) (F.1.2.2.2.2 (.code Lib.Math.max.name Lib.Math.max.code 2 (some .int)) (by decide +kernel)) (Nat.le_of_ble_eq_true rfl) (Nat.le_of_ble_eq_true rfl) (Nat.le_refl 0) (Nat.le_refl 0) dX3_shorter_12 ?_
    obtain rfl := Option.some.inj hE
    exact m_iret F hM hr rfl rfl dX3_shorter_15
  · replace hE := (if_neg c2).symm.trans hE
    refine lv_iload_n hx hb dX3_shorter_5 rfl (lv_at hl 1 rfl) ?_
    refine lv_iconst (v := (-1)) hx hb dX3_shorter_6 (by decide) ?_
    refine lv_icmp_ne (tgt := 16) hx hb dX3_shorter_7 (by decide) (fun c7 => ?_) (fun c7 => ?_)
    · replace hE := (if_neg c7).symm.trans hE
      refine lv_iload_n hx hb dX3_shorter_16 rfl (lv_at hl 0 rfl) ?_
      refine lv_iload_n hx hb dX3_shorter_17 rfl (lv_at hl 1 rfl) ?_
      refine va_mmin hx hb (F.1.2.2.1.trans hl.1.symm) F.1.2.2.2.1 (F.1.2.2.2.2 (.methodLink RX3 38 Lib.Math.min.name) (by decide +kernel)) (F.1.2.2.2.2 (.static Lib.Math.min.name) (by decide +kernel)) (F.1.2.2.2.2 (.initialized "java/lang/Math") (by decide +kernel)) (F.1.2.2.2.2 (.code Lib.Math.min.name Lib.Math.min.code 2 (some .int)) (by decide +kernel)) (Nat.le_of_ble_eq_true rfl) (Nat.le_of_ble_eq_true rfl) (Nat.le_refl 0) (Nat.le_refl 0) dX3_shorter_18 ?_
      obtain rfl := Option.some.inj hE
      exact m_iret F hM hr rfl rfl dX3_shorter_21
    · replace hE := (if_pos c7).symm.trans hE
      refine lv_iload_n hx hb dX3_shorter_10 rfl (lv_at hl 0 rfl) ?_
      refine lv_iload_n hx hb dX3_shorter_11 rfl (lv_at hl 1 rfl) ?_
      refine va_mmax hx hb (F.1.2.2.1.trans hl.1.symm) F.1.2.2.2.1 (F.1.2.2.2.2 (.methodLink RX3 33 Lib.Math.max.name) (by decide +kernel)) (F.1.2.2.2.2 (.static Lib.Math.max.name) (by decide +kernel)) (F.1.2.2.2.2 (.initialized "java/lang/Math") (by decide +kernel)) (F.1.2.2.2.2 (.code Lib.Math.max.name Lib.Math.max.code 2 (some .int)) (by decide +kernel)) (Nat.le_of_ble_eq_true rfl) (Nat.le_of_ble_eq_true rfl) (Nat.le_refl 0) (Nat.le_refl 0) dX3_shorter_12 ?_
      obtain rfl := Option.some.inj hE
      exact m_iret F hM hr rfl rfl dX3_shorter_15
/-! ===== X3_tell: reads , writes G0 G1, frames 2, locals 43 ===== -/
def f_X3_tell (nn : Nat) (g0 : Nat → Nat → Int32) (g1 : Nat → Nat → Int32) (p1 : Int32) (p2 : Int32) (p3 : Int32) : Option ((Nat → Nat → Int32) × (Nat → Nat → Int32)) :=
ck p1 nn (
ck p2 nn (
nmd (va_up g0 p1.toNatClampNeg (upd (g0 p1.toNatClampNeg) p2.toNatClampNeg p3)) fun w8_2 =>
ck p2 nn (
ck p1 nn (
bd (f_X3_shorter p3 (w8_2 p2.toNatClampNeg p1.toNatClampNeg)) fun o18_5 =>
ck p1 nn (
ck p2 nn (
nmd (va_up g1 p1.toNatClampNeg (upd (g1 p1.toNatClampNeg) p2.toNatClampNeg o18_5)) fun w32_8 =>
ck p2 nn (
ck p1 nn (
nmd (va_up w32_8 p2.toNatClampNeg (upd (w32_8 p2.toNatClampNeg) p1.toNatClampNeg o18_5)) fun w42_11 =>
some (w8_2, w42_11)))))))))
set_option maxHeartbeats 4000000 in
set_option maxRecDepth 100000 in
theorem c_X3_tell (l : Launch) (D : va_G) (y : Nat → ClassId) (nn : Nat) (ad : Nat → Nat) (sz : Nat) (I : Nat → Int32) (J : Nat → Int64) (A : Nat → Nat → Int32) (B : Nat → Nat → Int64) (G : Nat → Nat → Nat → Int32) (p1 : Int32) (p2 : Int32) (p3 : Int32)  (out : (Nat → Nat → Int32) × (Nat → Nat → Int32)) (hE : f_X3_tell nn (G 0) (G 1) p1 p2 p3 = some out) : Met l yX3_tell wsX3_tell ({ frames := 2, cells := 0, slots := 0, locals := 43 } : Room) (mPc [.ref (ad 1), .int p1, .int p2, .int p3] D y nn ad sz I J A B G) (mQv D y nn ad (mA y nn ad I J A B G sz) (I, J, A, B, (va_up (va_up G 0 out.1) 1 out.2))) 0 0 (mA y nn ad I J A B G sz) := by
  refine Met.ofW (cc := cX3_tell) (maxL := 5) (ret := none) (by decide) rfl ?_
  intro p e s m args below meth c s₁ Bd hml hv
  obtain ⟨rfl, hsz, hP, hK, hD0, hN⟩ := hv
  have hr := Bd.returns
  subst hsz
  have F : Fx p s m ([.ref (ad 1), .int p1, .int p2, .int p3] : List Value).toArray meth c cX3_tell 5 wsX3_tell RX3 D y (mA y nn ad I J A B G s.heap.size) := ⟨⟨Bd.exec, Bd.bytes, hml, findClass_of_methodNamed Bd.named, atoms_spec (ws := wsX3_tell) Bd.pre⟩, hK, hN, fun q h => Or.inr h, Bd.notSynchronized⟩
  have hM := m_start (s := s) rfl hP hD0
  have hM := m_mem (I2 := I) (J2 := J) (A2 := A) (B2 := B) (G2 := (va_up (va_up G 0 (G 0)) 1 (G 1))) hM (by rfl) (by rfl) (by rfl) (by rfl) (by simp only [up_id])
  have hx := F.1.1
  have hb := F.1.2.1
  have hl := lv_entry ([.ref (ad 1), .int p1, .int p2, .int p3]) (n := 5) (Nat.le_of_ble_eq_true rfl)
  rw [lg_entry_eq]
  generalize (lg_sl ([.ref (ad 1), .int p1, .int p2, .int p3]) ++ List.replicate (5 - (lg_sl ([.ref (ad 1), .int p1, .int p2, .int p3])).length) Slot.unset).toArray = ls at hl ⊢
  have hl : lv_has ls 5 [(0, .ref (ad 1)), (1, .int p1), (2, .int p2), (3, .int p3)] := hl
  show W p l e ({ frames := 2, cells := 0, slots := 0, locals := 43 } : Room) s m _ below meth c s.heap [] 0 0 _ _
  obtain ⟨locs, hlo⟩ : ∃ locs : List Loc, locs = [] := ⟨_, rfl⟩
  rw [← hlo]; rw [← hlo] at hM
  unfold f_X3_tell at hE
  revert hM
  suffices hH : ∀ H : Heap, MM D y nn ad (mA y nn ad I J A B G s.heap.size) s.heap I J A B (va_up (va_up G 0 (G 0)) 1 (G 1)) H locs → W p l e ({ frames := 2, cells := 0, slots := 0, locals := 43 } : Room) s m ([.ref (ad 1), .int p1, .int p2, .int p3] : List Value).toArray below meth c H locs 0 0 (MQ below (mQv D y nn ad (mA y nn ad I J A B G s.heap.size) (I, J, A, B, (va_up (va_up G 0 out.1) 1 out.2))) ([.ref (ad 1), .int p1, .int p2, .int p3] : List Value).toArray s 0 0 (mA y nn ad I J A B G s.heap.size)) (F0 m 0 ls []) from hH s.heap
  intro H hM
  refine lv_aload_n hx hb dX3_tell_0 rfl (lv_at hl 0 rfl) ?_
  refine m_get F hM 1 mg_1 rfl 1 (by decide) (by decide +kernel) (by decide +kernel) (v := .ref (ad 8)) rfl dX3_tell_1 ?_
  refine lv_iload_n hx hb dX3_tell_4 rfl (lv_at hl 1 rfl) ?_
  obtain ⟨hi5_0, hE⟩ := ck_some hE
  refine m_aald F hM mg_8 hi5_0 dX3_tell_5 ?_
  refine lv_iload_n hx hb dX3_tell_6 rfl (lv_at hl 2 rfl) ?_
  refine lv_iload_n hx hb dX3_tell_7 rfl (lv_at hl 3 rfl) ?_
  obtain ⟨hi8_1, hE⟩ := ck_some hE
  obtain ⟨w8_2, ew8_2, hE⟩ := nmd_some hE
  refine m_rast (M := (G 0)) (G' := (va_up (va_up G 0 w8_2) 1 (G 1))) F hM (by decide) (vp_lt hi5_0) rfl (by rw [ew8_2]; exact un_0_1__0) hi8_1 dX3_tell_8 (fun H locs hM => ?_)
  refine lv_iload_n hx hb dX3_tell_9 rfl (lv_at hl 3 rfl) ?_
  refine lv_aload_n hx hb dX3_tell_10 rfl (lv_at hl 0 rfl) ?_
  refine m_get F hM 1 mg_1 rfl 1 (by decide) (by decide +kernel) (by decide +kernel) (v := .ref (ad 8)) rfl dX3_tell_11 ?_
  refine lv_iload_n hx hb dX3_tell_14 rfl (lv_at hl 2 rfl) ?_
  obtain ⟨hi15_3, hE⟩ := ck_some hE
  refine m_aald F hM mg_8 hi15_3 dX3_tell_15 ?_
  refine lv_iload_n hx hb dX3_tell_16 rfl (lv_at hl 1 rfl) ?_
  obtain ⟨hi17_4, hE⟩ := ck_some hE
  refine m_rald (M := w8_2) F hM (by decide) (vp_lt hi15_3) rfl hi17_4 dX3_tell_17 ?_
  obtain ⟨o18_5, ho18_5, hE⟩ := bd_some hE
  refine m_callSi (As := [.int p3, .int (w8_2 p2.toNatClampNeg p1.toNatClampNeg)]) (I2 := I) (J2 := J) (A2 := A) (B2 := B) (G2 := (va_up (va_up G 0 w8_2) 1 (G 1))) F hM (c_X3_shorter l D y nn ad H.size I J A B (va_up (va_up G 0 w8_2) 1 (G 1)) p3 (w8_2 p2.toNatClampNeg p1.toNatClampNeg)  o18_5 ho18_5) (va_cwS 2 F.1.2.2.2.2 gX3_tell_X3_shorter rfl rfl rfl (by decide +kernel) ⟨Nat.le_of_ble_eq_true rfl, Nat.le_of_ble_eq_true rfl⟩) rfl hl.1 (Nat.le_of_ble_eq_true rfl) dX3_tell_18 ⟨Nat.le_refl 0, Nat.le_refl 0⟩ rfl rfl rfl rfl rfl (fun H locs hM => ?_)
  refine lv_istore (lv' := [(4, .int o18_5), (0, .ref (ad 1)), (1, .int p1), (2, .int p2), (3, .int p3)]) hx hb dX3_tell_21 hl (by decide) rfl (fun ls hl => ?_)
  refine lv_aload_n hx hb dX3_tell_23 rfl (lv_at hl 1 rfl) ?_
  refine m_get F hM 1 mg_1 rfl 2 (by decide) (by decide +kernel) (by decide +kernel) (v := .ref (ad 9)) rfl dX3_tell_24 ?_
  refine lv_iload_n hx hb dX3_tell_27 rfl (lv_at hl 2 rfl) ?_
  obtain ⟨hi28_6, hE⟩ := ck_some hE
  refine m_aald F hM mg_9 hi28_6 dX3_tell_28 ?_
  refine lv_iload_n hx hb dX3_tell_29 rfl (lv_at hl 3 rfl) ?_
  refine lv_iload hx hb dX3_tell_30 (lv_at hl 0 rfl) ?_
  obtain ⟨hi32_7, hE⟩ := ck_some hE
  obtain ⟨w32_8, ew32_8, hE⟩ := nmd_some hE
  refine m_rast (M := (G 1)) (G' := (va_up (va_up G 0 w8_2) 1 w32_8)) F hM (by decide) (vp_lt hi28_6) rfl (by rw [ew32_8]; exact un_0_1__1) hi32_7 dX3_tell_32 (fun H locs hM => ?_)
  refine lv_aload_n hx hb dX3_tell_33 rfl (lv_at hl 1 rfl) ?_
  refine m_get F hM 1 mg_1 rfl 2 (by decide) (by decide +kernel) (by decide +kernel) (v := .ref (ad 9)) rfl dX3_tell_34 ?_
  refine lv_iload_n hx hb dX3_tell_37 rfl (lv_at hl 3 rfl) ?_
  obtain ⟨hi38_9, hE⟩ := ck_some hE
  refine m_aald F hM mg_9 hi38_9 dX3_tell_38 ?_
  refine lv_iload_n hx hb dX3_tell_39 rfl (lv_at hl 2 rfl) ?_
  refine lv_iload hx hb dX3_tell_40 (lv_at hl 0 rfl) ?_
  obtain ⟨hi42_10, hE⟩ := ck_some hE
  obtain ⟨w42_11, ew42_11, hE⟩ := nmd_some hE
  refine m_rast (M := w32_8) (G' := (va_up (va_up G 0 w8_2) 1 w42_11)) F hM (by decide) (vp_lt hi38_9) rfl (by rw [ew42_11]; exact un_0_1__1) hi42_10 dX3_tell_42 (fun H locs hM => ?_)
  obtain rfl := Option.some.inj hE
  exact m_vret F hM hr rfl dX3_tell_43
/-! ===== X3_placesWithStreets: reads I0 G1, writes , frames 0, locals 0 ===== -/
def f_X3_placesWithStreets_14 (N : Nat) (nn : Nat) (i0 : Int32) (g1 : Nat → Nat → Int32) (nx4 : Int32 → Int32 → Option (Int32)) (nx14 : Int32 → Int32 → Int32 → Option (Int32)) (x1 : Int32) (x2 : Int32) (x3 : Int32) : Option (Int32) :=
(if i0 ≤ x3 then
nx4 x1 (x2 + (1 : Int32))
else
ck x2 nn (
ck x3 nn (
(if (g1 x2.toNatClampNeg x3.toNatClampNeg) = (-1 : Int32) then
nx14 x1 x2 (x3 + (1 : Int32))
else
nx14 (x1 ||| ((1 : Int32) <<< (x2 &&& 31))) x2 (x3 + (1 : Int32))))))
def f_X3_placesWithStreets_4 (N : Nat) (nn : Nat) (i0 : Int32) (g1 : Nat → Nat → Int32)  (nx4 : Int32 → Int32 → Option (Int32)) (x1 : Int32) (x2 : Int32) : Option (Int32) :=
(if i0 ≤ x2 then
some x1
else
lq3 (f_X3_placesWithStreets_14 N nn i0 g1 nx4) N x1 x2 (0 : Int32))
def f_X3_placesWithStreets (N : Nat) (nn : Nat) (i0 : Int32) (g1 : Nat → Nat → Int32)   : Option (Int32) :=
lq2 (f_X3_placesWithStreets_4 N nn i0 g1 ) N (0 : Int32) (0 : Int32)
set_option maxHeartbeats 4000000 in
set_option maxRecDepth 100000 in
theorem s_X3_placesWithStreets_14 {p : Program} {l : Launch} {e : Env} {s : State} {m : MethodId} {args : Array Value} {below : List Frame} {meth : Method} {c : Code} {D : va_G} {y : Nat → ClassId} {nn : Nat} {ad : Nat → Nat} {A0 : Nat → Prop} {I : Nat → Int32} {J : Nat → Int64} {A : Nat → Nat → Int32} {B : Nat → Nat → Int64} {G : Nat → Nat → Nat → Int32} (F : Fx p s m args meth c cX3_placesWithStreets 4 wsX3_placesWithStreets RX3 D y A0) (hr : meth.sig.returnType = (some .int)) {out : Int32} {N : Nat} (nx4 : Int32 → Int32 → Option (Int32)) (hn4 : ∀ (x1 : Int32) (x2 : Int32) (ls : Array Slot) (H : Heap) (locs : List Loc), nx4 x1 x2 = some out → MM D y nn ad A0 s.heap I J A B G H locs → lv_has ls 4 [(0, .ref (ad 1)), (1, .int x1), (2, .int x2)] → W p l e ({ frames := 0, cells := 0, slots := 0, locals := 0 } : Room) s m args below meth c H locs 0 0 (MQ below (mQi D y nn ad A0 out (I, J, A, B, G)) args s 0 0 A0) (F0 m 4 ls [])) (nx14 : Int32 → Int32 → Int32 → Option (Int32)) (hn14 : ∀ (x1 : Int32) (x2 : Int32) (x3 : Int32) (ls : Array Slot) (H : Heap) (locs : List Loc), nx14 x1 x2 x3 = some out → MM D y nn ad A0 s.heap I J A B G H locs → lv_has ls 4 [(0, .ref (ad 1)), (1, .int x1), (2, .int x2), (3, .int x3)] → W p l e ({ frames := 0, cells := 0, slots := 0, locals := 0 } : Room) s m args below meth c H locs 0 0 (MQ below (mQi D y nn ad A0 out (I, J, A, B, G)) args s 0 0 A0) (F0 m 14 ls [])) : ∀ (x1 : Int32) (x2 : Int32) (x3 : Int32) (ls : Array Slot) (H : Heap) (locs : List Loc), f_X3_placesWithStreets_14 N nn (I 0) (G 1) nx4 nx14 x1 x2 x3 = some out → MM D y nn ad A0 s.heap I J A B G H locs → lv_has ls 4 [(0, .ref (ad 1)), (1, .int x1), (2, .int x2), (3, .int x3)] → W p l e ({ frames := 0, cells := 0, slots := 0, locals := 0 } : Room) s m args below meth c H locs 0 0 (MQ below (mQi D y nn ad A0 out (I, J, A, B, G)) args s 0 0 A0) (F0 m 14 ls []) := by
  intro x1 x2 x3 ls H locs hE hM hl
  have hx := F.1.1
  have hb := F.1.2.1
  unfold f_X3_placesWithStreets_14 at hE
  refine lv_iload_n hx hb dX3_placesWithStreets_14 rfl (lv_at hl 3 rfl) ?_
  refine lv_aload_n hx hb dX3_placesWithStreets_15 rfl (lv_at hl 0 rfl) ?_
  refine m_get F hM 1 mg_1 rfl 0 (by decide) (by decide +kernel) (by decide +kernel) (v := .int (I 0)) rfl dX3_placesWithStreets_16 ?_
  refine lv_icmp_ge (tgt := 46) hx hb dX3_placesWithStreets_19 (by decide) (fun c19 => ?_) (fun c19 => ?_)
  · replace hE := (if_pos c19).symm.trans hE
    refine lv_iinc (v := x2 + (1 : Int32)) (lv' := [(2, .int (x2 + (1 : Int32))), (0, .ref (ad 1)), (1, .int x1), (3, .int x3)]) hx hb dX3_placesWithStreets_46 hl (k := 2) rfl rfl (by decide) rfl (fun ls hl => ?_)
    refine lv_goto (tgt := 4) hx hb dX3_placesWithStreets_49 (by decide) ?_
    exact hn4 x1 (x2 + (1 : Int32)) ls H locs hE hM (lv_sub hl [1, 2, 0] rfl)
  · replace hE := (if_neg c19).symm.trans hE
    refine lv_aload_n hx hb dX3_placesWithStreets_22 rfl (lv_at hl 0 rfl) ?_
    refine m_get F hM 1 mg_1 rfl 2 (by decide) (by decide +kernel) (by decide +kernel) (v := .ref (ad 9)) rfl dX3_placesWithStreets_23 ?_
    refine lv_iload_n hx hb dX3_placesWithStreets_26 rfl (lv_at hl 2 rfl) ?_
    obtain ⟨hi27_0, hE⟩ := ck_some hE
    refine m_aald F hM mg_9 hi27_0 dX3_placesWithStreets_27 ?_
    refine lv_iload_n hx hb dX3_placesWithStreets_28 rfl (lv_at hl 3 rfl) ?_
    obtain ⟨hi29_1, hE⟩ := ck_some hE
    refine m_rald (M := (G 1)) F hM (by decide) (vp_lt hi27_0) rfl hi29_1 dX3_placesWithStreets_29 ?_
    refine lv_iconst (v := (-1)) hx hb dX3_placesWithStreets_30 (by decide) ?_
    refine lv_icmp_eq (tgt := 40) hx hb dX3_placesWithStreets_31 (by decide) (fun c31 => ?_) (fun c31 => ?_)
    · replace hE := (if_pos c31).symm.trans hE
      refine lv_iinc (v := x3 + (1 : Int32)) (lv' := [(3, .int (x3 + (1 : Int32))), (0, .ref (ad 1)), (1, .int x1), (2, .int x2)]) hx hb dX3_placesWithStreets_40 hl (k := 3) rfl rfl (by decide) rfl (fun ls hl => ?_)
      refine lv_goto (tgt := 14) hx hb dX3_placesWithStreets_43 (by decide) ?_
      exact hn14 x1 x2 (x3 + (1 : Int32)) ls H locs hE hM (lv_sub hl [1, 2, 3, 0] rfl)
    · replace hE := (if_neg c31).symm.trans hE
      refine lv_iload_n hx hb dX3_placesWithStreets_34 rfl (lv_at hl 1 rfl) ?_
      refine lv_iconst (v := 1) hx hb dX3_placesWithStreets_35 (by decide) ?_
      refine lv_iload_n hx hb dX3_placesWithStreets_36 rfl (lv_at hl 2 rfl) ?_
      refine lv_ishl hx hb dX3_placesWithStreets_37 ?_
      refine lv_ior hx hb dX3_placesWithStreets_38 ?_
      refine lv_istore_n (lv' := [(1, .int (x1 ||| ((1 : Int32) <<< (x2 &&& 31)))), (0, .ref (ad 1)), (2, .int x2), (3, .int x3)]) hx hb dX3_placesWithStreets_39 rfl hl (by decide) rfl (fun ls hl => ?_)
      refine lv_iinc (v := x3 + (1 : Int32)) (lv' := [(3, .int (x3 + (1 : Int32))), (1, .int (x1 ||| ((1 : Int32) <<< (x2 &&& 31)))), (0, .ref (ad 1)), (2, .int x2)]) hx hb dX3_placesWithStreets_40 hl (k := 3) rfl rfl (by decide) rfl (fun ls hl => ?_)
      refine lv_goto (tgt := 14) hx hb dX3_placesWithStreets_43 (by decide) ?_
      exact hn14 (x1 ||| ((1 : Int32) <<< (x2 &&& 31))) x2 (x3 + (1 : Int32)) ls H locs hE hM (lv_sub hl [2, 1, 3, 0] rfl)
theorem k_X3_placesWithStreets_14 {p : Program} {l : Launch} {e : Env} {s : State} {m : MethodId} {args : Array Value} {below : List Frame} {meth : Method} {c : Code} {D : va_G} {y : Nat → ClassId} {nn : Nat} {ad : Nat → Nat} {A0 : Nat → Prop} {I : Nat → Int32} {J : Nat → Int64} {A : Nat → Nat → Int32} {B : Nat → Nat → Int64} {G : Nat → Nat → Nat → Int32} (F : Fx p s m args meth c cX3_placesWithStreets 4 wsX3_placesWithStreets RX3 D y A0) (hr : meth.sig.returnType = (some .int)) {out : Int32} {N : Nat} (nx4 : Int32 → Int32 → Option (Int32)) (hn4 : ∀ (x1 : Int32) (x2 : Int32) (ls : Array Slot) (H : Heap) (locs : List Loc), nx4 x1 x2 = some out → MM D y nn ad A0 s.heap I J A B G H locs → lv_has ls 4 [(0, .ref (ad 1)), (1, .int x1), (2, .int x2)] → W p l e ({ frames := 0, cells := 0, slots := 0, locals := 0 } : Room) s m args below meth c H locs 0 0 (MQ below (mQi D y nn ad A0 out (I, J, A, B, G)) args s 0 0 A0) (F0 m 4 ls [])) : ∀ (n : Nat), ∀ (x1 : Int32) (x2 : Int32) (x3 : Int32) (ls : Array Slot) (H : Heap) (locs : List Loc), lq3 (f_X3_placesWithStreets_14 N nn (I 0) (G 1) nx4) n x1 x2 x3 = some out → MM D y nn ad A0 s.heap I J A B G H locs → lv_has ls 4 [(0, .ref (ad 1)), (1, .int x1), (2, .int x2), (3, .int x3)] → W p l e ({ frames := 0, cells := 0, slots := 0, locals := 0 } : Room) s m args below meth c H locs 0 0 (MQ below (mQi D y nn ad A0 out (I, J, A, B, G)) args s 0 0 A0) (F0 m 14 ls []) := by
  intro n
  induction n with
  | zero =>
    intro x1 x2 x3 ls H locs hE
    cases (show (none : Option _) = some out from hE)
  | succ n ih =>
    intro x1 x2 x3 ls H locs hE hM hl
    exact s_X3_placesWithStreets_14 F hr (N := N) nx4 hn4 (lq3 (f_X3_placesWithStreets_14 N nn (I 0) (G 1) nx4) n) ih x1 x2 x3 ls H locs hE hM hl
set_option maxHeartbeats 4000000 in
set_option maxRecDepth 100000 in
theorem s_X3_placesWithStreets_4 {p : Program} {l : Launch} {e : Env} {s : State} {m : MethodId} {args : Array Value} {below : List Frame} {meth : Method} {c : Code} {D : va_G} {y : Nat → ClassId} {nn : Nat} {ad : Nat → Nat} {A0 : Nat → Prop} {I : Nat → Int32} {J : Nat → Int64} {A : Nat → Nat → Int32} {B : Nat → Nat → Int64} {G : Nat → Nat → Nat → Int32} (F : Fx p s m args meth c cX3_placesWithStreets 4 wsX3_placesWithStreets RX3 D y A0) (hr : meth.sig.returnType = (some .int)) {out : Int32} {N : Nat}  (nx4 : Int32 → Int32 → Option (Int32)) (hn4 : ∀ (x1 : Int32) (x2 : Int32) (ls : Array Slot) (H : Heap) (locs : List Loc), nx4 x1 x2 = some out → MM D y nn ad A0 s.heap I J A B G H locs → lv_has ls 4 [(0, .ref (ad 1)), (1, .int x1), (2, .int x2)] → W p l e ({ frames := 0, cells := 0, slots := 0, locals := 0 } : Room) s m args below meth c H locs 0 0 (MQ below (mQi D y nn ad A0 out (I, J, A, B, G)) args s 0 0 A0) (F0 m 4 ls [])) : ∀ (x1 : Int32) (x2 : Int32) (ls : Array Slot) (H : Heap) (locs : List Loc), f_X3_placesWithStreets_4 N nn (I 0) (G 1)  nx4 x1 x2 = some out → MM D y nn ad A0 s.heap I J A B G H locs → lv_has ls 4 [(0, .ref (ad 1)), (1, .int x1), (2, .int x2)] → W p l e ({ frames := 0, cells := 0, slots := 0, locals := 0 } : Room) s m args below meth c H locs 0 0 (MQ below (mQi D y nn ad A0 out (I, J, A, B, G)) args s 0 0 A0) (F0 m 4 ls []) := by
  intro x1 x2 ls H locs hE hM hl
  have hx := F.1.1
  have hb := F.1.2.1
  unfold f_X3_placesWithStreets_4 at hE
  refine lv_iload_n hx hb dX3_placesWithStreets_4 rfl (lv_at hl 2 rfl) ?_
  refine lv_aload_n hx hb dX3_placesWithStreets_5 rfl (lv_at hl 0 rfl) ?_
  refine m_get F hM 1 mg_1 rfl 0 (by decide) (by decide +kernel) (by decide +kernel) (v := .int (I 0)) rfl dX3_placesWithStreets_6 ?_
  refine lv_icmp_ge (tgt := 52) hx hb dX3_placesWithStreets_9 (by decide) (fun c9 => ?_) (fun c9 => ?_)
  · replace hE := (if_pos c9).symm.trans hE
    refine lv_iload_n hx hb dX3_placesWithStreets_52 rfl (lv_at hl 1 rfl) ?_
    obtain rfl := Option.some.inj hE
    exact m_iret F hM hr rfl rfl dX3_placesWithStreets_53
  · replace hE := (if_neg c9).symm.trans hE
    refine lv_iconst (v := 0) hx hb dX3_placesWithStreets_12 (by decide) ?_
    refine lv_istore_n (lv' := [(3, .int (0 : Int32)), (0, .ref (ad 1)), (1, .int x1), (2, .int x2)]) hx hb dX3_placesWithStreets_13 rfl hl (by decide) rfl (fun ls hl => ?_)
    exact k_X3_placesWithStreets_14 F hr (N := N) nx4 hn4 N x1 x2 (0 : Int32) ls H locs hE hM (lv_sub hl [1, 2, 3, 0] rfl)
theorem k_X3_placesWithStreets_4 {p : Program} {l : Launch} {e : Env} {s : State} {m : MethodId} {args : Array Value} {below : List Frame} {meth : Method} {c : Code} {D : va_G} {y : Nat → ClassId} {nn : Nat} {ad : Nat → Nat} {A0 : Nat → Prop} {I : Nat → Int32} {J : Nat → Int64} {A : Nat → Nat → Int32} {B : Nat → Nat → Int64} {G : Nat → Nat → Nat → Int32} (F : Fx p s m args meth c cX3_placesWithStreets 4 wsX3_placesWithStreets RX3 D y A0) (hr : meth.sig.returnType = (some .int)) {out : Int32} {N : Nat}  : ∀ (n : Nat), ∀ (x1 : Int32) (x2 : Int32) (ls : Array Slot) (H : Heap) (locs : List Loc), lq2 (f_X3_placesWithStreets_4 N nn (I 0) (G 1) ) n x1 x2 = some out → MM D y nn ad A0 s.heap I J A B G H locs → lv_has ls 4 [(0, .ref (ad 1)), (1, .int x1), (2, .int x2)] → W p l e ({ frames := 0, cells := 0, slots := 0, locals := 0 } : Room) s m args below meth c H locs 0 0 (MQ below (mQi D y nn ad A0 out (I, J, A, B, G)) args s 0 0 A0) (F0 m 4 ls []) := by
  intro n
  induction n with
  | zero =>
    intro x1 x2 ls H locs hE
    cases (show (none : Option _) = some out from hE)
  | succ n ih =>
    intro x1 x2 ls H locs hE hM hl
    exact s_X3_placesWithStreets_4 F hr (N := N)  (lq2 (f_X3_placesWithStreets_4 N nn (I 0) (G 1) ) n) ih x1 x2 ls H locs hE hM hl
set_option maxHeartbeats 4000000 in
set_option maxRecDepth 100000 in
theorem c_X3_placesWithStreets (l : Launch) (D : va_G) (y : Nat → ClassId) (nn : Nat) (ad : Nat → Nat) (sz : Nat) (I : Nat → Int32) (J : Nat → Int64) (A : Nat → Nat → Int32) (B : Nat → Nat → Int64) (G : Nat → Nat → Nat → Int32)  (N : Nat) (out : Int32) (hE : f_X3_placesWithStreets N nn (I 0) (G 1)   = some out) : Met l yX3_placesWithStreets wsX3_placesWithStreets ({ frames := 0, cells := 0, slots := 0, locals := 0 } : Room) (mPc [.ref (ad 1)] D y nn ad sz I J A B G) (mQi D y nn ad (mA y nn ad I J A B G sz) out (I, J, A, B, G)) 0 0 (mA y nn ad I J A B G sz) := by
  refine Met.ofW (cc := cX3_placesWithStreets) (maxL := 4) (ret := (some .int)) (by decide) rfl ?_
  intro p e s m args below meth c s₁ Bd hml hv
  obtain ⟨rfl, hsz, hP, hK, hD0, hN⟩ := hv
  have hr := Bd.returns
  subst hsz
  have F : Fx p s m ([.ref (ad 1)] : List Value).toArray meth c cX3_placesWithStreets 4 wsX3_placesWithStreets RX3 D y (mA y nn ad I J A B G s.heap.size) := ⟨⟨Bd.exec, Bd.bytes, hml, findClass_of_methodNamed Bd.named, atoms_spec (ws := wsX3_placesWithStreets) Bd.pre⟩, hK, hN, fun q h => Or.inr h, Bd.notSynchronized⟩
  have hM := m_start (s := s) rfl hP hD0
  have hM := m_mem (I2 := I) (J2 := J) (A2 := A) (B2 := B) (G2 := G) hM (by rfl) (by rfl) (by rfl) (by rfl) (by rfl)
  have hx := F.1.1
  have hb := F.1.2.1
  have hl := lv_entry ([.ref (ad 1)]) (n := 4) (Nat.le_of_ble_eq_true rfl)
  rw [lg_entry_eq]
  generalize (lg_sl ([.ref (ad 1)]) ++ List.replicate (4 - (lg_sl ([.ref (ad 1)])).length) Slot.unset).toArray = ls at hl ⊢
  have hl : lv_has ls 4 [(0, .ref (ad 1))] := hl
  show W p l e ({ frames := 0, cells := 0, slots := 0, locals := 0 } : Room) s m _ below meth c s.heap [] 0 0 _ _
  obtain ⟨locs, hlo⟩ : ∃ locs : List Loc, locs = [] := ⟨_, rfl⟩
  rw [← hlo]; rw [← hlo] at hM
  unfold f_X3_placesWithStreets at hE
  revert hM
  suffices hH : ∀ H : Heap, MM D y nn ad (mA y nn ad I J A B G s.heap.size) s.heap I J A B G H locs → W p l e ({ frames := 0, cells := 0, slots := 0, locals := 0 } : Room) s m ([.ref (ad 1)] : List Value).toArray below meth c H locs 0 0 (MQ below (mQi D y nn ad (mA y nn ad I J A B G s.heap.size) out (I, J, A, B, G)) ([.ref (ad 1)] : List Value).toArray s 0 0 (mA y nn ad I J A B G s.heap.size)) (F0 m 0 ls []) from hH s.heap
  intro H hM
  refine lv_iconst (v := 0) hx hb dX3_placesWithStreets_0 (by decide) ?_
  refine lv_istore_n (lv' := [(1, .int (0 : Int32)), (0, .ref (ad 1))]) hx hb dX3_placesWithStreets_1 rfl hl (by decide) rfl (fun ls hl => ?_)
  refine lv_iconst (v := 0) hx hb dX3_placesWithStreets_2 (by decide) ?_
  refine lv_istore_n (lv' := [(2, .int (0 : Int32)), (1, .int (0 : Int32)), (0, .ref (ad 1))]) hx hb dX3_placesWithStreets_3 rfl hl (by decide) rfl (fun ls hl => ?_)
  exact k_X3_placesWithStreets_4 F hr (N := N)  N (0 : Int32) (0 : Int32) ls H locs hE hM (lv_sub hl [2, 1, 0] rfl)
/-! ===== X3_spread@1=8:w: reads I0 G0, writes , frames 0, locals 0 ===== -/
def f_X3_spread_w_18 (N : Nat) (nn : Nat) (i0 : Int32) (g0 : Nat → Nat → Int32) (nx6 : Int32 → Int32 → Int32 → Option (Int32)) (nx18 : Int32 → Int32 → Int32 → Int32 → Option (Int32)) (x3 : Int32) (x4 : Int32) (x5 : Int32) (x6 : Int32) : Option (Int32) :=
(if i0 ≤ x6 then
nx6 x3 x4 (x5 + (1 : Int32))
else
(if x3 = (0 : Int32) then
(if x3 = (0 : Int32) then
ck x5 nn (
ck x6 nn (
(if (g0 x5.toNatClampNeg x6.toNatClampNeg) = (-1 : Int32) then
nx18 x3 x4 x5 (x6 + (1 : Int32))
else
(if ((x4 >>> (x5 &&& 31)) &&& (1 : Int32)) = (0 : Int32) then
nx18 x3 x4 x5 (x6 + (1 : Int32))
else
nx18 x3 (x4 ||| ((1 : Int32) <<< (x6 &&& 31))) x5 (x6 + (1 : Int32))))))
else
ck x5 nn (
ck x6 nn (
(if (g0 x5.toNatClampNeg x6.toNatClampNeg) = (-1 : Int32) then
nx18 x3 x4 x5 (x6 + (1 : Int32))
else
(if ((x4 >>> (x5 &&& 31)) &&& (1 : Int32)) = (0 : Int32) then
nx18 x3 x4 x5 (x6 + (1 : Int32))
else
nx18 x3 (x4 ||| ((1 : Int32) <<< (x5 &&& 31))) x5 (x6 + (1 : Int32)))))))
else
(if x3 = (0 : Int32) then
ck x5 nn (
ck x6 nn (
(if (g0 x5.toNatClampNeg x6.toNatClampNeg) = (-1 : Int32) then
nx18 x3 x4 x5 (x6 + (1 : Int32))
else
(if ((x4 >>> (x6 &&& 31)) &&& (1 : Int32)) = (0 : Int32) then
nx18 x3 x4 x5 (x6 + (1 : Int32))
else
nx18 x3 (x4 ||| ((1 : Int32) <<< (x6 &&& 31))) x5 (x6 + (1 : Int32))))))
else
ck x5 nn (
ck x6 nn (
(if (g0 x5.toNatClampNeg x6.toNatClampNeg) = (-1 : Int32) then
nx18 x3 x4 x5 (x6 + (1 : Int32))
else
(if ((x4 >>> (x6 &&& 31)) &&& (1 : Int32)) = (0 : Int32) then
nx18 x3 x4 x5 (x6 + (1 : Int32))
else
nx18 x3 (x4 ||| ((1 : Int32) <<< (x5 &&& 31))) x5 (x6 + (1 : Int32)))))))))
def f_X3_spread_w_6 (N : Nat) (nn : Nat) (i0 : Int32) (g0 : Nat → Nat → Int32)  (nx6 : Int32 → Int32 → Int32 → Option (Int32)) (x3 : Int32) (x4 : Int32) (x5 : Int32) : Option (Int32) :=
(if i0 ≤ x5 then
some x4
else
lq4 (f_X3_spread_w_18 N nn i0 g0 nx6) N x3 x4 x5 (0 : Int32))
def f_X3_spread_w (N : Nat) (nn : Nat) (i0 : Int32) (g0 : Nat → Nat → Int32)  (p2 : Int32) (p3 : Int32) : Option (Int32) :=
lq3 (f_X3_spread_w_6 N nn i0 g0 ) N p3 p2 (0 : Int32)
set_option maxHeartbeats 4000000 in
set_option maxRecDepth 100000 in
theorem s_X3_spread_w_18 {p : Program} {l : Launch} {e : Env} {s : State} {m : MethodId} {args : Array Value} {below : List Frame} {meth : Method} {c : Code} {D : va_G} {y : Nat → ClassId} {nn : Nat} {ad : Nat → Nat} {A0 : Nat → Prop} {I : Nat → Int32} {J : Nat → Int64} {A : Nat → Nat → Int32} {B : Nat → Nat → Int64} {G : Nat → Nat → Nat → Int32} (F : Fx p s m args meth c cX3_spread 9 wsX3_spread RX3 D y A0) (hr : meth.sig.returnType = (some .int)) {out : Int32} {N : Nat} (nx6 : Int32 → Int32 → Int32 → Option (Int32)) (hn6 : ∀ (x3 : Int32) (x4 : Int32) (x5 : Int32) (ls : Array Slot) (H : Heap) (locs : List Loc), nx6 x3 x4 x5 = some out → MM D y nn ad A0 s.heap I J A B G H locs → lv_has ls 9 [(0, .ref (ad 1)), (1, .ref (ad 8)), (3, .int x3), (4, .int x4), (5, .int x5)] → W p l e ({ frames := 0, cells := 0, slots := 0, locals := 0 } : Room) s m args below meth c H locs 0 0 (MQ below (mQi D y nn ad A0 out (I, J, A, B, G)) args s 0 0 A0) (F0 m 6 ls [])) (nx18 : Int32 → Int32 → Int32 → Int32 → Option (Int32)) (hn18 : ∀ (x3 : Int32) (x4 : Int32) (x5 : Int32) (x6 : Int32) (ls : Array Slot) (H : Heap) (locs : List Loc), nx18 x3 x4 x5 x6 = some out → MM D y nn ad A0 s.heap I J A B G H locs → lv_has ls 9 [(0, .ref (ad 1)), (1, .ref (ad 8)), (3, .int x3), (4, .int x4), (5, .int x5), (6, .int x6)] → W p l e ({ frames := 0, cells := 0, slots := 0, locals := 0 } : Room) s m args below meth c H locs 0 0 (MQ below (mQi D y nn ad A0 out (I, J, A, B, G)) args s 0 0 A0) (F0 m 18 ls [])) : ∀ (x3 : Int32) (x4 : Int32) (x5 : Int32) (x6 : Int32) (ls : Array Slot) (H : Heap) (locs : List Loc), f_X3_spread_w_18 N nn (I 0) (G 0) nx6 nx18 x3 x4 x5 x6 = some out → MM D y nn ad A0 s.heap I J A B G H locs → lv_has ls 9 [(0, .ref (ad 1)), (1, .ref (ad 8)), (3, .int x3), (4, .int x4), (5, .int x5), (6, .int x6)] → W p l e ({ frames := 0, cells := 0, slots := 0, locals := 0 } : Room) s m args below meth c H locs 0 0 (MQ below (mQi D y nn ad A0 out (I, J, A, B, G)) args s 0 0 A0) (F0 m 18 ls []) := by
  intro x3 x4 x5 x6 ls H locs hE hM hl
  have hx := F.1.1
  have hb := F.1.2.1
  unfold f_X3_spread_w_18 at hE
  refine lv_iload hx hb dX3_spread_18 (lv_at hl 5 rfl) ?_
  refine lv_aload_n hx hb dX3_spread_20 rfl (lv_at hl 0 rfl) ?_
  refine m_get F hM 1 mg_1 rfl 0 (by decide) (by decide +kernel) (by decide +kernel) (v := .int (I 0)) rfl dX3_spread_21 ?_
  refine lv_icmp_ge (tgt := 89) hx hb dX3_spread_24 (by decide) (fun c24 => ?_) (fun c24 => ?_)
  · replace hE := (if_pos c24).symm.trans hE
    refine lv_iinc (v := x5 + (1 : Int32)) (lv' := [(5, .int (x5 + (1 : Int32))), (0, .ref (ad 1)), (1, .ref (ad 8)), (3, .int x3), (4, .int x4), (6, .int x6)]) hx hb dX3_spread_89 hl (k := 4) rfl rfl (by decide) rfl (fun ls hl => ?_)
    refine lv_goto (tgt := 6) hx hb dX3_spread_92 (by decide) ?_
    exact hn6 x3 x4 (x5 + (1 : Int32)) ls H locs hE hM (lv_sub hl [1, 2, 3, 4, 0] rfl)
  · replace hE := (if_neg c24).symm.trans hE
    refine lv_iload_n hx hb dX3_spread_27 rfl (lv_at hl 2 rfl) ?_
    refine lv_if_eq (tgt := 36) hx hb dX3_spread_28 (by decide) (fun c28 => ?_) (fun c28 => ?_)
    · replace hE := (if_pos c28).symm.trans hE
      refine lv_iload hx hb dX3_spread_36 (lv_at hl 4 rfl) ?_
      refine lv_istore (lv' := [(7, .int x5), (0, .ref (ad 1)), (1, .ref (ad 8)), (3, .int x3), (4, .int x4), (5, .int x5), (6, .int x6)]) hx hb dX3_spread_38 hl (by decide) rfl (fun ls hl => ?_)
      refine lv_iload_n hx hb dX3_spread_40 rfl (lv_at hl 3 rfl) ?_
      refine lv_if_eq (tgt := 49) hx hb dX3_spread_41 (by decide) (fun c41 => ?_) (fun c41 => ?_)
      · replace hE := (if_pos c41).symm.trans hE
        refine lv_iload hx hb dX3_spread_49 (lv_at hl 6 rfl) ?_
        refine lv_istore (lv' := [(8, .int x6), (7, .int x5), (0, .ref (ad 1)), (1, .ref (ad 8)), (3, .int x3), (4, .int x4), (5, .int x5), (6, .int x6)]) hx hb dX3_spread_51 hl (by decide) rfl (fun ls hl => ?_)
        refine lv_aload_n hx hb dX3_spread_53 rfl (lv_at hl 3 rfl) ?_
        refine lv_iload hx hb dX3_spread_54 (lv_at hl 6 rfl) ?_
        obtain ⟨hi56_0, hE⟩ := ck_some hE
        refine m_aald F hM mg_8 hi56_0 dX3_spread_56 ?_
        refine lv_iload hx hb dX3_spread_57 (lv_at hl 7 rfl) ?_
        obtain ⟨hi59_1, hE⟩ := ck_some hE
        refine m_rald (M := (G 0)) F hM (by decide) (vp_lt hi56_0) rfl hi59_1 dX3_spread_59 ?_
        refine lv_iconst (v := (-1)) hx hb dX3_spread_60 (by decide) ?_
        refine lv_icmp_eq (tgt := 83) hx hb dX3_spread_61 (by decide) (fun c61 => ?_) (fun c61 => ?_)
        · replace hE := (if_pos c61).symm.trans hE
          refine lv_iinc (v := x6 + (1 : Int32)) (lv' := [(6, .int (x6 + (1 : Int32))), (8, .int x6), (7, .int x5), (0, .ref (ad 1)), (1, .ref (ad 8)), (3, .int x3), (4, .int x4), (5, .int x5)]) hx hb dX3_spread_83 hl (k := 7) rfl rfl (by decide) rfl (fun ls hl => ?_)
          refine lv_goto (tgt := 18) hx hb dX3_spread_86 (by decide) ?_
          exact hn18 x3 x4 x5 (x6 + (1 : Int32)) ls H locs hE hM (lv_sub hl [3, 4, 5, 6, 7, 0] rfl)
        · replace hE := (if_neg c61).symm.trans hE
          refine lv_iload hx hb dX3_spread_64 (lv_at hl 5 rfl) ?_
          refine lv_iload hx hb dX3_spread_66 (lv_at hl 1 rfl) ?_
          refine lv_ishr hx hb dX3_spread_68 ?_
          refine lv_iconst (v := 1) hx hb dX3_spread_69 (by decide) ?_
          refine lv_iand hx hb dX3_spread_70 ?_
          refine lv_if_eq (tgt := 83) hx hb dX3_spread_71 (by decide) (fun c71 => ?_) (fun c71 => ?_)
          · replace hE := (if_pos c71).symm.trans hE
            refine lv_iinc (v := x6 + (1 : Int32)) (lv' := [(6, .int (x6 + (1 : Int32))), (8, .int x6), (7, .int x5), (0, .ref (ad 1)), (1, .ref (ad 8)), (3, .int x3), (4, .int x4), (5, .int x5)]) hx hb dX3_spread_83 hl (k := 7) rfl rfl (by decide) rfl (fun ls hl => ?_)
            refine lv_goto (tgt := 18) hx hb dX3_spread_86 (by decide) ?_
            exact hn18 x3 x4 x5 (x6 + (1 : Int32)) ls H locs hE hM (lv_sub hl [3, 4, 5, 6, 7, 0] rfl)
          · replace hE := (if_neg c71).symm.trans hE
            refine lv_iload hx hb dX3_spread_74 (lv_at hl 5 rfl) ?_
            refine lv_iconst (v := 1) hx hb dX3_spread_76 (by decide) ?_
            refine lv_iload hx hb dX3_spread_77 (lv_at hl 0 rfl) ?_
            refine lv_ishl hx hb dX3_spread_79 ?_
            refine lv_ior hx hb dX3_spread_80 ?_
            refine lv_istore (lv' := [(4, .int (x4 ||| ((1 : Int32) <<< (x6 &&& 31)))), (8, .int x6), (7, .int x5), (0, .ref (ad 1)), (1, .ref (ad 8)), (3, .int x3), (5, .int x5), (6, .int x6)]) hx hb dX3_spread_81 hl (by decide) rfl (fun ls hl => ?_)
            refine lv_iinc (v := x6 + (1 : Int32)) (lv' := [(6, .int (x6 + (1 : Int32))), (4, .int (x4 ||| ((1 : Int32) <<< (x6 &&& 31)))), (8, .int x6), (7, .int x5), (0, .ref (ad 1)), (1, .ref (ad 8)), (3, .int x3), (5, .int x5)]) hx hb dX3_spread_83 hl (k := 7) rfl rfl (by decide) rfl (fun ls hl => ?_)
            refine lv_goto (tgt := 18) hx hb dX3_spread_86 (by decide) ?_
            exact hn18 x3 (x4 ||| ((1 : Int32) <<< (x6 &&& 31))) x5 (x6 + (1 : Int32)) ls H locs hE hM (lv_sub hl [4, 5, 6, 1, 7, 0] rfl)
      · replace hE := (if_neg c41).symm.trans hE
        refine lv_iload hx hb dX3_spread_44 (lv_at hl 5 rfl) ?_
        refine lv_goto (tgt := 51) hx hb dX3_spread_46 (by decide) ?_
        refine lv_istore (lv' := [(8, .int x5), (7, .int x5), (0, .ref (ad 1)), (1, .ref (ad 8)), (3, .int x3), (4, .int x4), (5, .int x5), (6, .int x6)]) hx hb dX3_spread_51 hl (by decide) rfl (fun ls hl => ?_)
        refine lv_aload_n hx hb dX3_spread_53 rfl (lv_at hl 3 rfl) ?_
        refine lv_iload hx hb dX3_spread_54 (lv_at hl 6 rfl) ?_
        obtain ⟨hi56_2, hE⟩ := ck_some hE
        refine m_aald F hM mg_8 hi56_2 dX3_spread_56 ?_
        refine lv_iload hx hb dX3_spread_57 (lv_at hl 7 rfl) ?_
        obtain ⟨hi59_3, hE⟩ := ck_some hE
        refine m_rald (M := (G 0)) F hM (by decide) (vp_lt hi56_2) rfl hi59_3 dX3_spread_59 ?_
        refine lv_iconst (v := (-1)) hx hb dX3_spread_60 (by decide) ?_
        refine lv_icmp_eq (tgt := 83) hx hb dX3_spread_61 (by decide) (fun c61 => ?_) (fun c61 => ?_)
        · replace hE := (if_pos c61).symm.trans hE
          refine lv_iinc (v := x6 + (1 : Int32)) (lv' := [(6, .int (x6 + (1 : Int32))), (8, .int x5), (7, .int x5), (0, .ref (ad 1)), (1, .ref (ad 8)), (3, .int x3), (4, .int x4), (5, .int x5)]) hx hb dX3_spread_83 hl (k := 7) rfl rfl (by decide) rfl (fun ls hl => ?_)
          refine lv_goto (tgt := 18) hx hb dX3_spread_86 (by decide) ?_
          exact hn18 x3 x4 x5 (x6 + (1 : Int32)) ls H locs hE hM (lv_sub hl [3, 4, 5, 6, 7, 0] rfl)
        · replace hE := (if_neg c61).symm.trans hE
          refine lv_iload hx hb dX3_spread_64 (lv_at hl 5 rfl) ?_
          refine lv_iload hx hb dX3_spread_66 (lv_at hl 1 rfl) ?_
          refine lv_ishr hx hb dX3_spread_68 ?_
          refine lv_iconst (v := 1) hx hb dX3_spread_69 (by decide) ?_
          refine lv_iand hx hb dX3_spread_70 ?_
          refine lv_if_eq (tgt := 83) hx hb dX3_spread_71 (by decide) (fun c71 => ?_) (fun c71 => ?_)
          · replace hE := (if_pos c71).symm.trans hE
            refine lv_iinc (v := x6 + (1 : Int32)) (lv' := [(6, .int (x6 + (1 : Int32))), (8, .int x5), (7, .int x5), (0, .ref (ad 1)), (1, .ref (ad 8)), (3, .int x3), (4, .int x4), (5, .int x5)]) hx hb dX3_spread_83 hl (k := 7) rfl rfl (by decide) rfl (fun ls hl => ?_)
            refine lv_goto (tgt := 18) hx hb dX3_spread_86 (by decide) ?_
            exact hn18 x3 x4 x5 (x6 + (1 : Int32)) ls H locs hE hM (lv_sub hl [3, 4, 5, 6, 7, 0] rfl)
          · replace hE := (if_neg c71).symm.trans hE
            refine lv_iload hx hb dX3_spread_74 (lv_at hl 5 rfl) ?_
            refine lv_iconst (v := 1) hx hb dX3_spread_76 (by decide) ?_
            refine lv_iload hx hb dX3_spread_77 (lv_at hl 0 rfl) ?_
            refine lv_ishl hx hb dX3_spread_79 ?_
            refine lv_ior hx hb dX3_spread_80 ?_
            refine lv_istore (lv' := [(4, .int (x4 ||| ((1 : Int32) <<< (x5 &&& 31)))), (8, .int x5), (7, .int x5), (0, .ref (ad 1)), (1, .ref (ad 8)), (3, .int x3), (5, .int x5), (6, .int x6)]) hx hb dX3_spread_81 hl (by decide) rfl (fun ls hl => ?_)
            refine lv_iinc (v := x6 + (1 : Int32)) (lv' := [(6, .int (x6 + (1 : Int32))), (4, .int (x4 ||| ((1 : Int32) <<< (x5 &&& 31)))), (8, .int x5), (7, .int x5), (0, .ref (ad 1)), (1, .ref (ad 8)), (3, .int x3), (5, .int x5)]) hx hb dX3_spread_83 hl (k := 7) rfl rfl (by decide) rfl (fun ls hl => ?_)
            refine lv_goto (tgt := 18) hx hb dX3_spread_86 (by decide) ?_
            exact hn18 x3 (x4 ||| ((1 : Int32) <<< (x5 &&& 31))) x5 (x6 + (1 : Int32)) ls H locs hE hM (lv_sub hl [4, 5, 6, 1, 7, 0] rfl)
    · replace hE := (if_neg c28).symm.trans hE
      refine lv_iload hx hb dX3_spread_31 (lv_at hl 5 rfl) ?_
      refine lv_goto (tgt := 38) hx hb dX3_spread_33 (by decide) ?_
      refine lv_istore (lv' := [(7, .int x6), (0, .ref (ad 1)), (1, .ref (ad 8)), (3, .int x3), (4, .int x4), (5, .int x5), (6, .int x6)]) hx hb dX3_spread_38 hl (by decide) rfl (fun ls hl => ?_)
      refine lv_iload_n hx hb dX3_spread_40 rfl (lv_at hl 3 rfl) ?_
      refine lv_if_eq (tgt := 49) hx hb dX3_spread_41 (by decide) (fun c41 => ?_) (fun c41 => ?_)
      · replace hE := (if_pos c41).symm.trans hE
        refine lv_iload hx hb dX3_spread_49 (lv_at hl 6 rfl) ?_
        refine lv_istore (lv' := [(8, .int x6), (7, .int x6), (0, .ref (ad 1)), (1, .ref (ad 8)), (3, .int x3), (4, .int x4), (5, .int x5), (6, .int x6)]) hx hb dX3_spread_51 hl (by decide) rfl (fun ls hl => ?_)
        refine lv_aload_n hx hb dX3_spread_53 rfl (lv_at hl 3 rfl) ?_
        refine lv_iload hx hb dX3_spread_54 (lv_at hl 6 rfl) ?_
        obtain ⟨hi56_4, hE⟩ := ck_some hE
        refine m_aald F hM mg_8 hi56_4 dX3_spread_56 ?_
        refine lv_iload hx hb dX3_spread_57 (lv_at hl 7 rfl) ?_
        obtain ⟨hi59_5, hE⟩ := ck_some hE
        refine m_rald (M := (G 0)) F hM (by decide) (vp_lt hi56_4) rfl hi59_5 dX3_spread_59 ?_
        refine lv_iconst (v := (-1)) hx hb dX3_spread_60 (by decide) ?_
        refine lv_icmp_eq (tgt := 83) hx hb dX3_spread_61 (by decide) (fun c61 => ?_) (fun c61 => ?_)
        · replace hE := (if_pos c61).symm.trans hE
          refine lv_iinc (v := x6 + (1 : Int32)) (lv' := [(6, .int (x6 + (1 : Int32))), (8, .int x6), (7, .int x6), (0, .ref (ad 1)), (1, .ref (ad 8)), (3, .int x3), (4, .int x4), (5, .int x5)]) hx hb dX3_spread_83 hl (k := 7) rfl rfl (by decide) rfl (fun ls hl => ?_)
          refine lv_goto (tgt := 18) hx hb dX3_spread_86 (by decide) ?_
          exact hn18 x3 x4 x5 (x6 + (1 : Int32)) ls H locs hE hM (lv_sub hl [3, 4, 5, 6, 7, 0] rfl)
        · replace hE := (if_neg c61).symm.trans hE
          refine lv_iload hx hb dX3_spread_64 (lv_at hl 5 rfl) ?_
          refine lv_iload hx hb dX3_spread_66 (lv_at hl 1 rfl) ?_
          refine lv_ishr hx hb dX3_spread_68 ?_
          refine lv_iconst (v := 1) hx hb dX3_spread_69 (by decide) ?_
          refine lv_iand hx hb dX3_spread_70 ?_
          refine lv_if_eq (tgt := 83) hx hb dX3_spread_71 (by decide) (fun c71 => ?_) (fun c71 => ?_)
          · replace hE := (if_pos c71).symm.trans hE
            refine lv_iinc (v := x6 + (1 : Int32)) (lv' := [(6, .int (x6 + (1 : Int32))), (8, .int x6), (7, .int x6), (0, .ref (ad 1)), (1, .ref (ad 8)), (3, .int x3), (4, .int x4), (5, .int x5)]) hx hb dX3_spread_83 hl (k := 7) rfl rfl (by decide) rfl (fun ls hl => ?_)
            refine lv_goto (tgt := 18) hx hb dX3_spread_86 (by decide) ?_
            exact hn18 x3 x4 x5 (x6 + (1 : Int32)) ls H locs hE hM (lv_sub hl [3, 4, 5, 6, 7, 0] rfl)
          · replace hE := (if_neg c71).symm.trans hE
            refine lv_iload hx hb dX3_spread_74 (lv_at hl 5 rfl) ?_
            refine lv_iconst (v := 1) hx hb dX3_spread_76 (by decide) ?_
            refine lv_iload hx hb dX3_spread_77 (lv_at hl 0 rfl) ?_
            refine lv_ishl hx hb dX3_spread_79 ?_
            refine lv_ior hx hb dX3_spread_80 ?_
            refine lv_istore (lv' := [(4, .int (x4 ||| ((1 : Int32) <<< (x6 &&& 31)))), (8, .int x6), (7, .int x6), (0, .ref (ad 1)), (1, .ref (ad 8)), (3, .int x3), (5, .int x5), (6, .int x6)]) hx hb dX3_spread_81 hl (by decide) rfl (fun ls hl => ?_)
            refine lv_iinc (v := x6 + (1 : Int32)) (lv' := [(6, .int (x6 + (1 : Int32))), (4, .int (x4 ||| ((1 : Int32) <<< (x6 &&& 31)))), (8, .int x6), (7, .int x6), (0, .ref (ad 1)), (1, .ref (ad 8)), (3, .int x3), (5, .int x5)]) hx hb dX3_spread_83 hl (k := 7) rfl rfl (by decide) rfl (fun ls hl => ?_)
            refine lv_goto (tgt := 18) hx hb dX3_spread_86 (by decide) ?_
            exact hn18 x3 (x4 ||| ((1 : Int32) <<< (x6 &&& 31))) x5 (x6 + (1 : Int32)) ls H locs hE hM (lv_sub hl [4, 5, 6, 1, 7, 0] rfl)
      · replace hE := (if_neg c41).symm.trans hE
        refine lv_iload hx hb dX3_spread_44 (lv_at hl 5 rfl) ?_
        refine lv_goto (tgt := 51) hx hb dX3_spread_46 (by decide) ?_
        refine lv_istore (lv' := [(8, .int x5), (7, .int x6), (0, .ref (ad 1)), (1, .ref (ad 8)), (3, .int x3), (4, .int x4), (5, .int x5), (6, .int x6)]) hx hb dX3_spread_51 hl (by decide) rfl (fun ls hl => ?_)
        refine lv_aload_n hx hb dX3_spread_53 rfl (lv_at hl 3 rfl) ?_
        refine lv_iload hx hb dX3_spread_54 (lv_at hl 6 rfl) ?_
        obtain ⟨hi56_6, hE⟩ := ck_some hE
        refine m_aald F hM mg_8 hi56_6 dX3_spread_56 ?_
        refine lv_iload hx hb dX3_spread_57 (lv_at hl 7 rfl) ?_
        obtain ⟨hi59_7, hE⟩ := ck_some hE
        refine m_rald (M := (G 0)) F hM (by decide) (vp_lt hi56_6) rfl hi59_7 dX3_spread_59 ?_
        refine lv_iconst (v := (-1)) hx hb dX3_spread_60 (by decide) ?_
        refine lv_icmp_eq (tgt := 83) hx hb dX3_spread_61 (by decide) (fun c61 => ?_) (fun c61 => ?_)
        · replace hE := (if_pos c61).symm.trans hE
          refine lv_iinc (v := x6 + (1 : Int32)) (lv' := [(6, .int (x6 + (1 : Int32))), (8, .int x5), (7, .int x6), (0, .ref (ad 1)), (1, .ref (ad 8)), (3, .int x3), (4, .int x4), (5, .int x5)]) hx hb dX3_spread_83 hl (k := 7) rfl rfl (by decide) rfl (fun ls hl => ?_)
          refine lv_goto (tgt := 18) hx hb dX3_spread_86 (by decide) ?_
          exact hn18 x3 x4 x5 (x6 + (1 : Int32)) ls H locs hE hM (lv_sub hl [3, 4, 5, 6, 7, 0] rfl)
        · replace hE := (if_neg c61).symm.trans hE
          refine lv_iload hx hb dX3_spread_64 (lv_at hl 5 rfl) ?_
          refine lv_iload hx hb dX3_spread_66 (lv_at hl 1 rfl) ?_
          refine lv_ishr hx hb dX3_spread_68 ?_
          refine lv_iconst (v := 1) hx hb dX3_spread_69 (by decide) ?_
          refine lv_iand hx hb dX3_spread_70 ?_
          refine lv_if_eq (tgt := 83) hx hb dX3_spread_71 (by decide) (fun c71 => ?_) (fun c71 => ?_)
          · replace hE := (if_pos c71).symm.trans hE
            refine lv_iinc (v := x6 + (1 : Int32)) (lv' := [(6, .int (x6 + (1 : Int32))), (8, .int x5), (7, .int x6), (0, .ref (ad 1)), (1, .ref (ad 8)), (3, .int x3), (4, .int x4), (5, .int x5)]) hx hb dX3_spread_83 hl (k := 7) rfl rfl (by decide) rfl (fun ls hl => ?_)
            refine lv_goto (tgt := 18) hx hb dX3_spread_86 (by decide) ?_
            exact hn18 x3 x4 x5 (x6 + (1 : Int32)) ls H locs hE hM (lv_sub hl [3, 4, 5, 6, 7, 0] rfl)
          · replace hE := (if_neg c71).symm.trans hE
            refine lv_iload hx hb dX3_spread_74 (lv_at hl 5 rfl) ?_
            refine lv_iconst (v := 1) hx hb dX3_spread_76 (by decide) ?_
            refine lv_iload hx hb dX3_spread_77 (lv_at hl 0 rfl) ?_
            refine lv_ishl hx hb dX3_spread_79 ?_
            refine lv_ior hx hb dX3_spread_80 ?_
            refine lv_istore (lv' := [(4, .int (x4 ||| ((1 : Int32) <<< (x5 &&& 31)))), (8, .int x5), (7, .int x6), (0, .ref (ad 1)), (1, .ref (ad 8)), (3, .int x3), (5, .int x5), (6, .int x6)]) hx hb dX3_spread_81 hl (by decide) rfl (fun ls hl => ?_)
            refine lv_iinc (v := x6 + (1 : Int32)) (lv' := [(6, .int (x6 + (1 : Int32))), (4, .int (x4 ||| ((1 : Int32) <<< (x5 &&& 31)))), (8, .int x5), (7, .int x6), (0, .ref (ad 1)), (1, .ref (ad 8)), (3, .int x3), (5, .int x5)]) hx hb dX3_spread_83 hl (k := 7) rfl rfl (by decide) rfl (fun ls hl => ?_)
            refine lv_goto (tgt := 18) hx hb dX3_spread_86 (by decide) ?_
            exact hn18 x3 (x4 ||| ((1 : Int32) <<< (x5 &&& 31))) x5 (x6 + (1 : Int32)) ls H locs hE hM (lv_sub hl [4, 5, 6, 1, 7, 0] rfl)
theorem k_X3_spread_w_18 {p : Program} {l : Launch} {e : Env} {s : State} {m : MethodId} {args : Array Value} {below : List Frame} {meth : Method} {c : Code} {D : va_G} {y : Nat → ClassId} {nn : Nat} {ad : Nat → Nat} {A0 : Nat → Prop} {I : Nat → Int32} {J : Nat → Int64} {A : Nat → Nat → Int32} {B : Nat → Nat → Int64} {G : Nat → Nat → Nat → Int32} (F : Fx p s m args meth c cX3_spread 9 wsX3_spread RX3 D y A0) (hr : meth.sig.returnType = (some .int)) {out : Int32} {N : Nat} (nx6 : Int32 → Int32 → Int32 → Option (Int32)) (hn6 : ∀ (x3 : Int32) (x4 : Int32) (x5 : Int32) (ls : Array Slot) (H : Heap) (locs : List Loc), nx6 x3 x4 x5 = some out → MM D y nn ad A0 s.heap I J A B G H locs → lv_has ls 9 [(0, .ref (ad 1)), (1, .ref (ad 8)), (3, .int x3), (4, .int x4), (5, .int x5)] → W p l e ({ frames := 0, cells := 0, slots := 0, locals := 0 } : Room) s m args below meth c H locs 0 0 (MQ below (mQi D y nn ad A0 out (I, J, A, B, G)) args s 0 0 A0) (F0 m 6 ls [])) : ∀ (n : Nat), ∀ (x3 : Int32) (x4 : Int32) (x5 : Int32) (x6 : Int32) (ls : Array Slot) (H : Heap) (locs : List Loc), lq4 (f_X3_spread_w_18 N nn (I 0) (G 0) nx6) n x3 x4 x5 x6 = some out → MM D y nn ad A0 s.heap I J A B G H locs → lv_has ls 9 [(0, .ref (ad 1)), (1, .ref (ad 8)), (3, .int x3), (4, .int x4), (5, .int x5), (6, .int x6)] → W p l e ({ frames := 0, cells := 0, slots := 0, locals := 0 } : Room) s m args below meth c H locs 0 0 (MQ below (mQi D y nn ad A0 out (I, J, A, B, G)) args s 0 0 A0) (F0 m 18 ls []) := by
  intro n
  induction n with
  | zero =>
    intro x3 x4 x5 x6 ls H locs hE
    cases (show (none : Option _) = some out from hE)
  | succ n ih =>
    intro x3 x4 x5 x6 ls H locs hE hM hl
    exact s_X3_spread_w_18 F hr (N := N) nx6 hn6 (lq4 (f_X3_spread_w_18 N nn (I 0) (G 0) nx6) n) ih x3 x4 x5 x6 ls H locs hE hM hl
set_option maxHeartbeats 4000000 in
set_option maxRecDepth 100000 in
theorem s_X3_spread_w_6 {p : Program} {l : Launch} {e : Env} {s : State} {m : MethodId} {args : Array Value} {below : List Frame} {meth : Method} {c : Code} {D : va_G} {y : Nat → ClassId} {nn : Nat} {ad : Nat → Nat} {A0 : Nat → Prop} {I : Nat → Int32} {J : Nat → Int64} {A : Nat → Nat → Int32} {B : Nat → Nat → Int64} {G : Nat → Nat → Nat → Int32} (F : Fx p s m args meth c cX3_spread 9 wsX3_spread RX3 D y A0) (hr : meth.sig.returnType = (some .int)) {out : Int32} {N : Nat}  (nx6 : Int32 → Int32 → Int32 → Option (Int32)) (hn6 : ∀ (x3 : Int32) (x4 : Int32) (x5 : Int32) (ls : Array Slot) (H : Heap) (locs : List Loc), nx6 x3 x4 x5 = some out → MM D y nn ad A0 s.heap I J A B G H locs → lv_has ls 9 [(0, .ref (ad 1)), (1, .ref (ad 8)), (3, .int x3), (4, .int x4), (5, .int x5)] → W p l e ({ frames := 0, cells := 0, slots := 0, locals := 0 } : Room) s m args below meth c H locs 0 0 (MQ below (mQi D y nn ad A0 out (I, J, A, B, G)) args s 0 0 A0) (F0 m 6 ls [])) : ∀ (x3 : Int32) (x4 : Int32) (x5 : Int32) (ls : Array Slot) (H : Heap) (locs : List Loc), f_X3_spread_w_6 N nn (I 0) (G 0)  nx6 x3 x4 x5 = some out → MM D y nn ad A0 s.heap I J A B G H locs → lv_has ls 9 [(0, .ref (ad 1)), (1, .ref (ad 8)), (3, .int x3), (4, .int x4), (5, .int x5)] → W p l e ({ frames := 0, cells := 0, slots := 0, locals := 0 } : Room) s m args below meth c H locs 0 0 (MQ below (mQi D y nn ad A0 out (I, J, A, B, G)) args s 0 0 A0) (F0 m 6 ls []) := by
  intro x3 x4 x5 ls H locs hE hM hl
  have hx := F.1.1
  have hb := F.1.2.1
  unfold f_X3_spread_w_6 at hE
  refine lv_iload hx hb dX3_spread_6 (lv_at hl 4 rfl) ?_
  refine lv_aload_n hx hb dX3_spread_8 rfl (lv_at hl 0 rfl) ?_
  refine m_get F hM 1 mg_1 rfl 0 (by decide) (by decide +kernel) (by decide +kernel) (v := .int (I 0)) rfl dX3_spread_9 ?_
  refine lv_icmp_ge (tgt := 95) hx hb dX3_spread_12 (by decide) (fun c12 => ?_) (fun c12 => ?_)
  · replace hE := (if_pos c12).symm.trans hE
    refine lv_iload hx hb dX3_spread_95 (lv_at hl 3 rfl) ?_
    obtain rfl := Option.some.inj hE
    exact m_iret F hM hr rfl rfl dX3_spread_97
  · replace hE := (if_neg c12).symm.trans hE
    refine lv_iconst (v := 0) hx hb dX3_spread_15 (by decide) ?_
    refine lv_istore (lv' := [(6, .int (0 : Int32)), (0, .ref (ad 1)), (1, .ref (ad 8)), (3, .int x3), (4, .int x4), (5, .int x5)]) hx hb dX3_spread_16 hl (by decide) rfl (fun ls hl => ?_)
    exact k_X3_spread_w_18 F hr (N := N) nx6 hn6 N x3 x4 x5 (0 : Int32) ls H locs hE hM (lv_sub hl [1, 2, 3, 4, 5, 0] rfl)
theorem k_X3_spread_w_6 {p : Program} {l : Launch} {e : Env} {s : State} {m : MethodId} {args : Array Value} {below : List Frame} {meth : Method} {c : Code} {D : va_G} {y : Nat → ClassId} {nn : Nat} {ad : Nat → Nat} {A0 : Nat → Prop} {I : Nat → Int32} {J : Nat → Int64} {A : Nat → Nat → Int32} {B : Nat → Nat → Int64} {G : Nat → Nat → Nat → Int32} (F : Fx p s m args meth c cX3_spread 9 wsX3_spread RX3 D y A0) (hr : meth.sig.returnType = (some .int)) {out : Int32} {N : Nat}  : ∀ (n : Nat), ∀ (x3 : Int32) (x4 : Int32) (x5 : Int32) (ls : Array Slot) (H : Heap) (locs : List Loc), lq3 (f_X3_spread_w_6 N nn (I 0) (G 0) ) n x3 x4 x5 = some out → MM D y nn ad A0 s.heap I J A B G H locs → lv_has ls 9 [(0, .ref (ad 1)), (1, .ref (ad 8)), (3, .int x3), (4, .int x4), (5, .int x5)] → W p l e ({ frames := 0, cells := 0, slots := 0, locals := 0 } : Room) s m args below meth c H locs 0 0 (MQ below (mQi D y nn ad A0 out (I, J, A, B, G)) args s 0 0 A0) (F0 m 6 ls []) := by
  intro n
  induction n with
  | zero =>
    intro x3 x4 x5 ls H locs hE
    cases (show (none : Option _) = some out from hE)
  | succ n ih =>
    intro x3 x4 x5 ls H locs hE hM hl
    exact s_X3_spread_w_6 F hr (N := N)  (lq3 (f_X3_spread_w_6 N nn (I 0) (G 0) ) n) ih x3 x4 x5 ls H locs hE hM hl
set_option maxHeartbeats 4000000 in
set_option maxRecDepth 100000 in
theorem c_X3_spread_w (l : Launch) (D : va_G) (y : Nat → ClassId) (nn : Nat) (ad : Nat → Nat) (sz : Nat) (I : Nat → Int32) (J : Nat → Int64) (A : Nat → Nat → Int32) (B : Nat → Nat → Int64) (G : Nat → Nat → Nat → Int32) (p2 : Int32) (p3 : Int32) (N : Nat) (out : Int32) (hE : f_X3_spread_w N nn (I 0) (G 0)  p2 p3 = some out) : Met l yX3_spread wsX3_spread ({ frames := 0, cells := 0, slots := 0, locals := 0 } : Room) (mPc [.ref (ad 1), .ref (ad 8), .int p2, .int p3] D y nn ad sz I J A B G) (mQi D y nn ad (mA y nn ad I J A B G sz) out (I, J, A, B, G)) 0 0 (mA y nn ad I J A B G sz) := by
  refine Met.ofW (cc := cX3_spread) (maxL := 9) (ret := (some .int)) (by decide) rfl ?_
  intro p e s m args below meth c s₁ Bd hml hv
  obtain ⟨rfl, hsz, hP, hK, hD0, hN⟩ := hv
  have hr := Bd.returns
  subst hsz
  have F : Fx p s m ([.ref (ad 1), .ref (ad 8), .int p2, .int p3] : List Value).toArray meth c cX3_spread 9 wsX3_spread RX3 D y (mA y nn ad I J A B G s.heap.size) := ⟨⟨Bd.exec, Bd.bytes, hml, findClass_of_methodNamed Bd.named, atoms_spec (ws := wsX3_spread) Bd.pre⟩, hK, hN, fun q h => Or.inr h, Bd.notSynchronized⟩
  have hM := m_start (s := s) rfl hP hD0
  have hM := m_mem (I2 := I) (J2 := J) (A2 := A) (B2 := B) (G2 := G) hM (by rfl) (by rfl) (by rfl) (by rfl) (by rfl)
  have hx := F.1.1
  have hb := F.1.2.1
  have hl := lv_entry ([.ref (ad 1), .ref (ad 8), .int p2, .int p3]) (n := 9) (Nat.le_of_ble_eq_true rfl)
  rw [lg_entry_eq]
  generalize (lg_sl ([.ref (ad 1), .ref (ad 8), .int p2, .int p3]) ++ List.replicate (9 - (lg_sl ([.ref (ad 1), .ref (ad 8), .int p2, .int p3])).length) Slot.unset).toArray = ls at hl ⊢
  have hl : lv_has ls 9 [(0, .ref (ad 1)), (1, .ref (ad 8)), (2, .int p2), (3, .int p3)] := hl
  show W p l e ({ frames := 0, cells := 0, slots := 0, locals := 0 } : Room) s m _ below meth c s.heap [] 0 0 _ _
  obtain ⟨locs, hlo⟩ : ∃ locs : List Loc, locs = [] := ⟨_, rfl⟩
  rw [← hlo]; rw [← hlo] at hM
  unfold f_X3_spread_w at hE
  revert hM
  suffices hH : ∀ H : Heap, MM D y nn ad (mA y nn ad I J A B G s.heap.size) s.heap I J A B G H locs → W p l e ({ frames := 0, cells := 0, slots := 0, locals := 0 } : Room) s m ([.ref (ad 1), .ref (ad 8), .int p2, .int p3] : List Value).toArray below meth c H locs 0 0 (MQ below (mQi D y nn ad (mA y nn ad I J A B G s.heap.size) out (I, J, A, B, G)) ([.ref (ad 1), .ref (ad 8), .int p2, .int p3] : List Value).toArray s 0 0 (mA y nn ad I J A B G s.heap.size)) (F0 m 0 ls []) from hH s.heap
  intro H hM
  refine lv_iload_n hx hb dX3_spread_0 rfl (lv_at hl 2 rfl) ?_
  refine lv_istore (lv' := [(4, .int p2), (0, .ref (ad 1)), (1, .ref (ad 8)), (2, .int p2), (3, .int p3)]) hx hb dX3_spread_1 hl (by decide) rfl (fun ls hl => ?_)
  refine lv_iconst (v := 0) hx hb dX3_spread_3 (by decide) ?_
  refine lv_istore (lv' := [(5, .int (0 : Int32)), (4, .int p2), (0, .ref (ad 1)), (1, .ref (ad 8)), (2, .int p2), (3, .int p3)]) hx hb dX3_spread_4 hl (by decide) rfl (fun ls hl => ?_)
  exact k_X3_spread_w_6 F hr (N := N)  N p3 p2 (0 : Int32) ls H locs hE hM (lv_sub hl [2, 3, 5, 1, 0] rfl)
/-! ===== X3_spread@1=9:s: reads I0 G1, writes , frames 0, locals 0 ===== -/
def f_X3_spread_s_18 (N : Nat) (nn : Nat) (i0 : Int32) (g1 : Nat → Nat → Int32) (nx6 : Int32 → Int32 → Int32 → Option (Int32)) (nx18 : Int32 → Int32 → Int32 → Int32 → Option (Int32)) (x3 : Int32) (x4 : Int32) (x5 : Int32) (x6 : Int32) : Option (Int32) :=
(if i0 ≤ x6 then
nx6 x3 x4 (x5 + (1 : Int32))
else
(if x3 = (0 : Int32) then
(if x3 = (0 : Int32) then
ck x5 nn (
ck x6 nn (
(if (g1 x5.toNatClampNeg x6.toNatClampNeg) = (-1 : Int32) then
nx18 x3 x4 x5 (x6 + (1 : Int32))
else
(if ((x4 >>> (x5 &&& 31)) &&& (1 : Int32)) = (0 : Int32) then
nx18 x3 x4 x5 (x6 + (1 : Int32))
else
nx18 x3 (x4 ||| ((1 : Int32) <<< (x6 &&& 31))) x5 (x6 + (1 : Int32))))))
else
ck x5 nn (
ck x6 nn (
(if (g1 x5.toNatClampNeg x6.toNatClampNeg) = (-1 : Int32) then
nx18 x3 x4 x5 (x6 + (1 : Int32))
else
(if ((x4 >>> (x5 &&& 31)) &&& (1 : Int32)) = (0 : Int32) then
nx18 x3 x4 x5 (x6 + (1 : Int32))
else
nx18 x3 (x4 ||| ((1 : Int32) <<< (x5 &&& 31))) x5 (x6 + (1 : Int32)))))))
else
(if x3 = (0 : Int32) then
ck x5 nn (
ck x6 nn (
(if (g1 x5.toNatClampNeg x6.toNatClampNeg) = (-1 : Int32) then
nx18 x3 x4 x5 (x6 + (1 : Int32))
else
(if ((x4 >>> (x6 &&& 31)) &&& (1 : Int32)) = (0 : Int32) then
nx18 x3 x4 x5 (x6 + (1 : Int32))
else
nx18 x3 (x4 ||| ((1 : Int32) <<< (x6 &&& 31))) x5 (x6 + (1 : Int32))))))
else
ck x5 nn (
ck x6 nn (
(if (g1 x5.toNatClampNeg x6.toNatClampNeg) = (-1 : Int32) then
nx18 x3 x4 x5 (x6 + (1 : Int32))
else
(if ((x4 >>> (x6 &&& 31)) &&& (1 : Int32)) = (0 : Int32) then
nx18 x3 x4 x5 (x6 + (1 : Int32))
else
nx18 x3 (x4 ||| ((1 : Int32) <<< (x5 &&& 31))) x5 (x6 + (1 : Int32)))))))))
def f_X3_spread_s_6 (N : Nat) (nn : Nat) (i0 : Int32) (g1 : Nat → Nat → Int32)  (nx6 : Int32 → Int32 → Int32 → Option (Int32)) (x3 : Int32) (x4 : Int32) (x5 : Int32) : Option (Int32) :=
(if i0 ≤ x5 then
some x4
else
lq4 (f_X3_spread_s_18 N nn i0 g1 nx6) N x3 x4 x5 (0 : Int32))
def f_X3_spread_s (N : Nat) (nn : Nat) (i0 : Int32) (g1 : Nat → Nat → Int32)  (p2 : Int32) (p3 : Int32) : Option (Int32) :=
lq3 (f_X3_spread_s_6 N nn i0 g1 ) N p3 p2 (0 : Int32)
set_option maxHeartbeats 4000000 in
set_option maxRecDepth 100000 in
theorem s_X3_spread_s_18 {p : Program} {l : Launch} {e : Env} {s : State} {m : MethodId} {args : Array Value} {below : List Frame} {meth : Method} {c : Code} {D : va_G} {y : Nat → ClassId} {nn : Nat} {ad : Nat → Nat} {A0 : Nat → Prop} {I : Nat → Int32} {J : Nat → Int64} {A : Nat → Nat → Int32} {B : Nat → Nat → Int64} {G : Nat → Nat → Nat → Int32} (F : Fx p s m args meth c cX3_spread 9 wsX3_spread RX3 D y A0) (hr : meth.sig.returnType = (some .int)) {out : Int32} {N : Nat} (nx6 : Int32 → Int32 → Int32 → Option (Int32)) (hn6 : ∀ (x3 : Int32) (x4 : Int32) (x5 : Int32) (ls : Array Slot) (H : Heap) (locs : List Loc), nx6 x3 x4 x5 = some out → MM D y nn ad A0 s.heap I J A B G H locs → lv_has ls 9 [(0, .ref (ad 1)), (1, .ref (ad 9)), (3, .int x3), (4, .int x4), (5, .int x5)] → W p l e ({ frames := 0, cells := 0, slots := 0, locals := 0 } : Room) s m args below meth c H locs 0 0 (MQ below (mQi D y nn ad A0 out (I, J, A, B, G)) args s 0 0 A0) (F0 m 6 ls [])) (nx18 : Int32 → Int32 → Int32 → Int32 → Option (Int32)) (hn18 : ∀ (x3 : Int32) (x4 : Int32) (x5 : Int32) (x6 : Int32) (ls : Array Slot) (H : Heap) (locs : List Loc), nx18 x3 x4 x5 x6 = some out → MM D y nn ad A0 s.heap I J A B G H locs → lv_has ls 9 [(0, .ref (ad 1)), (1, .ref (ad 9)), (3, .int x3), (4, .int x4), (5, .int x5), (6, .int x6)] → W p l e ({ frames := 0, cells := 0, slots := 0, locals := 0 } : Room) s m args below meth c H locs 0 0 (MQ below (mQi D y nn ad A0 out (I, J, A, B, G)) args s 0 0 A0) (F0 m 18 ls [])) : ∀ (x3 : Int32) (x4 : Int32) (x5 : Int32) (x6 : Int32) (ls : Array Slot) (H : Heap) (locs : List Loc), f_X3_spread_s_18 N nn (I 0) (G 1) nx6 nx18 x3 x4 x5 x6 = some out → MM D y nn ad A0 s.heap I J A B G H locs → lv_has ls 9 [(0, .ref (ad 1)), (1, .ref (ad 9)), (3, .int x3), (4, .int x4), (5, .int x5), (6, .int x6)] → W p l e ({ frames := 0, cells := 0, slots := 0, locals := 0 } : Room) s m args below meth c H locs 0 0 (MQ below (mQi D y nn ad A0 out (I, J, A, B, G)) args s 0 0 A0) (F0 m 18 ls []) := by
  intro x3 x4 x5 x6 ls H locs hE hM hl
  have hx := F.1.1
  have hb := F.1.2.1
  unfold f_X3_spread_s_18 at hE
  refine lv_iload hx hb dX3_spread_18 (lv_at hl 5 rfl) ?_
  refine lv_aload_n hx hb dX3_spread_20 rfl (lv_at hl 0 rfl) ?_
  refine m_get F hM 1 mg_1 rfl 0 (by decide) (by decide +kernel) (by decide +kernel) (v := .int (I 0)) rfl dX3_spread_21 ?_
  refine lv_icmp_ge (tgt := 89) hx hb dX3_spread_24 (by decide) (fun c24 => ?_) (fun c24 => ?_)
  · replace hE := (if_pos c24).symm.trans hE
    refine lv_iinc (v := x5 + (1 : Int32)) (lv' := [(5, .int (x5 + (1 : Int32))), (0, .ref (ad 1)), (1, .ref (ad 9)), (3, .int x3), (4, .int x4), (6, .int x6)]) hx hb dX3_spread_89 hl (k := 4) rfl rfl (by decide) rfl (fun ls hl => ?_)
    refine lv_goto (tgt := 6) hx hb dX3_spread_92 (by decide) ?_
    exact hn6 x3 x4 (x5 + (1 : Int32)) ls H locs hE hM (lv_sub hl [1, 2, 3, 4, 0] rfl)
  · replace hE := (if_neg c24).symm.trans hE
    refine lv_iload_n hx hb dX3_spread_27 rfl (lv_at hl 2 rfl) ?_
    refine lv_if_eq (tgt := 36) hx hb dX3_spread_28 (by decide) (fun c28 => ?_) (fun c28 => ?_)
    · replace hE := (if_pos c28).symm.trans hE
      refine lv_iload hx hb dX3_spread_36 (lv_at hl 4 rfl) ?_
      refine lv_istore (lv' := [(7, .int x5), (0, .ref (ad 1)), (1, .ref (ad 9)), (3, .int x3), (4, .int x4), (5, .int x5), (6, .int x6)]) hx hb dX3_spread_38 hl (by decide) rfl (fun ls hl => ?_)
      refine lv_iload_n hx hb dX3_spread_40 rfl (lv_at hl 3 rfl) ?_
      refine lv_if_eq (tgt := 49) hx hb dX3_spread_41 (by decide) (fun c41 => ?_) (fun c41 => ?_)
      · replace hE := (if_pos c41).symm.trans hE
        refine lv_iload hx hb dX3_spread_49 (lv_at hl 6 rfl) ?_
        refine lv_istore (lv' := [(8, .int x6), (7, .int x5), (0, .ref (ad 1)), (1, .ref (ad 9)), (3, .int x3), (4, .int x4), (5, .int x5), (6, .int x6)]) hx hb dX3_spread_51 hl (by decide) rfl (fun ls hl => ?_)
        refine lv_aload_n hx hb dX3_spread_53 rfl (lv_at hl 3 rfl) ?_
        refine lv_iload hx hb dX3_spread_54 (lv_at hl 6 rfl) ?_
        obtain ⟨hi56_0, hE⟩ := ck_some hE
        refine m_aald F hM mg_9 hi56_0 dX3_spread_56 ?_
        refine lv_iload hx hb dX3_spread_57 (lv_at hl 7 rfl) ?_
        obtain ⟨hi59_1, hE⟩ := ck_some hE
        refine m_rald (M := (G 1)) F hM (by decide) (vp_lt hi56_0) rfl hi59_1 dX3_spread_59 ?_
        refine lv_iconst (v := (-1)) hx hb dX3_spread_60 (by decide) ?_
        refine lv_icmp_eq (tgt := 83) hx hb dX3_spread_61 (by decide) (fun c61 => ?_) (fun c61 => ?_)
        · replace hE := (if_pos c61).symm.trans hE
          refine lv_iinc (v := x6 + (1 : Int32)) (lv' := [(6, .int (x6 + (1 : Int32))), (8, .int x6), (7, .int x5), (0, .ref (ad 1)), (1, .ref (ad 9)), (3, .int x3), (4, .int x4), (5, .int x5)]) hx hb dX3_spread_83 hl (k := 7) rfl rfl (by decide) rfl (fun ls hl => ?_)
          refine lv_goto (tgt := 18) hx hb dX3_spread_86 (by decide) ?_
          exact hn18 x3 x4 x5 (x6 + (1 : Int32)) ls H locs hE hM (lv_sub hl [3, 4, 5, 6, 7, 0] rfl)
        · replace hE := (if_neg c61).symm.trans hE
          refine lv_iload hx hb dX3_spread_64 (lv_at hl 5 rfl) ?_
          refine lv_iload hx hb dX3_spread_66 (lv_at hl 1 rfl) ?_
          refine lv_ishr hx hb dX3_spread_68 ?_
          refine lv_iconst (v := 1) hx hb dX3_spread_69 (by decide) ?_
          refine lv_iand hx hb dX3_spread_70 ?_
          refine lv_if_eq (tgt := 83) hx hb dX3_spread_71 (by decide) (fun c71 => ?_) (fun c71 => ?_)
          · replace hE := (if_pos c71).symm.trans hE
            refine lv_iinc (v := x6 + (1 : Int32)) (lv' := [(6, .int (x6 + (1 : Int32))), (8, .int x6), (7, .int x5), (0, .ref (ad 1)), (1, .ref (ad 9)), (3, .int x3), (4, .int x4), (5, .int x5)]) hx hb dX3_spread_83 hl (k := 7) rfl rfl (by decide) rfl (fun ls hl => ?_)
            refine lv_goto (tgt := 18) hx hb dX3_spread_86 (by decide) ?_
            exact hn18 x3 x4 x5 (x6 + (1 : Int32)) ls H locs hE hM (lv_sub hl [3, 4, 5, 6, 7, 0] rfl)
          · replace hE := (if_neg c71).symm.trans hE
            refine lv_iload hx hb dX3_spread_74 (lv_at hl 5 rfl) ?_
            refine lv_iconst (v := 1) hx hb dX3_spread_76 (by decide) ?_
            refine lv_iload hx hb dX3_spread_77 (lv_at hl 0 rfl) ?_
            refine lv_ishl hx hb dX3_spread_79 ?_
            refine lv_ior hx hb dX3_spread_80 ?_
            refine lv_istore (lv' := [(4, .int (x4 ||| ((1 : Int32) <<< (x6 &&& 31)))), (8, .int x6), (7, .int x5), (0, .ref (ad 1)), (1, .ref (ad 9)), (3, .int x3), (5, .int x5), (6, .int x6)]) hx hb dX3_spread_81 hl (by decide) rfl (fun ls hl => ?_)
            refine lv_iinc (v := x6 + (1 : Int32)) (lv' := [(6, .int (x6 + (1 : Int32))), (4, .int (x4 ||| ((1 : Int32) <<< (x6 &&& 31)))), (8, .int x6), (7, .int x5), (0, .ref (ad 1)), (1, .ref (ad 9)), (3, .int x3), (5, .int x5)]) hx hb dX3_spread_83 hl (k := 7) rfl rfl (by decide) rfl (fun ls hl => ?_)
            refine lv_goto (tgt := 18) hx hb dX3_spread_86 (by decide) ?_
            exact hn18 x3 (x4 ||| ((1 : Int32) <<< (x6 &&& 31))) x5 (x6 + (1 : Int32)) ls H locs hE hM (lv_sub hl [4, 5, 6, 1, 7, 0] rfl)
      · replace hE := (if_neg c41).symm.trans hE
        refine lv_iload hx hb dX3_spread_44 (lv_at hl 5 rfl) ?_
        refine lv_goto (tgt := 51) hx hb dX3_spread_46 (by decide) ?_
        refine lv_istore (lv' := [(8, .int x5), (7, .int x5), (0, .ref (ad 1)), (1, .ref (ad 9)), (3, .int x3), (4, .int x4), (5, .int x5), (6, .int x6)]) hx hb dX3_spread_51 hl (by decide) rfl (fun ls hl => ?_)
        refine lv_aload_n hx hb dX3_spread_53 rfl (lv_at hl 3 rfl) ?_
        refine lv_iload hx hb dX3_spread_54 (lv_at hl 6 rfl) ?_
        obtain ⟨hi56_2, hE⟩ := ck_some hE
        refine m_aald F hM mg_9 hi56_2 dX3_spread_56 ?_
        refine lv_iload hx hb dX3_spread_57 (lv_at hl 7 rfl) ?_
        obtain ⟨hi59_3, hE⟩ := ck_some hE
        refine m_rald (M := (G 1)) F hM (by decide) (vp_lt hi56_2) rfl hi59_3 dX3_spread_59 ?_
        refine lv_iconst (v := (-1)) hx hb dX3_spread_60 (by decide) ?_
        refine lv_icmp_eq (tgt := 83) hx hb dX3_spread_61 (by decide) (fun c61 => ?_) (fun c61 => ?_)
        · replace hE := (if_pos c61).symm.trans hE
          refine lv_iinc (v := x6 + (1 : Int32)) (lv' := [(6, .int (x6 + (1 : Int32))), (8, .int x5), (7, .int x5), (0, .ref (ad 1)), (1, .ref (ad 9)), (3, .int x3), (4, .int x4), (5, .int x5)]) hx hb dX3_spread_83 hl (k := 7) rfl rfl (by decide) rfl (fun ls hl => ?_)
          refine lv_goto (tgt := 18) hx hb dX3_spread_86 (by decide) ?_
          exact hn18 x3 x4 x5 (x6 + (1 : Int32)) ls H locs hE hM (lv_sub hl [3, 4, 5, 6, 7, 0] rfl)
        · replace hE := (if_neg c61).symm.trans hE
          refine lv_iload hx hb dX3_spread_64 (lv_at hl 5 rfl) ?_
          refine lv_iload hx hb dX3_spread_66 (lv_at hl 1 rfl) ?_
          refine lv_ishr hx hb dX3_spread_68 ?_
          refine lv_iconst (v := 1) hx hb dX3_spread_69 (by decide) ?_
          refine lv_iand hx hb dX3_spread_70 ?_
          refine lv_if_eq (tgt := 83) hx hb dX3_spread_71 (by decide) (fun c71 => ?_) (fun c71 => ?_)
          · replace hE := (if_pos c71).symm.trans hE
            refine lv_iinc (v := x6 + (1 : Int32)) (lv' := [(6, .int (x6 + (1 : Int32))), (8, .int x5), (7, .int x5), (0, .ref (ad 1)), (1, .ref (ad 9)), (3, .int x3), (4, .int x4), (5, .int x5)]) hx hb dX3_spread_83 hl (k := 7) rfl rfl (by decide) rfl (fun ls hl => ?_)
            refine lv_goto (tgt := 18) hx hb dX3_spread_86 (by decide) ?_
            exact hn18 x3 x4 x5 (x6 + (1 : Int32)) ls H locs hE hM (lv_sub hl [3, 4, 5, 6, 7, 0] rfl)
          · replace hE := (if_neg c71).symm.trans hE
            refine lv_iload hx hb dX3_spread_74 (lv_at hl 5 rfl) ?_
            refine lv_iconst (v := 1) hx hb dX3_spread_76 (by decide) ?_
            refine lv_iload hx hb dX3_spread_77 (lv_at hl 0 rfl) ?_
            refine lv_ishl hx hb dX3_spread_79 ?_
            refine lv_ior hx hb dX3_spread_80 ?_
            refine lv_istore (lv' := [(4, .int (x4 ||| ((1 : Int32) <<< (x5 &&& 31)))), (8, .int x5), (7, .int x5), (0, .ref (ad 1)), (1, .ref (ad 9)), (3, .int x3), (5, .int x5), (6, .int x6)]) hx hb dX3_spread_81 hl (by decide) rfl (fun ls hl => ?_)
            refine lv_iinc (v := x6 + (1 : Int32)) (lv' := [(6, .int (x6 + (1 : Int32))), (4, .int (x4 ||| ((1 : Int32) <<< (x5 &&& 31)))), (8, .int x5), (7, .int x5), (0, .ref (ad 1)), (1, .ref (ad 9)), (3, .int x3), (5, .int x5)]) hx hb dX3_spread_83 hl (k := 7) rfl rfl (by decide) rfl (fun ls hl => ?_)
            refine lv_goto (tgt := 18) hx hb dX3_spread_86 (by decide) ?_
            exact hn18 x3 (x4 ||| ((1 : Int32) <<< (x5 &&& 31))) x5 (x6 + (1 : Int32)) ls H locs hE hM (lv_sub hl [4, 5, 6, 1, 7, 0] rfl)
    · replace hE := (if_neg c28).symm.trans hE
      refine lv_iload hx hb dX3_spread_31 (lv_at hl 5 rfl) ?_
      refine lv_goto (tgt := 38) hx hb dX3_spread_33 (by decide) ?_
      refine lv_istore (lv' := [(7, .int x6), (0, .ref (ad 1)), (1, .ref (ad 9)), (3, .int x3), (4, .int x4), (5, .int x5), (6, .int x6)]) hx hb dX3_spread_38 hl (by decide) rfl (fun ls hl => ?_)
      refine lv_iload_n hx hb dX3_spread_40 rfl (lv_at hl 3 rfl) ?_
      refine lv_if_eq (tgt := 49) hx hb dX3_spread_41 (by decide) (fun c41 => ?_) (fun c41 => ?_)
      · replace hE := (if_pos c41).symm.trans hE
        refine lv_iload hx hb dX3_spread_49 (lv_at hl 6 rfl) ?_
        refine lv_istore (lv' := [(8, .int x6), (7, .int x6), (0, .ref (ad 1)), (1, .ref (ad 9)), (3, .int x3), (4, .int x4), (5, .int x5), (6, .int x6)]) hx hb dX3_spread_51 hl (by decide) rfl (fun ls hl => ?_)
        refine lv_aload_n hx hb dX3_spread_53 rfl (lv_at hl 3 rfl) ?_
        refine lv_iload hx hb dX3_spread_54 (lv_at hl 6 rfl) ?_
        obtain ⟨hi56_4, hE⟩ := ck_some hE
        refine m_aald F hM mg_9 hi56_4 dX3_spread_56 ?_
        refine lv_iload hx hb dX3_spread_57 (lv_at hl 7 rfl) ?_
        obtain ⟨hi59_5, hE⟩ := ck_some hE
        refine m_rald (M := (G 1)) F hM (by decide) (vp_lt hi56_4) rfl hi59_5 dX3_spread_59 ?_
        refine lv_iconst (v := (-1)) hx hb dX3_spread_60 (by decide) ?_
        refine lv_icmp_eq (tgt := 83) hx hb dX3_spread_61 (by decide) (fun c61 => ?_) (fun c61 => ?_)
        · replace hE := (if_pos c61).symm.trans hE
          refine lv_iinc (v := x6 + (1 : Int32)) (lv' := [(6, .int (x6 + (1 : Int32))), (8, .int x6), (7, .int x6), (0, .ref (ad 1)), (1, .ref (ad 9)), (3, .int x3), (4, .int x4), (5, .int x5)]) hx hb dX3_spread_83 hl (k := 7) rfl rfl (by decide) rfl (fun ls hl => ?_)
          refine lv_goto (tgt := 18) hx hb dX3_spread_86 (by decide) ?_
          exact hn18 x3 x4 x5 (x6 + (1 : Int32)) ls H locs hE hM (lv_sub hl [3, 4, 5, 6, 7, 0] rfl)
        · replace hE := (if_neg c61).symm.trans hE
          refine lv_iload hx hb dX3_spread_64 (lv_at hl 5 rfl) ?_
          refine lv_iload hx hb dX3_spread_66 (lv_at hl 1 rfl) ?_
          refine lv_ishr hx hb dX3_spread_68 ?_
          refine lv_iconst (v := 1) hx hb dX3_spread_69 (by decide) ?_
          refine lv_iand hx hb dX3_spread_70 ?_
          refine lv_if_eq (tgt := 83) hx hb dX3_spread_71 (by decide) (fun c71 => ?_) (fun c71 => ?_)
          · replace hE := (if_pos c71).symm.trans hE
            refine lv_iinc (v := x6 + (1 : Int32)) (lv' := [(6, .int (x6 + (1 : Int32))), (8, .int x6), (7, .int x6), (0, .ref (ad 1)), (1, .ref (ad 9)), (3, .int x3), (4, .int x4), (5, .int x5)]) hx hb dX3_spread_83 hl (k := 7) rfl rfl (by decide) rfl (fun ls hl => ?_)
            refine lv_goto (tgt := 18) hx hb dX3_spread_86 (by decide) ?_
            exact hn18 x3 x4 x5 (x6 + (1 : Int32)) ls H locs hE hM (lv_sub hl [3, 4, 5, 6, 7, 0] rfl)
          · replace hE := (if_neg c71).symm.trans hE
            refine lv_iload hx hb dX3_spread_74 (lv_at hl 5 rfl) ?_
            refine lv_iconst (v := 1) hx hb dX3_spread_76 (by decide) ?_
            refine lv_iload hx hb dX3_spread_77 (lv_at hl 0 rfl) ?_
            refine lv_ishl hx hb dX3_spread_79 ?_
            refine lv_ior hx hb dX3_spread_80 ?_
            refine lv_istore (lv' := [(4, .int (x4 ||| ((1 : Int32) <<< (x6 &&& 31)))), (8, .int x6), (7, .int x6), (0, .ref (ad 1)), (1, .ref (ad 9)), (3, .int x3), (5, .int x5), (6, .int x6)]) hx hb dX3_spread_81 hl (by decide) rfl (fun ls hl => ?_)
            refine lv_iinc (v := x6 + (1 : Int32)) (lv' := [(6, .int (x6 + (1 : Int32))), (4, .int (x4 ||| ((1 : Int32) <<< (x6 &&& 31)))), (8, .int x6), (7, .int x6), (0, .ref (ad 1)), (1, .ref (ad 9)), (3, .int x3), (5, .int x5)]) hx hb dX3_spread_83 hl (k := 7) rfl rfl (by decide) rfl (fun ls hl => ?_)
            refine lv_goto (tgt := 18) hx hb dX3_spread_86 (by decide) ?_
            exact hn18 x3 (x4 ||| ((1 : Int32) <<< (x6 &&& 31))) x5 (x6 + (1 : Int32)) ls H locs hE hM (lv_sub hl [4, 5, 6, 1, 7, 0] rfl)
      · replace hE := (if_neg c41).symm.trans hE
        refine lv_iload hx hb dX3_spread_44 (lv_at hl 5 rfl) ?_
        refine lv_goto (tgt := 51) hx hb dX3_spread_46 (by decide) ?_
        refine lv_istore (lv' := [(8, .int x5), (7, .int x6), (0, .ref (ad 1)), (1, .ref (ad 9)), (3, .int x3), (4, .int x4), (5, .int x5), (6, .int x6)]) hx hb dX3_spread_51 hl (by decide) rfl (fun ls hl => ?_)
        refine lv_aload_n hx hb dX3_spread_53 rfl (lv_at hl 3 rfl) ?_
        refine lv_iload hx hb dX3_spread_54 (lv_at hl 6 rfl) ?_
        obtain ⟨hi56_6, hE⟩ := ck_some hE
        refine m_aald F hM mg_9 hi56_6 dX3_spread_56 ?_
        refine lv_iload hx hb dX3_spread_57 (lv_at hl 7 rfl) ?_
        obtain ⟨hi59_7, hE⟩ := ck_some hE
        refine m_rald (M := (G 1)) F hM (by decide) (vp_lt hi56_6) rfl hi59_7 dX3_spread_59 ?_
        refine lv_iconst (v := (-1)) hx hb dX3_spread_60 (by decide) ?_
        refine lv_icmp_eq (tgt := 83) hx hb dX3_spread_61 (by decide) (fun c61 => ?_) (fun c61 => ?_)
        · replace hE := (if_pos c61).symm.trans hE
          refine lv_iinc (v := x6 + (1 : Int32)) (lv' := [(6, .int (x6 + (1 : Int32))), (8, .int x5), (7, .int x6), (0, .ref (ad 1)), (1, .ref (ad 9)), (3, .int x3), (4, .int x4), (5, .int x5)]) hx hb dX3_spread_83 hl (k := 7) rfl rfl (by decide) rfl (fun ls hl => ?_)
          refine lv_goto (tgt := 18) hx hb dX3_spread_86 (by decide) ?_
          exact hn18 x3 x4 x5 (x6 + (1 : Int32)) ls H locs hE hM (lv_sub hl [3, 4, 5, 6, 7, 0] rfl)
        · replace hE := (if_neg c61).symm.trans hE
          refine lv_iload hx hb dX3_spread_64 (lv_at hl 5 rfl) ?_
          refine lv_iload hx hb dX3_spread_66 (lv_at hl 1 rfl) ?_
          refine lv_ishr hx hb dX3_spread_68 ?_
          refine lv_iconst (v := 1) hx hb dX3_spread_69 (by decide) ?_
          refine lv_iand hx hb dX3_spread_70 ?_
          refine lv_if_eq (tgt := 83) hx hb dX3_spread_71 (by decide) (fun c71 => ?_) (fun c71 => ?_)
          · replace hE := (if_pos c71).symm.trans hE
            refine lv_iinc (v := x6 + (1 : Int32)) (lv' := [(6, .int (x6 + (1 : Int32))), (8, .int x5), (7, .int x6), (0, .ref (ad 1)), (1, .ref (ad 9)), (3, .int x3), (4, .int x4), (5, .int x5)]) hx hb dX3_spread_83 hl (k := 7) rfl rfl (by decide) rfl (fun ls hl => ?_)
            refine lv_goto (tgt := 18) hx hb dX3_spread_86 (by decide) ?_
            exact hn18 x3 x4 x5 (x6 + (1 : Int32)) ls H locs hE hM (lv_sub hl [3, 4, 5, 6, 7, 0] rfl)
          · replace hE := (if_neg c71).symm.trans hE
            refine lv_iload hx hb dX3_spread_74 (lv_at hl 5 rfl) ?_
            refine lv_iconst (v := 1) hx hb dX3_spread_76 (by decide) ?_
            refine lv_iload hx hb dX3_spread_77 (lv_at hl 0 rfl) ?_
            refine lv_ishl hx hb dX3_spread_79 ?_
            refine lv_ior hx hb dX3_spread_80 ?_
            refine lv_istore (lv' := [(4, .int (x4 ||| ((1 : Int32) <<< (x5 &&& 31)))), (8, .int x5), (7, .int x6), (0, .ref (ad 1)), (1, .ref (ad 9)), (3, .int x3), (5, .int x5), (6, .int x6)]) hx hb dX3_spread_81 hl (by decide) rfl (fun ls hl => ?_)
            refine lv_iinc (v := x6 + (1 : Int32)) (lv' := [(6, .int (x6 + (1 : Int32))), (4, .int (x4 ||| ((1 : Int32) <<< (x5 &&& 31)))), (8, .int x5), (7, .int x6), (0, .ref (ad 1)), (1, .ref (ad 9)), (3, .int x3), (5, .int x5)]) hx hb dX3_spread_83 hl (k := 7) rfl rfl (by decide) rfl (fun ls hl => ?_)
            refine lv_goto (tgt := 18) hx hb dX3_spread_86 (by decide) ?_
            exact hn18 x3 (x4 ||| ((1 : Int32) <<< (x5 &&& 31))) x5 (x6 + (1 : Int32)) ls H locs hE hM (lv_sub hl [4, 5, 6, 1, 7, 0] rfl)
theorem k_X3_spread_s_18 {p : Program} {l : Launch} {e : Env} {s : State} {m : MethodId} {args : Array Value} {below : List Frame} {meth : Method} {c : Code} {D : va_G} {y : Nat → ClassId} {nn : Nat} {ad : Nat → Nat} {A0 : Nat → Prop} {I : Nat → Int32} {J : Nat → Int64} {A : Nat → Nat → Int32} {B : Nat → Nat → Int64} {G : Nat → Nat → Nat → Int32} (F : Fx p s m args meth c cX3_spread 9 wsX3_spread RX3 D y A0) (hr : meth.sig.returnType = (some .int)) {out : Int32} {N : Nat} (nx6 : Int32 → Int32 → Int32 → Option (Int32)) (hn6 : ∀ (x3 : Int32) (x4 : Int32) (x5 : Int32) (ls : Array Slot) (H : Heap) (locs : List Loc), nx6 x3 x4 x5 = some out → MM D y nn ad A0 s.heap I J A B G H locs → lv_has ls 9 [(0, .ref (ad 1)), (1, .ref (ad 9)), (3, .int x3), (4, .int x4), (5, .int x5)] → W p l e ({ frames := 0, cells := 0, slots := 0, locals := 0 } : Room) s m args below meth c H locs 0 0 (MQ below (mQi D y nn ad A0 out (I, J, A, B, G)) args s 0 0 A0) (F0 m 6 ls [])) : ∀ (n : Nat), ∀ (x3 : Int32) (x4 : Int32) (x5 : Int32) (x6 : Int32) (ls : Array Slot) (H : Heap) (locs : List Loc), lq4 (f_X3_spread_s_18 N nn (I 0) (G 1) nx6) n x3 x4 x5 x6 = some out → MM D y nn ad A0 s.heap I J A B G H locs → lv_has ls 9 [(0, .ref (ad 1)), (1, .ref (ad 9)), (3, .int x3), (4, .int x4), (5, .int x5), (6, .int x6)] → W p l e ({ frames := 0, cells := 0, slots := 0, locals := 0 } : Room) s m args below meth c H locs 0 0 (MQ below (mQi D y nn ad A0 out (I, J, A, B, G)) args s 0 0 A0) (F0 m 18 ls []) := by
  intro n
  induction n with
  | zero =>
    intro x3 x4 x5 x6 ls H locs hE
    cases (show (none : Option _) = some out from hE)
  | succ n ih =>
    intro x3 x4 x5 x6 ls H locs hE hM hl
    exact s_X3_spread_s_18 F hr (N := N) nx6 hn6 (lq4 (f_X3_spread_s_18 N nn (I 0) (G 1) nx6) n) ih x3 x4 x5 x6 ls H locs hE hM hl
set_option maxHeartbeats 4000000 in
set_option maxRecDepth 100000 in
theorem s_X3_spread_s_6 {p : Program} {l : Launch} {e : Env} {s : State} {m : MethodId} {args : Array Value} {below : List Frame} {meth : Method} {c : Code} {D : va_G} {y : Nat → ClassId} {nn : Nat} {ad : Nat → Nat} {A0 : Nat → Prop} {I : Nat → Int32} {J : Nat → Int64} {A : Nat → Nat → Int32} {B : Nat → Nat → Int64} {G : Nat → Nat → Nat → Int32} (F : Fx p s m args meth c cX3_spread 9 wsX3_spread RX3 D y A0) (hr : meth.sig.returnType = (some .int)) {out : Int32} {N : Nat}  (nx6 : Int32 → Int32 → Int32 → Option (Int32)) (hn6 : ∀ (x3 : Int32) (x4 : Int32) (x5 : Int32) (ls : Array Slot) (H : Heap) (locs : List Loc), nx6 x3 x4 x5 = some out → MM D y nn ad A0 s.heap I J A B G H locs → lv_has ls 9 [(0, .ref (ad 1)), (1, .ref (ad 9)), (3, .int x3), (4, .int x4), (5, .int x5)] → W p l e ({ frames := 0, cells := 0, slots := 0, locals := 0 } : Room) s m args below meth c H locs 0 0 (MQ below (mQi D y nn ad A0 out (I, J, A, B, G)) args s 0 0 A0) (F0 m 6 ls [])) : ∀ (x3 : Int32) (x4 : Int32) (x5 : Int32) (ls : Array Slot) (H : Heap) (locs : List Loc), f_X3_spread_s_6 N nn (I 0) (G 1)  nx6 x3 x4 x5 = some out → MM D y nn ad A0 s.heap I J A B G H locs → lv_has ls 9 [(0, .ref (ad 1)), (1, .ref (ad 9)), (3, .int x3), (4, .int x4), (5, .int x5)] → W p l e ({ frames := 0, cells := 0, slots := 0, locals := 0 } : Room) s m args below meth c H locs 0 0 (MQ below (mQi D y nn ad A0 out (I, J, A, B, G)) args s 0 0 A0) (F0 m 6 ls []) := by
  intro x3 x4 x5 ls H locs hE hM hl
  have hx := F.1.1
  have hb := F.1.2.1
  unfold f_X3_spread_s_6 at hE
  refine lv_iload hx hb dX3_spread_6 (lv_at hl 4 rfl) ?_
  refine lv_aload_n hx hb dX3_spread_8 rfl (lv_at hl 0 rfl) ?_
  refine m_get F hM 1 mg_1 rfl 0 (by decide) (by decide +kernel) (by decide +kernel) (v := .int (I 0)) rfl dX3_spread_9 ?_
  refine lv_icmp_ge (tgt := 95) hx hb dX3_spread_12 (by decide) (fun c12 => ?_) (fun c12 => ?_)
  · replace hE := (if_pos c12).symm.trans hE
    refine lv_iload hx hb dX3_spread_95 (lv_at hl 3 rfl) ?_
    obtain rfl := Option.some.inj hE
    exact m_iret F hM hr rfl rfl dX3_spread_97
  · replace hE := (if_neg c12).symm.trans hE
    refine lv_iconst (v := 0) hx hb dX3_spread_15 (by decide) ?_
    refine lv_istore (lv' := [(6, .int (0 : Int32)), (0, .ref (ad 1)), (1, .ref (ad 9)), (3, .int x3), (4, .int x4), (5, .int x5)]) hx hb dX3_spread_16 hl (by decide) rfl (fun ls hl => ?_)
    exact k_X3_spread_s_18 F hr (N := N) nx6 hn6 N x3 x4 x5 (0 : Int32) ls H locs hE hM (lv_sub hl [1, 2, 3, 4, 5, 0] rfl)
theorem k_X3_spread_s_6 {p : Program} {l : Launch} {e : Env} {s : State} {m : MethodId} {args : Array Value} {below : List Frame} {meth : Method} {c : Code} {D : va_G} {y : Nat → ClassId} {nn : Nat} {ad : Nat → Nat} {A0 : Nat → Prop} {I : Nat → Int32} {J : Nat → Int64} {A : Nat → Nat → Int32} {B : Nat → Nat → Int64} {G : Nat → Nat → Nat → Int32} (F : Fx p s m args meth c cX3_spread 9 wsX3_spread RX3 D y A0) (hr : meth.sig.returnType = (some .int)) {out : Int32} {N : Nat}  : ∀ (n : Nat), ∀ (x3 : Int32) (x4 : Int32) (x5 : Int32) (ls : Array Slot) (H : Heap) (locs : List Loc), lq3 (f_X3_spread_s_6 N nn (I 0) (G 1) ) n x3 x4 x5 = some out → MM D y nn ad A0 s.heap I J A B G H locs → lv_has ls 9 [(0, .ref (ad 1)), (1, .ref (ad 9)), (3, .int x3), (4, .int x4), (5, .int x5)] → W p l e ({ frames := 0, cells := 0, slots := 0, locals := 0 } : Room) s m args below meth c H locs 0 0 (MQ below (mQi D y nn ad A0 out (I, J, A, B, G)) args s 0 0 A0) (F0 m 6 ls []) := by
  intro n
  induction n with
  | zero =>
    intro x3 x4 x5 ls H locs hE
    cases (show (none : Option _) = some out from hE)
  | succ n ih =>
    intro x3 x4 x5 ls H locs hE hM hl
    exact s_X3_spread_s_6 F hr (N := N)  (lq3 (f_X3_spread_s_6 N nn (I 0) (G 1) ) n) ih x3 x4 x5 ls H locs hE hM hl
set_option maxHeartbeats 4000000 in
set_option maxRecDepth 100000 in
theorem c_X3_spread_s (l : Launch) (D : va_G) (y : Nat → ClassId) (nn : Nat) (ad : Nat → Nat) (sz : Nat) (I : Nat → Int32) (J : Nat → Int64) (A : Nat → Nat → Int32) (B : Nat → Nat → Int64) (G : Nat → Nat → Nat → Int32) (p2 : Int32) (p3 : Int32) (N : Nat) (out : Int32) (hE : f_X3_spread_s N nn (I 0) (G 1)  p2 p3 = some out) : Met l yX3_spread wsX3_spread ({ frames := 0, cells := 0, slots := 0, locals := 0 } : Room) (mPc [.ref (ad 1), .ref (ad 9), .int p2, .int p3] D y nn ad sz I J A B G) (mQi D y nn ad (mA y nn ad I J A B G sz) out (I, J, A, B, G)) 0 0 (mA y nn ad I J A B G sz) := by
  refine Met.ofW (cc := cX3_spread) (maxL := 9) (ret := (some .int)) (by decide) rfl ?_
  intro p e s m args below meth c s₁ Bd hml hv
  obtain ⟨rfl, hsz, hP, hK, hD0, hN⟩ := hv
  have hr := Bd.returns
  subst hsz
  have F : Fx p s m ([.ref (ad 1), .ref (ad 9), .int p2, .int p3] : List Value).toArray meth c cX3_spread 9 wsX3_spread RX3 D y (mA y nn ad I J A B G s.heap.size) := ⟨⟨Bd.exec, Bd.bytes, hml, findClass_of_methodNamed Bd.named, atoms_spec (ws := wsX3_spread) Bd.pre⟩, hK, hN, fun q h => Or.inr h, Bd.notSynchronized⟩
  have hM := m_start (s := s) rfl hP hD0
  have hM := m_mem (I2 := I) (J2 := J) (A2 := A) (B2 := B) (G2 := G) hM (by rfl) (by rfl) (by rfl) (by rfl) (by rfl)
  have hx := F.1.1
  have hb := F.1.2.1
  have hl := lv_entry ([.ref (ad 1), .ref (ad 9), .int p2, .int p3]) (n := 9) (Nat.le_of_ble_eq_true rfl)
  rw [lg_entry_eq]
  generalize (lg_sl ([.ref (ad 1), .ref (ad 9), .int p2, .int p3]) ++ List.replicate (9 - (lg_sl ([.ref (ad 1), .ref (ad 9), .int p2, .int p3])).length) Slot.unset).toArray = ls at hl ⊢
  have hl : lv_has ls 9 [(0, .ref (ad 1)), (1, .ref (ad 9)), (2, .int p2), (3, .int p3)] := hl
  show W p l e ({ frames := 0, cells := 0, slots := 0, locals := 0 } : Room) s m _ below meth c s.heap [] 0 0 _ _
  obtain ⟨locs, hlo⟩ : ∃ locs : List Loc, locs = [] := ⟨_, rfl⟩
  rw [← hlo]; rw [← hlo] at hM
  unfold f_X3_spread_s at hE
  revert hM
  suffices hH : ∀ H : Heap, MM D y nn ad (mA y nn ad I J A B G s.heap.size) s.heap I J A B G H locs → W p l e ({ frames := 0, cells := 0, slots := 0, locals := 0 } : Room) s m ([.ref (ad 1), .ref (ad 9), .int p2, .int p3] : List Value).toArray below meth c H locs 0 0 (MQ below (mQi D y nn ad (mA y nn ad I J A B G s.heap.size) out (I, J, A, B, G)) ([.ref (ad 1), .ref (ad 9), .int p2, .int p3] : List Value).toArray s 0 0 (mA y nn ad I J A B G s.heap.size)) (F0 m 0 ls []) from hH s.heap
  intro H hM
  refine lv_iload_n hx hb dX3_spread_0 rfl (lv_at hl 2 rfl) ?_
  refine lv_istore (lv' := [(4, .int p2), (0, .ref (ad 1)), (1, .ref (ad 9)), (2, .int p2), (3, .int p3)]) hx hb dX3_spread_1 hl (by decide) rfl (fun ls hl => ?_)
  refine lv_iconst (v := 0) hx hb dX3_spread_3 (by decide) ?_
  refine lv_istore (lv' := [(5, .int (0 : Int32)), (4, .int p2), (0, .ref (ad 1)), (1, .ref (ad 9)), (2, .int p2), (3, .int p3)]) hx hb dX3_spread_4 hl (by decide) rfl (fun ls hl => ?_)
  exact k_X3_spread_s_6 F hr (N := N)  N p3 p2 (0 : Int32) ls H locs hE hM (lv_sub hl [2, 3, 5, 1, 0] rfl)
/-! ===== X3_reached@1=8:w: reads I0 G0, writes , frames 1, locals 28 ===== -/
def f_X3_reached_w_9 (N : Nat) (nn : Nat) (i0 : Int32) (g0 : Nat → Nat → Int32)  (nx9 : Int32 → Int32 → Int32 → Option (Int32)) (x3 : Int32) (x4 : Int32) (x5 : Int32) : Option (Int32) :=
(if i0 ≤ x5 then
some x4
else
bd (f_X3_spread_w N nn i0 g0 x4 x3) fun o23_0 =>
nx9 x3 o23_0 (x5 + (1 : Int32)))
def f_X3_reached_w (N : Nat) (nn : Nat) (i0 : Int32) (g0 : Nat → Nat → Int32)  (p2 : Int32) (p3 : Int32) : Option (Int32) :=
lq3 (f_X3_reached_w_9 N nn i0 g0 ) N p3 (p2 &&& (-p2)) (1 : Int32)
set_option maxHeartbeats 4000000 in
set_option maxRecDepth 100000 in
theorem s_X3_reached_w_9 {p : Program} {l : Launch} {e : Env} {s : State} {m : MethodId} {args : Array Value} {below : List Frame} {meth : Method} {c : Code} {D : va_G} {y : Nat → ClassId} {nn : Nat} {ad : Nat → Nat} {A0 : Nat → Prop} {I : Nat → Int32} {J : Nat → Int64} {A : Nat → Nat → Int32} {B : Nat → Nat → Int64} {G : Nat → Nat → Nat → Int32} (F : Fx p s m args meth c cX3_reached 6 wsX3_reached RX3 D y A0) (hr : meth.sig.returnType = (some .int)) {out : Int32} {N : Nat}  (nx9 : Int32 → Int32 → Int32 → Option (Int32)) (hn9 : ∀ (x3 : Int32) (x4 : Int32) (x5 : Int32) (ls : Array Slot) (H : Heap) (locs : List Loc), nx9 x3 x4 x5 = some out → MM D y nn ad A0 s.heap I J A B G H locs → lv_has ls 6 [(0, .ref (ad 1)), (1, .ref (ad 8)), (3, .int x3), (4, .int x4), (5, .int x5)] → W p l e ({ frames := 1, cells := 0, slots := 0, locals := 28 } : Room) s m args below meth c H locs 0 0 (MQ below (mQi D y nn ad A0 out (I, J, A, B, G)) args s 0 0 A0) (F0 m 9 ls [])) : ∀ (x3 : Int32) (x4 : Int32) (x5 : Int32) (ls : Array Slot) (H : Heap) (locs : List Loc), f_X3_reached_w_9 N nn (I 0) (G 0)  nx9 x3 x4 x5 = some out → MM D y nn ad A0 s.heap I J A B G H locs → lv_has ls 6 [(0, .ref (ad 1)), (1, .ref (ad 8)), (3, .int x3), (4, .int x4), (5, .int x5)] → W p l e ({ frames := 1, cells := 0, slots := 0, locals := 28 } : Room) s m args below meth c H locs 0 0 (MQ below (mQi D y nn ad A0 out (I, J, A, B, G)) args s 0 0 A0) (F0 m 9 ls []) := by
  intro x3 x4 x5 ls H locs hE hM hl
  have hx := F.1.1
  have hb := F.1.2.1
  unfold f_X3_reached_w_9 at hE
  refine lv_iload hx hb dX3_reached_9 (lv_at hl 4 rfl) ?_
  refine lv_aload_n hx hb dX3_reached_11 rfl (lv_at hl 0 rfl) ?_
  refine m_get F hM 1 mg_1 rfl 0 (by decide) (by decide +kernel) (by decide +kernel) (v := .int (I 0)) rfl dX3_reached_12 ?_
  refine lv_icmp_ge (tgt := 34) hx hb dX3_reached_15 (by decide) (fun c15 => ?_) (fun c15 => ?_)
  · replace hE := (if_pos c15).symm.trans hE
    refine lv_iload hx hb dX3_reached_34 (lv_at hl 3 rfl) ?_
    obtain rfl := Option.some.inj hE
    exact m_iret F hM hr rfl rfl dX3_reached_36
  · replace hE := (if_neg c15).symm.trans hE
    refine lv_aload_n hx hb dX3_reached_18 rfl (lv_at hl 0 rfl) ?_
    refine lv_aload_n hx hb dX3_reached_19 rfl (lv_at hl 1 rfl) ?_
    refine lv_iload hx hb dX3_reached_20 (lv_at hl 3 rfl) ?_
    refine lv_iload_n hx hb dX3_reached_22 rfl (lv_at hl 2 rfl) ?_
    obtain ⟨o23_0, ho23_0, hE⟩ := bd_some hE
    refine m_callVi (As := [.ref (ad 8), .int x4, .int x3]) (I2 := I) (J2 := J) (A2 := A) (B2 := B) (G2 := G) F hM (c_X3_spread_w l D y nn ad H.size I J A B G x4 x3 N o23_0 ho23_0) (cwV 3 F.1.2.2.2.2 gX3_reached_X3_spread rfl rfl rfl (by decide +kernel) ⟨Nat.le_of_ble_eq_true rfl, Nat.le_of_ble_eq_true rfl⟩) (m_recv F hM mg_1 rfl) rfl hl.1 (Nat.le_of_ble_eq_true rfl) dX3_reached_23 ⟨Nat.le_refl 0, Nat.le_refl 0⟩ rfl rfl rfl rfl rfl (fun H locs hM => ?_)
    refine lv_istore (lv' := [(4, .int o23_0), (0, .ref (ad 1)), (1, .ref (ad 8)), (3, .int x3), (5, .int x5)]) hx hb dX3_reached_26 hl (by decide) rfl (fun ls hl => ?_)
    refine lv_iinc (v := x5 + (1 : Int32)) (lv' := [(5, .int (x5 + (1 : Int32))), (4, .int o23_0), (0, .ref (ad 1)), (1, .ref (ad 8)), (3, .int x3)]) hx hb dX3_reached_28 hl (k := 4) rfl rfl (by decide) rfl (fun ls hl => ?_)
    refine lv_goto (tgt := 9) hx hb dX3_reached_31 (by decide) ?_
    exact hn9 x3 o23_0 (x5 + (1 : Int32)) ls H locs hE hM (lv_sub hl [2, 3, 4, 1, 0] rfl)
theorem k_X3_reached_w_9 {p : Program} {l : Launch} {e : Env} {s : State} {m : MethodId} {args : Array Value} {below : List Frame} {meth : Method} {c : Code} {D : va_G} {y : Nat → ClassId} {nn : Nat} {ad : Nat → Nat} {A0 : Nat → Prop} {I : Nat → Int32} {J : Nat → Int64} {A : Nat → Nat → Int32} {B : Nat → Nat → Int64} {G : Nat → Nat → Nat → Int32} (F : Fx p s m args meth c cX3_reached 6 wsX3_reached RX3 D y A0) (hr : meth.sig.returnType = (some .int)) {out : Int32} {N : Nat}  : ∀ (n : Nat), ∀ (x3 : Int32) (x4 : Int32) (x5 : Int32) (ls : Array Slot) (H : Heap) (locs : List Loc), lq3 (f_X3_reached_w_9 N nn (I 0) (G 0) ) n x3 x4 x5 = some out → MM D y nn ad A0 s.heap I J A B G H locs → lv_has ls 6 [(0, .ref (ad 1)), (1, .ref (ad 8)), (3, .int x3), (4, .int x4), (5, .int x5)] → W p l e ({ frames := 1, cells := 0, slots := 0, locals := 28 } : Room) s m args below meth c H locs 0 0 (MQ below (mQi D y nn ad A0 out (I, J, A, B, G)) args s 0 0 A0) (F0 m 9 ls []) := by
  intro n
  induction n with
  | zero =>
    intro x3 x4 x5 ls H locs hE
    cases (show (none : Option _) = some out from hE)
  | succ n ih =>
    intro x3 x4 x5 ls H locs hE hM hl
    exact s_X3_reached_w_9 F hr (N := N)  (lq3 (f_X3_reached_w_9 N nn (I 0) (G 0) ) n) ih x3 x4 x5 ls H locs hE hM hl
set_option maxHeartbeats 4000000 in
set_option maxRecDepth 100000 in
theorem c_X3_reached_w (l : Launch) (D : va_G) (y : Nat → ClassId) (nn : Nat) (ad : Nat → Nat) (sz : Nat) (I : Nat → Int32) (J : Nat → Int64) (A : Nat → Nat → Int32) (B : Nat → Nat → Int64) (G : Nat → Nat → Nat → Int32) (p2 : Int32) (p3 : Int32) (N : Nat) (out : Int32) (hE : f_X3_reached_w N nn (I 0) (G 0)  p2 p3 = some out) : Met l yX3_reached wsX3_reached ({ frames := 1, cells := 0, slots := 0, locals := 28 } : Room) (mPc [.ref (ad 1), .ref (ad 8), .int p2, .int p3] D y nn ad sz I J A B G) (mQi D y nn ad (mA y nn ad I J A B G sz) out (I, J, A, B, G)) 0 0 (mA y nn ad I J A B G sz) := by
  refine Met.ofW (cc := cX3_reached) (maxL := 6) (ret := (some .int)) (by decide) rfl ?_
  intro p e s m args below meth c s₁ Bd hml hv
  obtain ⟨rfl, hsz, hP, hK, hD0, hN⟩ := hv
  have hr := Bd.returns
  subst hsz
  have F : Fx p s m ([.ref (ad 1), .ref (ad 8), .int p2, .int p3] : List Value).toArray meth c cX3_reached 6 wsX3_reached RX3 D y (mA y nn ad I J A B G s.heap.size) := ⟨⟨Bd.exec, Bd.bytes, hml, findClass_of_methodNamed Bd.named, atoms_spec (ws := wsX3_reached) Bd.pre⟩, hK, hN, fun q h => Or.inr h, Bd.notSynchronized⟩
  have hM := m_start (s := s) rfl hP hD0
  have hM := m_mem (I2 := I) (J2 := J) (A2 := A) (B2 := B) (G2 := G) hM (by rfl) (by rfl) (by rfl) (by rfl) (by rfl)
  have hx := F.1.1
  have hb := F.1.2.1
  have hl := lv_entry ([.ref (ad 1), .ref (ad 8), .int p2, .int p3]) (n := 6) (Nat.le_of_ble_eq_true rfl)
  rw [lg_entry_eq]
  generalize (lg_sl ([.ref (ad 1), .ref (ad 8), .int p2, .int p3]) ++ List.replicate (6 - (lg_sl ([.ref (ad 1), .ref (ad 8), .int p2, .int p3])).length) Slot.unset).toArray = ls at hl ⊢
  have hl : lv_has ls 6 [(0, .ref (ad 1)), (1, .ref (ad 8)), (2, .int p2), (3, .int p3)] := hl
  show W p l e ({ frames := 1, cells := 0, slots := 0, locals := 28 } : Room) s m _ below meth c s.heap [] 0 0 _ _
  obtain ⟨locs, hlo⟩ : ∃ locs : List Loc, locs = [] := ⟨_, rfl⟩
  rw [← hlo]; rw [← hlo] at hM
  unfold f_X3_reached_w at hE
  revert hM
  suffices hH : ∀ H : Heap, MM D y nn ad (mA y nn ad I J A B G s.heap.size) s.heap I J A B G H locs → W p l e ({ frames := 1, cells := 0, slots := 0, locals := 28 } : Room) s m ([.ref (ad 1), .ref (ad 8), .int p2, .int p3] : List Value).toArray below meth c H locs 0 0 (MQ below (mQi D y nn ad (mA y nn ad I J A B G s.heap.size) out (I, J, A, B, G)) ([.ref (ad 1), .ref (ad 8), .int p2, .int p3] : List Value).toArray s 0 0 (mA y nn ad I J A B G s.heap.size)) (F0 m 0 ls []) from hH s.heap
  intro H hM
  refine lv_iload_n hx hb dX3_reached_0 rfl (lv_at hl 2 rfl) ?_
  refine lv_iload_n hx hb dX3_reached_1 rfl (lv_at hl 2 rfl) ?_
  refine lv_ineg hx hb dX3_reached_2 ?_
  refine lv_iand hx hb dX3_reached_3 ?_
  refine lv_istore (lv' := [(4, .int (p2 &&& (-p2))), (0, .ref (ad 1)), (1, .ref (ad 8)), (2, .int p2), (3, .int p3)]) hx hb dX3_reached_4 hl (by decide) rfl (fun ls hl => ?_)
  refine lv_iconst (v := 1) hx hb dX3_reached_6 (by decide) ?_
  refine lv_istore (lv' := [(5, .int (1 : Int32)), (4, .int (p2 &&& (-p2))), (0, .ref (ad 1)), (1, .ref (ad 8)), (2, .int p2), (3, .int p3)]) hx hb dX3_reached_7 hl (by decide) rfl (fun ls hl => ?_)
  exact k_X3_reached_w_9 F hr (N := N)  N p3 (p2 &&& (-p2)) (1 : Int32) ls H locs hE hM (lv_sub hl [2, 3, 5, 1, 0] rfl)
/-! ===== X3_reached@1=9:s: reads I0 G1, writes , frames 1, locals 28 ===== -/
def f_X3_reached_s_9 (N : Nat) (nn : Nat) (i0 : Int32) (g1 : Nat → Nat → Int32)  (nx9 : Int32 → Int32 → Int32 → Option (Int32)) (x3 : Int32) (x4 : Int32) (x5 : Int32) : Option (Int32) :=
(if i0 ≤ x5 then
some x4
else
bd (f_X3_spread_s N nn i0 g1 x4 x3) fun o23_0 =>
nx9 x3 o23_0 (x5 + (1 : Int32)))
def f_X3_reached_s (N : Nat) (nn : Nat) (i0 : Int32) (g1 : Nat → Nat → Int32)  (p2 : Int32) (p3 : Int32) : Option (Int32) :=
lq3 (f_X3_reached_s_9 N nn i0 g1 ) N p3 (p2 &&& (-p2)) (1 : Int32)
set_option maxHeartbeats 4000000 in
set_option maxRecDepth 100000 in
theorem s_X3_reached_s_9 {p : Program} {l : Launch} {e : Env} {s : State} {m : MethodId} {args : Array Value} {below : List Frame} {meth : Method} {c : Code} {D : va_G} {y : Nat → ClassId} {nn : Nat} {ad : Nat → Nat} {A0 : Nat → Prop} {I : Nat → Int32} {J : Nat → Int64} {A : Nat → Nat → Int32} {B : Nat → Nat → Int64} {G : Nat → Nat → Nat → Int32} (F : Fx p s m args meth c cX3_reached 6 wsX3_reached RX3 D y A0) (hr : meth.sig.returnType = (some .int)) {out : Int32} {N : Nat}  (nx9 : Int32 → Int32 → Int32 → Option (Int32)) (hn9 : ∀ (x3 : Int32) (x4 : Int32) (x5 : Int32) (ls : Array Slot) (H : Heap) (locs : List Loc), nx9 x3 x4 x5 = some out → MM D y nn ad A0 s.heap I J A B G H locs → lv_has ls 6 [(0, .ref (ad 1)), (1, .ref (ad 9)), (3, .int x3), (4, .int x4), (5, .int x5)] → W p l e ({ frames := 1, cells := 0, slots := 0, locals := 28 } : Room) s m args below meth c H locs 0 0 (MQ below (mQi D y nn ad A0 out (I, J, A, B, G)) args s 0 0 A0) (F0 m 9 ls [])) : ∀ (x3 : Int32) (x4 : Int32) (x5 : Int32) (ls : Array Slot) (H : Heap) (locs : List Loc), f_X3_reached_s_9 N nn (I 0) (G 1)  nx9 x3 x4 x5 = some out → MM D y nn ad A0 s.heap I J A B G H locs → lv_has ls 6 [(0, .ref (ad 1)), (1, .ref (ad 9)), (3, .int x3), (4, .int x4), (5, .int x5)] → W p l e ({ frames := 1, cells := 0, slots := 0, locals := 28 } : Room) s m args below meth c H locs 0 0 (MQ below (mQi D y nn ad A0 out (I, J, A, B, G)) args s 0 0 A0) (F0 m 9 ls []) := by
  intro x3 x4 x5 ls H locs hE hM hl
  have hx := F.1.1
  have hb := F.1.2.1
  unfold f_X3_reached_s_9 at hE
  refine lv_iload hx hb dX3_reached_9 (lv_at hl 4 rfl) ?_
  refine lv_aload_n hx hb dX3_reached_11 rfl (lv_at hl 0 rfl) ?_
  refine m_get F hM 1 mg_1 rfl 0 (by decide) (by decide +kernel) (by decide +kernel) (v := .int (I 0)) rfl dX3_reached_12 ?_
  refine lv_icmp_ge (tgt := 34) hx hb dX3_reached_15 (by decide) (fun c15 => ?_) (fun c15 => ?_)
  · replace hE := (if_pos c15).symm.trans hE
    refine lv_iload hx hb dX3_reached_34 (lv_at hl 3 rfl) ?_
    obtain rfl := Option.some.inj hE
    exact m_iret F hM hr rfl rfl dX3_reached_36
  · replace hE := (if_neg c15).symm.trans hE
    refine lv_aload_n hx hb dX3_reached_18 rfl (lv_at hl 0 rfl) ?_
    refine lv_aload_n hx hb dX3_reached_19 rfl (lv_at hl 1 rfl) ?_
    refine lv_iload hx hb dX3_reached_20 (lv_at hl 3 rfl) ?_
    refine lv_iload_n hx hb dX3_reached_22 rfl (lv_at hl 2 rfl) ?_
    obtain ⟨o23_0, ho23_0, hE⟩ := bd_some hE
    refine m_callVi (As := [.ref (ad 9), .int x4, .int x3]) (I2 := I) (J2 := J) (A2 := A) (B2 := B) (G2 := G) F hM (c_X3_spread_s l D y nn ad H.size I J A B G x4 x3 N o23_0 ho23_0) (cwV 3 F.1.2.2.2.2 gX3_reached_X3_spread rfl rfl rfl (by decide +kernel) ⟨Nat.le_of_ble_eq_true rfl, Nat.le_of_ble_eq_true rfl⟩) (m_recv F hM mg_1 rfl) rfl hl.1 (Nat.le_of_ble_eq_true rfl) dX3_reached_23 ⟨Nat.le_refl 0, Nat.le_refl 0⟩ rfl rfl rfl rfl rfl (fun H locs hM => ?_)
    refine lv_istore (lv' := [(4, .int o23_0), (0, .ref (ad 1)), (1, .ref (ad 9)), (3, .int x3), (5, .int x5)]) hx hb dX3_reached_26 hl (by decide) rfl (fun ls hl => ?_)
    refine lv_iinc (v := x5 + (1 : Int32)) (lv' := [(5, .int (x5 + (1 : Int32))), (4, .int o23_0), (0, .ref (ad 1)), (1, .ref (ad 9)), (3, .int x3)]) hx hb dX3_reached_28 hl (k := 4) rfl rfl (by decide) rfl (fun ls hl => ?_)
    refine lv_goto (tgt := 9) hx hb dX3_reached_31 (by decide) ?_
    exact hn9 x3 o23_0 (x5 + (1 : Int32)) ls H locs hE hM (lv_sub hl [2, 3, 4, 1, 0] rfl)
theorem k_X3_reached_s_9 {p : Program} {l : Launch} {e : Env} {s : State} {m : MethodId} {args : Array Value} {below : List Frame} {meth : Method} {c : Code} {D : va_G} {y : Nat → ClassId} {nn : Nat} {ad : Nat → Nat} {A0 : Nat → Prop} {I : Nat → Int32} {J : Nat → Int64} {A : Nat → Nat → Int32} {B : Nat → Nat → Int64} {G : Nat → Nat → Nat → Int32} (F : Fx p s m args meth c cX3_reached 6 wsX3_reached RX3 D y A0) (hr : meth.sig.returnType = (some .int)) {out : Int32} {N : Nat}  : ∀ (n : Nat), ∀ (x3 : Int32) (x4 : Int32) (x5 : Int32) (ls : Array Slot) (H : Heap) (locs : List Loc), lq3 (f_X3_reached_s_9 N nn (I 0) (G 1) ) n x3 x4 x5 = some out → MM D y nn ad A0 s.heap I J A B G H locs → lv_has ls 6 [(0, .ref (ad 1)), (1, .ref (ad 9)), (3, .int x3), (4, .int x4), (5, .int x5)] → W p l e ({ frames := 1, cells := 0, slots := 0, locals := 28 } : Room) s m args below meth c H locs 0 0 (MQ below (mQi D y nn ad A0 out (I, J, A, B, G)) args s 0 0 A0) (F0 m 9 ls []) := by
  intro n
  induction n with
  | zero =>
    intro x3 x4 x5 ls H locs hE
    cases (show (none : Option _) = some out from hE)
  | succ n ih =>
    intro x3 x4 x5 ls H locs hE hM hl
    exact s_X3_reached_s_9 F hr (N := N)  (lq3 (f_X3_reached_s_9 N nn (I 0) (G 1) ) n) ih x3 x4 x5 ls H locs hE hM hl
set_option maxHeartbeats 4000000 in
set_option maxRecDepth 100000 in
theorem c_X3_reached_s (l : Launch) (D : va_G) (y : Nat → ClassId) (nn : Nat) (ad : Nat → Nat) (sz : Nat) (I : Nat → Int32) (J : Nat → Int64) (A : Nat → Nat → Int32) (B : Nat → Nat → Int64) (G : Nat → Nat → Nat → Int32) (p2 : Int32) (p3 : Int32) (N : Nat) (out : Int32) (hE : f_X3_reached_s N nn (I 0) (G 1)  p2 p3 = some out) : Met l yX3_reached wsX3_reached ({ frames := 1, cells := 0, slots := 0, locals := 28 } : Room) (mPc [.ref (ad 1), .ref (ad 9), .int p2, .int p3] D y nn ad sz I J A B G) (mQi D y nn ad (mA y nn ad I J A B G sz) out (I, J, A, B, G)) 0 0 (mA y nn ad I J A B G sz) := by
  refine Met.ofW (cc := cX3_reached) (maxL := 6) (ret := (some .int)) (by decide) rfl ?_
  intro p e s m args below meth c s₁ Bd hml hv
  obtain ⟨rfl, hsz, hP, hK, hD0, hN⟩ := hv
  have hr := Bd.returns
  subst hsz
  have F : Fx p s m ([.ref (ad 1), .ref (ad 9), .int p2, .int p3] : List Value).toArray meth c cX3_reached 6 wsX3_reached RX3 D y (mA y nn ad I J A B G s.heap.size) := ⟨⟨Bd.exec, Bd.bytes, hml, findClass_of_methodNamed Bd.named, atoms_spec (ws := wsX3_reached) Bd.pre⟩, hK, hN, fun q h => Or.inr h, Bd.notSynchronized⟩
  have hM := m_start (s := s) rfl hP hD0
  have hM := m_mem (I2 := I) (J2 := J) (A2 := A) (B2 := B) (G2 := G) hM (by rfl) (by rfl) (by rfl) (by rfl) (by rfl)
  have hx := F.1.1
  have hb := F.1.2.1
  have hl := lv_entry ([.ref (ad 1), .ref (ad 9), .int p2, .int p3]) (n := 6) (Nat.le_of_ble_eq_true rfl)
  rw [lg_entry_eq]
  generalize (lg_sl ([.ref (ad 1), .ref (ad 9), .int p2, .int p3]) ++ List.replicate (6 - (lg_sl ([.ref (ad 1), .ref (ad 9), .int p2, .int p3])).length) Slot.unset).toArray = ls at hl ⊢
  have hl : lv_has ls 6 [(0, .ref (ad 1)), (1, .ref (ad 9)), (2, .int p2), (3, .int p3)] := hl
  show W p l e ({ frames := 1, cells := 0, slots := 0, locals := 28 } : Room) s m _ below meth c s.heap [] 0 0 _ _
  obtain ⟨locs, hlo⟩ : ∃ locs : List Loc, locs = [] := ⟨_, rfl⟩
  rw [← hlo]; rw [← hlo] at hM
  unfold f_X3_reached_s at hE
  revert hM
  suffices hH : ∀ H : Heap, MM D y nn ad (mA y nn ad I J A B G s.heap.size) s.heap I J A B G H locs → W p l e ({ frames := 1, cells := 0, slots := 0, locals := 28 } : Room) s m ([.ref (ad 1), .ref (ad 9), .int p2, .int p3] : List Value).toArray below meth c H locs 0 0 (MQ below (mQi D y nn ad (mA y nn ad I J A B G s.heap.size) out (I, J, A, B, G)) ([.ref (ad 1), .ref (ad 9), .int p2, .int p3] : List Value).toArray s 0 0 (mA y nn ad I J A B G s.heap.size)) (F0 m 0 ls []) from hH s.heap
  intro H hM
  refine lv_iload_n hx hb dX3_reached_0 rfl (lv_at hl 2 rfl) ?_
  refine lv_iload_n hx hb dX3_reached_1 rfl (lv_at hl 2 rfl) ?_
  refine lv_ineg hx hb dX3_reached_2 ?_
  refine lv_iand hx hb dX3_reached_3 ?_
  refine lv_istore (lv' := [(4, .int (p2 &&& (-p2))), (0, .ref (ad 1)), (1, .ref (ad 9)), (2, .int p2), (3, .int p3)]) hx hb dX3_reached_4 hl (by decide) rfl (fun ls hl => ?_)
  refine lv_iconst (v := 1) hx hb dX3_reached_6 (by decide) ?_
  refine lv_istore (lv' := [(5, .int (1 : Int32)), (4, .int (p2 &&& (-p2))), (0, .ref (ad 1)), (1, .ref (ad 9)), (2, .int p2), (3, .int p3)]) hx hb dX3_reached_7 hl (by decide) rfl (fun ls hl => ?_)
  exact k_X3_reached_s_9 F hr (N := N)  N p3 (p2 &&& (-p2)) (1 : Int32) ls H locs hE hM (lv_sub hl [2, 3, 5, 1, 0] rfl)
/-! ===== X3_streetsHangTogether: reads I0 G1, writes , frames 2, locals 53 ===== -/
def f_X3_streetsHangTogether (N : Nat) (nn : Nat) (i0 : Int32) (g1 : Nat → Nat → Int32)   : Option (Int32) :=
bd (f_X3_placesWithStreets N nn i0 g1) fun o1_0 =>
bd (f_X3_reached_s N nn i0 g1 o1_0 (0 : Int32)) fun o12_1 =>
(if (o12_1 &&& o1_0) = o1_0 then
bz (1 : Int32) (some (1 : Int32))
else
bz (0 : Int32) (some (0 : Int32)))
set_option maxHeartbeats 4000000 in
set_option maxRecDepth 100000 in
theorem c_X3_streetsHangTogether (l : Launch) (D : va_G) (y : Nat → ClassId) (nn : Nat) (ad : Nat → Nat) (sz : Nat) (I : Nat → Int32) (J : Nat → Int64) (A : Nat → Nat → Int32) (B : Nat → Nat → Int64) (G : Nat → Nat → Nat → Int32)  (N : Nat) (out : Int32) (hE : f_X3_streetsHangTogether N nn (I 0) (G 1)   = some out) : Met l yX3_streetsHangTogether wsX3_streetsHangTogether ({ frames := 2, cells := 0, slots := 0, locals := 53 } : Room) (mPc [.ref (ad 1)] D y nn ad sz I J A B G) (mQi D y nn ad (mA y nn ad I J A B G sz) out (I, J, A, B, G)) 0 0 (mA y nn ad I J A B G sz) := by
  refine Met.ofW (cc := cX3_streetsHangTogether) (maxL := 2) (ret := (some .boolean)) (by decide) rfl ?_
  intro p e s m args below meth c s₁ Bd hml hv
  obtain ⟨rfl, hsz, hP, hK, hD0, hN⟩ := hv
  have hr := Bd.returns
  subst hsz
  have F : Fx p s m ([.ref (ad 1)] : List Value).toArray meth c cX3_streetsHangTogether 2 wsX3_streetsHangTogether RX3 D y (mA y nn ad I J A B G s.heap.size) := ⟨⟨Bd.exec, Bd.bytes, hml, findClass_of_methodNamed Bd.named, atoms_spec (ws := wsX3_streetsHangTogether) Bd.pre⟩, hK, hN, fun q h => Or.inr h, Bd.notSynchronized⟩
  have hM := m_start (s := s) rfl hP hD0
  have hM := m_mem (I2 := I) (J2 := J) (A2 := A) (B2 := B) (G2 := G) hM (by rfl) (by rfl) (by rfl) (by rfl) (by rfl)
  have hx := F.1.1
  have hb := F.1.2.1
  have hl := lv_entry ([.ref (ad 1)]) (n := 2) (Nat.le_of_ble_eq_true rfl)
  rw [lg_entry_eq]
  generalize (lg_sl ([.ref (ad 1)]) ++ List.replicate (2 - (lg_sl ([.ref (ad 1)])).length) Slot.unset).toArray = ls at hl ⊢
  have hl : lv_has ls 2 [(0, .ref (ad 1))] := hl
  show W p l e ({ frames := 2, cells := 0, slots := 0, locals := 53 } : Room) s m _ below meth c s.heap [] 0 0 _ _
  obtain ⟨locs, hlo⟩ : ∃ locs : List Loc, locs = [] := ⟨_, rfl⟩
  rw [← hlo]; rw [← hlo] at hM
  unfold f_X3_streetsHangTogether at hE
  revert hM
  suffices hH : ∀ H : Heap, MM D y nn ad (mA y nn ad I J A B G s.heap.size) s.heap I J A B G H locs → W p l e ({ frames := 2, cells := 0, slots := 0, locals := 53 } : Room) s m ([.ref (ad 1)] : List Value).toArray below meth c H locs 0 0 (MQ below (mQi D y nn ad (mA y nn ad I J A B G s.heap.size) out (I, J, A, B, G)) ([.ref (ad 1)] : List Value).toArray s 0 0 (mA y nn ad I J A B G s.heap.size)) (F0 m 0 ls []) from hH s.heap
  intro H hM
  refine lv_aload_n hx hb dX3_streetsHangTogether_0 rfl (lv_at hl 0 rfl) ?_
  obtain ⟨o1_0, ho1_0, hE⟩ := bd_some hE
  refine m_callVi (As := []) (I2 := I) (J2 := J) (A2 := A) (B2 := B) (G2 := G) F hM (c_X3_placesWithStreets l D y nn ad H.size I J A B G  N o1_0 ho1_0) (cwV 0 F.1.2.2.2.2 gX3_streetsHangTogether_X3_placesWithStreets rfl rfl rfl (by decide +kernel) ⟨Nat.le_of_ble_eq_true rfl, Nat.le_of_ble_eq_true rfl⟩) (m_recv F hM mg_1 rfl) rfl hl.1 (Nat.le_of_ble_eq_true rfl) dX3_streetsHangTogether_1 ⟨Nat.le_refl 0, Nat.le_refl 0⟩ rfl rfl rfl rfl rfl (fun H locs hM => ?_)
  refine lv_istore_n (lv' := [(1, .int o1_0), (0, .ref (ad 1))]) hx hb dX3_streetsHangTogether_4 rfl hl (by decide) rfl (fun ls hl => ?_)
  refine lv_aload_n hx hb dX3_streetsHangTogether_5 rfl (lv_at hl 1 rfl) ?_
  refine lv_aload_n hx hb dX3_streetsHangTogether_6 rfl (lv_at hl 1 rfl) ?_
  refine m_get F hM 1 mg_1 rfl 2 (by decide) (by decide +kernel) (by decide +kernel) (v := .ref (ad 9)) rfl dX3_streetsHangTogether_7 ?_
  refine lv_iload_n hx hb dX3_streetsHangTogether_10 rfl (lv_at hl 0 rfl) ?_
  refine lv_iconst (v := 0) hx hb dX3_streetsHangTogether_11 (by decide) ?_
  obtain ⟨o12_1, ho12_1, hE⟩ := bd_some hE
  refine m_callVi (As := [.ref (ad 9), .int o1_0, .int (0 : Int32)]) (I2 := I) (J2 := J) (A2 := A) (B2 := B) (G2 := G) F hM (c_X3_reached_s l D y nn ad H.size I J A B G o1_0 (0 : Int32) N o12_1 ho12_1) (cwV 3 F.1.2.2.2.2 gX3_streetsHangTogether_X3_reached rfl rfl rfl (by decide +kernel) ⟨Nat.le_of_ble_eq_true rfl, Nat.le_of_ble_eq_true rfl⟩) (m_recv F hM mg_1 rfl) rfl hl.1 (Nat.le_of_ble_eq_true rfl) dX3_streetsHangTogether_12 ⟨Nat.le_refl 0, Nat.le_refl 0⟩ rfl rfl rfl rfl rfl (fun H locs hM => ?_)
  refine lv_iload_n hx hb dX3_streetsHangTogether_15 rfl (lv_at hl 0 rfl) ?_
  refine lv_iand hx hb dX3_streetsHangTogether_16 ?_
  refine lv_iload_n hx hb dX3_streetsHangTogether_17 rfl (lv_at hl 0 rfl) ?_
  refine lv_icmp_ne (tgt := 25) hx hb dX3_streetsHangTogether_18 (by decide) (fun c18 => ?_) (fun c18 => ?_)
  · replace hE := (if_neg c18).symm.trans hE
    refine lv_iconst (v := 0) hx hb dX3_streetsHangTogether_25 (by decide) ?_
    obtain ⟨hz, hE⟩ := bz_some hE
    obtain rfl := Option.some.inj hE
    exact m_zret F hM hr hz rfl rfl dX3_streetsHangTogether_26
  · replace hE := (if_pos c18).symm.trans hE
    refine lv_iconst (v := 1) hx hb dX3_streetsHangTogether_21 (by decide) ?_
    refine lv_goto (tgt := 26) hx hb dX3_streetsHangTogether_22 (by decide) ?_
    obtain ⟨hz, hE⟩ := bz_some hE
    obtain rfl := Option.some.inj hE
    exact m_zret F hM hr hz rfl rfl dX3_streetsHangTogether_26
/-! ===== X3_waysLeadFromEachToEach: reads I0 G0 G1, writes , frames 2, locals 53 ===== -/
def f_X3_waysLeadFromEachToEach (N : Nat) (nn : Nat) (i0 : Int32) (g0 : Nat → Nat → Int32) (g1 : Nat → Nat → Int32)   : Option (Int32) :=
bd (f_X3_placesWithStreets N nn i0 g1) fun o1_0 =>
bd (f_X3_reached_w N nn i0 g0 o1_0 (0 : Int32)) fun o12_1 =>
bd (f_X3_reached_w N nn i0 g0 o1_0 (1 : Int32)) fun o22_2 =>
(if ((o12_1 &&& o22_2) &&& o1_0) = o1_0 then
bz (1 : Int32) (some (1 : Int32))
else
bz (0 : Int32) (some (0 : Int32)))
set_option maxHeartbeats 4000000 in
set_option maxRecDepth 100000 in
theorem c_X3_waysLeadFromEachToEach (l : Launch) (D : va_G) (y : Nat → ClassId) (nn : Nat) (ad : Nat → Nat) (sz : Nat) (I : Nat → Int32) (J : Nat → Int64) (A : Nat → Nat → Int32) (B : Nat → Nat → Int64) (G : Nat → Nat → Nat → Int32)  (N : Nat) (out : Int32) (hE : f_X3_waysLeadFromEachToEach N nn (I 0) (G 0) (G 1)   = some out) : Met l yX3_waysLeadFromEachToEach wsX3_waysLeadFromEachToEach ({ frames := 2, cells := 0, slots := 0, locals := 53 } : Room) (mPc [.ref (ad 1)] D y nn ad sz I J A B G) (mQi D y nn ad (mA y nn ad I J A B G sz) out (I, J, A, B, G)) 0 0 (mA y nn ad I J A B G sz) := by
  refine Met.ofW (cc := cX3_waysLeadFromEachToEach) (maxL := 2) (ret := (some .boolean)) (by decide) rfl ?_
  intro p e s m args below meth c s₁ Bd hml hv
  obtain ⟨rfl, hsz, hP, hK, hD0, hN⟩ := hv
  have hr := Bd.returns
  subst hsz
  have F : Fx p s m ([.ref (ad 1)] : List Value).toArray meth c cX3_waysLeadFromEachToEach 2 wsX3_waysLeadFromEachToEach RX3 D y (mA y nn ad I J A B G s.heap.size) := ⟨⟨Bd.exec, Bd.bytes, hml, findClass_of_methodNamed Bd.named, atoms_spec (ws := wsX3_waysLeadFromEachToEach) Bd.pre⟩, hK, hN, fun q h => Or.inr h, Bd.notSynchronized⟩
  have hM := m_start (s := s) rfl hP hD0
  have hM := m_mem (I2 := I) (J2 := J) (A2 := A) (B2 := B) (G2 := G) hM (by rfl) (by rfl) (by rfl) (by rfl) (by rfl)
  have hx := F.1.1
  have hb := F.1.2.1
  have hl := lv_entry ([.ref (ad 1)]) (n := 2) (Nat.le_of_ble_eq_true rfl)
  rw [lg_entry_eq]
  generalize (lg_sl ([.ref (ad 1)]) ++ List.replicate (2 - (lg_sl ([.ref (ad 1)])).length) Slot.unset).toArray = ls at hl ⊢
  have hl : lv_has ls 2 [(0, .ref (ad 1))] := hl
  show W p l e ({ frames := 2, cells := 0, slots := 0, locals := 53 } : Room) s m _ below meth c s.heap [] 0 0 _ _
  obtain ⟨locs, hlo⟩ : ∃ locs : List Loc, locs = [] := ⟨_, rfl⟩
  rw [← hlo]; rw [← hlo] at hM
  unfold f_X3_waysLeadFromEachToEach at hE
  revert hM
  suffices hH : ∀ H : Heap, MM D y nn ad (mA y nn ad I J A B G s.heap.size) s.heap I J A B G H locs → W p l e ({ frames := 2, cells := 0, slots := 0, locals := 53 } : Room) s m ([.ref (ad 1)] : List Value).toArray below meth c H locs 0 0 (MQ below (mQi D y nn ad (mA y nn ad I J A B G s.heap.size) out (I, J, A, B, G)) ([.ref (ad 1)] : List Value).toArray s 0 0 (mA y nn ad I J A B G s.heap.size)) (F0 m 0 ls []) from hH s.heap
  intro H hM
  refine lv_aload_n hx hb dX3_waysLeadFromEachToEach_0 rfl (lv_at hl 0 rfl) ?_
  obtain ⟨o1_0, ho1_0, hE⟩ := bd_some hE
  refine m_callVi (As := []) (I2 := I) (J2 := J) (A2 := A) (B2 := B) (G2 := G) F hM (c_X3_placesWithStreets l D y nn ad H.size I J A B G  N o1_0 ho1_0) (cwV 0 F.1.2.2.2.2 gX3_waysLeadFromEachToEach_X3_placesWithStreets rfl rfl rfl (by decide +kernel) ⟨Nat.le_of_ble_eq_true rfl, Nat.le_of_ble_eq_true rfl⟩) (m_recv F hM mg_1 rfl) rfl hl.1 (Nat.le_of_ble_eq_true rfl) dX3_waysLeadFromEachToEach_1 ⟨Nat.le_refl 0, Nat.le_refl 0⟩ rfl rfl rfl rfl rfl (fun H locs hM => ?_)
  refine lv_istore_n (lv' := [(1, .int o1_0), (0, .ref (ad 1))]) hx hb dX3_waysLeadFromEachToEach_4 rfl hl (by decide) rfl (fun ls hl => ?_)
  refine lv_aload_n hx hb dX3_waysLeadFromEachToEach_5 rfl (lv_at hl 1 rfl) ?_
  refine lv_aload_n hx hb dX3_waysLeadFromEachToEach_6 rfl (lv_at hl 1 rfl) ?_
  refine m_get F hM 1 mg_1 rfl 1 (by decide) (by decide +kernel) (by decide +kernel) (v := .ref (ad 8)) rfl dX3_waysLeadFromEachToEach_7 ?_
  refine lv_iload_n hx hb dX3_waysLeadFromEachToEach_10 rfl (lv_at hl 0 rfl) ?_
  refine lv_iconst (v := 0) hx hb dX3_waysLeadFromEachToEach_11 (by decide) ?_
  obtain ⟨o12_1, ho12_1, hE⟩ := bd_some hE
  refine m_callVi (As := [.ref (ad 8), .int o1_0, .int (0 : Int32)]) (I2 := I) (J2 := J) (A2 := A) (B2 := B) (G2 := G) F hM (c_X3_reached_w l D y nn ad H.size I J A B G o1_0 (0 : Int32) N o12_1 ho12_1) (cwV 3 F.1.2.2.2.2 gX3_waysLeadFromEachToEach_X3_reached rfl rfl rfl (by decide +kernel) ⟨Nat.le_of_ble_eq_true rfl, Nat.le_of_ble_eq_true rfl⟩) (m_recv F hM mg_1 rfl) rfl hl.1 (Nat.le_of_ble_eq_true rfl) dX3_waysLeadFromEachToEach_12 ⟨Nat.le_refl 0, Nat.le_refl 0⟩ rfl rfl rfl rfl rfl (fun H locs hM => ?_)
  refine lv_aload_n hx hb dX3_waysLeadFromEachToEach_15 rfl (lv_at hl 1 rfl) ?_
  refine lv_aload_n hx hb dX3_waysLeadFromEachToEach_16 rfl (lv_at hl 1 rfl) ?_
  refine m_get F hM 1 mg_1 rfl 1 (by decide) (by decide +kernel) (by decide +kernel) (v := .ref (ad 8)) rfl dX3_waysLeadFromEachToEach_17 ?_
  refine lv_iload_n hx hb dX3_waysLeadFromEachToEach_20 rfl (lv_at hl 0 rfl) ?_
  refine lv_iconst (v := 1) hx hb dX3_waysLeadFromEachToEach_21 (by decide) ?_
  obtain ⟨o22_2, ho22_2, hE⟩ := bd_some hE
  refine m_callVi (As := [.ref (ad 8), .int o1_0, .int (1 : Int32)]) (I2 := I) (J2 := J) (A2 := A) (B2 := B) (G2 := G) F hM (c_X3_reached_w l D y nn ad H.size I J A B G o1_0 (1 : Int32) N o22_2 ho22_2) (cwV 3 F.1.2.2.2.2 gX3_waysLeadFromEachToEach_X3_reached rfl rfl rfl (by decide +kernel) ⟨Nat.le_of_ble_eq_true rfl, Nat.le_of_ble_eq_true rfl⟩) (m_recv F hM mg_1 rfl) rfl hl.1 (Nat.le_of_ble_eq_true rfl) dX3_waysLeadFromEachToEach_22 ⟨Nat.le_refl 0, Nat.le_refl 0⟩ rfl rfl rfl rfl rfl (fun H locs hM => ?_)
  refine lv_iand hx hb dX3_waysLeadFromEachToEach_25 ?_
  refine lv_iload_n hx hb dX3_waysLeadFromEachToEach_26 rfl (lv_at hl 0 rfl) ?_
  refine lv_iand hx hb dX3_waysLeadFromEachToEach_27 ?_
  refine lv_iload_n hx hb dX3_waysLeadFromEachToEach_28 rfl (lv_at hl 0 rfl) ?_
  refine lv_icmp_ne (tgt := 36) hx hb dX3_waysLeadFromEachToEach_29 (by decide) (fun c29 => ?_) (fun c29 => ?_)
  · replace hE := (if_neg c29).symm.trans hE
    refine lv_iconst (v := 0) hx hb dX3_waysLeadFromEachToEach_36 (by decide) ?_
    obtain ⟨hz, hE⟩ := bz_some hE
    obtain rfl := Option.some.inj hE
    exact m_zret F hM hr hz rfl rfl dX3_waysLeadFromEachToEach_37
  · replace hE := (if_pos c29).symm.trans hE
    refine lv_iconst (v := 1) hx hb dX3_waysLeadFromEachToEach_32 (by decide) ?_
    refine lv_goto (tgt := 37) hx hb dX3_waysLeadFromEachToEach_33 (by decide) ?_
    obtain ⟨hz, hE⟩ := bz_some hE
    obtain rfl := Option.some.inj hE
    exact m_zret F hM hr hz rfl rfl dX3_waysLeadFromEachToEach_37
