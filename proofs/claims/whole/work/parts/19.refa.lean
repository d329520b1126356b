/-! ===== X7_thrown: reads I5, writes , frames 0, locals 0 ===== -/
def f_X7_thrown (i5 : Int32)   : Option (Int32) :=
some i5
set_option maxHeartbeats 4000000 in
set_option maxRecDepth 100000 in
theorem c_X7_thrown (l : Launch) (D : va_G) (y : Nat → ClassId) (nn : Nat) (ad : Nat → Nat) (sz : Nat) (I : Nat → Int32) (J : Nat → Int64) (A : Nat → Nat → Int32) (B : Nat → Nat → Int64) (G : Nat → Nat → Nat → Int32)   (out : Int32) (hE : f_X7_thrown (I 5)   = some out) : Met l yX7_thrown wsX7_thrown ({ frames := 0, cells := 0, slots := 0, locals := 0 } : Room) (mPc [.ref (ad 7)] D y nn ad sz I J A B G) (mQi D y nn ad (mA y nn ad I J A B G sz) out (I, J, A, B, G)) 0 0 (mA y nn ad I J A B G sz) := by
  refine Met.ofW (cc := cX7_thrown) (maxL := 1) (ret := (some .int)) (by decide) rfl ?_
  intro p e s m args below meth c s₁ Bd hml hv
  obtain ⟨rfl, hsz, hP, hK, hD0, hN⟩ := hv
  have hr := Bd.returns
  subst hsz
  have F : Fx p s m ([.ref (ad 7)] : List Value).toArray meth c cX7_thrown 1 wsX7_thrown RX7 D y (mA y nn ad I J A B G s.heap.size) := ⟨⟨Bd.exec, Bd.bytes, hml, findClass_of_methodNamed Bd.named, atoms_spec (ws := wsX7_thrown) Bd.pre⟩, hK, hN, fun q h => Or.inr h, Bd.notSynchronized⟩
  have hM := m_start (s := s) rfl hP hD0
  have hM := m_mem (I2 := I) (J2 := J) (A2 := A) (B2 := B) (G2 := G) hM (by rfl) (by rfl) (by rfl) (by rfl) (by rfl)
  have hx := F.1.1
  have hb := F.1.2.1
  have hl := lv_entry ([.ref (ad 7)]) (n := 1) (Nat.le_of_ble_eq_true rfl)
  rw [lg_entry_eq]
  generalize (lg_sl ([.ref (ad 7)]) ++ List.replicate (1 - (lg_sl ([.ref (ad 7)])).length) Slot.unset).toArray = ls at hl ⊢
  have hl : lv_has ls 1 [(0, .ref (ad 7))] := hl
  show W p l e ({ frames := 0, cells := 0, slots := 0, locals := 0 } : Room) s m _ below meth c s.heap [] 0 0 _ _
  obtain ⟨locs, hlo⟩ : ∃ locs : List Loc, locs = [] := ⟨_, rfl⟩
  rw [← hlo]; rw [← hlo] at hM
  unfold f_X7_thrown at hE
  revert hM
  suffices hH : ∀ H : Heap, MM D y nn ad (mA y nn ad I J A B G s.heap.size) s.heap I J A B G H locs → W p l e ({ frames := 0, cells := 0, slots := 0, locals := 0 } : Room) s m ([.ref (ad 7)] : List Value).toArray below meth c H locs 0 0 (MQ below (mQi D y nn ad (mA y nn ad I J A B G s.heap.size) out (I, J, A, B, G)) ([.ref (ad 7)] : List Value).toArray s 0 0 (mA y nn ad I J A B G s.heap.size)) (F0 m 0 ls []) from hH s.heap
  intro H hM
  refine lv_aload_n hx hb dX7_thrown_0 rfl (lv_at hl 0 rfl) ?_
  refine m_get F hM 7 mg_7 rfl 0 (by decide) (by decide +kernel) (by decide +kernel) (v := .int (I 5)) rfl dX7_thrown_1 ?_
  obtain rfl := Option.some.inj hE
  exact m_iret F hM hr rfl rfl dX7_thrown_4
/-! ===== X7_isPlace: reads I6, writes , frames 0, locals 0 ===== -/
def f_X7_isPlace (i6 : Int32)  (p1 : Int32) : Option (Int32) :=
(if p1 < (0 : Int32) then
bz (0 : Int32) (some (0 : Int32))
else
(if i6 ≤ p1 then
bz (0 : Int32) (some (0 : Int32))
else
bz (1 : Int32) (some (1 : Int32))))
set_option maxHeartbeats 4000000 in
set_option maxRecDepth 100000 in
theorem c_X7_isPlace (l : Launch) (D : va_G) (y : Nat → ClassId) (nn : Nat) (ad : Nat → Nat) (sz : Nat) (I : Nat → Int32) (J : Nat → Int64) (A : Nat → Nat → Int32) (B : Nat → Nat → Int64) (G : Nat → Nat → Nat → Int32) (p1 : Int32)  (out : Int32) (hE : f_X7_isPlace (I 6)  p1 = some out) : Met l yX7_isPlace wsX7_isPlace ({ frames := 0, cells := 0, slots := 0, locals := 0 } : Room) (mPc [.ref (ad 7), .int p1] D y nn ad sz I J A B G) (mQi D y nn ad (mA y nn ad I J A B G sz) out (I, J, A, B, G)) 0 0 (mA y nn ad I J A B G sz) := by
  refine Met.ofW (cc := cX7_isPlace) (maxL := 2) (ret := (some .boolean)) (by decide) rfl ?_
  intro p e s m args below meth c s₁ Bd hml hv
  obtain ⟨rfl, hsz, hP, hK, hD0, hN⟩ := hv
  have hr := Bd.returns
  subst hsz
  have F : Fx p s m ([.ref (ad 7), .int p1] : List Value).toArray meth c cX7_isPlace 2 wsX7_isPlace RX7 D y (mA y nn ad I J A B G s.heap.size) := ⟨⟨Bd.exec, Bd.bytes, hml, findClass_of_methodNamed Bd.named, atoms_spec (ws := wsX7_isPlace) Bd.pre⟩, hK, hN, fun q h => Or.inr h, Bd.notSynchronized⟩
  have hM := m_start (s := s) rfl hP hD0
  have hM := m_mem (I2 := I) (J2 := J) (A2 := A) (B2 := B) (G2 := G) hM (by rfl) (by rfl) (by rfl) (by rfl) (by rfl)
  have hx := F.1.1
  have hb := F.1.2.1
  have hl := lv_entry ([.ref (ad 7), .int p1]) (n := 2) (Nat.le_of_ble_eq_true rfl)
  rw [lg_entry_eq]
  generalize (lg_sl ([.ref (ad 7), .int p1]) ++ List.replicate (2 - (lg_sl ([.ref (ad 7), .int p1])).length) Slot.unset).toArray = ls at hl ⊢
  have hl : lv_has ls 2 [(0, .ref (ad 7)), (1, .int p1)] := hl
  show W p l e ({ frames := 0, cells := 0, slots := 0, locals := 0 } : Room) s m _ below meth c s.heap [] 0 0 _ _
  obtain ⟨locs, hlo⟩ : ∃ locs : List Loc, locs = [] := ⟨_, rfl⟩
  rw [← hlo]; rw [← hlo] at hM
  unfold f_X7_isPlace at hE
  revert hM
  suffices hH : ∀ H : Heap, MM D y nn ad (mA y nn ad I J A B G s.heap.size) s.heap I J A B G H locs → W p l e ({ frames := 0, cells := 0, slots := 0, locals := 0 } : Room) s m ([.ref (ad 7), .int p1] : List Value).toArray below meth c H locs 0 0 (MQ below (mQi D y nn ad (mA y nn ad I J A B G s.heap.size) out (I, J, A, B, G)) ([.ref (ad 7), .int p1] : List Value).toArray s 0 0 (mA y nn ad I J A B G s.heap.size)) (F0 m 0 ls []) from hH s.heap
  intro H hM
  refine lv_iload_n hx hb dX7_isPlace_0 rfl (lv_at hl 1 rfl) ?_
  refine lv_if_lt (tgt := 16) hx hb dX7_isPlace_1 (by decide) (fun c1 => ?_) (fun c1 => ?_)
  · replace hE := (if_pos c1).symm.trans hE
    refine lv_iconst (v := 0) hx hb dX7_isPlace_16 (by decide) ?_
    obtain ⟨hz, hE⟩ := bz_some hE
    obtain rfl := Option.some.inj hE
    exact m_zret F hM hr hz rfl rfl dX7_isPlace_17
  · replace hE := (if_neg c1).symm.trans hE
    refine lv_iload_n hx hb dX7_isPlace_4 rfl (lv_at hl 1 rfl) ?_
    refine lv_aload_n hx hb dX7_isPlace_5 rfl (lv_at hl 0 rfl) ?_
    refine m_get F hM 7 mg_7 rfl 1 (by decide) (by decide +kernel) (by decide +kernel) (v := .int (I 6)) rfl dX7_isPlace_6 ?_
    refine lv_icmp_ge (tgt := 16) hx hb dX7_isPlace_9 (by decide) (fun c9 => ?_) (fun c9 => ?_)
    · replace hE := (if_pos c9).symm.trans hE
      refine lv_iconst (v := 0) hx hb dX7_isPlace_16 (by decide) ?_
      obtain ⟨hz, hE⟩ := bz_some hE
      obtain rfl := Option.some.inj hE
      exact m_zret F hM hr hz rfl rfl dX7_isPlace_17
    · replace hE := (if_neg c9).symm.trans hE
      refine lv_iconst (v := 1) hx hb dX7_isPlace_12 (by decide) ?_
      refine lv_goto (tgt := 17) hx hb dX7_isPlace_13 (by decide) ?_
      obtain ⟨hz, hE⟩ := bz_some hE
      obtain rfl := Option.some.inj hE
      exact m_zret F hM hr hz rfl rfl dX7_isPlace_17
/-! ===== X7_way: reads I6, writes I5 B54, frames 1, locals 21 ===== -/
def f_X7_way (i6 : Int32) (i5 : Int32) (b54 : Nat → Int64) (p1 : Int32) (p2 : Int32) (p3 : Int64) : Option (Int32 × (Nat → Int64)) :=
bd (f_X7_isPlace i6 p1) fun o3_0 =>
(if o3_0 = (0 : Int32) then
(if (1 : Int32) = (0 : Int32) then
(if p1 = p2 then
some ((1 : Int32), b54)
else
(if p3 < (0 : Int64) then
ck (((12 : Int32) * p1) + p2) 144 (
nmd (vp_updL b54 (((12 : Int32) * p1) + p2).toNatClampNeg (1000000000000 : Int64)) fun w68_2 =>
some ((1 : Int32), w68_2))
else
(if p3 ≤ (1000000 : Int64) then
ck (((12 : Int32) * p1) + p2) 144 (
nmd (vp_updL b54 (((12 : Int32) * p1) + p2).toNatClampNeg p3) fun w68_4 =>
some ((1 : Int32), w68_4))
else
ck (((12 : Int32) * p1) + p2) 144 (
nmd (vp_updL b54 (((12 : Int32) * p1) + p2).toNatClampNeg (1000000000000 : Int64)) fun w68_6 =>
some ((1 : Int32), w68_6)))))
else
some ((1 : Int32), b54))
else
bd (f_X7_isPlace i6 p2) fun o11_7 =>
(if o11_7 = (0 : Int32) then
(if (1 : Int32) = (0 : Int32) then
(if p1 = p2 then
some ((1 : Int32), b54)
else
(if p3 < (0 : Int64) then
ck (((12 : Int32) * p1) + p2) 144 (
nmd (vp_updL b54 (((12 : Int32) * p1) + p2).toNatClampNeg (1000000000000 : Int64)) fun w68_9 =>
some ((1 : Int32), w68_9))
else
(if p3 ≤ (1000000 : Int64) then
ck (((12 : Int32) * p1) + p2) 144 (
nmd (vp_updL b54 (((12 : Int32) * p1) + p2).toNatClampNeg p3) fun w68_11 =>
some ((1 : Int32), w68_11))
else
ck (((12 : Int32) * p1) + p2) 144 (
nmd (vp_updL b54 (((12 : Int32) * p1) + p2).toNatClampNeg (1000000000000 : Int64)) fun w68_13 =>
some ((1 : Int32), w68_13)))))
else
some ((1 : Int32), b54))
else
(if (0 : Int32) = (0 : Int32) then
(if p1 = p2 then
some ((0 : Int32), b54)
else
(if p3 < (0 : Int64) then
ck (((12 : Int32) * p1) + p2) 144 (
nmd (vp_updL b54 (((12 : Int32) * p1) + p2).toNatClampNeg (1000000000000 : Int64)) fun w68_15 =>
some ((0 : Int32), w68_15))
else
(if p3 ≤ (1000000 : Int64) then
ck (((12 : Int32) * p1) + p2) 144 (
nmd (vp_updL b54 (((12 : Int32) * p1) + p2).toNatClampNeg p3) fun w68_17 =>
some ((0 : Int32), w68_17))
else
ck (((12 : Int32) * p1) + p2) 144 (
nmd (vp_updL b54 (((12 : Int32) * p1) + p2).toNatClampNeg (1000000000000 : Int64)) fun w68_19 =>
some ((0 : Int32), w68_19)))))
else
some ((0 : Int32), b54))))
set_option maxHeartbeats 4000000 in
set_option maxRecDepth 100000 in
theorem c_X7_way (l : Launch) (D : va_G) (y : Nat → ClassId) (nn : Nat) (ad : Nat → Nat) (sz : Nat) (I : Nat → Int32) (J : Nat → Int64) (A : Nat → Nat → Int32) (B : Nat → Nat → Int64) (G : Nat → Nat → Nat → Int32) (p1 : Int32) (p2 : Int32) (p3 : Int64)  (out : Int32 × (Nat → Int64)) (hE : f_X7_way (I 6) (I 5) (B 54) p1 p2 p3 = some out) : Met l yX7_way wsX7_way ({ frames := 1, cells := 0, slots := 0, locals := 21 } : Room) (mPc [.ref (ad 7), .int p1, .int p2, .long p3] D y nn ad sz I J A B G) (mQv D y nn ad (mA y nn ad I J A B G sz) ((va_up I 5 out.1), J, A, (va_up B 54 out.2), G)) 0 0 (mA y nn ad I J A B G sz) := by
  refine Met.ofW (cc := cX7_way) (maxL := 5) (ret := none) (by decide) rfl ?_
  intro p e s m args below meth c s₁ Bd hml hv
  obtain ⟨rfl, hsz, hP, hK, hD0, hN⟩ := hv
  have hr := Bd.returns
  subst hsz
  have F : Fx p s m ([.ref (ad 7), .int p1, .int p2, .long p3] : List Value).toArray meth c cX7_way 5 wsX7_way RX7 D y (mA y nn ad I J A B G s.heap.size) := ⟨⟨Bd.exec, Bd.bytes, hml, findClass_of_methodNamed Bd.named, atoms_spec (ws := wsX7_way) Bd.pre⟩, hK, hN, fun q h => Or.inr h, Bd.notSynchronized⟩
  have hM := m_start (s := s) rfl hP hD0
  have hM := m_mem (I2 := (va_up I 5 (I 5))) (J2 := J) (A2 := A) (B2 := (va_up B 54 (B 54))) (G2 := G) hM (by simp only [up_id]) (by rfl) (by rfl) (by simp only [up_id]) (by rfl)
  have hx := F.1.1
  have hb := F.1.2.1
  have hl := lv_entry ([.ref (ad 7), .int p1, .int p2, .long p3]) (n := 5) (Nat.le_of_ble_eq_true rfl)
  rw [lg_entry_eq]
  generalize (lg_sl ([.ref (ad 7), .int p1, .int p2, .long p3]) ++ List.replicate (5 - (lg_sl ([.ref (ad 7), .int p1, .int p2, .long p3])).length) Slot.unset).toArray = ls at hl ⊢
  have hl : lv_has ls 5 [(0, .ref (ad 7)), (1, .int p1), (2, .int p2), (3, .long p3)] := hl
  show W p l e ({ frames := 1, cells := 0, slots := 0, locals := 21 } : Room) s m _ below meth c s.heap [] 0 0 _ _
  obtain ⟨locs, hlo⟩ : ∃ locs : List Loc, locs = [] := ⟨_, rfl⟩
  rw [← hlo]; rw [← hlo] at hM
  unfold f_X7_way at hE
  revert hM
  suffices hH : ∀ H : Heap, MM D y nn ad (mA y nn ad I J A B G s.heap.size) s.heap (va_up I 5 (I 5)) J A (va_up B 54 (B 54)) G H locs → W p l e ({ frames := 1, cells := 0, slots := 0, locals := 21 } : Room) s m ([.ref (ad 7), .int p1, .int p2, .long p3] : List Value).toArray below meth c H locs 0 0 (MQ below (mQv D y nn ad (mA y nn ad I J A B G s.heap.size) ((va_up I 5 out.1), J, A, (va_up B 54 out.2), G)) ([.ref (ad 7), .int p1, .int p2, .long p3] : List Value).toArray s 0 0 (mA y nn ad I J A B G s.heap.size)) (F0 m 0 ls []) from hH s.heap
  intro H hM
  refine lv_aload_n hx hb dX7_way_0 rfl (lv_at hl 0 rfl) ?_
  refine lv_aload_n hx hb dX7_way_1 rfl (lv_at hl 0 rfl) ?_
  refine lv_iload_n hx hb dX7_way_2 rfl (lv_at hl 1 rfl) ?_
  obtain ⟨o3_0, ho3_0, hE⟩ := bd_some hE
  refine m_callVi (As := [.int p1]) (I2 := (va_up I 5 (I 5))) (J2 := J) (A2 := A) (B2 := (va_up B 54 (B 54))) (G2 := G) F hM (c_X7_isPlace l D y nn ad H.size (va_up I 5 (I 5)) J A (va_up B 54 (B 54)) G p1  o3_0 ho3_0) (cwV 1 F.1.2.2.2.2 gX7_way_X7_isPlace rfl rfl rfl (by decide +kernel) ⟨Nat.le_of_ble_eq_true rfl, Nat.le_of_ble_eq_true rfl⟩) (m_recv F hM mg_7 rfl) rfl hl.1 (Nat.le_of_ble_eq_true rfl) dX7_way_3 ⟨Nat.le_refl 0, Nat.le_refl 0⟩ rfl rfl rfl rfl rfl (fun H locs hM => ?_)
  refine lv_if_eq (tgt := 21) hx hb dX7_way_6 (by decide) (fun c6 => ?_) (fun c6 => ?_)
  · replace hE := (if_pos c6).symm.trans hE
    refine lv_iconst (v := 1) hx hb dX7_way_21 (by decide) ?_
    refine m_put F hM 7 mg_7 rfl tyX7 tyX7_ok nmX7 0 (by decide) (by decide +kernel) (by decide +kernel) rfl (ty := .int) (v := .int (1 : Int32)) (by decide +kernel) rfl rfl (Nat.le_of_ble_eq_true rfl) (ms_7_0 _) (bx_uu _ _ _ _)  rfl dX7_way_22 (fun H locs hM => ?_)
    refine lv_aload_n hx hb dX7_way_25 rfl (lv_at hl 0 rfl) ?_
    refine m_get F hM 7 mg_7 rfl 0 (by decide) (by decide +kernel) (by decide +kernel) (v := .int (1 : Int32)) rfl dX7_way_26 ?_
    refine lv_if_ne (tgt := 69) hx hb dX7_way_29 (by decide) (fun c29 => ?_) (fun c29 => ?_)
    · replace hE := (if_neg c29).symm.trans hE
      obtain rfl := Option.some.inj hE
      exact m_vret F hM hr rfl dX7_way_69
    · replace hE := (if_pos c29).symm.trans hE
      refine lv_iload_n hx hb dX7_way_32 rfl (lv_at hl 1 rfl) ?_
      refine lv_iload_n hx hb dX7_way_33 rfl (lv_at hl 2 rfl) ?_
      refine lv_icmp_eq (tgt := 69) hx hb dX7_way_34 (by decide) (fun c34 => ?_) (fun c34 => ?_)
      · replace hE := (if_pos c34).symm.trans hE
        obtain rfl := Option.some.inj hE
        exact m_vret F hM hr rfl dX7_way_69
      · replace hE := (if_neg c34).symm.trans hE
        refine lv_aload_n hx hb dX7_way_37 rfl (lv_at hl 0 rfl) ?_
        refine m_get F hM 7 mg_7 rfl 2 (by decide) (by decide +kernel) (by decide +kernel) (v := .ref (ad 54)) rfl dX7_way_38 ?_
        refine lv_bipush (v := 12) hx hb dX7_way_41 (by decide) ?_
        refine lv_iload_n hx hb dX7_way_43 rfl (lv_at hl 1 rfl) ?_
        refine lv_imul hx hb dX7_way_44 ?_
        refine lv_iload_n hx hb dX7_way_45 rfl (lv_at hl 2 rfl) ?_
        refine lv_iadd hx hb dX7_way_46 ?_
        refine lv_lload_n hx hb dX7_way_47 rfl (lv_at hl 3 rfl) ?_
        refine lv_lconst (v := 0) hx hb dX7_way_48 (by decide) ?_
        refine m_llt (tgt := 61) F dX7_way_49 dX7_way_50 (by decide) (fun c50 => ?_) (fun c50 => ?_)
        · replace hE := (if_pos c50).symm.trans hE
          refine lv_ldc2 (v := (1000000000000)) hx hb F.1.2.2.2.1 (F.1.2.2.2.2 (.constantLong RX7 52 (1000000000000)) (by decide +kernel)) dX7_way_61 ?_
          refine lv_goto (tgt := 68) hx hb dX7_way_64 (by decide) ?_
          obtain ⟨hi68_1, hE⟩ := ck_some hE
          obtain ⟨w68_2, ew68_2, hE⟩ := nmd_some hE
          refine m_last (f := (B 54)) (B' := (va_up B 54 w68_2)) F hM mg_54 ms_54 (by rw [ew68_2]; exact (bx_uu _ _ _ _)) hi68_1 dX7_way_68 (fun H locs hM => ?_)
          obtain rfl := Option.some.inj hE
          exact m_vret F hM hr rfl dX7_way_69
        · replace hE := (if_neg c50).symm.trans hE
          refine lv_lload_n hx hb dX7_way_53 rfl (lv_at hl 3 rfl) ?_
          refine lv_ldc2 (v := (1000000)) hx hb F.1.2.2.2.1 (F.1.2.2.2.2 (.constantLong RX7 61 (1000000)) (by decide +kernel)) dX7_way_54 ?_
          refine m_lle (tgt := 67) F dX7_way_57 dX7_way_58 (by decide) (fun c58 => ?_) (fun c58 => ?_)
          · replace hE := (if_pos c58).symm.trans hE
            refine lv_lload_n hx hb dX7_way_67 rfl (lv_at hl 3 rfl) ?_
            obtain ⟨hi68_3, hE⟩ := ck_some hE
            obtain ⟨w68_4, ew68_4, hE⟩ := nmd_some hE
            refine m_last (f := (B 54)) (B' := (va_up B 54 w68_4)) F hM mg_54 ms_54 (by rw [ew68_4]; exact (bx_uu _ _ _ _)) hi68_3 dX7_way_68 (fun H locs hM => ?_)
            obtain rfl := Option.some.inj hE
            exact m_vret F hM hr rfl dX7_way_69
          · replace hE := (if_neg c58).symm.trans hE
            refine lv_ldc2 (v := (1000000000000)) hx hb F.1.2.2.2.1 (F.1.2.2.2.2 (.constantLong RX7 52 (1000000000000)) (by decide +kernel)) dX7_way_61 ?_
            refine lv_goto (tgt := 68) hx hb dX7_way_64 (by decide) ?_
            obtain ⟨hi68_5, hE⟩ := ck_some hE
            obtain ⟨w68_6, ew68_6, hE⟩ := nmd_some hE
            refine m_last (f := (B 54)) (B' := (va_up B 54 w68_6)) F hM mg_54 ms_54 (by rw [ew68_6]; exact (bx_uu _ _ _ _)) hi68_5 dX7_way_68 (fun H locs hM => ?_)
            obtain rfl := Option.some.inj hE
            exact m_vret F hM hr rfl dX7_way_69
  · replace hE := (if_neg c6).symm.trans hE
    refine lv_aload_n hx hb dX7_way_9 rfl (lv_at hl 0 rfl) ?_
    refine lv_iload_n hx hb dX7_way_10 rfl (lv_at hl 2 rfl) ?_
    obtain ⟨o11_7, ho11_7, hE⟩ := bd_some hE
    refine m_callVi (As := [.int p2]) (I2 := (va_up I 5 (I 5))) (J2 := J) (A2 := A) (B2 := (va_up B 54 (B 54))) (G2 := G) F hM (c_X7_isPlace l D y nn ad H.size (va_up I 5 (I 5)) J A (va_up B 54 (B 54)) G p2  o11_7 ho11_7) (cwV 1 F.1.2.2.2.2 gX7_way_X7_isPlace rfl rfl rfl (by decide +kernel) ⟨Nat.le_of_ble_eq_true rfl, Nat.le_of_ble_eq_true rfl⟩) (m_recv F hM mg_7 rfl) rfl hl.1 (Nat.le_of_ble_eq_true rfl) dX7_way_11 ⟨Nat.le_refl 0, Nat.le_refl 0⟩ rfl rfl rfl rfl rfl (fun H locs hM => ?_)
    refine lv_if_eq (tgt := 21) hx hb dX7_way_14 (by decide) (fun c14 => ?_) (fun c14 => ?_)
    · replace hE := (if_pos c14).symm.trans hE
      refine lv_iconst (v := 1) hx hb dX7_way_21 (by decide) ?_
      refine m_put F hM 7 mg_7 rfl tyX7 tyX7_ok nmX7 0 (by decide) (by decide +kernel) (by decide +kernel) rfl (ty := .int) (v := .int (1 : Int32)) (by decide +kernel) rfl rfl (Nat.le_of_ble_eq_true rfl) (ms_7_0 _) (bx_uu _ _ _ _)  rfl dX7_way_22 (fun H locs hM => ?_)
      refine lv_aload_n hx hb dX7_way_25 rfl (lv_at hl 0 rfl) ?_
      refine m_get F hM 7 mg_7 rfl 0 (by decide) (by decide +kernel) (by decide +kernel) (v := .int (1 : Int32)) rfl dX7_way_26 ?_
      refine lv_if_ne (tgt := 69) hx hb dX7_way_29 (by decide) (fun c29 => ?_) (fun c29 => ?_)
      · replace hE := (if_neg c29).symm.trans hE
        obtain rfl := Option.some.inj hE
        exact m_vret F hM hr rfl dX7_way_69
      · replace hE := (if_pos c29).symm.trans hE
        refine lv_iload_n hx hb dX7_way_32 rfl (lv_at hl 1 rfl) ?_
        refine lv_iload_n hx hb dX7_way_33 rfl (lv_at hl 2 rfl) ?_
        refine lv_icmp_eq (tgt := 69) hx hb dX7_way_34 (by decide) (fun c34 => ?_) (fun c34 => ?_)
        · replace hE := (if_pos c34).symm.trans hE
          obtain rfl := Option.some.inj hE
          exact m_vret F hM hr rfl dX7_way_69
        · replace hE := (if_neg c34).symm.trans hE
          refine lv_aload_n hx hb dX7_way_37 rfl (lv_at hl 0 rfl) ?_
          refine m_get F hM 7 mg_7 rfl 2 (by decide) (by decide +kernel) (by decide +kernel) (v := .ref (ad 54)) rfl dX7_way_38 ?_
          refine lv_bipush (v := 12) hx hb dX7_way_41 (by decide) ?_
          refine lv_iload_n hx hb dX7_way_43 rfl (lv_at hl 1 rfl) ?_
          refine lv_imul hx hb dX7_way_44 ?_
          refine lv_iload_n hx hb dX7_way_45 rfl (lv_at hl 2 rfl) ?_
          refine lv_iadd hx hb dX7_way_46 ?_
          refine lv_lload_n hx hb dX7_way_47 rfl (lv_at hl 3 rfl) ?_
          refine lv_lconst (v := 0) hx hb dX7_way_48 (by decide) ?_
          refine m_llt (tgt := 61) F dX7_way_49 dX7_way_50 (by decide) (fun c50 => ?_) (fun c50 => ?_)
          · replace hE := (if_pos c50).symm.trans hE
            refine lv_ldc2 (v := (1000000000000)) hx hb F.1.2.2.2.1 (F.1.2.2.2.2 (.constantLong RX7 52 (1000000000000)) (by decide +kernel)) dX7_way_61 ?_
            refine lv_goto (tgt := 68) hx hb dX7_way_64 (by decide) ?_
            obtain ⟨hi68_8, hE⟩ := ck_some hE
            obtain ⟨w68_9, ew68_9, hE⟩ := nmd_some hE
            refine m_last (f := (B 54)) (B' := (va_up B 54 w68_9)) F hM mg_54 ms_54 (by rw [ew68_9]; exact (bx_uu _ _ _ _)) hi68_8 dX7_way_68 (fun H locs hM => ?_)
            obtain rfl := Option.some.inj hE
            exact m_vret F hM hr rfl dX7_way_69
          · replace hE := (if_neg c50).symm.trans hE
            refine lv_lload_n hx hb dX7_way_53 rfl (lv_at hl 3 rfl) ?_
            refine lv_ldc2 (v := (1000000)) hx hb F.1.2.2.2.1 (F.1.2.2.2.2 (.constantLong RX7 61 (1000000)) (by decide +kernel)) dX7_way_54 ?_
            refine m_lle (tgt := 67) F dX7_way_57 dX7_way_58 (by decide) (fun c58 => ?_) (fun c58 => ?_)
            · replace hE := (if_pos c58).symm.trans hE
              refine lv_lload_n hx hb dX7_way_67 rfl (lv_at hl 3 rfl) ?_
              obtain ⟨hi68_10, hE⟩ := ck_some hE
              obtain ⟨w68_11, ew68_11, hE⟩ := nmd_some hE
              refine m_last (f := (B 54)) (B' := (va_up B 54 w68_11)) F hM mg_54 ms_54 (by rw [ew68_11]; exact (bx_uu _ _ _ _)) hi68_10 dX7_way_68 (fun H locs hM => ?_)
              obtain rfl := Option.some.inj hE
              exact m_vret F hM hr rfl dX7_way_69
            · replace hE := (if_neg c58).symm.trans hE
              refine lv_ldc2 (v := (1000000000000)) hx hb F.1.2.2.2.1 (F.1.2.2.2.2 (.constantLong RX7 52 (1000000000000)) (by decide +kernel)) dX7_way_61 ?_
              refine lv_goto (tgt := 68) hx hb dX7_way_64 (by decide) ?_
              obtain ⟨hi68_12, hE⟩ := ck_some hE
              obtain ⟨w68_13, ew68_13, hE⟩ := nmd_some hE
              refine m_last (f := (B 54)) (B' := (va_up B 54 w68_13)) F hM mg_54 ms_54 (by rw [ew68_13]; exact (bx_uu _ _ _ _)) hi68_12 dX7_way_68 (fun H locs hM => ?_)
              obtain rfl := Option.some.inj hE
              exact m_vret F hM hr rfl dX7_way_69
    · replace hE := (if_neg c14).symm.trans hE
      refine lv_iconst (v := 0) hx hb dX7_way_17 (by decide) ?_
      refine lv_goto (tgt := 22) hx hb dX7_way_18 (by decide) ?_
      refine m_put F hM 7 mg_7 rfl tyX7 tyX7_ok nmX7 0 (by decide) (by decide +kernel) (by decide +kernel) rfl (ty := .int) (v := .int (0 : Int32)) (by decide +kernel) rfl rfl (Nat.le_of_ble_eq_true rfl) (ms_7_0 _) (bx_uu _ _ _ _)  rfl dX7_way_22 (fun H locs hM => ?_)
      refine lv_aload_n hx hb dX7_way_25 rfl (lv_at hl 0 rfl) ?_
      refine m_get F hM 7 mg_7 rfl 0 (by decide) (by decide +kernel) (by decide +kernel) (v := .int (0 : Int32)) rfl dX7_way_26 ?_
      refine lv_if_ne (tgt := 69) hx hb dX7_way_29 (by decide) (fun c29 => ?_) (fun c29 => ?_)
      · replace hE := (if_neg c29).symm.trans hE
        obtain rfl := Option.some.inj hE
        exact m_vret F hM hr rfl dX7_way_69
      · replace hE := (if_pos c29).symm.trans hE
        refine lv_iload_n hx hb dX7_way_32 rfl (lv_at hl 1 rfl) ?_
        refine lv_iload_n hx hb dX7_way_33 rfl (lv_at hl 2 rfl) ?_
        refine lv_icmp_eq (tgt := 69) hx hb dX7_way_34 (by decide) (fun c34 => ?_) (fun c34 => ?_)
        · replace hE := (if_pos c34).symm.trans hE
          obtain rfl := Option.some.inj hE
          exact m_vret F hM hr rfl dX7_way_69
        · replace hE := (if_neg c34).symm.trans hE
          refine lv_aload_n hx hb dX7_way_37 rfl (lv_at hl 0 rfl) ?_
          refine m_get F hM 7 mg_7 rfl 2 (by decide) (by decide +kernel) (by decide +kernel) (v := .ref (ad 54)) rfl dX7_way_38 ?_
          refine lv_bipush (v := 12) hx hb dX7_way_41 (by decide) ?_
          refine lv_iload_n hx hb dX7_way_43 rfl (lv_at hl 1 rfl) ?_
          refine lv_imul hx hb dX7_way_44 ?_
          refine lv_iload_n hx hb dX7_way_45 rfl (lv_at hl 2 rfl) ?_
          refine lv_iadd hx hb dX7_way_46 ?_
          refine lv_lload_n hx hb dX7_way_47 rfl (lv_at hl 3 rfl) ?_
          refine lv_lconst (v := 0) hx hb dX7_way_48 (by decide) ?_
          refine m_llt (tgt := 61) F dX7_way_49 dX7_way_50 (by decide) (fun c50 => ?_) (fun c50 => ?_)
          · replace hE := (if_pos c50).symm.trans hE
            refine lv_ldc2 (v := (1000000000000)) hx hb F.1.2.2.2.1 (F.1.2.2.2.2 (.constantLong RX7 52 (1000000000000)) (by decide +kernel)) dX7_way_61 ?_
            refine lv_goto (tgt := 68) hx hb dX7_way_64 (by decide) ?_
            obtain ⟨hi68_14, hE⟩ := ck_some hE
            obtain ⟨w68_15, ew68_15, hE⟩ := nmd_some hE
            refine m_last (f := (B 54)) (B' := (va_up B 54 w68_15)) F hM mg_54 ms_54 (by rw [ew68_15]; exact (bx_uu _ _ _ _)) hi68_14 dX7_way_68 (fun H locs hM => ?_)
            obtain rfl := Option.some.inj hE
            exact m_vret F hM hr rfl dX7_way_69
          · replace hE := (if_neg c50).symm.trans hE
            refine lv_lload_n hx hb dX7_way_53 rfl (lv_at hl 3 rfl) ?_
            refine lv_ldc2 (v := (1000000)) hx hb F.1.2.2.2.1 (F.1.2.2.2.2 (.constantLong RX7 61 (1000000)) (by decide +kernel)) dX7_way_54 ?_
            refine m_lle (tgt := 67) F dX7_way_57 dX7_way_58 (by decide) (fun c58 => ?_) (fun c58 => ?_)
            · replace hE := (if_pos c58).symm.trans hE
              refine lv_lload_n hx hb dX7_way_67 rfl (lv_at hl 3 rfl) ?_
              obtain ⟨hi68_16, hE⟩ := ck_some hE
              obtain ⟨w68_17, ew68_17, hE⟩ := nmd_some hE
              refine m_last (f := (B 54)) (B' := (va_up B 54 w68_17)) F hM mg_54 ms_54 (by rw [ew68_17]; exact (bx_uu _ _ _ _)) hi68_16 dX7_way_68 (fun H locs hM => ?_)
              obtain rfl := Option.some.inj hE
              exact m_vret F hM hr rfl dX7_way_69
            · replace hE := (if_neg c58).symm.trans hE
              refine lv_ldc2 (v := (1000000000000)) hx hb F.1.2.2.2.1 (F.1.2.2.2.2 (.constantLong RX7 52 (1000000000000)) (by decide +kernel)) dX7_way_61 ?_
              refine lv_goto (tgt := 68) hx hb dX7_way_64 (by decide) ?_
              obtain ⟨hi68_18, hE⟩ := ck_some hE
              obtain ⟨w68_19, ew68_19, hE⟩ := nmd_some hE
              refine m_last (f := (B 54)) (B' := (va_up B 54 w68_19)) F hM mg_54 ms_54 (by rw [ew68_19]; exact (bx_uu _ _ _ _)) hi68_18 dX7_way_68 (fun H locs hM => ?_)
              obtain rfl := Option.some.inj hE
              exact m_vret F hM hr rfl dX7_way_69
/-! ===== X7_way_: reads B54, writes , frames 0, locals 0 ===== -/
def f_X7_way_ (b54 : Nat → Int64)  (p1 : Int32) (p2 : Int32) : Option (Int64) :=
ck (((12 : Int32) * p1) + p2) 144 (
some (b54 (((12 : Int32) * p1) + p2).toNatClampNeg))
set_option maxHeartbeats 4000000 in
set_option maxRecDepth 100000 in
theorem c_X7_way_ (l : Launch) (D : va_G) (y : Nat → ClassId) (nn : Nat) (ad : Nat → Nat) (sz : Nat) (I : Nat → Int32) (J : Nat → Int64) (A : Nat → Nat → Int32) (B : Nat → Nat → Int64) (G : Nat → Nat → Nat → Int32) (p1 : Int32) (p2 : Int32)  (out : Int64) (hE : f_X7_way_ (B 54)  p1 p2 = some out) : Met l yX7_way_ wsX7_way_ ({ frames := 0, cells := 0, slots := 0, locals := 0 } : Room) (mPc [.ref (ad 7), .int p1, .int p2] D y nn ad sz I J A B G) (mQl D y nn ad (mA y nn ad I J A B G sz) out (I, J, A, B, G)) 0 0 (mA y nn ad I J A B G sz) := by
  refine Met.ofW (cc := cX7_way_) (maxL := 3) (ret := (some .long)) (by decide) rfl ?_
  intro p e s m args below meth c s₁ Bd hml hv
  obtain ⟨rfl, hsz, hP, hK, hD0, hN⟩ := hv
  have hr := Bd.returns
  subst hsz
  have F : Fx p s m ([.ref (ad 7), .int p1, .int p2] : List Value).toArray meth c cX7_way_ 3 wsX7_way_ RX7 D y (mA y nn ad I J A B G s.heap.size) := ⟨⟨Bd.exec, Bd.bytes, hml, findClass_of_methodNamed Bd.named, atoms_spec (ws := wsX7_way_) Bd.pre⟩, hK, hN, fun q h => Or.inr h, Bd.notSynchronized⟩
  have hM := m_start (s := s) rfl hP hD0
  have hM := m_mem (I2 := I) (J2 := J) (A2 := A) (B2 := B) (G2 := G) hM (by rfl) (by rfl) (by rfl) (by rfl) (by rfl)
  have hx := F.1.1
  have hb := F.1.2.1
  have hl := lv_entry ([.ref (ad 7), .int p1, .int p2]) (n := 3) (Nat.le_of_ble_eq_true rfl)
  rw [lg_entry_eq]
  generalize (lg_sl ([.ref (ad 7), .int p1, .int p2]) ++ List.replicate (3 - (lg_sl ([.ref (ad 7), .int p1, .int p2])).length) Slot.unset).toArray = ls at hl ⊢
  have hl : lv_has ls 3 [(0, .ref (ad 7)), (1, .int p1), (2, .int p2)] := hl
  show W p l e ({ frames := 0, cells := 0, slots := 0, locals := 0 } : Room) s m _ below meth c s.heap [] 0 0 _ _
  obtain ⟨locs, hlo⟩ : ∃ locs : List Loc, locs = [] := ⟨_, rfl⟩
  rw [← hlo]; rw [← hlo] at hM
  unfold f_X7_way_ at hE
  revert hM
  suffices hH : ∀ H : Heap, MM D y nn ad (mA y nn ad I J A B G s.heap.size) s.heap I J A B G H locs → W p l e ({ frames := 0, cells := 0, slots := 0, locals := 0 } : Room) s m ([.ref (ad 7), .int p1, .int p2] : List Value).toArray below meth c H locs 0 0 (MQ below (mQl D y nn ad (mA y nn ad I J A B G s.heap.size) out (I, J, A, B, G)) ([.ref (ad 7), .int p1, .int p2] : List Value).toArray s 0 0 (mA y nn ad I J A B G s.heap.size)) (F0 m 0 ls []) from hH s.heap
  intro H hM
  refine lv_aload_n hx hb dX7_way__0 rfl (lv_at hl 0 rfl) ?_
  refine m_get F hM 7 mg_7 rfl 2 (by decide) (by decide +kernel) (by decide +kernel) (v := .ref (ad 54)) rfl dX7_way__1 ?_
  refine lv_bipush (v := 12) hx hb dX7_way__4 (by decide) ?_
  refine lv_iload_n hx hb dX7_way__6 rfl (lv_at hl 1 rfl) ?_
  refine lv_imul hx hb dX7_way__7 ?_
  refine lv_iload_n hx hb dX7_way__8 rfl (lv_at hl 2 rfl) ?_
  refine lv_iadd hx hb dX7_way__9 ?_
  obtain ⟨hi10_0, hE⟩ := ck_some hE
  refine m_lald (g := (B 54)) F hM mg_54 rfl hi10_0 dX7_way__10 ?_
  obtain rfl := Option.some.inj hE
  exact m_lret F hM hr rfl rfl dX7_way__11
/-! ===== X7_length: reads B54, writes , frames 1, locals 22 ===== -/
def f_X7_length (b54 : Nat → Int64)  (p1 : Int32) (p2 : Int32) : Option (Int64) :=
bd (f_X7_way_ b54 p1 p2) fun o3_0 =>
bd (f_X7_way_ b54 p2 p1) fun o9_1 =>
(if o9_1 ≤ o3_0 then
bd (f_X7_way_ b54 p2 p1) fun o28_2 =>
some o28_2
else
bd (f_X7_way_ b54 p1 p2) fun o19_3 =>
some o19_3)
set_option maxHeartbeats 4000000 in
set_option maxRecDepth 100000 in
theorem c_X7_length (l : Launch) (D : va_G) (y : Nat → ClassId) (nn : Nat) (ad : Nat → Nat) (sz : Nat) (I : Nat → Int32) (J : Nat → Int64) (A : Nat → Nat → Int32) (B : Nat → Nat → Int64) (G : Nat → Nat → Nat → Int32) (p1 : Int32) (p2 : Int32)  (out : Int64) (hE : f_X7_length (B 54)  p1 p2 = some out) : Met l yX7_length wsX7_length ({ frames := 1, cells := 0, slots := 0, locals := 22 } : Room) (mPc [.ref (ad 7), .int p1, .int p2] D y nn ad sz I J A B G) (mQl D y nn ad (mA y nn ad I J A B G sz) out (I, J, A, B, G)) 0 0 (mA y nn ad I J A B G sz) := by
  refine Met.ofW (cc := cX7_length) (maxL := 3) (ret := (some .long)) (by decide) rfl ?_
  intro p e s m args below meth c s₁ Bd hml hv
  obtain ⟨rfl, hsz, hP, hK, hD0, hN⟩ := hv
  have hr := Bd.returns
  subst hsz
  have F : Fx p s m ([.ref (ad 7), .int p1, .int p2] : List Value).toArray meth c cX7_length 3 wsX7_length RX7 D y (mA y nn ad I J A B G s.heap.size) := ⟨⟨Bd.exec, Bd.bytes, hml, findClass_of_methodNamed Bd.named, atoms_spec (ws := wsX7_length) Bd.pre⟩, hK, hN, fun q h => Or.inr h, Bd.notSynchronized⟩
  have hM := m_start (s := s) rfl hP hD0
  have hM := m_mem (I2 := I) (J2 := J) (A2 := A) (B2 := B) (G2 := G) hM (by rfl) (by rfl) (by rfl) (by rfl) (by rfl)
  have hx := F.1.1
  have hb := F.1.2.1
  have hl := lv_entry ([.ref (ad 7), .int p1, .int p2]) (n := 3) (Nat.le_of_ble_eq_true rfl)
  rw [lg_entry_eq]
  generalize (lg_sl ([.ref (ad 7), .int p1, .int p2]) ++ List.replicate (3 - (lg_sl ([.ref (ad 7), .int p1, .int p2])).length) Slot.unset).toArray = ls at hl ⊢
  have hl : lv_has ls 3 [(0, .ref (ad 7)), (1, .int p1), (2, .int p2)] := hl
  show W p l e ({ frames := 1, cells := 0, slots := 0, locals := 22 } : Room) s m _ below meth c s.heap [] 0 0 _ _
  obtain ⟨locs, hlo⟩ : ∃ locs : List Loc, locs = [] := ⟨_, rfl⟩
  rw [← hlo]; rw [← hlo] at hM
  unfold f_X7_length at hE
  revert hM
  suffices hH : ∀ H : Heap, MM D y nn ad (mA y nn ad I J A B G s.heap.size) s.heap I J A B G H locs → W p l e ({ frames := 1, cells := 0, slots := 0, locals := 22 } : Room) s m ([.ref (ad 7), .int p1, .int p2] : List Value).toArray below meth c H locs 0 0 (MQ below (mQl D y nn ad (mA y nn ad I J A B G s.heap.size) out (I, J, A, B, G)) ([.ref (ad 7), .int p1, .int p2] : List Value).toArray s 0 0 (mA y nn ad I J A B G s.heap.size)) (F0 m 0 ls []) from hH s.heap
  intro H hM
  refine lv_aload_n hx hb dX7_length_0 rfl (lv_at hl 0 rfl) ?_
  refine lv_iload_n hx hb dX7_length_1 rfl (lv_at hl 1 rfl) ?_
  refine lv_iload_n hx hb dX7_length_2 rfl (lv_at hl 2 rfl) ?_
  obtain ⟨o3_0, ho3_0, hE⟩ := bd_some hE
  refine m_callVl (As := [.int p1, .int p2]) (I2 := I) (J2 := J) (A2 := A) (B2 := B) (G2 := G) F hM (c_X7_way_ l D y nn ad H.size I J A B G p1 p2  o3_0 ho3_0) (cwV 2 F.1.2.2.2.2 gX7_length_X7_way_ rfl rfl rfl (by decide +kernel) ⟨Nat.le_of_ble_eq_true rfl, Nat.le_of_ble_eq_true rfl⟩) (m_recv F hM mg_7 rfl) rfl hl.1 (Nat.le_of_ble_eq_true rfl) dX7_length_3 ⟨Nat.le_refl 0, Nat.le_refl 0⟩ rfl rfl rfl rfl rfl (fun H locs hM => ?_)
  refine lv_aload_n hx hb dX7_length_6 rfl (lv_at hl 0 rfl) ?_
  refine lv_iload_n hx hb dX7_length_7 rfl (lv_at hl 2 rfl) ?_
  refine lv_iload_n hx hb dX7_length_8 rfl (lv_at hl 1 rfl) ?_
  obtain ⟨o9_1, ho9_1, hE⟩ := bd_some hE
  refine m_callVl (As := [.int p2, .int p1]) (I2 := I) (J2 := J) (A2 := A) (B2 := B) (G2 := G) F hM (c_X7_way_ l D y nn ad H.size I J A B G p2 p1  o9_1 ho9_1) (cwV 2 F.1.2.2.2.2 gX7_length_X7_way_ rfl rfl rfl (by decide +kernel) ⟨Nat.le_of_ble_eq_true rfl, Nat.le_of_ble_eq_true rfl⟩) (m_recv F hM mg_7 rfl) rfl hl.1 (Nat.le_of_ble_eq_true rfl) dX7_length_9 ⟨Nat.le_refl 0, Nat.le_refl 0⟩ rfl rfl rfl rfl rfl (fun H locs hM => ?_)
  refine m_lge (tgt := 25) F dX7_length_12 dX7_length_13 (by decide) (fun c13 => ?_) (fun c13 => ?_)
  · replace hE := (if_pos c13).symm.trans hE
    refine lv_aload_n hx hb dX7_length_25 rfl (lv_at hl 0 rfl) ?_
    refine lv_iload_n hx hb dX7_length_26 rfl (lv_at hl 2 rfl) ?_
    refine lv_iload_n hx hb dX7_length_27 rfl (lv_at hl 1 rfl) ?_
    obtain ⟨o28_2, ho28_2, hE⟩ := bd_some hE
    refine m_callVl (As := [.int p2, .int p1]) (I2 := I) (J2 := J) (A2 := A) (B2 := B) (G2 := G) F hM (c_X7_way_ l D y nn ad H.size I J A B G p2 p1  o28_2 ho28_2) (cwV 2 F.1.2.2.2.2 gX7_length_X7_way_ rfl rfl rfl (by decide +kernel) ⟨Nat.le_of_ble_eq_true rfl, Nat.le_of_ble_eq_true rfl⟩) (m_recv F hM mg_7 rfl) rfl hl.1 (Nat.le_of_ble_eq_true rfl) dX7_length_28 ⟨Nat.le_refl 0, Nat.le_refl 0⟩ rfl rfl rfl rfl rfl (fun H locs hM => ?_)
    obtain rfl := Option.some.inj hE
    exact m_lret F hM hr rfl rfl dX7_length_31
  · replace hE := (if_neg c13).symm.trans hE
    refine lv_aload_n hx hb dX7_length_16 rfl (lv_at hl 0 rfl) ?_
    refine lv_iload_n hx hb dX7_length_17 rfl (lv_at hl 1 rfl) ?_
    refine lv_iload_n hx hb dX7_length_18 rfl (lv_at hl 2 rfl) ?_
    obtain ⟨o19_3, ho19_3, hE⟩ := bd_some hE
    refine m_callVl (As := [.int p1, .int p2]) (I2 := I) (J2 := J) (A2 := A) (B2 := B) (G2 := G) F hM (c_X7_way_ l D y nn ad H.size I J A B G p1 p2  o19_3 ho19_3) (cwV 2 F.1.2.2.2.2 gX7_length_X7_way_ rfl rfl rfl (by decide +kernel) ⟨Nat.le_of_ble_eq_true rfl, Nat.le_of_ble_eq_true rfl⟩) (m_recv F hM mg_7 rfl) rfl hl.1 (Nat.le_of_ble_eq_true rfl) dX7_length_19 ⟨Nat.le_refl 0, Nat.le_refl 0⟩ rfl rfl rfl rfl rfl (fun H locs hM => ?_)
    refine lv_goto (tgt := 31) hx hb dX7_length_22 (by decide) ?_
    obtain rfl := Option.some.inj hE
    exact m_lret F hM hr rfl rfl dX7_length_31
/-! ===== X7_price: reads B54 B55, writes , frames 2, locals 44 ===== -/
def f_X7_price (b54 : Nat → Int64) (b55 : Nat → Int64)  (p1 : Int32) (p2 : Int32) : Option (Int64) :=
bd (f_X7_length b54 p1 p2) fun o3_0 =>
(if o3_0 = (1000000000000 : Int64) then
some (1000000000000 : Int64)
else
bd (f_X7_length b54 p1 p2) fun o25_1 =>
ck p1 12 (
ck p2 12 (
some ((((2 : Int64) * o25_1) + (b55 p1.toNatClampNeg)) + (b55 p2.toNatClampNeg)))))
set_option maxHeartbeats 4000000 in
set_option maxRecDepth 100000 in
theorem c_X7_price (l : Launch) (D : va_G) (y : Nat → ClassId) (nn : Nat) (ad : Nat → Nat) (sz : Nat) (I : Nat → Int32) (J : Nat → Int64) (A : Nat → Nat → Int32) (B : Nat → Nat → Int64) (G : Nat → Nat → Nat → Int32) (p1 : Int32) (p2 : Int32)  (out : Int64) (hE : f_X7_price (B 54) (B 55)  p1 p2 = some out) : Met l yX7_price wsX7_price ({ frames := 2, cells := 0, slots := 0, locals := 44 } : Room) (mPc [.ref (ad 7), .int p1, .int p2] D y nn ad sz I J A B G) (mQl D y nn ad (mA y nn ad I J A B G sz) out (I, J, A, B, G)) 0 0 (mA y nn ad I J A B G sz) := by
  refine Met.ofW (cc := cX7_price) (maxL := 3) (ret := (some .long)) (by decide) rfl ?_
  intro p e s m args below meth c s₁ Bd hml hv
  obtain ⟨rfl, hsz, hP, hK, hD0, hN⟩ := hv
  have hr := Bd.returns
  subst hsz
  have F : Fx p s m ([.ref (ad 7), .int p1, .int p2] : List Value).toArray meth c cX7_price 3 wsX7_price RX7 D y (mA y nn ad I J A B G s.heap.size) := ⟨⟨Bd.exec, Bd.bytes, hml, findClass_of_methodNamed Bd.named, atoms_spec (ws := wsX7_price) Bd.pre⟩, hK, hN, fun q h => Or.inr h, Bd.notSynchronized⟩
  have hM := m_start (s := s) rfl hP hD0
  have hM := m_mem (I2 := I) (J2 := J) (A2 := A) (B2 := B) (G2 := G) hM (by rfl) (by rfl) (by rfl) (by rfl) (by rfl)
  have hx := F.1.1
  have hb := F.1.2.1
  have hl := lv_entry ([.ref (ad 7), .int p1, .int p2]) (n := 3) (Nat.le_of_ble_eq_true rfl)
  rw [lg_entry_eq]
  generalize (lg_sl ([.ref (ad 7), .int p1, .int p2]) ++ List.replicate (3 - (lg_sl ([.ref (ad 7), .int p1, .int p2])).length) Slot.unset).toArray = ls at hl ⊢
  have hl : lv_has ls 3 [(0, .ref (ad 7)), (1, .int p1), (2, .int p2)] := hl
  show W p l e ({ frames := 2, cells := 0, slots := 0, locals := 44 } : Room) s m _ below meth c s.heap [] 0 0 _ _
  obtain ⟨locs, hlo⟩ : ∃ locs : List Loc, locs = [] := ⟨_, rfl⟩
  rw [← hlo]; rw [← hlo] at hM
  unfold f_X7_price at hE
  revert hM
  suffices hH : ∀ H : Heap, MM D y nn ad (mA y nn ad I J A B G s.heap.size) s.heap I J A B G H locs → W p l e ({ frames := 2, cells := 0, slots := 0, locals := 44 } : Room) s m ([.ref (ad 7), .int p1, .int p2] : List Value).toArray below meth c H locs 0 0 (MQ below (mQl D y nn ad (mA y nn ad I J A B G s.heap.size) out (I, J, A, B, G)) ([.ref (ad 7), .int p1, .int p2] : List Value).toArray s 0 0 (mA y nn ad I J A B G s.heap.size)) (F0 m 0 ls []) from hH s.heap
  intro H hM
  refine lv_aload_n hx hb dX7_price_0 rfl (lv_at hl 0 rfl) ?_
  refine lv_iload_n hx hb dX7_price_1 rfl (lv_at hl 1 rfl) ?_
  refine lv_iload_n hx hb dX7_price_2 rfl (lv_at hl 2 rfl) ?_
  obtain ⟨o3_0, ho3_0, hE⟩ := bd_some hE
  refine m_callVl (As := [.int p1, .int p2]) (I2 := I) (J2 := J) (A2 := A) (B2 := B) (G2 := G) F hM (c_X7_length l D y nn ad H.size I J A B G p1 p2  o3_0 ho3_0) (cwV 2 F.1.2.2.2.2 gX7_price_X7_length rfl rfl rfl (by decide +kernel) ⟨Nat.le_of_ble_eq_true rfl, Nat.le_of_ble_eq_true rfl⟩) (m_recv F hM mg_7 rfl) rfl hl.1 (Nat.le_of_ble_eq_true rfl) dX7_price_3 ⟨Nat.le_refl 0, Nat.le_refl 0⟩ rfl rfl rfl rfl rfl (fun H locs hM => ?_)
  refine lv_ldc2 (v := (1000000000000)) hx hb F.1.2.2.2.1 (F.1.2.2.2.2 (.constantLong RX7 52 (1000000000000)) (by decide +kernel)) dX7_price_6 ?_
  refine m_lne (tgt := 19) F dX7_price_9 dX7_price_10 (by decide) (fun c10 => ?_) (fun c10 => ?_)
  · replace hE := (if_neg c10).symm.trans hE
    refine lv_ldc2 (v := (2)) hx hb F.1.2.2.2.1 (F.1.2.2.2.2 (.constantLong RX7 70 (2)) (by decide +kernel)) dX7_price_19 ?_
    refine lv_aload_n hx hb dX7_price_22 rfl (lv_at hl 0 rfl) ?_
    refine lv_iload_n hx hb dX7_price_23 rfl (lv_at hl 1 rfl) ?_
    refine lv_iload_n hx hb dX7_price_24 rfl (lv_at hl 2 rfl) ?_
    obtain ⟨o25_1, ho25_1, hE⟩ := bd_some hE
    refine m_callVl (As := [.int p1, .int p2]) (I2 := I) (J2 := J) (A2 := A) (B2 := B) (G2 := G) F hM (c_X7_length l D y nn ad H.size I J A B G p1 p2  o25_1 ho25_1) (cwV 2 F.1.2.2.2.2 gX7_price_X7_length rfl rfl rfl (by decide +kernel) ⟨Nat.le_of_ble_eq_true rfl, Nat.le_of_ble_eq_true rfl⟩) (m_recv F hM mg_7 rfl) rfl hl.1 (Nat.le_of_ble_eq_true rfl) dX7_price_25 ⟨Nat.le_refl 0, Nat.le_refl 0⟩ rfl rfl rfl rfl rfl (fun H locs hM => ?_)
    refine lv_lmul hx hb dX7_price_28 ?_
    refine lv_aload_n hx hb dX7_price_29 rfl (lv_at hl 0 rfl) ?_
    refine m_get F hM 7 mg_7 rfl 6 (by decide) (by decide +kernel) (by decide +kernel) (v := .ref (ad 55)) rfl dX7_price_30 ?_
    refine lv_iload_n hx hb dX7_price_33 rfl (lv_at hl 1 rfl) ?_
    obtain ⟨hi34_2, hE⟩ := ck_some hE
    refine m_lald (g := (B 55)) F hM mg_55 rfl hi34_2 dX7_price_34 ?_
    refine lv_ladd hx hb dX7_price_35 ?_
    refine lv_aload_n hx hb dX7_price_36 rfl (lv_at hl 0 rfl) ?_
    refine m_get F hM 7 mg_7 rfl 6 (by decide) (by decide +kernel) (by decide +kernel) (v := .ref (ad 55)) rfl dX7_price_37 ?_
    refine lv_iload_n hx hb dX7_price_40 rfl (lv_at hl 2 rfl) ?_
    obtain ⟨hi41_3, hE⟩ := ck_some hE
    refine m_lald (g := (B 55)) F hM mg_55 rfl hi41_3 dX7_price_41 ?_
    refine lv_ladd hx hb dX7_price_42 ?_
    obtain rfl := Option.some.inj hE
    exact m_lret F hM hr rfl rfl dX7_price_43
  · replace hE := (if_pos c10).symm.trans hE
    refine lv_ldc2 (v := (1000000000000)) hx hb F.1.2.2.2.1 (F.1.2.2.2.2 (.constantLong RX7 52 (1000000000000)) (by decide +kernel)) dX7_price_13 ?_
    refine lv_goto (tgt := 43) hx hb dX7_price_16 (by decide) ?_
    obtain rfl := Option.some.inj hE
    exact m_lret F hM hr rfl rfl dX7_price_43
/-! ===== X7_isBefore: reads B54 B55, writes , frames 3, locals 66 ===== -/
def f_X7_isBefore (b54 : Nat → Int64) (b55 : Nat → Int64)  (p1 : Int32) (p2 : Int32) (p3 : Int32) (p4 : Int32) : Option (Int32) :=
bd (f_X7_price b54 b55 p1 p2) fun o3_0 =>
bd (f_X7_price b54 b55 p3 p4) fun o10_1 =>
(if o3_0 = o10_1 then
(if p2 ≤ p1 then
(if p4 ≤ p3 then
(if p2 = p4 then
(if p2 ≤ p1 then
(if p4 ≤ p3 then
(if p3 ≤ p1 then
bz (0 : Int32) (some (0 : Int32))
else
bz (1 : Int32) (some (1 : Int32)))
else
(if p4 ≤ p1 then
bz (0 : Int32) (some (0 : Int32))
else
bz (1 : Int32) (some (1 : Int32))))
else
(if p4 ≤ p3 then
(if p3 ≤ p2 then
bz (0 : Int32) (some (0 : Int32))
else
bz (1 : Int32) (some (1 : Int32)))
else
(if p4 ≤ p2 then
bz (0 : Int32) (some (0 : Int32))
else
bz (1 : Int32) (some (1 : Int32)))))
else
(if p4 ≤ p2 then
bz (0 : Int32) (some (0 : Int32))
else
bz (1 : Int32) (some (1 : Int32))))
else
(if p2 = p3 then
(if p2 ≤ p1 then
(if p4 ≤ p3 then
(if p3 ≤ p1 then
bz (0 : Int32) (some (0 : Int32))
else
bz (1 : Int32) (some (1 : Int32)))
else
(if p4 ≤ p1 then
bz (0 : Int32) (some (0 : Int32))
else
bz (1 : Int32) (some (1 : Int32))))
else
(if p4 ≤ p3 then
(if p3 ≤ p2 then
bz (0 : Int32) (some (0 : Int32))
else
bz (1 : Int32) (some (1 : Int32)))
else
(if p4 ≤ p2 then
bz (0 : Int32) (some (0 : Int32))
else
bz (1 : Int32) (some (1 : Int32)))))
else
(if p3 ≤ p2 then
bz (0 : Int32) (some (0 : Int32))
else
bz (1 : Int32) (some (1 : Int32)))))
else
(if p4 ≤ p3 then
(if p1 = p4 then
(if p2 ≤ p1 then
(if p4 ≤ p3 then
(if p3 ≤ p1 then
bz (0 : Int32) (some (0 : Int32))
else
bz (1 : Int32) (some (1 : Int32)))
else
(if p4 ≤ p1 then
bz (0 : Int32) (some (0 : Int32))
else
bz (1 : Int32) (some (1 : Int32))))
else
(if p4 ≤ p3 then
(if p3 ≤ p2 then
bz (0 : Int32) (some (0 : Int32))
else
bz (1 : Int32) (some (1 : Int32)))
else
(if p4 ≤ p2 then
bz (0 : Int32) (some (0 : Int32))
else
bz (1 : Int32) (some (1 : Int32)))))
else
(if p4 ≤ p1 then
bz (0 : Int32) (some (0 : Int32))
else
bz (1 : Int32) (some (1 : Int32))))
else
(if p1 = p3 then
(if p2 ≤ p1 then
(if p4 ≤ p3 then
(if p3 ≤ p1 then
bz (0 : Int32) (some (0 : Int32))
else
bz (1 : Int32) (some (1 : Int32)))
else
(if p4 ≤ p1 then
bz (0 : Int32) (some (0 : Int32))
else
bz (1 : Int32) (some (1 : Int32))))
else
(if p4 ≤ p3 then
(if p3 ≤ p2 then
bz (0 : Int32) (some (0 : Int32))
else
bz (1 : Int32) (some (1 : Int32)))
else
(if p4 ≤ p2 then
bz (0 : Int32) (some (0 : Int32))
else
bz (1 : Int32) (some (1 : Int32)))))
else
(if p3 ≤ p1 then
bz (0 : Int32) (some (0 : Int32))
else
bz (1 : Int32) (some (1 : Int32))))))
else
bd (f_X7_price b54 b55 p1 p2) fun o20_2 =>
bd (f_X7_price b54 b55 p3 p4) fun o27_3 =>
(if o27_3 ≤ o20_2 then
bz (0 : Int32) (some (0 : Int32))
else
bz (1 : Int32) (some (1 : Int32))))
set_option maxHeartbeats 4000000 in
set_option maxRecDepth 100000 in
theorem c_X7_isBefore (l : Launch) (D : va_G) (y : Nat → ClassId) (nn : Nat) (ad : Nat → Nat) (sz : Nat) (I : Nat → Int32) (J : Nat → Int64) (A : Nat → Nat → Int32) (B : Nat → Nat → Int64) (G : Nat → Nat → Nat → Int32) (p1 : Int32) (p2 : Int32) (p3 : Int32) (p4 : Int32)  (out : Int32) (hE : f_X7_isBefore (B 54) (B 55)  p1 p2 p3 p4 = some out) : Met l yX7_isBefore wsX7_isBefore ({ frames := 3, cells := 0, slots := 0, locals := 66 } : Room) (mPc [.ref (ad 7), .int p1, .int p2, .int p3, .int p4] D y nn ad sz I J A B G) (mQi D y nn ad (mA y nn ad I J A B G sz) out (I, J, A, B, G)) 0 0 (mA y nn ad I J A B G sz) := by
  refine Met.ofW (cc := cX7_isBefore) (maxL := 7) (ret := (some .boolean)) (by decide) rfl ?_
  intro p e s m args below meth c s₁ Bd hml hv
  obtain ⟨rfl, hsz, hP, hK, hD0, hN⟩ := hv
  have hr := Bd.returns
  subst hsz
  have F : Fx p s m ([.ref (ad 7), .int p1, .int p2, .int p3, .int p4] : List Value).toArray meth c cX7_isBefore 7 wsX7_isBefore RX7 D y (mA y nn ad I J A B G s.heap.size) := ⟨⟨Bd.exec, Bd.bytes, hml, findClass_of_methodNamed Bd.named, atoms_spec (ws := wsX7_isBefore) Bd.pre⟩, hK, hN, fun q h => Or.inr h, Bd.notSynchronized⟩
  have hM := m_start (s := s) rfl hP hD0
  have hM := m_mem (I2 := I) (J2 := J) (A2 := A) (B2 := B) (G2 := G) hM (by rfl) (by rfl) (by rfl) (by rfl) (by rfl)
  have hx := F.1.1
  have hb := F.1.2.1
  have hl := lv_entry ([.ref (ad 7), .int p1, .int p2, .int p3, .int p4]) (n := 7) (Nat.le_of_ble_eq_true rfl)
  rw [lg_entry_eq]
  generalize (lg_sl ([.ref (ad 7), .int p1, .int p2, .int p3, .int p4]) ++ List.replicate (7 - (lg_sl ([.ref (ad 7), .int p1, .int p2, .int p3, .int p4])).length) Slot.unset).toArray = ls at hl ⊢
  have hl : lv_has ls 7 [(0, .ref (ad 7)), (1, .int p1), (2, .int p2), (3, .int p3), (4, .int p4)] := hl
  show W p l e ({ frames := 3, cells := 0, slots := 0, locals := 66 } : Room) s m _ below meth c s.heap [] 0 0 _ _
  obtain ⟨locs, hlo⟩ : ∃ locs : List Loc, locs = [] := ⟨_, rfl⟩
  rw [← hlo]; rw [← hlo] at hM
  unfold f_X7_isBefore at hE
  revert hM
  suffices hH : ∀ H : Heap, MM D y nn ad (mA y nn ad I J A B G s.heap.size) s.heap I J A B G H locs → W p l e ({ frames := 3, cells := 0, slots := 0, locals := 66 } : Room) s m ([.ref (ad 7), .int p1, .int p2, .int p3, .int p4] : List Value).toArray below meth c H locs 0 0 (MQ below (mQi D y nn ad (mA y nn ad I J A B G s.heap.size) out (I, J, A, B, G)) ([.ref (ad 7), .int p1, .int p2, .int p3, .int p4] : List Value).toArray s 0 0 (mA y nn ad I J A B G s.heap.size)) (F0 m 0 ls []) from hH s.heap
  intro H hM
  refine lv_aload_n hx hb dX7_isBefore_0 rfl (lv_at hl 0 rfl) ?_
  refine lv_iload_n hx hb dX7_isBefore_1 rfl (lv_at hl 1 rfl) ?_
  refine lv_iload_n hx hb dX7_isBefore_2 rfl (lv_at hl 2 rfl) ?_
  obtain ⟨o3_0, ho3_0, hE⟩ := bd_some hE
  refine m_callVl (As := [.int p1, .int p2]) (I2 := I) (J2 := J) (A2 := A) (B2 := B) (G2 := G) F hM (c_X7_price l D y nn ad H.size I J A B G p1 p2  o3_0 ho3_0) (cwV 2 F.1.2.2.2.2 gX7_isBefore_X7_price rfl rfl rfl (by decide +kernel) ⟨Nat.le_of_ble_eq_true rfl, Nat.le_of_ble_eq_true rfl⟩) (m_recv F hM mg_7 rfl) rfl hl.1 (Nat.le_of_ble_eq_true rfl) dX7_isBefore_3 ⟨Nat.le_refl 0, Nat.le_refl 0⟩ rfl rfl rfl rfl rfl (fun H locs hM => ?_)
  refine lv_aload_n hx hb dX7_isBefore_6 rfl (lv_at hl 0 rfl) ?_
  refine lv_iload_n hx hb dX7_isBefore_7 rfl (lv_at hl 3 rfl) ?_
  refine lv_iload hx hb dX7_isBefore_8 (lv_at hl 4 rfl) ?_
  obtain ⟨o10_1, ho10_1, hE⟩ := bd_some hE
  refine m_callVl (As := [.int p3, .int p4]) (I2 := I) (J2 := J) (A2 := A) (B2 := B) (G2 := G) F hM (c_X7_price l D y nn ad H.size I J A B G p3 p4  o10_1 ho10_1) (cwV 2 F.1.2.2.2.2 gX7_isBefore_X7_price rfl rfl rfl (by decide +kernel) ⟨Nat.le_of_ble_eq_true rfl, Nat.le_of_ble_eq_true rfl⟩) (m_recv F hM mg_7 rfl) rfl hl.1 (Nat.le_of_ble_eq_true rfl) dX7_isBefore_10 ⟨Nat.le_refl 0, Nat.le_refl 0⟩ rfl rfl rfl rfl rfl (fun H locs hM => ?_)
  refine m_leq (tgt := 40) F dX7_isBefore_13 dX7_isBefore_14 (by decide) (fun c14 => ?_) (fun c14 => ?_)
  · replace hE := (if_pos c14).symm.trans hE
    refine lv_iload_n hx hb dX7_isBefore_40 rfl (lv_at hl 1 rfl) ?_
    refine lv_iload_n hx hb dX7_isBefore_41 rfl (lv_at hl 2 rfl) ?_
    refine lv_icmp_ge (tgt := 49) hx hb dX7_isBefore_42 (by decide) (fun c42 => ?_) (fun c42 => ?_)
    · replace hE := (if_pos c42).symm.trans hE
      refine lv_iload_n hx hb dX7_isBefore_49 rfl (lv_at hl 2 rfl) ?_
      refine lv_istore (lv' := [(5, .int p2), (0, .ref (ad 7)), (1, .int p1), (2, .int p2), (3, .int p3), (4, .int p4)]) hx hb dX7_isBefore_50 hl (by decide) rfl (fun ls hl => ?_)
      refine lv_iload_n hx hb dX7_isBefore_52 rfl (lv_at hl 4 rfl) ?_
      refine lv_iload hx hb dX7_isBefore_53 (lv_at hl 5 rfl) ?_
      refine lv_icmp_ge (tgt := 62) hx hb dX7_isBefore_55 (by decide) (fun c55 => ?_) (fun c55 => ?_)
      · replace hE := (if_pos c55).symm.trans hE
        refine lv_iload hx hb dX7_isBefore_62 (lv_at hl 5 rfl) ?_
        refine lv_istore (lv' := [(6, .int p4), (5, .int p2), (0, .ref (ad 7)), (1, .int p1), (2, .int p2), (3, .int p3), (4, .int p4)]) hx hb dX7_isBefore_64 hl (by decide) rfl (fun ls hl => ?_)
        refine lv_iload hx hb dX7_isBefore_66 (lv_at hl 1 rfl) ?_
        refine lv_iload hx hb dX7_isBefore_68 (lv_at hl 0 rfl) ?_
        refine lv_icmp_eq (tgt := 88) hx hb dX7_isBefore_70 (by decide) (fun c70 => ?_) (fun c70 => ?_)
        · replace hE := (if_pos c70).symm.trans hE
          refine lv_iload_n hx hb dX7_isBefore_88 rfl (lv_at hl 3 rfl) ?_
          refine lv_iload_n hx hb dX7_isBefore_89 rfl (lv_at hl 4 rfl) ?_
          refine lv_icmp_ge (tgt := 97) hx hb dX7_isBefore_90 (by decide) (fun c90 => ?_) (fun c90 => ?_)
          · replace hE := (if_pos c90).symm.trans hE
            refine lv_iload_n hx hb dX7_isBefore_97 rfl (lv_at hl 3 rfl) ?_
            refine lv_iload_n hx hb dX7_isBefore_98 rfl (lv_at hl 5 rfl) ?_
            refine lv_iload hx hb dX7_isBefore_99 (lv_at hl 6 rfl) ?_
            refine lv_icmp_ge (tgt := 109) hx hb dX7_isBefore_101 (by decide) (fun c101 => ?_) (fun c101 => ?_)
            · replace hE := (if_pos c101).symm.trans hE
              refine lv_iload_n hx hb dX7_isBefore_109 rfl (lv_at hl 5 rfl) ?_
              refine lv_icmp_ge (tgt := 117) hx hb dX7_isBefore_110 (by decide) (fun c110 => ?_) (fun c110 => ?_)
              · replace hE := (if_pos c110).symm.trans hE
                refine lv_iconst (v := 0) hx hb dX7_isBefore_117 (by decide) ?_
                obtain ⟨hz, hE⟩ := bz_some hE
                obtain rfl := Option.some.inj hE
                exact m_zret F hM hr hz rfl rfl dX7_isBefore_118
              · replace hE := (if_neg c110).symm.trans hE
                refine lv_iconst (v := 1) hx hb dX7_isBefore_113 (by decide) ?_
                refine lv_goto (tgt := 118) hx hb dX7_isBefore_114 (by decide) ?_
                obtain ⟨hz, hE⟩ := bz_some hE
                obtain rfl := Option.some.inj hE
                exact m_zret F hM hr hz rfl rfl dX7_isBefore_118
            · replace hE := (if_neg c101).symm.trans hE
              refine lv_iload hx hb dX7_isBefore_104 (lv_at hl 6 rfl) ?_
              refine lv_goto (tgt := 110) hx hb dX7_isBefore_106 (by decide) ?_
              refine lv_icmp_ge (tgt := 117) hx hb dX7_isBefore_110 (by decide) (fun c110 => ?_) (fun c110 => ?_)
              · replace hE := (if_pos c110).symm.trans hE
                refine lv_iconst (v := 0) hx hb dX7_isBefore_117 (by decide) ?_
                obtain ⟨hz, hE⟩ := bz_some hE
                obtain rfl := Option.some.inj hE
                exact m_zret F hM hr hz rfl rfl dX7_isBefore_118
              · replace hE := (if_neg c110).symm.trans hE
                refine lv_iconst (v := 1) hx hb dX7_isBefore_113 (by decide) ?_
                refine lv_goto (tgt := 118) hx hb dX7_isBefore_114 (by decide) ?_
                obtain ⟨hz, hE⟩ := bz_some hE
                obtain rfl := Option.some.inj hE
                exact m_zret F hM hr hz rfl rfl dX7_isBefore_118
          · replace hE := (if_neg c90).symm.trans hE
            refine lv_iload_n hx hb dX7_isBefore_93 rfl (lv_at hl 4 rfl) ?_
            refine lv_goto (tgt := 98) hx hb dX7_isBefore_94 (by decide) ?_
            refine lv_iload_n hx hb dX7_isBefore_98 rfl (lv_at hl 5 rfl) ?_
            refine lv_iload hx hb dX7_isBefore_99 (lv_at hl 6 rfl) ?_
            refine lv_icmp_ge (tgt := 109) hx hb dX7_isBefore_101 (by decide) (fun c101 => ?_) (fun c101 => ?_)
            · replace hE := (if_pos c101).symm.trans hE
              refine lv_iload_n hx hb dX7_isBefore_109 rfl (lv_at hl 5 rfl) ?_
              refine lv_icmp_ge (tgt := 117) hx hb dX7_isBefore_110 (by decide) (fun c110 => ?_) (fun c110 => ?_)
              · replace hE := (if_pos c110).symm.trans hE
                refine lv_iconst (v := 0) hx hb dX7_isBefore_117 (by decide) ?_
                obtain ⟨hz, hE⟩ := bz_some hE
                obtain rfl := Option.some.inj hE
                exact m_zret F hM hr hz rfl rfl dX7_isBefore_118
              · replace hE := (if_neg c110).symm.trans hE
                refine lv_iconst (v := 1) hx hb dX7_isBefore_113 (by decide) ?_
                refine lv_goto (tgt := 118) hx hb dX7_isBefore_114 (by decide) ?_
                obtain ⟨hz, hE⟩ := bz_some hE
                obtain rfl := Option.some.inj hE
                exact m_zret F hM hr hz rfl rfl dX7_isBefore_118
            · replace hE := (if_neg c101).symm.trans hE
              refine lv_iload hx hb dX7_isBefore_104 (lv_at hl 6 rfl) ?_
              refine lv_goto (tgt := 110) hx hb dX7_isBefore_106 (by decide) ?_
              refine lv_icmp_ge (tgt := 117) hx hb dX7_isBefore_110 (by decide) (fun c110 => ?_) (fun c110 => ?_)
              · replace hE := (if_pos c110).symm.trans hE
                refine lv_iconst (v := 0) hx hb dX7_isBefore_117 (by decide) ?_
                obtain ⟨hz, hE⟩ := bz_some hE
                obtain rfl := Option.some.inj hE
                exact m_zret F hM hr hz rfl rfl dX7_isBefore_118
              · replace hE := (if_neg c110).symm.trans hE
                refine lv_iconst (v := 1) hx hb dX7_isBefore_113 (by decide) ?_
                refine lv_goto (tgt := 118) hx hb dX7_isBefore_114 (by decide) ?_
                obtain ⟨hz, hE⟩ := bz_some hE
                obtain rfl := Option.some.inj hE
                exact m_zret F hM hr hz rfl rfl dX7_isBefore_118
        · replace hE := (if_neg c70).symm.trans hE
          refine lv_iload hx hb dX7_isBefore_73 (lv_at hl 1 rfl) ?_
          refine lv_iload hx hb dX7_isBefore_75 (lv_at hl 0 rfl) ?_
          refine lv_icmp_ge (tgt := 84) hx hb dX7_isBefore_77 (by decide) (fun c77 => ?_) (fun c77 => ?_)
          · replace hE := (if_pos c77).symm.trans hE
            refine lv_iconst (v := 0) hx hb dX7_isBefore_84 (by decide) ?_
            refine lv_goto (tgt := 118) hx hb dX7_isBefore_85 (by decide) ?_
            obtain ⟨hz, hE⟩ := bz_some hE
            obtain rfl := Option.some.inj hE
            exact m_zret F hM hr hz rfl rfl dX7_isBefore_118
          · replace hE := (if_neg c77).symm.trans hE
            refine lv_iconst (v := 1) hx hb dX7_isBefore_80 (by decide) ?_
            refine lv_goto (tgt := 118) hx hb dX7_isBefore_81 (by decide) ?_
            obtain ⟨hz, hE⟩ := bz_some hE
            obtain rfl := Option.some.inj hE
            exact m_zret F hM hr hz rfl rfl dX7_isBefore_118
      · replace hE := (if_neg c55).symm.trans hE
        refine lv_iload_n hx hb dX7_isBefore_58 rfl (lv_at hl 4 rfl) ?_
        refine lv_goto (tgt := 64) hx hb dX7_isBefore_59 (by decide) ?_
        refine lv_istore (lv' := [(6, .int p3), (5, .int p2), (0, .ref (ad 7)), (1, .int p1), (2, .int p2), (3, .int p3), (4, .int p4)]) hx hb dX7_isBefore_64 hl (by decide) rfl (fun ls hl => ?_)
        refine lv_iload hx hb dX7_isBefore_66 (lv_at hl 1 rfl) ?_
        refine lv_iload hx hb dX7_isBefore_68 (lv_at hl 0 rfl) ?_
        refine lv_icmp_eq (tgt := 88) hx hb dX7_isBefore_70 (by decide) (fun c70 => ?_) (fun c70 => ?_)
        · replace hE := (if_pos c70).symm.trans hE
          refine lv_iload_n hx hb dX7_isBefore_88 rfl (lv_at hl 3 rfl) ?_
          refine lv_iload_n hx hb dX7_isBefore_89 rfl (lv_at hl 4 rfl) ?_
          refine lv_icmp_ge (tgt := 97) hx hb dX7_isBefore_90 (by decide) (fun c90 => ?_) (fun c90 => ?_)
          · replace hE := (if_pos c90).symm.trans hE
            refine lv_iload_n hx hb dX7_isBefore_97 rfl (lv_at hl 3 rfl) ?_
            refine lv_iload_n hx hb dX7_isBefore_98 rfl (lv_at hl 5 rfl) ?_
            refine lv_iload hx hb dX7_isBefore_99 (lv_at hl 6 rfl) ?_
            refine lv_icmp_ge (tgt := 109) hx hb dX7_isBefore_101 (by decide) (fun c101 => ?_) (fun c101 => ?_)
            · replace hE := (if_pos c101).symm.trans hE
              refine lv_iload_n hx hb dX7_isBefore_109 rfl (lv_at hl 5 rfl) ?_
              refine lv_icmp_ge (tgt := 117) hx hb dX7_isBefore_110 (by decide) (fun c110 => ?_) (fun c110 => ?_)
              · replace hE := (if_pos c110).symm.trans hE
                refine lv_iconst (v := 0) hx hb dX7_isBefore_117 (by decide) ?_
                obtain ⟨hz, hE⟩ := bz_some hE
                obtain rfl := Option.some.inj hE
                exact m_zret F hM hr hz rfl rfl dX7_isBefore_118
              · replace hE := (if_neg c110).symm.trans hE
                refine lv_iconst (v := 1) hx hb dX7_isBefore_113 (by decide) ?_
                refine lv_goto (tgt := 118) hx hb dX7_isBefore_114 (by decide) ?_
                obtain ⟨hz, hE⟩ := bz_some hE
                obtain rfl := Option.some.inj hE
                exact m_zret F hM hr hz rfl rfl dX7_isBefore_118
            · replace hE := (if_neg c101).symm.trans hE
              refine lv_iload hx hb dX7_isBefore_104 (lv_at hl 6 rfl) ?_
              refine lv_goto (tgt := 110) hx hb dX7_isBefore_106 (by decide) ?_
              refine lv_icmp_ge (tgt := 117) hx hb dX7_isBefore_110 (by decide) (fun c110 => ?_) (fun c110 => ?_)
              · replace hE := (if_pos c110).symm.trans hE
                refine lv_iconst (v := 0) hx hb dX7_isBefore_117 (by decide) ?_
                obtain ⟨hz, hE⟩ := bz_some hE
                obtain rfl := Option.some.inj hE
                exact m_zret F hM hr hz rfl rfl dX7_isBefore_118
              · replace hE := (if_neg c110).symm.trans hE
                refine lv_iconst (v := 1) hx hb dX7_isBefore_113 (by decide) ?_
                refine lv_goto (tgt := 118) hx hb dX7_isBefore_114 (by decide) ?_
                obtain ⟨hz, hE⟩ := bz_some hE
                obtain rfl := Option.some.inj hE
                exact m_zret F hM hr hz rfl rfl dX7_isBefore_118
          · replace hE := (if_neg c90).symm.trans hE
            refine lv_iload_n hx hb dX7_isBefore_93 rfl (lv_at hl 4 rfl) ?_
            refine lv_goto (tgt := 98) hx hb dX7_isBefore_94 (by decide) ?_
            refine lv_iload_n hx hb dX7_isBefore_98 rfl (lv_at hl 5 rfl) ?_
            refine lv_iload hx hb dX7_isBefore_99 (lv_at hl 6 rfl) ?_
            refine lv_icmp_ge (tgt := 109) hx hb dX7_isBefore_101 (by decide) (fun c101 => ?_) (fun c101 => ?_)
            · replace hE := (if_pos c101).symm.trans hE
              refine lv_iload_n hx hb dX7_isBefore_109 rfl (lv_at hl 5 rfl) ?_
              refine lv_icmp_ge (tgt := 117) hx hb dX7_isBefore_110 (by decide) (fun c110 => ?_) (fun c110 => ?_)
              · replace hE := (if_pos c110).symm.trans hE
                refine lv_iconst (v := 0) hx hb dX7_isBefore_117 (by decide) ?_
                obtain ⟨hz, hE⟩ := bz_some hE
                obtain rfl := Option.some.inj hE
                exact m_zret F hM hr hz rfl rfl dX7_isBefore_118
              · replace hE := (if_neg c110).symm.trans hE
                refine lv_iconst (v := 1) hx hb dX7_isBefore_113 (by decide) ?_
                refine lv_goto (tgt := 118) hx hb dX7_isBefore_114 (by decide) ?_
                obtain ⟨hz, hE⟩ := bz_some hE
                obtain rfl := Option.some.inj hE
                exact m_zret F hM hr hz rfl rfl dX7_isBefore_118
            · replace hE := (if_neg c101).symm.trans hE
              refine lv_iload hx hb dX7_isBefore_104 (lv_at hl 6 rfl) ?_
              refine lv_goto (tgt := 110) hx hb dX7_isBefore_106 (by decide) ?_
              refine lv_icmp_ge (tgt := 117) hx hb dX7_isBefore_110 (by decide) (fun c110 => ?_) (fun c110 => ?_)
              · replace hE := (if_pos c110).symm.trans hE
                refine lv_iconst (v := 0) hx hb dX7_isBefore_117 (by decide) ?_
                obtain ⟨hz, hE⟩ := bz_some hE
                obtain rfl := Option.some.inj hE
                exact m_zret F hM hr hz rfl rfl dX7_isBefore_118
              · replace hE := (if_neg c110).symm.trans hE
                refine lv_iconst (v := 1) hx hb dX7_isBefore_113 (by decide) ?_
                refine lv_goto (tgt := 118) hx hb dX7_isBefore_114 (by decide) ?_
                obtain ⟨hz, hE⟩ := bz_some hE
                obtain rfl := Option.some.inj hE
                exact m_zret F hM hr hz rfl rfl dX7_isBefore_118
        · replace hE := (if_neg c70).symm.trans hE
          refine lv_iload hx hb dX7_isBefore_73 (lv_at hl 1 rfl) ?_
          refine lv_iload hx hb dX7_isBefore_75 (lv_at hl 0 rfl) ?_
          refine lv_icmp_ge (tgt := 84) hx hb dX7_isBefore_77 (by decide) (fun c77 => ?_) (fun c77 => ?_)
          · replace hE := (if_pos c77).symm.trans hE
            refine lv_iconst (v := 0) hx hb dX7_isBefore_84 (by decide) ?_
            refine lv_goto (tgt := 118) hx hb dX7_isBefore_85 (by decide) ?_
            obtain ⟨hz, hE⟩ := bz_some hE
            obtain rfl := Option.some.inj hE
            exact m_zret F hM hr hz rfl rfl dX7_isBefore_118
          · replace hE := (if_neg c77).symm.trans hE
            refine lv_iconst (v := 1) hx hb dX7_isBefore_80 (by decide) ?_
            refine lv_goto (tgt := 118) hx hb dX7_isBefore_81 (by decide) ?_
            obtain ⟨hz, hE⟩ := bz_some hE
            obtain rfl := Option.some.inj hE
            exact m_zret F hM hr hz rfl rfl dX7_isBefore_118
    · replace hE := (if_neg c42).symm.trans hE
      refine lv_iload_n hx hb dX7_isBefore_45 rfl (lv_at hl 1 rfl) ?_
      refine lv_goto (tgt := 50) hx hb dX7_isBefore_46 (by decide) ?_
      refine lv_istore (lv' := [(5, .int p1), (0, .ref (ad 7)), (1, .int p1), (2, .int p2), (3, .int p3), (4, .int p4)]) hx hb dX7_isBefore_50 hl (by decide) rfl (fun ls hl => ?_)
      refine lv_iload_n hx hb dX7_isBefore_52 rfl (lv_at hl 4 rfl) ?_
      refine lv_iload hx hb dX7_isBefore_53 (lv_at hl 5 rfl) ?_
      refine lv_icmp_ge (tgt := 62) hx hb dX7_isBefore_55 (by decide) (fun c55 => ?_) (fun c55 => ?_)
      · replace hE := (if_pos c55).symm.trans hE
        refine lv_iload hx hb dX7_isBefore_62 (lv_at hl 5 rfl) ?_
        refine lv_istore (lv' := [(6, .int p4), (5, .int p1), (0, .ref (ad 7)), (1, .int p1), (2, .int p2), (3, .int p3), (4, .int p4)]) hx hb dX7_isBefore_64 hl (by decide) rfl (fun ls hl => ?_)
        refine lv_iload hx hb dX7_isBefore_66 (lv_at hl 1 rfl) ?_
        refine lv_iload hx hb dX7_isBefore_68 (lv_at hl 0 rfl) ?_
        refine lv_icmp_eq (tgt := 88) hx hb dX7_isBefore_70 (by decide) (fun c70 => ?_) (fun c70 => ?_)
        · replace hE := (if_pos c70).symm.trans hE
          refine lv_iload_n hx hb dX7_isBefore_88 rfl (lv_at hl 3 rfl) ?_
          refine lv_iload_n hx hb dX7_isBefore_89 rfl (lv_at hl 4 rfl) ?_
          refine lv_icmp_ge (tgt := 97) hx hb dX7_isBefore_90 (by decide) (fun c90 => ?_) (fun c90 => ?_)
          · replace hE := (if_pos c90).symm.trans hE
            refine lv_iload_n hx hb dX7_isBefore_97 rfl (lv_at hl 3 rfl) ?_
            refine lv_iload_n hx hb dX7_isBefore_98 rfl (lv_at hl 5 rfl) ?_
            refine lv_iload hx hb dX7_isBefore_99 (lv_at hl 6 rfl) ?_
            refine lv_icmp_ge (tgt := 109) hx hb dX7_isBefore_101 (by decide) (fun c101 => ?_) (fun c101 => ?_)
            · replace hE := (if_pos c101).symm.trans hE
              refine lv_iload_n hx hb dX7_isBefore_109 rfl (lv_at hl 5 rfl) ?_
              refine lv_icmp_ge (tgt := 117) hx hb dX7_isBefore_110 (by decide) (fun c110 => ?_) (fun c110 => ?_)
              · replace hE := (if_pos c110).symm.trans hE
                refine lv_iconst (v := 0) hx hb dX7_isBefore_117 (by decide) ?_
                obtain ⟨hz, hE⟩ := bz_some hE
                obtain rfl := Option.some.inj hE
                exact m_zret F hM hr hz rfl rfl dX7_isBefore_118
              · replace hE := (if_neg c110).symm.trans hE
                refine lv_iconst (v := 1) hx hb dX7_isBefore_113 (by decide) ?_
                refine lv_goto (tgt := 118) hx hb dX7_isBefore_114 (by decide) ?_
                obtain ⟨hz, hE⟩ := bz_some hE
                obtain rfl := Option.some.inj hE
                exact m_zret F hM hr hz rfl rfl dX7_isBefore_118
            · replace hE := (if_neg c101).symm.trans hE
              refine lv_iload hx hb dX7_isBefore_104 (lv_at hl 6 rfl) ?_
              refine lv_goto (tgt := 110) hx hb dX7_isBefore_106 (by decide) ?_
              refine lv_icmp_ge (tgt := 117) hx hb dX7_isBefore_110 (by decide) (fun c110 => ?_) (fun c110 => ?_)
              · replace hE := (if_pos c110).symm.trans hE
                refine lv_iconst (v := 0) hx hb dX7_isBefore_117 (by decide) ?_
                obtain ⟨hz, hE⟩ := bz_some hE
                obtain rfl := Option.some.inj hE
                exact m_zret F hM hr hz rfl rfl dX7_isBefore_118
              · replace hE := (if_neg c110).symm.trans hE
                refine lv_iconst (v := 1) hx hb dX7_isBefore_113 (by decide) ?_
                refine lv_goto (tgt := 118) hx hb dX7_isBefore_114 (by decide) ?_
                obtain ⟨hz, hE⟩ := bz_some hE
                obtain rfl := Option.some.inj hE
                exact m_zret F hM hr hz rfl rfl dX7_isBefore_118
          · replace hE := (if_neg c90).symm.trans hE
            refine lv_iload_n hx hb dX7_isBefore_93 rfl (lv_at hl 4 rfl) ?_
            refine lv_goto (tgt := 98) hx hb dX7_isBefore_94 (by decide) ?_
            refine lv_iload_n hx hb dX7_isBefore_98 rfl (lv_at hl 5 rfl) ?_
            refine lv_iload hx hb dX7_isBefore_99 (lv_at hl 6 rfl) ?_
            refine lv_icmp_ge (tgt := 109) hx hb dX7_isBefore_101 (by decide) (fun c101 => ?_) (fun c101 => ?_)
            · replace hE := (if_pos c101).symm.trans hE
              refine lv_iload_n hx hb dX7_isBefore_109 rfl (lv_at hl 5 rfl) ?_
              refine lv_icmp_ge (tgt := 117) hx hb dX7_isBefore_110 (by decide) (fun c110 => ?_) (fun c110 => ?_)
              · replace hE := (if_pos c110).symm.trans hE
                refine lv_iconst (v := 0) hx hb dX7_isBefore_117 (by decide) ?_
                obtain ⟨hz, hE⟩ := bz_some hE
                obtain rfl := Option.some.inj hE
                exact m_zret F hM hr hz rfl rfl dX7_isBefore_118
              · replace hE := (if_neg c110).symm.trans hE
                refine lv_iconst (v := 1) hx hb dX7_isBefore_113 (by decide) ?_
                refine lv_goto (tgt := 118) hx hb dX7_isBefore_114 (by decide) ?_
                obtain ⟨hz, hE⟩ := bz_some hE
                obtain rfl := Option.some.inj hE
                exact m_zret F hM hr hz rfl rfl dX7_isBefore_118
            · replace hE := (if_neg c101).symm.trans hE
              refine lv_iload hx hb dX7_isBefore_104 (lv_at hl 6 rfl) ?_
              refine lv_goto (tgt := 110) hx hb dX7_isBefore_106 (by decide) ?_
              refine lv_icmp_ge (tgt := 117) hx hb dX7_isBefore_110 (by decide) (fun c110 => ?_) (fun c110 => ?_)
              · replace hE := (if_pos c110).symm.trans hE
                refine lv_iconst (v := 0) hx hb dX7_isBefore_117 (by decide) ?_
                obtain ⟨hz, hE⟩ := bz_some hE
                obtain rfl := Option.some.inj hE
                exact m_zret F hM hr hz rfl rfl dX7_isBefore_118
              · replace hE := (if_neg c110).symm.trans hE
                refine lv_iconst (v := 1) hx hb dX7_isBefore_113 (by decide) ?_
                refine lv_goto (tgt := 118) hx hb dX7_isBefore_114 (by decide) ?_
                obtain ⟨hz, hE⟩ := bz_some hE
                obtain rfl := Option.some.inj hE
                exact m_zret F hM hr hz rfl rfl dX7_isBefore_118
        · replace hE := (if_neg c70).symm.trans hE
          refine lv_iload hx hb dX7_isBefore_73 (lv_at hl 1 rfl) ?_
          refine lv_iload hx hb dX7_isBefore_75 (lv_at hl 0 rfl) ?_
          refine lv_icmp_ge (tgt := 84) hx hb dX7_isBefore_77 (by decide) (fun c77 => ?_) (fun c77 => ?_)
          · replace hE := (if_pos c77).symm.trans hE
            refine lv_iconst (v := 0) hx hb dX7_isBefore_84 (by decide) ?_
            refine lv_goto (tgt := 118) hx hb dX7_isBefore_85 (by decide) ?_
            obtain ⟨hz, hE⟩ := bz_some hE
            obtain rfl := Option.some.inj hE
            exact m_zret F hM hr hz rfl rfl dX7_isBefore_118
          · replace hE := (if_neg c77).symm.trans hE
            refine lv_iconst (v := 1) hx hb dX7_isBefore_80 (by decide) ?_
            refine lv_goto (tgt := 118) hx hb dX7_isBefore_81 (by decide) ?_
            obtain ⟨hz, hE⟩ := bz_some hE
            obtain rfl := Option.some.inj hE
            exact m_zret F hM hr hz rfl rfl dX7_isBefore_118
      · replace hE := (if_neg c55).symm.trans hE
        refine lv_iload_n hx hb dX7_isBefore_58 rfl (lv_at hl 4 rfl) ?_
        refine lv_goto (tgt := 64) hx hb dX7_isBefore_59 (by decide) ?_
        refine lv_istore (lv' := [(6, .int p3), (5, .int p1), (0, .ref (ad 7)), (1, .int p1), (2, .int p2), (3, .int p3), (4, .int p4)]) hx hb dX7_isBefore_64 hl (by decide) rfl (fun ls hl => ?_)
        refine lv_iload hx hb dX7_isBefore_66 (lv_at hl 1 rfl) ?_
        refine lv_iload hx hb dX7_isBefore_68 (lv_at hl 0 rfl) ?_
        refine lv_icmp_eq (tgt := 88) hx hb dX7_isBefore_70 (by decide) (fun c70 => ?_) (fun c70 => ?_)
        · replace hE := (if_pos c70).symm.trans hE
          refine lv_iload_n hx hb dX7_isBefore_88 rfl (lv_at hl 3 rfl) ?_
          refine lv_iload_n hx hb dX7_isBefore_89 rfl (lv_at hl 4 rfl) ?_
          refine lv_icmp_ge (tgt := 97) hx hb dX7_isBefore_90 (by decide) (fun c90 => ?_) (fun c90 => ?_)
          · replace hE := (if_pos c90).symm.trans hE
            refine lv_iload_n hx hb dX7_isBefore_97 rfl (lv_at hl 3 rfl) ?_
            refine lv_iload_n hx hb dX7_isBefore_98 rfl (lv_at hl 5 rfl) ?_
            refine lv_iload hx hb dX7_isBefore_99 (lv_at hl 6 rfl) ?_
            refine lv_icmp_ge (tgt := 109) hx hb dX7_isBefore_101 (by decide) (fun c101 => ?_) (fun c101 => ?_)
            · replace hE := (if_pos c101).symm.trans hE
              refine lv_iload_n hx hb dX7_isBefore_109 rfl (lv_at hl 5 rfl) ?_
              refine lv_icmp_ge (tgt := 117) hx hb dX7_isBefore_110 (by decide) (fun c110 => ?_) (fun c110 => ?_)
              · replace hE := (if_pos c110).symm.trans hE
                refine lv_iconst (v := 0) hx hb dX7_isBefore_117 (by decide) ?_
                obtain ⟨hz, hE⟩ := bz_some hE
                obtain rfl := Option.some.inj hE
                exact m_zret F hM hr hz rfl rfl dX7_isBefore_118
              · replace hE := (if_neg c110).symm.trans hE
                refine lv_iconst (v := 1) hx hb dX7_isBefore_113 (by decide) ?_
                refine lv_goto (tgt := 118) hx hb dX7_isBefore_114 (by decide) ?_
                obtain ⟨hz, hE⟩ := bz_some hE
                obtain rfl := Option.some.inj hE
                exact m_zret F hM hr hz rfl rfl dX7_isBefore_118
            · replace hE := (if_neg c101).symm.trans hE
              refine lv_iload hx hb dX7_isBefore_104 (lv_at hl 6 rfl) ?_
              refine lv_goto (tgt := 110) hx hb dX7_isBefore_106 (by decide) ?_
              refine lv_icmp_ge (tgt := 117) hx hb dX7_isBefore_110 (by decide) (fun c110 => ?_) (fun c110 => ?_)
              · replace hE := (if_pos c110).symm.trans hE
                refine lv_iconst (v := 0) hx hb dX7_isBefore_117 (by decide) ?_
                obtain ⟨hz, hE⟩ := bz_some hE
                obtain rfl := Option.some.inj hE
                exact m_zret F hM hr hz rfl rfl dX7_isBefore_118
              · replace hE := (if_neg c110).symm.trans hE
                refine lv_iconst (v := 1) hx hb dX7_isBefore_113 (by decide) ?_
                refine lv_goto (tgt := 118) hx hb dX7_isBefore_114 (by decide) ?_
                obtain ⟨hz, hE⟩ := bz_some hE
                obtain rfl := Option.some.inj hE
                exact m_zret F hM hr hz rfl rfl dX7_isBefore_118
          · replace hE := (if_neg c90).symm.trans hE
            refine lv_iload_n hx hb dX7_isBefore_93 rfl (lv_at hl 4 rfl) ?_
            refine lv_goto (tgt := 98) hx hb dX7_isBefore_94 (by decide) ?_
            refine lv_iload_n hx hb dX7_isBefore_98 rfl (lv_at hl 5 rfl) ?_
            refine lv_iload hx hb dX7_isBefore_99 (lv_at hl 6 rfl) ?_
            refine lv_icmp_ge (tgt := 109) hx hb dX7_isBefore_101 (by decide) (fun c101 => ?_) (fun c101 => ?_)
            · replace hE := (if_pos c101).symm.trans hE
              refine lv_iload_n hx hb dX7_isBefore_109 rfl (lv_at hl 5 rfl) ?_
              refine lv_icmp_ge (tgt := 117) hx hb dX7_isBefore_110 (by decide) (fun c110 => ?_) (fun c110 => ?_)
              · replace hE := (if_pos c110).symm.trans hE
                refine lv_iconst (v := 0) hx hb dX7_isBefore_117 (by decide) ?_
                obtain ⟨hz, hE⟩ := bz_some hE
                obtain rfl := Option.some.inj hE
                exact m_zret F hM hr hz rfl rfl dX7_isBefore_118
              · replace hE := (if_neg c110).symm.trans hE
                refine lv_iconst (v := 1) hx hb dX7_isBefore_113 (by decide) ?_
                refine lv_goto (tgt := 118) hx hb dX7_isBefore_114 (by decide) ?_
                obtain ⟨hz, hE⟩ := bz_some hE
                obtain rfl := Option.some.inj hE
                exact m_zret F hM hr hz rfl rfl dX7_isBefore_118
            · replace hE := (if_neg c101).symm.trans hE
              refine lv_iload hx hb dX7_isBefore_104 (lv_at hl 6 rfl) ?_
              refine lv_goto (tgt := 110) hx hb dX7_isBefore_106 (by decide) ?_
              refine lv_icmp_ge (tgt := 117) hx hb dX7_isBefore_110 (by decide) (fun c110 => ?_) (fun c110 => ?_)
              · replace hE := (if_pos c110).symm.trans hE
                refine lv_iconst (v := 0) hx hb dX7_isBefore_117 (by decide) ?_
                obtain ⟨hz, hE⟩ := bz_some hE
                obtain rfl := Option.some.inj hE
                exact m_zret F hM hr hz rfl rfl dX7_isBefore_118
              · replace hE := (if_neg c110).symm.trans hE
                refine lv_iconst (v := 1) hx hb dX7_isBefore_113 (by decide) ?_
                refine lv_goto (tgt := 118) hx hb dX7_isBefore_114 (by decide) ?_
                obtain ⟨hz, hE⟩ := bz_some hE
                obtain rfl := Option.some.inj hE
                exact m_zret F hM hr hz rfl rfl dX7_isBefore_118
        · replace hE := (if_neg c70).symm.trans hE
          refine lv_iload hx hb dX7_isBefore_73 (lv_at hl 1 rfl) ?_
          refine lv_iload hx hb dX7_isBefore_75 (lv_at hl 0 rfl) ?_
          refine lv_icmp_ge (tgt := 84) hx hb dX7_isBefore_77 (by decide) (fun c77 => ?_) (fun c77 => ?_)
          · replace hE := (if_pos c77).symm.trans hE
            refine lv_iconst (v := 0) hx hb dX7_isBefore_84 (by decide) ?_
            refine lv_goto (tgt := 118) hx hb dX7_isBefore_85 (by decide) ?_
            obtain ⟨hz, hE⟩ := bz_some hE
            obtain rfl := Option.some.inj hE
            exact m_zret F hM hr hz rfl rfl dX7_isBefore_118
          · replace hE := (if_neg c77).symm.trans hE
            refine lv_iconst (v := 1) hx hb dX7_isBefore_80 (by decide) ?_
            refine lv_goto (tgt := 118) hx hb dX7_isBefore_81 (by decide) ?_
            obtain ⟨hz, hE⟩ := bz_some hE
            obtain rfl := Option.some.inj hE
            exact m_zret F hM hr hz rfl rfl dX7_isBefore_118
  · replace hE := (if_neg c14).symm.trans hE
    refine lv_aload_n hx hb dX7_isBefore_17 rfl (lv_at hl 0 rfl) ?_
    refine lv_iload_n hx hb dX7_isBefore_18 rfl (lv_at hl 1 rfl) ?_
    refine lv_iload_n hx hb dX7_isBefore_19 rfl (lv_at hl 2 rfl) ?_
    obtain ⟨o20_2, ho20_2, hE⟩ := bd_some hE
    refine m_callVl (As := [.int p1, .int p2]) (I2 := I) (J2 := J) (A2 := A) (B2 := B) (G2 := G) F hM (c_X7_price l D y nn ad H.size I J A B G p1 p2  o20_2 ho20_2) (cwV 2 F.1.2.2.2.2 gX7_isBefore_X7_price rfl rfl rfl (by decide +kernel) ⟨Nat.le_of_ble_eq_true rfl, Nat.le_of_ble_eq_true rfl⟩) (m_recv F hM mg_7 rfl) rfl hl.1 (Nat.le_of_ble_eq_true rfl) dX7_isBefore_20 ⟨Nat.le_refl 0, Nat.le_refl 0⟩ rfl rfl rfl rfl rfl (fun H locs hM => ?_)
    refine lv_aload_n hx hb dX7_isBefore_23 rfl (lv_at hl 0 rfl) ?_
    refine lv_iload_n hx hb dX7_isBefore_24 rfl (lv_at hl 3 rfl) ?_
    refine lv_iload hx hb dX7_isBefore_25 (lv_at hl 4 rfl) ?_
    obtain ⟨o27_3, ho27_3, hE⟩ := bd_some hE
    refine m_callVl (As := [.int p3, .int p4]) (I2 := I) (J2 := J) (A2 := A) (B2 := B) (G2 := G) F hM (c_X7_price l D y nn ad H.size I J A B G p3 p4  o27_3 ho27_3) (cwV 2 F.1.2.2.2.2 gX7_isBefore_X7_price rfl rfl rfl (by decide +kernel) ⟨Nat.le_of_ble_eq_true rfl, Nat.le_of_ble_eq_true rfl⟩) (m_recv F hM mg_7 rfl) rfl hl.1 (Nat.le_of_ble_eq_true rfl) dX7_isBefore_27 ⟨Nat.le_refl 0, Nat.le_refl 0⟩ rfl rfl rfl rfl rfl (fun H locs hM => ?_)
    refine m_lge (tgt := 38) F dX7_isBefore_30 dX7_isBefore_31 (by decide) (fun c31 => ?_) (fun c31 => ?_)
    · replace hE := (if_pos c31).symm.trans hE
      refine lv_iconst (v := 0) hx hb dX7_isBefore_38 (by decide) ?_
      obtain ⟨hz, hE⟩ := bz_some hE
      obtain rfl := Option.some.inj hE
      exact m_zret F hM hr hz rfl rfl dX7_isBefore_39
    · replace hE := (if_neg c31).symm.trans hE
      refine lv_iconst (v := 1) hx hb dX7_isBefore_34 (by decide) ?_
      refine lv_goto (tgt := 39) hx hb dX7_isBefore_35 (by decide) ?_
      obtain ⟨hz, hE⟩ := bz_some hE
      obtain rfl := Option.some.inj hE
      exact m_zret F hM hr hz rfl rfl dX7_isBefore_39
/-! ===== X7_take: reads B54 B55, writes J1 A35, frames 3, locals 66 ===== -/
def f_X7_take (b54 : Nat → Int64) (b55 : Nat → Int64) (j1 : Int64) (a35 : Nat → Int32) (p1 : Int32) (p2 : Int32) : Option (Int64 × (Nat → Int32)) :=
ck p1 12 (
ck p1 12 (
nmd (upd a35 p1.toNatClampNeg ((a35 p1.toNatClampNeg) + (1 : Int32))) fun w9_2 =>
ck p2 12 (
ck p2 12 (
nmd (upd w9_2 p2.toNatClampNeg ((w9_2 p2.toNatClampNeg) + (1 : Int32))) fun w19_5 =>
bd (f_X7_price b54 b55 p1 p2) fun o28_6 =>
some ((j1 + o28_6), w19_5)))))
set_option maxHeartbeats 4000000 in
set_option maxRecDepth 100000 in
theorem c_X7_take (l : Launch) (D : va_G) (y : Nat → ClassId) (nn : Nat) (ad : Nat → Nat) (sz : Nat) (I : Nat → Int32) (J : Nat → Int64) (A : Nat → Nat → Int32) (B : Nat → Nat → Int64) (G : Nat → Nat → Nat → Int32) (p1 : Int32) (p2 : Int32)  (out : Int64 × (Nat → Int32)) (hE : f_X7_take (B 54) (B 55) (J 1) (A 35) p1 p2 = some out) : Met l yX7_take wsX7_take ({ frames := 3, cells := 0, slots := 0, locals := 66 } : Room) (mPc [.ref (ad 7), .int p1, .int p2] D y nn ad sz I J A B G) (mQv D y nn ad (mA y nn ad I J A B G sz) (I, (va_up J 1 out.1), (va_up A 35 out.2), B, G)) 0 0 (mA y nn ad I J A B G sz) := by
  refine Met.ofW (cc := cX7_take) (maxL := 3) (ret := none) (by decide) rfl ?_
  intro p e s m args below meth c s₁ Bd hml hv
  obtain ⟨rfl, hsz, hP, hK, hD0, hN⟩ := hv
  have hr := Bd.returns
  subst hsz
  have F : Fx p s m ([.ref (ad 7), .int p1, .int p2] : List Value).toArray meth c cX7_take 3 wsX7_take RX7 D y (mA y nn ad I J A B G s.heap.size) := ⟨⟨Bd.exec, Bd.bytes, hml, findClass_of_methodNamed Bd.named, atoms_spec (ws := wsX7_take) Bd.pre⟩, hK, hN, fun q h => Or.inr h, Bd.notSynchronized⟩
  have hM := m_start (s := s) rfl hP hD0
  have hM := m_mem (I2 := I) (J2 := (va_up J 1 (J 1))) (A2 := (va_up A 35 (A 35))) (B2 := B) (G2 := G) hM (by rfl) (by simp only [up_id]) (by simp only [up_id]) (by rfl) (by rfl)
  have hx := F.1.1
  have hb := F.1.2.1
  have hl := lv_entry ([.ref (ad 7), .int p1, .int p2]) (n := 3) (Nat.le_of_ble_eq_true rfl)
  rw [lg_entry_eq]
  generalize (lg_sl ([.ref (ad 7), .int p1, .int p2]) ++ List.replicate (3 - (lg_sl ([.ref (ad 7), .int p1, .int p2])).length) Slot.unset).toArray = ls at hl ⊢
  have hl : lv_has ls 3 [(0, .ref (ad 7)), (1, .int p1), (2, .int p2)] := hl
  show W p l e ({ frames := 3, cells := 0, slots := 0, locals := 66 } : Room) s m _ below meth c s.heap [] 0 0 _ _
  obtain ⟨locs, hlo⟩ : ∃ locs : List Loc, locs = [] := ⟨_, rfl⟩
  rw [← hlo]; rw [← hlo] at hM
  unfold f_X7_take at hE
  revert hM
  suffices hH : ∀ H : Heap, MM D y nn ad (mA y nn ad I J A B G s.heap.size) s.heap I (va_up J 1 (J 1)) (va_up A 35 (A 35)) B G H locs → W p l e ({ frames := 3, cells := 0, slots := 0, locals := 66 } : Room) s m ([.ref (ad 7), .int p1, .int p2] : List Value).toArray below meth c H locs 0 0 (MQ below (mQv D y nn ad (mA y nn ad I J A B G s.heap.size) (I, (va_up J 1 out.1), (va_up A 35 out.2), B, G)) ([.ref (ad 7), .int p1, .int p2] : List Value).toArray s 0 0 (mA y nn ad I J A B G s.heap.size)) (F0 m 0 ls []) from hH s.heap
  intro H hM
  refine lv_aload_n hx hb dX7_take_0 rfl (lv_at hl 0 rfl) ?_
  refine m_get F hM 7 mg_7 rfl 7 (by decide) (by decide +kernel) (by decide +kernel) (v := .ref (ad 35)) rfl dX7_take_1 ?_
  refine lv_iload_n hx hb dX7_take_4 rfl (lv_at hl 1 rfl) ?_
  refine lv_dup2_11 hx hb dX7_take_5 rfl rfl ?_
  obtain ⟨hi6_0, hE⟩ := ck_some hE
  refine m_iald (g := (A 35)) F hM mg_35 rfl hi6_0 dX7_take_6 ?_
  refine lv_iconst (v := 1) hx hb dX7_take_7 (by decide) ?_
  refine lv_iadd hx hb dX7_take_8 ?_
  obtain ⟨hi9_1, hE⟩ := ck_some hE
  obtain ⟨w9_2, ew9_2, hE⟩ := nmd_some hE
  refine m_iast (f := (A 35)) (A' := (va_up A 35 w9_2)) F hM mg_35 ms_35 (by rw [ew9_2]; exact (bx_uu _ _ _ _)) hi9_1 dX7_take_9 (fun H locs hM => ?_)
  refine lv_aload_n hx hb dX7_take_10 rfl (lv_at hl 0 rfl) ?_
  refine m_get F hM 7 mg_7 rfl 7 (by decide) (by decide +kernel) (by decide +kernel) (v := .ref (ad 35)) rfl dX7_take_11 ?_
  refine lv_iload_n hx hb dX7_take_14 rfl (lv_at hl 2 rfl) ?_
  refine lv_dup2_11 hx hb dX7_take_15 rfl rfl ?_
  obtain ⟨hi16_3, hE⟩ := ck_some hE
  refine m_iald (g := w9_2) F hM mg_35 rfl hi16_3 dX7_take_16 ?_
  refine lv_iconst (v := 1) hx hb dX7_take_17 (by decide) ?_
  refine lv_iadd hx hb dX7_take_18 ?_
  obtain ⟨hi19_4, hE⟩ := ck_some hE
  obtain ⟨w19_5, ew19_5, hE⟩ := nmd_some hE
  refine m_iast (f := w9_2) (A' := (va_up A 35 w19_5)) F hM mg_35 ms_35 (by rw [ew19_5]; exact (bx_uu _ _ _ _)) hi19_4 dX7_take_19 (fun H locs hM => ?_)
  refine lv_aload_n hx hb dX7_take_20 rfl (lv_at hl 0 rfl) ?_
  refine lv_aload_n hx hb dX7_take_21 rfl (lv_at hl 0 rfl) ?_
  refine m_get F hM 7 mg_7 rfl 9 (by decide) (by decide +kernel) (by decide +kernel) (v := .long (J 1)) rfl dX7_take_22 ?_
  refine lv_aload_n hx hb dX7_take_25 rfl (lv_at hl 0 rfl) ?_
  refine lv_iload_n hx hb dX7_take_26 rfl (lv_at hl 1 rfl) ?_
  refine lv_iload_n hx hb dX7_take_27 rfl (lv_at hl 2 rfl) ?_
  obtain ⟨o28_6, ho28_6, hE⟩ := bd_some hE
  refine m_callVl (As := [.int p1, .int p2]) (I2 := I) (J2 := (va_up J 1 (J 1))) (A2 := (va_up A 35 w19_5)) (B2 := B) (G2 := G) F hM (c_X7_price l D y nn ad H.size I (va_up J 1 (J 1)) (va_up A 35 w19_5) B G p1 p2  o28_6 ho28_6) (cwV 2 F.1.2.2.2.2 gX7_take_X7_price rfl rfl rfl (by decide +kernel) ⟨Nat.le_of_ble_eq_true rfl, Nat.le_of_ble_eq_true rfl⟩) (m_recv F hM mg_7 rfl) rfl hl.1 (Nat.le_of_ble_eq_true rfl) dX7_take_28 ⟨Nat.le_refl 0, Nat.le_refl 0⟩ rfl rfl rfl rfl rfl (fun H locs hM => ?_)
  refine lv_ladd hx hb dX7_take_31 ?_
  refine m_put F hM 7 mg_7 rfl tyX7 tyX7_ok nmX7 9 (by decide) (by decide +kernel) (by decide +kernel) rfl (ty := .long) (v := .long ((J 1) + o28_6)) (by decide +kernel) rfl rfl (Nat.le_of_ble_eq_true rfl) (ms_7_9 _) rfl  (bx_uu _ _ _ _) dX7_take_32 (fun H locs hM => ?_)
  obtain rfl := Option.some.inj hE
  exact m_vret F hM hr rfl dX7_take_35
/-! ===== X7_link: reads I6 B54 B55, writes J1 A35 A36, frames 4, locals 92 ===== -/
def f_X7_link_267 (N : Nat) (i6 : Int32) (b54 : Nat → Int64) (b55 : Nat → Int64)  (nx267 : Int32 → Int64 → (Nat → Int32) → (Nat → Int32) → Option (Int32 × Int64 × (Nat → Int32) × (Nat → Int32))) (x2 : Int32) (j1' : Int64) (a35' : Nat → Int32) (a36' : Nat → Int32) : Option (Int32 × Int64 × (Nat → Int32) × (Nat → Int32)) :=
(if i6 ≤ x2 then
bz (1 : Int32) (some ((1 : Int32), j1', a35', a36'))
else
ck x2 12 (
nmd ((j1' - ((2 : Int64) * (b55 x2.toNatClampNeg)))) fun v291_1 =>
nx267 (x2 + (1 : Int32)) v291_1 a35' a36'))
def f_X7_link_191 (N : Nat) (i6 : Int32) (b54 : Nat → Int64) (b55 : Nat → Int64) (nx181 : Int32 → Int32 → Int64 → (Nat → Int32) → (Nat → Int32) → Option (Int32 × Int64 × (Nat → Int32) × (Nat → Int32))) (nx191 : Int32 → Int32 → Int32 → Int32 → Int64 → (Nat → Int32) → (Nat → Int32) → Option (Int32 × Int64 × (Nat → Int32) × (Nat → Int32))) (x1 : Int32) (x2 : Int32) (x3 : Int32) (x4 : Int32) (j1' : Int64) (a35' : Nat → Int32) (a36' : Nat → Int32) : Option (Int32 × Int64 × (Nat → Int32) × (Nat → Int32)) :=
(if i6 ≤ x4 then
(if x3 = (0 : Int32) then
bz (0 : Int32) (some ((0 : Int32), j1', a35', a36'))
else
bd (f_X7_take b54 b55 j1' a35' (0 : Int32) x3) fun o254_2 =>
nx181 x3 (x2 + (1 : Int32)) o254_2.1 o254_2.2 a36')
else
bd (f_X7_length b54 (0 : Int32) x4) fun o204_3 =>
(if (1000000000000 : Int64) ≤ o204_3 then
nx191 x1 x2 x3 (x4 + (1 : Int32)) j1' a35' a36'
else
(if x4 = x1 then
nx191 x1 x2 x3 (x4 + (1 : Int32)) j1' a35' a36'
else
(if x3 = (0 : Int32) then
nx191 x1 x2 x4 (x4 + (1 : Int32)) j1' a35' a36'
else
bd (f_X7_isBefore b54 b55 (0 : Int32) x4 (0 : Int32) x3) fun o230_4 =>
(if o230_4 = (0 : Int32) then
nx191 x1 x2 x3 (x4 + (1 : Int32)) j1' a35' a36'
else
nx191 x1 x2 x4 (x4 + (1 : Int32)) j1' a35' a36')))))
def f_X7_link_181 (N : Nat) (i6 : Int32) (b54 : Nat → Int64) (b55 : Nat → Int64)  (nx181 : Int32 → Int32 → Int64 → (Nat → Int32) → (Nat → Int32) → Option (Int32 × Int64 × (Nat → Int32) × (Nat → Int32))) (x1 : Int32) (x2 : Int32) (j1' : Int64) (a35' : Nat → Int32) (a36' : Nat → Int32) : Option (Int32 × Int64 × (Nat → Int32) × (Nat → Int32)) :=
(if (2 : Int32) ≤ x2 then
lq4 (f_X7_link_267 N i6 b54 b55 ) N (0 : Int32) j1' a35' a36'
else
lq7 (f_X7_link_191 N i6 b54 b55 nx181) N x1 x2 (0 : Int32) (1 : Int32) j1' a35' a36')
def f_X7_link_73 (N : Nat) (i6 : Int32) (b54 : Nat → Int64) (b55 : Nat → Int64) (nx46 : Int32 → Int64 → (Nat → Int32) → (Nat → Int32) → Option (Int32 × Int64 × (Nat → Int32) × (Nat → Int32))) (nx61 : Int32 → Int32 → Int32 → Int32 → Int64 → (Nat → Int32) → (Nat → Int32) → Option (Int32 × Int64 × (Nat → Int32) × (Nat → Int32))) (nx73 : Int32 → Int32 → Int32 → Int32 → Int32 → Int64 → (Nat → Int32) → (Nat → Int32) → Option (Int32 × Int64 × (Nat → Int32) × (Nat → Int32))) (x1 : Int32) (x2 : Int32) (x3 : Int32) (x4 : Int32) (x5 : Int32) (j1' : Int64) (a35' : Nat → Int32) (a36' : Nat → Int32) : Option (Int32 × Int64 × (Nat → Int32) × (Nat → Int32)) :=
(if i6 ≤ x5 then
nx61 x1 x2 x3 (x4 + (1 : Int32)) j1' a35' a36'
else
ck x4 12 (
(if (a36' x4.toNatClampNeg) = (0 : Int32) then
nx73 x1 x2 x3 x4 (x5 + (1 : Int32)) j1' a35' a36'
else
ck x5 12 (
(if (a36' x5.toNatClampNeg) = (0 : Int32) then
bd (f_X7_length b54 x4 x5) fun o107_10 =>
(if (1000000000000 : Int64) ≤ o107_10 then
nx73 x1 x2 x3 x4 (x5 + (1 : Int32)) j1' a35' a36'
else
(if x3 = (0 : Int32) then
nx73 x1 x4 x5 x4 (x5 + (1 : Int32)) j1' a35' a36'
else
bd (f_X7_isBefore b54 b55 x4 x5 x2 x3) fun o128_11 =>
(if o128_11 = (0 : Int32) then
nx73 x1 x2 x3 x4 (x5 + (1 : Int32)) j1' a35' a36'
else
nx73 x1 x4 x5 x4 (x5 + (1 : Int32)) j1' a35' a36')))
else
nx73 x1 x2 x3 x4 (x5 + (1 : Int32)) j1' a35' a36')))))
def f_X7_link_61 (N : Nat) (i6 : Int32) (b54 : Nat → Int64) (b55 : Nat → Int64) (nx46 : Int32 → Int64 → (Nat → Int32) → (Nat → Int32) → Option (Int32 × Int64 × (Nat → Int32) × (Nat → Int32))) (nx61 : Int32 → Int32 → Int32 → Int32 → Int64 → (Nat → Int32) → (Nat → Int32) → Option (Int32 × Int64 × (Nat → Int32) × (Nat → Int32))) (x1 : Int32) (x2 : Int32) (x3 : Int32) (x4 : Int32) (j1' : Int64) (a35' : Nat → Int32) (a36' : Nat → Int32) : Option (Int32 × Int64 × (Nat → Int32) × (Nat → Int32)) :=
(if i6 ≤ x4 then
(if x3 = (0 : Int32) then
bz (0 : Int32) (some ((0 : Int32), j1', a35', a36'))
else
ck x3 12 (
nmd (upd a36' x3.toNatClampNeg (vp_nar .boolean (1 : Int32))) fun w164_6 =>
bd (f_X7_take b54 b55 j1' a35' x2 x3) fun o168_7 =>
nx46 (x1 + (1 : Int32)) o168_7.1 o168_7.2 w164_6))
else
lq8 (f_X7_link_73 N i6 b54 b55 nx46 nx61) N x1 x2 x3 x4 (1 : Int32) j1' a35' a36')
def f_X7_link_46 (N : Nat) (i6 : Int32) (b54 : Nat → Int64) (b55 : Nat → Int64)  (nx46 : Int32 → Int64 → (Nat → Int32) → (Nat → Int32) → Option (Int32 × Int64 × (Nat → Int32) × (Nat → Int32))) (x1 : Int32) (j1' : Int64) (a35' : Nat → Int32) (a36' : Nat → Int32) : Option (Int32 × Int64 × (Nat → Int32) × (Nat → Int32)) :=
(if i6 ≤ x1 then
lq5 (f_X7_link_181 N i6 b54 b55 ) N (0 : Int32) (0 : Int32) j1' a35' a36'
else
lq7 (f_X7_link_61 N i6 b54 b55 nx46) N x1 (0 : Int32) (0 : Int32) (1 : Int32) j1' a35' a36')
def f_X7_link_7 (N : Nat) (i6 : Int32) (b54 : Nat → Int64) (b55 : Nat → Int64)  (nx7 : Int32 → Int64 → (Nat → Int32) → (Nat → Int32) → Option (Int32 × Int64 × (Nat → Int32) × (Nat → Int32))) (x1 : Int32) (j1' : Int64) (a35' : Nat → Int32) (a36' : Nat → Int32) : Option (Int32 × Int64 × (Nat → Int32) × (Nat → Int32)) :=
(if i6 ≤ x1 then
lq4 (f_X7_link_46 N i6 b54 b55 ) N (2 : Int32) j1' a35' a36'
else
ck x1 12 (
nmd (upd a35' x1.toNatClampNeg (0 : Int32)) fun w21_13 =>
(if x1 = (1 : Int32) then
ck x1 12 (
nmd (upd a36' x1.toNatClampNeg (vp_nar .boolean (1 : Int32))) fun w37_17 =>
nx7 (x1 + (1 : Int32)) j1' w21_13 w37_17)
else
ck x1 12 (
nmd (upd a36' x1.toNatClampNeg (vp_nar .boolean (0 : Int32))) fun w37_15 =>
nx7 (x1 + (1 : Int32)) j1' w21_13 w37_15))))
def f_X7_link (N : Nat) (i6 : Int32) (b54 : Nat → Int64) (b55 : Nat → Int64) (j1 : Int64) (a35 : Nat → Int32) (a36 : Nat → Int32)  : Option (Int32 × Int64 × (Nat → Int32) × (Nat → Int32)) :=
lq4 (f_X7_link_7 N i6 b54 b55 ) N (0 : Int32) (0 : Int64) a35 a36
set_option maxHeartbeats 4000000 in
set_option maxRecDepth 100000 in
theorem s_X7_link_267 {p : Program} {l : Launch} {e : Env} {s : State} {m : MethodId} {args : Array Value} {below : List Frame} {meth : Method} {c : Code} {D : va_G} {y : Nat → ClassId} {nn : Nat} {ad : Nat → Nat} {A0 : Nat → Prop} {I : Nat → Int32} {J : Nat → Int64} {A : Nat → Nat → Int32} {B : Nat → Nat → Int64} {G : Nat → Nat → Nat → Int32} (F : Fx p s m args meth c cX7_link 6 wsX7_link RX7 D y A0) (hr : meth.sig.returnType = (some .boolean)) {out : Int32 × Int64 × (Nat → Int32) × (Nat → Int32)} {N : Nat}  (nx267 : Int32 → Int64 → (Nat → Int32) → (Nat → Int32) → Option (Int32 × Int64 × (Nat → Int32) × (Nat → Int32))) (hn267 : ∀ (x2 : Int32) (j1' : Int64) (a35' : Nat → Int32) (a36' : Nat → Int32) (ls : Array Slot) (H : Heap) (locs : List Loc), nx267 x2 j1' a35' a36' = some out → MM D y nn ad A0 s.heap I (va_up J 1 j1') (va_up (va_up A 35 a35') 36 a36') B G H locs → lv_has ls 6 [(0, .ref (ad 7)), (2, .int x2)] → W p l e ({ frames := 4, cells := 0, slots := 0, locals := 92 } : Room) s m args below meth c H locs 0 0 (MQ below (mQi D y nn ad A0 out.1 (I, (va_up J 1 out.2.1), (va_up (va_up A 35 out.2.2.1) 36 out.2.2.2), B, G)) args s 0 0 A0) (F0 m 267 ls [])) : ∀ (x2 : Int32) (j1' : Int64) (a35' : Nat → Int32) (a36' : Nat → Int32) (ls : Array Slot) (H : Heap) (locs : List Loc), f_X7_link_267 N (I 6) (B 54) (B 55)  nx267 x2 j1' a35' a36' = some out → MM D y nn ad A0 s.heap I (va_up J 1 j1') (va_up (va_up A 35 a35') 36 a36') B G H locs → lv_has ls 6 [(0, .ref (ad 7)), (2, .int x2)] → W p l e ({ frames := 4, cells := 0, slots := 0, locals := 92 } : Room) s m args below meth c H locs 0 0 (MQ below (mQi D y nn ad A0 out.1 (I, (va_up J 1 out.2.1), (va_up (va_up A 35 out.2.2.1) 36 out.2.2.2), B, G)) args s 0 0 A0) (F0 m 267 ls []) := by
  intro x2 j1' a35' a36' ls H locs hE hM hl
  have hx := F.1.1
  have hb := F.1.2.1
  unfold f_X7_link_267 at hE
  refine lv_iload_n hx hb dX7_link_267 rfl (lv_at hl 1 rfl) ?_
  refine lv_aload_n hx hb dX7_link_268 rfl (lv_at hl 0 rfl) ?_
  refine m_get F hM 7 mg_7 rfl 1 (by decide) (by decide +kernel) (by decide +kernel) (v := .int (I 6)) rfl dX7_link_269 ?_
  refine lv_icmp_ge (tgt := 300) hx hb dX7_link_272 (by decide) (fun c272 => ?_) (fun c272 => ?_)
  · replace hE := (if_pos c272).symm.trans hE
    refine lv_iconst (v := 1) hx hb dX7_link_300 (by decide) ?_
    obtain ⟨hz, hE⟩ := bz_some hE
    obtain rfl := Option.some.inj hE
    exact m_zret F hM hr hz rfl rfl dX7_link_301
  · replace hE := (if_neg c272).symm.trans hE
    refine lv_aload_n hx hb dX7_link_275 rfl (lv_at hl 0 rfl) ?_
    refine lv_aload_n hx hb dX7_link_276 rfl (lv_at hl 0 rfl) ?_
    refine m_get F hM 7 mg_7 rfl 9 (by decide) (by decide +kernel) (by decide +kernel) (v := .long j1') rfl dX7_link_277 ?_
    refine lv_ldc2 (v := (2)) hx hb F.1.2.2.2.1 (F.1.2.2.2.2 (.constantLong RX7 70 (2)) (by decide +kernel)) dX7_link_280 ?_
    refine lv_aload_n hx hb dX7_link_283 rfl (lv_at hl 0 rfl) ?_
    refine m_get F hM 7 mg_7 rfl 6 (by decide) (by decide +kernel) (by decide +kernel) (v := .ref (ad 55)) rfl dX7_link_284 ?_
    refine lv_iload_n hx hb dX7_link_287 rfl (lv_at hl 1 rfl) ?_
    obtain ⟨hi288_0, hE⟩ := ck_some hE
    refine m_lald (g := (B 55)) F hM mg_55 rfl hi288_0 dX7_link_288 ?_
    refine lv_lmul hx hb dX7_link_289 ?_
    refine lv_lsub hx hb dX7_link_290 ?_
    obtain ⟨v291_1, ev291_1, hE⟩ := nmd_some hE
    refine m_topl ev291_1 ?_
    refine m_put F hM 7 mg_7 rfl tyX7 tyX7_ok nmX7 9 (by decide) (by decide +kernel) (by decide +kernel) rfl (ty := .long) (v := .long v291_1) (by decide +kernel) rfl rfl (Nat.le_of_ble_eq_true rfl) (ms_7_9 _) rfl  (bx_uu _ _ _ _) dX7_link_291 (fun H locs hM => ?_)
    refine lv_iinc (v := x2 + (1 : Int32)) (lv' := [(2, .int (x2 + (1 : Int32))), (0, .ref (ad 7))]) hx hb dX7_link_294 hl (k := 1) rfl rfl (by decide) rfl (fun ls hl => ?_)
    refine lv_goto (tgt := 267) hx hb dX7_link_297 (by decide) ?_
    exact hn267 (x2 + (1 : Int32)) v291_1 a35' a36' ls H locs hE hM (lv_sub hl [1, 0] rfl)
theorem k_X7_link_267 {p : Program} {l : Launch} {e : Env} {s : State} {m : MethodId} {args : Array Value} {below : List Frame} {meth : Method} {c : Code} {D : va_G} {y : Nat → ClassId} {nn : Nat} {ad : Nat → Nat} {A0 : Nat → Prop} {I : Nat → Int32} {J : Nat → Int64} {A : Nat → Nat → Int32} {B : Nat → Nat → Int64} {G : Nat → Nat → Nat → Int32} (F : Fx p s m args meth c cX7_link 6 wsX7_link RX7 D y A0) (hr : meth.sig.returnType = (some .boolean)) {out : Int32 × Int64 × (Nat → Int32) × (Nat → Int32)} {N : Nat}  : ∀ (n : Nat), ∀ (x2 : Int32) (j1' : Int64) (a35' : Nat → Int32) (a36' : Nat → Int32) (ls : Array Slot) (H : Heap) (locs : List Loc), lq4 (f_X7_link_267 N (I 6) (B 54) (B 55) ) n x2 j1' a35' a36' = some out → MM D y nn ad A0 s.heap I (va_up J 1 j1') (va_up (va_up A 35 a35') 36 a36') B G H locs → lv_has ls 6 [(0, .ref (ad 7)), (2, .int x2)] → W p l e ({ frames := 4, cells := 0, slots := 0, locals := 92 } : Room) s m args below meth c H locs 0 0 (MQ below (mQi D y nn ad A0 out.1 (I, (va_up J 1 out.2.1), (va_up (va_up A 35 out.2.2.1) 36 out.2.2.2), B, G)) args s 0 0 A0) (F0 m 267 ls []) := by
  intro n
  induction n with
  | zero =>
    intro x2 j1' a35' a36' ls H locs hE
    cases (show (none : Option _) = some out from hE)
  | succ n ih =>
    intro x2 j1' a35' a36' ls H locs hE hM hl
    exact s_X7_link_267 F hr (N := N)  (lq4 (f_X7_link_267 N (I 6) (B 54) (B 55) ) n) ih x2 j1' a35' a36' ls H locs hE hM hl
set_option maxHeartbeats 4000000 in
set_option maxRecDepth 100000 in
theorem s_X7_link_191 {p : Program} {l : Launch} {e : Env} {s : State} {m : MethodId} {args : Array Value} {below : List Frame} {meth : Method} {c : Code} {D : va_G} {y : Nat → ClassId} {nn : Nat} {ad : Nat → Nat} {A0 : Nat → Prop} {I : Nat → Int32} {J : Nat → Int64} {A : Nat → Nat → Int32} {B : Nat → Nat → Int64} {G : Nat → Nat → Nat → Int32} (F : Fx p s m args meth c cX7_link 6 wsX7_link RX7 D y A0) (hr : meth.sig.returnType = (some .boolean)) {out : Int32 × Int64 × (Nat → Int32) × (Nat → Int32)} {N : Nat} (nx181 : Int32 → Int32 → Int64 → (Nat → Int32) → (Nat → Int32) → Option (Int32 × Int64 × (Nat → Int32) × (Nat → Int32))) (hn181 : ∀ (x1 : Int32) (x2 : Int32) (j1' : Int64) (a35' : Nat → Int32) (a36' : Nat → Int32) (ls : Array Slot) (H : Heap) (locs : List Loc), nx181 x1 x2 j1' a35' a36' = some out → MM D y nn ad A0 s.heap I (va_up J 1 j1') (va_up (va_up A 35 a35') 36 a36') B G H locs → lv_has ls 6 [(0, .ref (ad 7)), (1, .int x1), (2, .int x2)] → W p l e ({ frames := 4, cells := 0, slots := 0, locals := 92 } : Room) s m args below meth c H locs 0 0 (MQ below (mQi D y nn ad A0 out.1 (I, (va_up J 1 out.2.1), (va_up (va_up A 35 out.2.2.1) 36 out.2.2.2), B, G)) args s 0 0 A0) (F0 m 181 ls [])) (nx191 : Int32 → Int32 → Int32 → Int32 → Int64 → (Nat → Int32) → (Nat → Int32) → Option (Int32 × Int64 × (Nat → Int32) × (Nat → Int32))) (hn191 : ∀ (x1 : Int32) (x2 : Int32) (x3 : Int32) (x4 : Int32) (j1' : Int64) (a35' : Nat → Int32) (a36' : Nat → Int32) (ls : Array Slot) (H : Heap) (locs : List Loc), nx191 x1 x2 x3 x4 j1' a35' a36' = some out → MM D y nn ad A0 s.heap I (va_up J 1 j1') (va_up (va_up A 35 a35') 36 a36') B G H locs → lv_has ls 6 [(0, .ref (ad 7)), (1, .int x1), (2, .int x2), (3, .int x3), (4, .int x4)] → W p l e ({ frames := 4, cells := 0, slots := 0, locals := 92 } : Room) s m args below meth c H locs 0 0 (MQ below (mQi D y nn ad A0 out.1 (I, (va_up J 1 out.2.1), (va_up (va_up A 35 out.2.2.1) 36 out.2.2.2), B, G)) args s 0 0 A0) (F0 m 191 ls [])) : ∀ (x1 : Int32) (x2 : Int32) (x3 : Int32) (x4 : Int32) (j1' : Int64) (a35' : Nat → Int32) (a36' : Nat → Int32) (ls : Array Slot) (H : Heap) (locs : List Loc), f_X7_link_191 N (I 6) (B 54) (B 55) nx181 nx191 x1 x2 x3 x4 j1' a35' a36' = some out → MM D y nn ad A0 s.heap I (va_up J 1 j1') (va_up (va_up A 35 a35') 36 a36') B G H locs → lv_has ls 6 [(0, .ref (ad 7)), (1, .int x1), (2, .int x2), (3, .int x3), (4, .int x4)] → W p l e ({ frames := 4, cells := 0, slots := 0, locals := 92 } : Room) s m args below meth c H locs 0 0 (MQ below (mQi D y nn ad A0 out.1 (I, (va_up J 1 out.2.1), (va_up (va_up A 35 out.2.2.1) 36 out.2.2.2), B, G)) args s 0 0 A0) (F0 m 191 ls []) := by
  intro x1 x2 x3 x4 j1' a35' a36' ls H locs hE hM hl
  have hx := F.1.1
  have hb := F.1.2.1
  unfold f_X7_link_191 at hE
  refine lv_iload hx hb dX7_link_191 (lv_at hl 4 rfl) ?_
  refine lv_aload_n hx hb dX7_link_193 rfl (lv_at hl 0 rfl) ?_
  refine m_get F hM 7 mg_7 rfl 1 (by decide) (by decide +kernel) (by decide +kernel) (v := .int (I 6)) rfl dX7_link_194 ?_
  refine lv_icmp_ge (tgt := 245) hx hb dX7_link_197 (by decide) (fun c197 => ?_) (fun c197 => ?_)
  · replace hE := (if_pos c197).symm.trans hE
    refine lv_iload_n hx hb dX7_link_245 rfl (lv_at hl 3 rfl) ?_
    refine lv_if_ne (tgt := 251) hx hb dX7_link_246 (by decide) (fun c246 => ?_) (fun c246 => ?_)
    · replace hE := (if_neg c246).symm.trans hE
      refine lv_aload_n hx hb dX7_link_251 rfl (lv_at hl 0 rfl) ?_
      refine lv_iconst (v := 0) hx hb dX7_link_252 (by decide) ?_
      refine lv_iload_n hx hb dX7_link_253 rfl (lv_at hl 3 rfl) ?_
      obtain ⟨o254_2, ho254_2, hE⟩ := bd_some hE
      refine m_callVv (As := [.int (0 : Int32), .int x3]) (I2 := I) (J2 := (va_up J 1 o254_2.1)) (A2 := (va_up (va_up A 35 o254_2.2) 36 a36')) (B2 := B) (G2 := G) F hM (c_X7_take l D y nn ad H.size I (va_up J 1 j1') (va_up (va_up A 35 a35') 36 a36') B G (0 : Int32) x3  o254_2 ho254_2) (cwV 2 F.1.2.2.2.2 gX7_link_X7_take rfl rfl rfl (by decide +kernel) ⟨Nat.le_of_ble_eq_true rfl, Nat.le_of_ble_eq_true rfl⟩) (m_recv F hM mg_7 rfl) rfl hl.1 (Nat.le_of_ble_eq_true rfl) dX7_link_254 ⟨Nat.le_refl 0, Nat.le_refl 0⟩ rfl (bx_uu _ _ _ _) un_35_36__35 rfl rfl (fun H locs hM => ?_)
      refine lv_iload_n hx hb dX7_link_257 rfl (lv_at hl 3 rfl) ?_
      refine lv_istore_n (lv' := [(1, .int x3), (0, .ref (ad 7)), (2, .int x2), (3, .int x3), (4, .int x4)]) hx hb dX7_link_258 rfl hl (by decide) rfl (fun ls hl => ?_)
      refine lv_iinc (v := x2 + (1 : Int32)) (lv' := [(2, .int (x2 + (1 : Int32))), (1, .int x3), (0, .ref (ad 7)), (3, .int x3), (4, .int x4)]) hx hb dX7_link_259 hl (k := 2) rfl rfl (by decide) rfl (fun ls hl => ?_)
      refine lv_goto (tgt := 181) hx hb dX7_link_262 (by decide) ?_
      exact hn181 x3 (x2 + (1 : Int32)) o254_2.1 o254_2.2 a36' ls H locs hE hM (lv_sub hl [2, 1, 0] rfl)
    · replace hE := (if_pos c246).symm.trans hE
      refine lv_iconst (v := 0) hx hb dX7_link_249 (by decide) ?_
      obtain ⟨hz, hE⟩ := bz_some hE
      obtain rfl := Option.some.inj hE
      exact m_zret F hM hr hz rfl rfl dX7_link_250
  · replace hE := (if_neg c197).symm.trans hE
    refine lv_aload_n hx hb dX7_link_200 rfl (lv_at hl 0 rfl) ?_
    refine lv_iconst (v := 0) hx hb dX7_link_201 (by decide) ?_
    refine lv_iload hx hb dX7_link_202 (lv_at hl 4 rfl) ?_
    obtain ⟨o204_3, ho204_3, hE⟩ := bd_some hE
    refine m_callVl (As := [.int (0 : Int32), .int x4]) (I2 := I) (J2 := (va_up J 1 j1')) (A2 := (va_up (va_up A 35 a35') 36 a36')) (B2 := B) (G2 := G) F hM (c_X7_length l D y nn ad H.size I (va_up J 1 j1') (va_up (va_up A 35 a35') 36 a36') B G (0 : Int32) x4  o204_3 ho204_3) (cwV 2 F.1.2.2.2.2 gX7_link_X7_length rfl rfl rfl (by decide +kernel) ⟨Nat.le_of_ble_eq_true rfl, Nat.le_of_ble_eq_true rfl⟩) (m_recv F hM mg_7 rfl) rfl hl.1 (Nat.le_of_ble_eq_true rfl) dX7_link_204 ⟨Nat.le_refl 0, Nat.le_refl 0⟩ rfl rfl rfl rfl rfl (fun H locs hM => ?_)
    refine lv_ldc2 (v := (1000000000000)) hx hb F.1.2.2.2.1 (F.1.2.2.2.2 (.constantLong RX7 52 (1000000000000)) (by decide +kernel)) dX7_link_207 ?_
    refine m_lge (tgt := 239) F dX7_link_210 dX7_link_211 (by decide) (fun c211 => ?_) (fun c211 => ?_)
    · replace hE := (if_pos c211).symm.trans hE
      refine lv_iinc (v := x4 + (1 : Int32)) (lv' := [(4, .int (x4 + (1 : Int32))), (0, .ref (ad 7)), (1, .int x1), (2, .int x2), (3, .int x3)]) hx hb dX7_link_239 hl (k := 4) rfl rfl (by decide) rfl (fun ls hl => ?_)
      refine lv_goto (tgt := 191) hx hb dX7_link_242 (by decide) ?_
      exact hn191 x1 x2 x3 (x4 + (1 : Int32)) j1' a35' a36' ls H locs hE hM (lv_sub hl [1, 2, 3, 4, 0] rfl)
    · replace hE := (if_neg c211).symm.trans hE
      refine lv_iload hx hb dX7_link_214 (lv_at hl 4 rfl) ?_
      refine lv_iload_n hx hb dX7_link_216 rfl (lv_at hl 1 rfl) ?_
      refine lv_icmp_eq (tgt := 239) hx hb dX7_link_217 (by decide) (fun c217 => ?_) (fun c217 => ?_)
      · replace hE := (if_pos c217).symm.trans hE
        refine lv_iinc (v := x4 + (1 : Int32)) (lv' := [(4, .int (x4 + (1 : Int32))), (0, .ref (ad 7)), (1, .int x1), (2, .int x2), (3, .int x3)]) hx hb dX7_link_239 hl (k := 4) rfl rfl (by decide) rfl (fun ls hl => ?_)
        refine lv_goto (tgt := 191) hx hb dX7_link_242 (by decide) ?_
        exact hn191 x1 x2 x3 (x4 + (1 : Int32)) j1' a35' a36' ls H locs hE hM (lv_sub hl [1, 2, 3, 4, 0] rfl)
      · replace hE := (if_neg c217).symm.trans hE
        refine lv_iload_n hx hb dX7_link_220 rfl (lv_at hl 3 rfl) ?_
        refine lv_if_eq (tgt := 236) hx hb dX7_link_221 (by decide) (fun c221 => ?_) (fun c221 => ?_)
        · replace hE := (if_pos c221).symm.trans hE
          refine lv_iload hx hb dX7_link_236 (lv_at hl 4 rfl) ?_
          refine lv_istore_n (lv' := [(3, .int x4), (0, .ref (ad 7)), (1, .int x1), (2, .int x2), (4, .int x4)]) hx hb dX7_link_238 rfl hl (by decide) rfl (fun ls hl => ?_)
          refine lv_iinc (v := x4 + (1 : Int32)) (lv' := [(4, .int (x4 + (1 : Int32))), (3, .int x4), (0, .ref (ad 7)), (1, .int x1), (2, .int x2)]) hx hb dX7_link_239 hl (k := 4) rfl rfl (by decide) rfl (fun ls hl => ?_)
          refine lv_goto (tgt := 191) hx hb dX7_link_242 (by decide) ?_
          exact hn191 x1 x2 x4 (x4 + (1 : Int32)) j1' a35' a36' ls H locs hE hM (lv_sub hl [2, 3, 4, 1, 0] rfl)
        · replace hE := (if_neg c221).symm.trans hE
          refine lv_aload_n hx hb dX7_link_224 rfl (lv_at hl 0 rfl) ?_
          refine lv_iconst (v := 0) hx hb dX7_link_225 (by decide) ?_
          refine lv_iload hx hb dX7_link_226 (lv_at hl 4 rfl) ?_
          refine lv_iconst (v := 0) hx hb dX7_link_228 (by decide) ?_
          refine lv_iload_n hx hb dX7_link_229 rfl (lv_at hl 3 rfl) ?_
          obtain ⟨o230_4, ho230_4, hE⟩ := bd_some hE
          refine m_callVi (As := [.int (0 : Int32), .int x4, .int (0 : Int32), .int x3]) (I2 := I) (J2 := (va_up J 1 j1')) (A2 := (va_up (va_up A 35 a35') 36 a36')) (B2 := B) (G2 := G) F hM (c_X7_isBefore l D y nn ad H.size I (va_up J 1 j1') (va_up (va_up A 35 a35') 36 a36') B G (0 : Int32) x4 (0 : Int32) x3  o230_4 ho230_4) (cwV 4 F.1.2.2.2.2 gX7_link_X7_isBefore rfl rfl rfl (by decide +kernel) ⟨Nat.le_of_ble_eq_true rfl, Nat.le_of_ble_eq_true rfl⟩) (m_recv F hM mg_7 rfl) rfl hl.1 (Nat.le_of_ble_eq_true rfl) dX7_link_230 ⟨Nat.le_refl 0, Nat.le_refl 0⟩ rfl rfl rfl rfl rfl (fun H locs hM => ?_)
          refine lv_if_eq (tgt := 239) hx hb dX7_link_233 (by decide) (fun c233 => ?_) (fun c233 => ?_)
          · replace hE := (if_pos c233).symm.trans hE
            refine lv_iinc (v := x4 + (1 : Int32)) (lv' := [(4, .int (x4 + (1 : Int32))), (0, .ref (ad 7)), (1, .int x1), (2, .int x2), (3, .int x3)]) hx hb dX7_link_239 hl (k := 4) rfl rfl (by decide) rfl (fun ls hl => ?_)
            refine lv_goto (tgt := 191) hx hb dX7_link_242 (by decide) ?_
            exact hn191 x1 x2 x3 (x4 + (1 : Int32)) j1' a35' a36' ls H locs hE hM (lv_sub hl [1, 2, 3, 4, 0] rfl)
          · replace hE := (if_neg c233).symm.trans hE
            refine lv_iload hx hb dX7_link_236 (lv_at hl 4 rfl) ?_
            refine lv_istore_n (lv' := [(3, .int x4), (0, .ref (ad 7)), (1, .int x1), (2, .int x2), (4, .int x4)]) hx hb dX7_link_238 rfl hl (by decide) rfl (fun ls hl => ?_)
            refine lv_iinc (v := x4 + (1 : Int32)) (lv' := [(4, .int (x4 + (1 : Int32))), (3, .int x4), (0, .ref (ad 7)), (1, .int x1), (2, .int x2)]) hx hb dX7_link_239 hl (k := 4) rfl rfl (by decide) rfl (fun ls hl => ?_)
            refine lv_goto (tgt := 191) hx hb dX7_link_242 (by decide) ?_
            exact hn191 x1 x2 x4 (x4 + (1 : Int32)) j1' a35' a36' ls H locs hE hM (lv_sub hl [2, 3, 4, 1, 0] rfl)
theorem k_X7_link_191 {p : Program} {l : Launch} {e : Env} {s : State} {m : MethodId} {args : Array Value} {below : List Frame} {meth : Method} {c : Code} {D : va_G} {y : Nat → ClassId} {nn : Nat} {ad : Nat → Nat} {A0 : Nat → Prop} {I : Nat → Int32} {J : Nat → Int64} {A : Nat → Nat → Int32} {B : Nat → Nat → Int64} {G : Nat → Nat → Nat → Int32} (F : Fx p s m args meth c cX7_link 6 wsX7_link RX7 D y A0) (hr : meth.sig.returnType = (some .boolean)) {out : Int32 × Int64 × (Nat → Int32) × (Nat → Int32)} {N : Nat} (nx181 : Int32 → Int32 → Int64 → (Nat → Int32) → (Nat → Int32) → Option (Int32 × Int64 × (Nat → Int32) × (Nat → Int32))) (hn181 : ∀ (x1 : Int32) (x2 : Int32) (j1' : Int64) (a35' : Nat → Int32) (a36' : Nat → Int32) (ls : Array Slot) (H : Heap) (locs : List Loc), nx181 x1 x2 j1' a35' a36' = some out → MM D y nn ad A0 s.heap I (va_up J 1 j1') (va_up (va_up A 35 a35') 36 a36') B G H locs → lv_has ls 6 [(0, .ref (ad 7)), (1, .int x1), (2, .int x2)] → W p l e ({ frames := 4, cells := 0, slots := 0, locals := 92 } : Room) s m args below meth c H locs 0 0 (MQ below (mQi D y nn ad A0 out.1 (I, (va_up J 1 out.2.1), (va_up (va_up A 35 out.2.2.1) 36 out.2.2.2), B, G)) args s 0 0 A0) (F0 m 181 ls [])) : ∀ (n : Nat), ∀ (x1 : Int32) (x2 : Int32) (x3 : Int32) (x4 : Int32) (j1' : Int64) (a35' : Nat → Int32) (a36' : Nat → Int32) (ls : Array Slot) (H : Heap) (locs : List Loc), lq7 (f_X7_link_191 N (I 6) (B 54) (B 55) nx181) n x1 x2 x3 x4 j1' a35' a36' = some out → MM D y nn ad A0 s.heap I (va_up J 1 j1') (va_up (va_up A 35 a35') 36 a36') B G H locs → lv_has ls 6 [(0, .ref (ad 7)), (1, .int x1), (2, .int x2), (3, .int x3), (4, .int x4)] → W p l e ({ frames := 4, cells := 0, slots := 0, locals := 92 } : Room) s m args below meth c H locs 0 0 (MQ below (mQi D y nn ad A0 out.1 (I, (va_up J 1 out.2.1), (va_up (va_up A 35 out.2.2.1) 36 out.2.2.2), B, G)) args s 0 0 A0) (F0 m 191 ls []) := by
  intro n
  induction n with
  | zero =>
    intro x1 x2 x3 x4 j1' a35' a36' ls H locs hE
    cases (show (none : Option _) = some out from hE)
  | succ n ih =>
    intro x1 x2 x3 x4 j1' a35' a36' ls H locs hE hM hl
    exact s_X7_link_191 F hr (N := N) nx181 hn181 (lq7 (f_X7_link_191 N (I 6) (B 54) (B 55) nx181) n) ih x1 x2 x3 x4 j1' a35' a36' ls H locs hE hM hl
set_option maxHeartbeats 4000000 in
set_option maxRecDepth 100000 in
theorem s_X7_link_181 {p : Program} {l : Launch} {e : Env} {s : State} {m : MethodId} {args : Array Value} {below : List Frame} {meth : Method} {c : Code} {D : va_G} {y : Nat → ClassId} {nn : Nat} {ad : Nat → Nat} {A0 : Nat → Prop} {I : Nat → Int32} {J : Nat → Int64} {A : Nat → Nat → Int32} {B : Nat → Nat → Int64} {G : Nat → Nat → Nat → Int32} (F : Fx p s m args meth c cX7_link 6 wsX7_link RX7 D y A0) (hr : meth.sig.returnType = (some .boolean)) {out : Int32 × Int64 × (Nat → Int32) × (Nat → Int32)} {N : Nat}  (nx181 : Int32 → Int32 → Int64 → (Nat → Int32) → (Nat → Int32) → Option (Int32 × Int64 × (Nat → Int32) × (Nat → Int32))) (hn181 : ∀ (x1 : Int32) (x2 : Int32) (j1' : Int64) (a35' : Nat → Int32) (a36' : Nat → Int32) (ls : Array Slot) (H : Heap) (locs : List Loc), nx181 x1 x2 j1' a35' a36' = some out → MM D y nn ad A0 s.heap I (va_up J 1 j1') (va_up (va_up A 35 a35') 36 a36') B G H locs → lv_has ls 6 [(0, .ref (ad 7)), (1, .int x1), (2, .int x2)] → W p l e ({ frames := 4, cells := 0, slots := 0, locals := 92 } : Room) s m args below meth c H locs 0 0 (MQ below (mQi D y nn ad A0 out.1 (I, (va_up J 1 out.2.1), (va_up (va_up A 35 out.2.2.1) 36 out.2.2.2), B, G)) args s 0 0 A0) (F0 m 181 ls [])) : ∀ (x1 : Int32) (x2 : Int32) (j1' : Int64) (a35' : Nat → Int32) (a36' : Nat → Int32) (ls : Array Slot) (H : Heap) (locs : List Loc), f_X7_link_181 N (I 6) (B 54) (B 55)  nx181 x1 x2 j1' a35' a36' = some out → MM D y nn ad A0 s.heap I (va_up J 1 j1') (va_up (va_up A 35 a35') 36 a36') B G H locs → lv_has ls 6 [(0, .ref (ad 7)), (1, .int x1), (2, .int x2)] → W p l e ({ frames := 4, cells := 0, slots := 0, locals := 92 } : Room) s m args below meth c H locs 0 0 (MQ below (mQi D y nn ad A0 out.1 (I, (va_up J 1 out.2.1), (va_up (va_up A 35 out.2.2.1) 36 out.2.2.2), B, G)) args s 0 0 A0) (F0 m 181 ls []) := by
  intro x1 x2 j1' a35' a36' ls H locs hE hM hl
  have hx := F.1.1
  have hb := F.1.2.1
  unfold f_X7_link_181 at hE
  refine lv_iload_n hx hb dX7_link_181 rfl (lv_at hl 2 rfl) ?_
  refine lv_iconst (v := 2) hx hb dX7_link_182 (by decide) ?_
  refine lv_icmp_ge (tgt := 265) hx hb dX7_link_183 (by decide) (fun c183 => ?_) (fun c183 => ?_)
  · replace hE := (if_pos c183).symm.trans hE
    refine lv_iconst (v := 0) hx hb dX7_link_265 (by decide) ?_
    refine lv_istore_n (lv' := [(2, .int (0 : Int32)), (0, .ref (ad 7)), (1, .int x1)]) hx hb dX7_link_266 rfl hl (by decide) rfl (fun ls hl => ?_)
    exact k_X7_link_267 F hr (N := N)  N (0 : Int32) j1' a35' a36' ls H locs hE hM (lv_sub hl [1, 0] rfl)
  · replace hE := (if_neg c183).symm.trans hE
    refine lv_iconst (v := 0) hx hb dX7_link_186 (by decide) ?_
    refine lv_istore_n (lv' := [(3, .int (0 : Int32)), (0, .ref (ad 7)), (1, .int x1), (2, .int x2)]) hx hb dX7_link_187 rfl hl (by decide) rfl (fun ls hl => ?_)
    refine lv_iconst (v := 1) hx hb dX7_link_188 (by decide) ?_
    refine lv_istore (lv' := [(4, .int (1 : Int32)), (3, .int (0 : Int32)), (0, .ref (ad 7)), (1, .int x1), (2, .int x2)]) hx hb dX7_link_189 hl (by decide) rfl (fun ls hl => ?_)
    exact k_X7_link_191 F hr (N := N) nx181 hn181 N x1 x2 (0 : Int32) (1 : Int32) j1' a35' a36' ls H locs hE hM (lv_sub hl [2, 3, 4, 1, 0] rfl)
theorem k_X7_link_181 {p : Program} {l : Launch} {e : Env} {s : State} {m : MethodId} {args : Array Value} {below : List Frame} {meth : Method} {c : Code} {D : va_G} {y : Nat → ClassId} {nn : Nat} {ad : Nat → Nat} {A0 : Nat → Prop} {I : Nat → Int32} {J : Nat → Int64} {A : Nat → Nat → Int32} {B : Nat → Nat → Int64} {G : Nat → Nat → Nat → Int32} (F : Fx p s m args meth c cX7_link 6 wsX7_link RX7 D y A0) (hr : meth.sig.returnType = (some .boolean)) {out : Int32 × Int64 × (Nat → Int32) × (Nat → Int32)} {N : Nat}  : ∀ (n : Nat), ∀ (x1 : Int32) (x2 : Int32) (j1' : Int64) (a35' : Nat → Int32) (a36' : Nat → Int32) (ls : Array Slot) (H : Heap) (locs : List Loc), lq5 (f_X7_link_181 N (I 6) (B 54) (B 55) ) n x1 x2 j1' a35' a36' = some out → MM D y nn ad A0 s.heap I (va_up J 1 j1') (va_up (va_up A 35 a35') 36 a36') B G H locs → lv_has ls 6 [(0, .ref (ad 7)), (1, .int x1), (2, .int x2)] → W p l e ({ frames := 4, cells := 0, slots := 0, locals := 92 } : Room) s m args below meth c H locs 0 0 (MQ below (mQi D y nn ad A0 out.1 (I, (va_up J 1 out.2.1), (va_up (va_up A 35 out.2.2.1) 36 out.2.2.2), B, G)) args s 0 0 A0) (F0 m 181 ls []) := by
  intro n
  induction n with
  | zero =>
    intro x1 x2 j1' a35' a36' ls H locs hE
    cases (show (none : Option _) = some out from hE)
  | succ n ih =>
    intro x1 x2 j1' a35' a36' ls H locs hE hM hl
    exact s_X7_link_181 F hr (N := N)  (lq5 (f_X7_link_181 N (I 6) (B 54) (B 55) ) n) ih x1 x2 j1' a35' a36' ls H locs hE hM hl
set_option maxHeartbeats 4000000 in
set_option maxRecDepth 100000 in
theorem s_X7_link_73 {p : Program} {l : Launch} {e : Env} {s : State} {m : MethodId} {args : Array Value} {below : List Frame} {meth : Method} {c : Code} {D : va_G} {y : Nat → ClassId} {nn : Nat} {ad : Nat → Nat} {A0 : Nat → Prop} {I : Nat → Int32} {J : Nat → Int64} {A : Nat → Nat → Int32} {B : Nat → Nat → Int64} {G : Nat → Nat → Nat → Int32} (F : Fx p s m args meth c cX7_link 6 wsX7_link RX7 D y A0) (hr : meth.sig.returnType = (some .boolean)) {out : Int32 × Int64 × (Nat → Int32) × (Nat → Int32)} {N : Nat} (nx46 : Int32 → Int64 → (Nat → Int32) → (Nat → Int32) → Option (Int32 × Int64 × (Nat → Int32) × (Nat → Int32))) (hn46 : ∀ (x1 : Int32) (j1' : Int64) (a35' : Nat → Int32) (a36' : Nat → Int32) (ls : Array Slot) (H : Heap) (locs : List Loc), nx46 x1 j1' a35' a36' = some out → MM D y nn ad A0 s.heap I (va_up J 1 j1') (va_up (va_up A 35 a35') 36 a36') B G H locs → lv_has ls 6 [(0, .ref (ad 7)), (1, .int x1)] → W p l e ({ frames := 4, cells := 0, slots := 0, locals := 92 } : Room) s m args below meth c H locs 0 0 (MQ below (mQi D y nn ad A0 out.1 (I, (va_up J 1 out.2.1), (va_up (va_up A 35 out.2.2.1) 36 out.2.2.2), B, G)) args s 0 0 A0) (F0 m 46 ls [])) (nx61 : Int32 → Int32 → Int32 → Int32 → Int64 → (Nat → Int32) → (Nat → Int32) → Option (Int32 × Int64 × (Nat → Int32) × (Nat → Int32))) (hn61 : ∀ (x1 : Int32) (x2 : Int32) (x3 : Int32) (x4 : Int32) (j1' : Int64) (a35' : Nat → Int32) (a36' : Nat → Int32) (ls : Array Slot) (H : Heap) (locs : List Loc), nx61 x1 x2 x3 x4 j1' a35' a36' = some out → MM D y nn ad A0 s.heap I (va_up J 1 j1') (va_up (va_up A 35 a35') 36 a36') B G H locs → lv_has ls 6 [(0, .ref (ad 7)), (1, .int x1), (2, .int x2), (3, .int x3), (4, .int x4)] → W p l e ({ frames := 4, cells := 0, slots := 0, locals := 92 } : Room) s m args below meth c H locs 0 0 (MQ below (mQi D y nn ad A0 out.1 (I, (va_up J 1 out.2.1), (va_up (va_up A 35 out.2.2.1) 36 out.2.2.2), B, G)) args s 0 0 A0) (F0 m 61 ls [])) (nx73 : Int32 → Int32 → Int32 → Int32 → Int32 → Int64 → (Nat → Int32) → (Nat → Int32) → Option (Int32 × Int64 × (Nat → Int32) × (Nat → Int32))) (hn73 : ∀ (x1 : Int32) (x2 : Int32) (x3 : Int32) (x4 : Int32) (x5 : Int32) (j1' : Int64) (a35' : Nat → Int32) (a36' : Nat → Int32) (ls : Array Slot) (H : Heap) (locs : List Loc), nx73 x1 x2 x3 x4 x5 j1' a35' a36' = some out → MM D y nn ad A0 s.heap I (va_up J 1 j1') (va_up (va_up A 35 a35') 36 a36') B G H locs → lv_has ls 6 [(0, .ref (ad 7)), (1, .int x1), (2, .int x2), (3, .int x3), (4, .int x4), (5, .int x5)] → W p l e ({ frames := 4, cells := 0, slots := 0, locals := 92 } : Room) s m args below meth c H locs 0 0 (MQ below (mQi D y nn ad A0 out.1 (I, (va_up J 1 out.2.1), (va_up (va_up A 35 out.2.2.1) 36 out.2.2.2), B, G)) args s 0 0 A0) (F0 m 73 ls [])) : ∀ (x1 : Int32) (x2 : Int32) (x3 : Int32) (x4 : Int32) (x5 : Int32) (j1' : Int64) (a35' : Nat → Int32) (a36' : Nat → Int32) (ls : Array Slot) (H : Heap) (locs : List Loc), f_X7_link_73 N (I 6) (B 54) (B 55) nx46 nx61 nx73 x1 x2 x3 x4 x5 j1' a35' a36' = some out → MM D y nn ad A0 s.heap I (va_up J 1 j1') (va_up (va_up A 35 a35') 36 a36') B G H locs → lv_has ls 6 [(0, .ref (ad 7)), (1, .int x1), (2, .int x2), (3, .int x3), (4, .int x4), (5, .int x5)] → W p l e ({ frames := 4, cells := 0, slots := 0, locals := 92 } : Room) s m args below meth c H locs 0 0 (MQ below (mQi D y nn ad A0 out.1 (I, (va_up J 1 out.2.1), (va_up (va_up A 35 out.2.2.1) 36 out.2.2.2), B, G)) args s 0 0 A0) (F0 m 73 ls []) := by
  intro x1 x2 x3 x4 x5 j1' a35' a36' ls H locs hE hM hl
  have hx := F.1.1
  have hb := F.1.2.1
  unfold f_X7_link_73 at hE
  refine lv_iload hx hb dX7_link_73 (lv_at hl 5 rfl) ?_
  refine lv_aload_n hx hb dX7_link_75 rfl (lv_at hl 0 rfl) ?_
  refine m_get F hM 7 mg_7 rfl 1 (by decide) (by decide +kernel) (by decide +kernel) (v := .int (I 6)) rfl dX7_link_76 ?_
  refine lv_icmp_ge (tgt := 146) hx hb dX7_link_79 (by decide) (fun c79 => ?_) (fun c79 => ?_)
  · replace hE := (if_pos c79).symm.trans hE
    refine lv_iinc (v := x4 + (1 : Int32)) (lv' := [(4, .int (x4 + (1 : Int32))), (0, .ref (ad 7)), (1, .int x1), (2, .int x2), (3, .int x3), (5, .int x5)]) hx hb dX7_link_146 hl (k := 4) rfl rfl (by decide) rfl (fun ls hl => ?_)
    refine lv_goto (tgt := 61) hx hb dX7_link_149 (by decide) ?_
    exact hn61 x1 x2 x3 (x4 + (1 : Int32)) j1' a35' a36' ls H locs hE hM (lv_sub hl [1, 2, 3, 4, 0] rfl)
  · replace hE := (if_neg c79).symm.trans hE
    refine lv_aload_n hx hb dX7_link_82 rfl (lv_at hl 0 rfl) ?_
    refine m_get F hM 7 mg_7 rfl 8 (by decide) (by decide +kernel) (by decide +kernel) (v := .ref (ad 36)) rfl dX7_link_83 ?_
    refine lv_iload hx hb dX7_link_86 (lv_at hl 4 rfl) ?_
    obtain ⟨hi88_8, hE⟩ := ck_some hE
    refine m_zald (g := a36') F hM mg_36 rfl hi88_8 dX7_link_88 ?_
    refine lv_if_eq (tgt := 140) hx hb dX7_link_89 (by decide) (fun c89 => ?_) (fun c89 => ?_)
    · replace hE := (if_pos c89).symm.trans hE
      refine lv_iinc (v := x5 + (1 : Int32)) (lv' := [(5, .int (x5 + (1 : Int32))), (0, .ref (ad 7)), (1, .int x1), (2, .int x2), (3, .int x3), (4, .int x4)]) hx hb dX7_link_140 hl (k := 5) rfl rfl (by decide) rfl (fun ls hl => ?_)
      refine lv_goto (tgt := 73) hx hb dX7_link_143 (by decide) ?_
      exact hn73 x1 x2 x3 x4 (x5 + (1 : Int32)) j1' a35' a36' ls H locs hE hM (lv_sub hl [1, 2, 3, 4, 5, 0] rfl)
    · replace hE := (if_neg c89).symm.trans hE
      refine lv_aload_n hx hb dX7_link_92 rfl (lv_at hl 0 rfl) ?_
      refine m_get F hM 7 mg_7 rfl 8 (by decide) (by decide +kernel) (by decide +kernel) (v := .ref (ad 36)) rfl dX7_link_93 ?_
      refine lv_iload hx hb dX7_link_96 (lv_at hl 5 rfl) ?_
      obtain ⟨hi98_9, hE⟩ := ck_some hE
      refine m_zald (g := a36') F hM mg_36 rfl hi98_9 dX7_link_98 ?_
      refine lv_if_ne (tgt := 140) hx hb dX7_link_99 (by decide) (fun c99 => ?_) (fun c99 => ?_)
      · replace hE := (if_neg c99).symm.trans hE
        refine lv_iinc (v := x5 + (1 : Int32)) (lv' := [(5, .int (x5 + (1 : Int32))), (0, .ref (ad 7)), (1, .int x1), (2, .int x2), (3, .int x3), (4, .int x4)]) hx hb dX7_link_140 hl (k := 5) rfl rfl (by decide) rfl (fun ls hl => ?_)
        refine lv_goto (tgt := 73) hx hb dX7_link_143 (by decide) ?_
        exact hn73 x1 x2 x3 x4 (x5 + (1 : Int32)) j1' a35' a36' ls H locs hE hM (lv_sub hl [1, 2, 3, 4, 5, 0] rfl)
      · replace hE := (if_pos c99).symm.trans hE
        refine lv_aload_n hx hb dX7_link_102 rfl (lv_at hl 0 rfl) ?_
        refine lv_iload hx hb dX7_link_103 (lv_at hl 4 rfl) ?_
        refine lv_iload hx hb dX7_link_105 (lv_at hl 5 rfl) ?_
        obtain ⟨o107_10, ho107_10, hE⟩ := bd_some hE
        refine m_callVl (As := [.int x4, .int x5]) (I2 := I) (J2 := (va_up J 1 j1')) (A2 := (va_up (va_up A 35 a35') 36 a36')) (B2 := B) (G2 := G) F hM (c_X7_length l D y nn ad H.size I (va_up J 1 j1') (va_up (va_up A 35 a35') 36 a36') B G x4 x5  o107_10 ho107_10) (cwV 2 F.1.2.2.2.2 gX7_link_X7_length rfl rfl rfl (by decide +kernel) ⟨Nat.le_of_ble_eq_true rfl, Nat.le_of_ble_eq_true rfl⟩) (m_recv F hM mg_7 rfl) rfl hl.1 (Nat.le_of_ble_eq_true rfl) dX7_link_107 ⟨Nat.le_refl 0, Nat.le_refl 0⟩ rfl rfl rfl rfl rfl (fun H locs hM => ?_)
        refine lv_ldc2 (v := (1000000000000)) hx hb F.1.2.2.2.1 (F.1.2.2.2.2 (.constantLong RX7 52 (1000000000000)) (by decide +kernel)) dX7_link_110 ?_
        refine m_lge (tgt := 140) F dX7_link_113 dX7_link_114 (by decide) (fun c114 => ?_) (fun c114 => ?_)
        · replace hE := (if_pos c114).symm.trans hE
          refine lv_iinc (v := x5 + (1 : Int32)) (lv' := [(5, .int (x5 + (1 : Int32))), (0, .ref (ad 7)), (1, .int x1), (2, .int x2), (3, .int x3), (4, .int x4)]) hx hb dX7_link_140 hl (k := 5) rfl rfl (by decide) rfl (fun ls hl => ?_)
          refine lv_goto (tgt := 73) hx hb dX7_link_143 (by decide) ?_
          exact hn73 x1 x2 x3 x4 (x5 + (1 : Int32)) j1' a35' a36' ls H locs hE hM (lv_sub hl [1, 2, 3, 4, 5, 0] rfl)
        · replace hE := (if_neg c114).symm.trans hE
          refine lv_iload_n hx hb dX7_link_117 rfl (lv_at hl 3 rfl) ?_
          refine lv_if_eq (tgt := 134) hx hb dX7_link_118 (by decide) (fun c118 => ?_) (fun c118 => ?_)
          · replace hE := (if_pos c118).symm.trans hE
            refine lv_iload hx hb dX7_link_134 (lv_at hl 4 rfl) ?_
            refine lv_istore_n (lv' := [(2, .int x4), (0, .ref (ad 7)), (1, .int x1), (3, .int x3), (4, .int x4), (5, .int x5)]) hx hb dX7_link_136 rfl hl (by decide) rfl (fun ls hl => ?_)
            refine lv_iload hx hb dX7_link_137 (lv_at hl 5 rfl) ?_
            refine lv_istore_n (lv' := [(3, .int x5), (2, .int x4), (0, .ref (ad 7)), (1, .int x1), (4, .int x4), (5, .int x5)]) hx hb dX7_link_139 rfl hl (by decide) rfl (fun ls hl => ?_)
            refine lv_iinc (v := x5 + (1 : Int32)) (lv' := [(5, .int (x5 + (1 : Int32))), (3, .int x5), (2, .int x4), (0, .ref (ad 7)), (1, .int x1), (4, .int x4)]) hx hb dX7_link_140 hl (k := 5) rfl rfl (by decide) rfl (fun ls hl => ?_)
            refine lv_goto (tgt := 73) hx hb dX7_link_143 (by decide) ?_
            exact hn73 x1 x4 x5 x4 (x5 + (1 : Int32)) j1' a35' a36' ls H locs hE hM (lv_sub hl [3, 4, 2, 1, 5, 0] rfl)
          · replace hE := (if_neg c118).symm.trans hE
            refine lv_aload_n hx hb dX7_link_121 rfl (lv_at hl 0 rfl) ?_
            refine lv_iload hx hb dX7_link_122 (lv_at hl 4 rfl) ?_
            refine lv_iload hx hb dX7_link_124 (lv_at hl 5 rfl) ?_
            refine lv_iload_n hx hb dX7_link_126 rfl (lv_at hl 2 rfl) ?_
            refine lv_iload_n hx hb dX7_link_127 rfl (lv_at hl 3 rfl) ?_
            obtain ⟨o128_11, ho128_11, hE⟩ := bd_some hE
            refine m_callVi (As := [.int x4, .int x5, .int x2, .int x3]) (I2 := I) (J2 := (va_up J 1 j1')) (A2 := (va_up (va_up A 35 a35') 36 a36')) (B2 := B) (G2 := G) F hM (c_X7_isBefore l D y nn ad H.size I (va_up J 1 j1') (va_up (va_up A 35 a35') 36 a36') B G x4 x5 x2 x3  o128_11 ho128_11) (cwV 4 F.1.2.2.2.2 gX7_link_X7_isBefore rfl rfl rfl (by decide +kernel) ⟨Nat.le_of_ble_eq_true rfl, Nat.le_of_ble_eq_true rfl⟩) (m_recv F hM mg_7 rfl) rfl hl.1 (Nat.le_of_ble_eq_true rfl) dX7_link_128 ⟨Nat.le_refl 0, Nat.le_refl 0⟩ rfl rfl rfl rfl rfl (fun H locs hM => ?_)
            refine lv_if_eq (tgt := 140) hx hb dX7_link_131 (by decide) (fun c131 => ?_) (fun c131 => ?_)
            · replace hE := (if_pos c131).symm.trans hE
              refine lv_iinc (v := x5 + (1 : Int32)) (lv' := [(5, .int (x5 + (1 : Int32))), (0, .ref (ad 7)), (1, .int x1), (2, .int x2), (3, .int x3), (4, .int x4)]) hx hb dX7_link_140 hl (k := 5) rfl rfl (by decide) rfl (fun ls hl => ?_)
              refine lv_goto (tgt := 73) hx hb dX7_link_143 (by decide) ?_
              exact hn73 x1 x2 x3 x4 (x5 + (1 : Int32)) j1' a35' a36' ls H locs hE hM (lv_sub hl [1, 2, 3, 4, 5, 0] rfl)
            · replace hE := (if_neg c131).symm.trans hE
              refine lv_iload hx hb dX7_link_134 (lv_at hl 4 rfl) ?_
              refine lv_istore_n (lv' := [(2, .int x4), (0, .ref (ad 7)), (1, .int x1), (3, .int x3), (4, .int x4), (5, .int x5)]) hx hb dX7_link_136 rfl hl (by decide) rfl (fun ls hl => ?_)
              refine lv_iload hx hb dX7_link_137 (lv_at hl 5 rfl) ?_
              refine lv_istore_n (lv' := [(3, .int x5), (2, .int x4), (0, .ref (ad 7)), (1, .int x1), (4, .int x4), (5, .int x5)]) hx hb dX7_link_139 rfl hl (by decide) rfl (fun ls hl => ?_)
              refine lv_iinc (v := x5 + (1 : Int32)) (lv' := [(5, .int (x5 + (1 : Int32))), (3, .int x5), (2, .int x4), (0, .ref (ad 7)), (1, .int x1), (4, .int x4)]) hx hb dX7_link_140 hl (k := 5) rfl rfl (by decide) rfl (fun ls hl => ?_)
              refine lv_goto (tgt := 73) hx hb dX7_link_143 (by decide) ?_
              exact hn73 x1 x4 x5 x4 (x5 + (1 : Int32)) j1' a35' a36' ls H locs hE hM (lv_sub hl [3, 4, 2, 1, 5, 0] rfl)
theorem k_X7_link_73 {p : Program} {l : Launch} {e : Env} {s : State} {m : MethodId} {args : Array Value} {below : List Frame} {meth : Method} {c : Code} {D : va_G} {y : Nat → ClassId} {nn : Nat} {ad : Nat → Nat} {A0 : Nat → Prop} {I : Nat → Int32} {J : Nat → Int64} {A : Nat → Nat → Int32} {B : Nat → Nat → Int64} {G : Nat → Nat → Nat → Int32} (F : Fx p s m args meth c cX7_link 6 wsX7_link RX7 D y A0) (hr : meth.sig.returnType = (some .boolean)) {out : Int32 × Int64 × (Nat → Int32) × (Nat → Int32)} {N : Nat} (nx46 : Int32 → Int64 → (Nat → Int32) → (Nat → Int32) → Option (Int32 × Int64 × (Nat → Int32) × (Nat → Int32))) (hn46 : ∀ (x1 : Int32) (j1' : Int64) (a35' : Nat → Int32) (a36' : Nat → Int32) (ls : Array Slot) (H : Heap) (locs : List Loc), nx46 x1 j1' a35' a36' = some out → MM D y nn ad A0 s.heap I (va_up J 1 j1') (va_up (va_up A 35 a35') 36 a36') B G H locs → lv_has ls 6 [(0, .ref (ad 7)), (1, .int x1)] → W p l e ({ frames := 4, cells := 0, slots := 0, locals := 92 } : Room) s m args below meth c H locs 0 0 (MQ below (mQi D y nn ad A0 out.1 (I, (va_up J 1 out.2.1), (va_up (va_up A 35 out.2.2.1) 36 out.2.2.2), B, G)) args s 0 0 A0) (F0 m 46 ls [])) (nx61 : Int32 → Int32 → Int32 → Int32 → Int64 → (Nat → Int32) → (Nat → Int32) → Option (Int32 × Int64 × (Nat → Int32) × (Nat → Int32))) (hn61 : ∀ (x1 : Int32) (x2 : Int32) (x3 : Int32) (x4 : Int32) (j1' : Int64) (a35' : Nat → Int32) (a36' : Nat → Int32) (ls : Array Slot) (H : Heap) (locs : List Loc), nx61 x1 x2 x3 x4 j1' a35' a36' = some out → MM D y nn ad A0 s.heap I (va_up J 1 j1') (va_up (va_up A 35 a35') 36 a36') B G H locs → lv_has ls 6 [(0, .ref (ad 7)), (1, .int x1), (2, .int x2), (3, .int x3), (4, .int x4)] → W p l e ({ frames := 4, cells := 0, slots := 0, locals := 92 } : Room) s m args below meth c H locs 0 0 (MQ below (mQi D y nn ad A0 out.1 (I, (va_up J 1 out.2.1), (va_up (va_up A 35 out.2.2.1) 36 out.2.2.2), B, G)) args s 0 0 A0) (F0 m 61 ls [])) : ∀ (n : Nat), ∀ (x1 : Int32) (x2 : Int32) (x3 : Int32) (x4 : Int32) (x5 : Int32) (j1' : Int64) (a35' : Nat → Int32) (a36' : Nat → Int32) (ls : Array Slot) (H : Heap) (locs : List Loc), lq8 (f_X7_link_73 N (I 6) (B 54) (B 55) nx46 nx61) n x1 x2 x3 x4 x5 j1' a35' a36' = some out → MM D y nn ad A0 s.heap I (va_up J 1 j1') (va_up (va_up A 35 a35') 36 a36') B G H locs → lv_has ls 6 [(0, .ref (ad 7)), (1, .int x1), (2, .int x2), (3, .int x3), (4, .int x4), (5, .int x5)] → W p l e ({ frames := 4, cells := 0, slots := 0, locals := 92 } : Room) s m args below meth c H locs 0 0 (MQ below (mQi D y nn ad A0 out.1 (I, (va_up J 1 out.2.1), (va_up (va_up A 35 out.2.2.1) 36 out.2.2.2), B, G)) args s 0 0 A0) (F0 m 73 ls []) := by
  intro n
  induction n with
  | zero =>
    intro x1 x2 x3 x4 x5 j1' a35' a36' ls H locs hE
    cases (show (none : Option _) = some out from hE)
  | succ n ih =>
    intro x1 x2 x3 x4 x5 j1' a35' a36' ls H locs hE hM hl
    exact s_X7_link_73 F hr (N := N) nx46 hn46 nx61 hn61 (lq8 (f_X7_link_73 N (I 6) (B 54) (B 55) nx46 nx61) n) ih x1 x2 x3 x4 x5 j1' a35' a36' ls H locs hE hM hl
set_option maxHeartbeats 4000000 in
set_option maxRecDepth 100000 in
theorem s_X7_link_61 {p : Program} {l : Launch} {e : Env} {s : State} {m : MethodId} {args : Array Value} {below : List Frame} {meth : Method} {c : Code} {D : va_G} {y : Nat → ClassId} {nn : Nat} {ad : Nat → Nat} {A0 : Nat → Prop} {I : Nat → Int32} {J : Nat → Int64} {A : Nat → Nat → Int32} {B : Nat → Nat → Int64} {G : Nat → Nat → Nat → Int32} (F : Fx p s m args meth c cX7_link 6 wsX7_link RX7 D y A0) (hr : meth.sig.returnType = (some .boolean)) {out : Int32 × Int64 × (Nat → Int32) × (Nat → Int32)} {N : Nat} (nx46 : Int32 → Int64 → (Nat → Int32) → (Nat → Int32) → Option (Int32 × Int64 × (Nat → Int32) × (Nat → Int32))) (hn46 : ∀ (x1 : Int32) (j1' : Int64) (a35' : Nat → Int32) (a36' : Nat → Int32) (ls : Array Slot) (H : Heap) (locs : List Loc), nx46 x1 j1' a35' a36' = some out → MM D y nn ad A0 s.heap I (va_up J 1 j1') (va_up (va_up A 35 a35') 36 a36') B G H locs → lv_has ls 6 [(0, .ref (ad 7)), (1, .int x1)] → W p l e ({ frames := 4, cells := 0, slots := 0, locals := 92 } : Room) s m args below meth c H locs 0 0 (MQ below (mQi D y nn ad A0 out.1 (I, (va_up J 1 out.2.1), (va_up (va_up A 35 out.2.2.1) 36 out.2.2.2), B, G)) args s 0 0 A0) (F0 m 46 ls [])) (nx61 : Int32 → Int32 → Int32 → Int32 → Int64 → (Nat → Int32) → (Nat → Int32) → Option (Int32 × Int64 × (Nat → Int32) × (Nat → Int32))) (hn61 : ∀ (x1 : Int32) (x2 : Int32) (x3 : Int32) (x4 : Int32) (j1' : Int64) (a35' : Nat → Int32) (a36' : Nat → Int32) (ls : Array Slot) (H : Heap) (locs : List Loc), nx61 x1 x2 x3 x4 j1' a35' a36' = some out → MM D y nn ad A0 s.heap I (va_up J 1 j1') (va_up (va_up A 35 a35') 36 a36') B G H locs → lv_has ls 6 [(0, .ref (ad 7)), (1, .int x1), (2, .int x2), (3, .int x3), (4, .int x4)] → W p l e ({ frames := 4, cells := 0, slots := 0, locals := 92 } : Room) s m args below meth c H locs 0 0 (MQ below (mQi D y nn ad A0 out.1 (I, (va_up J 1 out.2.1), (va_up (va_up A 35 out.2.2.1) 36 out.2.2.2), B, G)) args s 0 0 A0) (F0 m 61 ls [])) : ∀ (x1 : Int32) (x2 : Int32) (x3 : Int32) (x4 : Int32) (j1' : Int64) (a35' : Nat → Int32) (a36' : Nat → Int32) (ls : Array Slot) (H : Heap) (locs : List Loc), f_X7_link_61 N (I 6) (B 54) (B 55) nx46 nx61 x1 x2 x3 x4 j1' a35' a36' = some out → MM D y nn ad A0 s.heap I (va_up J 1 j1') (va_up (va_up A 35 a35') 36 a36') B G H locs → lv_has ls 6 [(0, .ref (ad 7)), (1, .int x1), (2, .int x2), (3, .int x3), (4, .int x4)] → W p l e ({ frames := 4, cells := 0, slots := 0, locals := 92 } : Room) s m args below meth c H locs 0 0 (MQ below (mQi D y nn ad A0 out.1 (I, (va_up J 1 out.2.1), (va_up (va_up A 35 out.2.2.1) 36 out.2.2.2), B, G)) args s 0 0 A0) (F0 m 61 ls []) := by
  intro x1 x2 x3 x4 j1' a35' a36' ls H locs hE hM hl
  have hx := F.1.1
  have hb := F.1.2.1
  unfold f_X7_link_61 at hE
  refine lv_iload hx hb dX7_link_61 (lv_at hl 4 rfl) ?_
  refine lv_aload_n hx hb dX7_link_63 rfl (lv_at hl 0 rfl) ?_
  refine m_get F hM 7 mg_7 rfl 1 (by decide) (by decide +kernel) (by decide +kernel) (v := .int (I 6)) rfl dX7_link_64 ?_
  refine lv_icmp_ge (tgt := 152) hx hb dX7_link_67 (by decide) (fun c67 => ?_) (fun c67 => ?_)
  · replace hE := (if_pos c67).symm.trans hE
    refine lv_iload_n hx hb dX7_link_152 rfl (lv_at hl 3 rfl) ?_
    refine lv_if_ne (tgt := 158) hx hb dX7_link_153 (by decide) (fun c153 => ?_) (fun c153 => ?_)
    · replace hE := (if_neg c153).symm.trans hE
      refine lv_aload_n hx hb dX7_link_158 rfl (lv_at hl 0 rfl) ?_
      refine m_get F hM 7 mg_7 rfl 8 (by decide) (by decide +kernel) (by decide +kernel) (v := .ref (ad 36)) rfl dX7_link_159 ?_
      refine lv_iload_n hx hb dX7_link_162 rfl (lv_at hl 3 rfl) ?_
      refine lv_iconst (v := 1) hx hb dX7_link_163 (by decide) ?_
      obtain ⟨hi164_5, hE⟩ := ck_some hE
      obtain ⟨w164_6, ew164_6, hE⟩ := nmd_some hE
      refine m_zast (f := a36') (A' := (va_up (va_up A 35 a35') 36 w164_6)) F hM mg_36 ms_36 (by rw [ew164_6]; exact un_35_36__36) hi164_5 dX7_link_164 (fun H locs hM => ?_)
      refine lv_aload_n hx hb dX7_link_165 rfl (lv_at hl 0 rfl) ?_
      refine lv_iload_n hx hb dX7_link_166 rfl (lv_at hl 2 rfl) ?_
      refine lv_iload_n hx hb dX7_link_167 rfl (lv_at hl 3 rfl) ?_
      obtain ⟨o168_7, ho168_7, hE⟩ := bd_some hE
      refine m_callVv (As := [.int x2, .int x3]) (I2 := I) (J2 := (va_up J 1 o168_7.1)) (A2 := (va_up (va_up A 35 o168_7.2) 36 w164_6)) (B2 := B) (G2 := G) F hM (c_X7_take l D y nn ad H.size I (va_up J 1 j1') (va_up (va_up A 35 a35') 36 w164_6) B G x2 x3  o168_7 ho168_7) (cwV 2 F.1.2.2.2.2 gX7_link_X7_take rfl rfl rfl (by decide +kernel) ⟨Nat.le_of_ble_eq_true rfl, Nat.le_of_ble_eq_true rfl⟩) (m_recv F hM mg_7 rfl) rfl hl.1 (Nat.le_of_ble_eq_true rfl) dX7_link_168 ⟨Nat.le_refl 0, Nat.le_refl 0⟩ rfl (bx_uu _ _ _ _) un_35_36__35 rfl rfl (fun H locs hM => ?_)
      refine lv_iinc (v := x1 + (1 : Int32)) (lv' := [(1, .int (x1 + (1 : Int32))), (0, .ref (ad 7)), (2, .int x2), (3, .int x3), (4, .int x4)]) hx hb dX7_link_171 hl (k := 1) rfl rfl (by decide) rfl (fun ls hl => ?_)
      refine lv_goto (tgt := 46) hx hb dX7_link_174 (by decide) ?_
      exact hn46 (x1 + (1 : Int32)) o168_7.1 o168_7.2 w164_6 ls H locs hE hM (lv_sub hl [1, 0] rfl)
    · replace hE := (if_pos c153).symm.trans hE
      refine lv_iconst (v := 0) hx hb dX7_link_156 (by decide) ?_
      obtain ⟨hz, hE⟩ := bz_some hE
      obtain rfl := Option.some.inj hE
      exact m_zret F hM hr hz rfl rfl dX7_link_157
  · replace hE := (if_neg c67).symm.trans hE
    refine lv_iconst (v := 1) hx hb dX7_link_70 (by decide) ?_
    refine lv_istore (lv' := [(5, .int (1 : Int32)), (0, .ref (ad 7)), (1, .int x1), (2, .int x2), (3, .int x3), (4, .int x4)]) hx hb dX7_link_71 hl (by decide) rfl (fun ls hl => ?_)
    exact k_X7_link_73 F hr (N := N) nx46 hn46 nx61 hn61 N x1 x2 x3 x4 (1 : Int32) j1' a35' a36' ls H locs hE hM (lv_sub hl [1, 2, 3, 4, 5, 0] rfl)
theorem k_X7_link_61 {p : Program} {l : Launch} {e : Env} {s : State} {m : MethodId} {args : Array Value} {below : List Frame} {meth : Method} {c : Code} {D : va_G} {y : Nat → ClassId} {nn : Nat} {ad : Nat → Nat} {A0 : Nat → Prop} {I : Nat → Int32} {J : Nat → Int64} {A : Nat → Nat → Int32} {B : Nat → Nat → Int64} {G : Nat → Nat → Nat → Int32} (F : Fx p s m args meth c cX7_link 6 wsX7_link RX7 D y A0) (hr : meth.sig.returnType = (some .boolean)) {out : Int32 × Int64 × (Nat → Int32) × (Nat → Int32)} {N : Nat} (nx46 : Int32 → Int64 → (Nat → Int32) → (Nat → Int32) → Option (Int32 × Int64 × (Nat → Int32) × (Nat → Int32))) (hn46 : ∀ (x1 : Int32) (j1' : Int64) (a35' : Nat → Int32) (a36' : Nat → Int32) (ls : Array Slot) (H : Heap) (locs : List Loc), nx46 x1 j1' a35' a36' = some out → MM D y nn ad A0 s.heap I (va_up J 1 j1') (va_up (va_up A 35 a35') 36 a36') B G H locs → lv_has ls 6 [(0, .ref (ad 7)), (1, .int x1)] → W p l e ({ frames := 4, cells := 0, slots := 0, locals := 92 } : Room) s m args below meth c H locs 0 0 (MQ below (mQi D y nn ad A0 out.1 (I, (va_up J 1 out.2.1), (va_up (va_up A 35 out.2.2.1) 36 out.2.2.2), B, G)) args s 0 0 A0) (F0 m 46 ls [])) : ∀ (n : Nat), ∀ (x1 : Int32) (x2 : Int32) (x3 : Int32) (x4 : Int32) (j1' : Int64) (a35' : Nat → Int32) (a36' : Nat → Int32) (ls : Array Slot) (H : Heap) (locs : List Loc), lq7 (f_X7_link_61 N (I 6) (B 54) (B 55) nx46) n x1 x2 x3 x4 j1' a35' a36' = some out → MM D y nn ad A0 s.heap I (va_up J 1 j1') (va_up (va_up A 35 a35') 36 a36') B G H locs → lv_has ls 6 [(0, .ref (ad 7)), (1, .int x1), (2, .int x2), (3, .int x3), (4, .int x4)] → W p l e ({ frames := 4, cells := 0, slots := 0, locals := 92 } : Room) s m args below meth c H locs 0 0 (MQ below (mQi D y nn ad A0 out.1 (I, (va_up J 1 out.2.1), (va_up (va_up A 35 out.2.2.1) 36 out.2.2.2), B, G)) args s 0 0 A0) (F0 m 61 ls []) := by
  intro n
  induction n with
  | zero =>
    intro x1 x2 x3 x4 j1' a35' a36' ls H locs hE
    cases (show (none : Option _) = some out from hE)
  | succ n ih =>
    intro x1 x2 x3 x4 j1' a35' a36' ls H locs hE hM hl
    exact s_X7_link_61 F hr (N := N) nx46 hn46 (lq7 (f_X7_link_61 N (I 6) (B 54) (B 55) nx46) n) ih x1 x2 x3 x4 j1' a35' a36' ls H locs hE hM hl
set_option maxHeartbeats 4000000 in
set_option maxRecDepth 100000 in
theorem s_X7_link_46 {p : Program} {l : Launch} {e : Env} {s : State} {m : MethodId} {args : Array Value} {below : List Frame} {meth : Method} {c : Code} {D : va_G} {y : Nat → ClassId} {nn : Nat} {ad : Nat → Nat} {A0 : Nat → Prop} {I : Nat → Int32} {J : Nat → Int64} {A : Nat → Nat → Int32} {B : Nat → Nat → Int64} {G : Nat → Nat → Nat → Int32} (F : Fx p s m args meth c cX7_link 6 wsX7_link RX7 D y A0) (hr : meth.sig.returnType = (some .boolean)) {out : Int32 × Int64 × (Nat → Int32) × (Nat → Int32)} {N : Nat}  (nx46 : Int32 → Int64 → (Nat → Int32) → (Nat → Int32) → Option (Int32 × Int64 × (Nat → Int32) × (Nat → Int32))) (hn46 : ∀ (x1 : Int32) (j1' : Int64) (a35' : Nat → Int32) (a36' : Nat → Int32) (ls : Array Slot) (H : Heap) (locs : List Loc), nx46 x1 j1' a35' a36' = some out → MM D y nn ad A0 s.heap I (va_up J 1 j1') (va_up (va_up A 35 a35') 36 a36') B G H locs → lv_has ls 6 [(0, .ref (ad 7)), (1, .int x1)] → W p l e ({ frames := 4, cells := 0, slots := 0, locals := 92 } : Room) s m args below meth c H locs 0 0 (MQ below (mQi D y nn ad A0 out.1 (I, (va_up J 1 out.2.1), (va_up (va_up A 35 out.2.2.1) 36 out.2.2.2), B, G)) args s 0 0 A0) (F0 m 46 ls [])) : ∀ (x1 : Int32) (j1' : Int64) (a35' : Nat → Int32) (a36' : Nat → Int32) (ls : Array Slot) (H : Heap) (locs : List Loc), f_X7_link_46 N (I 6) (B 54) (B 55)  nx46 x1 j1' a35' a36' = some out → MM D y nn ad A0 s.heap I (va_up J 1 j1') (va_up (va_up A 35 a35') 36 a36') B G H locs → lv_has ls 6 [(0, .ref (ad 7)), (1, .int x1)] → W p l e ({ frames := 4, cells := 0, slots := 0, locals := 92 } : Room) s m args below meth c H locs 0 0 (MQ below (mQi D y nn ad A0 out.1 (I, (va_up J 1 out.2.1), (va_up (va_up A 35 out.2.2.1) 36 out.2.2.2), B, G)) args s 0 0 A0) (F0 m 46 ls []) := by
  intro x1 j1' a35' a36' ls H locs hE hM hl
  have hx := F.1.1
  have hb := F.1.2.1
  unfold f_X7_link_46 at hE
  refine lv_iload_n hx hb dX7_link_46 rfl (lv_at hl 1 rfl) ?_
  refine lv_aload_n hx hb dX7_link_47 rfl (lv_at hl 0 rfl) ?_
  refine m_get F hM 7 mg_7 rfl 1 (by decide) (by decide +kernel) (by decide +kernel) (v := .int (I 6)) rfl dX7_link_48 ?_
  refine lv_icmp_ge (tgt := 177) hx hb dX7_link_51 (by decide) (fun c51 => ?_) (fun c51 => ?_)
  · replace hE := (if_pos c51).symm.trans hE
    refine lv_iconst (v := 0) hx hb dX7_link_177 (by decide) ?_
    refine lv_istore_n (lv' := [(1, .int (0 : Int32)), (0, .ref (ad 7))]) hx hb dX7_link_178 rfl hl (by decide) rfl (fun ls hl => ?_)
    refine lv_iconst (v := 0) hx hb dX7_link_179 (by decide) ?_
    refine lv_istore_n (lv' := [(2, .int (0 : Int32)), (1, .int (0 : Int32)), (0, .ref (ad 7))]) hx hb dX7_link_180 rfl hl (by decide) rfl (fun ls hl => ?_)
    exact k_X7_link_181 F hr (N := N)  N (0 : Int32) (0 : Int32) j1' a35' a36' ls H locs hE hM (lv_sub hl [2, 1, 0] rfl)
  · replace hE := (if_neg c51).symm.trans hE
    refine lv_iconst (v := 0) hx hb dX7_link_54 (by decide) ?_
    refine lv_istore_n (lv' := [(2, .int (0 : Int32)), (0, .ref (ad 7)), (1, .int x1)]) hx hb dX7_link_55 rfl hl (by decide) rfl (fun ls hl => ?_)
    refine lv_iconst (v := 0) hx hb dX7_link_56 (by decide) ?_
    refine lv_istore_n (lv' := [(3, .int (0 : Int32)), (2, .int (0 : Int32)), (0, .ref (ad 7)), (1, .int x1)]) hx hb dX7_link_57 rfl hl (by decide) rfl (fun ls hl => ?_)
    refine lv_iconst (v := 1) hx hb dX7_link_58 (by decide) ?_
    refine lv_istore (lv' := [(4, .int (1 : Int32)), (3, .int (0 : Int32)), (2, .int (0 : Int32)), (0, .ref (ad 7)), (1, .int x1)]) hx hb dX7_link_59 hl (by decide) rfl (fun ls hl => ?_)
    exact k_X7_link_61 F hr (N := N) nx46 hn46 N x1 (0 : Int32) (0 : Int32) (1 : Int32) j1' a35' a36' ls H locs hE hM (lv_sub hl [3, 4, 2, 1, 0] rfl)
theorem k_X7_link_46 {p : Program} {l : Launch} {e : Env} {s : State} {m : MethodId} {args : Array Value} {below : List Frame} {meth : Method} {c : Code} {D : va_G} {y : Nat → ClassId} {nn : Nat} {ad : Nat → Nat} {A0 : Nat → Prop} {I : Nat → Int32} {J : Nat → Int64} {A : Nat → Nat → Int32} {B : Nat → Nat → Int64} {G : Nat → Nat → Nat → Int32} (F : Fx p s m args meth c cX7_link 6 wsX7_link RX7 D y A0) (hr : meth.sig.returnType = (some .boolean)) {out : Int32 × Int64 × (Nat → Int32) × (Nat → Int32)} {N : Nat}  : ∀ (n : Nat), ∀ (x1 : Int32) (j1' : Int64) (a35' : Nat → Int32) (a36' : Nat → Int32) (ls : Array Slot) (H : Heap) (locs : List Loc), lq4 (f_X7_link_46 N (I 6) (B 54) (B 55) ) n x1 j1' a35' a36' = some out → MM D y nn ad A0 s.heap I (va_up J 1 j1') (va_up (va_up A 35 a35') 36 a36') B G H locs → lv_has ls 6 [(0, .ref (ad 7)), (1, .int x1)] → W p l e ({ frames := 4, cells := 0, slots := 0, locals := 92 } : Room) s m args below meth c H locs 0 0 (MQ below (mQi D y nn ad A0 out.1 (I, (va_up J 1 out.2.1), (va_up (va_up A 35 out.2.2.1) 36 out.2.2.2), B, G)) args s 0 0 A0) (F0 m 46 ls []) := by
  intro n
  induction n with
  | zero =>
    intro x1 j1' a35' a36' ls H locs hE
    cases (show (none : Option _) = some out from hE)
  | succ n ih =>
    intro x1 j1' a35' a36' ls H locs hE hM hl
    exact s_X7_link_46 F hr (N := N)  (lq4 (f_X7_link_46 N (I 6) (B 54) (B 55) ) n) ih x1 j1' a35' a36' ls H locs hE hM hl
set_option maxHeartbeats 4000000 in
set_option maxRecDepth 100000 in
theorem s_X7_link_7 {p : Program} {l : Launch} {e : Env} {s : State} {m : MethodId} {args : Array Value} {below : List Frame} {meth : Method} {c : Code} {D : va_G} {y : Nat → ClassId} {nn : Nat} {ad : Nat → Nat} {A0 : Nat → Prop} {I : Nat → Int32} {J : Nat → Int64} {A : Nat → Nat → Int32} {B : Nat → Nat → Int64} {G : Nat → Nat → Nat → Int32} (F : Fx p s m args meth c cX7_link 6 wsX7_link RX7 D y A0) (hr : meth.sig.returnType = (some .boolean)) {out : Int32 × Int64 × (Nat → Int32) × (Nat → Int32)} {N : Nat}  (nx7 : Int32 → Int64 → (Nat → Int32) → (Nat → Int32) → Option (Int32 × Int64 × (Nat → Int32) × (Nat → Int32))) (hn7 : ∀ (x1 : Int32) (j1' : Int64) (a35' : Nat → Int32) (a36' : Nat → Int32) (ls : Array Slot) (H : Heap) (locs : List Loc), nx7 x1 j1' a35' a36' = some out → MM D y nn ad A0 s.heap I (va_up J 1 j1') (va_up (va_up A 35 a35') 36 a36') B G H locs → lv_has ls 6 [(0, .ref (ad 7)), (1, .int x1)] → W p l e ({ frames := 4, cells := 0, slots := 0, locals := 92 } : Room) s m args below meth c H locs 0 0 (MQ below (mQi D y nn ad A0 out.1 (I, (va_up J 1 out.2.1), (va_up (va_up A 35 out.2.2.1) 36 out.2.2.2), B, G)) args s 0 0 A0) (F0 m 7 ls [])) : ∀ (x1 : Int32) (j1' : Int64) (a35' : Nat → Int32) (a36' : Nat → Int32) (ls : Array Slot) (H : Heap) (locs : List Loc), f_X7_link_7 N (I 6) (B 54) (B 55)  nx7 x1 j1' a35' a36' = some out → MM D y nn ad A0 s.heap I (va_up J 1 j1') (va_up (va_up A 35 a35') 36 a36') B G H locs → lv_has ls 6 [(0, .ref (ad 7)), (1, .int x1)] → W p l e ({ frames := 4, cells := 0, slots := 0, locals := 92 } : Room) s m args below meth c H locs 0 0 (MQ below (mQi D y nn ad A0 out.1 (I, (va_up J 1 out.2.1), (va_up (va_up A 35 out.2.2.1) 36 out.2.2.2), B, G)) args s 0 0 A0) (F0 m 7 ls []) := by
  intro x1 j1' a35' a36' ls H locs hE hM hl
  have hx := F.1.1
  have hb := F.1.2.1
  unfold f_X7_link_7 at hE
  refine lv_iload_n hx hb dX7_link_7 rfl (lv_at hl 1 rfl) ?_
  refine lv_aload_n hx hb dX7_link_8 rfl (lv_at hl 0 rfl) ?_
  refine m_get F hM 7 mg_7 rfl 1 (by decide) (by decide +kernel) (by decide +kernel) (v := .int (I 6)) rfl dX7_link_9 ?_
  refine lv_icmp_ge (tgt := 44) hx hb dX7_link_12 (by decide) (fun c12 => ?_) (fun c12 => ?_)
  · replace hE := (if_pos c12).symm.trans hE
    refine lv_iconst (v := 2) hx hb dX7_link_44 (by decide) ?_
    refine lv_istore_n (lv' := [(1, .int (2 : Int32)), (0, .ref (ad 7))]) hx hb dX7_link_45 rfl hl (by decide) rfl (fun ls hl => ?_)
    exact k_X7_link_46 F hr (N := N)  N (2 : Int32) j1' a35' a36' ls H locs hE hM (lv_sub hl [1, 0] rfl)
  · replace hE := (if_neg c12).symm.trans hE
    refine lv_aload_n hx hb dX7_link_15 rfl (lv_at hl 0 rfl) ?_
    refine m_get F hM 7 mg_7 rfl 7 (by decide) (by decide +kernel) (by decide +kernel) (v := .ref (ad 35)) rfl dX7_link_16 ?_
    refine lv_iload_n hx hb dX7_link_19 rfl (lv_at hl 1 rfl) ?_
    refine lv_iconst (v := 0) hx hb dX7_link_20 (by decide) ?_
    obtain ⟨hi21_12, hE⟩ := ck_some hE
    obtain ⟨w21_13, ew21_13, hE⟩ := nmd_some hE
    refine m_iast (f := a35') (A' := (va_up (va_up A 35 w21_13) 36 a36')) F hM mg_35 ms_35 (by rw [ew21_13]; exact un_35_36__35) hi21_12 dX7_link_21 (fun H locs hM => ?_)
    refine lv_aload_n hx hb dX7_link_22 rfl (lv_at hl 0 rfl) ?_
    refine m_get F hM 7 mg_7 rfl 8 (by decide) (by decide +kernel) (by decide +kernel) (v := .ref (ad 36)) rfl dX7_link_23 ?_
    refine lv_iload_n hx hb dX7_link_26 rfl (lv_at hl 1 rfl) ?_
    refine lv_iload_n hx hb dX7_link_27 rfl (lv_at hl 1 rfl) ?_
    refine lv_iconst (v := 1) hx hb dX7_link_28 (by decide) ?_
    refine lv_icmp_ne (tgt := 36) hx hb dX7_link_29 (by decide) (fun c29 => ?_) (fun c29 => ?_)
    · replace hE := (if_neg c29).symm.trans hE
      refine lv_iconst (v := 0) hx hb dX7_link_36 (by decide) ?_
      obtain ⟨hi37_14, hE⟩ := ck_some hE
      obtain ⟨w37_15, ew37_15, hE⟩ := nmd_some hE
      refine m_zast (f := a36') (A' := (va_up (va_up A 35 w21_13) 36 w37_15)) F hM mg_36 ms_36 (by rw [ew37_15]; exact un_35_36__36) hi37_14 dX7_link_37 (fun H locs hM => ?_)
      refine lv_iinc (v := x1 + (1 : Int32)) (lv' := [(1, .int (x1 + (1 : Int32))), (0, .ref (ad 7))]) hx hb dX7_link_38 hl (k := 1) rfl rfl (by decide) rfl (fun ls hl => ?_)
      refine lv_goto (tgt := 7) hx hb dX7_link_41 (by decide) ?_
      exact hn7 (x1 + (1 : Int32)) j1' w21_13 w37_15 ls H locs hE hM (lv_sub hl [1, 0] rfl)
    · replace hE := (if_pos c29).symm.trans hE
      refine lv_iconst (v := 1) hx hb dX7_link_32 (by decide) ?_
      refine lv_goto (tgt := 37) hx hb dX7_link_33 (by decide) ?_
      obtain ⟨hi37_16, hE⟩ := ck_some hE
      obtain ⟨w37_17, ew37_17, hE⟩ := nmd_some hE
      refine m_zast (f := a36') (A' := (va_up (va_up A 35 w21_13) 36 w37_17)) F hM mg_36 ms_36 (by rw [ew37_17]; exact un_35_36__36) hi37_16 dX7_link_37 (fun H locs hM => ?_)
      refine lv_iinc (v := x1 + (1 : Int32)) (lv' := [(1, .int (x1 + (1 : Int32))), (0, .ref (ad 7))]) hx hb dX7_link_38 hl (k := 1) rfl rfl (by decide) rfl (fun ls hl => ?_)
      refine lv_goto (tgt := 7) hx hb dX7_link_41 (by decide) ?_
      exact hn7 (x1 + (1 : Int32)) j1' w21_13 w37_17 ls H locs hE hM (lv_sub hl [1, 0] rfl)
theorem k_X7_link_7 {p : Program} {l : Launch} {e : Env} {s : State} {m : MethodId} {args : Array Value} {below : List Frame} {meth : Method} {c : Code} {D : va_G} {y : Nat → ClassId} {nn : Nat} {ad : Nat → Nat} {A0 : Nat → Prop} {I : Nat → Int32} {J : Nat → Int64} {A : Nat → Nat → Int32} {B : Nat → Nat → Int64} {G : Nat → Nat → Nat → Int32} (F : Fx p s m args meth c cX7_link 6 wsX7_link RX7 D y A0) (hr : meth.sig.returnType = (some .boolean)) {out : Int32 × Int64 × (Nat → Int32) × (Nat → Int32)} {N : Nat}  : ∀ (n : Nat), ∀ (x1 : Int32) (j1' : Int64) (a35' : Nat → Int32) (a36' : Nat → Int32) (ls : Array Slot) (H : Heap) (locs : List Loc), lq4 (f_X7_link_7 N (I 6) (B 54) (B 55) ) n x1 j1' a35' a36' = some out → MM D y nn ad A0 s.heap I (va_up J 1 j1') (va_up (va_up A 35 a35') 36 a36') B G H locs → lv_has ls 6 [(0, .ref (ad 7)), (1, .int x1)] → W p l e ({ frames := 4, cells := 0, slots := 0, locals := 92 } : Room) s m args below meth c H locs 0 0 (MQ below (mQi D y nn ad A0 out.1 (I, (va_up J 1 out.2.1), (va_up (va_up A 35 out.2.2.1) 36 out.2.2.2), B, G)) args s 0 0 A0) (F0 m 7 ls []) := by
  intro n
  induction n with
  | zero =>
    intro x1 j1' a35' a36' ls H locs hE
    cases (show (none : Option _) = some out from hE)
  | succ n ih =>
    intro x1 j1' a35' a36' ls H locs hE hM hl
    exact s_X7_link_7 F hr (N := N)  (lq4 (f_X7_link_7 N (I 6) (B 54) (B 55) ) n) ih x1 j1' a35' a36' ls H locs hE hM hl
set_option maxHeartbeats 4000000 in
set_option maxRecDepth 100000 in
theorem c_X7_link (l : Launch) (D : va_G) (y : Nat → ClassId) (nn : Nat) (ad : Nat → Nat) (sz : Nat) (I : Nat → Int32) (J : Nat → Int64) (A : Nat → Nat → Int32) (B : Nat → Nat → Int64) (G : Nat → Nat → Nat → Int32)  (N : Nat) (out : Int32 × Int64 × (Nat → Int32) × (Nat → Int32)) (hE : f_X7_link N (I 6) (B 54) (B 55) (J 1) (A 35) (A 36)  = some out) : Met l yX7_link wsX7_link ({ frames := 4, cells := 0, slots := 0, locals := 92 } : Room) (mPc [.ref (ad 7)] D y nn ad sz I J A B G) (mQi D y nn ad (mA y nn ad I J A B G sz) out.1 (I, (va_up J 1 out.2.1), (va_up (va_up A 35 out.2.2.1) 36 out.2.2.2), B, G)) 0 0 (mA y nn ad I J A B G sz) := by
  refine Met.ofW (cc := cX7_link) (maxL := 6) (ret := (some .boolean)) (by decide) rfl ?_
  intro p e s m args below meth c s₁ Bd hml hv
  obtain ⟨rfl, hsz, hP, hK, hD0, hN⟩ := hv
  have hr := Bd.returns
  subst hsz
  have F : Fx p s m ([.ref (ad 7)] : List Value).toArray meth c cX7_link 6 wsX7_link RX7 D y (mA y nn ad I J A B G s.heap.size) := ⟨⟨Bd.exec, Bd.bytes, hml, findClass_of_methodNamed Bd.named, atoms_spec (ws := wsX7_link) Bd.pre⟩, hK, hN, fun q h => Or.inr h, Bd.notSynchronized⟩
  have hM := m_start (s := s) rfl hP hD0
  have hM := m_mem (I2 := I) (J2 := (va_up J 1 (J 1))) (A2 := (va_up (va_up A 35 (A 35)) 36 (A 36))) (B2 := B) (G2 := G) hM (by rfl) (by simp only [up_id]) (by simp only [up_id]) (by rfl) (by rfl)
  have hx := F.1.1
  have hb := F.1.2.1
  have hl := lv_entry ([.ref (ad 7)]) (n := 6) (Nat.le_of_ble_eq_true rfl)
  rw [lg_entry_eq]
  generalize (lg_sl ([.ref (ad 7)]) ++ List.replicate (6 - (lg_sl ([.ref (ad 7)])).length) Slot.unset).toArray = ls at hl ⊢
  have hl : lv_has ls 6 [(0, .ref (ad 7))] := hl
  show W p l e ({ frames := 4, cells := 0, slots := 0, locals := 92 } : Room) s m _ below meth c s.heap [] 0 0 _ _
  obtain ⟨locs, hlo⟩ : ∃ locs : List Loc, locs = [] := ⟨_, rfl⟩
  rw [← hlo]; rw [← hlo] at hM
  unfold f_X7_link at hE
  revert hM
  suffices hH : ∀ H : Heap, MM D y nn ad (mA y nn ad I J A B G s.heap.size) s.heap I (va_up J 1 (J 1)) (va_up (va_up A 35 (A 35)) 36 (A 36)) B G H locs → W p l e ({ frames := 4, cells := 0, slots := 0, locals := 92 } : Room) s m ([.ref (ad 7)] : List Value).toArray below meth c H locs 0 0 (MQ below (mQi D y nn ad (mA y nn ad I J A B G s.heap.size) out.1 (I, (va_up J 1 out.2.1), (va_up (va_up A 35 out.2.2.1) 36 out.2.2.2), B, G)) ([.ref (ad 7)] : List Value).toArray s 0 0 (mA y nn ad I J A B G s.heap.size)) (F0 m 0 ls []) from hH s.heap
  intro H hM
  refine lv_aload_n hx hb dX7_link_0 rfl (lv_at hl 0 rfl) ?_
  refine lv_lconst (v := 0) hx hb dX7_link_1 (by decide) ?_
  refine m_put F hM 7 mg_7 rfl tyX7 tyX7_ok nmX7 9 (by decide) (by decide +kernel) (by decide +kernel) rfl (ty := .long) (v := .long (0 : Int64)) (by decide +kernel) rfl rfl (Nat.le_of_ble_eq_true rfl) (ms_7_9 _) rfl  (bx_uu _ _ _ _) dX7_link_2 (fun H locs hM => ?_)
  refine lv_iconst (v := 0) hx hb dX7_link_5 (by decide) ?_
  refine lv_istore_n (lv' := [(1, .int (0 : Int32)), (0, .ref (ad 7))]) hx hb dX7_link_6 rfl hl (by decide) rfl (fun ls hl => ?_)
  exact k_X7_link_7 F hr (N := N)  N (0 : Int32) (0 : Int64) (A 35) (A 36) ls H locs hE hM (lv_sub hl [1, 0] rfl)
/-! ===== X7_grow: reads I6 B54, writes I7 J1 A35 A36 B55, frames 5, locals 117 ===== -/
def f_X7_grow_123 (N : Nat) (i6 : Int32) (b54 : Nat → Int64) (nx35 : Int32 → Int64 → Int32 → Int32 → Int64 → (Nat → Int32) → (Nat → Int32) → (Nat → Int64) → Option (Int64 × Int32 × Int64 × (Nat → Int32) × (Nat → Int32) × (Nat → Int64))) (nx123 : Int32 → Int64 → Int32 → Int32 → Int32 → Int32 → Int64 → (Nat → Int32) → (Nat → Int32) → (Nat → Int64) → Option (Int64 × Int32 × Int64 × (Nat → Int32) × (Nat → Int32) × (Nat → Int64))) (x1 : Int32) (x2 : Int64) (x4 : Int32) (x5 : Int32) (x6 : Int32) (i7' : Int32) (j1' : Int64) (a35' : Nat → Int32) (a36' : Nat → Int32) (b55' : Nat → Int64) : Option (Int64 × Int32 × Int64 × (Nat → Int32) × (Nat → Int32) × (Nat → Int64)) :=
(if i6 ≤ x6 then
nx35 x1 x2 (x4 + (1 : Int32)) i7' j1' a35' a36' b55'
else
ck x6 12 (
ck x6 12 (
ck x6 12 (
nmd (vp_updL b55' x6.toNatClampNeg ((b55' x6.toNatClampNeg) + ((((a35' x6.toNatClampNeg) - (2 : Int32)) * x5).toInt64))) fun w159_4 =>
nx123 x1 x2 x4 x5 (x6 + (1 : Int32)) i7' j1' a35' a36' w159_4))))
def f_X7_grow_72 (N : Nat) (i6 : Int32) (b54 : Nat → Int64) (nx35 : Int32 → Int64 → Int32 → Int32 → Int64 → (Nat → Int32) → (Nat → Int32) → (Nat → Int64) → Option (Int64 × Int32 × Int64 × (Nat → Int32) × (Nat → Int32) × (Nat → Int64))) (x1 : Int32) (x2 : Int64) (x4 : Int32) (i7' : Int32) (j1' : Int64) (a35' : Nat → Int32) (a36' : Nat → Int32) (b55' : Nat → Int64) : Option (Int64 × Int32 × Int64 × (Nat → Int32) × (Nat → Int32) × (Nat → Int64)) :=
(if (5 : Int32) ≤ x4 then
(if (9 : Int32) ≤ x4 then
(if (13 : Int32) ≤ x4 then
(if (17 : Int32) ≤ x4 then
lq10 (f_X7_grow_123 N i6 b54 nx35) N x1 x2 x4 (1 : Int32) (0 : Int32) i7' j1' a35' a36' b55'
else
lq10 (f_X7_grow_123 N i6 b54 nx35) N x1 x2 x4 (2 : Int32) (0 : Int32) i7' j1' a35' a36' b55')
else
lq10 (f_X7_grow_123 N i6 b54 nx35) N x1 x2 x4 (4 : Int32) (0 : Int32) i7' j1' a35' a36' b55')
else
lq10 (f_X7_grow_123 N i6 b54 nx35) N x1 x2 x4 (8 : Int32) (0 : Int32) i7' j1' a35' a36' b55')
else
lq10 (f_X7_grow_123 N i6 b54 nx35) N x1 x2 x4 (16 : Int32) (0 : Int32) i7' j1' a35' a36' b55')
def f_X7_grow_35 (N : Nat) (i6 : Int32) (b54 : Nat → Int64)  (nx35 : Int32 → Int64 → Int32 → Int32 → Int64 → (Nat → Int32) → (Nat → Int32) → (Nat → Int64) → Option (Int64 × Int32 × Int64 × (Nat → Int32) × (Nat → Int32) × (Nat → Int64))) (x1 : Int32) (x2 : Int64) (x4 : Int32) (i7' : Int32) (j1' : Int64) (a35' : Nat → Int32) (a36' : Nat → Int32) (b55' : Nat → Int64) : Option (Int64 × Int32 × Int64 × (Nat → Int32) × (Nat → Int32) × (Nat → Int64)) :=
(if x1 < x4 then
some (x2, i7', j1', a35', a36', b55')
else
bd (f_X7_link N i6 b54 b55' j1' a35' a36') fun o42_0 =>
(if o42_0.1 = (0 : Int32) then
some ((1000000000000 : Int64), i7', o42_0.2.1, o42_0.2.2.1, o42_0.2.2.2, b55')
else
(if o42_0.2.1 ≤ x2 then
f_X7_grow_72 N i6 b54 nx35 x1 x2 x4 i7' o42_0.2.1 o42_0.2.2.1 o42_0.2.2.2 b55'
else
f_X7_grow_72 N i6 b54 nx35 x1 o42_0.2.1 x4 x4 o42_0.2.1 o42_0.2.2.1 o42_0.2.2.2 b55')))
def f_X7_grow_2 (N : Nat) (i6 : Int32) (b54 : Nat → Int64)  (nx2 : Int32 → Int32 → Int32 → Int64 → (Nat → Int32) → (Nat → Int32) → (Nat → Int64) → Option (Int64 × Int32 × Int64 × (Nat → Int32) × (Nat → Int32) × (Nat → Int64))) (x1 : Int32) (x2 : Int32) (i7' : Int32) (j1' : Int64) (a35' : Nat → Int32) (a36' : Nat → Int32) (b55' : Nat → Int64) : Option (Int64 × Int32 × Int64 × (Nat → Int32) × (Nat → Int32) × (Nat → Int64)) :=
(if i6 ≤ x2 then
lq8 (f_X7_grow_35 N i6 b54 ) N x1 (-1000000000000 : Int64) (1 : Int32) (0 : Int32) j1' a35' a36' b55'
else
ck x2 12 (
nmd (vp_updL b55' x2.toNatClampNeg (0 : Int64)) fun w16_6 =>
nx2 x1 (x2 + (1 : Int32)) i7' j1' a35' a36' w16_6))
def f_X7_grow (N : Nat) (i6 : Int32) (b54 : Nat → Int64) (i7 : Int32) (j1 : Int64) (a35 : Nat → Int32) (a36 : Nat → Int32) (b55 : Nat → Int64) (p1 : Int32) : Option (Int64 × Int32 × Int64 × (Nat → Int32) × (Nat → Int32) × (Nat → Int64)) :=
lq7 (f_X7_grow_2 N i6 b54 ) N p1 (0 : Int32) i7 j1 a35 a36 b55
set_option maxHeartbeats 4000000 in
set_option maxRecDepth 100000 in
theorem s_X7_grow_123 {p : Program} {l : Launch} {e : Env} {s : State} {m : MethodId} {args : Array Value} {below : List Frame} {meth : Method} {c : Code} {D : va_G} {y : Nat → ClassId} {nn : Nat} {ad : Nat → Nat} {A0 : Nat → Prop} {I : Nat → Int32} {J : Nat → Int64} {A : Nat → Nat → Int32} {B : Nat → Nat → Int64} {G : Nat → Nat → Nat → Int32} (F : Fx p s m args meth c cX7_grow 7 wsX7_grow RX7 D y A0) (hr : meth.sig.returnType = (some .long)) {out : Int64 × Int32 × Int64 × (Nat → Int32) × (Nat → Int32) × (Nat → Int64)} {N : Nat} (nx35 : Int32 → Int64 → Int32 → Int32 → Int64 → (Nat → Int32) → (Nat → Int32) → (Nat → Int64) → Option (Int64 × Int32 × Int64 × (Nat → Int32) × (Nat → Int32) × (Nat → Int64))) (hn35 : ∀ (x1 : Int32) (x2 : Int64) (x4 : Int32) (i7' : Int32) (j1' : Int64) (a35' : Nat → Int32) (a36' : Nat → Int32) (b55' : Nat → Int64) (ls : Array Slot) (H : Heap) (locs : List Loc), nx35 x1 x2 x4 i7' j1' a35' a36' b55' = some out → MM D y nn ad A0 s.heap (va_up I 7 i7') (va_up J 1 j1') (va_up (va_up A 35 a35') 36 a36') (va_up B 55 b55') G H locs → lv_has ls 7 [(0, .ref (ad 7)), (1, .int x1), (2, .long x2), (4, .int x4)] → W p l e ({ frames := 5, cells := 0, slots := 0, locals := 117 } : Room) s m args below meth c H locs 0 0 (MQ below (mQl D y nn ad A0 out.1 ((va_up I 7 out.2.1), (va_up J 1 out.2.2.1), (va_up (va_up A 35 out.2.2.2.1) 36 out.2.2.2.2.1), (va_up B 55 out.2.2.2.2.2), G)) args s 0 0 A0) (F0 m 35 ls [])) (nx123 : Int32 → Int64 → Int32 → Int32 → Int32 → Int32 → Int64 → (Nat → Int32) → (Nat → Int32) → (Nat → Int64) → Option (Int64 × Int32 × Int64 × (Nat → Int32) × (Nat → Int32) × (Nat → Int64))) (hn123 : ∀ (x1 : Int32) (x2 : Int64) (x4 : Int32) (x5 : Int32) (x6 : Int32) (i7' : Int32) (j1' : Int64) (a35' : Nat → Int32) (a36' : Nat → Int32) (b55' : Nat → Int64) (ls : Array Slot) (H : Heap) (locs : List Loc), nx123 x1 x2 x4 x5 x6 i7' j1' a35' a36' b55' = some out → MM D y nn ad A0 s.heap (va_up I 7 i7') (va_up J 1 j1') (va_up (va_up A 35 a35') 36 a36') (va_up B 55 b55') G H locs → lv_has ls 7 [(0, .ref (ad 7)), (1, .int x1), (2, .long x2), (4, .int x4), (5, .int x5), (6, .int x6)] → W p l e ({ frames := 5, cells := 0, slots := 0, locals := 117 } : Room) s m args below meth c H locs 0 0 (MQ below (mQl D y nn ad A0 out.1 ((va_up I 7 out.2.1), (va_up J 1 out.2.2.1), (va_up (va_up A 35 out.2.2.2.1) 36 out.2.2.2.2.1), (va_up B 55 out.2.2.2.2.2), G)) args s 0 0 A0) (F0 m 123 ls [])) : ∀ (x1 : Int32) (x2 : Int64) (x4 : Int32) (x5 : Int32) (x6 : Int32) (i7' : Int32) (j1' : Int64) (a35' : Nat → Int32) (a36' : Nat → Int32) (b55' : Nat → Int64) (ls : Array Slot) (H : Heap) (locs : List Loc), f_X7_grow_123 N (I 6) (B 54) nx35 nx123 x1 x2 x4 x5 x6 i7' j1' a35' a36' b55' = some out → MM D y nn ad A0 s.heap (va_up I 7 i7') (va_up J 1 j1') (va_up (va_up A 35 a35') 36 a36') (va_up B 55 b55') G H locs → lv_has ls 7 [(0, .ref (ad 7)), (1, .int x1), (2, .long x2), (4, .int x4), (5, .int x5), (6, .int x6)] → W p l e ({ frames := 5, cells := 0, slots := 0, locals := 117 } : Room) s m args below meth c H locs 0 0 (MQ below (mQl D y nn ad A0 out.1 ((va_up I 7 out.2.1), (va_up J 1 out.2.2.1), (va_up (va_up A 35 out.2.2.2.1) 36 out.2.2.2.2.1), (va_up B 55 out.2.2.2.2.2), G)) args s 0 0 A0) (F0 m 123 ls []) := by
  intro x1 x2 x4 x5 x6 i7' j1' a35' a36' b55' ls H locs hE hM hl
  have hx := F.1.1
  have hb := F.1.2.1
  unfold f_X7_grow_123 at hE
  refine lv_iload hx hb dX7_grow_123 (lv_at hl 5 rfl) ?_
  refine lv_aload_n hx hb dX7_grow_125 rfl (lv_at hl 0 rfl) ?_
  refine m_get F hM 7 mg_7 rfl 1 (by decide) (by decide +kernel) (by decide +kernel) (v := .int (I 6)) rfl dX7_grow_126 ?_
  refine lv_icmp_ge (tgt := 166) hx hb dX7_grow_129 (by decide) (fun c129 => ?_) (fun c129 => ?_)
  · replace hE := (if_pos c129).symm.trans hE
    refine lv_iinc (v := x4 + (1 : Int32)) (lv' := [(4, .int (x4 + (1 : Int32))), (0, .ref (ad 7)), (1, .int x1), (2, .long x2), (5, .int x5), (6, .int x6)]) hx hb dX7_grow_166 hl (k := 3) rfl rfl (by decide) rfl (fun ls hl => ?_)
    refine lv_goto (tgt := 35) hx hb dX7_grow_169 (by decide) ?_
    exact hn35 x1 x2 (x4 + (1 : Int32)) i7' j1' a35' a36' b55' ls H locs hE hM (lv_sub hl [1, 2, 3, 0] rfl)
  · replace hE := (if_neg c129).symm.trans hE
    refine lv_aload_n hx hb dX7_grow_132 rfl (lv_at hl 0 rfl) ?_
    refine m_get F hM 7 mg_7 rfl 6 (by decide) (by decide +kernel) (by decide +kernel) (v := .ref (ad 55)) rfl dX7_grow_133 ?_
    refine lv_iload hx hb dX7_grow_136 (lv_at hl 5 rfl) ?_
    refine lv_aload_n hx hb dX7_grow_138 rfl (lv_at hl 0 rfl) ?_
    refine m_get F hM 7 mg_7 rfl 6 (by decide) (by decide +kernel) (by decide +kernel) (v := .ref (ad 55)) rfl dX7_grow_139 ?_
    refine lv_iload hx hb dX7_grow_142 (lv_at hl 5 rfl) ?_
    obtain ⟨hi144_1, hE⟩ := ck_some hE
    refine m_lald (g := b55') F hM mg_55 rfl hi144_1 dX7_grow_144 ?_
    refine lv_aload_n hx hb dX7_grow_145 rfl (lv_at hl 0 rfl) ?_
    refine m_get F hM 7 mg_7 rfl 7 (by decide) (by decide +kernel) (by decide +kernel) (v := .ref (ad 35)) rfl dX7_grow_146 ?_
    refine lv_iload hx hb dX7_grow_149 (lv_at hl 5 rfl) ?_
    obtain ⟨hi151_2, hE⟩ := ck_some hE
    refine m_iald (g := a35') F hM mg_35 rfl hi151_2 dX7_grow_151 ?_
    refine lv_iconst (v := 2) hx hb dX7_grow_152 (by decide) ?_
    refine lv_isub hx hb dX7_grow_153 ?_
    refine lv_iload hx hb dX7_grow_154 (lv_at hl 4 rfl) ?_
    refine lv_imul hx hb dX7_grow_156 ?_
    refine lv_i2l hx hb dX7_grow_157 rfl ?_
    refine lv_ladd hx hb dX7_grow_158 ?_
    obtain ⟨hi159_3, hE⟩ := ck_some hE
    obtain ⟨w159_4, ew159_4, hE⟩ := nmd_some hE
    refine m_last (f := b55') (B' := (va_up B 55 w159_4)) F hM mg_55 ms_55 (by rw [ew159_4]; exact (bx_uu _ _ _ _)) hi159_3 dX7_grow_159 (fun H locs hM => ?_)
    refine lv_iinc (v := x6 + (1 : Int32)) (lv' := [(6, .int (x6 + (1 : Int32))), (0, .ref (ad 7)), (1, .int x1), (2, .long x2), (4, .int x4), (5, .int x5)]) hx hb dX7_grow_160 hl (k := 5) rfl rfl (by decide) rfl (fun ls hl => ?_)
    refine lv_goto (tgt := 123) hx hb dX7_grow_163 (by decide) ?_
    exact hn123 x1 x2 x4 x5 (x6 + (1 : Int32)) i7' j1' a35' a36' w159_4 ls H locs hE hM (lv_sub hl [1, 2, 3, 4, 5, 0] rfl)
theorem k_X7_grow_123 {p : Program} {l : Launch} {e : Env} {s : State} {m : MethodId} {args : Array Value} {below : List Frame} {meth : Method} {c : Code} {D : va_G} {y : Nat → ClassId} {nn : Nat} {ad : Nat → Nat} {A0 : Nat → Prop} {I : Nat → Int32} {J : Nat → Int64} {A : Nat → Nat → Int32} {B : Nat → Nat → Int64} {G : Nat → Nat → Nat → Int32} (F : Fx p s m args meth c cX7_grow 7 wsX7_grow RX7 D y A0) (hr : meth.sig.returnType = (some .long)) {out : Int64 × Int32 × Int64 × (Nat → Int32) × (Nat → Int32) × (Nat → Int64)} {N : Nat} (nx35 : Int32 → Int64 → Int32 → Int32 → Int64 → (Nat → Int32) → (Nat → Int32) → (Nat → Int64) → Option (Int64 × Int32 × Int64 × (Nat → Int32) × (Nat → Int32) × (Nat → Int64))) (hn35 : ∀ (x1 : Int32) (x2 : Int64) (x4 : Int32) (i7' : Int32) (j1' : Int64) (a35' : Nat → Int32) (a36' : Nat → Int32) (b55' : Nat → Int64) (ls : Array Slot) (H : Heap) (locs : List Loc), nx35 x1 x2 x4 i7' j1' a35' a36' b55' = some out → MM D y nn ad A0 s.heap (va_up I 7 i7') (va_up J 1 j1') (va_up (va_up A 35 a35') 36 a36') (va_up B 55 b55') G H locs → lv_has ls 7 [(0, .ref (ad 7)), (1, .int x1), (2, .long x2), (4, .int x4)] → W p l e ({ frames := 5, cells := 0, slots := 0, locals := 117 } : Room) s m args below meth c H locs 0 0 (MQ below (mQl D y nn ad A0 out.1 ((va_up I 7 out.2.1), (va_up J 1 out.2.2.1), (va_up (va_up A 35 out.2.2.2.1) 36 out.2.2.2.2.1), (va_up B 55 out.2.2.2.2.2), G)) args s 0 0 A0) (F0 m 35 ls [])) : ∀ (n : Nat), ∀ (x1 : Int32) (x2 : Int64) (x4 : Int32) (x5 : Int32) (x6 : Int32) (i7' : Int32) (j1' : Int64) (a35' : Nat → Int32) (a36' : Nat → Int32) (b55' : Nat → Int64) (ls : Array Slot) (H : Heap) (locs : List Loc), lq10 (f_X7_grow_123 N (I 6) (B 54) nx35) n x1 x2 x4 x5 x6 i7' j1' a35' a36' b55' = some out → MM D y nn ad A0 s.heap (va_up I 7 i7') (va_up J 1 j1') (va_up (va_up A 35 a35') 36 a36') (va_up B 55 b55') G H locs → lv_has ls 7 [(0, .ref (ad 7)), (1, .int x1), (2, .long x2), (4, .int x4), (5, .int x5), (6, .int x6)] → W p l e ({ frames := 5, cells := 0, slots := 0, locals := 117 } : Room) s m args below meth c H locs 0 0 (MQ below (mQl D y nn ad A0 out.1 ((va_up I 7 out.2.1), (va_up J 1 out.2.2.1), (va_up (va_up A 35 out.2.2.2.1) 36 out.2.2.2.2.1), (va_up B 55 out.2.2.2.2.2), G)) args s 0 0 A0) (F0 m 123 ls []) := by
  intro n
  induction n with
  | zero =>
    intro x1 x2 x4 x5 x6 i7' j1' a35' a36' b55' ls H locs hE
    cases (show (none : Option _) = some out from hE)
  | succ n ih =>
    intro x1 x2 x4 x5 x6 i7' j1' a35' a36' b55' ls H locs hE hM hl
    exact s_X7_grow_123 F hr (N := N) nx35 hn35 (lq10 (f_X7_grow_123 N (I 6) (B 54) nx35) n) ih x1 x2 x4 x5 x6 i7' j1' a35' a36' b55' ls H locs hE hM hl
set_option maxHeartbeats 4000000 in
set_option maxRecDepth 100000 in
theorem s_X7_grow_72 {p : Program} {l : Launch} {e : Env} {s : State} {m : MethodId} {args : Array Value} {below : List Frame} {meth : Method} {c : Code} {D : va_G} {y : Nat → ClassId} {nn : Nat} {ad : Nat → Nat} {A0 : Nat → Prop} {I : Nat → Int32} {J : Nat → Int64} {A : Nat → Nat → Int32} {B : Nat → Nat → Int64} {G : Nat → Nat → Nat → Int32} (F : Fx p s m args meth c cX7_grow 7 wsX7_grow RX7 D y A0) (hr : meth.sig.returnType = (some .long)) {out : Int64 × Int32 × Int64 × (Nat → Int32) × (Nat → Int32) × (Nat → Int64)} {N : Nat} (nx35 : Int32 → Int64 → Int32 → Int32 → Int64 → (Nat → Int32) → (Nat → Int32) → (Nat → Int64) → Option (Int64 × Int32 × Int64 × (Nat → Int32) × (Nat → Int32) × (Nat → Int64))) (hn35 : ∀ (x1 : Int32) (x2 : Int64) (x4 : Int32) (i7' : Int32) (j1' : Int64) (a35' : Nat → Int32) (a36' : Nat → Int32) (b55' : Nat → Int64) (ls : Array Slot) (H : Heap) (locs : List Loc), nx35 x1 x2 x4 i7' j1' a35' a36' b55' = some out → MM D y nn ad A0 s.heap (va_up I 7 i7') (va_up J 1 j1') (va_up (va_up A 35 a35') 36 a36') (va_up B 55 b55') G H locs → lv_has ls 7 [(0, .ref (ad 7)), (1, .int x1), (2, .long x2), (4, .int x4)] → W p l e ({ frames := 5, cells := 0, slots := 0, locals := 117 } : Room) s m args below meth c H locs 0 0 (MQ below (mQl D y nn ad A0 out.1 ((va_up I 7 out.2.1), (va_up J 1 out.2.2.1), (va_up (va_up A 35 out.2.2.2.1) 36 out.2.2.2.2.1), (va_up B 55 out.2.2.2.2.2), G)) args s 0 0 A0) (F0 m 35 ls [])) : ∀ (x1 : Int32) (x2 : Int64) (x4 : Int32) (i7' : Int32) (j1' : Int64) (a35' : Nat → Int32) (a36' : Nat → Int32) (b55' : Nat → Int64) (ls : Array Slot) (H : Heap) (locs : List Loc), f_X7_grow_72 N (I 6) (B 54) nx35 x1 x2 x4 i7' j1' a35' a36' b55' = some out → MM D y nn ad A0 s.heap (va_up I 7 i7') (va_up J 1 j1') (va_up (va_up A 35 a35') 36 a36') (va_up B 55 b55') G H locs → lv_has ls 7 [(0, .ref (ad 7)), (1, .int x1), (2, .long x2), (4, .int x4)] → W p l e ({ frames := 5, cells := 0, slots := 0, locals := 117 } : Room) s m args below meth c H locs 0 0 (MQ below (mQl D y nn ad A0 out.1 ((va_up I 7 out.2.1), (va_up J 1 out.2.2.1), (va_up (va_up A 35 out.2.2.2.1) 36 out.2.2.2.2.1), (va_up B 55 out.2.2.2.2.2), G)) args s 0 0 A0) (F0 m 72 ls []) := by
  intro x1 x2 x4 i7' j1' a35' a36' b55' ls H locs hE hM hl
  have hx := F.1.1
  have hb := F.1.2.1
  unfold f_X7_grow_72 at hE
  refine lv_iload hx hb dX7_grow_72 (lv_at hl 3 rfl) ?_
  refine lv_iconst (v := 5) hx hb dX7_grow_74 (by decide) ?_
  refine lv_icmp_ge (tgt := 83) hx hb dX7_grow_75 (by decide) (fun c75 => ?_) (fun c75 => ?_)
  · replace hE := (if_pos c75).symm.trans hE
    refine lv_iload hx hb dX7_grow_83 (lv_at hl 3 rfl) ?_
    refine lv_bipush (v := 9) hx hb dX7_grow_85 (by decide) ?_
    refine lv_icmp_ge (tgt := 95) hx hb dX7_grow_87 (by decide) (fun c87 => ?_) (fun c87 => ?_)
    · replace hE := (if_pos c87).symm.trans hE
      refine lv_iload hx hb dX7_grow_95 (lv_at hl 3 rfl) ?_
      refine lv_bipush (v := 13) hx hb dX7_grow_97 (by decide) ?_
      refine lv_icmp_ge (tgt := 106) hx hb dX7_grow_99 (by decide) (fun c99 => ?_) (fun c99 => ?_)
      · replace hE := (if_pos c99).symm.trans hE
        refine lv_iload hx hb dX7_grow_106 (lv_at hl 3 rfl) ?_
        refine lv_bipush (v := 17) hx hb dX7_grow_108 (by decide) ?_
        refine lv_icmp_ge (tgt := 117) hx hb dX7_grow_110 (by decide) (fun c110 => ?_) (fun c110 => ?_)
        · replace hE := (if_pos c110).symm.trans hE
          refine lv_iconst (v := 1) hx hb dX7_grow_117 (by decide) ?_
          refine lv_istore (lv' := [(5, .int (1 : Int32)), (0, .ref (ad 7)), (1, .int x1), (2, .long x2), (4, .int x4)]) hx hb dX7_grow_118 hl (by decide) rfl (fun ls hl => ?_)
          refine lv_iconst (v := 0) hx hb dX7_grow_120 (by decide) ?_
          refine lv_istore (lv' := [(6, .int (0 : Int32)), (5, .int (1 : Int32)), (0, .ref (ad 7)), (1, .int x1), (2, .long x2), (4, .int x4)]) hx hb dX7_grow_121 hl (by decide) rfl (fun ls hl => ?_)
          exact k_X7_grow_123 F hr (N := N) nx35 hn35 N x1 x2 x4 (1 : Int32) (0 : Int32) i7' j1' a35' a36' b55' ls H locs hE hM (lv_sub hl [2, 3, 4, 5, 1, 0] rfl)
        · replace hE := (if_neg c110).symm.trans hE
          refine lv_iconst (v := 2) hx hb dX7_grow_113 (by decide) ?_
          refine lv_goto (tgt := 118) hx hb dX7_grow_114 (by decide) ?_
          refine lv_istore (lv' := [(5, .int (2 : Int32)), (0, .ref (ad 7)), (1, .int x1), (2, .long x2), (4, .int x4)]) hx hb dX7_grow_118 hl (by decide) rfl (fun ls hl => ?_)
          refine lv_iconst (v := 0) hx hb dX7_grow_120 (by decide) ?_
          refine lv_istore (lv' := [(6, .int (0 : Int32)), (5, .int (2 : Int32)), (0, .ref (ad 7)), (1, .int x1), (2, .long x2), (4, .int x4)]) hx hb dX7_grow_121 hl (by decide) rfl (fun ls hl => ?_)
          exact k_X7_grow_123 F hr (N := N) nx35 hn35 N x1 x2 x4 (2 : Int32) (0 : Int32) i7' j1' a35' a36' b55' ls H locs hE hM (lv_sub hl [2, 3, 4, 5, 1, 0] rfl)
      · replace hE := (if_neg c99).symm.trans hE
        refine lv_iconst (v := 4) hx hb dX7_grow_102 (by decide) ?_
        refine lv_goto (tgt := 118) hx hb dX7_grow_103 (by decide) ?_
        refine lv_istore (lv' := [(5, .int (4 : Int32)), (0, .ref (ad 7)), (1, .int x1), (2, .long x2), (4, .int x4)]) hx hb dX7_grow_118 hl (by decide) rfl (fun ls hl => ?_)
        refine lv_iconst (v := 0) hx hb dX7_grow_120 (by decide) ?_
        refine lv_istore (lv' := [(6, .int (0 : Int32)), (5, .int (4 : Int32)), (0, .ref (ad 7)), (1, .int x1), (2, .long x2), (4, .int x4)]) hx hb dX7_grow_121 hl (by decide) rfl (fun ls hl => ?_)
        exact k_X7_grow_123 F hr (N := N) nx35 hn35 N x1 x2 x4 (4 : Int32) (0 : Int32) i7' j1' a35' a36' b55' ls H locs hE hM (lv_sub hl [2, 3, 4, 5, 1, 0] rfl)
    · replace hE := (if_neg c87).symm.trans hE
      refine lv_bipush (v := 8) hx hb dX7_grow_90 (by decide) ?_
      refine lv_goto (tgt := 118) hx hb dX7_grow_92 (by decide) ?_
      refine lv_istore (lv' := [(5, .int (8 : Int32)), (0, .ref (ad 7)), (1, .int x1), (2, .long x2), (4, .int x4)]) hx hb dX7_grow_118 hl (by decide) rfl (fun ls hl => ?_)
      refine lv_iconst (v := 0) hx hb dX7_grow_120 (by decide) ?_
      refine lv_istore (lv' := [(6, .int (0 : Int32)), (5, .int (8 : Int32)), (0, .ref (ad 7)), (1, .int x1), (2, .long x2), (4, .int x4)]) hx hb dX7_grow_121 hl (by decide) rfl (fun ls hl => ?_)
      exact k_X7_grow_123 F hr (N := N) nx35 hn35 N x1 x2 x4 (8 : Int32) (0 : Int32) i7' j1' a35' a36' b55' ls H locs hE hM (lv_sub hl [2, 3, 4, 5, 1, 0] rfl)
  · replace hE := (if_neg c75).symm.trans hE
    refine lv_bipush (v := 16) hx hb dX7_grow_78 (by decide) ?_
    refine lv_goto (tgt := 118) hx hb dX7_grow_80 (by decide) ?_
    refine lv_istore (lv' := [(5, .int (16 : Int32)), (0, .ref (ad 7)), (1, .int x1), (2, .long x2), (4, .int x4)]) hx hb dX7_grow_118 hl (by decide) rfl (fun ls hl => ?_)
    refine lv_iconst (v := 0) hx hb dX7_grow_120 (by decide) ?_
    refine lv_istore (lv' := [(6, .int (0 : Int32)), (5, .int (16 : Int32)), (0, .ref (ad 7)), (1, .int x1), (2, .long x2), (4, .int x4)]) hx hb dX7_grow_121 hl (by decide) rfl (fun ls hl => ?_)
    exact k_X7_grow_123 F hr (N := N) nx35 hn35 N x1 x2 x4 (16 : Int32) (0 : Int32) i7' j1' a35' a36' b55' ls H locs hE hM (lv_sub hl [2, 3, 4, 5, 1, 0] rfl)
set_option maxHeartbeats 4000000 in
set_option maxRecDepth 100000 in
theorem s_X7_grow_35 {p : Program} {l : Launch} {e : Env} {s : State} {m : MethodId} {args : Array Value} {below : List Frame} {meth : Method} {c : Code} {D : va_G} {y : Nat → ClassId} {nn : Nat} {ad : Nat → Nat} {A0 : Nat → Prop} {I : Nat → Int32} {J : Nat → Int64} {A : Nat → Nat → Int32} {B : Nat → Nat → Int64} {G : Nat → Nat → Nat → Int32} (F : Fx p s m args meth c cX7_grow 7 wsX7_grow RX7 D y A0) (hr : meth.sig.returnType = (some .long)) {out : Int64 × Int32 × Int64 × (Nat → Int32) × (Nat → Int32) × (Nat → Int64)} {N : Nat}  (nx35 : Int32 → Int64 → Int32 → Int32 → Int64 → (Nat → Int32) → (Nat → Int32) → (Nat → Int64) → Option (Int64 × Int32 × Int64 × (Nat → Int32) × (Nat → Int32) × (Nat → Int64))) (hn35 : ∀ (x1 : Int32) (x2 : Int64) (x4 : Int32) (i7' : Int32) (j1' : Int64) (a35' : Nat → Int32) (a36' : Nat → Int32) (b55' : Nat → Int64) (ls : Array Slot) (H : Heap) (locs : List Loc), nx35 x1 x2 x4 i7' j1' a35' a36' b55' = some out → MM D y nn ad A0 s.heap (va_up I 7 i7') (va_up J 1 j1') (va_up (va_up A 35 a35') 36 a36') (va_up B 55 b55') G H locs → lv_has ls 7 [(0, .ref (ad 7)), (1, .int x1), (2, .long x2), (4, .int x4)] → W p l e ({ frames := 5, cells := 0, slots := 0, locals := 117 } : Room) s m args below meth c H locs 0 0 (MQ below (mQl D y nn ad A0 out.1 ((va_up I 7 out.2.1), (va_up J 1 out.2.2.1), (va_up (va_up A 35 out.2.2.2.1) 36 out.2.2.2.2.1), (va_up B 55 out.2.2.2.2.2), G)) args s 0 0 A0) (F0 m 35 ls [])) : ∀ (x1 : Int32) (x2 : Int64) (x4 : Int32) (i7' : Int32) (j1' : Int64) (a35' : Nat → Int32) (a36' : Nat → Int32) (b55' : Nat → Int64) (ls : Array Slot) (H : Heap) (locs : List Loc), f_X7_grow_35 N (I 6) (B 54)  nx35 x1 x2 x4 i7' j1' a35' a36' b55' = some out → MM D y nn ad A0 s.heap (va_up I 7 i7') (va_up J 1 j1') (va_up (va_up A 35 a35') 36 a36') (va_up B 55 b55') G H locs → lv_has ls 7 [(0, .ref (ad 7)), (1, .int x1), (2, .long x2), (4, .int x4)] → W p l e ({ frames := 5, cells := 0, slots := 0, locals := 117 } : Room) s m args below meth c H locs 0 0 (MQ below (mQl D y nn ad A0 out.1 ((va_up I 7 out.2.1), (va_up J 1 out.2.2.1), (va_up (va_up A 35 out.2.2.2.1) 36 out.2.2.2.2.1), (va_up B 55 out.2.2.2.2.2), G)) args s 0 0 A0) (F0 m 35 ls []) := by
  intro x1 x2 x4 i7' j1' a35' a36' b55' ls H locs hE hM hl
  have hx := F.1.1
  have hb := F.1.2.1
  unfold f_X7_grow_35 at hE
  refine lv_iload hx hb dX7_grow_35 (lv_at hl 3 rfl) ?_
  refine lv_iload_n hx hb dX7_grow_37 rfl (lv_at hl 1 rfl) ?_
  refine lv_icmp_gt (tgt := 172) hx hb dX7_grow_38 (by decide) (fun c38 => ?_) (fun c38 => ?_)
  · replace hE := (if_pos c38).symm.trans hE
    refine lv_lload_n hx hb dX7_grow_172 rfl (lv_at hl 2 rfl) ?_
    obtain rfl := Option.some.inj hE
    exact m_lret F hM hr rfl rfl dX7_grow_173
  · replace hE := (if_neg c38).symm.trans hE
    refine lv_aload_n hx hb dX7_grow_41 rfl (lv_at hl 0 rfl) ?_
    obtain ⟨o42_0, ho42_0, hE⟩ := bd_some hE
    refine m_callVi (As := []) (I2 := (va_up I 7 i7')) (J2 := (va_up J 1 o42_0.2.1)) (A2 := (va_up (va_up A 35 o42_0.2.2.1) 36 o42_0.2.2.2)) (B2 := (va_up B 55 b55')) (G2 := G) F hM (c_X7_link l D y nn ad H.size (va_up I 7 i7') (va_up J 1 j1') (va_up (va_up A 35 a35') 36 a36') (va_up B 55 b55') G  N o42_0 ho42_0) (cwV 0 F.1.2.2.2.2 gX7_grow_X7_link rfl rfl rfl (by decide +kernel) ⟨Nat.le_of_ble_eq_true rfl, Nat.le_of_ble_eq_true rfl⟩) (m_recv F hM mg_7 rfl) rfl hl.1 (Nat.le_of_ble_eq_true rfl) dX7_grow_42 ⟨Nat.le_refl 0, Nat.le_refl 0⟩ rfl (bx_uu _ _ _ _) un_35_36__35_36 rfl rfl (fun H locs hM => ?_)
    refine lv_if_ne (tgt := 52) hx hb dX7_grow_45 (by decide) (fun c45 => ?_) (fun c45 => ?_)
    · replace hE := (if_neg c45).symm.trans hE
      refine lv_aload_n hx hb dX7_grow_52 rfl (lv_at hl 0 rfl) ?_
      refine m_get F hM 7 mg_7 rfl 9 (by decide) (by decide +kernel) (by decide +kernel) (v := .long o42_0.2.1) rfl dX7_grow_53 ?_
      refine lv_lload_n hx hb dX7_grow_56 rfl (lv_at hl 2 rfl) ?_
      refine m_lle (tgt := 72) F dX7_grow_57 dX7_grow_58 (by decide) (fun c58 => ?_) (fun c58 => ?_)
      · replace hE := (if_pos c58).symm.trans hE
        exact s_X7_grow_72 F hr (N := N) nx35 hn35 x1 x2 x4 i7' o42_0.2.1 o42_0.2.2.1 o42_0.2.2.2 b55' ls H locs hE hM (lv_sub hl [0, 1, 2, 3] rfl)
      · replace hE := (if_neg c58).symm.trans hE
        refine lv_aload_n hx hb dX7_grow_61 rfl (lv_at hl 0 rfl) ?_
        refine m_get F hM 7 mg_7 rfl 9 (by decide) (by decide +kernel) (by decide +kernel) (v := .long o42_0.2.1) rfl dX7_grow_62 ?_
        refine lv_lstore_n (lv' := [(2, .long o42_0.2.1), (0, .ref (ad 7)), (1, .int x1), (4, .int x4)]) hx hb dX7_grow_65 rfl hl (by decide) rfl (fun ls hl => ?_)
        refine lv_aload_n hx hb dX7_grow_66 rfl (lv_at hl 1 rfl) ?_
        refine lv_iload hx hb dX7_grow_67 (lv_at hl 3 rfl) ?_
        refine m_put F hM 7 mg_7 rfl tyX7 tyX7_ok nmX7 3 (by decide) (by decide +kernel) (by decide +kernel) rfl (ty := .int) (v := .int x4) (by decide +kernel) rfl rfl (Nat.le_of_ble_eq_true rfl) (ms_7_3 _) (bx_uu _ _ _ _)  rfl dX7_grow_69 (fun H locs hM => ?_)
        exact s_X7_grow_72 F hr (N := N) nx35 hn35 x1 o42_0.2.1 x4 x4 o42_0.2.1 o42_0.2.2.1 o42_0.2.2.2 b55' ls H locs hE hM (lv_sub hl [1, 2, 0, 3] rfl)
    · replace hE := (if_pos c45).symm.trans hE
      refine lv_ldc2 (v := (1000000000000)) hx hb F.1.2.2.2.1 (F.1.2.2.2.2 (.constantLong RX7 52 (1000000000000)) (by decide +kernel)) dX7_grow_48 ?_
      obtain rfl := Option.some.inj hE
      exact m_lret F hM hr rfl rfl dX7_grow_51
theorem k_X7_grow_35 {p : Program} {l : Launch} {e : Env} {s : State} {m : MethodId} {args : Array Value} {below : List Frame} {meth : Method} {c : Code} {D : va_G} {y : Nat → ClassId} {nn : Nat} {ad : Nat → Nat} {A0 : Nat → Prop} {I : Nat → Int32} {J : Nat → Int64} {A : Nat → Nat → Int32} {B : Nat → Nat → Int64} {G : Nat → Nat → Nat → Int32} (F : Fx p s m args meth c cX7_grow 7 wsX7_grow RX7 D y A0) (hr : meth.sig.returnType = (some .long)) {out : Int64 × Int32 × Int64 × (Nat → Int32) × (Nat → Int32) × (Nat → Int64)} {N : Nat}  : ∀ (n : Nat), ∀ (x1 : Int32) (x2 : Int64) (x4 : Int32) (i7' : Int32) (j1' : Int64) (a35' : Nat → Int32) (a36' : Nat → Int32) (b55' : Nat → Int64) (ls : Array Slot) (H : Heap) (locs : List Loc), lq8 (f_X7_grow_35 N (I 6) (B 54) ) n x1 x2 x4 i7' j1' a35' a36' b55' = some out → MM D y nn ad A0 s.heap (va_up I 7 i7') (va_up J 1 j1') (va_up (va_up A 35 a35') 36 a36') (va_up B 55 b55') G H locs → lv_has ls 7 [(0, .ref (ad 7)), (1, .int x1), (2, .long x2), (4, .int x4)] → W p l e ({ frames := 5, cells := 0, slots := 0, locals := 117 } : Room) s m args below meth c H locs 0 0 (MQ below (mQl D y nn ad A0 out.1 ((va_up I 7 out.2.1), (va_up J 1 out.2.2.1), (va_up (va_up A 35 out.2.2.2.1) 36 out.2.2.2.2.1), (va_up B 55 out.2.2.2.2.2), G)) args s 0 0 A0) (F0 m 35 ls []) := by
  intro n
  induction n with
  | zero =>
    intro x1 x2 x4 i7' j1' a35' a36' b55' ls H locs hE
    cases (show (none : Option _) = some out from hE)
  | succ n ih =>
    intro x1 x2 x4 i7' j1' a35' a36' b55' ls H locs hE hM hl
    exact s_X7_grow_35 F hr (N := N)  (lq8 (f_X7_grow_35 N (I 6) (B 54) ) n) ih x1 x2 x4 i7' j1' a35' a36' b55' ls H locs hE hM hl
set_option maxHeartbeats 4000000 in
set_option maxRecDepth 100000 in
theorem s_X7_grow_2 {p : Program} {l : Launch} {e : Env} {s : State} {m : MethodId} {args : Array Value} {below : List Frame} {meth : Method} {c : Code} {D : va_G} {y : Nat → ClassId} {nn : Nat} {ad : Nat → Nat} {A0 : Nat → Prop} {I : Nat → Int32} {J : Nat → Int64} {A : Nat → Nat → Int32} {B : Nat → Nat → Int64} {G : Nat → Nat → Nat → Int32} (F : Fx p s m args meth c cX7_grow 7 wsX7_grow RX7 D y A0) (hr : meth.sig.returnType = (some .long)) {out : Int64 × Int32 × Int64 × (Nat → Int32) × (Nat → Int32) × (Nat → Int64)} {N : Nat}  (nx2 : Int32 → Int32 → Int32 → Int64 → (Nat → Int32) → (Nat → Int32) → (Nat → Int64) → Option (Int64 × Int32 × Int64 × (Nat → Int32) × (Nat → Int32) × (Nat → Int64))) (hn2 : ∀ (x1 : Int32) (x2 : Int32) (i7' : Int32) (j1' : Int64) (a35' : Nat → Int32) (a36' : Nat → Int32) (b55' : Nat → Int64) (ls : Array Slot) (H : Heap) (locs : List Loc), nx2 x1 x2 i7' j1' a35' a36' b55' = some out → MM D y nn ad A0 s.heap (va_up I 7 i7') (va_up J 1 j1') (va_up (va_up A 35 a35') 36 a36') (va_up B 55 b55') G H locs → lv_has ls 7 [(0, .ref (ad 7)), (1, .int x1), (2, .int x2)] → W p l e ({ frames := 5, cells := 0, slots := 0, locals := 117 } : Room) s m args below meth c H locs 0 0 (MQ below (mQl D y nn ad A0 out.1 ((va_up I 7 out.2.1), (va_up J 1 out.2.2.1), (va_up (va_up A 35 out.2.2.2.1) 36 out.2.2.2.2.1), (va_up B 55 out.2.2.2.2.2), G)) args s 0 0 A0) (F0 m 2 ls [])) : ∀ (x1 : Int32) (x2 : Int32) (i7' : Int32) (j1' : Int64) (a35' : Nat → Int32) (a36' : Nat → Int32) (b55' : Nat → Int64) (ls : Array Slot) (H : Heap) (locs : List Loc), f_X7_grow_2 N (I 6) (B 54)  nx2 x1 x2 i7' j1' a35' a36' b55' = some out → MM D y nn ad A0 s.heap (va_up I 7 i7') (va_up J 1 j1') (va_up (va_up A 35 a35') 36 a36') (va_up B 55 b55') G H locs → lv_has ls 7 [(0, .ref (ad 7)), (1, .int x1), (2, .int x2)] → W p l e ({ frames := 5, cells := 0, slots := 0, locals := 117 } : Room) s m args below meth c H locs 0 0 (MQ below (mQl D y nn ad A0 out.1 ((va_up I 7 out.2.1), (va_up J 1 out.2.2.1), (va_up (va_up A 35 out.2.2.2.1) 36 out.2.2.2.2.1), (va_up B 55 out.2.2.2.2.2), G)) args s 0 0 A0) (F0 m 2 ls []) := by
  intro x1 x2 i7' j1' a35' a36' b55' ls H locs hE hM hl
  have hx := F.1.1
  have hb := F.1.2.1
  unfold f_X7_grow_2 at hE
  refine lv_iload_n hx hb dX7_grow_2 rfl (lv_at hl 2 rfl) ?_
  refine lv_aload_n hx hb dX7_grow_3 rfl (lv_at hl 0 rfl) ?_
  refine m_get F hM 7 mg_7 rfl 1 (by decide) (by decide +kernel) (by decide +kernel) (v := .int (I 6)) rfl dX7_grow_4 ?_
  refine lv_icmp_ge (tgt := 23) hx hb dX7_grow_7 (by decide) (fun c7 => ?_) (fun c7 => ?_)
  · replace hE := (if_pos c7).symm.trans hE
    refine lv_ldc2 (v := (-1000000000000)) hx hb F.1.2.2.2.1 (F.1.2.2.2.2 (.constantLong RX7 87 (-1000000000000)) (by decide +kernel)) dX7_grow_23 ?_
    refine lv_lstore_n (lv' := [(2, .long (-1000000000000 : Int64)), (0, .ref (ad 7)), (1, .int x1)]) hx hb dX7_grow_26 rfl hl (by decide) rfl (fun ls hl => ?_)
    refine lv_aload_n hx hb dX7_grow_27 rfl (lv_at hl 1 rfl) ?_
    refine lv_iconst (v := 0) hx hb dX7_grow_28 (by decide) ?_
    refine m_put F hM 7 mg_7 rfl tyX7 tyX7_ok nmX7 3 (by decide) (by decide +kernel) (by decide +kernel) rfl (ty := .int) (v := .int (0 : Int32)) (by decide +kernel) rfl rfl (Nat.le_of_ble_eq_true rfl) (ms_7_3 _) (bx_uu _ _ _ _)  rfl dX7_grow_29 (fun H locs hM => ?_)
    refine lv_iconst (v := 1) hx hb dX7_grow_32 (by decide) ?_
    refine lv_istore (lv' := [(4, .int (1 : Int32)), (2, .long (-1000000000000 : Int64)), (0, .ref (ad 7)), (1, .int x1)]) hx hb dX7_grow_33 hl (by decide) rfl (fun ls hl => ?_)
    exact k_X7_grow_35 F hr (N := N)  N x1 (-1000000000000 : Int64) (1 : Int32) (0 : Int32) j1' a35' a36' b55' ls H locs hE hM (lv_sub hl [2, 3, 1, 0] rfl)
  · replace hE := (if_neg c7).symm.trans hE
    refine lv_aload_n hx hb dX7_grow_10 rfl (lv_at hl 0 rfl) ?_
    refine m_get F hM 7 mg_7 rfl 6 (by decide) (by decide +kernel) (by decide +kernel) (v := .ref (ad 55)) rfl dX7_grow_11 ?_
    refine lv_iload_n hx hb dX7_grow_14 rfl (lv_at hl 2 rfl) ?_
    refine lv_lconst (v := 0) hx hb dX7_grow_15 (by decide) ?_
    obtain ⟨hi16_5, hE⟩ := ck_some hE
    obtain ⟨w16_6, ew16_6, hE⟩ := nmd_some hE
    refine m_last (f := b55') (B' := (va_up B 55 w16_6)) F hM mg_55 ms_55 (by rw [ew16_6]; exact (bx_uu _ _ _ _)) hi16_5 dX7_grow_16 (fun H locs hM => ?_)
    refine lv_iinc (v := x2 + (1 : Int32)) (lv' := [(2, .int (x2 + (1 : Int32))), (0, .ref (ad 7)), (1, .int x1)]) hx hb dX7_grow_17 hl (k := 2) rfl rfl (by decide) rfl (fun ls hl => ?_)
    refine lv_goto (tgt := 2) hx hb dX7_grow_20 (by decide) ?_
    exact hn2 x1 (x2 + (1 : Int32)) i7' j1' a35' a36' w16_6 ls H locs hE hM (lv_sub hl [1, 2, 0] rfl)
theorem k_X7_grow_2 {p : Program} {l : Launch} {e : Env} {s : State} {m : MethodId} {args : Array Value} {below : List Frame} {meth : Method} {c : Code} {D : va_G} {y : Nat → ClassId} {nn : Nat} {ad : Nat → Nat} {A0 : Nat → Prop} {I : Nat → Int32} {J : Nat → Int64} {A : Nat → Nat → Int32} {B : Nat → Nat → Int64} {G : Nat → Nat → Nat → Int32} (F : Fx p s m args meth c cX7_grow 7 wsX7_grow RX7 D y A0) (hr : meth.sig.returnType = (some .long)) {out : Int64 × Int32 × Int64 × (Nat → Int32) × (Nat → Int32) × (Nat → Int64)} {N : Nat}  : ∀ (n : Nat), ∀ (x1 : Int32) (x2 : Int32) (i7' : Int32) (j1' : Int64) (a35' : Nat → Int32) (a36' : Nat → Int32) (b55' : Nat → Int64) (ls : Array Slot) (H : Heap) (locs : List Loc), lq7 (f_X7_grow_2 N (I 6) (B 54) ) n x1 x2 i7' j1' a35' a36' b55' = some out → MM D y nn ad A0 s.heap (va_up I 7 i7') (va_up J 1 j1') (va_up (va_up A 35 a35') 36 a36') (va_up B 55 b55') G H locs → lv_has ls 7 [(0, .ref (ad 7)), (1, .int x1), (2, .int x2)] → W p l e ({ frames := 5, cells := 0, slots := 0, locals := 117 } : Room) s m args below meth c H locs 0 0 (MQ below (mQl D y nn ad A0 out.1 ((va_up I 7 out.2.1), (va_up J 1 out.2.2.1), (va_up (va_up A 35 out.2.2.2.1) 36 out.2.2.2.2.1), (va_up B 55 out.2.2.2.2.2), G)) args s 0 0 A0) (F0 m 2 ls []) := by
  intro n
  induction n with
  | zero =>
    intro x1 x2 i7' j1' a35' a36' b55' ls H locs hE
    cases (show (none : Option _) = some out from hE)
  | succ n ih =>
    intro x1 x2 i7' j1' a35' a36' b55' ls H locs hE hM hl
    exact s_X7_grow_2 F hr (N := N)  (lq7 (f_X7_grow_2 N (I 6) (B 54) ) n) ih x1 x2 i7' j1' a35' a36' b55' ls H locs hE hM hl
set_option maxHeartbeats 4000000 in
set_option maxRecDepth 100000 in
theorem c_X7_grow (l : Launch) (D : va_G) (y : Nat → ClassId) (nn : Nat) (ad : Nat → Nat) (sz : Nat) (I : Nat → Int32) (J : Nat → Int64) (A : Nat → Nat → Int32) (B : Nat → Nat → Int64) (G : Nat → Nat → Nat → Int32) (p1 : Int32) (N : Nat) (out : Int64 × Int32 × Int64 × (Nat → Int32) × (Nat → Int32) × (Nat → Int64)) (hE : f_X7_grow N (I 6) (B 54) (I 7) (J 1) (A 35) (A 36) (B 55) p1 = some out) : Met l yX7_grow wsX7_grow ({ frames := 5, cells := 0, slots := 0, locals := 117 } : Room) (mPc [.ref (ad 7), .int p1] D y nn ad sz I J A B G) (mQl D y nn ad (mA y nn ad I J A B G sz) out.1 ((va_up I 7 out.2.1), (va_up J 1 out.2.2.1), (va_up (va_up A 35 out.2.2.2.1) 36 out.2.2.2.2.1), (va_up B 55 out.2.2.2.2.2), G)) 0 0 (mA y nn ad I J A B G sz) := by
  refine Met.ofW (cc := cX7_grow) (maxL := 7) (ret := (some .long)) (by decide) rfl ?_
  intro p e s m args below meth c s₁ Bd hml hv
  obtain ⟨rfl, hsz, hP, hK, hD0, hN⟩ := hv
  have hr := Bd.returns
  subst hsz
  have F : Fx p s m ([.ref (ad 7), .int p1] : List Value).toArray meth c cX7_grow 7 wsX7_grow RX7 D y (mA y nn ad I J A B G s.heap.size) := ⟨⟨Bd.exec, Bd.bytes, hml, findClass_of_methodNamed Bd.named, atoms_spec (ws := wsX7_grow) Bd.pre⟩, hK, hN, fun q h => Or.inr h, Bd.notSynchronized⟩
  have hM := m_start (s := s) rfl hP hD0
  have hM := m_mem (I2 := (va_up I 7 (I 7))) (J2 := (va_up J 1 (J 1))) (A2 := (va_up (va_up A 35 (A 35)) 36 (A 36))) (B2 := (va_up B 55 (B 55))) (G2 := G) hM (by simp only [up_id]) (by simp only [up_id]) (by simp only [up_id]) (by simp only [up_id]) (by rfl)
  have hx := F.1.1
  have hb := F.1.2.1
  have hl := lv_entry ([.ref (ad 7), .int p1]) (n := 7) (Nat.le_of_ble_eq_true rfl)
  rw [lg_entry_eq]
  generalize (lg_sl ([.ref (ad 7), .int p1]) ++ List.replicate (7 - (lg_sl ([.ref (ad 7), .int p1])).length) Slot.unset).toArray = ls at hl ⊢
  have hl : lv_has ls 7 [(0, .ref (ad 7)), (1, .int p1)] := hl
  show W p l e ({ frames := 5, cells := 0, slots := 0, locals := 117 } : Room) s m _ below meth c s.heap [] 0 0 _ _
  obtain ⟨locs, hlo⟩ : ∃ locs : List Loc, locs = [] := ⟨_, rfl⟩
  rw [← hlo]; rw [← hlo] at hM
  unfold f_X7_grow at hE
  revert hM
  suffices hH : ∀ H : Heap, MM D y nn ad (mA y nn ad I J A B G s.heap.size) s.heap (va_up I 7 (I 7)) (va_up J 1 (J 1)) (va_up (va_up A 35 (A 35)) 36 (A 36)) (va_up B 55 (B 55)) G H locs → W p l e ({ frames := 5, cells := 0, slots := 0, locals := 117 } : Room) s m ([.ref (ad 7), .int p1] : List Value).toArray below meth c H locs 0 0 (MQ below (mQl D y nn ad (mA y nn ad I J A B G s.heap.size) out.1 ((va_up I 7 out.2.1), (va_up J 1 out.2.2.1), (va_up (va_up A 35 out.2.2.2.1) 36 out.2.2.2.2.1), (va_up B 55 out.2.2.2.2.2), G)) ([.ref (ad 7), .int p1] : List Value).toArray s 0 0 (mA y nn ad I J A B G s.heap.size)) (F0 m 0 ls []) from hH s.heap
  intro H hM
  refine lv_iconst (v := 0) hx hb dX7_grow_0 (by decide) ?_
  refine lv_istore_n (lv' := [(2, .int (0 : Int32)), (0, .ref (ad 7)), (1, .int p1)]) hx hb dX7_grow_1 rfl hl (by decide) rfl (fun ls hl => ?_)
  exact k_X7_grow_2 F hr (N := N)  N p1 (0 : Int32) (I 7) (J 1) (A 35) (A 36) (B 55) ls H locs hE hM (lv_sub hl [1, 2, 0] rfl)
/-! ===== X7_half: reads , writes , frames 0, locals 0 ===== -/
def f_X7_half   (p0 : Int64) : Option (Int64) :=
(if p0 = (1000000000000 : Int64) then
some (-1 : Int64)
else
(if (0 : Int64) ≤ p0 then
dvl (2 : Int64) (
some ((p0 + (1 : Int64)) / (2 : Int64)))
else
some (0 : Int64)))
set_option maxHeartbeats 4000000 in
set_option maxRecDepth 100000 in
theorem c_X7_half (l : Launch) (D : va_G) (y : Nat → ClassId) (nn : Nat) (ad : Nat → Nat) (sz : Nat) (I : Nat → Int32) (J : Nat → Int64) (A : Nat → Nat → Int32) (B : Nat → Nat → Int64) (G : Nat → Nat → Nat → Int32) (p0 : Int64)  (out : Int64) (hE : f_X7_half   p0 = some out) : Met l yX7_half wsX7_half ({ frames := 0, cells := 0, slots := 0, locals := 0 } : Room) (mPc [.long p0] D y nn ad sz I J A B G) (mQl D y nn ad (mA y nn ad I J A B G sz) out (I, J, A, B, G)) 0 0 (mA y nn ad I J A B G sz) := by
  refine Met.ofW (cc := cX7_half) (maxL := 2) (ret := (some .long)) (by decide) rfl ?_
  intro p e s m args below meth c s₁ Bd hml hv
  obtain ⟨rfl, hsz, hP, hK, hD0, hN⟩ := hv
  have hr := Bd.returns
  subst hsz
  have F : Fx p s m ([.long p0] : List Value).toArray meth c cX7_half 2 wsX7_half RX7 D y (mA y nn ad I J A B G s.heap.size) := ⟨⟨Bd.exec, Bd.bytes, hml, findClass_of_methodNamed Bd.named, atoms_spec (ws := wsX7_half) Bd.pre⟩, hK, hN, fun q h => Or.inr h, Bd.notSynchronized⟩
  have hM := m_start (s := s) rfl hP hD0
  have hM := m_mem (I2 := I) (J2 := J) (A2 := A) (B2 := B) (G2 := G) hM (by rfl) (by rfl) (by rfl) (by rfl) (by rfl)
  have hx := F.1.1
  have hb := F.1.2.1
  have hl := lv_entry ([.long p0]) (n := 2) (Nat.le_of_ble_eq_true rfl)
  rw [lg_entry_eq]
  generalize (lg_sl ([.long p0]) ++ List.replicate (2 - (lg_sl ([.long p0])).length) Slot.unset).toArray = ls at hl ⊢
  have hl : lv_has ls 2 [(0, .long p0)] := hl
  show W p l e ({ frames := 0, cells := 0, slots := 0, locals := 0 } : Room) s m _ below meth c s.heap [] 0 0 _ _
  obtain ⟨locs, hlo⟩ : ∃ locs : List Loc, locs = [] := ⟨_, rfl⟩
  rw [← hlo]; rw [← hlo] at hM
  unfold f_X7_half at hE
  revert hM
  suffices hH : ∀ H : Heap, MM D y nn ad (mA y nn ad I J A B G s.heap.size) s.heap I J A B G H locs → W p l e ({ frames := 0, cells := 0, slots := 0, locals := 0 } : Room) s m ([.long p0] : List Value).toArray below meth c H locs 0 0 (MQ below (mQl D y nn ad (mA y nn ad I J A B G s.heap.size) out (I, J, A, B, G)) ([.long p0] : List Value).toArray s 0 0 (mA y nn ad I J A B G s.heap.size)) (F0 m 0 ls []) from hH s.heap
  intro H hM
  refine lv_lload_n hx hb dX7_half_0 rfl (lv_at hl 0 rfl) ?_
  refine lv_ldc2 (v := (1000000000000)) hx hb F.1.2.2.2.1 (F.1.2.2.2.2 (.constantLong RX7 52 (1000000000000)) (by decide +kernel)) dX7_half_1 ?_
  refine m_lne (tgt := 14) F dX7_half_4 dX7_half_5 (by decide) (fun c5 => ?_) (fun c5 => ?_)
  · replace hE := (if_neg c5).symm.trans hE
    refine lv_lload_n hx hb dX7_half_14 rfl (lv_at hl 0 rfl) ?_
    refine lv_lconst (v := 0) hx hb dX7_half_15 (by decide) ?_
    refine m_lge (tgt := 24) F dX7_half_16 dX7_half_17 (by decide) (fun c17 => ?_) (fun c17 => ?_)
    · replace hE := (if_pos c17).symm.trans hE
      refine lv_lload_n hx hb dX7_half_24 rfl (lv_at hl 0 rfl) ?_
      refine lv_lconst (v := 1) hx hb dX7_half_25 (by decide) ?_
      refine lv_ladd hx hb dX7_half_26 ?_
      refine lv_ldc2 (v := (2)) hx hb F.1.2.2.2.1 (F.1.2.2.2.2 (.constantLong RX7 70 (2)) (by decide +kernel)) dX7_half_27 ?_
      obtain ⟨hz30, hE⟩ := dvl_some hE
      refine lv_ldiv hx hb dX7_half_30 hz30 ?_
      obtain rfl := Option.some.inj hE
      exact m_lret F hM hr rfl rfl dX7_half_31
    · replace hE := (if_neg c17).symm.trans hE
      refine lv_lconst (v := 0) hx hb dX7_half_20 (by decide) ?_
      refine lv_goto (tgt := 31) hx hb dX7_half_21 (by decide) ?_
      obtain rfl := Option.some.inj hE
      exact m_lret F hM hr rfl rfl dX7_half_31
  · replace hE := (if_pos c5).symm.trans hE
    refine lv_ldc2 (v := (-1)) hx hb F.1.2.2.2.1 (F.1.2.2.2.2 (.constantLong RX7 96 (-1)) (by decide +kernel)) dX7_half_8 ?_
    refine lv_goto (tgt := 31) hx hb dX7_half_11 (by decide) ?_
    obtain rfl := Option.some.inj hE
    exact m_lret F hM hr rfl rfl dX7_half_31
/-! ===== X7_tree: reads I6 B54, writes I5 I7 J1 A35 A36 B55, frames 6, locals 143 ===== -/
def f_X7_tree (N : Nat) (i6 : Int32) (b54 : Nat → Int64) (i5 : Int32) (i7 : Int32) (j1 : Int64) (a35 : Nat → Int32) (a36 : Nat → Int32) (b55 : Nat → Int64) (p1 : Int32) : Option (Int64 × Int32 × Int32 × Int64 × (Nat → Int32) × (Nat → Int32) × (Nat → Int64)) :=
(if (1 : Int32) ≤ p1 then
(if p1 ≤ (50 : Int32) then
bd (f_X7_grow N i6 b54 i7 j1 a35 a36 b55 p1) fun o27_0 =>
bd (f_X7_half o27_0.1) fun o30_1 =>
some (o30_1, (0 : Int32), o27_0.2.1, o27_0.2.2.1, o27_0.2.2.2.1, o27_0.2.2.2.2.1, o27_0.2.2.2.2.2)
else
bd (f_X7_grow N i6 b54 i7 j1 a35 a36 b55 (50 : Int32)) fun o27_2 =>
bd (f_X7_half o27_2.1) fun o30_3 =>
some (o30_3, (0 : Int32), o27_2.2.1, o27_2.2.2.1, o27_2.2.2.2.1, o27_2.2.2.2.2.1, o27_2.2.2.2.2.2))
else
bd (f_X7_grow N i6 b54 i7 j1 a35 a36 b55 (1 : Int32)) fun o27_4 =>
bd (f_X7_half o27_4.1) fun o30_5 =>
some (o30_5, (0 : Int32), o27_4.2.1, o27_4.2.2.1, o27_4.2.2.2.1, o27_4.2.2.2.2.1, o27_4.2.2.2.2.2))
set_option maxHeartbeats 4000000 in
set_option maxRecDepth 100000 in
theorem c_X7_tree (l : Launch) (D : va_G) (y : Nat → ClassId) (nn : Nat) (ad : Nat → Nat) (sz : Nat) (I : Nat → Int32) (J : Nat → Int64) (A : Nat → Nat → Int32) (B : Nat → Nat → Int64) (G : Nat → Nat → Nat → Int32) (p1 : Int32) (N : Nat) (out : Int64 × Int32 × Int32 × Int64 × (Nat → Int32) × (Nat → Int32) × (Nat → Int64)) (hE : f_X7_tree N (I 6) (B 54) (I 5) (I 7) (J 1) (A 35) (A 36) (B 55) p1 = some out) : Met l yX7_tree wsX7_tree ({ frames := 6, cells := 0, slots := 0, locals := 143 } : Room) (mPc [.ref (ad 7), .int p1] D y nn ad sz I J A B G) (mQl D y nn ad (mA y nn ad I J A B G sz) out.1 ((va_up (va_up I 5 out.2.1) 7 out.2.2.1), (va_up J 1 out.2.2.2.1), (va_up (va_up A 35 out.2.2.2.2.1) 36 out.2.2.2.2.2.1), (va_up B 55 out.2.2.2.2.2.2), G)) 0 0 (mA y nn ad I J A B G sz) := by
  refine Met.ofW (cc := cX7_tree) (maxL := 2) (ret := (some .long)) (by decide) rfl ?_
  intro p e s m args below meth c s₁ Bd hml hv
  obtain ⟨rfl, hsz, hP, hK, hD0, hN⟩ := hv
  have hr := Bd.returns
  subst hsz
  have F : Fx p s m ([.ref (ad 7), .int p1] : List Value).toArray meth c cX7_tree 2 wsX7_tree RX7 D y (mA y nn ad I J A B G s.heap.size) := ⟨⟨Bd.exec, Bd.bytes, hml, findClass_of_methodNamed Bd.named, atoms_spec (ws := wsX7_tree) Bd.pre⟩, hK, hN, fun q h => Or.inr h, Bd.notSynchronized⟩
  have hM := m_start (s := s) rfl hP hD0
  have hM := m_mem (I2 := (va_up (va_up I 5 (I 5)) 7 (I 7))) (J2 := (va_up J 1 (J 1))) (A2 := (va_up (va_up A 35 (A 35)) 36 (A 36))) (B2 := (va_up B 55 (B 55))) (G2 := G) hM (by simp only [up_id]) (by simp only [up_id]) (by simp only [up_id]) (by simp only [up_id]) (by rfl)
  have hx := F.1.1
  have hb := F.1.2.1
  have hl := lv_entry ([.ref (ad 7), .int p1]) (n := 2) (Nat.le_of_ble_eq_true rfl)
  rw [lg_entry_eq]
  generalize (lg_sl ([.ref (ad 7), .int p1]) ++ List.replicate (2 - (lg_sl ([.ref (ad 7), .int p1])).length) Slot.unset).toArray = ls at hl ⊢
  have hl : lv_has ls 2 [(0, .ref (ad 7)), (1, .int p1)] := hl
  show W p l e ({ frames := 6, cells := 0, slots := 0, locals := 143 } : Room) s m _ below meth c s.heap [] 0 0 _ _
  obtain ⟨locs, hlo⟩ : ∃ locs : List Loc, locs = [] := ⟨_, rfl⟩
  rw [← hlo]; rw [← hlo] at hM
  unfold f_X7_tree at hE
  revert hM
  suffices hH : ∀ H : Heap, MM D y nn ad (mA y nn ad I J A B G s.heap.size) s.heap (va_up (va_up I 5 (I 5)) 7 (I 7)) (va_up J 1 (J 1)) (va_up (va_up A 35 (A 35)) 36 (A 36)) (va_up B 55 (B 55)) G H locs → W p l e ({ frames := 6, cells := 0, slots := 0, locals := 143 } : Room) s m ([.ref (ad 7), .int p1] : List Value).toArray below meth c H locs 0 0 (MQ below (mQl D y nn ad (mA y nn ad I J A B G s.heap.size) out.1 ((va_up (va_up I 5 out.2.1) 7 out.2.2.1), (va_up J 1 out.2.2.2.1), (va_up (va_up A 35 out.2.2.2.2.1) 36 out.2.2.2.2.2.1), (va_up B 55 out.2.2.2.2.2.2), G)) ([.ref (ad 7), .int p1] : List Value).toArray s 0 0 (mA y nn ad I J A B G s.heap.size)) (F0 m 0 ls []) from hH s.heap
  intro H hM
  refine lv_aload_n hx hb dX7_tree_0 rfl (lv_at hl 0 rfl) ?_
  refine lv_iconst (v := 0) hx hb dX7_tree_1 (by decide) ?_
  refine m_put F hM 7 mg_7 rfl tyX7 tyX7_ok nmX7 0 (by decide) (by decide +kernel) (by decide +kernel) rfl (ty := .int) (v := .int (0 : Int32)) (by decide +kernel) rfl rfl (Nat.le_of_ble_eq_true rfl) (ms_7_0 _) un_5_7__5  rfl dX7_tree_2 (fun H locs hM => ?_)
  refine lv_aload_n hx hb dX7_tree_5 rfl (lv_at hl 0 rfl) ?_
  refine lv_iload_n hx hb dX7_tree_6 rfl (lv_at hl 1 rfl) ?_
  refine lv_iconst (v := 1) hx hb dX7_tree_7 (by decide) ?_
  refine lv_icmp_ge (tgt := 15) hx hb dX7_tree_8 (by decide) (fun c8 => ?_) (fun c8 => ?_)
  · replace hE := (if_pos c8).symm.trans hE
    refine lv_iload_n hx hb dX7_tree_15 rfl (lv_at hl 1 rfl) ?_
    refine lv_bipush (v := 50) hx hb dX7_tree_16 (by decide) ?_
    refine lv_icmp_le (tgt := 26) hx hb dX7_tree_18 (by decide) (fun c18 => ?_) (fun c18 => ?_)
    · replace hE := (if_pos c18).symm.trans hE
      refine lv_iload_n hx hb dX7_tree_26 rfl (lv_at hl 1 rfl) ?_
      obtain ⟨o27_0, ho27_0, hE⟩ := bd_some hE
      refine m_callVl (As := [.int p1]) (I2 := (va_up (va_up I 5 (0 : Int32)) 7 o27_0.2.1)) (J2 := (va_up J 1 o27_0.2.2.1)) (A2 := (va_up (va_up A 35 o27_0.2.2.2.1) 36 o27_0.2.2.2.2.1)) (B2 := (va_up B 55 o27_0.2.2.2.2.2)) (G2 := G) F hM (c_X7_grow l D y nn ad H.size (va_up (va_up I 5 (0 : Int32)) 7 (I 7)) (va_up J 1 (J 1)) (va_up (va_up A 35 (A 35)) 36 (A 36)) (va_up B 55 (B 55)) G p1 N o27_0 ho27_0) (cwV 1 F.1.2.2.2.2 gX7_tree_X7_grow rfl rfl rfl (by decide +kernel) ⟨Nat.le_of_ble_eq_true rfl, Nat.le_of_ble_eq_true rfl⟩) (m_recv F hM mg_7 rfl) rfl hl.1 (Nat.le_of_ble_eq_true rfl) dX7_tree_27 ⟨Nat.le_refl 0, Nat.le_refl 0⟩ un_5_7__7 (bx_uu _ _ _ _) un_35_36__35_36 (bx_uu _ _ _ _) rfl (fun H locs hM => ?_)
      obtain ⟨o30_1, ho30_1, hE⟩ := bd_some hE
      refine m_callSl (As := [.long o27_0.1]) (I2 := (va_up (va_up I 5 (0 : Int32)) 7 o27_0.2.1)) (J2 := (va_up J 1 o27_0.2.2.1)) (A2 := (va_up (va_up A 35 o27_0.2.2.2.1) 36 o27_0.2.2.2.2.1)) (B2 := (va_up B 55 o27_0.2.2.2.2.2)) (G2 := G) F hM (c_X7_half l D y nn ad H.size (va_up (va_up I 5 (0 : Int32)) 7 o27_0.2.1) (va_up J 1 o27_0.2.2.1) (va_up (va_up A 35 o27_0.2.2.2.1) 36 o27_0.2.2.2.2.1) (va_up B 55 o27_0.2.2.2.2.2) G o27_0.1  o30_1 ho30_1) (va_cwS 1 F.1.2.2.2.2 gX7_tree_X7_half rfl rfl rfl (by decide +kernel) ⟨Nat.le_of_ble_eq_true rfl, Nat.le_of_ble_eq_true rfl⟩) rfl hl.1 (Nat.le_of_ble_eq_true rfl) dX7_tree_30 ⟨Nat.le_refl 0, Nat.le_refl 0⟩ rfl rfl rfl rfl rfl (fun H locs hM => ?_)
      obtain rfl := Option.some.inj hE
      exact m_lret F hM hr rfl rfl dX7_tree_33
    · replace hE := (if_neg c18).symm.trans hE
      refine lv_bipush (v := 50) hx hb dX7_tree_21 (by decide) ?_
      refine lv_goto (tgt := 27) hx hb dX7_tree_23 (by decide) ?_
      obtain ⟨o27_2, ho27_2, hE⟩ := bd_some hE
      refine m_callVl (As := [.int (50 : Int32)]) (I2 := (va_up (va_up I 5 (0 : Int32)) 7 o27_2.2.1)) (J2 := (va_up J 1 o27_2.2.2.1)) (A2 := (va_up (va_up A 35 o27_2.2.2.2.1) 36 o27_2.2.2.2.2.1)) (B2 := (va_up B 55 o27_2.2.2.2.2.2)) (G2 := G) F hM (c_X7_grow l D y nn ad H.size (va_up (va_up I 5 (0 : Int32)) 7 (I 7)) (va_up J 1 (J 1)) (va_up (va_up A 35 (A 35)) 36 (A 36)) (va_up B 55 (B 55)) G (50 : Int32) N o27_2 ho27_2) (cwV 1 F.1.2.2.2.2 gX7_tree_X7_grow rfl rfl rfl (by decide +kernel) ⟨Nat.le_of_ble_eq_true rfl, Nat.le_of_ble_eq_true rfl⟩) (m_recv F hM mg_7 rfl) rfl hl.1 (Nat.le_of_ble_eq_true rfl) dX7_tree_27 ⟨Nat.le_refl 0, Nat.le_refl 0⟩ un_5_7__7 (bx_uu _ _ _ _) un_35_36__35_36 (bx_uu _ _ _ _) rfl (fun H locs hM => ?_)
      obtain ⟨o30_3, ho30_3, hE⟩ := bd_some hE
      refine m_callSl (As := [.long o27_2.1]) (I2 := (va_up (va_up I 5 (0 : Int32)) 7 o27_2.2.1)) (J2 := (va_up J 1 o27_2.2.2.1)) (A2 := (va_up (va_up A 35 o27_2.2.2.2.1) 36 o27_2.2.2.2.2.1)) (B2 := (va_up B 55 o27_2.2.2.2.2.2)) (G2 := G) F hM (c_X7_half l D y nn ad H.size (va_up (va_up I 5 (0 : Int32)) 7 o27_2.2.1) (va_up J 1 o27_2.2.2.1) (va_up (va_up A 35 o27_2.2.2.2.1) 36 o27_2.2.2.2.2.1) (va_up B 55 o27_2.2.2.2.2.2) G o27_2.1  o30_3 ho30_3) (va_cwS 1 F.1.2.2.2.2 gX7_tree_X7_half rfl rfl rfl (by decide +kernel) ⟨Nat.le_of_ble_eq_true rfl, Nat.le_of_ble_eq_true rfl⟩) rfl hl.1 (Nat.le_of_ble_eq_true rfl) dX7_tree_30 ⟨Nat.le_refl 0, Nat.le_refl 0⟩ rfl rfl rfl rfl rfl (fun H locs hM => ?_)
      obtain rfl := Option.some.inj hE
      exact m_lret F hM hr rfl rfl dX7_tree_33
  · replace hE := (if_neg c8).symm.trans hE
    refine lv_iconst (v := 1) hx hb dX7_tree_11 (by decide) ?_
    refine lv_goto (tgt := 27) hx hb dX7_tree_12 (by decide) ?_
    obtain ⟨o27_4, ho27_4, hE⟩ := bd_some hE
    refine m_callVl (As := [.int (1 : Int32)]) (I2 := (va_up (va_up I 5 (0 : Int32)) 7 o27_4.2.1)) (J2 := (va_up J 1 o27_4.2.2.1)) (A2 := (va_up (va_up A 35 o27_4.2.2.2.1) 36 o27_4.2.2.2.2.1)) (B2 := (va_up B 55 o27_4.2.2.2.2.2)) (G2 := G) F hM (c_X7_grow l D y nn ad H.size (va_up (va_up I 5 (0 : Int32)) 7 (I 7)) (va_up J 1 (J 1)) (va_up (va_up A 35 (A 35)) 36 (A 36)) (va_up B 55 (B 55)) G (1 : Int32) N o27_4 ho27_4) (cwV 1 F.1.2.2.2.2 gX7_tree_X7_grow rfl rfl rfl (by decide +kernel) ⟨Nat.le_of_ble_eq_true rfl, Nat.le_of_ble_eq_true rfl⟩) (m_recv F hM mg_7 rfl) rfl hl.1 (Nat.le_of_ble_eq_true rfl) dX7_tree_27 ⟨Nat.le_refl 0, Nat.le_refl 0⟩ un_5_7__7 (bx_uu _ _ _ _) un_35_36__35_36 (bx_uu _ _ _ _) rfl (fun H locs hM => ?_)
    obtain ⟨o30_5, ho30_5, hE⟩ := bd_some hE
    refine m_callSl (As := [.long o27_4.1]) (I2 := (va_up (va_up I 5 (0 : Int32)) 7 o27_4.2.1)) (J2 := (va_up J 1 o27_4.2.2.1)) (A2 := (va_up (va_up A 35 o27_4.2.2.2.1) 36 o27_4.2.2.2.2.1)) (B2 := (va_up B 55 o27_4.2.2.2.2.2)) (G2 := G) F hM (c_X7_half l D y nn ad H.size (va_up (va_up I 5 (0 : Int32)) 7 o27_4.2.1) (va_up J 1 o27_4.2.2.1) (va_up (va_up A 35 o27_4.2.2.2.1) 36 o27_4.2.2.2.2.1) (va_up B 55 o27_4.2.2.2.2.2) G o27_4.1  o30_5 ho30_5) (va_cwS 1 F.1.2.2.2.2 gX7_tree_X7_half rfl rfl rfl (by decide +kernel) ⟨Nat.le_of_ble_eq_true rfl, Nat.le_of_ble_eq_true rfl⟩) rfl hl.1 (Nat.le_of_ble_eq_true rfl) dX7_tree_30 ⟨Nat.le_refl 0, Nat.le_refl 0⟩ rfl rfl rfl rfl rfl (fun H locs hM => ?_)
    obtain rfl := Option.some.inj hE
    exact m_lret F hM hr rfl rfl dX7_tree_33
/-! ===== X7_rounds: reads I7, writes I5, frames 0, locals 0 ===== -/
def f_X7_rounds (i7 : Int32) (i5 : Int32)  : Option (Int32 × Int32) :=
some (i7, (0 : Int32))
set_option maxHeartbeats 4000000 in
set_option maxRecDepth 100000 in
theorem c_X7_rounds (l : Launch) (D : va_G) (y : Nat → ClassId) (nn : Nat) (ad : Nat → Nat) (sz : Nat) (I : Nat → Int32) (J : Nat → Int64) (A : Nat → Nat → Int32) (B : Nat → Nat → Int64) (G : Nat → Nat → Nat → Int32)   (out : Int32 × Int32) (hE : f_X7_rounds (I 7) (I 5)  = some out) : Met l yX7_rounds wsX7_rounds ({ frames := 0, cells := 0, slots := 0, locals := 0 } : Room) (mPc [.ref (ad 7)] D y nn ad sz I J A B G) (mQi D y nn ad (mA y nn ad I J A B G sz) out.1 ((va_up I 5 out.2), J, A, B, G)) 0 0 (mA y nn ad I J A B G sz) := by
  refine Met.ofW (cc := cX7_rounds) (maxL := 1) (ret := (some .int)) (by decide) rfl ?_
  intro p e s m args below meth c s₁ Bd hml hv
  obtain ⟨rfl, hsz, hP, hK, hD0, hN⟩ := hv
  have hr := Bd.returns
  subst hsz
  have F : Fx p s m ([.ref (ad 7)] : List Value).toArray meth c cX7_rounds 1 wsX7_rounds RX7 D y (mA y nn ad I J A B G s.heap.size) := ⟨⟨Bd.exec, Bd.bytes, hml, findClass_of_methodNamed Bd.named, atoms_spec (ws := wsX7_rounds) Bd.pre⟩, hK, hN, fun q h => Or.inr h, Bd.notSynchronized⟩
  have hM := m_start (s := s) rfl hP hD0
  have hM := m_mem (I2 := (va_up I 5 (I 5))) (J2 := J) (A2 := A) (B2 := B) (G2 := G) hM (by simp only [up_id]) (by rfl) (by rfl) (by rfl) (by rfl)
  have hx := F.1.1
  have hb := F.1.2.1
  have hl := lv_entry ([.ref (ad 7)]) (n := 1) (Nat.le_of_ble_eq_true rfl)
  rw [lg_entry_eq]
  generalize (lg_sl ([.ref (ad 7)]) ++ List.replicate (1 - (lg_sl ([.ref (ad 7)])).length) Slot.unset).toArray = ls at hl ⊢
  have hl : lv_has ls 1 [(0, .ref (ad 7))] := hl
  show W p l e ({ frames := 0, cells := 0, slots := 0, locals := 0 } : Room) s m _ below meth c s.heap [] 0 0 _ _
  obtain ⟨locs, hlo⟩ : ∃ locs : List Loc, locs = [] := ⟨_, rfl⟩
  rw [← hlo]; rw [← hlo] at hM
  unfold f_X7_rounds at hE
  revert hM
  suffices hH : ∀ H : Heap, MM D y nn ad (mA y nn ad I J A B G s.heap.size) s.heap (va_up I 5 (I 5)) J A B G H locs → W p l e ({ frames := 0, cells := 0, slots := 0, locals := 0 } : Room) s m ([.ref (ad 7)] : List Value).toArray below meth c H locs 0 0 (MQ below (mQi D y nn ad (mA y nn ad I J A B G s.heap.size) out.1 ((va_up I 5 out.2), J, A, B, G)) ([.ref (ad 7)] : List Value).toArray s 0 0 (mA y nn ad I J A B G s.heap.size)) (F0 m 0 ls []) from hH s.heap
  intro H hM
  refine lv_aload_n hx hb dX7_rounds_0 rfl (lv_at hl 0 rfl) ?_
  refine lv_iconst (v := 0) hx hb dX7_rounds_1 (by decide) ?_
  refine m_put F hM 7 mg_7 rfl tyX7 tyX7_ok nmX7 0 (by decide) (by decide +kernel) (by decide +kernel) rfl (ty := .int) (v := .int (0 : Int32)) (by decide +kernel) rfl rfl (Nat.le_of_ble_eq_true rfl) (ms_7_0 _) (bx_uu _ _ _ _)  rfl dX7_rounds_2 (fun H locs hM => ?_)
  refine lv_aload_n hx hb dX7_rounds_5 rfl (lv_at hl 0 rfl) ?_
  refine m_get F hM 7 mg_7 rfl 3 (by decide) (by decide +kernel) (by decide +kernel) (v := .int (I 7)) rfl dX7_rounds_6 ?_
  obtain rfl := Option.some.inj hE
  exact m_iret F hM hr rfl rfl dX7_rounds_9
/-! ===== X7_assignNow: reads I6 B54, writes B56, frames 1, locals 22 ===== -/
def f_X7_assignNow_76 (N : Nat) (i6 : Int32) (b54 : Nat → Int64) (nx39 : Int32 → Int32 → (Nat → Int64) → Option (Int64 × (Nat → Int64))) (nx76 : Int32 → Int32 → Int32 → Int32 → (Nat → Int64) → Option (Int64 × (Nat → Int64))) (x1 : Int32) (x2 : Int32) (x3 : Int32) (x4 : Int32) (b56' : Nat → Int64) : Option (Int64 × (Nat → Int64)) :=
(if i6 ≤ x4 then
nx39 x1 (x2 + (1 : Int32)) b56'
else
(if i6 ≤ x3 then
nx39 x1 (x2 + (1 : Int32)) b56'
else
(if ((x2 >>> (x4 &&& 31)) &&& (1 : Int32)) = (0 : Int32) then
(if x4 = x3 then
nx76 x1 x2 x3 (x4 + (1 : Int32)) b56'
else
bd (f_X7_way_ b54 x3 x4) fun o112_2 =>
(if (1000000000000 : Int64) ≤ o112_2 then
nx76 x1 x2 x3 (x4 + (1 : Int32)) b56'
else
ck x2 4096 (
bd (f_X7_way_ b54 x3 x4) fun o132_4 =>
ck (x2 ||| ((1 : Int32) <<< (x4 &&& 31))) 4096 (
(if (b56' (x2 ||| ((1 : Int32) <<< (x4 &&& 31))).toNatClampNeg) ≤ ((b56' x2.toNatClampNeg) + o132_4) then
nx76 x1 x2 x3 (x4 + (1 : Int32)) b56'
else
ck x2 4096 (
bd (f_X7_way_ b54 x3 x4) fun o171_7 =>
ck (x2 ||| ((1 : Int32) <<< (x4 &&& 31))) 4096 (
nmd (vp_updL b56' (x2 ||| ((1 : Int32) <<< (x4 &&& 31))).toNatClampNeg ((b56' x2.toNatClampNeg) + o171_7)) fun w175_9 =>
nx76 x1 x2 x3 (x4 + (1 : Int32)) w175_9)))))))
else
nx76 x1 x2 x3 (x4 + (1 : Int32)) b56')))
def f_X7_assignNow_49 (N : Nat) (i6 : Int32) (b54 : Nat → Int64) (nx39 : Int32 → Int32 → (Nat → Int64) → Option (Int64 × (Nat → Int64))) (nx49 : Int32 → Int32 → Int32 → Int32 → (Nat → Int64) → Option (Int64 × (Nat → Int64))) (x1 : Int32) (x2 : Int32) (x3 : Int32) (x4 : Int32) (b56' : Nat → Int64) : Option (Int64 × (Nat → Int64)) :=
(if i6 ≤ x4 then
lq5 (f_X7_assignNow_76 N i6 b54 nx39) N x1 x2 x3 (0 : Int32) b56'
else
nmd ((x3 + ((x2 >>> (x4 &&& 31)) &&& (1 : Int32)))) fun v66_10 =>
nx49 x1 x2 v66_10 (x4 + (1 : Int32)) b56')
def f_X7_assignNow_39 (N : Nat) (i6 : Int32) (b54 : Nat → Int64)  (nx39 : Int32 → Int32 → (Nat → Int64) → Option (Int64 × (Nat → Int64))) (x1 : Int32) (x2 : Int32) (b56' : Nat → Int64) : Option (Int64 × (Nat → Int64)) :=
(if x1 ≤ x2 then
ck (x1 - (1 : Int32)) 4096 (
(if (b56' (x1 - (1 : Int32)).toNatClampNeg) = (1000000000000 : Int64) then
some ((-1 : Int64), b56')
else
ck (x1 - (1 : Int32)) 4096 (
some ((b56' (x1 - (1 : Int32)).toNatClampNeg), b56'))))
else
lq5 (f_X7_assignNow_49 N i6 b54 nx39) N x1 x2 (0 : Int32) (0 : Int32) b56')
def f_X7_assignNow_9 (N : Nat) (i6 : Int32) (b54 : Nat → Int64)  (nx9 : Int32 → Int32 → (Nat → Int64) → Option (Int64 × (Nat → Int64))) (x1 : Int32) (x2 : Int32) (b56' : Nat → Int64) : Option (Int64 × (Nat → Int64)) :=
(if x1 ≤ x2 then
lq3 (f_X7_assignNow_39 N i6 b54 ) N x1 (0 : Int32) b56'
else
(if x2 = (0 : Int32) then
ck x2 4096 (
nmd (vp_updL b56' x2.toNatClampNeg (0 : Int64)) fun w30_14 =>
nx9 x1 (x2 + (1 : Int32)) w30_14)
else
ck x2 4096 (
nmd (vp_updL b56' x2.toNatClampNeg (1000000000000 : Int64)) fun w30_12 =>
nx9 x1 (x2 + (1 : Int32)) w30_12)))
def f_X7_assignNow (N : Nat) (i6 : Int32) (b54 : Nat → Int64) (b56 : Nat → Int64)  : Option (Int64 × (Nat → Int64)) :=
lq3 (f_X7_assignNow_9 N i6 b54 ) N ((1 : Int32) <<< (i6 &&& 31)) (0 : Int32) b56
set_option maxHeartbeats 4000000 in
set_option maxRecDepth 100000 in
theorem s_X7_assignNow_76 {p : Program} {l : Launch} {e : Env} {s : State} {m : MethodId} {args : Array Value} {below : List Frame} {meth : Method} {c : Code} {D : va_G} {y : Nat → ClassId} {nn : Nat} {ad : Nat → Nat} {A0 : Nat → Prop} {I : Nat → Int32} {J : Nat → Int64} {A : Nat → Nat → Int32} {B : Nat → Nat → Int64} {G : Nat → Nat → Nat → Int32} (F : Fx p s m args meth c cX7_assignNow 5 wsX7_assignNow RX7 D y A0) (hr : meth.sig.returnType = (some .long)) {out : Int64 × (Nat → Int64)} {N : Nat} (nx39 : Int32 → Int32 → (Nat → Int64) → Option (Int64 × (Nat → Int64))) (hn39 : ∀ (x1 : Int32) (x2 : Int32) (b56' : Nat → Int64) (ls : Array Slot) (H : Heap) (locs : List Loc), nx39 x1 x2 b56' = some out → MM D y nn ad A0 s.heap I J A (va_up B 56 b56') G H locs → lv_has ls 5 [(0, .ref (ad 7)), (1, .int x1), (2, .int x2)] → W p l e ({ frames := 1, cells := 0, slots := 0, locals := 22 } : Room) s m args below meth c H locs 0 0 (MQ below (mQl D y nn ad A0 out.1 (I, J, A, (va_up B 56 out.2), G)) args s 0 0 A0) (F0 m 39 ls [])) (nx76 : Int32 → Int32 → Int32 → Int32 → (Nat → Int64) → Option (Int64 × (Nat → Int64))) (hn76 : ∀ (x1 : Int32) (x2 : Int32) (x3 : Int32) (x4 : Int32) (b56' : Nat → Int64) (ls : Array Slot) (H : Heap) (locs : List Loc), nx76 x1 x2 x3 x4 b56' = some out → MM D y nn ad A0 s.heap I J A (va_up B 56 b56') G H locs → lv_has ls 5 [(0, .ref (ad 7)), (1, .int x1), (2, .int x2), (3, .int x3), (4, .int x4)] → W p l e ({ frames := 1, cells := 0, slots := 0, locals := 22 } : Room) s m args below meth c H locs 0 0 (MQ below (mQl D y nn ad A0 out.1 (I, J, A, (va_up B 56 out.2), G)) args s 0 0 A0) (F0 m 76 ls [])) : ∀ (x1 : Int32) (x2 : Int32) (x3 : Int32) (x4 : Int32) (b56' : Nat → Int64) (ls : Array Slot) (H : Heap) (locs : List Loc), f_X7_assignNow_76 N (I 6) (B 54) nx39 nx76 x1 x2 x3 x4 b56' = some out → MM D y nn ad A0 s.heap I J A (va_up B 56 b56') G H locs → lv_has ls 5 [(0, .ref (ad 7)), (1, .int x1), (2, .int x2), (3, .int x3), (4, .int x4)] → W p l e ({ frames := 1, cells := 0, slots := 0, locals := 22 } : Room) s m args below meth c H locs 0 0 (MQ below (mQl D y nn ad A0 out.1 (I, J, A, (va_up B 56 out.2), G)) args s 0 0 A0) (F0 m 76 ls []) := by
  intro x1 x2 x3 x4 b56' ls H locs hE hM hl
  have hx := F.1.1
  have hb := F.1.2.1
  unfold f_X7_assignNow_76 at hE
  refine lv_iload hx hb dX7_assignNow_76 (lv_at hl 4 rfl) ?_
  refine lv_aload_n hx hb dX7_assignNow_78 rfl (lv_at hl 0 rfl) ?_
  refine m_get F hM 7 mg_7 rfl 1 (by decide) (by decide +kernel) (by decide +kernel) (v := .int (I 6)) rfl dX7_assignNow_79 ?_
  refine lv_icmp_ge (tgt := 182) hx hb dX7_assignNow_82 (by decide) (fun c82 => ?_) (fun c82 => ?_)
  · replace hE := (if_pos c82).symm.trans hE
    refine lv_iinc (v := x2 + (1 : Int32)) (lv' := [(2, .int (x2 + (1 : Int32))), (0, .ref (ad 7)), (1, .int x1), (3, .int x3), (4, .int x4)]) hx hb dX7_assignNow_182 hl (k := 2) rfl rfl (by decide) rfl (fun ls hl => ?_)
    refine lv_goto (tgt := 39) hx hb dX7_assignNow_185 (by decide) ?_
    exact hn39 x1 (x2 + (1 : Int32)) b56' ls H locs hE hM (lv_sub hl [1, 2, 0] rfl)
  · replace hE := (if_neg c82).symm.trans hE
    refine lv_iload_n hx hb dX7_assignNow_85 rfl (lv_at hl 3 rfl) ?_
    refine lv_aload_n hx hb dX7_assignNow_86 rfl (lv_at hl 0 rfl) ?_
    refine m_get F hM 7 mg_7 rfl 1 (by decide) (by decide +kernel) (by decide +kernel) (v := .int (I 6)) rfl dX7_assignNow_87 ?_
    refine lv_icmp_ge (tgt := 182) hx hb dX7_assignNow_90 (by decide) (fun c90 => ?_) (fun c90 => ?_)
    · replace hE := (if_pos c90).symm.trans hE
      refine lv_iinc (v := x2 + (1 : Int32)) (lv' := [(2, .int (x2 + (1 : Int32))), (0, .ref (ad 7)), (1, .int x1), (3, .int x3), (4, .int x4)]) hx hb dX7_assignNow_182 hl (k := 2) rfl rfl (by decide) rfl (fun ls hl => ?_)
      refine lv_goto (tgt := 39) hx hb dX7_assignNow_185 (by decide) ?_
      exact hn39 x1 (x2 + (1 : Int32)) b56' ls H locs hE hM (lv_sub hl [1, 2, 0] rfl)
    · replace hE := (if_neg c90).symm.trans hE
      refine lv_iload_n hx hb dX7_assignNow_93 rfl (lv_at hl 2 rfl) ?_
      refine lv_iload hx hb dX7_assignNow_94 (lv_at hl 4 rfl) ?_
      refine lv_ishr hx hb dX7_assignNow_96 ?_
      refine lv_iconst (v := 1) hx hb dX7_assignNow_97 (by decide) ?_
      refine lv_iand hx hb dX7_assignNow_98 ?_
      refine lv_if_ne (tgt := 176) hx hb dX7_assignNow_99 (by decide) (fun c99 => ?_) (fun c99 => ?_)
      · replace hE := (if_neg c99).symm.trans hE
        refine lv_iinc (v := x4 + (1 : Int32)) (lv' := [(4, .int (x4 + (1 : Int32))), (0, .ref (ad 7)), (1, .int x1), (2, .int x2), (3, .int x3)]) hx hb dX7_assignNow_176 hl (k := 4) rfl rfl (by decide) rfl (fun ls hl => ?_)
        refine lv_goto (tgt := 76) hx hb dX7_assignNow_179 (by decide) ?_
        exact hn76 x1 x2 x3 (x4 + (1 : Int32)) b56' ls H locs hE hM (lv_sub hl [1, 2, 3, 4, 0] rfl)
      · replace hE := (if_pos c99).symm.trans hE
        refine lv_iload hx hb dX7_assignNow_102 (lv_at hl 4 rfl) ?_
        refine lv_iload_n hx hb dX7_assignNow_104 rfl (lv_at hl 3 rfl) ?_
        refine lv_icmp_eq (tgt := 176) hx hb dX7_assignNow_105 (by decide) (fun c105 => ?_) (fun c105 => ?_)
        · replace hE := (if_pos c105).symm.trans hE
          refine lv_iinc (v := x4 + (1 : Int32)) (lv' := [(4, .int (x4 + (1 : Int32))), (0, .ref (ad 7)), (1, .int x1), (2, .int x2), (3, .int x3)]) hx hb dX7_assignNow_176 hl (k := 4) rfl rfl (by decide) rfl (fun ls hl => ?_)
          refine lv_goto (tgt := 76) hx hb dX7_assignNow_179 (by decide) ?_
          exact hn76 x1 x2 x3 (x4 + (1 : Int32)) b56' ls H locs hE hM (lv_sub hl [1, 2, 3, 4, 0] rfl)
        · replace hE := (if_neg c105).symm.trans hE
          refine lv_aload_n hx hb dX7_assignNow_108 rfl (lv_at hl 0 rfl) ?_
          refine lv_iload_n hx hb dX7_assignNow_109 rfl (lv_at hl 3 rfl) ?_
          refine lv_iload hx hb dX7_assignNow_110 (lv_at hl 4 rfl) ?_
          obtain ⟨o112_2, ho112_2, hE⟩ := bd_some hE
          refine m_callVl (As := [.int x3, .int x4]) (I2 := I) (J2 := J) (A2 := A) (B2 := (va_up B 56 b56')) (G2 := G) F hM (c_X7_way_ l D y nn ad H.size I J A (va_up B 56 b56') G x3 x4  o112_2 ho112_2) (cwV 2 F.1.2.2.2.2 gX7_assignNow_X7_way_ rfl rfl rfl (by decide +kernel) ⟨Nat.le_of_ble_eq_true rfl, Nat.le_of_ble_eq_true rfl⟩) (m_recv F hM mg_7 rfl) rfl hl.1 (Nat.le_of_ble_eq_true rfl) dX7_assignNow_112 ⟨Nat.le_refl 0, Nat.le_refl 0⟩ rfl rfl rfl rfl rfl (fun H locs hM => ?_)
          refine lv_ldc2 (v := (1000000000000)) hx hb F.1.2.2.2.1 (F.1.2.2.2.2 (.constantLong RX7 52 (1000000000000)) (by decide +kernel)) dX7_assignNow_115 ?_
          refine m_lge (tgt := 176) F dX7_assignNow_118 dX7_assignNow_119 (by decide) (fun c119 => ?_) (fun c119 => ?_)
          · replace hE := (if_pos c119).symm.trans hE
            refine lv_iinc (v := x4 + (1 : Int32)) (lv' := [(4, .int (x4 + (1 : Int32))), (0, .ref (ad 7)), (1, .int x1), (2, .int x2), (3, .int x3)]) hx hb dX7_assignNow_176 hl (k := 4) rfl rfl (by decide) rfl (fun ls hl => ?_)
            refine lv_goto (tgt := 76) hx hb dX7_assignNow_179 (by decide) ?_
            exact hn76 x1 x2 x3 (x4 + (1 : Int32)) b56' ls H locs hE hM (lv_sub hl [1, 2, 3, 4, 0] rfl)
          · replace hE := (if_neg c119).symm.trans hE
            refine lv_aload_n hx hb dX7_assignNow_122 rfl (lv_at hl 0 rfl) ?_
            refine m_get F hM 7 mg_7 rfl 10 (by decide) (by decide +kernel) (by decide +kernel) (v := .ref (ad 56)) rfl dX7_assignNow_123 ?_
            refine lv_iload_n hx hb dX7_assignNow_126 rfl (lv_at hl 2 rfl) ?_
            obtain ⟨hi127_3, hE⟩ := ck_some hE
            refine m_lald (g := b56') F hM mg_56 rfl hi127_3 dX7_assignNow_127 ?_
            refine lv_aload_n hx hb dX7_assignNow_128 rfl (lv_at hl 0 rfl) ?_
            refine lv_iload_n hx hb dX7_assignNow_129 rfl (lv_at hl 3 rfl) ?_
            refine lv_iload hx hb dX7_assignNow_130 (lv_at hl 4 rfl) ?_
            obtain ⟨o132_4, ho132_4, hE⟩ := bd_some hE
            refine m_callVl (As := [.int x3, .int x4]) (I2 := I) (J2 := J) (A2 := A) (B2 := (va_up B 56 b56')) (G2 := G) F hM (c_X7_way_ l D y nn ad H.size I J A (va_up B 56 b56') G x3 x4  o132_4 ho132_4) (cwV 2 F.1.2.2.2.2 gX7_assignNow_X7_way_ rfl rfl rfl (by decide +kernel) ⟨Nat.le_of_ble_eq_true rfl, Nat.le_of_ble_eq_true rfl⟩) (m_recv F hM mg_7 rfl) rfl hl.1 (Nat.le_of_ble_eq_true rfl) dX7_assignNow_132 ⟨Nat.le_refl 0, Nat.le_refl 0⟩ rfl rfl rfl rfl rfl (fun H locs hM => ?_)
            refine lv_ladd hx hb dX7_assignNow_135 ?_
            refine lv_aload_n hx hb dX7_assignNow_136 rfl (lv_at hl 0 rfl) ?_
            refine m_get F hM 7 mg_7 rfl 10 (by decide) (by decide +kernel) (by decide +kernel) (v := .ref (ad 56)) rfl dX7_assignNow_137 ?_
            refine lv_iload_n hx hb dX7_assignNow_140 rfl (lv_at hl 2 rfl) ?_
            refine lv_iconst (v := 1) hx hb dX7_assignNow_141 (by decide) ?_
            refine lv_iload hx hb dX7_assignNow_142 (lv_at hl 4 rfl) ?_
            refine lv_ishl hx hb dX7_assignNow_144 ?_
            refine lv_ior hx hb dX7_assignNow_145 ?_
            obtain ⟨hi146_5, hE⟩ := ck_some hE
            refine m_lald (g := b56') F hM mg_56 rfl hi146_5 dX7_assignNow_146 ?_
            refine m_lge (tgt := 176) F dX7_assignNow_147 dX7_assignNow_148 (by decide) (fun c148 => ?_) (fun c148 => ?_)
            · replace hE := (if_pos c148).symm.trans hE
              refine lv_iinc (v := x4 + (1 : Int32)) (lv' := [(4, .int (x4 + (1 : Int32))), (0, .ref (ad 7)), (1, .int x1), (2, .int x2), (3, .int x3)]) hx hb dX7_assignNow_176 hl (k := 4) rfl rfl (by decide) rfl (fun ls hl => ?_)
              refine lv_goto (tgt := 76) hx hb dX7_assignNow_179 (by decide) ?_
              exact hn76 x1 x2 x3 (x4 + (1 : Int32)) b56' ls H locs hE hM (lv_sub hl [1, 2, 3, 4, 0] rfl)
            · replace hE := (if_neg c148).symm.trans hE
              refine lv_aload_n hx hb dX7_assignNow_151 rfl (lv_at hl 0 rfl) ?_
              refine m_get F hM 7 mg_7 rfl 10 (by decide) (by decide +kernel) (by decide +kernel) (v := .ref (ad 56)) rfl dX7_assignNow_152 ?_
              refine lv_iload_n hx hb dX7_assignNow_155 rfl (lv_at hl 2 rfl) ?_
              refine lv_iconst (v := 1) hx hb dX7_assignNow_156 (by decide) ?_
              refine lv_iload hx hb dX7_assignNow_157 (lv_at hl 4 rfl) ?_
              refine lv_ishl hx hb dX7_assignNow_159 ?_
              refine lv_ior hx hb dX7_assignNow_160 ?_
              refine lv_aload_n hx hb dX7_assignNow_161 rfl (lv_at hl 0 rfl) ?_
              refine m_get F hM 7 mg_7 rfl 10 (by decide) (by decide +kernel) (by decide +kernel) (v := .ref (ad 56)) rfl dX7_assignNow_162 ?_
              refine lv_iload_n hx hb dX7_assignNow_165 rfl (lv_at hl 2 rfl) ?_
              obtain ⟨hi166_6, hE⟩ := ck_some hE
              refine m_lald (g := b56') F hM mg_56 rfl hi166_6 dX7_assignNow_166 ?_
              refine lv_aload_n hx hb dX7_assignNow_167 rfl (lv_at hl 0 rfl) ?_
              refine lv_iload_n hx hb dX7_assignNow_168 rfl (lv_at hl 3 rfl) ?_
              refine lv_iload hx hb dX7_assignNow_169 (lv_at hl 4 rfl) ?_
              obtain ⟨o171_7, ho171_7, hE⟩ := bd_some hE
              refine m_callVl (As := [.int x3, .int x4]) (I2 := I) (J2 := J) (A2 := A) (B2 := (va_up B 56 b56')) (G2 := G) F hM (c_X7_way_ l D y nn ad H.size I J A (va_up B 56 b56') G x3 x4  o171_7 ho171_7) (cwV 2 F.1.2.2.2.2 gX7_assignNow_X7_way_ rfl rfl rfl (by decide +kernel) ⟨Nat.le_of_ble_eq_true rfl, Nat.le_of_ble_eq_true rfl⟩) (m_recv F hM mg_7 rfl) rfl hl.1 (Nat.le_of_ble_eq_true rfl) dX7_assignNow_171 ⟨Nat.le_refl 0, Nat.le_refl 0⟩ rfl rfl rfl rfl rfl (fun H locs hM => ?_)
              refine lv_ladd hx hb dX7_assignNow_174 ?_
              obtain ⟨hi175_8, hE⟩ := ck_some hE
              obtain ⟨w175_9, ew175_9, hE⟩ := nmd_some hE
              refine m_last (f := b56') (B' := (va_up B 56 w175_9)) F hM mg_56 ms_56 (by rw [ew175_9]; exact (bx_uu _ _ _ _)) hi175_8 dX7_assignNow_175 (fun H locs hM => ?_)
              refine lv_iinc (v := x4 + (1 : Int32)) (lv' := [(4, .int (x4 + (1 : Int32))), (0, .ref (ad 7)), (1, .int x1), (2, .int x2), (3, .int x3)]) hx hb dX7_assignNow_176 hl (k := 4) rfl rfl (by decide) rfl (fun ls hl => ?_)
              refine lv_goto (tgt := 76) hx hb dX7_assignNow_179 (by decide) ?_
              exact hn76 x1 x2 x3 (x4 + (1 : Int32)) w175_9 ls H locs hE hM (lv_sub hl [1, 2, 3, 4, 0] rfl)
theorem k_X7_assignNow_76 {p : Program} {l : Launch} {e : Env} {s : State} {m : MethodId} {args : Array Value} {below : List Frame} {meth : Method} {c : Code} {D : va_G} {y : Nat → ClassId} {nn : Nat} {ad : Nat → Nat} {A0 : Nat → Prop} {I : Nat → Int32} {J : Nat → Int64} {A : Nat → Nat → Int32} {B : Nat → Nat → Int64} {G : Nat → Nat → Nat → Int32} (F : Fx p s m args meth c cX7_assignNow 5 wsX7_assignNow RX7 D y A0) (hr : meth.sig.returnType = (some .long)) {out : Int64 × (Nat → Int64)} {N : Nat} (nx39 : Int32 → Int32 → (Nat → Int64) → Option (Int64 × (Nat → Int64))) (hn39 : ∀ (x1 : Int32) (x2 : Int32) (b56' : Nat → Int64) (ls : Array Slot) (H : Heap) (locs : List Loc), nx39 x1 x2 b56' = some out → MM D y nn ad A0 s.heap I J A (va_up B 56 b56') G H locs → lv_has ls 5 [(0, .ref (ad 7)), (1, .int x1), (2, .int x2)] → W p l e ({ frames := 1, cells := 0, slots := 0, locals := 22 } : Room) s m args below meth c H locs 0 0 (MQ below (mQl D y nn ad A0 out.1 (I, J, A, (va_up B 56 out.2), G)) args s 0 0 A0) (F0 m 39 ls [])) : ∀ (n : Nat), ∀ (x1 : Int32) (x2 : Int32) (x3 : Int32) (x4 : Int32) (b56' : Nat → Int64) (ls : Array Slot) (H : Heap) (locs : List Loc), lq5 (f_X7_assignNow_76 N (I 6) (B 54) nx39) n x1 x2 x3 x4 b56' = some out → MM D y nn ad A0 s.heap I J A (va_up B 56 b56') G H locs → lv_has ls 5 [(0, .ref (ad 7)), (1, .int x1), (2, .int x2), (3, .int x3), (4, .int x4)] → W p l e ({ frames := 1, cells := 0, slots := 0, locals := 22 } : Room) s m args below meth c H locs 0 0 (MQ below (mQl D y nn ad A0 out.1 (I, J, A, (va_up B 56 out.2), G)) args s 0 0 A0) (F0 m 76 ls []) := by
  intro n
  induction n with
  | zero =>
    intro x1 x2 x3 x4 b56' ls H locs hE
    cases (show (none : Option _) = some out from hE)
  | succ n ih =>
    intro x1 x2 x3 x4 b56' ls H locs hE hM hl
    exact s_X7_assignNow_76 F hr (N := N) nx39 hn39 (lq5 (f_X7_assignNow_76 N (I 6) (B 54) nx39) n) ih x1 x2 x3 x4 b56' ls H locs hE hM hl
set_option maxHeartbeats 4000000 in
set_option maxRecDepth 100000 in
theorem s_X7_assignNow_49 {p : Program} {l : Launch} {e : Env} {s : State} {m : MethodId} {args : Array Value} {below : List Frame} {meth : Method} {c : Code} {D : va_G} {y : Nat → ClassId} {nn : Nat} {ad : Nat → Nat} {A0 : Nat → Prop} {I : Nat → Int32} {J : Nat → Int64} {A : Nat → Nat → Int32} {B : Nat → Nat → Int64} {G : Nat → Nat → Nat → Int32} (F : Fx p s m args meth c cX7_assignNow 5 wsX7_assignNow RX7 D y A0) (hr : meth.sig.returnType = (some .long)) {out : Int64 × (Nat → Int64)} {N : Nat} (nx39 : Int32 → Int32 → (Nat → Int64) → Option (Int64 × (Nat → Int64))) (hn39 : ∀ (x1 : Int32) (x2 : Int32) (b56' : Nat → Int64) (ls : Array Slot) (H : Heap) (locs : List Loc), nx39 x1 x2 b56' = some out → MM D y nn ad A0 s.heap I J A (va_up B 56 b56') G H locs → lv_has ls 5 [(0, .ref (ad 7)), (1, .int x1), (2, .int x2)] → W p l e ({ frames := 1, cells := 0, slots := 0, locals := 22 } : Room) s m args below meth c H locs 0 0 (MQ below (mQl D y nn ad A0 out.1 (I, J, A, (va_up B 56 out.2), G)) args s 0 0 A0) (F0 m 39 ls [])) (nx49 : Int32 → Int32 → Int32 → Int32 → (Nat → Int64) → Option (Int64 × (Nat → Int64))) (hn49 : ∀ (x1 : Int32) (x2 : Int32) (x3 : Int32) (x4 : Int32) (b56' : Nat → Int64) (ls : Array Slot) (H : Heap) (locs : List Loc), nx49 x1 x2 x3 x4 b56' = some out → MM D y nn ad A0 s.heap I J A (va_up B 56 b56') G H locs → lv_has ls 5 [(0, .ref (ad 7)), (1, .int x1), (2, .int x2), (3, .int x3), (4, .int x4)] → W p l e ({ frames := 1, cells := 0, slots := 0, locals := 22 } : Room) s m args below meth c H locs 0 0 (MQ below (mQl D y nn ad A0 out.1 (I, J, A, (va_up B 56 out.2), G)) args s 0 0 A0) (F0 m 49 ls [])) : ∀ (x1 : Int32) (x2 : Int32) (x3 : Int32) (x4 : Int32) (b56' : Nat → Int64) (ls : Array Slot) (H : Heap) (locs : List Loc), f_X7_assignNow_49 N (I 6) (B 54) nx39 nx49 x1 x2 x3 x4 b56' = some out → MM D y nn ad A0 s.heap I J A (va_up B 56 b56') G H locs → lv_has ls 5 [(0, .ref (ad 7)), (1, .int x1), (2, .int x2), (3, .int x3), (4, .int x4)] → W p l e ({ frames := 1, cells := 0, slots := 0, locals := 22 } : Room) s m args below meth c H locs 0 0 (MQ below (mQl D y nn ad A0 out.1 (I, J, A, (va_up B 56 out.2), G)) args s 0 0 A0) (F0 m 49 ls []) := by
  intro x1 x2 x3 x4 b56' ls H locs hE hM hl
  have hx := F.1.1
  have hb := F.1.2.1
  unfold f_X7_assignNow_49 at hE
  refine lv_iload hx hb dX7_assignNow_49 (lv_at hl 4 rfl) ?_
  refine lv_aload_n hx hb dX7_assignNow_51 rfl (lv_at hl 0 rfl) ?_
  refine m_get F hM 7 mg_7 rfl 1 (by decide) (by decide +kernel) (by decide +kernel) (v := .int (I 6)) rfl dX7_assignNow_52 ?_
  refine lv_icmp_ge (tgt := 73) hx hb dX7_assignNow_55 (by decide) (fun c55 => ?_) (fun c55 => ?_)
  · replace hE := (if_pos c55).symm.trans hE
    refine lv_iconst (v := 0) hx hb dX7_assignNow_73 (by decide) ?_
    refine lv_istore (lv' := [(4, .int (0 : Int32)), (0, .ref (ad 7)), (1, .int x1), (2, .int x2), (3, .int x3)]) hx hb dX7_assignNow_74 hl (by decide) rfl (fun ls hl => ?_)
    exact k_X7_assignNow_76 F hr (N := N) nx39 hn39 N x1 x2 x3 (0 : Int32) b56' ls H locs hE hM (lv_sub hl [1, 2, 3, 4, 0] rfl)
  · replace hE := (if_neg c55).symm.trans hE
    refine lv_iload_n hx hb dX7_assignNow_58 rfl (lv_at hl 3 rfl) ?_
    refine lv_iload_n hx hb dX7_assignNow_59 rfl (lv_at hl 2 rfl) ?_
    refine lv_iload hx hb dX7_assignNow_60 (lv_at hl 4 rfl) ?_
    refine lv_ishr hx hb dX7_assignNow_62 ?_
    refine lv_iconst (v := 1) hx hb dX7_assignNow_63 (by decide) ?_
    refine lv_iand hx hb dX7_assignNow_64 ?_
    refine lv_iadd hx hb dX7_assignNow_65 ?_
    obtain ⟨v66_10, ev66_10, hE⟩ := nmd_some hE
    refine m_topi ev66_10 ?_
    refine lv_istore_n (lv' := [(3, .int v66_10), (0, .ref (ad 7)), (1, .int x1), (2, .int x2), (4, .int x4)]) hx hb dX7_assignNow_66 rfl hl (by decide) rfl (fun ls hl => ?_)
    refine lv_iinc (v := x4 + (1 : Int32)) (lv' := [(4, .int (x4 + (1 : Int32))), (3, .int v66_10), (0, .ref (ad 7)), (1, .int x1), (2, .int x2)]) hx hb dX7_assignNow_67 hl (k := 4) rfl rfl (by decide) rfl (fun ls hl => ?_)
    refine lv_goto (tgt := 49) hx hb dX7_assignNow_70 (by decide) ?_
    exact hn49 x1 x2 v66_10 (x4 + (1 : Int32)) b56' ls H locs hE hM (lv_sub hl [2, 3, 4, 1, 0] rfl)
theorem k_X7_assignNow_49 {p : Program} {l : Launch} {e : Env} {s : State} {m : MethodId} {args : Array Value} {below : List Frame} {meth : Method} {c : Code} {D : va_G} {y : Nat → ClassId} {nn : Nat} {ad : Nat → Nat} {A0 : Nat → Prop} {I : Nat → Int32} {J : Nat → Int64} {A : Nat → Nat → Int32} {B : Nat → Nat → Int64} {G : Nat → Nat → Nat → Int32} (F : Fx p s m args meth c cX7_assignNow 5 wsX7_assignNow RX7 D y A0) (hr : meth.sig.returnType = (some .long)) {out : Int64 × (Nat → Int64)} {N : Nat} (nx39 : Int32 → Int32 → (Nat → Int64) → Option (Int64 × (Nat → Int64))) (hn39 : ∀ (x1 : Int32) (x2 : Int32) (b56' : Nat → Int64) (ls : Array Slot) (H : Heap) (locs : List Loc), nx39 x1 x2 b56' = some out → MM D y nn ad A0 s.heap I J A (va_up B 56 b56') G H locs → lv_has ls 5 [(0, .ref (ad 7)), (1, .int x1), (2, .int x2)] → W p l e ({ frames := 1, cells := 0, slots := 0, locals := 22 } : Room) s m args below meth c H locs 0 0 (MQ below (mQl D y nn ad A0 out.1 (I, J, A, (va_up B 56 out.2), G)) args s 0 0 A0) (F0 m 39 ls [])) : ∀ (n : Nat), ∀ (x1 : Int32) (x2 : Int32) (x3 : Int32) (x4 : Int32) (b56' : Nat → Int64) (ls : Array Slot) (H : Heap) (locs : List Loc), lq5 (f_X7_assignNow_49 N (I 6) (B 54) nx39) n x1 x2 x3 x4 b56' = some out → MM D y nn ad A0 s.heap I J A (va_up B 56 b56') G H locs → lv_has ls 5 [(0, .ref (ad 7)), (1, .int x1), (2, .int x2), (3, .int x3), (4, .int x4)] → W p l e ({ frames := 1, cells := 0, slots := 0, locals := 22 } : Room) s m args below meth c H locs 0 0 (MQ below (mQl D y nn ad A0 out.1 (I, J, A, (va_up B 56 out.2), G)) args s 0 0 A0) (F0 m 49 ls []) := by
  intro n
  induction n with
  | zero =>
    intro x1 x2 x3 x4 b56' ls H locs hE
    cases (show (none : Option _) = some out from hE)
  | succ n ih =>
    intro x1 x2 x3 x4 b56' ls H locs hE hM hl
    exact s_X7_assignNow_49 F hr (N := N) nx39 hn39 (lq5 (f_X7_assignNow_49 N (I 6) (B 54) nx39) n) ih x1 x2 x3 x4 b56' ls H locs hE hM hl
set_option maxHeartbeats 4000000 in
set_option maxRecDepth 100000 in
theorem s_X7_assignNow_39 {p : Program} {l : Launch} {e : Env} {s : State} {m : MethodId} {args : Array Value} {below : List Frame} {meth : Method} {c : Code} {D : va_G} {y : Nat → ClassId} {nn : Nat} {ad : Nat → Nat} {A0 : Nat → Prop} {I : Nat → Int32} {J : Nat → Int64} {A : Nat → Nat → Int32} {B : Nat → Nat → Int64} {G : Nat → Nat → Nat → Int32} (F : Fx p s m args meth c cX7_assignNow 5 wsX7_assignNow RX7 D y A0) (hr : meth.sig.returnType = (some .long)) {out : Int64 × (Nat → Int64)} {N : Nat}  (nx39 : Int32 → Int32 → (Nat → Int64) → Option (Int64 × (Nat → Int64))) (hn39 : ∀ (x1 : Int32) (x2 : Int32) (b56' : Nat → Int64) (ls : Array Slot) (H : Heap) (locs : List Loc), nx39 x1 x2 b56' = some out → MM D y nn ad A0 s.heap I J A (va_up B 56 b56') G H locs → lv_has ls 5 [(0, .ref (ad 7)), (1, .int x1), (2, .int x2)] → W p l e ({ frames := 1, cells := 0, slots := 0, locals := 22 } : Room) s m args below meth c H locs 0 0 (MQ below (mQl D y nn ad A0 out.1 (I, J, A, (va_up B 56 out.2), G)) args s 0 0 A0) (F0 m 39 ls [])) : ∀ (x1 : Int32) (x2 : Int32) (b56' : Nat → Int64) (ls : Array Slot) (H : Heap) (locs : List Loc), f_X7_assignNow_39 N (I 6) (B 54)  nx39 x1 x2 b56' = some out → MM D y nn ad A0 s.heap I J A (va_up B 56 b56') G H locs → lv_has ls 5 [(0, .ref (ad 7)), (1, .int x1), (2, .int x2)] → W p l e ({ frames := 1, cells := 0, slots := 0, locals := 22 } : Room) s m args below meth c H locs 0 0 (MQ below (mQl D y nn ad A0 out.1 (I, J, A, (va_up B 56 out.2), G)) args s 0 0 A0) (F0 m 39 ls []) := by
  intro x1 x2 b56' ls H locs hE hM hl
  have hx := F.1.1
  have hb := F.1.2.1
  unfold f_X7_assignNow_39 at hE
  refine lv_iload_n hx hb dX7_assignNow_39 rfl (lv_at hl 2 rfl) ?_
  refine lv_iload_n hx hb dX7_assignNow_40 rfl (lv_at hl 1 rfl) ?_
  refine lv_icmp_ge (tgt := 188) hx hb dX7_assignNow_41 (by decide) (fun c41 => ?_) (fun c41 => ?_)
  · replace hE := (if_pos c41).symm.trans hE
    refine lv_aload_n hx hb dX7_assignNow_188 rfl (lv_at hl 0 rfl) ?_
    refine m_get F hM 7 mg_7 rfl 10 (by decide) (by decide +kernel) (by decide +kernel) (v := .ref (ad 56)) rfl dX7_assignNow_189 ?_
    refine lv_iload_n hx hb dX7_assignNow_192 rfl (lv_at hl 1 rfl) ?_
    refine lv_iconst (v := 1) hx hb dX7_assignNow_193 (by decide) ?_
    refine lv_isub hx hb dX7_assignNow_194 ?_
    obtain ⟨hi195_0, hE⟩ := ck_some hE
    refine m_lald (g := b56') F hM mg_56 rfl hi195_0 dX7_assignNow_195 ?_
    refine lv_ldc2 (v := (1000000000000)) hx hb F.1.2.2.2.1 (F.1.2.2.2.2 (.constantLong RX7 52 (1000000000000)) (by decide +kernel)) dX7_assignNow_196 ?_
    refine m_lne (tgt := 209) F dX7_assignNow_199 dX7_assignNow_200 (by decide) (fun c200 => ?_) (fun c200 => ?_)
    · replace hE := (if_neg c200).symm.trans hE
      refine lv_aload_n hx hb dX7_assignNow_209 rfl (lv_at hl 0 rfl) ?_
      refine m_get F hM 7 mg_7 rfl 10 (by decide) (by decide +kernel) (by decide +kernel) (v := .ref (ad 56)) rfl dX7_assignNow_210 ?_
      refine lv_iload_n hx hb dX7_assignNow_213 rfl (lv_at hl 1 rfl) ?_
      refine lv_iconst (v := 1) hx hb dX7_assignNow_214 (by decide) ?_
      refine lv_isub hx hb dX7_assignNow_215 ?_
      obtain ⟨hi216_1, hE⟩ := ck_some hE
      refine m_lald (g := b56') F hM mg_56 rfl hi216_1 dX7_assignNow_216 ?_
      obtain rfl := Option.some.inj hE
      exact m_lret F hM hr rfl rfl dX7_assignNow_217
    · replace hE := (if_pos c200).symm.trans hE
      refine lv_ldc2 (v := (-1)) hx hb F.1.2.2.2.1 (F.1.2.2.2.2 (.constantLong RX7 96 (-1)) (by decide +kernel)) dX7_assignNow_203 ?_
      refine lv_goto (tgt := 217) hx hb dX7_assignNow_206 (by decide) ?_
      obtain rfl := Option.some.inj hE
      exact m_lret F hM hr rfl rfl dX7_assignNow_217
  · replace hE := (if_neg c41).symm.trans hE
    refine lv_iconst (v := 0) hx hb dX7_assignNow_44 (by decide) ?_
    refine lv_istore_n (lv' := [(3, .int (0 : Int32)), (0, .ref (ad 7)), (1, .int x1), (2, .int x2)]) hx hb dX7_assignNow_45 rfl hl (by decide) rfl (fun ls hl => ?_)
    refine lv_iconst (v := 0) hx hb dX7_assignNow_46 (by decide) ?_
    refine lv_istore (lv' := [(4, .int (0 : Int32)), (3, .int (0 : Int32)), (0, .ref (ad 7)), (1, .int x1), (2, .int x2)]) hx hb dX7_assignNow_47 hl (by decide) rfl (fun ls hl => ?_)
    exact k_X7_assignNow_49 F hr (N := N) nx39 hn39 N x1 x2 (0 : Int32) (0 : Int32) b56' ls H locs hE hM (lv_sub hl [2, 3, 4, 1, 0] rfl)
theorem k_X7_assignNow_39 {p : Program} {l : Launch} {e : Env} {s : State} {m : MethodId} {args : Array Value} {below : List Frame} {meth : Method} {c : Code} {D : va_G} {y : Nat → ClassId} {nn : Nat} {ad : Nat → Nat} {A0 : Nat → Prop} {I : Nat → Int32} {J : Nat → Int64} {A : Nat → Nat → Int32} {B : Nat → Nat → Int64} {G : Nat → Nat → Nat → Int32} (F : Fx p s m args meth c cX7_assignNow 5 wsX7_assignNow RX7 D y A0) (hr : meth.sig.returnType = (some .long)) {out : Int64 × (Nat → Int64)} {N : Nat}  : ∀ (n : Nat), ∀ (x1 : Int32) (x2 : Int32) (b56' : Nat → Int64) (ls : Array Slot) (H : Heap) (locs : List Loc), lq3 (f_X7_assignNow_39 N (I 6) (B 54) ) n x1 x2 b56' = some out → MM D y nn ad A0 s.heap I J A (va_up B 56 b56') G H locs → lv_has ls 5 [(0, .ref (ad 7)), (1, .int x1), (2, .int x2)] → W p l e ({ frames := 1, cells := 0, slots := 0, locals := 22 } : Room) s m args below meth c H locs 0 0 (MQ below (mQl D y nn ad A0 out.1 (I, J, A, (va_up B 56 out.2), G)) args s 0 0 A0) (F0 m 39 ls []) := by
  intro n
  induction n with
  | zero =>
    intro x1 x2 b56' ls H locs hE
    cases (show (none : Option _) = some out from hE)
  | succ n ih =>
    intro x1 x2 b56' ls H locs hE hM hl
    exact s_X7_assignNow_39 F hr (N := N)  (lq3 (f_X7_assignNow_39 N (I 6) (B 54) ) n) ih x1 x2 b56' ls H locs hE hM hl
set_option maxHeartbeats 4000000 in
set_option maxRecDepth 100000 in
theorem s_X7_assignNow_9 {p : Program} {l : Launch} {e : Env} {s : State} {m : MethodId} {args : Array Value} {below : List Frame} {meth : Method} {c : Code} {D : va_G} {y : Nat → ClassId} {nn : Nat} {ad : Nat → Nat} {A0 : Nat → Prop} {I : Nat → Int32} {J : Nat → Int64} {A : Nat → Nat → Int32} {B : Nat → Nat → Int64} {G : Nat → Nat → Nat → Int32} (F : Fx p s m args meth c cX7_assignNow 5 wsX7_assignNow RX7 D y A0) (hr : meth.sig.returnType = (some .long)) {out : Int64 × (Nat → Int64)} {N : Nat}  (nx9 : Int32 → Int32 → (Nat → Int64) → Option (Int64 × (Nat → Int64))) (hn9 : ∀ (x1 : Int32) (x2 : Int32) (b56' : Nat → Int64) (ls : Array Slot) (H : Heap) (locs : List Loc), nx9 x1 x2 b56' = some out → MM D y nn ad A0 s.heap I J A (va_up B 56 b56') G H locs → lv_has ls 5 [(0, .ref (ad 7)), (1, .int x1), (2, .int x2)] → W p l e ({ frames := 1, cells := 0, slots := 0, locals := 22 } : Room) s m args below meth c H locs 0 0 (MQ below (mQl D y nn ad A0 out.1 (I, J, A, (va_up B 56 out.2), G)) args s 0 0 A0) (F0 m 9 ls [])) : ∀ (x1 : Int32) (x2 : Int32) (b56' : Nat → Int64) (ls : Array Slot) (H : Heap) (locs : List Loc), f_X7_assignNow_9 N (I 6) (B 54)  nx9 x1 x2 b56' = some out → MM D y nn ad A0 s.heap I J A (va_up B 56 b56') G H locs → lv_has ls 5 [(0, .ref (ad 7)), (1, .int x1), (2, .int x2)] → W p l e ({ frames := 1, cells := 0, slots := 0, locals := 22 } : Room) s m args below meth c H locs 0 0 (MQ below (mQl D y nn ad A0 out.1 (I, J, A, (va_up B 56 out.2), G)) args s 0 0 A0) (F0 m 9 ls []) := by
  intro x1 x2 b56' ls H locs hE hM hl
  have hx := F.1.1
  have hb := F.1.2.1
  unfold f_X7_assignNow_9 at hE
  refine lv_iload_n hx hb dX7_assignNow_9 rfl (lv_at hl 2 rfl) ?_
  refine lv_iload_n hx hb dX7_assignNow_10 rfl (lv_at hl 1 rfl) ?_
  refine lv_icmp_ge (tgt := 37) hx hb dX7_assignNow_11 (by decide) (fun c11 => ?_) (fun c11 => ?_)
  · replace hE := (if_pos c11).symm.trans hE
    refine lv_iconst (v := 0) hx hb dX7_assignNow_37 (by decide) ?_
    refine lv_istore_n (lv' := [(2, .int (0 : Int32)), (0, .ref (ad 7)), (1, .int x1)]) hx hb dX7_assignNow_38 rfl hl (by decide) rfl (fun ls hl => ?_)
    exact k_X7_assignNow_39 F hr (N := N)  N x1 (0 : Int32) b56' ls H locs hE hM (lv_sub hl [1, 2, 0] rfl)
  · replace hE := (if_neg c11).symm.trans hE
    refine lv_aload_n hx hb dX7_assignNow_14 rfl (lv_at hl 0 rfl) ?_
    refine m_get F hM 7 mg_7 rfl 10 (by decide) (by decide +kernel) (by decide +kernel) (v := .ref (ad 56)) rfl dX7_assignNow_15 ?_
    refine lv_iload_n hx hb dX7_assignNow_18 rfl (lv_at hl 2 rfl) ?_
    refine lv_iload_n hx hb dX7_assignNow_19 rfl (lv_at hl 2 rfl) ?_
    refine lv_if_ne (tgt := 27) hx hb dX7_assignNow_20 (by decide) (fun c20 => ?_) (fun c20 => ?_)
    · replace hE := (if_neg c20).symm.trans hE
      refine lv_ldc2 (v := (1000000000000)) hx hb F.1.2.2.2.1 (F.1.2.2.2.2 (.constantLong RX7 52 (1000000000000)) (by decide +kernel)) dX7_assignNow_27 ?_
      obtain ⟨hi30_11, hE⟩ := ck_some hE
      obtain ⟨w30_12, ew30_12, hE⟩ := nmd_some hE
      refine m_last (f := b56') (B' := (va_up B 56 w30_12)) F hM mg_56 ms_56 (by rw [ew30_12]; exact (bx_uu _ _ _ _)) hi30_11 dX7_assignNow_30 (fun H locs hM => ?_)
      refine lv_iinc (v := x2 + (1 : Int32)) (lv' := [(2, .int (x2 + (1 : Int32))), (0, .ref (ad 7)), (1, .int x1)]) hx hb dX7_assignNow_31 hl (k := 2) rfl rfl (by decide) rfl (fun ls hl => ?_)
      refine lv_goto (tgt := 9) hx hb dX7_assignNow_34 (by decide) ?_
      exact hn9 x1 (x2 + (1 : Int32)) w30_12 ls H locs hE hM (lv_sub hl [1, 2, 0] rfl)
    · replace hE := (if_pos c20).symm.trans hE
      refine lv_lconst (v := 0) hx hb dX7_assignNow_23 (by decide) ?_
      refine lv_goto (tgt := 30) hx hb dX7_assignNow_24 (by decide) ?_
      obtain ⟨hi30_13, hE⟩ := ck_some hE
      obtain ⟨w30_14, ew30_14, hE⟩ := nmd_some hE
      refine m_last (f := b56') (B' := (va_up B 56 w30_14)) F hM mg_56 ms_56 (by rw [ew30_14]; exact (bx_uu _ _ _ _)) hi30_13 dX7_assignNow_30 (fun H locs hM => ?_)
      refine lv_iinc (v := x2 + (1 : Int32)) (lv' := [(2, .int (x2 + (1 : Int32))), (0, .ref (ad 7)), (1, .int x1)]) hx hb dX7_assignNow_31 hl (k := 2) rfl rfl (by decide) rfl (fun ls hl => ?_)
      refine lv_goto (tgt := 9) hx hb dX7_assignNow_34 (by decide) ?_
      exact hn9 x1 (x2 + (1 : Int32)) w30_14 ls H locs hE hM (lv_sub hl [1, 2, 0] rfl)
theorem k_X7_assignNow_9 {p : Program} {l : Launch} {e : Env} {s : State} {m : MethodId} {args : Array Value} {below : List Frame} {meth : Method} {c : Code} {D : va_G} {y : Nat → ClassId} {nn : Nat} {ad : Nat → Nat} {A0 : Nat → Prop} {I : Nat → Int32} {J : Nat → Int64} {A : Nat → Nat → Int32} {B : Nat → Nat → Int64} {G : Nat → Nat → Nat → Int32} (F : Fx p s m args meth c cX7_assignNow 5 wsX7_assignNow RX7 D y A0) (hr : meth.sig.returnType = (some .long)) {out : Int64 × (Nat → Int64)} {N : Nat}  : ∀ (n : Nat), ∀ (x1 : Int32) (x2 : Int32) (b56' : Nat → Int64) (ls : Array Slot) (H : Heap) (locs : List Loc), lq3 (f_X7_assignNow_9 N (I 6) (B 54) ) n x1 x2 b56' = some out → MM D y nn ad A0 s.heap I J A (va_up B 56 b56') G H locs → lv_has ls 5 [(0, .ref (ad 7)), (1, .int x1), (2, .int x2)] → W p l e ({ frames := 1, cells := 0, slots := 0, locals := 22 } : Room) s m args below meth c H locs 0 0 (MQ below (mQl D y nn ad A0 out.1 (I, J, A, (va_up B 56 out.2), G)) args s 0 0 A0) (F0 m 9 ls []) := by
  intro n
  induction n with
  | zero =>
    intro x1 x2 b56' ls H locs hE
    cases (show (none : Option _) = some out from hE)
  | succ n ih =>
    intro x1 x2 b56' ls H locs hE hM hl
    exact s_X7_assignNow_9 F hr (N := N)  (lq3 (f_X7_assignNow_9 N (I 6) (B 54) ) n) ih x1 x2 b56' ls H locs hE hM hl
set_option maxHeartbeats 4000000 in
set_option maxRecDepth 100000 in
theorem c_X7_assignNow (l : Launch) (D : va_G) (y : Nat → ClassId) (nn : Nat) (ad : Nat → Nat) (sz : Nat) (I : Nat → Int32) (J : Nat → Int64) (A : Nat → Nat → Int32) (B : Nat → Nat → Int64) (G : Nat → Nat → Nat → Int32)  (N : Nat) (out : Int64 × (Nat → Int64)) (hE : f_X7_assignNow N (I 6) (B 54) (B 56)  = some out) : Met l yX7_assignNow wsX7_assignNow ({ frames := 1, cells := 0, slots := 0, locals := 22 } : Room) (mPc [.ref (ad 7)] D y nn ad sz I J A B G) (mQl D y nn ad (mA y nn ad I J A B G sz) out.1 (I, J, A, (va_up B 56 out.2), G)) 0 0 (mA y nn ad I J A B G sz) := by
  refine Met.ofW (cc := cX7_assignNow) (maxL := 5) (ret := (some .long)) (by decide) rfl ?_
  intro p e s m args below meth c s₁ Bd hml hv
  obtain ⟨rfl, hsz, hP, hK, hD0, hN⟩ := hv
  have hr := Bd.returns
  subst hsz
  have F : Fx p s m ([.ref (ad 7)] : List Value).toArray meth c cX7_assignNow 5 wsX7_assignNow RX7 D y (mA y nn ad I J A B G s.heap.size) := ⟨⟨Bd.exec, Bd.bytes, hml, findClass_of_methodNamed Bd.named, atoms_spec (ws := wsX7_assignNow) Bd.pre⟩, hK, hN, fun q h => Or.inr h, Bd.notSynchronized⟩
  have hM := m_start (s := s) rfl hP hD0
  have hM := m_mem (I2 := I) (J2 := J) (A2 := A) (B2 := (va_up B 56 (B 56))) (G2 := G) hM (by rfl) (by rfl) (by rfl) (by simp only [up_id]) (by rfl)
  have hx := F.1.1
  have hb := F.1.2.1
  have hl := lv_entry ([.ref (ad 7)]) (n := 5) (Nat.le_of_ble_eq_true rfl)
  rw [lg_entry_eq]
  generalize (lg_sl ([.ref (ad 7)]) ++ List.replicate (5 - (lg_sl ([.ref (ad 7)])).length) Slot.unset).toArray = ls at hl ⊢
  have hl : lv_has ls 5 [(0, .ref (ad 7))] := hl
  show W p l e ({ frames := 1, cells := 0, slots := 0, locals := 22 } : Room) s m _ below meth c s.heap [] 0 0 _ _
  obtain ⟨locs, hlo⟩ : ∃ locs : List Loc, locs = [] := ⟨_, rfl⟩
  rw [← hlo]; rw [← hlo] at hM
  unfold f_X7_assignNow at hE
  revert hM
  suffices hH : ∀ H : Heap, MM D y nn ad (mA y nn ad I J A B G s.heap.size) s.heap I J A (va_up B 56 (B 56)) G H locs → W p l e ({ frames := 1, cells := 0, slots := 0, locals := 22 } : Room) s m ([.ref (ad 7)] : List Value).toArray below meth c H locs 0 0 (MQ below (mQl D y nn ad (mA y nn ad I J A B G s.heap.size) out.1 (I, J, A, (va_up B 56 out.2), G)) ([.ref (ad 7)] : List Value).toArray s 0 0 (mA y nn ad I J A B G s.heap.size)) (F0 m 0 ls []) from hH s.heap
  intro H hM
  refine lv_iconst (v := 1) hx hb dX7_assignNow_0 (by decide) ?_
  refine lv_aload_n hx hb dX7_assignNow_1 rfl (lv_at hl 0 rfl) ?_
  refine m_get F hM 7 mg_7 rfl 1 (by decide) (by decide +kernel) (by decide +kernel) (v := .int (I 6)) rfl dX7_assignNow_2 ?_
  refine lv_ishl hx hb dX7_assignNow_5 ?_
  refine lv_istore_n (lv' := [(1, .int ((1 : Int32) <<< ((I 6) &&& 31))), (0, .ref (ad 7))]) hx hb dX7_assignNow_6 rfl hl (by decide) rfl (fun ls hl => ?_)
  refine lv_iconst (v := 0) hx hb dX7_assignNow_7 (by decide) ?_
  refine lv_istore_n (lv' := [(2, .int (0 : Int32)), (1, .int ((1 : Int32) <<< ((I 6) &&& 31))), (0, .ref (ad 7))]) hx hb dX7_assignNow_8 rfl hl (by decide) rfl (fun ls hl => ?_)
  exact k_X7_assignNow_9 F hr (N := N)  N ((1 : Int32) <<< ((I 6) &&& 31)) (0 : Int32) (B 56) ls H locs hE hM (lv_sub hl [2, 1, 0] rfl)
/-! ===== X7_assign: reads I6 B54, writes I5 B56, frames 2, locals 46 ===== -/
def f_X7_assign (N : Nat) (i6 : Int32) (b54 : Nat → Int64) (i5 : Int32) (b56 : Nat → Int64)  : Option (Int64 × Int32 × (Nat → Int64)) :=
bd (f_X7_assignNow N i6 b54 b56) fun o6_0 =>
some (o6_0.1, (0 : Int32), o6_0.2)
set_option maxHeartbeats 4000000 in
set_option maxRecDepth 100000 in
theorem c_X7_assign (l : Launch) (D : va_G) (y : Nat → ClassId) (nn : Nat) (ad : Nat → Nat) (sz : Nat) (I : Nat → Int32) (J : Nat → Int64) (A : Nat → Nat → Int32) (B : Nat → Nat → Int64) (G : Nat → Nat → Nat → Int32)  (N : Nat) (out : Int64 × Int32 × (Nat → Int64)) (hE : f_X7_assign N (I 6) (B 54) (I 5) (B 56)  = some out) : Met l yX7_assign wsX7_assign ({ frames := 2, cells := 0, slots := 0, locals := 46 } : Room) (mPc [.ref (ad 7)] D y nn ad sz I J A B G) (mQl D y nn ad (mA y nn ad I J A B G sz) out.1 ((va_up I 5 out.2.1), J, A, (va_up B 56 out.2.2), G)) 0 0 (mA y nn ad I J A B G sz) := by
  refine Met.ofW (cc := cX7_assign) (maxL := 1) (ret := (some .long)) (by decide) rfl ?_
  intro p e s m args below meth c s₁ Bd hml hv
  obtain ⟨rfl, hsz, hP, hK, hD0, hN⟩ := hv
  have hr := Bd.returns
  subst hsz
  have F : Fx p s m ([.ref (ad 7)] : List Value).toArray meth c cX7_assign 1 wsX7_assign RX7 D y (mA y nn ad I J A B G s.heap.size) := ⟨⟨Bd.exec, Bd.bytes, hml, findClass_of_methodNamed Bd.named, atoms_spec (ws := wsX7_assign) Bd.pre⟩, hK, hN, fun q h => Or.inr h, Bd.notSynchronized⟩
  have hM := m_start (s := s) rfl hP hD0
  have hM := m_mem (I2 := (va_up I 5 (I 5))) (J2 := J) (A2 := A) (B2 := (va_up B 56 (B 56))) (G2 := G) hM (by simp only [up_id]) (by rfl) (by rfl) (by simp only [up_id]) (by rfl)
  have hx := F.1.1
  have hb := F.1.2.1
  have hl := lv_entry ([.ref (ad 7)]) (n := 1) (Nat.le_of_ble_eq_true rfl)
  rw [lg_entry_eq]
  generalize (lg_sl ([.ref (ad 7)]) ++ List.replicate (1 - (lg_sl ([.ref (ad 7)])).length) Slot.unset).toArray = ls at hl ⊢
  have hl : lv_has ls 1 [(0, .ref (ad 7))] := hl
  show W p l e ({ frames := 2, cells := 0, slots := 0, locals := 46 } : Room) s m _ below meth c s.heap [] 0 0 _ _
  obtain ⟨locs, hlo⟩ : ∃ locs : List Loc, locs = [] := ⟨_, rfl⟩
  rw [← hlo]; rw [← hlo] at hM
  unfold f_X7_assign at hE
  revert hM
  suffices hH : ∀ H : Heap, MM D y nn ad (mA y nn ad I J A B G s.heap.size) s.heap (va_up I 5 (I 5)) J A (va_up B 56 (B 56)) G H locs → W p l e ({ frames := 2, cells := 0, slots := 0, locals := 46 } : Room) s m ([.ref (ad 7)] : List Value).toArray below meth c H locs 0 0 (MQ below (mQl D y nn ad (mA y nn ad I J A B G s.heap.size) out.1 ((va_up I 5 out.2.1), J, A, (va_up B 56 out.2.2), G)) ([.ref (ad 7)] : List Value).toArray s 0 0 (mA y nn ad I J A B G s.heap.size)) (F0 m 0 ls []) from hH s.heap
  intro H hM
  refine lv_aload_n hx hb dX7_assign_0 rfl (lv_at hl 0 rfl) ?_
  refine lv_iconst (v := 0) hx hb dX7_assign_1 (by decide) ?_
  refine m_put F hM 7 mg_7 rfl tyX7 tyX7_ok nmX7 0 (by decide) (by decide +kernel) (by decide +kernel) rfl (ty := .int) (v := .int (0 : Int32)) (by decide +kernel) rfl rfl (Nat.le_of_ble_eq_true rfl) (ms_7_0 _) (bx_uu _ _ _ _)  rfl dX7_assign_2 (fun H locs hM => ?_)
  refine lv_aload_n hx hb dX7_assign_5 rfl (lv_at hl 0 rfl) ?_
  obtain ⟨o6_0, ho6_0, hE⟩ := bd_some hE
  refine m_callVl (As := []) (I2 := (va_up I 5 (0 : Int32))) (J2 := J) (A2 := A) (B2 := (va_up B 56 o6_0.2)) (G2 := G) F hM (c_X7_assignNow l D y nn ad H.size (va_up I 5 (0 : Int32)) J A (va_up B 56 (B 56)) G  N o6_0 ho6_0) (cwV 0 F.1.2.2.2.2 gX7_assign_X7_assignNow rfl rfl rfl (by decide +kernel) ⟨Nat.le_of_ble_eq_true rfl, Nat.le_of_ble_eq_true rfl⟩) (m_recv F hM mg_7 rfl) rfl hl.1 (Nat.le_of_ble_eq_true rfl) dX7_assign_6 ⟨Nat.le_refl 0, Nat.le_refl 0⟩ rfl rfl rfl (bx_uu _ _ _ _) rfl (fun H locs hM => ?_)
  obtain rfl := Option.some.inj hE
  exact m_lret F hM hr rfl rfl dX7_assign_9
/-! ===== X7_cut: reads I6 B54, writes I5, frames 2, locals 44 ===== -/
def f_X7_cut_134 (N : Nat) (i6 : Int32) (b54 : Nat → Int64) (nx37 : Int32 → Int32 → Int64 → Int32 → Int32 → Option (Int64 × Int32)) (nx73 : Int32 → Int32 → Int64 → Int32 → Int64 → Int32 → Int32 → Option (Int64 × Int32)) (nx85 : Int32 → Int32 → Int64 → Int32 → Int64 → Int32 → Int32 → Int32 → Option (Int64 × Int32)) (x1 : Int32) (x2 : Int32) (x3 : Int64) (x5 : Int32) (x6 : Int64) (x8 : Int32) (x9 : Int32) (i5' : Int32) : Option (Int64 × Int32) :=
(if (0 : Int32) = (0 : Int32) then
nx85 x1 x2 x3 x5 x6 x8 (x9 + (1 : Int32)) i5'
else
bd (f_X7_length b54 x8 x9) fun o149_2 =>
nx85 x1 x2 x3 x5 (x6 + o149_2) x8 (x9 + (1 : Int32)) i5')
def f_X7_cut_85 (N : Nat) (i6 : Int32) (b54 : Nat → Int64) (nx37 : Int32 → Int32 → Int64 → Int32 → Int32 → Option (Int64 × Int32)) (nx73 : Int32 → Int32 → Int64 → Int32 → Int64 → Int32 → Int32 → Option (Int64 × Int32)) (nx85 : Int32 → Int32 → Int64 → Int32 → Int64 → Int32 → Int32 → Int32 → Option (Int64 × Int32)) (x1 : Int32) (x2 : Int32) (x3 : Int64) (x5 : Int32) (x6 : Int64) (x8 : Int32) (x9 : Int32) (i5' : Int32) : Option (Int64 × Int32) :=
(if i6 ≤ x9 then
nx73 x1 x2 x3 x5 x6 (x8 + (1 : Int32)) i5'
else
(if ((x5 >>> (x8 &&& 31)) &&& (1 : Int32)) = (1 : Int32) then
(if ((x5 >>> (x9 &&& 31)) &&& (1 : Int32)) = (0 : Int32) then
bd (f_X7_length b54 x8 x9) fun o120_3 =>
(if (1000000000000 : Int64) ≤ o120_3 then
f_X7_cut_134 N i6 b54 nx37 nx73 nx85 x1 x2 x3 x5 x6 x8 x9 i5'
else
(if (1 : Int32) = (0 : Int32) then
nx85 x1 x2 x3 x5 x6 x8 (x9 + (1 : Int32)) i5'
else
bd (f_X7_length b54 x8 x9) fun o149_4 =>
nx85 x1 x2 x3 x5 (x6 + o149_4) x8 (x9 + (1 : Int32)) i5'))
else
f_X7_cut_134 N i6 b54 nx37 nx73 nx85 x1 x2 x3 x5 x6 x8 x9 i5')
else
f_X7_cut_134 N i6 b54 nx37 nx73 nx85 x1 x2 x3 x5 x6 x8 x9 i5'))
def f_X7_cut_73 (N : Nat) (i6 : Int32) (b54 : Nat → Int64) (nx37 : Int32 → Int32 → Int64 → Int32 → Int32 → Option (Int64 × Int32)) (nx73 : Int32 → Int32 → Int64 → Int32 → Int64 → Int32 → Int32 → Option (Int64 × Int32)) (x1 : Int32) (x2 : Int32) (x3 : Int64) (x5 : Int32) (x6 : Int64) (x8 : Int32) (i5' : Int32) : Option (Int64 × Int32) :=
(if i6 ≤ x8 then
(if x3 ≤ x6 then
nx37 x1 x2 x3 (x5 + (1 : Int32)) i5'
else
nx37 x1 x2 x6 (x5 + (1 : Int32)) i5')
else
lq8 (f_X7_cut_85 N i6 b54 nx37 nx73) N x1 x2 x3 x5 x6 x8 (0 : Int32) i5')
def f_X7_cut_37 (N : Nat) (i6 : Int32) (b54 : Nat → Int64)  (nx37 : Int32 → Int32 → Int64 → Int32 → Int32 → Option (Int64 × Int32)) (x1 : Int32) (x2 : Int32) (x3 : Int64) (x5 : Int32) (i5' : Int32) : Option (Int64 × Int32) :=
(if ((1 : Int32) <<< (i6 &&& 31)) ≤ x5 then
some (x3, i5')
else
(if ((x5 >>> (x1 &&& 31)) &&& (1 : Int32)) = (1 : Int32) then
(if ((x5 >>> (x2 &&& 31)) &&& (1 : Int32)) = (0 : Int32) then
lq7 (f_X7_cut_73 N i6 b54 nx37) N x1 x2 x3 x5 (0 : Int64) (0 : Int32) i5'
else
nx37 x1 x2 x3 (x5 + (1 : Int32)) i5')
else
nx37 x1 x2 x3 (x5 + (1 : Int32)) i5'))
def f_X7_cut (N : Nat) (i6 : Int32) (b54 : Nat → Int64) (i5 : Int32) (p1 : Int32) (p2 : Int32) : Option (Int64 × Int32) :=
bd (f_X7_isPlace i6 p1) fun o7_0 =>
(if o7_0 = (0 : Int32) then
some ((-1 : Int64), (0 : Int32))
else
bd (f_X7_isPlace i6 p2) fun o15_1 =>
(if o15_1 = (0 : Int32) then
some ((-1 : Int64), (0 : Int32))
else
(if p1 = p2 then
some ((-1 : Int64), (0 : Int32))
else
lq5 (f_X7_cut_37 N i6 b54 ) N p1 p2 (1000000000000 : Int64) (0 : Int32) (0 : Int32))))
set_option maxHeartbeats 4000000 in
set_option maxRecDepth 100000 in
theorem s_X7_cut_134 {p : Program} {l : Launch} {e : Env} {s : State} {m : MethodId} {args : Array Value} {below : List Frame} {meth : Method} {c : Code} {D : va_G} {y : Nat → ClassId} {nn : Nat} {ad : Nat → Nat} {A0 : Nat → Prop} {I : Nat → Int32} {J : Nat → Int64} {A : Nat → Nat → Int32} {B : Nat → Nat → Int64} {G : Nat → Nat → Nat → Int32} (F : Fx p s m args meth c cX7_cut 11 wsX7_cut RX7 D y A0) (hr : meth.sig.returnType = (some .long)) {out : Int64 × Int32} {N : Nat} (nx37 : Int32 → Int32 → Int64 → Int32 → Int32 → Option (Int64 × Int32)) (hn37 : ∀ (x1 : Int32) (x2 : Int32) (x3 : Int64) (x5 : Int32) (i5' : Int32) (ls : Array Slot) (H : Heap) (locs : List Loc), nx37 x1 x2 x3 x5 i5' = some out → MM D y nn ad A0 s.heap (va_up I 5 i5') J A B G H locs → lv_has ls 11 [(0, .ref (ad 7)), (1, .int x1), (2, .int x2), (3, .long x3), (5, .int x5)] → W p l e ({ frames := 2, cells := 0, slots := 0, locals := 44 } : Room) s m args below meth c H locs 0 0 (MQ below (mQl D y nn ad A0 out.1 ((va_up I 5 out.2), J, A, B, G)) args s 0 0 A0) (F0 m 37 ls [])) (nx73 : Int32 → Int32 → Int64 → Int32 → Int64 → Int32 → Int32 → Option (Int64 × Int32)) (hn73 : ∀ (x1 : Int32) (x2 : Int32) (x3 : Int64) (x5 : Int32) (x6 : Int64) (x8 : Int32) (i5' : Int32) (ls : Array Slot) (H : Heap) (locs : List Loc), nx73 x1 x2 x3 x5 x6 x8 i5' = some out → MM D y nn ad A0 s.heap (va_up I 5 i5') J A B G H locs → lv_has ls 11 [(0, .ref (ad 7)), (1, .int x1), (2, .int x2), (3, .long x3), (5, .int x5), (6, .long x6), (8, .int x8)] → W p l e ({ frames := 2, cells := 0, slots := 0, locals := 44 } : Room) s m args below meth c H locs 0 0 (MQ below (mQl D y nn ad A0 out.1 ((va_up I 5 out.2), J, A, B, G)) args s 0 0 A0) (F0 m 73 ls [])) (nx85 : Int32 → Int32 → Int64 → Int32 → Int64 → Int32 → Int32 → Int32 → Option (Int64 × Int32)) (hn85 : ∀ (x1 : Int32) (x2 : Int32) (x3 : Int64) (x5 : Int32) (x6 : Int64) (x8 : Int32) (x9 : Int32) (i5' : Int32) (ls : Array Slot) (H : Heap) (locs : List Loc), nx85 x1 x2 x3 x5 x6 x8 x9 i5' = some out → MM D y nn ad A0 s.heap (va_up I 5 i5') J A B G H locs → lv_has ls 11 [(0, .ref (ad 7)), (1, .int x1), (2, .int x2), (3, .long x3), (5, .int x5), (6, .long x6), (8, .int x8), (9, .int x9)] → W p l e ({ frames := 2, cells := 0, slots := 0, locals := 44 } : Room) s m args below meth c H locs 0 0 (MQ below (mQl D y nn ad A0 out.1 ((va_up I 5 out.2), J, A, B, G)) args s 0 0 A0) (F0 m 85 ls [])) : ∀ (x1 : Int32) (x2 : Int32) (x3 : Int64) (x5 : Int32) (x6 : Int64) (x8 : Int32) (x9 : Int32) (i5' : Int32) (ls : Array Slot) (H : Heap) (locs : List Loc), f_X7_cut_134 N (I 6) (B 54) nx37 nx73 nx85 x1 x2 x3 x5 x6 x8 x9 i5' = some out → MM D y nn ad A0 s.heap (va_up I 5 i5') J A B G H locs → lv_has ls 11 [(0, .ref (ad 7)), (1, .int x1), (2, .int x2), (3, .long x3), (5, .int x5), (6, .long x6), (8, .int x8), (9, .int x9)] → W p l e ({ frames := 2, cells := 0, slots := 0, locals := 44 } : Room) s m args below meth c H locs 0 0 (MQ below (mQl D y nn ad A0 out.1 ((va_up I 5 out.2), J, A, B, G)) args s 0 0 A0) (F0 m 134 ls []) := by
  intro x1 x2 x3 x5 x6 x8 x9 i5' ls H locs hE hM hl
  have hx := F.1.1
  have hb := F.1.2.1
  unfold f_X7_cut_134 at hE
  refine lv_iconst (v := 0) hx hb dX7_cut_134 (by decide) ?_
  refine lv_istore (lv' := [(10, .int (0 : Int32)), (0, .ref (ad 7)), (1, .int x1), (2, .int x2), (3, .long x3), (5, .int x5), (6, .long x6), (8, .int x8), (9, .int x9)]) hx hb dX7_cut_135 hl (by decide) rfl (fun ls hl => ?_)
  refine lv_iload hx hb dX7_cut_137 (lv_at hl 0 rfl) ?_
  refine lv_if_eq (tgt := 156) hx hb dX7_cut_139 (by decide) (fun c139 => ?_) (fun c139 => ?_)
  · replace hE := (if_pos c139).symm.trans hE
    refine lv_lload hx hb dX7_cut_156 (lv_at hl 6 rfl) ?_
    refine lv_lstore (lv' := [(6, .long x6), (10, .int (0 : Int32)), (0, .ref (ad 7)), (1, .int x1), (2, .int x2), (3, .long x3), (5, .int x5), (8, .int x8), (9, .int x9)]) hx hb dX7_cut_158 hl (by decide) rfl (fun ls hl => ?_)
    refine lv_iinc (v := x9 + (1 : Int32)) (lv' := [(9, .int (x9 + (1 : Int32))), (6, .long x6), (10, .int (0 : Int32)), (0, .ref (ad 7)), (1, .int x1), (2, .int x2), (3, .long x3), (5, .int x5), (8, .int x8)]) hx hb dX7_cut_160 hl (k := 8) rfl rfl (by decide) rfl (fun ls hl => ?_)
    refine lv_goto (tgt := 85) hx hb dX7_cut_163 (by decide) ?_
    exact hn85 x1 x2 x3 x5 x6 x8 (x9 + (1 : Int32)) i5' ls H locs hE hM (lv_sub hl [3, 4, 5, 6, 7, 1, 8, 0] rfl)
  · replace hE := (if_neg c139).symm.trans hE
    refine lv_lload hx hb dX7_cut_142 (lv_at hl 6 rfl) ?_
    refine lv_aload_n hx hb dX7_cut_144 rfl (lv_at hl 1 rfl) ?_
    refine lv_iload hx hb dX7_cut_145 (lv_at hl 7 rfl) ?_
    refine lv_iload hx hb dX7_cut_147 (lv_at hl 8 rfl) ?_
    obtain ⟨o149_2, ho149_2, hE⟩ := bd_some hE
    refine m_callVl (As := [.int x8, .int x9]) (I2 := (va_up I 5 i5')) (J2 := J) (A2 := A) (B2 := B) (G2 := G) F hM (c_X7_length l D y nn ad H.size (va_up I 5 i5') J A B G x8 x9  o149_2 ho149_2) (cwV 2 F.1.2.2.2.2 gX7_cut_X7_length rfl rfl rfl (by decide +kernel) ⟨Nat.le_of_ble_eq_true rfl, Nat.le_of_ble_eq_true rfl⟩) (m_recv F hM mg_7 rfl) rfl hl.1 (Nat.le_of_ble_eq_true rfl) dX7_cut_149 ⟨Nat.le_refl 0, Nat.le_refl 0⟩ rfl rfl rfl rfl rfl (fun H locs hM => ?_)
    refine lv_ladd hx hb dX7_cut_152 ?_
    refine lv_goto (tgt := 158) hx hb dX7_cut_153 (by decide) ?_
    refine lv_lstore (lv' := [(6, .long (x6 + o149_2)), (10, .int (0 : Int32)), (0, .ref (ad 7)), (1, .int x1), (2, .int x2), (3, .long x3), (5, .int x5), (8, .int x8), (9, .int x9)]) hx hb dX7_cut_158 hl (by decide) rfl (fun ls hl => ?_)
    refine lv_iinc (v := x9 + (1 : Int32)) (lv' := [(9, .int (x9 + (1 : Int32))), (6, .long (x6 + o149_2)), (10, .int (0 : Int32)), (0, .ref (ad 7)), (1, .int x1), (2, .int x2), (3, .long x3), (5, .int x5), (8, .int x8)]) hx hb dX7_cut_160 hl (k := 8) rfl rfl (by decide) rfl (fun ls hl => ?_)
    refine lv_goto (tgt := 85) hx hb dX7_cut_163 (by decide) ?_
    exact hn85 x1 x2 x3 x5 (x6 + o149_2) x8 (x9 + (1 : Int32)) i5' ls H locs hE hM (lv_sub hl [3, 4, 5, 6, 7, 1, 8, 0] rfl)
set_option maxHeartbeats 4000000 in
set_option maxRecDepth 100000 in
theorem s_X7_cut_85 {p : Program} {l : Launch} {e : Env} {s : State} {m : MethodId} {args : Array Value} {below : List Frame} {meth : Method} {c : Code} {D : va_G} {y : Nat → ClassId} {nn : Nat} {ad : Nat → Nat} {A0 : Nat → Prop} {I : Nat → Int32} {J : Nat → Int64} {A : Nat → Nat → Int32} {B : Nat → Nat → Int64} {G : Nat → Nat → Nat → Int32} (F : Fx p s m args meth c cX7_cut 11 wsX7_cut RX7 D y A0) (hr : meth.sig.returnType = (some .long)) {out : Int64 × Int32} {N : Nat} (nx37 : Int32 → Int32 → Int64 → Int32 → Int32 → Option (Int64 × Int32)) (hn37 : ∀ (x1 : Int32) (x2 : Int32) (x3 : Int64) (x5 : Int32) (i5' : Int32) (ls : Array Slot) (H : Heap) (locs : List Loc), nx37 x1 x2 x3 x5 i5' = some out → MM D y nn ad A0 s.heap (va_up I 5 i5') J A B G H locs → lv_has ls 11 [(0, .ref (ad 7)), (1, .int x1), (2, .int x2), (3, .long x3), (5, .int x5)] → W p l e ({ frames := 2, cells := 0, slots := 0, locals := 44 } : Room) s m args below meth c H locs 0 0 (MQ below (mQl D y nn ad A0 out.1 ((va_up I 5 out.2), J, A, B, G)) args s 0 0 A0) (F0 m 37 ls [])) (nx73 : Int32 → Int32 → Int64 → Int32 → Int64 → Int32 → Int32 → Option (Int64 × Int32)) (hn73 : ∀ (x1 : Int32) (x2 : Int32) (x3 : Int64) (x5 : Int32) (x6 : Int64) (x8 : Int32) (i5' : Int32) (ls : Array Slot) (H : Heap) (locs : List Loc), nx73 x1 x2 x3 x5 x6 x8 i5' = some out → MM D y nn ad A0 s.heap (va_up I 5 i5') J A B G H locs → lv_has ls 11 [(0, .ref (ad 7)), (1, .int x1), (2, .int x2), (3, .long x3), (5, .int x5), (6, .long x6), (8, .int x8)] → W p l e ({ frames := 2, cells := 0, slots := 0, locals := 44 } : Room) s m args below meth c H locs 0 0 (MQ below (mQl D y nn ad A0 out.1 ((va_up I 5 out.2), J, A, B, G)) args s 0 0 A0) (F0 m 73 ls [])) (nx85 : Int32 → Int32 → Int64 → Int32 → Int64 → Int32 → Int32 → Int32 → Option (Int64 × Int32)) (hn85 : ∀ (x1 : Int32) (x2 : Int32) (x3 : Int64) (x5 : Int32) (x6 : Int64) (x8 : Int32) (x9 : Int32) (i5' : Int32) (ls : Array Slot) (H : Heap) (locs : List Loc), nx85 x1 x2 x3 x5 x6 x8 x9 i5' = some out → MM D y nn ad A0 s.heap (va_up I 5 i5') J A B G H locs → lv_has ls 11 [(0, .ref (ad 7)), (1, .int x1), (2, .int x2), (3, .long x3), (5, .int x5), (6, .long x6), (8, .int x8), (9, .int x9)] → W p l e ({ frames := 2, cells := 0, slots := 0, locals := 44 } : Room) s m args below meth c H locs 0 0 (MQ below (mQl D y nn ad A0 out.1 ((va_up I 5 out.2), J, A, B, G)) args s 0 0 A0) (F0 m 85 ls [])) : ∀ (x1 : Int32) (x2 : Int32) (x3 : Int64) (x5 : Int32) (x6 : Int64) (x8 : Int32) (x9 : Int32) (i5' : Int32) (ls : Array Slot) (H : Heap) (locs : List Loc), f_X7_cut_85 N (I 6) (B 54) nx37 nx73 nx85 x1 x2 x3 x5 x6 x8 x9 i5' = some out → MM D y nn ad A0 s.heap (va_up I 5 i5') J A B G H locs → lv_has ls 11 [(0, .ref (ad 7)), (1, .int x1), (2, .int x2), (3, .long x3), (5, .int x5), (6, .long x6), (8, .int x8), (9, .int x9)] → W p l e ({ frames := 2, cells := 0, slots := 0, locals := 44 } : Room) s m args below meth c H locs 0 0 (MQ below (mQl D y nn ad A0 out.1 ((va_up I 5 out.2), J, A, B, G)) args s 0 0 A0) (F0 m 85 ls []) := by
  intro x1 x2 x3 x5 x6 x8 x9 i5' ls H locs hE hM hl
  have hx := F.1.1
  have hb := F.1.2.1
  unfold f_X7_cut_85 at hE
  refine lv_iload hx hb dX7_cut_85 (lv_at hl 7 rfl) ?_
  refine lv_aload_n hx hb dX7_cut_87 rfl (lv_at hl 0 rfl) ?_
  refine m_get F hM 7 mg_7 rfl 1 (by decide) (by decide +kernel) (by decide +kernel) (v := .int (I 6)) rfl dX7_cut_88 ?_
  refine lv_icmp_ge (tgt := 166) hx hb dX7_cut_91 (by decide) (fun c91 => ?_) (fun c91 => ?_)
  · replace hE := (if_pos c91).symm.trans hE
    refine lv_iinc (v := x8 + (1 : Int32)) (lv' := [(8, .int (x8 + (1 : Int32))), (0, .ref (ad 7)), (1, .int x1), (2, .int x2), (3, .long x3), (5, .int x5), (6, .long x6), (9, .int x9)]) hx hb dX7_cut_166 hl (k := 6) rfl rfl (by decide) rfl (fun ls hl => ?_)
    refine lv_goto (tgt := 73) hx hb dX7_cut_169 (by decide) ?_
    exact hn73 x1 x2 x3 x5 x6 (x8 + (1 : Int32)) i5' ls H locs hE hM (lv_sub hl [1, 2, 3, 4, 5, 6, 0] rfl)
  · replace hE := (if_neg c91).symm.trans hE
    refine lv_iload hx hb dX7_cut_94 (lv_at hl 4 rfl) ?_
    refine lv_iload hx hb dX7_cut_96 (lv_at hl 6 rfl) ?_
    refine lv_ishr hx hb dX7_cut_98 ?_
    refine lv_iconst (v := 1) hx hb dX7_cut_99 (by decide) ?_
    refine lv_iand hx hb dX7_cut_100 ?_
    refine lv_iconst (v := 1) hx hb dX7_cut_101 (by decide) ?_
    refine lv_icmp_ne (tgt := 134) hx hb dX7_cut_102 (by decide) (fun c102 => ?_) (fun c102 => ?_)
    · replace hE := (if_neg c102).symm.trans hE
      exact s_X7_cut_134 F hr (N := N) nx37 hn37 nx73 hn73 nx85 hn85 x1 x2 x3 x5 x6 x8 x9 i5' ls H locs hE hM (lv_sub hl [0, 1, 2, 3, 4, 5, 6, 7] rfl)
    · replace hE := (if_pos c102).symm.trans hE
      refine lv_iload hx hb dX7_cut_105 (lv_at hl 4 rfl) ?_
      refine lv_iload hx hb dX7_cut_107 (lv_at hl 7 rfl) ?_
      refine lv_ishr hx hb dX7_cut_109 ?_
      refine lv_iconst (v := 1) hx hb dX7_cut_110 (by decide) ?_
      refine lv_iand hx hb dX7_cut_111 ?_
      refine lv_if_ne (tgt := 134) hx hb dX7_cut_112 (by decide) (fun c112 => ?_) (fun c112 => ?_)
      · replace hE := (if_neg c112).symm.trans hE
        exact s_X7_cut_134 F hr (N := N) nx37 hn37 nx73 hn73 nx85 hn85 x1 x2 x3 x5 x6 x8 x9 i5' ls H locs hE hM (lv_sub hl [0, 1, 2, 3, 4, 5, 6, 7] rfl)
      · replace hE := (if_pos c112).symm.trans hE
        refine lv_aload_n hx hb dX7_cut_115 rfl (lv_at hl 0 rfl) ?_
        refine lv_iload hx hb dX7_cut_116 (lv_at hl 6 rfl) ?_
        refine lv_iload hx hb dX7_cut_118 (lv_at hl 7 rfl) ?_
        obtain ⟨o120_3, ho120_3, hE⟩ := bd_some hE
        refine m_callVl (As := [.int x8, .int x9]) (I2 := (va_up I 5 i5')) (J2 := J) (A2 := A) (B2 := B) (G2 := G) F hM (c_X7_length l D y nn ad H.size (va_up I 5 i5') J A B G x8 x9  o120_3 ho120_3) (cwV 2 F.1.2.2.2.2 gX7_cut_X7_length rfl rfl rfl (by decide +kernel) ⟨Nat.le_of_ble_eq_true rfl, Nat.le_of_ble_eq_true rfl⟩) (m_recv F hM mg_7 rfl) rfl hl.1 (Nat.le_of_ble_eq_true rfl) dX7_cut_120 ⟨Nat.le_refl 0, Nat.le_refl 0⟩ rfl rfl rfl rfl rfl (fun H locs hM => ?_)
        refine lv_ldc2 (v := (1000000000000)) hx hb F.1.2.2.2.1 (F.1.2.2.2.2 (.constantLong RX7 52 (1000000000000)) (by decide +kernel)) dX7_cut_123 ?_
        refine m_lge (tgt := 134) F dX7_cut_126 dX7_cut_127 (by decide) (fun c127 => ?_) (fun c127 => ?_)
        · replace hE := (if_pos c127).symm.trans hE
          exact s_X7_cut_134 F hr (N := N) nx37 hn37 nx73 hn73 nx85 hn85 x1 x2 x3 x5 x6 x8 x9 i5' ls H locs hE hM (lv_sub hl [0, 1, 2, 3, 4, 5, 6, 7] rfl)
        · replace hE := (if_neg c127).symm.trans hE
          refine lv_iconst (v := 1) hx hb dX7_cut_130 (by decide) ?_
          refine lv_goto (tgt := 135) hx hb dX7_cut_131 (by decide) ?_
          refine lv_istore (lv' := [(10, .int (1 : Int32)), (0, .ref (ad 7)), (1, .int x1), (2, .int x2), (3, .long x3), (5, .int x5), (6, .long x6), (8, .int x8), (9, .int x9)]) hx hb dX7_cut_135 hl (by decide) rfl (fun ls hl => ?_)
          refine lv_iload hx hb dX7_cut_137 (lv_at hl 0 rfl) ?_
          refine lv_if_eq (tgt := 156) hx hb dX7_cut_139 (by decide) (fun c139 => ?_) (fun c139 => ?_)
          · replace hE := (if_pos c139).symm.trans hE
            refine lv_lload hx hb dX7_cut_156 (lv_at hl 6 rfl) ?_
            refine lv_lstore (lv' := [(6, .long x6), (10, .int (1 : Int32)), (0, .ref (ad 7)), (1, .int x1), (2, .int x2), (3, .long x3), (5, .int x5), (8, .int x8), (9, .int x9)]) hx hb dX7_cut_158 hl (by decide) rfl (fun ls hl => ?_)
            refine lv_iinc (v := x9 + (1 : Int32)) (lv' := [(9, .int (x9 + (1 : Int32))), (6, .long x6), (10, .int (1 : Int32)), (0, .ref (ad 7)), (1, .int x1), (2, .int x2), (3, .long x3), (5, .int x5), (8, .int x8)]) hx hb dX7_cut_160 hl (k := 8) rfl rfl (by decide) rfl (fun ls hl => ?_)
            refine lv_goto (tgt := 85) hx hb dX7_cut_163 (by decide) ?_
            exact hn85 x1 x2 x3 x5 x6 x8 (x9 + (1 : Int32)) i5' ls H locs hE hM (lv_sub hl [3, 4, 5, 6, 7, 1, 8, 0] rfl)
          · replace hE := (if_neg c139).symm.trans hE
            refine lv_lload hx hb dX7_cut_142 (lv_at hl 6 rfl) ?_
            refine lv_aload_n hx hb dX7_cut_144 rfl (lv_at hl 1 rfl) ?_
            refine lv_iload hx hb dX7_cut_145 (lv_at hl 7 rfl) ?_
            refine lv_iload hx hb dX7_cut_147 (lv_at hl 8 rfl) ?_
            obtain ⟨o149_4, ho149_4, hE⟩ := bd_some hE
            refine m_callVl (As := [.int x8, .int x9]) (I2 := (va_up I 5 i5')) (J2 := J) (A2 := A) (B2 := B) (G2 := G) F hM (c_X7_length l D y nn ad H.size (va_up I 5 i5') J A B G x8 x9  o149_4 ho149_4) (cwV 2 F.1.2.2.2.2 gX7_cut_X7_length rfl rfl rfl (by decide +kernel) ⟨Nat.le_of_ble_eq_true rfl, Nat.le_of_ble_eq_true rfl⟩) (m_recv F hM mg_7 rfl) rfl hl.1 (Nat.le_of_ble_eq_true rfl) dX7_cut_149 ⟨Nat.le_refl 0, Nat.le_refl 0⟩ rfl rfl rfl rfl rfl (fun H locs hM => ?_)
            refine lv_ladd hx hb dX7_cut_152 ?_
            refine lv_goto (tgt := 158) hx hb dX7_cut_153 (by decide) ?_
            refine lv_lstore (lv' := [(6, .long (x6 + o149_4)), (10, .int (1 : Int32)), (0, .ref (ad 7)), (1, .int x1), (2, .int x2), (3, .long x3), (5, .int x5), (8, .int x8), (9, .int x9)]) hx hb dX7_cut_158 hl (by decide) rfl (fun ls hl => ?_)
            refine lv_iinc (v := x9 + (1 : Int32)) (lv' := [(9, .int (x9 + (1 : Int32))), (6, .long (x6 + o149_4)), (10, .int (1 : Int32)), (0, .ref (ad 7)), (1, .int x1), (2, .int x2), (3, .long x3), (5, .int x5), (8, .int x8)]) hx hb dX7_cut_160 hl (k := 8) rfl rfl (by decide) rfl (fun ls hl => ?_)
            refine lv_goto (tgt := 85) hx hb dX7_cut_163 (by decide) ?_
            exact hn85 x1 x2 x3 x5 (x6 + o149_4) x8 (x9 + (1 : Int32)) i5' ls H locs hE hM (lv_sub hl [3, 4, 5, 6, 7, 1, 8, 0] rfl)
theorem k_X7_cut_85 {p : Program} {l : Launch} {e : Env} {s : State} {m : MethodId} {args : Array Value} {below : List Frame} {meth : Method} {c : Code} {D : va_G} {y : Nat → ClassId} {nn : Nat} {ad : Nat → Nat} {A0 : Nat → Prop} {I : Nat → Int32} {J : Nat → Int64} {A : Nat → Nat → Int32} {B : Nat → Nat → Int64} {G : Nat → Nat → Nat → Int32} (F : Fx p s m args meth c cX7_cut 11 wsX7_cut RX7 D y A0) (hr : meth.sig.returnType = (some .long)) {out : Int64 × Int32} {N : Nat} (nx37 : Int32 → Int32 → Int64 → Int32 → Int32 → Option (Int64 × Int32)) (hn37 : ∀ (x1 : Int32) (x2 : Int32) (x3 : Int64) (x5 : Int32) (i5' : Int32) (ls : Array Slot) (H : Heap) (locs : List Loc), nx37 x1 x2 x3 x5 i5' = some out → MM D y nn ad A0 s.heap (va_up I 5 i5') J A B G H locs → lv_has ls 11 [(0, .ref (ad 7)), (1, .int x1), (2, .int x2), (3, .long x3), (5, .int x5)] → W p l e ({ frames := 2, cells := 0, slots := 0, locals := 44 } : Room) s m args below meth c H locs 0 0 (MQ below (mQl D y nn ad A0 out.1 ((va_up I 5 out.2), J, A, B, G)) args s 0 0 A0) (F0 m 37 ls [])) (nx73 : Int32 → Int32 → Int64 → Int32 → Int64 → Int32 → Int32 → Option (Int64 × Int32)) (hn73 : ∀ (x1 : Int32) (x2 : Int32) (x3 : Int64) (x5 : Int32) (x6 : Int64) (x8 : Int32) (i5' : Int32) (ls : Array Slot) (H : Heap) (locs : List Loc), nx73 x1 x2 x3 x5 x6 x8 i5' = some out → MM D y nn ad A0 s.heap (va_up I 5 i5') J A B G H locs → lv_has ls 11 [(0, .ref (ad 7)), (1, .int x1), (2, .int x2), (3, .long x3), (5, .int x5), (6, .long x6), (8, .int x8)] → W p l e ({ frames := 2, cells := 0, slots := 0, locals := 44 } : Room) s m args below meth c H locs 0 0 (MQ below (mQl D y nn ad A0 out.1 ((va_up I 5 out.2), J, A, B, G)) args s 0 0 A0) (F0 m 73 ls [])) : ∀ (n : Nat), ∀ (x1 : Int32) (x2 : Int32) (x3 : Int64) (x5 : Int32) (x6 : Int64) (x8 : Int32) (x9 : Int32) (i5' : Int32) (ls : Array Slot) (H : Heap) (locs : List Loc), lq8 (f_X7_cut_85 N (I 6) (B 54) nx37 nx73) n x1 x2 x3 x5 x6 x8 x9 i5' = some out → MM D y nn ad A0 s.heap (va_up I 5 i5') J A B G H locs → lv_has ls 11 [(0, .ref (ad 7)), (1, .int x1), (2, .int x2), (3, .long x3), (5, .int x5), (6, .long x6), (8, .int x8), (9, .int x9)] → W p l e ({ frames := 2, cells := 0, slots := 0, locals := 44 } : Room) s m args below meth c H locs 0 0 (MQ below (mQl D y nn ad A0 out.1 ((va_up I 5 out.2), J, A, B, G)) args s 0 0 A0) (F0 m 85 ls []) := by
  intro n
  induction n with
  | zero =>
    intro x1 x2 x3 x5 x6 x8 x9 i5' ls H locs hE
    cases (show (none : Option _) = some out from hE)
  | succ n ih =>
    intro x1 x2 x3 x5 x6 x8 x9 i5' ls H locs hE hM hl
    exact s_X7_cut_85 F hr (N := N) nx37 hn37 nx73 hn73 (lq8 (f_X7_cut_85 N (I 6) (B 54) nx37 nx73) n) ih x1 x2 x3 x5 x6 x8 x9 i5' ls H locs hE hM hl
set_option maxHeartbeats 4000000 in
set_option maxRecDepth 100000 in
theorem s_X7_cut_73 {p : Program} {l : Launch} {e : Env} {s : State} {m : MethodId} {args : Array Value} {below : List Frame} {meth : Method} {c : Code} {D : va_G} {y : Nat → ClassId} {nn : Nat} {ad : Nat → Nat} {A0 : Nat → Prop} {I : Nat → Int32} {J : Nat → Int64} {A : Nat → Nat → Int32} {B : Nat → Nat → Int64} {G : Nat → Nat → Nat → Int32} (F : Fx p s m args meth c cX7_cut 11 wsX7_cut RX7 D y A0) (hr : meth.sig.returnType = (some .long)) {out : Int64 × Int32} {N : Nat} (nx37 : Int32 → Int32 → Int64 → Int32 → Int32 → Option (Int64 × Int32)) (hn37 : ∀ (x1 : Int32) (x2 : Int32) (x3 : Int64) (x5 : Int32) (i5' : Int32) (ls : Array Slot) (H : Heap) (locs : List Loc), nx37 x1 x2 x3 x5 i5' = some out → MM D y nn ad A0 s.heap (va_up I 5 i5') J A B G H locs → lv_has ls 11 [(0, .ref (ad 7)), (1, .int x1), (2, .int x2), (3, .long x3), (5, .int x5)] → W p l e ({ frames := 2, cells := 0, slots := 0, locals := 44 } : Room) s m args below meth c H locs 0 0 (MQ below (mQl D y nn ad A0 out.1 ((va_up I 5 out.2), J, A, B, G)) args s 0 0 A0) (F0 m 37 ls [])) (nx73 : Int32 → Int32 → Int64 → Int32 → Int64 → Int32 → Int32 → Option (Int64 × Int32)) (hn73 : ∀ (x1 : Int32) (x2 : Int32) (x3 : Int64) (x5 : Int32) (x6 : Int64) (x8 : Int32) (i5' : Int32) (ls : Array Slot) (H : Heap) (locs : List Loc), nx73 x1 x2 x3 x5 x6 x8 i5' = some out → MM D y nn ad A0 s.heap (va_up I 5 i5') J A B G H locs → lv_has ls 11 [(0, .ref (ad 7)), (1, .int x1), (2, .int x2), (3, .long x3), (5, .int x5), (6, .long x6), (8, .int x8)] → W p l e ({ frames := 2, cells := 0, slots := 0, locals := 44 } : Room) s m args below meth c H locs 0 0 (MQ below (mQl D y nn ad A0 out.1 ((va_up I 5 out.2), J, A, B, G)) args s 0 0 A0) (F0 m 73 ls [])) : ∀ (x1 : Int32) (x2 : Int32) (x3 : Int64) (x5 : Int32) (x6 : Int64) (x8 : Int32) (i5' : Int32) (ls : Array Slot) (H : Heap) (locs : List Loc), f_X7_cut_73 N (I 6) (B 54) nx37 nx73 x1 x2 x3 x5 x6 x8 i5' = some out → MM D y nn ad A0 s.heap (va_up I 5 i5') J A B G H locs → lv_has ls 11 [(0, .ref (ad 7)), (1, .int x1), (2, .int x2), (3, .long x3), (5, .int x5), (6, .long x6), (8, .int x8)] → W p l e ({ frames := 2, cells := 0, slots := 0, locals := 44 } : Room) s m args below meth c H locs 0 0 (MQ below (mQl D y nn ad A0 out.1 ((va_up I 5 out.2), J, A, B, G)) args s 0 0 A0) (F0 m 73 ls []) := by
  intro x1 x2 x3 x5 x6 x8 i5' ls H locs hE hM hl
  have hx := F.1.1
  have hb := F.1.2.1
  unfold f_X7_cut_73 at hE
  refine lv_iload hx hb dX7_cut_73 (lv_at hl 6 rfl) ?_
  refine lv_aload_n hx hb dX7_cut_75 rfl (lv_at hl 0 rfl) ?_
  refine m_get F hM 7 mg_7 rfl 1 (by decide) (by decide +kernel) (by decide +kernel) (v := .int (I 6)) rfl dX7_cut_76 ?_
  refine lv_icmp_ge (tgt := 172) hx hb dX7_cut_79 (by decide) (fun c79 => ?_) (fun c79 => ?_)
  · replace hE := (if_pos c79).symm.trans hE
    refine lv_lload hx hb dX7_cut_172 (lv_at hl 5 rfl) ?_
    refine lv_lload_n hx hb dX7_cut_174 rfl (lv_at hl 3 rfl) ?_
    refine m_lge (tgt := 184) F dX7_cut_175 dX7_cut_176 (by decide) (fun c176 => ?_) (fun c176 => ?_)
    · replace hE := (if_pos c176).symm.trans hE
      refine lv_lload_n hx hb dX7_cut_184 rfl (lv_at hl 3 rfl) ?_
      refine lv_lstore_n (lv' := [(3, .long x3), (0, .ref (ad 7)), (1, .int x1), (2, .int x2), (5, .int x5), (6, .long x6), (8, .int x8)]) hx hb dX7_cut_185 rfl hl (by decide) rfl (fun ls hl => ?_)
      refine lv_iinc (v := x5 + (1 : Int32)) (lv' := [(5, .int (x5 + (1 : Int32))), (3, .long x3), (0, .ref (ad 7)), (1, .int x1), (2, .int x2), (6, .long x6), (8, .int x8)]) hx hb dX7_cut_186 hl (k := 4) rfl rfl (by decide) rfl (fun ls hl => ?_)
      refine lv_goto (tgt := 37) hx hb dX7_cut_189 (by decide) ?_
      exact hn37 x1 x2 x3 (x5 + (1 : Int32)) i5' ls H locs hE hM (lv_sub hl [2, 3, 4, 1, 0] rfl)
    · replace hE := (if_neg c176).symm.trans hE
      refine lv_lload hx hb dX7_cut_179 (lv_at hl 5 rfl) ?_
      refine lv_goto (tgt := 185) hx hb dX7_cut_181 (by decide) ?_
      refine lv_lstore_n (lv' := [(3, .long x6), (0, .ref (ad 7)), (1, .int x1), (2, .int x2), (5, .int x5), (6, .long x6), (8, .int x8)]) hx hb dX7_cut_185 rfl hl (by decide) rfl (fun ls hl => ?_)
      refine lv_iinc (v := x5 + (1 : Int32)) (lv' := [(5, .int (x5 + (1 : Int32))), (3, .long x6), (0, .ref (ad 7)), (1, .int x1), (2, .int x2), (6, .long x6), (8, .int x8)]) hx hb dX7_cut_186 hl (k := 4) rfl rfl (by decide) rfl (fun ls hl => ?_)
      refine lv_goto (tgt := 37) hx hb dX7_cut_189 (by decide) ?_
      exact hn37 x1 x2 x6 (x5 + (1 : Int32)) i5' ls H locs hE hM (lv_sub hl [2, 3, 4, 1, 0] rfl)
  · replace hE := (if_neg c79).symm.trans hE
    refine lv_iconst (v := 0) hx hb dX7_cut_82 (by decide) ?_
    refine lv_istore (lv' := [(9, .int (0 : Int32)), (0, .ref (ad 7)), (1, .int x1), (2, .int x2), (3, .long x3), (5, .int x5), (6, .long x6), (8, .int x8)]) hx hb dX7_cut_83 hl (by decide) rfl (fun ls hl => ?_)
    exact k_X7_cut_85 F hr (N := N) nx37 hn37 nx73 hn73 N x1 x2 x3 x5 x6 x8 (0 : Int32) i5' ls H locs hE hM (lv_sub hl [1, 2, 3, 4, 5, 6, 7, 0] rfl)
theorem k_X7_cut_73 {p : Program} {l : Launch} {e : Env} {s : State} {m : MethodId} {args : Array Value} {below : List Frame} {meth : Method} {c : Code} {D : va_G} {y : Nat → ClassId} {nn : Nat} {ad : Nat → Nat} {A0 : Nat → Prop} {I : Nat → Int32} {J : Nat → Int64} {A : Nat → Nat → Int32} {B : Nat → Nat → Int64} {G : Nat → Nat → Nat → Int32} (F : Fx p s m args meth c cX7_cut 11 wsX7_cut RX7 D y A0) (hr : meth.sig.returnType = (some .long)) {out : Int64 × Int32} {N : Nat} (nx37 : Int32 → Int32 → Int64 → Int32 → Int32 → Option (Int64 × Int32)) (hn37 : ∀ (x1 : Int32) (x2 : Int32) (x3 : Int64) (x5 : Int32) (i5' : Int32) (ls : Array Slot) (H : Heap) (locs : List Loc), nx37 x1 x2 x3 x5 i5' = some out → MM D y nn ad A0 s.heap (va_up I 5 i5') J A B G H locs → lv_has ls 11 [(0, .ref (ad 7)), (1, .int x1), (2, .int x2), (3, .long x3), (5, .int x5)] → W p l e ({ frames := 2, cells := 0, slots := 0, locals := 44 } : Room) s m args below meth c H locs 0 0 (MQ below (mQl D y nn ad A0 out.1 ((va_up I 5 out.2), J, A, B, G)) args s 0 0 A0) (F0 m 37 ls [])) : ∀ (n : Nat), ∀ (x1 : Int32) (x2 : Int32) (x3 : Int64) (x5 : Int32) (x6 : Int64) (x8 : Int32) (i5' : Int32) (ls : Array Slot) (H : Heap) (locs : List Loc), lq7 (f_X7_cut_73 N (I 6) (B 54) nx37) n x1 x2 x3 x5 x6 x8 i5' = some out → MM D y nn ad A0 s.heap (va_up I 5 i5') J A B G H locs → lv_has ls 11 [(0, .ref (ad 7)), (1, .int x1), (2, .int x2), (3, .long x3), (5, .int x5), (6, .long x6), (8, .int x8)] → W p l e ({ frames := 2, cells := 0, slots := 0, locals := 44 } : Room) s m args below meth c H locs 0 0 (MQ below (mQl D y nn ad A0 out.1 ((va_up I 5 out.2), J, A, B, G)) args s 0 0 A0) (F0 m 73 ls []) := by
  intro n
  induction n with
  | zero =>
    intro x1 x2 x3 x5 x6 x8 i5' ls H locs hE
    cases (show (none : Option _) = some out from hE)
  | succ n ih =>
    intro x1 x2 x3 x5 x6 x8 i5' ls H locs hE hM hl
    exact s_X7_cut_73 F hr (N := N) nx37 hn37 (lq7 (f_X7_cut_73 N (I 6) (B 54) nx37) n) ih x1 x2 x3 x5 x6 x8 i5' ls H locs hE hM hl
set_option maxHeartbeats 4000000 in
set_option maxRecDepth 100000 in
theorem s_X7_cut_37 {p : Program} {l : Launch} {e : Env} {s : State} {m : MethodId} {args : Array Value} {below : List Frame} {meth : Method} {c : Code} {D : va_G} {y : Nat → ClassId} {nn : Nat} {ad : Nat → Nat} {A0 : Nat → Prop} {I : Nat → Int32} {J : Nat → Int64} {A : Nat → Nat → Int32} {B : Nat → Nat → Int64} {G : Nat → Nat → Nat → Int32} (F : Fx p s m args meth c cX7_cut 11 wsX7_cut RX7 D y A0) (hr : meth.sig.returnType = (some .long)) {out : Int64 × Int32} {N : Nat}  (nx37 : Int32 → Int32 → Int64 → Int32 → Int32 → Option (Int64 × Int32)) (hn37 : ∀ (x1 : Int32) (x2 : Int32) (x3 : Int64) (x5 : Int32) (i5' : Int32) (ls : Array Slot) (H : Heap) (locs : List Loc), nx37 x1 x2 x3 x5 i5' = some out → MM D y nn ad A0 s.heap (va_up I 5 i5') J A B G H locs → lv_has ls 11 [(0, .ref (ad 7)), (1, .int x1), (2, .int x2), (3, .long x3), (5, .int x5)] → W p l e ({ frames := 2, cells := 0, slots := 0, locals := 44 } : Room) s m args below meth c H locs 0 0 (MQ below (mQl D y nn ad A0 out.1 ((va_up I 5 out.2), J, A, B, G)) args s 0 0 A0) (F0 m 37 ls [])) : ∀ (x1 : Int32) (x2 : Int32) (x3 : Int64) (x5 : Int32) (i5' : Int32) (ls : Array Slot) (H : Heap) (locs : List Loc), f_X7_cut_37 N (I 6) (B 54)  nx37 x1 x2 x3 x5 i5' = some out → MM D y nn ad A0 s.heap (va_up I 5 i5') J A B G H locs → lv_has ls 11 [(0, .ref (ad 7)), (1, .int x1), (2, .int x2), (3, .long x3), (5, .int x5)] → W p l e ({ frames := 2, cells := 0, slots := 0, locals := 44 } : Room) s m args below meth c H locs 0 0 (MQ below (mQl D y nn ad A0 out.1 ((va_up I 5 out.2), J, A, B, G)) args s 0 0 A0) (F0 m 37 ls []) := by
  intro x1 x2 x3 x5 i5' ls H locs hE hM hl
  have hx := F.1.1
  have hb := F.1.2.1
  unfold f_X7_cut_37 at hE
  refine lv_iload hx hb dX7_cut_37 (lv_at hl 4 rfl) ?_
  refine lv_iconst (v := 1) hx hb dX7_cut_39 (by decide) ?_
  refine lv_aload_n hx hb dX7_cut_40 rfl (lv_at hl 0 rfl) ?_
  refine m_get F hM 7 mg_7 rfl 1 (by decide) (by decide +kernel) (by decide +kernel) (v := .int (I 6)) rfl dX7_cut_41 ?_
  refine lv_ishl hx hb dX7_cut_44 ?_
  refine lv_icmp_ge (tgt := 192) hx hb dX7_cut_45 (by decide) (fun c45 => ?_) (fun c45 => ?_)
  · replace hE := (if_pos c45).symm.trans hE
    refine lv_lload_n hx hb dX7_cut_192 rfl (lv_at hl 3 rfl) ?_
    obtain rfl := Option.some.inj hE
    exact m_lret F hM hr rfl rfl dX7_cut_193
  · replace hE := (if_neg c45).symm.trans hE
    refine lv_iload hx hb dX7_cut_48 (lv_at hl 4 rfl) ?_
    refine lv_iload_n hx hb dX7_cut_50 rfl (lv_at hl 1 rfl) ?_
    refine lv_ishr hx hb dX7_cut_51 ?_
    refine lv_iconst (v := 1) hx hb dX7_cut_52 (by decide) ?_
    refine lv_iand hx hb dX7_cut_53 ?_
    refine lv_iconst (v := 1) hx hb dX7_cut_54 (by decide) ?_
    refine lv_icmp_ne (tgt := 186) hx hb dX7_cut_55 (by decide) (fun c55 => ?_) (fun c55 => ?_)
    · replace hE := (if_neg c55).symm.trans hE
      refine lv_iinc (v := x5 + (1 : Int32)) (lv' := [(5, .int (x5 + (1 : Int32))), (0, .ref (ad 7)), (1, .int x1), (2, .int x2), (3, .long x3)]) hx hb dX7_cut_186 hl (k := 4) rfl rfl (by decide) rfl (fun ls hl => ?_)
      refine lv_goto (tgt := 37) hx hb dX7_cut_189 (by decide) ?_
      exact hn37 x1 x2 x3 (x5 + (1 : Int32)) i5' ls H locs hE hM (lv_sub hl [1, 2, 3, 4, 0] rfl)
    · replace hE := (if_pos c55).symm.trans hE
      refine lv_iload hx hb dX7_cut_58 (lv_at hl 4 rfl) ?_
      refine lv_iload_n hx hb dX7_cut_60 rfl (lv_at hl 2 rfl) ?_
      refine lv_ishr hx hb dX7_cut_61 ?_
      refine lv_iconst (v := 1) hx hb dX7_cut_62 (by decide) ?_
      refine lv_iand hx hb dX7_cut_63 ?_
      refine lv_if_ne (tgt := 186) hx hb dX7_cut_64 (by decide) (fun c64 => ?_) (fun c64 => ?_)
      · replace hE := (if_neg c64).symm.trans hE
        refine lv_iinc (v := x5 + (1 : Int32)) (lv' := [(5, .int (x5 + (1 : Int32))), (0, .ref (ad 7)), (1, .int x1), (2, .int x2), (3, .long x3)]) hx hb dX7_cut_186 hl (k := 4) rfl rfl (by decide) rfl (fun ls hl => ?_)
        refine lv_goto (tgt := 37) hx hb dX7_cut_189 (by decide) ?_
        exact hn37 x1 x2 x3 (x5 + (1 : Int32)) i5' ls H locs hE hM (lv_sub hl [1, 2, 3, 4, 0] rfl)
      · replace hE := (if_pos c64).symm.trans hE
        refine lv_lconst (v := 0) hx hb dX7_cut_67 (by decide) ?_
        refine lv_lstore (lv' := [(6, .long (0 : Int64)), (0, .ref (ad 7)), (1, .int x1), (2, .int x2), (3, .long x3), (5, .int x5)]) hx hb dX7_cut_68 hl (by decide) rfl (fun ls hl => ?_)
        refine lv_iconst (v := 0) hx hb dX7_cut_70 (by decide) ?_
        refine lv_istore (lv' := [(8, .int (0 : Int32)), (6, .long (0 : Int64)), (0, .ref (ad 7)), (1, .int x1), (2, .int x2), (3, .long x3), (5, .int x5)]) hx hb dX7_cut_71 hl (by decide) rfl (fun ls hl => ?_)
        exact k_X7_cut_73 F hr (N := N) nx37 hn37 N x1 x2 x3 x5 (0 : Int64) (0 : Int32) i5' ls H locs hE hM (lv_sub hl [2, 3, 4, 5, 6, 1, 0] rfl)
theorem k_X7_cut_37 {p : Program} {l : Launch} {e : Env} {s : State} {m : MethodId} {args : Array Value} {below : List Frame} {meth : Method} {c : Code} {D : va_G} {y : Nat → ClassId} {nn : Nat} {ad : Nat → Nat} {A0 : Nat → Prop} {I : Nat → Int32} {J : Nat → Int64} {A : Nat → Nat → Int32} {B : Nat → Nat → Int64} {G : Nat → Nat → Nat → Int32} (F : Fx p s m args meth c cX7_cut 11 wsX7_cut RX7 D y A0) (hr : meth.sig.returnType = (some .long)) {out : Int64 × Int32} {N : Nat}  : ∀ (n : Nat), ∀ (x1 : Int32) (x2 : Int32) (x3 : Int64) (x5 : Int32) (i5' : Int32) (ls : Array Slot) (H : Heap) (locs : List Loc), lq5 (f_X7_cut_37 N (I 6) (B 54) ) n x1 x2 x3 x5 i5' = some out → MM D y nn ad A0 s.heap (va_up I 5 i5') J A B G H locs → lv_has ls 11 [(0, .ref (ad 7)), (1, .int x1), (2, .int x2), (3, .long x3), (5, .int x5)] → W p l e ({ frames := 2, cells := 0, slots := 0, locals := 44 } : Room) s m args below meth c H locs 0 0 (MQ below (mQl D y nn ad A0 out.1 ((va_up I 5 out.2), J, A, B, G)) args s 0 0 A0) (F0 m 37 ls []) := by
  intro n
  induction n with
  | zero =>
    intro x1 x2 x3 x5 i5' ls H locs hE
    cases (show (none : Option _) = some out from hE)
  | succ n ih =>
    intro x1 x2 x3 x5 i5' ls H locs hE hM hl
    exact s_X7_cut_37 F hr (N := N)  (lq5 (f_X7_cut_37 N (I 6) (B 54) ) n) ih x1 x2 x3 x5 i5' ls H locs hE hM hl
set_option maxHeartbeats 4000000 in
set_option maxRecDepth 100000 in
theorem c_X7_cut (l : Launch) (D : va_G) (y : Nat → ClassId) (nn : Nat) (ad : Nat → Nat) (sz : Nat) (I : Nat → Int32) (J : Nat → Int64) (A : Nat → Nat → Int32) (B : Nat → Nat → Int64) (G : Nat → Nat → Nat → Int32) (p1 : Int32) (p2 : Int32) (N : Nat) (out : Int64 × Int32) (hE : f_X7_cut N (I 6) (B 54) (I 5) p1 p2 = some out) : Met l yX7_cut wsX7_cut ({ frames := 2, cells := 0, slots := 0, locals := 44 } : Room) (mPc [.ref (ad 7), .int p1, .int p2] D y nn ad sz I J A B G) (mQl D y nn ad (mA y nn ad I J A B G sz) out.1 ((va_up I 5 out.2), J, A, B, G)) 0 0 (mA y nn ad I J A B G sz) := by
  refine Met.ofW (cc := cX7_cut) (maxL := 11) (ret := (some .long)) (by decide) rfl ?_
  intro p e s m args below meth c s₁ Bd hml hv
  obtain ⟨rfl, hsz, hP, hK, hD0, hN⟩ := hv
  have hr := Bd.returns
  subst hsz
  have F : Fx p s m ([.ref (ad 7), .int p1, .int p2] : List Value).toArray meth c cX7_cut 11 wsX7_cut RX7 D y (mA y nn ad I J A B G s.heap.size) := ⟨⟨Bd.exec, Bd.bytes, hml, findClass_of_methodNamed Bd.named, atoms_spec (ws := wsX7_cut) Bd.pre⟩, hK, hN, fun q h => Or.inr h, Bd.notSynchronized⟩
  have hM := m_start (s := s) rfl hP hD0
  have hM := m_mem (I2 := (va_up I 5 (I 5))) (J2 := J) (A2 := A) (B2 := B) (G2 := G) hM (by simp only [up_id]) (by rfl) (by rfl) (by rfl) (by rfl)
  have hx := F.1.1
  have hb := F.1.2.1
  have hl := lv_entry ([.ref (ad 7), .int p1, .int p2]) (n := 11) (Nat.le_of_ble_eq_true rfl)
  rw [lg_entry_eq]
  generalize (lg_sl ([.ref (ad 7), .int p1, .int p2]) ++ List.replicate (11 - (lg_sl ([.ref (ad 7), .int p1, .int p2])).length) Slot.unset).toArray = ls at hl ⊢
  have hl : lv_has ls 11 [(0, .ref (ad 7)), (1, .int p1), (2, .int p2)] := hl
  show W p l e ({ frames := 2, cells := 0, slots := 0, locals := 44 } : Room) s m _ below meth c s.heap [] 0 0 _ _
  obtain ⟨locs, hlo⟩ : ∃ locs : List Loc, locs = [] := ⟨_, rfl⟩
  rw [← hlo]; rw [← hlo] at hM
  unfold f_X7_cut at hE
  revert hM
  suffices hH : ∀ H : Heap, MM D y nn ad (mA y nn ad I J A B G s.heap.size) s.heap (va_up I 5 (I 5)) J A B G H locs → W p l e ({ frames := 2, cells := 0, slots := 0, locals := 44 } : Room) s m ([.ref (ad 7), .int p1, .int p2] : List Value).toArray below meth c H locs 0 0 (MQ below (mQl D y nn ad (mA y nn ad I J A B G s.heap.size) out.1 ((va_up I 5 out.2), J, A, B, G)) ([.ref (ad 7), .int p1, .int p2] : List Value).toArray s 0 0 (mA y nn ad I J A B G s.heap.size)) (F0 m 0 ls []) from hH s.heap
  intro H hM
  refine lv_aload_n hx hb dX7_cut_0 rfl (lv_at hl 0 rfl) ?_
  refine lv_iconst (v := 0) hx hb dX7_cut_1 (by decide) ?_
  refine m_put F hM 7 mg_7 rfl tyX7 tyX7_ok nmX7 0 (by decide) (by decide +kernel) (by decide +kernel) rfl (ty := .int) (v := .int (0 : Int32)) (by decide +kernel) rfl rfl (Nat.le_of_ble_eq_true rfl) (ms_7_0 _) (bx_uu _ _ _ _)  rfl dX7_cut_2 (fun H locs hM => ?_)
  refine lv_aload_n hx hb dX7_cut_5 rfl (lv_at hl 0 rfl) ?_
  refine lv_iload_n hx hb dX7_cut_6 rfl (lv_at hl 1 rfl) ?_
  obtain ⟨o7_0, ho7_0, hE⟩ := bd_some hE
  refine m_callVi (As := [.int p1]) (I2 := (va_up I 5 (0 : Int32))) (J2 := J) (A2 := A) (B2 := B) (G2 := G) F hM (c_X7_isPlace l D y nn ad H.size (va_up I 5 (0 : Int32)) J A B G p1  o7_0 ho7_0) (cwV 1 F.1.2.2.2.2 gX7_cut_X7_isPlace rfl rfl rfl (by decide +kernel) ⟨Nat.le_of_ble_eq_true rfl, Nat.le_of_ble_eq_true rfl⟩) (m_recv F hM mg_7 rfl) rfl hl.1 (Nat.le_of_ble_eq_true rfl) dX7_cut_7 ⟨Nat.le_refl 0, Nat.le_refl 0⟩ rfl rfl rfl rfl rfl (fun H locs hM => ?_)
  refine lv_if_eq (tgt := 26) hx hb dX7_cut_10 (by decide) (fun c10 => ?_) (fun c10 => ?_)
  · replace hE := (if_pos c10).symm.trans hE
    refine lv_ldc2 (v := (-1)) hx hb F.1.2.2.2.1 (F.1.2.2.2.2 (.constantLong RX7 96 (-1)) (by decide +kernel)) dX7_cut_26 ?_
    obtain rfl := Option.some.inj hE
    exact m_lret F hM hr rfl rfl dX7_cut_29
  · replace hE := (if_neg c10).symm.trans hE
    refine lv_aload_n hx hb dX7_cut_13 rfl (lv_at hl 0 rfl) ?_
    refine lv_iload_n hx hb dX7_cut_14 rfl (lv_at hl 2 rfl) ?_
    obtain ⟨o15_1, ho15_1, hE⟩ := bd_some hE
    refine m_callVi (As := [.int p2]) (I2 := (va_up I 5 (0 : Int32))) (J2 := J) (A2 := A) (B2 := B) (G2 := G) F hM (c_X7_isPlace l D y nn ad H.size (va_up I 5 (0 : Int32)) J A B G p2  o15_1 ho15_1) (cwV 1 F.1.2.2.2.2 gX7_cut_X7_isPlace rfl rfl rfl (by decide +kernel) ⟨Nat.le_of_ble_eq_true rfl, Nat.le_of_ble_eq_true rfl⟩) (m_recv F hM mg_7 rfl) rfl hl.1 (Nat.le_of_ble_eq_true rfl) dX7_cut_15 ⟨Nat.le_refl 0, Nat.le_refl 0⟩ rfl rfl rfl rfl rfl (fun H locs hM => ?_)
    refine lv_if_eq (tgt := 26) hx hb dX7_cut_18 (by decide) (fun c18 => ?_) (fun c18 => ?_)
    · replace hE := (if_pos c18).symm.trans hE
      refine lv_ldc2 (v := (-1)) hx hb F.1.2.2.2.1 (F.1.2.2.2.2 (.constantLong RX7 96 (-1)) (by decide +kernel)) dX7_cut_26 ?_
      obtain rfl := Option.some.inj hE
      exact m_lret F hM hr rfl rfl dX7_cut_29
    · replace hE := (if_neg c18).symm.trans hE
      refine lv_iload_n hx hb dX7_cut_21 rfl (lv_at hl 1 rfl) ?_
      refine lv_iload_n hx hb dX7_cut_22 rfl (lv_at hl 2 rfl) ?_
      refine lv_icmp_ne (tgt := 30) hx hb dX7_cut_23 (by decide) (fun c23 => ?_) (fun c23 => ?_)
      · replace hE := (if_neg c23).symm.trans hE
        refine lv_ldc2 (v := (1000000000000)) hx hb F.1.2.2.2.1 (F.1.2.2.2.2 (.constantLong RX7 52 (1000000000000)) (by decide +kernel)) dX7_cut_30 ?_
        refine lv_lstore_n (lv' := [(3, .long (1000000000000 : Int64)), (0, .ref (ad 7)), (1, .int p1), (2, .int p2)]) hx hb dX7_cut_33 rfl hl (by decide) rfl (fun ls hl => ?_)
        refine lv_iconst (v := 0) hx hb dX7_cut_34 (by decide) ?_
        refine lv_istore (lv' := [(5, .int (0 : Int32)), (3, .long (1000000000000 : Int64)), (0, .ref (ad 7)), (1, .int p1), (2, .int p2)]) hx hb dX7_cut_35 hl (by decide) rfl (fun ls hl => ?_)
        exact k_X7_cut_37 F hr (N := N)  N p1 p2 (1000000000000 : Int64) (0 : Int32) (0 : Int32) ls H locs hE hM (lv_sub hl [2, 3, 4, 1, 0] rfl)
      · replace hE := (if_pos c23).symm.trans hE
        refine lv_ldc2 (v := (-1)) hx hb F.1.2.2.2.1 (F.1.2.2.2.2 (.constantLong RX7 96 (-1)) (by decide +kernel)) dX7_cut_26 ?_
        obtain rfl := Option.some.inj hE
        exact m_lret F hM hr rfl rfl dX7_cut_29
