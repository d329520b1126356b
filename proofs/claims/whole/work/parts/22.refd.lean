/-! ===== X7_pair: reads I8 A34, writes I5, frames 0, locals 0 ===== -/
def f_X7_pair (i8 : Int32) (a34 : Nat → Int32) (i5 : Int32) (p1 : Int32) (p2 : Int32) : Option (Int32 × Int32) :=
(if p1 < (0 : Int32) then
some ((-1 : Int32), (0 : Int32))
else
(if i8 ≤ p1 then
some ((-1 : Int32), (0 : Int32))
else
(if p2 < (0 : Int32) then
some ((-1 : Int32), (0 : Int32))
else
(if p2 ≤ (1 : Int32) then
ck (((2 : Int32) * p1) + p2) 12 (
some ((a34 (((2 : Int32) * p1) + p2).toNatClampNeg), (0 : Int32)))
else
some ((-1 : Int32), (0 : Int32))))))
set_option maxHeartbeats 4000000 in
set_option maxRecDepth 100000 in
theorem c_X7_pair (l : Launch) (D : va_G) (y : Nat → ClassId) (nn : Nat) (ad : Nat → Nat) (sz : Nat) (I : Nat → Int32) (J : Nat → Int64) (A : Nat → Nat → Int32) (B : Nat → Nat → Int64) (G : Nat → Nat → Nat → Int32) (p1 : Int32) (p2 : Int32)  (out : Int32 × Int32) (hE : f_X7_pair (I 8) (A 34) (I 5) p1 p2 = some out) : Met l yX7_pair wsX7_pair ({ frames := 0, cells := 0, slots := 0, locals := 0 } : Room) (mPc [.ref (ad 7), .int p1, .int p2] D y nn ad sz I J A B G) (mQi D y nn ad (mA y nn ad I J A B G sz) out.1 ((va_up I 5 out.2), J, A, B, G)) 0 0 (mA y nn ad I J A B G sz) := by
  refine Met.ofW (cc := cX7_pair) (maxL := 3) (ret := (some .int)) (by decide) rfl ?_
  intro p e s m args below meth c s₁ Bd hml hv
  obtain ⟨rfl, hsz, hP, hK, hD0, hN⟩ := hv
  have hr := Bd.returns
  subst hsz
  have F : Fx p s m ([.ref (ad 7), .int p1, .int p2] : List Value).toArray meth c cX7_pair 3 wsX7_pair RX7 D y (mA y nn ad I J A B G s.heap.size) := ⟨⟨Bd.exec, Bd.bytes, hml, findClass_of_methodNamed Bd.named, atoms_spec (ws := wsX7_pair) Bd.pre⟩, hK, hN, fun q h => Or.inr h, Bd.notSynchronized⟩
  have hM := m_start (s := s) rfl hP hD0
  have hM := m_mem (I2 := (va_up I 5 (I 5))) (J2 := J) (A2 := A) (B2 := B) (G2 := G) hM (by simp only [up_id]) (by rfl) (by rfl) (by rfl) (by rfl)
  have hx := F.1.1
  have hb := F.1.2.1
  have hl := lv_entry ([.ref (ad 7), .int p1, .int p2]) (n := 3) (Nat.le_of_ble_eq_true rfl)
  rw [lg_entry_eq]
  generalize (lg_sl ([.ref (ad 7), .int p1, .int p2]) ++ List.replicate (3 - (lg_sl ([.ref (ad 7), .int p1, .int p2])).length) Slot.unset).toArray = ls at hl ⊢
  have hl : lv_has ls 3 [(0, .ref (ad 7)), (1, .int p1), (2, .int p2)] := hl
  show W p l e ({ frames := 0, cells := 0, slots := 0, locals := 0 } : Room) s m _ below meth c s.heap [] 0 0 _ _
  obtain ⟨locs, hlo⟩ : ∃ locs : List Loc, locs = [] := ⟨_, rfl⟩
  rw [← hlo]; rw [← hlo] at hM
  unfold f_X7_pair at hE
  revert hM
  suffices hH : ∀ H : Heap, MM D y nn ad (mA y nn ad I J A B G s.heap.size) s.heap (va_up I 5 (I 5)) J A B G H locs → W p l e ({ frames := 0, cells := 0, slots := 0, locals := 0 } : Room) s m ([.ref (ad 7), .int p1, .int p2] : List Value).toArray below meth c H locs 0 0 (MQ below (mQi D y nn ad (mA y nn ad I J A B G s.heap.size) out.1 ((va_up I 5 out.2), J, A, B, G)) ([.ref (ad 7), .int p1, .int p2] : List Value).toArray s 0 0 (mA y nn ad I J A B G s.heap.size)) (F0 m 0 ls []) from hH s.heap
  intro H hM
  refine lv_aload_n hx hb dX7_pair_0 rfl (lv_at hl 0 rfl) ?_
  refine lv_iconst (v := 0) hx hb dX7_pair_1 (by decide) ?_
  refine m_put F hM 7 mg_7 rfl tyX7 tyX7_ok nmX7 0 (by decide) (by decide +kernel) (by decide +kernel) rfl (ty := .int) (v := .int (0 : Int32)) (by decide +kernel) rfl rfl (Nat.le_of_ble_eq_true rfl) (ms_7_0 _) (bx_uu _ _ _ _)  rfl dX7_pair_2 (fun H locs hM => ?_)
  refine lv_iload_n hx hb dX7_pair_5 rfl (lv_at hl 1 rfl) ?_
  refine lv_if_lt (tgt := 26) hx hb dX7_pair_6 (by decide) (fun c6 => ?_) (fun c6 => ?_)
  · replace hE := (if_pos c6).symm.trans hE
    refine lv_iconst (v := (-1)) hx hb dX7_pair_26 (by decide) ?_
    refine lv_goto (tgt := 40) hx hb dX7_pair_27 (by decide) ?_
    obtain rfl := Option.some.inj hE
    exact m_iret F hM hr rfl rfl dX7_pair_40
  · replace hE := (if_neg c6).symm.trans hE
    refine lv_iload_n hx hb dX7_pair_9 rfl (lv_at hl 1 rfl) ?_
    refine lv_aload_n hx hb dX7_pair_10 rfl (lv_at hl 0 rfl) ?_
    refine m_get F hM 7 mg_7 rfl 4 (by decide) (by decide +kernel) (by decide +kernel) (v := .int (I 8)) rfl dX7_pair_11 ?_
    refine lv_icmp_ge (tgt := 26) hx hb dX7_pair_14 (by decide) (fun c14 => ?_) (fun c14 => ?_)
    · replace hE := (if_pos c14).symm.trans hE
      refine lv_iconst (v := (-1)) hx hb dX7_pair_26 (by decide) ?_
      refine lv_goto (tgt := 40) hx hb dX7_pair_27 (by decide) ?_
      obtain rfl := Option.some.inj hE
      exact m_iret F hM hr rfl rfl dX7_pair_40
    · replace hE := (if_neg c14).symm.trans hE
      refine lv_iload_n hx hb dX7_pair_17 rfl (lv_at hl 2 rfl) ?_
      refine lv_if_lt (tgt := 26) hx hb dX7_pair_18 (by decide) (fun c18 => ?_) (fun c18 => ?_)
      · replace hE := (if_pos c18).symm.trans hE
        refine lv_iconst (v := (-1)) hx hb dX7_pair_26 (by decide) ?_
        refine lv_goto (tgt := 40) hx hb dX7_pair_27 (by decide) ?_
        obtain rfl := Option.some.inj hE
        exact m_iret F hM hr rfl rfl dX7_pair_40
      · replace hE := (if_neg c18).symm.trans hE
        refine lv_iload_n hx hb dX7_pair_21 rfl (lv_at hl 2 rfl) ?_
        refine lv_iconst (v := 1) hx hb dX7_pair_22 (by decide) ?_
        refine lv_icmp_le (tgt := 30) hx hb dX7_pair_23 (by decide) (fun c23 => ?_) (fun c23 => ?_)
        · replace hE := (if_pos c23).symm.trans hE
          refine lv_aload_n hx hb dX7_pair_30 rfl (lv_at hl 0 rfl) ?_
          refine m_get F hM 7 mg_7 rfl 5 (by decide) (by decide +kernel) (by decide +kernel) (v := .ref (ad 34)) rfl dX7_pair_31 ?_
          refine lv_iconst (v := 2) hx hb dX7_pair_34 (by decide) ?_
          refine lv_iload_n hx hb dX7_pair_35 rfl (lv_at hl 1 rfl) ?_
          refine lv_imul hx hb dX7_pair_36 ?_
          refine lv_iload_n hx hb dX7_pair_37 rfl (lv_at hl 2 rfl) ?_
          refine lv_iadd hx hb dX7_pair_38 ?_
          obtain ⟨hi39_0, hE⟩ := ck_some hE
          refine m_iald (g := (A 34)) F hM mg_34 rfl hi39_0 dX7_pair_39 ?_
          obtain rfl := Option.some.inj hE
          exact m_iret F hM hr rfl rfl dX7_pair_40
        · replace hE := (if_neg c23).symm.trans hE
          refine lv_iconst (v := (-1)) hx hb dX7_pair_26 (by decide) ?_
          refine lv_goto (tgt := 40) hx hb dX7_pair_27 (by decide) ?_
          obtain rfl := Option.some.inj hE
          exact m_iret F hM hr rfl rfl dX7_pair_40
/-! ===== X7_greatestNow: reads I6 B54, writes I7 J1 A35 A36 B55 B56, frames 6, locals 143 ===== -/
def f_X7_greatestNow (N : Nat) (i6 : Int32) (b54 : Nat → Int64) (i7 : Int32) (j1 : Int64) (a35 : Nat → Int32) (a36 : Nat → Int32) (b55 : Nat → Int64) (b56 : Nat → Int64)  : Option (Int64 × Int32 × Int64 × (Nat → Int32) × (Nat → Int32) × (Nat → Int64) × (Nat → Int64)) :=
bd (f_X7_grow N i6 b54 i7 j1 a35 a36 b55 (50 : Int32)) fun o8_0 =>
bd (f_X7_half o8_0.1) fun o11_1 =>
bd (f_X7_assignNow N i6 b54 b56) fun o21_2 =>
(if o11_1 = (-1 : Int64) then
some ((-1 : Int64), i7, o8_0.2.2.1, o8_0.2.2.2.1, o8_0.2.2.2.2.1, o8_0.2.2.2.2.2, o21_2.2)
else
(if o21_2.1 = (-1 : Int64) then
some ((-1 : Int64), i7, o8_0.2.2.1, o8_0.2.2.2.1, o8_0.2.2.2.2.1, o8_0.2.2.2.2.2, o21_2.2)
else
(if o11_1 ≤ o21_2.1 then
some (o21_2.1, i7, o8_0.2.2.1, o8_0.2.2.2.1, o8_0.2.2.2.2.1, o8_0.2.2.2.2.2, o21_2.2)
else
some (o11_1, i7, o8_0.2.2.1, o8_0.2.2.2.1, o8_0.2.2.2.2.1, o8_0.2.2.2.2.2, o21_2.2))))
set_option maxHeartbeats 4000000 in
set_option maxRecDepth 100000 in
theorem c_X7_greatestNow (l : Launch) (D : va_G) (y : Nat → ClassId) (nn : Nat) (ad : Nat → Nat) (sz : Nat) (I : Nat → Int32) (J : Nat → Int64) (A : Nat → Nat → Int32) (B : Nat → Nat → Int64) (G : Nat → Nat → Nat → Int32)  (N : Nat) (out : Int64 × Int32 × Int64 × (Nat → Int32) × (Nat → Int32) × (Nat → Int64) × (Nat → Int64)) (hE : f_X7_greatestNow N (I 6) (B 54) (I 7) (J 1) (A 35) (A 36) (B 55) (B 56)  = some out) : Met l yX7_greatestNow wsX7_greatestNow ({ frames := 6, cells := 0, slots := 0, locals := 143 } : Room) (mPc [.ref (ad 7)] D y nn ad sz I J A B G) (mQl D y nn ad (mA y nn ad I J A B G sz) out.1 ((va_up I 7 out.2.1), (va_up J 1 out.2.2.1), (va_up (va_up A 35 out.2.2.2.1) 36 out.2.2.2.2.1), (va_up (va_up B 55 out.2.2.2.2.2.1) 56 out.2.2.2.2.2.2), G)) 0 0 (mA y nn ad I J A B G sz) := by
  refine Met.ofW (cc := cX7_greatestNow) (maxL := 6) (ret := (some .long)) (by decide) rfl ?_
  intro p e s m args below meth c s₁ Bd hml hv
  obtain ⟨rfl, hsz, hP, hK, hD0, hN⟩ := hv
  have hr := Bd.returns
  subst hsz
  have F : Fx p s m ([.ref (ad 7)] : List Value).toArray meth c cX7_greatestNow 6 wsX7_greatestNow RX7 D y (mA y nn ad I J A B G s.heap.size) := ⟨⟨Bd.exec, Bd.bytes, hml, findClass_of_methodNamed Bd.named, atoms_spec (ws := wsX7_greatestNow) Bd.pre⟩, hK, hN, fun q h => Or.inr h, Bd.notSynchronized⟩
  have hM := m_start (s := s) rfl hP hD0
  have hM := m_mem (I2 := (va_up I 7 (I 7))) (J2 := (va_up J 1 (J 1))) (A2 := (va_up (va_up A 35 (A 35)) 36 (A 36))) (B2 := (va_up (va_up B 55 (B 55)) 56 (B 56))) (G2 := G) hM (by simp only [up_id]) (by simp only [up_id]) (by simp only [up_id]) (by simp only [up_id]) (by rfl)
  have hx := F.1.1
  have hb := F.1.2.1
  have hl := lv_entry ([.ref (ad 7)]) (n := 6) (Nat.le_of_ble_eq_true rfl)
  rw [lg_entry_eq]
  generalize (lg_sl ([.ref (ad 7)]) ++ List.replicate (6 - (lg_sl ([.ref (ad 7)])).length) Slot.unset).toArray = ls at hl ⊢
  have hl : lv_has ls 6 [(0, .ref (ad 7))] := hl
  show W p l e ({ frames := 6, cells := 0, slots := 0, locals := 143 } : Room) s m _ below meth c s.heap [] 0 0 _ _
  obtain ⟨locs, hlo⟩ : ∃ locs : List Loc, locs = [] := ⟨_, rfl⟩
  rw [← hlo]; rw [← hlo] at hM
  unfold f_X7_greatestNow at hE
  revert hM
  suffices hH : ∀ H : Heap, MM D y nn ad (mA y nn ad I J A B G s.heap.size) s.heap (va_up I 7 (I 7)) (va_up J 1 (J 1)) (va_up (va_up A 35 (A 35)) 36 (A 36)) (va_up (va_up B 55 (B 55)) 56 (B 56)) G H locs → W p l e ({ frames := 6, cells := 0, slots := 0, locals := 143 } : Room) s m ([.ref (ad 7)] : List Value).toArray below meth c H locs 0 0 (MQ below (mQl D y nn ad (mA y nn ad I J A B G s.heap.size) out.1 ((va_up I 7 out.2.1), (va_up J 1 out.2.2.1), (va_up (va_up A 35 out.2.2.2.1) 36 out.2.2.2.2.1), (va_up (va_up B 55 out.2.2.2.2.2.1) 56 out.2.2.2.2.2.2), G)) ([.ref (ad 7)] : List Value).toArray s 0 0 (mA y nn ad I J A B G s.heap.size)) (F0 m 0 ls []) from hH s.heap
  intro H hM
  refine lv_aload_n hx hb dX7_greatestNow_0 rfl (lv_at hl 0 rfl) ?_
  refine m_get F hM 7 mg_7 rfl 3 (by decide) (by decide +kernel) (by decide +kernel) (v := .int (I 7)) rfl dX7_greatestNow_1 ?_
  refine lv_istore_n (lv' := [(1, .int (I 7)), (0, .ref (ad 7))]) hx hb dX7_greatestNow_4 rfl hl (by decide) rfl (fun ls hl => ?_)
  refine lv_aload_n hx hb dX7_greatestNow_5 rfl (lv_at hl 1 rfl) ?_
  refine lv_bipush (v := 50) hx hb dX7_greatestNow_6 (by decide) ?_
  obtain ⟨o8_0, ho8_0, hE⟩ := bd_some hE
  refine m_callVl (As := [.int (50 : Int32)]) (I2 := (va_up I 7 o8_0.2.1)) (J2 := (va_up J 1 o8_0.2.2.1)) (A2 := (va_up (va_up A 35 o8_0.2.2.2.1) 36 o8_0.2.2.2.2.1)) (B2 := (va_up (va_up B 55 o8_0.2.2.2.2.2) 56 (B 56))) (G2 := G) F hM (c_X7_grow l D y nn ad H.size (va_up I 7 (I 7)) (va_up J 1 (J 1)) (va_up (va_up A 35 (A 35)) 36 (A 36)) (va_up (va_up B 55 (B 55)) 56 (B 56)) G (50 : Int32) N o8_0 ho8_0) (cwV 1 F.1.2.2.2.2 gX7_greatestNow_X7_grow rfl rfl rfl (by decide +kernel) ⟨Nat.le_of_ble_eq_true rfl, Nat.le_of_ble_eq_true rfl⟩) (m_recv F hM mg_7 rfl) rfl hl.1 (Nat.le_of_ble_eq_true rfl) dX7_greatestNow_8 ⟨Nat.le_refl 0, Nat.le_refl 0⟩ (bx_uu _ _ _ _) (bx_uu _ _ _ _) un_35_36__35_36 un_55_56__55 rfl (fun H locs hM => ?_)
  obtain ⟨o11_1, ho11_1, hE⟩ := bd_some hE
  refine m_callSl (As := [.long o8_0.1]) (I2 := (va_up I 7 o8_0.2.1)) (J2 := (va_up J 1 o8_0.2.2.1)) (A2 := (va_up (va_up A 35 o8_0.2.2.2.1) 36 o8_0.2.2.2.2.1)) (B2 := (va_up (va_up B 55 o8_0.2.2.2.2.2) 56 (B 56))) (G2 := G) F hM (c_X7_half l D y nn ad H.size (va_up I 7 o8_0.2.1) (va_up J 1 o8_0.2.2.1) (va_up (va_up A 35 o8_0.2.2.2.1) 36 o8_0.2.2.2.2.1) (va_up (va_up B 55 o8_0.2.2.2.2.2) 56 (B 56)) G o8_0.1  o11_1 ho11_1) (va_cwS 1 F.1.2.2.2.2 gX7_greatestNow_X7_half rfl rfl rfl (by decide +kernel) ⟨Nat.le_of_ble_eq_true rfl, Nat.le_of_ble_eq_true rfl⟩) rfl hl.1 (Nat.le_of_ble_eq_true rfl) dX7_greatestNow_11 ⟨Nat.le_refl 0, Nat.le_refl 0⟩ rfl rfl rfl rfl rfl (fun H locs hM => ?_)
  refine lv_lstore_n (lv' := [(2, .long o11_1), (1, .int (I 7)), (0, .ref (ad 7))]) hx hb dX7_greatestNow_14 rfl hl (by decide) rfl (fun ls hl => ?_)
  refine lv_aload_n hx hb dX7_greatestNow_15 rfl (lv_at hl 2 rfl) ?_
  refine lv_iload_n hx hb dX7_greatestNow_16 rfl (lv_at hl 1 rfl) ?_
  refine m_put F hM 7 mg_7 rfl tyX7 tyX7_ok nmX7 3 (by decide) (by decide +kernel) (by decide +kernel) rfl (ty := .int) (v := .int (I 7)) (by decide +kernel) rfl rfl (Nat.le_of_ble_eq_true rfl) (ms_7_3 _) (bx_uu _ _ _ _)  rfl dX7_greatestNow_17 (fun H locs hM => ?_)
  refine lv_aload_n hx hb dX7_greatestNow_20 rfl (lv_at hl 2 rfl) ?_
  obtain ⟨o21_2, ho21_2, hE⟩ := bd_some hE
  refine m_callVl (As := []) (I2 := (va_up I 7 (I 7))) (J2 := (va_up J 1 o8_0.2.2.1)) (A2 := (va_up (va_up A 35 o8_0.2.2.2.1) 36 o8_0.2.2.2.2.1)) (B2 := (va_up (va_up B 55 o8_0.2.2.2.2.2) 56 o21_2.2)) (G2 := G) F hM (c_X7_assignNow l D y nn ad H.size (va_up I 7 (I 7)) (va_up J 1 o8_0.2.2.1) (va_up (va_up A 35 o8_0.2.2.2.1) 36 o8_0.2.2.2.2.1) (va_up (va_up B 55 o8_0.2.2.2.2.2) 56 (B 56)) G  N o21_2 ho21_2) (cwV 0 F.1.2.2.2.2 gX7_greatestNow_X7_assignNow rfl rfl rfl (by decide +kernel) ⟨Nat.le_of_ble_eq_true rfl, Nat.le_of_ble_eq_true rfl⟩) (m_recv F hM mg_7 rfl) rfl hl.1 (Nat.le_of_ble_eq_true rfl) dX7_greatestNow_21 ⟨Nat.le_refl 0, Nat.le_refl 0⟩ rfl rfl rfl un_55_56__56 rfl (fun H locs hM => ?_)
  refine lv_lstore (lv' := [(4, .long o21_2.1), (2, .long o11_1), (1, .int (I 7)), (0, .ref (ad 7))]) hx hb dX7_greatestNow_24 hl (by decide) rfl (fun ls hl => ?_)
  refine lv_lload_n hx hb dX7_greatestNow_26 rfl (lv_at hl 1 rfl) ?_
  refine lv_ldc2 (v := (-1)) hx hb F.1.2.2.2.1 (F.1.2.2.2.2 (.constantLong RX7 96 (-1)) (by decide +kernel)) dX7_greatestNow_27 ?_
  refine m_leq (tgt := 43) F dX7_greatestNow_30 dX7_greatestNow_31 (by decide) (fun c31 => ?_) (fun c31 => ?_)
  · replace hE := (if_pos c31).symm.trans hE
    refine lv_ldc2 (v := (-1)) hx hb F.1.2.2.2.1 (F.1.2.2.2.2 (.constantLong RX7 96 (-1)) (by decide +kernel)) dX7_greatestNow_43 ?_
    refine lv_goto (tgt := 62) hx hb dX7_greatestNow_46 (by decide) ?_
    obtain rfl := Option.some.inj hE
    exact m_lret F hM hr rfl rfl dX7_greatestNow_62
  · replace hE := (if_neg c31).symm.trans hE
    refine lv_lload hx hb dX7_greatestNow_34 (lv_at hl 0 rfl) ?_
    refine lv_ldc2 (v := (-1)) hx hb F.1.2.2.2.1 (F.1.2.2.2.2 (.constantLong RX7 96 (-1)) (by decide +kernel)) dX7_greatestNow_36 ?_
    refine m_lne (tgt := 49) F dX7_greatestNow_39 dX7_greatestNow_40 (by decide) (fun c40 => ?_) (fun c40 => ?_)
    · replace hE := (if_neg c40).symm.trans hE
      refine lv_lload_n hx hb dX7_greatestNow_49 rfl (lv_at hl 1 rfl) ?_
      refine lv_lload hx hb dX7_greatestNow_50 (lv_at hl 0 rfl) ?_
      refine m_lle (tgt := 60) F dX7_greatestNow_52 dX7_greatestNow_53 (by decide) (fun c53 => ?_) (fun c53 => ?_)
      · replace hE := (if_pos c53).symm.trans hE
        refine lv_lload hx hb dX7_greatestNow_60 (lv_at hl 0 rfl) ?_
        obtain rfl := Option.some.inj hE
        exact m_lret F hM hr rfl rfl dX7_greatestNow_62
      · replace hE := (if_neg c53).symm.trans hE
        refine lv_lload_n hx hb dX7_greatestNow_56 rfl (lv_at hl 1 rfl) ?_
        refine lv_goto (tgt := 62) hx hb dX7_greatestNow_57 (by decide) ?_
        obtain rfl := Option.some.inj hE
        exact m_lret F hM hr rfl rfl dX7_greatestNow_62
    · replace hE := (if_pos c40).symm.trans hE
      refine lv_ldc2 (v := (-1)) hx hb F.1.2.2.2.1 (F.1.2.2.2.2 (.constantLong RX7 96 (-1)) (by decide +kernel)) dX7_greatestNow_43 ?_
      refine lv_goto (tgt := 62) hx hb dX7_greatestNow_46 (by decide) ?_
      obtain rfl := Option.some.inj hE
      exact m_lret F hM hr rfl rfl dX7_greatestNow_62
/-! ===== X7_greatest: reads I6 B54, writes I5 I7 J1 A35 A36 B55 B56, frames 7, locals 168 ===== -/
def f_X7_greatest (N : Nat) (i6 : Int32) (b54 : Nat → Int64) (i5 : Int32) (i7 : Int32) (j1 : Int64) (a35 : Nat → Int32) (a36 : Nat → Int32) (b55 : Nat → Int64) (b56 : Nat → Int64)  : Option (Int64 × Int32 × Int32 × Int64 × (Nat → Int32) × (Nat → Int32) × (Nat → Int64) × (Nat → Int64)) :=
bd (f_X7_greatestNow N i6 b54 i7 j1 a35 a36 b55 b56) fun o6_0 =>
some (o6_0.1, (0 : Int32), o6_0.2.1, o6_0.2.2.1, o6_0.2.2.2.1, o6_0.2.2.2.2.1, o6_0.2.2.2.2.2.1, o6_0.2.2.2.2.2.2)
set_option maxHeartbeats 4000000 in
set_option maxRecDepth 100000 in
theorem c_X7_greatest (l : Launch) (D : va_G) (y : Nat → ClassId) (nn : Nat) (ad : Nat → Nat) (sz : Nat) (I : Nat → Int32) (J : Nat → Int64) (A : Nat → Nat → Int32) (B : Nat → Nat → Int64) (G : Nat → Nat → Nat → Int32)  (N : Nat) (out : Int64 × Int32 × Int32 × Int64 × (Nat → Int32) × (Nat → Int32) × (Nat → Int64) × (Nat → Int64)) (hE : f_X7_greatest N (I 6) (B 54) (I 5) (I 7) (J 1) (A 35) (A 36) (B 55) (B 56)  = some out) : Met l yX7_greatest wsX7_greatest ({ frames := 7, cells := 0, slots := 0, locals := 168 } : Room) (mPc [.ref (ad 7)] D y nn ad sz I J A B G) (mQl D y nn ad (mA y nn ad I J A B G sz) out.1 ((va_up (va_up I 5 out.2.1) 7 out.2.2.1), (va_up J 1 out.2.2.2.1), (va_up (va_up A 35 out.2.2.2.2.1) 36 out.2.2.2.2.2.1), (va_up (va_up B 55 out.2.2.2.2.2.2.1) 56 out.2.2.2.2.2.2.2), G)) 0 0 (mA y nn ad I J A B G sz) := by
  refine Met.ofW (cc := cX7_greatest) (maxL := 1) (ret := (some .long)) (by decide) rfl ?_
  intro p e s m args below meth c s₁ Bd hml hv
  obtain ⟨rfl, hsz, hP, hK, hD0, hN⟩ := hv
  have hr := Bd.returns
  subst hsz
  have F : Fx p s m ([.ref (ad 7)] : List Value).toArray meth c cX7_greatest 1 wsX7_greatest RX7 D y (mA y nn ad I J A B G s.heap.size) := ⟨⟨Bd.exec, Bd.bytes, hml, findClass_of_methodNamed Bd.named, atoms_spec (ws := wsX7_greatest) Bd.pre⟩, hK, hN, fun q h => Or.inr h, Bd.notSynchronized⟩
  have hM := m_start (s := s) rfl hP hD0
  have hM := m_mem (I2 := (va_up (va_up I 5 (I 5)) 7 (I 7))) (J2 := (va_up J 1 (J 1))) (A2 := (va_up (va_up A 35 (A 35)) 36 (A 36))) (B2 := (va_up (va_up B 55 (B 55)) 56 (B 56))) (G2 := G) hM (by simp only [up_id]) (by simp only [up_id]) (by simp only [up_id]) (by simp only [up_id]) (by rfl)
  have hx := F.1.1
  have hb := F.1.2.1
  have hl := lv_entry ([.ref (ad 7)]) (n := 1) (Nat.le_of_ble_eq_true rfl)
  rw [lg_entry_eq]
  generalize (lg_sl ([.ref (ad 7)]) ++ List.replicate (1 - (lg_sl ([.ref (ad 7)])).length) Slot.unset).toArray = ls at hl ⊢
  have hl : lv_has ls 1 [(0, .ref (ad 7))] := hl
  show W p l e ({ frames := 7, cells := 0, slots := 0, locals := 168 } : Room) s m _ below meth c s.heap [] 0 0 _ _
  obtain ⟨locs, hlo⟩ : ∃ locs : List Loc, locs = [] := ⟨_, rfl⟩
  rw [← hlo]; rw [← hlo] at hM
  unfold f_X7_greatest at hE
  revert hM
  suffices hH : ∀ H : Heap, MM D y nn ad (mA y nn ad I J A B G s.heap.size) s.heap (va_up (va_up I 5 (I 5)) 7 (I 7)) (va_up J 1 (J 1)) (va_up (va_up A 35 (A 35)) 36 (A 36)) (va_up (va_up B 55 (B 55)) 56 (B 56)) G H locs → W p l e ({ frames := 7, cells := 0, slots := 0, locals := 168 } : Room) s m ([.ref (ad 7)] : List Value).toArray below meth c H locs 0 0 (MQ below (mQl D y nn ad (mA y nn ad I J A B G s.heap.size) out.1 ((va_up (va_up I 5 out.2.1) 7 out.2.2.1), (va_up J 1 out.2.2.2.1), (va_up (va_up A 35 out.2.2.2.2.1) 36 out.2.2.2.2.2.1), (va_up (va_up B 55 out.2.2.2.2.2.2.1) 56 out.2.2.2.2.2.2.2), G)) ([.ref (ad 7)] : List Value).toArray s 0 0 (mA y nn ad I J A B G s.heap.size)) (F0 m 0 ls []) from hH s.heap
  intro H hM
  refine lv_aload_n hx hb dX7_greatest_0 rfl (lv_at hl 0 rfl) ?_
  refine lv_iconst (v := 0) hx hb dX7_greatest_1 (by decide) ?_
  refine m_put F hM 7 mg_7 rfl tyX7 tyX7_ok nmX7 0 (by decide) (by decide +kernel) (by decide +kernel) rfl (ty := .int) (v := .int (0 : Int32)) (by decide +kernel) rfl rfl (Nat.le_of_ble_eq_true rfl) (ms_7_0 _) un_5_7__5  rfl dX7_greatest_2 (fun H locs hM => ?_)
  refine lv_aload_n hx hb dX7_greatest_5 rfl (lv_at hl 0 rfl) ?_
  obtain ⟨o6_0, ho6_0, hE⟩ := bd_some hE
  refine m_callVl (As := []) (I2 := (va_up (va_up I 5 (0 : Int32)) 7 o6_0.2.1)) (J2 := (va_up J 1 o6_0.2.2.1)) (A2 := (va_up (va_up A 35 o6_0.2.2.2.1) 36 o6_0.2.2.2.2.1)) (B2 := (va_up (va_up B 55 o6_0.2.2.2.2.2.1) 56 o6_0.2.2.2.2.2.2)) (G2 := G) F hM (c_X7_greatestNow l D y nn ad H.size (va_up (va_up I 5 (0 : Int32)) 7 (I 7)) (va_up J 1 (J 1)) (va_up (va_up A 35 (A 35)) 36 (A 36)) (va_up (va_up B 55 (B 55)) 56 (B 56)) G  N o6_0 ho6_0) (cwV 0 F.1.2.2.2.2 gX7_greatest_X7_greatestNow rfl rfl rfl (by decide +kernel) ⟨Nat.le_of_ble_eq_true rfl, Nat.le_of_ble_eq_true rfl⟩) (m_recv F hM mg_7 rfl) rfl hl.1 (Nat.le_of_ble_eq_true rfl) dX7_greatest_6 ⟨Nat.le_refl 0, Nat.le_refl 0⟩ un_5_7__7 (bx_uu _ _ _ _) un_35_36__35_36 un_55_56__55_56 rfl (fun H locs hM => ?_)
  obtain rfl := Option.some.inj hE
  exact m_lret F hM hr rfl rfl dX7_greatest_9
/-! ===== X7_linear: reads I6 B54, writes I5 I7 J1 A35 A36 B55 B56, frames 7, locals 168 ===== -/
def f_X7_linear (N : Nat) (i6 : Int32) (b54 : Nat → Int64) (i5 : Int32) (i7 : Int32) (j1 : Int64) (a35 : Nat → Int32) (a36 : Nat → Int32) (b55 : Nat → Int64) (b56 : Nat → Int64) (p1 : Int32) : Option (Int64 × Int32 × Int32 × Int64 × (Nat → Int32) × (Nat → Int32) × (Nat → Int64) × (Nat → Int64)) :=
bd (f_X7_greatestNow N i6 b54 i7 j1 a35 a36 b55 b56) fun o1_0 =>
(if o1_0.1 = (-1 : Int64) then
(if (0 : Int32) ≤ (0 : Int32) then
(if o1_0.1 = (-1 : Int64) then
some ((-1 : Int64), (0 : Int32), o1_0.2.1, o1_0.2.2.1, o1_0.2.2.2.1, o1_0.2.2.2.2.1, o1_0.2.2.2.2.2.1, o1_0.2.2.2.2.2.2)
else
dvl p1.toInt64 (
some ((((1000 : Int64) * o1_0.1) / p1.toInt64), (0 : Int32), o1_0.2.1, o1_0.2.2.1, o1_0.2.2.2.1, o1_0.2.2.2.2.1, o1_0.2.2.2.2.2.1, o1_0.2.2.2.2.2.2)))
else
some ((0 : Int64), (0 : Int32), o1_0.2.1, o1_0.2.2.1, o1_0.2.2.2.1, o1_0.2.2.2.2.1, o1_0.2.2.2.2.2.1, o1_0.2.2.2.2.2.2))
else
(if p1 = (0 : Int32) then
(if (1 : Int32) ≤ (0 : Int32) then
(if o1_0.1 = (-1 : Int64) then
some ((-1 : Int64), (1 : Int32), o1_0.2.1, o1_0.2.2.1, o1_0.2.2.2.1, o1_0.2.2.2.2.1, o1_0.2.2.2.2.2.1, o1_0.2.2.2.2.2.2)
else
dvl p1.toInt64 (
some ((((1000 : Int64) * o1_0.1) / p1.toInt64), (1 : Int32), o1_0.2.1, o1_0.2.2.1, o1_0.2.2.2.1, o1_0.2.2.2.2.1, o1_0.2.2.2.2.2.1, o1_0.2.2.2.2.2.2)))
else
some ((0 : Int64), (1 : Int32), o1_0.2.1, o1_0.2.2.1, o1_0.2.2.2.1, o1_0.2.2.2.2.1, o1_0.2.2.2.2.2.1, o1_0.2.2.2.2.2.2))
else
(if (0 : Int32) ≤ (0 : Int32) then
(if o1_0.1 = (-1 : Int64) then
some ((-1 : Int64), (0 : Int32), o1_0.2.1, o1_0.2.2.1, o1_0.2.2.2.1, o1_0.2.2.2.2.1, o1_0.2.2.2.2.2.1, o1_0.2.2.2.2.2.2)
else
dvl p1.toInt64 (
some ((((1000 : Int64) * o1_0.1) / p1.toInt64), (0 : Int32), o1_0.2.1, o1_0.2.2.1, o1_0.2.2.2.1, o1_0.2.2.2.2.1, o1_0.2.2.2.2.2.1, o1_0.2.2.2.2.2.2)))
else
some ((0 : Int64), (0 : Int32), o1_0.2.1, o1_0.2.2.1, o1_0.2.2.2.1, o1_0.2.2.2.2.1, o1_0.2.2.2.2.2.1, o1_0.2.2.2.2.2.2))))
set_option maxHeartbeats 4000000 in
set_option maxRecDepth 100000 in
theorem c_X7_linear (l : Launch) (D : va_G) (y : Nat → ClassId) (nn : Nat) (ad : Nat → Nat) (sz : Nat) (I : Nat → Int32) (J : Nat → Int64) (A : Nat → Nat → Int32) (B : Nat → Nat → Int64) (G : Nat → Nat → Nat → Int32) (p1 : Int32) (N : Nat) (out : Int64 × Int32 × Int32 × Int64 × (Nat → Int32) × (Nat → Int32) × (Nat → Int64) × (Nat → Int64)) (hE : f_X7_linear N (I 6) (B 54) (I 5) (I 7) (J 1) (A 35) (A 36) (B 55) (B 56) p1 = some out) : Met l yX7_linear wsX7_linear ({ frames := 7, cells := 0, slots := 0, locals := 168 } : Room) (mPc [.ref (ad 7), .int p1] D y nn ad sz I J A B G) (mQl D y nn ad (mA y nn ad I J A B G sz) out.1 ((va_up (va_up I 5 out.2.1) 7 out.2.2.1), (va_up J 1 out.2.2.2.1), (va_up (va_up A 35 out.2.2.2.2.1) 36 out.2.2.2.2.2.1), (va_up (va_up B 55 out.2.2.2.2.2.2.1) 56 out.2.2.2.2.2.2.2), G)) 0 0 (mA y nn ad I J A B G sz) := by
  refine Met.ofW (cc := cX7_linear) (maxL := 4) (ret := (some .long)) (by decide) rfl ?_
  intro p e s m args below meth c s₁ Bd hml hv
  obtain ⟨rfl, hsz, hP, hK, hD0, hN⟩ := hv
  have hr := Bd.returns
  subst hsz
  have F : Fx p s m ([.ref (ad 7), .int p1] : List Value).toArray meth c cX7_linear 4 wsX7_linear RX7 D y (mA y nn ad I J A B G s.heap.size) := ⟨⟨Bd.exec, Bd.bytes, hml, findClass_of_methodNamed Bd.named, atoms_spec (ws := wsX7_linear) Bd.pre⟩, hK, hN, fun q h => Or.inr h, Bd.notSynchronized⟩
  have hM := m_start (s := s) rfl hP hD0
  have hM := m_mem (I2 := (va_up (va_up I 5 (I 5)) 7 (I 7))) (J2 := (va_up J 1 (J 1))) (A2 := (va_up (va_up A 35 (A 35)) 36 (A 36))) (B2 := (va_up (va_up B 55 (B 55)) 56 (B 56))) (G2 := G) hM (by simp only [up_id]) (by simp only [up_id]) (by simp only [up_id]) (by simp only [up_id]) (by rfl)
  have hx := F.1.1
  have hb := F.1.2.1
  have hl := lv_entry ([.ref (ad 7), .int p1]) (n := 4) (Nat.le_of_ble_eq_true rfl)
  rw [lg_entry_eq]
  generalize (lg_sl ([.ref (ad 7), .int p1]) ++ List.replicate (4 - (lg_sl ([.ref (ad 7), .int p1])).length) Slot.unset).toArray = ls at hl ⊢
  have hl : lv_has ls 4 [(0, .ref (ad 7)), (1, .int p1)] := hl
  show W p l e ({ frames := 7, cells := 0, slots := 0, locals := 168 } : Room) s m _ below meth c s.heap [] 0 0 _ _
  obtain ⟨locs, hlo⟩ : ∃ locs : List Loc, locs = [] := ⟨_, rfl⟩
  rw [← hlo]; rw [← hlo] at hM
  unfold f_X7_linear at hE
  revert hM
  suffices hH : ∀ H : Heap, MM D y nn ad (mA y nn ad I J A B G s.heap.size) s.heap (va_up (va_up I 5 (I 5)) 7 (I 7)) (va_up J 1 (J 1)) (va_up (va_up A 35 (A 35)) 36 (A 36)) (va_up (va_up B 55 (B 55)) 56 (B 56)) G H locs → W p l e ({ frames := 7, cells := 0, slots := 0, locals := 168 } : Room) s m ([.ref (ad 7), .int p1] : List Value).toArray below meth c H locs 0 0 (MQ below (mQl D y nn ad (mA y nn ad I J A B G s.heap.size) out.1 ((va_up (va_up I 5 out.2.1) 7 out.2.2.1), (va_up J 1 out.2.2.2.1), (va_up (va_up A 35 out.2.2.2.2.1) 36 out.2.2.2.2.2.1), (va_up (va_up B 55 out.2.2.2.2.2.2.1) 56 out.2.2.2.2.2.2.2), G)) ([.ref (ad 7), .int p1] : List Value).toArray s 0 0 (mA y nn ad I J A B G s.heap.size)) (F0 m 0 ls []) from hH s.heap
  intro H hM
  refine lv_aload_n hx hb dX7_linear_0 rfl (lv_at hl 0 rfl) ?_
  obtain ⟨o1_0, ho1_0, hE⟩ := bd_some hE
  refine m_callVl (As := []) (I2 := (va_up (va_up I 5 (I 5)) 7 o1_0.2.1)) (J2 := (va_up J 1 o1_0.2.2.1)) (A2 := (va_up (va_up A 35 o1_0.2.2.2.1) 36 o1_0.2.2.2.2.1)) (B2 := (va_up (va_up B 55 o1_0.2.2.2.2.2.1) 56 o1_0.2.2.2.2.2.2)) (G2 := G) F hM (c_X7_greatestNow l D y nn ad H.size (va_up (va_up I 5 (I 5)) 7 (I 7)) (va_up J 1 (J 1)) (va_up (va_up A 35 (A 35)) 36 (A 36)) (va_up (va_up B 55 (B 55)) 56 (B 56)) G  N o1_0 ho1_0) (cwV 0 F.1.2.2.2.2 gX7_linear_X7_greatestNow rfl rfl rfl (by decide +kernel) ⟨Nat.le_of_ble_eq_true rfl, Nat.le_of_ble_eq_true rfl⟩) (m_recv F hM mg_7 rfl) rfl hl.1 (Nat.le_of_ble_eq_true rfl) dX7_linear_1 ⟨Nat.le_refl 0, Nat.le_refl 0⟩ un_5_7__7 (bx_uu _ _ _ _) un_35_36__35_36 un_55_56__55_56 rfl (fun H locs hM => ?_)
  refine lv_lstore_n (lv' := [(2, .long o1_0.1), (0, .ref (ad 7)), (1, .int p1)]) hx hb dX7_linear_4 rfl hl (by decide) rfl (fun ls hl => ?_)
  refine lv_aload_n hx hb dX7_linear_5 rfl (lv_at hl 1 rfl) ?_
  refine lv_lload_n hx hb dX7_linear_6 rfl (lv_at hl 0 rfl) ?_
  refine lv_ldc2 (v := (-1)) hx hb F.1.2.2.2.1 (F.1.2.2.2.2 (.constantLong RX7 96 (-1)) (by decide +kernel)) dX7_linear_7 ?_
  refine m_leq (tgt := 22) F dX7_linear_10 dX7_linear_11 (by decide) (fun c11 => ?_) (fun c11 => ?_)
  · replace hE := (if_pos c11).symm.trans hE
    refine lv_iconst (v := 0) hx hb dX7_linear_22 (by decide) ?_
    refine m_put F hM 7 mg_7 rfl tyX7 tyX7_ok nmX7 0 (by decide) (by decide +kernel) (by decide +kernel) rfl (ty := .int) (v := .int (0 : Int32)) (by decide +kernel) rfl rfl (Nat.le_of_ble_eq_true rfl) (ms_7_0 _) un_5_7__5  rfl dX7_linear_23 (fun H locs hM => ?_)
    refine lv_aload_n hx hb dX7_linear_26 rfl (lv_at hl 1 rfl) ?_
    refine m_get F hM 7 mg_7 rfl 0 (by decide) (by decide +kernel) (by decide +kernel) (v := .int (0 : Int32)) rfl dX7_linear_27 ?_
    refine lv_if_le (tgt := 37) hx hb dX7_linear_30 (by decide) (fun c30 => ?_) (fun c30 => ?_)
    · replace hE := (if_pos c30).symm.trans hE
      refine lv_lload_n hx hb dX7_linear_37 rfl (lv_at hl 0 rfl) ?_
      refine lv_ldc2 (v := (-1)) hx hb F.1.2.2.2.1 (F.1.2.2.2.2 (.constantLong RX7 96 (-1)) (by decide +kernel)) dX7_linear_38 ?_
      refine m_lne (tgt := 51) F dX7_linear_41 dX7_linear_42 (by decide) (fun c42 => ?_) (fun c42 => ?_)
      · replace hE := (if_neg c42).symm.trans hE
        refine lv_ldc2 (v := (1000)) hx hb F.1.2.2.2.1 (F.1.2.2.2.2 (.constantLong RX7 146 (1000)) (by decide +kernel)) dX7_linear_51 ?_
        refine lv_lload_n hx hb dX7_linear_54 rfl (lv_at hl 0 rfl) ?_
        refine lv_lmul hx hb dX7_linear_55 ?_
        refine lv_iload_n hx hb dX7_linear_56 rfl (lv_at hl 2 rfl) ?_
        refine lv_i2l hx hb dX7_linear_57 rfl ?_
        obtain ⟨hz58, hE⟩ := dvl_some hE
        refine lv_ldiv hx hb dX7_linear_58 hz58 ?_
        obtain rfl := Option.some.inj hE
        exact m_lret F hM hr rfl rfl dX7_linear_59
      · replace hE := (if_pos c42).symm.trans hE
        refine lv_ldc2 (v := (-1)) hx hb F.1.2.2.2.1 (F.1.2.2.2.2 (.constantLong RX7 96 (-1)) (by decide +kernel)) dX7_linear_45 ?_
        refine lv_goto (tgt := 59) hx hb dX7_linear_48 (by decide) ?_
        obtain rfl := Option.some.inj hE
        exact m_lret F hM hr rfl rfl dX7_linear_59
    · replace hE := (if_neg c30).symm.trans hE
      refine lv_lconst (v := 0) hx hb dX7_linear_33 (by decide) ?_
      refine lv_goto (tgt := 59) hx hb dX7_linear_34 (by decide) ?_
      obtain rfl := Option.some.inj hE
      exact m_lret F hM hr rfl rfl dX7_linear_59
  · replace hE := (if_neg c11).symm.trans hE
    refine lv_iload_n hx hb dX7_linear_14 rfl (lv_at hl 2 rfl) ?_
    refine lv_if_ne (tgt := 22) hx hb dX7_linear_15 (by decide) (fun c15 => ?_) (fun c15 => ?_)
    · replace hE := (if_neg c15).symm.trans hE
      refine lv_iconst (v := 0) hx hb dX7_linear_22 (by decide) ?_
      refine m_put F hM 7 mg_7 rfl tyX7 tyX7_ok nmX7 0 (by decide) (by decide +kernel) (by decide +kernel) rfl (ty := .int) (v := .int (0 : Int32)) (by decide +kernel) rfl rfl (Nat.le_of_ble_eq_true rfl) (ms_7_0 _) un_5_7__5  rfl dX7_linear_23 (fun H locs hM => ?_)
      refine lv_aload_n hx hb dX7_linear_26 rfl (lv_at hl 1 rfl) ?_
      refine m_get F hM 7 mg_7 rfl 0 (by decide) (by decide +kernel) (by decide +kernel) (v := .int (0 : Int32)) rfl dX7_linear_27 ?_
      refine lv_if_le (tgt := 37) hx hb dX7_linear_30 (by decide) (fun c30 => ?_) (fun c30 => ?_)
      · replace hE := (if_pos c30).symm.trans hE
        refine lv_lload_n hx hb dX7_linear_37 rfl (lv_at hl 0 rfl) ?_
        refine lv_ldc2 (v := (-1)) hx hb F.1.2.2.2.1 (F.1.2.2.2.2 (.constantLong RX7 96 (-1)) (by decide +kernel)) dX7_linear_38 ?_
        refine m_lne (tgt := 51) F dX7_linear_41 dX7_linear_42 (by decide) (fun c42 => ?_) (fun c42 => ?_)
        · replace hE := (if_neg c42).symm.trans hE
          refine lv_ldc2 (v := (1000)) hx hb F.1.2.2.2.1 (F.1.2.2.2.2 (.constantLong RX7 146 (1000)) (by decide +kernel)) dX7_linear_51 ?_
          refine lv_lload_n hx hb dX7_linear_54 rfl (lv_at hl 0 rfl) ?_
          refine lv_lmul hx hb dX7_linear_55 ?_
          refine lv_iload_n hx hb dX7_linear_56 rfl (lv_at hl 2 rfl) ?_
          refine lv_i2l hx hb dX7_linear_57 rfl ?_
          obtain ⟨hz58, hE⟩ := dvl_some hE
          refine lv_ldiv hx hb dX7_linear_58 hz58 ?_
          obtain rfl := Option.some.inj hE
          exact m_lret F hM hr rfl rfl dX7_linear_59
        · replace hE := (if_pos c42).symm.trans hE
          refine lv_ldc2 (v := (-1)) hx hb F.1.2.2.2.1 (F.1.2.2.2.2 (.constantLong RX7 96 (-1)) (by decide +kernel)) dX7_linear_45 ?_
          refine lv_goto (tgt := 59) hx hb dX7_linear_48 (by decide) ?_
          obtain rfl := Option.some.inj hE
          exact m_lret F hM hr rfl rfl dX7_linear_59
      · replace hE := (if_neg c30).symm.trans hE
        refine lv_lconst (v := 0) hx hb dX7_linear_33 (by decide) ?_
        refine lv_goto (tgt := 59) hx hb dX7_linear_34 (by decide) ?_
        obtain rfl := Option.some.inj hE
        exact m_lret F hM hr rfl rfl dX7_linear_59
    · replace hE := (if_pos c15).symm.trans hE
      refine lv_iconst (v := 1) hx hb dX7_linear_18 (by decide) ?_
      refine lv_goto (tgt := 23) hx hb dX7_linear_19 (by decide) ?_
      refine m_put F hM 7 mg_7 rfl tyX7 tyX7_ok nmX7 0 (by decide) (by decide +kernel) (by decide +kernel) rfl (ty := .int) (v := .int (1 : Int32)) (by decide +kernel) rfl rfl (Nat.le_of_ble_eq_true rfl) (ms_7_0 _) un_5_7__5  rfl dX7_linear_23 (fun H locs hM => ?_)
      refine lv_aload_n hx hb dX7_linear_26 rfl (lv_at hl 1 rfl) ?_
      refine m_get F hM 7 mg_7 rfl 0 (by decide) (by decide +kernel) (by decide +kernel) (v := .int (1 : Int32)) rfl dX7_linear_27 ?_
      refine lv_if_le (tgt := 37) hx hb dX7_linear_30 (by decide) (fun c30 => ?_) (fun c30 => ?_)
      · replace hE := (if_pos c30).symm.trans hE
        refine lv_lload_n hx hb dX7_linear_37 rfl (lv_at hl 0 rfl) ?_
        refine lv_ldc2 (v := (-1)) hx hb F.1.2.2.2.1 (F.1.2.2.2.2 (.constantLong RX7 96 (-1)) (by decide +kernel)) dX7_linear_38 ?_
        refine m_lne (tgt := 51) F dX7_linear_41 dX7_linear_42 (by decide) (fun c42 => ?_) (fun c42 => ?_)
        · replace hE := (if_neg c42).symm.trans hE
          refine lv_ldc2 (v := (1000)) hx hb F.1.2.2.2.1 (F.1.2.2.2.2 (.constantLong RX7 146 (1000)) (by decide +kernel)) dX7_linear_51 ?_
          refine lv_lload_n hx hb dX7_linear_54 rfl (lv_at hl 0 rfl) ?_
          refine lv_lmul hx hb dX7_linear_55 ?_
          refine lv_iload_n hx hb dX7_linear_56 rfl (lv_at hl 2 rfl) ?_
          refine lv_i2l hx hb dX7_linear_57 rfl ?_
          obtain ⟨hz58, hE⟩ := dvl_some hE
          refine lv_ldiv hx hb dX7_linear_58 hz58 ?_
          obtain rfl := Option.some.inj hE
          exact m_lret F hM hr rfl rfl dX7_linear_59
        · replace hE := (if_pos c42).symm.trans hE
          refine lv_ldc2 (v := (-1)) hx hb F.1.2.2.2.1 (F.1.2.2.2.2 (.constantLong RX7 96 (-1)) (by decide +kernel)) dX7_linear_45 ?_
          refine lv_goto (tgt := 59) hx hb dX7_linear_48 (by decide) ?_
          obtain rfl := Option.some.inj hE
          exact m_lret F hM hr rfl rfl dX7_linear_59
      · replace hE := (if_neg c30).symm.trans hE
        refine lv_lconst (v := 0) hx hb dX7_linear_33 (by decide) ?_
        refine lv_goto (tgt := 59) hx hb dX7_linear_34 (by decide) ?_
        obtain rfl := Option.some.inj hE
        exact m_lret F hM hr rfl rfl dX7_linear_59
/-! ===== X7_certificate: reads I6 B54, writes I5 I7 J1 A35 A36 A39 B55 B56, frames 7, locals 168 ===== -/
def f_X7_certificate_148 (N : Nat) (i6 : Int32) (b54 : Nat → Int64)  (nx148 : Int64 → Int32 → Int32 → Int32 → Int64 → (Nat → Int32) → (Nat → Int32) → (Nat → Int32) → (Nat → Int64) → (Nat → Int64) → Option (Int32 × Int32 × Int32 × Int64 × (Nat → Int32) × (Nat → Int32) × (Nat → Int32) × (Nat → Int64) × (Nat → Int64))) (x5 : Int64) (x7 : Int32) (i5' : Int32) (i7' : Int32) (j1' : Int64) (a35' : Nat → Int32) (a36' : Nat → Int32) (a39' : Nat → Int32) (b55' : Nat → Int64) (b56' : Nat → Int64) : Option (Int32 × Int32 × Int32 × Int64 × (Nat → Int32) × (Nat → Int32) × (Nat → Int32) × (Nat → Int64) × (Nat → Int64)) :=
(if i6 ≤ x7 then
(if (1000000000000 : Int64) ≤ x5 then
bz (0 : Int32) (some ((0 : Int32), i5', i7', j1', a35', a36', a39', b55', b56'))
else
bd (f_X7_greatestNow N i6 b54 i7' j1' a35' a36' b55' b56') fun o205_4 =>
(if x5 < o205_4.1 then
bz (0 : Int32) (some ((0 : Int32), i5', o205_4.2.1, o205_4.2.2.1, o205_4.2.2.2.1, o205_4.2.2.2.2.1, a39', o205_4.2.2.2.2.2.1, o205_4.2.2.2.2.2.2))
else
bz (1 : Int32) (some ((1 : Int32), i5', o205_4.2.1, o205_4.2.2.1, o205_4.2.2.2.1, o205_4.2.2.2.2.1, a39', o205_4.2.2.2.2.2.1, o205_4.2.2.2.2.2.2))))
else
ck x7 12 (
dv i6 (
ck ((x7 + (1 : Int32)) - (x7 + (1 : Int32)) / i6 * i6) 12 (
bd (f_X7_way_ b54 (a39' x7.toNatClampNeg) (a39' ((x7 + (1 : Int32)) - (x7 + (1 : Int32)) / i6 * i6).toNatClampNeg)) fun o181_7 =>
nx148 (x5 + o181_7) (x7 + (1 : Int32)) i5' i7' j1' a35' a36' a39' b55' b56'))))
def f_X7_certificate_85 (N : Nat) (i6 : Int32) (b54 : Nat → Int64) (nx54 : Int32 → Int32 → Int32 → Int32 → Int32 → Int32 → Int64 → (Nat → Int32) → (Nat → Int32) → (Nat → Int32) → (Nat → Int64) → (Nat → Int64) → Option (Int32 × Int32 × Int32 × Int64 × (Nat → Int32) × (Nat → Int32) × (Nat → Int32) × (Nat → Int64) × (Nat → Int64))) (nx85 : Int32 → Int32 → Int32 → Int32 → Int32 → Int32 → Int32 → Int32 → Int64 → (Nat → Int32) → (Nat → Int32) → (Nat → Int32) → (Nat → Int64) → (Nat → Int64) → Option (Int32 × Int32 × Int32 × Int64 × (Nat → Int32) × (Nat → Int32) × (Nat → Int32) × (Nat → Int64) × (Nat → Int64))) (x2 : Int32) (x3 : Int32) (x4 : Int32) (x5 : Int32) (x6 : Int32) (x7 : Int32) (i5' : Int32) (i7' : Int32) (j1' : Int64) (a35' : Nat → Int32) (a36' : Nat → Int32) (a39' : Nat → Int32) (b55' : Nat → Int64) (b56' : Nat → Int64) : Option (Int32 × Int32 × Int32 × Int64 × (Nat → Int32) × (Nat → Int32) × (Nat → Int32) × (Nat → Int64) × (Nat → Int64)) :=
(if ((x4 >>> (x7 &&& 31)) &&& (1 : Int32)) = (0 : Int32) then
nmd ((x6 - ((x4 >>> (x7 &&& 31)) &&& (1 : Int32)))) fun v110_9 =>
nx85 x2 x3 x4 x5 v110_9 (x7 + (1 : Int32)) i5' i7' j1' a35' a36' a39' b55' b56'
else
(if x6 ≤ (0 : Int32) then
ck x5 12 (
nmd (upd a39' x5.toNatClampNeg x7) fun w126_11 =>
nx54 x2 x3 (x4 ^^^ ((1 : Int32) <<< (x7 &&& 31))) (x5 + (1 : Int32)) i5' i7' j1' a35' a36' w126_11 b55' b56')
else
nmd ((x6 - ((x4 >>> (x7 &&& 31)) &&& (1 : Int32)))) fun v110_12 =>
nx85 x2 x3 x4 x5 v110_12 (x7 + (1 : Int32)) i5' i7' j1' a35' a36' a39' b55' b56'))
def f_X7_certificate_54 (N : Nat) (i6 : Int32) (b54 : Nat → Int64)  (nx54 : Int32 → Int32 → Int32 → Int32 → Int32 → Int32 → Int64 → (Nat → Int32) → (Nat → Int32) → (Nat → Int32) → (Nat → Int64) → (Nat → Int64) → Option (Int32 × Int32 × Int32 × Int64 × (Nat → Int32) × (Nat → Int32) × (Nat → Int32) × (Nat → Int64) × (Nat → Int64))) (x2 : Int32) (x3 : Int32) (x4 : Int32) (x5 : Int32) (i5' : Int32) (i7' : Int32) (j1' : Int64) (a35' : Nat → Int32) (a36' : Nat → Int32) (a39' : Nat → Int32) (b55' : Nat → Int64) (b56' : Nat → Int64) : Option (Int32 × Int32 × Int32 × Int64 × (Nat → Int32) × (Nat → Int32) × (Nat → Int32) × (Nat → Int64) × (Nat → Int64)) :=
(if i6 ≤ x5 then
lq10 (f_X7_certificate_148 N i6 b54 ) N (0 : Int64) (0 : Int32) i5' i7' j1' a35' a36' a39' b55' b56'
else
dv (i6 - x5) (
dv (x2 / (i6 - x5)) (
dv (x2 / (i6 - x5)) (
nmd ((x3 - x3 / (x2 / (i6 - x5)) * (x2 / (i6 - x5)))) fun v81_8 =>
lq14 (f_X7_certificate_85 N i6 b54 nx54) N (x2 / (i6 - x5)) v81_8 x4 x5 (x3 / (x2 / (i6 - x5))) (0 : Int32) i5' i7' j1' a35' a36' a39' b55' b56'))))
def f_X7_certificate_9 (N : Nat) (i6 : Int32) (b54 : Nat → Int64)  (nx9 : Int32 → Int32 → Int32 → Int32 → Int32 → Int64 → (Nat → Int32) → (Nat → Int32) → (Nat → Int32) → (Nat → Int64) → (Nat → Int64) → Option (Int32 × Int32 × Int32 × Int64 × (Nat → Int32) × (Nat → Int32) × (Nat → Int32) × (Nat → Int64) × (Nat → Int64))) (x1 : Int32) (x2 : Int32) (x3 : Int32) (i5' : Int32) (i7' : Int32) (j1' : Int64) (a35' : Nat → Int32) (a36' : Nat → Int32) (a39' : Nat → Int32) (b55' : Nat → Int64) (b56' : Nat → Int64) : Option (Int32 × Int32 × Int32 × Int64 × (Nat → Int32) × (Nat → Int32) × (Nat → Int32) × (Nat → Int64) × (Nat → Int64)) :=
(if i6 ≤ x3 then
dv x2 (
nmd (((x1 &&& (2147483647 : Int32)) - (x1 &&& (2147483647 : Int32)) / x2 * x2)) fun v33_0 =>
nmd ((((1 : Int32) <<< (i6 &&& 31)) - (2 : Int32))) fun v42_1 =>
ck (0 : Int32) 12 (
nmd (upd a39' (0 : Int32).toNatClampNeg (0 : Int32)) fun w50_3 =>
lq12 (f_X7_certificate_54 N i6 b54 ) N x2 v33_0 v42_1 (1 : Int32) i5' i7' j1' a35' a36' w50_3 b55' b56'))
else
nx9 x1 (x2 * x3) (x3 + (1 : Int32)) i5' i7' j1' a35' a36' a39' b55' b56')
def f_X7_certificate (N : Nat) (i6 : Int32) (b54 : Nat → Int64) (i5 : Int32) (i7 : Int32) (j1 : Int64) (a35 : Nat → Int32) (a36 : Nat → Int32) (a39 : Nat → Int32) (b55 : Nat → Int64) (b56 : Nat → Int64) (p1 : Int32) : Option (Int32 × Int32 × Int32 × Int64 × (Nat → Int32) × (Nat → Int32) × (Nat → Int32) × (Nat → Int64) × (Nat → Int64)) :=
lq11 (f_X7_certificate_9 N i6 b54 ) N p1 (1 : Int32) (2 : Int32) (0 : Int32) i7 j1 a35 a36 a39 b55 b56
set_option maxHeartbeats 4000000 in
set_option maxRecDepth 100000 in
theorem s_X7_certificate_148 {p : Program} {l : Launch} {e : Env} {s : State} {m : MethodId} {args : Array Value} {below : List Frame} {meth : Method} {c : Code} {D : va_G} {y : Nat → ClassId} {nn : Nat} {ad : Nat → Nat} {A0 : Nat → Prop} {I : Nat → Int32} {J : Nat → Int64} {A : Nat → Nat → Int32} {B : Nat → Nat → Int64} {G : Nat → Nat → Nat → Int32} (F : Fx p s m args meth c cX7_certificate 8 wsX7_certificate RX7 D y A0) (hr : meth.sig.returnType = (some .boolean)) {out : Int32 × Int32 × Int32 × Int64 × (Nat → Int32) × (Nat → Int32) × (Nat → Int32) × (Nat → Int64) × (Nat → Int64)} {N : Nat}  (nx148 : Int64 → Int32 → Int32 → Int32 → Int64 → (Nat → Int32) → (Nat → Int32) → (Nat → Int32) → (Nat → Int64) → (Nat → Int64) → Option (Int32 × Int32 × Int32 × Int64 × (Nat → Int32) × (Nat → Int32) × (Nat → Int32) × (Nat → Int64) × (Nat → Int64))) (hn148 : ∀ (x5 : Int64) (x7 : Int32) (i5' : Int32) (i7' : Int32) (j1' : Int64) (a35' : Nat → Int32) (a36' : Nat → Int32) (a39' : Nat → Int32) (b55' : Nat → Int64) (b56' : Nat → Int64) (ls : Array Slot) (H : Heap) (locs : List Loc), nx148 x5 x7 i5' i7' j1' a35' a36' a39' b55' b56' = some out → MM D y nn ad A0 s.heap (va_up (va_up I 5 i5') 7 i7') (va_up J 1 j1') (va_up (va_up (va_up A 35 a35') 36 a36') 39 a39') (va_up (va_up B 55 b55') 56 b56') G H locs → lv_has ls 8 [(0, .ref (ad 7)), (5, .long x5), (7, .int x7)] → W p l e ({ frames := 7, cells := 0, slots := 0, locals := 168 } : Room) s m args below meth c H locs 0 0 (MQ below (mQi D y nn ad A0 out.1 ((va_up (va_up I 5 out.2.1) 7 out.2.2.1), (va_up J 1 out.2.2.2.1), (va_up (va_up (va_up A 35 out.2.2.2.2.1) 36 out.2.2.2.2.2.1) 39 out.2.2.2.2.2.2.1), (va_up (va_up B 55 out.2.2.2.2.2.2.2.1) 56 out.2.2.2.2.2.2.2.2), G)) args s 0 0 A0) (F0 m 148 ls [])) : ∀ (x5 : Int64) (x7 : Int32) (i5' : Int32) (i7' : Int32) (j1' : Int64) (a35' : Nat → Int32) (a36' : Nat → Int32) (a39' : Nat → Int32) (b55' : Nat → Int64) (b56' : Nat → Int64) (ls : Array Slot) (H : Heap) (locs : List Loc), f_X7_certificate_148 N (I 6) (B 54)  nx148 x5 x7 i5' i7' j1' a35' a36' a39' b55' b56' = some out → MM D y nn ad A0 s.heap (va_up (va_up I 5 i5') 7 i7') (va_up J 1 j1') (va_up (va_up (va_up A 35 a35') 36 a36') 39 a39') (va_up (va_up B 55 b55') 56 b56') G H locs → lv_has ls 8 [(0, .ref (ad 7)), (5, .long x5), (7, .int x7)] → W p l e ({ frames := 7, cells := 0, slots := 0, locals := 168 } : Room) s m args below meth c H locs 0 0 (MQ below (mQi D y nn ad A0 out.1 ((va_up (va_up I 5 out.2.1) 7 out.2.2.1), (va_up J 1 out.2.2.2.1), (va_up (va_up (va_up A 35 out.2.2.2.2.1) 36 out.2.2.2.2.2.1) 39 out.2.2.2.2.2.2.1), (va_up (va_up B 55 out.2.2.2.2.2.2.2.1) 56 out.2.2.2.2.2.2.2.2), G)) args s 0 0 A0) (F0 m 148 ls []) := by
  intro x5 x7 i5' i7' j1' a35' a36' a39' b55' b56' ls H locs hE hM hl
  have hx := F.1.1
  have hb := F.1.2.1
  unfold f_X7_certificate_148 at hE
  refine lv_iload hx hb dX7_certificate_148 (lv_at hl 2 rfl) ?_
  refine lv_aload_n hx hb dX7_certificate_150 rfl (lv_at hl 0 rfl) ?_
  refine m_get F hM 7 mg_7 rfl 1 (by decide) (by decide +kernel) (by decide +kernel) (v := .int (I 6)) rfl dX7_certificate_151 ?_
  refine lv_icmp_ge (tgt := 193) hx hb dX7_certificate_154 (by decide) (fun c154 => ?_) (fun c154 => ?_)
  · replace hE := (if_pos c154).symm.trans hE
    refine lv_lload hx hb dX7_certificate_193 (lv_at hl 1 rfl) ?_
    refine lv_ldc2 (v := (1000000000000)) hx hb F.1.2.2.2.1 (F.1.2.2.2.2 (.constantLong RX7 52 (1000000000000)) (by decide +kernel)) dX7_certificate_195 ?_
    refine m_lge (tgt := 216) F dX7_certificate_198 dX7_certificate_199 (by decide) (fun c199 => ?_) (fun c199 => ?_)
    · replace hE := (if_pos c199).symm.trans hE
      refine lv_iconst (v := 0) hx hb dX7_certificate_216 (by decide) ?_
      obtain ⟨hz, hE⟩ := bz_some hE
      obtain rfl := Option.some.inj hE
      exact m_zret F hM hr hz rfl rfl dX7_certificate_217
    · replace hE := (if_neg c199).symm.trans hE
      refine lv_lload hx hb dX7_certificate_202 (lv_at hl 1 rfl) ?_
      refine lv_aload_n hx hb dX7_certificate_204 rfl (lv_at hl 0 rfl) ?_
      obtain ⟨o205_4, ho205_4, hE⟩ := bd_some hE
      refine m_callVl (As := []) (I2 := (va_up (va_up I 5 i5') 7 o205_4.2.1)) (J2 := (va_up J 1 o205_4.2.2.1)) (A2 := (va_up (va_up (va_up A 35 o205_4.2.2.2.1) 36 o205_4.2.2.2.2.1) 39 a39')) (B2 := (va_up (va_up B 55 o205_4.2.2.2.2.2.1) 56 o205_4.2.2.2.2.2.2)) (G2 := G) F hM (c_X7_greatestNow l D y nn ad H.size (va_up (va_up I 5 i5') 7 i7') (va_up J 1 j1') (va_up (va_up (va_up A 35 a35') 36 a36') 39 a39') (va_up (va_up B 55 b55') 56 b56') G  N o205_4 ho205_4) (cwV 0 F.1.2.2.2.2 gX7_certificate_X7_greatestNow rfl rfl rfl (by decide +kernel) ⟨Nat.le_of_ble_eq_true rfl, Nat.le_of_ble_eq_true rfl⟩) (m_recv F hM mg_7 rfl) rfl hl.1 (Nat.le_of_ble_eq_true rfl) dX7_certificate_205 ⟨Nat.le_refl 0, Nat.le_refl 0⟩ un_5_7__7 (bx_uu _ _ _ _) un_35_36_39__35_36 un_55_56__55_56 rfl (fun H locs hM => ?_)
      refine m_llt (tgt := 216) F dX7_certificate_208 dX7_certificate_209 (by decide) (fun c209 => ?_) (fun c209 => ?_)
      · replace hE := (if_pos c209).symm.trans hE
        refine lv_iconst (v := 0) hx hb dX7_certificate_216 (by decide) ?_
        obtain ⟨hz, hE⟩ := bz_some hE
        obtain rfl := Option.some.inj hE
        exact m_zret F hM hr hz rfl rfl dX7_certificate_217
      · replace hE := (if_neg c209).symm.trans hE
        refine lv_iconst (v := 1) hx hb dX7_certificate_212 (by decide) ?_
        refine lv_goto (tgt := 217) hx hb dX7_certificate_213 (by decide) ?_
        obtain ⟨hz, hE⟩ := bz_some hE
        obtain rfl := Option.some.inj hE
        exact m_zret F hM hr hz rfl rfl dX7_certificate_217
  · replace hE := (if_neg c154).symm.trans hE
    refine lv_lload hx hb dX7_certificate_157 (lv_at hl 1 rfl) ?_
    refine lv_aload_n hx hb dX7_certificate_159 rfl (lv_at hl 0 rfl) ?_
    refine lv_aload_n hx hb dX7_certificate_160 rfl (lv_at hl 0 rfl) ?_
    refine m_get F hM 7 mg_7 rfl 14 (by decide) (by decide +kernel) (by decide +kernel) (v := .ref (ad 39)) rfl dX7_certificate_161 ?_
    refine lv_iload hx hb dX7_certificate_164 (lv_at hl 2 rfl) ?_
    obtain ⟨hi166_5, hE⟩ := ck_some hE
    refine m_iald (g := a39') F hM mg_39 rfl hi166_5 dX7_certificate_166 ?_
    refine lv_aload_n hx hb dX7_certificate_167 rfl (lv_at hl 0 rfl) ?_
    refine m_get F hM 7 mg_7 rfl 14 (by decide) (by decide +kernel) (by decide +kernel) (v := .ref (ad 39)) rfl dX7_certificate_168 ?_
    refine lv_iload hx hb dX7_certificate_171 (lv_at hl 2 rfl) ?_
    refine lv_iconst (v := 1) hx hb dX7_certificate_173 (by decide) ?_
    refine lv_iadd hx hb dX7_certificate_174 ?_
    refine lv_aload_n hx hb dX7_certificate_175 rfl (lv_at hl 0 rfl) ?_
    refine m_get F hM 7 mg_7 rfl 1 (by decide) (by decide +kernel) (by decide +kernel) (v := .int (I 6)) rfl dX7_certificate_176 ?_
    obtain ⟨hz179, hE⟩ := dv_some hE
    refine lv_irem hx hb dX7_certificate_179 hz179 ?_
    obtain ⟨hi180_6, hE⟩ := ck_some hE
    refine m_iald (g := a39') F hM mg_39 rfl hi180_6 dX7_certificate_180 ?_
    obtain ⟨o181_7, ho181_7, hE⟩ := bd_some hE
    refine m_callVl (As := [.int (a39' x7.toNatClampNeg), .int (a39' ((x7 + (1 : Int32)) - (x7 + (1 : Int32)) / (I 6) * (I 6)).toNatClampNeg)]) (I2 := (va_up (va_up I 5 i5') 7 i7')) (J2 := (va_up J 1 j1')) (A2 := (va_up (va_up (va_up A 35 a35') 36 a36') 39 a39')) (B2 := (va_up (va_up B 55 b55') 56 b56')) (G2 := G) F hM (c_X7_way_ l D y nn ad H.size (va_up (va_up I 5 i5') 7 i7') (va_up J 1 j1') (va_up (va_up (va_up A 35 a35') 36 a36') 39 a39') (va_up (va_up B 55 b55') 56 b56') G (a39' x7.toNatClampNeg) (a39' ((x7 + (1 : Int32)) - (x7 + (1 : Int32)) / (I 6) * (I 6)).toNatClampNeg)  o181_7 ho181_7) (cwV 2 F.1.2.2.2.2 gX7_certificate_X7_way_ rfl rfl rfl (by decide +kernel) ⟨Nat.le_of_ble_eq_true rfl, Nat.le_of_ble_eq_true rfl⟩) (m_recv F hM mg_7 rfl) rfl hl.1 (Nat.le_of_ble_eq_true rfl) dX7_certificate_181 ⟨Nat.le_refl 0, Nat.le_refl 0⟩ rfl rfl rfl rfl rfl (fun H locs hM => ?_)
    refine lv_ladd hx hb dX7_certificate_184 ?_
    refine lv_lstore (lv' := [(5, .long (x5 + o181_7)), (0, .ref (ad 7)), (7, .int x7)]) hx hb dX7_certificate_185 hl (by decide) rfl (fun ls hl => ?_)
    refine lv_iinc (v := x7 + (1 : Int32)) (lv' := [(7, .int (x7 + (1 : Int32))), (5, .long (x5 + o181_7)), (0, .ref (ad 7))]) hx hb dX7_certificate_187 hl (k := 2) rfl rfl (by decide) rfl (fun ls hl => ?_)
    refine lv_goto (tgt := 148) hx hb dX7_certificate_190 (by decide) ?_
    exact hn148 (x5 + o181_7) (x7 + (1 : Int32)) i5' i7' j1' a35' a36' a39' b55' b56' ls H locs hE hM (lv_sub hl [2, 1, 0] rfl)
theorem k_X7_certificate_148 {p : Program} {l : Launch} {e : Env} {s : State} {m : MethodId} {args : Array Value} {below : List Frame} {meth : Method} {c : Code} {D : va_G} {y : Nat → ClassId} {nn : Nat} {ad : Nat → Nat} {A0 : Nat → Prop} {I : Nat → Int32} {J : Nat → Int64} {A : Nat → Nat → Int32} {B : Nat → Nat → Int64} {G : Nat → Nat → Nat → Int32} (F : Fx p s m args meth c cX7_certificate 8 wsX7_certificate RX7 D y A0) (hr : meth.sig.returnType = (some .boolean)) {out : Int32 × Int32 × Int32 × Int64 × (Nat → Int32) × (Nat → Int32) × (Nat → Int32) × (Nat → Int64) × (Nat → Int64)} {N : Nat}  : ∀ (n : Nat), ∀ (x5 : Int64) (x7 : Int32) (i5' : Int32) (i7' : Int32) (j1' : Int64) (a35' : Nat → Int32) (a36' : Nat → Int32) (a39' : Nat → Int32) (b55' : Nat → Int64) (b56' : Nat → Int64) (ls : Array Slot) (H : Heap) (locs : List Loc), lq10 (f_X7_certificate_148 N (I 6) (B 54) ) n x5 x7 i5' i7' j1' a35' a36' a39' b55' b56' = some out → MM D y nn ad A0 s.heap (va_up (va_up I 5 i5') 7 i7') (va_up J 1 j1') (va_up (va_up (va_up A 35 a35') 36 a36') 39 a39') (va_up (va_up B 55 b55') 56 b56') G H locs → lv_has ls 8 [(0, .ref (ad 7)), (5, .long x5), (7, .int x7)] → W p l e ({ frames := 7, cells := 0, slots := 0, locals := 168 } : Room) s m args below meth c H locs 0 0 (MQ below (mQi D y nn ad A0 out.1 ((va_up (va_up I 5 out.2.1) 7 out.2.2.1), (va_up J 1 out.2.2.2.1), (va_up (va_up (va_up A 35 out.2.2.2.2.1) 36 out.2.2.2.2.2.1) 39 out.2.2.2.2.2.2.1), (va_up (va_up B 55 out.2.2.2.2.2.2.2.1) 56 out.2.2.2.2.2.2.2.2), G)) args s 0 0 A0) (F0 m 148 ls []) := by
  intro n
  induction n with
  | zero =>
    intro x5 x7 i5' i7' j1' a35' a36' a39' b55' b56' ls H locs hE
    cases (show (none : Option _) = some out from hE)
  | succ n ih =>
    intro x5 x7 i5' i7' j1' a35' a36' a39' b55' b56' ls H locs hE hM hl
    exact s_X7_certificate_148 F hr (N := N)  (lq10 (f_X7_certificate_148 N (I 6) (B 54) ) n) ih x5 x7 i5' i7' j1' a35' a36' a39' b55' b56' ls H locs hE hM hl
set_option maxHeartbeats 4000000 in
set_option maxRecDepth 100000 in
theorem s_X7_certificate_85 {p : Program} {l : Launch} {e : Env} {s : State} {m : MethodId} {args : Array Value} {below : List Frame} {meth : Method} {c : Code} {D : va_G} {y : Nat → ClassId} {nn : Nat} {ad : Nat → Nat} {A0 : Nat → Prop} {I : Nat → Int32} {J : Nat → Int64} {A : Nat → Nat → Int32} {B : Nat → Nat → Int64} {G : Nat → Nat → Nat → Int32} (F : Fx p s m args meth c cX7_certificate 8 wsX7_certificate RX7 D y A0) (hr : meth.sig.returnType = (some .boolean)) {out : Int32 × Int32 × Int32 × Int64 × (Nat → Int32) × (Nat → Int32) × (Nat → Int32) × (Nat → Int64) × (Nat → Int64)} {N : Nat} (nx54 : Int32 → Int32 → Int32 → Int32 → Int32 → Int32 → Int64 → (Nat → Int32) → (Nat → Int32) → (Nat → Int32) → (Nat → Int64) → (Nat → Int64) → Option (Int32 × Int32 × Int32 × Int64 × (Nat → Int32) × (Nat → Int32) × (Nat → Int32) × (Nat → Int64) × (Nat → Int64))) (hn54 : ∀ (x2 : Int32) (x3 : Int32) (x4 : Int32) (x5 : Int32) (i5' : Int32) (i7' : Int32) (j1' : Int64) (a35' : Nat → Int32) (a36' : Nat → Int32) (a39' : Nat → Int32) (b55' : Nat → Int64) (b56' : Nat → Int64) (ls : Array Slot) (H : Heap) (locs : List Loc), nx54 x2 x3 x4 x5 i5' i7' j1' a35' a36' a39' b55' b56' = some out → MM D y nn ad A0 s.heap (va_up (va_up I 5 i5') 7 i7') (va_up J 1 j1') (va_up (va_up (va_up A 35 a35') 36 a36') 39 a39') (va_up (va_up B 55 b55') 56 b56') G H locs → lv_has ls 8 [(0, .ref (ad 7)), (2, .int x2), (3, .int x3), (4, .int x4), (5, .int x5)] → W p l e ({ frames := 7, cells := 0, slots := 0, locals := 168 } : Room) s m args below meth c H locs 0 0 (MQ below (mQi D y nn ad A0 out.1 ((va_up (va_up I 5 out.2.1) 7 out.2.2.1), (va_up J 1 out.2.2.2.1), (va_up (va_up (va_up A 35 out.2.2.2.2.1) 36 out.2.2.2.2.2.1) 39 out.2.2.2.2.2.2.1), (va_up (va_up B 55 out.2.2.2.2.2.2.2.1) 56 out.2.2.2.2.2.2.2.2), G)) args s 0 0 A0) (F0 m 54 ls [])) (nx85 : Int32 → Int32 → Int32 → Int32 → Int32 → Int32 → Int32 → Int32 → Int64 → (Nat → Int32) → (Nat → Int32) → (Nat → Int32) → (Nat → Int64) → (Nat → Int64) → Option (Int32 × Int32 × Int32 × Int64 × (Nat → Int32) × (Nat → Int32) × (Nat → Int32) × (Nat → Int64) × (Nat → Int64))) (hn85 : ∀ (x2 : Int32) (x3 : Int32) (x4 : Int32) (x5 : Int32) (x6 : Int32) (x7 : Int32) (i5' : Int32) (i7' : Int32) (j1' : Int64) (a35' : Nat → Int32) (a36' : Nat → Int32) (a39' : Nat → Int32) (b55' : Nat → Int64) (b56' : Nat → Int64) (ls : Array Slot) (H : Heap) (locs : List Loc), nx85 x2 x3 x4 x5 x6 x7 i5' i7' j1' a35' a36' a39' b55' b56' = some out → MM D y nn ad A0 s.heap (va_up (va_up I 5 i5') 7 i7') (va_up J 1 j1') (va_up (va_up (va_up A 35 a35') 36 a36') 39 a39') (va_up (va_up B 55 b55') 56 b56') G H locs → lv_has ls 8 [(0, .ref (ad 7)), (2, .int x2), (3, .int x3), (4, .int x4), (5, .int x5), (6, .int x6), (7, .int x7)] → W p l e ({ frames := 7, cells := 0, slots := 0, locals := 168 } : Room) s m args below meth c H locs 0 0 (MQ below (mQi D y nn ad A0 out.1 ((va_up (va_up I 5 out.2.1) 7 out.2.2.1), (va_up J 1 out.2.2.2.1), (va_up (va_up (va_up A 35 out.2.2.2.2.1) 36 out.2.2.2.2.2.1) 39 out.2.2.2.2.2.2.1), (va_up (va_up B 55 out.2.2.2.2.2.2.2.1) 56 out.2.2.2.2.2.2.2.2), G)) args s 0 0 A0) (F0 m 85 ls [])) : ∀ (x2 : Int32) (x3 : Int32) (x4 : Int32) (x5 : Int32) (x6 : Int32) (x7 : Int32) (i5' : Int32) (i7' : Int32) (j1' : Int64) (a35' : Nat → Int32) (a36' : Nat → Int32) (a39' : Nat → Int32) (b55' : Nat → Int64) (b56' : Nat → Int64) (ls : Array Slot) (H : Heap) (locs : List Loc), f_X7_certificate_85 N (I 6) (B 54) nx54 nx85 x2 x3 x4 x5 x6 x7 i5' i7' j1' a35' a36' a39' b55' b56' = some out → MM D y nn ad A0 s.heap (va_up (va_up I 5 i5') 7 i7') (va_up J 1 j1') (va_up (va_up (va_up A 35 a35') 36 a36') 39 a39') (va_up (va_up B 55 b55') 56 b56') G H locs → lv_has ls 8 [(0, .ref (ad 7)), (2, .int x2), (3, .int x3), (4, .int x4), (5, .int x5), (6, .int x6), (7, .int x7)] → W p l e ({ frames := 7, cells := 0, slots := 0, locals := 168 } : Room) s m args below meth c H locs 0 0 (MQ below (mQi D y nn ad A0 out.1 ((va_up (va_up I 5 out.2.1) 7 out.2.2.1), (va_up J 1 out.2.2.2.1), (va_up (va_up (va_up A 35 out.2.2.2.2.1) 36 out.2.2.2.2.2.1) 39 out.2.2.2.2.2.2.1), (va_up (va_up B 55 out.2.2.2.2.2.2.2.1) 56 out.2.2.2.2.2.2.2.2), G)) args s 0 0 A0) (F0 m 85 ls []) := by
  intro x2 x3 x4 x5 x6 x7 i5' i7' j1' a35' a36' a39' b55' b56' ls H locs hE hM hl
  have hx := F.1.1
  have hb := F.1.2.1
  unfold f_X7_certificate_85 at hE
  refine lv_iload hx hb dX7_certificate_85 (lv_at hl 3 rfl) ?_
  refine lv_iload hx hb dX7_certificate_87 (lv_at hl 6 rfl) ?_
  refine lv_ishr hx hb dX7_certificate_89 ?_
  refine lv_iconst (v := 1) hx hb dX7_certificate_90 (by decide) ?_
  refine lv_iand hx hb dX7_certificate_91 ?_
  refine lv_if_eq (tgt := 100) hx hb dX7_certificate_92 (by decide) (fun c92 => ?_) (fun c92 => ?_)
  · replace hE := (if_pos c92).symm.trans hE
    refine lv_iload hx hb dX7_certificate_100 (lv_at hl 5 rfl) ?_
    refine lv_iload hx hb dX7_certificate_102 (lv_at hl 3 rfl) ?_
    refine lv_iload hx hb dX7_certificate_104 (lv_at hl 6 rfl) ?_
    refine lv_ishr hx hb dX7_certificate_106 ?_
    refine lv_iconst (v := 1) hx hb dX7_certificate_107 (by decide) ?_
    refine lv_iand hx hb dX7_certificate_108 ?_
    refine lv_isub hx hb dX7_certificate_109 ?_
    obtain ⟨v110_9, ev110_9, hE⟩ := nmd_some hE
    refine m_topi ev110_9 ?_
    refine lv_istore (lv' := [(6, .int v110_9), (0, .ref (ad 7)), (2, .int x2), (3, .int x3), (4, .int x4), (5, .int x5), (7, .int x7)]) hx hb dX7_certificate_110 hl (by decide) rfl (fun ls hl => ?_)
    refine lv_iinc (v := x7 + (1 : Int32)) (lv' := [(7, .int (x7 + (1 : Int32))), (6, .int v110_9), (0, .ref (ad 7)), (2, .int x2), (3, .int x3), (4, .int x4), (5, .int x5)]) hx hb dX7_certificate_112 hl (k := 6) rfl rfl (by decide) rfl (fun ls hl => ?_)
    refine lv_goto (tgt := 85) hx hb dX7_certificate_115 (by decide) ?_
    exact hn85 x2 x3 x4 x5 v110_9 (x7 + (1 : Int32)) i5' i7' j1' a35' a36' a39' b55' b56' ls H locs hE hM (lv_sub hl [2, 3, 4, 5, 6, 1, 0] rfl)
  · replace hE := (if_neg c92).symm.trans hE
    refine lv_iload hx hb dX7_certificate_95 (lv_at hl 5 rfl) ?_
    refine lv_if_le (tgt := 118) hx hb dX7_certificate_97 (by decide) (fun c97 => ?_) (fun c97 => ?_)
    · replace hE := (if_pos c97).symm.trans hE
      refine lv_aload_n hx hb dX7_certificate_118 rfl (lv_at hl 0 rfl) ?_
      refine m_get F hM 7 mg_7 rfl 14 (by decide) (by decide +kernel) (by decide +kernel) (v := .ref (ad 39)) rfl dX7_certificate_119 ?_
      refine lv_iload hx hb dX7_certificate_122 (lv_at hl 4 rfl) ?_
      refine lv_iload hx hb dX7_certificate_124 (lv_at hl 6 rfl) ?_
      obtain ⟨hi126_10, hE⟩ := ck_some hE
      obtain ⟨w126_11, ew126_11, hE⟩ := nmd_some hE
      refine m_iast (f := a39') (A' := (va_up (va_up (va_up A 35 a35') 36 a36') 39 w126_11)) F hM mg_39 ms_39 (by rw [ew126_11]; exact un_35_36_39__39) hi126_10 dX7_certificate_126 (fun H locs hM => ?_)
      refine lv_iload hx hb dX7_certificate_127 (lv_at hl 3 rfl) ?_
      refine lv_iconst (v := 1) hx hb dX7_certificate_129 (by decide) ?_
      refine lv_iload hx hb dX7_certificate_130 (lv_at hl 6 rfl) ?_
      refine lv_ishl hx hb dX7_certificate_132 ?_
      refine lv_ixor hx hb dX7_certificate_133 ?_
      refine lv_istore (lv' := [(4, .int (x4 ^^^ ((1 : Int32) <<< (x7 &&& 31)))), (0, .ref (ad 7)), (2, .int x2), (3, .int x3), (5, .int x5), (6, .int x6), (7, .int x7)]) hx hb dX7_certificate_134 hl (by decide) rfl (fun ls hl => ?_)
      refine lv_iinc (v := x5 + (1 : Int32)) (lv' := [(5, .int (x5 + (1 : Int32))), (4, .int (x4 ^^^ ((1 : Int32) <<< (x7 &&& 31)))), (0, .ref (ad 7)), (2, .int x2), (3, .int x3), (6, .int x6), (7, .int x7)]) hx hb dX7_certificate_136 hl (k := 4) rfl rfl (by decide) rfl (fun ls hl => ?_)
      refine lv_goto (tgt := 54) hx hb dX7_certificate_139 (by decide) ?_
      exact hn54 x2 x3 (x4 ^^^ ((1 : Int32) <<< (x7 &&& 31))) (x5 + (1 : Int32)) i5' i7' j1' a35' a36' w126_11 b55' b56' ls H locs hE hM (lv_sub hl [2, 3, 4, 1, 0] rfl)
    · replace hE := (if_neg c97).symm.trans hE
      refine lv_iload hx hb dX7_certificate_100 (lv_at hl 5 rfl) ?_
      refine lv_iload hx hb dX7_certificate_102 (lv_at hl 3 rfl) ?_
      refine lv_iload hx hb dX7_certificate_104 (lv_at hl 6 rfl) ?_
      refine lv_ishr hx hb dX7_certificate_106 ?_
      refine lv_iconst (v := 1) hx hb dX7_certificate_107 (by decide) ?_
      refine lv_iand hx hb dX7_certificate_108 ?_
      refine lv_isub hx hb dX7_certificate_109 ?_
      obtain ⟨v110_12, ev110_12, hE⟩ := nmd_some hE
      refine m_topi ev110_12 ?_
      refine lv_istore (lv' := [(6, .int v110_12), (0, .ref (ad 7)), (2, .int x2), (3, .int x3), (4, .int x4), (5, .int x5), (7, .int x7)]) hx hb dX7_certificate_110 hl (by decide) rfl (fun ls hl => ?_)
      refine lv_iinc (v := x7 + (1 : Int32)) (lv' := [(7, .int (x7 + (1 : Int32))), (6, .int v110_12), (0, .ref (ad 7)), (2, .int x2), (3, .int x3), (4, .int x4), (5, .int x5)]) hx hb dX7_certificate_112 hl (k := 6) rfl rfl (by decide) rfl (fun ls hl => ?_)
      refine lv_goto (tgt := 85) hx hb dX7_certificate_115 (by decide) ?_
      exact hn85 x2 x3 x4 x5 v110_12 (x7 + (1 : Int32)) i5' i7' j1' a35' a36' a39' b55' b56' ls H locs hE hM (lv_sub hl [2, 3, 4, 5, 6, 1, 0] rfl)
theorem k_X7_certificate_85 {p : Program} {l : Launch} {e : Env} {s : State} {m : MethodId} {args : Array Value} {below : List Frame} {meth : Method} {c : Code} {D : va_G} {y : Nat → ClassId} {nn : Nat} {ad : Nat → Nat} {A0 : Nat → Prop} {I : Nat → Int32} {J : Nat → Int64} {A : Nat → Nat → Int32} {B : Nat → Nat → Int64} {G : Nat → Nat → Nat → Int32} (F : Fx p s m args meth c cX7_certificate 8 wsX7_certificate RX7 D y A0) (hr : meth.sig.returnType = (some .boolean)) {out : Int32 × Int32 × Int32 × Int64 × (Nat → Int32) × (Nat → Int32) × (Nat → Int32) × (Nat → Int64) × (Nat → Int64)} {N : Nat} (nx54 : Int32 → Int32 → Int32 → Int32 → Int32 → Int32 → Int64 → (Nat → Int32) → (Nat → Int32) → (Nat → Int32) → (Nat → Int64) → (Nat → Int64) → Option (Int32 × Int32 × Int32 × Int64 × (Nat → Int32) × (Nat → Int32) × (Nat → Int32) × (Nat → Int64) × (Nat → Int64))) (hn54 : ∀ (x2 : Int32) (x3 : Int32) (x4 : Int32) (x5 : Int32) (i5' : Int32) (i7' : Int32) (j1' : Int64) (a35' : Nat → Int32) (a36' : Nat → Int32) (a39' : Nat → Int32) (b55' : Nat → Int64) (b56' : Nat → Int64) (ls : Array Slot) (H : Heap) (locs : List Loc), nx54 x2 x3 x4 x5 i5' i7' j1' a35' a36' a39' b55' b56' = some out → MM D y nn ad A0 s.heap (va_up (va_up I 5 i5') 7 i7') (va_up J 1 j1') (va_up (va_up (va_up A 35 a35') 36 a36') 39 a39') (va_up (va_up B 55 b55') 56 b56') G H locs → lv_has ls 8 [(0, .ref (ad 7)), (2, .int x2), (3, .int x3), (4, .int x4), (5, .int x5)] → W p l e ({ frames := 7, cells := 0, slots := 0, locals := 168 } : Room) s m args below meth c H locs 0 0 (MQ below (mQi D y nn ad A0 out.1 ((va_up (va_up I 5 out.2.1) 7 out.2.2.1), (va_up J 1 out.2.2.2.1), (va_up (va_up (va_up A 35 out.2.2.2.2.1) 36 out.2.2.2.2.2.1) 39 out.2.2.2.2.2.2.1), (va_up (va_up B 55 out.2.2.2.2.2.2.2.1) 56 out.2.2.2.2.2.2.2.2), G)) args s 0 0 A0) (F0 m 54 ls [])) : ∀ (n : Nat), ∀ (x2 : Int32) (x3 : Int32) (x4 : Int32) (x5 : Int32) (x6 : Int32) (x7 : Int32) (i5' : Int32) (i7' : Int32) (j1' : Int64) (a35' : Nat → Int32) (a36' : Nat → Int32) (a39' : Nat → Int32) (b55' : Nat → Int64) (b56' : Nat → Int64) (ls : Array Slot) (H : Heap) (locs : List Loc), lq14 (f_X7_certificate_85 N (I 6) (B 54) nx54) n x2 x3 x4 x5 x6 x7 i5' i7' j1' a35' a36' a39' b55' b56' = some out → MM D y nn ad A0 s.heap (va_up (va_up I 5 i5') 7 i7') (va_up J 1 j1') (va_up (va_up (va_up A 35 a35') 36 a36') 39 a39') (va_up (va_up B 55 b55') 56 b56') G H locs → lv_has ls 8 [(0, .ref (ad 7)), (2, .int x2), (3, .int x3), (4, .int x4), (5, .int x5), (6, .int x6), (7, .int x7)] → W p l e ({ frames := 7, cells := 0, slots := 0, locals := 168 } : Room) s m args below meth c H locs 0 0 (MQ below (mQi D y nn ad A0 out.1 ((va_up (va_up I 5 out.2.1) 7 out.2.2.1), (va_up J 1 out.2.2.2.1), (va_up (va_up (va_up A 35 out.2.2.2.2.1) 36 out.2.2.2.2.2.1) 39 out.2.2.2.2.2.2.1), (va_up (va_up B 55 out.2.2.2.2.2.2.2.1) 56 out.2.2.2.2.2.2.2.2), G)) args s 0 0 A0) (F0 m 85 ls []) := by
  intro n
  induction n with
  | zero =>
    intro x2 x3 x4 x5 x6 x7 i5' i7' j1' a35' a36' a39' b55' b56' ls H locs hE
    cases (show (none : Option _) = some out from hE)
  | succ n ih =>
    intro x2 x3 x4 x5 x6 x7 i5' i7' j1' a35' a36' a39' b55' b56' ls H locs hE hM hl
    exact s_X7_certificate_85 F hr (N := N) nx54 hn54 (lq14 (f_X7_certificate_85 N (I 6) (B 54) nx54) n) ih x2 x3 x4 x5 x6 x7 i5' i7' j1' a35' a36' a39' b55' b56' ls H locs hE hM hl
set_option maxHeartbeats 4000000 in
set_option maxRecDepth 100000 in
theorem s_X7_certificate_54 {p : Program} {l : Launch} {e : Env} {s : State} {m : MethodId} {args : Array Value} {below : List Frame} {meth : Method} {c : Code} {D : va_G} {y : Nat → ClassId} {nn : Nat} {ad : Nat → Nat} {A0 : Nat → Prop} {I : Nat → Int32} {J : Nat → Int64} {A : Nat → Nat → Int32} {B : Nat → Nat → Int64} {G : Nat → Nat → Nat → Int32} (F : Fx p s m args meth c cX7_certificate 8 wsX7_certificate RX7 D y A0) (hr : meth.sig.returnType = (some .boolean)) {out : Int32 × Int32 × Int32 × Int64 × (Nat → Int32) × (Nat → Int32) × (Nat → Int32) × (Nat → Int64) × (Nat → Int64)} {N : Nat}  (nx54 : Int32 → Int32 → Int32 → Int32 → Int32 → Int32 → Int64 → (Nat → Int32) → (Nat → Int32) → (Nat → Int32) → (Nat → Int64) → (Nat → Int64) → Option (Int32 × Int32 × Int32 × Int64 × (Nat → Int32) × (Nat → Int32) × (Nat → Int32) × (Nat → Int64) × (Nat → Int64))) (hn54 : ∀ (x2 : Int32) (x3 : Int32) (x4 : Int32) (x5 : Int32) (i5' : Int32) (i7' : Int32) (j1' : Int64) (a35' : Nat → Int32) (a36' : Nat → Int32) (a39' : Nat → Int32) (b55' : Nat → Int64) (b56' : Nat → Int64) (ls : Array Slot) (H : Heap) (locs : List Loc), nx54 x2 x3 x4 x5 i5' i7' j1' a35' a36' a39' b55' b56' = some out → MM D y nn ad A0 s.heap (va_up (va_up I 5 i5') 7 i7') (va_up J 1 j1') (va_up (va_up (va_up A 35 a35') 36 a36') 39 a39') (va_up (va_up B 55 b55') 56 b56') G H locs → lv_has ls 8 [(0, .ref (ad 7)), (2, .int x2), (3, .int x3), (4, .int x4), (5, .int x5)] → W p l e ({ frames := 7, cells := 0, slots := 0, locals := 168 } : Room) s m args below meth c H locs 0 0 (MQ below (mQi D y nn ad A0 out.1 ((va_up (va_up I 5 out.2.1) 7 out.2.2.1), (va_up J 1 out.2.2.2.1), (va_up (va_up (va_up A 35 out.2.2.2.2.1) 36 out.2.2.2.2.2.1) 39 out.2.2.2.2.2.2.1), (va_up (va_up B 55 out.2.2.2.2.2.2.2.1) 56 out.2.2.2.2.2.2.2.2), G)) args s 0 0 A0) (F0 m 54 ls [])) : ∀ (x2 : Int32) (x3 : Int32) (x4 : Int32) (x5 : Int32) (i5' : Int32) (i7' : Int32) (j1' : Int64) (a35' : Nat → Int32) (a36' : Nat → Int32) (a39' : Nat → Int32) (b55' : Nat → Int64) (b56' : Nat → Int64) (ls : Array Slot) (H : Heap) (locs : List Loc), f_X7_certificate_54 N (I 6) (B 54)  nx54 x2 x3 x4 x5 i5' i7' j1' a35' a36' a39' b55' b56' = some out → MM D y nn ad A0 s.heap (va_up (va_up I 5 i5') 7 i7') (va_up J 1 j1') (va_up (va_up (va_up A 35 a35') 36 a36') 39 a39') (va_up (va_up B 55 b55') 56 b56') G H locs → lv_has ls 8 [(0, .ref (ad 7)), (2, .int x2), (3, .int x3), (4, .int x4), (5, .int x5)] → W p l e ({ frames := 7, cells := 0, slots := 0, locals := 168 } : Room) s m args below meth c H locs 0 0 (MQ below (mQi D y nn ad A0 out.1 ((va_up (va_up I 5 out.2.1) 7 out.2.2.1), (va_up J 1 out.2.2.2.1), (va_up (va_up (va_up A 35 out.2.2.2.2.1) 36 out.2.2.2.2.2.1) 39 out.2.2.2.2.2.2.1), (va_up (va_up B 55 out.2.2.2.2.2.2.2.1) 56 out.2.2.2.2.2.2.2.2), G)) args s 0 0 A0) (F0 m 54 ls []) := by
  intro x2 x3 x4 x5 i5' i7' j1' a35' a36' a39' b55' b56' ls H locs hE hM hl
  have hx := F.1.1
  have hb := F.1.2.1
  unfold f_X7_certificate_54 at hE
  refine lv_iload hx hb dX7_certificate_54 (lv_at hl 4 rfl) ?_
  refine lv_aload_n hx hb dX7_certificate_56 rfl (lv_at hl 0 rfl) ?_
  refine m_get F hM 7 mg_7 rfl 1 (by decide) (by decide +kernel) (by decide +kernel) (v := .int (I 6)) rfl dX7_certificate_57 ?_
  refine lv_icmp_ge (tgt := 142) hx hb dX7_certificate_60 (by decide) (fun c60 => ?_) (fun c60 => ?_)
  · replace hE := (if_pos c60).symm.trans hE
    refine lv_lconst (v := 0) hx hb dX7_certificate_142 (by decide) ?_
    refine lv_lstore (lv' := [(5, .long (0 : Int64)), (0, .ref (ad 7)), (2, .int x2), (3, .int x3), (4, .int x4)]) hx hb dX7_certificate_143 hl (by decide) rfl (fun ls hl => ?_)
    refine lv_iconst (v := 0) hx hb dX7_certificate_145 (by decide) ?_
    refine lv_istore (lv' := [(7, .int (0 : Int32)), (5, .long (0 : Int64)), (0, .ref (ad 7)), (2, .int x2), (3, .int x3), (4, .int x4)]) hx hb dX7_certificate_146 hl (by decide) rfl (fun ls hl => ?_)
    exact k_X7_certificate_148 F hr (N := N)  N (0 : Int64) (0 : Int32) i5' i7' j1' a35' a36' a39' b55' b56' ls H locs hE hM (lv_sub hl [2, 1, 0] rfl)
  · replace hE := (if_neg c60).symm.trans hE
    refine lv_iload_n hx hb dX7_certificate_63 rfl (lv_at hl 1 rfl) ?_
    refine lv_aload_n hx hb dX7_certificate_64 rfl (lv_at hl 0 rfl) ?_
    refine m_get F hM 7 mg_7 rfl 1 (by decide) (by decide +kernel) (by decide +kernel) (v := .int (I 6)) rfl dX7_certificate_65 ?_
    refine lv_iload hx hb dX7_certificate_68 (lv_at hl 4 rfl) ?_
    refine lv_isub hx hb dX7_certificate_70 ?_
    obtain ⟨hz71, hE⟩ := dv_some hE
    refine lv_idiv hx hb dX7_certificate_71 hz71 ?_
    refine lv_istore_n (lv' := [(2, .int (x2 / ((I 6) - x5))), (0, .ref (ad 7)), (3, .int x3), (4, .int x4), (5, .int x5)]) hx hb dX7_certificate_72 rfl hl (by decide) rfl (fun ls hl => ?_)
    refine lv_iload_n hx hb dX7_certificate_73 rfl (lv_at hl 2 rfl) ?_
    refine lv_iload_n hx hb dX7_certificate_74 rfl (lv_at hl 0 rfl) ?_
    obtain ⟨hz75, hE⟩ := dv_some hE
    refine lv_idiv hx hb dX7_certificate_75 hz75 ?_
    refine lv_istore (lv' := [(6, .int (x3 / (x2 / ((I 6) - x5)))), (2, .int (x2 / ((I 6) - x5))), (0, .ref (ad 7)), (3, .int x3), (4, .int x4), (5, .int x5)]) hx hb dX7_certificate_76 hl (by decide) rfl (fun ls hl => ?_)
    refine lv_iload_n hx hb dX7_certificate_78 rfl (lv_at hl 3 rfl) ?_
    refine lv_iload_n hx hb dX7_certificate_79 rfl (lv_at hl 1 rfl) ?_
    obtain ⟨hz80, hE⟩ := dv_some hE
    refine lv_irem hx hb dX7_certificate_80 hz80 ?_
    obtain ⟨v81_8, ev81_8, hE⟩ := nmd_some hE
    refine m_topi ev81_8 ?_
    refine lv_istore_n (lv' := [(3, .int v81_8), (6, .int (x3 / (x2 / ((I 6) - x5)))), (2, .int (x2 / ((I 6) - x5))), (0, .ref (ad 7)), (4, .int x4), (5, .int x5)]) hx hb dX7_certificate_81 rfl hl (by decide) rfl (fun ls hl => ?_)
    refine lv_iconst (v := 0) hx hb dX7_certificate_82 (by decide) ?_
    refine lv_istore (lv' := [(7, .int (0 : Int32)), (3, .int v81_8), (6, .int (x3 / (x2 / ((I 6) - x5)))), (2, .int (x2 / ((I 6) - x5))), (0, .ref (ad 7)), (4, .int x4), (5, .int x5)]) hx hb dX7_certificate_83 hl (by decide) rfl (fun ls hl => ?_)
    exact k_X7_certificate_85 F hr (N := N) nx54 hn54 N (x2 / ((I 6) - x5)) v81_8 x4 x5 (x3 / (x2 / ((I 6) - x5))) (0 : Int32) i5' i7' j1' a35' a36' a39' b55' b56' ls H locs hE hM (lv_sub hl [4, 3, 1, 5, 6, 2, 0] rfl)
theorem k_X7_certificate_54 {p : Program} {l : Launch} {e : Env} {s : State} {m : MethodId} {args : Array Value} {below : List Frame} {meth : Method} {c : Code} {D : va_G} {y : Nat → ClassId} {nn : Nat} {ad : Nat → Nat} {A0 : Nat → Prop} {I : Nat → Int32} {J : Nat → Int64} {A : Nat → Nat → Int32} {B : Nat → Nat → Int64} {G : Nat → Nat → Nat → Int32} (F : Fx p s m args meth c cX7_certificate 8 wsX7_certificate RX7 D y A0) (hr : meth.sig.returnType = (some .boolean)) {out : Int32 × Int32 × Int32 × Int64 × (Nat → Int32) × (Nat → Int32) × (Nat → Int32) × (Nat → Int64) × (Nat → Int64)} {N : Nat}  : ∀ (n : Nat), ∀ (x2 : Int32) (x3 : Int32) (x4 : Int32) (x5 : Int32) (i5' : Int32) (i7' : Int32) (j1' : Int64) (a35' : Nat → Int32) (a36' : Nat → Int32) (a39' : Nat → Int32) (b55' : Nat → Int64) (b56' : Nat → Int64) (ls : Array Slot) (H : Heap) (locs : List Loc), lq12 (f_X7_certificate_54 N (I 6) (B 54) ) n x2 x3 x4 x5 i5' i7' j1' a35' a36' a39' b55' b56' = some out → MM D y nn ad A0 s.heap (va_up (va_up I 5 i5') 7 i7') (va_up J 1 j1') (va_up (va_up (va_up A 35 a35') 36 a36') 39 a39') (va_up (va_up B 55 b55') 56 b56') G H locs → lv_has ls 8 [(0, .ref (ad 7)), (2, .int x2), (3, .int x3), (4, .int x4), (5, .int x5)] → W p l e ({ frames := 7, cells := 0, slots := 0, locals := 168 } : Room) s m args below meth c H locs 0 0 (MQ below (mQi D y nn ad A0 out.1 ((va_up (va_up I 5 out.2.1) 7 out.2.2.1), (va_up J 1 out.2.2.2.1), (va_up (va_up (va_up A 35 out.2.2.2.2.1) 36 out.2.2.2.2.2.1) 39 out.2.2.2.2.2.2.1), (va_up (va_up B 55 out.2.2.2.2.2.2.2.1) 56 out.2.2.2.2.2.2.2.2), G)) args s 0 0 A0) (F0 m 54 ls []) := by
  intro n
  induction n with
  | zero =>
    intro x2 x3 x4 x5 i5' i7' j1' a35' a36' a39' b55' b56' ls H locs hE
    cases (show (none : Option _) = some out from hE)
  | succ n ih =>
    intro x2 x3 x4 x5 i5' i7' j1' a35' a36' a39' b55' b56' ls H locs hE hM hl
    exact s_X7_certificate_54 F hr (N := N)  (lq12 (f_X7_certificate_54 N (I 6) (B 54) ) n) ih x2 x3 x4 x5 i5' i7' j1' a35' a36' a39' b55' b56' ls H locs hE hM hl
set_option maxHeartbeats 4000000 in
set_option maxRecDepth 100000 in
theorem s_X7_certificate_9 {p : Program} {l : Launch} {e : Env} {s : State} {m : MethodId} {args : Array Value} {below : List Frame} {meth : Method} {c : Code} {D : va_G} {y : Nat → ClassId} {nn : Nat} {ad : Nat → Nat} {A0 : Nat → Prop} {I : Nat → Int32} {J : Nat → Int64} {A : Nat → Nat → Int32} {B : Nat → Nat → Int64} {G : Nat → Nat → Nat → Int32} (F : Fx p s m args meth c cX7_certificate 8 wsX7_certificate RX7 D y A0) (hr : meth.sig.returnType = (some .boolean)) {out : Int32 × Int32 × Int32 × Int64 × (Nat → Int32) × (Nat → Int32) × (Nat → Int32) × (Nat → Int64) × (Nat → Int64)} {N : Nat}  (nx9 : Int32 → Int32 → Int32 → Int32 → Int32 → Int64 → (Nat → Int32) → (Nat → Int32) → (Nat → Int32) → (Nat → Int64) → (Nat → Int64) → Option (Int32 × Int32 × Int32 × Int64 × (Nat → Int32) × (Nat → Int32) × (Nat → Int32) × (Nat → Int64) × (Nat → Int64))) (hn9 : ∀ (x1 : Int32) (x2 : Int32) (x3 : Int32) (i5' : Int32) (i7' : Int32) (j1' : Int64) (a35' : Nat → Int32) (a36' : Nat → Int32) (a39' : Nat → Int32) (b55' : Nat → Int64) (b56' : Nat → Int64) (ls : Array Slot) (H : Heap) (locs : List Loc), nx9 x1 x2 x3 i5' i7' j1' a35' a36' a39' b55' b56' = some out → MM D y nn ad A0 s.heap (va_up (va_up I 5 i5') 7 i7') (va_up J 1 j1') (va_up (va_up (va_up A 35 a35') 36 a36') 39 a39') (va_up (va_up B 55 b55') 56 b56') G H locs → lv_has ls 8 [(0, .ref (ad 7)), (1, .int x1), (2, .int x2), (3, .int x3)] → W p l e ({ frames := 7, cells := 0, slots := 0, locals := 168 } : Room) s m args below meth c H locs 0 0 (MQ below (mQi D y nn ad A0 out.1 ((va_up (va_up I 5 out.2.1) 7 out.2.2.1), (va_up J 1 out.2.2.2.1), (va_up (va_up (va_up A 35 out.2.2.2.2.1) 36 out.2.2.2.2.2.1) 39 out.2.2.2.2.2.2.1), (va_up (va_up B 55 out.2.2.2.2.2.2.2.1) 56 out.2.2.2.2.2.2.2.2), G)) args s 0 0 A0) (F0 m 9 ls [])) : ∀ (x1 : Int32) (x2 : Int32) (x3 : Int32) (i5' : Int32) (i7' : Int32) (j1' : Int64) (a35' : Nat → Int32) (a36' : Nat → Int32) (a39' : Nat → Int32) (b55' : Nat → Int64) (b56' : Nat → Int64) (ls : Array Slot) (H : Heap) (locs : List Loc), f_X7_certificate_9 N (I 6) (B 54)  nx9 x1 x2 x3 i5' i7' j1' a35' a36' a39' b55' b56' = some out → MM D y nn ad A0 s.heap (va_up (va_up I 5 i5') 7 i7') (va_up J 1 j1') (va_up (va_up (va_up A 35 a35') 36 a36') 39 a39') (va_up (va_up B 55 b55') 56 b56') G H locs → lv_has ls 8 [(0, .ref (ad 7)), (1, .int x1), (2, .int x2), (3, .int x3)] → W p l e ({ frames := 7, cells := 0, slots := 0, locals := 168 } : Room) s m args below meth c H locs 0 0 (MQ below (mQi D y nn ad A0 out.1 ((va_up (va_up I 5 out.2.1) 7 out.2.2.1), (va_up J 1 out.2.2.2.1), (va_up (va_up (va_up A 35 out.2.2.2.2.1) 36 out.2.2.2.2.2.1) 39 out.2.2.2.2.2.2.1), (va_up (va_up B 55 out.2.2.2.2.2.2.2.1) 56 out.2.2.2.2.2.2.2.2), G)) args s 0 0 A0) (F0 m 9 ls []) := by
  intro x1 x2 x3 i5' i7' j1' a35' a36' a39' b55' b56' ls H locs hE hM hl
  have hx := F.1.1
  have hb := F.1.2.1
  unfold f_X7_certificate_9 at hE
  refine lv_iload_n hx hb dX7_certificate_9 rfl (lv_at hl 3 rfl) ?_
  refine lv_aload_n hx hb dX7_certificate_10 rfl (lv_at hl 0 rfl) ?_
  refine m_get F hM 7 mg_7 rfl 1 (by decide) (by decide +kernel) (by decide +kernel) (v := .int (I 6)) rfl dX7_certificate_11 ?_
  refine lv_icmp_ge (tgt := 27) hx hb dX7_certificate_14 (by decide) (fun c14 => ?_) (fun c14 => ?_)
  · replace hE := (if_pos c14).symm.trans hE
    refine lv_iload_n hx hb dX7_certificate_27 rfl (lv_at hl 1 rfl) ?_
    refine lv_ldc (v := 2147483647) hx hb F.1.2.2.2.1 (F.1.2.2.2.2 (.constant RX7 148 (2147483647)) (by decide +kernel)) dX7_certificate_28 ?_
    refine lv_iand hx hb dX7_certificate_30 ?_
    refine lv_iload_n hx hb dX7_certificate_31 rfl (lv_at hl 2 rfl) ?_
    obtain ⟨hz32, hE⟩ := dv_some hE
    refine lv_irem hx hb dX7_certificate_32 hz32 ?_
    obtain ⟨v33_0, ev33_0, hE⟩ := nmd_some hE
    refine m_topi ev33_0 ?_
    refine lv_istore_n (lv' := [(3, .int v33_0), (0, .ref (ad 7)), (1, .int x1), (2, .int x2)]) hx hb dX7_certificate_33 rfl hl (by decide) rfl (fun ls hl => ?_)
    refine lv_iconst (v := 1) hx hb dX7_certificate_34 (by decide) ?_
    refine lv_aload_n hx hb dX7_certificate_35 rfl (lv_at hl 1 rfl) ?_
    refine m_get F hM 7 mg_7 rfl 1 (by decide) (by decide +kernel) (by decide +kernel) (v := .int (I 6)) rfl dX7_certificate_36 ?_
    refine lv_ishl hx hb dX7_certificate_39 ?_
    refine lv_iconst (v := 2) hx hb dX7_certificate_40 (by decide) ?_
    refine lv_isub hx hb dX7_certificate_41 ?_
    obtain ⟨v42_1, ev42_1, hE⟩ := nmd_some hE
    refine m_topi ev42_1 ?_
    refine lv_istore (lv' := [(4, .int v42_1), (3, .int v33_0), (0, .ref (ad 7)), (1, .int x1), (2, .int x2)]) hx hb dX7_certificate_42 hl (by decide) rfl (fun ls hl => ?_)
    refine lv_aload_n hx hb dX7_certificate_44 rfl (lv_at hl 2 rfl) ?_
    refine m_get F hM 7 mg_7 rfl 14 (by decide) (by decide +kernel) (by decide +kernel) (v := .ref (ad 39)) rfl dX7_certificate_45 ?_
    refine lv_iconst (v := 0) hx hb dX7_certificate_48 (by decide) ?_
    refine lv_iconst (v := 0) hx hb dX7_certificate_49 (by decide) ?_
    obtain ⟨hi50_2, hE⟩ := ck_some hE
    obtain ⟨w50_3, ew50_3, hE⟩ := nmd_some hE
    refine m_iast (f := a39') (A' := (va_up (va_up (va_up A 35 a35') 36 a36') 39 w50_3)) F hM mg_39 ms_39 (by rw [ew50_3]; exact un_35_36_39__39) hi50_2 dX7_certificate_50 (fun H locs hM => ?_)
    refine lv_iconst (v := 1) hx hb dX7_certificate_51 (by decide) ?_
    refine lv_istore (lv' := [(5, .int (1 : Int32)), (4, .int v42_1), (3, .int v33_0), (0, .ref (ad 7)), (1, .int x1), (2, .int x2)]) hx hb dX7_certificate_52 hl (by decide) rfl (fun ls hl => ?_)
    exact k_X7_certificate_54 F hr (N := N)  N x2 v33_0 v42_1 (1 : Int32) i5' i7' j1' a35' a36' w50_3 b55' b56' ls H locs hE hM (lv_sub hl [3, 5, 2, 1, 0] rfl)
  · replace hE := (if_neg c14).symm.trans hE
    refine lv_iload_n hx hb dX7_certificate_17 rfl (lv_at hl 2 rfl) ?_
    refine lv_iload_n hx hb dX7_certificate_18 rfl (lv_at hl 3 rfl) ?_
    refine lv_imul hx hb dX7_certificate_19 ?_
    refine lv_istore_n (lv' := [(2, .int (x2 * x3)), (0, .ref (ad 7)), (1, .int x1), (3, .int x3)]) hx hb dX7_certificate_20 rfl hl (by decide) rfl (fun ls hl => ?_)
    refine lv_iinc (v := x3 + (1 : Int32)) (lv' := [(3, .int (x3 + (1 : Int32))), (2, .int (x2 * x3)), (0, .ref (ad 7)), (1, .int x1)]) hx hb dX7_certificate_21 hl (k := 3) rfl rfl (by decide) rfl (fun ls hl => ?_)
    refine lv_goto (tgt := 9) hx hb dX7_certificate_24 (by decide) ?_
    exact hn9 x1 (x2 * x3) (x3 + (1 : Int32)) i5' i7' j1' a35' a36' a39' b55' b56' ls H locs hE hM (lv_sub hl [2, 3, 1, 0] rfl)
theorem k_X7_certificate_9 {p : Program} {l : Launch} {e : Env} {s : State} {m : MethodId} {args : Array Value} {below : List Frame} {meth : Method} {c : Code} {D : va_G} {y : Nat → ClassId} {nn : Nat} {ad : Nat → Nat} {A0 : Nat → Prop} {I : Nat → Int32} {J : Nat → Int64} {A : Nat → Nat → Int32} {B : Nat → Nat → Int64} {G : Nat → Nat → Nat → Int32} (F : Fx p s m args meth c cX7_certificate 8 wsX7_certificate RX7 D y A0) (hr : meth.sig.returnType = (some .boolean)) {out : Int32 × Int32 × Int32 × Int64 × (Nat → Int32) × (Nat → Int32) × (Nat → Int32) × (Nat → Int64) × (Nat → Int64)} {N : Nat}  : ∀ (n : Nat), ∀ (x1 : Int32) (x2 : Int32) (x3 : Int32) (i5' : Int32) (i7' : Int32) (j1' : Int64) (a35' : Nat → Int32) (a36' : Nat → Int32) (a39' : Nat → Int32) (b55' : Nat → Int64) (b56' : Nat → Int64) (ls : Array Slot) (H : Heap) (locs : List Loc), lq11 (f_X7_certificate_9 N (I 6) (B 54) ) n x1 x2 x3 i5' i7' j1' a35' a36' a39' b55' b56' = some out → MM D y nn ad A0 s.heap (va_up (va_up I 5 i5') 7 i7') (va_up J 1 j1') (va_up (va_up (va_up A 35 a35') 36 a36') 39 a39') (va_up (va_up B 55 b55') 56 b56') G H locs → lv_has ls 8 [(0, .ref (ad 7)), (1, .int x1), (2, .int x2), (3, .int x3)] → W p l e ({ frames := 7, cells := 0, slots := 0, locals := 168 } : Room) s m args below meth c H locs 0 0 (MQ below (mQi D y nn ad A0 out.1 ((va_up (va_up I 5 out.2.1) 7 out.2.2.1), (va_up J 1 out.2.2.2.1), (va_up (va_up (va_up A 35 out.2.2.2.2.1) 36 out.2.2.2.2.2.1) 39 out.2.2.2.2.2.2.1), (va_up (va_up B 55 out.2.2.2.2.2.2.2.1) 56 out.2.2.2.2.2.2.2.2), G)) args s 0 0 A0) (F0 m 9 ls []) := by
  intro n
  induction n with
  | zero =>
    intro x1 x2 x3 i5' i7' j1' a35' a36' a39' b55' b56' ls H locs hE
    cases (show (none : Option _) = some out from hE)
  | succ n ih =>
    intro x1 x2 x3 i5' i7' j1' a35' a36' a39' b55' b56' ls H locs hE hM hl
    exact s_X7_certificate_9 F hr (N := N)  (lq11 (f_X7_certificate_9 N (I 6) (B 54) ) n) ih x1 x2 x3 i5' i7' j1' a35' a36' a39' b55' b56' ls H locs hE hM hl
set_option maxHeartbeats 4000000 in
set_option maxRecDepth 100000 in
theorem c_X7_certificate (l : Launch) (D : va_G) (y : Nat → ClassId) (nn : Nat) (ad : Nat → Nat) (sz : Nat) (I : Nat → Int32) (J : Nat → Int64) (A : Nat → Nat → Int32) (B : Nat → Nat → Int64) (G : Nat → Nat → Nat → Int32) (p1 : Int32) (N : Nat) (out : Int32 × Int32 × Int32 × Int64 × (Nat → Int32) × (Nat → Int32) × (Nat → Int32) × (Nat → Int64) × (Nat → Int64)) (hE : f_X7_certificate N (I 6) (B 54) (I 5) (I 7) (J 1) (A 35) (A 36) (A 39) (B 55) (B 56) p1 = some out) : Met l yX7_certificate wsX7_certificate ({ frames := 7, cells := 0, slots := 0, locals := 168 } : Room) (mPc [.ref (ad 7), .int p1] D y nn ad sz I J A B G) (mQi D y nn ad (mA y nn ad I J A B G sz) out.1 ((va_up (va_up I 5 out.2.1) 7 out.2.2.1), (va_up J 1 out.2.2.2.1), (va_up (va_up (va_up A 35 out.2.2.2.2.1) 36 out.2.2.2.2.2.1) 39 out.2.2.2.2.2.2.1), (va_up (va_up B 55 out.2.2.2.2.2.2.2.1) 56 out.2.2.2.2.2.2.2.2), G)) 0 0 (mA y nn ad I J A B G sz) := by
  refine Met.ofW (cc := cX7_certificate) (maxL := 8) (ret := (some .boolean)) (by decide) rfl ?_
  intro p e s m args below meth c s₁ Bd hml hv
  obtain ⟨rfl, hsz, hP, hK, hD0, hN⟩ := hv
  have hr := Bd.returns
  subst hsz
  have F : Fx p s m ([.ref (ad 7), .int p1] : List Value).toArray meth c cX7_certificate 8 wsX7_certificate RX7 D y (mA y nn ad I J A B G s.heap.size) := ⟨⟨Bd.exec, Bd.bytes, hml, findClass_of_methodNamed Bd.named, atoms_spec (ws := wsX7_certificate) Bd.pre⟩, hK, hN, fun q h => Or.inr h, Bd.notSynchronized⟩
  have hM := m_start (s := s) rfl hP hD0
  have hM := m_mem (I2 := (va_up (va_up I 5 (I 5)) 7 (I 7))) (J2 := (va_up J 1 (J 1))) (A2 := (va_up (va_up (va_up A 35 (A 35)) 36 (A 36)) 39 (A 39))) (B2 := (va_up (va_up B 55 (B 55)) 56 (B 56))) (G2 := G) hM (by simp only [up_id]) (by simp only [up_id]) (by simp only [up_id]) (by simp only [up_id]) (by rfl)
  have hx := F.1.1
  have hb := F.1.2.1
  have hl := lv_entry ([.ref (ad 7), .int p1]) (n := 8) (Nat.le_of_ble_eq_true rfl)
  rw [lg_entry_eq]
  generalize (lg_sl ([.ref (ad 7), .int p1]) ++ List.replicate (8 - (lg_sl ([.ref (ad 7), .int p1])).length) Slot.unset).toArray = ls at hl ⊢
  have hl : lv_has ls 8 [(0, .ref (ad 7)), (1, .int p1)] := hl
  show W p l e ({ frames := 7, cells := 0, slots := 0, locals := 168 } : Room) s m _ below meth c s.heap [] 0 0 _ _
  obtain ⟨locs, hlo⟩ : ∃ locs : List Loc, locs = [] := ⟨_, rfl⟩
  rw [← hlo]; rw [← hlo] at hM
  unfold f_X7_certificate at hE
  revert hM
  suffices hH : ∀ H : Heap, MM D y nn ad (mA y nn ad I J A B G s.heap.size) s.heap (va_up (va_up I 5 (I 5)) 7 (I 7)) (va_up J 1 (J 1)) (va_up (va_up (va_up A 35 (A 35)) 36 (A 36)) 39 (A 39)) (va_up (va_up B 55 (B 55)) 56 (B 56)) G H locs → W p l e ({ frames := 7, cells := 0, slots := 0, locals := 168 } : Room) s m ([.ref (ad 7), .int p1] : List Value).toArray below meth c H locs 0 0 (MQ below (mQi D y nn ad (mA y nn ad I J A B G s.heap.size) out.1 ((va_up (va_up I 5 out.2.1) 7 out.2.2.1), (va_up J 1 out.2.2.2.1), (va_up (va_up (va_up A 35 out.2.2.2.2.1) 36 out.2.2.2.2.2.1) 39 out.2.2.2.2.2.2.1), (va_up (va_up B 55 out.2.2.2.2.2.2.2.1) 56 out.2.2.2.2.2.2.2.2), G)) ([.ref (ad 7), .int p1] : List Value).toArray s 0 0 (mA y nn ad I J A B G s.heap.size)) (F0 m 0 ls []) from hH s.heap
  intro H hM
  refine lv_aload_n hx hb dX7_certificate_0 rfl (lv_at hl 0 rfl) ?_
  refine lv_iconst (v := 0) hx hb dX7_certificate_1 (by decide) ?_
  refine m_put F hM 7 mg_7 rfl tyX7 tyX7_ok nmX7 0 (by decide) (by decide +kernel) (by decide +kernel) rfl (ty := .int) (v := .int (0 : Int32)) (by decide +kernel) rfl rfl (Nat.le_of_ble_eq_true rfl) (ms_7_0 _) un_5_7__5  rfl dX7_certificate_2 (fun H locs hM => ?_)
  refine lv_iconst (v := 1) hx hb dX7_certificate_5 (by decide) ?_
  refine lv_istore_n (lv' := [(2, .int (1 : Int32)), (0, .ref (ad 7)), (1, .int p1)]) hx hb dX7_certificate_6 rfl hl (by decide) rfl (fun ls hl => ?_)
  refine lv_iconst (v := 2) hx hb dX7_certificate_7 (by decide) ?_
  refine lv_istore_n (lv' := [(3, .int (2 : Int32)), (2, .int (1 : Int32)), (0, .ref (ad 7)), (1, .int p1)]) hx hb dX7_certificate_8 rfl hl (by decide) rfl (fun ls hl => ?_)
  exact k_X7_certificate_9 F hr (N := N)  N p1 (1 : Int32) (2 : Int32) (0 : Int32) (I 7) (J 1) (A 35) (A 36) (A 39) (B 55) (B 56) ls H locs hE hM (lv_sub hl [2, 3, 1, 0] rfl)
