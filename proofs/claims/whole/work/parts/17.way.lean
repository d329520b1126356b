/-! ===== X5_goEachOnce: reads I0 G0, writes A31 G4, frames 1, locals 23 ===== -/
def f_X5_goEachOnce_26 (N : Nat) (nn : Nat) (i0 : Int32) (g0 : Nat → Nat → Int32) (nx12 : Int64 → Int32 → (Nat → Int32) → (Nat → Nat → Int32) → Option (Int64 × (Nat → Int32) × (Nat → Nat → Int32))) (nx26 : Int64 → Int32 → Int32 → (Nat → Int32) → (Nat → Nat → Int32) → Option (Int64 × (Nat → Int32) × (Nat → Nat → Int32))) (x1 : Int64) (x3 : Int32) (x4 : Int32) (a31' : Nat → Int32) (g4' : Nat → Nat → Int32) : Option (Int64 × (Nat → Int32) × (Nat → Nat → Int32)) :=
(if i0 ≤ x4 then
nx12 x1 (x3 + (1 : Int32)) a31' g4'
else
ck x3 nn (
ck x4 nn (
nmd (va_up g4' x3.toNatClampNeg (upd (g4' x3.toNatClampNeg) x4.toNatClampNeg (0 : Int32))) fun w47_4 =>
ck x3 nn (
ck x4 nn (
(if (g0 x3.toNatClampNeg x4.toNatClampNeg) = (-1 : Int32) then
nx26 x1 x3 (x4 + (1 : Int32)) a31' w47_4
else
ck x3 nn (
ck x3 nn (
nmd (upd a31' x3.toNatClampNeg ((a31' x3.toNatClampNeg) - (1 : Int32))) fun w73_9 =>
ck x4 nn (
ck x4 nn (
nmd (upd w73_9 x4.toNatClampNeg ((w73_9 x4.toNatClampNeg) + (1 : Int32))) fun w84_12 =>
ck x3 nn (
ck x4 nn (
nmd ((x1 + ((g0 x3.toNatClampNeg x4.toNatClampNeg).toInt64))) fun v100_15 =>
nx26 v100_15 x3 (x4 + (1 : Int32)) w84_12 w47_4))))))))))))
def f_X5_goEachOnce_12 (N : Nat) (nn : Nat) (i0 : Int32) (g0 : Nat → Nat → Int32)  (nx12 : Int64 → Int32 → (Nat → Int32) → (Nat → Nat → Int32) → Option (Int64 × (Nat → Int32) × (Nat → Nat → Int32))) (x1 : Int64) (x3 : Int32) (a31' : Nat → Int32) (g4' : Nat → Nat → Int32) : Option (Int64 × (Nat → Int32) × (Nat → Nat → Int32)) :=
(if i0 ≤ x3 then
some (x1, a31', g4')
else
lq5 (f_X5_goEachOnce_26 N nn i0 g0 nx12) N x1 x3 (0 : Int32) a31' g4')
def f_X5_goEachOnce (N : Nat) (nn : Nat) (i0 : Int32) (g0 : Nat → Nat → Int32) (a31 : Nat → Int32) (g4 : Nat → Nat → Int32)  : Option (Int64 × (Nat → Int32) × (Nat → Nat → Int32)) :=
fck nn (
nmd (fil nn (0 : Int32) a31) fun w5_0 =>
lq4 (f_X5_goEachOnce_12 N nn i0 g0 ) N (0 : Int64) (0 : Int32) w5_0 g4)
set_option maxHeartbeats 4000000 in
set_option maxRecDepth 100000 in
theorem s_X5_goEachOnce_26 {p : Program} {l : Launch} {e : Env} {s : State} {m : MethodId} {args : Array Value} {below : List Frame} {meth : Method} {c : Code} {D : va_G} {y : Nat → ClassId} {nn : Nat} {ad : Nat → Nat} {A0 : Nat → Prop} {I : Nat → Int32} {J : Nat → Int64} {A : Nat → Nat → Int32} {B : Nat → Nat → Int64} {G : Nat → Nat → Nat → Int32} (F : Fx p s m args meth c cX5_goEachOnce 5 wsX5_goEachOnce RX5 D y A0) (hr : meth.sig.returnType = (some .long)) {out : Int64 × (Nat → Int32) × (Nat → Nat → Int32)} {N : Nat} (nx12 : Int64 → Int32 → (Nat → Int32) → (Nat → Nat → Int32) → Option (Int64 × (Nat → Int32) × (Nat → Nat → Int32))) (hn12 : ∀ (x1 : Int64) (x3 : Int32) (a31' : Nat → Int32) (g4' : Nat → Nat → Int32) (ls : Array Slot) (H : Heap) (locs : List Loc), nx12 x1 x3 a31' g4' = some out → MM D y nn ad A0 s.heap I J (va_up A 31 a31') B (va_up G 4 g4') H locs → lv_has ls 5 [(0, .ref (ad 6)), (1, .long x1), (3, .int x3)] → W p l e ({ frames := 1, cells := 0, slots := 0, locals := 23 } : Room) s m args below meth c H locs 0 0 (MQ below (mQl D y nn ad A0 out.1 (I, J, (va_up A 31 out.2.1), B, (va_up G 4 out.2.2))) args s 0 0 A0) (F0 m 12 ls [])) (nx26 : Int64 → Int32 → Int32 → (Nat → Int32) → (Nat → Nat → Int32) → Option (Int64 × (Nat → Int32) × (Nat → Nat → Int32))) (hn26 : ∀ (x1 : Int64) (x3 : Int32) (x4 : Int32) (a31' : Nat → Int32) (g4' : Nat → Nat → Int32) (ls : Array Slot) (H : Heap) (locs : List Loc), nx26 x1 x3 x4 a31' g4' = some out → MM D y nn ad A0 s.heap I J (va_up A 31 a31') B (va_up G 4 g4') H locs → lv_has ls 5 [(0, .ref (ad 6)), (1, .long x1), (3, .int x3), (4, .int x4)] → W p l e ({ frames := 1, cells := 0, slots := 0, locals := 23 } : Room) s m args below meth c H locs 0 0 (MQ below (mQl D y nn ad A0 out.1 (I, J, (va_up A 31 out.2.1), B, (va_up G 4 out.2.2))) args s 0 0 A0) (F0 m 26 ls [])) : ∀ (x1 : Int64) (x3 : Int32) (x4 : Int32) (a31' : Nat → Int32) (g4' : Nat → Nat → Int32) (ls : Array Slot) (H : Heap) (locs : List Loc), f_X5_goEachOnce_26 N nn (I 0) (G 0) nx12 nx26 x1 x3 x4 a31' g4' = some out → MM D y nn ad A0 s.heap I J (va_up A 31 a31') B (va_up G 4 g4') H locs → lv_has ls 5 [(0, .ref (ad 6)), (1, .long x1), (3, .int x3), (4, .int x4)] → W p l e ({ frames := 1, cells := 0, slots := 0, locals := 23 } : Room) s m args below meth c H locs 0 0 (MQ below (mQl D y nn ad A0 out.1 (I, J, (va_up A 31 out.2.1), B, (va_up G 4 out.2.2))) args s 0 0 A0) (F0 m 26 ls []) := by
  intro x1 x3 x4 a31' g4' ls H locs hE hM hl
  have hx := F.1.1
  have hb := F.1.2.1
  unfold f_X5_goEachOnce_26 at hE
  refine lv_iload hx hb dX5_goEachOnce_26 (lv_at hl 3 rfl) ?_
  refine lv_aload_n hx hb dX5_goEachOnce_28 rfl (lv_at hl 0 rfl) ?_
  refine m_get F hM 6 mg_6 rfl 0 (by decide) (by decide +kernel) (by decide +kernel) (v := .ref (ad 1)) rfl dX5_goEachOnce_29 ?_
  refine m_getN F hM 1 mg_1 rfl 0 (by decide) (by decide +kernel) (by decide +kernel) (v := .int (I 0)) rfl dX5_goEachOnce_32 ?_
  refine lv_icmp_ge (tgt := 107) hx hb dX5_goEachOnce_35 (by decide) (fun c35 => ?_) (fun c35 => ?_)
  · replace hE := (if_pos c35).symm.trans hE
    refine lv_iinc (v := x3 + (1 : Int32)) (lv' := [(3, .int (x3 + (1 : Int32))), (0, .ref (ad 6)), (1, .long x1), (4, .int x4)]) hx hb dX5_goEachOnce_107 hl (k := 2) rfl rfl (by decide) rfl (fun ls hl => ?_)
    refine lv_goto (tgt := 12) hx hb dX5_goEachOnce_110 (by decide) ?_
    exact hn12 x1 (x3 + (1 : Int32)) a31' g4' ls H locs hE hM (lv_sub hl [1, 2, 0] rfl)
  · replace hE := (if_neg c35).symm.trans hE
    refine lv_aload_n hx hb dX5_goEachOnce_38 rfl (lv_at hl 0 rfl) ?_
    refine m_get F hM 6 mg_6 rfl 1 (by decide) (by decide +kernel) (by decide +kernel) (v := .ref (ad 12)) rfl dX5_goEachOnce_39 ?_
    refine lv_iload_n hx hb dX5_goEachOnce_42 rfl (lv_at hl 2 rfl) ?_
    obtain ⟨hi43_2, hE⟩ := ck_some hE
    refine m_aald F hM mg_12 hi43_2 dX5_goEachOnce_43 ?_
    refine lv_iload hx hb dX5_goEachOnce_44 (lv_at hl 3 rfl) ?_
    refine lv_iconst (v := 0) hx hb dX5_goEachOnce_46 (by decide) ?_
    obtain ⟨hi47_3, hE⟩ := ck_some hE
    obtain ⟨w47_4, ew47_4, hE⟩ := nmd_some hE
    refine m_rast (M := g4') (G' := (va_up G 4 w47_4)) F hM (by decide) (vp_lt hi43_2) rfl (by rw [ew47_4]; exact (bx_uu _ _ _ _)) hi47_3 dX5_goEachOnce_47 (fun H locs hM => ?_)
    refine lv_aload_n hx hb dX5_goEachOnce_48 rfl (lv_at hl 0 rfl) ?_
    refine m_get F hM 6 mg_6 rfl 0 (by decide) (by decide +kernel) (by decide +kernel) (v := .ref (ad 1)) rfl dX5_goEachOnce_49 ?_
    refine m_getN F hM 1 mg_1 rfl 1 (by decide) (by decide +kernel) (by decide +kernel) (v := .ref (ad 8)) rfl dX5_goEachOnce_52 ?_
    refine lv_iload_n hx hb dX5_goEachOnce_55 rfl (lv_at hl 2 rfl) ?_
    obtain ⟨hi56_5, hE⟩ := ck_some hE
    refine m_aald F hM mg_8 hi56_5 dX5_goEachOnce_56 ?_
    refine lv_iload hx hb dX5_goEachOnce_57 (lv_at hl 3 rfl) ?_
    obtain ⟨hi59_6, hE⟩ := ck_some hE
    refine m_rald (M := (G 0)) F hM (by decide) (vp_lt hi56_5) rfl hi59_6 dX5_goEachOnce_59 ?_
    refine lv_iconst (v := (-1)) hx hb dX5_goEachOnce_60 (by decide) ?_
    refine lv_icmp_eq (tgt := 101) hx hb dX5_goEachOnce_61 (by decide) (fun c61 => ?_) (fun c61 => ?_)
    · replace hE := (if_pos c61).symm.trans hE
      refine lv_iinc (v := x4 + (1 : Int32)) (lv' := [(4, .int (x4 + (1 : Int32))), (0, .ref (ad 6)), (1, .long x1), (3, .int x3)]) hx hb dX5_goEachOnce_101 hl (k := 3) rfl rfl (by decide) rfl (fun ls hl => ?_)
      refine lv_goto (tgt := 26) hx hb dX5_goEachOnce_104 (by decide) ?_
      exact hn26 x1 x3 (x4 + (1 : Int32)) a31' w47_4 ls H locs hE hM (lv_sub hl [1, 2, 3, 0] rfl)
    · replace hE := (if_neg c61).symm.trans hE
      refine lv_aload_n hx hb dX5_goEachOnce_64 rfl (lv_at hl 0 rfl) ?_
      refine m_get F hM 6 mg_6 rfl 2 (by decide) (by decide +kernel) (by decide +kernel) (v := .ref (ad 31)) rfl dX5_goEachOnce_65 ?_
      refine lv_iload_n hx hb dX5_goEachOnce_68 rfl (lv_at hl 2 rfl) ?_
      refine lv_dup2_11 hx hb dX5_goEachOnce_69 rfl rfl ?_
      obtain ⟨hi70_7, hE⟩ := ck_some hE
      refine m_iald (g := a31') F hM mg_31 rfl hi70_7 dX5_goEachOnce_70 ?_
      refine lv_iconst (v := 1) hx hb dX5_goEachOnce_71 (by decide) ?_
      refine lv_isub hx hb dX5_goEachOnce_72 ?_
      obtain ⟨hi73_8, hE⟩ := ck_some hE
      obtain ⟨w73_9, ew73_9, hE⟩ := nmd_some hE
      refine m_iast (f := a31') (A' := (va_up A 31 w73_9)) F hM mg_31 ms_31 (by rw [ew73_9]; exact (bx_uu _ _ _ _)) hi73_8 dX5_goEachOnce_73 (fun H locs hM => ?_)
      refine lv_aload_n hx hb dX5_goEachOnce_74 rfl (lv_at hl 0 rfl) ?_
      refine m_get F hM 6 mg_6 rfl 2 (by decide) (by decide +kernel) (by decide +kernel) (v := .ref (ad 31)) rfl dX5_goEachOnce_75 ?_
      refine lv_iload hx hb dX5_goEachOnce_78 (lv_at hl 3 rfl) ?_
      refine lv_dup2_11 hx hb dX5_goEachOnce_80 rfl rfl ?_
      obtain ⟨hi81_10, hE⟩ := ck_some hE
      refine m_iald (g := w73_9) F hM mg_31 rfl hi81_10 dX5_goEachOnce_81 ?_
      refine lv_iconst (v := 1) hx hb dX5_goEachOnce_82 (by decide) ?_
      refine lv_iadd hx hb dX5_goEachOnce_83 ?_
      obtain ⟨hi84_11, hE⟩ := ck_some hE
      obtain ⟨w84_12, ew84_12, hE⟩ := nmd_some hE
      refine m_iast (f := w73_9) (A' := (va_up A 31 w84_12)) F hM mg_31 ms_31 (by rw [ew84_12]; exact (bx_uu _ _ _ _)) hi84_11 dX5_goEachOnce_84 (fun H locs hM => ?_)
      refine lv_lload_n hx hb dX5_goEachOnce_85 rfl (lv_at hl 1 rfl) ?_
      refine lv_aload_n hx hb dX5_goEachOnce_86 rfl (lv_at hl 0 rfl) ?_
      refine m_get F hM 6 mg_6 rfl 0 (by decide) (by decide +kernel) (by decide +kernel) (v := .ref (ad 1)) rfl dX5_goEachOnce_87 ?_
      refine m_getN F hM 1 mg_1 rfl 1 (by decide) (by decide +kernel) (by decide +kernel) (v := .ref (ad 8)) rfl dX5_goEachOnce_90 ?_
      refine lv_iload_n hx hb dX5_goEachOnce_93 rfl (lv_at hl 2 rfl) ?_
      obtain ⟨hi94_13, hE⟩ := ck_some hE
      refine m_aald F hM mg_8 hi94_13 dX5_goEachOnce_94 ?_
      refine lv_iload hx hb dX5_goEachOnce_95 (lv_at hl 3 rfl) ?_
      obtain ⟨hi97_14, hE⟩ := ck_some hE
      refine m_rald (M := (G 0)) F hM (by decide) (vp_lt hi94_13) rfl hi97_14 dX5_goEachOnce_97 ?_
      refine lv_i2l hx hb dX5_goEachOnce_98 rfl ?_
      refine lv_ladd hx hb dX5_goEachOnce_99 ?_
      obtain ⟨v100_15, ev100_15, hE⟩ := nmd_some hE
      refine m_topl ev100_15 ?_
      refine lv_lstore_n (lv' := [(1, .long v100_15), (0, .ref (ad 6)), (3, .int x3), (4, .int x4)]) hx hb dX5_goEachOnce_100 rfl hl (by decide) rfl (fun ls hl => ?_)
      refine lv_iinc (v := x4 + (1 : Int32)) (lv' := [(4, .int (x4 + (1 : Int32))), (1, .long v100_15), (0, .ref (ad 6)), (3, .int x3)]) hx hb dX5_goEachOnce_101 hl (k := 3) rfl rfl (by decide) rfl (fun ls hl => ?_)
      refine lv_goto (tgt := 26) hx hb dX5_goEachOnce_104 (by decide) ?_
      exact hn26 v100_15 x3 (x4 + (1 : Int32)) w84_12 w47_4 ls H locs hE hM (lv_sub hl [2, 1, 3, 0] rfl)
theorem k_X5_goEachOnce_26 {p : Program} {l : Launch} {e : Env} {s : State} {m : MethodId} {args : Array Value} {below : List Frame} {meth : Method} {c : Code} {D : va_G} {y : Nat → ClassId} {nn : Nat} {ad : Nat → Nat} {A0 : Nat → Prop} {I : Nat → Int32} {J : Nat → Int64} {A : Nat → Nat → Int32} {B : Nat → Nat → Int64} {G : Nat → Nat → Nat → Int32} (F : Fx p s m args meth c cX5_goEachOnce 5 wsX5_goEachOnce RX5 D y A0) (hr : meth.sig.returnType = (some .long)) {out : Int64 × (Nat → Int32) × (Nat → Nat → Int32)} {N : Nat} (nx12 : Int64 → Int32 → (Nat → Int32) → (Nat → Nat → Int32) → Option (Int64 × (Nat → Int32) × (Nat → Nat → Int32))) (hn12 : ∀ (x1 : Int64) (x3 : Int32) (a31' : Nat → Int32) (g4' : Nat → Nat → Int32) (ls : Array Slot) (H : Heap) (locs : List Loc), nx12 x1 x3 a31' g4' = some out → MM D y nn ad A0 s.heap I J (va_up A 31 a31') B (va_up G 4 g4') H locs → lv_has ls 5 [(0, .ref (ad 6)), (1, .long x1), (3, .int x3)] → W p l e ({ frames := 1, cells := 0, slots := 0, locals := 23 } : Room) s m args below meth c H locs 0 0 (MQ below (mQl D y nn ad A0 out.1 (I, J, (va_up A 31 out.2.1), B, (va_up G 4 out.2.2))) args s 0 0 A0) (F0 m 12 ls [])) : ∀ (n : Nat), ∀ (x1 : Int64) (x3 : Int32) (x4 : Int32) (a31' : Nat → Int32) (g4' : Nat → Nat → Int32) (ls : Array Slot) (H : Heap) (locs : List Loc), lq5 (f_X5_goEachOnce_26 N nn (I 0) (G 0) nx12) n x1 x3 x4 a31' g4' = some out → MM D y nn ad A0 s.heap I J (va_up A 31 a31') B (va_up G 4 g4') H locs → lv_has ls 5 [(0, .ref (ad 6)), (1, .long x1), (3, .int x3), (4, .int x4)] → W p l e ({ frames := 1, cells := 0, slots := 0, locals := 23 } : Room) s m args below meth c H locs 0 0 (MQ below (mQl D y nn ad A0 out.1 (I, J, (va_up A 31 out.2.1), B, (va_up G 4 out.2.2))) args s 0 0 A0) (F0 m 26 ls []) := by
  intro n
  induction n with
  | zero =>
    intro x1 x3 x4 a31' g4' ls H locs hE
    cases (show (none : Option _) = some out from hE)
  | succ n ih =>
    intro x1 x3 x4 a31' g4' ls H locs hE hM hl
    exact s_X5_goEachOnce_26 F hr (N := N) nx12 hn12 (lq5 (f_X5_goEachOnce_26 N nn (I 0) (G 0) nx12) n) ih x1 x3 x4 a31' g4' ls H locs hE hM hl
set_option maxHeartbeats 4000000 in
set_option maxRecDepth 100000 in
theorem s_X5_goEachOnce_12 {p : Program} {l : Launch} {e : Env} {s : State} {m : MethodId} {args : Array Value} {below : List Frame} {meth : Method} {c : Code} {D : va_G} {y : Nat → ClassId} {nn : Nat} {ad : Nat → Nat} {A0 : Nat → Prop} {I : Nat → Int32} {J : Nat → Int64} {A : Nat → Nat → Int32} {B : Nat → Nat → Int64} {G : Nat → Nat → Nat → Int32} (F : Fx p s m args meth c cX5_goEachOnce 5 wsX5_goEachOnce RX5 D y A0) (hr : meth.sig.returnType = (some .long)) {out : Int64 × (Nat → Int32) × (Nat → Nat → Int32)} {N : Nat}  (nx12 : Int64 → Int32 → (Nat → Int32) → (Nat → Nat → Int32) → Option (Int64 × (Nat → Int32) × (Nat → Nat → Int32))) (hn12 : ∀ (x1 : Int64) (x3 : Int32) (a31' : Nat → Int32) (g4' : Nat → Nat → Int32) (ls : Array Slot) (H : Heap) (locs : List Loc), nx12 x1 x3 a31' g4' = some out → MM D y nn ad A0 s.heap I J (va_up A 31 a31') B (va_up G 4 g4') H locs → lv_has ls 5 [(0, .ref (ad 6)), (1, .long x1), (3, .int x3)] → W p l e ({ frames := 1, cells := 0, slots := 0, locals := 23 } : Room) s m args below meth c H locs 0 0 (MQ below (mQl D y nn ad A0 out.1 (I, J, (va_up A 31 out.2.1), B, (va_up G 4 out.2.2))) args s 0 0 A0) (F0 m 12 ls [])) : ∀ (x1 : Int64) (x3 : Int32) (a31' : Nat → Int32) (g4' : Nat → Nat → Int32) (ls : Array Slot) (H : Heap) (locs : List Loc), f_X5_goEachOnce_12 N nn (I 0) (G 0)  nx12 x1 x3 a31' g4' = some out → MM D y nn ad A0 s.heap I J (va_up A 31 a31') B (va_up G 4 g4') H locs → lv_has ls 5 [(0, .ref (ad 6)), (1, .long x1), (3, .int x3)] → W p l e ({ frames := 1, cells := 0, slots := 0, locals := 23 } : Room) s m args below meth c H locs 0 0 (MQ below (mQl D y nn ad A0 out.1 (I, J, (va_up A 31 out.2.1), B, (va_up G 4 out.2.2))) args s 0 0 A0) (F0 m 12 ls []) := by
  intro x1 x3 a31' g4' ls H locs hE hM hl
  have hx := F.1.1
  have hb := F.1.2.1
  unfold f_X5_goEachOnce_12 at hE
  refine lv_iload_n hx hb dX5_goEachOnce_12 rfl (lv_at hl 2 rfl) ?_
  refine lv_aload_n hx hb dX5_goEachOnce_13 rfl (lv_at hl 0 rfl) ?_
  refine m_get F hM 6 mg_6 rfl 0 (by decide) (by decide +kernel) (by decide +kernel) (v := .ref (ad 1)) rfl dX5_goEachOnce_14 ?_
  refine m_getN F hM 1 mg_1 rfl 0 (by decide) (by decide +kernel) (by decide +kernel) (v := .int (I 0)) rfl dX5_goEachOnce_17 ?_
  refine lv_icmp_ge (tgt := 113) hx hb dX5_goEachOnce_20 (by decide) (fun c20 => ?_) (fun c20 => ?_)
  · replace hE := (if_pos c20).symm.trans hE
    refine lv_lload_n hx hb dX5_goEachOnce_113 rfl (lv_at hl 1 rfl) ?_
    obtain rfl := Option.some.inj hE
    exact m_lret F hM hr rfl rfl dX5_goEachOnce_114
  · replace hE := (if_neg c20).symm.trans hE
    refine lv_iconst (v := 0) hx hb dX5_goEachOnce_23 (by decide) ?_
    refine lv_istore (lv' := [(4, .int (0 : Int32)), (0, .ref (ad 6)), (1, .long x1), (3, .int x3)]) hx hb dX5_goEachOnce_24 hl (by decide) rfl (fun ls hl => ?_)
    exact k_X5_goEachOnce_26 F hr (N := N) nx12 hn12 N x1 x3 (0 : Int32) a31' g4' ls H locs hE hM (lv_sub hl [1, 2, 3, 0] rfl)
theorem k_X5_goEachOnce_12 {p : Program} {l : Launch} {e : Env} {s : State} {m : MethodId} {args : Array Value} {below : List Frame} {meth : Method} {c : Code} {D : va_G} {y : Nat → ClassId} {nn : Nat} {ad : Nat → Nat} {A0 : Nat → Prop} {I : Nat → Int32} {J : Nat → Int64} {A : Nat → Nat → Int32} {B : Nat → Nat → Int64} {G : Nat → Nat → Nat → Int32} (F : Fx p s m args meth c cX5_goEachOnce 5 wsX5_goEachOnce RX5 D y A0) (hr : meth.sig.returnType = (some .long)) {out : Int64 × (Nat → Int32) × (Nat → Nat → Int32)} {N : Nat}  : ∀ (n : Nat), ∀ (x1 : Int64) (x3 : Int32) (a31' : Nat → Int32) (g4' : Nat → Nat → Int32) (ls : Array Slot) (H : Heap) (locs : List Loc), lq4 (f_X5_goEachOnce_12 N nn (I 0) (G 0) ) n x1 x3 a31' g4' = some out → MM D y nn ad A0 s.heap I J (va_up A 31 a31') B (va_up G 4 g4') H locs → lv_has ls 5 [(0, .ref (ad 6)), (1, .long x1), (3, .int x3)] → W p l e ({ frames := 1, cells := 0, slots := 0, locals := 23 } : Room) s m args below meth c H locs 0 0 (MQ below (mQl D y nn ad A0 out.1 (I, J, (va_up A 31 out.2.1), B, (va_up G 4 out.2.2))) args s 0 0 A0) (F0 m 12 ls []) := by
  intro n
  induction n with
  | zero =>
    intro x1 x3 a31' g4' ls H locs hE
    cases (show (none : Option _) = some out from hE)
  | succ n ih =>
    intro x1 x3 a31' g4' ls H locs hE hM hl
    exact s_X5_goEachOnce_12 F hr (N := N)  (lq4 (f_X5_goEachOnce_12 N nn (I 0) (G 0) ) n) ih x1 x3 a31' g4' ls H locs hE hM hl
set_option maxHeartbeats 4000000 in
set_option maxRecDepth 100000 in
theorem c_X5_goEachOnce (l : Launch) (D : va_G) (y : Nat → ClassId) (nn : Nat) (ad : Nat → Nat) (sz : Nat) (I : Nat → Int32) (J : Nat → Int64) (A : Nat → Nat → Int32) (B : Nat → Nat → Int64) (G : Nat → Nat → Nat → Int32)  (N : Nat) (out : Int64 × (Nat → Int32) × (Nat → Nat → Int32)) (hE : f_X5_goEachOnce N nn (I 0) (G 0) (A 31) (G 4)  = some out) : Met l yX5_goEachOnce wsX5_goEachOnce ({ frames := 1, cells := 0, slots := 0, locals := 23 } : Room) (mPc [.ref (ad 6)] D y nn ad sz I J A B G) (mQl D y nn ad (mA y nn ad I J A B G sz) out.1 (I, J, (va_up A 31 out.2.1), B, (va_up G 4 out.2.2))) 0 0 (mA y nn ad I J A B G sz) := by
  refine Met.ofW (cc := cX5_goEachOnce) (maxL := 5) (ret := (some .long)) (by decide) rfl ?_
  intro p e s m args below meth c s₁ Bd hml hv
  obtain ⟨rfl, hsz, hP, hK, hD0, hN⟩ := hv
  have hr := Bd.returns
  subst hsz
  have F : Fx p s m ([.ref (ad 6)] : List Value).toArray meth c cX5_goEachOnce 5 wsX5_goEachOnce RX5 D y (mA y nn ad I J A B G s.heap.size) := ⟨⟨Bd.exec, Bd.bytes, hml, findClass_of_methodNamed Bd.named, atoms_spec (ws := wsX5_goEachOnce) Bd.pre⟩, hK, hN, fun q h => Or.inr h, Bd.notSynchronized⟩
  have hM := m_start (s := s) rfl hP hD0
  have hM := m_mem (I2 := I) (J2 := J) (A2 := (va_up A 31 (A 31))) (B2 := B) (G2 := (va_up G 4 (G 4))) hM (by rfl) (by rfl) (by simp only [up_id]) (by rfl) (by simp only [up_id])
  have hx := F.1.1
  have hb := F.1.2.1
  have hl := lv_entry ([.ref (ad 6)]) (n := 5) (Nat.le_of_ble_eq_true rfl)
  rw [lg_entry_eq]
  generalize (lg_sl ([.ref (ad 6)]) ++ List.replicate (5 - (lg_sl ([.ref (ad 6)])).length) Slot.unset).toArray = ls at hl ⊢
  have hl : lv_has ls 5 [(0, .ref (ad 6))] := hl
  show W p l e ({ frames := 1, cells := 0, slots := 0, locals := 23 } : Room) s m _ below meth c s.heap [] 0 0 _ _
  obtain ⟨locs, hlo⟩ : ∃ locs : List Loc, locs = [] := ⟨_, rfl⟩
  rw [← hlo]; rw [← hlo] at hM
  unfold f_X5_goEachOnce at hE
  revert hM
  suffices hH : ∀ H : Heap, MM D y nn ad (mA y nn ad I J A B G s.heap.size) s.heap I J (va_up A 31 (A 31)) B (va_up G 4 (G 4)) H locs → W p l e ({ frames := 1, cells := 0, slots := 0, locals := 23 } : Room) s m ([.ref (ad 6)] : List Value).toArray below meth c H locs 0 0 (MQ below (mQl D y nn ad (mA y nn ad I J A B G s.heap.size) out.1 (I, J, (va_up A 31 out.2.1), B, (va_up G 4 out.2.2))) ([.ref (ad 6)] : List Value).toArray s 0 0 (mA y nn ad I J A B G s.heap.size)) (F0 m 0 ls []) from hH s.heap
  intro H hM
  refine lv_aload_n hx hb dX5_goEachOnce_0 rfl (lv_at hl 0 rfl) ?_
  refine m_get F hM 6 mg_6 rfl 2 (by decide) (by decide +kernel) (by decide +kernel) (v := .ref (ad 31)) rfl dX5_goEachOnce_1 ?_
  refine lv_iconst (v := 0) hx hb dX5_goEachOnce_4 (by decide) ?_
  obtain ⟨hf5_1, hE⟩ := fck_some hE
  obtain ⟨w5_0, ew5_0, hE⟩ := nmd_some hE
  refine m_callSv (As := [.ref (ad 31), .int (0 : Int32)]) (A2 := (va_up A 31 w5_0)) (B2 := B) F hM (c_J7_fill_53178 l D y nn ad H.size _ _ _ _ _ hf5_1 (fun _ => mg_31) (fun _ f1 => ms_31 f1) (0 : Int32)) (va_cwS 2 F.1.2.2.2.2 gX5_goEachOnce_J7_fill_53178 rfl rfl rfl (by decide +kernel) ⟨Nat.le_of_ble_eq_true rfl, Nat.le_of_ble_eq_true rfl⟩) rfl hl.1 (Nat.le_of_ble_eq_true rfl) dX5_goEachOnce_5 ⟨Nat.le_refl 0, Nat.le_refl 0⟩ rfl rfl (by rw [ew5_0]; exact (bx_uu _ _ _ _)) rfl rfl (fun H locs hM => ?_)
  refine lv_lconst (v := 0) hx hb dX5_goEachOnce_8 (by decide) ?_
  refine lv_lstore_n (lv' := [(1, .long (0 : Int64)), (0, .ref (ad 6))]) hx hb dX5_goEachOnce_9 rfl hl (by decide) rfl (fun ls hl => ?_)
  refine lv_iconst (v := 0) hx hb dX5_goEachOnce_10 (by decide) ?_
  refine lv_istore_n (lv' := [(3, .int (0 : Int32)), (1, .long (0 : Int64)), (0, .ref (ad 6))]) hx hb dX5_goEachOnce_11 rfl hl (by decide) rfl (fun ls hl => ?_)
  exact k_X5_goEachOnce_12 F hr (N := N)  N (0 : Int64) (0 : Int32) w5_0 (G 4) ls H locs hE hM (lv_sub hl [2, 1, 0] rfl)
/-! ===== X5_costOfStep: reads G0 G4, writes , frames 0, locals 0 ===== -/
def f_X5_costOfStep (nn : Nat) (g0 : Nat → Nat → Int32) (g4 : Nat → Nat → Int32)  (p1 : Int32) (p2 : Int32) : Option (Int64) :=
ck p2 nn (
ck p1 nn (
(if (g4 p2.toNatClampNeg p1.toNatClampNeg) ≤ (0 : Int32) then
ck p1 nn (
ck p2 nn (
(if (g0 p1.toNatClampNeg p2.toNatClampNeg) = (-1 : Int32) then
some (1000000000000 : Int64)
else
ck p1 nn (
ck p2 nn (
some ((g0 p1.toNatClampNeg p2.toNatClampNeg).toInt64))))))
else
ck p2 nn (
ck p1 nn (
some ((-(g0 p2.toNatClampNeg p1.toNatClampNeg)).toInt64))))))
set_option maxHeartbeats 4000000 in
set_option maxRecDepth 100000 in
theorem c_X5_costOfStep (l : Launch) (D : va_G) (y : Nat → ClassId) (nn : Nat) (ad : Nat → Nat) (sz : Nat) (I : Nat → Int32) (J : Nat → Int64) (A : Nat → Nat → Int32) (B : Nat → Nat → Int64) (G : Nat → Nat → Nat → Int32) (p1 : Int32) (p2 : Int32)  (out : Int64) (hE : f_X5_costOfStep nn (G 0) (G 4)  p1 p2 = some out) : Met l yX5_costOfStep wsX5_costOfStep ({ frames := 0, cells := 0, slots := 0, locals := 0 } : Room) (mPc [.ref (ad 6), .int p1, .int p2] D y nn ad sz I J A B G) (mQl D y nn ad (mA y nn ad I J A B G sz) out (I, J, A, B, G)) 0 0 (mA y nn ad I J A B G sz) := by
  refine Met.ofW (cc := cX5_costOfStep) (maxL := 3) (ret := (some .long)) (by decide) rfl ?_
  intro p e s m args below meth c s₁ Bd hml hv
  obtain ⟨rfl, hsz, hP, hK, hD0, hN⟩ := hv
  have hr := Bd.returns
  subst hsz
  have F : Fx p s m ([.ref (ad 6), .int p1, .int p2] : List Value).toArray meth c cX5_costOfStep 3 wsX5_costOfStep RX5 D y (mA y nn ad I J A B G s.heap.size) := ⟨⟨Bd.exec, Bd.bytes, hml, findClass_of_methodNamed Bd.named, atoms_spec (ws := wsX5_costOfStep) Bd.pre⟩, hK, hN, fun q h => Or.inr h, Bd.notSynchronized⟩
  have hM := m_start (s := s) rfl hP hD0
  have hM := m_mem (I2 := I) (J2 := J) (A2 := A) (B2 := B) (G2 := G) hM (by rfl) (by rfl) (by rfl) (by rfl) (by rfl)
  have hx := F.1.1
  have hb := F.1.2.1
  have hl := lv_entry ([.ref (ad 6), .int p1, .int p2]) (n := 3) (Nat.le_of_ble_eq_true rfl)
  rw [lg_entry_eq]
  generalize (lg_sl ([.ref (ad 6), .int p1, .int p2]) ++ List.replicate (3 - (lg_sl ([.ref (ad 6), .int p1, .int p2])).length) Slot.unset).toArray = ls at hl ⊢
  have hl : lv_has ls 3 [(0, .ref (ad 6)), (1, .int p1), (2, .int p2)] := hl
  show W p l e ({ frames := 0, cells := 0, slots := 0, locals := 0 } : Room) s m _ below meth c s.heap [] 0 0 _ _
  obtain ⟨locs, hlo⟩ : ∃ locs : List Loc, locs = [] := ⟨_, rfl⟩
  rw [← hlo]; rw [← hlo] at hM
  unfold f_X5_costOfStep at hE
  revert hM
  suffices hH : ∀ H : Heap, MM D y nn ad (mA y nn ad I J A B G s.heap.size) s.heap I J A B G H locs → W p l e ({ frames := 0, cells := 0, slots := 0, locals := 0 } : Room) s m ([.ref (ad 6), .int p1, .int p2] : List Value).toArray below meth c H locs 0 0 (MQ below (mQl D y nn ad (mA y nn ad I J A B G s.heap.size) out (I, J, A, B, G)) ([.ref (ad 6), .int p1, .int p2] : List Value).toArray s 0 0 (mA y nn ad I J A B G s.heap.size)) (F0 m 0 ls []) from hH s.heap
  intro H hM
  refine lv_aload_n hx hb dX5_costOfStep_0 rfl (lv_at hl 0 rfl) ?_
  refine m_get F hM 6 mg_6 rfl 1 (by decide) (by decide +kernel) (by decide +kernel) (v := .ref (ad 12)) rfl dX5_costOfStep_1 ?_
  refine lv_iload_n hx hb dX5_costOfStep_4 rfl (lv_at hl 2 rfl) ?_
  obtain ⟨hi5_0, hE⟩ := ck_some hE
  refine m_aald F hM mg_12 hi5_0 dX5_costOfStep_5 ?_
  refine lv_iload_n hx hb dX5_costOfStep_6 rfl (lv_at hl 1 rfl) ?_
  obtain ⟨hi7_1, hE⟩ := ck_some hE
  refine m_rald (M := (G 4)) F hM (by decide) (vp_lt hi5_0) rfl hi7_1 dX5_costOfStep_7 ?_
  refine lv_if_le (tgt := 25) hx hb dX5_costOfStep_8 (by decide) (fun c8 => ?_) (fun c8 => ?_)
  · replace hE := (if_pos c8).symm.trans hE
    refine lv_aload_n hx hb dX5_costOfStep_25 rfl (lv_at hl 0 rfl) ?_
    refine m_get F hM 6 mg_6 rfl 0 (by decide) (by decide +kernel) (by decide +kernel) (v := .ref (ad 1)) rfl dX5_costOfStep_26 ?_
    refine m_getN F hM 1 mg_1 rfl 1 (by decide) (by decide +kernel) (by decide +kernel) (v := .ref (ad 8)) rfl dX5_costOfStep_29 ?_
    refine lv_iload_n hx hb dX5_costOfStep_32 rfl (lv_at hl 1 rfl) ?_
    obtain ⟨hi33_2, hE⟩ := ck_some hE
    refine m_aald F hM mg_8 hi33_2 dX5_costOfStep_33 ?_
    refine lv_iload_n hx hb dX5_costOfStep_34 rfl (lv_at hl 2 rfl) ?_
    obtain ⟨hi35_3, hE⟩ := ck_some hE
    refine m_rald (M := (G 0)) F hM (by decide) (vp_lt hi33_2) rfl hi35_3 dX5_costOfStep_35 ?_
    refine lv_iconst (v := (-1)) hx hb dX5_costOfStep_36 (by decide) ?_
    refine lv_icmp_ne (tgt := 46) hx hb dX5_costOfStep_37 (by decide) (fun c37 => ?_) (fun c37 => ?_)
    · replace hE := (if_neg c37).symm.trans hE
      refine lv_aload_n hx hb dX5_costOfStep_46 rfl (lv_at hl 0 rfl) ?_
      refine m_get F hM 6 mg_6 rfl 0 (by decide) (by decide +kernel) (by decide +kernel) (v := .ref (ad 1)) rfl dX5_costOfStep_47 ?_
      refine m_getN F hM 1 mg_1 rfl 1 (by decide) (by decide +kernel) (by decide +kernel) (v := .ref (ad 8)) rfl dX5_costOfStep_50 ?_
      refine lv_iload_n hx hb dX5_costOfStep_53 rfl (lv_at hl 1 rfl) ?_
      obtain ⟨hi54_4, hE⟩ := ck_some hE
      refine m_aald F hM mg_8 hi54_4 dX5_costOfStep_54 ?_
      refine lv_iload_n hx hb dX5_costOfStep_55 rfl (lv_at hl 2 rfl) ?_
      obtain ⟨hi56_5, hE⟩ := ck_some hE
      refine m_rald (M := (G 0)) F hM (by decide) (vp_lt hi54_4) rfl hi56_5 dX5_costOfStep_56 ?_
      refine lv_i2l hx hb dX5_costOfStep_57 rfl ?_
      obtain rfl := Option.some.inj hE
      exact m_lret F hM hr rfl rfl dX5_costOfStep_58
    · replace hE := (if_pos c37).symm.trans hE
      refine lv_ldc2 (v := (1000000000000)) hx hb F.1.2.2.2.1 (F.1.2.2.2.2 (.constantLong RX5 67 (1000000000000)) (by decide +kernel)) dX5_costOfStep_40 ?_
      refine lv_goto (tgt := 58) hx hb dX5_costOfStep_43 (by decide) ?_
      obtain rfl := Option.some.inj hE
      exact m_lret F hM hr rfl rfl dX5_costOfStep_58
  · replace hE := (if_neg c8).symm.trans hE
    refine lv_aload_n hx hb dX5_costOfStep_11 rfl (lv_at hl 0 rfl) ?_
    refine m_get F hM 6 mg_6 rfl 0 (by decide) (by decide +kernel) (by decide +kernel) (v := .ref (ad 1)) rfl dX5_costOfStep_12 ?_
    refine m_getN F hM 1 mg_1 rfl 1 (by decide) (by decide +kernel) (by decide +kernel) (v := .ref (ad 8)) rfl dX5_costOfStep_15 ?_
    refine lv_iload_n hx hb dX5_costOfStep_18 rfl (lv_at hl 2 rfl) ?_
    obtain ⟨hi19_6, hE⟩ := ck_some hE
    refine m_aald F hM mg_8 hi19_6 dX5_costOfStep_19 ?_
    refine lv_iload_n hx hb dX5_costOfStep_20 rfl (lv_at hl 1 rfl) ?_
    obtain ⟨hi21_7, hE⟩ := ck_some hE
    refine m_rald (M := (G 0)) F hM (by decide) (vp_lt hi19_6) rfl hi21_7 dX5_costOfStep_21 ?_
    refine lv_ineg hx hb dX5_costOfStep_22 ?_
    refine lv_i2l hx hb dX5_costOfStep_23 rfl ?_
    obtain rfl := Option.some.inj hE
    exact m_lret F hM hr rfl rfl dX5_costOfStep_24
/-! ===== X5_lowerCosts: reads I0 G0 G4, writes A32 B53, frames 1, locals 22 ===== -/
def f_X5_lowerCosts_17 (N : Nat) (nn : Nat) (i0 : Int32) (g0 : Nat → Nat → Int32) (g4 : Nat → Nat → Int32) (nx4 : Int32 → Int32 → (Nat → Int32) → (Nat → Int64) → Option (Int32 × (Nat → Int32) × (Nat → Int64))) (nx17 : Int32 → Int32 → Int32 → (Nat → Int32) → (Nat → Int64) → Option (Int32 × (Nat → Int32) × (Nat → Int64))) (x1 : Int32) (x2 : Int32) (x3 : Int32) (a32' : Nat → Int32) (b53' : Nat → Int64) : Option (Int32 × (Nat → Int32) × (Nat → Int64)) :=
(if i0 ≤ x3 then
nx4 x1 (x2 + (1 : Int32)) a32' b53'
else
ck x2 nn (
(if (1000000000000 : Int64) ≤ (b53' x2.toNatClampNeg) then
nx17 x1 x2 (x3 + (1 : Int32)) a32' b53'
else
ck x2 nn (
bd (f_X5_costOfStep nn g0 g4 x2 x3) fun o50_2 =>
ck x3 nn (
(if (b53' x3.toNatClampNeg) ≤ ((b53' x2.toNatClampNeg) + o50_2) then
nx17 x1 x2 (x3 + (1 : Int32)) a32' b53'
else
ck x2 nn (
bd (f_X5_costOfStep nn g0 g4 x2 x3) fun o78_5 =>
ck x3 nn (
nmd (vp_updL b53' x3.toNatClampNeg ((b53' x2.toNatClampNeg) + o78_5)) fun w82_7 =>
ck x3 nn (
nmd (upd a32' x3.toNatClampNeg x2) fun w89_9 =>
nx17 (1 : Int32) x2 (x3 + (1 : Int32)) w89_9 w82_7)))))))))
def f_X5_lowerCosts_4 (N : Nat) (nn : Nat) (i0 : Int32) (g0 : Nat → Nat → Int32) (g4 : Nat → Nat → Int32)  (nx4 : Int32 → Int32 → (Nat → Int32) → (Nat → Int64) → Option (Int32 × (Nat → Int32) × (Nat → Int64))) (x1 : Int32) (x2 : Int32) (a32' : Nat → Int32) (b53' : Nat → Int64) : Option (Int32 × (Nat → Int32) × (Nat → Int64)) :=
(if i0 ≤ x2 then
bz x1 (some (x1, a32', b53'))
else
lq5 (f_X5_lowerCosts_17 N nn i0 g0 g4 nx4) N x1 x2 (0 : Int32) a32' b53')
def f_X5_lowerCosts (N : Nat) (nn : Nat) (i0 : Int32) (g0 : Nat → Nat → Int32) (g4 : Nat → Nat → Int32) (a32 : Nat → Int32) (b53 : Nat → Int64)  : Option (Int32 × (Nat → Int32) × (Nat → Int64)) :=
lq4 (f_X5_lowerCosts_4 N nn i0 g0 g4 ) N (0 : Int32) (0 : Int32) a32 b53
set_option maxHeartbeats 4000000 in
set_option maxRecDepth 100000 in
theorem s_X5_lowerCosts_17 {p : Program} {l : Launch} {e : Env} {s : State} {m : MethodId} {args : Array Value} {below : List Frame} {meth : Method} {c : Code} {D : va_G} {y : Nat → ClassId} {nn : Nat} {ad : Nat → Nat} {A0 : Nat → Prop} {I : Nat → Int32} {J : Nat → Int64} {A : Nat → Nat → Int32} {B : Nat → Nat → Int64} {G : Nat → Nat → Nat → Int32} (F : Fx p s m args meth c cX5_lowerCosts 4 wsX5_lowerCosts RX5 D y A0) (hr : meth.sig.returnType = (some .boolean)) {out : Int32 × (Nat → Int32) × (Nat → Int64)} {N : Nat} (nx4 : Int32 → Int32 → (Nat → Int32) → (Nat → Int64) → Option (Int32 × (Nat → Int32) × (Nat → Int64))) (hn4 : ∀ (x1 : Int32) (x2 : Int32) (a32' : Nat → Int32) (b53' : Nat → Int64) (ls : Array Slot) (H : Heap) (locs : List Loc), nx4 x1 x2 a32' b53' = some out → MM D y nn ad A0 s.heap I J (va_up A 32 a32') (va_up B 53 b53') G H locs → lv_has ls 4 [(0, .ref (ad 6)), (1, .int x1), (2, .int x2)] → W p l e ({ frames := 1, cells := 0, slots := 0, locals := 22 } : Room) s m args below meth c H locs 0 0 (MQ below (mQi D y nn ad A0 out.1 (I, J, (va_up A 32 out.2.1), (va_up B 53 out.2.2), G)) args s 0 0 A0) (F0 m 4 ls [])) (nx17 : Int32 → Int32 → Int32 → (Nat → Int32) → (Nat → Int64) → Option (Int32 × (Nat → Int32) × (Nat → Int64))) (hn17 : ∀ (x1 : Int32) (x2 : Int32) (x3 : Int32) (a32' : Nat → Int32) (b53' : Nat → Int64) (ls : Array Slot) (H : Heap) (locs : List Loc), nx17 x1 x2 x3 a32' b53' = some out → MM D y nn ad A0 s.heap I J (va_up A 32 a32') (va_up B 53 b53') G H locs → lv_has ls 4 [(0, .ref (ad 6)), (1, .int x1), (2, .int x2), (3, .int x3)] → W p l e ({ frames := 1, cells := 0, slots := 0, locals := 22 } : Room) s m args below meth c H locs 0 0 (MQ below (mQi D y nn ad A0 out.1 (I, J, (va_up A 32 out.2.1), (va_up B 53 out.2.2), G)) args s 0 0 A0) (F0 m 17 ls [])) : ∀ (x1 : Int32) (x2 : Int32) (x3 : Int32) (a32' : Nat → Int32) (b53' : Nat → Int64) (ls : Array Slot) (H : Heap) (locs : List Loc), f_X5_lowerCosts_17 N nn (I 0) (G 0) (G 4) nx4 nx17 x1 x2 x3 a32' b53' = some out → MM D y nn ad A0 s.heap I J (va_up A 32 a32') (va_up B 53 b53') G H locs → lv_has ls 4 [(0, .ref (ad 6)), (1, .int x1), (2, .int x2), (3, .int x3)] → W p l e ({ frames := 1, cells := 0, slots := 0, locals := 22 } : Room) s m args below meth c H locs 0 0 (MQ below (mQi D y nn ad A0 out.1 (I, J, (va_up A 32 out.2.1), (va_up B 53 out.2.2), G)) args s 0 0 A0) (F0 m 17 ls []) := by
  intro x1 x2 x3 a32' b53' ls H locs hE hM hl
  have hx := F.1.1
  have hb := F.1.2.1
  unfold f_X5_lowerCosts_17 at hE
  refine lv_iload_n hx hb dX5_lowerCosts_17 rfl (lv_at hl 3 rfl) ?_
  refine lv_aload_n hx hb dX5_lowerCosts_18 rfl (lv_at hl 0 rfl) ?_
  refine m_get F hM 6 mg_6 rfl 0 (by decide) (by decide +kernel) (by decide +kernel) (v := .ref (ad 1)) rfl dX5_lowerCosts_19 ?_
  refine m_getN F hM 1 mg_1 rfl 0 (by decide) (by decide +kernel) (by decide +kernel) (v := .int (I 0)) rfl dX5_lowerCosts_22 ?_
  refine lv_icmp_ge (tgt := 98) hx hb dX5_lowerCosts_25 (by decide) (fun c25 => ?_) (fun c25 => ?_)
  · replace hE := (if_pos c25).symm.trans hE
    refine lv_iinc (v := x2 + (1 : Int32)) (lv' := [(2, .int (x2 + (1 : Int32))), (0, .ref (ad 6)), (1, .int x1), (3, .int x3)]) hx hb dX5_lowerCosts_98 hl (k := 2) rfl rfl (by decide) rfl (fun ls hl => ?_)
    refine lv_goto (tgt := 4) hx hb dX5_lowerCosts_101 (by decide) ?_
    exact hn4 x1 (x2 + (1 : Int32)) a32' b53' ls H locs hE hM (lv_sub hl [1, 2, 0] rfl)
  · replace hE := (if_neg c25).symm.trans hE
    refine lv_aload_n hx hb dX5_lowerCosts_28 rfl (lv_at hl 0 rfl) ?_
    refine m_get F hM 6 mg_6 rfl 3 (by decide) (by decide +kernel) (by decide +kernel) (v := .ref (ad 53)) rfl dX5_lowerCosts_29 ?_
    refine lv_iload_n hx hb dX5_lowerCosts_32 rfl (lv_at hl 2 rfl) ?_
    obtain ⟨hi33_0, hE⟩ := ck_some hE
    refine m_lald (g := b53') F hM mg_53 rfl hi33_0 dX5_lowerCosts_33 ?_
    refine lv_ldc2 (v := (1000000000000)) hx hb F.1.2.2.2.1 (F.1.2.2.2.2 (.constantLong RX5 67 (1000000000000)) (by decide +kernel)) dX5_lowerCosts_34 ?_
    refine m_lge (tgt := 92) F dX5_lowerCosts_37 dX5_lowerCosts_38 (by decide) (fun c38 => ?_) (fun c38 => ?_)
    · replace hE := (if_pos c38).symm.trans hE
      refine lv_iinc (v := x3 + (1 : Int32)) (lv' := [(3, .int (x3 + (1 : Int32))), (0, .ref (ad 6)), (1, .int x1), (2, .int x2)]) hx hb dX5_lowerCosts_92 hl (k := 3) rfl rfl (by decide) rfl (fun ls hl => ?_)
      refine lv_goto (tgt := 17) hx hb dX5_lowerCosts_95 (by decide) ?_
      exact hn17 x1 x2 (x3 + (1 : Int32)) a32' b53' ls H locs hE hM (lv_sub hl [1, 2, 3, 0] rfl)
    · replace hE := (if_neg c38).symm.trans hE
      refine lv_aload_n hx hb dX5_lowerCosts_41 rfl (lv_at hl 0 rfl) ?_
      refine m_get F hM 6 mg_6 rfl 3 (by decide) (by decide +kernel) (by decide +kernel) (v := .ref (ad 53)) rfl dX5_lowerCosts_42 ?_
      refine lv_iload_n hx hb dX5_lowerCosts_45 rfl (lv_at hl 2 rfl) ?_
      obtain ⟨hi46_1, hE⟩ := ck_some hE
      refine m_lald (g := b53') F hM mg_53 rfl hi46_1 dX5_lowerCosts_46 ?_
      refine lv_aload_n hx hb dX5_lowerCosts_47 rfl (lv_at hl 0 rfl) ?_
      refine lv_iload_n hx hb dX5_lowerCosts_48 rfl (lv_at hl 2 rfl) ?_
      refine lv_iload_n hx hb dX5_lowerCosts_49 rfl (lv_at hl 3 rfl) ?_
      obtain ⟨o50_2, ho50_2, hE⟩ := bd_some hE
      refine m_callVl (As := [.int x2, .int x3]) (I2 := I) (J2 := J) (A2 := (va_up A 32 a32')) (B2 := (va_up B 53 b53')) (G2 := G) F hM (c_X5_costOfStep l D y nn ad H.size I J (va_up A 32 a32') (va_up B 53 b53') G x2 x3  o50_2 ho50_2) (cwV 2 F.1.2.2.2.2 gX5_lowerCosts_X5_costOfStep rfl rfl rfl (by decide +kernel) ⟨Nat.le_of_ble_eq_true rfl, Nat.le_of_ble_eq_true rfl⟩) (m_recv F hM mg_6 rfl) rfl hl.1 (Nat.le_of_ble_eq_true rfl) dX5_lowerCosts_50 ⟨Nat.le_refl 0, Nat.le_refl 0⟩ rfl rfl rfl rfl rfl (fun H locs hM => ?_)
      refine lv_ladd hx hb dX5_lowerCosts_53 ?_
      refine lv_aload_n hx hb dX5_lowerCosts_54 rfl (lv_at hl 0 rfl) ?_
      refine m_get F hM 6 mg_6 rfl 3 (by decide) (by decide +kernel) (by decide +kernel) (v := .ref (ad 53)) rfl dX5_lowerCosts_55 ?_
      refine lv_iload_n hx hb dX5_lowerCosts_58 rfl (lv_at hl 3 rfl) ?_
      obtain ⟨hi59_3, hE⟩ := ck_some hE
      refine m_lald (g := b53') F hM mg_53 rfl hi59_3 dX5_lowerCosts_59 ?_
      refine m_lge (tgt := 92) F dX5_lowerCosts_60 dX5_lowerCosts_61 (by decide) (fun c61 => ?_) (fun c61 => ?_)
      · replace hE := (if_pos c61).symm.trans hE
        refine lv_iinc (v := x3 + (1 : Int32)) (lv' := [(3, .int (x3 + (1 : Int32))), (0, .ref (ad 6)), (1, .int x1), (2, .int x2)]) hx hb dX5_lowerCosts_92 hl (k := 3) rfl rfl (by decide) rfl (fun ls hl => ?_)
        refine lv_goto (tgt := 17) hx hb dX5_lowerCosts_95 (by decide) ?_
        exact hn17 x1 x2 (x3 + (1 : Int32)) a32' b53' ls H locs hE hM (lv_sub hl [1, 2, 3, 0] rfl)
      · replace hE := (if_neg c61).symm.trans hE
        refine lv_aload_n hx hb dX5_lowerCosts_64 rfl (lv_at hl 0 rfl) ?_
        refine m_get F hM 6 mg_6 rfl 3 (by decide) (by decide +kernel) (by decide +kernel) (v := .ref (ad 53)) rfl dX5_lowerCosts_65 ?_
        refine lv_iload_n hx hb dX5_lowerCosts_68 rfl (lv_at hl 3 rfl) ?_
        refine lv_aload_n hx hb dX5_lowerCosts_69 rfl (lv_at hl 0 rfl) ?_
        refine m_get F hM 6 mg_6 rfl 3 (by decide) (by decide +kernel) (by decide +kernel) (v := .ref (ad 53)) rfl dX5_lowerCosts_70 ?_
        refine lv_iload_n hx hb dX5_lowerCosts_73 rfl (lv_at hl 2 rfl) ?_
        obtain ⟨hi74_4, hE⟩ := ck_some hE
        refine m_lald (g := b53') F hM mg_53 rfl hi74_4 dX5_lowerCosts_74 ?_
        refine lv_aload_n hx hb dX5_lowerCosts_75 rfl (lv_at hl 0 rfl) ?_
        refine lv_iload_n hx hb dX5_lowerCosts_76 rfl (lv_at hl 2 rfl) ?_
        refine lv_iload_n hx hb dX5_lowerCosts_77 rfl (lv_at hl 3 rfl) ?_
        obtain ⟨o78_5, ho78_5, hE⟩ := bd_some hE
        refine m_callVl (As := [.int x2, .int x3]) (I2 := I) (J2 := J) (A2 := (va_up A 32 a32')) (B2 := (va_up B 53 b53')) (G2 := G) F hM (c_X5_costOfStep l D y nn ad H.size I J (va_up A 32 a32') (va_up B 53 b53') G x2 x3  o78_5 ho78_5) (cwV 2 F.1.2.2.2.2 gX5_lowerCosts_X5_costOfStep rfl rfl rfl (by decide +kernel) ⟨Nat.le_of_ble_eq_true rfl, Nat.le_of_ble_eq_true rfl⟩) (m_recv F hM mg_6 rfl) rfl hl.1 (Nat.le_of_ble_eq_true rfl) dX5_lowerCosts_78 ⟨Nat.le_refl 0, Nat.le_refl 0⟩ rfl rfl rfl rfl rfl (fun H locs hM => ?_)
        refine lv_ladd hx hb dX5_lowerCosts_81 ?_
        obtain ⟨hi82_6, hE⟩ := ck_some hE
        obtain ⟨w82_7, ew82_7, hE⟩ := nmd_some hE
        refine m_last (f := b53') (B' := (va_up B 53 w82_7)) F hM mg_53 ms_53 (by rw [ew82_7]; exact (bx_uu _ _ _ _)) hi82_6 dX5_lowerCosts_82 (fun H locs hM => ?_)
        refine lv_aload_n hx hb dX5_lowerCosts_83 rfl (lv_at hl 0 rfl) ?_
        refine m_get F hM 6 mg_6 rfl 4 (by decide) (by decide +kernel) (by decide +kernel) (v := .ref (ad 32)) rfl dX5_lowerCosts_84 ?_
        refine lv_iload_n hx hb dX5_lowerCosts_87 rfl (lv_at hl 3 rfl) ?_
        refine lv_iload_n hx hb dX5_lowerCosts_88 rfl (lv_at hl 2 rfl) ?_
        obtain ⟨hi89_8, hE⟩ := ck_some hE
        obtain ⟨w89_9, ew89_9, hE⟩ := nmd_some hE
        refine m_iast (f := a32') (A' := (va_up A 32 w89_9)) F hM mg_32 ms_32 (by rw [ew89_9]; exact (bx_uu _ _ _ _)) hi89_8 dX5_lowerCosts_89 (fun H locs hM => ?_)
        refine lv_iconst (v := 1) hx hb dX5_lowerCosts_90 (by decide) ?_
        refine lv_istore_n (lv' := [(1, .int (1 : Int32)), (0, .ref (ad 6)), (2, .int x2), (3, .int x3)]) hx hb dX5_lowerCosts_91 rfl hl (by decide) rfl (fun ls hl => ?_)
        refine lv_iinc (v := x3 + (1 : Int32)) (lv' := [(3, .int (x3 + (1 : Int32))), (1, .int (1 : Int32)), (0, .ref (ad 6)), (2, .int x2)]) hx hb dX5_lowerCosts_92 hl (k := 3) rfl rfl (by decide) rfl (fun ls hl => ?_)
        refine lv_goto (tgt := 17) hx hb dX5_lowerCosts_95 (by decide) ?_
        exact hn17 (1 : Int32) x2 (x3 + (1 : Int32)) w89_9 w82_7 ls H locs hE hM (lv_sub hl [2, 1, 3, 0] rfl)
theorem k_X5_lowerCosts_17 {p : Program} {l : Launch} {e : Env} {s : State} {m : MethodId} {args : Array Value} {below : List Frame} {meth : Method} {c : Code} {D : va_G} {y : Nat → ClassId} {nn : Nat} {ad : Nat → Nat} {A0 : Nat → Prop} {I : Nat → Int32} {J : Nat → Int64} {A : Nat → Nat → Int32} {B : Nat → Nat → Int64} {G : Nat → Nat → Nat → Int32} (F : Fx p s m args meth c cX5_lowerCosts 4 wsX5_lowerCosts RX5 D y A0) (hr : meth.sig.returnType = (some .boolean)) {out : Int32 × (Nat → Int32) × (Nat → Int64)} {N : Nat} (nx4 : Int32 → Int32 → (Nat → Int32) → (Nat → Int64) → Option (Int32 × (Nat → Int32) × (Nat → Int64))) (hn4 : ∀ (x1 : Int32) (x2 : Int32) (a32' : Nat → Int32) (b53' : Nat → Int64) (ls : Array Slot) (H : Heap) (locs : List Loc), nx4 x1 x2 a32' b53' = some out → MM D y nn ad A0 s.heap I J (va_up A 32 a32') (va_up B 53 b53') G H locs → lv_has ls 4 [(0, .ref (ad 6)), (1, .int x1), (2, .int x2)] → W p l e ({ frames := 1, cells := 0, slots := 0, locals := 22 } : Room) s m args below meth c H locs 0 0 (MQ below (mQi D y nn ad A0 out.1 (I, J, (va_up A 32 out.2.1), (va_up B 53 out.2.2), G)) args s 0 0 A0) (F0 m 4 ls [])) : ∀ (n : Nat), ∀ (x1 : Int32) (x2 : Int32) (x3 : Int32) (a32' : Nat → Int32) (b53' : Nat → Int64) (ls : Array Slot) (H : Heap) (locs : List Loc), lq5 (f_X5_lowerCosts_17 N nn (I 0) (G 0) (G 4) nx4) n x1 x2 x3 a32' b53' = some out → MM D y nn ad A0 s.heap I J (va_up A 32 a32') (va_up B 53 b53') G H locs → lv_has ls 4 [(0, .ref (ad 6)), (1, .int x1), (2, .int x2), (3, .int x3)] → W p l e ({ frames := 1, cells := 0, slots := 0, locals := 22 } : Room) s m args below meth c H locs 0 0 (MQ below (mQi D y nn ad A0 out.1 (I, J, (va_up A 32 out.2.1), (va_up B 53 out.2.2), G)) args s 0 0 A0) (F0 m 17 ls []) := by
  intro n
  induction n with
  | zero =>
    intro x1 x2 x3 a32' b53' ls H locs hE
    cases (show (none : Option _) = some out from hE)
  | succ n ih =>
    intro x1 x2 x3 a32' b53' ls H locs hE hM hl
    exact s_X5_lowerCosts_17 F hr (N := N) nx4 hn4 (lq5 (f_X5_lowerCosts_17 N nn (I 0) (G 0) (G 4) nx4) n) ih x1 x2 x3 a32' b53' ls H locs hE hM hl
set_option maxHeartbeats 4000000 in
set_option maxRecDepth 100000 in
theorem s_X5_lowerCosts_4 {p : Program} {l : Launch} {e : Env} {s : State} {m : MethodId} {args : Array Value} {below : List Frame} {meth : Method} {c : Code} {D : va_G} {y : Nat → ClassId} {nn : Nat} {ad : Nat → Nat} {A0 : Nat → Prop} {I : Nat → Int32} {J : Nat → Int64} {A : Nat → Nat → Int32} {B : Nat → Nat → Int64} {G : Nat → Nat → Nat → Int32} (F : Fx p s m args meth c cX5_lowerCosts 4 wsX5_lowerCosts RX5 D y A0) (hr : meth.sig.returnType = (some .boolean)) {out : Int32 × (Nat → Int32) × (Nat → Int64)} {N : Nat}  (nx4 : Int32 → Int32 → (Nat → Int32) → (Nat → Int64) → Option (Int32 × (Nat → Int32) × (Nat → Int64))) (hn4 : ∀ (x1 : Int32) (x2 : Int32) (a32' : Nat → Int32) (b53' : Nat → Int64) (ls : Array Slot) (H : Heap) (locs : List Loc), nx4 x1 x2 a32' b53' = some out → MM D y nn ad A0 s.heap I J (va_up A 32 a32') (va_up B 53 b53') G H locs → lv_has ls 4 [(0, .ref (ad 6)), (1, .int x1), (2, .int x2)] → W p l e ({ frames := 1, cells := 0, slots := 0, locals := 22 } : Room) s m args below meth c H locs 0 0 (MQ below (mQi D y nn ad A0 out.1 (I, J, (va_up A 32 out.2.1), (va_up B 53 out.2.2), G)) args s 0 0 A0) (F0 m 4 ls [])) : ∀ (x1 : Int32) (x2 : Int32) (a32' : Nat → Int32) (b53' : Nat → Int64) (ls : Array Slot) (H : Heap) (locs : List Loc), f_X5_lowerCosts_4 N nn (I 0) (G 0) (G 4)  nx4 x1 x2 a32' b53' = some out → MM D y nn ad A0 s.heap I J (va_up A 32 a32') (va_up B 53 b53') G H locs → lv_has ls 4 [(0, .ref (ad 6)), (1, .int x1), (2, .int x2)] → W p l e ({ frames := 1, cells := 0, slots := 0, locals := 22 } : Room) s m args below meth c H locs 0 0 (MQ below (mQi D y nn ad A0 out.1 (I, J, (va_up A 32 out.2.1), (va_up B 53 out.2.2), G)) args s 0 0 A0) (F0 m 4 ls []) := by
  intro x1 x2 a32' b53' ls H locs hE hM hl
  have hx := F.1.1
  have hb := F.1.2.1
  unfold f_X5_lowerCosts_4 at hE
  refine lv_iload_n hx hb dX5_lowerCosts_4 rfl (lv_at hl 2 rfl) ?_
  refine lv_aload_n hx hb dX5_lowerCosts_5 rfl (lv_at hl 0 rfl) ?_
  refine m_get F hM 6 mg_6 rfl 0 (by decide) (by decide +kernel) (by decide +kernel) (v := .ref (ad 1)) rfl dX5_lowerCosts_6 ?_
  refine m_getN F hM 1 mg_1 rfl 0 (by decide) (by decide +kernel) (by decide +kernel) (v := .int (I 0)) rfl dX5_lowerCosts_9 ?_
  refine lv_icmp_ge (tgt := 104) hx hb dX5_lowerCosts_12 (by decide) (fun c12 => ?_) (fun c12 => ?_)
  · replace hE := (if_pos c12).symm.trans hE
    refine lv_iload_n hx hb dX5_lowerCosts_104 rfl (lv_at hl 1 rfl) ?_
    obtain ⟨hz, hE⟩ := bz_some hE
    obtain rfl := Option.some.inj hE
    exact m_zret F hM hr hz rfl rfl dX5_lowerCosts_105
  · replace hE := (if_neg c12).symm.trans hE
    refine lv_iconst (v := 0) hx hb dX5_lowerCosts_15 (by decide) ?_
    refine lv_istore_n (lv' := [(3, .int (0 : Int32)), (0, .ref (ad 6)), (1, .int x1), (2, .int x2)]) hx hb dX5_lowerCosts_16 rfl hl (by decide) rfl (fun ls hl => ?_)
    exact k_X5_lowerCosts_17 F hr (N := N) nx4 hn4 N x1 x2 (0 : Int32) a32' b53' ls H locs hE hM (lv_sub hl [1, 2, 3, 0] rfl)
theorem k_X5_lowerCosts_4 {p : Program} {l : Launch} {e : Env} {s : State} {m : MethodId} {args : Array Value} {below : List Frame} {meth : Method} {c : Code} {D : va_G} {y : Nat → ClassId} {nn : Nat} {ad : Nat → Nat} {A0 : Nat → Prop} {I : Nat → Int32} {J : Nat → Int64} {A : Nat → Nat → Int32} {B : Nat → Nat → Int64} {G : Nat → Nat → Nat → Int32} (F : Fx p s m args meth c cX5_lowerCosts 4 wsX5_lowerCosts RX5 D y A0) (hr : meth.sig.returnType = (some .boolean)) {out : Int32 × (Nat → Int32) × (Nat → Int64)} {N : Nat}  : ∀ (n : Nat), ∀ (x1 : Int32) (x2 : Int32) (a32' : Nat → Int32) (b53' : Nat → Int64) (ls : Array Slot) (H : Heap) (locs : List Loc), lq4 (f_X5_lowerCosts_4 N nn (I 0) (G 0) (G 4) ) n x1 x2 a32' b53' = some out → MM D y nn ad A0 s.heap I J (va_up A 32 a32') (va_up B 53 b53') G H locs → lv_has ls 4 [(0, .ref (ad 6)), (1, .int x1), (2, .int x2)] → W p l e ({ frames := 1, cells := 0, slots := 0, locals := 22 } : Room) s m args below meth c H locs 0 0 (MQ below (mQi D y nn ad A0 out.1 (I, J, (va_up A 32 out.2.1), (va_up B 53 out.2.2), G)) args s 0 0 A0) (F0 m 4 ls []) := by
  intro n
  induction n with
  | zero =>
    intro x1 x2 a32' b53' ls H locs hE
    cases (show (none : Option _) = some out from hE)
  | succ n ih =>
    intro x1 x2 a32' b53' ls H locs hE hM hl
    exact s_X5_lowerCosts_4 F hr (N := N)  (lq4 (f_X5_lowerCosts_4 N nn (I 0) (G 0) (G 4) ) n) ih x1 x2 a32' b53' ls H locs hE hM hl
set_option maxHeartbeats 4000000 in
set_option maxRecDepth 100000 in
theorem c_X5_lowerCosts (l : Launch) (D : va_G) (y : Nat → ClassId) (nn : Nat) (ad : Nat → Nat) (sz : Nat) (I : Nat → Int32) (J : Nat → Int64) (A : Nat → Nat → Int32) (B : Nat → Nat → Int64) (G : Nat → Nat → Nat → Int32)  (N : Nat) (out : Int32 × (Nat → Int32) × (Nat → Int64)) (hE : f_X5_lowerCosts N nn (I 0) (G 0) (G 4) (A 32) (B 53)  = some out) : Met l yX5_lowerCosts wsX5_lowerCosts ({ frames := 1, cells := 0, slots := 0, locals := 22 } : Room) (mPc [.ref (ad 6)] D y nn ad sz I J A B G) (mQi D y nn ad (mA y nn ad I J A B G sz) out.1 (I, J, (va_up A 32 out.2.1), (va_up B 53 out.2.2), G)) 0 0 (mA y nn ad I J A B G sz) := by
  refine Met.ofW (cc := cX5_lowerCosts) (maxL := 4) (ret := (some .boolean)) (by decide) rfl ?_
  intro p e s m args below meth c s₁ Bd hml hv
  obtain ⟨rfl, hsz, hP, hK, hD0, hN⟩ := hv
  have hr := Bd.returns
  subst hsz
  have F : Fx p s m ([.ref (ad 6)] : List Value).toArray meth c cX5_lowerCosts 4 wsX5_lowerCosts RX5 D y (mA y nn ad I J A B G s.heap.size) := ⟨⟨Bd.exec, Bd.bytes, hml, findClass_of_methodNamed Bd.named, atoms_spec (ws := wsX5_lowerCosts) Bd.pre⟩, hK, hN, fun q h => Or.inr h, Bd.notSynchronized⟩
  have hM := m_start (s := s) rfl hP hD0
  have hM := m_mem (I2 := I) (J2 := J) (A2 := (va_up A 32 (A 32))) (B2 := (va_up B 53 (B 53))) (G2 := G) hM (by rfl) (by rfl) (by simp only [up_id]) (by simp only [up_id]) (by rfl)
  have hx := F.1.1
  have hb := F.1.2.1
  have hl := lv_entry ([.ref (ad 6)]) (n := 4) (Nat.le_of_ble_eq_true rfl)
  rw [lg_entry_eq]
  generalize (lg_sl ([.ref (ad 6)]) ++ List.replicate (4 - (lg_sl ([.ref (ad 6)])).length) Slot.unset).toArray = ls at hl ⊢
  have hl : lv_has ls 4 [(0, .ref (ad 6))] := hl
  show W p l e ({ frames := 1, cells := 0, slots := 0, locals := 22 } : Room) s m _ below meth c s.heap [] 0 0 _ _
  obtain ⟨locs, hlo⟩ : ∃ locs : List Loc, locs = [] := ⟨_, rfl⟩
  rw [← hlo]; rw [← hlo] at hM
  unfold f_X5_lowerCosts at hE
  revert hM
  suffices hH : ∀ H : Heap, MM D y nn ad (mA y nn ad I J A B G s.heap.size) s.heap I J (va_up A 32 (A 32)) (va_up B 53 (B 53)) G H locs → W p l e ({ frames := 1, cells := 0, slots := 0, locals := 22 } : Room) s m ([.ref (ad 6)] : List Value).toArray below meth c H locs 0 0 (MQ below (mQi D y nn ad (mA y nn ad I J A B G s.heap.size) out.1 (I, J, (va_up A 32 out.2.1), (va_up B 53 out.2.2), G)) ([.ref (ad 6)] : List Value).toArray s 0 0 (mA y nn ad I J A B G s.heap.size)) (F0 m 0 ls []) from hH s.heap
  intro H hM
  refine lv_iconst (v := 0) hx hb dX5_lowerCosts_0 (by decide) ?_
  refine lv_istore_n (lv' := [(1, .int (0 : Int32)), (0, .ref (ad 6))]) hx hb dX5_lowerCosts_1 rfl hl (by decide) rfl (fun ls hl => ?_)
  refine lv_iconst (v := 0) hx hb dX5_lowerCosts_2 (by decide) ?_
  refine lv_istore_n (lv' := [(2, .int (0 : Int32)), (1, .int (0 : Int32)), (0, .ref (ad 6))]) hx hb dX5_lowerCosts_3 rfl hl (by decide) rfl (fun ls hl => ?_)
  exact k_X5_lowerCosts_4 F hr (N := N)  N (0 : Int32) (0 : Int32) (A 32) (B 53) ls H locs hE hM (lv_sub hl [2, 1, 0] rfl)
/-! ===== X5_findCosts: reads I0 A31 G0 G4, writes A32 B53, frames 2, locals 45 ===== -/
def f_X5_findCosts_52 (N : Nat) (nn : Nat) (i0 : Int32) (a31 : Nat → Int32) (g0 : Nat → Nat → Int32) (g4 : Nat → Nat → Int32)  (nx52 : Int32 → Int32 → (Nat → Int32) → (Nat → Int64) → Option ((Nat → Int32) × (Nat → Int64))) (x1 : Int32) (x2 : Int32) (a32' : Nat → Int32) (b53' : Nat → Int64) : Option ((Nat → Int32) × (Nat → Int64)) :=
(if i0 ≤ x2 then
some (a32', b53')
else
(if x1 = (0 : Int32) then
some (a32', b53')
else
bd (f_X5_lowerCosts N nn i0 g0 g4 a32' b53') fun o68_0 =>
nx52 o68_0.1 (x2 + (1 : Int32)) o68_0.2.1 o68_0.2.2))
def f_X5_findCosts_2 (N : Nat) (nn : Nat) (i0 : Int32) (a31 : Nat → Int32) (g0 : Nat → Nat → Int32) (g4 : Nat → Nat → Int32)  (nx2 : Int32 → (Nat → Int32) → (Nat → Int64) → Option ((Nat → Int32) × (Nat → Int64))) (x1 : Int32) (a32' : Nat → Int32) (b53' : Nat → Int64) : Option ((Nat → Int32) × (Nat → Int64)) :=
(if i0 ≤ x1 then
lq4 (f_X5_findCosts_52 N nn i0 a31 g0 g4 ) N (1 : Int32) (0 : Int32) a32' b53'
else
ck x1 nn (
(if (a31 x1.toNatClampNeg) ≤ (0 : Int32) then
ck x1 nn (
nmd (vp_updL b53' x1.toNatClampNeg (1000000000000 : Int64)) fun w34_3 =>
ck x1 nn (
nmd (upd a32' x1.toNatClampNeg (-1 : Int32)) fun w41_5 =>
nx2 (x1 + (1 : Int32)) w41_5 w34_3))
else
ck x1 nn (
nmd (vp_updL b53' x1.toNatClampNeg (0 : Int64)) fun w34_7 =>
ck x1 nn (
nmd (upd a32' x1.toNatClampNeg (-1 : Int32)) fun w41_9 =>
nx2 (x1 + (1 : Int32)) w41_9 w34_7)))))
def f_X5_findCosts (N : Nat) (nn : Nat) (i0 : Int32) (a31 : Nat → Int32) (g0 : Nat → Nat → Int32) (g4 : Nat → Nat → Int32) (a32 : Nat → Int32) (b53 : Nat → Int64)  : Option ((Nat → Int32) × (Nat → Int64)) :=
lq3 (f_X5_findCosts_2 N nn i0 a31 g0 g4 ) N (0 : Int32) a32 b53
set_option maxHeartbeats 4000000 in
set_option maxRecDepth 100000 in
theorem s_X5_findCosts_52 {p : Program} {l : Launch} {e : Env} {s : State} {m : MethodId} {args : Array Value} {below : List Frame} {meth : Method} {c : Code} {D : va_G} {y : Nat → ClassId} {nn : Nat} {ad : Nat → Nat} {A0 : Nat → Prop} {I : Nat → Int32} {J : Nat → Int64} {A : Nat → Nat → Int32} {B : Nat → Nat → Int64} {G : Nat → Nat → Nat → Int32} (F : Fx p s m args meth c cX5_findCosts 3 wsX5_findCosts RX5 D y A0) (hr : meth.sig.returnType = none) {out : (Nat → Int32) × (Nat → Int64)} {N : Nat}  (nx52 : Int32 → Int32 → (Nat → Int32) → (Nat → Int64) → Option ((Nat → Int32) × (Nat → Int64))) (hn52 : ∀ (x1 : Int32) (x2 : Int32) (a32' : Nat → Int32) (b53' : Nat → Int64) (ls : Array Slot) (H : Heap) (locs : List Loc), nx52 x1 x2 a32' b53' = some out → MM D y nn ad A0 s.heap I J (va_up A 32 a32') (va_up B 53 b53') G H locs → lv_has ls 3 [(0, .ref (ad 6)), (1, .int x1), (2, .int x2)] → W p l e ({ frames := 2, cells := 0, slots := 0, locals := 45 } : Room) s m args below meth c H locs 0 0 (MQ below (mQv D y nn ad A0 (I, J, (va_up A 32 out.1), (va_up B 53 out.2), G)) args s 0 0 A0) (F0 m 52 ls [])) : ∀ (x1 : Int32) (x2 : Int32) (a32' : Nat → Int32) (b53' : Nat → Int64) (ls : Array Slot) (H : Heap) (locs : List Loc), f_X5_findCosts_52 N nn (I 0) (A 31) (G 0) (G 4)  nx52 x1 x2 a32' b53' = some out → MM D y nn ad A0 s.heap I J (va_up A 32 a32') (va_up B 53 b53') G H locs → lv_has ls 3 [(0, .ref (ad 6)), (1, .int x1), (2, .int x2)] → W p l e ({ frames := 2, cells := 0, slots := 0, locals := 45 } : Room) s m args below meth c H locs 0 0 (MQ below (mQv D y nn ad A0 (I, J, (va_up A 32 out.1), (va_up B 53 out.2), G)) args s 0 0 A0) (F0 m 52 ls []) := by
  intro x1 x2 a32' b53' ls H locs hE hM hl
  have hx := F.1.1
  have hb := F.1.2.1
  unfold f_X5_findCosts_52 at hE
  refine lv_iload_n hx hb dX5_findCosts_52 rfl (lv_at hl 2 rfl) ?_
  refine lv_aload_n hx hb dX5_findCosts_53 rfl (lv_at hl 0 rfl) ?_
  refine m_get F hM 6 mg_6 rfl 0 (by decide) (by decide +kernel) (by decide +kernel) (v := .ref (ad 1)) rfl dX5_findCosts_54 ?_
  refine m_getN F hM 1 mg_1 rfl 0 (by decide) (by decide +kernel) (by decide +kernel) (v := .int (I 0)) rfl dX5_findCosts_57 ?_
  refine lv_icmp_ge (tgt := 78) hx hb dX5_findCosts_60 (by decide) (fun c60 => ?_) (fun c60 => ?_)
  · replace hE := (if_pos c60).symm.trans hE
    obtain rfl := Option.some.inj hE
    exact m_vret F hM hr rfl dX5_findCosts_78
  · replace hE := (if_neg c60).symm.trans hE
    refine lv_iload_n hx hb dX5_findCosts_63 rfl (lv_at hl 1 rfl) ?_
    refine lv_if_eq (tgt := 78) hx hb dX5_findCosts_64 (by decide) (fun c64 => ?_) (fun c64 => ?_)
    · replace hE := (if_pos c64).symm.trans hE
      obtain rfl := Option.some.inj hE
      exact m_vret F hM hr rfl dX5_findCosts_78
    · replace hE := (if_neg c64).symm.trans hE
      refine lv_aload_n hx hb dX5_findCosts_67 rfl (lv_at hl 0 rfl) ?_
      obtain ⟨o68_0, ho68_0, hE⟩ := bd_some hE
      refine m_callVi (As := []) (I2 := I) (J2 := J) (A2 := (va_up A 32 o68_0.2.1)) (B2 := (va_up B 53 o68_0.2.2)) (G2 := G) F hM (c_X5_lowerCosts l D y nn ad H.size I J (va_up A 32 a32') (va_up B 53 b53') G  N o68_0 ho68_0) (cwV 0 F.1.2.2.2.2 gX5_findCosts_X5_lowerCosts rfl rfl rfl (by decide +kernel) ⟨Nat.le_of_ble_eq_true rfl, Nat.le_of_ble_eq_true rfl⟩) (m_recv F hM mg_6 rfl) rfl hl.1 (Nat.le_of_ble_eq_true rfl) dX5_findCosts_68 ⟨Nat.le_refl 0, Nat.le_refl 0⟩ rfl rfl (bx_uu _ _ _ _) (bx_uu _ _ _ _) rfl (fun H locs hM => ?_)
      refine lv_istore_n (lv' := [(1, .int o68_0.1), (0, .ref (ad 6)), (2, .int x2)]) hx hb dX5_findCosts_71 rfl hl (by decide) rfl (fun ls hl => ?_)
      refine lv_iinc (v := x2 + (1 : Int32)) (lv' := [(2, .int (x2 + (1 : Int32))), (1, .int o68_0.1), (0, .ref (ad 6))]) hx hb dX5_findCosts_72 hl (k := 2) rfl rfl (by decide) rfl (fun ls hl => ?_)
      refine lv_goto (tgt := 52) hx hb dX5_findCosts_75 (by decide) ?_
      exact hn52 o68_0.1 (x2 + (1 : Int32)) o68_0.2.1 o68_0.2.2 ls H locs hE hM (lv_sub hl [2, 1, 0] rfl)
theorem k_X5_findCosts_52 {p : Program} {l : Launch} {e : Env} {s : State} {m : MethodId} {args : Array Value} {below : List Frame} {meth : Method} {c : Code} {D : va_G} {y : Nat → ClassId} {nn : Nat} {ad : Nat → Nat} {A0 : Nat → Prop} {I : Nat → Int32} {J : Nat → Int64} {A : Nat → Nat → Int32} {B : Nat → Nat → Int64} {G : Nat → Nat → Nat → Int32} (F : Fx p s m args meth c cX5_findCosts 3 wsX5_findCosts RX5 D y A0) (hr : meth.sig.returnType = none) {out : (Nat → Int32) × (Nat → Int64)} {N : Nat}  : ∀ (n : Nat), ∀ (x1 : Int32) (x2 : Int32) (a32' : Nat → Int32) (b53' : Nat → Int64) (ls : Array Slot) (H : Heap) (locs : List Loc), lq4 (f_X5_findCosts_52 N nn (I 0) (A 31) (G 0) (G 4) ) n x1 x2 a32' b53' = some out → MM D y nn ad A0 s.heap I J (va_up A 32 a32') (va_up B 53 b53') G H locs → lv_has ls 3 [(0, .ref (ad 6)), (1, .int x1), (2, .int x2)] → W p l e ({ frames := 2, cells := 0, slots := 0, locals := 45 } : Room) s m args below meth c H locs 0 0 (MQ below (mQv D y nn ad A0 (I, J, (va_up A 32 out.1), (va_up B 53 out.2), G)) args s 0 0 A0) (F0 m 52 ls []) := by
  intro n
  induction n with
  | zero =>
    intro x1 x2 a32' b53' ls H locs hE
    cases (show (none : Option _) = some out from hE)
  | succ n ih =>
    intro x1 x2 a32' b53' ls H locs hE hM hl
    exact s_X5_findCosts_52 F hr (N := N)  (lq4 (f_X5_findCosts_52 N nn (I 0) (A 31) (G 0) (G 4) ) n) ih x1 x2 a32' b53' ls H locs hE hM hl
set_option maxHeartbeats 4000000 in
set_option maxRecDepth 100000 in
theorem s_X5_findCosts_2 {p : Program} {l : Launch} {e : Env} {s : State} {m : MethodId} {args : Array Value} {below : List Frame} {meth : Method} {c : Code} {D : va_G} {y : Nat → ClassId} {nn : Nat} {ad : Nat → Nat} {A0 : Nat → Prop} {I : Nat → Int32} {J : Nat → Int64} {A : Nat → Nat → Int32} {B : Nat → Nat → Int64} {G : Nat → Nat → Nat → Int32} (F : Fx p s m args meth c cX5_findCosts 3 wsX5_findCosts RX5 D y A0) (hr : meth.sig.returnType = none) {out : (Nat → Int32) × (Nat → Int64)} {N : Nat}  (nx2 : Int32 → (Nat → Int32) → (Nat → Int64) → Option ((Nat → Int32) × (Nat → Int64))) (hn2 : ∀ (x1 : Int32) (a32' : Nat → Int32) (b53' : Nat → Int64) (ls : Array Slot) (H : Heap) (locs : List Loc), nx2 x1 a32' b53' = some out → MM D y nn ad A0 s.heap I J (va_up A 32 a32') (va_up B 53 b53') G H locs → lv_has ls 3 [(0, .ref (ad 6)), (1, .int x1)] → W p l e ({ frames := 2, cells := 0, slots := 0, locals := 45 } : Room) s m args below meth c H locs 0 0 (MQ below (mQv D y nn ad A0 (I, J, (va_up A 32 out.1), (va_up B 53 out.2), G)) args s 0 0 A0) (F0 m 2 ls [])) : ∀ (x1 : Int32) (a32' : Nat → Int32) (b53' : Nat → Int64) (ls : Array Slot) (H : Heap) (locs : List Loc), f_X5_findCosts_2 N nn (I 0) (A 31) (G 0) (G 4)  nx2 x1 a32' b53' = some out → MM D y nn ad A0 s.heap I J (va_up A 32 a32') (va_up B 53 b53') G H locs → lv_has ls 3 [(0, .ref (ad 6)), (1, .int x1)] → W p l e ({ frames := 2, cells := 0, slots := 0, locals := 45 } : Room) s m args below meth c H locs 0 0 (MQ below (mQv D y nn ad A0 (I, J, (va_up A 32 out.1), (va_up B 53 out.2), G)) args s 0 0 A0) (F0 m 2 ls []) := by
  intro x1 a32' b53' ls H locs hE hM hl
  have hx := F.1.1
  have hb := F.1.2.1
  unfold f_X5_findCosts_2 at hE
  refine lv_iload_n hx hb dX5_findCosts_2 rfl (lv_at hl 1 rfl) ?_
  refine lv_aload_n hx hb dX5_findCosts_3 rfl (lv_at hl 0 rfl) ?_
  refine m_get F hM 6 mg_6 rfl 0 (by decide) (by decide +kernel) (by decide +kernel) (v := .ref (ad 1)) rfl dX5_findCosts_4 ?_
  refine m_getN F hM 1 mg_1 rfl 0 (by decide) (by decide +kernel) (by decide +kernel) (v := .int (I 0)) rfl dX5_findCosts_7 ?_
  refine lv_icmp_ge (tgt := 48) hx hb dX5_findCosts_10 (by decide) (fun c10 => ?_) (fun c10 => ?_)
  · replace hE := (if_pos c10).symm.trans hE
    refine lv_iconst (v := 1) hx hb dX5_findCosts_48 (by decide) ?_
    refine lv_istore_n (lv' := [(1, .int (1 : Int32)), (0, .ref (ad 6))]) hx hb dX5_findCosts_49 rfl hl (by decide) rfl (fun ls hl => ?_)
    refine lv_iconst (v := 0) hx hb dX5_findCosts_50 (by decide) ?_
    refine lv_istore_n (lv' := [(2, .int (0 : Int32)), (1, .int (1 : Int32)), (0, .ref (ad 6))]) hx hb dX5_findCosts_51 rfl hl (by decide) rfl (fun ls hl => ?_)
    exact k_X5_findCosts_52 F hr (N := N)  N (1 : Int32) (0 : Int32) a32' b53' ls H locs hE hM (lv_sub hl [2, 1, 0] rfl)
  · replace hE := (if_neg c10).symm.trans hE
    refine lv_aload_n hx hb dX5_findCosts_13 rfl (lv_at hl 0 rfl) ?_
    refine m_get F hM 6 mg_6 rfl 3 (by decide) (by decide +kernel) (by decide +kernel) (v := .ref (ad 53)) rfl dX5_findCosts_14 ?_
    refine lv_iload_n hx hb dX5_findCosts_17 rfl (lv_at hl 1 rfl) ?_
    refine lv_aload_n hx hb dX5_findCosts_18 rfl (lv_at hl 0 rfl) ?_
    refine m_get F hM 6 mg_6 rfl 2 (by decide) (by decide +kernel) (by decide +kernel) (v := .ref (ad 31)) rfl dX5_findCosts_19 ?_
    refine lv_iload_n hx hb dX5_findCosts_22 rfl (lv_at hl 1 rfl) ?_
    obtain ⟨hi23_1, hE⟩ := ck_some hE
    refine m_iald (g := (A 31)) F hM mg_31 rfl hi23_1 dX5_findCosts_23 ?_
    refine lv_if_le (tgt := 31) hx hb dX5_findCosts_24 (by decide) (fun c24 => ?_) (fun c24 => ?_)
    · replace hE := (if_pos c24).symm.trans hE
      refine lv_ldc2 (v := (1000000000000)) hx hb F.1.2.2.2.1 (F.1.2.2.2.2 (.constantLong RX5 67 (1000000000000)) (by decide +kernel)) dX5_findCosts_31 ?_
      obtain ⟨hi34_2, hE⟩ := ck_some hE
      obtain ⟨w34_3, ew34_3, hE⟩ := nmd_some hE
      refine m_last (f := b53') (B' := (va_up B 53 w34_3)) F hM mg_53 ms_53 (by rw [ew34_3]; exact (bx_uu _ _ _ _)) hi34_2 dX5_findCosts_34 (fun H locs hM => ?_)
      refine lv_aload_n hx hb dX5_findCosts_35 rfl (lv_at hl 0 rfl) ?_
      refine m_get F hM 6 mg_6 rfl 4 (by decide) (by decide +kernel) (by decide +kernel) (v := .ref (ad 32)) rfl dX5_findCosts_36 ?_
      refine lv_iload_n hx hb dX5_findCosts_39 rfl (lv_at hl 1 rfl) ?_
      refine lv_iconst (v := (-1)) hx hb dX5_findCosts_40 (by decide) ?_
      obtain ⟨hi41_4, hE⟩ := ck_some hE
      obtain ⟨w41_5, ew41_5, hE⟩ := nmd_some hE
      refine m_iast (f := a32') (A' := (va_up A 32 w41_5)) F hM mg_32 ms_32 (by rw [ew41_5]; exact (bx_uu _ _ _ _)) hi41_4 dX5_findCosts_41 (fun H locs hM => ?_)
      refine lv_iinc (v := x1 + (1 : Int32)) (lv' := [(1, .int (x1 + (1 : Int32))), (0, .ref (ad 6))]) hx hb dX5_findCosts_42 hl (k := 1) rfl rfl (by decide) rfl (fun ls hl => ?_)
      refine lv_goto (tgt := 2) hx hb dX5_findCosts_45 (by decide) ?_
      exact hn2 (x1 + (1 : Int32)) w41_5 w34_3 ls H locs hE hM (lv_sub hl [1, 0] rfl)
    · replace hE := (if_neg c24).symm.trans hE
      refine lv_lconst (v := 0) hx hb dX5_findCosts_27 (by decide) ?_
      refine lv_goto (tgt := 34) hx hb dX5_findCosts_28 (by decide) ?_
      obtain ⟨hi34_6, hE⟩ := ck_some hE
      obtain ⟨w34_7, ew34_7, hE⟩ := nmd_some hE
      refine m_last (f := b53') (B' := (va_up B 53 w34_7)) F hM mg_53 ms_53 (by rw [ew34_7]; exact (bx_uu _ _ _ _)) hi34_6 dX5_findCosts_34 (fun H locs hM => ?_)
      refine lv_aload_n hx hb dX5_findCosts_35 rfl (lv_at hl 0 rfl) ?_
      refine m_get F hM 6 mg_6 rfl 4 (by decide) (by decide +kernel) (by decide +kernel) (v := .ref (ad 32)) rfl dX5_findCosts_36 ?_
      refine lv_iload_n hx hb dX5_findCosts_39 rfl (lv_at hl 1 rfl) ?_
      refine lv_iconst (v := (-1)) hx hb dX5_findCosts_40 (by decide) ?_
      obtain ⟨hi41_8, hE⟩ := ck_some hE
      obtain ⟨w41_9, ew41_9, hE⟩ := nmd_some hE
      refine m_iast (f := a32') (A' := (va_up A 32 w41_9)) F hM mg_32 ms_32 (by rw [ew41_9]; exact (bx_uu _ _ _ _)) hi41_8 dX5_findCosts_41 (fun H locs hM => ?_)
      refine lv_iinc (v := x1 + (1 : Int32)) (lv' := [(1, .int (x1 + (1 : Int32))), (0, .ref (ad 6))]) hx hb dX5_findCosts_42 hl (k := 1) rfl rfl (by decide) rfl (fun ls hl => ?_)
      refine lv_goto (tgt := 2) hx hb dX5_findCosts_45 (by decide) ?_
      exact hn2 (x1 + (1 : Int32)) w41_9 w34_7 ls H locs hE hM (lv_sub hl [1, 0] rfl)
theorem k_X5_findCosts_2 {p : Program} {l : Launch} {e : Env} {s : State} {m : MethodId} {args : Array Value} {below : List Frame} {meth : Method} {c : Code} {D : va_G} {y : Nat → ClassId} {nn : Nat} {ad : Nat → Nat} {A0 : Nat → Prop} {I : Nat → Int32} {J : Nat → Int64} {A : Nat → Nat → Int32} {B : Nat → Nat → Int64} {G : Nat → Nat → Nat → Int32} (F : Fx p s m args meth c cX5_findCosts 3 wsX5_findCosts RX5 D y A0) (hr : meth.sig.returnType = none) {out : (Nat → Int32) × (Nat → Int64)} {N : Nat}  : ∀ (n : Nat), ∀ (x1 : Int32) (a32' : Nat → Int32) (b53' : Nat → Int64) (ls : Array Slot) (H : Heap) (locs : List Loc), lq3 (f_X5_findCosts_2 N nn (I 0) (A 31) (G 0) (G 4) ) n x1 a32' b53' = some out → MM D y nn ad A0 s.heap I J (va_up A 32 a32') (va_up B 53 b53') G H locs → lv_has ls 3 [(0, .ref (ad 6)), (1, .int x1)] → W p l e ({ frames := 2, cells := 0, slots := 0, locals := 45 } : Room) s m args below meth c H locs 0 0 (MQ below (mQv D y nn ad A0 (I, J, (va_up A 32 out.1), (va_up B 53 out.2), G)) args s 0 0 A0) (F0 m 2 ls []) := by
  intro n
  induction n with
  | zero =>
    intro x1 a32' b53' ls H locs hE
    cases (show (none : Option _) = some out from hE)
  | succ n ih =>
    intro x1 a32' b53' ls H locs hE hM hl
    exact s_X5_findCosts_2 F hr (N := N)  (lq3 (f_X5_findCosts_2 N nn (I 0) (A 31) (G 0) (G 4) ) n) ih x1 a32' b53' ls H locs hE hM hl
set_option maxHeartbeats 4000000 in
set_option maxRecDepth 100000 in
theorem c_X5_findCosts (l : Launch) (D : va_G) (y : Nat → ClassId) (nn : Nat) (ad : Nat → Nat) (sz : Nat) (I : Nat → Int32) (J : Nat → Int64) (A : Nat → Nat → Int32) (B : Nat → Nat → Int64) (G : Nat → Nat → Nat → Int32)  (N : Nat) (out : (Nat → Int32) × (Nat → Int64)) (hE : f_X5_findCosts N nn (I 0) (A 31) (G 0) (G 4) (A 32) (B 53)  = some out) : Met l yX5_findCosts wsX5_findCosts ({ frames := 2, cells := 0, slots := 0, locals := 45 } : Room) (mPc [.ref (ad 6)] D y nn ad sz I J A B G) (mQv D y nn ad (mA y nn ad I J A B G sz) (I, J, (va_up A 32 out.1), (va_up B 53 out.2), G)) 0 0 (mA y nn ad I J A B G sz) := by
  refine Met.ofW (cc := cX5_findCosts) (maxL := 3) (ret := none) (by decide) rfl ?_
  intro p e s m args below meth c s₁ Bd hml hv
  obtain ⟨rfl, hsz, hP, hK, hD0, hN⟩ := hv
  have hr := Bd.returns
  subst hsz
  have F : Fx p s m ([.ref (ad 6)] : List Value).toArray meth c cX5_findCosts 3 wsX5_findCosts RX5 D y (mA y nn ad I J A B G s.heap.size) := ⟨⟨Bd.exec, Bd.bytes, hml, findClass_of_methodNamed Bd.named, atoms_spec (ws := wsX5_findCosts) Bd.pre⟩, hK, hN, fun q h => Or.inr h, Bd.notSynchronized⟩
  have hM := m_start (s := s) rfl hP hD0
  have hM := m_mem (I2 := I) (J2 := J) (A2 := (va_up A 32 (A 32))) (B2 := (va_up B 53 (B 53))) (G2 := G) hM (by rfl) (by rfl) (by simp only [up_id]) (by simp only [up_id]) (by rfl)
  have hx := F.1.1
  have hb := F.1.2.1
  have hl := lv_entry ([.ref (ad 6)]) (n := 3) (Nat.le_of_ble_eq_true rfl)
  rw [lg_entry_eq]
  generalize (lg_sl ([.ref (ad 6)]) ++ List.replicate (3 - (lg_sl ([.ref (ad 6)])).length) Slot.unset).toArray = ls at hl ⊢
  have hl : lv_has ls 3 [(0, .ref (ad 6))] := hl
  show W p l e ({ frames := 2, cells := 0, slots := 0, locals := 45 } : Room) s m _ below meth c s.heap [] 0 0 _ _
  obtain ⟨locs, hlo⟩ : ∃ locs : List Loc, locs = [] := ⟨_, rfl⟩
  rw [← hlo]; rw [← hlo] at hM
  unfold f_X5_findCosts at hE
  revert hM
  suffices hH : ∀ H : Heap, MM D y nn ad (mA y nn ad I J A B G s.heap.size) s.heap I J (va_up A 32 (A 32)) (va_up B 53 (B 53)) G H locs → W p l e ({ frames := 2, cells := 0, slots := 0, locals := 45 } : Room) s m ([.ref (ad 6)] : List Value).toArray below meth c H locs 0 0 (MQ below (mQv D y nn ad (mA y nn ad I J A B G s.heap.size) (I, J, (va_up A 32 out.1), (va_up B 53 out.2), G)) ([.ref (ad 6)] : List Value).toArray s 0 0 (mA y nn ad I J A B G s.heap.size)) (F0 m 0 ls []) from hH s.heap
  intro H hM
  refine lv_iconst (v := 0) hx hb dX5_findCosts_0 (by decide) ?_
  refine lv_istore_n (lv' := [(1, .int (0 : Int32)), (0, .ref (ad 6))]) hx hb dX5_findCosts_1 rfl hl (by decide) rfl (fun ls hl => ?_)
  exact k_X5_findCosts_2 F hr (N := N)  N (0 : Int32) (A 32) (B 53) ls H locs hE hM (lv_sub hl [1, 0] rfl)
/-! ===== X5_cheapestEnd: reads I0 A31 B53, writes , frames 0, locals 0 ===== -/
def f_X5_cheapestEnd_4 (N : Nat) (nn : Nat) (i0 : Int32) (a31 : Nat → Int32) (b53 : Nat → Int64)  (nx4 : Int32 → Int32 → Option (Int32)) (x1 : Int32) (x2 : Int32) : Option (Int32) :=
(if i0 ≤ x2 then
some x1
else
ck x2 nn (
(if (0 : Int32) ≤ (a31 x2.toNatClampNeg) then
nx4 x1 (x2 + (1 : Int32))
else
ck x2 nn (
(if (1000000000000 : Int64) ≤ (b53 x2.toNatClampNeg) then
nx4 x1 (x2 + (1 : Int32))
else
(if x1 = (-1 : Int32) then
nx4 x2 (x2 + (1 : Int32))
else
ck x2 nn (
ck x1 nn (
(if (b53 x1.toNatClampNeg) ≤ (b53 x2.toNatClampNeg) then
nx4 x1 (x2 + (1 : Int32))
else
nx4 x2 (x2 + (1 : Int32)))))))))))
def f_X5_cheapestEnd (N : Nat) (nn : Nat) (i0 : Int32) (a31 : Nat → Int32) (b53 : Nat → Int64)   : Option (Int32) :=
lq2 (f_X5_cheapestEnd_4 N nn i0 a31 b53 ) N (-1 : Int32) (0 : Int32)
set_option maxHeartbeats 4000000 in
set_option maxRecDepth 100000 in
theorem s_X5_cheapestEnd_4 {p : Program} {l : Launch} {e : Env} {s : State} {m : MethodId} {args : Array Value} {below : List Frame} {meth : Method} {c : Code} {D : va_G} {y : Nat → ClassId} {nn : Nat} {ad : Nat → Nat} {A0 : Nat → Prop} {I : Nat → Int32} {J : Nat → Int64} {A : Nat → Nat → Int32} {B : Nat → Nat → Int64} {G : Nat → Nat → Nat → Int32} (F : Fx p s m args meth c cX5_cheapestEnd 3 wsX5_cheapestEnd RX5 D y A0) (hr : meth.sig.returnType = (some .int)) {out : Int32} {N : Nat}  (nx4 : Int32 → Int32 → Option (Int32)) (hn4 : ∀ (x1 : Int32) (x2 : Int32) (ls : Array Slot) (H : Heap) (locs : List Loc), nx4 x1 x2 = some out → MM D y nn ad A0 s.heap I J A B G H locs → lv_has ls 3 [(0, .ref (ad 6)), (1, .int x1), (2, .int x2)] → W p l e ({ frames := 0, cells := 0, slots := 0, locals := 0 } : Room) s m args below meth c H locs 0 0 (MQ below (mQi D y nn ad A0 out (I, J, A, B, G)) args s 0 0 A0) (F0 m 4 ls [])) : ∀ (x1 : Int32) (x2 : Int32) (ls : Array Slot) (H : Heap) (locs : List Loc), f_X5_cheapestEnd_4 N nn (I 0) (A 31) (B 53)  nx4 x1 x2 = some out → MM D y nn ad A0 s.heap I J A B G H locs → lv_has ls 3 [(0, .ref (ad 6)), (1, .int x1), (2, .int x2)] → W p l e ({ frames := 0, cells := 0, slots := 0, locals := 0 } : Room) s m args below meth c H locs 0 0 (MQ below (mQi D y nn ad A0 out (I, J, A, B, G)) args s 0 0 A0) (F0 m 4 ls []) := by
  intro x1 x2 ls H locs hE hM hl
  have hx := F.1.1
  have hb := F.1.2.1
  unfold f_X5_cheapestEnd_4 at hE
  refine lv_iload_n hx hb dX5_cheapestEnd_4 rfl (lv_at hl 2 rfl) ?_
  refine lv_aload_n hx hb dX5_cheapestEnd_5 rfl (lv_at hl 0 rfl) ?_
  refine m_get F hM 6 mg_6 rfl 0 (by decide) (by decide +kernel) (by decide +kernel) (v := .ref (ad 1)) rfl dX5_cheapestEnd_6 ?_
  refine m_getN F hM 1 mg_1 rfl 0 (by decide) (by decide +kernel) (by decide +kernel) (v := .int (I 0)) rfl dX5_cheapestEnd_9 ?_
  refine lv_icmp_ge (tgt := 66) hx hb dX5_cheapestEnd_12 (by decide) (fun c12 => ?_) (fun c12 => ?_)
  · replace hE := (if_pos c12).symm.trans hE
    refine lv_iload_n hx hb dX5_cheapestEnd_66 rfl (lv_at hl 1 rfl) ?_
    obtain rfl := Option.some.inj hE
    exact m_iret F hM hr rfl rfl dX5_cheapestEnd_67
  · replace hE := (if_neg c12).symm.trans hE
    refine lv_aload_n hx hb dX5_cheapestEnd_15 rfl (lv_at hl 0 rfl) ?_
    refine m_get F hM 6 mg_6 rfl 2 (by decide) (by decide +kernel) (by decide +kernel) (v := .ref (ad 31)) rfl dX5_cheapestEnd_16 ?_
    refine lv_iload_n hx hb dX5_cheapestEnd_19 rfl (lv_at hl 2 rfl) ?_
    obtain ⟨hi20_0, hE⟩ := ck_some hE
    refine m_iald (g := (A 31)) F hM mg_31 rfl hi20_0 dX5_cheapestEnd_20 ?_
    refine lv_if_ge (tgt := 60) hx hb dX5_cheapestEnd_21 (by decide) (fun c21 => ?_) (fun c21 => ?_)
    · replace hE := (if_pos c21).symm.trans hE
      refine lv_iinc (v := x2 + (1 : Int32)) (lv' := [(2, .int (x2 + (1 : Int32))), (0, .ref (ad 6)), (1, .int x1)]) hx hb dX5_cheapestEnd_60 hl (k := 2) rfl rfl (by decide) rfl (fun ls hl => ?_)
      refine lv_goto (tgt := 4) hx hb dX5_cheapestEnd_63 (by decide) ?_
      exact hn4 x1 (x2 + (1 : Int32)) ls H locs hE hM (lv_sub hl [1, 2, 0] rfl)
    · replace hE := (if_neg c21).symm.trans hE
      refine lv_aload_n hx hb dX5_cheapestEnd_24 rfl (lv_at hl 0 rfl) ?_
      refine m_get F hM 6 mg_6 rfl 3 (by decide) (by decide +kernel) (by decide +kernel) (v := .ref (ad 53)) rfl dX5_cheapestEnd_25 ?_
      refine lv_iload_n hx hb dX5_cheapestEnd_28 rfl (lv_at hl 2 rfl) ?_
      obtain ⟨hi29_1, hE⟩ := ck_some hE
      refine m_lald (g := (B 53)) F hM mg_53 rfl hi29_1 dX5_cheapestEnd_29 ?_
      refine lv_ldc2 (v := (1000000000000)) hx hb F.1.2.2.2.1 (F.1.2.2.2.2 (.constantLong RX5 67 (1000000000000)) (by decide +kernel)) dX5_cheapestEnd_30 ?_
      refine m_lge (tgt := 60) F dX5_cheapestEnd_33 dX5_cheapestEnd_34 (by decide) (fun c34 => ?_) (fun c34 => ?_)
      · replace hE := (if_pos c34).symm.trans hE
        refine lv_iinc (v := x2 + (1 : Int32)) (lv' := [(2, .int (x2 + (1 : Int32))), (0, .ref (ad 6)), (1, .int x1)]) hx hb dX5_cheapestEnd_60 hl (k := 2) rfl rfl (by decide) rfl (fun ls hl => ?_)
        refine lv_goto (tgt := 4) hx hb dX5_cheapestEnd_63 (by decide) ?_
        exact hn4 x1 (x2 + (1 : Int32)) ls H locs hE hM (lv_sub hl [1, 2, 0] rfl)
      · replace hE := (if_neg c34).symm.trans hE
        refine lv_iload_n hx hb dX5_cheapestEnd_37 rfl (lv_at hl 1 rfl) ?_
        refine lv_iconst (v := (-1)) hx hb dX5_cheapestEnd_38 (by decide) ?_
        refine lv_icmp_eq (tgt := 58) hx hb dX5_cheapestEnd_39 (by decide) (fun c39 => ?_) (fun c39 => ?_)
        · replace hE := (if_pos c39).symm.trans hE
          refine lv_iload_n hx hb dX5_cheapestEnd_58 rfl (lv_at hl 2 rfl) ?_
          refine lv_istore_n (lv' := [(1, .int x2), (0, .ref (ad 6)), (2, .int x2)]) hx hb dX5_cheapestEnd_59 rfl hl (by decide) rfl (fun ls hl => ?_)
          refine lv_iinc (v := x2 + (1 : Int32)) (lv' := [(2, .int (x2 + (1 : Int32))), (1, .int x2), (0, .ref (ad 6))]) hx hb dX5_cheapestEnd_60 hl (k := 2) rfl rfl (by decide) rfl (fun ls hl => ?_)
          refine lv_goto (tgt := 4) hx hb dX5_cheapestEnd_63 (by decide) ?_
          exact hn4 x2 (x2 + (1 : Int32)) ls H locs hE hM (lv_sub hl [2, 1, 0] rfl)
        · replace hE := (if_neg c39).symm.trans hE
          refine lv_aload_n hx hb dX5_cheapestEnd_42 rfl (lv_at hl 0 rfl) ?_
          refine m_get F hM 6 mg_6 rfl 3 (by decide) (by decide +kernel) (by decide +kernel) (v := .ref (ad 53)) rfl dX5_cheapestEnd_43 ?_
          refine lv_iload_n hx hb dX5_cheapestEnd_46 rfl (lv_at hl 2 rfl) ?_
          obtain ⟨hi47_2, hE⟩ := ck_some hE
          refine m_lald (g := (B 53)) F hM mg_53 rfl hi47_2 dX5_cheapestEnd_47 ?_
          refine lv_aload_n hx hb dX5_cheapestEnd_48 rfl (lv_at hl 0 rfl) ?_
          refine m_get F hM 6 mg_6 rfl 3 (by decide) (by decide +kernel) (by decide +kernel) (v := .ref (ad 53)) rfl dX5_cheapestEnd_49 ?_
          refine lv_iload_n hx hb dX5_cheapestEnd_52 rfl (lv_at hl 1 rfl) ?_
          obtain ⟨hi53_3, hE⟩ := ck_some hE
          refine m_lald (g := (B 53)) F hM mg_53 rfl hi53_3 dX5_cheapestEnd_53 ?_
          refine m_lge (tgt := 60) F dX5_cheapestEnd_54 dX5_cheapestEnd_55 (by decide) (fun c55 => ?_) (fun c55 => ?_)
          · replace hE := (if_pos c55).symm.trans hE
            refine lv_iinc (v := x2 + (1 : Int32)) (lv' := [(2, .int (x2 + (1 : Int32))), (0, .ref (ad 6)), (1, .int x1)]) hx hb dX5_cheapestEnd_60 hl (k := 2) rfl rfl (by decide) rfl (fun ls hl => ?_)
            refine lv_goto (tgt := 4) hx hb dX5_cheapestEnd_63 (by decide) ?_
            exact hn4 x1 (x2 + (1 : Int32)) ls H locs hE hM (lv_sub hl [1, 2, 0] rfl)
          · replace hE := (if_neg c55).symm.trans hE
            refine lv_iload_n hx hb dX5_cheapestEnd_58 rfl (lv_at hl 2 rfl) ?_
            refine lv_istore_n (lv' := [(1, .int x2), (0, .ref (ad 6)), (2, .int x2)]) hx hb dX5_cheapestEnd_59 rfl hl (by decide) rfl (fun ls hl => ?_)
            refine lv_iinc (v := x2 + (1 : Int32)) (lv' := [(2, .int (x2 + (1 : Int32))), (1, .int x2), (0, .ref (ad 6))]) hx hb dX5_cheapestEnd_60 hl (k := 2) rfl rfl (by decide) rfl (fun ls hl => ?_)
            refine lv_goto (tgt := 4) hx hb dX5_cheapestEnd_63 (by decide) ?_
            exact hn4 x2 (x2 + (1 : Int32)) ls H locs hE hM (lv_sub hl [2, 1, 0] rfl)
theorem k_X5_cheapestEnd_4 {p : Program} {l : Launch} {e : Env} {s : State} {m : MethodId} {args : Array Value} {below : List Frame} {meth : Method} {c : Code} {D : va_G} {y : Nat → ClassId} {nn : Nat} {ad : Nat → Nat} {A0 : Nat → Prop} {I : Nat → Int32} {J : Nat → Int64} {A : Nat → Nat → Int32} {B : Nat → Nat → Int64} {G : Nat → Nat → Nat → Int32} (F : Fx p s m args meth c cX5_cheapestEnd 3 wsX5_cheapestEnd RX5 D y A0) (hr : meth.sig.returnType = (some .int)) {out : Int32} {N : Nat}  : ∀ (n : Nat), ∀ (x1 : Int32) (x2 : Int32) (ls : Array Slot) (H : Heap) (locs : List Loc), lq2 (f_X5_cheapestEnd_4 N nn (I 0) (A 31) (B 53) ) n x1 x2 = some out → MM D y nn ad A0 s.heap I J A B G H locs → lv_has ls 3 [(0, .ref (ad 6)), (1, .int x1), (2, .int x2)] → W p l e ({ frames := 0, cells := 0, slots := 0, locals := 0 } : Room) s m args below meth c H locs 0 0 (MQ below (mQi D y nn ad A0 out (I, J, A, B, G)) args s 0 0 A0) (F0 m 4 ls []) := by
  intro n
  induction n with
  | zero =>
    intro x1 x2 ls H locs hE
    cases (show (none : Option _) = some out from hE)
  | succ n ih =>
    intro x1 x2 ls H locs hE hM hl
    exact s_X5_cheapestEnd_4 F hr (N := N)  (lq2 (f_X5_cheapestEnd_4 N nn (I 0) (A 31) (B 53) ) n) ih x1 x2 ls H locs hE hM hl
set_option maxHeartbeats 4000000 in
set_option maxRecDepth 100000 in
theorem c_X5_cheapestEnd (l : Launch) (D : va_G) (y : Nat → ClassId) (nn : Nat) (ad : Nat → Nat) (sz : Nat) (I : Nat → Int32) (J : Nat → Int64) (A : Nat → Nat → Int32) (B : Nat → Nat → Int64) (G : Nat → Nat → Nat → Int32)  (N : Nat) (out : Int32) (hE : f_X5_cheapestEnd N nn (I 0) (A 31) (B 53)   = some out) : Met l yX5_cheapestEnd wsX5_cheapestEnd ({ frames := 0, cells := 0, slots := 0, locals := 0 } : Room) (mPc [.ref (ad 6)] D y nn ad sz I J A B G) (mQi D y nn ad (mA y nn ad I J A B G sz) out (I, J, A, B, G)) 0 0 (mA y nn ad I J A B G sz) := by
  refine Met.ofW (cc := cX5_cheapestEnd) (maxL := 3) (ret := (some .int)) (by decide) rfl ?_
  intro p e s m args below meth c s₁ Bd hml hv
  obtain ⟨rfl, hsz, hP, hK, hD0, hN⟩ := hv
  have hr := Bd.returns
  subst hsz
  have F : Fx p s m ([.ref (ad 6)] : List Value).toArray meth c cX5_cheapestEnd 3 wsX5_cheapestEnd RX5 D y (mA y nn ad I J A B G s.heap.size) := ⟨⟨Bd.exec, Bd.bytes, hml, findClass_of_methodNamed Bd.named, atoms_spec (ws := wsX5_cheapestEnd) Bd.pre⟩, hK, hN, fun q h => Or.inr h, Bd.notSynchronized⟩
  have hM := m_start (s := s) rfl hP hD0
  have hM := m_mem (I2 := I) (J2 := J) (A2 := A) (B2 := B) (G2 := G) hM (by rfl) (by rfl) (by rfl) (by rfl) (by rfl)
  have hx := F.1.1
  have hb := F.1.2.1
  have hl := lv_entry ([.ref (ad 6)]) (n := 3) (Nat.le_of_ble_eq_true rfl)
  rw [lg_entry_eq]
  generalize (lg_sl ([.ref (ad 6)]) ++ List.replicate (3 - (lg_sl ([.ref (ad 6)])).length) Slot.unset).toArray = ls at hl ⊢
  have hl : lv_has ls 3 [(0, .ref (ad 6))] := hl
  show W p l e ({ frames := 0, cells := 0, slots := 0, locals := 0 } : Room) s m _ below meth c s.heap [] 0 0 _ _
  obtain ⟨locs, hlo⟩ : ∃ locs : List Loc, locs = [] := ⟨_, rfl⟩
  rw [← hlo]; rw [← hlo] at hM
  unfold f_X5_cheapestEnd at hE
  revert hM
  suffices hH : ∀ H : Heap, MM D y nn ad (mA y nn ad I J A B G s.heap.size) s.heap I J A B G H locs → W p l e ({ frames := 0, cells := 0, slots := 0, locals := 0 } : Room) s m ([.ref (ad 6)] : List Value).toArray below meth c H locs 0 0 (MQ below (mQi D y nn ad (mA y nn ad I J A B G s.heap.size) out (I, J, A, B, G)) ([.ref (ad 6)] : List Value).toArray s 0 0 (mA y nn ad I J A B G s.heap.size)) (F0 m 0 ls []) from hH s.heap
  intro H hM
  refine lv_iconst (v := (-1)) hx hb dX5_cheapestEnd_0 (by decide) ?_
  refine lv_istore_n (lv' := [(1, .int (-1 : Int32)), (0, .ref (ad 6))]) hx hb dX5_cheapestEnd_1 rfl hl (by decide) rfl (fun ls hl => ?_)
  refine lv_iconst (v := 0) hx hb dX5_cheapestEnd_2 (by decide) ?_
  refine lv_istore_n (lv' := [(2, .int (0 : Int32)), (1, .int (-1 : Int32)), (0, .ref (ad 6))]) hx hb dX5_cheapestEnd_3 rfl hl (by decide) rfl (fun ls hl => ?_)
  exact k_X5_cheapestEnd_4 F hr (N := N)  N (-1 : Int32) (0 : Int32) ls H locs hE hM (lv_sub hl [2, 1, 0] rfl)
/-! ===== X5_goTo: reads I0 A32, writes A31 G4, frames 0, locals 0 ===== -/
def f_X5_goTo_83 (N : Nat) (nn : Nat) (i0 : Int32) (a32 : Nat → Int32)  (x1 : Int32) (x2 : Int32) (a31' : Nat → Int32) (g4' : Nat → Nat → Int32) : Option ((Nat → Int32) × (Nat → Nat → Int32)) :=
ck x2 nn (
ck x2 nn (
nmd (upd a31' x2.toNatClampNeg ((a31' x2.toNatClampNeg) - (1 : Int32))) fun w92_2 =>
ck x1 nn (
ck x1 nn (
nmd (upd w92_2 x1.toNatClampNeg ((w92_2 x1.toNatClampNeg) + (1 : Int32))) fun w102_5 =>
some (w102_5, g4')))))
def f_X5_goTo_4 (N : Nat) (nn : Nat) (i0 : Int32) (a32 : Nat → Int32)  (nx4 : Int32 → Int32 → Int32 → (Nat → Int32) → (Nat → Nat → Int32) → Option ((Nat → Int32) × (Nat → Nat → Int32))) (x1 : Int32) (x2 : Int32) (x3 : Int32) (a31' : Nat → Int32) (g4' : Nat → Nat → Int32) : Option ((Nat → Int32) × (Nat → Nat → Int32)) :=
(if i0 ≤ x3 then
f_X5_goTo_83 N nn i0 a32  x1 x2 a31' g4'
else
ck x2 nn (
(if (a32 x2.toNatClampNeg) = (-1 : Int32) then
f_X5_goTo_83 N nn i0 a32  x1 x2 a31' g4'
else
ck x2 nn (
ck x2 nn (
ck (a32 x2.toNatClampNeg) nn (
(if (g4' x2.toNatClampNeg (a32 x2.toNatClampNeg).toNatClampNeg) ≤ (0 : Int32) then
ck (a32 x2.toNatClampNeg) nn (
ck x2 nn (
ck x2 nn (
nmd (va_up g4' (a32 x2.toNatClampNeg).toNatClampNeg (upd (g4' (a32 x2.toNatClampNeg).toNatClampNeg) x2.toNatClampNeg ((g4' (a32 x2.toNatClampNeg).toNatClampNeg x2.toNatClampNeg) + (1 : Int32)))) fun w73_13 =>
nx4 x1 (a32 x2.toNatClampNeg) (x3 + (1 : Int32)) a31' w73_13)))
else
ck x2 nn (
ck (a32 x2.toNatClampNeg) nn (
ck (a32 x2.toNatClampNeg) nn (
nmd (va_up g4' x2.toNatClampNeg (upd (g4' x2.toNatClampNeg) (a32 x2.toNatClampNeg).toNatClampNeg ((g4' x2.toNatClampNeg (a32 x2.toNatClampNeg).toNatClampNeg) - (1 : Int32)))) fun w57_17 =>
nx4 x1 (a32 x2.toNatClampNeg) (x3 + (1 : Int32)) a31' w57_17))))))))))
def f_X5_goTo (N : Nat) (nn : Nat) (i0 : Int32) (a32 : Nat → Int32) (a31 : Nat → Int32) (g4 : Nat → Nat → Int32) (p1 : Int32) : Option ((Nat → Int32) × (Nat → Nat → Int32)) :=
lq5 (f_X5_goTo_4 N nn i0 a32 ) N p1 p1 (0 : Int32) a31 g4
set_option maxHeartbeats 4000000 in
set_option maxRecDepth 100000 in
theorem s_X5_goTo_83 {p : Program} {l : Launch} {e : Env} {s : State} {m : MethodId} {args : Array Value} {below : List Frame} {meth : Method} {c : Code} {D : va_G} {y : Nat → ClassId} {nn : Nat} {ad : Nat → Nat} {A0 : Nat → Prop} {I : Nat → Int32} {J : Nat → Int64} {A : Nat → Nat → Int32} {B : Nat → Nat → Int64} {G : Nat → Nat → Nat → Int32} (F : Fx p s m args meth c cX5_goTo 5 wsX5_goTo RX5 D y A0) (hr : meth.sig.returnType = none) {out : (Nat → Int32) × (Nat → Nat → Int32)} {N : Nat}  : ∀ (x1 : Int32) (x2 : Int32) (a31' : Nat → Int32) (g4' : Nat → Nat → Int32) (ls : Array Slot) (H : Heap) (locs : List Loc), f_X5_goTo_83 N nn (I 0) (A 32)  x1 x2 a31' g4' = some out → MM D y nn ad A0 s.heap I J (va_up A 31 a31') B (va_up G 4 g4') H locs → lv_has ls 5 [(0, .ref (ad 6)), (1, .int x1), (2, .int x2)] → W p l e ({ frames := 0, cells := 0, slots := 0, locals := 0 } : Room) s m args below meth c H locs 0 0 (MQ below (mQv D y nn ad A0 (I, J, (va_up A 31 out.1), B, (va_up G 4 out.2))) args s 0 0 A0) (F0 m 83 ls []) := by
  intro x1 x2 a31' g4' ls H locs hE hM hl
  have hx := F.1.1
  have hb := F.1.2.1
  unfold f_X5_goTo_83 at hE
  refine lv_aload_n hx hb dX5_goTo_83 rfl (lv_at hl 0 rfl) ?_
  refine m_get F hM 6 mg_6 rfl 2 (by decide) (by decide +kernel) (by decide +kernel) (v := .ref (ad 31)) rfl dX5_goTo_84 ?_
  refine lv_iload_n hx hb dX5_goTo_87 rfl (lv_at hl 2 rfl) ?_
  refine lv_dup2_11 hx hb dX5_goTo_88 rfl rfl ?_
  obtain ⟨hi89_0, hE⟩ := ck_some hE
  refine m_iald (g := a31') F hM mg_31 rfl hi89_0 dX5_goTo_89 ?_
  refine lv_iconst (v := 1) hx hb dX5_goTo_90 (by decide) ?_
  refine lv_isub hx hb dX5_goTo_91 ?_
  obtain ⟨hi92_1, hE⟩ := ck_some hE
  obtain ⟨w92_2, ew92_2, hE⟩ := nmd_some hE
  refine m_iast (f := a31') (A' := (va_up A 31 w92_2)) F hM mg_31 ms_31 (by rw [ew92_2]; exact (bx_uu _ _ _ _)) hi92_1 dX5_goTo_92 (fun H locs hM => ?_)
  refine lv_aload_n hx hb dX5_goTo_93 rfl (lv_at hl 0 rfl) ?_
  refine m_get F hM 6 mg_6 rfl 2 (by decide) (by decide +kernel) (by decide +kernel) (v := .ref (ad 31)) rfl dX5_goTo_94 ?_
  refine lv_iload_n hx hb dX5_goTo_97 rfl (lv_at hl 1 rfl) ?_
  refine lv_dup2_11 hx hb dX5_goTo_98 rfl rfl ?_
  obtain ⟨hi99_3, hE⟩ := ck_some hE
  refine m_iald (g := w92_2) F hM mg_31 rfl hi99_3 dX5_goTo_99 ?_
  refine lv_iconst (v := 1) hx hb dX5_goTo_100 (by decide) ?_
  refine lv_iadd hx hb dX5_goTo_101 ?_
  obtain ⟨hi102_4, hE⟩ := ck_some hE
  obtain ⟨w102_5, ew102_5, hE⟩ := nmd_some hE
  refine m_iast (f := w92_2) (A' := (va_up A 31 w102_5)) F hM mg_31 ms_31 (by rw [ew102_5]; exact (bx_uu _ _ _ _)) hi102_4 dX5_goTo_102 (fun H locs hM => ?_)
  obtain rfl := Option.some.inj hE
  exact m_vret F hM hr rfl dX5_goTo_103
set_option maxHeartbeats 4000000 in
set_option maxRecDepth 100000 in
theorem s_X5_goTo_4 {p : Program} {l : Launch} {e : Env} {s : State} {m : MethodId} {args : Array Value} {below : List Frame} {meth : Method} {c : Code} {D : va_G} {y : Nat → ClassId} {nn : Nat} {ad : Nat → Nat} {A0 : Nat → Prop} {I : Nat → Int32} {J : Nat → Int64} {A : Nat → Nat → Int32} {B : Nat → Nat → Int64} {G : Nat → Nat → Nat → Int32} (F : Fx p s m args meth c cX5_goTo 5 wsX5_goTo RX5 D y A0) (hr : meth.sig.returnType = none) {out : (Nat → Int32) × (Nat → Nat → Int32)} {N : Nat}  (nx4 : Int32 → Int32 → Int32 → (Nat → Int32) → (Nat → Nat → Int32) → Option ((Nat → Int32) × (Nat → Nat → Int32))) (hn4 : ∀ (x1 : Int32) (x2 : Int32) (x3 : Int32) (a31' : Nat → Int32) (g4' : Nat → Nat → Int32) (ls : Array Slot) (H : Heap) (locs : List Loc), nx4 x1 x2 x3 a31' g4' = some out → MM D y nn ad A0 s.heap I J (va_up A 31 a31') B (va_up G 4 g4') H locs → lv_has ls 5 [(0, .ref (ad 6)), (1, .int x1), (2, .int x2), (3, .int x3)] → W p l e ({ frames := 0, cells := 0, slots := 0, locals := 0 } : Room) s m args below meth c H locs 0 0 (MQ below (mQv D y nn ad A0 (I, J, (va_up A 31 out.1), B, (va_up G 4 out.2))) args s 0 0 A0) (F0 m 4 ls [])) : ∀ (x1 : Int32) (x2 : Int32) (x3 : Int32) (a31' : Nat → Int32) (g4' : Nat → Nat → Int32) (ls : Array Slot) (H : Heap) (locs : List Loc), f_X5_goTo_4 N nn (I 0) (A 32)  nx4 x1 x2 x3 a31' g4' = some out → MM D y nn ad A0 s.heap I J (va_up A 31 a31') B (va_up G 4 g4') H locs → lv_has ls 5 [(0, .ref (ad 6)), (1, .int x1), (2, .int x2), (3, .int x3)] → W p l e ({ frames := 0, cells := 0, slots := 0, locals := 0 } : Room) s m args below meth c H locs 0 0 (MQ below (mQv D y nn ad A0 (I, J, (va_up A 31 out.1), B, (va_up G 4 out.2))) args s 0 0 A0) (F0 m 4 ls []) := by
  intro x1 x2 x3 a31' g4' ls H locs hE hM hl
  have hx := F.1.1
  have hb := F.1.2.1
  unfold f_X5_goTo_4 at hE
  refine lv_iload_n hx hb dX5_goTo_4 rfl (lv_at hl 3 rfl) ?_
  refine lv_aload_n hx hb dX5_goTo_5 rfl (lv_at hl 0 rfl) ?_
  refine m_get F hM 6 mg_6 rfl 0 (by decide) (by decide +kernel) (by decide +kernel) (v := .ref (ad 1)) rfl dX5_goTo_6 ?_
  refine m_getN F hM 1 mg_1 rfl 0 (by decide) (by decide +kernel) (by decide +kernel) (v := .int (I 0)) rfl dX5_goTo_9 ?_
  refine lv_icmp_ge (tgt := 83) hx hb dX5_goTo_12 (by decide) (fun c12 => ?_) (fun c12 => ?_)
  · replace hE := (if_pos c12).symm.trans hE
    exact s_X5_goTo_83 F hr (N := N)  x1 x2 a31' g4' ls H locs hE hM (lv_sub hl [0, 1, 2] rfl)
  · replace hE := (if_neg c12).symm.trans hE
    refine lv_aload_n hx hb dX5_goTo_15 rfl (lv_at hl 0 rfl) ?_
    refine m_get F hM 6 mg_6 rfl 4 (by decide) (by decide +kernel) (by decide +kernel) (v := .ref (ad 32)) rfl dX5_goTo_16 ?_
    refine lv_iload_n hx hb dX5_goTo_19 rfl (lv_at hl 2 rfl) ?_
    obtain ⟨hi20_6, hE⟩ := ck_some hE
    refine m_iald (g := (A 32)) F hM mg_32 rfl hi20_6 dX5_goTo_20 ?_
    refine lv_iconst (v := (-1)) hx hb dX5_goTo_21 (by decide) ?_
    refine lv_icmp_eq (tgt := 83) hx hb dX5_goTo_22 (by decide) (fun c22 => ?_) (fun c22 => ?_)
    · replace hE := (if_pos c22).symm.trans hE
      exact s_X5_goTo_83 F hr (N := N)  x1 x2 a31' g4' ls H locs hE hM (lv_sub hl [0, 1, 2] rfl)
    · replace hE := (if_neg c22).symm.trans hE
      refine lv_aload_n hx hb dX5_goTo_25 rfl (lv_at hl 0 rfl) ?_
      refine m_get F hM 6 mg_6 rfl 4 (by decide) (by decide +kernel) (by decide +kernel) (v := .ref (ad 32)) rfl dX5_goTo_26 ?_
      refine lv_iload_n hx hb dX5_goTo_29 rfl (lv_at hl 2 rfl) ?_
      obtain ⟨hi30_7, hE⟩ := ck_some hE
      refine m_iald (g := (A 32)) F hM mg_32 rfl hi30_7 dX5_goTo_30 ?_
      refine lv_istore (lv' := [(4, .int ((A 32) x2.toNatClampNeg)), (0, .ref (ad 6)), (1, .int x1), (2, .int x2), (3, .int x3)]) hx hb dX5_goTo_31 hl (by decide) rfl (fun ls hl => ?_)
      refine lv_aload_n hx hb dX5_goTo_33 rfl (lv_at hl 1 rfl) ?_
      refine m_get F hM 6 mg_6 rfl 1 (by decide) (by decide +kernel) (by decide +kernel) (v := .ref (ad 12)) rfl dX5_goTo_34 ?_
      refine lv_iload_n hx hb dX5_goTo_37 rfl (lv_at hl 3 rfl) ?_
      obtain ⟨hi38_8, hE⟩ := ck_some hE
      refine m_aald F hM mg_12 hi38_8 dX5_goTo_38 ?_
      refine lv_iload hx hb dX5_goTo_39 (lv_at hl 0 rfl) ?_
      obtain ⟨hi41_9, hE⟩ := ck_some hE
      refine m_rald (M := g4') F hM (by decide) (vp_lt hi38_8) rfl hi41_9 dX5_goTo_41 ?_
      refine lv_if_le (tgt := 61) hx hb dX5_goTo_42 (by decide) (fun c42 => ?_) (fun c42 => ?_)
      · replace hE := (if_pos c42).symm.trans hE
        refine lv_aload_n hx hb dX5_goTo_61 rfl (lv_at hl 1 rfl) ?_
        refine m_get F hM 6 mg_6 rfl 1 (by decide) (by decide +kernel) (by decide +kernel) (v := .ref (ad 12)) rfl dX5_goTo_62 ?_
        refine lv_iload hx hb dX5_goTo_65 (lv_at hl 0 rfl) ?_
        obtain ⟨hi67_10, hE⟩ := ck_some hE
        refine m_aald F hM mg_12 hi67_10 dX5_goTo_67 ?_
        refine lv_iload_n hx hb dX5_goTo_68 rfl (lv_at hl 3 rfl) ?_
        refine lv_dup2_11 hx hb dX5_goTo_69 rfl rfl ?_
        obtain ⟨hi70_11, hE⟩ := ck_some hE
        refine m_rald (M := g4') F hM (by decide) (vp_lt hi67_10) rfl hi70_11 dX5_goTo_70 ?_
        refine lv_iconst (v := 1) hx hb dX5_goTo_71 (by decide) ?_
        refine lv_iadd hx hb dX5_goTo_72 ?_
        obtain ⟨hi73_12, hE⟩ := ck_some hE
        obtain ⟨w73_13, ew73_13, hE⟩ := nmd_some hE
        refine m_rast (M := g4') (G' := (va_up G 4 w73_13)) F hM (by decide) (vp_lt hi67_10) rfl (by rw [ew73_13]; exact (bx_uu _ _ _ _)) hi73_12 dX5_goTo_73 (fun H locs hM => ?_)
        refine lv_iload hx hb dX5_goTo_74 (lv_at hl 0 rfl) ?_
        refine lv_istore_n (lv' := [(2, .int ((A 32) x2.toNatClampNeg)), (4, .int ((A 32) x2.toNatClampNeg)), (0, .ref (ad 6)), (1, .int x1), (3, .int x3)]) hx hb dX5_goTo_76 rfl hl (by decide) rfl (fun ls hl => ?_)
        refine lv_iinc (v := x3 + (1 : Int32)) (lv' := [(3, .int (x3 + (1 : Int32))), (2, .int ((A 32) x2.toNatClampNeg)), (4, .int ((A 32) x2.toNatClampNeg)), (0, .ref (ad 6)), (1, .int x1)]) hx hb dX5_goTo_77 hl (k := 4) rfl rfl (by decide) rfl (fun ls hl => ?_)
        refine lv_goto (tgt := 4) hx hb dX5_goTo_80 (by decide) ?_
        exact hn4 x1 ((A 32) x2.toNatClampNeg) (x3 + (1 : Int32)) a31' w73_13 ls H locs hE hM (lv_sub hl [3, 4, 1, 0] rfl)
      · replace hE := (if_neg c42).symm.trans hE
        refine lv_aload_n hx hb dX5_goTo_45 rfl (lv_at hl 1 rfl) ?_
        refine m_get F hM 6 mg_6 rfl 1 (by decide) (by decide +kernel) (by decide +kernel) (v := .ref (ad 12)) rfl dX5_goTo_46 ?_
        refine lv_iload_n hx hb dX5_goTo_49 rfl (lv_at hl 3 rfl) ?_
        obtain ⟨hi50_14, hE⟩ := ck_some hE
        refine m_aald F hM mg_12 hi50_14 dX5_goTo_50 ?_
        refine lv_iload hx hb dX5_goTo_51 (lv_at hl 0 rfl) ?_
        refine lv_dup2_11 hx hb dX5_goTo_53 rfl rfl ?_
        obtain ⟨hi54_15, hE⟩ := ck_some hE
        refine m_rald (M := g4') F hM (by decide) (vp_lt hi50_14) rfl hi54_15 dX5_goTo_54 ?_
        refine lv_iconst (v := 1) hx hb dX5_goTo_55 (by decide) ?_
        refine lv_isub hx hb dX5_goTo_56 ?_
        obtain ⟨hi57_16, hE⟩ := ck_some hE
        obtain ⟨w57_17, ew57_17, hE⟩ := nmd_some hE
        refine m_rast (M := g4') (G' := (va_up G 4 w57_17)) F hM (by decide) (vp_lt hi50_14) rfl (by rw [ew57_17]; exact (bx_uu _ _ _ _)) hi57_16 dX5_goTo_57 (fun H locs hM => ?_)
        refine lv_goto (tgt := 74) hx hb dX5_goTo_58 (by decide) ?_
        refine lv_iload hx hb dX5_goTo_74 (lv_at hl 0 rfl) ?_
        refine lv_istore_n (lv' := [(2, .int ((A 32) x2.toNatClampNeg)), (4, .int ((A 32) x2.toNatClampNeg)), (0, .ref (ad 6)), (1, .int x1), (3, .int x3)]) hx hb dX5_goTo_76 rfl hl (by decide) rfl (fun ls hl => ?_)
        refine lv_iinc (v := x3 + (1 : Int32)) (lv' := [(3, .int (x3 + (1 : Int32))), (2, .int ((A 32) x2.toNatClampNeg)), (4, .int ((A 32) x2.toNatClampNeg)), (0, .ref (ad 6)), (1, .int x1)]) hx hb dX5_goTo_77 hl (k := 4) rfl rfl (by decide) rfl (fun ls hl => ?_)
        refine lv_goto (tgt := 4) hx hb dX5_goTo_80 (by decide) ?_
        exact hn4 x1 ((A 32) x2.toNatClampNeg) (x3 + (1 : Int32)) a31' w57_17 ls H locs hE hM (lv_sub hl [3, 4, 1, 0] rfl)
theorem k_X5_goTo_4 {p : Program} {l : Launch} {e : Env} {s : State} {m : MethodId} {args : Array Value} {below : List Frame} {meth : Method} {c : Code} {D : va_G} {y : Nat → ClassId} {nn : Nat} {ad : Nat → Nat} {A0 : Nat → Prop} {I : Nat → Int32} {J : Nat → Int64} {A : Nat → Nat → Int32} {B : Nat → Nat → Int64} {G : Nat → Nat → Nat → Int32} (F : Fx p s m args meth c cX5_goTo 5 wsX5_goTo RX5 D y A0) (hr : meth.sig.returnType = none) {out : (Nat → Int32) × (Nat → Nat → Int32)} {N : Nat}  : ∀ (n : Nat), ∀ (x1 : Int32) (x2 : Int32) (x3 : Int32) (a31' : Nat → Int32) (g4' : Nat → Nat → Int32) (ls : Array Slot) (H : Heap) (locs : List Loc), lq5 (f_X5_goTo_4 N nn (I 0) (A 32) ) n x1 x2 x3 a31' g4' = some out → MM D y nn ad A0 s.heap I J (va_up A 31 a31') B (va_up G 4 g4') H locs → lv_has ls 5 [(0, .ref (ad 6)), (1, .int x1), (2, .int x2), (3, .int x3)] → W p l e ({ frames := 0, cells := 0, slots := 0, locals := 0 } : Room) s m args below meth c H locs 0 0 (MQ below (mQv D y nn ad A0 (I, J, (va_up A 31 out.1), B, (va_up G 4 out.2))) args s 0 0 A0) (F0 m 4 ls []) := by
  intro n
  induction n with
  | zero =>
    intro x1 x2 x3 a31' g4' ls H locs hE
    cases (show (none : Option _) = some out from hE)
  | succ n ih =>
    intro x1 x2 x3 a31' g4' ls H locs hE hM hl
    exact s_X5_goTo_4 F hr (N := N)  (lq5 (f_X5_goTo_4 N nn (I 0) (A 32) ) n) ih x1 x2 x3 a31' g4' ls H locs hE hM hl
set_option maxHeartbeats 4000000 in
set_option maxRecDepth 100000 in
theorem c_X5_goTo (l : Launch) (D : va_G) (y : Nat → ClassId) (nn : Nat) (ad : Nat → Nat) (sz : Nat) (I : Nat → Int32) (J : Nat → Int64) (A : Nat → Nat → Int32) (B : Nat → Nat → Int64) (G : Nat → Nat → Nat → Int32) (p1 : Int32) (N : Nat) (out : (Nat → Int32) × (Nat → Nat → Int32)) (hE : f_X5_goTo N nn (I 0) (A 32) (A 31) (G 4) p1 = some out) : Met l yX5_goTo wsX5_goTo ({ frames := 0, cells := 0, slots := 0, locals := 0 } : Room) (mPc [.ref (ad 6), .int p1] D y nn ad sz I J A B G) (mQv D y nn ad (mA y nn ad I J A B G sz) (I, J, (va_up A 31 out.1), B, (va_up G 4 out.2))) 0 0 (mA y nn ad I J A B G sz) := by
  refine Met.ofW (cc := cX5_goTo) (maxL := 5) (ret := none) (by decide) rfl ?_
  intro p e s m args below meth c s₁ Bd hml hv
  obtain ⟨rfl, hsz, hP, hK, hD0, hN⟩ := hv
  have hr := Bd.returns
  subst hsz
  have F : Fx p s m ([.ref (ad 6), .int p1] : List Value).toArray meth c cX5_goTo 5 wsX5_goTo RX5 D y (mA y nn ad I J A B G s.heap.size) := ⟨⟨Bd.exec, Bd.bytes, hml, findClass_of_methodNamed Bd.named, atoms_spec (ws := wsX5_goTo) Bd.pre⟩, hK, hN, fun q h => Or.inr h, Bd.notSynchronized⟩
  have hM := m_start (s := s) rfl hP hD0
  have hM := m_mem (I2 := I) (J2 := J) (A2 := (va_up A 31 (A 31))) (B2 := B) (G2 := (va_up G 4 (G 4))) hM (by rfl) (by rfl) (by simp only [up_id]) (by rfl) (by simp only [up_id])
  have hx := F.1.1
  have hb := F.1.2.1
  have hl := lv_entry ([.ref (ad 6), .int p1]) (n := 5) (Nat.le_of_ble_eq_true rfl)
  rw [lg_entry_eq]
  generalize (lg_sl ([.ref (ad 6), .int p1]) ++ List.replicate (5 - (lg_sl ([.ref (ad 6), .int p1])).length) Slot.unset).toArray = ls at hl ⊢
  have hl : lv_has ls 5 [(0, .ref (ad 6)), (1, .int p1)] := hl
  show W p l e ({ frames := 0, cells := 0, slots := 0, locals := 0 } : Room) s m _ below meth c s.heap [] 0 0 _ _
  obtain ⟨locs, hlo⟩ : ∃ locs : List Loc, locs = [] := ⟨_, rfl⟩
  rw [← hlo]; rw [← hlo] at hM
  unfold f_X5_goTo at hE
  revert hM
  suffices hH : ∀ H : Heap, MM D y nn ad (mA y nn ad I J A B G s.heap.size) s.heap I J (va_up A 31 (A 31)) B (va_up G 4 (G 4)) H locs → W p l e ({ frames := 0, cells := 0, slots := 0, locals := 0 } : Room) s m ([.ref (ad 6), .int p1] : List Value).toArray below meth c H locs 0 0 (MQ below (mQv D y nn ad (mA y nn ad I J A B G s.heap.size) (I, J, (va_up A 31 out.1), B, (va_up G 4 out.2))) ([.ref (ad 6), .int p1] : List Value).toArray s 0 0 (mA y nn ad I J A B G s.heap.size)) (F0 m 0 ls []) from hH s.heap
  intro H hM
  refine lv_iload_n hx hb dX5_goTo_0 rfl (lv_at hl 1 rfl) ?_
  refine lv_istore_n (lv' := [(2, .int p1), (0, .ref (ad 6)), (1, .int p1)]) hx hb dX5_goTo_1 rfl hl (by decide) rfl (fun ls hl => ?_)
  refine lv_iconst (v := 0) hx hb dX5_goTo_2 (by decide) ?_
  refine lv_istore_n (lv' := [(3, .int (0 : Int32)), (2, .int p1), (0, .ref (ad 6)), (1, .int p1)]) hx hb dX5_goTo_3 rfl hl (by decide) rfl (fun ls hl => ?_)
  exact k_X5_goTo_4 F hr (N := N)  N p1 p1 (0 : Int32) (A 31) (G 4) ls H locs hE hM (lv_sub hl [2, 3, 1, 0] rfl)
/-! ===== X5_leastWay: reads I0 G0 G1, writes A31 A32 B53 G4, frames 3, locals 74 ===== -/
def f_X5_leastWay_38 (N : Nat) (nn : Nat) (i0 : Int32) (g0 : Nat → Nat → Int32) (g1 : Nat → Nat → Int32)  (nx38 : Int64 → Int32 → Int32 → (Nat → Int32) → (Nat → Int32) → (Nat → Int64) → (Nat → Nat → Int32) → Option (Int64 × (Nat → Int32) × (Nat → Int32) × (Nat → Int64) × (Nat → Nat → Int32))) (x1 : Int64) (x3 : Int32) (x4 : Int32) (a31' : Nat → Int32) (a32' : Nat → Int32) (b53' : Nat → Int64) (g4' : Nat → Nat → Int32) : Option (Int64 × (Nat → Int32) × (Nat → Int32) × (Nat → Int64) × (Nat → Nat → Int32)) :=
(if x3 ≤ x4 then
some (x1, a31', a32', b53', g4')
else
bd (f_X5_findCosts N nn i0 a31' g0 g4' a32' b53') fun o45_2 =>
bd (f_X5_cheapestEnd N nn i0 a31' o45_2.2) fun o49_3 =>
(if o49_3 = (-1 : Int32) then
some (x1, a31', o45_2.1, o45_2.2, g4')
else
ck o49_3 nn (
bd (f_X5_goTo N nn i0 o45_2.1 a31' g4' o49_3) fun o76_5 =>
nx38 (x1 + (o45_2.2 o49_3.toNatClampNeg)) x3 (x4 + (1 : Int32)) o76_5.1 o45_2.1 o45_2.2 o76_5.2)))
def f_X5_leastWay (N : Nat) (nn : Nat) (i0 : Int32) (g0 : Nat → Nat → Int32) (g1 : Nat → Nat → Int32) (a31 : Nat → Int32) (a32 : Nat → Int32) (b53 : Nat → Int64) (g4 : Nat → Nat → Int32)  : Option (Int64 × (Nat → Int32) × (Nat → Int32) × (Nat → Int64) × (Nat → Nat → Int32)) :=
bd (f_X3_waysLeadFromEachToEach N nn i0 g0 g1) fun o4_0 =>
(if o4_0 = (0 : Int32) then
some ((-1 : Int64), a31, a32, b53, g4)
else
bd (f_X5_goEachOnce N nn i0 g0 a31 g4) fun o15_1 =>
lq7 (f_X5_leastWay_38 N nn i0 g0 g1 ) N o15_1.1 (i0 * i0) (0 : Int32) o15_1.2.1 a32 b53 o15_1.2.2)
set_option maxHeartbeats 4000000 in
set_option maxRecDepth 100000 in
theorem s_X5_leastWay_38 {p : Program} {l : Launch} {e : Env} {s : State} {m : MethodId} {args : Array Value} {below : List Frame} {meth : Method} {c : Code} {D : va_G} {y : Nat → ClassId} {nn : Nat} {ad : Nat → Nat} {A0 : Nat → Prop} {I : Nat → Int32} {J : Nat → Int64} {A : Nat → Nat → Int32} {B : Nat → Nat → Int64} {G : Nat → Nat → Nat → Int32} (F : Fx p s m args meth c cX5_leastWay 6 wsX5_leastWay RX5 D y A0) (hr : meth.sig.returnType = (some .long)) {out : Int64 × (Nat → Int32) × (Nat → Int32) × (Nat → Int64) × (Nat → Nat → Int32)} {N : Nat}  (nx38 : Int64 → Int32 → Int32 → (Nat → Int32) → (Nat → Int32) → (Nat → Int64) → (Nat → Nat → Int32) → Option (Int64 × (Nat → Int32) × (Nat → Int32) × (Nat → Int64) × (Nat → Nat → Int32))) (hn38 : ∀ (x1 : Int64) (x3 : Int32) (x4 : Int32) (a31' : Nat → Int32) (a32' : Nat → Int32) (b53' : Nat → Int64) (g4' : Nat → Nat → Int32) (ls : Array Slot) (H : Heap) (locs : List Loc), nx38 x1 x3 x4 a31' a32' b53' g4' = some out → MM D y nn ad A0 s.heap I J (va_up (va_up A 31 a31') 32 a32') (va_up B 53 b53') (va_up G 4 g4') H locs → lv_has ls 6 [(0, .ref (ad 6)), (1, .long x1), (3, .int x3), (4, .int x4)] → W p l e ({ frames := 3, cells := 0, slots := 0, locals := 74 } : Room) s m args below meth c H locs 0 0 (MQ below (mQl D y nn ad A0 out.1 (I, J, (va_up (va_up A 31 out.2.1) 32 out.2.2.1), (va_up B 53 out.2.2.2.1), (va_up G 4 out.2.2.2.2))) args s 0 0 A0) (F0 m 38 ls [])) : ∀ (x1 : Int64) (x3 : Int32) (x4 : Int32) (a31' : Nat → Int32) (a32' : Nat → Int32) (b53' : Nat → Int64) (g4' : Nat → Nat → Int32) (ls : Array Slot) (H : Heap) (locs : List Loc), f_X5_leastWay_38 N nn (I 0) (G 0) (G 1)  nx38 x1 x3 x4 a31' a32' b53' g4' = some out → MM D y nn ad A0 s.heap I J (va_up (va_up A 31 a31') 32 a32') (va_up B 53 b53') (va_up G 4 g4') H locs → lv_has ls 6 [(0, .ref (ad 6)), (1, .long x1), (3, .int x3), (4, .int x4)] → W p l e ({ frames := 3, cells := 0, slots := 0, locals := 74 } : Room) s m args below meth c H locs 0 0 (MQ below (mQl D y nn ad A0 out.1 (I, J, (va_up (va_up A 31 out.2.1) 32 out.2.2.1), (va_up B 53 out.2.2.2.1), (va_up G 4 out.2.2.2.2))) args s 0 0 A0) (F0 m 38 ls []) := by
  intro x1 x3 x4 a31' a32' b53' g4' ls H locs hE hM hl
  have hx := F.1.1
  have hb := F.1.2.1
  unfold f_X5_leastWay_38 at hE
  refine lv_iload hx hb dX5_leastWay_38 (lv_at hl 3 rfl) ?_
  refine lv_iload_n hx hb dX5_leastWay_40 rfl (lv_at hl 2 rfl) ?_
  refine lv_icmp_ge (tgt := 85) hx hb dX5_leastWay_41 (by decide) (fun c41 => ?_) (fun c41 => ?_)
  · replace hE := (if_pos c41).symm.trans hE
    refine lv_lload_n hx hb dX5_leastWay_85 rfl (lv_at hl 1 rfl) ?_
    obtain rfl := Option.some.inj hE
    exact m_lret F hM hr rfl rfl dX5_leastWay_86
  · replace hE := (if_neg c41).symm.trans hE
    refine lv_aload_n hx hb dX5_leastWay_44 rfl (lv_at hl 0 rfl) ?_
    obtain ⟨o45_2, ho45_2, hE⟩ := bd_some hE
    refine m_callVv (As := []) (I2 := I) (J2 := J) (A2 := (va_up (va_up A 31 a31') 32 o45_2.1)) (B2 := (va_up B 53 o45_2.2)) (G2 := (va_up G 4 g4')) F hM (c_X5_findCosts l D y nn ad H.size I J (va_up (va_up A 31 a31') 32 a32') (va_up B 53 b53') (va_up G 4 g4')  N o45_2 ho45_2) (cwV 0 F.1.2.2.2.2 gX5_leastWay_X5_findCosts rfl rfl rfl (by decide +kernel) ⟨Nat.le_of_ble_eq_true rfl, Nat.le_of_ble_eq_true rfl⟩) (m_recv F hM mg_6 rfl) rfl hl.1 (Nat.le_of_ble_eq_true rfl) dX5_leastWay_45 ⟨Nat.le_refl 0, Nat.le_refl 0⟩ rfl rfl un_31_32__32 (bx_uu _ _ _ _) rfl (fun H locs hM => ?_)
    refine lv_aload_n hx hb dX5_leastWay_48 rfl (lv_at hl 0 rfl) ?_
    obtain ⟨o49_3, ho49_3, hE⟩ := bd_some hE
    refine m_callVi (As := []) (I2 := I) (J2 := J) (A2 := (va_up (va_up A 31 a31') 32 o45_2.1)) (B2 := (va_up B 53 o45_2.2)) (G2 := (va_up G 4 g4')) F hM (c_X5_cheapestEnd l D y nn ad H.size I J (va_up (va_up A 31 a31') 32 o45_2.1) (va_up B 53 o45_2.2) (va_up G 4 g4')  N o49_3 ho49_3) (cwV 0 F.1.2.2.2.2 gX5_leastWay_X5_cheapestEnd rfl rfl rfl (by decide +kernel) ⟨Nat.le_of_ble_eq_true rfl, Nat.le_of_ble_eq_true rfl⟩) (m_recv F hM mg_6 rfl) rfl hl.1 (Nat.le_of_ble_eq_true rfl) dX5_leastWay_49 ⟨Nat.le_refl 0, Nat.le_refl 0⟩ rfl rfl rfl rfl rfl (fun H locs hM => ?_)
    refine lv_istore (lv' := [(5, .int o49_3), (0, .ref (ad 6)), (1, .long x1), (3, .int x3), (4, .int x4)]) hx hb dX5_leastWay_52 hl (by decide) rfl (fun ls hl => ?_)
    refine lv_iload hx hb dX5_leastWay_54 (lv_at hl 0 rfl) ?_
    refine lv_iconst (v := (-1)) hx hb dX5_leastWay_56 (by decide) ?_
    refine lv_icmp_ne (tgt := 63) hx hb dX5_leastWay_57 (by decide) (fun c57 => ?_) (fun c57 => ?_)
    · replace hE := (if_neg c57).symm.trans hE
      refine lv_lload_n hx hb dX5_leastWay_63 rfl (lv_at hl 2 rfl) ?_
      refine lv_aload_n hx hb dX5_leastWay_64 rfl (lv_at hl 1 rfl) ?_
      refine m_get F hM 6 mg_6 rfl 3 (by decide) (by decide +kernel) (by decide +kernel) (v := .ref (ad 53)) rfl dX5_leastWay_65 ?_
      refine lv_iload hx hb dX5_leastWay_68 (lv_at hl 0 rfl) ?_
      obtain ⟨hi70_4, hE⟩ := ck_some hE
      refine m_lald (g := o45_2.2) F hM mg_53 rfl hi70_4 dX5_leastWay_70 ?_
      refine lv_ladd hx hb dX5_leastWay_71 ?_
      refine lv_lstore_n (lv' := [(1, .long (x1 + (o45_2.2 o49_3.toNatClampNeg))), (5, .int o49_3), (0, .ref (ad 6)), (3, .int x3), (4, .int x4)]) hx hb dX5_leastWay_72 rfl hl (by decide) rfl (fun ls hl => ?_)
      refine lv_aload_n hx hb dX5_leastWay_73 rfl (lv_at hl 2 rfl) ?_
      refine lv_iload hx hb dX5_leastWay_74 (lv_at hl 1 rfl) ?_
      obtain ⟨o76_5, ho76_5, hE⟩ := bd_some hE
      refine m_callVv (As := [.int o49_3]) (I2 := I) (J2 := J) (A2 := (va_up (va_up A 31 o76_5.1) 32 o45_2.1)) (B2 := (va_up B 53 o45_2.2)) (G2 := (va_up G 4 o76_5.2)) F hM (c_X5_goTo l D y nn ad H.size I J (va_up (va_up A 31 a31') 32 o45_2.1) (va_up B 53 o45_2.2) (va_up G 4 g4') o49_3 N o76_5 ho76_5) (cwV 1 F.1.2.2.2.2 gX5_leastWay_X5_goTo rfl rfl rfl (by decide +kernel) ⟨Nat.le_of_ble_eq_true rfl, Nat.le_of_ble_eq_true rfl⟩) (m_recv F hM mg_6 rfl) rfl hl.1 (Nat.le_of_ble_eq_true rfl) dX5_leastWay_76 ⟨Nat.le_refl 0, Nat.le_refl 0⟩ rfl rfl un_31_32__31 rfl (bx_uu _ _ _ _) (fun H locs hM => ?_)
      refine lv_iinc (v := x4 + (1 : Int32)) (lv' := [(4, .int (x4 + (1 : Int32))), (1, .long (x1 + (o45_2.2 o49_3.toNatClampNeg))), (5, .int o49_3), (0, .ref (ad 6)), (3, .int x3)]) hx hb dX5_leastWay_79 hl (k := 4) rfl rfl (by decide) rfl (fun ls hl => ?_)
      refine lv_goto (tgt := 38) hx hb dX5_leastWay_82 (by decide) ?_
      exact hn38 (x1 + (o45_2.2 o49_3.toNatClampNeg)) x3 (x4 + (1 : Int32)) o76_5.1 o45_2.1 o45_2.2 o76_5.2 ls H locs hE hM (lv_sub hl [3, 1, 4, 0] rfl)
    · replace hE := (if_pos c57).symm.trans hE
      refine lv_goto (tgt := 85) hx hb dX5_leastWay_60 (by decide) ?_
      refine lv_lload_n hx hb dX5_leastWay_85 rfl (lv_at hl 2 rfl) ?_
      obtain rfl := Option.some.inj hE
      exact m_lret F hM hr rfl rfl dX5_leastWay_86
theorem k_X5_leastWay_38 {p : Program} {l : Launch} {e : Env} {s : State} {m : MethodId} {args : Array Value} {below : List Frame} {meth : Method} {c : Code} {D : va_G} {y : Nat → ClassId} {nn : Nat} {ad : Nat → Nat} {A0 : Nat → Prop} {I : Nat → Int32} {J : Nat → Int64} {A : Nat → Nat → Int32} {B : Nat → Nat → Int64} {G : Nat → Nat → Nat → Int32} (F : Fx p s m args meth c cX5_leastWay 6 wsX5_leastWay RX5 D y A0) (hr : meth.sig.returnType = (some .long)) {out : Int64 × (Nat → Int32) × (Nat → Int32) × (Nat → Int64) × (Nat → Nat → Int32)} {N : Nat}  : ∀ (n : Nat), ∀ (x1 : Int64) (x3 : Int32) (x4 : Int32) (a31' : Nat → Int32) (a32' : Nat → Int32) (b53' : Nat → Int64) (g4' : Nat → Nat → Int32) (ls : Array Slot) (H : Heap) (locs : List Loc), lq7 (f_X5_leastWay_38 N nn (I 0) (G 0) (G 1) ) n x1 x3 x4 a31' a32' b53' g4' = some out → MM D y nn ad A0 s.heap I J (va_up (va_up A 31 a31') 32 a32') (va_up B 53 b53') (va_up G 4 g4') H locs → lv_has ls 6 [(0, .ref (ad 6)), (1, .long x1), (3, .int x3), (4, .int x4)] → W p l e ({ frames := 3, cells := 0, slots := 0, locals := 74 } : Room) s m args below meth c H locs 0 0 (MQ below (mQl D y nn ad A0 out.1 (I, J, (va_up (va_up A 31 out.2.1) 32 out.2.2.1), (va_up B 53 out.2.2.2.1), (va_up G 4 out.2.2.2.2))) args s 0 0 A0) (F0 m 38 ls []) := by
  intro n
  induction n with
  | zero =>
    intro x1 x3 x4 a31' a32' b53' g4' ls H locs hE
    cases (show (none : Option _) = some out from hE)
  | succ n ih =>
    intro x1 x3 x4 a31' a32' b53' g4' ls H locs hE hM hl
    exact s_X5_leastWay_38 F hr (N := N)  (lq7 (f_X5_leastWay_38 N nn (I 0) (G 0) (G 1) ) n) ih x1 x3 x4 a31' a32' b53' g4' ls H locs hE hM hl
set_option maxHeartbeats 4000000 in
set_option maxRecDepth 100000 in
theorem c_X5_leastWay (l : Launch) (D : va_G) (y : Nat → ClassId) (nn : Nat) (ad : Nat → Nat) (sz : Nat) (I : Nat → Int32) (J : Nat → Int64) (A : Nat → Nat → Int32) (B : Nat → Nat → Int64) (G : Nat → Nat → Nat → Int32)  (N : Nat) (out : Int64 × (Nat → Int32) × (Nat → Int32) × (Nat → Int64) × (Nat → Nat → Int32)) (hE : f_X5_leastWay N nn (I 0) (G 0) (G 1) (A 31) (A 32) (B 53) (G 4)  = some out) : Met l yX5_leastWay wsX5_leastWay ({ frames := 3, cells := 0, slots := 0, locals := 74 } : Room) (mPc [.ref (ad 6)] D y nn ad sz I J A B G) (mQl D y nn ad (mA y nn ad I J A B G sz) out.1 (I, J, (va_up (va_up A 31 out.2.1) 32 out.2.2.1), (va_up B 53 out.2.2.2.1), (va_up G 4 out.2.2.2.2))) 0 0 (mA y nn ad I J A B G sz) := by
  refine Met.ofW (cc := cX5_leastWay) (maxL := 6) (ret := (some .long)) (by decide) rfl ?_
  intro p e s m args below meth c s₁ Bd hml hv
  obtain ⟨rfl, hsz, hP, hK, hD0, hN⟩ := hv
  have hr := Bd.returns
  subst hsz
  have F : Fx p s m ([.ref (ad 6)] : List Value).toArray meth c cX5_leastWay 6 wsX5_leastWay RX5 D y (mA y nn ad I J A B G s.heap.size) := ⟨⟨Bd.exec, Bd.bytes, hml, findClass_of_methodNamed Bd.named, atoms_spec (ws := wsX5_leastWay) Bd.pre⟩, hK, hN, fun q h => Or.inr h, Bd.notSynchronized⟩
  have hM := m_start (s := s) rfl hP hD0
  have hM := m_mem (I2 := I) (J2 := J) (A2 := (va_up (va_up A 31 (A 31)) 32 (A 32))) (B2 := (va_up B 53 (B 53))) (G2 := (va_up G 4 (G 4))) hM (by rfl) (by rfl) (by simp only [up_id]) (by simp only [up_id]) (by simp only [up_id])
  have hx := F.1.1
  have hb := F.1.2.1
  have hl := lv_entry ([.ref (ad 6)]) (n := 6) (Nat.le_of_ble_eq_true rfl)
  rw [lg_entry_eq]
  generalize (lg_sl ([.ref (ad 6)]) ++ List.replicate (6 - (lg_sl ([.ref (ad 6)])).length) Slot.unset).toArray = ls at hl ⊢
  have hl : lv_has ls 6 [(0, .ref (ad 6))] := hl
  show W p l e ({ frames := 3, cells := 0, slots := 0, locals := 74 } : Room) s m _ below meth c s.heap [] 0 0 _ _
  obtain ⟨locs, hlo⟩ : ∃ locs : List Loc, locs = [] := ⟨_, rfl⟩
  rw [← hlo]; rw [← hlo] at hM
  unfold f_X5_leastWay at hE
  revert hM
  suffices hH : ∀ H : Heap, MM D y nn ad (mA y nn ad I J A B G s.heap.size) s.heap I J (va_up (va_up A 31 (A 31)) 32 (A 32)) (va_up B 53 (B 53)) (va_up G 4 (G 4)) H locs → W p l e ({ frames := 3, cells := 0, slots := 0, locals := 74 } : Room) s m ([.ref (ad 6)] : List Value).toArray below meth c H locs 0 0 (MQ below (mQl D y nn ad (mA y nn ad I J A B G s.heap.size) out.1 (I, J, (va_up (va_up A 31 out.2.1) 32 out.2.2.1), (va_up B 53 out.2.2.2.1), (va_up G 4 out.2.2.2.2))) ([.ref (ad 6)] : List Value).toArray s 0 0 (mA y nn ad I J A B G s.heap.size)) (F0 m 0 ls []) from hH s.heap
  intro H hM
  refine lv_aload_n hx hb dX5_leastWay_0 rfl (lv_at hl 0 rfl) ?_
  refine m_get F hM 6 mg_6 rfl 0 (by decide) (by decide +kernel) (by decide +kernel) (v := .ref (ad 1)) rfl dX5_leastWay_1 ?_
  obtain ⟨o4_0, ho4_0, hE⟩ := bd_some hE
  refine m_callVi (As := []) (I2 := I) (J2 := J) (A2 := (va_up (va_up A 31 (A 31)) 32 (A 32))) (B2 := (va_up B 53 (B 53))) (G2 := (va_up G 4 (G 4))) F hM (c_X3_waysLeadFromEachToEach l D y nn ad H.size I J (va_up (va_up A 31 (A 31)) 32 (A 32)) (va_up B 53 (B 53)) (va_up G 4 (G 4))  N o4_0 ho4_0) (cwV 0 F.1.2.2.2.2 gX5_leastWay_X3_waysLeadFromEachToEach rfl rfl rfl (by decide +kernel) ⟨Nat.le_of_ble_eq_true rfl, Nat.le_of_ble_eq_true rfl⟩) (m_recv F hM mg_1 rfl) rfl hl.1 (Nat.le_of_ble_eq_true rfl) dX5_leastWay_4 ⟨Nat.le_refl 0, Nat.le_refl 0⟩ rfl rfl rfl rfl rfl (fun H locs hM => ?_)
  refine lv_if_ne (tgt := 14) hx hb dX5_leastWay_7 (by decide) (fun c7 => ?_) (fun c7 => ?_)
  · replace hE := (if_neg c7).symm.trans hE
    refine lv_aload_n hx hb dX5_leastWay_14 rfl (lv_at hl 0 rfl) ?_
    obtain ⟨o15_1, ho15_1, hE⟩ := bd_some hE
    refine m_callVl (As := []) (I2 := I) (J2 := J) (A2 := (va_up (va_up A 31 o15_1.2.1) 32 (A 32))) (B2 := (va_up B 53 (B 53))) (G2 := (va_up G 4 o15_1.2.2)) F hM (c_X5_goEachOnce l D y nn ad H.size I J (va_up (va_up A 31 (A 31)) 32 (A 32)) (va_up B 53 (B 53)) (va_up G 4 (G 4))  N o15_1 ho15_1) (cwV 0 F.1.2.2.2.2 gX5_leastWay_X5_goEachOnce rfl rfl rfl (by decide +kernel) ⟨Nat.le_of_ble_eq_true rfl, Nat.le_of_ble_eq_true rfl⟩) (m_recv F hM mg_6 rfl) rfl hl.1 (Nat.le_of_ble_eq_true rfl) dX5_leastWay_15 ⟨Nat.le_refl 0, Nat.le_refl 0⟩ rfl rfl un_31_32__31 rfl (bx_uu _ _ _ _) (fun H locs hM => ?_)
    refine lv_lstore_n (lv' := [(1, .long o15_1.1), (0, .ref (ad 6))]) hx hb dX5_leastWay_18 rfl hl (by decide) rfl (fun ls hl => ?_)
    refine lv_aload_n hx hb dX5_leastWay_19 rfl (lv_at hl 1 rfl) ?_
    refine m_get F hM 6 mg_6 rfl 0 (by decide) (by decide +kernel) (by decide +kernel) (v := .ref (ad 1)) rfl dX5_leastWay_20 ?_
    refine m_getN F hM 1 mg_1 rfl 0 (by decide) (by decide +kernel) (by decide +kernel) (v := .int (I 0)) rfl dX5_leastWay_23 ?_
    refine lv_aload_n hx hb dX5_leastWay_26 rfl (lv_at hl 1 rfl) ?_
    refine m_get F hM 6 mg_6 rfl 0 (by decide) (by decide +kernel) (by decide +kernel) (v := .ref (ad 1)) rfl dX5_leastWay_27 ?_
    refine m_getN F hM 1 mg_1 rfl 0 (by decide) (by decide +kernel) (by decide +kernel) (v := .int (I 0)) rfl dX5_leastWay_30 ?_
    refine lv_imul hx hb dX5_leastWay_33 ?_
    refine lv_istore_n (lv' := [(3, .int ((I 0) * (I 0))), (1, .long o15_1.1), (0, .ref (ad 6))]) hx hb dX5_leastWay_34 rfl hl (by decide) rfl (fun ls hl => ?_)
    refine lv_iconst (v := 0) hx hb dX5_leastWay_35 (by decide) ?_
    refine lv_istore (lv' := [(4, .int (0 : Int32)), (3, .int ((I 0) * (I 0))), (1, .long o15_1.1), (0, .ref (ad 6))]) hx hb dX5_leastWay_36 hl (by decide) rfl (fun ls hl => ?_)
    exact k_X5_leastWay_38 F hr (N := N)  N o15_1.1 ((I 0) * (I 0)) (0 : Int32) o15_1.2.1 (A 32) (B 53) o15_1.2.2 ls H locs hE hM (lv_sub hl [3, 2, 1, 0] rfl)
  · replace hE := (if_pos c7).symm.trans hE
    refine lv_ldc2 (v := (-1)) hx hb F.1.2.2.2.1 (F.1.2.2.2.2 (.constantLong RX5 41 (-1)) (by decide +kernel)) dX5_leastWay_10 ?_
    obtain rfl := Option.some.inj hE
    exact m_lret F hM hr rfl rfl dX5_leastWay_13
