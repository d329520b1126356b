/-! ===== J6_numberOfTrailingZeros_0f7a4: reads , writes , frames 0, locals 0 ===== -/
def f_J6_numberOfTrailingZeros_0f7a4_62   (x0 : Int32) (x1 : Int32) : Option (Int32) :=
(if x0 ≤ (4 : Int32) then
some (x1 + ((x0.toUInt32 >>> ((1 : Int32).toUInt32 &&& Int32.toUInt32 31)).toInt32))
else
nmd ((x0.toUInt32 >>> ((2 : Int32).toUInt32 &&& Int32.toUInt32 31)).toInt32) fun v73_1 =>
some ((x1 + (2 : Int32)) + ((v73_1.toUInt32 >>> ((1 : Int32).toUInt32 &&& Int32.toUInt32 31)).toInt32)))
def f_J6_numberOfTrailingZeros_0f7a4_49   (x0 : Int32) (x1 : Int32) : Option (Int32) :=
(if x0 ≤ (16 : Int32) then
f_J6_numberOfTrailingZeros_0f7a4_62   x0 x1
else
nmd ((x0.toUInt32 >>> ((4 : Int32).toUInt32 &&& Int32.toUInt32 31)).toInt32) fun v61_2 =>
f_J6_numberOfTrailingZeros_0f7a4_62   v61_2 (x1 + (4 : Int32)))
def f_J6_numberOfTrailingZeros_0f7a4_34   (x0 : Int32) (x1 : Int32) : Option (Int32) :=
(if x0 ≤ (256 : Int32) then
f_J6_numberOfTrailingZeros_0f7a4_49   x0 x1
else
nmd ((x0.toUInt32 >>> ((8 : Int32).toUInt32 &&& Int32.toUInt32 31)).toInt32) fun v48_3 =>
f_J6_numberOfTrailingZeros_0f7a4_49   v48_3 (x1 + (8 : Int32)))
def f_J6_numberOfTrailingZeros_0f7a4   (p0 : Int32) : Option (Int32) :=
nmd (((p0 ^^^ (-1 : Int32)) &&& (p0 - (1 : Int32)))) fun v7_0 =>
(if (0 : Int32) < v7_0 then
(if v7_0 ≤ (65536 : Int32) then
f_J6_numberOfTrailingZeros_0f7a4_34   v7_0 (1 : Int32)
else
nmd ((v7_0.toUInt32 >>> ((16 : Int32).toUInt32 &&& Int32.toUInt32 31)).toInt32) fun v33_4 =>
f_J6_numberOfTrailingZeros_0f7a4_34   v33_4 ((1 : Int32) + (16 : Int32)))
else
some (v7_0 &&& (32 : Int32)))
set_option maxHeartbeats 4000000 in
set_option maxRecDepth 100000 in
theorem s_J6_numberOfTrailingZeros_0f7a4_62 {p : Program} {l : Launch} {e : Env} {s : State} {m : MethodId} {args : Array Value} {below : List Frame} {meth : Method} {c : Code} {D : va_G} {y : Nat → ClassId} {nn : Nat} {ad : Nat → Nat} {A0 : Nat → Prop} {I : Nat → Int32} {J : Nat → Int64} {A : Nat → Nat → Int32} {B : Nat → Nat → Int64} {G : Nat → Nat → Nat → Int32} (F : Fx p s m args meth c cJ6_numberOfTrailingZeros_0f7a4 2 wsJ6_numberOfTrailingZeros_0f7a4 RJ6 D y A0) (hr : meth.sig.returnType = (some .int)) {out : Int32}  : ∀ (x0 : Int32) (x1 : Int32) (ls : Array Slot) (H : Heap) (locs : List Loc), f_J6_numberOfTrailingZeros_0f7a4_62   x0 x1 = some out → MM D y nn ad A0 s.heap I J A B G H locs → lv_has ls 2 [(0, .int x0), (1, .int x1)] → W p l e ({ frames := 0, cells := 0, slots := 0, locals := 0 } : Room) s m args below meth c H locs 0 0 (MQ below (mQi D y nn ad A0 out (I, J, A, B, G)) args s 0 0 A0) (F0 m 62 ls []) := by
  intro x0 x1 ls H locs hE hM hl
  have hx := F.1.1
  have hb := F.1.2.1
  unfold f_J6_numberOfTrailingZeros_0f7a4_62 at hE
  refine lv_iload_n hx hb dJ6_numberOfTrailingZeros_0f7a4_62 rfl (lv_at hl 0 rfl) ?_
  refine lv_iconst (v := 4) hx hb dJ6_numberOfTrailingZeros_0f7a4_63 (by decide) ?_
  refine lv_icmp_le (tgt := 74) hx hb dJ6_numberOfTrailingZeros_0f7a4_64 (by decide) (fun c64 => ?_) (fun c64 => ?_)
  · replace hE := (if_pos c64).symm.trans hE
    refine lv_iload_n hx hb dJ6_numberOfTrailingZeros_0f7a4_74 rfl (lv_at hl 1 rfl) ?_
    refine lv_iload_n hx hb dJ6_numberOfTrailingZeros_0f7a4_75 rfl (lv_at hl 0 rfl) ?_
    refine lv_iconst (v := 1) hx hb dJ6_numberOfTrailingZeros_0f7a4_76 (by decide) ?_
    refine lv_iushr hx hb dJ6_numberOfTrailingZeros_0f7a4_77 rfl ?_
    refine lv_iadd hx hb dJ6_numberOfTrailingZeros_0f7a4_78 ?_
    obtain rfl := Option.some.inj hE
    exact m_iret F hM hr rfl rfl dJ6_numberOfTrailingZeros_0f7a4_79
  · replace hE := (if_neg c64).symm.trans hE
    refine lv_iinc (v := x1 + (2 : Int32)) (lv' := [(1, .int (x1 + (2 : Int32))), (0, .int x0)]) hx hb dJ6_numberOfTrailingZeros_0f7a4_67 hl (k := 1) rfl rfl (by decide) rfl (fun ls hl => ?_)
    refine lv_iload_n hx hb dJ6_numberOfTrailingZeros_0f7a4_70 rfl (lv_at hl 1 rfl) ?_
    refine lv_iconst (v := 2) hx hb dJ6_numberOfTrailingZeros_0f7a4_71 (by decide) ?_
    refine lv_iushr hx hb dJ6_numberOfTrailingZeros_0f7a4_72 rfl ?_
    obtain ⟨v73_1, ev73_1, hE⟩ := nmd_some hE
    refine m_topi ev73_1 ?_
    refine lv_istore_n (lv' := [(0, .int v73_1), (1, .int (x1 + (2 : Int32)))]) hx hb dJ6_numberOfTrailingZeros_0f7a4_73 rfl hl (by decide) rfl (fun ls hl => ?_)
    refine lv_iload_n hx hb dJ6_numberOfTrailingZeros_0f7a4_74 rfl (lv_at hl 1 rfl) ?_
    refine lv_iload_n hx hb dJ6_numberOfTrailingZeros_0f7a4_75 rfl (lv_at hl 0 rfl) ?_
    refine lv_iconst (v := 1) hx hb dJ6_numberOfTrailingZeros_0f7a4_76 (by decide) ?_
    refine lv_iushr hx hb dJ6_numberOfTrailingZeros_0f7a4_77 rfl ?_
    refine lv_iadd hx hb dJ6_numberOfTrailingZeros_0f7a4_78 ?_
    obtain rfl := Option.some.inj hE
    exact m_iret F hM hr rfl rfl dJ6_numberOfTrailingZeros_0f7a4_79
set_option maxHeartbeats 4000000 in
set_option maxRecDepth 100000 in
theorem s_J6_numberOfTrailingZeros_0f7a4_49 {p : Program} {l : Launch} {e : Env} {s : State} {m : MethodId} {args : Array Value} {below : List Frame} {meth : Method} {c : Code} {D : va_G} {y : Nat → ClassId} {nn : Nat} {ad : Nat → Nat} {A0 : Nat → Prop} {I : Nat → Int32} {J : Nat → Int64} {A : Nat → Nat → Int32} {B : Nat → Nat → Int64} {G : Nat → Nat → Nat → Int32} (F : Fx p s m args meth c cJ6_numberOfTrailingZeros_0f7a4 2 wsJ6_numberOfTrailingZeros_0f7a4 RJ6 D y A0) (hr : meth.sig.returnType = (some .int)) {out : Int32}  : ∀ (x0 : Int32) (x1 : Int32) (ls : Array Slot) (H : Heap) (locs : List Loc), f_J6_numberOfTrailingZeros_0f7a4_49   x0 x1 = some out → MM D y nn ad A0 s.heap I J A B G H locs → lv_has ls 2 [(0, .int x0), (1, .int x1)] → W p l e ({ frames := 0, cells := 0, slots := 0, locals := 0 } : Room) s m args below meth c H locs 0 0 (MQ below (mQi D y nn ad A0 out (I, J, A, B, G)) args s 0 0 A0) (F0 m 49 ls []) := by
  intro x0 x1 ls H locs hE hM hl
  have hx := F.1.1
  have hb := F.1.2.1
  unfold f_J6_numberOfTrailingZeros_0f7a4_49 at hE
  refine lv_iload_n hx hb dJ6_numberOfTrailingZeros_0f7a4_49 rfl (lv_at hl 0 rfl) ?_
  refine lv_bipush (v := 16) hx hb dJ6_numberOfTrailingZeros_0f7a4_50 (by decide) ?_
  refine lv_icmp_le (tgt := 62) hx hb dJ6_numberOfTrailingZeros_0f7a4_52 (by decide) (fun c52 => ?_) (fun c52 => ?_)
  · replace hE := (if_pos c52).symm.trans hE
    exact s_J6_numberOfTrailingZeros_0f7a4_62 F hr   x0 x1 ls H locs hE hM (lv_sub hl [0, 1] rfl)
  · replace hE := (if_neg c52).symm.trans hE
    refine lv_iinc (v := x1 + (4 : Int32)) (lv' := [(1, .int (x1 + (4 : Int32))), (0, .int x0)]) hx hb dJ6_numberOfTrailingZeros_0f7a4_55 hl (k := 1) rfl rfl (by decide) rfl (fun ls hl => ?_)
    refine lv_iload_n hx hb dJ6_numberOfTrailingZeros_0f7a4_58 rfl (lv_at hl 1 rfl) ?_
    refine lv_iconst (v := 4) hx hb dJ6_numberOfTrailingZeros_0f7a4_59 (by decide) ?_
    refine lv_iushr hx hb dJ6_numberOfTrailingZeros_0f7a4_60 rfl ?_
    obtain ⟨v61_2, ev61_2, hE⟩ := nmd_some hE
    refine m_topi ev61_2 ?_
    refine lv_istore_n (lv' := [(0, .int v61_2), (1, .int (x1 + (4 : Int32)))]) hx hb dJ6_numberOfTrailingZeros_0f7a4_61 rfl hl (by decide) rfl (fun ls hl => ?_)
    exact s_J6_numberOfTrailingZeros_0f7a4_62 F hr   v61_2 (x1 + (4 : Int32)) ls H locs hE hM (lv_sub hl [0, 1] rfl)
set_option maxHeartbeats 4000000 in
set_option maxRecDepth 100000 in
theorem s_J6_numberOfTrailingZeros_0f7a4_34 {p : Program} {l : Launch} {e : Env} {s : State} {m : MethodId} {args : Array Value} {below : List Frame} {meth : Method} {c : Code} {D : va_G} {y : Nat → ClassId} {nn : Nat} {ad : Nat → Nat} {A0 : Nat → Prop} {I : Nat → Int32} {J : Nat → Int64} {A : Nat → Nat → Int32} {B : Nat → Nat → Int64} {G : Nat → Nat → Nat → Int32} (F : Fx p s m args meth c cJ6_numberOfTrailingZeros_0f7a4 2 wsJ6_numberOfTrailingZeros_0f7a4 RJ6 D y A0) (hr : meth.sig.returnType = (some .int)) {out : Int32}  : ∀ (x0 : Int32) (x1 : Int32) (ls : Array Slot) (H : Heap) (locs : List Loc), f_J6_numberOfTrailingZeros_0f7a4_34   x0 x1 = some out → MM D y nn ad A0 s.heap I J A B G H locs → lv_has ls 2 [(0, .int x0), (1, .int x1)] → W p l e ({ frames := 0, cells := 0, slots := 0, locals := 0 } : Room) s m args below meth c H locs 0 0 (MQ below (mQi D y nn ad A0 out (I, J, A, B, G)) args s 0 0 A0) (F0 m 34 ls []) := by
  intro x0 x1 ls H locs hE hM hl
  have hx := F.1.1
  have hb := F.1.2.1
  unfold f_J6_numberOfTrailingZeros_0f7a4_34 at hE
  refine lv_iload_n hx hb dJ6_numberOfTrailingZeros_0f7a4_34 rfl (lv_at hl 0 rfl) ?_
  refine lv_sipush (v := 256) hx hb dJ6_numberOfTrailingZeros_0f7a4_35 (by decide) ?_
  refine lv_icmp_le (tgt := 49) hx hb dJ6_numberOfTrailingZeros_0f7a4_38 (by decide) (fun c38 => ?_) (fun c38 => ?_)
  · replace hE := (if_pos c38).symm.trans hE
    exact s_J6_numberOfTrailingZeros_0f7a4_49 F hr   x0 x1 ls H locs hE hM (lv_sub hl [0, 1] rfl)
  · replace hE := (if_neg c38).symm.trans hE
    refine lv_iinc (v := x1 + (8 : Int32)) (lv' := [(1, .int (x1 + (8 : Int32))), (0, .int x0)]) hx hb dJ6_numberOfTrailingZeros_0f7a4_41 hl (k := 1) rfl rfl (by decide) rfl (fun ls hl => ?_)
    refine lv_iload_n hx hb dJ6_numberOfTrailingZeros_0f7a4_44 rfl (lv_at hl 1 rfl) ?_
    refine lv_bipush (v := 8) hx hb dJ6_numberOfTrailingZeros_0f7a4_45 (by decide) ?_
    refine lv_iushr hx hb dJ6_numberOfTrailingZeros_0f7a4_47 rfl ?_
    obtain ⟨v48_3, ev48_3, hE⟩ := nmd_some hE
    refine m_topi ev48_3 ?_
    refine lv_istore_n (lv' := [(0, .int v48_3), (1, .int (x1 + (8 : Int32)))]) hx hb dJ6_numberOfTrailingZeros_0f7a4_48 rfl hl (by decide) rfl (fun ls hl => ?_)
    exact s_J6_numberOfTrailingZeros_0f7a4_49 F hr   v48_3 (x1 + (8 : Int32)) ls H locs hE hM (lv_sub hl [0, 1] rfl)
set_option maxHeartbeats 4000000 in
set_option maxRecDepth 100000 in
theorem c_J6_numberOfTrailingZeros_0f7a4 (l : Launch) (D : va_G) (y : Nat → ClassId) (nn : Nat) (ad : Nat → Nat) (sz : Nat) (I : Nat → Int32) (J : Nat → Int64) (A : Nat → Nat → Int32) (B : Nat → Nat → Int64) (G : Nat → Nat → Nat → Int32) (p0 : Int32)  (out : Int32) (hE : f_J6_numberOfTrailingZeros_0f7a4   p0 = some out) : Met l yJ6_numberOfTrailingZeros_0f7a4 wsJ6_numberOfTrailingZeros_0f7a4 ({ frames := 0, cells := 0, slots := 0, locals := 0 } : Room) (mPc [.int p0] D y nn ad sz I J A B G) (mQi D y nn ad (mA y nn ad I J A B G sz) out (I, J, A, B, G)) 0 0 (mA y nn ad I J A B G sz) := by
  refine Met.ofW (cc := cJ6_numberOfTrailingZeros_0f7a4) (maxL := 2) (ret := (some .int)) (by decide) rfl ?_
  intro p e s m args below meth c s₁ Bd hml hv
  obtain ⟨rfl, hsz, hP, hK, hD0, hN⟩ := hv
  have hr := Bd.returns
  subst hsz
  have F : Fx p s m ([.int p0] : List Value).toArray meth c cJ6_numberOfTrailingZeros_0f7a4 2 wsJ6_numberOfTrailingZeros_0f7a4 RJ6 D y (mA y nn ad I J A B G s.heap.size) := ⟨⟨Bd.exec, Bd.bytes, hml, findClass_of_methodNamed Bd.named, atoms_spec (ws := wsJ6_numberOfTrailingZeros_0f7a4) Bd.pre⟩, hK, hN, fun q h => Or.inr h, Bd.notSynchronized⟩
  have hM := m_start (s := s) rfl hP hD0
  have hM := m_mem (I2 := I) (J2 := J) (A2 := A) (B2 := B) (G2 := G) hM (by rfl) (by rfl) (by rfl) (by rfl) (by rfl)
  have hx := F.1.1
  have hb := F.1.2.1
  have hl := lv_entry ([.int p0]) (n := 2) (Nat.le_of_ble_eq_true rfl)
  rw [lg_entry_eq]
  generalize (lg_sl ([.int p0]) ++ List.replicate (2 - (lg_sl ([.int p0])).length) Slot.unset).toArray = ls at hl ⊢
  have hl : lv_has ls 2 [(0, .int p0)] := hl
  show W p l e ({ frames := 0, cells := 0, slots := 0, locals := 0 } : Room) s m _ below meth c s.heap [] 0 0 _ _
  obtain ⟨locs, hlo⟩ : ∃ locs : List Loc, locs = [] := ⟨_, rfl⟩
  rw [← hlo]; rw [← hlo] at hM
  unfold f_J6_numberOfTrailingZeros_0f7a4 at hE
  revert hM
  suffices hH : ∀ H : Heap, MM D y nn ad (mA y nn ad I J A B G s.heap.size) s.heap I J A B G H locs → W p l e ({ frames := 0, cells := 0, slots := 0, locals := 0 } : Room) s m ([.int p0] : List Value).toArray below meth c H locs 0 0 (MQ below (mQi D y nn ad (mA y nn ad I J A B G s.heap.size) out (I, J, A, B, G)) ([.int p0] : List Value).toArray s 0 0 (mA y nn ad I J A B G s.heap.size)) (F0 m 0 ls []) from hH s.heap
  intro H hM
  refine lv_iload_n hx hb dJ6_numberOfTrailingZeros_0f7a4_0 rfl (lv_at hl 0 rfl) ?_
  refine lv_iconst (v := (-1)) hx hb dJ6_numberOfTrailingZeros_0f7a4_1 (by decide) ?_
  refine lv_ixor hx hb dJ6_numberOfTrailingZeros_0f7a4_2 ?_
  refine lv_iload_n hx hb dJ6_numberOfTrailingZeros_0f7a4_3 rfl (lv_at hl 0 rfl) ?_
  refine lv_iconst (v := 1) hx hb dJ6_numberOfTrailingZeros_0f7a4_4 (by decide) ?_
  refine lv_isub hx hb dJ6_numberOfTrailingZeros_0f7a4_5 ?_
  refine lv_iand hx hb dJ6_numberOfTrailingZeros_0f7a4_6 ?_
  obtain ⟨v7_0, ev7_0, hE⟩ := nmd_some hE
  refine m_topi ev7_0 ?_
  refine lv_istore_n (lv' := [(0, .int v7_0)]) hx hb dJ6_numberOfTrailingZeros_0f7a4_7 rfl hl (by decide) rfl (fun ls hl => ?_)
  refine lv_iload_n hx hb dJ6_numberOfTrailingZeros_0f7a4_8 rfl (lv_at hl 0 rfl) ?_
  refine lv_if_gt (tgt := 17) hx hb dJ6_numberOfTrailingZeros_0f7a4_9 (by decide) (fun c9 => ?_) (fun c9 => ?_)
  · replace hE := (if_pos c9).symm.trans hE
    refine lv_iconst (v := 1) hx hb dJ6_numberOfTrailingZeros_0f7a4_17 (by decide) ?_
    refine lv_istore_n (lv' := [(1, .int (1 : Int32)), (0, .int v7_0)]) hx hb dJ6_numberOfTrailingZeros_0f7a4_18 rfl hl (by decide) rfl (fun ls hl => ?_)
    refine lv_iload_n hx hb dJ6_numberOfTrailingZeros_0f7a4_19 rfl (lv_at hl 1 rfl) ?_
    refine lv_ldcw (v := 65536) hx hb F.1.2.2.2.1 (F.1.2.2.2.2 (.constant RJ6 264 (65536)) (by decide +kernel)) dJ6_numberOfTrailingZeros_0f7a4_20 ?_
    refine lv_icmp_le (tgt := 34) hx hb dJ6_numberOfTrailingZeros_0f7a4_23 (by decide) (fun c23 => ?_) (fun c23 => ?_)
    · replace hE := (if_pos c23).symm.trans hE
      exact s_J6_numberOfTrailingZeros_0f7a4_34 F hr   v7_0 (1 : Int32) ls H locs hE hM (lv_sub hl [1, 0] rfl)
    · replace hE := (if_neg c23).symm.trans hE
      refine lv_iinc (v := (1 : Int32) + (16 : Int32)) (lv' := [(1, .int ((1 : Int32) + (16 : Int32))), (0, .int v7_0)]) hx hb dJ6_numberOfTrailingZeros_0f7a4_26 hl (k := 0) rfl rfl (by decide) rfl (fun ls hl => ?_)
      refine lv_iload_n hx hb dJ6_numberOfTrailingZeros_0f7a4_29 rfl (lv_at hl 1 rfl) ?_
      refine lv_bipush (v := 16) hx hb dJ6_numberOfTrailingZeros_0f7a4_30 (by decide) ?_
      refine lv_iushr hx hb dJ6_numberOfTrailingZeros_0f7a4_32 rfl ?_
      obtain ⟨v33_4, ev33_4, hE⟩ := nmd_some hE
      refine m_topi ev33_4 ?_
      refine lv_istore_n (lv' := [(0, .int v33_4), (1, .int ((1 : Int32) + (16 : Int32)))]) hx hb dJ6_numberOfTrailingZeros_0f7a4_33 rfl hl (by decide) rfl (fun ls hl => ?_)
      exact s_J6_numberOfTrailingZeros_0f7a4_34 F hr   v33_4 ((1 : Int32) + (16 : Int32)) ls H locs hE hM (lv_sub hl [0, 1] rfl)
  · replace hE := (if_neg c9).symm.trans hE
    refine lv_iload_n hx hb dJ6_numberOfTrailingZeros_0f7a4_12 rfl (lv_at hl 0 rfl) ?_
    refine lv_bipush (v := 32) hx hb dJ6_numberOfTrailingZeros_0f7a4_13 (by decide) ?_
    refine lv_iand hx hb dJ6_numberOfTrailingZeros_0f7a4_15 ?_
    obtain rfl := Option.some.inj hE
    exact m_iret F hM hr rfl rfl dJ6_numberOfTrailingZeros_0f7a4_16
/-! ===== J6_bitCount_0f7a4: reads , writes , frames 0, locals 0 ===== -/
def f_J6_bitCount_0f7a4   (p0 : Int32) : Option (Int32) :=
nmd ((p0 - (((p0.toUInt32 >>> ((1 : Int32).toUInt32 &&& Int32.toUInt32 31)).toInt32) &&& (1431655765 : Int32)))) fun v9_0 =>
nmd (((v9_0 &&& (858993459 : Int32)) + (((v9_0.toUInt32 >>> ((2 : Int32).toUInt32 &&& Int32.toUInt32 31)).toInt32) &&& (858993459 : Int32)))) fun v23_1 =>
nmd (((v23_1 + ((v23_1.toUInt32 >>> ((4 : Int32).toUInt32 &&& Int32.toUInt32 31)).toInt32)) &&& (252645135 : Int32))) fun v33_2 =>
nmd ((v33_2 + ((v33_2.toUInt32 >>> ((8 : Int32).toUInt32 &&& Int32.toUInt32 31)).toInt32))) fun v40_3 =>
nmd ((v40_3 + ((v40_3.toUInt32 >>> ((16 : Int32).toUInt32 &&& Int32.toUInt32 31)).toInt32))) fun v47_4 =>
some (v47_4 &&& (63 : Int32))
set_option maxHeartbeats 4000000 in
set_option maxRecDepth 100000 in
theorem c_J6_bitCount_0f7a4 (l : Launch) (D : va_G) (y : Nat → ClassId) (nn : Nat) (ad : Nat → Nat) (sz : Nat) (I : Nat → Int32) (J : Nat → Int64) (A : Nat → Nat → Int32) (B : Nat → Nat → Int64) (G : Nat → Nat → Nat → Int32) (p0 : Int32)  (out : Int32) (hE : f_J6_bitCount_0f7a4   p0 = some out) : Met l yJ6_bitCount_0f7a4 wsJ6_bitCount_0f7a4 ({ frames := 0, cells := 0, slots := 0, locals := 0 } : Room) (mPc [.int p0] D y nn ad sz I J A B G) (mQi D y nn ad (mA y nn ad I J A B G sz) out (I, J, A, B, G)) 0 0 (mA y nn ad I J A B G sz) := by
  refine Met.ofW (cc := cJ6_bitCount_0f7a4) (maxL := 1) (ret := (some .int)) (by decide) rfl ?_
  intro p e s m args below meth c s₁ Bd hml hv
  obtain ⟨rfl, hsz, hP, hK, hD0, hN⟩ := hv
  have hr := Bd.returns
  subst hsz
  have F : Fx p s m ([.int p0] : List Value).toArray meth c cJ6_bitCount_0f7a4 1 wsJ6_bitCount_0f7a4 RJ6 D y (mA y nn ad I J A B G s.heap.size) := ⟨⟨Bd.exec, Bd.bytes, hml, findClass_of_methodNamed Bd.named, atoms_spec (ws := wsJ6_bitCount_0f7a4) Bd.pre⟩, hK, hN, fun q h => Or.inr h, Bd.notSynchronized⟩
  have hM := m_start (s := s) rfl hP hD0
  have hM := m_mem (I2 := I) (J2 := J) (A2 := A) (B2 := B) (G2 := G) hM (by rfl) (by rfl) (by rfl) (by rfl) (by rfl)
  have hx := F.1.1
  have hb := F.1.2.1
  have hl := lv_entry ([.int p0]) (n := 1) (Nat.le_of_ble_eq_true rfl)
  rw [lg_entry_eq]
  generalize (lg_sl ([.int p0]) ++ List.replicate (1 - (lg_sl ([.int p0])).length) Slot.unset).toArray = ls at hl ⊢
  have hl : lv_has ls 1 [(0, .int p0)] := hl
  show W p l e ({ frames := 0, cells := 0, slots := 0, locals := 0 } : Room) s m _ below meth c s.heap [] 0 0 _ _
  obtain ⟨locs, hlo⟩ : ∃ locs : List Loc, locs = [] := ⟨_, rfl⟩
  rw [← hlo]; rw [← hlo] at hM
  unfold f_J6_bitCount_0f7a4 at hE
  revert hM
  suffices hH : ∀ H : Heap, MM D y nn ad (mA y nn ad I J A B G s.heap.size) s.heap I J A B G H locs → W p l e ({ frames := 0, cells := 0, slots := 0, locals := 0 } : Room) s m ([.int p0] : List Value).toArray below meth c H locs 0 0 (MQ below (mQi D y nn ad (mA y nn ad I J A B G s.heap.size) out (I, J, A, B, G)) ([.int p0] : List Value).toArray s 0 0 (mA y nn ad I J A B G s.heap.size)) (F0 m 0 ls []) from hH s.heap
  intro H hM
  refine lv_iload_n hx hb dJ6_bitCount_0f7a4_0 rfl (lv_at hl 0 rfl) ?_
  refine lv_iload_n hx hb dJ6_bitCount_0f7a4_1 rfl (lv_at hl 0 rfl) ?_
  refine lv_iconst (v := 1) hx hb dJ6_bitCount_0f7a4_2 (by decide) ?_
  refine lv_iushr hx hb dJ6_bitCount_0f7a4_3 rfl ?_
  refine lv_ldcw (v := 1431655765) hx hb F.1.2.2.2.1 (F.1.2.2.2.2 (.constant RJ6 265 (1431655765)) (by decide +kernel)) dJ6_bitCount_0f7a4_4 ?_
  refine lv_iand hx hb dJ6_bitCount_0f7a4_7 ?_
  refine lv_isub hx hb dJ6_bitCount_0f7a4_8 ?_
  obtain ⟨v9_0, ev9_0, hE⟩ := nmd_some hE
  refine m_topi ev9_0 ?_
  refine lv_istore_n (lv' := [(0, .int v9_0)]) hx hb dJ6_bitCount_0f7a4_9 rfl hl (by decide) rfl (fun ls hl => ?_)
  refine lv_iload_n hx hb dJ6_bitCount_0f7a4_10 rfl (lv_at hl 0 rfl) ?_
  refine lv_ldcw (v := 858993459) hx hb F.1.2.2.2.1 (F.1.2.2.2.2 (.constant RJ6 266 (858993459)) (by decide +kernel)) dJ6_bitCount_0f7a4_11 ?_
  refine lv_iand hx hb dJ6_bitCount_0f7a4_14 ?_
  refine lv_iload_n hx hb dJ6_bitCount_0f7a4_15 rfl (lv_at hl 0 rfl) ?_
  refine lv_iconst (v := 2) hx hb dJ6_bitCount_0f7a4_16 (by decide) ?_
  refine lv_iushr hx hb dJ6_bitCount_0f7a4_17 rfl ?_
  refine lv_ldcw (v := 858993459) hx hb F.1.2.2.2.1 (F.1.2.2.2.2 (.constant RJ6 266 (858993459)) (by decide +kernel)) dJ6_bitCount_0f7a4_18 ?_
  refine lv_iand hx hb dJ6_bitCount_0f7a4_21 ?_
  refine lv_iadd hx hb dJ6_bitCount_0f7a4_22 ?_
  obtain ⟨v23_1, ev23_1, hE⟩ := nmd_some hE
  refine m_topi ev23_1 ?_
  refine lv_istore_n (lv' := [(0, .int v23_1)]) hx hb dJ6_bitCount_0f7a4_23 rfl hl (by decide) rfl (fun ls hl => ?_)
  refine lv_iload_n hx hb dJ6_bitCount_0f7a4_24 rfl (lv_at hl 0 rfl) ?_
  refine lv_iload_n hx hb dJ6_bitCount_0f7a4_25 rfl (lv_at hl 0 rfl) ?_
  refine lv_iconst (v := 4) hx hb dJ6_bitCount_0f7a4_26 (by decide) ?_
  refine lv_iushr hx hb dJ6_bitCount_0f7a4_27 rfl ?_
  refine lv_iadd hx hb dJ6_bitCount_0f7a4_28 ?_
  refine lv_ldcw (v := 252645135) hx hb F.1.2.2.2.1 (F.1.2.2.2.2 (.constant RJ6 267 (252645135)) (by decide +kernel)) dJ6_bitCount_0f7a4_29 ?_
  refine lv_iand hx hb dJ6_bitCount_0f7a4_32 ?_
  obtain ⟨v33_2, ev33_2, hE⟩ := nmd_some hE
  refine m_topi ev33_2 ?_
  refine lv_istore_n (lv' := [(0, .int v33_2)]) hx hb dJ6_bitCount_0f7a4_33 rfl hl (by decide) rfl (fun ls hl => ?_)
  refine lv_iload_n hx hb dJ6_bitCount_0f7a4_34 rfl (lv_at hl 0 rfl) ?_
  refine lv_iload_n hx hb dJ6_bitCount_0f7a4_35 rfl (lv_at hl 0 rfl) ?_
  refine lv_bipush (v := 8) hx hb dJ6_bitCount_0f7a4_36 (by decide) ?_
  refine lv_iushr hx hb dJ6_bitCount_0f7a4_38 rfl ?_
  refine lv_iadd hx hb dJ6_bitCount_0f7a4_39 ?_
  obtain ⟨v40_3, ev40_3, hE⟩ := nmd_some hE
  refine m_topi ev40_3 ?_
  refine lv_istore_n (lv' := [(0, .int v40_3)]) hx hb dJ6_bitCount_0f7a4_40 rfl hl (by decide) rfl (fun ls hl => ?_)
  refine lv_iload_n hx hb dJ6_bitCount_0f7a4_41 rfl (lv_at hl 0 rfl) ?_
  refine lv_iload_n hx hb dJ6_bitCount_0f7a4_42 rfl (lv_at hl 0 rfl) ?_
  refine lv_bipush (v := 16) hx hb dJ6_bitCount_0f7a4_43 (by decide) ?_
  refine lv_iushr hx hb dJ6_bitCount_0f7a4_45 rfl ?_
  refine lv_iadd hx hb dJ6_bitCount_0f7a4_46 ?_
  obtain ⟨v47_4, ev47_4, hE⟩ := nmd_some hE
  refine m_topi ev47_4 ?_
  refine lv_istore_n (lv' := [(0, .int v47_4)]) hx hb dJ6_bitCount_0f7a4_47 rfl hl (by decide) rfl (fun ls hl => ?_)
  refine lv_iload_n hx hb dJ6_bitCount_0f7a4_48 rfl (lv_at hl 0 rfl) ?_
  refine lv_bipush (v := 63) hx hb dJ6_bitCount_0f7a4_49 (by decide) ?_
  refine lv_iand hx hb dJ6_bitCount_0f7a4_51 ?_
  obtain rfl := Option.some.inj hE
  exact m_iret F hM hr rfl rfl dJ6_bitCount_0f7a4_52
/-! ===== X4_firstOf: reads , writes , frames 1, locals 21 ===== -/
def f_X4_firstOf   (p0 : Int32) : Option (Int32) :=
bd (f_J6_numberOfTrailingZeros_0f7a4 p0) fun o1_0 =>
some o1_0
set_option maxHeartbeats 4000000 in
set_option maxRecDepth 100000 in
theorem c_X4_firstOf (l : Launch) (D : va_G) (y : Nat → ClassId) (nn : Nat) (ad : Nat → Nat) (sz : Nat) (I : Nat → Int32) (J : Nat → Int64) (A : Nat → Nat → Int32) (B : Nat → Nat → Int64) (G : Nat → Nat → Nat → Int32) (p0 : Int32)  (out : Int32) (hE : f_X4_firstOf   p0 = some out) : Met l yX4_firstOf wsX4_firstOf ({ frames := 1, cells := 0, slots := 0, locals := 21 } : Room) (mPc [.int p0] D y nn ad sz I J A B G) (mQi D y nn ad (mA y nn ad I J A B G sz) out (I, J, A, B, G)) 0 0 (mA y nn ad I J A B G sz) := by
  refine Met.ofW (cc := cX4_firstOf) (maxL := 1) (ret := (some .int)) (by decide) rfl ?_
  intro p e s m args below meth c s₁ Bd hml hv
  obtain ⟨rfl, hsz, hP, hK, hD0, hN⟩ := hv
  have hr := Bd.returns
  subst hsz
  have F : Fx p s m ([.int p0] : List Value).toArray meth c cX4_firstOf 1 wsX4_firstOf RX4 D y (mA y nn ad I J A B G s.heap.size) := ⟨⟨Bd.exec, Bd.bytes, hml, findClass_of_methodNamed Bd.named, atoms_spec (ws := wsX4_firstOf) Bd.pre⟩, hK, hN, fun q h => Or.inr h, Bd.notSynchronized⟩
  have hM := m_start (s := s) rfl hP hD0
  have hM := m_mem (I2 := I) (J2 := J) (A2 := A) (B2 := B) (G2 := G) hM (by rfl) (by rfl) (by rfl) (by rfl) (by rfl)
  have hx := F.1.1
  have hb := F.1.2.1
  have hl := lv_entry ([.int p0]) (n := 1) (Nat.le_of_ble_eq_true rfl)
  rw [lg_entry_eq]
  generalize (lg_sl ([.int p0]) ++ List.replicate (1 - (lg_sl ([.int p0])).length) Slot.unset).toArray = ls at hl ⊢
  have hl : lv_has ls 1 [(0, .int p0)] := hl
  show W p l e ({ frames := 1, cells := 0, slots := 0, locals := 21 } : Room) s m _ below meth c s.heap [] 0 0 _ _
  obtain ⟨locs, hlo⟩ : ∃ locs : List Loc, locs = [] := ⟨_, rfl⟩
  rw [← hlo]; rw [← hlo] at hM
  unfold f_X4_firstOf at hE
  revert hM
  suffices hH : ∀ H : Heap, MM D y nn ad (mA y nn ad I J A B G s.heap.size) s.heap I J A B G H locs → W p l e ({ frames := 1, cells := 0, slots := 0, locals := 21 } : Room) s m ([.int p0] : List Value).toArray below meth c H locs 0 0 (MQ below (mQi D y nn ad (mA y nn ad I J A B G s.heap.size) out (I, J, A, B, G)) ([.int p0] : List Value).toArray s 0 0 (mA y nn ad I J A B G s.heap.size)) (F0 m 0 ls []) from hH s.heap
  intro H hM
  refine lv_iload_n hx hb dX4_firstOf_0 rfl (lv_at hl 0 rfl) ?_
  obtain ⟨o1_0, ho1_0, hE⟩ := bd_some hE
  refine m_callSi (As := [.int p0]) (I2 := I) (J2 := J) (A2 := A) (B2 := B) (G2 := G) F hM (c_J6_numberOfTrailingZeros_0f7a4 l D y nn ad H.size I J A B G p0  o1_0 ho1_0) (va_cwS 1 F.1.2.2.2.2 gX4_firstOf_J6_numberOfTrailingZeros_0f7a4 rfl rfl rfl (by decide +kernel) ⟨Nat.le_of_ble_eq_true rfl, Nat.le_of_ble_eq_true rfl⟩) rfl hl.1 (Nat.le_of_ble_eq_true rfl) dX4_firstOf_1 ⟨Nat.le_refl 0, Nat.le_refl 0⟩ rfl rfl rfl rfl rfl (fun H locs hM => ?_)
  obtain rfl := Option.some.inj hE
  exact m_iret F hM hr rfl rfl dX4_firstOf_4
/-! ===== X4_without: reads , writes , frames 2, locals 41 ===== -/
def f_X4_without   (p0 : Int32) (p1 : Int32) : Option (Int32) :=
bd (f_X4_firstOf p0) fun o3_0 =>
some ((p0 &&& (((1 : Int32) <<< (o3_0 &&& 31)) ^^^ (-1 : Int32))) &&& (((1 : Int32) <<< (p1 &&& 31)) ^^^ (-1 : Int32)))
set_option maxHeartbeats 4000000 in
set_option maxRecDepth 100000 in
theorem c_X4_without (l : Launch) (D : va_G) (y : Nat → ClassId) (nn : Nat) (ad : Nat → Nat) (sz : Nat) (I : Nat → Int32) (J : Nat → Int64) (A : Nat → Nat → Int32) (B : Nat → Nat → Int64) (G : Nat → Nat → Nat → Int32) (p0 : Int32) (p1 : Int32)  (out : Int32) (hE : f_X4_without   p0 p1 = some out) : Met l yX4_without wsX4_without ({ frames := 2, cells := 0, slots := 0, locals := 41 } : Room) (mPc [.int p0, .int p1] D y nn ad sz I J A B G) (mQi D y nn ad (mA y nn ad I J A B G sz) out (I, J, A, B, G)) 0 0 (mA y nn ad I J A B G sz) := by
  refine Met.ofW (cc := cX4_without) (maxL := 2) (ret := (some .int)) (by decide) rfl ?_
  intro p e s m args below meth c s₁ Bd hml hv
  obtain ⟨rfl, hsz, hP, hK, hD0, hN⟩ := hv
  have hr := Bd.returns
  subst hsz
  have F : Fx p s m ([.int p0, .int p1] : List Value).toArray meth c cX4_without 2 wsX4_without RX4 D y (mA y nn ad I J A B G s.heap.size) := ⟨⟨Bd.exec, Bd.bytes, hml, findClass_of_methodNamed Bd.named, atoms_spec (ws := wsX4_without) Bd.pre⟩, hK, hN, fun q h => Or.inr h, Bd.notSynchronized⟩
  have hM := m_start (s := s) rfl hP hD0
  have hM := m_mem (I2 := I) (J2 := J) (A2 := A) (B2 := B) (G2 := G) hM (by rfl) (by rfl) (by rfl) (by rfl) (by rfl)
  have hx := F.1.1
  have hb := F.1.2.1
  have hl := lv_entry ([.int p0, .int p1]) (n := 2) (Nat.le_of_ble_eq_true rfl)
  rw [lg_entry_eq]
  generalize (lg_sl ([.int p0, .int p1]) ++ List.replicate (2 - (lg_sl ([.int p0, .int p1])).length) Slot.unset).toArray = ls at hl ⊢
  have hl : lv_has ls 2 [(0, .int p0), (1, .int p1)] := hl
  show W p l e ({ frames := 2, cells := 0, slots := 0, locals := 41 } : Room) s m _ below meth c s.heap [] 0 0 _ _
  obtain ⟨locs, hlo⟩ : ∃ locs : List Loc, locs = [] := ⟨_, rfl⟩
  rw [← hlo]; rw [← hlo] at hM
  unfold f_X4_without at hE
  revert hM
  suffices hH : ∀ H : Heap, MM D y nn ad (mA y nn ad I J A B G s.heap.size) s.heap I J A B G H locs → W p l e ({ frames := 2, cells := 0, slots := 0, locals := 41 } : Room) s m ([.int p0, .int p1] : List Value).toArray below meth c H locs 0 0 (MQ below (mQi D y nn ad (mA y nn ad I J A B G s.heap.size) out (I, J, A, B, G)) ([.int p0, .int p1] : List Value).toArray s 0 0 (mA y nn ad I J A B G s.heap.size)) (F0 m 0 ls []) from hH s.heap
  intro H hM
  refine lv_iload_n hx hb dX4_without_0 rfl (lv_at hl 0 rfl) ?_
  refine lv_iconst (v := 1) hx hb dX4_without_1 (by decide) ?_
  refine lv_iload_n hx hb dX4_without_2 rfl (lv_at hl 0 rfl) ?_
  obtain ⟨o3_0, ho3_0, hE⟩ := bd_some hE
  refine m_callSi (As := [.int p0]) (I2 := I) (J2 := J) (A2 := A) (B2 := B) (G2 := G) F hM (c_X4_firstOf l D y nn ad H.size I J A B G p0  o3_0 ho3_0) (va_cwS 1 F.1.2.2.2.2 gX4_without_X4_firstOf rfl rfl rfl (by decide +kernel) ⟨Nat.le_of_ble_eq_true rfl, Nat.le_of_ble_eq_true rfl⟩) rfl hl.1 (Nat.le_of_ble_eq_true rfl) dX4_without_3 ⟨Nat.le_refl 0, Nat.le_refl 0⟩ rfl rfl rfl rfl rfl (fun H locs hM => ?_)
  refine lv_ishl hx hb dX4_without_6 ?_
  refine lv_iconst (v := (-1)) hx hb dX4_without_7 (by decide) ?_
  refine lv_ixor hx hb dX4_without_8 ?_
  refine lv_iand hx hb dX4_without_9 ?_
  refine lv_iconst (v := 1) hx hb dX4_without_10 (by decide) ?_
  refine lv_iload_n hx hb dX4_without_11 rfl (lv_at hl 1 rfl) ?_
  refine lv_ishl hx hb dX4_without_12 ?_
  refine lv_iconst (v := (-1)) hx hb dX4_without_13 (by decide) ?_
  refine lv_ixor hx hb dX4_without_14 ?_
  refine lv_iand hx hb dX4_without_15 ?_
  obtain rfl := Option.some.inj hE
  exact m_iret F hM hr rfl rfl dX4_without_16
/-! ===== X4_everyOdd: reads I2, writes , frames 0, locals 0 ===== -/
def f_X4_everyOdd (i2 : Int32)   : Option (Int32) :=
some (((1 : Int32) <<< (i2 &&& 31)) - (1 : Int32))
set_option maxHeartbeats 4000000 in
set_option maxRecDepth 100000 in
theorem c_X4_everyOdd (l : Launch) (D : va_G) (y : Nat → ClassId) (nn : Nat) (ad : Nat → Nat) (sz : Nat) (I : Nat → Int32) (J : Nat → Int64) (A : Nat → Nat → Int32) (B : Nat → Nat → Int64) (G : Nat → Nat → Nat → Int32)   (out : Int32) (hE : f_X4_everyOdd (I 2)   = some out) : Met l yX4_everyOdd wsX4_everyOdd ({ frames := 0, cells := 0, slots := 0, locals := 0 } : Room) (mPc [.ref (ad 5)] D y nn ad sz I J A B G) (mQi D y nn ad (mA y nn ad I J A B G sz) out (I, J, A, B, G)) 0 0 (mA y nn ad I J A B G sz) := by
  refine Met.ofW (cc := cX4_everyOdd) (maxL := 1) (ret := (some .int)) (by decide) rfl ?_
  intro p e s m args below meth c s₁ Bd hml hv
  obtain ⟨rfl, hsz, hP, hK, hD0, hN⟩ := hv
  have hr := Bd.returns
  subst hsz
  have F : Fx p s m ([.ref (ad 5)] : List Value).toArray meth c cX4_everyOdd 1 wsX4_everyOdd RX4 D y (mA y nn ad I J A B G s.heap.size) := ⟨⟨Bd.exec, Bd.bytes, hml, findClass_of_methodNamed Bd.named, atoms_spec (ws := wsX4_everyOdd) Bd.pre⟩, hK, hN, fun q h => Or.inr h, Bd.notSynchronized⟩
  have hM := m_start (s := s) rfl hP hD0
  have hM := m_mem (I2 := I) (J2 := J) (A2 := A) (B2 := B) (G2 := G) hM (by rfl) (by rfl) (by rfl) (by rfl) (by rfl)
  have hx := F.1.1
  have hb := F.1.2.1
  have hl := lv_entry ([.ref (ad 5)]) (n := 1) (Nat.le_of_ble_eq_true rfl)
  rw [lg_entry_eq]
  generalize (lg_sl ([.ref (ad 5)]) ++ List.replicate (1 - (lg_sl ([.ref (ad 5)])).length) Slot.unset).toArray = ls at hl ⊢
  have hl : lv_has ls 1 [(0, .ref (ad 5))] := hl
  show W p l e ({ frames := 0, cells := 0, slots := 0, locals := 0 } : Room) s m _ below meth c s.heap [] 0 0 _ _
  obtain ⟨locs, hlo⟩ : ∃ locs : List Loc, locs = [] := ⟨_, rfl⟩
  rw [← hlo]; rw [← hlo] at hM
  unfold f_X4_everyOdd at hE
  revert hM
  suffices hH : ∀ H : Heap, MM D y nn ad (mA y nn ad I J A B G s.heap.size) s.heap I J A B G H locs → W p l e ({ frames := 0, cells := 0, slots := 0, locals := 0 } : Room) s m ([.ref (ad 5)] : List Value).toArray below meth c H locs 0 0 (MQ below (mQi D y nn ad (mA y nn ad I J A B G s.heap.size) out (I, J, A, B, G)) ([.ref (ad 5)] : List Value).toArray s 0 0 (mA y nn ad I J A B G s.heap.size)) (F0 m 0 ls []) from hH s.heap
  intro H hM
  refine lv_iconst (v := 1) hx hb dX4_everyOdd_0 (by decide) ?_
  refine lv_aload_n hx hb dX4_everyOdd_1 rfl (lv_at hl 0 rfl) ?_
  refine m_get F hM 5 mg_5 rfl 3 (by decide) (by decide +kernel) (by decide +kernel) (v := .int (I 2)) rfl dX4_everyOdd_2 ?_
  refine lv_ishl hx hb dX4_everyOdd_5 ?_
  refine lv_iconst (v := 1) hx hb dX4_everyOdd_6 (by decide) ?_
  refine lv_isub hx hb dX4_everyOdd_7 ?_
  obtain rfl := Option.some.inj hE
  exact m_iret F hM hr rfl rfl dX4_everyOdd_8
/-! ===== X4_member: reads I3 A30, writes , frames 0, locals 0 ===== -/
def f_X4_member (nn : Nat) (i3 : Int32) (a30 : Nat → Int32)  (p1 : Int32) (p2 : Int32) : Option (Int32) :=
(if p1 < (0 : Int32) then
some (-1 : Int32)
else
(if i3 ≤ p1 then
some (-1 : Int32)
else
(if p2 < (0 : Int32) then
some (-1 : Int32)
else
(if p2 ≤ (1 : Int32) then
ck (((2 : Int32) * p1) + p2) nn (
some (a30 (((2 : Int32) * p1) + p2).toNatClampNeg))
else
some (-1 : Int32)))))
set_option maxHeartbeats 4000000 in
set_option maxRecDepth 100000 in
theorem c_X4_member (l : Launch) (D : va_G) (y : Nat → ClassId) (nn : Nat) (ad : Nat → Nat) (sz : Nat) (I : Nat → Int32) (J : Nat → Int64) (A : Nat → Nat → Int32) (B : Nat → Nat → Int64) (G : Nat → Nat → Nat → Int32) (p1 : Int32) (p2 : Int32)  (out : Int32) (hE : f_X4_member nn (I 3) (A 30)  p1 p2 = some out) : Met l yX4_member wsX4_member ({ frames := 0, cells := 0, slots := 0, locals := 0 } : Room) (mPc [.ref (ad 5), .int p1, .int p2] D y nn ad sz I J A B G) (mQi D y nn ad (mA y nn ad I J A B G sz) out (I, J, A, B, G)) 0 0 (mA y nn ad I J A B G sz) := by
  refine Met.ofW (cc := cX4_member) (maxL := 3) (ret := (some .int)) (by decide) rfl ?_
  intro p e s m args below meth c s₁ Bd hml hv
  obtain ⟨rfl, hsz, hP, hK, hD0, hN⟩ := hv
  have hr := Bd.returns
  subst hsz
  have F : Fx p s m ([.ref (ad 5), .int p1, .int p2] : List Value).toArray meth c cX4_member 3 wsX4_member RX4 D y (mA y nn ad I J A B G s.heap.size) := ⟨⟨Bd.exec, Bd.bytes, hml, findClass_of_methodNamed Bd.named, atoms_spec (ws := wsX4_member) Bd.pre⟩, hK, hN, fun q h => Or.inr h, Bd.notSynchronized⟩
  have hM := m_start (s := s) rfl hP hD0
  have hM := m_mem (I2 := I) (J2 := J) (A2 := A) (B2 := B) (G2 := G) hM (by rfl) (by rfl) (by rfl) (by rfl) (by rfl)
  have hx := F.1.1
  have hb := F.1.2.1
  have hl := lv_entry ([.ref (ad 5), .int p1, .int p2]) (n := 3) (Nat.le_of_ble_eq_true rfl)
  rw [lg_entry_eq]
  generalize (lg_sl ([.ref (ad 5), .int p1, .int p2]) ++ List.replicate (3 - (lg_sl ([.ref (ad 5), .int p1, .int p2])).length) Slot.unset).toArray = ls at hl ⊢
  have hl : lv_has ls 3 [(0, .ref (ad 5)), (1, .int p1), (2, .int p2)] := hl
  show W p l e ({ frames := 0, cells := 0, slots := 0, locals := 0 } : Room) s m _ below meth c s.heap [] 0 0 _ _
  obtain ⟨locs, hlo⟩ : ∃ locs : List Loc, locs = [] := ⟨_, rfl⟩
  rw [← hlo]; rw [← hlo] at hM
  unfold f_X4_member at hE
  revert hM
  suffices hH : ∀ H : Heap, MM D y nn ad (mA y nn ad I J A B G s.heap.size) s.heap I J A B G H locs → W p l e ({ frames := 0, cells := 0, slots := 0, locals := 0 } : Room) s m ([.ref (ad 5), .int p1, .int p2] : List Value).toArray below meth c H locs 0 0 (MQ below (mQi D y nn ad (mA y nn ad I J A B G s.heap.size) out (I, J, A, B, G)) ([.ref (ad 5), .int p1, .int p2] : List Value).toArray s 0 0 (mA y nn ad I J A B G s.heap.size)) (F0 m 0 ls []) from hH s.heap
  intro H hM
  refine lv_iload_n hx hb dX4_member_0 rfl (lv_at hl 1 rfl) ?_
  refine lv_if_lt (tgt := 21) hx hb dX4_member_1 (by decide) (fun c1 => ?_) (fun c1 => ?_)
  · replace hE := (if_pos c1).symm.trans hE
    refine lv_iconst (v := (-1)) hx hb dX4_member_21 (by decide) ?_
    obtain rfl := Option.some.inj hE
    exact m_iret F hM hr rfl rfl dX4_member_22
  · replace hE := (if_neg c1).symm.trans hE
    refine lv_iload_n hx hb dX4_member_4 rfl (lv_at hl 1 rfl) ?_
    refine lv_aload_n hx hb dX4_member_5 rfl (lv_at hl 0 rfl) ?_
    refine m_get F hM 5 mg_5 rfl 6 (by decide) (by decide +kernel) (by decide +kernel) (v := .int (I 3)) rfl dX4_member_6 ?_
    refine lv_icmp_ge (tgt := 21) hx hb dX4_member_9 (by decide) (fun c9 => ?_) (fun c9 => ?_)
    · replace hE := (if_pos c9).symm.trans hE
      refine lv_iconst (v := (-1)) hx hb dX4_member_21 (by decide) ?_
      obtain rfl := Option.some.inj hE
      exact m_iret F hM hr rfl rfl dX4_member_22
    · replace hE := (if_neg c9).symm.trans hE
      refine lv_iload_n hx hb dX4_member_12 rfl (lv_at hl 2 rfl) ?_
      refine lv_if_lt (tgt := 21) hx hb dX4_member_13 (by decide) (fun c13 => ?_) (fun c13 => ?_)
      · replace hE := (if_pos c13).symm.trans hE
        refine lv_iconst (v := (-1)) hx hb dX4_member_21 (by decide) ?_
        obtain rfl := Option.some.inj hE
        exact m_iret F hM hr rfl rfl dX4_member_22
      · replace hE := (if_neg c13).symm.trans hE
        refine lv_iload_n hx hb dX4_member_16 rfl (lv_at hl 2 rfl) ?_
        refine lv_iconst (v := 1) hx hb dX4_member_17 (by decide) ?_
        refine lv_icmp_le (tgt := 23) hx hb dX4_member_18 (by decide) (fun c18 => ?_) (fun c18 => ?_)
        · replace hE := (if_pos c18).symm.trans hE
          refine lv_aload_n hx hb dX4_member_23 rfl (lv_at hl 0 rfl) ?_
          refine m_get F hM 5 mg_5 rfl 5 (by decide) (by decide +kernel) (by decide +kernel) (v := .ref (ad 30)) rfl dX4_member_24 ?_
          refine lv_iconst (v := 2) hx hb dX4_member_27 (by decide) ?_
          refine lv_iload_n hx hb dX4_member_28 rfl (lv_at hl 1 rfl) ?_
          refine lv_imul hx hb dX4_member_29 ?_
          refine lv_iload_n hx hb dX4_member_30 rfl (lv_at hl 2 rfl) ?_
          refine lv_iadd hx hb dX4_member_31 ?_
          obtain ⟨hi32_0, hE⟩ := ck_some hE
          refine m_iald (g := (A 30)) F hM mg_30 rfl hi32_0 dX4_member_32 ?_
          obtain rfl := Option.some.inj hE
          exact m_iret F hM hr rfl rfl dX4_member_33
        · replace hE := (if_neg c18).symm.trans hE
          refine lv_iconst (v := (-1)) hx hb dX4_member_21 (by decide) ?_
          obtain rfl := Option.some.inj hE
          exact m_iret F hM hr rfl rfl dX4_member_22
/-! ===== X4_sumOfStreets: reads I0 G1, writes , frames 1, locals 22 ===== -/
def f_X4_sumOfStreets_20 (N : Nat) (nn : Nat) (i0 : Int32) (g1 : Nat → Nat → Int32) (nx4 : Int64 → Int32 → Option (Int64)) (nx20 : Int64 → Int32 → Int32 → Option (Int64)) (x1 : Int64) (x3 : Int32) (x4 : Int32) : Option (Int64) :=
(if i0 ≤ x4 then
nx4 x1 (x3 + (1 : Int32))
else
ck x3 nn (
ck x4 nn (
nmd ((x1 + ((if (0 : Int32) < (g1 x3.toNatClampNeg x4.toNatClampNeg) then (g1 x3.toNatClampNeg x4.toNatClampNeg) else (0 : Int32)).toInt64))) fun v51_2 =>
nx20 v51_2 x3 (x4 + (1 : Int32)))))
def f_X4_sumOfStreets_4 (N : Nat) (nn : Nat) (i0 : Int32) (g1 : Nat → Nat → Int32)  (nx4 : Int64 → Int32 → Option (Int64)) (x1 : Int64) (x3 : Int32) : Option (Int64) :=
(if i0 ≤ x3 then
some x1
else
lq3 (f_X4_sumOfStreets_20 N nn i0 g1 nx4) N x1 x3 (x3 + (1 : Int32)))
def f_X4_sumOfStreets (N : Nat) (nn : Nat) (i0 : Int32) (g1 : Nat → Nat → Int32)   : Option (Int64) :=
lq2 (f_X4_sumOfStreets_4 N nn i0 g1 ) N (0 : Int64) (0 : Int32)
set_option maxHeartbeats 4000000 in
set_option maxRecDepth 100000 in
theorem s_X4_sumOfStreets_20 {p : Program} {l : Launch} {e : Env} {s : State} {m : MethodId} {args : Array Value} {below : List Frame} {meth : Method} {c : Code} {D : va_G} {y : Nat → ClassId} {nn : Nat} {ad : Nat → Nat} {A0 : Nat → Prop} {I : Nat → Int32} {J : Nat → Int64} {A : Nat → Nat → Int32} {B : Nat → Nat → Int64} {G : Nat → Nat → Nat → Int32} (F : Fx p s m args meth c cX4_sumOfStreets 5 wsX4_sumOfStreets RX4 D y A0) (hr : meth.sig.returnType = (some .long)) {out : Int64} {N : Nat} (nx4 : Int64 → Int32 → Option (Int64)) (hn4 : ∀ (x1 : Int64) (x3 : Int32) (ls : Array Slot) (H : Heap) (locs : List Loc), nx4 x1 x3 = some out → MM D y nn ad A0 s.heap I J A B G H locs → lv_has ls 5 [(0, .ref (ad 5)), (1, .long x1), (3, .int x3)] → W p l e ({ frames := 1, cells := 0, slots := 0, locals := 22 } : Room) s m args below meth c H locs 0 0 (MQ below (mQl D y nn ad A0 out (I, J, A, B, G)) args s 0 0 A0) (F0 m 4 ls [])) (nx20 : Int64 → Int32 → Int32 → Option (Int64)) (hn20 : ∀ (x1 : Int64) (x3 : Int32) (x4 : Int32) (ls : Array Slot) (H : Heap) (locs : List Loc), nx20 x1 x3 x4 = some out → MM D y nn ad A0 s.heap I J A B G H locs → lv_has ls 5 [(0, .ref (ad 5)), (1, .long x1), (3, .int x3), (4, .int x4)] → W p l e ({ frames := 1, cells := 0, slots := 0, locals := 22 } : Room) s m args below meth c H locs 0 0 (MQ below (mQl D y nn ad A0 out (I, J, A, B, G)) args s 0 0 A0) (F0 m 20 ls [])) : ∀ (x1 : Int64) (x3 : Int32) (x4 : Int32) (ls : Array Slot) (H : Heap) (locs : List Loc), f_X4_sumOfStreets_20 N nn (I 0) (G 1) nx4 nx20 x1 x3 x4 = some out → MM D y nn ad A0 s.heap I J A B G H locs → lv_has ls 5 [(0, .ref (ad 5)), (1, .long x1), (3, .int x3), (4, .int x4)] → W p l e ({ frames := 1, cells := 0, slots := 0, locals := 22 } : Room) s m args below meth c H locs 0 0 (MQ below (mQl D y nn ad A0 out (I, J, A, B, G)) args s 0 0 A0) (F0 m 20 ls []) := by
  intro x1 x3 x4 ls H locs hE hM hl
  have hx := F.1.1
  have hb := F.1.2.1
  unfold f_X4_sumOfStreets_20 at hE
  refine lv_iload hx hb dX4_sumOfStreets_20 (lv_at hl 3 rfl) ?_
  refine lv_aload_n hx hb dX4_sumOfStreets_22 rfl (lv_at hl 0 rfl) ?_
  refine m_get F hM 5 mg_5 rfl 0 (by decide) (by decide +kernel) (by decide +kernel) (v := .ref (ad 1)) rfl dX4_sumOfStreets_23 ?_
  refine m_getN F hM 1 mg_1 rfl 0 (by decide) (by decide +kernel) (by decide +kernel) (v := .int (I 0)) rfl dX4_sumOfStreets_26 ?_
  refine lv_icmp_ge (tgt := 58) hx hb dX4_sumOfStreets_29 (by decide) (fun c29 => ?_) (fun c29 => ?_)
  · replace hE := (if_pos c29).symm.trans hE
    refine lv_iinc (v := x3 + (1 : Int32)) (lv' := [(3, .int (x3 + (1 : Int32))), (0, .ref (ad 5)), (1, .long x1), (4, .int x4)]) hx hb dX4_sumOfStreets_58 hl (k := 2) rfl rfl (by decide) rfl (fun ls hl => ?_)
    refine lv_goto (tgt := 4) hx hb dX4_sumOfStreets_61 (by decide) ?_
    exact hn4 x1 (x3 + (1 : Int32)) ls H locs hE hM (lv_sub hl [1, 2, 0] rfl)
  · replace hE := (if_neg c29).symm.trans hE
    refine lv_lload_n hx hb dX4_sumOfStreets_32 rfl (lv_at hl 1 rfl) ?_
    refine lv_iconst (v := 0) hx hb dX4_sumOfStreets_33 (by decide) ?_
    refine lv_aload_n hx hb dX4_sumOfStreets_34 rfl (lv_at hl 0 rfl) ?_
    refine m_get F hM 5 mg_5 rfl 0 (by decide) (by decide +kernel) (by decide +kernel) (v := .ref (ad 1)) rfl dX4_sumOfStreets_35 ?_
    refine m_getN F hM 1 mg_1 rfl 2 (by decide) (by decide +kernel) (by decide +kernel) (v := .ref (ad 9)) rfl dX4_sumOfStreets_38 ?_
    refine lv_iload_n hx hb dX4_sumOfStreets_41 rfl (lv_at hl 2 rfl) ?_
    obtain ⟨hi42_0, hE⟩ := ck_some hE
    refine m_aald F hM mg_9 hi42_0 dX4_sumOfStreets_42 ?_
    refine lv_iload hx hb dX4_sumOfStreets_43 (lv_at hl 3 rfl) ?_
    obtain ⟨hi45_1, hE⟩ := ck_some hE
    refine m_rald (M := (G 1)) F hM (by decide) (vp_lt hi42_0) rfl hi45_1 dX4_sumOfStreets_45 ?_
    refine va_mmax hx hb (F.1.2.2.1.trans hl.1.symm) F.1.2.2.2.1 (F.1.2.2.2.2 (.methodLink RX4 71 Lib.Math.max.name) (by decide +kernel)) (F.1.2.2.2.2 (.static Lib.Math.max.name) (by decide +kernel)) (F.1.2.2.2.2 (.initialized "java/lang/Math") (by decide +kernel)) (F.1.2.2.2.2 (.code Lib.Math.max.name Lib.Math.max.code 2 (some .int)) (by decide +kernel)) (Nat.le_of_ble_eq_true rfl) (Nat.le_of_ble_eq_true rfl) (Nat.le_refl 0) (Nat.le_refl 0) dX4_sumOfStreets_46 ?_
    refine lv_i2l hx hb dX4_sumOfStreets_49 rfl ?_
    refine lv_ladd hx hb dX4_sumOfStreets_50 ?_
    obtain ⟨v51_2, ev51_2, hE⟩ := nmd_some hE
    refine m_topl ev51_2 ?_
    refine lv_lstore_n (lv' := [(1, .long v51_2), (0, .ref (ad 5)), (3, .int x3), (4, .int x4)]) hx hb dX4_sumOfStreets_51 rfl hl (by decide) rfl (fun ls hl => ?_)
    refine lv_iinc (v := x4 + (1 : Int32)) (lv' := [(4, .int (x4 + (1 : Int32))), (1, .long v51_2), (0, .ref (ad 5)), (3, .int x3)]) hx hb dX4_sumOfStreets_52 hl (k := 3) rfl rfl (by decide) rfl (fun ls hl => ?_)
    refine lv_goto (tgt := 20) hx hb dX4_sumOfStreets_55 (by decide) ?_
    exact hn20 v51_2 x3 (x4 + (1 : Int32)) ls H locs hE hM (lv_sub hl [2, 1, 3, 0] rfl)
theorem k_X4_sumOfStreets_20 {p : Program} {l : Launch} {e : Env} {s : State} {m : MethodId} {args : Array Value} {below : List Frame} {meth : Method} {c : Code} {D : va_G} {y : Nat → ClassId} {nn : Nat} {ad : Nat → Nat} {A0 : Nat → Prop} {I : Nat → Int32} {J : Nat → Int64} {A : Nat → Nat → Int32} {B : Nat → Nat → Int64} {G : Nat → Nat → Nat → Int32} (F : Fx p s m args meth c cX4_sumOfStreets 5 wsX4_sumOfStreets RX4 D y A0) (hr : meth.sig.returnType = (some .long)) {out : Int64} {N : Nat} (nx4 : Int64 → Int32 → Option (Int64)) (hn4 : ∀ (x1 : Int64) (x3 : Int32) (ls : Array Slot) (H : Heap) (locs : List Loc), nx4 x1 x3 = some out → MM D y nn ad A0 s.heap I J A B G H locs → lv_has ls 5 [(0, .ref (ad 5)), (1, .long x1), (3, .int x3)] → W p l e ({ frames := 1, cells := 0, slots := 0, locals := 22 } : Room) s m args below meth c H locs 0 0 (MQ below (mQl D y nn ad A0 out (I, J, A, B, G)) args s 0 0 A0) (F0 m 4 ls [])) : ∀ (n : Nat), ∀ (x1 : Int64) (x3 : Int32) (x4 : Int32) (ls : Array Slot) (H : Heap) (locs : List Loc), lq3 (f_X4_sumOfStreets_20 N nn (I 0) (G 1) nx4) n x1 x3 x4 = some out → MM D y nn ad A0 s.heap I J A B G H locs → lv_has ls 5 [(0, .ref (ad 5)), (1, .long x1), (3, .int x3), (4, .int x4)] → W p l e ({ frames := 1, cells := 0, slots := 0, locals := 22 } : Room) s m args below meth c H locs 0 0 (MQ below (mQl D y nn ad A0 out (I, J, A, B, G)) args s 0 0 A0) (F0 m 20 ls []) := by
  intro n
  induction n with
  | zero =>
    intro x1 x3 x4 ls H locs hE
    cases (show (none : Option _) = some out from hE)
  | succ n ih =>
    intro x1 x3 x4 ls H locs hE hM hl
    exact s_X4_sumOfStreets_20 F hr (N := N) nx4 hn4 (lq3 (f_X4_sumOfStreets_20 N nn (I 0) (G 1) nx4) n) ih x1 x3 x4 ls H locs hE hM hl
set_option maxHeartbeats 4000000 in
set_option maxRecDepth 100000 in
theorem s_X4_sumOfStreets_4 {p : Program} {l : Launch} {e : Env} {s : State} {m : MethodId} {args : Array Value} {below : List Frame} {meth : Method} {c : Code} {D : va_G} {y : Nat → ClassId} {nn : Nat} {ad : Nat → Nat} {A0 : Nat → Prop} {I : Nat → Int32} {J : Nat → Int64} {A : Nat → Nat → Int32} {B : Nat → Nat → Int64} {G : Nat → Nat → Nat → Int32} (F : Fx p s m args meth c cX4_sumOfStreets 5 wsX4_sumOfStreets RX4 D y A0) (hr : meth.sig.returnType = (some .long)) {out : Int64} {N : Nat}  (nx4 : Int64 → Int32 → Option (Int64)) (hn4 : ∀ (x1 : Int64) (x3 : Int32) (ls : Array Slot) (H : Heap) (locs : List Loc), nx4 x1 x3 = some out → MM D y nn ad A0 s.heap I J A B G H locs → lv_has ls 5 [(0, .ref (ad 5)), (1, .long x1), (3, .int x3)] → W p l e ({ frames := 1, cells := 0, slots := 0, locals := 22 } : Room) s m args below meth c H locs 0 0 (MQ below (mQl D y nn ad A0 out (I, J, A, B, G)) args s 0 0 A0) (F0 m 4 ls [])) : ∀ (x1 : Int64) (x3 : Int32) (ls : Array Slot) (H : Heap) (locs : List Loc), f_X4_sumOfStreets_4 N nn (I 0) (G 1)  nx4 x1 x3 = some out → MM D y nn ad A0 s.heap I J A B G H locs → lv_has ls 5 [(0, .ref (ad 5)), (1, .long x1), (3, .int x3)] → W p l e ({ frames := 1, cells := 0, slots := 0, locals := 22 } : Room) s m args below meth c H locs 0 0 (MQ below (mQl D y nn ad A0 out (I, J, A, B, G)) args s 0 0 A0) (F0 m 4 ls []) := by
  intro x1 x3 ls H locs hE hM hl
  have hx := F.1.1
  have hb := F.1.2.1
  unfold f_X4_sumOfStreets_4 at hE
  refine lv_iload_n hx hb dX4_sumOfStreets_4 rfl (lv_at hl 2 rfl) ?_
  refine lv_aload_n hx hb dX4_sumOfStreets_5 rfl (lv_at hl 0 rfl) ?_
  refine m_get F hM 5 mg_5 rfl 0 (by decide) (by decide +kernel) (by decide +kernel) (v := .ref (ad 1)) rfl dX4_sumOfStreets_6 ?_
  refine m_getN F hM 1 mg_1 rfl 0 (by decide) (by decide +kernel) (by decide +kernel) (v := .int (I 0)) rfl dX4_sumOfStreets_9 ?_
  refine lv_icmp_ge (tgt := 64) hx hb dX4_sumOfStreets_12 (by decide) (fun c12 => ?_) (fun c12 => ?_)
  · replace hE := (if_pos c12).symm.trans hE
    refine lv_lload_n hx hb dX4_sumOfStreets_64 rfl (lv_at hl 1 rfl) ?_
    obtain rfl := Option.some.inj hE
    exact m_lret F hM hr rfl rfl dX4_sumOfStreets_65
  · replace hE := (if_neg c12).symm.trans hE
    refine lv_iload_n hx hb dX4_sumOfStreets_15 rfl (lv_at hl 2 rfl) ?_
    refine lv_iconst (v := 1) hx hb dX4_sumOfStreets_16 (by decide) ?_
    refine lv_iadd hx hb dX4_sumOfStreets_17 ?_
    refine lv_istore (lv' := [(4, .int (x3 + (1 : Int32))), (0, .ref (ad 5)), (1, .long x1), (3, .int x3)]) hx hb dX4_sumOfStreets_18 hl (by decide) rfl (fun ls hl => ?_)
    exact k_X4_sumOfStreets_20 F hr (N := N) nx4 hn4 N x1 x3 (x3 + (1 : Int32)) ls H locs hE hM (lv_sub hl [1, 2, 3, 0] rfl)
theorem k_X4_sumOfStreets_4 {p : Program} {l : Launch} {e : Env} {s : State} {m : MethodId} {args : Array Value} {below : List Frame} {meth : Method} {c : Code} {D : va_G} {y : Nat → ClassId} {nn : Nat} {ad : Nat → Nat} {A0 : Nat → Prop} {I : Nat → Int32} {J : Nat → Int64} {A : Nat → Nat → Int32} {B : Nat → Nat → Int64} {G : Nat → Nat → Nat → Int32} (F : Fx p s m args meth c cX4_sumOfStreets 5 wsX4_sumOfStreets RX4 D y A0) (hr : meth.sig.returnType = (some .long)) {out : Int64} {N : Nat}  : ∀ (n : Nat), ∀ (x1 : Int64) (x3 : Int32) (ls : Array Slot) (H : Heap) (locs : List Loc), lq2 (f_X4_sumOfStreets_4 N nn (I 0) (G 1) ) n x1 x3 = some out → MM D y nn ad A0 s.heap I J A B G H locs → lv_has ls 5 [(0, .ref (ad 5)), (1, .long x1), (3, .int x3)] → W p l e ({ frames := 1, cells := 0, slots := 0, locals := 22 } : Room) s m args below meth c H locs 0 0 (MQ below (mQl D y nn ad A0 out (I, J, A, B, G)) args s 0 0 A0) (F0 m 4 ls []) := by
  intro n
  induction n with
  | zero =>
    intro x1 x3 ls H locs hE
    cases (show (none : Option _) = some out from hE)
  | succ n ih =>
    intro x1 x3 ls H locs hE hM hl
    exact s_X4_sumOfStreets_4 F hr (N := N)  (lq2 (f_X4_sumOfStreets_4 N nn (I 0) (G 1) ) n) ih x1 x3 ls H locs hE hM hl
set_option maxHeartbeats 4000000 in
set_option maxRecDepth 100000 in
theorem c_X4_sumOfStreets (l : Launch) (D : va_G) (y : Nat → ClassId) (nn : Nat) (ad : Nat → Nat) (sz : Nat) (I : Nat → Int32) (J : Nat → Int64) (A : Nat → Nat → Int32) (B : Nat → Nat → Int64) (G : Nat → Nat → Nat → Int32)  (N : Nat) (out : Int64) (hE : f_X4_sumOfStreets N nn (I 0) (G 1)   = some out) : Met l yX4_sumOfStreets wsX4_sumOfStreets ({ frames := 1, cells := 0, slots := 0, locals := 22 } : Room) (mPc [.ref (ad 5)] D y nn ad sz I J A B G) (mQl D y nn ad (mA y nn ad I J A B G sz) out (I, J, A, B, G)) 0 0 (mA y nn ad I J A B G sz) := by
  refine Met.ofW (cc := cX4_sumOfStreets) (maxL := 5) (ret := (some .long)) (by decide) rfl ?_
  intro p e s m args below meth c s₁ Bd hml hv
  obtain ⟨rfl, hsz, hP, hK, hD0, hN⟩ := hv
  have hr := Bd.returns
  subst hsz
  have F : Fx p s m ([.ref (ad 5)] : List Value).toArray meth c cX4_sumOfStreets 5 wsX4_sumOfStreets RX4 D y (mA y nn ad I J A B G s.heap.size) := ⟨⟨Bd.exec, Bd.bytes, hml, findClass_of_methodNamed Bd.named, atoms_spec (ws := wsX4_sumOfStreets) Bd.pre⟩, hK, hN, fun q h => Or.inr h, Bd.notSynchronized⟩
  have hM := m_start (s := s) rfl hP hD0
  have hM := m_mem (I2 := I) (J2 := J) (A2 := A) (B2 := B) (G2 := G) hM (by rfl) (by rfl) (by rfl) (by rfl) (by rfl)
  have hx := F.1.1
  have hb := F.1.2.1
  have hl := lv_entry ([.ref (ad 5)]) (n := 5) (Nat.le_of_ble_eq_true rfl)
  rw [lg_entry_eq]
  generalize (lg_sl ([.ref (ad 5)]) ++ List.replicate (5 - (lg_sl ([.ref (ad 5)])).length) Slot.unset).toArray = ls at hl ⊢
  have hl : lv_has ls 5 [(0, .ref (ad 5))] := hl
  show W p l e ({ frames := 1, cells := 0, slots := 0, locals := 22 } : Room) s m _ below meth c s.heap [] 0 0 _ _
  obtain ⟨locs, hlo⟩ : ∃ locs : List Loc, locs = [] := ⟨_, rfl⟩
  rw [← hlo]; rw [← hlo] at hM
  unfold f_X4_sumOfStreets at hE
  revert hM
  suffices hH : ∀ H : Heap, MM D y nn ad (mA y nn ad I J A B G s.heap.size) s.heap I J A B G H locs → W p l e ({ frames := 1, cells := 0, slots := 0, locals := 22 } : Room) s m ([.ref (ad 5)] : List Value).toArray below meth c H locs 0 0 (MQ below (mQl D y nn ad (mA y nn ad I J A B G s.heap.size) out (I, J, A, B, G)) ([.ref (ad 5)] : List Value).toArray s 0 0 (mA y nn ad I J A B G s.heap.size)) (F0 m 0 ls []) from hH s.heap
  intro H hM
  refine lv_lconst (v := 0) hx hb dX4_sumOfStreets_0 (by decide) ?_
  refine lv_lstore_n (lv' := [(1, .long (0 : Int64)), (0, .ref (ad 5))]) hx hb dX4_sumOfStreets_1 rfl hl (by decide) rfl (fun ls hl => ?_)
  refine lv_iconst (v := 0) hx hb dX4_sumOfStreets_2 (by decide) ?_
  refine lv_istore_n (lv' := [(3, .int (0 : Int32)), (1, .long (0 : Int64)), (0, .ref (ad 5))]) hx hb dX4_sumOfStreets_3 rfl hl (by decide) rfl (fun ls hl => ?_)
  exact k_X4_sumOfStreets_4 F hr (N := N)  N (0 : Int64) (0 : Int32) ls H locs hE hM (lv_sub hl [2, 1, 0] rfl)
/-! ===== X4_findOddPlaces: reads I0 G1, writes I2 A28, frames 0, locals 0 ===== -/
def f_X4_findOddPlaces_22 (N : Nat) (nn : Nat) (i0 : Int32) (g1 : Nat → Nat → Int32) (nx7 : Int32 → Int32 → (Nat → Int32) → Option (Int32 × (Nat → Int32))) (nx22 : Int32 → Int32 → Int32 → Int32 → (Nat → Int32) → Option (Int32 × (Nat → Int32))) (x1 : Int32) (x2 : Int32) (x3 : Int32) (i2' : Int32) (a28' : Nat → Int32) : Option (Int32 × (Nat → Int32)) :=
(if i0 ≤ x3 then
(if (x2 &&& (1 : Int32)) = (0 : Int32) then
nx7 (x1 + (1 : Int32)) i2' a28'
else
ck i2' nn (
nmd (upd a28' i2'.toNatClampNeg x1) fun w72_1 =>
nx7 (x1 + (1 : Int32)) (i2' + (1 : Int32)) w72_1))
else
ck x1 nn (
ck x3 nn (
(if (g1 x1.toNatClampNeg x3.toNatClampNeg) = (-1 : Int32) then
nx22 x1 x2 (x3 + (1 : Int32)) i2' a28'
else
nx22 x1 (x2 + (1 : Int32)) (x3 + (1 : Int32)) i2' a28'))))
def f_X4_findOddPlaces_7 (N : Nat) (nn : Nat) (i0 : Int32) (g1 : Nat → Nat → Int32)  (nx7 : Int32 → Int32 → (Nat → Int32) → Option (Int32 × (Nat → Int32))) (x1 : Int32) (i2' : Int32) (a28' : Nat → Int32) : Option (Int32 × (Nat → Int32)) :=
(if i0 ≤ x1 then
some (i2', a28')
else
lq5 (f_X4_findOddPlaces_22 N nn i0 g1 nx7) N x1 (0 : Int32) (0 : Int32) i2' a28')
def f_X4_findOddPlaces (N : Nat) (nn : Nat) (i0 : Int32) (g1 : Nat → Nat → Int32) (i2 : Int32) (a28 : Nat → Int32)  : Option (Int32 × (Nat → Int32)) :=
lq3 (f_X4_findOddPlaces_7 N nn i0 g1 ) N (0 : Int32) (0 : Int32) a28
set_option maxHeartbeats 4000000 in
set_option maxRecDepth 100000 in
theorem s_X4_findOddPlaces_22 {p : Program} {l : Launch} {e : Env} {s : State} {m : MethodId} {args : Array Value} {below : List Frame} {meth : Method} {c : Code} {D : va_G} {y : Nat → ClassId} {nn : Nat} {ad : Nat → Nat} {A0 : Nat → Prop} {I : Nat → Int32} {J : Nat → Int64} {A : Nat → Nat → Int32} {B : Nat → Nat → Int64} {G : Nat → Nat → Nat → Int32} (F : Fx p s m args meth c cX4_findOddPlaces 4 wsX4_findOddPlaces RX4 D y A0) (hr : meth.sig.returnType = none) {out : Int32 × (Nat → Int32)} {N : Nat} (nx7 : Int32 → Int32 → (Nat → Int32) → Option (Int32 × (Nat → Int32))) (hn7 : ∀ (x1 : Int32) (i2' : Int32) (a28' : Nat → Int32) (ls : Array Slot) (H : Heap) (locs : List Loc), nx7 x1 i2' a28' = some out → MM D y nn ad A0 s.heap (va_up I 2 i2') J (va_up A 28 a28') B G H locs → lv_has ls 4 [(0, .ref (ad 5)), (1, .int x1)] → W p l e ({ frames := 0, cells := 0, slots := 0, locals := 0 } : Room) s m args below meth c H locs 0 0 (MQ below (mQv D y nn ad A0 ((va_up I 2 out.1), J, (va_up A 28 out.2), B, G)) args s 0 0 A0) (F0 m 7 ls [])) (nx22 : Int32 → Int32 → Int32 → Int32 → (Nat → Int32) → Option (Int32 × (Nat → Int32))) (hn22 : ∀ (x1 : Int32) (x2 : Int32) (x3 : Int32) (i2' : Int32) (a28' : Nat → Int32) (ls : Array Slot) (H : Heap) (locs : List Loc), nx22 x1 x2 x3 i2' a28' = some out → MM D y nn ad A0 s.heap (va_up I 2 i2') J (va_up A 28 a28') B G H locs → lv_has ls 4 [(0, .ref (ad 5)), (1, .int x1), (2, .int x2), (3, .int x3)] → W p l e ({ frames := 0, cells := 0, slots := 0, locals := 0 } : Room) s m args below meth c H locs 0 0 (MQ below (mQv D y nn ad A0 ((va_up I 2 out.1), J, (va_up A 28 out.2), B, G)) args s 0 0 A0) (F0 m 22 ls [])) : ∀ (x1 : Int32) (x2 : Int32) (x3 : Int32) (i2' : Int32) (a28' : Nat → Int32) (ls : Array Slot) (H : Heap) (locs : List Loc), f_X4_findOddPlaces_22 N nn (I 0) (G 1) nx7 nx22 x1 x2 x3 i2' a28' = some out → MM D y nn ad A0 s.heap (va_up I 2 i2') J (va_up A 28 a28') B G H locs → lv_has ls 4 [(0, .ref (ad 5)), (1, .int x1), (2, .int x2), (3, .int x3)] → W p l e ({ frames := 0, cells := 0, slots := 0, locals := 0 } : Room) s m args below meth c H locs 0 0 (MQ below (mQv D y nn ad A0 ((va_up I 2 out.1), J, (va_up A 28 out.2), B, G)) args s 0 0 A0) (F0 m 22 ls []) := by
  intro x1 x2 x3 i2' a28' ls H locs hE hM hl
  have hx := F.1.1
  have hb := F.1.2.1
  unfold f_X4_findOddPlaces_22 at hE
  refine lv_iload_n hx hb dX4_findOddPlaces_22 rfl (lv_at hl 3 rfl) ?_
  refine lv_aload_n hx hb dX4_findOddPlaces_23 rfl (lv_at hl 0 rfl) ?_
  refine m_get F hM 5 mg_5 rfl 0 (by decide) (by decide +kernel) (by decide +kernel) (v := .ref (ad 1)) rfl dX4_findOddPlaces_24 ?_
  refine m_getN F hM 1 mg_1 rfl 0 (by decide) (by decide +kernel) (by decide +kernel) (v := .int (I 0)) rfl dX4_findOddPlaces_27 ?_
  refine lv_icmp_ge (tgt := 57) hx hb dX4_findOddPlaces_30 (by decide) (fun c30 => ?_) (fun c30 => ?_)
  · replace hE := (if_pos c30).symm.trans hE
    refine lv_iload_n hx hb dX4_findOddPlaces_57 rfl (lv_at hl 2 rfl) ?_
    refine lv_iconst (v := 1) hx hb dX4_findOddPlaces_58 (by decide) ?_
    refine lv_iand hx hb dX4_findOddPlaces_59 ?_
    refine lv_if_eq (tgt := 83) hx hb dX4_findOddPlaces_60 (by decide) (fun c60 => ?_) (fun c60 => ?_)
    · replace hE := (if_pos c60).symm.trans hE
      refine lv_iinc (v := x1 + (1 : Int32)) (lv' := [(1, .int (x1 + (1 : Int32))), (0, .ref (ad 5)), (2, .int x2), (3, .int x3)]) hx hb dX4_findOddPlaces_83 hl (k := 1) rfl rfl (by decide) rfl (fun ls hl => ?_)
      refine lv_goto (tgt := 7) hx hb dX4_findOddPlaces_86 (by decide) ?_
      exact hn7 (x1 + (1 : Int32)) i2' a28' ls H locs hE hM (lv_sub hl [1, 0] rfl)
    · replace hE := (if_neg c60).symm.trans hE
      refine lv_aload_n hx hb dX4_findOddPlaces_63 rfl (lv_at hl 0 rfl) ?_
      refine m_get F hM 5 mg_5 rfl 2 (by decide) (by decide +kernel) (by decide +kernel) (v := .ref (ad 28)) rfl dX4_findOddPlaces_64 ?_
      refine lv_aload_n hx hb dX4_findOddPlaces_67 rfl (lv_at hl 0 rfl) ?_
      refine m_get F hM 5 mg_5 rfl 3 (by decide) (by decide +kernel) (by decide +kernel) (v := .int i2') rfl dX4_findOddPlaces_68 ?_
      refine lv_iload_n hx hb dX4_findOddPlaces_71 rfl (lv_at hl 1 rfl) ?_
      obtain ⟨hi72_0, hE⟩ := ck_some hE
      obtain ⟨w72_1, ew72_1, hE⟩ := nmd_some hE
      refine m_iast (f := a28') (A' := (va_up A 28 w72_1)) F hM mg_28 ms_28 (by rw [ew72_1]; exact (bx_uu _ _ _ _)) hi72_0 dX4_findOddPlaces_72 (fun H locs hM => ?_)
      refine lv_aload_n hx hb dX4_findOddPlaces_73 rfl (lv_at hl 0 rfl) ?_
      refine lv_dup hx hb dX4_findOddPlaces_74 rfl ?_
      refine m_get F hM 5 mg_5 rfl 3 (by decide) (by decide +kernel) (by decide +kernel) (v := .int i2') rfl dX4_findOddPlaces_75 ?_
      refine lv_iconst (v := 1) hx hb dX4_findOddPlaces_78 (by decide) ?_
      refine lv_iadd hx hb dX4_findOddPlaces_79 ?_
      refine m_put F hM 5 mg_5 rfl tyX4 tyX4_ok nmX4 3 (by decide) (by decide +kernel) (by decide +kernel) rfl (ty := .int) (v := .int (i2' + (1 : Int32))) (by decide +kernel) rfl rfl (Nat.le_of_ble_eq_true rfl) (ms_5_3 _) (bx_uu _ _ _ _)  rfl dX4_findOddPlaces_80 (fun H locs hM => ?_)
      refine lv_iinc (v := x1 + (1 : Int32)) (lv' := [(1, .int (x1 + (1 : Int32))), (0, .ref (ad 5)), (2, .int x2), (3, .int x3)]) hx hb dX4_findOddPlaces_83 hl (k := 1) rfl rfl (by decide) rfl (fun ls hl => ?_)
      refine lv_goto (tgt := 7) hx hb dX4_findOddPlaces_86 (by decide) ?_
      exact hn7 (x1 + (1 : Int32)) (i2' + (1 : Int32)) w72_1 ls H locs hE hM (lv_sub hl [1, 0] rfl)
  · replace hE := (if_neg c30).symm.trans hE
    refine lv_aload_n hx hb dX4_findOddPlaces_33 rfl (lv_at hl 0 rfl) ?_
    refine m_get F hM 5 mg_5 rfl 0 (by decide) (by decide +kernel) (by decide +kernel) (v := .ref (ad 1)) rfl dX4_findOddPlaces_34 ?_
    refine m_getN F hM 1 mg_1 rfl 2 (by decide) (by decide +kernel) (by decide +kernel) (v := .ref (ad 9)) rfl dX4_findOddPlaces_37 ?_
    refine lv_iload_n hx hb dX4_findOddPlaces_40 rfl (lv_at hl 1 rfl) ?_
    obtain ⟨hi41_2, hE⟩ := ck_some hE
    refine m_aald F hM mg_9 hi41_2 dX4_findOddPlaces_41 ?_
    refine lv_iload_n hx hb dX4_findOddPlaces_42 rfl (lv_at hl 3 rfl) ?_
    obtain ⟨hi43_3, hE⟩ := ck_some hE
    refine m_rald (M := (G 1)) F hM (by decide) (vp_lt hi41_2) rfl hi43_3 dX4_findOddPlaces_43 ?_
    refine lv_iconst (v := (-1)) hx hb dX4_findOddPlaces_44 (by decide) ?_
    refine lv_icmp_eq (tgt := 51) hx hb dX4_findOddPlaces_45 (by decide) (fun c45 => ?_) (fun c45 => ?_)
    · replace hE := (if_pos c45).symm.trans hE
      refine lv_iinc (v := x3 + (1 : Int32)) (lv' := [(3, .int (x3 + (1 : Int32))), (0, .ref (ad 5)), (1, .int x1), (2, .int x2)]) hx hb dX4_findOddPlaces_51 hl (k := 3) rfl rfl (by decide) rfl (fun ls hl => ?_)
      refine lv_goto (tgt := 22) hx hb dX4_findOddPlaces_54 (by decide) ?_
      exact hn22 x1 x2 (x3 + (1 : Int32)) i2' a28' ls H locs hE hM (lv_sub hl [1, 2, 3, 0] rfl)
    · replace hE := (if_neg c45).symm.trans hE
      refine lv_iinc (v := x2 + (1 : Int32)) (lv' := [(2, .int (x2 + (1 : Int32))), (0, .ref (ad 5)), (1, .int x1), (3, .int x3)]) hx hb dX4_findOddPlaces_48 hl (k := 2) rfl rfl (by decide) rfl (fun ls hl => ?_)
      refine lv_iinc (v := x3 + (1 : Int32)) (lv' := [(3, .int (x3 + (1 : Int32))), (2, .int (x2 + (1 : Int32))), (0, .ref (ad 5)), (1, .int x1)]) hx hb dX4_findOddPlaces_51 hl (k := 3) rfl rfl (by decide) rfl (fun ls hl => ?_)
      refine lv_goto (tgt := 22) hx hb dX4_findOddPlaces_54 (by decide) ?_
      exact hn22 x1 (x2 + (1 : Int32)) (x3 + (1 : Int32)) i2' a28' ls H locs hE hM (lv_sub hl [2, 3, 1, 0] rfl)
theorem k_X4_findOddPlaces_22 {p : Program} {l : Launch} {e : Env} {s : State} {m : MethodId} {args : Array Value} {below : List Frame} {meth : Method} {c : Code} {D : va_G} {y : Nat → ClassId} {nn : Nat} {ad : Nat → Nat} {A0 : Nat → Prop} {I : Nat → Int32} {J : Nat → Int64} {A : Nat → Nat → Int32} {B : Nat → Nat → Int64} {G : Nat → Nat → Nat → Int32} (F : Fx p s m args meth c cX4_findOddPlaces 4 wsX4_findOddPlaces RX4 D y A0) (hr : meth.sig.returnType = none) {out : Int32 × (Nat → Int32)} {N : Nat} (nx7 : Int32 → Int32 → (Nat → Int32) → Option (Int32 × (Nat → Int32))) (hn7 : ∀ (x1 : Int32) (i2' : Int32) (a28' : Nat → Int32) (ls : Array Slot) (H : Heap) (locs : List Loc), nx7 x1 i2' a28' = some out → MM D y nn ad A0 s.heap (va_up I 2 i2') J (va_up A 28 a28') B G H locs → lv_has ls 4 [(0, .ref (ad 5)), (1, .int x1)] → W p l e ({ frames := 0, cells := 0, slots := 0, locals := 0 } : Room) s m args below meth c H locs 0 0 (MQ below (mQv D y nn ad A0 ((va_up I 2 out.1), J, (va_up A 28 out.2), B, G)) args s 0 0 A0) (F0 m 7 ls [])) : ∀ (n : Nat), ∀ (x1 : Int32) (x2 : Int32) (x3 : Int32) (i2' : Int32) (a28' : Nat → Int32) (ls : Array Slot) (H : Heap) (locs : List Loc), lq5 (f_X4_findOddPlaces_22 N nn (I 0) (G 1) nx7) n x1 x2 x3 i2' a28' = some out → MM D y nn ad A0 s.heap (va_up I 2 i2') J (va_up A 28 a28') B G H locs → lv_has ls 4 [(0, .ref (ad 5)), (1, .int x1), (2, .int x2), (3, .int x3)] → W p l e ({ frames := 0, cells := 0, slots := 0, locals := 0 } : Room) s m args below meth c H locs 0 0 (MQ below (mQv D y nn ad A0 ((va_up I 2 out.1), J, (va_up A 28 out.2), B, G)) args s 0 0 A0) (F0 m 22 ls []) := by
  intro n
  induction n with
  | zero =>
    intro x1 x2 x3 i2' a28' ls H locs hE
    cases (show (none : Option _) = some out from hE)
  | succ n ih =>
    intro x1 x2 x3 i2' a28' ls H locs hE hM hl
    exact s_X4_findOddPlaces_22 F hr (N := N) nx7 hn7 (lq5 (f_X4_findOddPlaces_22 N nn (I 0) (G 1) nx7) n) ih x1 x2 x3 i2' a28' ls H locs hE hM hl
set_option maxHeartbeats 4000000 in
set_option maxRecDepth 100000 in
theorem s_X4_findOddPlaces_7 {p : Program} {l : Launch} {e : Env} {s : State} {m : MethodId} {args : Array Value} {below : List Frame} {meth : Method} {c : Code} {D : va_G} {y : Nat → ClassId} {nn : Nat} {ad : Nat → Nat} {A0 : Nat → Prop} {I : Nat → Int32} {J : Nat → Int64} {A : Nat → Nat → Int32} {B : Nat → Nat → Int64} {G : Nat → Nat → Nat → Int32} (F : Fx p s m args meth c cX4_findOddPlaces 4 wsX4_findOddPlaces RX4 D y A0) (hr : meth.sig.returnType = none) {out : Int32 × (Nat → Int32)} {N : Nat}  (nx7 : Int32 → Int32 → (Nat → Int32) → Option (Int32 × (Nat → Int32))) (hn7 : ∀ (x1 : Int32) (i2' : Int32) (a28' : Nat → Int32) (ls : Array Slot) (H : Heap) (locs : List Loc), nx7 x1 i2' a28' = some out → MM D y nn ad A0 s.heap (va_up I 2 i2') J (va_up A 28 a28') B G H locs → lv_has ls 4 [(0, .ref (ad 5)), (1, .int x1)] → W p l e ({ frames := 0, cells := 0, slots := 0, locals := 0 } : Room) s m args below meth c H locs 0 0 (MQ below (mQv D y nn ad A0 ((va_up I 2 out.1), J, (va_up A 28 out.2), B, G)) args s 0 0 A0) (F0 m 7 ls [])) : ∀ (x1 : Int32) (i2' : Int32) (a28' : Nat → Int32) (ls : Array Slot) (H : Heap) (locs : List Loc), f_X4_findOddPlaces_7 N nn (I 0) (G 1)  nx7 x1 i2' a28' = some out → MM D y nn ad A0 s.heap (va_up I 2 i2') J (va_up A 28 a28') B G H locs → lv_has ls 4 [(0, .ref (ad 5)), (1, .int x1)] → W p l e ({ frames := 0, cells := 0, slots := 0, locals := 0 } : Room) s m args below meth c H locs 0 0 (MQ below (mQv D y nn ad A0 ((va_up I 2 out.1), J, (va_up A 28 out.2), B, G)) args s 0 0 A0) (F0 m 7 ls []) := by
  intro x1 i2' a28' ls H locs hE hM hl
  have hx := F.1.1
  have hb := F.1.2.1
  unfold f_X4_findOddPlaces_7 at hE
  refine lv_iload_n hx hb dX4_findOddPlaces_7 rfl (lv_at hl 1 rfl) ?_
  refine lv_aload_n hx hb dX4_findOddPlaces_8 rfl (lv_at hl 0 rfl) ?_
  refine m_get F hM 5 mg_5 rfl 0 (by decide) (by decide +kernel) (by decide +kernel) (v := .ref (ad 1)) rfl dX4_findOddPlaces_9 ?_
  refine m_getN F hM 1 mg_1 rfl 0 (by decide) (by decide +kernel) (by decide +kernel) (v := .int (I 0)) rfl dX4_findOddPlaces_12 ?_
  refine lv_icmp_ge (tgt := 89) hx hb dX4_findOddPlaces_15 (by decide) (fun c15 => ?_) (fun c15 => ?_)
  · replace hE := (if_pos c15).symm.trans hE
    obtain rfl := Option.some.inj hE
    exact m_vret F hM hr rfl dX4_findOddPlaces_89
  · replace hE := (if_neg c15).symm.trans hE
    refine lv_iconst (v := 0) hx hb dX4_findOddPlaces_18 (by decide) ?_
    refine lv_istore_n (lv' := [(2, .int (0 : Int32)), (0, .ref (ad 5)), (1, .int x1)]) hx hb dX4_findOddPlaces_19 rfl hl (by decide) rfl (fun ls hl => ?_)
    refine lv_iconst (v := 0) hx hb dX4_findOddPlaces_20 (by decide) ?_
    refine lv_istore_n (lv' := [(3, .int (0 : Int32)), (2, .int (0 : Int32)), (0, .ref (ad 5)), (1, .int x1)]) hx hb dX4_findOddPlaces_21 rfl hl (by decide) rfl (fun ls hl => ?_)
    exact k_X4_findOddPlaces_22 F hr (N := N) nx7 hn7 N x1 (0 : Int32) (0 : Int32) i2' a28' ls H locs hE hM (lv_sub hl [2, 3, 1, 0] rfl)
theorem k_X4_findOddPlaces_7 {p : Program} {l : Launch} {e : Env} {s : State} {m : MethodId} {args : Array Value} {below : List Frame} {meth : Method} {c : Code} {D : va_G} {y : Nat → ClassId} {nn : Nat} {ad : Nat → Nat} {A0 : Nat → Prop} {I : Nat → Int32} {J : Nat → Int64} {A : Nat → Nat → Int32} {B : Nat → Nat → Int64} {G : Nat → Nat → Nat → Int32} (F : Fx p s m args meth c cX4_findOddPlaces 4 wsX4_findOddPlaces RX4 D y A0) (hr : meth.sig.returnType = none) {out : Int32 × (Nat → Int32)} {N : Nat}  : ∀ (n : Nat), ∀ (x1 : Int32) (i2' : Int32) (a28' : Nat → Int32) (ls : Array Slot) (H : Heap) (locs : List Loc), lq3 (f_X4_findOddPlaces_7 N nn (I 0) (G 1) ) n x1 i2' a28' = some out → MM D y nn ad A0 s.heap (va_up I 2 i2') J (va_up A 28 a28') B G H locs → lv_has ls 4 [(0, .ref (ad 5)), (1, .int x1)] → W p l e ({ frames := 0, cells := 0, slots := 0, locals := 0 } : Room) s m args below meth c H locs 0 0 (MQ below (mQv D y nn ad A0 ((va_up I 2 out.1), J, (va_up A 28 out.2), B, G)) args s 0 0 A0) (F0 m 7 ls []) := by
  intro n
  induction n with
  | zero =>
    intro x1 i2' a28' ls H locs hE
    cases (show (none : Option _) = some out from hE)
  | succ n ih =>
    intro x1 i2' a28' ls H locs hE hM hl
    exact s_X4_findOddPlaces_7 F hr (N := N)  (lq3 (f_X4_findOddPlaces_7 N nn (I 0) (G 1) ) n) ih x1 i2' a28' ls H locs hE hM hl
set_option maxHeartbeats 4000000 in
set_option maxRecDepth 100000 in
theorem c_X4_findOddPlaces (l : Launch) (D : va_G) (y : Nat → ClassId) (nn : Nat) (ad : Nat → Nat) (sz : Nat) (I : Nat → Int32) (J : Nat → Int64) (A : Nat → Nat → Int32) (B : Nat → Nat → Int64) (G : Nat → Nat → Nat → Int32)  (N : Nat) (out : Int32 × (Nat → Int32)) (hE : f_X4_findOddPlaces N nn (I 0) (G 1) (I 2) (A 28)  = some out) : Met l yX4_findOddPlaces wsX4_findOddPlaces ({ frames := 0, cells := 0, slots := 0, locals := 0 } : Room) (mPc [.ref (ad 5)] D y nn ad sz I J A B G) (mQv D y nn ad (mA y nn ad I J A B G sz) ((va_up I 2 out.1), J, (va_up A 28 out.2), B, G)) 0 0 (mA y nn ad I J A B G sz) := by
  refine Met.ofW (cc := cX4_findOddPlaces) (maxL := 4) (ret := none) (by decide) rfl ?_
  intro p e s m args below meth c s₁ Bd hml hv
  obtain ⟨rfl, hsz, hP, hK, hD0, hN⟩ := hv
  have hr := Bd.returns
  subst hsz
  have F : Fx p s m ([.ref (ad 5)] : List Value).toArray meth c cX4_findOddPlaces 4 wsX4_findOddPlaces RX4 D y (mA y nn ad I J A B G s.heap.size) := ⟨⟨Bd.exec, Bd.bytes, hml, findClass_of_methodNamed Bd.named, atoms_spec (ws := wsX4_findOddPlaces) Bd.pre⟩, hK, hN, fun q h => Or.inr h, Bd.notSynchronized⟩
  have hM := m_start (s := s) rfl hP hD0
  have hM := m_mem (I2 := (va_up I 2 (I 2))) (J2 := J) (A2 := (va_up A 28 (A 28))) (B2 := B) (G2 := G) hM (by simp only [up_id]) (by rfl) (by simp only [up_id]) (by rfl) (by rfl)
  have hx := F.1.1
  have hb := F.1.2.1
  have hl := lv_entry ([.ref (ad 5)]) (n := 4) (Nat.le_of_ble_eq_true rfl)
  rw [lg_entry_eq]
  generalize (lg_sl ([.ref (ad 5)]) ++ List.replicate (4 - (lg_sl ([.ref (ad 5)])).length) Slot.unset).toArray = ls at hl ⊢
  have hl : lv_has ls 4 [(0, .ref (ad 5))] := hl
  show W p l e ({ frames := 0, cells := 0, slots := 0, locals := 0 } : Room) s m _ below meth c s.heap [] 0 0 _ _
  obtain ⟨locs, hlo⟩ : ∃ locs : List Loc, locs = [] := ⟨_, rfl⟩
  rw [← hlo]; rw [← hlo] at hM
  unfold f_X4_findOddPlaces at hE
  revert hM
  suffices hH : ∀ H : Heap, MM D y nn ad (mA y nn ad I J A B G s.heap.size) s.heap (va_up I 2 (I 2)) J (va_up A 28 (A 28)) B G H locs → W p l e ({ frames := 0, cells := 0, slots := 0, locals := 0 } : Room) s m ([.ref (ad 5)] : List Value).toArray below meth c H locs 0 0 (MQ below (mQv D y nn ad (mA y nn ad I J A B G s.heap.size) ((va_up I 2 out.1), J, (va_up A 28 out.2), B, G)) ([.ref (ad 5)] : List Value).toArray s 0 0 (mA y nn ad I J A B G s.heap.size)) (F0 m 0 ls []) from hH s.heap
  intro H hM
  refine lv_aload_n hx hb dX4_findOddPlaces_0 rfl (lv_at hl 0 rfl) ?_
  refine lv_iconst (v := 0) hx hb dX4_findOddPlaces_1 (by decide) ?_
  refine m_put F hM 5 mg_5 rfl tyX4 tyX4_ok nmX4 3 (by decide) (by decide +kernel) (by decide +kernel) rfl (ty := .int) (v := .int (0 : Int32)) (by decide +kernel) rfl rfl (Nat.le_of_ble_eq_true rfl) (ms_5_3 _) (bx_uu _ _ _ _)  rfl dX4_findOddPlaces_2 (fun H locs hM => ?_)
  refine lv_iconst (v := 0) hx hb dX4_findOddPlaces_5 (by decide) ?_
  refine lv_istore_n (lv' := [(1, .int (0 : Int32)), (0, .ref (ad 5))]) hx hb dX4_findOddPlaces_6 rfl hl (by decide) rfl (fun ls hl => ?_)
  exact k_X4_findOddPlaces_7 F hr (N := N)  N (0 : Int32) (0 : Int32) (A 28) ls H locs hE hM (lv_sub hl [1, 0] rfl)
/-! ===== X4_findShortest: reads I0 G1, writes G3, frames 1, locals 22 ===== -/
def f_X4_findShortest_105 (N : Nat) (nn : Nat) (i0 : Int32) (g1 : Nat → Nat → Int32) (nx79 : Int32 → (Nat → Nat → Int32) → Option ((Nat → Nat → Int32))) (nx92 : Int32 → Int32 → (Nat → Nat → Int32) → Option ((Nat → Nat → Int32))) (nx105 : Int32 → Int32 → Int32 → (Nat → Nat → Int32) → Option ((Nat → Nat → Int32))) (x1 : Int32) (x2 : Int32) (x3 : Int32) (g3' : Nat → Nat → Int32) : Option ((Nat → Nat → Int32)) :=
(if i0 ≤ x3 then
nx92 x1 (x2 + (1 : Int32)) g3'
else
ck x2 nn (
ck x2 nn (
ck x3 nn (
ck x2 nn (
ck x1 nn (
ck x1 nn (
ck x3 nn (
ck x3 nn (
nmd (va_up g3' x2.toNatClampNeg (upd (g3' x2.toNatClampNeg) x3.toNatClampNeg (if ((g3' x2.toNatClampNeg x1.toNatClampNeg) + (g3' x1.toNatClampNeg x3.toNatClampNeg)) < (g3' x2.toNatClampNeg x3.toNatClampNeg) then ((g3' x2.toNatClampNeg x1.toNatClampNeg) + (g3' x1.toNatClampNeg x3.toNatClampNeg)) else (g3' x2.toNatClampNeg x3.toNatClampNeg)))) fun w151_8 =>
nx105 x1 x2 (x3 + (1 : Int32)) w151_8)))))))))
def f_X4_findShortest_92 (N : Nat) (nn : Nat) (i0 : Int32) (g1 : Nat → Nat → Int32) (nx79 : Int32 → (Nat → Nat → Int32) → Option ((Nat → Nat → Int32))) (nx92 : Int32 → Int32 → (Nat → Nat → Int32) → Option ((Nat → Nat → Int32))) (x1 : Int32) (x2 : Int32) (g3' : Nat → Nat → Int32) : Option ((Nat → Nat → Int32)) :=
(if i0 ≤ x2 then
nx79 (x1 + (1 : Int32)) g3'
else
lq4 (f_X4_findShortest_105 N nn i0 g1 nx79 nx92) N x1 x2 (0 : Int32) g3')
def f_X4_findShortest_79 (N : Nat) (nn : Nat) (i0 : Int32) (g1 : Nat → Nat → Int32)  (nx79 : Int32 → (Nat → Nat → Int32) → Option ((Nat → Nat → Int32))) (x1 : Int32) (g3' : Nat → Nat → Int32) : Option ((Nat → Nat → Int32)) :=
(if i0 ≤ x1 then
some g3'
else
lq3 (f_X4_findShortest_92 N nn i0 g1 nx79) N x1 (0 : Int32) g3')
def f_X4_findShortest_15 (N : Nat) (nn : Nat) (i0 : Int32) (g1 : Nat → Nat → Int32) (nx2 : Int32 → (Nat → Nat → Int32) → Option ((Nat → Nat → Int32))) (nx15 : Int32 → Int32 → (Nat → Nat → Int32) → Option ((Nat → Nat → Int32))) (x1 : Int32) (x2 : Int32) (g3' : Nat → Nat → Int32) : Option ((Nat → Nat → Int32)) :=
(if i0 ≤ x2 then
nx2 (x1 + (1 : Int32)) g3'
else
ck x1 nn (
ck x1 nn (
ck x2 nn (
(if (g1 x1.toNatClampNeg x2.toNatClampNeg) = (-1 : Int32) then
ck x2 nn (
nmd (va_up g3' x1.toNatClampNeg (upd (g3' x1.toNatClampNeg) x2.toNatClampNeg (500000000 : Int32))) fun w64_17 =>
nx15 x1 (x2 + (1 : Int32)) w64_17)
else
ck x1 nn (
ck x2 nn (
ck x2 nn (
nmd (va_up g3' x1.toNatClampNeg (upd (g3' x1.toNatClampNeg) x2.toNatClampNeg (g1 x1.toNatClampNeg x2.toNatClampNeg))) fun w64_15 =>
nx15 x1 (x2 + (1 : Int32)) w64_15))))))))
def f_X4_findShortest_2 (N : Nat) (nn : Nat) (i0 : Int32) (g1 : Nat → Nat → Int32)  (nx2 : Int32 → (Nat → Nat → Int32) → Option ((Nat → Nat → Int32))) (x1 : Int32) (g3' : Nat → Nat → Int32) : Option ((Nat → Nat → Int32)) :=
(if i0 ≤ x1 then
lq2 (f_X4_findShortest_79 N nn i0 g1 ) N (0 : Int32) g3'
else
lq3 (f_X4_findShortest_15 N nn i0 g1 nx2) N x1 (0 : Int32) g3')
def f_X4_findShortest (N : Nat) (nn : Nat) (i0 : Int32) (g1 : Nat → Nat → Int32) (g3 : Nat → Nat → Int32)  : Option ((Nat → Nat → Int32)) :=
lq2 (f_X4_findShortest_2 N nn i0 g1 ) N (0 : Int32) g3
set_option maxHeartbeats 4000000 in
set_option maxRecDepth 100000 in
theorem s_X4_findShortest_105 {p : Program} {l : Launch} {e : Env} {s : State} {m : MethodId} {args : Array Value} {below : List Frame} {meth : Method} {c : Code} {D : va_G} {y : Nat → ClassId} {nn : Nat} {ad : Nat → Nat} {A0 : Nat → Prop} {I : Nat → Int32} {J : Nat → Int64} {A : Nat → Nat → Int32} {B : Nat → Nat → Int64} {G : Nat → Nat → Nat → Int32} (F : Fx p s m args meth c cX4_findShortest 4 wsX4_findShortest RX4 D y A0) (hr : meth.sig.returnType = none) {out : (Nat → Nat → Int32)} {N : Nat} (nx79 : Int32 → (Nat → Nat → Int32) → Option ((Nat → Nat → Int32))) (hn79 : ∀ (x1 : Int32) (g3' : Nat → Nat → Int32) (ls : Array Slot) (H : Heap) (locs : List Loc), nx79 x1 g3' = some out → MM D y nn ad A0 s.heap I J A B (va_up G 3 g3') H locs → lv_has ls 4 [(0, .ref (ad 5)), (1, .int x1)] → W p l e ({ frames := 1, cells := 0, slots := 0, locals := 22 } : Room) s m args below meth c H locs 0 0 (MQ below (mQv D y nn ad A0 (I, J, A, B, (va_up G 3 out))) args s 0 0 A0) (F0 m 79 ls [])) (nx92 : Int32 → Int32 → (Nat → Nat → Int32) → Option ((Nat → Nat → Int32))) (hn92 : ∀ (x1 : Int32) (x2 : Int32) (g3' : Nat → Nat → Int32) (ls : Array Slot) (H : Heap) (locs : List Loc), nx92 x1 x2 g3' = some out → MM D y nn ad A0 s.heap I J A B (va_up G 3 g3') H locs → lv_has ls 4 [(0, .ref (ad 5)), (1, .int x1), (2, .int x2)] → W p l e ({ frames := 1, cells := 0, slots := 0, locals := 22 } : Room) s m args below meth c H locs 0 0 (MQ below (mQv D y nn ad A0 (I, J, A, B, (va_up G 3 out))) args s 0 0 A0) (F0 m 92 ls [])) (nx105 : Int32 → Int32 → Int32 → (Nat → Nat → Int32) → Option ((Nat → Nat → Int32))) (hn105 : ∀ (x1 : Int32) (x2 : Int32) (x3 : Int32) (g3' : Nat → Nat → Int32) (ls : Array Slot) (H : Heap) (locs : List Loc), nx105 x1 x2 x3 g3' = some out → MM D y nn ad A0 s.heap I J A B (va_up G 3 g3') H locs → lv_has ls 4 [(0, .ref (ad 5)), (1, .int x1), (2, .int x2), (3, .int x3)] → W p l e ({ frames := 1, cells := 0, slots := 0, locals := 22 } : Room) s m args below meth c H locs 0 0 (MQ below (mQv D y nn ad A0 (I, J, A, B, (va_up G 3 out))) args s 0 0 A0) (F0 m 105 ls [])) : ∀ (x1 : Int32) (x2 : Int32) (x3 : Int32) (g3' : Nat → Nat → Int32) (ls : Array Slot) (H : Heap) (locs : List Loc), f_X4_findShortest_105 N nn (I 0) (G 1) nx79 nx92 nx105 x1 x2 x3 g3' = some out → MM D y nn ad A0 s.heap I J A B (va_up G 3 g3') H locs → lv_has ls 4 [(0, .ref (ad 5)), (1, .int x1), (2, .int x2), (3, .int x3)] → W p l e ({ frames := 1, cells := 0, slots := 0, locals := 22 } : Room) s m args below meth c H locs 0 0 (MQ below (mQv D y nn ad A0 (I, J, A, B, (va_up G 3 out))) args s 0 0 A0) (F0 m 105 ls []) := by
  intro x1 x2 x3 g3' ls H locs hE hM hl
  have hx := F.1.1
  have hb := F.1.2.1
  unfold f_X4_findShortest_105 at hE
  refine lv_iload_n hx hb dX4_findShortest_105 rfl (lv_at hl 3 rfl) ?_
  refine lv_aload_n hx hb dX4_findShortest_106 rfl (lv_at hl 0 rfl) ?_
  refine m_get F hM 5 mg_5 rfl 0 (by decide) (by decide +kernel) (by decide +kernel) (v := .ref (ad 1)) rfl dX4_findShortest_107 ?_
  refine m_getN F hM 1 mg_1 rfl 0 (by decide) (by decide +kernel) (by decide +kernel) (v := .int (I 0)) rfl dX4_findShortest_110 ?_
  refine lv_icmp_ge (tgt := 158) hx hb dX4_findShortest_113 (by decide) (fun c113 => ?_) (fun c113 => ?_)
  · replace hE := (if_pos c113).symm.trans hE
    refine lv_iinc (v := x2 + (1 : Int32)) (lv' := [(2, .int (x2 + (1 : Int32))), (0, .ref (ad 5)), (1, .int x1), (3, .int x3)]) hx hb dX4_findShortest_158 hl (k := 2) rfl rfl (by decide) rfl (fun ls hl => ?_)
    refine lv_goto (tgt := 92) hx hb dX4_findShortest_161 (by decide) ?_
    exact hn92 x1 (x2 + (1 : Int32)) g3' ls H locs hE hM (lv_sub hl [1, 2, 0] rfl)
  · replace hE := (if_neg c113).symm.trans hE
    refine lv_aload_n hx hb dX4_findShortest_116 rfl (lv_at hl 0 rfl) ?_
    refine m_get F hM 5 mg_5 rfl 1 (by decide) (by decide +kernel) (by decide +kernel) (v := .ref (ad 11)) rfl dX4_findShortest_117 ?_
    refine lv_iload_n hx hb dX4_findShortest_120 rfl (lv_at hl 2 rfl) ?_
    obtain ⟨hi121_0, hE⟩ := ck_some hE
    refine m_aald F hM mg_11 hi121_0 dX4_findShortest_121 ?_
    refine lv_iload_n hx hb dX4_findShortest_122 rfl (lv_at hl 3 rfl) ?_
    refine lv_aload_n hx hb dX4_findShortest_123 rfl (lv_at hl 0 rfl) ?_
    refine m_get F hM 5 mg_5 rfl 1 (by decide) (by decide +kernel) (by decide +kernel) (v := .ref (ad 11)) rfl dX4_findShortest_124 ?_
    refine lv_iload_n hx hb dX4_findShortest_127 rfl (lv_at hl 2 rfl) ?_
    obtain ⟨hi128_1, hE⟩ := ck_some hE
    refine m_aald F hM mg_11 hi128_1 dX4_findShortest_128 ?_
    refine lv_iload_n hx hb dX4_findShortest_129 rfl (lv_at hl 3 rfl) ?_
    obtain ⟨hi130_2, hE⟩ := ck_some hE
    refine m_rald (M := g3') F hM (by decide) (vp_lt hi128_1) rfl hi130_2 dX4_findShortest_130 ?_
    refine lv_aload_n hx hb dX4_findShortest_131 rfl (lv_at hl 0 rfl) ?_
    refine m_get F hM 5 mg_5 rfl 1 (by decide) (by decide +kernel) (by decide +kernel) (v := .ref (ad 11)) rfl dX4_findShortest_132 ?_
    refine lv_iload_n hx hb dX4_findShortest_135 rfl (lv_at hl 2 rfl) ?_
    obtain ⟨hi136_3, hE⟩ := ck_some hE
    refine m_aald F hM mg_11 hi136_3 dX4_findShortest_136 ?_
    refine lv_iload_n hx hb dX4_findShortest_137 rfl (lv_at hl 1 rfl) ?_
    obtain ⟨hi138_4, hE⟩ := ck_some hE
    refine m_rald (M := g3') F hM (by decide) (vp_lt hi136_3) rfl hi138_4 dX4_findShortest_138 ?_
    refine lv_aload_n hx hb dX4_findShortest_139 rfl (lv_at hl 0 rfl) ?_
    refine m_get F hM 5 mg_5 rfl 1 (by decide) (by decide +kernel) (by decide +kernel) (v := .ref (ad 11)) rfl dX4_findShortest_140 ?_
    refine lv_iload_n hx hb dX4_findShortest_143 rfl (lv_at hl 1 rfl) ?_
    obtain ⟨hi144_5, hE⟩ := ck_some hE
    refine m_aald F hM mg_11 hi144_5 dX4_findShortest_144 ?_
    refine lv_iload_n hx hb dX4_findShortest_145 rfl (lv_at hl 3 rfl) ?_
    obtain ⟨hi146_6, hE⟩ := ck_some hE
    refine m_rald (M := g3') F hM (by decide) (vp_lt hi144_5) rfl hi146_6 dX4_findShortest_146 ?_
    refine lv_iadd hx hb dX4_findShortest_147 ?_
    refine va_mmin hx hb (F.1.2.2.1.trans hl.1.symm) F.1.2.2.2.1 (F.1.2.2.2.2 (.methodLink RX4 78 Lib.Math.min.name) (by decide +kernel)) (F.1.2.2.2.2 (.static Lib.Math.min.name) (by decide +kernel)) (F.1.2.2.2.2 (.initialized "java/lang/Math") (by decide +kernel)) (F.1.2.2.2.2 (.code Lib.Math.min.name Lib.Math.min.code 2 (some .int)) (by decide +kernel)) (Nat.le_of_ble_eq_true rfl) (Nat.le_of_ble_eq_true rfl) (Nat.le_refl 0) (Nat.le_refl 0) dX4_findShortest_148 ?_
    obtain ⟨hi151_7, hE⟩ := ck_some hE
    obtain ⟨w151_8, ew151_8, hE⟩ := nmd_some hE
    refine m_rast (M := g3') (G' := (va_up G 3 w151_8)) F hM (by decide) (vp_lt hi121_0) rfl (by rw [ew151_8]; exact (bx_uu _ _ _ _)) hi151_7 dX4_findShortest_151 (fun H locs hM => ?_)
    refine lv_iinc (v := x3 + (1 : Int32)) (lv' := [(3, .int (x3 + (1 : Int32))), (0, .ref (ad 5)), (1, .int x1), (2, .int x2)]) hx hb dX4_findShortest_152 hl (k := 3) rfl rfl (by decide) rfl (fun ls hl => ?_)
    refine lv_goto (tgt := 105) hx hb dX4_findShortest_155 (by decide) ?_
    exact hn105 x1 x2 (x3 + (1 : Int32)) w151_8 ls H locs hE hM (lv_sub hl [1, 2, 3, 0] rfl)
theorem k_X4_findShortest_105 {p : Program} {l : Launch} {e : Env} {s : State} {m : MethodId} {args : Array Value} {below : List Frame} {meth : Method} {c : Code} {D : va_G} {y : Nat → ClassId} {nn : Nat} {ad : Nat → Nat} {A0 : Nat → Prop} {I : Nat → Int32} {J : Nat → Int64} {A : Nat → Nat → Int32} {B : Nat → Nat → Int64} {G : Nat → Nat → Nat → Int32} (F : Fx p s m args meth c cX4_findShortest 4 wsX4_findShortest RX4 D y A0) (hr : meth.sig.returnType = none) {out : (Nat → Nat → Int32)} {N : Nat} (nx79 : Int32 → (Nat → Nat → Int32) → Option ((Nat → Nat → Int32))) (hn79 : ∀ (x1 : Int32) (g3' : Nat → Nat → Int32) (ls : Array Slot) (H : Heap) (locs : List Loc), nx79 x1 g3' = some out → MM D y nn ad A0 s.heap I J A B (va_up G 3 g3') H locs → lv_has ls 4 [(0, .ref (ad 5)), (1, .int x1)] → W p l e ({ frames := 1, cells := 0, slots := 0, locals := 22 } : Room) s m args below meth c H locs 0 0 (MQ below (mQv D y nn ad A0 (I, J, A, B, (va_up G 3 out))) args s 0 0 A0) (F0 m 79 ls [])) (nx92 : Int32 → Int32 → (Nat → Nat → Int32) → Option ((Nat → Nat → Int32))) (hn92 : ∀ (x1 : Int32) (x2 : Int32) (g3' : Nat → Nat → Int32) (ls : Array Slot) (H : Heap) (locs : List Loc), nx92 x1 x2 g3' = some out → MM D y nn ad A0 s.heap I J A B (va_up G 3 g3') H locs → lv_has ls 4 [(0, .ref (ad 5)), (1, .int x1), (2, .int x2)] → W p l e ({ frames := 1, cells := 0, slots := 0, locals := 22 } : Room) s m args below meth c H locs 0 0 (MQ below (mQv D y nn ad A0 (I, J, A, B, (va_up G 3 out))) args s 0 0 A0) (F0 m 92 ls [])) : ∀ (n : Nat), ∀ (x1 : Int32) (x2 : Int32) (x3 : Int32) (g3' : Nat → Nat → Int32) (ls : Array Slot) (H : Heap) (locs : List Loc), lq4 (f_X4_findShortest_105 N nn (I 0) (G 1) nx79 nx92) n x1 x2 x3 g3' = some out → MM D y nn ad A0 s.heap I J A B (va_up G 3 g3') H locs → lv_has ls 4 [(0, .ref (ad 5)), (1, .int x1), (2, .int x2), (3, .int x3)] → W p l e ({ frames := 1, cells := 0, slots := 0, locals := 22 } : Room) s m args below meth c H locs 0 0 (MQ below (mQv D y nn ad A0 (I, J, A, B, (va_up G 3 out))) args s 0 0 A0) (F0 m 105 ls []) := by
  intro n
  induction n with
  | zero =>
    intro x1 x2 x3 g3' ls H locs hE
    cases (show (none : Option _) = some out from hE)
  | succ n ih =>
    intro x1 x2 x3 g3' ls H locs hE hM hl
    exact s_X4_findShortest_105 F hr (N := N) nx79 hn79 nx92 hn92 (lq4 (f_X4_findShortest_105 N nn (I 0) (G 1) nx79 nx92) n) ih x1 x2 x3 g3' ls H locs hE hM hl
set_option maxHeartbeats 4000000 in
set_option maxRecDepth 100000 in
theorem s_X4_findShortest_92 {p : Program} {l : Launch} {e : Env} {s : State} {m : MethodId} {args : Array Value} {below : List Frame} {meth : Method} {c : Code} {D : va_G} {y : Nat → ClassId} {nn : Nat} {ad : Nat → Nat} {A0 : Nat → Prop} {I : Nat → Int32} {J : Nat → Int64} {A : Nat → Nat → Int32} {B : Nat → Nat → Int64} {G : Nat → Nat → Nat → Int32} (F : Fx p s m args meth c cX4_findShortest 4 wsX4_findShortest RX4 D y A0) (hr : meth.sig.returnType = none) {out : (Nat → Nat → Int32)} {N : Nat} (nx79 : Int32 → (Nat → Nat → Int32) → Option ((Nat → Nat → Int32))) (hn79 : ∀ (x1 : Int32) (g3' : Nat → Nat → Int32) (ls : Array Slot) (H : Heap) (locs : List Loc), nx79 x1 g3' = some out → MM D y nn ad A0 s.heap I J A B (va_up G 3 g3') H locs → lv_has ls 4 [(0, .ref (ad 5)), (1, .int x1)] → W p l e ({ frames := 1, cells := 0, slots := 0, locals := 22 } : Room) s m args below meth c H locs 0 0 (MQ below (mQv D y nn ad A0 (I, J, A, B, (va_up G 3 out))) args s 0 0 A0) (F0 m 79 ls [])) (nx92 : Int32 → Int32 → (Nat → Nat → Int32) → Option ((Nat → Nat → Int32))) (hn92 : ∀ (x1 : Int32) (x2 : Int32) (g3' : Nat → Nat → Int32) (ls : Array Slot) (H : Heap) (locs : List Loc), nx92 x1 x2 g3' = some out → MM D y nn ad A0 s.heap I J A B (va_up G 3 g3') H locs → lv_has ls 4 [(0, .ref (ad 5)), (1, .int x1), (2, .int x2)] → W p l e ({ frames := 1, cells := 0, slots := 0, locals := 22 } : Room) s m args below meth c H locs 0 0 (MQ below (mQv D y nn ad A0 (I, J, A, B, (va_up G 3 out))) args s 0 0 A0) (F0 m 92 ls [])) : ∀ (x1 : Int32) (x2 : Int32) (g3' : Nat → Nat → Int32) (ls : Array Slot) (H : Heap) (locs : List Loc), f_X4_findShortest_92 N nn (I 0) (G 1) nx79 nx92 x1 x2 g3' = some out → MM D y nn ad A0 s.heap I J A B (va_up G 3 g3') H locs → lv_has ls 4 [(0, .ref (ad 5)), (1, .int x1), (2, .int x2)] → W p l e ({ frames := 1, cells := 0, slots := 0, locals := 22 } : Room) s m args below meth c H locs 0 0 (MQ below (mQv D y nn ad A0 (I, J, A, B, (va_up G 3 out))) args s 0 0 A0) (F0 m 92 ls []) := by
  intro x1 x2 g3' ls H locs hE hM hl
  have hx := F.1.1
  have hb := F.1.2.1
  unfold f_X4_findShortest_92 at hE
  refine lv_iload_n hx hb dX4_findShortest_92 rfl (lv_at hl 2 rfl) ?_
  refine lv_aload_n hx hb dX4_findShortest_93 rfl (lv_at hl 0 rfl) ?_
  refine m_get F hM 5 mg_5 rfl 0 (by decide) (by decide +kernel) (by decide +kernel) (v := .ref (ad 1)) rfl dX4_findShortest_94 ?_
  refine m_getN F hM 1 mg_1 rfl 0 (by decide) (by decide +kernel) (by decide +kernel) (v := .int (I 0)) rfl dX4_findShortest_97 ?_
  refine lv_icmp_ge (tgt := 164) hx hb dX4_findShortest_100 (by decide) (fun c100 => ?_) (fun c100 => ?_)
  · replace hE := (if_pos c100).symm.trans hE
    refine lv_iinc (v := x1 + (1 : Int32)) (lv' := [(1, .int (x1 + (1 : Int32))), (0, .ref (ad 5)), (2, .int x2)]) hx hb dX4_findShortest_164 hl (k := 1) rfl rfl (by decide) rfl (fun ls hl => ?_)
    refine lv_goto (tgt := 79) hx hb dX4_findShortest_167 (by decide) ?_
    exact hn79 (x1 + (1 : Int32)) g3' ls H locs hE hM (lv_sub hl [1, 0] rfl)
  · replace hE := (if_neg c100).symm.trans hE
    refine lv_iconst (v := 0) hx hb dX4_findShortest_103 (by decide) ?_
    refine lv_istore_n (lv' := [(3, .int (0 : Int32)), (0, .ref (ad 5)), (1, .int x1), (2, .int x2)]) hx hb dX4_findShortest_104 rfl hl (by decide) rfl (fun ls hl => ?_)
    exact k_X4_findShortest_105 F hr (N := N) nx79 hn79 nx92 hn92 N x1 x2 (0 : Int32) g3' ls H locs hE hM (lv_sub hl [1, 2, 3, 0] rfl)
theorem k_X4_findShortest_92 {p : Program} {l : Launch} {e : Env} {s : State} {m : MethodId} {args : Array Value} {below : List Frame} {meth : Method} {c : Code} {D : va_G} {y : Nat → ClassId} {nn : Nat} {ad : Nat → Nat} {A0 : Nat → Prop} {I : Nat → Int32} {J : Nat → Int64} {A : Nat → Nat → Int32} {B : Nat → Nat → Int64} {G : Nat → Nat → Nat → Int32} (F : Fx p s m args meth c cX4_findShortest 4 wsX4_findShortest RX4 D y A0) (hr : meth.sig.returnType = none) {out : (Nat → Nat → Int32)} {N : Nat} (nx79 : Int32 → (Nat → Nat → Int32) → Option ((Nat → Nat → Int32))) (hn79 : ∀ (x1 : Int32) (g3' : Nat → Nat → Int32) (ls : Array Slot) (H : Heap) (locs : List Loc), nx79 x1 g3' = some out → MM D y nn ad A0 s.heap I J A B (va_up G 3 g3') H locs → lv_has ls 4 [(0, .ref (ad 5)), (1, .int x1)] → W p l e ({ frames := 1, cells := 0, slots := 0, locals := 22 } : Room) s m args below meth c H locs 0 0 (MQ below (mQv D y nn ad A0 (I, J, A, B, (va_up G 3 out))) args s 0 0 A0) (F0 m 79 ls [])) : ∀ (n : Nat), ∀ (x1 : Int32) (x2 : Int32) (g3' : Nat → Nat → Int32) (ls : Array Slot) (H : Heap) (locs : List Loc), lq3 (f_X4_findShortest_92 N nn (I 0) (G 1) nx79) n x1 x2 g3' = some out → MM D y nn ad A0 s.heap I J A B (va_up G 3 g3') H locs → lv_has ls 4 [(0, .ref (ad 5)), (1, .int x1), (2, .int x2)] → W p l e ({ frames := 1, cells := 0, slots := 0, locals := 22 } : Room) s m args below meth c H locs 0 0 (MQ below (mQv D y nn ad A0 (I, J, A, B, (va_up G 3 out))) args s 0 0 A0) (F0 m 92 ls []) := by
  intro n
  induction n with
  | zero =>
    intro x1 x2 g3' ls H locs hE
    cases (show (none : Option _) = some out from hE)
  | succ n ih =>
    intro x1 x2 g3' ls H locs hE hM hl
    exact s_X4_findShortest_92 F hr (N := N) nx79 hn79 (lq3 (f_X4_findShortest_92 N nn (I 0) (G 1) nx79) n) ih x1 x2 g3' ls H locs hE hM hl
set_option maxHeartbeats 4000000 in
set_option maxRecDepth 100000 in
theorem s_X4_findShortest_79 {p : Program} {l : Launch} {e : Env} {s : State} {m : MethodId} {args : Array Value} {below : List Frame} {meth : Method} {c : Code} {D : va_G} {y : Nat → ClassId} {nn : Nat} {ad : Nat → Nat} {A0 : Nat → Prop} {I : Nat → Int32} {J : Nat → Int64} {A : Nat → Nat → Int32} {B : Nat → Nat → Int64} {G : Nat → Nat → Nat → Int32} (F : Fx p s m args meth c cX4_findShortest 4 wsX4_findShortest RX4 D y A0) (hr : meth.sig.returnType = none) {out : (Nat → Nat → Int32)} {N : Nat}  (nx79 : Int32 → (Nat → Nat → Int32) → Option ((Nat → Nat → Int32))) (hn79 : ∀ (x1 : Int32) (g3' : Nat → Nat → Int32) (ls : Array Slot) (H : Heap) (locs : List Loc), nx79 x1 g3' = some out → MM D y nn ad A0 s.heap I J A B (va_up G 3 g3') H locs → lv_has ls 4 [(0, .ref (ad 5)), (1, .int x1)] → W p l e ({ frames := 1, cells := 0, slots := 0, locals := 22 } : Room) s m args below meth c H locs 0 0 (MQ below (mQv D y nn ad A0 (I, J, A, B, (va_up G 3 out))) args s 0 0 A0) (F0 m 79 ls [])) : ∀ (x1 : Int32) (g3' : Nat → Nat → Int32) (ls : Array Slot) (H : Heap) (locs : List Loc), f_X4_findShortest_79 N nn (I 0) (G 1)  nx79 x1 g3' = some out → MM D y nn ad A0 s.heap I J A B (va_up G 3 g3') H locs → lv_has ls 4 [(0, .ref (ad 5)), (1, .int x1)] → W p l e ({ frames := 1, cells := 0, slots := 0, locals := 22 } : Room) s m args below meth c H locs 0 0 (MQ below (mQv D y nn ad A0 (I, J, A, B, (va_up G 3 out))) args s 0 0 A0) (F0 m 79 ls []) := by
  intro x1 g3' ls H locs hE hM hl
  have hx := F.1.1
  have hb := F.1.2.1
  unfold f_X4_findShortest_79 at hE
  refine lv_iload_n hx hb dX4_findShortest_79 rfl (lv_at hl 1 rfl) ?_
  refine lv_aload_n hx hb dX4_findShortest_80 rfl (lv_at hl 0 rfl) ?_
  refine m_get F hM 5 mg_5 rfl 0 (by decide) (by decide +kernel) (by decide +kernel) (v := .ref (ad 1)) rfl dX4_findShortest_81 ?_
  refine m_getN F hM 1 mg_1 rfl 0 (by decide) (by decide +kernel) (by decide +kernel) (v := .int (I 0)) rfl dX4_findShortest_84 ?_
  refine lv_icmp_ge (tgt := 170) hx hb dX4_findShortest_87 (by decide) (fun c87 => ?_) (fun c87 => ?_)
  · replace hE := (if_pos c87).symm.trans hE
    obtain rfl := Option.some.inj hE
    exact m_vret F hM hr rfl dX4_findShortest_170
  · replace hE := (if_neg c87).symm.trans hE
    refine lv_iconst (v := 0) hx hb dX4_findShortest_90 (by decide) ?_
    refine lv_istore_n (lv' := [(2, .int (0 : Int32)), (0, .ref (ad 5)), (1, .int x1)]) hx hb dX4_findShortest_91 rfl hl (by decide) rfl (fun ls hl => ?_)
    exact k_X4_findShortest_92 F hr (N := N) nx79 hn79 N x1 (0 : Int32) g3' ls H locs hE hM (lv_sub hl [1, 2, 0] rfl)
theorem k_X4_findShortest_79 {p : Program} {l : Launch} {e : Env} {s : State} {m : MethodId} {args : Array Value} {below : List Frame} {meth : Method} {c : Code} {D : va_G} {y : Nat → ClassId} {nn : Nat} {ad : Nat → Nat} {A0 : Nat → Prop} {I : Nat → Int32} {J : Nat → Int64} {A : Nat → Nat → Int32} {B : Nat → Nat → Int64} {G : Nat → Nat → Nat → Int32} (F : Fx p s m args meth c cX4_findShortest 4 wsX4_findShortest RX4 D y A0) (hr : meth.sig.returnType = none) {out : (Nat → Nat → Int32)} {N : Nat}  : ∀ (n : Nat), ∀ (x1 : Int32) (g3' : Nat → Nat → Int32) (ls : Array Slot) (H : Heap) (locs : List Loc), lq2 (f_X4_findShortest_79 N nn (I 0) (G 1) ) n x1 g3' = some out → MM D y nn ad A0 s.heap I J A B (va_up G 3 g3') H locs → lv_has ls 4 [(0, .ref (ad 5)), (1, .int x1)] → W p l e ({ frames := 1, cells := 0, slots := 0, locals := 22 } : Room) s m args below meth c H locs 0 0 (MQ below (mQv D y nn ad A0 (I, J, A, B, (va_up G 3 out))) args s 0 0 A0) (F0 m 79 ls []) := by
  intro n
  induction n with
  | zero =>
    intro x1 g3' ls H locs hE
    cases (show (none : Option _) = some out from hE)
  | succ n ih =>
    intro x1 g3' ls H locs hE hM hl
    exact s_X4_findShortest_79 F hr (N := N)  (lq2 (f_X4_findShortest_79 N nn (I 0) (G 1) ) n) ih x1 g3' ls H locs hE hM hl
set_option maxHeartbeats 4000000 in
set_option maxRecDepth 100000 in
theorem s_X4_findShortest_15 {p : Program} {l : Launch} {e : Env} {s : State} {m : MethodId} {args : Array Value} {below : List Frame} {meth : Method} {c : Code} {D : va_G} {y : Nat → ClassId} {nn : Nat} {ad : Nat → Nat} {A0 : Nat → Prop} {I : Nat → Int32} {J : Nat → Int64} {A : Nat → Nat → Int32} {B : Nat → Nat → Int64} {G : Nat → Nat → Nat → Int32} (F : Fx p s m args meth c cX4_findShortest 4 wsX4_findShortest RX4 D y A0) (hr : meth.sig.returnType = none) {out : (Nat → Nat → Int32)} {N : Nat} (nx2 : Int32 → (Nat → Nat → Int32) → Option ((Nat → Nat → Int32))) (hn2 : ∀ (x1 : Int32) (g3' : Nat → Nat → Int32) (ls : Array Slot) (H : Heap) (locs : List Loc), nx2 x1 g3' = some out → MM D y nn ad A0 s.heap I J A B (va_up G 3 g3') H locs → lv_has ls 4 [(0, .ref (ad 5)), (1, .int x1)] → W p l e ({ frames := 1, cells := 0, slots := 0, locals := 22 } : Room) s m args below meth c H locs 0 0 (MQ below (mQv D y nn ad A0 (I, J, A, B, (va_up G 3 out))) args s 0 0 A0) (F0 m 2 ls [])) (nx15 : Int32 → Int32 → (Nat → Nat → Int32) → Option ((Nat → Nat → Int32))) (hn15 : ∀ (x1 : Int32) (x2 : Int32) (g3' : Nat → Nat → Int32) (ls : Array Slot) (H : Heap) (locs : List Loc), nx15 x1 x2 g3' = some out → MM D y nn ad A0 s.heap I J A B (va_up G 3 g3') H locs → lv_has ls 4 [(0, .ref (ad 5)), (1, .int x1), (2, .int x2)] → W p l e ({ frames := 1, cells := 0, slots := 0, locals := 22 } : Room) s m args below meth c H locs 0 0 (MQ below (mQv D y nn ad A0 (I, J, A, B, (va_up G 3 out))) args s 0 0 A0) (F0 m 15 ls [])) : ∀ (x1 : Int32) (x2 : Int32) (g3' : Nat → Nat → Int32) (ls : Array Slot) (H : Heap) (locs : List Loc), f_X4_findShortest_15 N nn (I 0) (G 1) nx2 nx15 x1 x2 g3' = some out → MM D y nn ad A0 s.heap I J A B (va_up G 3 g3') H locs → lv_has ls 4 [(0, .ref (ad 5)), (1, .int x1), (2, .int x2)] → W p l e ({ frames := 1, cells := 0, slots := 0, locals := 22 } : Room) s m args below meth c H locs 0 0 (MQ below (mQv D y nn ad A0 (I, J, A, B, (va_up G 3 out))) args s 0 0 A0) (F0 m 15 ls []) := by
  intro x1 x2 g3' ls H locs hE hM hl
  have hx := F.1.1
  have hb := F.1.2.1
  unfold f_X4_findShortest_15 at hE
  refine lv_iload_n hx hb dX4_findShortest_15 rfl (lv_at hl 2 rfl) ?_
  refine lv_aload_n hx hb dX4_findShortest_16 rfl (lv_at hl 0 rfl) ?_
  refine m_get F hM 5 mg_5 rfl 0 (by decide) (by decide +kernel) (by decide +kernel) (v := .ref (ad 1)) rfl dX4_findShortest_17 ?_
  refine m_getN F hM 1 mg_1 rfl 0 (by decide) (by decide +kernel) (by decide +kernel) (v := .int (I 0)) rfl dX4_findShortest_20 ?_
  refine lv_icmp_ge (tgt := 71) hx hb dX4_findShortest_23 (by decide) (fun c23 => ?_) (fun c23 => ?_)
  · replace hE := (if_pos c23).symm.trans hE
    refine lv_iinc (v := x1 + (1 : Int32)) (lv' := [(1, .int (x1 + (1 : Int32))), (0, .ref (ad 5)), (2, .int x2)]) hx hb dX4_findShortest_71 hl (k := 1) rfl rfl (by decide) rfl (fun ls hl => ?_)
    refine lv_goto (tgt := 2) hx hb dX4_findShortest_74 (by decide) ?_
    exact hn2 (x1 + (1 : Int32)) g3' ls H locs hE hM (lv_sub hl [1, 0] rfl)
  · replace hE := (if_neg c23).symm.trans hE
    refine lv_aload_n hx hb dX4_findShortest_26 rfl (lv_at hl 0 rfl) ?_
    refine m_get F hM 5 mg_5 rfl 1 (by decide) (by decide +kernel) (by decide +kernel) (v := .ref (ad 11)) rfl dX4_findShortest_27 ?_
    refine lv_iload_n hx hb dX4_findShortest_30 rfl (lv_at hl 1 rfl) ?_
    obtain ⟨hi31_9, hE⟩ := ck_some hE
    refine m_aald F hM mg_11 hi31_9 dX4_findShortest_31 ?_
    refine lv_iload_n hx hb dX4_findShortest_32 rfl (lv_at hl 2 rfl) ?_
    refine lv_aload_n hx hb dX4_findShortest_33 rfl (lv_at hl 0 rfl) ?_
    refine m_get F hM 5 mg_5 rfl 0 (by decide) (by decide +kernel) (by decide +kernel) (v := .ref (ad 1)) rfl dX4_findShortest_34 ?_
    refine m_getN F hM 1 mg_1 rfl 2 (by decide) (by decide +kernel) (by decide +kernel) (v := .ref (ad 9)) rfl dX4_findShortest_37 ?_
    refine lv_iload_n hx hb dX4_findShortest_40 rfl (lv_at hl 1 rfl) ?_
    obtain ⟨hi41_10, hE⟩ := ck_some hE
    refine m_aald F hM mg_9 hi41_10 dX4_findShortest_41 ?_
    refine lv_iload_n hx hb dX4_findShortest_42 rfl (lv_at hl 2 rfl) ?_
    obtain ⟨hi43_11, hE⟩ := ck_some hE
    refine m_rald (M := (G 1)) F hM (by decide) (vp_lt hi41_10) rfl hi43_11 dX4_findShortest_43 ?_
    refine lv_iconst (v := (-1)) hx hb dX4_findShortest_44 (by decide) ?_
    refine lv_icmp_ne (tgt := 53) hx hb dX4_findShortest_45 (by decide) (fun c45 => ?_) (fun c45 => ?_)
    · replace hE := (if_neg c45).symm.trans hE
      refine lv_aload_n hx hb dX4_findShortest_53 rfl (lv_at hl 0 rfl) ?_
      refine m_get F hM 5 mg_5 rfl 0 (by decide) (by decide +kernel) (by decide +kernel) (v := .ref (ad 1)) rfl dX4_findShortest_54 ?_
      refine m_getN F hM 1 mg_1 rfl 2 (by decide) (by decide +kernel) (by decide +kernel) (v := .ref (ad 9)) rfl dX4_findShortest_57 ?_
      refine lv_iload_n hx hb dX4_findShortest_60 rfl (lv_at hl 1 rfl) ?_
      obtain ⟨hi61_12, hE⟩ := ck_some hE
      refine m_aald F hM mg_9 hi61_12 dX4_findShortest_61 ?_
      refine lv_iload_n hx hb dX4_findShortest_62 rfl (lv_at hl 2 rfl) ?_
      obtain ⟨hi63_13, hE⟩ := ck_some hE
      refine m_rald (M := (G 1)) F hM (by decide) (vp_lt hi61_12) rfl hi63_13 dX4_findShortest_63 ?_
      obtain ⟨hi64_14, hE⟩ := ck_some hE
      obtain ⟨w64_15, ew64_15, hE⟩ := nmd_some hE
      refine m_rast (M := g3') (G' := (va_up G 3 w64_15)) F hM (by decide) (vp_lt hi31_9) rfl (by rw [ew64_15]; exact (bx_uu _ _ _ _)) hi64_14 dX4_findShortest_64 (fun H locs hM => ?_)
      refine lv_iinc (v := x2 + (1 : Int32)) (lv' := [(2, .int (x2 + (1 : Int32))), (0, .ref (ad 5)), (1, .int x1)]) hx hb dX4_findShortest_65 hl (k := 2) rfl rfl (by decide) rfl (fun ls hl => ?_)
      refine lv_goto (tgt := 15) hx hb dX4_findShortest_68 (by decide) ?_
      exact hn15 x1 (x2 + (1 : Int32)) w64_15 ls H locs hE hM (lv_sub hl [1, 2, 0] rfl)
    · replace hE := (if_pos c45).symm.trans hE
      refine lv_ldc (v := 500000000) hx hb F.1.2.2.2.1 (F.1.2.2.2.2 (.constant RX4 77 (500000000)) (by decide +kernel)) dX4_findShortest_48 ?_
      refine lv_goto (tgt := 64) hx hb dX4_findShortest_50 (by decide) ?_
      obtain ⟨hi64_16, hE⟩ := ck_some hE
      obtain ⟨w64_17, ew64_17, hE⟩ := nmd_some hE
      refine m_rast (M := g3') (G' := (va_up G 3 w64_17)) F hM (by decide) (vp_lt hi31_9) rfl (by rw [ew64_17]; exact (bx_uu _ _ _ _)) hi64_16 dX4_findShortest_64 (fun H locs hM => ?_)
      refine lv_iinc (v := x2 + (1 : Int32)) (lv' := [(2, .int (x2 + (1 : Int32))), (0, .ref (ad 5)), (1, .int x1)]) hx hb dX4_findShortest_65 hl (k := 2) rfl rfl (by decide) rfl (fun ls hl => ?_)
      refine lv_goto (tgt := 15) hx hb dX4_findShortest_68 (by decide) ?_
      exact hn15 x1 (x2 + (1 : Int32)) w64_17 ls H locs hE hM (lv_sub hl [1, 2, 0] rfl)
theorem k_X4_findShortest_15 {p : Program} {l : Launch} {e : Env} {s : State} {m : MethodId} {args : Array Value} {below : List Frame} {meth : Method} {c : Code} {D : va_G} {y : Nat → ClassId} {nn : Nat} {ad : Nat → Nat} {A0 : Nat → Prop} {I : Nat → Int32} {J : Nat → Int64} {A : Nat → Nat → Int32} {B : Nat → Nat → Int64} {G : Nat → Nat → Nat → Int32} (F : Fx p s m args meth c cX4_findShortest 4 wsX4_findShortest RX4 D y A0) (hr : meth.sig.returnType = none) {out : (Nat → Nat → Int32)} {N : Nat} (nx2 : Int32 → (Nat → Nat → Int32) → Option ((Nat → Nat → Int32))) (hn2 : ∀ (x1 : Int32) (g3' : Nat → Nat → Int32) (ls : Array Slot) (H : Heap) (locs : List Loc), nx2 x1 g3' = some out → MM D y nn ad A0 s.heap I J A B (va_up G 3 g3') H locs → lv_has ls 4 [(0, .ref (ad 5)), (1, .int x1)] → W p l e ({ frames := 1, cells := 0, slots := 0, locals := 22 } : Room) s m args below meth c H locs 0 0 (MQ below (mQv D y nn ad A0 (I, J, A, B, (va_up G 3 out))) args s 0 0 A0) (F0 m 2 ls [])) : ∀ (n : Nat), ∀ (x1 : Int32) (x2 : Int32) (g3' : Nat → Nat → Int32) (ls : Array Slot) (H : Heap) (locs : List Loc), lq3 (f_X4_findShortest_15 N nn (I 0) (G 1) nx2) n x1 x2 g3' = some out → MM D y nn ad A0 s.heap I J A B (va_up G 3 g3') H locs → lv_has ls 4 [(0, .ref (ad 5)), (1, .int x1), (2, .int x2)] → W p l e ({ frames := 1, cells := 0, slots := 0, locals := 22 } : Room) s m args below meth c H locs 0 0 (MQ below (mQv D y nn ad A0 (I, J, A, B, (va_up G 3 out))) args s 0 0 A0) (F0 m 15 ls []) := by
  intro n
  induction n with
  | zero =>
    intro x1 x2 g3' ls H locs hE
    cases (show (none : Option _) = some out from hE)
  | succ n ih =>
    intro x1 x2 g3' ls H locs hE hM hl
    exact s_X4_findShortest_15 F hr (N := N) nx2 hn2 (lq3 (f_X4_findShortest_15 N nn (I 0) (G 1) nx2) n) ih x1 x2 g3' ls H locs hE hM hl
set_option maxHeartbeats 4000000 in
set_option maxRecDepth 100000 in
theorem s_X4_findShortest_2 {p : Program} {l : Launch} {e : Env} {s : State} {m : MethodId} {args : Array Value} {below : List Frame} {meth : Method} {c : Code} {D : va_G} {y : Nat → ClassId} {nn : Nat} {ad : Nat → Nat} {A0 : Nat → Prop} {I : Nat → Int32} {J : Nat → Int64} {A : Nat → Nat → Int32} {B : Nat → Nat → Int64} {G : Nat → Nat → Nat → Int32} (F : Fx p s m args meth c cX4_findShortest 4 wsX4_findShortest RX4 D y A0) (hr : meth.sig.returnType = none) {out : (Nat → Nat → Int32)} {N : Nat}  (nx2 : Int32 → (Nat → Nat → Int32) → Option ((Nat → Nat → Int32))) (hn2 : ∀ (x1 : Int32) (g3' : Nat → Nat → Int32) (ls : Array Slot) (H : Heap) (locs : List Loc), nx2 x1 g3' = some out → MM D y nn ad A0 s.heap I J A B (va_up G 3 g3') H locs → lv_has ls 4 [(0, .ref (ad 5)), (1, .int x1)] → W p l e ({ frames := 1, cells := 0, slots := 0, locals := 22 } : Room) s m args below meth c H locs 0 0 (MQ below (mQv D y nn ad A0 (I, J, A, B, (va_up G 3 out))) args s 0 0 A0) (F0 m 2 ls [])) : ∀ (x1 : Int32) (g3' : Nat → Nat → Int32) (ls : Array Slot) (H : Heap) (locs : List Loc), f_X4_findShortest_2 N nn (I 0) (G 1)  nx2 x1 g3' = some out → MM D y nn ad A0 s.heap I J A B (va_up G 3 g3') H locs → lv_has ls 4 [(0, .ref (ad 5)), (1, .int x1)] → W p l e ({ frames := 1, cells := 0, slots := 0, locals := 22 } : Room) s m args below meth c H locs 0 0 (MQ below (mQv D y nn ad A0 (I, J, A, B, (va_up G 3 out))) args s 0 0 A0) (F0 m 2 ls []) := by
  intro x1 g3' ls H locs hE hM hl
  have hx := F.1.1
  have hb := F.1.2.1
  unfold f_X4_findShortest_2 at hE
  refine lv_iload_n hx hb dX4_findShortest_2 rfl (lv_at hl 1 rfl) ?_
  refine lv_aload_n hx hb dX4_findShortest_3 rfl (lv_at hl 0 rfl) ?_
  refine m_get F hM 5 mg_5 rfl 0 (by decide) (by decide +kernel) (by decide +kernel) (v := .ref (ad 1)) rfl dX4_findShortest_4 ?_
  refine m_getN F hM 1 mg_1 rfl 0 (by decide) (by decide +kernel) (by decide +kernel) (v := .int (I 0)) rfl dX4_findShortest_7 ?_
  refine lv_icmp_ge (tgt := 77) hx hb dX4_findShortest_10 (by decide) (fun c10 => ?_) (fun c10 => ?_)
  · replace hE := (if_pos c10).symm.trans hE
    refine lv_iconst (v := 0) hx hb dX4_findShortest_77 (by decide) ?_
    refine lv_istore_n (lv' := [(1, .int (0 : Int32)), (0, .ref (ad 5))]) hx hb dX4_findShortest_78 rfl hl (by decide) rfl (fun ls hl => ?_)
    exact k_X4_findShortest_79 F hr (N := N)  N (0 : Int32) g3' ls H locs hE hM (lv_sub hl [1, 0] rfl)
  · replace hE := (if_neg c10).symm.trans hE
    refine lv_iconst (v := 0) hx hb dX4_findShortest_13 (by decide) ?_
    refine lv_istore_n (lv' := [(2, .int (0 : Int32)), (0, .ref (ad 5)), (1, .int x1)]) hx hb dX4_findShortest_14 rfl hl (by decide) rfl (fun ls hl => ?_)
    exact k_X4_findShortest_15 F hr (N := N) nx2 hn2 N x1 (0 : Int32) g3' ls H locs hE hM (lv_sub hl [1, 2, 0] rfl)
theorem k_X4_findShortest_2 {p : Program} {l : Launch} {e : Env} {s : State} {m : MethodId} {args : Array Value} {below : List Frame} {meth : Method} {c : Code} {D : va_G} {y : Nat → ClassId} {nn : Nat} {ad : Nat → Nat} {A0 : Nat → Prop} {I : Nat → Int32} {J : Nat → Int64} {A : Nat → Nat → Int32} {B : Nat → Nat → Int64} {G : Nat → Nat → Nat → Int32} (F : Fx p s m args meth c cX4_findShortest 4 wsX4_findShortest RX4 D y A0) (hr : meth.sig.returnType = none) {out : (Nat → Nat → Int32)} {N : Nat}  : ∀ (n : Nat), ∀ (x1 : Int32) (g3' : Nat → Nat → Int32) (ls : Array Slot) (H : Heap) (locs : List Loc), lq2 (f_X4_findShortest_2 N nn (I 0) (G 1) ) n x1 g3' = some out → MM D y nn ad A0 s.heap I J A B (va_up G 3 g3') H locs → lv_has ls 4 [(0, .ref (ad 5)), (1, .int x1)] → W p l e ({ frames := 1, cells := 0, slots := 0, locals := 22 } : Room) s m args below meth c H locs 0 0 (MQ below (mQv D y nn ad A0 (I, J, A, B, (va_up G 3 out))) args s 0 0 A0) (F0 m 2 ls []) := by
  intro n
  induction n with
  | zero =>
    intro x1 g3' ls H locs hE
    cases (show (none : Option _) = some out from hE)
  | succ n ih =>
    intro x1 g3' ls H locs hE hM hl
    exact s_X4_findShortest_2 F hr (N := N)  (lq2 (f_X4_findShortest_2 N nn (I 0) (G 1) ) n) ih x1 g3' ls H locs hE hM hl
set_option maxHeartbeats 4000000 in
set_option maxRecDepth 100000 in
theorem c_X4_findShortest (l : Launch) (D : va_G) (y : Nat → ClassId) (nn : Nat) (ad : Nat → Nat) (sz : Nat) (I : Nat → Int32) (J : Nat → Int64) (A : Nat → Nat → Int32) (B : Nat → Nat → Int64) (G : Nat → Nat → Nat → Int32)  (N : Nat) (out : (Nat → Nat → Int32)) (hE : f_X4_findShortest N nn (I 0) (G 1) (G 3)  = some out) : Met l yX4_findShortest wsX4_findShortest ({ frames := 1, cells := 0, slots := 0, locals := 22 } : Room) (mPc [.ref (ad 5)] D y nn ad sz I J A B G) (mQv D y nn ad (mA y nn ad I J A B G sz) (I, J, A, B, (va_up G 3 out))) 0 0 (mA y nn ad I J A B G sz) := by
  refine Met.ofW (cc := cX4_findShortest) (maxL := 4) (ret := none) (by decide) rfl ?_
  intro p e s m args below meth c s₁ Bd hml hv
  obtain ⟨rfl, hsz, hP, hK, hD0, hN⟩ := hv
  have hr := Bd.returns
  subst hsz
  have F : Fx p s m ([.ref (ad 5)] : List Value).toArray meth c cX4_findShortest 4 wsX4_findShortest RX4 D y (mA y nn ad I J A B G s.heap.size) := ⟨⟨Bd.exec, Bd.bytes, hml, findClass_of_methodNamed Bd.named, atoms_spec (ws := wsX4_findShortest) Bd.pre⟩, hK, hN, fun q h => Or.inr h, Bd.notSynchronized⟩
  have hM := m_start (s := s) rfl hP hD0
  have hM := m_mem (I2 := I) (J2 := J) (A2 := A) (B2 := B) (G2 := (va_up G 3 (G 3))) hM (by rfl) (by rfl) (by rfl) (by rfl) (by simp only [up_id])
  have hx := F.1.1
  have hb := F.1.2.1
  have hl := lv_entry ([.ref (ad 5)]) (n := 4) (Nat.le_of_ble_eq_true rfl)
  rw [lg_entry_eq]
  generalize (lg_sl ([.ref (ad 5)]) ++ List.replicate (4 - (lg_sl ([.ref (ad 5)])).length) Slot.unset).toArray = ls at hl ⊢
  have hl : lv_has ls 4 [(0, .ref (ad 5))] := hl
  show W p l e ({ frames := 1, cells := 0, slots := 0, locals := 22 } : Room) s m _ below meth c s.heap [] 0 0 _ _
  obtain ⟨locs, hlo⟩ : ∃ locs : List Loc, locs = [] := ⟨_, rfl⟩
  rw [← hlo]; rw [← hlo] at hM
  unfold f_X4_findShortest at hE
  revert hM
  suffices hH : ∀ H : Heap, MM D y nn ad (mA y nn ad I J A B G s.heap.size) s.heap I J A B (va_up G 3 (G 3)) H locs → W p l e ({ frames := 1, cells := 0, slots := 0, locals := 22 } : Room) s m ([.ref (ad 5)] : List Value).toArray below meth c H locs 0 0 (MQ below (mQv D y nn ad (mA y nn ad I J A B G s.heap.size) (I, J, A, B, (va_up G 3 out))) ([.ref (ad 5)] : List Value).toArray s 0 0 (mA y nn ad I J A B G s.heap.size)) (F0 m 0 ls []) from hH s.heap
  intro H hM
  refine lv_iconst (v := 0) hx hb dX4_findShortest_0 (by decide) ?_
  refine lv_istore_n (lv' := [(1, .int (0 : Int32)), (0, .ref (ad 5))]) hx hb dX4_findShortest_1 rfl hl (by decide) rfl (fun ls hl => ?_)
  exact k_X4_findShortest_2 F hr (N := N)  N (0 : Int32) (G 3) ls H locs hE hM (lv_sub hl [1, 0] rfl)
/-! ===== X4_sumWith: reads I2 A28 A29 G3, writes , frames 3, locals 62 ===== -/
def f_X4_sumWith (nn : Nat) (i2 : Int32) (a28 : Nat → Int32) (a29 : Nat → Int32) (g3 : Nat → Nat → Int32)  (p1 : Int32) (p2 : Int32) : Option (Int32) :=
bd (f_X4_firstOf p1) fun o1_0 =>
(if i2 ≤ o1_0 then
some (0 : Int32)
else
(if p2 < (0 : Int32) then
some (0 : Int32)
else
(if p2 < i2 then
ck o1_0 nn (
ck (a28 o1_0.toNatClampNeg) nn (
ck p2 nn (
ck (a28 p2.toNatClampNeg) nn (
bd (f_X4_without p1 p2) fun o51_5 =>
ck (o51_5 >>> ((1 : Int32) &&& 31)) (2 ^ (nn - 1)) (
some ((g3 (a28 o1_0.toNatClampNeg).toNatClampNeg (a28 p2.toNatClampNeg).toNatClampNeg) + (a29 (o51_5 >>> ((1 : Int32) &&& 31)).toNatClampNeg)))))))
else
some (0 : Int32))))
set_option maxHeartbeats 4000000 in
set_option maxRecDepth 100000 in
theorem c_X4_sumWith (l : Launch) (D : va_G) (y : Nat → ClassId) (nn : Nat) (ad : Nat → Nat) (sz : Nat) (I : Nat → Int32) (J : Nat → Int64) (A : Nat → Nat → Int32) (B : Nat → Nat → Int64) (G : Nat → Nat → Nat → Int32) (p1 : Int32) (p2 : Int32)  (out : Int32) (hE : f_X4_sumWith nn (I 2) (A 28) (A 29) (G 3)  p1 p2 = some out) : Met l yX4_sumWith wsX4_sumWith ({ frames := 3, cells := 0, slots := 0, locals := 62 } : Room) (mPc [.ref (ad 5), .int p1, .int p2] D y nn ad sz I J A B G) (mQi D y nn ad (mA y nn ad I J A B G sz) out (I, J, A, B, G)) 0 0 (mA y nn ad I J A B G sz) := by
  refine Met.ofW (cc := cX4_sumWith) (maxL := 4) (ret := (some .int)) (by decide) rfl ?_
  intro p e s m args below meth c s₁ Bd hml hv
  obtain ⟨rfl, hsz, hP, hK, hD0, hN⟩ := hv
  have hr := Bd.returns
  subst hsz
  have F : Fx p s m ([.ref (ad 5), .int p1, .int p2] : List Value).toArray meth c cX4_sumWith 4 wsX4_sumWith RX4 D y (mA y nn ad I J A B G s.heap.size) := ⟨⟨Bd.exec, Bd.bytes, hml, findClass_of_methodNamed Bd.named, atoms_spec (ws := wsX4_sumWith) Bd.pre⟩, hK, hN, fun q h => Or.inr h, Bd.notSynchronized⟩
  have hM := m_start (s := s) rfl hP hD0
  have hM := m_mem (I2 := I) (J2 := J) (A2 := A) (B2 := B) (G2 := G) hM (by rfl) (by rfl) (by rfl) (by rfl) (by rfl)
  have hx := F.1.1
  have hb := F.1.2.1
  have hl := lv_entry ([.ref (ad 5), .int p1, .int p2]) (n := 4) (Nat.le_of_ble_eq_true rfl)
  rw [lg_entry_eq]
  generalize (lg_sl ([.ref (ad 5), .int p1, .int p2]) ++ List.replicate (4 - (lg_sl ([.ref (ad 5), .int p1, .int p2])).length) Slot.unset).toArray = ls at hl ⊢
  have hl : lv_has ls 4 [(0, .ref (ad 5)), (1, .int p1), (2, .int p2)] := hl
  show W p l e ({ frames := 3, cells := 0, slots := 0, locals := 62 } : Room) s m _ below meth c s.heap [] 0 0 _ _
  obtain ⟨locs, hlo⟩ : ∃ locs : List Loc, locs = [] := ⟨_, rfl⟩
  rw [← hlo]; rw [← hlo] at hM
  unfold f_X4_sumWith at hE
  revert hM
  suffices hH : ∀ H : Heap, MM D y nn ad (mA y nn ad I J A B G s.heap.size) s.heap I J A B G H locs → W p l e ({ frames := 3, cells := 0, slots := 0, locals := 62 } : Room) s m ([.ref (ad 5), .int p1, .int p2] : List Value).toArray below meth c H locs 0 0 (MQ below (mQi D y nn ad (mA y nn ad I J A B G s.heap.size) out (I, J, A, B, G)) ([.ref (ad 5), .int p1, .int p2] : List Value).toArray s 0 0 (mA y nn ad I J A B G s.heap.size)) (F0 m 0 ls []) from hH s.heap
  intro H hM
  refine lv_iload_n hx hb dX4_sumWith_0 rfl (lv_at hl 1 rfl) ?_
  obtain ⟨o1_0, ho1_0, hE⟩ := bd_some hE
  refine m_callSi (As := [.int p1]) (I2 := I) (J2 := J) (A2 := A) (B2 := B) (G2 := G) F hM (c_X4_firstOf l D y nn ad H.size I J A B G p1  o1_0 ho1_0) (va_cwS 1 F.1.2.2.2.2 gX4_sumWith_X4_firstOf rfl rfl rfl (by decide +kernel) ⟨Nat.le_of_ble_eq_true rfl, Nat.le_of_ble_eq_true rfl⟩) rfl hl.1 (Nat.le_of_ble_eq_true rfl) dX4_sumWith_1 ⟨Nat.le_refl 0, Nat.le_refl 0⟩ rfl rfl rfl rfl rfl (fun H locs hM => ?_)
  refine lv_istore_n (lv' := [(3, .int o1_0), (0, .ref (ad 5)), (1, .int p1), (2, .int p2)]) hx hb dX4_sumWith_4 rfl hl (by decide) rfl (fun ls hl => ?_)
  refine lv_iload_n hx hb dX4_sumWith_5 rfl (lv_at hl 0 rfl) ?_
  refine lv_aload_n hx hb dX4_sumWith_6 rfl (lv_at hl 1 rfl) ?_
  refine m_get F hM 5 mg_5 rfl 3 (by decide) (by decide +kernel) (by decide +kernel) (v := .int (I 2)) rfl dX4_sumWith_7 ?_
  refine lv_icmp_ge (tgt := 25) hx hb dX4_sumWith_10 (by decide) (fun c10 => ?_) (fun c10 => ?_)
  · replace hE := (if_pos c10).symm.trans hE
    refine lv_iconst (v := 0) hx hb dX4_sumWith_25 (by decide) ?_
    obtain rfl := Option.some.inj hE
    exact m_iret F hM hr rfl rfl dX4_sumWith_26
  · replace hE := (if_neg c10).symm.trans hE
    refine lv_iload_n hx hb dX4_sumWith_13 rfl (lv_at hl 3 rfl) ?_
    refine lv_if_lt (tgt := 25) hx hb dX4_sumWith_14 (by decide) (fun c14 => ?_) (fun c14 => ?_)
    · replace hE := (if_pos c14).symm.trans hE
      refine lv_iconst (v := 0) hx hb dX4_sumWith_25 (by decide) ?_
      obtain rfl := Option.some.inj hE
      exact m_iret F hM hr rfl rfl dX4_sumWith_26
    · replace hE := (if_neg c14).symm.trans hE
      refine lv_iload_n hx hb dX4_sumWith_17 rfl (lv_at hl 3 rfl) ?_
      refine lv_aload_n hx hb dX4_sumWith_18 rfl (lv_at hl 1 rfl) ?_
      refine m_get F hM 5 mg_5 rfl 3 (by decide) (by decide +kernel) (by decide +kernel) (v := .int (I 2)) rfl dX4_sumWith_19 ?_
      refine lv_icmp_lt (tgt := 27) hx hb dX4_sumWith_22 (by decide) (fun c22 => ?_) (fun c22 => ?_)
      · replace hE := (if_pos c22).symm.trans hE
        refine lv_aload_n hx hb dX4_sumWith_27 rfl (lv_at hl 1 rfl) ?_
        refine m_get F hM 5 mg_5 rfl 1 (by decide) (by decide +kernel) (by decide +kernel) (v := .ref (ad 11)) rfl dX4_sumWith_28 ?_
        refine lv_aload_n hx hb dX4_sumWith_31 rfl (lv_at hl 1 rfl) ?_
        refine m_get F hM 5 mg_5 rfl 2 (by decide) (by decide +kernel) (by decide +kernel) (v := .ref (ad 28)) rfl dX4_sumWith_32 ?_
        refine lv_iload_n hx hb dX4_sumWith_35 rfl (lv_at hl 0 rfl) ?_
        obtain ⟨hi36_1, hE⟩ := ck_some hE
        refine m_iald (g := (A 28)) F hM mg_28 rfl hi36_1 dX4_sumWith_36 ?_
        obtain ⟨hi37_2, hE⟩ := ck_some hE
        refine m_aald F hM mg_11 hi37_2 dX4_sumWith_37 ?_
        refine lv_aload_n hx hb dX4_sumWith_38 rfl (lv_at hl 1 rfl) ?_
        refine m_get F hM 5 mg_5 rfl 2 (by decide) (by decide +kernel) (by decide +kernel) (v := .ref (ad 28)) rfl dX4_sumWith_39 ?_
        refine lv_iload_n hx hb dX4_sumWith_42 rfl (lv_at hl 3 rfl) ?_
        obtain ⟨hi43_3, hE⟩ := ck_some hE
        refine m_iald (g := (A 28)) F hM mg_28 rfl hi43_3 dX4_sumWith_43 ?_
        obtain ⟨hi44_4, hE⟩ := ck_some hE
        refine m_rald (M := (G 3)) F hM (by decide) (vp_lt hi37_2) rfl hi44_4 dX4_sumWith_44 ?_
        refine lv_aload_n hx hb dX4_sumWith_45 rfl (lv_at hl 1 rfl) ?_
        refine m_get F hM 5 mg_5 rfl 4 (by decide) (by decide +kernel) (by decide +kernel) (v := .ref (ad 29)) rfl dX4_sumWith_46 ?_
        refine lv_iload_n hx hb dX4_sumWith_49 rfl (lv_at hl 2 rfl) ?_
        refine lv_iload_n hx hb dX4_sumWith_50 rfl (lv_at hl 3 rfl) ?_
        obtain ⟨o51_5, ho51_5, hE⟩ := bd_some hE
        refine m_callSi (As := [.int p1, .int p2]) (I2 := I) (J2 := J) (A2 := A) (B2 := B) (G2 := G) F hM (c_X4_without l D y nn ad H.size I J A B G p1 p2  o51_5 ho51_5) (va_cwS 2 F.1.2.2.2.2 gX4_sumWith_X4_without rfl rfl rfl (by decide +kernel) ⟨Nat.le_of_ble_eq_true rfl, Nat.le_of_ble_eq_true rfl⟩) rfl hl.1 (Nat.le_of_ble_eq_true rfl) dX4_sumWith_51 ⟨Nat.le_refl 0, Nat.le_refl 0⟩ rfl rfl rfl rfl rfl (fun H locs hM => ?_)
        refine lv_iconst (v := 1) hx hb dX4_sumWith_54 (by decide) ?_
        refine lv_ishr hx hb dX4_sumWith_55 ?_
        obtain ⟨hi56_6, hE⟩ := ck_some hE
        refine m_iald (g := (A 29)) F hM mg_29 rfl hi56_6 dX4_sumWith_56 ?_
        refine lv_iadd hx hb dX4_sumWith_57 ?_
        obtain rfl := Option.some.inj hE
        exact m_iret F hM hr rfl rfl dX4_sumWith_58
      · replace hE := (if_neg c22).symm.trans hE
        refine lv_iconst (v := 0) hx hb dX4_sumWith_25 (by decide) ?_
        obtain rfl := Option.some.inj hE
        exact m_iret F hM hr rfl rfl dX4_sumWith_26
/-! ===== X4_bestPartner: reads I2 A28 A29 G3, writes , frames 4, locals 85 ===== -/
def f_X4_bestPartner_13 (N : Nat) (nn : Nat) (i2 : Int32) (a28 : Nat → Int32) (a29 : Nat → Int32) (g3 : Nat → Nat → Int32)  (nx13 : Int32 → Int32 → Int32 → Int32 → Option (Int32)) (x1 : Int32) (x2 : Int32) (x3 : Int32) (x4 : Int32) : Option (Int32) :=
(if i2 ≤ x4 then
some x2
else
(if ((x1 >>> (x4 &&& 31)) &&& (1 : Int32)) = (0 : Int32) then
nx13 x1 x2 x3 (x4 + (1 : Int32))
else
bd (f_X4_sumWith nn i2 a28 a29 g3 x1 x4) fun o35_1 =>
(if x3 ≤ o35_1 then
nx13 x1 x2 x3 (x4 + (1 : Int32))
else
bd (f_X4_sumWith nn i2 a28 a29 g3 x1 x4) fun o46_2 =>
nx13 x1 x4 o46_2 (x4 + (1 : Int32)))))
def f_X4_bestPartner (N : Nat) (nn : Nat) (i2 : Int32) (a28 : Nat → Int32) (a29 : Nat → Int32) (g3 : Nat → Nat → Int32)  (p1 : Int32) : Option (Int32) :=
bd (f_X4_firstOf p1) fun o6_0 =>
lq4 (f_X4_bestPartner_13 N nn i2 a28 a29 g3 ) N p1 (-1 : Int32) (2147483647 : Int32) (o6_0 + (1 : Int32))
set_option maxHeartbeats 4000000 in
set_option maxRecDepth 100000 in
theorem s_X4_bestPartner_13 {p : Program} {l : Launch} {e : Env} {s : State} {m : MethodId} {args : Array Value} {below : List Frame} {meth : Method} {c : Code} {D : va_G} {y : Nat → ClassId} {nn : Nat} {ad : Nat → Nat} {A0 : Nat → Prop} {I : Nat → Int32} {J : Nat → Int64} {A : Nat → Nat → Int32} {B : Nat → Nat → Int64} {G : Nat → Nat → Nat → Int32} (F : Fx p s m args meth c cX4_bestPartner 5 wsX4_bestPartner RX4 D y A0) (hr : meth.sig.returnType = (some .int)) {out : Int32} {N : Nat}  (nx13 : Int32 → Int32 → Int32 → Int32 → Option (Int32)) (hn13 : ∀ (x1 : Int32) (x2 : Int32) (x3 : Int32) (x4 : Int32) (ls : Array Slot) (H : Heap) (locs : List Loc), nx13 x1 x2 x3 x4 = some out → MM D y nn ad A0 s.heap I J A B G H locs → lv_has ls 5 [(0, .ref (ad 5)), (1, .int x1), (2, .int x2), (3, .int x3), (4, .int x4)] → W p l e ({ frames := 4, cells := 0, slots := 0, locals := 85 } : Room) s m args below meth c H locs 0 0 (MQ below (mQi D y nn ad A0 out (I, J, A, B, G)) args s 0 0 A0) (F0 m 13 ls [])) : ∀ (x1 : Int32) (x2 : Int32) (x3 : Int32) (x4 : Int32) (ls : Array Slot) (H : Heap) (locs : List Loc), f_X4_bestPartner_13 N nn (I 2) (A 28) (A 29) (G 3)  nx13 x1 x2 x3 x4 = some out → MM D y nn ad A0 s.heap I J A B G H locs → lv_has ls 5 [(0, .ref (ad 5)), (1, .int x1), (2, .int x2), (3, .int x3), (4, .int x4)] → W p l e ({ frames := 4, cells := 0, slots := 0, locals := 85 } : Room) s m args below meth c H locs 0 0 (MQ below (mQi D y nn ad A0 out (I, J, A, B, G)) args s 0 0 A0) (F0 m 13 ls []) := by
  intro x1 x2 x3 x4 ls H locs hE hM hl
  have hx := F.1.1
  have hb := F.1.2.1
  unfold f_X4_bestPartner_13 at hE
  refine lv_iload hx hb dX4_bestPartner_13 (lv_at hl 4 rfl) ?_
  refine lv_aload_n hx hb dX4_bestPartner_15 rfl (lv_at hl 0 rfl) ?_
  refine m_get F hM 5 mg_5 rfl 3 (by decide) (by decide +kernel) (by decide +kernel) (v := .int (I 2)) rfl dX4_bestPartner_16 ?_
  refine lv_icmp_ge (tgt := 59) hx hb dX4_bestPartner_19 (by decide) (fun c19 => ?_) (fun c19 => ?_)
  · replace hE := (if_pos c19).symm.trans hE
    refine lv_iload_n hx hb dX4_bestPartner_59 rfl (lv_at hl 2 rfl) ?_
    obtain rfl := Option.some.inj hE
    exact m_iret F hM hr rfl rfl dX4_bestPartner_60
  · replace hE := (if_neg c19).symm.trans hE
    refine lv_iload_n hx hb dX4_bestPartner_22 rfl (lv_at hl 1 rfl) ?_
    refine lv_iload hx hb dX4_bestPartner_23 (lv_at hl 4 rfl) ?_
    refine lv_ishr hx hb dX4_bestPartner_25 ?_
    refine lv_iconst (v := 1) hx hb dX4_bestPartner_26 (by decide) ?_
    refine lv_iand hx hb dX4_bestPartner_27 ?_
    refine lv_if_eq (tgt := 53) hx hb dX4_bestPartner_28 (by decide) (fun c28 => ?_) (fun c28 => ?_)
    · replace hE := (if_pos c28).symm.trans hE
      refine lv_iinc (v := x4 + (1 : Int32)) (lv' := [(4, .int (x4 + (1 : Int32))), (0, .ref (ad 5)), (1, .int x1), (2, .int x2), (3, .int x3)]) hx hb dX4_bestPartner_53 hl (k := 4) rfl rfl (by decide) rfl (fun ls hl => ?_)
      refine lv_goto (tgt := 13) hx hb dX4_bestPartner_56 (by decide) ?_
      exact hn13 x1 x2 x3 (x4 + (1 : Int32)) ls H locs hE hM (lv_sub hl [1, 2, 3, 4, 0] rfl)
    · replace hE := (if_neg c28).symm.trans hE
      refine lv_aload_n hx hb dX4_bestPartner_31 rfl (lv_at hl 0 rfl) ?_
      refine lv_iload_n hx hb dX4_bestPartner_32 rfl (lv_at hl 1 rfl) ?_
      refine lv_iload hx hb dX4_bestPartner_33 (lv_at hl 4 rfl) ?_
      obtain ⟨o35_1, ho35_1, hE⟩ := bd_some hE
      refine m_callVi (As := [.int x1, .int x4]) (I2 := I) (J2 := J) (A2 := A) (B2 := B) (G2 := G) F hM (c_X4_sumWith l D y nn ad H.size I J A B G x1 x4  o35_1 ho35_1) (cwV 2 F.1.2.2.2.2 gX4_bestPartner_X4_sumWith rfl rfl rfl (by decide +kernel) ⟨Nat.le_of_ble_eq_true rfl, Nat.le_of_ble_eq_true rfl⟩) (m_recv F hM mg_5 rfl) rfl hl.1 (Nat.le_of_ble_eq_true rfl) dX4_bestPartner_35 ⟨Nat.le_refl 0, Nat.le_refl 0⟩ rfl rfl rfl rfl rfl (fun H locs hM => ?_)
      refine lv_iload_n hx hb dX4_bestPartner_38 rfl (lv_at hl 3 rfl) ?_
      refine lv_icmp_ge (tgt := 53) hx hb dX4_bestPartner_39 (by decide) (fun c39 => ?_) (fun c39 => ?_)
      · replace hE := (if_pos c39).symm.trans hE
        refine lv_iinc (v := x4 + (1 : Int32)) (lv' := [(4, .int (x4 + (1 : Int32))), (0, .ref (ad 5)), (1, .int x1), (2, .int x2), (3, .int x3)]) hx hb dX4_bestPartner_53 hl (k := 4) rfl rfl (by decide) rfl (fun ls hl => ?_)
        refine lv_goto (tgt := 13) hx hb dX4_bestPartner_56 (by decide) ?_
        exact hn13 x1 x2 x3 (x4 + (1 : Int32)) ls H locs hE hM (lv_sub hl [1, 2, 3, 4, 0] rfl)
      · replace hE := (if_neg c39).symm.trans hE
        refine lv_aload_n hx hb dX4_bestPartner_42 rfl (lv_at hl 0 rfl) ?_
        refine lv_iload_n hx hb dX4_bestPartner_43 rfl (lv_at hl 1 rfl) ?_
        refine lv_iload hx hb dX4_bestPartner_44 (lv_at hl 4 rfl) ?_
        obtain ⟨o46_2, ho46_2, hE⟩ := bd_some hE
        refine m_callVi (As := [.int x1, .int x4]) (I2 := I) (J2 := J) (A2 := A) (B2 := B) (G2 := G) F hM (c_X4_sumWith l D y nn ad H.size I J A B G x1 x4  o46_2 ho46_2) (cwV 2 F.1.2.2.2.2 gX4_bestPartner_X4_sumWith rfl rfl rfl (by decide +kernel) ⟨Nat.le_of_ble_eq_true rfl, Nat.le_of_ble_eq_true rfl⟩) (m_recv F hM mg_5 rfl) rfl hl.1 (Nat.le_of_ble_eq_true rfl) dX4_bestPartner_46 ⟨Nat.le_refl 0, Nat.le_refl 0⟩ rfl rfl rfl rfl rfl (fun H locs hM => ?_)
        refine lv_istore_n (lv' := [(3, .int o46_2), (0, .ref (ad 5)), (1, .int x1), (2, .int x2), (4, .int x4)]) hx hb dX4_bestPartner_49 rfl hl (by decide) rfl (fun ls hl => ?_)
        refine lv_iload hx hb dX4_bestPartner_50 (lv_at hl 4 rfl) ?_
        refine lv_istore_n (lv' := [(2, .int x4), (3, .int o46_2), (0, .ref (ad 5)), (1, .int x1), (4, .int x4)]) hx hb dX4_bestPartner_52 rfl hl (by decide) rfl (fun ls hl => ?_)
        refine lv_iinc (v := x4 + (1 : Int32)) (lv' := [(4, .int (x4 + (1 : Int32))), (2, .int x4), (3, .int o46_2), (0, .ref (ad 5)), (1, .int x1)]) hx hb dX4_bestPartner_53 hl (k := 4) rfl rfl (by decide) rfl (fun ls hl => ?_)
        refine lv_goto (tgt := 13) hx hb dX4_bestPartner_56 (by decide) ?_
        exact hn13 x1 x4 o46_2 (x4 + (1 : Int32)) ls H locs hE hM (lv_sub hl [3, 4, 1, 2, 0] rfl)
theorem k_X4_bestPartner_13 {p : Program} {l : Launch} {e : Env} {s : State} {m : MethodId} {args : Array Value} {below : List Frame} {meth : Method} {c : Code} {D : va_G} {y : Nat → ClassId} {nn : Nat} {ad : Nat → Nat} {A0 : Nat → Prop} {I : Nat → Int32} {J : Nat → Int64} {A : Nat → Nat → Int32} {B : Nat → Nat → Int64} {G : Nat → Nat → Nat → Int32} (F : Fx p s m args meth c cX4_bestPartner 5 wsX4_bestPartner RX4 D y A0) (hr : meth.sig.returnType = (some .int)) {out : Int32} {N : Nat}  : ∀ (n : Nat), ∀ (x1 : Int32) (x2 : Int32) (x3 : Int32) (x4 : Int32) (ls : Array Slot) (H : Heap) (locs : List Loc), lq4 (f_X4_bestPartner_13 N nn (I 2) (A 28) (A 29) (G 3) ) n x1 x2 x3 x4 = some out → MM D y nn ad A0 s.heap I J A B G H locs → lv_has ls 5 [(0, .ref (ad 5)), (1, .int x1), (2, .int x2), (3, .int x3), (4, .int x4)] → W p l e ({ frames := 4, cells := 0, slots := 0, locals := 85 } : Room) s m args below meth c H locs 0 0 (MQ below (mQi D y nn ad A0 out (I, J, A, B, G)) args s 0 0 A0) (F0 m 13 ls []) := by
  intro n
  induction n with
  | zero =>
    intro x1 x2 x3 x4 ls H locs hE
    cases (show (none : Option _) = some out from hE)
  | succ n ih =>
    intro x1 x2 x3 x4 ls H locs hE hM hl
    exact s_X4_bestPartner_13 F hr (N := N)  (lq4 (f_X4_bestPartner_13 N nn (I 2) (A 28) (A 29) (G 3) ) n) ih x1 x2 x3 x4 ls H locs hE hM hl
set_option maxHeartbeats 4000000 in
set_option maxRecDepth 100000 in
theorem c_X4_bestPartner (l : Launch) (D : va_G) (y : Nat → ClassId) (nn : Nat) (ad : Nat → Nat) (sz : Nat) (I : Nat → Int32) (J : Nat → Int64) (A : Nat → Nat → Int32) (B : Nat → Nat → Int64) (G : Nat → Nat → Nat → Int32) (p1 : Int32) (N : Nat) (out : Int32) (hE : f_X4_bestPartner N nn (I 2) (A 28) (A 29) (G 3)  p1 = some out) : Met l yX4_bestPartner wsX4_bestPartner ({ frames := 4, cells := 0, slots := 0, locals := 85 } : Room) (mPc [.ref (ad 5), .int p1] D y nn ad sz I J A B G) (mQi D y nn ad (mA y nn ad I J A B G sz) out (I, J, A, B, G)) 0 0 (mA y nn ad I J A B G sz) := by
  refine Met.ofW (cc := cX4_bestPartner) (maxL := 5) (ret := (some .int)) (by decide) rfl ?_
  intro p e s m args below meth c s₁ Bd hml hv
  obtain ⟨rfl, hsz, hP, hK, hD0, hN⟩ := hv
  have hr := Bd.returns
  subst hsz
  have F : Fx p s m ([.ref (ad 5), .int p1] : List Value).toArray meth c cX4_bestPartner 5 wsX4_bestPartner RX4 D y (mA y nn ad I J A B G s.heap.size) := ⟨⟨Bd.exec, Bd.bytes, hml, findClass_of_methodNamed Bd.named, atoms_spec (ws := wsX4_bestPartner) Bd.pre⟩, hK, hN, fun q h => Or.inr h, Bd.notSynchronized⟩
  have hM := m_start (s := s) rfl hP hD0
  have hM := m_mem (I2 := I) (J2 := J) (A2 := A) (B2 := B) (G2 := G) hM (by rfl) (by rfl) (by rfl) (by rfl) (by rfl)
  have hx := F.1.1
  have hb := F.1.2.1
  have hl := lv_entry ([.ref (ad 5), .int p1]) (n := 5) (Nat.le_of_ble_eq_true rfl)
  rw [lg_entry_eq]
  generalize (lg_sl ([.ref (ad 5), .int p1]) ++ List.replicate (5 - (lg_sl ([.ref (ad 5), .int p1])).length) Slot.unset).toArray = ls at hl ⊢
  have hl : lv_has ls 5 [(0, .ref (ad 5)), (1, .int p1)] := hl
  show W p l e ({ frames := 4, cells := 0, slots := 0, locals := 85 } : Room) s m _ below meth c s.heap [] 0 0 _ _
  obtain ⟨locs, hlo⟩ : ∃ locs : List Loc, locs = [] := ⟨_, rfl⟩
  rw [← hlo]; rw [← hlo] at hM
  unfold f_X4_bestPartner at hE
  revert hM
  suffices hH : ∀ H : Heap, MM D y nn ad (mA y nn ad I J A B G s.heap.size) s.heap I J A B G H locs → W p l e ({ frames := 4, cells := 0, slots := 0, locals := 85 } : Room) s m ([.ref (ad 5), .int p1] : List Value).toArray below meth c H locs 0 0 (MQ below (mQi D y nn ad (mA y nn ad I J A B G s.heap.size) out (I, J, A, B, G)) ([.ref (ad 5), .int p1] : List Value).toArray s 0 0 (mA y nn ad I J A B G s.heap.size)) (F0 m 0 ls []) from hH s.heap
  intro H hM
  refine lv_iconst (v := (-1)) hx hb dX4_bestPartner_0 (by decide) ?_
  refine lv_istore_n (lv' := [(2, .int (-1 : Int32)), (0, .ref (ad 5)), (1, .int p1)]) hx hb dX4_bestPartner_1 rfl hl (by decide) rfl (fun ls hl => ?_)
  refine lv_ldc (v := 2147483647) hx hb F.1.2.2.2.1 (F.1.2.2.2.2 (.constant RX4 93 (2147483647)) (by decide +kernel)) dX4_bestPartner_2 ?_
  refine lv_istore_n (lv' := [(3, .int (2147483647 : Int32)), (2, .int (-1 : Int32)), (0, .ref (ad 5)), (1, .int p1)]) hx hb dX4_bestPartner_4 rfl hl (by decide) rfl (fun ls hl => ?_)
  refine lv_iload_n hx hb dX4_bestPartner_5 rfl (lv_at hl 3 rfl) ?_
  obtain ⟨o6_0, ho6_0, hE⟩ := bd_some hE
  refine m_callSi (As := [.int p1]) (I2 := I) (J2 := J) (A2 := A) (B2 := B) (G2 := G) F hM (c_X4_firstOf l D y nn ad H.size I J A B G p1  o6_0 ho6_0) (va_cwS 1 F.1.2.2.2.2 gX4_bestPartner_X4_firstOf rfl rfl rfl (by decide +kernel) ⟨Nat.le_of_ble_eq_true rfl, Nat.le_of_ble_eq_true rfl⟩) rfl hl.1 (Nat.le_of_ble_eq_true rfl) dX4_bestPartner_6 ⟨Nat.le_refl 0, Nat.le_refl 0⟩ rfl rfl rfl rfl rfl (fun H locs hM => ?_)
  refine lv_iconst (v := 1) hx hb dX4_bestPartner_9 (by decide) ?_
  refine lv_iadd hx hb dX4_bestPartner_10 ?_
  refine lv_istore (lv' := [(4, .int (o6_0 + (1 : Int32))), (3, .int (2147483647 : Int32)), (2, .int (-1 : Int32)), (0, .ref (ad 5)), (1, .int p1)]) hx hb dX4_bestPartner_11 hl (by decide) rfl (fun ls hl => ?_)
  exact k_X4_bestPartner_13 F hr (N := N)  N p1 (-1 : Int32) (2147483647 : Int32) (o6_0 + (1 : Int32)) ls H locs hE hM (lv_sub hl [3, 4, 2, 1, 0] rfl)
/-! ===== X4_findLeastSums: reads I2 A28 G3, writes A29, frames 5, locals 109 ===== -/
def f_X4_findLeastSums_9 (N : Nat) (nn : Nat) (i2 : Int32) (a28 : Nat → Int32) (g3 : Nat → Nat → Int32)  (nx9 : Int32 → (Nat → Int32) → Option ((Nat → Int32))) (x1 : Int32) (a29' : Nat → Int32) : Option ((Nat → Int32)) :=
bd (f_X4_everyOdd i2) fun o11_2 =>
(if o11_2 < x1 then
some a29'
else
bd (f_J6_bitCount_0f7a4 x1) fun o18_3 =>
(if (o18_3 &&& (1 : Int32)) = (0 : Int32) then
bd (f_X4_bestPartner N nn i2 a28 a29' g3 x1) fun o37_4 =>
bd (f_X4_sumWith nn i2 a28 a29' g3 x1 o37_4) fun o40_5 =>
ck (x1 >>> ((1 : Int32) &&& 31)) (2 ^ (nn - 1)) (
nmd (upd a29' (x1 >>> ((1 : Int32) &&& 31)).toNatClampNeg o40_5) fun w43_7 =>
nx9 (x1 + (1 : Int32)) w43_7)
else
nx9 (x1 + (1 : Int32)) a29'))
def f_X4_findLeastSums (N : Nat) (nn : Nat) (i2 : Int32) (a28 : Nat → Int32) (g3 : Nat → Nat → Int32) (a29 : Nat → Int32)  : Option ((Nat → Int32)) :=
ck (0 : Int32) (2 ^ (nn - 1)) (
nmd (upd a29 (0 : Int32).toNatClampNeg (0 : Int32)) fun w6_1 =>
lq2 (f_X4_findLeastSums_9 N nn i2 a28 g3 ) N (1 : Int32) w6_1)
set_option maxHeartbeats 4000000 in
set_option maxRecDepth 100000 in
theorem s_X4_findLeastSums_9 {p : Program} {l : Launch} {e : Env} {s : State} {m : MethodId} {args : Array Value} {below : List Frame} {meth : Method} {c : Code} {D : va_G} {y : Nat → ClassId} {nn : Nat} {ad : Nat → Nat} {A0 : Nat → Prop} {I : Nat → Int32} {J : Nat → Int64} {A : Nat → Nat → Int32} {B : Nat → Nat → Int64} {G : Nat → Nat → Nat → Int32} (F : Fx p s m args meth c cX4_findLeastSums 2 wsX4_findLeastSums RX4 D y A0) (hr : meth.sig.returnType = none) {out : (Nat → Int32)} {N : Nat}  (nx9 : Int32 → (Nat → Int32) → Option ((Nat → Int32))) (hn9 : ∀ (x1 : Int32) (a29' : Nat → Int32) (ls : Array Slot) (H : Heap) (locs : List Loc), nx9 x1 a29' = some out → MM D y nn ad A0 s.heap I J (va_up A 29 a29') B G H locs → lv_has ls 2 [(0, .ref (ad 5)), (1, .int x1)] → W p l e ({ frames := 5, cells := 0, slots := 0, locals := 109 } : Room) s m args below meth c H locs 0 0 (MQ below (mQv D y nn ad A0 (I, J, (va_up A 29 out), B, G)) args s 0 0 A0) (F0 m 9 ls [])) : ∀ (x1 : Int32) (a29' : Nat → Int32) (ls : Array Slot) (H : Heap) (locs : List Loc), f_X4_findLeastSums_9 N nn (I 2) (A 28) (G 3)  nx9 x1 a29' = some out → MM D y nn ad A0 s.heap I J (va_up A 29 a29') B G H locs → lv_has ls 2 [(0, .ref (ad 5)), (1, .int x1)] → W p l e ({ frames := 5, cells := 0, slots := 0, locals := 109 } : Room) s m args below meth c H locs 0 0 (MQ below (mQv D y nn ad A0 (I, J, (va_up A 29 out), B, G)) args s 0 0 A0) (F0 m 9 ls []) := by
  intro x1 a29' ls H locs hE hM hl
  have hx := F.1.1
  have hb := F.1.2.1
  unfold f_X4_findLeastSums_9 at hE
  refine lv_iload_n hx hb dX4_findLeastSums_9 rfl (lv_at hl 1 rfl) ?_
  refine lv_aload_n hx hb dX4_findLeastSums_10 rfl (lv_at hl 0 rfl) ?_
  obtain ⟨o11_2, ho11_2, hE⟩ := bd_some hE
  refine m_callVi (As := []) (I2 := I) (J2 := J) (A2 := (va_up A 29 a29')) (B2 := B) (G2 := G) F hM (c_X4_everyOdd l D y nn ad H.size I J (va_up A 29 a29') B G   o11_2 ho11_2) (cwV 0 F.1.2.2.2.2 gX4_findLeastSums_X4_everyOdd rfl rfl rfl (by decide +kernel) ⟨Nat.le_of_ble_eq_true rfl, Nat.le_of_ble_eq_true rfl⟩) (m_recv F hM mg_5 rfl) rfl hl.1 (Nat.le_of_ble_eq_true rfl) dX4_findLeastSums_11 ⟨Nat.le_refl 0, Nat.le_refl 0⟩ rfl rfl rfl rfl rfl (fun H locs hM => ?_)
  refine lv_icmp_gt (tgt := 50) hx hb dX4_findLeastSums_14 (by decide) (fun c14 => ?_) (fun c14 => ?_)
  · replace hE := (if_pos c14).symm.trans hE
    obtain rfl := Option.some.inj hE
    exact m_vret F hM hr rfl dX4_findLeastSums_50
  · replace hE := (if_neg c14).symm.trans hE
    refine lv_iload_n hx hb dX4_findLeastSums_17 rfl (lv_at hl 1 rfl) ?_
    obtain ⟨o18_3, ho18_3, hE⟩ := bd_some hE
    refine m_callSi (As := [.int x1]) (I2 := I) (J2 := J) (A2 := (va_up A 29 a29')) (B2 := B) (G2 := G) F hM (c_J6_bitCount_0f7a4 l D y nn ad H.size I J (va_up A 29 a29') B G x1  o18_3 ho18_3) (va_cwS 1 F.1.2.2.2.2 gX4_findLeastSums_J6_bitCount_0f7a4 rfl rfl rfl (by decide +kernel) ⟨Nat.le_of_ble_eq_true rfl, Nat.le_of_ble_eq_true rfl⟩) rfl hl.1 (Nat.le_of_ble_eq_true rfl) dX4_findLeastSums_18 ⟨Nat.le_refl 0, Nat.le_refl 0⟩ rfl rfl rfl rfl rfl (fun H locs hM => ?_)
    refine lv_iconst (v := 1) hx hb dX4_findLeastSums_21 (by decide) ?_
    refine lv_iand hx hb dX4_findLeastSums_22 ?_
    refine lv_if_ne (tgt := 44) hx hb dX4_findLeastSums_23 (by decide) (fun c23 => ?_) (fun c23 => ?_)
    · replace hE := (if_neg c23).symm.trans hE
      refine lv_iinc (v := x1 + (1 : Int32)) (lv' := [(1, .int (x1 + (1 : Int32))), (0, .ref (ad 5))]) hx hb dX4_findLeastSums_44 hl (k := 1) rfl rfl (by decide) rfl (fun ls hl => ?_)
      refine lv_goto (tgt := 9) hx hb dX4_findLeastSums_47 (by decide) ?_
      exact hn9 (x1 + (1 : Int32)) a29' ls H locs hE hM (lv_sub hl [1, 0] rfl)
    · replace hE := (if_pos c23).symm.trans hE
      refine lv_aload_n hx hb dX4_findLeastSums_26 rfl (lv_at hl 0 rfl) ?_
      refine m_get F hM 5 mg_5 rfl 4 (by decide) (by decide +kernel) (by decide +kernel) (v := .ref (ad 29)) rfl dX4_findLeastSums_27 ?_
      refine lv_iload_n hx hb dX4_findLeastSums_30 rfl (lv_at hl 1 rfl) ?_
      refine lv_iconst (v := 1) hx hb dX4_findLeastSums_31 (by decide) ?_
      refine lv_ishr hx hb dX4_findLeastSums_32 ?_
      refine lv_aload_n hx hb dX4_findLeastSums_33 rfl (lv_at hl 0 rfl) ?_
      refine lv_iload_n hx hb dX4_findLeastSums_34 rfl (lv_at hl 1 rfl) ?_
      refine lv_aload_n hx hb dX4_findLeastSums_35 rfl (lv_at hl 0 rfl) ?_
      refine lv_iload_n hx hb dX4_findLeastSums_36 rfl (lv_at hl 1 rfl) ?_
      obtain ⟨o37_4, ho37_4, hE⟩ := bd_some hE
      refine m_callVi (As := [.int x1]) (I2 := I) (J2 := J) (A2 := (va_up A 29 a29')) (B2 := B) (G2 := G) F hM (c_X4_bestPartner l D y nn ad H.size I J (va_up A 29 a29') B G x1 N o37_4 ho37_4) (cwV 1 F.1.2.2.2.2 gX4_findLeastSums_X4_bestPartner rfl rfl rfl (by decide +kernel) ⟨Nat.le_of_ble_eq_true rfl, Nat.le_of_ble_eq_true rfl⟩) (m_recv F hM mg_5 rfl) rfl hl.1 (Nat.le_of_ble_eq_true rfl) dX4_findLeastSums_37 ⟨Nat.le_refl 0, Nat.le_refl 0⟩ rfl rfl rfl rfl rfl (fun H locs hM => ?_)
      obtain ⟨o40_5, ho40_5, hE⟩ := bd_some hE
      refine m_callVi (As := [.int x1, .int o37_4]) (I2 := I) (J2 := J) (A2 := (va_up A 29 a29')) (B2 := B) (G2 := G) F hM (c_X4_sumWith l D y nn ad H.size I J (va_up A 29 a29') B G x1 o37_4  o40_5 ho40_5) (cwV 2 F.1.2.2.2.2 gX4_findLeastSums_X4_sumWith rfl rfl rfl (by decide +kernel) ⟨Nat.le_of_ble_eq_true rfl, Nat.le_of_ble_eq_true rfl⟩) (m_recv F hM mg_5 rfl) rfl hl.1 (Nat.le_of_ble_eq_true rfl) dX4_findLeastSums_40 ⟨Nat.le_refl 0, Nat.le_refl 0⟩ rfl rfl rfl rfl rfl (fun H locs hM => ?_)
      obtain ⟨hi43_6, hE⟩ := ck_some hE
      obtain ⟨w43_7, ew43_7, hE⟩ := nmd_some hE
      refine m_iast (f := a29') (A' := (va_up A 29 w43_7)) F hM mg_29 ms_29 (by rw [ew43_7]; exact (bx_uu _ _ _ _)) hi43_6 dX4_findLeastSums_43 (fun H locs hM => ?_)
      refine lv_iinc (v := x1 + (1 : Int32)) (lv' := [(1, .int (x1 + (1 : Int32))), (0, .ref (ad 5))]) hx hb dX4_findLeastSums_44 hl (k := 1) rfl rfl (by decide) rfl (fun ls hl => ?_)
      refine lv_goto (tgt := 9) hx hb dX4_findLeastSums_47 (by decide) ?_
      exact hn9 (x1 + (1 : Int32)) w43_7 ls H locs hE hM (lv_sub hl [1, 0] rfl)
theorem k_X4_findLeastSums_9 {p : Program} {l : Launch} {e : Env} {s : State} {m : MethodId} {args : Array Value} {below : List Frame} {meth : Method} {c : Code} {D : va_G} {y : Nat → ClassId} {nn : Nat} {ad : Nat → Nat} {A0 : Nat → Prop} {I : Nat → Int32} {J : Nat → Int64} {A : Nat → Nat → Int32} {B : Nat → Nat → Int64} {G : Nat → Nat → Nat → Int32} (F : Fx p s m args meth c cX4_findLeastSums 2 wsX4_findLeastSums RX4 D y A0) (hr : meth.sig.returnType = none) {out : (Nat → Int32)} {N : Nat}  : ∀ (n : Nat), ∀ (x1 : Int32) (a29' : Nat → Int32) (ls : Array Slot) (H : Heap) (locs : List Loc), lq2 (f_X4_findLeastSums_9 N nn (I 2) (A 28) (G 3) ) n x1 a29' = some out → MM D y nn ad A0 s.heap I J (va_up A 29 a29') B G H locs → lv_has ls 2 [(0, .ref (ad 5)), (1, .int x1)] → W p l e ({ frames := 5, cells := 0, slots := 0, locals := 109 } : Room) s m args below meth c H locs 0 0 (MQ below (mQv D y nn ad A0 (I, J, (va_up A 29 out), B, G)) args s 0 0 A0) (F0 m 9 ls []) := by
  intro n
  induction n with
  | zero =>
    intro x1 a29' ls H locs hE
    cases (show (none : Option _) = some out from hE)
  | succ n ih =>
    intro x1 a29' ls H locs hE hM hl
    exact s_X4_findLeastSums_9 F hr (N := N)  (lq2 (f_X4_findLeastSums_9 N nn (I 2) (A 28) (G 3) ) n) ih x1 a29' ls H locs hE hM hl
set_option maxHeartbeats 4000000 in
set_option maxRecDepth 100000 in
theorem c_X4_findLeastSums (l : Launch) (D : va_G) (y : Nat → ClassId) (nn : Nat) (ad : Nat → Nat) (sz : Nat) (I : Nat → Int32) (J : Nat → Int64) (A : Nat → Nat → Int32) (B : Nat → Nat → Int64) (G : Nat → Nat → Nat → Int32)  (N : Nat) (out : (Nat → Int32)) (hE : f_X4_findLeastSums N nn (I 2) (A 28) (G 3) (A 29)  = some out) : Met l yX4_findLeastSums wsX4_findLeastSums ({ frames := 5, cells := 0, slots := 0, locals := 109 } : Room) (mPc [.ref (ad 5)] D y nn ad sz I J A B G) (mQv D y nn ad (mA y nn ad I J A B G sz) (I, J, (va_up A 29 out), B, G)) 0 0 (mA y nn ad I J A B G sz) := by
  refine Met.ofW (cc := cX4_findLeastSums) (maxL := 2) (ret := none) (by decide) rfl ?_
  intro p e s m args below meth c s₁ Bd hml hv
  obtain ⟨rfl, hsz, hP, hK, hD0, hN⟩ := hv
  have hr := Bd.returns
  subst hsz
  have F : Fx p s m ([.ref (ad 5)] : List Value).toArray meth c cX4_findLeastSums 2 wsX4_findLeastSums RX4 D y (mA y nn ad I J A B G s.heap.size) := ⟨⟨Bd.exec, Bd.bytes, hml, findClass_of_methodNamed Bd.named, atoms_spec (ws := wsX4_findLeastSums) Bd.pre⟩, hK, hN, fun q h => Or.inr h, Bd.notSynchronized⟩
  have hM := m_start (s := s) rfl hP hD0
  have hM := m_mem (I2 := I) (J2 := J) (A2 := (va_up A 29 (A 29))) (B2 := B) (G2 := G) hM (by rfl) (by rfl) (by simp only [up_id]) (by rfl) (by rfl)
  have hx := F.1.1
  have hb := F.1.2.1
  have hl := lv_entry ([.ref (ad 5)]) (n := 2) (Nat.le_of_ble_eq_true rfl)
  rw [lg_entry_eq]
  generalize (lg_sl ([.ref (ad 5)]) ++ List.replicate (2 - (lg_sl ([.ref (ad 5)])).length) Slot.unset).toArray = ls at hl ⊢
  have hl : lv_has ls 2 [(0, .ref (ad 5))] := hl
  show W p l e ({ frames := 5, cells := 0, slots := 0, locals := 109 } : Room) s m _ below meth c s.heap [] 0 0 _ _
  obtain ⟨locs, hlo⟩ : ∃ locs : List Loc, locs = [] := ⟨_, rfl⟩
  rw [← hlo]; rw [← hlo] at hM
  unfold f_X4_findLeastSums at hE
  revert hM
  suffices hH : ∀ H : Heap, MM D y nn ad (mA y nn ad I J A B G s.heap.size) s.heap I J (va_up A 29 (A 29)) B G H locs → W p l e ({ frames := 5, cells := 0, slots := 0, locals := 109 } : Room) s m ([.ref (ad 5)] : List Value).toArray below meth c H locs 0 0 (MQ below (mQv D y nn ad (mA y nn ad I J A B G s.heap.size) (I, J, (va_up A 29 out), B, G)) ([.ref (ad 5)] : List Value).toArray s 0 0 (mA y nn ad I J A B G s.heap.size)) (F0 m 0 ls []) from hH s.heap
  intro H hM
  refine lv_aload_n hx hb dX4_findLeastSums_0 rfl (lv_at hl 0 rfl) ?_
  refine m_get F hM 5 mg_5 rfl 4 (by decide) (by decide +kernel) (by decide +kernel) (v := .ref (ad 29)) rfl dX4_findLeastSums_1 ?_
  refine lv_iconst (v := 0) hx hb dX4_findLeastSums_4 (by decide) ?_
  refine lv_iconst (v := 0) hx hb dX4_findLeastSums_5 (by decide) ?_
  obtain ⟨hi6_0, hE⟩ := ck_some hE
  obtain ⟨w6_1, ew6_1, hE⟩ := nmd_some hE
  refine m_iast (f := (A 29)) (A' := (va_up A 29 w6_1)) F hM mg_29 ms_29 (by rw [ew6_1]; exact (bx_uu _ _ _ _)) hi6_0 dX4_findLeastSums_6 (fun H locs hM => ?_)
  refine lv_iconst (v := 1) hx hb dX4_findLeastSums_7 (by decide) ?_
  refine lv_istore_n (lv' := [(1, .int (1 : Int32)), (0, .ref (ad 5))]) hx hb dX4_findLeastSums_8 rfl hl (by decide) rfl (fun ls hl => ?_)
  exact k_X4_findLeastSums_9 F hr (N := N)  N (1 : Int32) w6_1 ls H locs hE hM (lv_sub hl [1, 0] rfl)
/-! ===== X4_keepPairs: reads I2 A28 A29 G3, writes I3 A30, frames 5, locals 109 ===== -/
def f_X4_keepPairs_12 (N : Nat) (nn : Nat) (i2 : Int32) (a28 : Nat → Int32) (a29 : Nat → Int32) (g3 : Nat → Nat → Int32)  (nx12 : Int32 → Int32 → Int32 → (Nat → Int32) → Option (Int32 × (Nat → Int32))) (x1 : Int32) (x2 : Int32) (i3' : Int32) (a30' : Nat → Int32) : Option (Int32 × (Nat → Int32)) :=
(if i2 ≤ (x2 + (1 : Int32)) then
some (i3', a30')
else
bd (f_X4_firstOf x1) fun o23_1 =>
bd (f_X4_bestPartner N nn i2 a28 a29 g3 x1) fun o29_2 =>
(if i2 ≤ o23_1 then
some (i3', a30')
else
(if o29_2 = (-1 : Int32) then
some (i3', a30')
else
ck o23_1 nn (
ck x2 nn (
nmd (upd a30' x2.toNatClampNeg (a28 o23_1.toNatClampNeg)) fun w62_5 =>
ck o29_2 nn (
ck (x2 + (1 : Int32)) nn (
nmd (upd w62_5 (x2 + (1 : Int32)).toNatClampNeg (a28 o29_2.toNatClampNeg)) fun w77_8 =>
bd (f_X4_without x1 o29_2) fun o91_9 =>
nx12 o91_9 (x2 + (2 : Int32)) (i3' + (1 : Int32)) w77_8)))))))
def f_X4_keepPairs (N : Nat) (nn : Nat) (i2 : Int32) (a28 : Nat → Int32) (a29 : Nat → Int32) (g3 : Nat → Nat → Int32) (i3 : Int32) (a30 : Nat → Int32)  : Option (Int32 × (Nat → Int32)) :=
bd (f_X4_everyOdd i2) fun o6_0 =>
lq4 (f_X4_keepPairs_12 N nn i2 a28 a29 g3 ) N o6_0 (0 : Int32) (0 : Int32) a30
set_option maxHeartbeats 4000000 in
set_option maxRecDepth 100000 in
theorem s_X4_keepPairs_12 {p : Program} {l : Launch} {e : Env} {s : State} {m : MethodId} {args : Array Value} {below : List Frame} {meth : Method} {c : Code} {D : va_G} {y : Nat → ClassId} {nn : Nat} {ad : Nat → Nat} {A0 : Nat → Prop} {I : Nat → Int32} {J : Nat → Int64} {A : Nat → Nat → Int32} {B : Nat → Nat → Int64} {G : Nat → Nat → Nat → Int32} (F : Fx p s m args meth c cX4_keepPairs 5 wsX4_keepPairs RX4 D y A0) (hr : meth.sig.returnType = none) {out : Int32 × (Nat → Int32)} {N : Nat}  (nx12 : Int32 → Int32 → Int32 → (Nat → Int32) → Option (Int32 × (Nat → Int32))) (hn12 : ∀ (x1 : Int32) (x2 : Int32) (i3' : Int32) (a30' : Nat → Int32) (ls : Array Slot) (H : Heap) (locs : List Loc), nx12 x1 x2 i3' a30' = some out → MM D y nn ad A0 s.heap (va_up I 3 i3') J (va_up A 30 a30') B G H locs → lv_has ls 5 [(0, .ref (ad 5)), (1, .int x1), (2, .int x2)] → W p l e ({ frames := 5, cells := 0, slots := 0, locals := 109 } : Room) s m args below meth c H locs 0 0 (MQ below (mQv D y nn ad A0 ((va_up I 3 out.1), J, (va_up A 30 out.2), B, G)) args s 0 0 A0) (F0 m 12 ls [])) : ∀ (x1 : Int32) (x2 : Int32) (i3' : Int32) (a30' : Nat → Int32) (ls : Array Slot) (H : Heap) (locs : List Loc), f_X4_keepPairs_12 N nn (I 2) (A 28) (A 29) (G 3)  nx12 x1 x2 i3' a30' = some out → MM D y nn ad A0 s.heap (va_up I 3 i3') J (va_up A 30 a30') B G H locs → lv_has ls 5 [(0, .ref (ad 5)), (1, .int x1), (2, .int x2)] → W p l e ({ frames := 5, cells := 0, slots := 0, locals := 109 } : Room) s m args below meth c H locs 0 0 (MQ below (mQv D y nn ad A0 ((va_up I 3 out.1), J, (va_up A 30 out.2), B, G)) args s 0 0 A0) (F0 m 12 ls []) := by
  intro x1 x2 i3' a30' ls H locs hE hM hl
  have hx := F.1.1
  have hb := F.1.2.1
  unfold f_X4_keepPairs_12 at hE
  refine lv_iload_n hx hb dX4_keepPairs_12 rfl (lv_at hl 2 rfl) ?_
  refine lv_iconst (v := 1) hx hb dX4_keepPairs_13 (by decide) ?_
  refine lv_iadd hx hb dX4_keepPairs_14 ?_
  refine lv_aload_n hx hb dX4_keepPairs_15 rfl (lv_at hl 0 rfl) ?_
  refine m_get F hM 5 mg_5 rfl 3 (by decide) (by decide +kernel) (by decide +kernel) (v := .int (I 2)) rfl dX4_keepPairs_16 ?_
  refine lv_icmp_ge (tgt := 101) hx hb dX4_keepPairs_19 (by decide) (fun c19 => ?_) (fun c19 => ?_)
  · replace hE := (if_pos c19).symm.trans hE
    obtain rfl := Option.some.inj hE
    exact m_vret F hM hr rfl dX4_keepPairs_101
  · replace hE := (if_neg c19).symm.trans hE
    refine lv_iload_n hx hb dX4_keepPairs_22 rfl (lv_at hl 1 rfl) ?_
    obtain ⟨o23_1, ho23_1, hE⟩ := bd_some hE
    refine m_callSi (As := [.int x1]) (I2 := (va_up I 3 i3')) (J2 := J) (A2 := (va_up A 30 a30')) (B2 := B) (G2 := G) F hM (c_X4_firstOf l D y nn ad H.size (va_up I 3 i3') J (va_up A 30 a30') B G x1  o23_1 ho23_1) (va_cwS 1 F.1.2.2.2.2 gX4_keepPairs_X4_firstOf rfl rfl rfl (by decide +kernel) ⟨Nat.le_of_ble_eq_true rfl, Nat.le_of_ble_eq_true rfl⟩) rfl hl.1 (Nat.le_of_ble_eq_true rfl) dX4_keepPairs_23 ⟨Nat.le_refl 0, Nat.le_refl 0⟩ rfl rfl rfl rfl rfl (fun H locs hM => ?_)
    refine lv_istore_n (lv' := [(3, .int o23_1), (0, .ref (ad 5)), (1, .int x1), (2, .int x2)]) hx hb dX4_keepPairs_26 rfl hl (by decide) rfl (fun ls hl => ?_)
    refine lv_aload_n hx hb dX4_keepPairs_27 rfl (lv_at hl 1 rfl) ?_
    refine lv_iload_n hx hb dX4_keepPairs_28 rfl (lv_at hl 2 rfl) ?_
    obtain ⟨o29_2, ho29_2, hE⟩ := bd_some hE
    refine m_callVi (As := [.int x1]) (I2 := (va_up I 3 i3')) (J2 := J) (A2 := (va_up A 30 a30')) (B2 := B) (G2 := G) F hM (c_X4_bestPartner l D y nn ad H.size (va_up I 3 i3') J (va_up A 30 a30') B G x1 N o29_2 ho29_2) (cwV 1 F.1.2.2.2.2 gX4_keepPairs_X4_bestPartner rfl rfl rfl (by decide +kernel) ⟨Nat.le_of_ble_eq_true rfl, Nat.le_of_ble_eq_true rfl⟩) (m_recv F hM mg_5 rfl) rfl hl.1 (Nat.le_of_ble_eq_true rfl) dX4_keepPairs_29 ⟨Nat.le_refl 0, Nat.le_refl 0⟩ rfl rfl rfl rfl rfl (fun H locs hM => ?_)
    refine lv_istore (lv' := [(4, .int o29_2), (3, .int o23_1), (0, .ref (ad 5)), (1, .int x1), (2, .int x2)]) hx hb dX4_keepPairs_32 hl (by decide) rfl (fun ls hl => ?_)
    refine lv_iload_n hx hb dX4_keepPairs_34 rfl (lv_at hl 1 rfl) ?_
    refine lv_aload_n hx hb dX4_keepPairs_35 rfl (lv_at hl 2 rfl) ?_
    refine m_get F hM 5 mg_5 rfl 3 (by decide) (by decide +kernel) (by decide +kernel) (v := .int (I 2)) rfl dX4_keepPairs_36 ?_
    refine lv_icmp_ge (tgt := 101) hx hb dX4_keepPairs_39 (by decide) (fun c39 => ?_) (fun c39 => ?_)
    · replace hE := (if_pos c39).symm.trans hE
      obtain rfl := Option.some.inj hE
      exact m_vret F hM hr rfl dX4_keepPairs_101
    · replace hE := (if_neg c39).symm.trans hE
      refine lv_iload hx hb dX4_keepPairs_42 (lv_at hl 0 rfl) ?_
      refine lv_iconst (v := (-1)) hx hb dX4_keepPairs_44 (by decide) ?_
      refine lv_icmp_ne (tgt := 51) hx hb dX4_keepPairs_45 (by decide) (fun c45 => ?_) (fun c45 => ?_)
      · replace hE := (if_neg c45).symm.trans hE
        refine lv_aload_n hx hb dX4_keepPairs_51 rfl (lv_at hl 2 rfl) ?_
        refine m_get F hM 5 mg_5 rfl 5 (by decide) (by decide +kernel) (by decide +kernel) (v := .ref (ad 30)) rfl dX4_keepPairs_52 ?_
        refine lv_iload_n hx hb dX4_keepPairs_55 rfl (lv_at hl 4 rfl) ?_
        refine lv_aload_n hx hb dX4_keepPairs_56 rfl (lv_at hl 2 rfl) ?_
        refine m_get F hM 5 mg_5 rfl 2 (by decide) (by decide +kernel) (by decide +kernel) (v := .ref (ad 28)) rfl dX4_keepPairs_57 ?_
        refine lv_iload_n hx hb dX4_keepPairs_60 rfl (lv_at hl 1 rfl) ?_
        obtain ⟨hi61_3, hE⟩ := ck_some hE
        refine m_iald (g := (A 28)) F hM mg_28 rfl hi61_3 dX4_keepPairs_61 ?_
        obtain ⟨hi62_4, hE⟩ := ck_some hE
        obtain ⟨w62_5, ew62_5, hE⟩ := nmd_some hE
        refine m_iast (f := a30') (A' := (va_up A 30 w62_5)) F hM mg_30 ms_30 (by rw [ew62_5]; exact (bx_uu _ _ _ _)) hi62_4 dX4_keepPairs_62 (fun H locs hM => ?_)
        refine lv_aload_n hx hb dX4_keepPairs_63 rfl (lv_at hl 2 rfl) ?_
        refine m_get F hM 5 mg_5 rfl 5 (by decide) (by decide +kernel) (by decide +kernel) (v := .ref (ad 30)) rfl dX4_keepPairs_64 ?_
        refine lv_iload_n hx hb dX4_keepPairs_67 rfl (lv_at hl 4 rfl) ?_
        refine lv_iconst (v := 1) hx hb dX4_keepPairs_68 (by decide) ?_
        refine lv_iadd hx hb dX4_keepPairs_69 ?_
        refine lv_aload_n hx hb dX4_keepPairs_70 rfl (lv_at hl 2 rfl) ?_
        refine m_get F hM 5 mg_5 rfl 2 (by decide) (by decide +kernel) (by decide +kernel) (v := .ref (ad 28)) rfl dX4_keepPairs_71 ?_
        refine lv_iload hx hb dX4_keepPairs_74 (lv_at hl 0 rfl) ?_
        obtain ⟨hi76_6, hE⟩ := ck_some hE
        refine m_iald (g := (A 28)) F hM mg_28 rfl hi76_6 dX4_keepPairs_76 ?_
        obtain ⟨hi77_7, hE⟩ := ck_some hE
        obtain ⟨w77_8, ew77_8, hE⟩ := nmd_some hE
        refine m_iast (f := w62_5) (A' := (va_up A 30 w77_8)) F hM mg_30 ms_30 (by rw [ew77_8]; exact (bx_uu _ _ _ _)) hi77_7 dX4_keepPairs_77 (fun H locs hM => ?_)
        refine lv_aload_n hx hb dX4_keepPairs_78 rfl (lv_at hl 2 rfl) ?_
        refine lv_dup hx hb dX4_keepPairs_79 rfl ?_
        refine m_get F hM 5 mg_5 rfl 6 (by decide) (by decide +kernel) (by decide +kernel) (v := .int i3') rfl dX4_keepPairs_80 ?_
        refine lv_iconst (v := 1) hx hb dX4_keepPairs_83 (by decide) ?_
        refine lv_iadd hx hb dX4_keepPairs_84 ?_
        refine m_put F hM 5 mg_5 rfl tyX4 tyX4_ok nmX4 6 (by decide) (by decide +kernel) (by decide +kernel) rfl (ty := .int) (v := .int (i3' + (1 : Int32))) (by decide +kernel) rfl rfl (Nat.le_of_ble_eq_true rfl) (ms_5_6 _) (bx_uu _ _ _ _)  rfl dX4_keepPairs_85 (fun H locs hM => ?_)
        refine lv_iload_n hx hb dX4_keepPairs_88 rfl (lv_at hl 3 rfl) ?_
        refine lv_iload hx hb dX4_keepPairs_89 (lv_at hl 0 rfl) ?_
        obtain ⟨o91_9, ho91_9, hE⟩ := bd_some hE
        refine m_callSi (As := [.int x1, .int o29_2]) (I2 := (va_up I 3 (i3' + (1 : Int32)))) (J2 := J) (A2 := (va_up A 30 w77_8)) (B2 := B) (G2 := G) F hM (c_X4_without l D y nn ad H.size (va_up I 3 (i3' + (1 : Int32))) J (va_up A 30 w77_8) B G x1 o29_2  o91_9 ho91_9) (va_cwS 2 F.1.2.2.2.2 gX4_keepPairs_X4_without rfl rfl rfl (by decide +kernel) ⟨Nat.le_of_ble_eq_true rfl, Nat.le_of_ble_eq_true rfl⟩) rfl hl.1 (Nat.le_of_ble_eq_true rfl) dX4_keepPairs_91 ⟨Nat.le_refl 0, Nat.le_refl 0⟩ rfl rfl rfl rfl rfl (fun H locs hM => ?_)
        refine lv_istore_n (lv' := [(1, .int o91_9), (4, .int o29_2), (3, .int o23_1), (0, .ref (ad 5)), (2, .int x2)]) hx hb dX4_keepPairs_94 rfl hl (by decide) rfl (fun ls hl => ?_)
        refine lv_iinc (v := x2 + (2 : Int32)) (lv' := [(2, .int (x2 + (2 : Int32))), (1, .int o91_9), (4, .int o29_2), (3, .int o23_1), (0, .ref (ad 5))]) hx hb dX4_keepPairs_95 hl (k := 4) rfl rfl (by decide) rfl (fun ls hl => ?_)
        refine lv_goto (tgt := 12) hx hb dX4_keepPairs_98 (by decide) ?_
        exact hn12 o91_9 (x2 + (2 : Int32)) (i3' + (1 : Int32)) w77_8 ls H locs hE hM (lv_sub hl [4, 1, 0] rfl)
      · replace hE := (if_pos c45).symm.trans hE
        refine lv_goto (tgt := 101) hx hb dX4_keepPairs_48 (by decide) ?_
        obtain rfl := Option.some.inj hE
        exact m_vret F hM hr rfl dX4_keepPairs_101
theorem k_X4_keepPairs_12 {p : Program} {l : Launch} {e : Env} {s : State} {m : MethodId} {args : Array Value} {below : List Frame} {meth : Method} {c : Code} {D : va_G} {y : Nat → ClassId} {nn : Nat} {ad : Nat → Nat} {A0 : Nat → Prop} {I : Nat → Int32} {J : Nat → Int64} {A : Nat → Nat → Int32} {B : Nat → Nat → Int64} {G : Nat → Nat → Nat → Int32} (F : Fx p s m args meth c cX4_keepPairs 5 wsX4_keepPairs RX4 D y A0) (hr : meth.sig.returnType = none) {out : Int32 × (Nat → Int32)} {N : Nat}  : ∀ (n : Nat), ∀ (x1 : Int32) (x2 : Int32) (i3' : Int32) (a30' : Nat → Int32) (ls : Array Slot) (H : Heap) (locs : List Loc), lq4 (f_X4_keepPairs_12 N nn (I 2) (A 28) (A 29) (G 3) ) n x1 x2 i3' a30' = some out → MM D y nn ad A0 s.heap (va_up I 3 i3') J (va_up A 30 a30') B G H locs → lv_has ls 5 [(0, .ref (ad 5)), (1, .int x1), (2, .int x2)] → W p l e ({ frames := 5, cells := 0, slots := 0, locals := 109 } : Room) s m args below meth c H locs 0 0 (MQ below (mQv D y nn ad A0 ((va_up I 3 out.1), J, (va_up A 30 out.2), B, G)) args s 0 0 A0) (F0 m 12 ls []) := by
  intro n
  induction n with
  | zero =>
    intro x1 x2 i3' a30' ls H locs hE
    cases (show (none : Option _) = some out from hE)
  | succ n ih =>
    intro x1 x2 i3' a30' ls H locs hE hM hl
    exact s_X4_keepPairs_12 F hr (N := N)  (lq4 (f_X4_keepPairs_12 N nn (I 2) (A 28) (A 29) (G 3) ) n) ih x1 x2 i3' a30' ls H locs hE hM hl
set_option maxHeartbeats 4000000 in
set_option maxRecDepth 100000 in
theorem c_X4_keepPairs (l : Launch) (D : va_G) (y : Nat → ClassId) (nn : Nat) (ad : Nat → Nat) (sz : Nat) (I : Nat → Int32) (J : Nat → Int64) (A : Nat → Nat → Int32) (B : Nat → Nat → Int64) (G : Nat → Nat → Nat → Int32)  (N : Nat) (out : Int32 × (Nat → Int32)) (hE : f_X4_keepPairs N nn (I 2) (A 28) (A 29) (G 3) (I 3) (A 30)  = some out) : Met l yX4_keepPairs wsX4_keepPairs ({ frames := 5, cells := 0, slots := 0, locals := 109 } : Room) (mPc [.ref (ad 5)] D y nn ad sz I J A B G) (mQv D y nn ad (mA y nn ad I J A B G sz) ((va_up I 3 out.1), J, (va_up A 30 out.2), B, G)) 0 0 (mA y nn ad I J A B G sz) := by
  refine Met.ofW (cc := cX4_keepPairs) (maxL := 5) (ret := none) (by decide) rfl ?_
  intro p e s m args below meth c s₁ Bd hml hv
  obtain ⟨rfl, hsz, hP, hK, hD0, hN⟩ := hv
  have hr := Bd.returns
  subst hsz
  have F : Fx p s m ([.ref (ad 5)] : List Value).toArray meth c cX4_keepPairs 5 wsX4_keepPairs RX4 D y (mA y nn ad I J A B G s.heap.size) := ⟨⟨Bd.exec, Bd.bytes, hml, findClass_of_methodNamed Bd.named, atoms_spec (ws := wsX4_keepPairs) Bd.pre⟩, hK, hN, fun q h => Or.inr h, Bd.notSynchronized⟩
  have hM := m_start (s := s) rfl hP hD0
  have hM := m_mem (I2 := (va_up I 3 (I 3))) (J2 := J) (A2 := (va_up A 30 (A 30))) (B2 := B) (G2 := G) hM (by simp only [up_id]) (by rfl) (by simp only [up_id]) (by rfl) (by rfl)
  have hx := F.1.1
  have hb := F.1.2.1
  have hl := lv_entry ([.ref (ad 5)]) (n := 5) (Nat.le_of_ble_eq_true rfl)
  rw [lg_entry_eq]
  generalize (lg_sl ([.ref (ad 5)]) ++ List.replicate (5 - (lg_sl ([.ref (ad 5)])).length) Slot.unset).toArray = ls at hl ⊢
  have hl : lv_has ls 5 [(0, .ref (ad 5))] := hl
  show W p l e ({ frames := 5, cells := 0, slots := 0, locals := 109 } : Room) s m _ below meth c s.heap [] 0 0 _ _
  obtain ⟨locs, hlo⟩ : ∃ locs : List Loc, locs = [] := ⟨_, rfl⟩
  rw [← hlo]; rw [← hlo] at hM
  unfold f_X4_keepPairs at hE
  revert hM
  suffices hH : ∀ H : Heap, MM D y nn ad (mA y nn ad I J A B G s.heap.size) s.heap (va_up I 3 (I 3)) J (va_up A 30 (A 30)) B G H locs → W p l e ({ frames := 5, cells := 0, slots := 0, locals := 109 } : Room) s m ([.ref (ad 5)] : List Value).toArray below meth c H locs 0 0 (MQ below (mQv D y nn ad (mA y nn ad I J A B G s.heap.size) ((va_up I 3 out.1), J, (va_up A 30 out.2), B, G)) ([.ref (ad 5)] : List Value).toArray s 0 0 (mA y nn ad I J A B G s.heap.size)) (F0 m 0 ls []) from hH s.heap
  intro H hM
  refine lv_aload_n hx hb dX4_keepPairs_0 rfl (lv_at hl 0 rfl) ?_
  refine lv_iconst (v := 0) hx hb dX4_keepPairs_1 (by decide) ?_
  refine m_put F hM 5 mg_5 rfl tyX4 tyX4_ok nmX4 6 (by decide) (by decide +kernel) (by decide +kernel) rfl (ty := .int) (v := .int (0 : Int32)) (by decide +kernel) rfl rfl (Nat.le_of_ble_eq_true rfl) (ms_5_6 _) (bx_uu _ _ _ _)  rfl dX4_keepPairs_2 (fun H locs hM => ?_)
  refine lv_aload_n hx hb dX4_keepPairs_5 rfl (lv_at hl 0 rfl) ?_
  obtain ⟨o6_0, ho6_0, hE⟩ := bd_some hE
  refine m_callVi (As := []) (I2 := (va_up I 3 (0 : Int32))) (J2 := J) (A2 := (va_up A 30 (A 30))) (B2 := B) (G2 := G) F hM (c_X4_everyOdd l D y nn ad H.size (va_up I 3 (0 : Int32)) J (va_up A 30 (A 30)) B G   o6_0 ho6_0) (cwV 0 F.1.2.2.2.2 gX4_keepPairs_X4_everyOdd rfl rfl rfl (by decide +kernel) ⟨Nat.le_of_ble_eq_true rfl, Nat.le_of_ble_eq_true rfl⟩) (m_recv F hM mg_5 rfl) rfl hl.1 (Nat.le_of_ble_eq_true rfl) dX4_keepPairs_6 ⟨Nat.le_refl 0, Nat.le_refl 0⟩ rfl rfl rfl rfl rfl (fun H locs hM => ?_)
  refine lv_istore_n (lv' := [(1, .int o6_0), (0, .ref (ad 5))]) hx hb dX4_keepPairs_9 rfl hl (by decide) rfl (fun ls hl => ?_)
  refine lv_iconst (v := 0) hx hb dX4_keepPairs_10 (by decide) ?_
  refine lv_istore_n (lv' := [(2, .int (0 : Int32)), (1, .int o6_0), (0, .ref (ad 5))]) hx hb dX4_keepPairs_11 rfl hl (by decide) rfl (fun ls hl => ?_)
  exact k_X4_keepPairs_12 F hr (N := N)  N o6_0 (0 : Int32) (0 : Int32) (A 30) ls H locs hE hM (lv_sub hl [2, 1, 0] rfl)
/-! ===== X4_leastWay: reads I0 G1, writes I2 I3 A28 A29 A30 G3, frames 6, locals 133 ===== -/
def f_X4_leastWay (N : Nat) (nn : Nat) (i0 : Int32) (g1 : Nat → Nat → Int32) (i2 : Int32) (i3 : Int32) (a28 : Nat → Int32) (a29 : Nat → Int32) (a30 : Nat → Int32) (g3 : Nat → Nat → Int32)  : Option (Int64 × Int32 × Int32 × (Nat → Int32) × (Nat → Int32) × (Nat → Int32) × (Nat → Nat → Int32)) :=
bd (f_X3_streetsHangTogether N nn i0 g1) fun o4_0 =>
(if o4_0 = (0 : Int32) then
some ((-1 : Int64), i2, i3, a28, a29, a30, g3)
else
bd (f_X4_sumOfStreets N nn i0 g1) fun o15_1 =>
bd (f_X4_findOddPlaces N nn i0 g1 i2 a28) fun o20_2 =>
bd (f_X4_findShortest N nn i0 g1 g3) fun o24_3 =>
bd (f_X4_findLeastSums N nn o20_2.1 o20_2.2 o24_3 a29) fun o28_4 =>
bd (f_X4_keepPairs N nn o20_2.1 o20_2.2 o28_4 o24_3 i3 a30) fun o32_5 =>
bd (f_X4_everyOdd o20_2.1) fun o41_6 =>
ck (o41_6 >>> ((1 : Int32) &&& 31)) (2 ^ (nn - 1)) (
some ((o15_1 + ((o28_4 (o41_6 >>> ((1 : Int32) &&& 31)).toNatClampNeg).toInt64)), o20_2.1, o32_5.1, o20_2.2, o28_4, o32_5.2, o24_3)))
set_option maxHeartbeats 4000000 in
set_option maxRecDepth 100000 in
theorem c_X4_leastWay (l : Launch) (D : va_G) (y : Nat → ClassId) (nn : Nat) (ad : Nat → Nat) (sz : Nat) (I : Nat → Int32) (J : Nat → Int64) (A : Nat → Nat → Int32) (B : Nat → Nat → Int64) (G : Nat → Nat → Nat → Int32)  (N : Nat) (out : Int64 × Int32 × Int32 × (Nat → Int32) × (Nat → Int32) × (Nat → Int32) × (Nat → Nat → Int32)) (hE : f_X4_leastWay N nn (I 0) (G 1) (I 2) (I 3) (A 28) (A 29) (A 30) (G 3)  = some out) : Met l yX4_leastWay wsX4_leastWay ({ frames := 6, cells := 0, slots := 0, locals := 133 } : Room) (mPc [.ref (ad 5)] D y nn ad sz I J A B G) (mQl D y nn ad (mA y nn ad I J A B G sz) out.1 ((va_up (va_up I 2 out.2.1) 3 out.2.2.1), J, (va_up (va_up (va_up A 28 out.2.2.2.1) 29 out.2.2.2.2.1) 30 out.2.2.2.2.2.1), B, (va_up G 3 out.2.2.2.2.2.2))) 0 0 (mA y nn ad I J A B G sz) := by
  refine Met.ofW (cc := cX4_leastWay) (maxL := 3) (ret := (some .long)) (by decide) rfl ?_
  intro p e s m args below meth c s₁ Bd hml hv
  obtain ⟨rfl, hsz, hP, hK, hD0, hN⟩ := hv
  have hr := Bd.returns
  subst hsz
  have F : Fx p s m ([.ref (ad 5)] : List Value).toArray meth c cX4_leastWay 3 wsX4_leastWay RX4 D y (mA y nn ad I J A B G s.heap.size) := ⟨⟨Bd.exec, Bd.bytes, hml, findClass_of_methodNamed Bd.named, atoms_spec (ws := wsX4_leastWay) Bd.pre⟩, hK, hN, fun q h => Or.inr h, Bd.notSynchronized⟩
  have hM := m_start (s := s) rfl hP hD0
  have hM := m_mem (I2 := (va_up (va_up I 2 (I 2)) 3 (I 3))) (J2 := J) (A2 := (va_up (va_up (va_up A 28 (A 28)) 29 (A 29)) 30 (A 30))) (B2 := B) (G2 := (va_up G 3 (G 3))) hM (by simp only [up_id]) (by rfl) (by simp only [up_id]) (by rfl) (by simp only [up_id])
  have hx := F.1.1
  have hb := F.1.2.1
  have hl := lv_entry ([.ref (ad 5)]) (n := 3) (Nat.le_of_ble_eq_true rfl)
  rw [lg_entry_eq]
  generalize (lg_sl ([.ref (ad 5)]) ++ List.replicate (3 - (lg_sl ([.ref (ad 5)])).length) Slot.unset).toArray = ls at hl ⊢
  have hl : lv_has ls 3 [(0, .ref (ad 5))] := hl
  show W p l e ({ frames := 6, cells := 0, slots := 0, locals := 133 } : Room) s m _ below meth c s.heap [] 0 0 _ _
  obtain ⟨locs, hlo⟩ : ∃ locs : List Loc, locs = [] := ⟨_, rfl⟩
  rw [← hlo]; rw [← hlo] at hM
  unfold f_X4_leastWay at hE
  revert hM
  suffices hH : ∀ H : Heap, MM D y nn ad (mA y nn ad I J A B G s.heap.size) s.heap (va_up (va_up I 2 (I 2)) 3 (I 3)) J (va_up (va_up (va_up A 28 (A 28)) 29 (A 29)) 30 (A 30)) B (va_up G 3 (G 3)) H locs → W p l e ({ frames := 6, cells := 0, slots := 0, locals := 133 } : Room) s m ([.ref (ad 5)] : List Value).toArray below meth c H locs 0 0 (MQ below (mQl D y nn ad (mA y nn ad I J A B G s.heap.size) out.1 ((va_up (va_up I 2 out.2.1) 3 out.2.2.1), J, (va_up (va_up (va_up A 28 out.2.2.2.1) 29 out.2.2.2.2.1) 30 out.2.2.2.2.2.1), B, (va_up G 3 out.2.2.2.2.2.2))) ([.ref (ad 5)] : List Value).toArray s 0 0 (mA y nn ad I J A B G s.heap.size)) (F0 m 0 ls []) from hH s.heap
  intro H hM
  refine lv_aload_n hx hb dX4_leastWay_0 rfl (lv_at hl 0 rfl) ?_
  refine m_get F hM 5 mg_5 rfl 0 (by decide) (by decide +kernel) (by decide +kernel) (v := .ref (ad 1)) rfl dX4_leastWay_1 ?_
  obtain ⟨o4_0, ho4_0, hE⟩ := bd_some hE
  refine m_callVi (As := []) (I2 := (va_up (va_up I 2 (I 2)) 3 (I 3))) (J2 := J) (A2 := (va_up (va_up (va_up A 28 (A 28)) 29 (A 29)) 30 (A 30))) (B2 := B) (G2 := (va_up G 3 (G 3))) F hM (c_X3_streetsHangTogether l D y nn ad H.size (va_up (va_up I 2 (I 2)) 3 (I 3)) J (va_up (va_up (va_up A 28 (A 28)) 29 (A 29)) 30 (A 30)) B (va_up G 3 (G 3))  N o4_0 ho4_0) (cwV 0 F.1.2.2.2.2 gX4_leastWay_X3_streetsHangTogether rfl rfl rfl (by decide +kernel) ⟨Nat.le_of_ble_eq_true rfl, Nat.le_of_ble_eq_true rfl⟩) (m_recv F hM mg_1 rfl) rfl hl.1 (Nat.le_of_ble_eq_true rfl) dX4_leastWay_4 ⟨Nat.le_refl 0, Nat.le_refl 0⟩ rfl rfl rfl rfl rfl (fun H locs hM => ?_)
  refine lv_if_ne (tgt := 14) hx hb dX4_leastWay_7 (by decide) (fun c7 => ?_) (fun c7 => ?_)
  · replace hE := (if_neg c7).symm.trans hE
    refine lv_aload_n hx hb dX4_leastWay_14 rfl (lv_at hl 0 rfl) ?_
    obtain ⟨o15_1, ho15_1, hE⟩ := bd_some hE
    refine m_callVl (As := []) (I2 := (va_up (va_up I 2 (I 2)) 3 (I 3))) (J2 := J) (A2 := (va_up (va_up (va_up A 28 (A 28)) 29 (A 29)) 30 (A 30))) (B2 := B) (G2 := (va_up G 3 (G 3))) F hM (c_X4_sumOfStreets l D y nn ad H.size (va_up (va_up I 2 (I 2)) 3 (I 3)) J (va_up (va_up (va_up A 28 (A 28)) 29 (A 29)) 30 (A 30)) B (va_up G 3 (G 3))  N o15_1 ho15_1) (cwV 0 F.1.2.2.2.2 gX4_leastWay_X4_sumOfStreets rfl rfl rfl (by decide +kernel) ⟨Nat.le_of_ble_eq_true rfl, Nat.le_of_ble_eq_true rfl⟩) (m_recv F hM mg_5 rfl) rfl hl.1 (Nat.le_of_ble_eq_true rfl) dX4_leastWay_15 ⟨Nat.le_refl 0, Nat.le_refl 0⟩ rfl rfl rfl rfl rfl (fun H locs hM => ?_)
    refine lv_lstore_n (lv' := [(1, .long o15_1), (0, .ref (ad 5))]) hx hb dX4_leastWay_18 rfl hl (by decide) rfl (fun ls hl => ?_)
    refine lv_aload_n hx hb dX4_leastWay_19 rfl (lv_at hl 1 rfl) ?_
    obtain ⟨o20_2, ho20_2, hE⟩ := bd_some hE
    refine m_callVv (As := []) (I2 := (va_up (va_up I 2 o20_2.1) 3 (I 3))) (J2 := J) (A2 := (va_up (va_up (va_up A 28 o20_2.2) 29 (A 29)) 30 (A 30))) (B2 := B) (G2 := (va_up G 3 (G 3))) F hM (c_X4_findOddPlaces l D y nn ad H.size (va_up (va_up I 2 (I 2)) 3 (I 3)) J (va_up (va_up (va_up A 28 (A 28)) 29 (A 29)) 30 (A 30)) B (va_up G 3 (G 3))  N o20_2 ho20_2) (cwV 0 F.1.2.2.2.2 gX4_leastWay_X4_findOddPlaces rfl rfl rfl (by decide +kernel) ⟨Nat.le_of_ble_eq_true rfl, Nat.le_of_ble_eq_true rfl⟩) (m_recv F hM mg_5 rfl) rfl hl.1 (Nat.le_of_ble_eq_true rfl) dX4_leastWay_20 ⟨Nat.le_refl 0, Nat.le_refl 0⟩ un_2_3__2 rfl un_28_29_30__28 rfl rfl (fun H locs hM => ?_)
    refine lv_aload_n hx hb dX4_leastWay_23 rfl (lv_at hl 1 rfl) ?_
    obtain ⟨o24_3, ho24_3, hE⟩ := bd_some hE
    refine m_callVv (As := []) (I2 := (va_up (va_up I 2 o20_2.1) 3 (I 3))) (J2 := J) (A2 := (va_up (va_up (va_up A 28 o20_2.2) 29 (A 29)) 30 (A 30))) (B2 := B) (G2 := (va_up G 3 o24_3)) F hM (c_X4_findShortest l D y nn ad H.size (va_up (va_up I 2 o20_2.1) 3 (I 3)) J (va_up (va_up (va_up A 28 o20_2.2) 29 (A 29)) 30 (A 30)) B (va_up G 3 (G 3))  N o24_3 ho24_3) (cwV 0 F.1.2.2.2.2 gX4_leastWay_X4_findShortest rfl rfl rfl (by decide +kernel) ⟨Nat.le_of_ble_eq_true rfl, Nat.le_of_ble_eq_true rfl⟩) (m_recv F hM mg_5 rfl) rfl hl.1 (Nat.le_of_ble_eq_true rfl) dX4_leastWay_24 ⟨Nat.le_refl 0, Nat.le_refl 0⟩ rfl rfl rfl rfl (bx_uu _ _ _ _) (fun H locs hM => ?_)
    refine lv_aload_n hx hb dX4_leastWay_27 rfl (lv_at hl 1 rfl) ?_
    obtain ⟨o28_4, ho28_4, hE⟩ := bd_some hE
    refine m_callVv (As := []) (I2 := (va_up (va_up I 2 o20_2.1) 3 (I 3))) (J2 := J) (A2 := (va_up (va_up (va_up A 28 o20_2.2) 29 o28_4) 30 (A 30))) (B2 := B) (G2 := (va_up G 3 o24_3)) F hM (c_X4_findLeastSums l D y nn ad H.size (va_up (va_up I 2 o20_2.1) 3 (I 3)) J (va_up (va_up (va_up A 28 o20_2.2) 29 (A 29)) 30 (A 30)) B (va_up G 3 o24_3)  N o28_4 ho28_4) (cwV 0 F.1.2.2.2.2 gX4_leastWay_X4_findLeastSums rfl rfl rfl (by decide +kernel) ⟨Nat.le_of_ble_eq_true rfl, Nat.le_of_ble_eq_true rfl⟩) (m_recv F hM mg_5 rfl) rfl hl.1 (Nat.le_of_ble_eq_true rfl) dX4_leastWay_28 ⟨Nat.le_refl 0, Nat.le_refl 0⟩ rfl rfl un_28_29_30__29 rfl rfl (fun H locs hM => ?_)
    refine lv_aload_n hx hb dX4_leastWay_31 rfl (lv_at hl 1 rfl) ?_
    obtain ⟨o32_5, ho32_5, hE⟩ := bd_some hE
    refine m_callVv (As := []) (I2 := (va_up (va_up I 2 o20_2.1) 3 o32_5.1)) (J2 := J) (A2 := (va_up (va_up (va_up A 28 o20_2.2) 29 o28_4) 30 o32_5.2)) (B2 := B) (G2 := (va_up G 3 o24_3)) F hM (c_X4_keepPairs l D y nn ad H.size (va_up (va_up I 2 o20_2.1) 3 (I 3)) J (va_up (va_up (va_up A 28 o20_2.2) 29 o28_4) 30 (A 30)) B (va_up G 3 o24_3)  N o32_5 ho32_5) (cwV 0 F.1.2.2.2.2 gX4_leastWay_X4_keepPairs rfl rfl rfl (by decide +kernel) ⟨Nat.le_of_ble_eq_true rfl, Nat.le_of_ble_eq_true rfl⟩) (m_recv F hM mg_5 rfl) rfl hl.1 (Nat.le_of_ble_eq_true rfl) dX4_leastWay_32 ⟨Nat.le_refl 0, Nat.le_refl 0⟩ un_2_3__3 rfl un_28_29_30__30 rfl rfl (fun H locs hM => ?_)
    refine lv_lload_n hx hb dX4_leastWay_35 rfl (lv_at hl 0 rfl) ?_
    refine lv_aload_n hx hb dX4_leastWay_36 rfl (lv_at hl 1 rfl) ?_
    refine m_get F hM 5 mg_5 rfl 4 (by decide) (by decide +kernel) (by decide +kernel) (v := .ref (ad 29)) rfl dX4_leastWay_37 ?_
    refine lv_aload_n hx hb dX4_leastWay_40 rfl (lv_at hl 1 rfl) ?_
    obtain ⟨o41_6, ho41_6, hE⟩ := bd_some hE
    refine m_callVi (As := []) (I2 := (va_up (va_up I 2 o20_2.1) 3 o32_5.1)) (J2 := J) (A2 := (va_up (va_up (va_up A 28 o20_2.2) 29 o28_4) 30 o32_5.2)) (B2 := B) (G2 := (va_up G 3 o24_3)) F hM (c_X4_everyOdd l D y nn ad H.size (va_up (va_up I 2 o20_2.1) 3 o32_5.1) J (va_up (va_up (va_up A 28 o20_2.2) 29 o28_4) 30 o32_5.2) B (va_up G 3 o24_3)   o41_6 ho41_6) (cwV 0 F.1.2.2.2.2 gX4_leastWay_X4_everyOdd rfl rfl rfl (by decide +kernel) ⟨Nat.le_of_ble_eq_true rfl, Nat.le_of_ble_eq_true rfl⟩) (m_recv F hM mg_5 rfl) rfl hl.1 (Nat.le_of_ble_eq_true rfl) dX4_leastWay_41 ⟨Nat.le_refl 0, Nat.le_refl 0⟩ rfl rfl rfl rfl rfl (fun H locs hM => ?_)
    refine lv_iconst (v := 1) hx hb dX4_leastWay_44 (by decide) ?_
    refine lv_ishr hx hb dX4_leastWay_45 ?_
    obtain ⟨hi46_7, hE⟩ := ck_some hE
    refine m_iald (g := o28_4) F hM mg_29 rfl hi46_7 dX4_leastWay_46 ?_
    refine lv_i2l hx hb dX4_leastWay_47 rfl ?_
    refine lv_ladd hx hb dX4_leastWay_48 ?_
    obtain rfl := Option.some.inj hE
    exact m_lret F hM hr rfl rfl dX4_leastWay_49
  · replace hE := (if_pos c7).symm.trans hE
    refine lv_ldc2 (v := (-1)) hx hb F.1.2.2.2.1 (F.1.2.2.2.2 (.constantLong RX4 46 (-1)) (by decide +kernel)) dX4_leastWay_10 ?_
    obtain rfl := Option.some.inj hE
    exact m_lret F hM hr rfl rfl dX4_leastWay_13
