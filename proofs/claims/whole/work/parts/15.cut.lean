/-! ===== X1_findChain: reads I0 G2, writes A26 A27, frames 1, locals 23 ===== -/
def f_X1_findChain_45 (N : Nat) (nn : Nat) (i0 : Int32) (g2 : Nat → Nat → Int32) (nx27 : Int32 → Int32 → Int32 → (Nat → Int32) → (Nat → Int32) → Option (Int32 × (Nat → Int32) × (Nat → Int32))) (nx45 : Int32 → Int32 → Int32 → Int32 → Int32 → (Nat → Int32) → (Nat → Int32) → Option (Int32 × (Nat → Int32) × (Nat → Int32))) (x2 : Int32) (x3 : Int32) (x4 : Int32) (x5 : Int32) (x6 : Int32) (a26' : Nat → Int32) (a27' : Nat → Int32) : Option (Int32 × (Nat → Int32) × (Nat → Int32)) :=
(if i0 ≤ x6 then
nx27 x2 x3 (x4 + (1 : Int32)) a26' a27'
else
ck x6 nn (
(if (a27' x6.toNatClampNeg) = (-1 : Int32) then
ck x5 nn (
ck x6 nn (
(if (g2 x5.toNatClampNeg x6.toNatClampNeg) ≤ (0 : Int32) then
nx45 x2 x3 x4 x5 (x6 + (1 : Int32)) a26' a27'
else
(if i0 ≤ x3 then
nx45 x2 x3 x4 x5 (x6 + (1 : Int32)) a26' a27'
else
ck x6 nn (
nmd (upd a27' x6.toNatClampNeg x5) fun w100_12 =>
ck x3 nn (
nmd (upd a26' x3.toNatClampNeg x6) fun w108_14 =>
nx45 x2 (x3 + (1 : Int32)) x4 x5 (x6 + (1 : Int32)) w108_14 w100_12))))))
else
nx45 x2 x3 x4 x5 (x6 + (1 : Int32)) a26' a27')))
def f_X1_findChain_27 (N : Nat) (nn : Nat) (i0 : Int32) (g2 : Nat → Nat → Int32)  (nx27 : Int32 → Int32 → Int32 → (Nat → Int32) → (Nat → Int32) → Option (Int32 × (Nat → Int32) × (Nat → Int32))) (x2 : Int32) (x3 : Int32) (x4 : Int32) (a26' : Nat → Int32) (a27' : Nat → Int32) : Option (Int32 × (Nat → Int32) × (Nat → Int32)) :=
(if x3 ≤ x4 then
ck x2 nn (
(if (a27' x2.toNatClampNeg) = (-1 : Int32) then
bz (0 : Int32) (some ((0 : Int32), a26', a27'))
else
bz (1 : Int32) (some ((1 : Int32), a26', a27'))))
else
ck x4 nn (
lq7 (f_X1_findChain_45 N nn i0 g2 nx27) N x2 x3 x4 (a26' x4.toNatClampNeg) (0 : Int32) a26' a27'))
def f_X1_findChain (N : Nat) (nn : Nat) (i0 : Int32) (g2 : Nat → Nat → Int32) (a26 : Nat → Int32) (a27 : Nat → Int32) (p1 : Int32) (p2 : Int32) : Option (Int32 × (Nat → Int32) × (Nat → Int32)) :=
fck nn (
nmd (fil nn (-1 : Int32) a27) fun w5_0 =>
ck p1 nn (
nmd (upd w5_0 p1.toNatClampNeg p1) fun w14_3 =>
ck (0 : Int32) nn (
nmd (upd a26 (0 : Int32).toNatClampNeg p1) fun w21_5 =>
lq5 (f_X1_findChain_27 N nn i0 g2 ) N p2 (1 : Int32) (0 : Int32) w21_5 w14_3)))
set_option maxHeartbeats 4000000 in
set_option maxRecDepth 100000 in
theorem s_X1_findChain_45 {p : Program} {l : Launch} {e : Env} {s : State} {m : MethodId} {args : Array Value} {below : List Frame} {meth : Method} {c : Code} {D : va_G} {y : Nat → ClassId} {nn : Nat} {ad : Nat → Nat} {A0 : Nat → Prop} {I : Nat → Int32} {J : Nat → Int64} {A : Nat → Nat → Int32} {B : Nat → Nat → Int64} {G : Nat → Nat → Nat → Int32} (F : Fx p s m args meth c cX1_findChain 7 wsX1_findChain RX1 D y A0) (hr : meth.sig.returnType = (some .boolean)) {out : Int32 × (Nat → Int32) × (Nat → Int32)} {N : Nat} (nx27 : Int32 → Int32 → Int32 → (Nat → Int32) → (Nat → Int32) → Option (Int32 × (Nat → Int32) × (Nat → Int32))) (hn27 : ∀ (x2 : Int32) (x3 : Int32) (x4 : Int32) (a26' : Nat → Int32) (a27' : Nat → Int32) (ls : Array Slot) (H : Heap) (locs : List Loc), nx27 x2 x3 x4 a26' a27' = some out → MM D y nn ad A0 s.heap I J (va_up (va_up A 26 a26') 27 a27') B G H locs → lv_has ls 7 [(0, .ref (ad 4)), (2, .int x2), (3, .int x3), (4, .int x4)] → W p l e ({ frames := 1, cells := 0, slots := 0, locals := 23 } : Room) s m args below meth c H locs 0 0 (MQ below (mQi D y nn ad A0 out.1 (I, J, (va_up (va_up A 26 out.2.1) 27 out.2.2), B, G)) args s 0 0 A0) (F0 m 27 ls [])) (nx45 : Int32 → Int32 → Int32 → Int32 → Int32 → (Nat → Int32) → (Nat → Int32) → Option (Int32 × (Nat → Int32) × (Nat → Int32))) (hn45 : ∀ (x2 : Int32) (x3 : Int32) (x4 : Int32) (x5 : Int32) (x6 : Int32) (a26' : Nat → Int32) (a27' : Nat → Int32) (ls : Array Slot) (H : Heap) (locs : List Loc), nx45 x2 x3 x4 x5 x6 a26' a27' = some out → MM D y nn ad A0 s.heap I J (va_up (va_up A 26 a26') 27 a27') B G H locs → lv_has ls 7 [(0, .ref (ad 4)), (2, .int x2), (3, .int x3), (4, .int x4), (5, .int x5), (6, .int x6)] → W p l e ({ frames := 1, cells := 0, slots := 0, locals := 23 } : Room) s m args below meth c H locs 0 0 (MQ below (mQi D y nn ad A0 out.1 (I, J, (va_up (va_up A 26 out.2.1) 27 out.2.2), B, G)) args s 0 0 A0) (F0 m 45 ls [])) : ∀ (x2 : Int32) (x3 : Int32) (x4 : Int32) (x5 : Int32) (x6 : Int32) (a26' : Nat → Int32) (a27' : Nat → Int32) (ls : Array Slot) (H : Heap) (locs : List Loc), f_X1_findChain_45 N nn (I 0) (G 2) nx27 nx45 x2 x3 x4 x5 x6 a26' a27' = some out → MM D y nn ad A0 s.heap I J (va_up (va_up A 26 a26') 27 a27') B G H locs → lv_has ls 7 [(0, .ref (ad 4)), (2, .int x2), (3, .int x3), (4, .int x4), (5, .int x5), (6, .int x6)] → W p l e ({ frames := 1, cells := 0, slots := 0, locals := 23 } : Room) s m args below meth c H locs 0 0 (MQ below (mQi D y nn ad A0 out.1 (I, J, (va_up (va_up A 26 out.2.1) 27 out.2.2), B, G)) args s 0 0 A0) (F0 m 45 ls []) := by
  intro x2 x3 x4 x5 x6 a26' a27' ls H locs hE hM hl
  have hx := F.1.1
  have hb := F.1.2.1
  unfold f_X1_findChain_45 at hE
  refine lv_iload hx hb dX1_findChain_45 (lv_at hl 5 rfl) ?_
  refine lv_aload_n hx hb dX1_findChain_47 rfl (lv_at hl 0 rfl) ?_
  refine m_get F hM 4 mg_4 rfl 0 (by decide) (by decide +kernel) (by decide +kernel) (v := .ref (ad 1)) rfl dX1_findChain_48 ?_
  refine m_getN F hM 1 mg_1 rfl 0 (by decide) (by decide +kernel) (by decide +kernel) (v := .int (I 0)) rfl dX1_findChain_51 ?_
  refine lv_icmp_ge (tgt := 118) hx hb dX1_findChain_54 (by decide) (fun c54 => ?_) (fun c54 => ?_)
  · replace hE := (if_pos c54).symm.trans hE
    refine lv_iinc (v := x4 + (1 : Int32)) (lv' := [(4, .int (x4 + (1 : Int32))), (0, .ref (ad 4)), (2, .int x2), (3, .int x3), (5, .int x5), (6, .int x6)]) hx hb dX1_findChain_118 hl (k := 3) rfl rfl (by decide) rfl (fun ls hl => ?_)
    refine lv_goto (tgt := 27) hx hb dX1_findChain_121 (by decide) ?_
    exact hn27 x2 x3 (x4 + (1 : Int32)) a26' a27' ls H locs hE hM (lv_sub hl [1, 2, 3, 0] rfl)
  · replace hE := (if_neg c54).symm.trans hE
    refine lv_aload_n hx hb dX1_findChain_57 rfl (lv_at hl 0 rfl) ?_
    refine m_get F hM 4 mg_4 rfl 3 (by decide) (by decide +kernel) (by decide +kernel) (v := .ref (ad 27)) rfl dX1_findChain_58 ?_
    refine lv_iload hx hb dX1_findChain_61 (lv_at hl 5 rfl) ?_
    obtain ⟨hi63_8, hE⟩ := ck_some hE
    refine m_iald (g := a27') F hM mg_27 rfl hi63_8 dX1_findChain_63 ?_
    refine lv_iconst (v := (-1)) hx hb dX1_findChain_64 (by decide) ?_
    refine lv_icmp_ne (tgt := 112) hx hb dX1_findChain_65 (by decide) (fun c65 => ?_) (fun c65 => ?_)
    · replace hE := (if_neg c65).symm.trans hE
      refine lv_iinc (v := x6 + (1 : Int32)) (lv' := [(6, .int (x6 + (1 : Int32))), (0, .ref (ad 4)), (2, .int x2), (3, .int x3), (4, .int x4), (5, .int x5)]) hx hb dX1_findChain_112 hl (k := 5) rfl rfl (by decide) rfl (fun ls hl => ?_)
      refine lv_goto (tgt := 45) hx hb dX1_findChain_115 (by decide) ?_
      exact hn45 x2 x3 x4 x5 (x6 + (1 : Int32)) a26' a27' ls H locs hE hM (lv_sub hl [1, 2, 3, 4, 5, 0] rfl)
    · replace hE := (if_pos c65).symm.trans hE
      refine lv_aload_n hx hb dX1_findChain_68 rfl (lv_at hl 0 rfl) ?_
      refine m_get F hM 4 mg_4 rfl 1 (by decide) (by decide +kernel) (by decide +kernel) (v := .ref (ad 10)) rfl dX1_findChain_69 ?_
      refine lv_iload hx hb dX1_findChain_72 (lv_at hl 4 rfl) ?_
      obtain ⟨hi74_9, hE⟩ := ck_some hE
      refine m_aald F hM mg_10 hi74_9 dX1_findChain_74 ?_
      refine lv_iload hx hb dX1_findChain_75 (lv_at hl 5 rfl) ?_
      obtain ⟨hi77_10, hE⟩ := ck_some hE
      refine m_rald (M := (G 2)) F hM (by decide) (vp_lt hi74_9) rfl hi77_10 dX1_findChain_77 ?_
      refine lv_if_le (tgt := 112) hx hb dX1_findChain_78 (by decide) (fun c78 => ?_) (fun c78 => ?_)
      · replace hE := (if_pos c78).symm.trans hE
        refine lv_iinc (v := x6 + (1 : Int32)) (lv' := [(6, .int (x6 + (1 : Int32))), (0, .ref (ad 4)), (2, .int x2), (3, .int x3), (4, .int x4), (5, .int x5)]) hx hb dX1_findChain_112 hl (k := 5) rfl rfl (by decide) rfl (fun ls hl => ?_)
        refine lv_goto (tgt := 45) hx hb dX1_findChain_115 (by decide) ?_
        exact hn45 x2 x3 x4 x5 (x6 + (1 : Int32)) a26' a27' ls H locs hE hM (lv_sub hl [1, 2, 3, 4, 5, 0] rfl)
      · replace hE := (if_neg c78).symm.trans hE
        refine lv_iload_n hx hb dX1_findChain_81 rfl (lv_at hl 2 rfl) ?_
        refine lv_aload_n hx hb dX1_findChain_82 rfl (lv_at hl 0 rfl) ?_
        refine m_get F hM 4 mg_4 rfl 0 (by decide) (by decide +kernel) (by decide +kernel) (v := .ref (ad 1)) rfl dX1_findChain_83 ?_
        refine m_getN F hM 1 mg_1 rfl 0 (by decide) (by decide +kernel) (by decide +kernel) (v := .int (I 0)) rfl dX1_findChain_86 ?_
        refine lv_icmp_ge (tgt := 112) hx hb dX1_findChain_89 (by decide) (fun c89 => ?_) (fun c89 => ?_)
        · replace hE := (if_pos c89).symm.trans hE
          refine lv_iinc (v := x6 + (1 : Int32)) (lv' := [(6, .int (x6 + (1 : Int32))), (0, .ref (ad 4)), (2, .int x2), (3, .int x3), (4, .int x4), (5, .int x5)]) hx hb dX1_findChain_112 hl (k := 5) rfl rfl (by decide) rfl (fun ls hl => ?_)
          refine lv_goto (tgt := 45) hx hb dX1_findChain_115 (by decide) ?_
          exact hn45 x2 x3 x4 x5 (x6 + (1 : Int32)) a26' a27' ls H locs hE hM (lv_sub hl [1, 2, 3, 4, 5, 0] rfl)
        · replace hE := (if_neg c89).symm.trans hE
          refine lv_aload_n hx hb dX1_findChain_92 rfl (lv_at hl 0 rfl) ?_
          refine m_get F hM 4 mg_4 rfl 3 (by decide) (by decide +kernel) (by decide +kernel) (v := .ref (ad 27)) rfl dX1_findChain_93 ?_
          refine lv_iload hx hb dX1_findChain_96 (lv_at hl 5 rfl) ?_
          refine lv_iload hx hb dX1_findChain_98 (lv_at hl 4 rfl) ?_
          obtain ⟨hi100_11, hE⟩ := ck_some hE
          obtain ⟨w100_12, ew100_12, hE⟩ := nmd_some hE
          refine m_iast (f := a27') (A' := (va_up (va_up A 26 a26') 27 w100_12)) F hM mg_27 ms_27 (by rw [ew100_12]; exact un_26_27__27) hi100_11 dX1_findChain_100 (fun H locs hM => ?_)
          refine lv_aload_n hx hb dX1_findChain_101 rfl (lv_at hl 0 rfl) ?_
          refine m_get F hM 4 mg_4 rfl 2 (by decide) (by decide +kernel) (by decide +kernel) (v := .ref (ad 26)) rfl dX1_findChain_102 ?_
          refine lv_iload_n hx hb dX1_findChain_105 rfl (lv_at hl 2 rfl) ?_
          refine lv_iload hx hb dX1_findChain_106 (lv_at hl 5 rfl) ?_
          obtain ⟨hi108_13, hE⟩ := ck_some hE
          obtain ⟨w108_14, ew108_14, hE⟩ := nmd_some hE
          refine m_iast (f := a26') (A' := (va_up (va_up A 26 w108_14) 27 w100_12)) F hM mg_26 ms_26 (by rw [ew108_14]; exact un_26_27__26) hi108_13 dX1_findChain_108 (fun H locs hM => ?_)
          refine lv_iinc (v := x3 + (1 : Int32)) (lv' := [(3, .int (x3 + (1 : Int32))), (0, .ref (ad 4)), (2, .int x2), (4, .int x4), (5, .int x5), (6, .int x6)]) hx hb dX1_findChain_109 hl (k := 2) rfl rfl (by decide) rfl (fun ls hl => ?_)
          refine lv_iinc (v := x6 + (1 : Int32)) (lv' := [(6, .int (x6 + (1 : Int32))), (3, .int (x3 + (1 : Int32))), (0, .ref (ad 4)), (2, .int x2), (4, .int x4), (5, .int x5)]) hx hb dX1_findChain_112 hl (k := 5) rfl rfl (by decide) rfl (fun ls hl => ?_)
          refine lv_goto (tgt := 45) hx hb dX1_findChain_115 (by decide) ?_
          exact hn45 x2 (x3 + (1 : Int32)) x4 x5 (x6 + (1 : Int32)) w108_14 w100_12 ls H locs hE hM (lv_sub hl [2, 3, 1, 4, 5, 0] rfl)
theorem k_X1_findChain_45 {p : Program} {l : Launch} {e : Env} {s : State} {m : MethodId} {args : Array Value} {below : List Frame} {meth : Method} {c : Code} {D : va_G} {y : Nat → ClassId} {nn : Nat} {ad : Nat → Nat} {A0 : Nat → Prop} {I : Nat → Int32} {J : Nat → Int64} {A : Nat → Nat → Int32} {B : Nat → Nat → Int64} {G : Nat → Nat → Nat → Int32} (F : Fx p s m args meth c cX1_findChain 7 wsX1_findChain RX1 D y A0) (hr : meth.sig.returnType = (some .boolean)) {out : Int32 × (Nat → Int32) × (Nat → Int32)} {N : Nat} (nx27 : Int32 → Int32 → Int32 → (Nat → Int32) → (Nat → Int32) → Option (Int32 × (Nat → Int32) × (Nat → Int32))) (hn27 : ∀ (x2 : Int32) (x3 : Int32) (x4 : Int32) (a26' : Nat → Int32) (a27' : Nat → Int32) (ls : Array Slot) (H : Heap) (locs : List Loc), nx27 x2 x3 x4 a26' a27' = some out → MM D y nn ad A0 s.heap I J (va_up (va_up A 26 a26') 27 a27') B G H locs → lv_has ls 7 [(0, .ref (ad 4)), (2, .int x2), (3, .int x3), (4, .int x4)] → W p l e ({ frames := 1, cells := 0, slots := 0, locals := 23 } : Room) s m args below meth c H locs 0 0 (MQ below (mQi D y nn ad A0 out.1 (I, J, (va_up (va_up A 26 out.2.1) 27 out.2.2), B, G)) args s 0 0 A0) (F0 m 27 ls [])) : ∀ (n : Nat), ∀ (x2 : Int32) (x3 : Int32) (x4 : Int32) (x5 : Int32) (x6 : Int32) (a26' : Nat → Int32) (a27' : Nat → Int32) (ls : Array Slot) (H : Heap) (locs : List Loc), lq7 (f_X1_findChain_45 N nn (I 0) (G 2) nx27) n x2 x3 x4 x5 x6 a26' a27' = some out → MM D y nn ad A0 s.heap I J (va_up (va_up A 26 a26') 27 a27') B G H locs → lv_has ls 7 [(0, .ref (ad 4)), (2, .int x2), (3, .int x3), (4, .int x4), (5, .int x5), (6, .int x6)] → W p l e ({ frames := 1, cells := 0, slots := 0, locals := 23 } : Room) s m args below meth c H locs 0 0 (MQ below (mQi D y nn ad A0 out.1 (I, J, (va_up (va_up A 26 out.2.1) 27 out.2.2), B, G)) args s 0 0 A0) (F0 m 45 ls []) := by
  intro n
  induction n with
  | zero =>
    intro x2 x3 x4 x5 x6 a26' a27' ls H locs hE
    cases (show (none : Option _) = some out from hE)
  | succ n ih =>
    intro x2 x3 x4 x5 x6 a26' a27' ls H locs hE hM hl
    exact s_X1_findChain_45 F hr (N := N) nx27 hn27 (lq7 (f_X1_findChain_45 N nn (I 0) (G 2) nx27) n) ih x2 x3 x4 x5 x6 a26' a27' ls H locs hE hM hl
set_option maxHeartbeats 4000000 in
set_option maxRecDepth 100000 in
theorem s_X1_findChain_27 {p : Program} {l : Launch} {e : Env} {s : State} {m : MethodId} {args : Array Value} {below : List Frame} {meth : Method} {c : Code} {D : va_G} {y : Nat → ClassId} {nn : Nat} {ad : Nat → Nat} {A0 : Nat → Prop} {I : Nat → Int32} {J : Nat → Int64} {A : Nat → Nat → Int32} {B : Nat → Nat → Int64} {G : Nat → Nat → Nat → Int32} (F : Fx p s m args meth c cX1_findChain 7 wsX1_findChain RX1 D y A0) (hr : meth.sig.returnType = (some .boolean)) {out : Int32 × (Nat → Int32) × (Nat → Int32)} {N : Nat}  (nx27 : Int32 → Int32 → Int32 → (Nat → Int32) → (Nat → Int32) → Option (Int32 × (Nat → Int32) × (Nat → Int32))) (hn27 : ∀ (x2 : Int32) (x3 : Int32) (x4 : Int32) (a26' : Nat → Int32) (a27' : Nat → Int32) (ls : Array Slot) (H : Heap) (locs : List Loc), nx27 x2 x3 x4 a26' a27' = some out → MM D y nn ad A0 s.heap I J (va_up (va_up A 26 a26') 27 a27') B G H locs → lv_has ls 7 [(0, .ref (ad 4)), (2, .int x2), (3, .int x3), (4, .int x4)] → W p l e ({ frames := 1, cells := 0, slots := 0, locals := 23 } : Room) s m args below meth c H locs 0 0 (MQ below (mQi D y nn ad A0 out.1 (I, J, (va_up (va_up A 26 out.2.1) 27 out.2.2), B, G)) args s 0 0 A0) (F0 m 27 ls [])) : ∀ (x2 : Int32) (x3 : Int32) (x4 : Int32) (a26' : Nat → Int32) (a27' : Nat → Int32) (ls : Array Slot) (H : Heap) (locs : List Loc), f_X1_findChain_27 N nn (I 0) (G 2)  nx27 x2 x3 x4 a26' a27' = some out → MM D y nn ad A0 s.heap I J (va_up (va_up A 26 a26') 27 a27') B G H locs → lv_has ls 7 [(0, .ref (ad 4)), (2, .int x2), (3, .int x3), (4, .int x4)] → W p l e ({ frames := 1, cells := 0, slots := 0, locals := 23 } : Room) s m args below meth c H locs 0 0 (MQ below (mQi D y nn ad A0 out.1 (I, J, (va_up (va_up A 26 out.2.1) 27 out.2.2), B, G)) args s 0 0 A0) (F0 m 27 ls []) := by
  intro x2 x3 x4 a26' a27' ls H locs hE hM hl
  have hx := F.1.1
  have hb := F.1.2.1
  unfold f_X1_findChain_27 at hE
  refine lv_iload hx hb dX1_findChain_27 (lv_at hl 3 rfl) ?_
  refine lv_iload_n hx hb dX1_findChain_29 rfl (lv_at hl 2 rfl) ?_
  refine lv_icmp_ge (tgt := 124) hx hb dX1_findChain_30 (by decide) (fun c30 => ?_) (fun c30 => ?_)
  · replace hE := (if_pos c30).symm.trans hE
    refine lv_aload_n hx hb dX1_findChain_124 rfl (lv_at hl 0 rfl) ?_
    refine m_get F hM 4 mg_4 rfl 3 (by decide) (by decide +kernel) (by decide +kernel) (v := .ref (ad 27)) rfl dX1_findChain_125 ?_
    refine lv_iload_n hx hb dX1_findChain_128 rfl (lv_at hl 1 rfl) ?_
    obtain ⟨hi129_6, hE⟩ := ck_some hE
    refine m_iald (g := a27') F hM mg_27 rfl hi129_6 dX1_findChain_129 ?_
    refine lv_iconst (v := (-1)) hx hb dX1_findChain_130 (by decide) ?_
    refine lv_icmp_eq (tgt := 138) hx hb dX1_findChain_131 (by decide) (fun c131 => ?_) (fun c131 => ?_)
    · replace hE := (if_pos c131).symm.trans hE
      refine lv_iconst (v := 0) hx hb dX1_findChain_138 (by decide) ?_
      obtain ⟨hz, hE⟩ := bz_some hE
      obtain rfl := Option.some.inj hE
      exact m_zret F hM hr hz rfl rfl dX1_findChain_139
    · replace hE := (if_neg c131).symm.trans hE
      refine lv_iconst (v := 1) hx hb dX1_findChain_134 (by decide) ?_
      refine lv_goto (tgt := 139) hx hb dX1_findChain_135 (by decide) ?_
      obtain ⟨hz, hE⟩ := bz_some hE
      obtain rfl := Option.some.inj hE
      exact m_zret F hM hr hz rfl rfl dX1_findChain_139
  · replace hE := (if_neg c30).symm.trans hE
    refine lv_aload_n hx hb dX1_findChain_33 rfl (lv_at hl 0 rfl) ?_
    refine m_get F hM 4 mg_4 rfl 2 (by decide) (by decide +kernel) (by decide +kernel) (v := .ref (ad 26)) rfl dX1_findChain_34 ?_
    refine lv_iload hx hb dX1_findChain_37 (lv_at hl 3 rfl) ?_
    obtain ⟨hi39_7, hE⟩ := ck_some hE
    refine m_iald (g := a26') F hM mg_26 rfl hi39_7 dX1_findChain_39 ?_
    refine lv_istore (lv' := [(5, .int (a26' x4.toNatClampNeg)), (0, .ref (ad 4)), (2, .int x2), (3, .int x3), (4, .int x4)]) hx hb dX1_findChain_40 hl (by decide) rfl (fun ls hl => ?_)
    refine lv_iconst (v := 0) hx hb dX1_findChain_42 (by decide) ?_
    refine lv_istore (lv' := [(6, .int (0 : Int32)), (5, .int (a26' x4.toNatClampNeg)), (0, .ref (ad 4)), (2, .int x2), (3, .int x3), (4, .int x4)]) hx hb dX1_findChain_43 hl (by decide) rfl (fun ls hl => ?_)
    exact k_X1_findChain_45 F hr (N := N) nx27 hn27 N x2 x3 x4 (a26' x4.toNatClampNeg) (0 : Int32) a26' a27' ls H locs hE hM (lv_sub hl [2, 3, 4, 5, 1, 0] rfl)
theorem k_X1_findChain_27 {p : Program} {l : Launch} {e : Env} {s : State} {m : MethodId} {args : Array Value} {below : List Frame} {meth : Method} {c : Code} {D : va_G} {y : Nat → ClassId} {nn : Nat} {ad : Nat → Nat} {A0 : Nat → Prop} {I : Nat → Int32} {J : Nat → Int64} {A : Nat → Nat → Int32} {B : Nat → Nat → Int64} {G : Nat → Nat → Nat → Int32} (F : Fx p s m args meth c cX1_findChain 7 wsX1_findChain RX1 D y A0) (hr : meth.sig.returnType = (some .boolean)) {out : Int32 × (Nat → Int32) × (Nat → Int32)} {N : Nat}  : ∀ (n : Nat), ∀ (x2 : Int32) (x3 : Int32) (x4 : Int32) (a26' : Nat → Int32) (a27' : Nat → Int32) (ls : Array Slot) (H : Heap) (locs : List Loc), lq5 (f_X1_findChain_27 N nn (I 0) (G 2) ) n x2 x3 x4 a26' a27' = some out → MM D y nn ad A0 s.heap I J (va_up (va_up A 26 a26') 27 a27') B G H locs → lv_has ls 7 [(0, .ref (ad 4)), (2, .int x2), (3, .int x3), (4, .int x4)] → W p l e ({ frames := 1, cells := 0, slots := 0, locals := 23 } : Room) s m args below meth c H locs 0 0 (MQ below (mQi D y nn ad A0 out.1 (I, J, (va_up (va_up A 26 out.2.1) 27 out.2.2), B, G)) args s 0 0 A0) (F0 m 27 ls []) := by
  intro n
  induction n with
  | zero =>
    intro x2 x3 x4 a26' a27' ls H locs hE
    cases (show (none : Option _) = some out from hE)
  | succ n ih =>
    intro x2 x3 x4 a26' a27' ls H locs hE hM hl
    exact s_X1_findChain_27 F hr (N := N)  (lq5 (f_X1_findChain_27 N nn (I 0) (G 2) ) n) ih x2 x3 x4 a26' a27' ls H locs hE hM hl
set_option maxHeartbeats 4000000 in
set_option maxRecDepth 100000 in
theorem c_X1_findChain (l : Launch) (D : va_G) (y : Nat → ClassId) (nn : Nat) (ad : Nat → Nat) (sz : Nat) (I : Nat → Int32) (J : Nat → Int64) (A : Nat → Nat → Int32) (B : Nat → Nat → Int64) (G : Nat → Nat → Nat → Int32) (p1 : Int32) (p2 : Int32) (N : Nat) (out : Int32 × (Nat → Int32) × (Nat → Int32)) (hE : f_X1_findChain N nn (I 0) (G 2) (A 26) (A 27) p1 p2 = some out) : Met l yX1_findChain wsX1_findChain ({ frames := 1, cells := 0, slots := 0, locals := 23 } : Room) (mPc [.ref (ad 4), .int p1, .int p2] D y nn ad sz I J A B G) (mQi D y nn ad (mA y nn ad I J A B G sz) out.1 (I, J, (va_up (va_up A 26 out.2.1) 27 out.2.2), B, G)) 0 0 (mA y nn ad I J A B G sz) := by
  refine Met.ofW (cc := cX1_findChain) (maxL := 7) (ret := (some .boolean)) (by decide) rfl ?_
  intro p e s m args below meth c s₁ Bd hml hv
  obtain ⟨rfl, hsz, hP, hK, hD0, hN⟩ := hv
  have hr := Bd.returns
  subst hsz
  have F : Fx p s m ([.ref (ad 4), .int p1, .int p2] : List Value).toArray meth c cX1_findChain 7 wsX1_findChain RX1 D y (mA y nn ad I J A B G s.heap.size) := ⟨⟨Bd.exec, Bd.bytes, hml, findClass_of_methodNamed Bd.named, atoms_spec (ws := wsX1_findChain) Bd.pre⟩, hK, hN, fun q h => Or.inr h, Bd.notSynchronized⟩
  have hM := m_start (s := s) rfl hP hD0
  have hM := m_mem (I2 := I) (J2 := J) (A2 := (va_up (va_up A 26 (A 26)) 27 (A 27))) (B2 := B) (G2 := G) hM (by rfl) (by rfl) (by simp only [up_id]) (by rfl) (by rfl)
  have hx := F.1.1
  have hb := F.1.2.1
  have hl := lv_entry ([.ref (ad 4), .int p1, .int p2]) (n := 7) (Nat.le_of_ble_eq_true rfl)
  rw [lg_entry_eq]
  generalize (lg_sl ([.ref (ad 4), .int p1, .int p2]) ++ List.replicate (7 - (lg_sl ([.ref (ad 4), .int p1, .int p2])).length) Slot.unset).toArray = ls at hl ⊢
  have hl : lv_has ls 7 [(0, .ref (ad 4)), (1, .int p1), (2, .int p2)] := hl
  show W p l e ({ frames := 1, cells := 0, slots := 0, locals := 23 } : Room) s m _ below meth c s.heap [] 0 0 _ _
  obtain ⟨locs, hlo⟩ : ∃ locs : List Loc, locs = [] := ⟨_, rfl⟩
  rw [← hlo]; rw [← hlo] at hM
  unfold f_X1_findChain at hE
  revert hM
  suffices hH : ∀ H : Heap, MM D y nn ad (mA y nn ad I J A B G s.heap.size) s.heap I J (va_up (va_up A 26 (A 26)) 27 (A 27)) B G H locs → W p l e ({ frames := 1, cells := 0, slots := 0, locals := 23 } : Room) s m ([.ref (ad 4), .int p1, .int p2] : List Value).toArray below meth c H locs 0 0 (MQ below (mQi D y nn ad (mA y nn ad I J A B G s.heap.size) out.1 (I, J, (va_up (va_up A 26 out.2.1) 27 out.2.2), B, G)) ([.ref (ad 4), .int p1, .int p2] : List Value).toArray s 0 0 (mA y nn ad I J A B G s.heap.size)) (F0 m 0 ls []) from hH s.heap
  intro H hM
  refine lv_aload_n hx hb dX1_findChain_0 rfl (lv_at hl 0 rfl) ?_
  refine m_get F hM 4 mg_4 rfl 3 (by decide) (by decide +kernel) (by decide +kernel) (v := .ref (ad 27)) rfl dX1_findChain_1 ?_
  refine lv_iconst (v := (-1)) hx hb dX1_findChain_4 (by decide) ?_
  obtain ⟨hf5_1, hE⟩ := fck_some hE
  obtain ⟨w5_0, ew5_0, hE⟩ := nmd_some hE
  refine m_callSv (As := [.ref (ad 27), .int (-1 : Int32)]) (A2 := (va_up (va_up A 26 (A 26)) 27 w5_0)) (B2 := B) F hM (c_J7_fill_53178 l D y nn ad H.size _ _ _ _ _ hf5_1 (fun _ => mg_27) (fun _ f1 => ms_27 f1) (-1 : Int32)) (va_cwS 2 F.1.2.2.2.2 gX1_findChain_J7_fill_53178 rfl rfl rfl (by decide +kernel) ⟨Nat.le_of_ble_eq_true rfl, Nat.le_of_ble_eq_true rfl⟩) rfl hl.1 (Nat.le_of_ble_eq_true rfl) dX1_findChain_5 ⟨Nat.le_refl 0, Nat.le_refl 0⟩ rfl rfl (by rw [ew5_0]; exact un_26_27__27) rfl rfl (fun H locs hM => ?_)
  refine lv_aload_n hx hb dX1_findChain_8 rfl (lv_at hl 0 rfl) ?_
  refine m_get F hM 4 mg_4 rfl 3 (by decide) (by decide +kernel) (by decide +kernel) (v := .ref (ad 27)) rfl dX1_findChain_9 ?_
  refine lv_iload_n hx hb dX1_findChain_12 rfl (lv_at hl 1 rfl) ?_
  refine lv_iload_n hx hb dX1_findChain_13 rfl (lv_at hl 1 rfl) ?_
  obtain ⟨hi14_2, hE⟩ := ck_some hE
  obtain ⟨w14_3, ew14_3, hE⟩ := nmd_some hE
  refine m_iast (f := w5_0) (A' := (va_up (va_up A 26 (A 26)) 27 w14_3)) F hM mg_27 ms_27 (by rw [ew14_3]; exact un_26_27__27) hi14_2 dX1_findChain_14 (fun H locs hM => ?_)
  refine lv_aload_n hx hb dX1_findChain_15 rfl (lv_at hl 0 rfl) ?_
  refine m_get F hM 4 mg_4 rfl 2 (by decide) (by decide +kernel) (by decide +kernel) (v := .ref (ad 26)) rfl dX1_findChain_16 ?_
  refine lv_iconst (v := 0) hx hb dX1_findChain_19 (by decide) ?_
  refine lv_iload_n hx hb dX1_findChain_20 rfl (lv_at hl 1 rfl) ?_
  obtain ⟨hi21_4, hE⟩ := ck_some hE
  obtain ⟨w21_5, ew21_5, hE⟩ := nmd_some hE
  refine m_iast (f := (A 26)) (A' := (va_up (va_up A 26 w21_5) 27 w14_3)) F hM mg_26 ms_26 (by rw [ew21_5]; exact un_26_27__26) hi21_4 dX1_findChain_21 (fun H locs hM => ?_)
  refine lv_iconst (v := 1) hx hb dX1_findChain_22 (by decide) ?_
  refine lv_istore_n (lv' := [(3, .int (1 : Int32)), (0, .ref (ad 4)), (1, .int p1), (2, .int p2)]) hx hb dX1_findChain_23 rfl hl (by decide) rfl (fun ls hl => ?_)
  refine lv_iconst (v := 0) hx hb dX1_findChain_24 (by decide) ?_
  refine lv_istore (lv' := [(4, .int (0 : Int32)), (3, .int (1 : Int32)), (0, .ref (ad 4)), (1, .int p1), (2, .int p2)]) hx hb dX1_findChain_25 hl (by decide) rfl (fun ls hl => ?_)
  exact k_X1_findChain_27 F hr (N := N)  N p2 (1 : Int32) (0 : Int32) w21_5 w14_3 ls H locs hE hM (lv_sub hl [2, 4, 1, 0] rfl)
/-! ===== X1_fillChain: reads I0 A27, writes G2, frames 1, locals 22 ===== -/
def f_X1_fillChain_68 (N : Nat) (nn : Nat) (i0 : Int32) (a27 : Nat → Int32)  (nx68 : Int32 → Int32 → Int32 → Int32 → (Nat → Nat → Int32) → Option (Int32 × (Nat → Nat → Int32))) (x1 : Int32) (x3 : Int32) (x4 : Int32) (x5 : Int32) (g2' : Nat → Nat → Int32) : Option (Int32 × (Nat → Nat → Int32)) :=
(if i0 ≤ x5 then
some (x3, g2')
else
(if x4 = x1 then
some (x3, g2')
else
ck x4 nn (
ck (a27 x4.toNatClampNeg) nn (
ck x4 nn (
ck x4 nn (
nmd (va_up g2' (a27 x4.toNatClampNeg).toNatClampNeg (upd (g2' (a27 x4.toNatClampNeg).toNatClampNeg) x4.toNatClampNeg ((g2' (a27 x4.toNatClampNeg).toNatClampNeg x4.toNatClampNeg) - x3))) fun w104_4 =>
ck x4 nn (
ck x4 nn (
ck (a27 x4.toNatClampNeg) nn (
ck (a27 x4.toNatClampNeg) nn (
nmd (va_up w104_4 x4.toNatClampNeg (upd (w104_4 x4.toNatClampNeg) (a27 x4.toNatClampNeg).toNatClampNeg ((w104_4 x4.toNatClampNeg (a27 x4.toNatClampNeg).toNatClampNeg) + x3))) fun w123_9 =>
ck x4 nn (
nx68 x1 x3 (a27 x4.toNatClampNeg) (x5 + (1 : Int32)) w123_9)))))))))))
def f_X1_fillChain_9 (N : Nat) (nn : Nat) (i0 : Int32) (a27 : Nat → Int32)  (nx9 : Int32 → Int32 → Int32 → Int32 → Int32 → (Nat → Nat → Int32) → Option (Int32 × (Nat → Nat → Int32))) (x1 : Int32) (x2 : Int32) (x3 : Int32) (x4 : Int32) (x5 : Int32) (g2' : Nat → Nat → Int32) : Option (Int32 × (Nat → Nat → Int32)) :=
(if i0 ≤ x5 then
lq5 (f_X1_fillChain_68 N nn i0 a27 ) N x1 x3 x2 (0 : Int32) g2'
else
(if x4 = x1 then
lq5 (f_X1_fillChain_68 N nn i0 a27 ) N x1 x3 x2 (0 : Int32) g2'
else
ck x4 nn (
ck (a27 x4.toNatClampNeg) nn (
ck x4 nn (
nmd ((if (g2' (a27 x4.toNatClampNeg).toNatClampNeg x4.toNatClampNeg) < x3 then (g2' (a27 x4.toNatClampNeg).toNatClampNeg x4.toNatClampNeg) else x3)) fun v46_14 =>
ck x4 nn (
nx9 x1 x2 v46_14 (a27 x4.toNatClampNeg) (x5 + (1 : Int32)) g2'))))))
def f_X1_fillChain (N : Nat) (nn : Nat) (i0 : Int32) (a27 : Nat → Int32) (g2 : Nat → Nat → Int32) (p1 : Int32) (p2 : Int32) : Option (Int32 × (Nat → Nat → Int32)) :=
lq6 (f_X1_fillChain_9 N nn i0 a27 ) N p1 p2 (2147483647 : Int32) p2 (0 : Int32) g2
set_option maxHeartbeats 4000000 in
set_option maxRecDepth 100000 in
theorem s_X1_fillChain_68 {p : Program} {l : Launch} {e : Env} {s : State} {m : MethodId} {args : Array Value} {below : List Frame} {meth : Method} {c : Code} {D : va_G} {y : Nat → ClassId} {nn : Nat} {ad : Nat → Nat} {A0 : Nat → Prop} {I : Nat → Int32} {J : Nat → Int64} {A : Nat → Nat → Int32} {B : Nat → Nat → Int64} {G : Nat → Nat → Nat → Int32} (F : Fx p s m args meth c cX1_fillChain 6 wsX1_fillChain RX1 D y A0) (hr : meth.sig.returnType = (some .int)) {out : Int32 × (Nat → Nat → Int32)} {N : Nat}  (nx68 : Int32 → Int32 → Int32 → Int32 → (Nat → Nat → Int32) → Option (Int32 × (Nat → Nat → Int32))) (hn68 : ∀ (x1 : Int32) (x3 : Int32) (x4 : Int32) (x5 : Int32) (g2' : Nat → Nat → Int32) (ls : Array Slot) (H : Heap) (locs : List Loc), nx68 x1 x3 x4 x5 g2' = some out → MM D y nn ad A0 s.heap I J A B (va_up G 2 g2') H locs → lv_has ls 6 [(0, .ref (ad 4)), (1, .int x1), (3, .int x3), (4, .int x4), (5, .int x5)] → W p l e ({ frames := 1, cells := 0, slots := 0, locals := 22 } : Room) s m args below meth c H locs 0 0 (MQ below (mQi D y nn ad A0 out.1 (I, J, A, B, (va_up G 2 out.2))) args s 0 0 A0) (F0 m 68 ls [])) : ∀ (x1 : Int32) (x3 : Int32) (x4 : Int32) (x5 : Int32) (g2' : Nat → Nat → Int32) (ls : Array Slot) (H : Heap) (locs : List Loc), f_X1_fillChain_68 N nn (I 0) (A 27)  nx68 x1 x3 x4 x5 g2' = some out → MM D y nn ad A0 s.heap I J A B (va_up G 2 g2') H locs → lv_has ls 6 [(0, .ref (ad 4)), (1, .int x1), (3, .int x3), (4, .int x4), (5, .int x5)] → W p l e ({ frames := 1, cells := 0, slots := 0, locals := 22 } : Room) s m args below meth c H locs 0 0 (MQ below (mQi D y nn ad A0 out.1 (I, J, A, B, (va_up G 2 out.2))) args s 0 0 A0) (F0 m 68 ls []) := by
  intro x1 x3 x4 x5 g2' ls H locs hE hM hl
  have hx := F.1.1
  have hb := F.1.2.1
  unfold f_X1_fillChain_68 at hE
  refine lv_iload hx hb dX1_fillChain_68 (lv_at hl 4 rfl) ?_
  refine lv_aload_n hx hb dX1_fillChain_70 rfl (lv_at hl 0 rfl) ?_
  refine m_get F hM 4 mg_4 rfl 0 (by decide) (by decide +kernel) (by decide +kernel) (v := .ref (ad 1)) rfl dX1_fillChain_71 ?_
  refine m_getN F hM 1 mg_1 rfl 0 (by decide) (by decide +kernel) (by decide +kernel) (v := .int (I 0)) rfl dX1_fillChain_74 ?_
  refine lv_icmp_ge (tgt := 139) hx hb dX1_fillChain_77 (by decide) (fun c77 => ?_) (fun c77 => ?_)
  · replace hE := (if_pos c77).symm.trans hE
    refine lv_iload_n hx hb dX1_fillChain_139 rfl (lv_at hl 2 rfl) ?_
    obtain rfl := Option.some.inj hE
    exact m_iret F hM hr rfl rfl dX1_fillChain_140
  · replace hE := (if_neg c77).symm.trans hE
    refine lv_iload hx hb dX1_fillChain_80 (lv_at hl 3 rfl) ?_
    refine lv_iload_n hx hb dX1_fillChain_82 rfl (lv_at hl 1 rfl) ?_
    refine lv_icmp_eq (tgt := 139) hx hb dX1_fillChain_83 (by decide) (fun c83 => ?_) (fun c83 => ?_)
    · replace hE := (if_pos c83).symm.trans hE
      refine lv_iload_n hx hb dX1_fillChain_139 rfl (lv_at hl 2 rfl) ?_
      obtain rfl := Option.some.inj hE
      exact m_iret F hM hr rfl rfl dX1_fillChain_140
    · replace hE := (if_neg c83).symm.trans hE
      refine lv_aload_n hx hb dX1_fillChain_86 rfl (lv_at hl 0 rfl) ?_
      refine m_get F hM 4 mg_4 rfl 1 (by decide) (by decide +kernel) (by decide +kernel) (v := .ref (ad 10)) rfl dX1_fillChain_87 ?_
      refine lv_aload_n hx hb dX1_fillChain_90 rfl (lv_at hl 0 rfl) ?_
      refine m_get F hM 4 mg_4 rfl 3 (by decide) (by decide +kernel) (by decide +kernel) (v := .ref (ad 27)) rfl dX1_fillChain_91 ?_
      refine lv_iload hx hb dX1_fillChain_94 (lv_at hl 3 rfl) ?_
      obtain ⟨hi96_0, hE⟩ := ck_some hE
      refine m_iald (g := (A 27)) F hM mg_27 rfl hi96_0 dX1_fillChain_96 ?_
      obtain ⟨hi97_1, hE⟩ := ck_some hE
      refine m_aald F hM mg_10 hi97_1 dX1_fillChain_97 ?_
      refine lv_iload hx hb dX1_fillChain_98 (lv_at hl 3 rfl) ?_
      refine lv_dup2_11 hx hb dX1_fillChain_100 rfl rfl ?_
      obtain ⟨hi101_2, hE⟩ := ck_some hE
      refine m_rald (M := g2') F hM (by decide) (vp_lt hi97_1) rfl hi101_2 dX1_fillChain_101 ?_
      refine lv_iload_n hx hb dX1_fillChain_102 rfl (lv_at hl 2 rfl) ?_
      refine lv_isub hx hb dX1_fillChain_103 ?_
      obtain ⟨hi104_3, hE⟩ := ck_some hE
      obtain ⟨w104_4, ew104_4, hE⟩ := nmd_some hE
      refine m_rast (M := g2') (G' := (va_up G 2 w104_4)) F hM (by decide) (vp_lt hi97_1) rfl (by rw [ew104_4]; exact (bx_uu _ _ _ _)) hi104_3 dX1_fillChain_104 (fun H locs hM => ?_)
      refine lv_aload_n hx hb dX1_fillChain_105 rfl (lv_at hl 0 rfl) ?_
      refine m_get F hM 4 mg_4 rfl 1 (by decide) (by decide +kernel) (by decide +kernel) (v := .ref (ad 10)) rfl dX1_fillChain_106 ?_
      refine lv_iload hx hb dX1_fillChain_109 (lv_at hl 3 rfl) ?_
      obtain ⟨hi111_5, hE⟩ := ck_some hE
      refine m_aald F hM mg_10 hi111_5 dX1_fillChain_111 ?_
      refine lv_aload_n hx hb dX1_fillChain_112 rfl (lv_at hl 0 rfl) ?_
      refine m_get F hM 4 mg_4 rfl 3 (by decide) (by decide +kernel) (by decide +kernel) (v := .ref (ad 27)) rfl dX1_fillChain_113 ?_
      refine lv_iload hx hb dX1_fillChain_116 (lv_at hl 3 rfl) ?_
      obtain ⟨hi118_6, hE⟩ := ck_some hE
      refine m_iald (g := (A 27)) F hM mg_27 rfl hi118_6 dX1_fillChain_118 ?_
      refine lv_dup2_11 hx hb dX1_fillChain_119 rfl rfl ?_
      obtain ⟨hi120_7, hE⟩ := ck_some hE
      refine m_rald (M := w104_4) F hM (by decide) (vp_lt hi111_5) rfl hi120_7 dX1_fillChain_120 ?_
      refine lv_iload_n hx hb dX1_fillChain_121 rfl (lv_at hl 2 rfl) ?_
      refine lv_iadd hx hb dX1_fillChain_122 ?_
      obtain ⟨hi123_8, hE⟩ := ck_some hE
      obtain ⟨w123_9, ew123_9, hE⟩ := nmd_some hE
      refine m_rast (M := w104_4) (G' := (va_up G 2 w123_9)) F hM (by decide) (vp_lt hi111_5) rfl (by rw [ew123_9]; exact (bx_uu _ _ _ _)) hi123_8 dX1_fillChain_123 (fun H locs hM => ?_)
      refine lv_aload_n hx hb dX1_fillChain_124 rfl (lv_at hl 0 rfl) ?_
      refine m_get F hM 4 mg_4 rfl 3 (by decide) (by decide +kernel) (by decide +kernel) (v := .ref (ad 27)) rfl dX1_fillChain_125 ?_
      refine lv_iload hx hb dX1_fillChain_128 (lv_at hl 3 rfl) ?_
      obtain ⟨hi130_10, hE⟩ := ck_some hE
      refine m_iald (g := (A 27)) F hM mg_27 rfl hi130_10 dX1_fillChain_130 ?_
      refine lv_istore (lv' := [(4, .int ((A 27) x4.toNatClampNeg)), (0, .ref (ad 4)), (1, .int x1), (3, .int x3), (5, .int x5)]) hx hb dX1_fillChain_131 hl (by decide) rfl (fun ls hl => ?_)
      refine lv_iinc (v := x5 + (1 : Int32)) (lv' := [(5, .int (x5 + (1 : Int32))), (4, .int ((A 27) x4.toNatClampNeg)), (0, .ref (ad 4)), (1, .int x1), (3, .int x3)]) hx hb dX1_fillChain_133 hl (k := 4) rfl rfl (by decide) rfl (fun ls hl => ?_)
      refine lv_goto (tgt := 68) hx hb dX1_fillChain_136 (by decide) ?_
      exact hn68 x1 x3 ((A 27) x4.toNatClampNeg) (x5 + (1 : Int32)) w123_9 ls H locs hE hM (lv_sub hl [2, 3, 4, 1, 0] rfl)
theorem k_X1_fillChain_68 {p : Program} {l : Launch} {e : Env} {s : State} {m : MethodId} {args : Array Value} {below : List Frame} {meth : Method} {c : Code} {D : va_G} {y : Nat → ClassId} {nn : Nat} {ad : Nat → Nat} {A0 : Nat → Prop} {I : Nat → Int32} {J : Nat → Int64} {A : Nat → Nat → Int32} {B : Nat → Nat → Int64} {G : Nat → Nat → Nat → Int32} (F : Fx p s m args meth c cX1_fillChain 6 wsX1_fillChain RX1 D y A0) (hr : meth.sig.returnType = (some .int)) {out : Int32 × (Nat → Nat → Int32)} {N : Nat}  : ∀ (n : Nat), ∀ (x1 : Int32) (x3 : Int32) (x4 : Int32) (x5 : Int32) (g2' : Nat → Nat → Int32) (ls : Array Slot) (H : Heap) (locs : List Loc), lq5 (f_X1_fillChain_68 N nn (I 0) (A 27) ) n x1 x3 x4 x5 g2' = some out → MM D y nn ad A0 s.heap I J A B (va_up G 2 g2') H locs → lv_has ls 6 [(0, .ref (ad 4)), (1, .int x1), (3, .int x3), (4, .int x4), (5, .int x5)] → W p l e ({ frames := 1, cells := 0, slots := 0, locals := 22 } : Room) s m args below meth c H locs 0 0 (MQ below (mQi D y nn ad A0 out.1 (I, J, A, B, (va_up G 2 out.2))) args s 0 0 A0) (F0 m 68 ls []) := by
  intro n
  induction n with
  | zero =>
    intro x1 x3 x4 x5 g2' ls H locs hE
    cases (show (none : Option _) = some out from hE)
  | succ n ih =>
    intro x1 x3 x4 x5 g2' ls H locs hE hM hl
    exact s_X1_fillChain_68 F hr (N := N)  (lq5 (f_X1_fillChain_68 N nn (I 0) (A 27) ) n) ih x1 x3 x4 x5 g2' ls H locs hE hM hl
set_option maxHeartbeats 4000000 in
set_option maxRecDepth 100000 in
theorem s_X1_fillChain_9 {p : Program} {l : Launch} {e : Env} {s : State} {m : MethodId} {args : Array Value} {below : List Frame} {meth : Method} {c : Code} {D : va_G} {y : Nat → ClassId} {nn : Nat} {ad : Nat → Nat} {A0 : Nat → Prop} {I : Nat → Int32} {J : Nat → Int64} {A : Nat → Nat → Int32} {B : Nat → Nat → Int64} {G : Nat → Nat → Nat → Int32} (F : Fx p s m args meth c cX1_fillChain 6 wsX1_fillChain RX1 D y A0) (hr : meth.sig.returnType = (some .int)) {out : Int32 × (Nat → Nat → Int32)} {N : Nat}  (nx9 : Int32 → Int32 → Int32 → Int32 → Int32 → (Nat → Nat → Int32) → Option (Int32 × (Nat → Nat → Int32))) (hn9 : ∀ (x1 : Int32) (x2 : Int32) (x3 : Int32) (x4 : Int32) (x5 : Int32) (g2' : Nat → Nat → Int32) (ls : Array Slot) (H : Heap) (locs : List Loc), nx9 x1 x2 x3 x4 x5 g2' = some out → MM D y nn ad A0 s.heap I J A B (va_up G 2 g2') H locs → lv_has ls 6 [(0, .ref (ad 4)), (1, .int x1), (2, .int x2), (3, .int x3), (4, .int x4), (5, .int x5)] → W p l e ({ frames := 1, cells := 0, slots := 0, locals := 22 } : Room) s m args below meth c H locs 0 0 (MQ below (mQi D y nn ad A0 out.1 (I, J, A, B, (va_up G 2 out.2))) args s 0 0 A0) (F0 m 9 ls [])) : ∀ (x1 : Int32) (x2 : Int32) (x3 : Int32) (x4 : Int32) (x5 : Int32) (g2' : Nat → Nat → Int32) (ls : Array Slot) (H : Heap) (locs : List Loc), f_X1_fillChain_9 N nn (I 0) (A 27)  nx9 x1 x2 x3 x4 x5 g2' = some out → MM D y nn ad A0 s.heap I J A B (va_up G 2 g2') H locs → lv_has ls 6 [(0, .ref (ad 4)), (1, .int x1), (2, .int x2), (3, .int x3), (4, .int x4), (5, .int x5)] → W p l e ({ frames := 1, cells := 0, slots := 0, locals := 22 } : Room) s m args below meth c H locs 0 0 (MQ below (mQi D y nn ad A0 out.1 (I, J, A, B, (va_up G 2 out.2))) args s 0 0 A0) (F0 m 9 ls []) := by
  intro x1 x2 x3 x4 x5 g2' ls H locs hE hM hl
  have hx := F.1.1
  have hb := F.1.2.1
  unfold f_X1_fillChain_9 at hE
  refine lv_iload hx hb dX1_fillChain_9 (lv_at hl 5 rfl) ?_
  refine lv_aload_n hx hb dX1_fillChain_11 rfl (lv_at hl 0 rfl) ?_
  refine m_get F hM 4 mg_4 rfl 0 (by decide) (by decide +kernel) (by decide +kernel) (v := .ref (ad 1)) rfl dX1_fillChain_12 ?_
  refine m_getN F hM 1 mg_1 rfl 0 (by decide) (by decide +kernel) (by decide +kernel) (v := .int (I 0)) rfl dX1_fillChain_15 ?_
  refine lv_icmp_ge (tgt := 62) hx hb dX1_fillChain_18 (by decide) (fun c18 => ?_) (fun c18 => ?_)
  · replace hE := (if_pos c18).symm.trans hE
    refine lv_iload_n hx hb dX1_fillChain_62 rfl (lv_at hl 2 rfl) ?_
    refine lv_istore (lv' := [(4, .int x2), (0, .ref (ad 4)), (1, .int x1), (2, .int x2), (3, .int x3), (5, .int x5)]) hx hb dX1_fillChain_63 hl (by decide) rfl (fun ls hl => ?_)
    refine lv_iconst (v := 0) hx hb dX1_fillChain_65 (by decide) ?_
    refine lv_istore (lv' := [(5, .int (0 : Int32)), (4, .int x2), (0, .ref (ad 4)), (1, .int x1), (2, .int x2), (3, .int x3)]) hx hb dX1_fillChain_66 hl (by decide) rfl (fun ls hl => ?_)
    exact k_X1_fillChain_68 F hr (N := N)  N x1 x3 x2 (0 : Int32) g2' ls H locs hE hM (lv_sub hl [2, 3, 5, 1, 0] rfl)
  · replace hE := (if_neg c18).symm.trans hE
    refine lv_iload hx hb dX1_fillChain_21 (lv_at hl 4 rfl) ?_
    refine lv_iload_n hx hb dX1_fillChain_23 rfl (lv_at hl 1 rfl) ?_
    refine lv_icmp_eq (tgt := 62) hx hb dX1_fillChain_24 (by decide) (fun c24 => ?_) (fun c24 => ?_)
    · replace hE := (if_pos c24).symm.trans hE
      refine lv_iload_n hx hb dX1_fillChain_62 rfl (lv_at hl 2 rfl) ?_
      refine lv_istore (lv' := [(4, .int x2), (0, .ref (ad 4)), (1, .int x1), (2, .int x2), (3, .int x3), (5, .int x5)]) hx hb dX1_fillChain_63 hl (by decide) rfl (fun ls hl => ?_)
      refine lv_iconst (v := 0) hx hb dX1_fillChain_65 (by decide) ?_
      refine lv_istore (lv' := [(5, .int (0 : Int32)), (4, .int x2), (0, .ref (ad 4)), (1, .int x1), (2, .int x2), (3, .int x3)]) hx hb dX1_fillChain_66 hl (by decide) rfl (fun ls hl => ?_)
      exact k_X1_fillChain_68 F hr (N := N)  N x1 x3 x2 (0 : Int32) g2' ls H locs hE hM (lv_sub hl [2, 3, 5, 1, 0] rfl)
    · replace hE := (if_neg c24).symm.trans hE
      refine lv_iload_n hx hb dX1_fillChain_27 rfl (lv_at hl 3 rfl) ?_
      refine lv_aload_n hx hb dX1_fillChain_28 rfl (lv_at hl 0 rfl) ?_
      refine m_get F hM 4 mg_4 rfl 1 (by decide) (by decide +kernel) (by decide +kernel) (v := .ref (ad 10)) rfl dX1_fillChain_29 ?_
      refine lv_aload_n hx hb dX1_fillChain_32 rfl (lv_at hl 0 rfl) ?_
      refine m_get F hM 4 mg_4 rfl 3 (by decide) (by decide +kernel) (by decide +kernel) (v := .ref (ad 27)) rfl dX1_fillChain_33 ?_
      refine lv_iload hx hb dX1_fillChain_36 (lv_at hl 4 rfl) ?_
      obtain ⟨hi38_11, hE⟩ := ck_some hE
      refine m_iald (g := (A 27)) F hM mg_27 rfl hi38_11 dX1_fillChain_38 ?_
      obtain ⟨hi39_12, hE⟩ := ck_some hE
      refine m_aald F hM mg_10 hi39_12 dX1_fillChain_39 ?_
      refine lv_iload hx hb dX1_fillChain_40 (lv_at hl 4 rfl) ?_
      obtain ⟨hi42_13, hE⟩ := ck_some hE
      refine m_rald (M := g2') F hM (by decide) (vp_lt hi39_12) rfl hi42_13 dX1_fillChain_42 ?_
      refine va_mmin hx hb (F.1.2.2.1.trans hl.1.symm) F.1.2.2.2.1 (F.1.2.2.2.2 (.methodLink RX1 59 Lib.Math.min.name) (by decide +kernel)) (F.1.2.2.2.2 (.static Lib.Math.min.name) (by decide +kernel)) (F.1.2.2.2.2 (.initialized "java/lang/Math") (by decide +kernel)) (F.1.2.2.2.2 (.code Lib.Math.min.name Lib.Math.min.code 2 (some .int)) (by decide +kernel)) (Nat.le_of_ble_eq_true rfl) (Nat.le_of_ble_eq_true rfl) (Nat.le_refl 0) (Nat.le_refl 0) dX1_fillChain_43 ?_
      obtain ⟨v46_14, ev46_14, hE⟩ := nmd_some hE
      refine m_topi ev46_14 ?_
      refine lv_istore_n (lv' := [(3, .int v46_14), (0, .ref (ad 4)), (1, .int x1), (2, .int x2), (4, .int x4), (5, .int x5)]) hx hb dX1_fillChain_46 rfl hl (by decide) rfl (fun ls hl => ?_)
      refine lv_aload_n hx hb dX1_fillChain_47 rfl (lv_at hl 1 rfl) ?_
      refine m_get F hM 4 mg_4 rfl 3 (by decide) (by decide +kernel) (by decide +kernel) (v := .ref (ad 27)) rfl dX1_fillChain_48 ?_
      refine lv_iload hx hb dX1_fillChain_51 (lv_at hl 4 rfl) ?_
      obtain ⟨hi53_15, hE⟩ := ck_some hE
      refine m_iald (g := (A 27)) F hM mg_27 rfl hi53_15 dX1_fillChain_53 ?_
      refine lv_istore (lv' := [(4, .int ((A 27) x4.toNatClampNeg)), (3, .int v46_14), (0, .ref (ad 4)), (1, .int x1), (2, .int x2), (5, .int x5)]) hx hb dX1_fillChain_54 hl (by decide) rfl (fun ls hl => ?_)
      refine lv_iinc (v := x5 + (1 : Int32)) (lv' := [(5, .int (x5 + (1 : Int32))), (4, .int ((A 27) x4.toNatClampNeg)), (3, .int v46_14), (0, .ref (ad 4)), (1, .int x1), (2, .int x2)]) hx hb dX1_fillChain_56 hl (k := 5) rfl rfl (by decide) rfl (fun ls hl => ?_)
      refine lv_goto (tgt := 9) hx hb dX1_fillChain_59 (by decide) ?_
      exact hn9 x1 x2 v46_14 ((A 27) x4.toNatClampNeg) (x5 + (1 : Int32)) g2' ls H locs hE hM (lv_sub hl [3, 4, 5, 2, 1, 0] rfl)
theorem k_X1_fillChain_9 {p : Program} {l : Launch} {e : Env} {s : State} {m : MethodId} {args : Array Value} {below : List Frame} {meth : Method} {c : Code} {D : va_G} {y : Nat → ClassId} {nn : Nat} {ad : Nat → Nat} {A0 : Nat → Prop} {I : Nat → Int32} {J : Nat → Int64} {A : Nat → Nat → Int32} {B : Nat → Nat → Int64} {G : Nat → Nat → Nat → Int32} (F : Fx p s m args meth c cX1_fillChain 6 wsX1_fillChain RX1 D y A0) (hr : meth.sig.returnType = (some .int)) {out : Int32 × (Nat → Nat → Int32)} {N : Nat}  : ∀ (n : Nat), ∀ (x1 : Int32) (x2 : Int32) (x3 : Int32) (x4 : Int32) (x5 : Int32) (g2' : Nat → Nat → Int32) (ls : Array Slot) (H : Heap) (locs : List Loc), lq6 (f_X1_fillChain_9 N nn (I 0) (A 27) ) n x1 x2 x3 x4 x5 g2' = some out → MM D y nn ad A0 s.heap I J A B (va_up G 2 g2') H locs → lv_has ls 6 [(0, .ref (ad 4)), (1, .int x1), (2, .int x2), (3, .int x3), (4, .int x4), (5, .int x5)] → W p l e ({ frames := 1, cells := 0, slots := 0, locals := 22 } : Room) s m args below meth c H locs 0 0 (MQ below (mQi D y nn ad A0 out.1 (I, J, A, B, (va_up G 2 out.2))) args s 0 0 A0) (F0 m 9 ls []) := by
  intro n
  induction n with
  | zero =>
    intro x1 x2 x3 x4 x5 g2' ls H locs hE
    cases (show (none : Option _) = some out from hE)
  | succ n ih =>
    intro x1 x2 x3 x4 x5 g2' ls H locs hE hM hl
    exact s_X1_fillChain_9 F hr (N := N)  (lq6 (f_X1_fillChain_9 N nn (I 0) (A 27) ) n) ih x1 x2 x3 x4 x5 g2' ls H locs hE hM hl
set_option maxHeartbeats 4000000 in
set_option maxRecDepth 100000 in
theorem c_X1_fillChain (l : Launch) (D : va_G) (y : Nat → ClassId) (nn : Nat) (ad : Nat → Nat) (sz : Nat) (I : Nat → Int32) (J : Nat → Int64) (A : Nat → Nat → Int32) (B : Nat → Nat → Int64) (G : Nat → Nat → Nat → Int32) (p1 : Int32) (p2 : Int32) (N : Nat) (out : Int32 × (Nat → Nat → Int32)) (hE : f_X1_fillChain N nn (I 0) (A 27) (G 2) p1 p2 = some out) : Met l yX1_fillChain wsX1_fillChain ({ frames := 1, cells := 0, slots := 0, locals := 22 } : Room) (mPc [.ref (ad 4), .int p1, .int p2] D y nn ad sz I J A B G) (mQi D y nn ad (mA y nn ad I J A B G sz) out.1 (I, J, A, B, (va_up G 2 out.2))) 0 0 (mA y nn ad I J A B G sz) := by
  refine Met.ofW (cc := cX1_fillChain) (maxL := 6) (ret := (some .int)) (by decide) rfl ?_
  intro p e s m args below meth c s₁ Bd hml hv
  obtain ⟨rfl, hsz, hP, hK, hD0, hN⟩ := hv
  have hr := Bd.returns
  subst hsz
  have F : Fx p s m ([.ref (ad 4), .int p1, .int p2] : List Value).toArray meth c cX1_fillChain 6 wsX1_fillChain RX1 D y (mA y nn ad I J A B G s.heap.size) := ⟨⟨Bd.exec, Bd.bytes, hml, findClass_of_methodNamed Bd.named, atoms_spec (ws := wsX1_fillChain) Bd.pre⟩, hK, hN, fun q h => Or.inr h, Bd.notSynchronized⟩
  have hM := m_start (s := s) rfl hP hD0
  have hM := m_mem (I2 := I) (J2 := J) (A2 := A) (B2 := B) (G2 := (va_up G 2 (G 2))) hM (by rfl) (by rfl) (by rfl) (by rfl) (by simp only [up_id])
  have hx := F.1.1
  have hb := F.1.2.1
  have hl := lv_entry ([.ref (ad 4), .int p1, .int p2]) (n := 6) (Nat.le_of_ble_eq_true rfl)
  rw [lg_entry_eq]
  generalize (lg_sl ([.ref (ad 4), .int p1, .int p2]) ++ List.replicate (6 - (lg_sl ([.ref (ad 4), .int p1, .int p2])).length) Slot.unset).toArray = ls at hl ⊢
  have hl : lv_has ls 6 [(0, .ref (ad 4)), (1, .int p1), (2, .int p2)] := hl
  show W p l e ({ frames := 1, cells := 0, slots := 0, locals := 22 } : Room) s m _ below meth c s.heap [] 0 0 _ _
  obtain ⟨locs, hlo⟩ : ∃ locs : List Loc, locs = [] := ⟨_, rfl⟩
  rw [← hlo]; rw [← hlo] at hM
  unfold f_X1_fillChain at hE
  revert hM
  suffices hH : ∀ H : Heap, MM D y nn ad (mA y nn ad I J A B G s.heap.size) s.heap I J A B (va_up G 2 (G 2)) H locs → W p l e ({ frames := 1, cells := 0, slots := 0, locals := 22 } : Room) s m ([.ref (ad 4), .int p1, .int p2] : List Value).toArray below meth c H locs 0 0 (MQ below (mQi D y nn ad (mA y nn ad I J A B G s.heap.size) out.1 (I, J, A, B, (va_up G 2 out.2))) ([.ref (ad 4), .int p1, .int p2] : List Value).toArray s 0 0 (mA y nn ad I J A B G s.heap.size)) (F0 m 0 ls []) from hH s.heap
  intro H hM
  refine lv_ldc (v := 2147483647) hx hb F.1.2.2.2.1 (F.1.2.2.2.2 (.constant RX1 58 (2147483647)) (by decide +kernel)) dX1_fillChain_0 ?_
  refine lv_istore_n (lv' := [(3, .int (2147483647 : Int32)), (0, .ref (ad 4)), (1, .int p1), (2, .int p2)]) hx hb dX1_fillChain_2 rfl hl (by decide) rfl (fun ls hl => ?_)
  refine lv_iload_n hx hb dX1_fillChain_3 rfl (lv_at hl 3 rfl) ?_
  refine lv_istore (lv' := [(4, .int p2), (3, .int (2147483647 : Int32)), (0, .ref (ad 4)), (1, .int p1), (2, .int p2)]) hx hb dX1_fillChain_4 hl (by decide) rfl (fun ls hl => ?_)
  refine lv_iconst (v := 0) hx hb dX1_fillChain_6 (by decide) ?_
  refine lv_istore (lv' := [(5, .int (0 : Int32)), (4, .int p2), (3, .int (2147483647 : Int32)), (0, .ref (ad 4)), (1, .int p1), (2, .int p2)]) hx hb dX1_fillChain_7 hl (by decide) rfl (fun ls hl => ?_)
  exact k_X1_fillChain_9 F hr (N := N)  N p1 p2 (2147483647 : Int32) p2 (0 : Int32) (G 2) ls H locs hE hM (lv_sub hl [3, 4, 5, 2, 1, 0] rfl)
/-! ===== X1_width: reads I0 G1, writes A26 A27 G2, frames 2, locals 49 ===== -/
def f_X1_width_70 (N : Nat) (nn : Nat) (i0 : Int32) (g1 : Nat → Nat → Int32)  (nx70 : Int32 → Int32 → Int64 → Int32 → (Nat → Int32) → (Nat → Int32) → (Nat → Nat → Int32) → Option (Int64 × (Nat → Int32) × (Nat → Int32) × (Nat → Nat → Int32))) (x1 : Int32) (x2 : Int32) (x3 : Int64) (x5 : Int32) (a26' : Nat → Int32) (a27' : Nat → Int32) (g2' : Nat → Nat → Int32) : Option (Int64 × (Nat → Int32) × (Nat → Int32) × (Nat → Nat → Int32)) :=
(if (1000000 : Int32) ≤ x5 then
some (x3, a26', a27', g2')
else
bd (f_X1_findChain N nn i0 g2' a26' a27' x1 x2) fun o80_0 =>
(if o80_0.1 = (0 : Int32) then
some (x3, o80_0.2.1, o80_0.2.2, g2')
else
bd (f_X1_fillChain N nn i0 o80_0.2.2 g2' x1 x2) fun o90_1 =>
nx70 x1 x2 (x3 + o90_1.1.toInt64) (x5 + (1 : Int32)) o80_0.2.1 o80_0.2.2 o90_1.2))
def f_X1_width_16 (N : Nat) (nn : Nat) (i0 : Int32) (g1 : Nat → Nat → Int32) (nx2 : Int32 → Int32 → Int32 → (Nat → Int32) → (Nat → Int32) → (Nat → Nat → Int32) → Option (Int64 × (Nat → Int32) × (Nat → Int32) × (Nat → Nat → Int32))) (nx16 : Int32 → Int32 → Int32 → Int32 → (Nat → Int32) → (Nat → Int32) → (Nat → Nat → Int32) → Option (Int64 × (Nat → Int32) × (Nat → Int32) × (Nat → Nat → Int32))) (x1 : Int32) (x2 : Int32) (x3 : Int32) (x4 : Int32) (a26' : Nat → Int32) (a27' : Nat → Int32) (g2' : Nat → Nat → Int32) : Option (Int64 × (Nat → Int32) × (Nat → Int32) × (Nat → Nat → Int32)) :=
(if i0 ≤ x4 then
nx2 x1 x2 (x3 + (1 : Int32)) a26' a27' g2'
else
ck x3 nn (
ck x3 nn (
ck x4 nn (
ck x4 nn (
nmd (va_up g2' x3.toNatClampNeg (upd (g2' x3.toNatClampNeg) x4.toNatClampNeg (if (0 : Int32) < (g1 x3.toNatClampNeg x4.toNatClampNeg) then (g1 x3.toNatClampNeg x4.toNatClampNeg) else (0 : Int32)))) fun w52_6 =>
nx16 x1 x2 x3 (x4 + (1 : Int32)) a26' a27' w52_6)))))
def f_X1_width_2 (N : Nat) (nn : Nat) (i0 : Int32) (g1 : Nat → Nat → Int32)  (nx2 : Int32 → Int32 → Int32 → (Nat → Int32) → (Nat → Int32) → (Nat → Nat → Int32) → Option (Int64 × (Nat → Int32) × (Nat → Int32) × (Nat → Nat → Int32))) (x1 : Int32) (x2 : Int32) (x3 : Int32) (a26' : Nat → Int32) (a27' : Nat → Int32) (g2' : Nat → Nat → Int32) : Option (Int64 × (Nat → Int32) × (Nat → Int32) × (Nat → Nat → Int32)) :=
(if i0 ≤ x3 then
lq7 (f_X1_width_70 N nn i0 g1 ) N x1 x2 (0 : Int64) (0 : Int32) a26' a27' g2'
else
lq7 (f_X1_width_16 N nn i0 g1 nx2) N x1 x2 x3 (0 : Int32) a26' a27' g2')
def f_X1_width (N : Nat) (nn : Nat) (i0 : Int32) (g1 : Nat → Nat → Int32) (a26 : Nat → Int32) (a27 : Nat → Int32) (g2 : Nat → Nat → Int32) (p1 : Int32) (p2 : Int32) : Option (Int64 × (Nat → Int32) × (Nat → Int32) × (Nat → Nat → Int32)) :=
lq6 (f_X1_width_2 N nn i0 g1 ) N p1 p2 (0 : Int32) a26 a27 g2
set_option maxHeartbeats 4000000 in
set_option maxRecDepth 100000 in
theorem s_X1_width_70 {p : Program} {l : Launch} {e : Env} {s : State} {m : MethodId} {args : Array Value} {below : List Frame} {meth : Method} {c : Code} {D : va_G} {y : Nat → ClassId} {nn : Nat} {ad : Nat → Nat} {A0 : Nat → Prop} {I : Nat → Int32} {J : Nat → Int64} {A : Nat → Nat → Int32} {B : Nat → Nat → Int64} {G : Nat → Nat → Nat → Int32} (F : Fx p s m args meth c cX1_width 6 wsX1_width RX1 D y A0) (hr : meth.sig.returnType = (some .long)) {out : Int64 × (Nat → Int32) × (Nat → Int32) × (Nat → Nat → Int32)} {N : Nat}  (nx70 : Int32 → Int32 → Int64 → Int32 → (Nat → Int32) → (Nat → Int32) → (Nat → Nat → Int32) → Option (Int64 × (Nat → Int32) × (Nat → Int32) × (Nat → Nat → Int32))) (hn70 : ∀ (x1 : Int32) (x2 : Int32) (x3 : Int64) (x5 : Int32) (a26' : Nat → Int32) (a27' : Nat → Int32) (g2' : Nat → Nat → Int32) (ls : Array Slot) (H : Heap) (locs : List Loc), nx70 x1 x2 x3 x5 a26' a27' g2' = some out → MM D y nn ad A0 s.heap I J (va_up (va_up A 26 a26') 27 a27') B (va_up G 2 g2') H locs → lv_has ls 6 [(0, .ref (ad 4)), (1, .int x1), (2, .int x2), (3, .long x3), (5, .int x5)] → W p l e ({ frames := 2, cells := 0, slots := 0, locals := 49 } : Room) s m args below meth c H locs 0 0 (MQ below (mQl D y nn ad A0 out.1 (I, J, (va_up (va_up A 26 out.2.1) 27 out.2.2.1), B, (va_up G 2 out.2.2.2))) args s 0 0 A0) (F0 m 70 ls [])) : ∀ (x1 : Int32) (x2 : Int32) (x3 : Int64) (x5 : Int32) (a26' : Nat → Int32) (a27' : Nat → Int32) (g2' : Nat → Nat → Int32) (ls : Array Slot) (H : Heap) (locs : List Loc), f_X1_width_70 N nn (I 0) (G 1)  nx70 x1 x2 x3 x5 a26' a27' g2' = some out → MM D y nn ad A0 s.heap I J (va_up (va_up A 26 a26') 27 a27') B (va_up G 2 g2') H locs → lv_has ls 6 [(0, .ref (ad 4)), (1, .int x1), (2, .int x2), (3, .long x3), (5, .int x5)] → W p l e ({ frames := 2, cells := 0, slots := 0, locals := 49 } : Room) s m args below meth c H locs 0 0 (MQ below (mQl D y nn ad A0 out.1 (I, J, (va_up (va_up A 26 out.2.1) 27 out.2.2.1), B, (va_up G 2 out.2.2.2))) args s 0 0 A0) (F0 m 70 ls []) := by
  intro x1 x2 x3 x5 a26' a27' g2' ls H locs hE hM hl
  have hx := F.1.1
  have hb := F.1.2.1
  unfold f_X1_width_70 at hE
  refine lv_iload hx hb dX1_width_70 (lv_at hl 4 rfl) ?_
  refine lv_ldc (v := 1000000) hx hb F.1.2.2.2.1 (F.1.2.2.2.2 (.constant RX1 42 (1000000)) (by decide +kernel)) dX1_width_72 ?_
  refine lv_icmp_ge (tgt := 102) hx hb dX1_width_74 (by decide) (fun c74 => ?_) (fun c74 => ?_)
  · replace hE := (if_pos c74).symm.trans hE
    refine lv_lload_n hx hb dX1_width_102 rfl (lv_at hl 3 rfl) ?_
    obtain rfl := Option.some.inj hE
    exact m_lret F hM hr rfl rfl dX1_width_103
  · replace hE := (if_neg c74).symm.trans hE
    refine lv_aload_n hx hb dX1_width_77 rfl (lv_at hl 0 rfl) ?_
    refine lv_iload_n hx hb dX1_width_78 rfl (lv_at hl 1 rfl) ?_
    refine lv_iload_n hx hb dX1_width_79 rfl (lv_at hl 2 rfl) ?_
    obtain ⟨o80_0, ho80_0, hE⟩ := bd_some hE
    refine m_callVi (As := [.int x1, .int x2]) (I2 := I) (J2 := J) (A2 := (va_up (va_up A 26 o80_0.2.1) 27 o80_0.2.2)) (B2 := B) (G2 := (va_up G 2 g2')) F hM (c_X1_findChain l D y nn ad H.size I J (va_up (va_up A 26 a26') 27 a27') B (va_up G 2 g2') x1 x2 N o80_0 ho80_0) (cwV 2 F.1.2.2.2.2 gX1_width_X1_findChain rfl rfl rfl (by decide +kernel) ⟨Nat.le_of_ble_eq_true rfl, Nat.le_of_ble_eq_true rfl⟩) (m_recv F hM mg_4 rfl) rfl hl.1 (Nat.le_of_ble_eq_true rfl) dX1_width_80 ⟨Nat.le_refl 0, Nat.le_refl 0⟩ rfl rfl un_26_27__26_27 rfl rfl (fun H locs hM => ?_)
    refine lv_if_eq (tgt := 102) hx hb dX1_width_83 (by decide) (fun c83 => ?_) (fun c83 => ?_)
    · replace hE := (if_pos c83).symm.trans hE
      refine lv_lload_n hx hb dX1_width_102 rfl (lv_at hl 3 rfl) ?_
      obtain rfl := Option.some.inj hE
      exact m_lret F hM hr rfl rfl dX1_width_103
    · replace hE := (if_neg c83).symm.trans hE
      refine lv_lload_n hx hb dX1_width_86 rfl (lv_at hl 3 rfl) ?_
      refine lv_aload_n hx hb dX1_width_87 rfl (lv_at hl 0 rfl) ?_
      refine lv_iload_n hx hb dX1_width_88 rfl (lv_at hl 1 rfl) ?_
      refine lv_iload_n hx hb dX1_width_89 rfl (lv_at hl 2 rfl) ?_
      obtain ⟨o90_1, ho90_1, hE⟩ := bd_some hE
      refine m_callVi (As := [.int x1, .int x2]) (I2 := I) (J2 := J) (A2 := (va_up (va_up A 26 o80_0.2.1) 27 o80_0.2.2)) (B2 := B) (G2 := (va_up G 2 o90_1.2)) F hM (c_X1_fillChain l D y nn ad H.size I J (va_up (va_up A 26 o80_0.2.1) 27 o80_0.2.2) B (va_up G 2 g2') x1 x2 N o90_1 ho90_1) (cwV 2 F.1.2.2.2.2 gX1_width_X1_fillChain rfl rfl rfl (by decide +kernel) ⟨Nat.le_of_ble_eq_true rfl, Nat.le_of_ble_eq_true rfl⟩) (m_recv F hM mg_4 rfl) rfl hl.1 (Nat.le_of_ble_eq_true rfl) dX1_width_90 ⟨Nat.le_refl 0, Nat.le_refl 0⟩ rfl rfl rfl rfl (bx_uu _ _ _ _) (fun H locs hM => ?_)
      refine lv_i2l hx hb dX1_width_93 rfl ?_
      refine lv_ladd hx hb dX1_width_94 ?_
      refine lv_lstore_n (lv' := [(3, .long (x3 + o90_1.1.toInt64)), (0, .ref (ad 4)), (1, .int x1), (2, .int x2), (5, .int x5)]) hx hb dX1_width_95 rfl hl (by decide) rfl (fun ls hl => ?_)
      refine lv_iinc (v := x5 + (1 : Int32)) (lv' := [(5, .int (x5 + (1 : Int32))), (3, .long (x3 + o90_1.1.toInt64)), (0, .ref (ad 4)), (1, .int x1), (2, .int x2)]) hx hb dX1_width_96 hl (k := 4) rfl rfl (by decide) rfl (fun ls hl => ?_)
      refine lv_goto (tgt := 70) hx hb dX1_width_99 (by decide) ?_
      exact hn70 x1 x2 (x3 + o90_1.1.toInt64) (x5 + (1 : Int32)) o80_0.2.1 o80_0.2.2 o90_1.2 ls H locs hE hM (lv_sub hl [2, 3, 4, 1, 0] rfl)
theorem k_X1_width_70 {p : Program} {l : Launch} {e : Env} {s : State} {m : MethodId} {args : Array Value} {below : List Frame} {meth : Method} {c : Code} {D : va_G} {y : Nat → ClassId} {nn : Nat} {ad : Nat → Nat} {A0 : Nat → Prop} {I : Nat → Int32} {J : Nat → Int64} {A : Nat → Nat → Int32} {B : Nat → Nat → Int64} {G : Nat → Nat → Nat → Int32} (F : Fx p s m args meth c cX1_width 6 wsX1_width RX1 D y A0) (hr : meth.sig.returnType = (some .long)) {out : Int64 × (Nat → Int32) × (Nat → Int32) × (Nat → Nat → Int32)} {N : Nat}  : ∀ (n : Nat), ∀ (x1 : Int32) (x2 : Int32) (x3 : Int64) (x5 : Int32) (a26' : Nat → Int32) (a27' : Nat → Int32) (g2' : Nat → Nat → Int32) (ls : Array Slot) (H : Heap) (locs : List Loc), lq7 (f_X1_width_70 N nn (I 0) (G 1) ) n x1 x2 x3 x5 a26' a27' g2' = some out → MM D y nn ad A0 s.heap I J (va_up (va_up A 26 a26') 27 a27') B (va_up G 2 g2') H locs → lv_has ls 6 [(0, .ref (ad 4)), (1, .int x1), (2, .int x2), (3, .long x3), (5, .int x5)] → W p l e ({ frames := 2, cells := 0, slots := 0, locals := 49 } : Room) s m args below meth c H locs 0 0 (MQ below (mQl D y nn ad A0 out.1 (I, J, (va_up (va_up A 26 out.2.1) 27 out.2.2.1), B, (va_up G 2 out.2.2.2))) args s 0 0 A0) (F0 m 70 ls []) := by
  intro n
  induction n with
  | zero =>
    intro x1 x2 x3 x5 a26' a27' g2' ls H locs hE
    cases (show (none : Option _) = some out from hE)
  | succ n ih =>
    intro x1 x2 x3 x5 a26' a27' g2' ls H locs hE hM hl
    exact s_X1_width_70 F hr (N := N)  (lq7 (f_X1_width_70 N nn (I 0) (G 1) ) n) ih x1 x2 x3 x5 a26' a27' g2' ls H locs hE hM hl
set_option maxHeartbeats 4000000 in
set_option maxRecDepth 100000 in
theorem s_X1_width_16 {p : Program} {l : Launch} {e : Env} {s : State} {m : MethodId} {args : Array Value} {below : List Frame} {meth : Method} {c : Code} {D : va_G} {y : Nat → ClassId} {nn : Nat} {ad : Nat → Nat} {A0 : Nat → Prop} {I : Nat → Int32} {J : Nat → Int64} {A : Nat → Nat → Int32} {B : Nat → Nat → Int64} {G : Nat → Nat → Nat → Int32} (F : Fx p s m args meth c cX1_width 6 wsX1_width RX1 D y A0) (hr : meth.sig.returnType = (some .long)) {out : Int64 × (Nat → Int32) × (Nat → Int32) × (Nat → Nat → Int32)} {N : Nat} (nx2 : Int32 → Int32 → Int32 → (Nat → Int32) → (Nat → Int32) → (Nat → Nat → Int32) → Option (Int64 × (Nat → Int32) × (Nat → Int32) × (Nat → Nat → Int32))) (hn2 : ∀ (x1 : Int32) (x2 : Int32) (x3 : Int32) (a26' : Nat → Int32) (a27' : Nat → Int32) (g2' : Nat → Nat → Int32) (ls : Array Slot) (H : Heap) (locs : List Loc), nx2 x1 x2 x3 a26' a27' g2' = some out → MM D y nn ad A0 s.heap I J (va_up (va_up A 26 a26') 27 a27') B (va_up G 2 g2') H locs → lv_has ls 6 [(0, .ref (ad 4)), (1, .int x1), (2, .int x2), (3, .int x3)] → W p l e ({ frames := 2, cells := 0, slots := 0, locals := 49 } : Room) s m args below meth c H locs 0 0 (MQ below (mQl D y nn ad A0 out.1 (I, J, (va_up (va_up A 26 out.2.1) 27 out.2.2.1), B, (va_up G 2 out.2.2.2))) args s 0 0 A0) (F0 m 2 ls [])) (nx16 : Int32 → Int32 → Int32 → Int32 → (Nat → Int32) → (Nat → Int32) → (Nat → Nat → Int32) → Option (Int64 × (Nat → Int32) × (Nat → Int32) × (Nat → Nat → Int32))) (hn16 : ∀ (x1 : Int32) (x2 : Int32) (x3 : Int32) (x4 : Int32) (a26' : Nat → Int32) (a27' : Nat → Int32) (g2' : Nat → Nat → Int32) (ls : Array Slot) (H : Heap) (locs : List Loc), nx16 x1 x2 x3 x4 a26' a27' g2' = some out → MM D y nn ad A0 s.heap I J (va_up (va_up A 26 a26') 27 a27') B (va_up G 2 g2') H locs → lv_has ls 6 [(0, .ref (ad 4)), (1, .int x1), (2, .int x2), (3, .int x3), (4, .int x4)] → W p l e ({ frames := 2, cells := 0, slots := 0, locals := 49 } : Room) s m args below meth c H locs 0 0 (MQ below (mQl D y nn ad A0 out.1 (I, J, (va_up (va_up A 26 out.2.1) 27 out.2.2.1), B, (va_up G 2 out.2.2.2))) args s 0 0 A0) (F0 m 16 ls [])) : ∀ (x1 : Int32) (x2 : Int32) (x3 : Int32) (x4 : Int32) (a26' : Nat → Int32) (a27' : Nat → Int32) (g2' : Nat → Nat → Int32) (ls : Array Slot) (H : Heap) (locs : List Loc), f_X1_width_16 N nn (I 0) (G 1) nx2 nx16 x1 x2 x3 x4 a26' a27' g2' = some out → MM D y nn ad A0 s.heap I J (va_up (va_up A 26 a26') 27 a27') B (va_up G 2 g2') H locs → lv_has ls 6 [(0, .ref (ad 4)), (1, .int x1), (2, .int x2), (3, .int x3), (4, .int x4)] → W p l e ({ frames := 2, cells := 0, slots := 0, locals := 49 } : Room) s m args below meth c H locs 0 0 (MQ below (mQl D y nn ad A0 out.1 (I, J, (va_up (va_up A 26 out.2.1) 27 out.2.2.1), B, (va_up G 2 out.2.2.2))) args s 0 0 A0) (F0 m 16 ls []) := by
  intro x1 x2 x3 x4 a26' a27' g2' ls H locs hE hM hl
  have hx := F.1.1
  have hb := F.1.2.1
  unfold f_X1_width_16 at hE
  refine lv_iload hx hb dX1_width_16 (lv_at hl 4 rfl) ?_
  refine lv_aload_n hx hb dX1_width_18 rfl (lv_at hl 0 rfl) ?_
  refine m_get F hM 4 mg_4 rfl 0 (by decide) (by decide +kernel) (by decide +kernel) (v := .ref (ad 1)) rfl dX1_width_19 ?_
  refine m_getN F hM 1 mg_1 rfl 0 (by decide) (by decide +kernel) (by decide +kernel) (v := .int (I 0)) rfl dX1_width_22 ?_
  refine lv_icmp_ge (tgt := 59) hx hb dX1_width_25 (by decide) (fun c25 => ?_) (fun c25 => ?_)
  · replace hE := (if_pos c25).symm.trans hE
    refine lv_iinc (v := x3 + (1 : Int32)) (lv' := [(3, .int (x3 + (1 : Int32))), (0, .ref (ad 4)), (1, .int x1), (2, .int x2), (4, .int x4)]) hx hb dX1_width_59 hl (k := 3) rfl rfl (by decide) rfl (fun ls hl => ?_)
    refine lv_goto (tgt := 2) hx hb dX1_width_62 (by decide) ?_
    exact hn2 x1 x2 (x3 + (1 : Int32)) a26' a27' g2' ls H locs hE hM (lv_sub hl [1, 2, 3, 0] rfl)
  · replace hE := (if_neg c25).symm.trans hE
    refine lv_aload_n hx hb dX1_width_28 rfl (lv_at hl 0 rfl) ?_
    refine m_get F hM 4 mg_4 rfl 1 (by decide) (by decide +kernel) (by decide +kernel) (v := .ref (ad 10)) rfl dX1_width_29 ?_
    refine lv_iload_n hx hb dX1_width_32 rfl (lv_at hl 3 rfl) ?_
    obtain ⟨hi33_2, hE⟩ := ck_some hE
    refine m_aald F hM mg_10 hi33_2 dX1_width_33 ?_
    refine lv_iload hx hb dX1_width_34 (lv_at hl 4 rfl) ?_
    refine lv_iconst (v := 0) hx hb dX1_width_36 (by decide) ?_
    refine lv_aload_n hx hb dX1_width_37 rfl (lv_at hl 0 rfl) ?_
    refine m_get F hM 4 mg_4 rfl 0 (by decide) (by decide +kernel) (by decide +kernel) (v := .ref (ad 1)) rfl dX1_width_38 ?_
    refine m_getN F hM 1 mg_1 rfl 2 (by decide) (by decide +kernel) (by decide +kernel) (v := .ref (ad 9)) rfl dX1_width_41 ?_
    refine lv_iload_n hx hb dX1_width_44 rfl (lv_at hl 3 rfl) ?_
    obtain ⟨hi45_3, hE⟩ := ck_some hE
    refine m_aald F hM mg_9 hi45_3 dX1_width_45 ?_
    refine lv_iload hx hb dX1_width_46 (lv_at hl 4 rfl) ?_
    obtain ⟨hi48_4, hE⟩ := ck_some hE
    refine m_rald (M := (G 1)) F hM (by decide) (vp_lt hi45_3) rfl hi48_4 dX1_width_48 ?_
    refine va_mmax hx hb (F.1.2.2.1.trans hl.1.symm) F.1.2.2.2.1 (F.1.2.2.2.2 (.methodLink RX1 36 Lib.Math.max.name) (by decide +kernel)) (F.1.2.2.2.2 (.static Lib.Math.max.name) (by decide +kernel)) (F.1.2.2.2.2 (.initialized "java/lang/Math") (by decide +kernel)) (F.1.2.2.2.2 (.code Lib.Math.max.name Lib.Math.max.code 2 (some .int)) (by decide +kernel)) (Nat.le_of_ble_eq_true rfl) (Nat.le_of_ble_eq_true rfl) (Nat.le_refl 0) (Nat.le_refl 0) dX1_width_49 ?_
    obtain ⟨hi52_5, hE⟩ := ck_some hE
    obtain ⟨w52_6, ew52_6, hE⟩ := nmd_some hE
    refine m_rast (M := g2') (G' := (va_up G 2 w52_6)) F hM (by decide) (vp_lt hi33_2) rfl (by rw [ew52_6]; exact (bx_uu _ _ _ _)) hi52_5 dX1_width_52 (fun H locs hM => ?_)
    refine lv_iinc (v := x4 + (1 : Int32)) (lv' := [(4, .int (x4 + (1 : Int32))), (0, .ref (ad 4)), (1, .int x1), (2, .int x2), (3, .int x3)]) hx hb dX1_width_53 hl (k := 4) rfl rfl (by decide) rfl (fun ls hl => ?_)
    refine lv_goto (tgt := 16) hx hb dX1_width_56 (by decide) ?_
    exact hn16 x1 x2 x3 (x4 + (1 : Int32)) a26' a27' w52_6 ls H locs hE hM (lv_sub hl [1, 2, 3, 4, 0] rfl)
theorem k_X1_width_16 {p : Program} {l : Launch} {e : Env} {s : State} {m : MethodId} {args : Array Value} {below : List Frame} {meth : Method} {c : Code} {D : va_G} {y : Nat → ClassId} {nn : Nat} {ad : Nat → Nat} {A0 : Nat → Prop} {I : Nat → Int32} {J : Nat → Int64} {A : Nat → Nat → Int32} {B : Nat → Nat → Int64} {G : Nat → Nat → Nat → Int32} (F : Fx p s m args meth c cX1_width 6 wsX1_width RX1 D y A0) (hr : meth.sig.returnType = (some .long)) {out : Int64 × (Nat → Int32) × (Nat → Int32) × (Nat → Nat → Int32)} {N : Nat} (nx2 : Int32 → Int32 → Int32 → (Nat → Int32) → (Nat → Int32) → (Nat → Nat → Int32) → Option (Int64 × (Nat → Int32) × (Nat → Int32) × (Nat → Nat → Int32))) (hn2 : ∀ (x1 : Int32) (x2 : Int32) (x3 : Int32) (a26' : Nat → Int32) (a27' : Nat → Int32) (g2' : Nat → Nat → Int32) (ls : Array Slot) (H : Heap) (locs : List Loc), nx2 x1 x2 x3 a26' a27' g2' = some out → MM D y nn ad A0 s.heap I J (va_up (va_up A 26 a26') 27 a27') B (va_up G 2 g2') H locs → lv_has ls 6 [(0, .ref (ad 4)), (1, .int x1), (2, .int x2), (3, .int x3)] → W p l e ({ frames := 2, cells := 0, slots := 0, locals := 49 } : Room) s m args below meth c H locs 0 0 (MQ below (mQl D y nn ad A0 out.1 (I, J, (va_up (va_up A 26 out.2.1) 27 out.2.2.1), B, (va_up G 2 out.2.2.2))) args s 0 0 A0) (F0 m 2 ls [])) : ∀ (n : Nat), ∀ (x1 : Int32) (x2 : Int32) (x3 : Int32) (x4 : Int32) (a26' : Nat → Int32) (a27' : Nat → Int32) (g2' : Nat → Nat → Int32) (ls : Array Slot) (H : Heap) (locs : List Loc), lq7 (f_X1_width_16 N nn (I 0) (G 1) nx2) n x1 x2 x3 x4 a26' a27' g2' = some out → MM D y nn ad A0 s.heap I J (va_up (va_up A 26 a26') 27 a27') B (va_up G 2 g2') H locs → lv_has ls 6 [(0, .ref (ad 4)), (1, .int x1), (2, .int x2), (3, .int x3), (4, .int x4)] → W p l e ({ frames := 2, cells := 0, slots := 0, locals := 49 } : Room) s m args below meth c H locs 0 0 (MQ below (mQl D y nn ad A0 out.1 (I, J, (va_up (va_up A 26 out.2.1) 27 out.2.2.1), B, (va_up G 2 out.2.2.2))) args s 0 0 A0) (F0 m 16 ls []) := by
  intro n
  induction n with
  | zero =>
    intro x1 x2 x3 x4 a26' a27' g2' ls H locs hE
    cases (show (none : Option _) = some out from hE)
  | succ n ih =>
    intro x1 x2 x3 x4 a26' a27' g2' ls H locs hE hM hl
    exact s_X1_width_16 F hr (N := N) nx2 hn2 (lq7 (f_X1_width_16 N nn (I 0) (G 1) nx2) n) ih x1 x2 x3 x4 a26' a27' g2' ls H locs hE hM hl
set_option maxHeartbeats 4000000 in
set_option maxRecDepth 100000 in
theorem s_X1_width_2 {p : Program} {l : Launch} {e : Env} {s : State} {m : MethodId} {args : Array Value} {below : List Frame} {meth : Method} {c : Code} {D : va_G} {y : Nat → ClassId} {nn : Nat} {ad : Nat → Nat} {A0 : Nat → Prop} {I : Nat → Int32} {J : Nat → Int64} {A : Nat → Nat → Int32} {B : Nat → Nat → Int64} {G : Nat → Nat → Nat → Int32} (F : Fx p s m args meth c cX1_width 6 wsX1_width RX1 D y A0) (hr : meth.sig.returnType = (some .long)) {out : Int64 × (Nat → Int32) × (Nat → Int32) × (Nat → Nat → Int32)} {N : Nat}  (nx2 : Int32 → Int32 → Int32 → (Nat → Int32) → (Nat → Int32) → (Nat → Nat → Int32) → Option (Int64 × (Nat → Int32) × (Nat → Int32) × (Nat → Nat → Int32))) (hn2 : ∀ (x1 : Int32) (x2 : Int32) (x3 : Int32) (a26' : Nat → Int32) (a27' : Nat → Int32) (g2' : Nat → Nat → Int32) (ls : Array Slot) (H : Heap) (locs : List Loc), nx2 x1 x2 x3 a26' a27' g2' = some out → MM D y nn ad A0 s.heap I J (va_up (va_up A 26 a26') 27 a27') B (va_up G 2 g2') H locs → lv_has ls 6 [(0, .ref (ad 4)), (1, .int x1), (2, .int x2), (3, .int x3)] → W p l e ({ frames := 2, cells := 0, slots := 0, locals := 49 } : Room) s m args below meth c H locs 0 0 (MQ below (mQl D y nn ad A0 out.1 (I, J, (va_up (va_up A 26 out.2.1) 27 out.2.2.1), B, (va_up G 2 out.2.2.2))) args s 0 0 A0) (F0 m 2 ls [])) : ∀ (x1 : Int32) (x2 : Int32) (x3 : Int32) (a26' : Nat → Int32) (a27' : Nat → Int32) (g2' : Nat → Nat → Int32) (ls : Array Slot) (H : Heap) (locs : List Loc), f_X1_width_2 N nn (I 0) (G 1)  nx2 x1 x2 x3 a26' a27' g2' = some out → MM D y nn ad A0 s.heap I J (va_up (va_up A 26 a26') 27 a27') B (va_up G 2 g2') H locs → lv_has ls 6 [(0, .ref (ad 4)), (1, .int x1), (2, .int x2), (3, .int x3)] → W p l e ({ frames := 2, cells := 0, slots := 0, locals := 49 } : Room) s m args below meth c H locs 0 0 (MQ below (mQl D y nn ad A0 out.1 (I, J, (va_up (va_up A 26 out.2.1) 27 out.2.2.1), B, (va_up G 2 out.2.2.2))) args s 0 0 A0) (F0 m 2 ls []) := by
  intro x1 x2 x3 a26' a27' g2' ls H locs hE hM hl
  have hx := F.1.1
  have hb := F.1.2.1
  unfold f_X1_width_2 at hE
  refine lv_iload_n hx hb dX1_width_2 rfl (lv_at hl 3 rfl) ?_
  refine lv_aload_n hx hb dX1_width_3 rfl (lv_at hl 0 rfl) ?_
  refine m_get F hM 4 mg_4 rfl 0 (by decide) (by decide +kernel) (by decide +kernel) (v := .ref (ad 1)) rfl dX1_width_4 ?_
  refine m_getN F hM 1 mg_1 rfl 0 (by decide) (by decide +kernel) (by decide +kernel) (v := .int (I 0)) rfl dX1_width_7 ?_
  refine lv_icmp_ge (tgt := 65) hx hb dX1_width_10 (by decide) (fun c10 => ?_) (fun c10 => ?_)
  · replace hE := (if_pos c10).symm.trans hE
    refine lv_lconst (v := 0) hx hb dX1_width_65 (by decide) ?_
    refine lv_lstore_n (lv' := [(3, .long (0 : Int64)), (0, .ref (ad 4)), (1, .int x1), (2, .int x2)]) hx hb dX1_width_66 rfl hl (by decide) rfl (fun ls hl => ?_)
    refine lv_iconst (v := 0) hx hb dX1_width_67 (by decide) ?_
    refine lv_istore (lv' := [(5, .int (0 : Int32)), (3, .long (0 : Int64)), (0, .ref (ad 4)), (1, .int x1), (2, .int x2)]) hx hb dX1_width_68 hl (by decide) rfl (fun ls hl => ?_)
    exact k_X1_width_70 F hr (N := N)  N x1 x2 (0 : Int64) (0 : Int32) a26' a27' g2' ls H locs hE hM (lv_sub hl [2, 3, 4, 1, 0] rfl)
  · replace hE := (if_neg c10).symm.trans hE
    refine lv_iconst (v := 0) hx hb dX1_width_13 (by decide) ?_
    refine lv_istore (lv' := [(4, .int (0 : Int32)), (0, .ref (ad 4)), (1, .int x1), (2, .int x2), (3, .int x3)]) hx hb dX1_width_14 hl (by decide) rfl (fun ls hl => ?_)
    exact k_X1_width_16 F hr (N := N) nx2 hn2 N x1 x2 x3 (0 : Int32) a26' a27' g2' ls H locs hE hM (lv_sub hl [1, 2, 3, 4, 0] rfl)
theorem k_X1_width_2 {p : Program} {l : Launch} {e : Env} {s : State} {m : MethodId} {args : Array Value} {below : List Frame} {meth : Method} {c : Code} {D : va_G} {y : Nat → ClassId} {nn : Nat} {ad : Nat → Nat} {A0 : Nat → Prop} {I : Nat → Int32} {J : Nat → Int64} {A : Nat → Nat → Int32} {B : Nat → Nat → Int64} {G : Nat → Nat → Nat → Int32} (F : Fx p s m args meth c cX1_width 6 wsX1_width RX1 D y A0) (hr : meth.sig.returnType = (some .long)) {out : Int64 × (Nat → Int32) × (Nat → Int32) × (Nat → Nat → Int32)} {N : Nat}  : ∀ (n : Nat), ∀ (x1 : Int32) (x2 : Int32) (x3 : Int32) (a26' : Nat → Int32) (a27' : Nat → Int32) (g2' : Nat → Nat → Int32) (ls : Array Slot) (H : Heap) (locs : List Loc), lq6 (f_X1_width_2 N nn (I 0) (G 1) ) n x1 x2 x3 a26' a27' g2' = some out → MM D y nn ad A0 s.heap I J (va_up (va_up A 26 a26') 27 a27') B (va_up G 2 g2') H locs → lv_has ls 6 [(0, .ref (ad 4)), (1, .int x1), (2, .int x2), (3, .int x3)] → W p l e ({ frames := 2, cells := 0, slots := 0, locals := 49 } : Room) s m args below meth c H locs 0 0 (MQ below (mQl D y nn ad A0 out.1 (I, J, (va_up (va_up A 26 out.2.1) 27 out.2.2.1), B, (va_up G 2 out.2.2.2))) args s 0 0 A0) (F0 m 2 ls []) := by
  intro n
  induction n with
  | zero =>
    intro x1 x2 x3 a26' a27' g2' ls H locs hE
    cases (show (none : Option _) = some out from hE)
  | succ n ih =>
    intro x1 x2 x3 a26' a27' g2' ls H locs hE hM hl
    exact s_X1_width_2 F hr (N := N)  (lq6 (f_X1_width_2 N nn (I 0) (G 1) ) n) ih x1 x2 x3 a26' a27' g2' ls H locs hE hM hl
set_option maxHeartbeats 4000000 in
set_option maxRecDepth 100000 in
theorem c_X1_width (l : Launch) (D : va_G) (y : Nat → ClassId) (nn : Nat) (ad : Nat → Nat) (sz : Nat) (I : Nat → Int32) (J : Nat → Int64) (A : Nat → Nat → Int32) (B : Nat → Nat → Int64) (G : Nat → Nat → Nat → Int32) (p1 : Int32) (p2 : Int32) (N : Nat) (out : Int64 × (Nat → Int32) × (Nat → Int32) × (Nat → Nat → Int32)) (hE : f_X1_width N nn (I 0) (G 1) (A 26) (A 27) (G 2) p1 p2 = some out) : Met l yX1_width wsX1_width ({ frames := 2, cells := 0, slots := 0, locals := 49 } : Room) (mPc [.ref (ad 4), .int p1, .int p2] D y nn ad sz I J A B G) (mQl D y nn ad (mA y nn ad I J A B G sz) out.1 (I, J, (va_up (va_up A 26 out.2.1) 27 out.2.2.1), B, (va_up G 2 out.2.2.2))) 0 0 (mA y nn ad I J A B G sz) := by
  refine Met.ofW (cc := cX1_width) (maxL := 6) (ret := (some .long)) (by decide) rfl ?_
  intro p e s m args below meth c s₁ Bd hml hv
  obtain ⟨rfl, hsz, hP, hK, hD0, hN⟩ := hv
  have hr := Bd.returns
  subst hsz
  have F : Fx p s m ([.ref (ad 4), .int p1, .int p2] : List Value).toArray meth c cX1_width 6 wsX1_width RX1 D y (mA y nn ad I J A B G s.heap.size) := ⟨⟨Bd.exec, Bd.bytes, hml, findClass_of_methodNamed Bd.named, atoms_spec (ws := wsX1_width) Bd.pre⟩, hK, hN, fun q h => Or.inr h, Bd.notSynchronized⟩
  have hM := m_start (s := s) rfl hP hD0
  have hM := m_mem (I2 := I) (J2 := J) (A2 := (va_up (va_up A 26 (A 26)) 27 (A 27))) (B2 := B) (G2 := (va_up G 2 (G 2))) hM (by rfl) (by rfl) (by simp only [up_id]) (by rfl) (by simp only [up_id])
  have hx := F.1.1
  have hb := F.1.2.1
  have hl := lv_entry ([.ref (ad 4), .int p1, .int p2]) (n := 6) (Nat.le_of_ble_eq_true rfl)
  rw [lg_entry_eq]
  generalize (lg_sl ([.ref (ad 4), .int p1, .int p2]) ++ List.replicate (6 - (lg_sl ([.ref (ad 4), .int p1, .int p2])).length) Slot.unset).toArray = ls at hl ⊢
  have hl : lv_has ls 6 [(0, .ref (ad 4)), (1, .int p1), (2, .int p2)] := hl
  show W p l e ({ frames := 2, cells := 0, slots := 0, locals := 49 } : Room) s m _ below meth c s.heap [] 0 0 _ _
  obtain ⟨locs, hlo⟩ : ∃ locs : List Loc, locs = [] := ⟨_, rfl⟩
  rw [← hlo]; rw [← hlo] at hM
  unfold f_X1_width at hE
  revert hM
  suffices hH : ∀ H : Heap, MM D y nn ad (mA y nn ad I J A B G s.heap.size) s.heap I J (va_up (va_up A 26 (A 26)) 27 (A 27)) B (va_up G 2 (G 2)) H locs → W p l e ({ frames := 2, cells := 0, slots := 0, locals := 49 } : Room) s m ([.ref (ad 4), .int p1, .int p2] : List Value).toArray below meth c H locs 0 0 (MQ below (mQl D y nn ad (mA y nn ad I J A B G s.heap.size) out.1 (I, J, (va_up (va_up A 26 out.2.1) 27 out.2.2.1), B, (va_up G 2 out.2.2.2))) ([.ref (ad 4), .int p1, .int p2] : List Value).toArray s 0 0 (mA y nn ad I J A B G s.heap.size)) (F0 m 0 ls []) from hH s.heap
  intro H hM
  refine lv_iconst (v := 0) hx hb dX1_width_0 (by decide) ?_
  refine lv_istore_n (lv' := [(3, .int (0 : Int32)), (0, .ref (ad 4)), (1, .int p1), (2, .int p2)]) hx hb dX1_width_1 rfl hl (by decide) rfl (fun ls hl => ?_)
  exact k_X1_width_2 F hr (N := N)  N p1 p2 (0 : Int32) (A 26) (A 27) (G 2) ls H locs hE hM (lv_sub hl [1, 2, 3, 0] rfl)
