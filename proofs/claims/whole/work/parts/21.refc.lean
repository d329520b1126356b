/-! ===== X7_sends: reads I6 A37, writes , frames 0, locals 0 ===== -/
def f_X7_sends_4 (N : Nat) (i6 : Int32) (a37 : Nat → Int32)  (nx4 : Int32 → Int32 → Int32 → Option (Int32)) (x1 : Int32) (x2 : Int32) (x3 : Int32) : Option (Int32) :=
(if i6 ≤ x3 then
bz x2 (some x2)
else
(if x2 = (0 : Int32) then
ck (((12 : Int32) * x1) + x3) 144 (
(if (a37 (((12 : Int32) * x1) + x3).toNatClampNeg) ≤ (0 : Int32) then
nx4 x1 (0 : Int32) (x3 + (1 : Int32))
else
nx4 x1 (1 : Int32) (x3 + (1 : Int32))))
else
nx4 x1 (1 : Int32) (x3 + (1 : Int32))))
def f_X7_sends (N : Nat) (i6 : Int32) (a37 : Nat → Int32)  (p1 : Int32) : Option (Int32) :=
lq3 (f_X7_sends_4 N i6 a37 ) N p1 (0 : Int32) (0 : Int32)
set_option maxHeartbeats 4000000 in
set_option maxRecDepth 100000 in
theorem s_X7_sends_4 {p : Program} {l : Launch} {e : Env} {s : State} {m : MethodId} {args : Array Value} {below : List Frame} {meth : Method} {c : Code} {D : va_G} {y : Nat → ClassId} {nn : Nat} {ad : Nat → Nat} {A0 : Nat → Prop} {I : Nat → Int32} {J : Nat → Int64} {A : Nat → Nat → Int32} {B : Nat → Nat → Int64} {G : Nat → Nat → Nat → Int32} (F : Fx p s m args meth c cX7_sends 4 wsX7_sends RX7 D y A0) (hr : meth.sig.returnType = (some .boolean)) {out : Int32} {N : Nat}  (nx4 : Int32 → Int32 → Int32 → Option (Int32)) (hn4 : ∀ (x1 : Int32) (x2 : Int32) (x3 : Int32) (ls : Array Slot) (H : Heap) (locs : List Loc), nx4 x1 x2 x3 = some out → MM D y nn ad A0 s.heap I J A B G H locs → lv_has ls 4 [(0, .ref (ad 7)), (1, .int x1), (2, .int x2), (3, .int x3)] → W p l e ({ frames := 0, cells := 0, slots := 0, locals := 0 } : Room) s m args below meth c H locs 0 0 (MQ below (mQi D y nn ad A0 out (I, J, A, B, G)) args s 0 0 A0) (F0 m 4 ls [])) : ∀ (x1 : Int32) (x2 : Int32) (x3 : Int32) (ls : Array Slot) (H : Heap) (locs : List Loc), f_X7_sends_4 N (I 6) (A 37)  nx4 x1 x2 x3 = some out → MM D y nn ad A0 s.heap I J A B G H locs → lv_has ls 4 [(0, .ref (ad 7)), (1, .int x1), (2, .int x2), (3, .int x3)] → W p l e ({ frames := 0, cells := 0, slots := 0, locals := 0 } : Room) s m args below meth c H locs 0 0 (MQ below (mQi D y nn ad A0 out (I, J, A, B, G)) args s 0 0 A0) (F0 m 4 ls []) := by
  intro x1 x2 x3 ls H locs hE hM hl
  have hx := F.1.1
  have hb := F.1.2.1
  unfold f_X7_sends_4 at hE
  refine lv_iload_n hx hb dX7_sends_4 rfl (lv_at hl 3 rfl) ?_
  refine lv_aload_n hx hb dX7_sends_5 rfl (lv_at hl 0 rfl) ?_
  refine m_get F hM 7 mg_7 rfl 1 (by decide) (by decide +kernel) (by decide +kernel) (v := .int (I 6)) rfl dX7_sends_6 ?_
  refine lv_icmp_ge (tgt := 42) hx hb dX7_sends_9 (by decide) (fun c9 => ?_) (fun c9 => ?_)
  · replace hE := (if_pos c9).symm.trans hE
    refine lv_iload_n hx hb dX7_sends_42 rfl (lv_at hl 2 rfl) ?_
    obtain ⟨hz, hE⟩ := bz_some hE
    obtain rfl := Option.some.inj hE
    exact m_zret F hM hr hz rfl rfl dX7_sends_43
  · replace hE := (if_neg c9).symm.trans hE
    refine lv_iload_n hx hb dX7_sends_12 rfl (lv_at hl 2 rfl) ?_
    refine lv_if_ne (tgt := 30) hx hb dX7_sends_13 (by decide) (fun c13 => ?_) (fun c13 => ?_)
    · replace hE := (if_neg c13).symm.trans hE
      refine lv_iconst (v := 1) hx hb dX7_sends_30 (by decide) ?_
      refine lv_goto (tgt := 35) hx hb dX7_sends_31 (by decide) ?_
      refine lv_istore_n (lv' := [(2, .int (1 : Int32)), (0, .ref (ad 7)), (1, .int x1), (3, .int x3)]) hx hb dX7_sends_35 rfl hl (by decide) rfl (fun ls hl => ?_)
      refine lv_iinc (v := x3 + (1 : Int32)) (lv' := [(3, .int (x3 + (1 : Int32))), (2, .int (1 : Int32)), (0, .ref (ad 7)), (1, .int x1)]) hx hb dX7_sends_36 hl (k := 3) rfl rfl (by decide) rfl (fun ls hl => ?_)
      refine lv_goto (tgt := 4) hx hb dX7_sends_39 (by decide) ?_
      exact hn4 x1 (1 : Int32) (x3 + (1 : Int32)) ls H locs hE hM (lv_sub hl [2, 3, 1, 0] rfl)
    · replace hE := (if_pos c13).symm.trans hE
      refine lv_aload_n hx hb dX7_sends_16 rfl (lv_at hl 0 rfl) ?_
      refine m_get F hM 7 mg_7 rfl 12 (by decide) (by decide +kernel) (by decide +kernel) (v := .ref (ad 37)) rfl dX7_sends_17 ?_
      refine lv_bipush (v := 12) hx hb dX7_sends_20 (by decide) ?_
      refine lv_iload_n hx hb dX7_sends_22 rfl (lv_at hl 1 rfl) ?_
      refine lv_imul hx hb dX7_sends_23 ?_
      refine lv_iload_n hx hb dX7_sends_24 rfl (lv_at hl 3 rfl) ?_
      refine lv_iadd hx hb dX7_sends_25 ?_
      obtain ⟨hi26_0, hE⟩ := ck_some hE
      refine m_iald (g := (A 37)) F hM mg_37 rfl hi26_0 dX7_sends_26 ?_
      refine lv_if_le (tgt := 34) hx hb dX7_sends_27 (by decide) (fun c27 => ?_) (fun c27 => ?_)
      · replace hE := (if_pos c27).symm.trans hE
        refine lv_iconst (v := 0) hx hb dX7_sends_34 (by decide) ?_
        refine lv_istore_n (lv' := [(2, .int (0 : Int32)), (0, .ref (ad 7)), (1, .int x1), (3, .int x3)]) hx hb dX7_sends_35 rfl hl (by decide) rfl (fun ls hl => ?_)
        refine lv_iinc (v := x3 + (1 : Int32)) (lv' := [(3, .int (x3 + (1 : Int32))), (2, .int (0 : Int32)), (0, .ref (ad 7)), (1, .int x1)]) hx hb dX7_sends_36 hl (k := 3) rfl rfl (by decide) rfl (fun ls hl => ?_)
        refine lv_goto (tgt := 4) hx hb dX7_sends_39 (by decide) ?_
        exact hn4 x1 (0 : Int32) (x3 + (1 : Int32)) ls H locs hE hM (lv_sub hl [2, 3, 1, 0] rfl)
      · replace hE := (if_neg c27).symm.trans hE
        refine lv_iconst (v := 1) hx hb dX7_sends_30 (by decide) ?_
        refine lv_goto (tgt := 35) hx hb dX7_sends_31 (by decide) ?_
        refine lv_istore_n (lv' := [(2, .int (1 : Int32)), (0, .ref (ad 7)), (1, .int x1), (3, .int x3)]) hx hb dX7_sends_35 rfl hl (by decide) rfl (fun ls hl => ?_)
        refine lv_iinc (v := x3 + (1 : Int32)) (lv' := [(3, .int (x3 + (1 : Int32))), (2, .int (1 : Int32)), (0, .ref (ad 7)), (1, .int x1)]) hx hb dX7_sends_36 hl (k := 3) rfl rfl (by decide) rfl (fun ls hl => ?_)
        refine lv_goto (tgt := 4) hx hb dX7_sends_39 (by decide) ?_
        exact hn4 x1 (1 : Int32) (x3 + (1 : Int32)) ls H locs hE hM (lv_sub hl [2, 3, 1, 0] rfl)
theorem k_X7_sends_4 {p : Program} {l : Launch} {e : Env} {s : State} {m : MethodId} {args : Array Value} {below : List Frame} {meth : Method} {c : Code} {D : va_G} {y : Nat → ClassId} {nn : Nat} {ad : Nat → Nat} {A0 : Nat → Prop} {I : Nat → Int32} {J : Nat → Int64} {A : Nat → Nat → Int32} {B : Nat → Nat → Int64} {G : Nat → Nat → Nat → Int32} (F : Fx p s m args meth c cX7_sends 4 wsX7_sends RX7 D y A0) (hr : meth.sig.returnType = (some .boolean)) {out : Int32} {N : Nat}  : ∀ (n : Nat), ∀ (x1 : Int32) (x2 : Int32) (x3 : Int32) (ls : Array Slot) (H : Heap) (locs : List Loc), lq3 (f_X7_sends_4 N (I 6) (A 37) ) n x1 x2 x3 = some out → MM D y nn ad A0 s.heap I J A B G H locs → lv_has ls 4 [(0, .ref (ad 7)), (1, .int x1), (2, .int x2), (3, .int x3)] → W p l e ({ frames := 0, cells := 0, slots := 0, locals := 0 } : Room) s m args below meth c H locs 0 0 (MQ below (mQi D y nn ad A0 out (I, J, A, B, G)) args s 0 0 A0) (F0 m 4 ls []) := by
  intro n
  induction n with
  | zero =>
    intro x1 x2 x3 ls H locs hE
    cases (show (none : Option _) = some out from hE)
  | succ n ih =>
    intro x1 x2 x3 ls H locs hE hM hl
    exact s_X7_sends_4 F hr (N := N)  (lq3 (f_X7_sends_4 N (I 6) (A 37) ) n) ih x1 x2 x3 ls H locs hE hM hl
set_option maxHeartbeats 4000000 in
set_option maxRecDepth 100000 in
theorem c_X7_sends (l : Launch) (D : va_G) (y : Nat → ClassId) (nn : Nat) (ad : Nat → Nat) (sz : Nat) (I : Nat → Int32) (J : Nat → Int64) (A : Nat → Nat → Int32) (B : Nat → Nat → Int64) (G : Nat → Nat → Nat → Int32) (p1 : Int32) (N : Nat) (out : Int32) (hE : f_X7_sends N (I 6) (A 37)  p1 = some out) : Met l yX7_sends wsX7_sends ({ frames := 0, cells := 0, slots := 0, locals := 0 } : Room) (mPc [.ref (ad 7), .int p1] D y nn ad sz I J A B G) (mQi D y nn ad (mA y nn ad I J A B G sz) out (I, J, A, B, G)) 0 0 (mA y nn ad I J A B G sz) := by
  refine Met.ofW (cc := cX7_sends) (maxL := 4) (ret := (some .boolean)) (by decide) rfl ?_
  intro p e s m args below meth c s₁ Bd hml hv
  obtain ⟨rfl, hsz, hP, hK, hD0, hN⟩ := hv
  have hr := Bd.returns
  subst hsz
  have F : Fx p s m ([.ref (ad 7), .int p1] : List Value).toArray meth c cX7_sends 4 wsX7_sends RX7 D y (mA y nn ad I J A B G s.heap.size) := ⟨⟨Bd.exec, Bd.bytes, hml, findClass_of_methodNamed Bd.named, atoms_spec (ws := wsX7_sends) Bd.pre⟩, hK, hN, fun q h => Or.inr h, Bd.notSynchronized⟩
  have hM := m_start (s := s) rfl hP hD0
  have hM := m_mem (I2 := I) (J2 := J) (A2 := A) (B2 := B) (G2 := G) hM (by rfl) (by rfl) (by rfl) (by rfl) (by rfl)
  have hx := F.1.1
  have hb := F.1.2.1
  have hl := lv_entry ([.ref (ad 7), .int p1]) (n := 4) (Nat.le_of_ble_eq_true rfl)
  rw [lg_entry_eq]
  generalize (lg_sl ([.ref (ad 7), .int p1]) ++ List.replicate (4 - (lg_sl ([.ref (ad 7), .int p1])).length) Slot.unset).toArray = ls at hl ⊢
  have hl : lv_has ls 4 [(0, .ref (ad 7)), (1, .int p1)] := hl
  show W p l e ({ frames := 0, cells := 0, slots := 0, locals := 0 } : Room) s m _ below meth c s.heap [] 0 0 _ _
  obtain ⟨locs, hlo⟩ : ∃ locs : List Loc, locs = [] := ⟨_, rfl⟩
  rw [← hlo]; rw [← hlo] at hM
  unfold f_X7_sends at hE
  revert hM
  suffices hH : ∀ H : Heap, MM D y nn ad (mA y nn ad I J A B G s.heap.size) s.heap I J A B G H locs → W p l e ({ frames := 0, cells := 0, slots := 0, locals := 0 } : Room) s m ([.ref (ad 7), .int p1] : List Value).toArray below meth c H locs 0 0 (MQ below (mQi D y nn ad (mA y nn ad I J A B G s.heap.size) out (I, J, A, B, G)) ([.ref (ad 7), .int p1] : List Value).toArray s 0 0 (mA y nn ad I J A B G s.heap.size)) (F0 m 0 ls []) from hH s.heap
  intro H hM
  refine lv_iconst (v := 0) hx hb dX7_sends_0 (by decide) ?_
  refine lv_istore_n (lv' := [(2, .int (0 : Int32)), (0, .ref (ad 7)), (1, .int p1)]) hx hb dX7_sends_1 rfl hl (by decide) rfl (fun ls hl => ?_)
  refine lv_iconst (v := 0) hx hb dX7_sends_2 (by decide) ?_
  refine lv_istore_n (lv' := [(3, .int (0 : Int32)), (2, .int (0 : Int32)), (0, .ref (ad 7)), (1, .int p1)]) hx hb dX7_sends_3 rfl hl (by decide) rfl (fun ls hl => ?_)
  exact k_X7_sends_4 F hr (N := N)  N p1 (0 : Int32) (0 : Int32) ls H locs hE hM (lv_sub hl [2, 3, 1, 0] rfl)
/-! ===== X7_gets: reads I6 A37, writes , frames 0, locals 0 ===== -/
def f_X7_gets_4 (N : Nat) (i6 : Int32) (a37 : Nat → Int32)  (nx4 : Int32 → Int32 → Int32 → Option (Int32)) (x1 : Int32) (x2 : Int32) (x3 : Int32) : Option (Int32) :=
(if i6 ≤ x3 then
bz x2 (some x2)
else
(if x2 = (0 : Int32) then
ck (((12 : Int32) * x3) + x1) 144 (
(if (a37 (((12 : Int32) * x3) + x1).toNatClampNeg) ≤ (0 : Int32) then
nx4 x1 (0 : Int32) (x3 + (1 : Int32))
else
nx4 x1 (1 : Int32) (x3 + (1 : Int32))))
else
nx4 x1 (1 : Int32) (x3 + (1 : Int32))))
def f_X7_gets (N : Nat) (i6 : Int32) (a37 : Nat → Int32)  (p1 : Int32) : Option (Int32) :=
lq3 (f_X7_gets_4 N i6 a37 ) N p1 (0 : Int32) (0 : Int32)
set_option maxHeartbeats 4000000 in
set_option maxRecDepth 100000 in
theorem s_X7_gets_4 {p : Program} {l : Launch} {e : Env} {s : State} {m : MethodId} {args : Array Value} {below : List Frame} {meth : Method} {c : Code} {D : va_G} {y : Nat → ClassId} {nn : Nat} {ad : Nat → Nat} {A0 : Nat → Prop} {I : Nat → Int32} {J : Nat → Int64} {A : Nat → Nat → Int32} {B : Nat → Nat → Int64} {G : Nat → Nat → Nat → Int32} (F : Fx p s m args meth c cX7_gets 4 wsX7_gets RX7 D y A0) (hr : meth.sig.returnType = (some .boolean)) {out : Int32} {N : Nat}  (nx4 : Int32 → Int32 → Int32 → Option (Int32)) (hn4 : ∀ (x1 : Int32) (x2 : Int32) (x3 : Int32) (ls : Array Slot) (H : Heap) (locs : List Loc), nx4 x1 x2 x3 = some out → MM D y nn ad A0 s.heap I J A B G H locs → lv_has ls 4 [(0, .ref (ad 7)), (1, .int x1), (2, .int x2), (3, .int x3)] → W p l e ({ frames := 0, cells := 0, slots := 0, locals := 0 } : Room) s m args below meth c H locs 0 0 (MQ below (mQi D y nn ad A0 out (I, J, A, B, G)) args s 0 0 A0) (F0 m 4 ls [])) : ∀ (x1 : Int32) (x2 : Int32) (x3 : Int32) (ls : Array Slot) (H : Heap) (locs : List Loc), f_X7_gets_4 N (I 6) (A 37)  nx4 x1 x2 x3 = some out → MM D y nn ad A0 s.heap I J A B G H locs → lv_has ls 4 [(0, .ref (ad 7)), (1, .int x1), (2, .int x2), (3, .int x3)] → W p l e ({ frames := 0, cells := 0, slots := 0, locals := 0 } : Room) s m args below meth c H locs 0 0 (MQ below (mQi D y nn ad A0 out (I, J, A, B, G)) args s 0 0 A0) (F0 m 4 ls []) := by
  intro x1 x2 x3 ls H locs hE hM hl
  have hx := F.1.1
  have hb := F.1.2.1
  unfold f_X7_gets_4 at hE
  refine lv_iload_n hx hb dX7_gets_4 rfl (lv_at hl 3 rfl) ?_
  refine lv_aload_n hx hb dX7_gets_5 rfl (lv_at hl 0 rfl) ?_
  refine m_get F hM 7 mg_7 rfl 1 (by decide) (by decide +kernel) (by decide +kernel) (v := .int (I 6)) rfl dX7_gets_6 ?_
  refine lv_icmp_ge (tgt := 42) hx hb dX7_gets_9 (by decide) (fun c9 => ?_) (fun c9 => ?_)
  · replace hE := (if_pos c9).symm.trans hE
    refine lv_iload_n hx hb dX7_gets_42 rfl (lv_at hl 2 rfl) ?_
    obtain ⟨hz, hE⟩ := bz_some hE
    obtain rfl := Option.some.inj hE
    exact m_zret F hM hr hz rfl rfl dX7_gets_43
  · replace hE := (if_neg c9).symm.trans hE
    refine lv_iload_n hx hb dX7_gets_12 rfl (lv_at hl 2 rfl) ?_
    refine lv_if_ne (tgt := 30) hx hb dX7_gets_13 (by decide) (fun c13 => ?_) (fun c13 => ?_)
    · replace hE := (if_neg c13).symm.trans hE
      refine lv_iconst (v := 1) hx hb dX7_gets_30 (by decide) ?_
      refine lv_goto (tgt := 35) hx hb dX7_gets_31 (by decide) ?_
      refine lv_istore_n (lv' := [(2, .int (1 : Int32)), (0, .ref (ad 7)), (1, .int x1), (3, .int x3)]) hx hb dX7_gets_35 rfl hl (by decide) rfl (fun ls hl => ?_)
      refine lv_iinc (v := x3 + (1 : Int32)) (lv' := [(3, .int (x3 + (1 : Int32))), (2, .int (1 : Int32)), (0, .ref (ad 7)), (1, .int x1)]) hx hb dX7_gets_36 hl (k := 3) rfl rfl (by decide) rfl (fun ls hl => ?_)
      refine lv_goto (tgt := 4) hx hb dX7_gets_39 (by decide) ?_
      exact hn4 x1 (1 : Int32) (x3 + (1 : Int32)) ls H locs hE hM (lv_sub hl [2, 3, 1, 0] rfl)
    · replace hE := (if_pos c13).symm.trans hE
      refine lv_aload_n hx hb dX7_gets_16 rfl (lv_at hl 0 rfl) ?_
      refine m_get F hM 7 mg_7 rfl 12 (by decide) (by decide +kernel) (by decide +kernel) (v := .ref (ad 37)) rfl dX7_gets_17 ?_
      refine lv_bipush (v := 12) hx hb dX7_gets_20 (by decide) ?_
      refine lv_iload_n hx hb dX7_gets_22 rfl (lv_at hl 3 rfl) ?_
      refine lv_imul hx hb dX7_gets_23 ?_
      refine lv_iload_n hx hb dX7_gets_24 rfl (lv_at hl 1 rfl) ?_
      refine lv_iadd hx hb dX7_gets_25 ?_
      obtain ⟨hi26_0, hE⟩ := ck_some hE
      refine m_iald (g := (A 37)) F hM mg_37 rfl hi26_0 dX7_gets_26 ?_
      refine lv_if_le (tgt := 34) hx hb dX7_gets_27 (by decide) (fun c27 => ?_) (fun c27 => ?_)
      · replace hE := (if_pos c27).symm.trans hE
        refine lv_iconst (v := 0) hx hb dX7_gets_34 (by decide) ?_
        refine lv_istore_n (lv' := [(2, .int (0 : Int32)), (0, .ref (ad 7)), (1, .int x1), (3, .int x3)]) hx hb dX7_gets_35 rfl hl (by decide) rfl (fun ls hl => ?_)
        refine lv_iinc (v := x3 + (1 : Int32)) (lv' := [(3, .int (x3 + (1 : Int32))), (2, .int (0 : Int32)), (0, .ref (ad 7)), (1, .int x1)]) hx hb dX7_gets_36 hl (k := 3) rfl rfl (by decide) rfl (fun ls hl => ?_)
        refine lv_goto (tgt := 4) hx hb dX7_gets_39 (by decide) ?_
        exact hn4 x1 (0 : Int32) (x3 + (1 : Int32)) ls H locs hE hM (lv_sub hl [2, 3, 1, 0] rfl)
      · replace hE := (if_neg c27).symm.trans hE
        refine lv_iconst (v := 1) hx hb dX7_gets_30 (by decide) ?_
        refine lv_goto (tgt := 35) hx hb dX7_gets_31 (by decide) ?_
        refine lv_istore_n (lv' := [(2, .int (1 : Int32)), (0, .ref (ad 7)), (1, .int x1), (3, .int x3)]) hx hb dX7_gets_35 rfl hl (by decide) rfl (fun ls hl => ?_)
        refine lv_iinc (v := x3 + (1 : Int32)) (lv' := [(3, .int (x3 + (1 : Int32))), (2, .int (1 : Int32)), (0, .ref (ad 7)), (1, .int x1)]) hx hb dX7_gets_36 hl (k := 3) rfl rfl (by decide) rfl (fun ls hl => ?_)
        refine lv_goto (tgt := 4) hx hb dX7_gets_39 (by decide) ?_
        exact hn4 x1 (1 : Int32) (x3 + (1 : Int32)) ls H locs hE hM (lv_sub hl [2, 3, 1, 0] rfl)
theorem k_X7_gets_4 {p : Program} {l : Launch} {e : Env} {s : State} {m : MethodId} {args : Array Value} {below : List Frame} {meth : Method} {c : Code} {D : va_G} {y : Nat → ClassId} {nn : Nat} {ad : Nat → Nat} {A0 : Nat → Prop} {I : Nat → Int32} {J : Nat → Int64} {A : Nat → Nat → Int32} {B : Nat → Nat → Int64} {G : Nat → Nat → Nat → Int32} (F : Fx p s m args meth c cX7_gets 4 wsX7_gets RX7 D y A0) (hr : meth.sig.returnType = (some .boolean)) {out : Int32} {N : Nat}  : ∀ (n : Nat), ∀ (x1 : Int32) (x2 : Int32) (x3 : Int32) (ls : Array Slot) (H : Heap) (locs : List Loc), lq3 (f_X7_gets_4 N (I 6) (A 37) ) n x1 x2 x3 = some out → MM D y nn ad A0 s.heap I J A B G H locs → lv_has ls 4 [(0, .ref (ad 7)), (1, .int x1), (2, .int x2), (3, .int x3)] → W p l e ({ frames := 0, cells := 0, slots := 0, locals := 0 } : Room) s m args below meth c H locs 0 0 (MQ below (mQi D y nn ad A0 out (I, J, A, B, G)) args s 0 0 A0) (F0 m 4 ls []) := by
  intro n
  induction n with
  | zero =>
    intro x1 x2 x3 ls H locs hE
    cases (show (none : Option _) = some out from hE)
  | succ n ih =>
    intro x1 x2 x3 ls H locs hE hM hl
    exact s_X7_gets_4 F hr (N := N)  (lq3 (f_X7_gets_4 N (I 6) (A 37) ) n) ih x1 x2 x3 ls H locs hE hM hl
set_option maxHeartbeats 4000000 in
set_option maxRecDepth 100000 in
theorem c_X7_gets (l : Launch) (D : va_G) (y : Nat → ClassId) (nn : Nat) (ad : Nat → Nat) (sz : Nat) (I : Nat → Int32) (J : Nat → Int64) (A : Nat → Nat → Int32) (B : Nat → Nat → Int64) (G : Nat → Nat → Nat → Int32) (p1 : Int32) (N : Nat) (out : Int32) (hE : f_X7_gets N (I 6) (A 37)  p1 = some out) : Met l yX7_gets wsX7_gets ({ frames := 0, cells := 0, slots := 0, locals := 0 } : Room) (mPc [.ref (ad 7), .int p1] D y nn ad sz I J A B G) (mQi D y nn ad (mA y nn ad I J A B G sz) out (I, J, A, B, G)) 0 0 (mA y nn ad I J A B G sz) := by
  refine Met.ofW (cc := cX7_gets) (maxL := 4) (ret := (some .boolean)) (by decide) rfl ?_
  intro p e s m args below meth c s₁ Bd hml hv
  obtain ⟨rfl, hsz, hP, hK, hD0, hN⟩ := hv
  have hr := Bd.returns
  subst hsz
  have F : Fx p s m ([.ref (ad 7), .int p1] : List Value).toArray meth c cX7_gets 4 wsX7_gets RX7 D y (mA y nn ad I J A B G s.heap.size) := ⟨⟨Bd.exec, Bd.bytes, hml, findClass_of_methodNamed Bd.named, atoms_spec (ws := wsX7_gets) Bd.pre⟩, hK, hN, fun q h => Or.inr h, Bd.notSynchronized⟩
  have hM := m_start (s := s) rfl hP hD0
  have hM := m_mem (I2 := I) (J2 := J) (A2 := A) (B2 := B) (G2 := G) hM (by rfl) (by rfl) (by rfl) (by rfl) (by rfl)
  have hx := F.1.1
  have hb := F.1.2.1
  have hl := lv_entry ([.ref (ad 7), .int p1]) (n := 4) (Nat.le_of_ble_eq_true rfl)
  rw [lg_entry_eq]
  generalize (lg_sl ([.ref (ad 7), .int p1]) ++ List.replicate (4 - (lg_sl ([.ref (ad 7), .int p1])).length) Slot.unset).toArray = ls at hl ⊢
  have hl : lv_has ls 4 [(0, .ref (ad 7)), (1, .int p1)] := hl
  show W p l e ({ frames := 0, cells := 0, slots := 0, locals := 0 } : Room) s m _ below meth c s.heap [] 0 0 _ _
  obtain ⟨locs, hlo⟩ : ∃ locs : List Loc, locs = [] := ⟨_, rfl⟩
  rw [← hlo]; rw [← hlo] at hM
  unfold f_X7_gets at hE
  revert hM
  suffices hH : ∀ H : Heap, MM D y nn ad (mA y nn ad I J A B G s.heap.size) s.heap I J A B G H locs → W p l e ({ frames := 0, cells := 0, slots := 0, locals := 0 } : Room) s m ([.ref (ad 7), .int p1] : List Value).toArray below meth c H locs 0 0 (MQ below (mQi D y nn ad (mA y nn ad I J A B G s.heap.size) out (I, J, A, B, G)) ([.ref (ad 7), .int p1] : List Value).toArray s 0 0 (mA y nn ad I J A B G s.heap.size)) (F0 m 0 ls []) from hH s.heap
  intro H hM
  refine lv_iconst (v := 0) hx hb dX7_gets_0 (by decide) ?_
  refine lv_istore_n (lv' := [(2, .int (0 : Int32)), (0, .ref (ad 7)), (1, .int p1)]) hx hb dX7_gets_1 rfl hl (by decide) rfl (fun ls hl => ?_)
  refine lv_iconst (v := 0) hx hb dX7_gets_2 (by decide) ?_
  refine lv_istore_n (lv' := [(3, .int (0 : Int32)), (2, .int (0 : Int32)), (0, .ref (ad 7)), (1, .int p1)]) hx hb dX7_gets_3 rfl hl (by decide) rfl (fun ls hl => ?_)
  exact k_X7_gets_4 F hr (N := N)  N p1 (0 : Int32) (0 : Int32) ls H locs hE hM (lv_sub hl [2, 3, 1, 0] rfl)
/-! ===== X7_step: reads I6 A37 B57, writes , frames 1, locals 23 ===== -/
def f_X7_step_46 (N : Nat) (i6 : Int32) (a37 : Nat → Int32) (b57 : Nat → Int64)  (x1 : Int32) (x2 : Int32) : Option (Int64) :=
(if x1 ≤ (11 : Int32) then
some (1000000000000 : Int64)
else
(if (12 : Int32) ≤ x2 then
some (1000000000000 : Int64)
else
ck ((((12 : Int32) * x2) + x1) - (12 : Int32)) 144 (
(if (a37 ((((12 : Int32) * x2) + x1) - (12 : Int32)).toNatClampNeg) ≤ (0 : Int32) then
some (1000000000000 : Int64)
else
ck ((((12 : Int32) * x2) + x1) - (12 : Int32)) 144 (
some (-(b57 ((((12 : Int32) * x2) + x1) - (12 : Int32)).toNatClampNeg)))))))
def f_X7_step (N : Nat) (i6 : Int32) (a37 : Nat → Int32) (b57 : Nat → Int64)  (p1 : Int32) (p2 : Int32) : Option (Int64) :=
(if (12 : Int32) ≤ p1 then
f_X7_step_46 N i6 a37 b57  p1 p2
else
(if p2 ≤ (11 : Int32) then
f_X7_step_46 N i6 a37 b57  p1 p2
else
bd (f_X7_sends N i6 a37 p1) fun o14_2 =>
(if o14_2 = (0 : Int32) then
f_X7_step_46 N i6 a37 b57  p1 p2
else
bd (f_X7_gets N i6 a37 (p2 - (12 : Int32))) fun o25_3 =>
(if o25_3 = (0 : Int32) then
f_X7_step_46 N i6 a37 b57  p1 p2
else
ck ((((12 : Int32) * p1) + p2) - (12 : Int32)) 144 (
some (b57 ((((12 : Int32) * p1) + p2) - (12 : Int32)).toNatClampNeg))))))
set_option maxHeartbeats 4000000 in
set_option maxRecDepth 100000 in
theorem s_X7_step_46 {p : Program} {l : Launch} {e : Env} {s : State} {m : MethodId} {args : Array Value} {below : List Frame} {meth : Method} {c : Code} {D : va_G} {y : Nat → ClassId} {nn : Nat} {ad : Nat → Nat} {A0 : Nat → Prop} {I : Nat → Int32} {J : Nat → Int64} {A : Nat → Nat → Int32} {B : Nat → Nat → Int64} {G : Nat → Nat → Nat → Int32} (F : Fx p s m args meth c cX7_step 3 wsX7_step RX7 D y A0) (hr : meth.sig.returnType = (some .long)) {out : Int64} {N : Nat}  : ∀ (x1 : Int32) (x2 : Int32) (ls : Array Slot) (H : Heap) (locs : List Loc), f_X7_step_46 N (I 6) (A 37) (B 57)  x1 x2 = some out → MM D y nn ad A0 s.heap I J A B G H locs → lv_has ls 3 [(0, .ref (ad 7)), (1, .int x1), (2, .int x2)] → W p l e ({ frames := 1, cells := 0, slots := 0, locals := 23 } : Room) s m args below meth c H locs 0 0 (MQ below (mQl D y nn ad A0 out (I, J, A, B, G)) args s 0 0 A0) (F0 m 46 ls []) := by
  intro x1 x2 ls H locs hE hM hl
  have hx := F.1.1
  have hb := F.1.2.1
  unfold f_X7_step_46 at hE
  refine lv_iload_n hx hb dX7_step_46 rfl (lv_at hl 1 rfl) ?_
  refine lv_bipush (v := 11) hx hb dX7_step_47 (by decide) ?_
  refine lv_icmp_le (tgt := 93) hx hb dX7_step_49 (by decide) (fun c49 => ?_) (fun c49 => ?_)
  · replace hE := (if_pos c49).symm.trans hE
    refine lv_ldc2 (v := (1000000000000)) hx hb F.1.2.2.2.1 (F.1.2.2.2.2 (.constantLong RX7 52 (1000000000000)) (by decide +kernel)) dX7_step_93 ?_
    obtain rfl := Option.some.inj hE
    exact m_lret F hM hr rfl rfl dX7_step_96
  · replace hE := (if_neg c49).symm.trans hE
    refine lv_iload_n hx hb dX7_step_52 rfl (lv_at hl 2 rfl) ?_
    refine lv_bipush (v := 12) hx hb dX7_step_53 (by decide) ?_
    refine lv_icmp_ge (tgt := 93) hx hb dX7_step_55 (by decide) (fun c55 => ?_) (fun c55 => ?_)
    · replace hE := (if_pos c55).symm.trans hE
      refine lv_ldc2 (v := (1000000000000)) hx hb F.1.2.2.2.1 (F.1.2.2.2.2 (.constantLong RX7 52 (1000000000000)) (by decide +kernel)) dX7_step_93 ?_
      obtain rfl := Option.some.inj hE
      exact m_lret F hM hr rfl rfl dX7_step_96
    · replace hE := (if_neg c55).symm.trans hE
      refine lv_aload_n hx hb dX7_step_58 rfl (lv_at hl 0 rfl) ?_
      refine m_get F hM 7 mg_7 rfl 12 (by decide) (by decide +kernel) (by decide +kernel) (v := .ref (ad 37)) rfl dX7_step_59 ?_
      refine lv_bipush (v := 12) hx hb dX7_step_62 (by decide) ?_
      refine lv_iload_n hx hb dX7_step_64 rfl (lv_at hl 2 rfl) ?_
      refine lv_imul hx hb dX7_step_65 ?_
      refine lv_iload_n hx hb dX7_step_66 rfl (lv_at hl 1 rfl) ?_
      refine lv_iadd hx hb dX7_step_67 ?_
      refine lv_bipush (v := 12) hx hb dX7_step_68 (by decide) ?_
      refine lv_isub hx hb dX7_step_70 ?_
      obtain ⟨hi71_0, hE⟩ := ck_some hE
      refine m_iald (g := (A 37)) F hM mg_37 rfl hi71_0 dX7_step_71 ?_
      refine lv_if_le (tgt := 93) hx hb dX7_step_72 (by decide) (fun c72 => ?_) (fun c72 => ?_)
      · replace hE := (if_pos c72).symm.trans hE
        refine lv_ldc2 (v := (1000000000000)) hx hb F.1.2.2.2.1 (F.1.2.2.2.2 (.constantLong RX7 52 (1000000000000)) (by decide +kernel)) dX7_step_93 ?_
        obtain rfl := Option.some.inj hE
        exact m_lret F hM hr rfl rfl dX7_step_96
      · replace hE := (if_neg c72).symm.trans hE
        refine lv_aload_n hx hb dX7_step_75 rfl (lv_at hl 0 rfl) ?_
        refine m_get F hM 7 mg_7 rfl 11 (by decide) (by decide +kernel) (by decide +kernel) (v := .ref (ad 57)) rfl dX7_step_76 ?_
        refine lv_bipush (v := 12) hx hb dX7_step_79 (by decide) ?_
        refine lv_iload_n hx hb dX7_step_81 rfl (lv_at hl 2 rfl) ?_
        refine lv_imul hx hb dX7_step_82 ?_
        refine lv_iload_n hx hb dX7_step_83 rfl (lv_at hl 1 rfl) ?_
        refine lv_iadd hx hb dX7_step_84 ?_
        refine lv_bipush (v := 12) hx hb dX7_step_85 (by decide) ?_
        refine lv_isub hx hb dX7_step_87 ?_
        obtain ⟨hi88_1, hE⟩ := ck_some hE
        refine m_lald (g := (B 57)) F hM mg_57 rfl hi88_1 dX7_step_88 ?_
        refine lv_lneg hx hb dX7_step_89 ?_
        refine lv_goto (tgt := 96) hx hb dX7_step_90 (by decide) ?_
        obtain rfl := Option.some.inj hE
        exact m_lret F hM hr rfl rfl dX7_step_96
set_option maxHeartbeats 4000000 in
set_option maxRecDepth 100000 in
theorem c_X7_step (l : Launch) (D : va_G) (y : Nat → ClassId) (nn : Nat) (ad : Nat → Nat) (sz : Nat) (I : Nat → Int32) (J : Nat → Int64) (A : Nat → Nat → Int32) (B : Nat → Nat → Int64) (G : Nat → Nat → Nat → Int32) (p1 : Int32) (p2 : Int32) (N : Nat) (out : Int64) (hE : f_X7_step N (I 6) (A 37) (B 57)  p1 p2 = some out) : Met l yX7_step wsX7_step ({ frames := 1, cells := 0, slots := 0, locals := 23 } : Room) (mPc [.ref (ad 7), .int p1, .int p2] D y nn ad sz I J A B G) (mQl D y nn ad (mA y nn ad I J A B G sz) out (I, J, A, B, G)) 0 0 (mA y nn ad I J A B G sz) := by
  refine Met.ofW (cc := cX7_step) (maxL := 3) (ret := (some .long)) (by decide) rfl ?_
  intro p e s m args below meth c s₁ Bd hml hv
  obtain ⟨rfl, hsz, hP, hK, hD0, hN⟩ := hv
  have hr := Bd.returns
  subst hsz
  have F : Fx p s m ([.ref (ad 7), .int p1, .int p2] : List Value).toArray meth c cX7_step 3 wsX7_step RX7 D y (mA y nn ad I J A B G s.heap.size) := ⟨⟨Bd.exec, Bd.bytes, hml, findClass_of_methodNamed Bd.named, atoms_spec (ws := wsX7_step) Bd.pre⟩, hK, hN, fun q h => Or.inr h, Bd.notSynchronized⟩
  have hM := m_start (s := s) rfl hP hD0
  have hM := m_mem (I2 := I) (J2 := J) (A2 := A) (B2 := B) (G2 := G) hM (by rfl) (by rfl) (by rfl) (by rfl) (by rfl)
  have hx := F.1.1
  have hb := F.1.2.1
  have hl := lv_entry ([.ref (ad 7), .int p1, .int p2]) (n := 3) (Nat.le_of_ble_eq_true rfl)
  rw [lg_entry_eq]
  generalize (lg_sl ([.ref (ad 7), .int p1, .int p2]) ++ List.replicate (3 - (lg_sl ([.ref (ad 7), .int p1, .int p2])).length) Slot.unset).toArray = ls at hl ⊢
  have hl : lv_has ls 3 [(0, .ref (ad 7)), (1, .int p1), (2, .int p2)] := hl
  show W p l e ({ frames := 1, cells := 0, slots := 0, locals := 23 } : Room) s m _ below meth c s.heap [] 0 0 _ _
  obtain ⟨locs, hlo⟩ : ∃ locs : List Loc, locs = [] := ⟨_, rfl⟩
  rw [← hlo]; rw [← hlo] at hM
  unfold f_X7_step at hE
  revert hM
  suffices hH : ∀ H : Heap, MM D y nn ad (mA y nn ad I J A B G s.heap.size) s.heap I J A B G H locs → W p l e ({ frames := 1, cells := 0, slots := 0, locals := 23 } : Room) s m ([.ref (ad 7), .int p1, .int p2] : List Value).toArray below meth c H locs 0 0 (MQ below (mQl D y nn ad (mA y nn ad I J A B G s.heap.size) out (I, J, A, B, G)) ([.ref (ad 7), .int p1, .int p2] : List Value).toArray s 0 0 (mA y nn ad I J A B G s.heap.size)) (F0 m 0 ls []) from hH s.heap
  intro H hM
  refine lv_iload_n hx hb dX7_step_0 rfl (lv_at hl 1 rfl) ?_
  refine lv_bipush (v := 12) hx hb dX7_step_1 (by decide) ?_
  refine lv_icmp_ge (tgt := 46) hx hb dX7_step_3 (by decide) (fun c3 => ?_) (fun c3 => ?_)
  · replace hE := (if_pos c3).symm.trans hE
    exact s_X7_step_46 F hr (N := N)  p1 p2 ls H locs hE hM (lv_sub hl [0, 1, 2] rfl)
  · replace hE := (if_neg c3).symm.trans hE
    refine lv_iload_n hx hb dX7_step_6 rfl (lv_at hl 2 rfl) ?_
    refine lv_bipush (v := 11) hx hb dX7_step_7 (by decide) ?_
    refine lv_icmp_le (tgt := 46) hx hb dX7_step_9 (by decide) (fun c9 => ?_) (fun c9 => ?_)
    · replace hE := (if_pos c9).symm.trans hE
      exact s_X7_step_46 F hr (N := N)  p1 p2 ls H locs hE hM (lv_sub hl [0, 1, 2] rfl)
    · replace hE := (if_neg c9).symm.trans hE
      refine lv_aload_n hx hb dX7_step_12 rfl (lv_at hl 0 rfl) ?_
      refine lv_iload_n hx hb dX7_step_13 rfl (lv_at hl 1 rfl) ?_
      obtain ⟨o14_2, ho14_2, hE⟩ := bd_some hE
      refine m_callVi (As := [.int p1]) (I2 := I) (J2 := J) (A2 := A) (B2 := B) (G2 := G) F hM (c_X7_sends l D y nn ad H.size I J A B G p1 N o14_2 ho14_2) (cwV 1 F.1.2.2.2.2 gX7_step_X7_sends rfl rfl rfl (by decide +kernel) ⟨Nat.le_of_ble_eq_true rfl, Nat.le_of_ble_eq_true rfl⟩) (m_recv F hM mg_7 rfl) rfl hl.1 (Nat.le_of_ble_eq_true rfl) dX7_step_14 ⟨Nat.le_refl 0, Nat.le_refl 0⟩ rfl rfl rfl rfl rfl (fun H locs hM => ?_)
      refine lv_if_eq (tgt := 46) hx hb dX7_step_17 (by decide) (fun c17 => ?_) (fun c17 => ?_)
      · replace hE := (if_pos c17).symm.trans hE
        exact s_X7_step_46 F hr (N := N)  p1 p2 ls H locs hE hM (lv_sub hl [0, 1, 2] rfl)
      · replace hE := (if_neg c17).symm.trans hE
        refine lv_aload_n hx hb dX7_step_20 rfl (lv_at hl 0 rfl) ?_
        refine lv_iload_n hx hb dX7_step_21 rfl (lv_at hl 2 rfl) ?_
        refine lv_bipush (v := 12) hx hb dX7_step_22 (by decide) ?_
        refine lv_isub hx hb dX7_step_24 ?_
        obtain ⟨o25_3, ho25_3, hE⟩ := bd_some hE
        refine m_callVi (As := [.int (p2 - (12 : Int32))]) (I2 := I) (J2 := J) (A2 := A) (B2 := B) (G2 := G) F hM (c_X7_gets l D y nn ad H.size I J A B G (p2 - (12 : Int32)) N o25_3 ho25_3) (cwV 1 F.1.2.2.2.2 gX7_step_X7_gets rfl rfl rfl (by decide +kernel) ⟨Nat.le_of_ble_eq_true rfl, Nat.le_of_ble_eq_true rfl⟩) (m_recv F hM mg_7 rfl) rfl hl.1 (Nat.le_of_ble_eq_true rfl) dX7_step_25 ⟨Nat.le_refl 0, Nat.le_refl 0⟩ rfl rfl rfl rfl rfl (fun H locs hM => ?_)
        refine lv_if_eq (tgt := 46) hx hb dX7_step_28 (by decide) (fun c28 => ?_) (fun c28 => ?_)
        · replace hE := (if_pos c28).symm.trans hE
          exact s_X7_step_46 F hr (N := N)  p1 p2 ls H locs hE hM (lv_sub hl [0, 1, 2] rfl)
        · replace hE := (if_neg c28).symm.trans hE
          refine lv_aload_n hx hb dX7_step_31 rfl (lv_at hl 0 rfl) ?_
          refine m_get F hM 7 mg_7 rfl 11 (by decide) (by decide +kernel) (by decide +kernel) (v := .ref (ad 57)) rfl dX7_step_32 ?_
          refine lv_bipush (v := 12) hx hb dX7_step_35 (by decide) ?_
          refine lv_iload_n hx hb dX7_step_37 rfl (lv_at hl 1 rfl) ?_
          refine lv_imul hx hb dX7_step_38 ?_
          refine lv_iload_n hx hb dX7_step_39 rfl (lv_at hl 2 rfl) ?_
          refine lv_iadd hx hb dX7_step_40 ?_
          refine lv_bipush (v := 12) hx hb dX7_step_41 (by decide) ?_
          refine lv_isub hx hb dX7_step_43 ?_
          obtain ⟨hi44_4, hE⟩ := ck_some hE
          refine m_lald (g := (B 57)) F hM mg_57 rfl hi44_4 dX7_step_44 ?_
          obtain rfl := Option.some.inj hE
          exact m_lret F hM hr rfl rfl dX7_step_45
/-! ===== X7_cheaper: reads I6 B57, writes A37 A40 B58, frames 2, locals 45 ===== -/
def f_X7_cheaper_182 (N : Nat) (i6 : Int32) (b57 : Nat → Int64)  (nx182 : Int32 → Int32 → Int32 → (Nat → Int32) → (Nat → Int32) → (Nat → Int64) → Option (Int32 × (Nat → Int32) × (Nat → Int32) × (Nat → Int64))) (x2 : Int32) (x3 : Int32) (x4 : Int32) (a37' : Nat → Int32) (a40' : Nat → Int32) (b58' : Nat → Int64) : Option (Int32 × (Nat → Int32) × (Nat → Int32) × (Nat → Int64)) :=
(if x4 = (0 : Int32) then
bz (1 : Int32) (some ((1 : Int32), a37', a40', b58'))
else
ck x2 24 (
(if (12 : Int32) ≤ (a40' x2.toNatClampNeg) then
ck ((((12 : Int32) * x2) + (a40' x2.toNatClampNeg)) - (12 : Int32)) 144 (
ck ((((12 : Int32) * x2) + (a40' x2.toNatClampNeg)) - (12 : Int32)) 144 (
nmd (upd a37' ((((12 : Int32) * x2) + (a40' x2.toNatClampNeg)) - (12 : Int32)).toNatClampNeg ((a37' ((((12 : Int32) * x2) + (a40' x2.toNatClampNeg)) - (12 : Int32)).toNatClampNeg) - (1 : Int32))) fun w242_3 =>
(if (a40' x2.toNatClampNeg) = x3 then
nx182 (a40' x2.toNatClampNeg) x3 (0 : Int32) w242_3 a40' b58'
else
nx182 (a40' x2.toNatClampNeg) x3 (1 : Int32) w242_3 a40' b58')))
else
ck ((((12 : Int32) * (a40' x2.toNatClampNeg)) + x2) - (12 : Int32)) 144 (
ck ((((12 : Int32) * (a40' x2.toNatClampNeg)) + x2) - (12 : Int32)) 144 (
nmd (upd a37' ((((12 : Int32) * (a40' x2.toNatClampNeg)) + x2) - (12 : Int32)).toNatClampNeg ((a37' ((((12 : Int32) * (a40' x2.toNatClampNeg)) + x2) - (12 : Int32)).toNatClampNeg) + (1 : Int32))) fun w220_6 =>
(if (a40' x2.toNatClampNeg) = x3 then
nx182 (a40' x2.toNatClampNeg) x3 (0 : Int32) w220_6 a40' b58'
else
nx182 (a40' x2.toNatClampNeg) x3 (1 : Int32) w220_6 a40' b58'))))))
def f_X7_cheaper_158 (N : Nat) (i6 : Int32) (b57 : Nat → Int64)  (nx158 : Int32 → Int32 → (Nat → Int32) → (Nat → Int32) → (Nat → Int64) → Option (Int32 × (Nat → Int32) × (Nat → Int32) × (Nat → Int64))) (x2 : Int32) (x3 : Int32) (a37' : Nat → Int32) (a40' : Nat → Int32) (b58' : Nat → Int64) : Option (Int32 × (Nat → Int32) × (Nat → Int32) × (Nat → Int64)) :=
(if (24 : Int32) ≤ x3 then
lq6 (f_X7_cheaper_182 N i6 b57 ) N x2 x2 (1 : Int32) a37' a40' b58'
else
ck x2 24 (
nx158 (a40' x2.toNatClampNeg) (x3 + (1 : Int32)) a37' a40' b58'))
def f_X7_cheaper_42 (N : Nat) (i6 : Int32) (b57 : Nat → Int64) (nx32 : Int32 → Int32 → (Nat → Int32) → (Nat → Int32) → (Nat → Int64) → Option (Int32 × (Nat → Int32) × (Nat → Int32) × (Nat → Int64))) (nx42 : Int32 → Int32 → Int32 → (Nat → Int32) → (Nat → Int32) → (Nat → Int64) → Option (Int32 × (Nat → Int32) × (Nat → Int32) × (Nat → Int64))) (x1 : Int32) (x2 : Int32) (x3 : Int32) (a37' : Nat → Int32) (a40' : Nat → Int32) (b58' : Nat → Int64) : Option (Int32 × (Nat → Int32) × (Nat → Int32) × (Nat → Int64)) :=
(if (576 : Int32) ≤ x3 then
nx32 x1 (x2 + (1 : Int32)) a37' a40' b58'
else
dv (24 : Int32) (
dv (24 : Int32) (
bd (f_X7_step N i6 a37' b57 (x3 / (24 : Int32)) (x3 - x3 / (24 : Int32) * (24 : Int32))) fun o58_8 =>
(if (1000000000000 : Int64) ≤ o58_8 then
nx42 x1 x2 (x3 + (1 : Int32)) a37' a40' b58'
else
dv (24 : Int32) (
ck (x3 / (24 : Int32)) 24 (
dv (24 : Int32) (
ck (x3 - x3 / (24 : Int32) * (24 : Int32)) 24 (
(if (b58' (x3 - x3 / (24 : Int32) * (24 : Int32)).toNatClampNeg) ≤ ((b58' (x3 / (24 : Int32)).toNatClampNeg) + o58_8) then
nx42 x1 x2 (x3 + (1 : Int32)) a37' a40' b58'
else
dv (24 : Int32) (
dv (24 : Int32) (
ck (x3 / (24 : Int32)) 24 (
ck (x3 - x3 / (24 : Int32) * (24 : Int32)) 24 (
nmd (vp_updL b58' (x3 - x3 / (24 : Int32) * (24 : Int32)).toNatClampNeg ((b58' (x3 / (24 : Int32)).toNatClampNeg) + o58_8)) fun w117_13 =>
dv (24 : Int32) (
dv (24 : Int32) (
ck (x3 - x3 / (24 : Int32) * (24 : Int32)) 24 (
nmd (upd a40' (x3 - x3 / (24 : Int32) * (24 : Int32)).toNatClampNeg (x3 / (24 : Int32))) fun w130_15 =>
dv (24 : Int32) (
nx42 (x3 - x3 / (24 : Int32) * (24 : Int32)) x2 (x3 + (1 : Int32)) a37' w130_15 w117_13)))))))))))))))))
def f_X7_cheaper_32 (N : Nat) (i6 : Int32) (b57 : Nat → Int64)  (nx32 : Int32 → Int32 → (Nat → Int32) → (Nat → Int32) → (Nat → Int64) → Option (Int32 × (Nat → Int32) × (Nat → Int32) × (Nat → Int64))) (x1 : Int32) (x2 : Int32) (a37' : Nat → Int32) (a40' : Nat → Int32) (b58' : Nat → Int64) : Option (Int32 × (Nat → Int32) × (Nat → Int32) × (Nat → Int64)) :=
(if (25 : Int32) ≤ x2 then
(if (0 : Int32) ≤ x1 then
lq5 (f_X7_cheaper_158 N i6 b57 ) N x1 (0 : Int32) a37' a40' b58'
else
bz (0 : Int32) (some ((0 : Int32), a37', a40', b58')))
else
lq6 (f_X7_cheaper_42 N i6 b57 nx32) N (-1 : Int32) x2 (0 : Int32) a37' a40' b58')
def f_X7_cheaper_2 (N : Nat) (i6 : Int32) (b57 : Nat → Int64)  (nx2 : Int32 → (Nat → Int32) → (Nat → Int32) → (Nat → Int64) → Option (Int32 × (Nat → Int32) × (Nat → Int32) × (Nat → Int64))) (x1 : Int32) (a37' : Nat → Int32) (a40' : Nat → Int32) (b58' : Nat → Int64) : Option (Int32 × (Nat → Int32) × (Nat → Int32) × (Nat → Int64)) :=
(if (24 : Int32) ≤ x1 then
lq5 (f_X7_cheaper_32 N i6 b57 ) N (-1 : Int32) (0 : Int32) a37' a40' b58'
else
ck x1 24 (
nmd (vp_updL b58' x1.toNatClampNeg (0 : Int64)) fun w14_17 =>
ck x1 24 (
nmd (upd a40' x1.toNatClampNeg (-1 : Int32)) fun w21_19 =>
nx2 (x1 + (1 : Int32)) a37' w21_19 w14_17)))
def f_X7_cheaper (N : Nat) (i6 : Int32) (b57 : Nat → Int64) (a37 : Nat → Int32) (a40 : Nat → Int32) (b58 : Nat → Int64)  : Option (Int32 × (Nat → Int32) × (Nat → Int32) × (Nat → Int64)) :=
lq4 (f_X7_cheaper_2 N i6 b57 ) N (0 : Int32) a37 a40 b58
set_option maxHeartbeats 4000000 in
set_option maxRecDepth 100000 in
theorem s_X7_cheaper_182 {p : Program} {l : Launch} {e : Env} {s : State} {m : MethodId} {args : Array Value} {below : List Frame} {meth : Method} {c : Code} {D : va_G} {y : Nat → ClassId} {nn : Nat} {ad : Nat → Nat} {A0 : Nat → Prop} {I : Nat → Int32} {J : Nat → Int64} {A : Nat → Nat → Int32} {B : Nat → Nat → Int64} {G : Nat → Nat → Nat → Int32} (F : Fx p s m args meth c cX7_cheaper 6 wsX7_cheaper RX7 D y A0) (hr : meth.sig.returnType = (some .boolean)) {out : Int32 × (Nat → Int32) × (Nat → Int32) × (Nat → Int64)} {N : Nat}  (nx182 : Int32 → Int32 → Int32 → (Nat → Int32) → (Nat → Int32) → (Nat → Int64) → Option (Int32 × (Nat → Int32) × (Nat → Int32) × (Nat → Int64))) (hn182 : ∀ (x2 : Int32) (x3 : Int32) (x4 : Int32) (a37' : Nat → Int32) (a40' : Nat → Int32) (b58' : Nat → Int64) (ls : Array Slot) (H : Heap) (locs : List Loc), nx182 x2 x3 x4 a37' a40' b58' = some out → MM D y nn ad A0 s.heap I J (va_up (va_up A 37 a37') 40 a40') (va_up B 58 b58') G H locs → lv_has ls 6 [(0, .ref (ad 7)), (2, .int x2), (3, .int x3), (4, .int x4)] → W p l e ({ frames := 2, cells := 0, slots := 0, locals := 45 } : Room) s m args below meth c H locs 0 0 (MQ below (mQi D y nn ad A0 out.1 (I, J, (va_up (va_up A 37 out.2.1) 40 out.2.2.1), (va_up B 58 out.2.2.2), G)) args s 0 0 A0) (F0 m 182 ls [])) : ∀ (x2 : Int32) (x3 : Int32) (x4 : Int32) (a37' : Nat → Int32) (a40' : Nat → Int32) (b58' : Nat → Int64) (ls : Array Slot) (H : Heap) (locs : List Loc), f_X7_cheaper_182 N (I 6) (B 57)  nx182 x2 x3 x4 a37' a40' b58' = some out → MM D y nn ad A0 s.heap I J (va_up (va_up A 37 a37') 40 a40') (va_up B 58 b58') G H locs → lv_has ls 6 [(0, .ref (ad 7)), (2, .int x2), (3, .int x3), (4, .int x4)] → W p l e ({ frames := 2, cells := 0, slots := 0, locals := 45 } : Room) s m args below meth c H locs 0 0 (MQ below (mQi D y nn ad A0 out.1 (I, J, (va_up (va_up A 37 out.2.1) 40 out.2.2.1), (va_up B 58 out.2.2.2), G)) args s 0 0 A0) (F0 m 182 ls []) := by
  intro x2 x3 x4 a37' a40' b58' ls H locs hE hM hl
  have hx := F.1.1
  have hb := F.1.2.1
  unfold f_X7_cheaper_182 at hE
  refine lv_iload hx hb dX7_cheaper_182 (lv_at hl 3 rfl) ?_
  refine lv_if_eq (tgt := 261) hx hb dX7_cheaper_184 (by decide) (fun c184 => ?_) (fun c184 => ?_)
  · replace hE := (if_pos c184).symm.trans hE
    refine lv_iconst (v := 1) hx hb dX7_cheaper_261 (by decide) ?_
    obtain ⟨hz, hE⟩ := bz_some hE
    obtain rfl := Option.some.inj hE
    exact m_zret F hM hr hz rfl rfl dX7_cheaper_262
  · replace hE := (if_neg c184).symm.trans hE
    refine lv_aload_n hx hb dX7_cheaper_187 rfl (lv_at hl 0 rfl) ?_
    refine m_get F hM 7 mg_7 rfl 16 (by decide) (by decide +kernel) (by decide +kernel) (v := .ref (ad 40)) rfl dX7_cheaper_188 ?_
    refine lv_iload_n hx hb dX7_cheaper_191 rfl (lv_at hl 1 rfl) ?_
    obtain ⟨hi192_0, hE⟩ := ck_some hE
    refine m_iald (g := a40') F hM mg_40 rfl hi192_0 dX7_cheaper_192 ?_
    refine lv_istore (lv' := [(5, .int (a40' x2.toNatClampNeg)), (0, .ref (ad 7)), (2, .int x2), (3, .int x3), (4, .int x4)]) hx hb dX7_cheaper_193 hl (by decide) rfl (fun ls hl => ?_)
    refine lv_iload hx hb dX7_cheaper_195 (lv_at hl 0 rfl) ?_
    refine lv_bipush (v := 12) hx hb dX7_cheaper_197 (by decide) ?_
    refine lv_icmp_ge (tgt := 224) hx hb dX7_cheaper_199 (by decide) (fun c199 => ?_) (fun c199 => ?_)
    · replace hE := (if_pos c199).symm.trans hE
      refine lv_aload_n hx hb dX7_cheaper_224 rfl (lv_at hl 1 rfl) ?_
      refine m_get F hM 7 mg_7 rfl 12 (by decide) (by decide +kernel) (by decide +kernel) (v := .ref (ad 37)) rfl dX7_cheaper_225 ?_
      refine lv_bipush (v := 12) hx hb dX7_cheaper_228 (by decide) ?_
      refine lv_iload_n hx hb dX7_cheaper_230 rfl (lv_at hl 2 rfl) ?_
      refine lv_imul hx hb dX7_cheaper_231 ?_
      refine lv_iload hx hb dX7_cheaper_232 (lv_at hl 0 rfl) ?_
      refine lv_iadd hx hb dX7_cheaper_234 ?_
      refine lv_bipush (v := 12) hx hb dX7_cheaper_235 (by decide) ?_
      refine lv_isub hx hb dX7_cheaper_237 ?_
      refine lv_dup2_11 hx hb dX7_cheaper_238 rfl rfl ?_
      obtain ⟨hi239_1, hE⟩ := ck_some hE
      refine m_iald (g := a37') F hM mg_37 rfl hi239_1 dX7_cheaper_239 ?_
      refine lv_iconst (v := 1) hx hb dX7_cheaper_240 (by decide) ?_
      refine lv_isub hx hb dX7_cheaper_241 ?_
      obtain ⟨hi242_2, hE⟩ := ck_some hE
      obtain ⟨w242_3, ew242_3, hE⟩ := nmd_some hE
      refine m_iast (f := a37') (A' := (va_up (va_up A 37 w242_3) 40 a40')) F hM mg_37 ms_37 (by rw [ew242_3]; exact un_37_40__37) hi242_2 dX7_cheaper_242 (fun H locs hM => ?_)
      refine lv_iload hx hb dX7_cheaper_243 (lv_at hl 0 rfl) ?_
      refine lv_istore_n (lv' := [(2, .int (a40' x2.toNatClampNeg)), (5, .int (a40' x2.toNatClampNeg)), (0, .ref (ad 7)), (3, .int x3), (4, .int x4)]) hx hb dX7_cheaper_245 rfl hl (by decide) rfl (fun ls hl => ?_)
      refine lv_iload_n hx hb dX7_cheaper_246 rfl (lv_at hl 0 rfl) ?_
      refine lv_iload_n hx hb dX7_cheaper_247 rfl (lv_at hl 3 rfl) ?_
      refine lv_icmp_eq (tgt := 255) hx hb dX7_cheaper_248 (by decide) (fun c248 => ?_) (fun c248 => ?_)
      · replace hE := (if_pos c248).symm.trans hE
        refine lv_iconst (v := 0) hx hb dX7_cheaper_255 (by decide) ?_
        refine lv_istore (lv' := [(4, .int (0 : Int32)), (2, .int (a40' x2.toNatClampNeg)), (5, .int (a40' x2.toNatClampNeg)), (0, .ref (ad 7)), (3, .int x3)]) hx hb dX7_cheaper_256 hl (by decide) rfl (fun ls hl => ?_)
        refine lv_goto (tgt := 182) hx hb dX7_cheaper_258 (by decide) ?_
        exact hn182 (a40' x2.toNatClampNeg) x3 (0 : Int32) w242_3 a40' b58' ls H locs hE hM (lv_sub hl [3, 1, 4, 0] rfl)
      · replace hE := (if_neg c248).symm.trans hE
        refine lv_iconst (v := 1) hx hb dX7_cheaper_251 (by decide) ?_
        refine lv_goto (tgt := 256) hx hb dX7_cheaper_252 (by decide) ?_
        refine lv_istore (lv' := [(4, .int (1 : Int32)), (2, .int (a40' x2.toNatClampNeg)), (5, .int (a40' x2.toNatClampNeg)), (0, .ref (ad 7)), (3, .int x3)]) hx hb dX7_cheaper_256 hl (by decide) rfl (fun ls hl => ?_)
        refine lv_goto (tgt := 182) hx hb dX7_cheaper_258 (by decide) ?_
        exact hn182 (a40' x2.toNatClampNeg) x3 (1 : Int32) w242_3 a40' b58' ls H locs hE hM (lv_sub hl [3, 1, 4, 0] rfl)
    · replace hE := (if_neg c199).symm.trans hE
      refine lv_aload_n hx hb dX7_cheaper_202 rfl (lv_at hl 1 rfl) ?_
      refine m_get F hM 7 mg_7 rfl 12 (by decide) (by decide +kernel) (by decide +kernel) (v := .ref (ad 37)) rfl dX7_cheaper_203 ?_
      refine lv_bipush (v := 12) hx hb dX7_cheaper_206 (by decide) ?_
      refine lv_iload hx hb dX7_cheaper_208 (lv_at hl 0 rfl) ?_
      refine lv_imul hx hb dX7_cheaper_210 ?_
      refine lv_iload_n hx hb dX7_cheaper_211 rfl (lv_at hl 2 rfl) ?_
      refine lv_iadd hx hb dX7_cheaper_212 ?_
      refine lv_bipush (v := 12) hx hb dX7_cheaper_213 (by decide) ?_
      refine lv_isub hx hb dX7_cheaper_215 ?_
      refine lv_dup2_11 hx hb dX7_cheaper_216 rfl rfl ?_
      obtain ⟨hi217_4, hE⟩ := ck_some hE
      refine m_iald (g := a37') F hM mg_37 rfl hi217_4 dX7_cheaper_217 ?_
      refine lv_iconst (v := 1) hx hb dX7_cheaper_218 (by decide) ?_
      refine lv_iadd hx hb dX7_cheaper_219 ?_
      obtain ⟨hi220_5, hE⟩ := ck_some hE
      obtain ⟨w220_6, ew220_6, hE⟩ := nmd_some hE
      refine m_iast (f := a37') (A' := (va_up (va_up A 37 w220_6) 40 a40')) F hM mg_37 ms_37 (by rw [ew220_6]; exact un_37_40__37) hi220_5 dX7_cheaper_220 (fun H locs hM => ?_)
      refine lv_goto (tgt := 243) hx hb dX7_cheaper_221 (by decide) ?_
      refine lv_iload hx hb dX7_cheaper_243 (lv_at hl 0 rfl) ?_
      refine lv_istore_n (lv' := [(2, .int (a40' x2.toNatClampNeg)), (5, .int (a40' x2.toNatClampNeg)), (0, .ref (ad 7)), (3, .int x3), (4, .int x4)]) hx hb dX7_cheaper_245 rfl hl (by decide) rfl (fun ls hl => ?_)
      refine lv_iload_n hx hb dX7_cheaper_246 rfl (lv_at hl 0 rfl) ?_
      refine lv_iload_n hx hb dX7_cheaper_247 rfl (lv_at hl 3 rfl) ?_
      refine lv_icmp_eq (tgt := 255) hx hb dX7_cheaper_248 (by decide) (fun c248 => ?_) (fun c248 => ?_)
      · replace hE := (if_pos c248).symm.trans hE
        refine lv_iconst (v := 0) hx hb dX7_cheaper_255 (by decide) ?_
        refine lv_istore (lv' := [(4, .int (0 : Int32)), (2, .int (a40' x2.toNatClampNeg)), (5, .int (a40' x2.toNatClampNeg)), (0, .ref (ad 7)), (3, .int x3)]) hx hb dX7_cheaper_256 hl (by decide) rfl (fun ls hl => ?_)
        refine lv_goto (tgt := 182) hx hb dX7_cheaper_258 (by decide) ?_
        exact hn182 (a40' x2.toNatClampNeg) x3 (0 : Int32) w220_6 a40' b58' ls H locs hE hM (lv_sub hl [3, 1, 4, 0] rfl)
      · replace hE := (if_neg c248).symm.trans hE
        refine lv_iconst (v := 1) hx hb dX7_cheaper_251 (by decide) ?_
        refine lv_goto (tgt := 256) hx hb dX7_cheaper_252 (by decide) ?_
        refine lv_istore (lv' := [(4, .int (1 : Int32)), (2, .int (a40' x2.toNatClampNeg)), (5, .int (a40' x2.toNatClampNeg)), (0, .ref (ad 7)), (3, .int x3)]) hx hb dX7_cheaper_256 hl (by decide) rfl (fun ls hl => ?_)
        refine lv_goto (tgt := 182) hx hb dX7_cheaper_258 (by decide) ?_
        exact hn182 (a40' x2.toNatClampNeg) x3 (1 : Int32) w220_6 a40' b58' ls H locs hE hM (lv_sub hl [3, 1, 4, 0] rfl)
theorem k_X7_cheaper_182 {p : Program} {l : Launch} {e : Env} {s : State} {m : MethodId} {args : Array Value} {below : List Frame} {meth : Method} {c : Code} {D : va_G} {y : Nat → ClassId} {nn : Nat} {ad : Nat → Nat} {A0 : Nat → Prop} {I : Nat → Int32} {J : Nat → Int64} {A : Nat → Nat → Int32} {B : Nat → Nat → Int64} {G : Nat → Nat → Nat → Int32} (F : Fx p s m args meth c cX7_cheaper 6 wsX7_cheaper RX7 D y A0) (hr : meth.sig.returnType = (some .boolean)) {out : Int32 × (Nat → Int32) × (Nat → Int32) × (Nat → Int64)} {N : Nat}  : ∀ (n : Nat), ∀ (x2 : Int32) (x3 : Int32) (x4 : Int32) (a37' : Nat → Int32) (a40' : Nat → Int32) (b58' : Nat → Int64) (ls : Array Slot) (H : Heap) (locs : List Loc), lq6 (f_X7_cheaper_182 N (I 6) (B 57) ) n x2 x3 x4 a37' a40' b58' = some out → MM D y nn ad A0 s.heap I J (va_up (va_up A 37 a37') 40 a40') (va_up B 58 b58') G H locs → lv_has ls 6 [(0, .ref (ad 7)), (2, .int x2), (3, .int x3), (4, .int x4)] → W p l e ({ frames := 2, cells := 0, slots := 0, locals := 45 } : Room) s m args below meth c H locs 0 0 (MQ below (mQi D y nn ad A0 out.1 (I, J, (va_up (va_up A 37 out.2.1) 40 out.2.2.1), (va_up B 58 out.2.2.2), G)) args s 0 0 A0) (F0 m 182 ls []) := by
  intro n
  induction n with
  | zero =>
    intro x2 x3 x4 a37' a40' b58' ls H locs hE
    cases (show (none : Option _) = some out from hE)
  | succ n ih =>
    intro x2 x3 x4 a37' a40' b58' ls H locs hE hM hl
    exact s_X7_cheaper_182 F hr (N := N)  (lq6 (f_X7_cheaper_182 N (I 6) (B 57) ) n) ih x2 x3 x4 a37' a40' b58' ls H locs hE hM hl
set_option maxHeartbeats 4000000 in
set_option maxRecDepth 100000 in
theorem s_X7_cheaper_158 {p : Program} {l : Launch} {e : Env} {s : State} {m : MethodId} {args : Array Value} {below : List Frame} {meth : Method} {c : Code} {D : va_G} {y : Nat → ClassId} {nn : Nat} {ad : Nat → Nat} {A0 : Nat → Prop} {I : Nat → Int32} {J : Nat → Int64} {A : Nat → Nat → Int32} {B : Nat → Nat → Int64} {G : Nat → Nat → Nat → Int32} (F : Fx p s m args meth c cX7_cheaper 6 wsX7_cheaper RX7 D y A0) (hr : meth.sig.returnType = (some .boolean)) {out : Int32 × (Nat → Int32) × (Nat → Int32) × (Nat → Int64)} {N : Nat}  (nx158 : Int32 → Int32 → (Nat → Int32) → (Nat → Int32) → (Nat → Int64) → Option (Int32 × (Nat → Int32) × (Nat → Int32) × (Nat → Int64))) (hn158 : ∀ (x2 : Int32) (x3 : Int32) (a37' : Nat → Int32) (a40' : Nat → Int32) (b58' : Nat → Int64) (ls : Array Slot) (H : Heap) (locs : List Loc), nx158 x2 x3 a37' a40' b58' = some out → MM D y nn ad A0 s.heap I J (va_up (va_up A 37 a37') 40 a40') (va_up B 58 b58') G H locs → lv_has ls 6 [(0, .ref (ad 7)), (2, .int x2), (3, .int x3)] → W p l e ({ frames := 2, cells := 0, slots := 0, locals := 45 } : Room) s m args below meth c H locs 0 0 (MQ below (mQi D y nn ad A0 out.1 (I, J, (va_up (va_up A 37 out.2.1) 40 out.2.2.1), (va_up B 58 out.2.2.2), G)) args s 0 0 A0) (F0 m 158 ls [])) : ∀ (x2 : Int32) (x3 : Int32) (a37' : Nat → Int32) (a40' : Nat → Int32) (b58' : Nat → Int64) (ls : Array Slot) (H : Heap) (locs : List Loc), f_X7_cheaper_158 N (I 6) (B 57)  nx158 x2 x3 a37' a40' b58' = some out → MM D y nn ad A0 s.heap I J (va_up (va_up A 37 a37') 40 a40') (va_up B 58 b58') G H locs → lv_has ls 6 [(0, .ref (ad 7)), (2, .int x2), (3, .int x3)] → W p l e ({ frames := 2, cells := 0, slots := 0, locals := 45 } : Room) s m args below meth c H locs 0 0 (MQ below (mQi D y nn ad A0 out.1 (I, J, (va_up (va_up A 37 out.2.1) 40 out.2.2.1), (va_up B 58 out.2.2.2), G)) args s 0 0 A0) (F0 m 158 ls []) := by
  intro x2 x3 a37' a40' b58' ls H locs hE hM hl
  have hx := F.1.1
  have hb := F.1.2.1
  unfold f_X7_cheaper_158 at hE
  refine lv_iload_n hx hb dX7_cheaper_158 rfl (lv_at hl 2 rfl) ?_
  refine lv_bipush (v := 24) hx hb dX7_cheaper_159 (by decide) ?_
  refine lv_icmp_ge (tgt := 177) hx hb dX7_cheaper_161 (by decide) (fun c161 => ?_) (fun c161 => ?_)
  · replace hE := (if_pos c161).symm.trans hE
    refine lv_iload_n hx hb dX7_cheaper_177 rfl (lv_at hl 1 rfl) ?_
    refine lv_istore_n (lv' := [(3, .int x2), (0, .ref (ad 7)), (2, .int x2)]) hx hb dX7_cheaper_178 rfl hl (by decide) rfl (fun ls hl => ?_)
    refine lv_iconst (v := 1) hx hb dX7_cheaper_179 (by decide) ?_
    refine lv_istore (lv' := [(4, .int (1 : Int32)), (3, .int x2), (0, .ref (ad 7)), (2, .int x2)]) hx hb dX7_cheaper_180 hl (by decide) rfl (fun ls hl => ?_)
    exact k_X7_cheaper_182 F hr (N := N)  N x2 x2 (1 : Int32) a37' a40' b58' ls H locs hE hM (lv_sub hl [2, 3, 1, 0] rfl)
  · replace hE := (if_neg c161).symm.trans hE
    refine lv_aload_n hx hb dX7_cheaper_164 rfl (lv_at hl 0 rfl) ?_
    refine m_get F hM 7 mg_7 rfl 16 (by decide) (by decide +kernel) (by decide +kernel) (v := .ref (ad 40)) rfl dX7_cheaper_165 ?_
    refine lv_iload_n hx hb dX7_cheaper_168 rfl (lv_at hl 1 rfl) ?_
    obtain ⟨hi169_7, hE⟩ := ck_some hE
    refine m_iald (g := a40') F hM mg_40 rfl hi169_7 dX7_cheaper_169 ?_
    refine lv_istore_n (lv' := [(2, .int (a40' x2.toNatClampNeg)), (0, .ref (ad 7)), (3, .int x3)]) hx hb dX7_cheaper_170 rfl hl (by decide) rfl (fun ls hl => ?_)
    refine lv_iinc (v := x3 + (1 : Int32)) (lv' := [(3, .int (x3 + (1 : Int32))), (2, .int (a40' x2.toNatClampNeg)), (0, .ref (ad 7))]) hx hb dX7_cheaper_171 hl (k := 2) rfl rfl (by decide) rfl (fun ls hl => ?_)
    refine lv_goto (tgt := 158) hx hb dX7_cheaper_174 (by decide) ?_
    exact hn158 (a40' x2.toNatClampNeg) (x3 + (1 : Int32)) a37' a40' b58' ls H locs hE hM (lv_sub hl [2, 1, 0] rfl)
theorem k_X7_cheaper_158 {p : Program} {l : Launch} {e : Env} {s : State} {m : MethodId} {args : Array Value} {below : List Frame} {meth : Method} {c : Code} {D : va_G} {y : Nat → ClassId} {nn : Nat} {ad : Nat → Nat} {A0 : Nat → Prop} {I : Nat → Int32} {J : Nat → Int64} {A : Nat → Nat → Int32} {B : Nat → Nat → Int64} {G : Nat → Nat → Nat → Int32} (F : Fx p s m args meth c cX7_cheaper 6 wsX7_cheaper RX7 D y A0) (hr : meth.sig.returnType = (some .boolean)) {out : Int32 × (Nat → Int32) × (Nat → Int32) × (Nat → Int64)} {N : Nat}  : ∀ (n : Nat), ∀ (x2 : Int32) (x3 : Int32) (a37' : Nat → Int32) (a40' : Nat → Int32) (b58' : Nat → Int64) (ls : Array Slot) (H : Heap) (locs : List Loc), lq5 (f_X7_cheaper_158 N (I 6) (B 57) ) n x2 x3 a37' a40' b58' = some out → MM D y nn ad A0 s.heap I J (va_up (va_up A 37 a37') 40 a40') (va_up B 58 b58') G H locs → lv_has ls 6 [(0, .ref (ad 7)), (2, .int x2), (3, .int x3)] → W p l e ({ frames := 2, cells := 0, slots := 0, locals := 45 } : Room) s m args below meth c H locs 0 0 (MQ below (mQi D y nn ad A0 out.1 (I, J, (va_up (va_up A 37 out.2.1) 40 out.2.2.1), (va_up B 58 out.2.2.2), G)) args s 0 0 A0) (F0 m 158 ls []) := by
  intro n
  induction n with
  | zero =>
    intro x2 x3 a37' a40' b58' ls H locs hE
    cases (show (none : Option _) = some out from hE)
  | succ n ih =>
    intro x2 x3 a37' a40' b58' ls H locs hE hM hl
    exact s_X7_cheaper_158 F hr (N := N)  (lq5 (f_X7_cheaper_158 N (I 6) (B 57) ) n) ih x2 x3 a37' a40' b58' ls H locs hE hM hl
set_option maxHeartbeats 4000000 in
set_option maxRecDepth 100000 in
theorem s_X7_cheaper_42 {p : Program} {l : Launch} {e : Env} {s : State} {m : MethodId} {args : Array Value} {below : List Frame} {meth : Method} {c : Code} {D : va_G} {y : Nat → ClassId} {nn : Nat} {ad : Nat → Nat} {A0 : Nat → Prop} {I : Nat → Int32} {J : Nat → Int64} {A : Nat → Nat → Int32} {B : Nat → Nat → Int64} {G : Nat → Nat → Nat → Int32} (F : Fx p s m args meth c cX7_cheaper 6 wsX7_cheaper RX7 D y A0) (hr : meth.sig.returnType = (some .boolean)) {out : Int32 × (Nat → Int32) × (Nat → Int32) × (Nat → Int64)} {N : Nat} (nx32 : Int32 → Int32 → (Nat → Int32) → (Nat → Int32) → (Nat → Int64) → Option (Int32 × (Nat → Int32) × (Nat → Int32) × (Nat → Int64))) (hn32 : ∀ (x1 : Int32) (x2 : Int32) (a37' : Nat → Int32) (a40' : Nat → Int32) (b58' : Nat → Int64) (ls : Array Slot) (H : Heap) (locs : List Loc), nx32 x1 x2 a37' a40' b58' = some out → MM D y nn ad A0 s.heap I J (va_up (va_up A 37 a37') 40 a40') (va_up B 58 b58') G H locs → lv_has ls 6 [(0, .ref (ad 7)), (1, .int x1), (2, .int x2)] → W p l e ({ frames := 2, cells := 0, slots := 0, locals := 45 } : Room) s m args below meth c H locs 0 0 (MQ below (mQi D y nn ad A0 out.1 (I, J, (va_up (va_up A 37 out.2.1) 40 out.2.2.1), (va_up B 58 out.2.2.2), G)) args s 0 0 A0) (F0 m 32 ls [])) (nx42 : Int32 → Int32 → Int32 → (Nat → Int32) → (Nat → Int32) → (Nat → Int64) → Option (Int32 × (Nat → Int32) × (Nat → Int32) × (Nat → Int64))) (hn42 : ∀ (x1 : Int32) (x2 : Int32) (x3 : Int32) (a37' : Nat → Int32) (a40' : Nat → Int32) (b58' : Nat → Int64) (ls : Array Slot) (H : Heap) (locs : List Loc), nx42 x1 x2 x3 a37' a40' b58' = some out → MM D y nn ad A0 s.heap I J (va_up (va_up A 37 a37') 40 a40') (va_up B 58 b58') G H locs → lv_has ls 6 [(0, .ref (ad 7)), (1, .int x1), (2, .int x2), (3, .int x3)] → W p l e ({ frames := 2, cells := 0, slots := 0, locals := 45 } : Room) s m args below meth c H locs 0 0 (MQ below (mQi D y nn ad A0 out.1 (I, J, (va_up (va_up A 37 out.2.1) 40 out.2.2.1), (va_up B 58 out.2.2.2), G)) args s 0 0 A0) (F0 m 42 ls [])) : ∀ (x1 : Int32) (x2 : Int32) (x3 : Int32) (a37' : Nat → Int32) (a40' : Nat → Int32) (b58' : Nat → Int64) (ls : Array Slot) (H : Heap) (locs : List Loc), f_X7_cheaper_42 N (I 6) (B 57) nx32 nx42 x1 x2 x3 a37' a40' b58' = some out → MM D y nn ad A0 s.heap I J (va_up (va_up A 37 a37') 40 a40') (va_up B 58 b58') G H locs → lv_has ls 6 [(0, .ref (ad 7)), (1, .int x1), (2, .int x2), (3, .int x3)] → W p l e ({ frames := 2, cells := 0, slots := 0, locals := 45 } : Room) s m args below meth c H locs 0 0 (MQ below (mQi D y nn ad A0 out.1 (I, J, (va_up (va_up A 37 out.2.1) 40 out.2.2.1), (va_up B 58 out.2.2.2), G)) args s 0 0 A0) (F0 m 42 ls []) := by
  intro x1 x2 x3 a37' a40' b58' ls H locs hE hM hl
  have hx := F.1.1
  have hb := F.1.2.1
  unfold f_X7_cheaper_42 at hE
  refine lv_iload_n hx hb dX7_cheaper_42 rfl (lv_at hl 3 rfl) ?_
  refine lv_sipush (v := 576) hx hb dX7_cheaper_43 (by decide) ?_
  refine lv_icmp_ge (tgt := 142) hx hb dX7_cheaper_46 (by decide) (fun c46 => ?_) (fun c46 => ?_)
  · replace hE := (if_pos c46).symm.trans hE
    refine lv_iinc (v := x2 + (1 : Int32)) (lv' := [(2, .int (x2 + (1 : Int32))), (0, .ref (ad 7)), (1, .int x1), (3, .int x3)]) hx hb dX7_cheaper_142 hl (k := 2) rfl rfl (by decide) rfl (fun ls hl => ?_)
    refine lv_goto (tgt := 32) hx hb dX7_cheaper_145 (by decide) ?_
    exact hn32 x1 (x2 + (1 : Int32)) a37' a40' b58' ls H locs hE hM (lv_sub hl [1, 2, 0] rfl)
  · replace hE := (if_neg c46).symm.trans hE
    refine lv_aload_n hx hb dX7_cheaper_49 rfl (lv_at hl 0 rfl) ?_
    refine lv_iload_n hx hb dX7_cheaper_50 rfl (lv_at hl 3 rfl) ?_
    refine lv_bipush (v := 24) hx hb dX7_cheaper_51 (by decide) ?_
    obtain ⟨hz53, hE⟩ := dv_some hE
    refine lv_idiv hx hb dX7_cheaper_53 hz53 ?_
    refine lv_iload_n hx hb dX7_cheaper_54 rfl (lv_at hl 3 rfl) ?_
    refine lv_bipush (v := 24) hx hb dX7_cheaper_55 (by decide) ?_
    obtain ⟨hz57, hE⟩ := dv_some hE
    refine lv_irem hx hb dX7_cheaper_57 hz57 ?_
    obtain ⟨o58_8, ho58_8, hE⟩ := bd_some hE
    refine m_callVl (As := [.int (x3 / (24 : Int32)), .int (x3 - x3 / (24 : Int32) * (24 : Int32))]) (I2 := I) (J2 := J) (A2 := (va_up (va_up A 37 a37') 40 a40')) (B2 := (va_up B 58 b58')) (G2 := G) F hM (c_X7_step l D y nn ad H.size I J (va_up (va_up A 37 a37') 40 a40') (va_up B 58 b58') G (x3 / (24 : Int32)) (x3 - x3 / (24 : Int32) * (24 : Int32)) N o58_8 ho58_8) (cwV 2 F.1.2.2.2.2 gX7_cheaper_X7_step rfl rfl rfl (by decide +kernel) ⟨Nat.le_of_ble_eq_true rfl, Nat.le_of_ble_eq_true rfl⟩) (m_recv F hM mg_7 rfl) rfl hl.1 (Nat.le_of_ble_eq_true rfl) dX7_cheaper_58 ⟨Nat.le_refl 0, Nat.le_refl 0⟩ rfl rfl rfl rfl rfl (fun H locs hM => ?_)
    refine lv_lstore (lv' := [(4, .long o58_8), (0, .ref (ad 7)), (1, .int x1), (2, .int x2), (3, .int x3)]) hx hb dX7_cheaper_61 hl (by decide) rfl (fun ls hl => ?_)
    refine lv_lload hx hb dX7_cheaper_63 (lv_at hl 0 rfl) ?_
    refine lv_ldc2 (v := (1000000000000)) hx hb F.1.2.2.2.1 (F.1.2.2.2.2 (.constantLong RX7 52 (1000000000000)) (by decide +kernel)) dX7_cheaper_65 ?_
    refine m_lge (tgt := 136) F dX7_cheaper_68 dX7_cheaper_69 (by decide) (fun c69 => ?_) (fun c69 => ?_)
    · replace hE := (if_pos c69).symm.trans hE
      refine lv_iinc (v := x3 + (1 : Int32)) (lv' := [(3, .int (x3 + (1 : Int32))), (4, .long o58_8), (0, .ref (ad 7)), (1, .int x1), (2, .int x2)]) hx hb dX7_cheaper_136 hl (k := 4) rfl rfl (by decide) rfl (fun ls hl => ?_)
      refine lv_goto (tgt := 42) hx hb dX7_cheaper_139 (by decide) ?_
      exact hn42 x1 x2 (x3 + (1 : Int32)) a37' a40' b58' ls H locs hE hM (lv_sub hl [2, 3, 4, 0] rfl)
    · replace hE := (if_neg c69).symm.trans hE
      refine lv_aload_n hx hb dX7_cheaper_72 rfl (lv_at hl 1 rfl) ?_
      refine m_get F hM 7 mg_7 rfl 15 (by decide) (by decide +kernel) (by decide +kernel) (v := .ref (ad 58)) rfl dX7_cheaper_73 ?_
      refine lv_iload_n hx hb dX7_cheaper_76 rfl (lv_at hl 4 rfl) ?_
      refine lv_bipush (v := 24) hx hb dX7_cheaper_77 (by decide) ?_
      obtain ⟨hz79, hE⟩ := dv_some hE
      refine lv_idiv hx hb dX7_cheaper_79 hz79 ?_
      obtain ⟨hi80_9, hE⟩ := ck_some hE
      refine m_lald (g := b58') F hM mg_58 rfl hi80_9 dX7_cheaper_80 ?_
      refine lv_lload hx hb dX7_cheaper_81 (lv_at hl 0 rfl) ?_
      refine lv_ladd hx hb dX7_cheaper_83 ?_
      refine lv_aload_n hx hb dX7_cheaper_84 rfl (lv_at hl 1 rfl) ?_
      refine m_get F hM 7 mg_7 rfl 15 (by decide) (by decide +kernel) (by decide +kernel) (v := .ref (ad 58)) rfl dX7_cheaper_85 ?_
      refine lv_iload_n hx hb dX7_cheaper_88 rfl (lv_at hl 4 rfl) ?_
      refine lv_bipush (v := 24) hx hb dX7_cheaper_89 (by decide) ?_
      obtain ⟨hz91, hE⟩ := dv_some hE
      refine lv_irem hx hb dX7_cheaper_91 hz91 ?_
      obtain ⟨hi92_10, hE⟩ := ck_some hE
      refine m_lald (g := b58') F hM mg_58 rfl hi92_10 dX7_cheaper_92 ?_
      refine m_lge (tgt := 136) F dX7_cheaper_93 dX7_cheaper_94 (by decide) (fun c94 => ?_) (fun c94 => ?_)
      · replace hE := (if_pos c94).symm.trans hE
        refine lv_iinc (v := x3 + (1 : Int32)) (lv' := [(3, .int (x3 + (1 : Int32))), (4, .long o58_8), (0, .ref (ad 7)), (1, .int x1), (2, .int x2)]) hx hb dX7_cheaper_136 hl (k := 4) rfl rfl (by decide) rfl (fun ls hl => ?_)
        refine lv_goto (tgt := 42) hx hb dX7_cheaper_139 (by decide) ?_
        exact hn42 x1 x2 (x3 + (1 : Int32)) a37' a40' b58' ls H locs hE hM (lv_sub hl [2, 3, 4, 0] rfl)
      · replace hE := (if_neg c94).symm.trans hE
        refine lv_aload_n hx hb dX7_cheaper_97 rfl (lv_at hl 1 rfl) ?_
        refine m_get F hM 7 mg_7 rfl 15 (by decide) (by decide +kernel) (by decide +kernel) (v := .ref (ad 58)) rfl dX7_cheaper_98 ?_
        refine lv_iload_n hx hb dX7_cheaper_101 rfl (lv_at hl 4 rfl) ?_
        refine lv_bipush (v := 24) hx hb dX7_cheaper_102 (by decide) ?_
        obtain ⟨hz104, hE⟩ := dv_some hE
        refine lv_irem hx hb dX7_cheaper_104 hz104 ?_
        refine lv_aload_n hx hb dX7_cheaper_105 rfl (lv_at hl 1 rfl) ?_
        refine m_get F hM 7 mg_7 rfl 15 (by decide) (by decide +kernel) (by decide +kernel) (v := .ref (ad 58)) rfl dX7_cheaper_106 ?_
        refine lv_iload_n hx hb dX7_cheaper_109 rfl (lv_at hl 4 rfl) ?_
        refine lv_bipush (v := 24) hx hb dX7_cheaper_110 (by decide) ?_
        obtain ⟨hz112, hE⟩ := dv_some hE
        refine lv_idiv hx hb dX7_cheaper_112 hz112 ?_
        obtain ⟨hi113_11, hE⟩ := ck_some hE
        refine m_lald (g := b58') F hM mg_58 rfl hi113_11 dX7_cheaper_113 ?_
        refine lv_lload hx hb dX7_cheaper_114 (lv_at hl 0 rfl) ?_
        refine lv_ladd hx hb dX7_cheaper_116 ?_
        obtain ⟨hi117_12, hE⟩ := ck_some hE
        obtain ⟨w117_13, ew117_13, hE⟩ := nmd_some hE
        refine m_last (f := b58') (B' := (va_up B 58 w117_13)) F hM mg_58 ms_58 (by rw [ew117_13]; exact (bx_uu _ _ _ _)) hi117_12 dX7_cheaper_117 (fun H locs hM => ?_)
        refine lv_aload_n hx hb dX7_cheaper_118 rfl (lv_at hl 1 rfl) ?_
        refine m_get F hM 7 mg_7 rfl 16 (by decide) (by decide +kernel) (by decide +kernel) (v := .ref (ad 40)) rfl dX7_cheaper_119 ?_
        refine lv_iload_n hx hb dX7_cheaper_122 rfl (lv_at hl 4 rfl) ?_
        refine lv_bipush (v := 24) hx hb dX7_cheaper_123 (by decide) ?_
        obtain ⟨hz125, hE⟩ := dv_some hE
        refine lv_irem hx hb dX7_cheaper_125 hz125 ?_
        refine lv_iload_n hx hb dX7_cheaper_126 rfl (lv_at hl 4 rfl) ?_
        refine lv_bipush (v := 24) hx hb dX7_cheaper_127 (by decide) ?_
        obtain ⟨hz129, hE⟩ := dv_some hE
        refine lv_idiv hx hb dX7_cheaper_129 hz129 ?_
        obtain ⟨hi130_14, hE⟩ := ck_some hE
        obtain ⟨w130_15, ew130_15, hE⟩ := nmd_some hE
        refine m_iast (f := a40') (A' := (va_up (va_up A 37 a37') 40 w130_15)) F hM mg_40 ms_40 (by rw [ew130_15]; exact un_37_40__40) hi130_14 dX7_cheaper_130 (fun H locs hM => ?_)
        refine lv_iload_n hx hb dX7_cheaper_131 rfl (lv_at hl 4 rfl) ?_
        refine lv_bipush (v := 24) hx hb dX7_cheaper_132 (by decide) ?_
        obtain ⟨hz134, hE⟩ := dv_some hE
        refine lv_irem hx hb dX7_cheaper_134 hz134 ?_
        refine lv_istore_n (lv' := [(1, .int (x3 - x3 / (24 : Int32) * (24 : Int32))), (4, .long o58_8), (0, .ref (ad 7)), (2, .int x2), (3, .int x3)]) hx hb dX7_cheaper_135 rfl hl (by decide) rfl (fun ls hl => ?_)
        refine lv_iinc (v := x3 + (1 : Int32)) (lv' := [(3, .int (x3 + (1 : Int32))), (1, .int (x3 - x3 / (24 : Int32) * (24 : Int32))), (4, .long o58_8), (0, .ref (ad 7)), (2, .int x2)]) hx hb dX7_cheaper_136 hl (k := 4) rfl rfl (by decide) rfl (fun ls hl => ?_)
        refine lv_goto (tgt := 42) hx hb dX7_cheaper_139 (by decide) ?_
        exact hn42 (x3 - x3 / (24 : Int32) * (24 : Int32)) x2 (x3 + (1 : Int32)) a37' w130_15 w117_13 ls H locs hE hM (lv_sub hl [3, 1, 4, 0] rfl)
theorem k_X7_cheaper_42 {p : Program} {l : Launch} {e : Env} {s : State} {m : MethodId} {args : Array Value} {below : List Frame} {meth : Method} {c : Code} {D : va_G} {y : Nat → ClassId} {nn : Nat} {ad : Nat → Nat} {A0 : Nat → Prop} {I : Nat → Int32} {J : Nat → Int64} {A : Nat → Nat → Int32} {B : Nat → Nat → Int64} {G : Nat → Nat → Nat → Int32} (F : Fx p s m args meth c cX7_cheaper 6 wsX7_cheaper RX7 D y A0) (hr : meth.sig.returnType = (some .boolean)) {out : Int32 × (Nat → Int32) × (Nat → Int32) × (Nat → Int64)} {N : Nat} (nx32 : Int32 → Int32 → (Nat → Int32) → (Nat → Int32) → (Nat → Int64) → Option (Int32 × (Nat → Int32) × (Nat → Int32) × (Nat → Int64))) (hn32 : ∀ (x1 : Int32) (x2 : Int32) (a37' : Nat → Int32) (a40' : Nat → Int32) (b58' : Nat → Int64) (ls : Array Slot) (H : Heap) (locs : List Loc), nx32 x1 x2 a37' a40' b58' = some out → MM D y nn ad A0 s.heap I J (va_up (va_up A 37 a37') 40 a40') (va_up B 58 b58') G H locs → lv_has ls 6 [(0, .ref (ad 7)), (1, .int x1), (2, .int x2)] → W p l e ({ frames := 2, cells := 0, slots := 0, locals := 45 } : Room) s m args below meth c H locs 0 0 (MQ below (mQi D y nn ad A0 out.1 (I, J, (va_up (va_up A 37 out.2.1) 40 out.2.2.1), (va_up B 58 out.2.2.2), G)) args s 0 0 A0) (F0 m 32 ls [])) : ∀ (n : Nat), ∀ (x1 : Int32) (x2 : Int32) (x3 : Int32) (a37' : Nat → Int32) (a40' : Nat → Int32) (b58' : Nat → Int64) (ls : Array Slot) (H : Heap) (locs : List Loc), lq6 (f_X7_cheaper_42 N (I 6) (B 57) nx32) n x1 x2 x3 a37' a40' b58' = some out → MM D y nn ad A0 s.heap I J (va_up (va_up A 37 a37') 40 a40') (va_up B 58 b58') G H locs → lv_has ls 6 [(0, .ref (ad 7)), (1, .int x1), (2, .int x2), (3, .int x3)] → W p l e ({ frames := 2, cells := 0, slots := 0, locals := 45 } : Room) s m args below meth c H locs 0 0 (MQ below (mQi D y nn ad A0 out.1 (I, J, (va_up (va_up A 37 out.2.1) 40 out.2.2.1), (va_up B 58 out.2.2.2), G)) args s 0 0 A0) (F0 m 42 ls []) := by
  intro n
  induction n with
  | zero =>
    intro x1 x2 x3 a37' a40' b58' ls H locs hE
    cases (show (none : Option _) = some out from hE)
  | succ n ih =>
    intro x1 x2 x3 a37' a40' b58' ls H locs hE hM hl
    exact s_X7_cheaper_42 F hr (N := N) nx32 hn32 (lq6 (f_X7_cheaper_42 N (I 6) (B 57) nx32) n) ih x1 x2 x3 a37' a40' b58' ls H locs hE hM hl
set_option maxHeartbeats 4000000 in
set_option maxRecDepth 100000 in
theorem s_X7_cheaper_32 {p : Program} {l : Launch} {e : Env} {s : State} {m : MethodId} {args : Array Value} {below : List Frame} {meth : Method} {c : Code} {D : va_G} {y : Nat → ClassId} {nn : Nat} {ad : Nat → Nat} {A0 : Nat → Prop} {I : Nat → Int32} {J : Nat → Int64} {A : Nat → Nat → Int32} {B : Nat → Nat → Int64} {G : Nat → Nat → Nat → Int32} (F : Fx p s m args meth c cX7_cheaper 6 wsX7_cheaper RX7 D y A0) (hr : meth.sig.returnType = (some .boolean)) {out : Int32 × (Nat → Int32) × (Nat → Int32) × (Nat → Int64)} {N : Nat}  (nx32 : Int32 → Int32 → (Nat → Int32) → (Nat → Int32) → (Nat → Int64) → Option (Int32 × (Nat → Int32) × (Nat → Int32) × (Nat → Int64))) (hn32 : ∀ (x1 : Int32) (x2 : Int32) (a37' : Nat → Int32) (a40' : Nat → Int32) (b58' : Nat → Int64) (ls : Array Slot) (H : Heap) (locs : List Loc), nx32 x1 x2 a37' a40' b58' = some out → MM D y nn ad A0 s.heap I J (va_up (va_up A 37 a37') 40 a40') (va_up B 58 b58') G H locs → lv_has ls 6 [(0, .ref (ad 7)), (1, .int x1), (2, .int x2)] → W p l e ({ frames := 2, cells := 0, slots := 0, locals := 45 } : Room) s m args below meth c H locs 0 0 (MQ below (mQi D y nn ad A0 out.1 (I, J, (va_up (va_up A 37 out.2.1) 40 out.2.2.1), (va_up B 58 out.2.2.2), G)) args s 0 0 A0) (F0 m 32 ls [])) : ∀ (x1 : Int32) (x2 : Int32) (a37' : Nat → Int32) (a40' : Nat → Int32) (b58' : Nat → Int64) (ls : Array Slot) (H : Heap) (locs : List Loc), f_X7_cheaper_32 N (I 6) (B 57)  nx32 x1 x2 a37' a40' b58' = some out → MM D y nn ad A0 s.heap I J (va_up (va_up A 37 a37') 40 a40') (va_up B 58 b58') G H locs → lv_has ls 6 [(0, .ref (ad 7)), (1, .int x1), (2, .int x2)] → W p l e ({ frames := 2, cells := 0, slots := 0, locals := 45 } : Room) s m args below meth c H locs 0 0 (MQ below (mQi D y nn ad A0 out.1 (I, J, (va_up (va_up A 37 out.2.1) 40 out.2.2.1), (va_up B 58 out.2.2.2), G)) args s 0 0 A0) (F0 m 32 ls []) := by
  intro x1 x2 a37' a40' b58' ls H locs hE hM hl
  have hx := F.1.1
  have hb := F.1.2.1
  unfold f_X7_cheaper_32 at hE
  refine lv_iload_n hx hb dX7_cheaper_32 rfl (lv_at hl 2 rfl) ?_
  refine lv_bipush (v := 25) hx hb dX7_cheaper_33 (by decide) ?_
  refine lv_icmp_ge (tgt := 148) hx hb dX7_cheaper_35 (by decide) (fun c35 => ?_) (fun c35 => ?_)
  · replace hE := (if_pos c35).symm.trans hE
    refine lv_iload_n hx hb dX7_cheaper_148 rfl (lv_at hl 1 rfl) ?_
    refine lv_if_ge (tgt := 154) hx hb dX7_cheaper_149 (by decide) (fun c149 => ?_) (fun c149 => ?_)
    · replace hE := (if_pos c149).symm.trans hE
      refine lv_iload_n hx hb dX7_cheaper_154 rfl (lv_at hl 1 rfl) ?_
      refine lv_istore_n (lv' := [(2, .int x1), (0, .ref (ad 7)), (1, .int x1)]) hx hb dX7_cheaper_155 rfl hl (by decide) rfl (fun ls hl => ?_)
      refine lv_iconst (v := 0) hx hb dX7_cheaper_156 (by decide) ?_
      refine lv_istore_n (lv' := [(3, .int (0 : Int32)), (2, .int x1), (0, .ref (ad 7)), (1, .int x1)]) hx hb dX7_cheaper_157 rfl hl (by decide) rfl (fun ls hl => ?_)
      exact k_X7_cheaper_158 F hr (N := N)  N x1 (0 : Int32) a37' a40' b58' ls H locs hE hM (lv_sub hl [2, 1, 0] rfl)
    · replace hE := (if_neg c149).symm.trans hE
      refine lv_iconst (v := 0) hx hb dX7_cheaper_152 (by decide) ?_
      obtain ⟨hz, hE⟩ := bz_some hE
      obtain rfl := Option.some.inj hE
      exact m_zret F hM hr hz rfl rfl dX7_cheaper_153
  · replace hE := (if_neg c35).symm.trans hE
    refine lv_iconst (v := (-1)) hx hb dX7_cheaper_38 (by decide) ?_
    refine lv_istore_n (lv' := [(1, .int (-1 : Int32)), (0, .ref (ad 7)), (2, .int x2)]) hx hb dX7_cheaper_39 rfl hl (by decide) rfl (fun ls hl => ?_)
    refine lv_iconst (v := 0) hx hb dX7_cheaper_40 (by decide) ?_
    refine lv_istore_n (lv' := [(3, .int (0 : Int32)), (1, .int (-1 : Int32)), (0, .ref (ad 7)), (2, .int x2)]) hx hb dX7_cheaper_41 rfl hl (by decide) rfl (fun ls hl => ?_)
    exact k_X7_cheaper_42 F hr (N := N) nx32 hn32 N (-1 : Int32) x2 (0 : Int32) a37' a40' b58' ls H locs hE hM (lv_sub hl [2, 1, 3, 0] rfl)
theorem k_X7_cheaper_32 {p : Program} {l : Launch} {e : Env} {s : State} {m : MethodId} {args : Array Value} {below : List Frame} {meth : Method} {c : Code} {D : va_G} {y : Nat → ClassId} {nn : Nat} {ad : Nat → Nat} {A0 : Nat → Prop} {I : Nat → Int32} {J : Nat → Int64} {A : Nat → Nat → Int32} {B : Nat → Nat → Int64} {G : Nat → Nat → Nat → Int32} (F : Fx p s m args meth c cX7_cheaper 6 wsX7_cheaper RX7 D y A0) (hr : meth.sig.returnType = (some .boolean)) {out : Int32 × (Nat → Int32) × (Nat → Int32) × (Nat → Int64)} {N : Nat}  : ∀ (n : Nat), ∀ (x1 : Int32) (x2 : Int32) (a37' : Nat → Int32) (a40' : Nat → Int32) (b58' : Nat → Int64) (ls : Array Slot) (H : Heap) (locs : List Loc), lq5 (f_X7_cheaper_32 N (I 6) (B 57) ) n x1 x2 a37' a40' b58' = some out → MM D y nn ad A0 s.heap I J (va_up (va_up A 37 a37') 40 a40') (va_up B 58 b58') G H locs → lv_has ls 6 [(0, .ref (ad 7)), (1, .int x1), (2, .int x2)] → W p l e ({ frames := 2, cells := 0, slots := 0, locals := 45 } : Room) s m args below meth c H locs 0 0 (MQ below (mQi D y nn ad A0 out.1 (I, J, (va_up (va_up A 37 out.2.1) 40 out.2.2.1), (va_up B 58 out.2.2.2), G)) args s 0 0 A0) (F0 m 32 ls []) := by
  intro n
  induction n with
  | zero =>
    intro x1 x2 a37' a40' b58' ls H locs hE
    cases (show (none : Option _) = some out from hE)
  | succ n ih =>
    intro x1 x2 a37' a40' b58' ls H locs hE hM hl
    exact s_X7_cheaper_32 F hr (N := N)  (lq5 (f_X7_cheaper_32 N (I 6) (B 57) ) n) ih x1 x2 a37' a40' b58' ls H locs hE hM hl
set_option maxHeartbeats 4000000 in
set_option maxRecDepth 100000 in
theorem s_X7_cheaper_2 {p : Program} {l : Launch} {e : Env} {s : State} {m : MethodId} {args : Array Value} {below : List Frame} {meth : Method} {c : Code} {D : va_G} {y : Nat → ClassId} {nn : Nat} {ad : Nat → Nat} {A0 : Nat → Prop} {I : Nat → Int32} {J : Nat → Int64} {A : Nat → Nat → Int32} {B : Nat → Nat → Int64} {G : Nat → Nat → Nat → Int32} (F : Fx p s m args meth c cX7_cheaper 6 wsX7_cheaper RX7 D y A0) (hr : meth.sig.returnType = (some .boolean)) {out : Int32 × (Nat → Int32) × (Nat → Int32) × (Nat → Int64)} {N : Nat}  (nx2 : Int32 → (Nat → Int32) → (Nat → Int32) → (Nat → Int64) → Option (Int32 × (Nat → Int32) × (Nat → Int32) × (Nat → Int64))) (hn2 : ∀ (x1 : Int32) (a37' : Nat → Int32) (a40' : Nat → Int32) (b58' : Nat → Int64) (ls : Array Slot) (H : Heap) (locs : List Loc), nx2 x1 a37' a40' b58' = some out → MM D y nn ad A0 s.heap I J (va_up (va_up A 37 a37') 40 a40') (va_up B 58 b58') G H locs → lv_has ls 6 [(0, .ref (ad 7)), (1, .int x1)] → W p l e ({ frames := 2, cells := 0, slots := 0, locals := 45 } : Room) s m args below meth c H locs 0 0 (MQ below (mQi D y nn ad A0 out.1 (I, J, (va_up (va_up A 37 out.2.1) 40 out.2.2.1), (va_up B 58 out.2.2.2), G)) args s 0 0 A0) (F0 m 2 ls [])) : ∀ (x1 : Int32) (a37' : Nat → Int32) (a40' : Nat → Int32) (b58' : Nat → Int64) (ls : Array Slot) (H : Heap) (locs : List Loc), f_X7_cheaper_2 N (I 6) (B 57)  nx2 x1 a37' a40' b58' = some out → MM D y nn ad A0 s.heap I J (va_up (va_up A 37 a37') 40 a40') (va_up B 58 b58') G H locs → lv_has ls 6 [(0, .ref (ad 7)), (1, .int x1)] → W p l e ({ frames := 2, cells := 0, slots := 0, locals := 45 } : Room) s m args below meth c H locs 0 0 (MQ below (mQi D y nn ad A0 out.1 (I, J, (va_up (va_up A 37 out.2.1) 40 out.2.2.1), (va_up B 58 out.2.2.2), G)) args s 0 0 A0) (F0 m 2 ls []) := by
  intro x1 a37' a40' b58' ls H locs hE hM hl
  have hx := F.1.1
  have hb := F.1.2.1
  unfold f_X7_cheaper_2 at hE
  refine lv_iload_n hx hb dX7_cheaper_2 rfl (lv_at hl 1 rfl) ?_
  refine lv_bipush (v := 24) hx hb dX7_cheaper_3 (by decide) ?_
  refine lv_icmp_ge (tgt := 28) hx hb dX7_cheaper_5 (by decide) (fun c5 => ?_) (fun c5 => ?_)
  · replace hE := (if_pos c5).symm.trans hE
    refine lv_iconst (v := (-1)) hx hb dX7_cheaper_28 (by decide) ?_
    refine lv_istore_n (lv' := [(1, .int (-1 : Int32)), (0, .ref (ad 7))]) hx hb dX7_cheaper_29 rfl hl (by decide) rfl (fun ls hl => ?_)
    refine lv_iconst (v := 0) hx hb dX7_cheaper_30 (by decide) ?_
    refine lv_istore_n (lv' := [(2, .int (0 : Int32)), (1, .int (-1 : Int32)), (0, .ref (ad 7))]) hx hb dX7_cheaper_31 rfl hl (by decide) rfl (fun ls hl => ?_)
    exact k_X7_cheaper_32 F hr (N := N)  N (-1 : Int32) (0 : Int32) a37' a40' b58' ls H locs hE hM (lv_sub hl [2, 1, 0] rfl)
  · replace hE := (if_neg c5).symm.trans hE
    refine lv_aload_n hx hb dX7_cheaper_8 rfl (lv_at hl 0 rfl) ?_
    refine m_get F hM 7 mg_7 rfl 15 (by decide) (by decide +kernel) (by decide +kernel) (v := .ref (ad 58)) rfl dX7_cheaper_9 ?_
    refine lv_iload_n hx hb dX7_cheaper_12 rfl (lv_at hl 1 rfl) ?_
    refine lv_lconst (v := 0) hx hb dX7_cheaper_13 (by decide) ?_
    obtain ⟨hi14_16, hE⟩ := ck_some hE
    obtain ⟨w14_17, ew14_17, hE⟩ := nmd_some hE
    refine m_last (f := b58') (B' := (va_up B 58 w14_17)) F hM mg_58 ms_58 (by rw [ew14_17]; exact (bx_uu _ _ _ _)) hi14_16 dX7_cheaper_14 (fun H locs hM => ?_)
    refine lv_aload_n hx hb dX7_cheaper_15 rfl (lv_at hl 0 rfl) ?_
    refine m_get F hM 7 mg_7 rfl 16 (by decide) (by decide +kernel) (by decide +kernel) (v := .ref (ad 40)) rfl dX7_cheaper_16 ?_
    refine lv_iload_n hx hb dX7_cheaper_19 rfl (lv_at hl 1 rfl) ?_
    refine lv_iconst (v := (-1)) hx hb dX7_cheaper_20 (by decide) ?_
    obtain ⟨hi21_18, hE⟩ := ck_some hE
    obtain ⟨w21_19, ew21_19, hE⟩ := nmd_some hE
    refine m_iast (f := a40') (A' := (va_up (va_up A 37 a37') 40 w21_19)) F hM mg_40 ms_40 (by rw [ew21_19]; exact un_37_40__40) hi21_18 dX7_cheaper_21 (fun H locs hM => ?_)
    refine lv_iinc (v := x1 + (1 : Int32)) (lv' := [(1, .int (x1 + (1 : Int32))), (0, .ref (ad 7))]) hx hb dX7_cheaper_22 hl (k := 1) rfl rfl (by decide) rfl (fun ls hl => ?_)
    refine lv_goto (tgt := 2) hx hb dX7_cheaper_25 (by decide) ?_
    exact hn2 (x1 + (1 : Int32)) a37' w21_19 w14_17 ls H locs hE hM (lv_sub hl [1, 0] rfl)
theorem k_X7_cheaper_2 {p : Program} {l : Launch} {e : Env} {s : State} {m : MethodId} {args : Array Value} {below : List Frame} {meth : Method} {c : Code} {D : va_G} {y : Nat → ClassId} {nn : Nat} {ad : Nat → Nat} {A0 : Nat → Prop} {I : Nat → Int32} {J : Nat → Int64} {A : Nat → Nat → Int32} {B : Nat → Nat → Int64} {G : Nat → Nat → Nat → Int32} (F : Fx p s m args meth c cX7_cheaper 6 wsX7_cheaper RX7 D y A0) (hr : meth.sig.returnType = (some .boolean)) {out : Int32 × (Nat → Int32) × (Nat → Int32) × (Nat → Int64)} {N : Nat}  : ∀ (n : Nat), ∀ (x1 : Int32) (a37' : Nat → Int32) (a40' : Nat → Int32) (b58' : Nat → Int64) (ls : Array Slot) (H : Heap) (locs : List Loc), lq4 (f_X7_cheaper_2 N (I 6) (B 57) ) n x1 a37' a40' b58' = some out → MM D y nn ad A0 s.heap I J (va_up (va_up A 37 a37') 40 a40') (va_up B 58 b58') G H locs → lv_has ls 6 [(0, .ref (ad 7)), (1, .int x1)] → W p l e ({ frames := 2, cells := 0, slots := 0, locals := 45 } : Room) s m args below meth c H locs 0 0 (MQ below (mQi D y nn ad A0 out.1 (I, J, (va_up (va_up A 37 out.2.1) 40 out.2.2.1), (va_up B 58 out.2.2.2), G)) args s 0 0 A0) (F0 m 2 ls []) := by
  intro n
  induction n with
  | zero =>
    intro x1 a37' a40' b58' ls H locs hE
    cases (show (none : Option _) = some out from hE)
  | succ n ih =>
    intro x1 a37' a40' b58' ls H locs hE hM hl
    exact s_X7_cheaper_2 F hr (N := N)  (lq4 (f_X7_cheaper_2 N (I 6) (B 57) ) n) ih x1 a37' a40' b58' ls H locs hE hM hl
set_option maxHeartbeats 4000000 in
set_option maxRecDepth 100000 in
theorem c_X7_cheaper (l : Launch) (D : va_G) (y : Nat → ClassId) (nn : Nat) (ad : Nat → Nat) (sz : Nat) (I : Nat → Int32) (J : Nat → Int64) (A : Nat → Nat → Int32) (B : Nat → Nat → Int64) (G : Nat → Nat → Nat → Int32)  (N : Nat) (out : Int32 × (Nat → Int32) × (Nat → Int32) × (Nat → Int64)) (hE : f_X7_cheaper N (I 6) (B 57) (A 37) (A 40) (B 58)  = some out) : Met l yX7_cheaper wsX7_cheaper ({ frames := 2, cells := 0, slots := 0, locals := 45 } : Room) (mPc [.ref (ad 7)] D y nn ad sz I J A B G) (mQi D y nn ad (mA y nn ad I J A B G sz) out.1 (I, J, (va_up (va_up A 37 out.2.1) 40 out.2.2.1), (va_up B 58 out.2.2.2), G)) 0 0 (mA y nn ad I J A B G sz) := by
  refine Met.ofW (cc := cX7_cheaper) (maxL := 6) (ret := (some .boolean)) (by decide) rfl ?_
  intro p e s m args below meth c s₁ Bd hml hv
  obtain ⟨rfl, hsz, hP, hK, hD0, hN⟩ := hv
  have hr := Bd.returns
  subst hsz
  have F : Fx p s m ([.ref (ad 7)] : List Value).toArray meth c cX7_cheaper 6 wsX7_cheaper RX7 D y (mA y nn ad I J A B G s.heap.size) := ⟨⟨Bd.exec, Bd.bytes, hml, findClass_of_methodNamed Bd.named, atoms_spec (ws := wsX7_cheaper) Bd.pre⟩, hK, hN, fun q h => Or.inr h, Bd.notSynchronized⟩
  have hM := m_start (s := s) rfl hP hD0
  have hM := m_mem (I2 := I) (J2 := J) (A2 := (va_up (va_up A 37 (A 37)) 40 (A 40))) (B2 := (va_up B 58 (B 58))) (G2 := G) hM (by rfl) (by rfl) (by simp only [up_id]) (by simp only [up_id]) (by rfl)
  have hx := F.1.1
  have hb := F.1.2.1
  have hl := lv_entry ([.ref (ad 7)]) (n := 6) (Nat.le_of_ble_eq_true rfl)
  rw [lg_entry_eq]
  generalize (lg_sl ([.ref (ad 7)]) ++ List.replicate (6 - (lg_sl ([.ref (ad 7)])).length) Slot.unset).toArray = ls at hl ⊢
  have hl : lv_has ls 6 [(0, .ref (ad 7))] := hl
  show W p l e ({ frames := 2, cells := 0, slots := 0, locals := 45 } : Room) s m _ below meth c s.heap [] 0 0 _ _
  obtain ⟨locs, hlo⟩ : ∃ locs : List Loc, locs = [] := ⟨_, rfl⟩
  rw [← hlo]; rw [← hlo] at hM
  unfold f_X7_cheaper at hE
  revert hM
  suffices hH : ∀ H : Heap, MM D y nn ad (mA y nn ad I J A B G s.heap.size) s.heap I J (va_up (va_up A 37 (A 37)) 40 (A 40)) (va_up B 58 (B 58)) G H locs → W p l e ({ frames := 2, cells := 0, slots := 0, locals := 45 } : Room) s m ([.ref (ad 7)] : List Value).toArray below meth c H locs 0 0 (MQ below (mQi D y nn ad (mA y nn ad I J A B G s.heap.size) out.1 (I, J, (va_up (va_up A 37 out.2.1) 40 out.2.2.1), (va_up B 58 out.2.2.2), G)) ([.ref (ad 7)] : List Value).toArray s 0 0 (mA y nn ad I J A B G s.heap.size)) (F0 m 0 ls []) from hH s.heap
  intro H hM
  refine lv_iconst (v := 0) hx hb dX7_cheaper_0 (by decide) ?_
  refine lv_istore_n (lv' := [(1, .int (0 : Int32)), (0, .ref (ad 7))]) hx hb dX7_cheaper_1 rfl hl (by decide) rfl (fun ls hl => ?_)
  exact k_X7_cheaper_2 F hr (N := N)  N (0 : Int32) (A 37) (A 40) (B 58) ls H locs hE hM (lv_sub hl [1, 0] rfl)
/-! ===== X7_one: reads I6 B54 B57, writes A37 A38 A40 B58, frames 3, locals 70 ===== -/
def f_X7_one_236 (N : Nat) (i6 : Int32) (b54 : Nat → Int64) (b57 : Nat → Int64)  (nx236 : Int64 → Int32 → (Nat → Int32) → (Nat → Int32) → (Nat → Int32) → (Nat → Int64) → Option (Int64 × (Nat → Int32) × (Nat → Int32) × (Nat → Int32) × (Nat → Int64))) (x1 : Int64) (x4 : Int32) (a37' : Nat → Int32) (a38' : Nat → Int32) (a40' : Nat → Int32) (b58' : Nat → Int64) : Option (Int64 × (Nat → Int32) × (Nat → Int32) × (Nat → Int32) × (Nat → Int64)) :=
(if (144 : Int32) ≤ x4 then
some (x1, a37', a38', a40', b58')
else
ck x4 144 (
(if (a37' x4.toNatClampNeg) ≤ (0 : Int32) then
nx236 x1 (x4 + (1 : Int32)) a37' a38' a40' b58'
else
ck x4 144 (
ck x4 144 (
nmd ((x1 + (((a37' x4.toNatClampNeg).toInt64) * (b57 x4.toNatClampNeg)))) fun v276_3 =>
nx236 v276_3 (x4 + (1 : Int32)) a37' a38' a40' b58')))))
def f_X7_one_221 (N : Nat) (i6 : Int32) (b54 : Nat → Int64) (b57 : Nat → Int64)  (nx221 : Int64 → Int32 → (Nat → Int32) → (Nat → Int32) → (Nat → Int32) → (Nat → Int64) → Option (Int64 × (Nat → Int32) × (Nat → Int32) × (Nat → Int32) × (Nat → Int64))) (x1 : Int64) (x3 : Int32) (a37' : Nat → Int32) (a38' : Nat → Int32) (a40' : Nat → Int32) (b58' : Nat → Int64) : Option (Int64 × (Nat → Int32) × (Nat → Int32) × (Nat → Int32) × (Nat → Int64)) :=
(if x3 = (0 : Int32) then
lq6 (f_X7_one_236 N i6 b54 b57 ) N x1 (0 : Int32) a37' a38' a40' b58'
else
bd (f_X7_cheaper N i6 b57 a37' a40' b58') fun o226_4 =>
nx221 x1 o226_4.1 o226_4.2.1 a38' o226_4.2.2.1 o226_4.2.2.2)
def f_X7_one_148 (N : Nat) (i6 : Int32) (b54 : Nat → Int64) (b57 : Nat → Int64) (nx128 : Int64 → Int32 → (Nat → Int32) → (Nat → Int32) → (Nat → Int32) → (Nat → Int64) → Option (Int64 × (Nat → Int32) × (Nat → Int32) × (Nat → Int32) × (Nat → Int64))) (nx139 : Int64 → Int32 → Int32 → (Nat → Int32) → (Nat → Int32) → (Nat → Int32) → (Nat → Int64) → Option (Int64 × (Nat → Int32) × (Nat → Int32) × (Nat → Int32) × (Nat → Int64))) (nx148 : Int64 → Int32 → Int32 → (Nat → Int32) → (Nat → Int32) → (Nat → Int32) → (Nat → Int64) → Option (Int64 × (Nat → Int32) × (Nat → Int32) × (Nat → Int32) × (Nat → Int64))) (x1 : Int64) (x3 : Int32) (x4 : Int32) (a37' : Nat → Int32) (a38' : Nat → Int32) (a40' : Nat → Int32) (b58' : Nat → Int64) : Option (Int64 × (Nat → Int32) × (Nat → Int32) × (Nat → Int32) × (Nat → Int64)) :=
ck x3 12 (
(if (a38' x3.toNatClampNeg) ≤ (0 : Int32) then
nx139 x1 x3 (x4 + (1 : Int32)) a37' a38' a40' b58'
else
ck x4 12 (
(if (0 : Int32) ≤ (a38' x4.toNatClampNeg) then
nx139 x1 x3 (x4 + (1 : Int32)) a37' a38' a40' b58'
else
ck (((12 : Int32) * x3) + x4) 144 (
ck (((12 : Int32) * x3) + x4) 144 (
nmd (upd a37' (((12 : Int32) * x3) + x4).toNatClampNeg ((a37' (((12 : Int32) * x3) + x4).toNatClampNeg) + (1 : Int32))) fun w182_9 =>
ck x3 12 (
ck x3 12 (
nmd (upd a38' x3.toNatClampNeg ((a38' x3.toNatClampNeg) - (1 : Int32))) fun w192_12 =>
ck x4 12 (
ck x4 12 (
nmd (upd w192_12 x4.toNatClampNeg ((w192_12 x4.toNatClampNeg) + (1 : Int32))) fun w203_15 =>
nx148 x1 x3 x4 w182_9 w203_15 a40' b58'))))))))))
def f_X7_one_139 (N : Nat) (i6 : Int32) (b54 : Nat → Int64) (b57 : Nat → Int64) (nx128 : Int64 → Int32 → (Nat → Int32) → (Nat → Int32) → (Nat → Int32) → (Nat → Int64) → Option (Int64 × (Nat → Int32) × (Nat → Int32) × (Nat → Int32) × (Nat → Int64))) (nx139 : Int64 → Int32 → Int32 → (Nat → Int32) → (Nat → Int32) → (Nat → Int32) → (Nat → Int64) → Option (Int64 × (Nat → Int32) × (Nat → Int32) × (Nat → Int32) × (Nat → Int64))) (x1 : Int64) (x3 : Int32) (x4 : Int32) (a37' : Nat → Int32) (a38' : Nat → Int32) (a40' : Nat → Int32) (b58' : Nat → Int64) : Option (Int64 × (Nat → Int32) × (Nat → Int32) × (Nat → Int32) × (Nat → Int64)) :=
(if i6 ≤ x4 then
nx128 x1 (x3 + (1 : Int32)) a37' a38' a40' b58'
else
lq7 (f_X7_one_148 N i6 b54 b57 nx128 nx139) N x1 x3 x4 a37' a38' a40' b58')
def f_X7_one_128 (N : Nat) (i6 : Int32) (b54 : Nat → Int64) (b57 : Nat → Int64)  (nx128 : Int64 → Int32 → (Nat → Int32) → (Nat → Int32) → (Nat → Int32) → (Nat → Int64) → Option (Int64 × (Nat → Int32) × (Nat → Int32) × (Nat → Int32) × (Nat → Int64))) (x1 : Int64) (x3 : Int32) (a37' : Nat → Int32) (a38' : Nat → Int32) (a40' : Nat → Int32) (b58' : Nat → Int64) : Option (Int64 × (Nat → Int32) × (Nat → Int32) × (Nat → Int32) × (Nat → Int64)) :=
(if i6 ≤ x3 then
lq6 (f_X7_one_221 N i6 b54 b57 ) N x1 (1 : Int32) a37' a38' a40' b58'
else
lq7 (f_X7_one_139 N i6 b54 b57 nx128) N x1 x3 (0 : Int32) a37' a38' a40' b58')
def f_X7_one_74 (N : Nat) (i6 : Int32) (b54 : Nat → Int64) (b57 : Nat → Int64) (nx4 : Int64 → Int32 → (Nat → Int32) → (Nat → Int32) → (Nat → Int32) → (Nat → Int64) → Option (Int64 × (Nat → Int32) × (Nat → Int32) × (Nat → Int32) × (Nat → Int64))) (nx22 : Int64 → Int32 → Int32 → (Nat → Int32) → (Nat → Int32) → (Nat → Int32) → (Nat → Int64) → Option (Int64 × (Nat → Int32) × (Nat → Int32) × (Nat → Int32) × (Nat → Int64))) (x1 : Int64) (x3 : Int32) (x4 : Int32) (a37' : Nat → Int32) (a38' : Nat → Int32) (a40' : Nat → Int32) (b58' : Nat → Int64) : Option (Int64 × (Nat → Int32) × (Nat → Int32) × (Nat → Int32) × (Nat → Int64)) :=
(if x3 = x4 then
nx22 x1 x3 (x4 + (1 : Int32)) a37' a38' a40' b58'
else
bd (f_X7_way_ b54 x3 x4) fun o84_20 =>
(if (1000000000000 : Int64) ≤ o84_20 then
nx22 x1 x3 (x4 + (1 : Int32)) a37' a38' a40' b58'
else
ck x3 12 (
ck x3 12 (
nmd (upd a38' x3.toNatClampNeg ((a38' x3.toNatClampNeg) - (1 : Int32))) fun w103_23 =>
bd (f_X7_way_ b54 x3 x4) fun o109_24 =>
nx22 (x1 + o109_24) x3 (x4 + (1 : Int32)) a37' w103_23 a40' b58'))))
def f_X7_one_22 (N : Nat) (i6 : Int32) (b54 : Nat → Int64) (b57 : Nat → Int64) (nx4 : Int64 → Int32 → (Nat → Int32) → (Nat → Int32) → (Nat → Int32) → (Nat → Int64) → Option (Int64 × (Nat → Int32) × (Nat → Int32) × (Nat → Int32) × (Nat → Int64))) (nx22 : Int64 → Int32 → Int32 → (Nat → Int32) → (Nat → Int32) → (Nat → Int32) → (Nat → Int64) → Option (Int64 × (Nat → Int32) × (Nat → Int32) × (Nat → Int32) × (Nat → Int64))) (x1 : Int64) (x3 : Int32) (x4 : Int32) (a37' : Nat → Int32) (a38' : Nat → Int32) (a40' : Nat → Int32) (b58' : Nat → Int64) : Option (Int64 × (Nat → Int32) × (Nat → Int32) × (Nat → Int32) × (Nat → Int64)) :=
(if i6 ≤ x4 then
nx4 x1 (x3 + (1 : Int32)) a37' a38' a40' b58'
else
ck (((12 : Int32) * x3) + x4) 144 (
nmd (upd a37' (((12 : Int32) * x3) + x4).toNatClampNeg (0 : Int32)) fun w43_19 =>
(if x3 = x4 then
f_X7_one_74 N i6 b54 b57 nx4 nx22 x1 x3 x4 w43_19 a38' a40' b58'
else
bd (f_X7_way_ b54 x4 x3) fun o54_25 =>
(if (1000000000000 : Int64) ≤ o54_25 then
f_X7_one_74 N i6 b54 b57 nx4 nx22 x1 x3 x4 w43_19 a38' a40' b58'
else
ck x3 12 (
ck x3 12 (
nmd (upd a38' x3.toNatClampNeg ((a38' x3.toNatClampNeg) + (1 : Int32))) fun w73_28 =>
f_X7_one_74 N i6 b54 b57 nx4 nx22 x1 x3 x4 w43_19 w73_28 a40' b58'))))))
def f_X7_one_4 (N : Nat) (i6 : Int32) (b54 : Nat → Int64) (b57 : Nat → Int64)  (nx4 : Int64 → Int32 → (Nat → Int32) → (Nat → Int32) → (Nat → Int32) → (Nat → Int64) → Option (Int64 × (Nat → Int32) × (Nat → Int32) × (Nat → Int32) × (Nat → Int64))) (x1 : Int64) (x3 : Int32) (a37' : Nat → Int32) (a38' : Nat → Int32) (a40' : Nat → Int32) (b58' : Nat → Int64) : Option (Int64 × (Nat → Int32) × (Nat → Int32) × (Nat → Int32) × (Nat → Int64)) :=
(if i6 ≤ x3 then
lq6 (f_X7_one_128 N i6 b54 b57 ) N x1 (0 : Int32) a37' a38' a40' b58'
else
ck x3 12 (
nmd (upd a38' x3.toNatClampNeg (0 : Int32)) fun w18_17 =>
lq7 (f_X7_one_22 N i6 b54 b57 nx4) N x1 x3 (0 : Int32) a37' w18_17 a40' b58'))
def f_X7_one (N : Nat) (i6 : Int32) (b54 : Nat → Int64) (b57 : Nat → Int64) (a37 : Nat → Int32) (a38 : Nat → Int32) (a40 : Nat → Int32) (b58 : Nat → Int64)  : Option (Int64 × (Nat → Int32) × (Nat → Int32) × (Nat → Int32) × (Nat → Int64)) :=
lq6 (f_X7_one_4 N i6 b54 b57 ) N (0 : Int64) (0 : Int32) a37 a38 a40 b58
set_option maxHeartbeats 4000000 in
set_option maxRecDepth 100000 in
theorem s_X7_one_236 {p : Program} {l : Launch} {e : Env} {s : State} {m : MethodId} {args : Array Value} {below : List Frame} {meth : Method} {c : Code} {D : va_G} {y : Nat → ClassId} {nn : Nat} {ad : Nat → Nat} {A0 : Nat → Prop} {I : Nat → Int32} {J : Nat → Int64} {A : Nat → Nat → Int32} {B : Nat → Nat → Int64} {G : Nat → Nat → Nat → Int32} (F : Fx p s m args meth c cX7_one 5 wsX7_one RX7 D y A0) (hr : meth.sig.returnType = (some .long)) {out : Int64 × (Nat → Int32) × (Nat → Int32) × (Nat → Int32) × (Nat → Int64)} {N : Nat}  (nx236 : Int64 → Int32 → (Nat → Int32) → (Nat → Int32) → (Nat → Int32) → (Nat → Int64) → Option (Int64 × (Nat → Int32) × (Nat → Int32) × (Nat → Int32) × (Nat → Int64))) (hn236 : ∀ (x1 : Int64) (x4 : Int32) (a37' : Nat → Int32) (a38' : Nat → Int32) (a40' : Nat → Int32) (b58' : Nat → Int64) (ls : Array Slot) (H : Heap) (locs : List Loc), nx236 x1 x4 a37' a38' a40' b58' = some out → MM D y nn ad A0 s.heap I J (va_up (va_up (va_up A 37 a37') 38 a38') 40 a40') (va_up B 58 b58') G H locs → lv_has ls 5 [(0, .ref (ad 7)), (1, .long x1), (4, .int x4)] → W p l e ({ frames := 3, cells := 0, slots := 0, locals := 70 } : Room) s m args below meth c H locs 0 0 (MQ below (mQl D y nn ad A0 out.1 (I, J, (va_up (va_up (va_up A 37 out.2.1) 38 out.2.2.1) 40 out.2.2.2.1), (va_up B 58 out.2.2.2.2), G)) args s 0 0 A0) (F0 m 236 ls [])) : ∀ (x1 : Int64) (x4 : Int32) (a37' : Nat → Int32) (a38' : Nat → Int32) (a40' : Nat → Int32) (b58' : Nat → Int64) (ls : Array Slot) (H : Heap) (locs : List Loc), f_X7_one_236 N (I 6) (B 54) (B 57)  nx236 x1 x4 a37' a38' a40' b58' = some out → MM D y nn ad A0 s.heap I J (va_up (va_up (va_up A 37 a37') 38 a38') 40 a40') (va_up B 58 b58') G H locs → lv_has ls 5 [(0, .ref (ad 7)), (1, .long x1), (4, .int x4)] → W p l e ({ frames := 3, cells := 0, slots := 0, locals := 70 } : Room) s m args below meth c H locs 0 0 (MQ below (mQl D y nn ad A0 out.1 (I, J, (va_up (va_up (va_up A 37 out.2.1) 38 out.2.2.1) 40 out.2.2.2.1), (va_up B 58 out.2.2.2.2), G)) args s 0 0 A0) (F0 m 236 ls []) := by
  intro x1 x4 a37' a38' a40' b58' ls H locs hE hM hl
  have hx := F.1.1
  have hb := F.1.2.1
  unfold f_X7_one_236 at hE
  refine lv_iload hx hb dX7_one_236 (lv_at hl 2 rfl) ?_
  refine lv_sipush (v := 144) hx hb dX7_one_238 (by decide) ?_
  refine lv_icmp_ge (tgt := 283) hx hb dX7_one_241 (by decide) (fun c241 => ?_) (fun c241 => ?_)
  · replace hE := (if_pos c241).symm.trans hE
    refine lv_lload_n hx hb dX7_one_283 rfl (lv_at hl 1 rfl) ?_
    obtain rfl := Option.some.inj hE
    exact m_lret F hM hr rfl rfl dX7_one_284
  · replace hE := (if_neg c241).symm.trans hE
    refine lv_aload_n hx hb dX7_one_244 rfl (lv_at hl 0 rfl) ?_
    refine m_get F hM 7 mg_7 rfl 12 (by decide) (by decide +kernel) (by decide +kernel) (v := .ref (ad 37)) rfl dX7_one_245 ?_
    refine lv_iload hx hb dX7_one_248 (lv_at hl 2 rfl) ?_
    obtain ⟨hi250_0, hE⟩ := ck_some hE
    refine m_iald (g := a37') F hM mg_37 rfl hi250_0 dX7_one_250 ?_
    refine lv_if_le (tgt := 275) hx hb dX7_one_251 (by decide) (fun c251 => ?_) (fun c251 => ?_)
    · replace hE := (if_pos c251).symm.trans hE
      refine lv_lload_n hx hb dX7_one_275 rfl (lv_at hl 1 rfl) ?_
      refine lv_lstore_n (lv' := [(1, .long x1), (0, .ref (ad 7)), (4, .int x4)]) hx hb dX7_one_276 rfl hl (by decide) rfl (fun ls hl => ?_)
      refine lv_iinc (v := x4 + (1 : Int32)) (lv' := [(4, .int (x4 + (1 : Int32))), (1, .long x1), (0, .ref (ad 7))]) hx hb dX7_one_277 hl (k := 2) rfl rfl (by decide) rfl (fun ls hl => ?_)
      refine lv_goto (tgt := 236) hx hb dX7_one_280 (by decide) ?_
      exact hn236 x1 (x4 + (1 : Int32)) a37' a38' a40' b58' ls H locs hE hM (lv_sub hl [2, 1, 0] rfl)
    · replace hE := (if_neg c251).symm.trans hE
      refine lv_lload_n hx hb dX7_one_254 rfl (lv_at hl 1 rfl) ?_
      refine lv_aload_n hx hb dX7_one_255 rfl (lv_at hl 0 rfl) ?_
      refine m_get F hM 7 mg_7 rfl 12 (by decide) (by decide +kernel) (by decide +kernel) (v := .ref (ad 37)) rfl dX7_one_256 ?_
      refine lv_iload hx hb dX7_one_259 (lv_at hl 2 rfl) ?_
      obtain ⟨hi261_1, hE⟩ := ck_some hE
      refine m_iald (g := a37') F hM mg_37 rfl hi261_1 dX7_one_261 ?_
      refine lv_i2l hx hb dX7_one_262 rfl ?_
      refine lv_aload_n hx hb dX7_one_263 rfl (lv_at hl 0 rfl) ?_
      refine m_get F hM 7 mg_7 rfl 11 (by decide) (by decide +kernel) (by decide +kernel) (v := .ref (ad 57)) rfl dX7_one_264 ?_
      refine lv_iload hx hb dX7_one_267 (lv_at hl 2 rfl) ?_
      obtain ⟨hi269_2, hE⟩ := ck_some hE
      refine m_lald (g := (B 57)) F hM mg_57 rfl hi269_2 dX7_one_269 ?_
      refine lv_lmul hx hb dX7_one_270 ?_
      refine lv_ladd hx hb dX7_one_271 ?_
      refine lv_goto (tgt := 276) hx hb dX7_one_272 (by decide) ?_
      obtain ⟨v276_3, ev276_3, hE⟩ := nmd_some hE
      refine m_topl ev276_3 ?_
      refine lv_lstore_n (lv' := [(1, .long v276_3), (0, .ref (ad 7)), (4, .int x4)]) hx hb dX7_one_276 rfl hl (by decide) rfl (fun ls hl => ?_)
      refine lv_iinc (v := x4 + (1 : Int32)) (lv' := [(4, .int (x4 + (1 : Int32))), (1, .long v276_3), (0, .ref (ad 7))]) hx hb dX7_one_277 hl (k := 2) rfl rfl (by decide) rfl (fun ls hl => ?_)
      refine lv_goto (tgt := 236) hx hb dX7_one_280 (by decide) ?_
      exact hn236 v276_3 (x4 + (1 : Int32)) a37' a38' a40' b58' ls H locs hE hM (lv_sub hl [2, 1, 0] rfl)
theorem k_X7_one_236 {p : Program} {l : Launch} {e : Env} {s : State} {m : MethodId} {args : Array Value} {below : List Frame} {meth : Method} {c : Code} {D : va_G} {y : Nat → ClassId} {nn : Nat} {ad : Nat → Nat} {A0 : Nat → Prop} {I : Nat → Int32} {J : Nat → Int64} {A : Nat → Nat → Int32} {B : Nat → Nat → Int64} {G : Nat → Nat → Nat → Int32} (F : Fx p s m args meth c cX7_one 5 wsX7_one RX7 D y A0) (hr : meth.sig.returnType = (some .long)) {out : Int64 × (Nat → Int32) × (Nat → Int32) × (Nat → Int32) × (Nat → Int64)} {N : Nat}  : ∀ (n : Nat), ∀ (x1 : Int64) (x4 : Int32) (a37' : Nat → Int32) (a38' : Nat → Int32) (a40' : Nat → Int32) (b58' : Nat → Int64) (ls : Array Slot) (H : Heap) (locs : List Loc), lq6 (f_X7_one_236 N (I 6) (B 54) (B 57) ) n x1 x4 a37' a38' a40' b58' = some out → MM D y nn ad A0 s.heap I J (va_up (va_up (va_up A 37 a37') 38 a38') 40 a40') (va_up B 58 b58') G H locs → lv_has ls 5 [(0, .ref (ad 7)), (1, .long x1), (4, .int x4)] → W p l e ({ frames := 3, cells := 0, slots := 0, locals := 70 } : Room) s m args below meth c H locs 0 0 (MQ below (mQl D y nn ad A0 out.1 (I, J, (va_up (va_up (va_up A 37 out.2.1) 38 out.2.2.1) 40 out.2.2.2.1), (va_up B 58 out.2.2.2.2), G)) args s 0 0 A0) (F0 m 236 ls []) := by
  intro n
  induction n with
  | zero =>
    intro x1 x4 a37' a38' a40' b58' ls H locs hE
    cases (show (none : Option _) = some out from hE)
  | succ n ih =>
    intro x1 x4 a37' a38' a40' b58' ls H locs hE hM hl
    exact s_X7_one_236 F hr (N := N)  (lq6 (f_X7_one_236 N (I 6) (B 54) (B 57) ) n) ih x1 x4 a37' a38' a40' b58' ls H locs hE hM hl
set_option maxHeartbeats 4000000 in
set_option maxRecDepth 100000 in
theorem s_X7_one_221 {p : Program} {l : Launch} {e : Env} {s : State} {m : MethodId} {args : Array Value} {below : List Frame} {meth : Method} {c : Code} {D : va_G} {y : Nat → ClassId} {nn : Nat} {ad : Nat → Nat} {A0 : Nat → Prop} {I : Nat → Int32} {J : Nat → Int64} {A : Nat → Nat → Int32} {B : Nat → Nat → Int64} {G : Nat → Nat → Nat → Int32} (F : Fx p s m args meth c cX7_one 5 wsX7_one RX7 D y A0) (hr : meth.sig.returnType = (some .long)) {out : Int64 × (Nat → Int32) × (Nat → Int32) × (Nat → Int32) × (Nat → Int64)} {N : Nat}  (nx221 : Int64 → Int32 → (Nat → Int32) → (Nat → Int32) → (Nat → Int32) → (Nat → Int64) → Option (Int64 × (Nat → Int32) × (Nat → Int32) × (Nat → Int32) × (Nat → Int64))) (hn221 : ∀ (x1 : Int64) (x3 : Int32) (a37' : Nat → Int32) (a38' : Nat → Int32) (a40' : Nat → Int32) (b58' : Nat → Int64) (ls : Array Slot) (H : Heap) (locs : List Loc), nx221 x1 x3 a37' a38' a40' b58' = some out → MM D y nn ad A0 s.heap I J (va_up (va_up (va_up A 37 a37') 38 a38') 40 a40') (va_up B 58 b58') G H locs → lv_has ls 5 [(0, .ref (ad 7)), (1, .long x1), (3, .int x3)] → W p l e ({ frames := 3, cells := 0, slots := 0, locals := 70 } : Room) s m args below meth c H locs 0 0 (MQ below (mQl D y nn ad A0 out.1 (I, J, (va_up (va_up (va_up A 37 out.2.1) 38 out.2.2.1) 40 out.2.2.2.1), (va_up B 58 out.2.2.2.2), G)) args s 0 0 A0) (F0 m 221 ls [])) : ∀ (x1 : Int64) (x3 : Int32) (a37' : Nat → Int32) (a38' : Nat → Int32) (a40' : Nat → Int32) (b58' : Nat → Int64) (ls : Array Slot) (H : Heap) (locs : List Loc), f_X7_one_221 N (I 6) (B 54) (B 57)  nx221 x1 x3 a37' a38' a40' b58' = some out → MM D y nn ad A0 s.heap I J (va_up (va_up (va_up A 37 a37') 38 a38') 40 a40') (va_up B 58 b58') G H locs → lv_has ls 5 [(0, .ref (ad 7)), (1, .long x1), (3, .int x3)] → W p l e ({ frames := 3, cells := 0, slots := 0, locals := 70 } : Room) s m args below meth c H locs 0 0 (MQ below (mQl D y nn ad A0 out.1 (I, J, (va_up (va_up (va_up A 37 out.2.1) 38 out.2.2.1) 40 out.2.2.2.1), (va_up B 58 out.2.2.2.2), G)) args s 0 0 A0) (F0 m 221 ls []) := by
  intro x1 x3 a37' a38' a40' b58' ls H locs hE hM hl
  have hx := F.1.1
  have hb := F.1.2.1
  unfold f_X7_one_221 at hE
  refine lv_iload_n hx hb dX7_one_221 rfl (lv_at hl 2 rfl) ?_
  refine lv_if_eq (tgt := 233) hx hb dX7_one_222 (by decide) (fun c222 => ?_) (fun c222 => ?_)
  · replace hE := (if_pos c222).symm.trans hE
    refine lv_iconst (v := 0) hx hb dX7_one_233 (by decide) ?_
    refine lv_istore (lv' := [(4, .int (0 : Int32)), (0, .ref (ad 7)), (1, .long x1), (3, .int x3)]) hx hb dX7_one_234 hl (by decide) rfl (fun ls hl => ?_)
    exact k_X7_one_236 F hr (N := N)  N x1 (0 : Int32) a37' a38' a40' b58' ls H locs hE hM (lv_sub hl [1, 2, 0] rfl)
  · replace hE := (if_neg c222).symm.trans hE
    refine lv_aload_n hx hb dX7_one_225 rfl (lv_at hl 0 rfl) ?_
    obtain ⟨o226_4, ho226_4, hE⟩ := bd_some hE
    refine m_callVi (As := []) (I2 := I) (J2 := J) (A2 := (va_up (va_up (va_up A 37 o226_4.2.1) 38 a38') 40 o226_4.2.2.1)) (B2 := (va_up B 58 o226_4.2.2.2)) (G2 := G) F hM (c_X7_cheaper l D y nn ad H.size I J (va_up (va_up (va_up A 37 a37') 38 a38') 40 a40') (va_up B 58 b58') G  N o226_4 ho226_4) (cwV 0 F.1.2.2.2.2 gX7_one_X7_cheaper rfl rfl rfl (by decide +kernel) ⟨Nat.le_of_ble_eq_true rfl, Nat.le_of_ble_eq_true rfl⟩) (m_recv F hM mg_7 rfl) rfl hl.1 (Nat.le_of_ble_eq_true rfl) dX7_one_226 ⟨Nat.le_refl 0, Nat.le_refl 0⟩ rfl rfl un_37_38_40__37_40 (bx_uu _ _ _ _) rfl (fun H locs hM => ?_)
    refine lv_istore_n (lv' := [(3, .int o226_4.1), (0, .ref (ad 7)), (1, .long x1)]) hx hb dX7_one_229 rfl hl (by decide) rfl (fun ls hl => ?_)
    refine lv_goto (tgt := 221) hx hb dX7_one_230 (by decide) ?_
    exact hn221 x1 o226_4.1 o226_4.2.1 a38' o226_4.2.2.1 o226_4.2.2.2 ls H locs hE hM (lv_sub hl [1, 2, 0] rfl)
theorem k_X7_one_221 {p : Program} {l : Launch} {e : Env} {s : State} {m : MethodId} {args : Array Value} {below : List Frame} {meth : Method} {c : Code} {D : va_G} {y : Nat → ClassId} {nn : Nat} {ad : Nat → Nat} {A0 : Nat → Prop} {I : Nat → Int32} {J : Nat → Int64} {A : Nat → Nat → Int32} {B : Nat → Nat → Int64} {G : Nat → Nat → Nat → Int32} (F : Fx p s m args meth c cX7_one 5 wsX7_one RX7 D y A0) (hr : meth.sig.returnType = (some .long)) {out : Int64 × (Nat → Int32) × (Nat → Int32) × (Nat → Int32) × (Nat → Int64)} {N : Nat}  : ∀ (n : Nat), ∀ (x1 : Int64) (x3 : Int32) (a37' : Nat → Int32) (a38' : Nat → Int32) (a40' : Nat → Int32) (b58' : Nat → Int64) (ls : Array Slot) (H : Heap) (locs : List Loc), lq6 (f_X7_one_221 N (I 6) (B 54) (B 57) ) n x1 x3 a37' a38' a40' b58' = some out → MM D y nn ad A0 s.heap I J (va_up (va_up (va_up A 37 a37') 38 a38') 40 a40') (va_up B 58 b58') G H locs → lv_has ls 5 [(0, .ref (ad 7)), (1, .long x1), (3, .int x3)] → W p l e ({ frames := 3, cells := 0, slots := 0, locals := 70 } : Room) s m args below meth c H locs 0 0 (MQ below (mQl D y nn ad A0 out.1 (I, J, (va_up (va_up (va_up A 37 out.2.1) 38 out.2.2.1) 40 out.2.2.2.1), (va_up B 58 out.2.2.2.2), G)) args s 0 0 A0) (F0 m 221 ls []) := by
  intro n
  induction n with
  | zero =>
    intro x1 x3 a37' a38' a40' b58' ls H locs hE
    cases (show (none : Option _) = some out from hE)
  | succ n ih =>
    intro x1 x3 a37' a38' a40' b58' ls H locs hE hM hl
    exact s_X7_one_221 F hr (N := N)  (lq6 (f_X7_one_221 N (I 6) (B 54) (B 57) ) n) ih x1 x3 a37' a38' a40' b58' ls H locs hE hM hl
set_option maxHeartbeats 4000000 in
set_option maxRecDepth 100000 in
theorem s_X7_one_148 {p : Program} {l : Launch} {e : Env} {s : State} {m : MethodId} {args : Array Value} {below : List Frame} {meth : Method} {c : Code} {D : va_G} {y : Nat → ClassId} {nn : Nat} {ad : Nat → Nat} {A0 : Nat → Prop} {I : Nat → Int32} {J : Nat → Int64} {A : Nat → Nat → Int32} {B : Nat → Nat → Int64} {G : Nat → Nat → Nat → Int32} (F : Fx p s m args meth c cX7_one 5 wsX7_one RX7 D y A0) (hr : meth.sig.returnType = (some .long)) {out : Int64 × (Nat → Int32) × (Nat → Int32) × (Nat → Int32) × (Nat → Int64)} {N : Nat} (nx128 : Int64 → Int32 → (Nat → Int32) → (Nat → Int32) → (Nat → Int32) → (Nat → Int64) → Option (Int64 × (Nat → Int32) × (Nat → Int32) × (Nat → Int32) × (Nat → Int64))) (hn128 : ∀ (x1 : Int64) (x3 : Int32) (a37' : Nat → Int32) (a38' : Nat → Int32) (a40' : Nat → Int32) (b58' : Nat → Int64) (ls : Array Slot) (H : Heap) (locs : List Loc), nx128 x1 x3 a37' a38' a40' b58' = some out → MM D y nn ad A0 s.heap I J (va_up (va_up (va_up A 37 a37') 38 a38') 40 a40') (va_up B 58 b58') G H locs → lv_has ls 5 [(0, .ref (ad 7)), (1, .long x1), (3, .int x3)] → W p l e ({ frames := 3, cells := 0, slots := 0, locals := 70 } : Room) s m args below meth c H locs 0 0 (MQ below (mQl D y nn ad A0 out.1 (I, J, (va_up (va_up (va_up A 37 out.2.1) 38 out.2.2.1) 40 out.2.2.2.1), (va_up B 58 out.2.2.2.2), G)) args s 0 0 A0) (F0 m 128 ls [])) (nx139 : Int64 → Int32 → Int32 → (Nat → Int32) → (Nat → Int32) → (Nat → Int32) → (Nat → Int64) → Option (Int64 × (Nat → Int32) × (Nat → Int32) × (Nat → Int32) × (Nat → Int64))) (hn139 : ∀ (x1 : Int64) (x3 : Int32) (x4 : Int32) (a37' : Nat → Int32) (a38' : Nat → Int32) (a40' : Nat → Int32) (b58' : Nat → Int64) (ls : Array Slot) (H : Heap) (locs : List Loc), nx139 x1 x3 x4 a37' a38' a40' b58' = some out → MM D y nn ad A0 s.heap I J (va_up (va_up (va_up A 37 a37') 38 a38') 40 a40') (va_up B 58 b58') G H locs → lv_has ls 5 [(0, .ref (ad 7)), (1, .long x1), (3, .int x3), (4, .int x4)] → W p l e ({ frames := 3, cells := 0, slots := 0, locals := 70 } : Room) s m args below meth c H locs 0 0 (MQ below (mQl D y nn ad A0 out.1 (I, J, (va_up (va_up (va_up A 37 out.2.1) 38 out.2.2.1) 40 out.2.2.2.1), (va_up B 58 out.2.2.2.2), G)) args s 0 0 A0) (F0 m 139 ls [])) (nx148 : Int64 → Int32 → Int32 → (Nat → Int32) → (Nat → Int32) → (Nat → Int32) → (Nat → Int64) → Option (Int64 × (Nat → Int32) × (Nat → Int32) × (Nat → Int32) × (Nat → Int64))) (hn148 : ∀ (x1 : Int64) (x3 : Int32) (x4 : Int32) (a37' : Nat → Int32) (a38' : Nat → Int32) (a40' : Nat → Int32) (b58' : Nat → Int64) (ls : Array Slot) (H : Heap) (locs : List Loc), nx148 x1 x3 x4 a37' a38' a40' b58' = some out → MM D y nn ad A0 s.heap I J (va_up (va_up (va_up A 37 a37') 38 a38') 40 a40') (va_up B 58 b58') G H locs → lv_has ls 5 [(0, .ref (ad 7)), (1, .long x1), (3, .int x3), (4, .int x4)] → W p l e ({ frames := 3, cells := 0, slots := 0, locals := 70 } : Room) s m args below meth c H locs 0 0 (MQ below (mQl D y nn ad A0 out.1 (I, J, (va_up (va_up (va_up A 37 out.2.1) 38 out.2.2.1) 40 out.2.2.2.1), (va_up B 58 out.2.2.2.2), G)) args s 0 0 A0) (F0 m 148 ls [])) : ∀ (x1 : Int64) (x3 : Int32) (x4 : Int32) (a37' : Nat → Int32) (a38' : Nat → Int32) (a40' : Nat → Int32) (b58' : Nat → Int64) (ls : Array Slot) (H : Heap) (locs : List Loc), f_X7_one_148 N (I 6) (B 54) (B 57) nx128 nx139 nx148 x1 x3 x4 a37' a38' a40' b58' = some out → MM D y nn ad A0 s.heap I J (va_up (va_up (va_up A 37 a37') 38 a38') 40 a40') (va_up B 58 b58') G H locs → lv_has ls 5 [(0, .ref (ad 7)), (1, .long x1), (3, .int x3), (4, .int x4)] → W p l e ({ frames := 3, cells := 0, slots := 0, locals := 70 } : Room) s m args below meth c H locs 0 0 (MQ below (mQl D y nn ad A0 out.1 (I, J, (va_up (va_up (va_up A 37 out.2.1) 38 out.2.2.1) 40 out.2.2.2.1), (va_up B 58 out.2.2.2.2), G)) args s 0 0 A0) (F0 m 148 ls []) := by
  intro x1 x3 x4 a37' a38' a40' b58' ls H locs hE hM hl
  have hx := F.1.1
  have hb := F.1.2.1
  unfold f_X7_one_148 at hE
  refine lv_aload_n hx hb dX7_one_148 rfl (lv_at hl 0 rfl) ?_
  refine m_get F hM 7 mg_7 rfl 13 (by decide) (by decide +kernel) (by decide +kernel) (v := .ref (ad 38)) rfl dX7_one_149 ?_
  refine lv_iload_n hx hb dX7_one_152 rfl (lv_at hl 2 rfl) ?_
  obtain ⟨hi153_5, hE⟩ := ck_some hE
  refine m_iald (g := a38') F hM mg_38 rfl hi153_5 dX7_one_153 ?_
  refine lv_if_le (tgt := 207) hx hb dX7_one_154 (by decide) (fun c154 => ?_) (fun c154 => ?_)
  · replace hE := (if_pos c154).symm.trans hE
    refine lv_iinc (v := x4 + (1 : Int32)) (lv' := [(4, .int (x4 + (1 : Int32))), (0, .ref (ad 7)), (1, .long x1), (3, .int x3)]) hx hb dX7_one_207 hl (k := 3) rfl rfl (by decide) rfl (fun ls hl => ?_)
    refine lv_goto (tgt := 139) hx hb dX7_one_210 (by decide) ?_
    exact hn139 x1 x3 (x4 + (1 : Int32)) a37' a38' a40' b58' ls H locs hE hM (lv_sub hl [1, 2, 3, 0] rfl)
  · replace hE := (if_neg c154).symm.trans hE
    refine lv_aload_n hx hb dX7_one_157 rfl (lv_at hl 0 rfl) ?_
    refine m_get F hM 7 mg_7 rfl 13 (by decide) (by decide +kernel) (by decide +kernel) (v := .ref (ad 38)) rfl dX7_one_158 ?_
    refine lv_iload hx hb dX7_one_161 (lv_at hl 3 rfl) ?_
    obtain ⟨hi163_6, hE⟩ := ck_some hE
    refine m_iald (g := a38') F hM mg_38 rfl hi163_6 dX7_one_163 ?_
    refine lv_if_ge (tgt := 207) hx hb dX7_one_164 (by decide) (fun c164 => ?_) (fun c164 => ?_)
    · replace hE := (if_pos c164).symm.trans hE
      refine lv_iinc (v := x4 + (1 : Int32)) (lv' := [(4, .int (x4 + (1 : Int32))), (0, .ref (ad 7)), (1, .long x1), (3, .int x3)]) hx hb dX7_one_207 hl (k := 3) rfl rfl (by decide) rfl (fun ls hl => ?_)
      refine lv_goto (tgt := 139) hx hb dX7_one_210 (by decide) ?_
      exact hn139 x1 x3 (x4 + (1 : Int32)) a37' a38' a40' b58' ls H locs hE hM (lv_sub hl [1, 2, 3, 0] rfl)
    · replace hE := (if_neg c164).symm.trans hE
      refine lv_aload_n hx hb dX7_one_167 rfl (lv_at hl 0 rfl) ?_
      refine m_get F hM 7 mg_7 rfl 12 (by decide) (by decide +kernel) (by decide +kernel) (v := .ref (ad 37)) rfl dX7_one_168 ?_
      refine lv_bipush (v := 12) hx hb dX7_one_171 (by decide) ?_
      refine lv_iload_n hx hb dX7_one_173 rfl (lv_at hl 2 rfl) ?_
      refine lv_imul hx hb dX7_one_174 ?_
      refine lv_iload hx hb dX7_one_175 (lv_at hl 3 rfl) ?_
      refine lv_iadd hx hb dX7_one_177 ?_
      refine lv_dup2_11 hx hb dX7_one_178 rfl rfl ?_
      obtain ⟨hi179_7, hE⟩ := ck_some hE
      refine m_iald (g := a37') F hM mg_37 rfl hi179_7 dX7_one_179 ?_
      refine lv_iconst (v := 1) hx hb dX7_one_180 (by decide) ?_
      refine lv_iadd hx hb dX7_one_181 ?_
      obtain ⟨hi182_8, hE⟩ := ck_some hE
      obtain ⟨w182_9, ew182_9, hE⟩ := nmd_some hE
      refine m_iast (f := a37') (A' := (va_up (va_up (va_up A 37 w182_9) 38 a38') 40 a40')) F hM mg_37 ms_37 (by rw [ew182_9]; exact un_37_38_40__37) hi182_8 dX7_one_182 (fun H locs hM => ?_)
      refine lv_aload_n hx hb dX7_one_183 rfl (lv_at hl 0 rfl) ?_
      refine m_get F hM 7 mg_7 rfl 13 (by decide) (by decide +kernel) (by decide +kernel) (v := .ref (ad 38)) rfl dX7_one_184 ?_
      refine lv_iload_n hx hb dX7_one_187 rfl (lv_at hl 2 rfl) ?_
      refine lv_dup2_11 hx hb dX7_one_188 rfl rfl ?_
      obtain ⟨hi189_10, hE⟩ := ck_some hE
      refine m_iald (g := a38') F hM mg_38 rfl hi189_10 dX7_one_189 ?_
      refine lv_iconst (v := 1) hx hb dX7_one_190 (by decide) ?_
      refine lv_isub hx hb dX7_one_191 ?_
      obtain ⟨hi192_11, hE⟩ := ck_some hE
      obtain ⟨w192_12, ew192_12, hE⟩ := nmd_some hE
      refine m_iast (f := a38') (A' := (va_up (va_up (va_up A 37 w182_9) 38 w192_12) 40 a40')) F hM mg_38 ms_38 (by rw [ew192_12]; exact un_37_38_40__38) hi192_11 dX7_one_192 (fun H locs hM => ?_)
      refine lv_aload_n hx hb dX7_one_193 rfl (lv_at hl 0 rfl) ?_
      refine m_get F hM 7 mg_7 rfl 13 (by decide) (by decide +kernel) (by decide +kernel) (v := .ref (ad 38)) rfl dX7_one_194 ?_
      refine lv_iload hx hb dX7_one_197 (lv_at hl 3 rfl) ?_
      refine lv_dup2_11 hx hb dX7_one_199 rfl rfl ?_
      obtain ⟨hi200_13, hE⟩ := ck_some hE
      refine m_iald (g := w192_12) F hM mg_38 rfl hi200_13 dX7_one_200 ?_
      refine lv_iconst (v := 1) hx hb dX7_one_201 (by decide) ?_
      refine lv_iadd hx hb dX7_one_202 ?_
      obtain ⟨hi203_14, hE⟩ := ck_some hE
      obtain ⟨w203_15, ew203_15, hE⟩ := nmd_some hE
      refine m_iast (f := w192_12) (A' := (va_up (va_up (va_up A 37 w182_9) 38 w203_15) 40 a40')) F hM mg_38 ms_38 (by rw [ew203_15]; exact un_37_38_40__38) hi203_14 dX7_one_203 (fun H locs hM => ?_)
      refine lv_goto (tgt := 148) hx hb dX7_one_204 (by decide) ?_
      exact hn148 x1 x3 x4 w182_9 w203_15 a40' b58' ls H locs hE hM (lv_sub hl [0, 1, 2, 3] rfl)
theorem k_X7_one_148 {p : Program} {l : Launch} {e : Env} {s : State} {m : MethodId} {args : Array Value} {below : List Frame} {meth : Method} {c : Code} {D : va_G} {y : Nat → ClassId} {nn : Nat} {ad : Nat → Nat} {A0 : Nat → Prop} {I : Nat → Int32} {J : Nat → Int64} {A : Nat → Nat → Int32} {B : Nat → Nat → Int64} {G : Nat → Nat → Nat → Int32} (F : Fx p s m args meth c cX7_one 5 wsX7_one RX7 D y A0) (hr : meth.sig.returnType = (some .long)) {out : Int64 × (Nat → Int32) × (Nat → Int32) × (Nat → Int32) × (Nat → Int64)} {N : Nat} (nx128 : Int64 → Int32 → (Nat → Int32) → (Nat → Int32) → (Nat → Int32) → (Nat → Int64) → Option (Int64 × (Nat → Int32) × (Nat → Int32) × (Nat → Int32) × (Nat → Int64))) (hn128 : ∀ (x1 : Int64) (x3 : Int32) (a37' : Nat → Int32) (a38' : Nat → Int32) (a40' : Nat → Int32) (b58' : Nat → Int64) (ls : Array Slot) (H : Heap) (locs : List Loc), nx128 x1 x3 a37' a38' a40' b58' = some out → MM D y nn ad A0 s.heap I J (va_up (va_up (va_up A 37 a37') 38 a38') 40 a40') (va_up B 58 b58') G H locs → lv_has ls 5 [(0, .ref (ad 7)), (1, .long x1), (3, .int x3)] → W p l e ({ frames := 3, cells := 0, slots := 0, locals := 70 } : Room) s m args below meth c H locs 0 0 (MQ below (mQl D y nn ad A0 out.1 (I, J, (va_up (va_up (va_up A 37 out.2.1) 38 out.2.2.1) 40 out.2.2.2.1), (va_up B 58 out.2.2.2.2), G)) args s 0 0 A0) (F0 m 128 ls [])) (nx139 : Int64 → Int32 → Int32 → (Nat → Int32) → (Nat → Int32) → (Nat → Int32) → (Nat → Int64) → Option (Int64 × (Nat → Int32) × (Nat → Int32) × (Nat → Int32) × (Nat → Int64))) (hn139 : ∀ (x1 : Int64) (x3 : Int32) (x4 : Int32) (a37' : Nat → Int32) (a38' : Nat → Int32) (a40' : Nat → Int32) (b58' : Nat → Int64) (ls : Array Slot) (H : Heap) (locs : List Loc), nx139 x1 x3 x4 a37' a38' a40' b58' = some out → MM D y nn ad A0 s.heap I J (va_up (va_up (va_up A 37 a37') 38 a38') 40 a40') (va_up B 58 b58') G H locs → lv_has ls 5 [(0, .ref (ad 7)), (1, .long x1), (3, .int x3), (4, .int x4)] → W p l e ({ frames := 3, cells := 0, slots := 0, locals := 70 } : Room) s m args below meth c H locs 0 0 (MQ below (mQl D y nn ad A0 out.1 (I, J, (va_up (va_up (va_up A 37 out.2.1) 38 out.2.2.1) 40 out.2.2.2.1), (va_up B 58 out.2.2.2.2), G)) args s 0 0 A0) (F0 m 139 ls [])) : ∀ (n : Nat), ∀ (x1 : Int64) (x3 : Int32) (x4 : Int32) (a37' : Nat → Int32) (a38' : Nat → Int32) (a40' : Nat → Int32) (b58' : Nat → Int64) (ls : Array Slot) (H : Heap) (locs : List Loc), lq7 (f_X7_one_148 N (I 6) (B 54) (B 57) nx128 nx139) n x1 x3 x4 a37' a38' a40' b58' = some out → MM D y nn ad A0 s.heap I J (va_up (va_up (va_up A 37 a37') 38 a38') 40 a40') (va_up B 58 b58') G H locs → lv_has ls 5 [(0, .ref (ad 7)), (1, .long x1), (3, .int x3), (4, .int x4)] → W p l e ({ frames := 3, cells := 0, slots := 0, locals := 70 } : Room) s m args below meth c H locs 0 0 (MQ below (mQl D y nn ad A0 out.1 (I, J, (va_up (va_up (va_up A 37 out.2.1) 38 out.2.2.1) 40 out.2.2.2.1), (va_up B 58 out.2.2.2.2), G)) args s 0 0 A0) (F0 m 148 ls []) := by
  intro n
  induction n with
  | zero =>
    intro x1 x3 x4 a37' a38' a40' b58' ls H locs hE
    cases (show (none : Option _) = some out from hE)
  | succ n ih =>
    intro x1 x3 x4 a37' a38' a40' b58' ls H locs hE hM hl
    exact s_X7_one_148 F hr (N := N) nx128 hn128 nx139 hn139 (lq7 (f_X7_one_148 N (I 6) (B 54) (B 57) nx128 nx139) n) ih x1 x3 x4 a37' a38' a40' b58' ls H locs hE hM hl
set_option maxHeartbeats 4000000 in
set_option maxRecDepth 100000 in
theorem s_X7_one_139 {p : Program} {l : Launch} {e : Env} {s : State} {m : MethodId} {args : Array Value} {below : List Frame} {meth : Method} {c : Code} {D : va_G} {y : Nat → ClassId} {nn : Nat} {ad : Nat → Nat} {A0 : Nat → Prop} {I : Nat → Int32} {J : Nat → Int64} {A : Nat → Nat → Int32} {B : Nat → Nat → Int64} {G : Nat → Nat → Nat → Int32} (F : Fx p s m args meth c cX7_one 5 wsX7_one RX7 D y A0) (hr : meth.sig.returnType = (some .long)) {out : Int64 × (Nat → Int32) × (Nat → Int32) × (Nat → Int32) × (Nat → Int64)} {N : Nat} (nx128 : Int64 → Int32 → (Nat → Int32) → (Nat → Int32) → (Nat → Int32) → (Nat → Int64) → Option (Int64 × (Nat → Int32) × (Nat → Int32) × (Nat → Int32) × (Nat → Int64))) (hn128 : ∀ (x1 : Int64) (x3 : Int32) (a37' : Nat → Int32) (a38' : Nat → Int32) (a40' : Nat → Int32) (b58' : Nat → Int64) (ls : Array Slot) (H : Heap) (locs : List Loc), nx128 x1 x3 a37' a38' a40' b58' = some out → MM D y nn ad A0 s.heap I J (va_up (va_up (va_up A 37 a37') 38 a38') 40 a40') (va_up B 58 b58') G H locs → lv_has ls 5 [(0, .ref (ad 7)), (1, .long x1), (3, .int x3)] → W p l e ({ frames := 3, cells := 0, slots := 0, locals := 70 } : Room) s m args below meth c H locs 0 0 (MQ below (mQl D y nn ad A0 out.1 (I, J, (va_up (va_up (va_up A 37 out.2.1) 38 out.2.2.1) 40 out.2.2.2.1), (va_up B 58 out.2.2.2.2), G)) args s 0 0 A0) (F0 m 128 ls [])) (nx139 : Int64 → Int32 → Int32 → (Nat → Int32) → (Nat → Int32) → (Nat → Int32) → (Nat → Int64) → Option (Int64 × (Nat → Int32) × (Nat → Int32) × (Nat → Int32) × (Nat → Int64))) (hn139 : ∀ (x1 : Int64) (x3 : Int32) (x4 : Int32) (a37' : Nat → Int32) (a38' : Nat → Int32) (a40' : Nat → Int32) (b58' : Nat → Int64) (ls : Array Slot) (H : Heap) (locs : List Loc), nx139 x1 x3 x4 a37' a38' a40' b58' = some out → MM D y nn ad A0 s.heap I J (va_up (va_up (va_up A 37 a37') 38 a38') 40 a40') (va_up B 58 b58') G H locs → lv_has ls 5 [(0, .ref (ad 7)), (1, .long x1), (3, .int x3), (4, .int x4)] → W p l e ({ frames := 3, cells := 0, slots := 0, locals := 70 } : Room) s m args below meth c H locs 0 0 (MQ below (mQl D y nn ad A0 out.1 (I, J, (va_up (va_up (va_up A 37 out.2.1) 38 out.2.2.1) 40 out.2.2.2.1), (va_up B 58 out.2.2.2.2), G)) args s 0 0 A0) (F0 m 139 ls [])) : ∀ (x1 : Int64) (x3 : Int32) (x4 : Int32) (a37' : Nat → Int32) (a38' : Nat → Int32) (a40' : Nat → Int32) (b58' : Nat → Int64) (ls : Array Slot) (H : Heap) (locs : List Loc), f_X7_one_139 N (I 6) (B 54) (B 57) nx128 nx139 x1 x3 x4 a37' a38' a40' b58' = some out → MM D y nn ad A0 s.heap I J (va_up (va_up (va_up A 37 a37') 38 a38') 40 a40') (va_up B 58 b58') G H locs → lv_has ls 5 [(0, .ref (ad 7)), (1, .long x1), (3, .int x3), (4, .int x4)] → W p l e ({ frames := 3, cells := 0, slots := 0, locals := 70 } : Room) s m args below meth c H locs 0 0 (MQ below (mQl D y nn ad A0 out.1 (I, J, (va_up (va_up (va_up A 37 out.2.1) 38 out.2.2.1) 40 out.2.2.2.1), (va_up B 58 out.2.2.2.2), G)) args s 0 0 A0) (F0 m 139 ls []) := by
  intro x1 x3 x4 a37' a38' a40' b58' ls H locs hE hM hl
  have hx := F.1.1
  have hb := F.1.2.1
  unfold f_X7_one_139 at hE
  refine lv_iload hx hb dX7_one_139 (lv_at hl 3 rfl) ?_
  refine lv_aload_n hx hb dX7_one_141 rfl (lv_at hl 0 rfl) ?_
  refine m_get F hM 7 mg_7 rfl 1 (by decide) (by decide +kernel) (by decide +kernel) (v := .int (I 6)) rfl dX7_one_142 ?_
  refine lv_icmp_ge (tgt := 213) hx hb dX7_one_145 (by decide) (fun c145 => ?_) (fun c145 => ?_)
  · replace hE := (if_pos c145).symm.trans hE
    refine lv_iinc (v := x3 + (1 : Int32)) (lv' := [(3, .int (x3 + (1 : Int32))), (0, .ref (ad 7)), (1, .long x1), (4, .int x4)]) hx hb dX7_one_213 hl (k := 2) rfl rfl (by decide) rfl (fun ls hl => ?_)
    refine lv_goto (tgt := 128) hx hb dX7_one_216 (by decide) ?_
    exact hn128 x1 (x3 + (1 : Int32)) a37' a38' a40' b58' ls H locs hE hM (lv_sub hl [1, 2, 0] rfl)
  · replace hE := (if_neg c145).symm.trans hE
    exact k_X7_one_148 F hr (N := N) nx128 hn128 nx139 hn139 N x1 x3 x4 a37' a38' a40' b58' ls H locs hE hM (lv_sub hl [0, 1, 2, 3] rfl)
theorem k_X7_one_139 {p : Program} {l : Launch} {e : Env} {s : State} {m : MethodId} {args : Array Value} {below : List Frame} {meth : Method} {c : Code} {D : va_G} {y : Nat → ClassId} {nn : Nat} {ad : Nat → Nat} {A0 : Nat → Prop} {I : Nat → Int32} {J : Nat → Int64} {A : Nat → Nat → Int32} {B : Nat → Nat → Int64} {G : Nat → Nat → Nat → Int32} (F : Fx p s m args meth c cX7_one 5 wsX7_one RX7 D y A0) (hr : meth.sig.returnType = (some .long)) {out : Int64 × (Nat → Int32) × (Nat → Int32) × (Nat → Int32) × (Nat → Int64)} {N : Nat} (nx128 : Int64 → Int32 → (Nat → Int32) → (Nat → Int32) → (Nat → Int32) → (Nat → Int64) → Option (Int64 × (Nat → Int32) × (Nat → Int32) × (Nat → Int32) × (Nat → Int64))) (hn128 : ∀ (x1 : Int64) (x3 : Int32) (a37' : Nat → Int32) (a38' : Nat → Int32) (a40' : Nat → Int32) (b58' : Nat → Int64) (ls : Array Slot) (H : Heap) (locs : List Loc), nx128 x1 x3 a37' a38' a40' b58' = some out → MM D y nn ad A0 s.heap I J (va_up (va_up (va_up A 37 a37') 38 a38') 40 a40') (va_up B 58 b58') G H locs → lv_has ls 5 [(0, .ref (ad 7)), (1, .long x1), (3, .int x3)] → W p l e ({ frames := 3, cells := 0, slots := 0, locals := 70 } : Room) s m args below meth c H locs 0 0 (MQ below (mQl D y nn ad A0 out.1 (I, J, (va_up (va_up (va_up A 37 out.2.1) 38 out.2.2.1) 40 out.2.2.2.1), (va_up B 58 out.2.2.2.2), G)) args s 0 0 A0) (F0 m 128 ls [])) : ∀ (n : Nat), ∀ (x1 : Int64) (x3 : Int32) (x4 : Int32) (a37' : Nat → Int32) (a38' : Nat → Int32) (a40' : Nat → Int32) (b58' : Nat → Int64) (ls : Array Slot) (H : Heap) (locs : List Loc), lq7 (f_X7_one_139 N (I 6) (B 54) (B 57) nx128) n x1 x3 x4 a37' a38' a40' b58' = some out → MM D y nn ad A0 s.heap I J (va_up (va_up (va_up A 37 a37') 38 a38') 40 a40') (va_up B 58 b58') G H locs → lv_has ls 5 [(0, .ref (ad 7)), (1, .long x1), (3, .int x3), (4, .int x4)] → W p l e ({ frames := 3, cells := 0, slots := 0, locals := 70 } : Room) s m args below meth c H locs 0 0 (MQ below (mQl D y nn ad A0 out.1 (I, J, (va_up (va_up (va_up A 37 out.2.1) 38 out.2.2.1) 40 out.2.2.2.1), (va_up B 58 out.2.2.2.2), G)) args s 0 0 A0) (F0 m 139 ls []) := by
  intro n
  induction n with
  | zero =>
    intro x1 x3 x4 a37' a38' a40' b58' ls H locs hE
    cases (show (none : Option _) = some out from hE)
  | succ n ih =>
    intro x1 x3 x4 a37' a38' a40' b58' ls H locs hE hM hl
    exact s_X7_one_139 F hr (N := N) nx128 hn128 (lq7 (f_X7_one_139 N (I 6) (B 54) (B 57) nx128) n) ih x1 x3 x4 a37' a38' a40' b58' ls H locs hE hM hl
set_option maxHeartbeats 4000000 in
set_option maxRecDepth 100000 in
theorem s_X7_one_128 {p : Program} {l : Launch} {e : Env} {s : State} {m : MethodId} {args : Array Value} {below : List Frame} {meth : Method} {c : Code} {D : va_G} {y : Nat → ClassId} {nn : Nat} {ad : Nat → Nat} {A0 : Nat → Prop} {I : Nat → Int32} {J : Nat → Int64} {A : Nat → Nat → Int32} {B : Nat → Nat → Int64} {G : Nat → Nat → Nat → Int32} (F : Fx p s m args meth c cX7_one 5 wsX7_one RX7 D y A0) (hr : meth.sig.returnType = (some .long)) {out : Int64 × (Nat → Int32) × (Nat → Int32) × (Nat → Int32) × (Nat → Int64)} {N : Nat}  (nx128 : Int64 → Int32 → (Nat → Int32) → (Nat → Int32) → (Nat → Int32) → (Nat → Int64) → Option (Int64 × (Nat → Int32) × (Nat → Int32) × (Nat → Int32) × (Nat → Int64))) (hn128 : ∀ (x1 : Int64) (x3 : Int32) (a37' : Nat → Int32) (a38' : Nat → Int32) (a40' : Nat → Int32) (b58' : Nat → Int64) (ls : Array Slot) (H : Heap) (locs : List Loc), nx128 x1 x3 a37' a38' a40' b58' = some out → MM D y nn ad A0 s.heap I J (va_up (va_up (va_up A 37 a37') 38 a38') 40 a40') (va_up B 58 b58') G H locs → lv_has ls 5 [(0, .ref (ad 7)), (1, .long x1), (3, .int x3)] → W p l e ({ frames := 3, cells := 0, slots := 0, locals := 70 } : Room) s m args below meth c H locs 0 0 (MQ below (mQl D y nn ad A0 out.1 (I, J, (va_up (va_up (va_up A 37 out.2.1) 38 out.2.2.1) 40 out.2.2.2.1), (va_up B 58 out.2.2.2.2), G)) args s 0 0 A0) (F0 m 128 ls [])) : ∀ (x1 : Int64) (x3 : Int32) (a37' : Nat → Int32) (a38' : Nat → Int32) (a40' : Nat → Int32) (b58' : Nat → Int64) (ls : Array Slot) (H : Heap) (locs : List Loc), f_X7_one_128 N (I 6) (B 54) (B 57)  nx128 x1 x3 a37' a38' a40' b58' = some out → MM D y nn ad A0 s.heap I J (va_up (va_up (va_up A 37 a37') 38 a38') 40 a40') (va_up B 58 b58') G H locs → lv_has ls 5 [(0, .ref (ad 7)), (1, .long x1), (3, .int x3)] → W p l e ({ frames := 3, cells := 0, slots := 0, locals := 70 } : Room) s m args below meth c H locs 0 0 (MQ below (mQl D y nn ad A0 out.1 (I, J, (va_up (va_up (va_up A 37 out.2.1) 38 out.2.2.1) 40 out.2.2.2.1), (va_up B 58 out.2.2.2.2), G)) args s 0 0 A0) (F0 m 128 ls []) := by
  intro x1 x3 a37' a38' a40' b58' ls H locs hE hM hl
  have hx := F.1.1
  have hb := F.1.2.1
  unfold f_X7_one_128 at hE
  refine lv_iload_n hx hb dX7_one_128 rfl (lv_at hl 2 rfl) ?_
  refine lv_aload_n hx hb dX7_one_129 rfl (lv_at hl 0 rfl) ?_
  refine m_get F hM 7 mg_7 rfl 1 (by decide) (by decide +kernel) (by decide +kernel) (v := .int (I 6)) rfl dX7_one_130 ?_
  refine lv_icmp_ge (tgt := 219) hx hb dX7_one_133 (by decide) (fun c133 => ?_) (fun c133 => ?_)
  · replace hE := (if_pos c133).symm.trans hE
    refine lv_iconst (v := 1) hx hb dX7_one_219 (by decide) ?_
    refine lv_istore_n (lv' := [(3, .int (1 : Int32)), (0, .ref (ad 7)), (1, .long x1)]) hx hb dX7_one_220 rfl hl (by decide) rfl (fun ls hl => ?_)
    exact k_X7_one_221 F hr (N := N)  N x1 (1 : Int32) a37' a38' a40' b58' ls H locs hE hM (lv_sub hl [1, 2, 0] rfl)
  · replace hE := (if_neg c133).symm.trans hE
    refine lv_iconst (v := 0) hx hb dX7_one_136 (by decide) ?_
    refine lv_istore (lv' := [(4, .int (0 : Int32)), (0, .ref (ad 7)), (1, .long x1), (3, .int x3)]) hx hb dX7_one_137 hl (by decide) rfl (fun ls hl => ?_)
    exact k_X7_one_139 F hr (N := N) nx128 hn128 N x1 x3 (0 : Int32) a37' a38' a40' b58' ls H locs hE hM (lv_sub hl [1, 2, 3, 0] rfl)
theorem k_X7_one_128 {p : Program} {l : Launch} {e : Env} {s : State} {m : MethodId} {args : Array Value} {below : List Frame} {meth : Method} {c : Code} {D : va_G} {y : Nat → ClassId} {nn : Nat} {ad : Nat → Nat} {A0 : Nat → Prop} {I : Nat → Int32} {J : Nat → Int64} {A : Nat → Nat → Int32} {B : Nat → Nat → Int64} {G : Nat → Nat → Nat → Int32} (F : Fx p s m args meth c cX7_one 5 wsX7_one RX7 D y A0) (hr : meth.sig.returnType = (some .long)) {out : Int64 × (Nat → Int32) × (Nat → Int32) × (Nat → Int32) × (Nat → Int64)} {N : Nat}  : ∀ (n : Nat), ∀ (x1 : Int64) (x3 : Int32) (a37' : Nat → Int32) (a38' : Nat → Int32) (a40' : Nat → Int32) (b58' : Nat → Int64) (ls : Array Slot) (H : Heap) (locs : List Loc), lq6 (f_X7_one_128 N (I 6) (B 54) (B 57) ) n x1 x3 a37' a38' a40' b58' = some out → MM D y nn ad A0 s.heap I J (va_up (va_up (va_up A 37 a37') 38 a38') 40 a40') (va_up B 58 b58') G H locs → lv_has ls 5 [(0, .ref (ad 7)), (1, .long x1), (3, .int x3)] → W p l e ({ frames := 3, cells := 0, slots := 0, locals := 70 } : Room) s m args below meth c H locs 0 0 (MQ below (mQl D y nn ad A0 out.1 (I, J, (va_up (va_up (va_up A 37 out.2.1) 38 out.2.2.1) 40 out.2.2.2.1), (va_up B 58 out.2.2.2.2), G)) args s 0 0 A0) (F0 m 128 ls []) := by
  intro n
  induction n with
  | zero =>
    intro x1 x3 a37' a38' a40' b58' ls H locs hE
    cases (show (none : Option _) = some out from hE)
  | succ n ih =>
    intro x1 x3 a37' a38' a40' b58' ls H locs hE hM hl
    exact s_X7_one_128 F hr (N := N)  (lq6 (f_X7_one_128 N (I 6) (B 54) (B 57) ) n) ih x1 x3 a37' a38' a40' b58' ls H locs hE hM hl
set_option maxHeartbeats 4000000 in
set_option maxRecDepth 100000 in
theorem s_X7_one_74 {p : Program} {l : Launch} {e : Env} {s : State} {m : MethodId} {args : Array Value} {below : List Frame} {meth : Method} {c : Code} {D : va_G} {y : Nat → ClassId} {nn : Nat} {ad : Nat → Nat} {A0 : Nat → Prop} {I : Nat → Int32} {J : Nat → Int64} {A : Nat → Nat → Int32} {B : Nat → Nat → Int64} {G : Nat → Nat → Nat → Int32} (F : Fx p s m args meth c cX7_one 5 wsX7_one RX7 D y A0) (hr : meth.sig.returnType = (some .long)) {out : Int64 × (Nat → Int32) × (Nat → Int32) × (Nat → Int32) × (Nat → Int64)} {N : Nat} (nx4 : Int64 → Int32 → (Nat → Int32) → (Nat → Int32) → (Nat → Int32) → (Nat → Int64) → Option (Int64 × (Nat → Int32) × (Nat → Int32) × (Nat → Int32) × (Nat → Int64))) (hn4 : ∀ (x1 : Int64) (x3 : Int32) (a37' : Nat → Int32) (a38' : Nat → Int32) (a40' : Nat → Int32) (b58' : Nat → Int64) (ls : Array Slot) (H : Heap) (locs : List Loc), nx4 x1 x3 a37' a38' a40' b58' = some out → MM D y nn ad A0 s.heap I J (va_up (va_up (va_up A 37 a37') 38 a38') 40 a40') (va_up B 58 b58') G H locs → lv_has ls 5 [(0, .ref (ad 7)), (1, .long x1), (3, .int x3)] → W p l e ({ frames := 3, cells := 0, slots := 0, locals := 70 } : Room) s m args below meth c H locs 0 0 (MQ below (mQl D y nn ad A0 out.1 (I, J, (va_up (va_up (va_up A 37 out.2.1) 38 out.2.2.1) 40 out.2.2.2.1), (va_up B 58 out.2.2.2.2), G)) args s 0 0 A0) (F0 m 4 ls [])) (nx22 : Int64 → Int32 → Int32 → (Nat → Int32) → (Nat → Int32) → (Nat → Int32) → (Nat → Int64) → Option (Int64 × (Nat → Int32) × (Nat → Int32) × (Nat → Int32) × (Nat → Int64))) (hn22 : ∀ (x1 : Int64) (x3 : Int32) (x4 : Int32) (a37' : Nat → Int32) (a38' : Nat → Int32) (a40' : Nat → Int32) (b58' : Nat → Int64) (ls : Array Slot) (H : Heap) (locs : List Loc), nx22 x1 x3 x4 a37' a38' a40' b58' = some out → MM D y nn ad A0 s.heap I J (va_up (va_up (va_up A 37 a37') 38 a38') 40 a40') (va_up B 58 b58') G H locs → lv_has ls 5 [(0, .ref (ad 7)), (1, .long x1), (3, .int x3), (4, .int x4)] → W p l e ({ frames := 3, cells := 0, slots := 0, locals := 70 } : Room) s m args below meth c H locs 0 0 (MQ below (mQl D y nn ad A0 out.1 (I, J, (va_up (va_up (va_up A 37 out.2.1) 38 out.2.2.1) 40 out.2.2.2.1), (va_up B 58 out.2.2.2.2), G)) args s 0 0 A0) (F0 m 22 ls [])) : ∀ (x1 : Int64) (x3 : Int32) (x4 : Int32) (a37' : Nat → Int32) (a38' : Nat → Int32) (a40' : Nat → Int32) (b58' : Nat → Int64) (ls : Array Slot) (H : Heap) (locs : List Loc), f_X7_one_74 N (I 6) (B 54) (B 57) nx4 nx22 x1 x3 x4 a37' a38' a40' b58' = some out → MM D y nn ad A0 s.heap I J (va_up (va_up (va_up A 37 a37') 38 a38') 40 a40') (va_up B 58 b58') G H locs → lv_has ls 5 [(0, .ref (ad 7)), (1, .long x1), (3, .int x3), (4, .int x4)] → W p l e ({ frames := 3, cells := 0, slots := 0, locals := 70 } : Room) s m args below meth c H locs 0 0 (MQ below (mQl D y nn ad A0 out.1 (I, J, (va_up (va_up (va_up A 37 out.2.1) 38 out.2.2.1) 40 out.2.2.2.1), (va_up B 58 out.2.2.2.2), G)) args s 0 0 A0) (F0 m 74 ls []) := by
  intro x1 x3 x4 a37' a38' a40' b58' ls H locs hE hM hl
  have hx := F.1.1
  have hb := F.1.2.1
  unfold f_X7_one_74 at hE
  refine lv_iload_n hx hb dX7_one_74 rfl (lv_at hl 2 rfl) ?_
  refine lv_iload hx hb dX7_one_75 (lv_at hl 3 rfl) ?_
  refine lv_icmp_eq (tgt := 114) hx hb dX7_one_77 (by decide) (fun c77 => ?_) (fun c77 => ?_)
  · replace hE := (if_pos c77).symm.trans hE
    refine lv_iinc (v := x4 + (1 : Int32)) (lv' := [(4, .int (x4 + (1 : Int32))), (0, .ref (ad 7)), (1, .long x1), (3, .int x3)]) hx hb dX7_one_114 hl (k := 3) rfl rfl (by decide) rfl (fun ls hl => ?_)
    refine lv_goto (tgt := 22) hx hb dX7_one_117 (by decide) ?_
    exact hn22 x1 x3 (x4 + (1 : Int32)) a37' a38' a40' b58' ls H locs hE hM (lv_sub hl [1, 2, 3, 0] rfl)
  · replace hE := (if_neg c77).symm.trans hE
    refine lv_aload_n hx hb dX7_one_80 rfl (lv_at hl 0 rfl) ?_
    refine lv_iload_n hx hb dX7_one_81 rfl (lv_at hl 2 rfl) ?_
    refine lv_iload hx hb dX7_one_82 (lv_at hl 3 rfl) ?_
    obtain ⟨o84_20, ho84_20, hE⟩ := bd_some hE
    refine m_callVl (As := [.int x3, .int x4]) (I2 := I) (J2 := J) (A2 := (va_up (va_up (va_up A 37 a37') 38 a38') 40 a40')) (B2 := (va_up B 58 b58')) (G2 := G) F hM (c_X7_way_ l D y nn ad H.size I J (va_up (va_up (va_up A 37 a37') 38 a38') 40 a40') (va_up B 58 b58') G x3 x4  o84_20 ho84_20) (cwV 2 F.1.2.2.2.2 gX7_one_X7_way_ rfl rfl rfl (by decide +kernel) ⟨Nat.le_of_ble_eq_true rfl, Nat.le_of_ble_eq_true rfl⟩) (m_recv F hM mg_7 rfl) rfl hl.1 (Nat.le_of_ble_eq_true rfl) dX7_one_84 ⟨Nat.le_refl 0, Nat.le_refl 0⟩ rfl rfl rfl rfl rfl (fun H locs hM => ?_)
    refine lv_ldc2 (v := (1000000000000)) hx hb F.1.2.2.2.1 (F.1.2.2.2.2 (.constantLong RX7 52 (1000000000000)) (by decide +kernel)) dX7_one_87 ?_
    refine m_lge (tgt := 114) F dX7_one_90 dX7_one_91 (by decide) (fun c91 => ?_) (fun c91 => ?_)
    · replace hE := (if_pos c91).symm.trans hE
      refine lv_iinc (v := x4 + (1 : Int32)) (lv' := [(4, .int (x4 + (1 : Int32))), (0, .ref (ad 7)), (1, .long x1), (3, .int x3)]) hx hb dX7_one_114 hl (k := 3) rfl rfl (by decide) rfl (fun ls hl => ?_)
      refine lv_goto (tgt := 22) hx hb dX7_one_117 (by decide) ?_
      exact hn22 x1 x3 (x4 + (1 : Int32)) a37' a38' a40' b58' ls H locs hE hM (lv_sub hl [1, 2, 3, 0] rfl)
    · replace hE := (if_neg c91).symm.trans hE
      refine lv_aload_n hx hb dX7_one_94 rfl (lv_at hl 0 rfl) ?_
      refine m_get F hM 7 mg_7 rfl 13 (by decide) (by decide +kernel) (by decide +kernel) (v := .ref (ad 38)) rfl dX7_one_95 ?_
      refine lv_iload_n hx hb dX7_one_98 rfl (lv_at hl 2 rfl) ?_
      refine lv_dup2_11 hx hb dX7_one_99 rfl rfl ?_
      obtain ⟨hi100_21, hE⟩ := ck_some hE
      refine m_iald (g := a38') F hM mg_38 rfl hi100_21 dX7_one_100 ?_
      refine lv_iconst (v := 1) hx hb dX7_one_101 (by decide) ?_
      refine lv_isub hx hb dX7_one_102 ?_
      obtain ⟨hi103_22, hE⟩ := ck_some hE
      obtain ⟨w103_23, ew103_23, hE⟩ := nmd_some hE
      refine m_iast (f := a38') (A' := (va_up (va_up (va_up A 37 a37') 38 w103_23) 40 a40')) F hM mg_38 ms_38 (by rw [ew103_23]; exact un_37_38_40__38) hi103_22 dX7_one_103 (fun H locs hM => ?_)
      refine lv_lload_n hx hb dX7_one_104 rfl (lv_at hl 1 rfl) ?_
      refine lv_aload_n hx hb dX7_one_105 rfl (lv_at hl 0 rfl) ?_
      refine lv_iload_n hx hb dX7_one_106 rfl (lv_at hl 2 rfl) ?_
      refine lv_iload hx hb dX7_one_107 (lv_at hl 3 rfl) ?_
      obtain ⟨o109_24, ho109_24, hE⟩ := bd_some hE
      refine m_callVl (As := [.int x3, .int x4]) (I2 := I) (J2 := J) (A2 := (va_up (va_up (va_up A 37 a37') 38 w103_23) 40 a40')) (B2 := (va_up B 58 b58')) (G2 := G) F hM (c_X7_way_ l D y nn ad H.size I J (va_up (va_up (va_up A 37 a37') 38 w103_23) 40 a40') (va_up B 58 b58') G x3 x4  o109_24 ho109_24) (cwV 2 F.1.2.2.2.2 gX7_one_X7_way_ rfl rfl rfl (by decide +kernel) ⟨Nat.le_of_ble_eq_true rfl, Nat.le_of_ble_eq_true rfl⟩) (m_recv F hM mg_7 rfl) rfl hl.1 (Nat.le_of_ble_eq_true rfl) dX7_one_109 ⟨Nat.le_refl 0, Nat.le_refl 0⟩ rfl rfl rfl rfl rfl (fun H locs hM => ?_)
      refine lv_ladd hx hb dX7_one_112 ?_
      refine lv_lstore_n (lv' := [(1, .long (x1 + o109_24)), (0, .ref (ad 7)), (3, .int x3), (4, .int x4)]) hx hb dX7_one_113 rfl hl (by decide) rfl (fun ls hl => ?_)
      refine lv_iinc (v := x4 + (1 : Int32)) (lv' := [(4, .int (x4 + (1 : Int32))), (1, .long (x1 + o109_24)), (0, .ref (ad 7)), (3, .int x3)]) hx hb dX7_one_114 hl (k := 3) rfl rfl (by decide) rfl (fun ls hl => ?_)
      refine lv_goto (tgt := 22) hx hb dX7_one_117 (by decide) ?_
      exact hn22 (x1 + o109_24) x3 (x4 + (1 : Int32)) a37' w103_23 a40' b58' ls H locs hE hM (lv_sub hl [2, 1, 3, 0] rfl)
set_option maxHeartbeats 4000000 in
set_option maxRecDepth 100000 in
theorem s_X7_one_22 {p : Program} {l : Launch} {e : Env} {s : State} {m : MethodId} {args : Array Value} {below : List Frame} {meth : Method} {c : Code} {D : va_G} {y : Nat → ClassId} {nn : Nat} {ad : Nat → Nat} {A0 : Nat → Prop} {I : Nat → Int32} {J : Nat → Int64} {A : Nat → Nat → Int32} {B : Nat → Nat → Int64} {G : Nat → Nat → Nat → Int32} (F : Fx p s m args meth c cX7_one 5 wsX7_one RX7 D y A0) (hr : meth.sig.returnType = (some .long)) {out : Int64 × (Nat → Int32) × (Nat → Int32) × (Nat → Int32) × (Nat → Int64)} {N : Nat} (nx4 : Int64 → Int32 → (Nat → Int32) → (Nat → Int32) → (Nat → Int32) → (Nat → Int64) → Option (Int64 × (Nat → Int32) × (Nat → Int32) × (Nat → Int32) × (Nat → Int64))) (hn4 : ∀ (x1 : Int64) (x3 : Int32) (a37' : Nat → Int32) (a38' : Nat → Int32) (a40' : Nat → Int32) (b58' : Nat → Int64) (ls : Array Slot) (H : Heap) (locs : List Loc), nx4 x1 x3 a37' a38' a40' b58' = some out → MM D y nn ad A0 s.heap I J (va_up (va_up (va_up A 37 a37') 38 a38') 40 a40') (va_up B 58 b58') G H locs → lv_has ls 5 [(0, .ref (ad 7)), (1, .long x1), (3, .int x3)] → W p l e ({ frames := 3, cells := 0, slots := 0, locals := 70 } : Room) s m args below meth c H locs 0 0 (MQ below (mQl D y nn ad A0 out.1 (I, J, (va_up (va_up (va_up A 37 out.2.1) 38 out.2.2.1) 40 out.2.2.2.1), (va_up B 58 out.2.2.2.2), G)) args s 0 0 A0) (F0 m 4 ls [])) (nx22 : Int64 → Int32 → Int32 → (Nat → Int32) → (Nat → Int32) → (Nat → Int32) → (Nat → Int64) → Option (Int64 × (Nat → Int32) × (Nat → Int32) × (Nat → Int32) × (Nat → Int64))) (hn22 : ∀ (x1 : Int64) (x3 : Int32) (x4 : Int32) (a37' : Nat → Int32) (a38' : Nat → Int32) (a40' : Nat → Int32) (b58' : Nat → Int64) (ls : Array Slot) (H : Heap) (locs : List Loc), nx22 x1 x3 x4 a37' a38' a40' b58' = some out → MM D y nn ad A0 s.heap I J (va_up (va_up (va_up A 37 a37') 38 a38') 40 a40') (va_up B 58 b58') G H locs → lv_has ls 5 [(0, .ref (ad 7)), (1, .long x1), (3, .int x3), (4, .int x4)] → W p l e ({ frames := 3, cells := 0, slots := 0, locals := 70 } : Room) s m args below meth c H locs 0 0 (MQ below (mQl D y nn ad A0 out.1 (I, J, (va_up (va_up (va_up A 37 out.2.1) 38 out.2.2.1) 40 out.2.2.2.1), (va_up B 58 out.2.2.2.2), G)) args s 0 0 A0) (F0 m 22 ls [])) : ∀ (x1 : Int64) (x3 : Int32) (x4 : Int32) (a37' : Nat → Int32) (a38' : Nat → Int32) (a40' : Nat → Int32) (b58' : Nat → Int64) (ls : Array Slot) (H : Heap) (locs : List Loc), f_X7_one_22 N (I 6) (B 54) (B 57) nx4 nx22 x1 x3 x4 a37' a38' a40' b58' = some out → MM D y nn ad A0 s.heap I J (va_up (va_up (va_up A 37 a37') 38 a38') 40 a40') (va_up B 58 b58') G H locs → lv_has ls 5 [(0, .ref (ad 7)), (1, .long x1), (3, .int x3), (4, .int x4)] → W p l e ({ frames := 3, cells := 0, slots := 0, locals := 70 } : Room) s m args below meth c H locs 0 0 (MQ below (mQl D y nn ad A0 out.1 (I, J, (va_up (va_up (va_up A 37 out.2.1) 38 out.2.2.1) 40 out.2.2.2.1), (va_up B 58 out.2.2.2.2), G)) args s 0 0 A0) (F0 m 22 ls []) := by
  intro x1 x3 x4 a37' a38' a40' b58' ls H locs hE hM hl
  have hx := F.1.1
  have hb := F.1.2.1
  unfold f_X7_one_22 at hE
  refine lv_iload hx hb dX7_one_22 (lv_at hl 3 rfl) ?_
  refine lv_aload_n hx hb dX7_one_24 rfl (lv_at hl 0 rfl) ?_
  refine m_get F hM 7 mg_7 rfl 1 (by decide) (by decide +kernel) (by decide +kernel) (v := .int (I 6)) rfl dX7_one_25 ?_
  refine lv_icmp_ge (tgt := 120) hx hb dX7_one_28 (by decide) (fun c28 => ?_) (fun c28 => ?_)
  · replace hE := (if_pos c28).symm.trans hE
    refine lv_iinc (v := x3 + (1 : Int32)) (lv' := [(3, .int (x3 + (1 : Int32))), (0, .ref (ad 7)), (1, .long x1), (4, .int x4)]) hx hb dX7_one_120 hl (k := 2) rfl rfl (by decide) rfl (fun ls hl => ?_)
    refine lv_goto (tgt := 4) hx hb dX7_one_123 (by decide) ?_
    exact hn4 x1 (x3 + (1 : Int32)) a37' a38' a40' b58' ls H locs hE hM (lv_sub hl [1, 2, 0] rfl)
  · replace hE := (if_neg c28).symm.trans hE
    refine lv_aload_n hx hb dX7_one_31 rfl (lv_at hl 0 rfl) ?_
    refine m_get F hM 7 mg_7 rfl 12 (by decide) (by decide +kernel) (by decide +kernel) (v := .ref (ad 37)) rfl dX7_one_32 ?_
    refine lv_bipush (v := 12) hx hb dX7_one_35 (by decide) ?_
    refine lv_iload_n hx hb dX7_one_37 rfl (lv_at hl 2 rfl) ?_
    refine lv_imul hx hb dX7_one_38 ?_
    refine lv_iload hx hb dX7_one_39 (lv_at hl 3 rfl) ?_
    refine lv_iadd hx hb dX7_one_41 ?_
    refine lv_iconst (v := 0) hx hb dX7_one_42 (by decide) ?_
    obtain ⟨hi43_18, hE⟩ := ck_some hE
    obtain ⟨w43_19, ew43_19, hE⟩ := nmd_some hE
    refine m_iast (f := a37') (A' := (va_up (va_up (va_up A 37 w43_19) 38 a38') 40 a40')) F hM mg_37 ms_37 (by rw [ew43_19]; exact un_37_38_40__37) hi43_18 dX7_one_43 (fun H locs hM => ?_)
    refine lv_iload_n hx hb dX7_one_44 rfl (lv_at hl 2 rfl) ?_
    refine lv_iload hx hb dX7_one_45 (lv_at hl 3 rfl) ?_
    refine lv_icmp_eq (tgt := 74) hx hb dX7_one_47 (by decide) (fun c47 => ?_) (fun c47 => ?_)
    · replace hE := (if_pos c47).symm.trans hE
      exact s_X7_one_74 F hr (N := N) nx4 hn4 nx22 hn22 x1 x3 x4 w43_19 a38' a40' b58' ls H locs hE hM (lv_sub hl [0, 1, 2, 3] rfl)
    · replace hE := (if_neg c47).symm.trans hE
      refine lv_aload_n hx hb dX7_one_50 rfl (lv_at hl 0 rfl) ?_
      refine lv_iload hx hb dX7_one_51 (lv_at hl 3 rfl) ?_
      refine lv_iload_n hx hb dX7_one_53 rfl (lv_at hl 2 rfl) ?_
      obtain ⟨o54_25, ho54_25, hE⟩ := bd_some hE
      refine m_callVl (As := [.int x4, .int x3]) (I2 := I) (J2 := J) (A2 := (va_up (va_up (va_up A 37 w43_19) 38 a38') 40 a40')) (B2 := (va_up B 58 b58')) (G2 := G) F hM (c_X7_way_ l D y nn ad H.size I J (va_up (va_up (va_up A 37 w43_19) 38 a38') 40 a40') (va_up B 58 b58') G x4 x3  o54_25 ho54_25) (cwV 2 F.1.2.2.2.2 gX7_one_X7_way_ rfl rfl rfl (by decide +kernel) ⟨Nat.le_of_ble_eq_true rfl, Nat.le_of_ble_eq_true rfl⟩) (m_recv F hM mg_7 rfl) rfl hl.1 (Nat.le_of_ble_eq_true rfl) dX7_one_54 ⟨Nat.le_refl 0, Nat.le_refl 0⟩ rfl rfl rfl rfl rfl (fun H locs hM => ?_)
      refine lv_ldc2 (v := (1000000000000)) hx hb F.1.2.2.2.1 (F.1.2.2.2.2 (.constantLong RX7 52 (1000000000000)) (by decide +kernel)) dX7_one_57 ?_
      refine m_lge (tgt := 74) F dX7_one_60 dX7_one_61 (by decide) (fun c61 => ?_) (fun c61 => ?_)
      · replace hE := (if_pos c61).symm.trans hE
        exact s_X7_one_74 F hr (N := N) nx4 hn4 nx22 hn22 x1 x3 x4 w43_19 a38' a40' b58' ls H locs hE hM (lv_sub hl [0, 1, 2, 3] rfl)
      · replace hE := (if_neg c61).symm.trans hE
        refine lv_aload_n hx hb dX7_one_64 rfl (lv_at hl 0 rfl) ?_
        refine m_get F hM 7 mg_7 rfl 13 (by decide) (by decide +kernel) (by decide +kernel) (v := .ref (ad 38)) rfl dX7_one_65 ?_
        refine lv_iload_n hx hb dX7_one_68 rfl (lv_at hl 2 rfl) ?_
        refine lv_dup2_11 hx hb dX7_one_69 rfl rfl ?_
        obtain ⟨hi70_26, hE⟩ := ck_some hE
        refine m_iald (g := a38') F hM mg_38 rfl hi70_26 dX7_one_70 ?_
        refine lv_iconst (v := 1) hx hb dX7_one_71 (by decide) ?_
        refine lv_iadd hx hb dX7_one_72 ?_
        obtain ⟨hi73_27, hE⟩ := ck_some hE
        obtain ⟨w73_28, ew73_28, hE⟩ := nmd_some hE
        refine m_iast (f := a38') (A' := (va_up (va_up (va_up A 37 w43_19) 38 w73_28) 40 a40')) F hM mg_38 ms_38 (by rw [ew73_28]; exact un_37_38_40__38) hi73_27 dX7_one_73 (fun H locs hM => ?_)
        exact s_X7_one_74 F hr (N := N) nx4 hn4 nx22 hn22 x1 x3 x4 w43_19 w73_28 a40' b58' ls H locs hE hM (lv_sub hl [0, 1, 2, 3] rfl)
theorem k_X7_one_22 {p : Program} {l : Launch} {e : Env} {s : State} {m : MethodId} {args : Array Value} {below : List Frame} {meth : Method} {c : Code} {D : va_G} {y : Nat → ClassId} {nn : Nat} {ad : Nat → Nat} {A0 : Nat → Prop} {I : Nat → Int32} {J : Nat → Int64} {A : Nat → Nat → Int32} {B : Nat → Nat → Int64} {G : Nat → Nat → Nat → Int32} (F : Fx p s m args meth c cX7_one 5 wsX7_one RX7 D y A0) (hr : meth.sig.returnType = (some .long)) {out : Int64 × (Nat → Int32) × (Nat → Int32) × (Nat → Int32) × (Nat → Int64)} {N : Nat} (nx4 : Int64 → Int32 → (Nat → Int32) → (Nat → Int32) → (Nat → Int32) → (Nat → Int64) → Option (Int64 × (Nat → Int32) × (Nat → Int32) × (Nat → Int32) × (Nat → Int64))) (hn4 : ∀ (x1 : Int64) (x3 : Int32) (a37' : Nat → Int32) (a38' : Nat → Int32) (a40' : Nat → Int32) (b58' : Nat → Int64) (ls : Array Slot) (H : Heap) (locs : List Loc), nx4 x1 x3 a37' a38' a40' b58' = some out → MM D y nn ad A0 s.heap I J (va_up (va_up (va_up A 37 a37') 38 a38') 40 a40') (va_up B 58 b58') G H locs → lv_has ls 5 [(0, .ref (ad 7)), (1, .long x1), (3, .int x3)] → W p l e ({ frames := 3, cells := 0, slots := 0, locals := 70 } : Room) s m args below meth c H locs 0 0 (MQ below (mQl D y nn ad A0 out.1 (I, J, (va_up (va_up (va_up A 37 out.2.1) 38 out.2.2.1) 40 out.2.2.2.1), (va_up B 58 out.2.2.2.2), G)) args s 0 0 A0) (F0 m 4 ls [])) : ∀ (n : Nat), ∀ (x1 : Int64) (x3 : Int32) (x4 : Int32) (a37' : Nat → Int32) (a38' : Nat → Int32) (a40' : Nat → Int32) (b58' : Nat → Int64) (ls : Array Slot) (H : Heap) (locs : List Loc), lq7 (f_X7_one_22 N (I 6) (B 54) (B 57) nx4) n x1 x3 x4 a37' a38' a40' b58' = some out → MM D y nn ad A0 s.heap I J (va_up (va_up (va_up A 37 a37') 38 a38') 40 a40') (va_up B 58 b58') G H locs → lv_has ls 5 [(0, .ref (ad 7)), (1, .long x1), (3, .int x3), (4, .int x4)] → W p l e ({ frames := 3, cells := 0, slots := 0, locals := 70 } : Room) s m args below meth c H locs 0 0 (MQ below (mQl D y nn ad A0 out.1 (I, J, (va_up (va_up (va_up A 37 out.2.1) 38 out.2.2.1) 40 out.2.2.2.1), (va_up B 58 out.2.2.2.2), G)) args s 0 0 A0) (F0 m 22 ls []) := by
  intro n
  induction n with
  | zero =>
    intro x1 x3 x4 a37' a38' a40' b58' ls H locs hE
    cases (show (none : Option _) = some out from hE)
  | succ n ih =>
    intro x1 x3 x4 a37' a38' a40' b58' ls H locs hE hM hl
    exact s_X7_one_22 F hr (N := N) nx4 hn4 (lq7 (f_X7_one_22 N (I 6) (B 54) (B 57) nx4) n) ih x1 x3 x4 a37' a38' a40' b58' ls H locs hE hM hl
set_option maxHeartbeats 4000000 in
set_option maxRecDepth 100000 in
theorem s_X7_one_4 {p : Program} {l : Launch} {e : Env} {s : State} {m : MethodId} {args : Array Value} {below : List Frame} {meth : Method} {c : Code} {D : va_G} {y : Nat → ClassId} {nn : Nat} {ad : Nat → Nat} {A0 : Nat → Prop} {I : Nat → Int32} {J : Nat → Int64} {A : Nat → Nat → Int32} {B : Nat → Nat → Int64} {G : Nat → Nat → Nat → Int32} (F : Fx p s m args meth c cX7_one 5 wsX7_one RX7 D y A0) (hr : meth.sig.returnType = (some .long)) {out : Int64 × (Nat → Int32) × (Nat → Int32) × (Nat → Int32) × (Nat → Int64)} {N : Nat}  (nx4 : Int64 → Int32 → (Nat → Int32) → (Nat → Int32) → (Nat → Int32) → (Nat → Int64) → Option (Int64 × (Nat → Int32) × (Nat → Int32) × (Nat → Int32) × (Nat → Int64))) (hn4 : ∀ (x1 : Int64) (x3 : Int32) (a37' : Nat → Int32) (a38' : Nat → Int32) (a40' : Nat → Int32) (b58' : Nat → Int64) (ls : Array Slot) (H : Heap) (locs : List Loc), nx4 x1 x3 a37' a38' a40' b58' = some out → MM D y nn ad A0 s.heap I J (va_up (va_up (va_up A 37 a37') 38 a38') 40 a40') (va_up B 58 b58') G H locs → lv_has ls 5 [(0, .ref (ad 7)), (1, .long x1), (3, .int x3)] → W p l e ({ frames := 3, cells := 0, slots := 0, locals := 70 } : Room) s m args below meth c H locs 0 0 (MQ below (mQl D y nn ad A0 out.1 (I, J, (va_up (va_up (va_up A 37 out.2.1) 38 out.2.2.1) 40 out.2.2.2.1), (va_up B 58 out.2.2.2.2), G)) args s 0 0 A0) (F0 m 4 ls [])) : ∀ (x1 : Int64) (x3 : Int32) (a37' : Nat → Int32) (a38' : Nat → Int32) (a40' : Nat → Int32) (b58' : Nat → Int64) (ls : Array Slot) (H : Heap) (locs : List Loc), f_X7_one_4 N (I 6) (B 54) (B 57)  nx4 x1 x3 a37' a38' a40' b58' = some out → MM D y nn ad A0 s.heap I J (va_up (va_up (va_up A 37 a37') 38 a38') 40 a40') (va_up B 58 b58') G H locs → lv_has ls 5 [(0, .ref (ad 7)), (1, .long x1), (3, .int x3)] → W p l e ({ frames := 3, cells := 0, slots := 0, locals := 70 } : Room) s m args below meth c H locs 0 0 (MQ below (mQl D y nn ad A0 out.1 (I, J, (va_up (va_up (va_up A 37 out.2.1) 38 out.2.2.1) 40 out.2.2.2.1), (va_up B 58 out.2.2.2.2), G)) args s 0 0 A0) (F0 m 4 ls []) := by
  intro x1 x3 a37' a38' a40' b58' ls H locs hE hM hl
  have hx := F.1.1
  have hb := F.1.2.1
  unfold f_X7_one_4 at hE
  refine lv_iload_n hx hb dX7_one_4 rfl (lv_at hl 2 rfl) ?_
  refine lv_aload_n hx hb dX7_one_5 rfl (lv_at hl 0 rfl) ?_
  refine m_get F hM 7 mg_7 rfl 1 (by decide) (by decide +kernel) (by decide +kernel) (v := .int (I 6)) rfl dX7_one_6 ?_
  refine lv_icmp_ge (tgt := 126) hx hb dX7_one_9 (by decide) (fun c9 => ?_) (fun c9 => ?_)
  · replace hE := (if_pos c9).symm.trans hE
    refine lv_iconst (v := 0) hx hb dX7_one_126 (by decide) ?_
    refine lv_istore_n (lv' := [(3, .int (0 : Int32)), (0, .ref (ad 7)), (1, .long x1)]) hx hb dX7_one_127 rfl hl (by decide) rfl (fun ls hl => ?_)
    exact k_X7_one_128 F hr (N := N)  N x1 (0 : Int32) a37' a38' a40' b58' ls H locs hE hM (lv_sub hl [1, 2, 0] rfl)
  · replace hE := (if_neg c9).symm.trans hE
    refine lv_aload_n hx hb dX7_one_12 rfl (lv_at hl 0 rfl) ?_
    refine m_get F hM 7 mg_7 rfl 13 (by decide) (by decide +kernel) (by decide +kernel) (v := .ref (ad 38)) rfl dX7_one_13 ?_
    refine lv_iload_n hx hb dX7_one_16 rfl (lv_at hl 2 rfl) ?_
    refine lv_iconst (v := 0) hx hb dX7_one_17 (by decide) ?_
    obtain ⟨hi18_16, hE⟩ := ck_some hE
    obtain ⟨w18_17, ew18_17, hE⟩ := nmd_some hE
    refine m_iast (f := a38') (A' := (va_up (va_up (va_up A 37 a37') 38 w18_17) 40 a40')) F hM mg_38 ms_38 (by rw [ew18_17]; exact un_37_38_40__38) hi18_16 dX7_one_18 (fun H locs hM => ?_)
    refine lv_iconst (v := 0) hx hb dX7_one_19 (by decide) ?_
    refine lv_istore (lv' := [(4, .int (0 : Int32)), (0, .ref (ad 7)), (1, .long x1), (3, .int x3)]) hx hb dX7_one_20 hl (by decide) rfl (fun ls hl => ?_)
    exact k_X7_one_22 F hr (N := N) nx4 hn4 N x1 x3 (0 : Int32) a37' w18_17 a40' b58' ls H locs hE hM (lv_sub hl [1, 2, 3, 0] rfl)
theorem k_X7_one_4 {p : Program} {l : Launch} {e : Env} {s : State} {m : MethodId} {args : Array Value} {below : List Frame} {meth : Method} {c : Code} {D : va_G} {y : Nat → ClassId} {nn : Nat} {ad : Nat → Nat} {A0 : Nat → Prop} {I : Nat → Int32} {J : Nat → Int64} {A : Nat → Nat → Int32} {B : Nat → Nat → Int64} {G : Nat → Nat → Nat → Int32} (F : Fx p s m args meth c cX7_one 5 wsX7_one RX7 D y A0) (hr : meth.sig.returnType = (some .long)) {out : Int64 × (Nat → Int32) × (Nat → Int32) × (Nat → Int32) × (Nat → Int64)} {N : Nat}  : ∀ (n : Nat), ∀ (x1 : Int64) (x3 : Int32) (a37' : Nat → Int32) (a38' : Nat → Int32) (a40' : Nat → Int32) (b58' : Nat → Int64) (ls : Array Slot) (H : Heap) (locs : List Loc), lq6 (f_X7_one_4 N (I 6) (B 54) (B 57) ) n x1 x3 a37' a38' a40' b58' = some out → MM D y nn ad A0 s.heap I J (va_up (va_up (va_up A 37 a37') 38 a38') 40 a40') (va_up B 58 b58') G H locs → lv_has ls 5 [(0, .ref (ad 7)), (1, .long x1), (3, .int x3)] → W p l e ({ frames := 3, cells := 0, slots := 0, locals := 70 } : Room) s m args below meth c H locs 0 0 (MQ below (mQl D y nn ad A0 out.1 (I, J, (va_up (va_up (va_up A 37 out.2.1) 38 out.2.2.1) 40 out.2.2.2.1), (va_up B 58 out.2.2.2.2), G)) args s 0 0 A0) (F0 m 4 ls []) := by
  intro n
  induction n with
  | zero =>
    intro x1 x3 a37' a38' a40' b58' ls H locs hE
    cases (show (none : Option _) = some out from hE)
  | succ n ih =>
    intro x1 x3 a37' a38' a40' b58' ls H locs hE hM hl
    exact s_X7_one_4 F hr (N := N)  (lq6 (f_X7_one_4 N (I 6) (B 54) (B 57) ) n) ih x1 x3 a37' a38' a40' b58' ls H locs hE hM hl
set_option maxHeartbeats 4000000 in
set_option maxRecDepth 100000 in
theorem c_X7_one (l : Launch) (D : va_G) (y : Nat → ClassId) (nn : Nat) (ad : Nat → Nat) (sz : Nat) (I : Nat → Int32) (J : Nat → Int64) (A : Nat → Nat → Int32) (B : Nat → Nat → Int64) (G : Nat → Nat → Nat → Int32)  (N : Nat) (out : Int64 × (Nat → Int32) × (Nat → Int32) × (Nat → Int32) × (Nat → Int64)) (hE : f_X7_one N (I 6) (B 54) (B 57) (A 37) (A 38) (A 40) (B 58)  = some out) : Met l yX7_one wsX7_one ({ frames := 3, cells := 0, slots := 0, locals := 70 } : Room) (mPc [.ref (ad 7)] D y nn ad sz I J A B G) (mQl D y nn ad (mA y nn ad I J A B G sz) out.1 (I, J, (va_up (va_up (va_up A 37 out.2.1) 38 out.2.2.1) 40 out.2.2.2.1), (va_up B 58 out.2.2.2.2), G)) 0 0 (mA y nn ad I J A B G sz) := by
  refine Met.ofW (cc := cX7_one) (maxL := 5) (ret := (some .long)) (by decide) rfl ?_
  intro p e s m args below meth c s₁ Bd hml hv
  obtain ⟨rfl, hsz, hP, hK, hD0, hN⟩ := hv
  have hr := Bd.returns
  subst hsz
  have F : Fx p s m ([.ref (ad 7)] : List Value).toArray meth c cX7_one 5 wsX7_one RX7 D y (mA y nn ad I J A B G s.heap.size) := ⟨⟨Bd.exec, Bd.bytes, hml, findClass_of_methodNamed Bd.named, atoms_spec (ws := wsX7_one) Bd.pre⟩, hK, hN, fun q h => Or.inr h, Bd.notSynchronized⟩
  have hM := m_start (s := s) rfl hP hD0
  have hM := m_mem (I2 := I) (J2 := J) (A2 := (va_up (va_up (va_up A 37 (A 37)) 38 (A 38)) 40 (A 40))) (B2 := (va_up B 58 (B 58))) (G2 := G) hM (by rfl) (by rfl) (by simp only [up_id]) (by simp only [up_id]) (by rfl)
  have hx := F.1.1
  have hb := F.1.2.1
  have hl := lv_entry ([.ref (ad 7)]) (n := 5) (Nat.le_of_ble_eq_true rfl)
  rw [lg_entry_eq]
  generalize (lg_sl ([.ref (ad 7)]) ++ List.replicate (5 - (lg_sl ([.ref (ad 7)])).length) Slot.unset).toArray = ls at hl ⊢
  have hl : lv_has ls 5 [(0, .ref (ad 7))] := hl
  show W p l e ({ frames := 3, cells := 0, slots := 0, locals := 70 } : Room) s m _ below meth c s.heap [] 0 0 _ _
  obtain ⟨locs, hlo⟩ : ∃ locs : List Loc, locs = [] := ⟨_, rfl⟩
  rw [← hlo]; rw [← hlo] at hM
  unfold f_X7_one at hE
  revert hM
  suffices hH : ∀ H : Heap, MM D y nn ad (mA y nn ad I J A B G s.heap.size) s.heap I J (va_up (va_up (va_up A 37 (A 37)) 38 (A 38)) 40 (A 40)) (va_up B 58 (B 58)) G H locs → W p l e ({ frames := 3, cells := 0, slots := 0, locals := 70 } : Room) s m ([.ref (ad 7)] : List Value).toArray below meth c H locs 0 0 (MQ below (mQl D y nn ad (mA y nn ad I J A B G s.heap.size) out.1 (I, J, (va_up (va_up (va_up A 37 out.2.1) 38 out.2.2.1) 40 out.2.2.2.1), (va_up B 58 out.2.2.2.2), G)) ([.ref (ad 7)] : List Value).toArray s 0 0 (mA y nn ad I J A B G s.heap.size)) (F0 m 0 ls []) from hH s.heap
  intro H hM
  refine lv_lconst (v := 0) hx hb dX7_one_0 (by decide) ?_
  refine lv_lstore_n (lv' := [(1, .long (0 : Int64)), (0, .ref (ad 7))]) hx hb dX7_one_1 rfl hl (by decide) rfl (fun ls hl => ?_)
  refine lv_iconst (v := 0) hx hb dX7_one_2 (by decide) ?_
  refine lv_istore_n (lv' := [(3, .int (0 : Int32)), (1, .long (0 : Int64)), (0, .ref (ad 7))]) hx hb dX7_one_3 rfl hl (by decide) rfl (fun ls hl => ?_)
  exact k_X7_one_4 F hr (N := N)  N (0 : Int64) (0 : Int32) (A 37) (A 38) (A 40) (B 58) ls H locs hE hM (lv_sub hl [2, 1, 0] rfl)
/-! ===== X7_postman: reads I6 B54, writes I5 I8 A34 A37 A38 A40 B56 B57 B58, frames 4, locals 96 ===== -/
def f_X7_postman (N : Nat) (i6 : Int32) (b54 : Nat → Int64) (i5 : Int32) (i8 : Int32) (a34 : Nat → Int32) (a37 : Nat → Int32) (a38 : Nat → Int32) (a40 : Nat → Int32) (b56 : Nat → Int64) (b57 : Nat → Int64) (b58 : Nat → Int64) (p1 : Int32) : Option (Int64 × Int32 × Int32 × (Nat → Int32) × (Nat → Int32) × (Nat → Int32) × (Nat → Int32) × (Nat → Int64) × (Nat → Int64) × (Nat → Int64)) :=
bd (f_X7_shorten N i6 b54 b57 p1) fun o7_0 =>
(if o7_0.1 = (0 : Int32) then
some ((-1 : Int64), (0 : Int32), i8, a34, a37, a38, a40, b56, o7_0.2, b58)
else
(if p1 = (0 : Int32) then
bd (f_X7_both N i6 b54 o7_0.2 i8 a34 b56) fun o29_1 =>
some (o29_1.1, (0 : Int32), o29_1.2.1, o29_1.2.2.1, a37, a38, a40, o29_1.2.2.2, o7_0.2, b58)
else
bd (f_X7_one N i6 b54 o7_0.2 a37 a38 a40 b58) fun o22_2 =>
some (o22_2.1, (0 : Int32), i8, a34, o22_2.2.1, o22_2.2.2.1, o22_2.2.2.2.1, b56, o7_0.2, o22_2.2.2.2.2)))
set_option maxHeartbeats 4000000 in
set_option maxRecDepth 100000 in
theorem c_X7_postman (l : Launch) (D : va_G) (y : Nat → ClassId) (nn : Nat) (ad : Nat → Nat) (sz : Nat) (I : Nat → Int32) (J : Nat → Int64) (A : Nat → Nat → Int32) (B : Nat → Nat → Int64) (G : Nat → Nat → Nat → Int32) (p1 : Int32) (N : Nat) (out : Int64 × Int32 × Int32 × (Nat → Int32) × (Nat → Int32) × (Nat → Int32) × (Nat → Int32) × (Nat → Int64) × (Nat → Int64) × (Nat → Int64)) (hE : f_X7_postman N (I 6) (B 54) (I 5) (I 8) (A 34) (A 37) (A 38) (A 40) (B 56) (B 57) (B 58) p1 = some out) : Met l yX7_postman wsX7_postman ({ frames := 4, cells := 0, slots := 0, locals := 96 } : Room) (mPc [.ref (ad 7), .int p1] D y nn ad sz I J A B G) (mQl D y nn ad (mA y nn ad I J A B G sz) out.1 ((va_up (va_up I 5 out.2.1) 8 out.2.2.1), J, (va_up (va_up (va_up (va_up A 34 out.2.2.2.1) 37 out.2.2.2.2.1) 38 out.2.2.2.2.2.1) 40 out.2.2.2.2.2.2.1), (va_up (va_up (va_up B 56 out.2.2.2.2.2.2.2.1) 57 out.2.2.2.2.2.2.2.2.1) 58 out.2.2.2.2.2.2.2.2.2), G)) 0 0 (mA y nn ad I J A B G sz) := by
  refine Met.ofW (cc := cX7_postman) (maxL := 2) (ret := (some .long)) (by decide) rfl ?_
  intro p e s m args below meth c s₁ Bd hml hv
  obtain ⟨rfl, hsz, hP, hK, hD0, hN⟩ := hv
  have hr := Bd.returns
  subst hsz
  have F : Fx p s m ([.ref (ad 7), .int p1] : List Value).toArray meth c cX7_postman 2 wsX7_postman RX7 D y (mA y nn ad I J A B G s.heap.size) := ⟨⟨Bd.exec, Bd.bytes, hml, findClass_of_methodNamed Bd.named, atoms_spec (ws := wsX7_postman) Bd.pre⟩, hK, hN, fun q h => Or.inr h, Bd.notSynchronized⟩
  have hM := m_start (s := s) rfl hP hD0
  have hM := m_mem (I2 := (va_up (va_up I 5 (I 5)) 8 (I 8))) (J2 := J) (A2 := (va_up (va_up (va_up (va_up A 34 (A 34)) 37 (A 37)) 38 (A 38)) 40 (A 40))) (B2 := (va_up (va_up (va_up B 56 (B 56)) 57 (B 57)) 58 (B 58))) (G2 := G) hM (by simp only [up_id]) (by rfl) (by simp only [up_id]) (by simp only [up_id]) (by rfl)
  have hx := F.1.1
  have hb := F.1.2.1
  have hl := lv_entry ([.ref (ad 7), .int p1]) (n := 2) (Nat.le_of_ble_eq_true rfl)
  rw [lg_entry_eq]
  generalize (lg_sl ([.ref (ad 7), .int p1]) ++ List.replicate (2 - (lg_sl ([.ref (ad 7), .int p1])).length) Slot.unset).toArray = ls at hl ⊢
  have hl : lv_has ls 2 [(0, .ref (ad 7)), (1, .int p1)] := hl
  show W p l e ({ frames := 4, cells := 0, slots := 0, locals := 96 } : Room) s m _ below meth c s.heap [] 0 0 _ _
  obtain ⟨locs, hlo⟩ : ∃ locs : List Loc, locs = [] := ⟨_, rfl⟩
  rw [← hlo]; rw [← hlo] at hM
  unfold f_X7_postman at hE
  revert hM
  suffices hH : ∀ H : Heap, MM D y nn ad (mA y nn ad I J A B G s.heap.size) s.heap (va_up (va_up I 5 (I 5)) 8 (I 8)) J (va_up (va_up (va_up (va_up A 34 (A 34)) 37 (A 37)) 38 (A 38)) 40 (A 40)) (va_up (va_up (va_up B 56 (B 56)) 57 (B 57)) 58 (B 58)) G H locs → W p l e ({ frames := 4, cells := 0, slots := 0, locals := 96 } : Room) s m ([.ref (ad 7), .int p1] : List Value).toArray below meth c H locs 0 0 (MQ below (mQl D y nn ad (mA y nn ad I J A B G s.heap.size) out.1 ((va_up (va_up I 5 out.2.1) 8 out.2.2.1), J, (va_up (va_up (va_up (va_up A 34 out.2.2.2.1) 37 out.2.2.2.2.1) 38 out.2.2.2.2.2.1) 40 out.2.2.2.2.2.2.1), (va_up (va_up (va_up B 56 out.2.2.2.2.2.2.2.1) 57 out.2.2.2.2.2.2.2.2.1) 58 out.2.2.2.2.2.2.2.2.2), G)) ([.ref (ad 7), .int p1] : List Value).toArray s 0 0 (mA y nn ad I J A B G s.heap.size)) (F0 m 0 ls []) from hH s.heap
  intro H hM
  refine lv_aload_n hx hb dX7_postman_0 rfl (lv_at hl 0 rfl) ?_
  refine lv_iconst (v := 0) hx hb dX7_postman_1 (by decide) ?_
  refine m_put F hM 7 mg_7 rfl tyX7 tyX7_ok nmX7 0 (by decide) (by decide +kernel) (by decide +kernel) rfl (ty := .int) (v := .int (0 : Int32)) (by decide +kernel) rfl rfl (Nat.le_of_ble_eq_true rfl) (ms_7_0 _) un_5_8__5  rfl dX7_postman_2 (fun H locs hM => ?_)
  refine lv_aload_n hx hb dX7_postman_5 rfl (lv_at hl 0 rfl) ?_
  refine lv_iload_n hx hb dX7_postman_6 rfl (lv_at hl 1 rfl) ?_
  obtain ⟨o7_0, ho7_0, hE⟩ := bd_some hE
  refine m_callVi (As := [.int p1]) (I2 := (va_up (va_up I 5 (0 : Int32)) 8 (I 8))) (J2 := J) (A2 := (va_up (va_up (va_up (va_up A 34 (A 34)) 37 (A 37)) 38 (A 38)) 40 (A 40))) (B2 := (va_up (va_up (va_up B 56 (B 56)) 57 o7_0.2) 58 (B 58))) (G2 := G) F hM (c_X7_shorten l D y nn ad H.size (va_up (va_up I 5 (0 : Int32)) 8 (I 8)) J (va_up (va_up (va_up (va_up A 34 (A 34)) 37 (A 37)) 38 (A 38)) 40 (A 40)) (va_up (va_up (va_up B 56 (B 56)) 57 (B 57)) 58 (B 58)) G p1 N o7_0 ho7_0) (cwV 1 F.1.2.2.2.2 gX7_postman_X7_shorten rfl rfl rfl (by decide +kernel) ⟨Nat.le_of_ble_eq_true rfl, Nat.le_of_ble_eq_true rfl⟩) (m_recv F hM mg_7 rfl) rfl hl.1 (Nat.le_of_ble_eq_true rfl) dX7_postman_7 ⟨Nat.le_refl 0, Nat.le_refl 0⟩ rfl rfl rfl un_56_57_58__57 rfl (fun H locs hM => ?_)
  refine lv_if_ne (tgt := 17) hx hb dX7_postman_10 (by decide) (fun c10 => ?_) (fun c10 => ?_)
  · replace hE := (if_neg c10).symm.trans hE
    refine lv_iload_n hx hb dX7_postman_17 rfl (lv_at hl 1 rfl) ?_
    refine lv_if_eq (tgt := 28) hx hb dX7_postman_18 (by decide) (fun c18 => ?_) (fun c18 => ?_)
    · replace hE := (if_pos c18).symm.trans hE
      refine lv_aload_n hx hb dX7_postman_28 rfl (lv_at hl 0 rfl) ?_
      obtain ⟨o29_1, ho29_1, hE⟩ := bd_some hE
      refine m_callVl (As := []) (I2 := (va_up (va_up I 5 (0 : Int32)) 8 o29_1.2.1)) (J2 := J) (A2 := (va_up (va_up (va_up (va_up A 34 o29_1.2.2.1) 37 (A 37)) 38 (A 38)) 40 (A 40))) (B2 := (va_up (va_up (va_up B 56 o29_1.2.2.2) 57 o7_0.2) 58 (B 58))) (G2 := G) F hM (c_X7_both l D y nn ad H.size (va_up (va_up I 5 (0 : Int32)) 8 (I 8)) J (va_up (va_up (va_up (va_up A 34 (A 34)) 37 (A 37)) 38 (A 38)) 40 (A 40)) (va_up (va_up (va_up B 56 (B 56)) 57 o7_0.2) 58 (B 58)) G  N o29_1 ho29_1) (cwV 0 F.1.2.2.2.2 gX7_postman_X7_both rfl rfl rfl (by decide +kernel) ⟨Nat.le_of_ble_eq_true rfl, Nat.le_of_ble_eq_true rfl⟩) (m_recv F hM mg_7 rfl) rfl hl.1 (Nat.le_of_ble_eq_true rfl) dX7_postman_29 ⟨Nat.le_refl 0, Nat.le_refl 0⟩ un_5_8__8 rfl un_34_37_38_40__34 un_56_57_58__56 rfl (fun H locs hM => ?_)
      obtain rfl := Option.some.inj hE
      exact m_lret F hM hr rfl rfl dX7_postman_32
    · replace hE := (if_neg c18).symm.trans hE
      refine lv_aload_n hx hb dX7_postman_21 rfl (lv_at hl 0 rfl) ?_
      obtain ⟨o22_2, ho22_2, hE⟩ := bd_some hE
      refine m_callVl (As := []) (I2 := (va_up (va_up I 5 (0 : Int32)) 8 (I 8))) (J2 := J) (A2 := (va_up (va_up (va_up (va_up A 34 (A 34)) 37 o22_2.2.1) 38 o22_2.2.2.1) 40 o22_2.2.2.2.1)) (B2 := (va_up (va_up (va_up B 56 (B 56)) 57 o7_0.2) 58 o22_2.2.2.2.2)) (G2 := G) F hM (c_X7_one l D y nn ad H.size (va_up (va_up I 5 (0 : Int32)) 8 (I 8)) J (va_up (va_up (va_up (va_up A 34 (A 34)) 37 (A 37)) 38 (A 38)) 40 (A 40)) (va_up (va_up (va_up B 56 (B 56)) 57 o7_0.2) 58 (B 58)) G  N o22_2 ho22_2) (cwV 0 F.1.2.2.2.2 gX7_postman_X7_one rfl rfl rfl (by decide +kernel) ⟨Nat.le_of_ble_eq_true rfl, Nat.le_of_ble_eq_true rfl⟩) (m_recv F hM mg_7 rfl) rfl hl.1 (Nat.le_of_ble_eq_true rfl) dX7_postman_22 ⟨Nat.le_refl 0, Nat.le_refl 0⟩ rfl rfl un_34_37_38_40__37_38_40 un_56_57_58__58 rfl (fun H locs hM => ?_)
      refine lv_goto (tgt := 32) hx hb dX7_postman_25 (by decide) ?_
      obtain rfl := Option.some.inj hE
      exact m_lret F hM hr rfl rfl dX7_postman_32
  · replace hE := (if_pos c10).symm.trans hE
    refine lv_ldc2 (v := (-1)) hx hb F.1.2.2.2.1 (F.1.2.2.2.2 (.constantLong RX7 96 (-1)) (by decide +kernel)) dX7_postman_13 ?_
    obtain rfl := Option.some.inj hE
    exact m_lret F hM hr rfl rfl dX7_postman_16
