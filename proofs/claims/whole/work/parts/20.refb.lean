/-! ===== X7_has: reads I6 B54, writes , frames 2, locals 44 ===== -/
def f_X7_has_5 (N : Nat) (i6 : Int32) (b54 : Nat → Int64)  (nx5 : Int32 → Int32 → Int32 → Option (Int32)) (x1 : Int32) (x3 : Int32) (x4 : Int32) : Option (Int32) :=
(if i6 ≤ x4 then
bz x3 (some x3)
else
(if x3 = (0 : Int32) then
(if x4 = x1 then
nx5 x1 (0 : Int32) (x4 + (1 : Int32))
else
bd (f_X7_length b54 x1 x4) fun o28_0 =>
(if (1000000000000 : Int64) ≤ o28_0 then
nx5 x1 (0 : Int32) (x4 + (1 : Int32))
else
nx5 x1 (1 : Int32) (x4 + (1 : Int32))))
else
nx5 x1 (1 : Int32) (x4 + (1 : Int32))))
def f_X7_has (N : Nat) (i6 : Int32) (b54 : Nat → Int64)  (p1 : Int32) (p2 : Int32) : Option (Int32) :=
lq3 (f_X7_has_5 N i6 b54 ) N p1 (0 : Int32) (0 : Int32)
set_option maxHeartbeats 4000000 in
set_option maxRecDepth 100000 in
theorem s_X7_has_5 {p : Program} {l : Launch} {e : Env} {s : State} {m : MethodId} {args : Array Value} {below : List Frame} {meth : Method} {c : Code} {D : va_G} {y : Nat → ClassId} {nn : Nat} {ad : Nat → Nat} {A0 : Nat → Prop} {I : Nat → Int32} {J : Nat → Int64} {A : Nat → Nat → Int32} {B : Nat → Nat → Int64} {G : Nat → Nat → Nat → Int32} (F : Fx p s m args meth c cX7_has 5 wsX7_has RX7 D y A0) (hr : meth.sig.returnType = (some .boolean)) {out : Int32} {N : Nat}  (nx5 : Int32 → Int32 → Int32 → Option (Int32)) (hn5 : ∀ (x1 : Int32) (x3 : Int32) (x4 : Int32) (ls : Array Slot) (H : Heap) (locs : List Loc), nx5 x1 x3 x4 = some out → MM D y nn ad A0 s.heap I J A B G H locs → lv_has ls 5 [(0, .ref (ad 7)), (1, .int x1), (3, .int x3), (4, .int x4)] → W p l e ({ frames := 2, cells := 0, slots := 0, locals := 44 } : Room) s m args below meth c H locs 0 0 (MQ below (mQi D y nn ad A0 out (I, J, A, B, G)) args s 0 0 A0) (F0 m 5 ls [])) : ∀ (x1 : Int32) (x3 : Int32) (x4 : Int32) (ls : Array Slot) (H : Heap) (locs : List Loc), f_X7_has_5 N (I 6) (B 54)  nx5 x1 x3 x4 = some out → MM D y nn ad A0 s.heap I J A B G H locs → lv_has ls 5 [(0, .ref (ad 7)), (1, .int x1), (3, .int x3), (4, .int x4)] → W p l e ({ frames := 2, cells := 0, slots := 0, locals := 44 } : Room) s m args below meth c H locs 0 0 (MQ below (mQi D y nn ad A0 out (I, J, A, B, G)) args s 0 0 A0) (F0 m 5 ls []) := by
  intro x1 x3 x4 ls H locs hE hM hl
  have hx := F.1.1
  have hb := F.1.2.1
  unfold f_X7_has_5 at hE
  refine lv_iload hx hb dX7_has_5 (lv_at hl 3 rfl) ?_
  refine lv_aload_n hx hb dX7_has_7 rfl (lv_at hl 0 rfl) ?_
  refine m_get F hM 7 mg_7 rfl 1 (by decide) (by decide +kernel) (by decide +kernel) (v := .int (I 6)) rfl dX7_has_8 ?_
  refine lv_icmp_ge (tgt := 50) hx hb dX7_has_11 (by decide) (fun c11 => ?_) (fun c11 => ?_)
  · replace hE := (if_pos c11).symm.trans hE
    refine lv_iload_n hx hb dX7_has_50 rfl (lv_at hl 2 rfl) ?_
    obtain ⟨hz, hE⟩ := bz_some hE
    obtain rfl := Option.some.inj hE
    exact m_zret F hM hr hz rfl rfl dX7_has_51
  · replace hE := (if_neg c11).symm.trans hE
    refine lv_iload_n hx hb dX7_has_14 rfl (lv_at hl 2 rfl) ?_
    refine lv_if_ne (tgt := 38) hx hb dX7_has_15 (by decide) (fun c15 => ?_) (fun c15 => ?_)
    · replace hE := (if_neg c15).symm.trans hE
      refine lv_iconst (v := 1) hx hb dX7_has_38 (by decide) ?_
      refine lv_goto (tgt := 43) hx hb dX7_has_39 (by decide) ?_
      refine lv_istore_n (lv' := [(3, .int (1 : Int32)), (0, .ref (ad 7)), (1, .int x1), (4, .int x4)]) hx hb dX7_has_43 rfl hl (by decide) rfl (fun ls hl => ?_)
      refine lv_iinc (v := x4 + (1 : Int32)) (lv' := [(4, .int (x4 + (1 : Int32))), (3, .int (1 : Int32)), (0, .ref (ad 7)), (1, .int x1)]) hx hb dX7_has_44 hl (k := 3) rfl rfl (by decide) rfl (fun ls hl => ?_)
      refine lv_goto (tgt := 5) hx hb dX7_has_47 (by decide) ?_
      exact hn5 x1 (1 : Int32) (x4 + (1 : Int32)) ls H locs hE hM (lv_sub hl [2, 3, 1, 0] rfl)
    · replace hE := (if_pos c15).symm.trans hE
      refine lv_iload hx hb dX7_has_18 (lv_at hl 3 rfl) ?_
      refine lv_iload_n hx hb dX7_has_20 rfl (lv_at hl 1 rfl) ?_
      refine lv_icmp_eq (tgt := 42) hx hb dX7_has_21 (by decide) (fun c21 => ?_) (fun c21 => ?_)
      · replace hE := (if_pos c21).symm.trans hE
        refine lv_iconst (v := 0) hx hb dX7_has_42 (by decide) ?_
        refine lv_istore_n (lv' := [(3, .int (0 : Int32)), (0, .ref (ad 7)), (1, .int x1), (4, .int x4)]) hx hb dX7_has_43 rfl hl (by decide) rfl (fun ls hl => ?_)
        refine lv_iinc (v := x4 + (1 : Int32)) (lv' := [(4, .int (x4 + (1 : Int32))), (3, .int (0 : Int32)), (0, .ref (ad 7)), (1, .int x1)]) hx hb dX7_has_44 hl (k := 3) rfl rfl (by decide) rfl (fun ls hl => ?_)
        refine lv_goto (tgt := 5) hx hb dX7_has_47 (by decide) ?_
        exact hn5 x1 (0 : Int32) (x4 + (1 : Int32)) ls H locs hE hM (lv_sub hl [2, 3, 1, 0] rfl)
      · replace hE := (if_neg c21).symm.trans hE
        refine lv_aload_n hx hb dX7_has_24 rfl (lv_at hl 0 rfl) ?_
        refine lv_iload_n hx hb dX7_has_25 rfl (lv_at hl 1 rfl) ?_
        refine lv_iload hx hb dX7_has_26 (lv_at hl 3 rfl) ?_
        obtain ⟨o28_0, ho28_0, hE⟩ := bd_some hE
        refine m_callVl (As := [.int x1, .int x4]) (I2 := I) (J2 := J) (A2 := A) (B2 := B) (G2 := G) F hM (c_X7_length l D y nn ad H.size I J A B G x1 x4  o28_0 ho28_0) (cwV 2 F.1.2.2.2.2 gX7_has_X7_length rfl rfl rfl (by decide +kernel) ⟨Nat.le_of_ble_eq_true rfl, Nat.le_of_ble_eq_true rfl⟩) (m_recv F hM mg_7 rfl) rfl hl.1 (Nat.le_of_ble_eq_true rfl) dX7_has_28 ⟨Nat.le_refl 0, Nat.le_refl 0⟩ rfl rfl rfl rfl rfl (fun H locs hM => ?_)
        refine lv_ldc2 (v := (1000000000000)) hx hb F.1.2.2.2.1 (F.1.2.2.2.2 (.constantLong RX7 52 (1000000000000)) (by decide +kernel)) dX7_has_31 ?_
        refine m_lge (tgt := 42) F dX7_has_34 dX7_has_35 (by decide) (fun c35 => ?_) (fun c35 => ?_)
        · replace hE := (if_pos c35).symm.trans hE
          refine lv_iconst (v := 0) hx hb dX7_has_42 (by decide) ?_
          refine lv_istore_n (lv' := [(3, .int (0 : Int32)), (0, .ref (ad 7)), (1, .int x1), (4, .int x4)]) hx hb dX7_has_43 rfl hl (by decide) rfl (fun ls hl => ?_)
          refine lv_iinc (v := x4 + (1 : Int32)) (lv' := [(4, .int (x4 + (1 : Int32))), (3, .int (0 : Int32)), (0, .ref (ad 7)), (1, .int x1)]) hx hb dX7_has_44 hl (k := 3) rfl rfl (by decide) rfl (fun ls hl => ?_)
          refine lv_goto (tgt := 5) hx hb dX7_has_47 (by decide) ?_
          exact hn5 x1 (0 : Int32) (x4 + (1 : Int32)) ls H locs hE hM (lv_sub hl [2, 3, 1, 0] rfl)
        · replace hE := (if_neg c35).symm.trans hE
          refine lv_iconst (v := 1) hx hb dX7_has_38 (by decide) ?_
          refine lv_goto (tgt := 43) hx hb dX7_has_39 (by decide) ?_
          refine lv_istore_n (lv' := [(3, .int (1 : Int32)), (0, .ref (ad 7)), (1, .int x1), (4, .int x4)]) hx hb dX7_has_43 rfl hl (by decide) rfl (fun ls hl => ?_)
          refine lv_iinc (v := x4 + (1 : Int32)) (lv' := [(4, .int (x4 + (1 : Int32))), (3, .int (1 : Int32)), (0, .ref (ad 7)), (1, .int x1)]) hx hb dX7_has_44 hl (k := 3) rfl rfl (by decide) rfl (fun ls hl => ?_)
          refine lv_goto (tgt := 5) hx hb dX7_has_47 (by decide) ?_
          exact hn5 x1 (1 : Int32) (x4 + (1 : Int32)) ls H locs hE hM (lv_sub hl [2, 3, 1, 0] rfl)
theorem k_X7_has_5 {p : Program} {l : Launch} {e : Env} {s : State} {m : MethodId} {args : Array Value} {below : List Frame} {meth : Method} {c : Code} {D : va_G} {y : Nat → ClassId} {nn : Nat} {ad : Nat → Nat} {A0 : Nat → Prop} {I : Nat → Int32} {J : Nat → Int64} {A : Nat → Nat → Int32} {B : Nat → Nat → Int64} {G : Nat → Nat → Nat → Int32} (F : Fx p s m args meth c cX7_has 5 wsX7_has RX7 D y A0) (hr : meth.sig.returnType = (some .boolean)) {out : Int32} {N : Nat}  : ∀ (n : Nat), ∀ (x1 : Int32) (x3 : Int32) (x4 : Int32) (ls : Array Slot) (H : Heap) (locs : List Loc), lq3 (f_X7_has_5 N (I 6) (B 54) ) n x1 x3 x4 = some out → MM D y nn ad A0 s.heap I J A B G H locs → lv_has ls 5 [(0, .ref (ad 7)), (1, .int x1), (3, .int x3), (4, .int x4)] → W p l e ({ frames := 2, cells := 0, slots := 0, locals := 44 } : Room) s m args below meth c H locs 0 0 (MQ below (mQi D y nn ad A0 out (I, J, A, B, G)) args s 0 0 A0) (F0 m 5 ls []) := by
  intro n
  induction n with
  | zero =>
    intro x1 x3 x4 ls H locs hE
    cases (show (none : Option _) = some out from hE)
  | succ n ih =>
    intro x1 x3 x4 ls H locs hE hM hl
    exact s_X7_has_5 F hr (N := N)  (lq3 (f_X7_has_5 N (I 6) (B 54) ) n) ih x1 x3 x4 ls H locs hE hM hl
set_option maxHeartbeats 4000000 in
set_option maxRecDepth 100000 in
theorem c_X7_has (l : Launch) (D : va_G) (y : Nat → ClassId) (nn : Nat) (ad : Nat → Nat) (sz : Nat) (I : Nat → Int32) (J : Nat → Int64) (A : Nat → Nat → Int32) (B : Nat → Nat → Int64) (G : Nat → Nat → Nat → Int32) (p1 : Int32) (p2 : Int32) (N : Nat) (out : Int32) (hE : f_X7_has N (I 6) (B 54)  p1 p2 = some out) : Met l yX7_has wsX7_has ({ frames := 2, cells := 0, slots := 0, locals := 44 } : Room) (mPc [.ref (ad 7), .int p1, .int p2] D y nn ad sz I J A B G) (mQi D y nn ad (mA y nn ad I J A B G sz) out (I, J, A, B, G)) 0 0 (mA y nn ad I J A B G sz) := by
  refine Met.ofW (cc := cX7_has) (maxL := 5) (ret := (some .boolean)) (by decide) rfl ?_
  intro p e s m args below meth c s₁ Bd hml hv
  obtain ⟨rfl, hsz, hP, hK, hD0, hN⟩ := hv
  have hr := Bd.returns
  subst hsz
  have F : Fx p s m ([.ref (ad 7), .int p1, .int p2] : List Value).toArray meth c cX7_has 5 wsX7_has RX7 D y (mA y nn ad I J A B G s.heap.size) := ⟨⟨Bd.exec, Bd.bytes, hml, findClass_of_methodNamed Bd.named, atoms_spec (ws := wsX7_has) Bd.pre⟩, hK, hN, fun q h => Or.inr h, Bd.notSynchronized⟩
  have hM := m_start (s := s) rfl hP hD0
  have hM := m_mem (I2 := I) (J2 := J) (A2 := A) (B2 := B) (G2 := G) hM (by rfl) (by rfl) (by rfl) (by rfl) (by rfl)
  have hx := F.1.1
  have hb := F.1.2.1
  have hl := lv_entry ([.ref (ad 7), .int p1, .int p2]) (n := 5) (Nat.le_of_ble_eq_true rfl)
  rw [lg_entry_eq]
  generalize (lg_sl ([.ref (ad 7), .int p1, .int p2]) ++ List.replicate (5 - (lg_sl ([.ref (ad 7), .int p1, .int p2])).length) Slot.unset).toArray = ls at hl ⊢
  have hl : lv_has ls 5 [(0, .ref (ad 7)), (1, .int p1), (2, .int p2)] := hl
  show W p l e ({ frames := 2, cells := 0, slots := 0, locals := 44 } : Room) s m _ below meth c s.heap [] 0 0 _ _
  obtain ⟨locs, hlo⟩ : ∃ locs : List Loc, locs = [] := ⟨_, rfl⟩
  rw [← hlo]; rw [← hlo] at hM
  unfold f_X7_has at hE
  revert hM
  suffices hH : ∀ H : Heap, MM D y nn ad (mA y nn ad I J A B G s.heap.size) s.heap I J A B G H locs → W p l e ({ frames := 2, cells := 0, slots := 0, locals := 44 } : Room) s m ([.ref (ad 7), .int p1, .int p2] : List Value).toArray below meth c H locs 0 0 (MQ below (mQi D y nn ad (mA y nn ad I J A B G s.heap.size) out (I, J, A, B, G)) ([.ref (ad 7), .int p1, .int p2] : List Value).toArray s 0 0 (mA y nn ad I J A B G s.heap.size)) (F0 m 0 ls []) from hH s.heap
  intro H hM
  refine lv_iconst (v := 0) hx hb dX7_has_0 (by decide) ?_
  refine lv_istore_n (lv' := [(3, .int (0 : Int32)), (0, .ref (ad 7)), (1, .int p1), (2, .int p2)]) hx hb dX7_has_1 rfl hl (by decide) rfl (fun ls hl => ?_)
  refine lv_iconst (v := 0) hx hb dX7_has_2 (by decide) ?_
  refine lv_istore (lv' := [(4, .int (0 : Int32)), (3, .int (0 : Int32)), (0, .ref (ad 7)), (1, .int p1), (2, .int p2)]) hx hb dX7_has_3 hl (by decide) rfl (fun ls hl => ?_)
  exact k_X7_has_5 F hr (N := N)  N p1 (0 : Int32) (0 : Int32) ls H locs hE hM (lv_sub hl [2, 3, 1, 0] rfl)
/-! ===== X7_shorten: reads I6 B54, writes B57, frames 3, locals 68 ===== -/
def f_X7_shorten_225 (N : Nat) (i6 : Int32) (b54 : Nat → Int64) (nx213 : Int32 → Int32 → Int32 → (Nat → Int64) → Option (Int32 × (Nat → Int64))) (nx225 : Int32 → Int32 → Int32 → Int32 → (Nat → Int64) → Option (Int32 × (Nat → Int64))) (x1 : Int32) (x3 : Int32) (x4 : Int32) (x5 : Int32) (b57' : Nat → Int64) : Option (Int32 × (Nat → Int64)) :=
(if i6 ≤ x5 then
nx213 x1 x3 (x4 + (1 : Int32)) b57'
else
(if x3 = (0 : Int32) then
nx225 x1 (0 : Int32) x4 (x5 + (1 : Int32)) b57'
else
bd (f_X7_has N i6 b54 x4 x1) fun o242_0 =>
(if o242_0 = (0 : Int32) then
nx225 x1 (1 : Int32) x4 (x5 + (1 : Int32)) b57'
else
bd (f_X7_has N i6 b54 x5 x1) fun o252_1 =>
(if o252_1 = (0 : Int32) then
nx225 x1 (1 : Int32) x4 (x5 + (1 : Int32)) b57'
else
ck (((12 : Int32) * x4) + x5) 144 (
(if (1000000000000 : Int64) ≤ (b57' (((12 : Int32) * x4) + x5).toNatClampNeg) then
nx225 x1 (0 : Int32) x4 (x5 + (1 : Int32)) b57'
else
nx225 x1 (1 : Int32) x4 (x5 + (1 : Int32)) b57'))))))
def f_X7_shorten_213 (N : Nat) (i6 : Int32) (b54 : Nat → Int64)  (nx213 : Int32 → Int32 → Int32 → (Nat → Int64) → Option (Int32 × (Nat → Int64))) (x1 : Int32) (x3 : Int32) (x4 : Int32) (b57' : Nat → Int64) : Option (Int32 × (Nat → Int64)) :=
(if i6 ≤ x4 then
bz x3 (some (x3, b57'))
else
lq5 (f_X7_shorten_225 N i6 b54 nx213) N x1 x3 x4 (0 : Int32) b57')
def f_X7_shorten_73 (N : Nat) (i6 : Int32) (b54 : Nat → Int64) (nx65 : Int32 → Int32 → (Nat → Int64) → Option (Int32 × (Nat → Int64))) (nx73 : Int32 → Int32 → Int32 → (Nat → Int64) → Option (Int32 × (Nat → Int64))) (x1 : Int32) (x2 : Int32) (x3 : Int32) (b57' : Nat → Int64) : Option (Int32 × (Nat → Int64)) :=
(if ((i6 * i6) * i6) ≤ x3 then
nx65 x1 x2 b57'
else
dv i6 (
dv i6 (
dv i6 (
dv i6 (
dv i6 (
ck (((12 : Int32) * ((x3 / i6) / i6)) + ((x3 / i6) - (x3 / i6) / i6 * i6)) 144 (
ck (((12 : Int32) * ((x3 / i6) - (x3 / i6) / i6 * i6)) + (x3 - x3 / i6 * i6)) 144 (
nmd (((b57' (((12 : Int32) * ((x3 / i6) / i6)) + ((x3 / i6) - (x3 / i6) / i6 * i6)).toNatClampNeg) + (b57' (((12 : Int32) * ((x3 / i6) - (x3 / i6) / i6 * i6)) + (x3 - x3 / i6 * i6)).toNatClampNeg))) fun v152_5 =>
ck (((12 : Int32) * ((x3 / i6) / i6)) + (x3 - x3 / i6 * i6)) 144 (
(if (b57' (((12 : Int32) * ((x3 / i6) / i6)) + (x3 - x3 / i6 * i6)).toNatClampNeg) ≤ v152_5 then
nx73 x1 x2 (x3 + (1 : Int32)) b57'
else
(if (1000000000000 : Int64) ≤ v152_5 then
nx73 x1 x2 (x3 + (1 : Int32)) b57'
else
ck (((12 : Int32) * ((x3 / i6) / i6)) + (x3 - x3 / i6 * i6)) 144 (
nmd (vp_updL b57' (((12 : Int32) * ((x3 / i6) / i6)) + (x3 - x3 / i6 * i6)).toNatClampNeg v152_5) fun w196_8 =>
nx73 x1 (1 : Int32) (x3 + (1 : Int32)) w196_8))))))))))))
def f_X7_shorten_65 (N : Nat) (i6 : Int32) (b54 : Nat → Int64)  (nx65 : Int32 → Int32 → (Nat → Int64) → Option (Int32 × (Nat → Int64))) (x1 : Int32) (x2 : Int32) (b57' : Nat → Int64) : Option (Int32 × (Nat → Int64)) :=
(if x2 = (0 : Int32) then
lq4 (f_X7_shorten_213 N i6 b54 ) N x1 (1 : Int32) (0 : Int32) b57'
else
lq4 (f_X7_shorten_73 N i6 b54 nx65) N x1 (0 : Int32) (0 : Int32) b57')
def f_X7_shorten_2 (N : Nat) (i6 : Int32) (b54 : Nat → Int64)  (nx2 : Int32 → Int32 → (Nat → Int64) → Option (Int32 × (Nat → Int64))) (x1 : Int32) (x2 : Int32) (b57' : Nat → Int64) : Option (Int32 × (Nat → Int64)) :=
(if (144 : Int32) ≤ x2 then
lq3 (f_X7_shorten_65 N i6 b54 ) N x1 (1 : Int32) b57'
else
dv (12 : Int32) (
dv (12 : Int32) (
(if (x2 / (12 : Int32)) = (x2 - x2 / (12 : Int32) * (12 : Int32)) then
ck x2 144 (
nmd (vp_updL b57' x2.toNatClampNeg (0 : Int64)) fun w56_16 =>
nx2 x1 (x2 + (1 : Int32)) w56_16)
else
(if x1 = (0 : Int32) then
bd (f_X7_length b54 (x2 / (12 : Int32)) (x2 - x2 / (12 : Int32) * (12 : Int32))) fun o53_9 =>
ck x2 144 (
nmd (vp_updL b57' x2.toNatClampNeg o53_9) fun w56_11 =>
nx2 x1 (x2 + (1 : Int32)) w56_11)
else
bd (f_X7_way_ b54 (x2 / (12 : Int32)) (x2 - x2 / (12 : Int32) * (12 : Int32))) fun o43_12 =>
ck x2 144 (
nmd (vp_updL b57' x2.toNatClampNeg o43_12) fun w56_14 =>
nx2 x1 (x2 + (1 : Int32)) w56_14))))))
def f_X7_shorten (N : Nat) (i6 : Int32) (b54 : Nat → Int64) (b57 : Nat → Int64) (p1 : Int32) : Option (Int32 × (Nat → Int64)) :=
lq3 (f_X7_shorten_2 N i6 b54 ) N p1 (0 : Int32) b57
set_option maxHeartbeats 4000000 in
set_option maxRecDepth 100000 in
theorem s_X7_shorten_225 {p : Program} {l : Launch} {e : Env} {s : State} {m : MethodId} {args : Array Value} {below : List Frame} {meth : Method} {c : Code} {D : va_G} {y : Nat → ClassId} {nn : Nat} {ad : Nat → Nat} {A0 : Nat → Prop} {I : Nat → Int32} {J : Nat → Int64} {A : Nat → Nat → Int32} {B : Nat → Nat → Int64} {G : Nat → Nat → Nat → Int32} (F : Fx p s m args meth c cX7_shorten 9 wsX7_shorten RX7 D y A0) (hr : meth.sig.returnType = (some .boolean)) {out : Int32 × (Nat → Int64)} {N : Nat} (nx213 : Int32 → Int32 → Int32 → (Nat → Int64) → Option (Int32 × (Nat → Int64))) (hn213 : ∀ (x1 : Int32) (x3 : Int32) (x4 : Int32) (b57' : Nat → Int64) (ls : Array Slot) (H : Heap) (locs : List Loc), nx213 x1 x3 x4 b57' = some out → MM D y nn ad A0 s.heap I J A (va_up B 57 b57') G H locs → lv_has ls 9 [(0, .ref (ad 7)), (1, .int x1), (3, .int x3), (4, .int x4)] → W p l e ({ frames := 3, cells := 0, slots := 0, locals := 68 } : Room) s m args below meth c H locs 0 0 (MQ below (mQi D y nn ad A0 out.1 (I, J, A, (va_up B 57 out.2), G)) args s 0 0 A0) (F0 m 213 ls [])) (nx225 : Int32 → Int32 → Int32 → Int32 → (Nat → Int64) → Option (Int32 × (Nat → Int64))) (hn225 : ∀ (x1 : Int32) (x3 : Int32) (x4 : Int32) (x5 : Int32) (b57' : Nat → Int64) (ls : Array Slot) (H : Heap) (locs : List Loc), nx225 x1 x3 x4 x5 b57' = some out → MM D y nn ad A0 s.heap I J A (va_up B 57 b57') G H locs → lv_has ls 9 [(0, .ref (ad 7)), (1, .int x1), (3, .int x3), (4, .int x4), (5, .int x5)] → W p l e ({ frames := 3, cells := 0, slots := 0, locals := 68 } : Room) s m args below meth c H locs 0 0 (MQ below (mQi D y nn ad A0 out.1 (I, J, A, (va_up B 57 out.2), G)) args s 0 0 A0) (F0 m 225 ls [])) : ∀ (x1 : Int32) (x3 : Int32) (x4 : Int32) (x5 : Int32) (b57' : Nat → Int64) (ls : Array Slot) (H : Heap) (locs : List Loc), f_X7_shorten_225 N (I 6) (B 54) nx213 nx225 x1 x3 x4 x5 b57' = some out → MM D y nn ad A0 s.heap I J A (va_up B 57 b57') G H locs → lv_has ls 9 [(0, .ref (ad 7)), (1, .int x1), (3, .int x3), (4, .int x4), (5, .int x5)] → W p l e ({ frames := 3, cells := 0, slots := 0, locals := 68 } : Room) s m args below meth c H locs 0 0 (MQ below (mQi D y nn ad A0 out.1 (I, J, A, (va_up B 57 out.2), G)) args s 0 0 A0) (F0 m 225 ls []) := by
  intro x1 x3 x4 x5 b57' ls H locs hE hM hl
  have hx := F.1.1
  have hb := F.1.2.1
  unfold f_X7_shorten_225 at hE
  refine lv_iload hx hb dX7_shorten_225 (lv_at hl 4 rfl) ?_
  refine lv_aload_n hx hb dX7_shorten_227 rfl (lv_at hl 0 rfl) ?_
  refine m_get F hM 7 mg_7 rfl 1 (by decide) (by decide +kernel) (by decide +kernel) (v := .int (I 6)) rfl dX7_shorten_228 ?_
  refine lv_icmp_ge (tgt := 290) hx hb dX7_shorten_231 (by decide) (fun c231 => ?_) (fun c231 => ?_)
  · replace hE := (if_pos c231).symm.trans hE
    refine lv_iinc (v := x4 + (1 : Int32)) (lv' := [(4, .int (x4 + (1 : Int32))), (0, .ref (ad 7)), (1, .int x1), (3, .int x3), (5, .int x5)]) hx hb dX7_shorten_290 hl (k := 3) rfl rfl (by decide) rfl (fun ls hl => ?_)
    refine lv_goto (tgt := 213) hx hb dX7_shorten_293 (by decide) ?_
    exact hn213 x1 x3 (x4 + (1 : Int32)) b57' ls H locs hE hM (lv_sub hl [1, 2, 3, 0] rfl)
  · replace hE := (if_neg c231).symm.trans hE
    refine lv_iload_n hx hb dX7_shorten_234 rfl (lv_at hl 2 rfl) ?_
    refine lv_if_eq (tgt := 282) hx hb dX7_shorten_235 (by decide) (fun c235 => ?_) (fun c235 => ?_)
    · replace hE := (if_pos c235).symm.trans hE
      refine lv_iconst (v := 0) hx hb dX7_shorten_282 (by decide) ?_
      refine lv_istore_n (lv' := [(3, .int (0 : Int32)), (0, .ref (ad 7)), (1, .int x1), (4, .int x4), (5, .int x5)]) hx hb dX7_shorten_283 rfl hl (by decide) rfl (fun ls hl => ?_)
      refine lv_iinc (v := x5 + (1 : Int32)) (lv' := [(5, .int (x5 + (1 : Int32))), (3, .int (0 : Int32)), (0, .ref (ad 7)), (1, .int x1), (4, .int x4)]) hx hb dX7_shorten_284 hl (k := 4) rfl rfl (by decide) rfl (fun ls hl => ?_)
      refine lv_goto (tgt := 225) hx hb dX7_shorten_287 (by decide) ?_
      exact hn225 x1 (0 : Int32) x4 (x5 + (1 : Int32)) b57' ls H locs hE hM (lv_sub hl [2, 3, 1, 4, 0] rfl)
    · replace hE := (if_neg c235).symm.trans hE
      refine lv_aload_n hx hb dX7_shorten_238 rfl (lv_at hl 0 rfl) ?_
      refine lv_iload hx hb dX7_shorten_239 (lv_at hl 3 rfl) ?_
      refine lv_iload_n hx hb dX7_shorten_241 rfl (lv_at hl 1 rfl) ?_
      obtain ⟨o242_0, ho242_0, hE⟩ := bd_some hE
      refine m_callVi (As := [.int x4, .int x1]) (I2 := I) (J2 := J) (A2 := A) (B2 := (va_up B 57 b57')) (G2 := G) F hM (c_X7_has l D y nn ad H.size I J A (va_up B 57 b57') G x4 x1 N o242_0 ho242_0) (cwV 2 F.1.2.2.2.2 gX7_shorten_X7_has rfl rfl rfl (by decide +kernel) ⟨Nat.le_of_ble_eq_true rfl, Nat.le_of_ble_eq_true rfl⟩) (m_recv F hM mg_7 rfl) rfl hl.1 (Nat.le_of_ble_eq_true rfl) dX7_shorten_242 ⟨Nat.le_refl 0, Nat.le_refl 0⟩ rfl rfl rfl rfl rfl (fun H locs hM => ?_)
      refine lv_if_eq (tgt := 278) hx hb dX7_shorten_245 (by decide) (fun c245 => ?_) (fun c245 => ?_)
      · replace hE := (if_pos c245).symm.trans hE
        refine lv_iconst (v := 1) hx hb dX7_shorten_278 (by decide) ?_
        refine lv_goto (tgt := 283) hx hb dX7_shorten_279 (by decide) ?_
        refine lv_istore_n (lv' := [(3, .int (1 : Int32)), (0, .ref (ad 7)), (1, .int x1), (4, .int x4), (5, .int x5)]) hx hb dX7_shorten_283 rfl hl (by decide) rfl (fun ls hl => ?_)
        refine lv_iinc (v := x5 + (1 : Int32)) (lv' := [(5, .int (x5 + (1 : Int32))), (3, .int (1 : Int32)), (0, .ref (ad 7)), (1, .int x1), (4, .int x4)]) hx hb dX7_shorten_284 hl (k := 4) rfl rfl (by decide) rfl (fun ls hl => ?_)
        refine lv_goto (tgt := 225) hx hb dX7_shorten_287 (by decide) ?_
        exact hn225 x1 (1 : Int32) x4 (x5 + (1 : Int32)) b57' ls H locs hE hM (lv_sub hl [2, 3, 1, 4, 0] rfl)
      · replace hE := (if_neg c245).symm.trans hE
        refine lv_aload_n hx hb dX7_shorten_248 rfl (lv_at hl 0 rfl) ?_
        refine lv_iload hx hb dX7_shorten_249 (lv_at hl 4 rfl) ?_
        refine lv_iload_n hx hb dX7_shorten_251 rfl (lv_at hl 1 rfl) ?_
        obtain ⟨o252_1, ho252_1, hE⟩ := bd_some hE
        refine m_callVi (As := [.int x5, .int x1]) (I2 := I) (J2 := J) (A2 := A) (B2 := (va_up B 57 b57')) (G2 := G) F hM (c_X7_has l D y nn ad H.size I J A (va_up B 57 b57') G x5 x1 N o252_1 ho252_1) (cwV 2 F.1.2.2.2.2 gX7_shorten_X7_has rfl rfl rfl (by decide +kernel) ⟨Nat.le_of_ble_eq_true rfl, Nat.le_of_ble_eq_true rfl⟩) (m_recv F hM mg_7 rfl) rfl hl.1 (Nat.le_of_ble_eq_true rfl) dX7_shorten_252 ⟨Nat.le_refl 0, Nat.le_refl 0⟩ rfl rfl rfl rfl rfl (fun H locs hM => ?_)
        refine lv_if_eq (tgt := 278) hx hb dX7_shorten_255 (by decide) (fun c255 => ?_) (fun c255 => ?_)
        · replace hE := (if_pos c255).symm.trans hE
          refine lv_iconst (v := 1) hx hb dX7_shorten_278 (by decide) ?_
          refine lv_goto (tgt := 283) hx hb dX7_shorten_279 (by decide) ?_
          refine lv_istore_n (lv' := [(3, .int (1 : Int32)), (0, .ref (ad 7)), (1, .int x1), (4, .int x4), (5, .int x5)]) hx hb dX7_shorten_283 rfl hl (by decide) rfl (fun ls hl => ?_)
          refine lv_iinc (v := x5 + (1 : Int32)) (lv' := [(5, .int (x5 + (1 : Int32))), (3, .int (1 : Int32)), (0, .ref (ad 7)), (1, .int x1), (4, .int x4)]) hx hb dX7_shorten_284 hl (k := 4) rfl rfl (by decide) rfl (fun ls hl => ?_)
          refine lv_goto (tgt := 225) hx hb dX7_shorten_287 (by decide) ?_
          exact hn225 x1 (1 : Int32) x4 (x5 + (1 : Int32)) b57' ls H locs hE hM (lv_sub hl [2, 3, 1, 4, 0] rfl)
        · replace hE := (if_neg c255).symm.trans hE
          refine lv_aload_n hx hb dX7_shorten_258 rfl (lv_at hl 0 rfl) ?_
          refine m_get F hM 7 mg_7 rfl 11 (by decide) (by decide +kernel) (by decide +kernel) (v := .ref (ad 57)) rfl dX7_shorten_259 ?_
          refine lv_bipush (v := 12) hx hb dX7_shorten_262 (by decide) ?_
          refine lv_iload hx hb dX7_shorten_264 (lv_at hl 3 rfl) ?_
          refine lv_imul hx hb dX7_shorten_266 ?_
          refine lv_iload hx hb dX7_shorten_267 (lv_at hl 4 rfl) ?_
          refine lv_iadd hx hb dX7_shorten_269 ?_
          obtain ⟨hi270_2, hE⟩ := ck_some hE
          refine m_lald (g := b57') F hM mg_57 rfl hi270_2 dX7_shorten_270 ?_
          refine lv_ldc2 (v := (1000000000000)) hx hb F.1.2.2.2.1 (F.1.2.2.2.2 (.constantLong RX7 52 (1000000000000)) (by decide +kernel)) dX7_shorten_271 ?_
          refine m_lge (tgt := 282) F dX7_shorten_274 dX7_shorten_275 (by decide) (fun c275 => ?_) (fun c275 => ?_)
          · replace hE := (if_pos c275).symm.trans hE
            refine lv_iconst (v := 0) hx hb dX7_shorten_282 (by decide) ?_
            refine lv_istore_n (lv' := [(3, .int (0 : Int32)), (0, .ref (ad 7)), (1, .int x1), (4, .int x4), (5, .int x5)]) hx hb dX7_shorten_283 rfl hl (by decide) rfl (fun ls hl => ?_)
            refine lv_iinc (v := x5 + (1 : Int32)) (lv' := [(5, .int (x5 + (1 : Int32))), (3, .int (0 : Int32)), (0, .ref (ad 7)), (1, .int x1), (4, .int x4)]) hx hb dX7_shorten_284 hl (k := 4) rfl rfl (by decide) rfl (fun ls hl => ?_)
            refine lv_goto (tgt := 225) hx hb dX7_shorten_287 (by decide) ?_
            exact hn225 x1 (0 : Int32) x4 (x5 + (1 : Int32)) b57' ls H locs hE hM (lv_sub hl [2, 3, 1, 4, 0] rfl)
          · replace hE := (if_neg c275).symm.trans hE
            refine lv_iconst (v := 1) hx hb dX7_shorten_278 (by decide) ?_
            refine lv_goto (tgt := 283) hx hb dX7_shorten_279 (by decide) ?_
            refine lv_istore_n (lv' := [(3, .int (1 : Int32)), (0, .ref (ad 7)), (1, .int x1), (4, .int x4), (5, .int x5)]) hx hb dX7_shorten_283 rfl hl (by decide) rfl (fun ls hl => ?_)
            refine lv_iinc (v := x5 + (1 : Int32)) (lv' := [(5, .int (x5 + (1 : Int32))), (3, .int (1 : Int32)), (0, .ref (ad 7)), (1, .int x1), (4, .int x4)]) hx hb dX7_shorten_284 hl (k := 4) rfl rfl (by decide) rfl (fun ls hl => ?_)
            refine lv_goto (tgt := 225) hx hb dX7_shorten_287 (by decide) ?_
            exact hn225 x1 (1 : Int32) x4 (x5 + (1 : Int32)) b57' ls H locs hE hM (lv_sub hl [2, 3, 1, 4, 0] rfl)
theorem k_X7_shorten_225 {p : Program} {l : Launch} {e : Env} {s : State} {m : MethodId} {args : Array Value} {below : List Frame} {meth : Method} {c : Code} {D : va_G} {y : Nat → ClassId} {nn : Nat} {ad : Nat → Nat} {A0 : Nat → Prop} {I : Nat → Int32} {J : Nat → Int64} {A : Nat → Nat → Int32} {B : Nat → Nat → Int64} {G : Nat → Nat → Nat → Int32} (F : Fx p s m args meth c cX7_shorten 9 wsX7_shorten RX7 D y A0) (hr : meth.sig.returnType = (some .boolean)) {out : Int32 × (Nat → Int64)} {N : Nat} (nx213 : Int32 → Int32 → Int32 → (Nat → Int64) → Option (Int32 × (Nat → Int64))) (hn213 : ∀ (x1 : Int32) (x3 : Int32) (x4 : Int32) (b57' : Nat → Int64) (ls : Array Slot) (H : Heap) (locs : List Loc), nx213 x1 x3 x4 b57' = some out → MM D y nn ad A0 s.heap I J A (va_up B 57 b57') G H locs → lv_has ls 9 [(0, .ref (ad 7)), (1, .int x1), (3, .int x3), (4, .int x4)] → W p l e ({ frames := 3, cells := 0, slots := 0, locals := 68 } : Room) s m args below meth c H locs 0 0 (MQ below (mQi D y nn ad A0 out.1 (I, J, A, (va_up B 57 out.2), G)) args s 0 0 A0) (F0 m 213 ls [])) : ∀ (n : Nat), ∀ (x1 : Int32) (x3 : Int32) (x4 : Int32) (x5 : Int32) (b57' : Nat → Int64) (ls : Array Slot) (H : Heap) (locs : List Loc), lq5 (f_X7_shorten_225 N (I 6) (B 54) nx213) n x1 x3 x4 x5 b57' = some out → MM D y nn ad A0 s.heap I J A (va_up B 57 b57') G H locs → lv_has ls 9 [(0, .ref (ad 7)), (1, .int x1), (3, .int x3), (4, .int x4), (5, .int x5)] → W p l e ({ frames := 3, cells := 0, slots := 0, locals := 68 } : Room) s m args below meth c H locs 0 0 (MQ below (mQi D y nn ad A0 out.1 (I, J, A, (va_up B 57 out.2), G)) args s 0 0 A0) (F0 m 225 ls []) := by
  intro n
  induction n with
  | zero =>
    intro x1 x3 x4 x5 b57' ls H locs hE
    cases (show (none : Option _) = some out from hE)
  | succ n ih =>
    intro x1 x3 x4 x5 b57' ls H locs hE hM hl
    exact s_X7_shorten_225 F hr (N := N) nx213 hn213 (lq5 (f_X7_shorten_225 N (I 6) (B 54) nx213) n) ih x1 x3 x4 x5 b57' ls H locs hE hM hl
set_option maxHeartbeats 4000000 in
set_option maxRecDepth 100000 in
theorem s_X7_shorten_213 {p : Program} {l : Launch} {e : Env} {s : State} {m : MethodId} {args : Array Value} {below : List Frame} {meth : Method} {c : Code} {D : va_G} {y : Nat → ClassId} {nn : Nat} {ad : Nat → Nat} {A0 : Nat → Prop} {I : Nat → Int32} {J : Nat → Int64} {A : Nat → Nat → Int32} {B : Nat → Nat → Int64} {G : Nat → Nat → Nat → Int32} (F : Fx p s m args meth c cX7_shorten 9 wsX7_shorten RX7 D y A0) (hr : meth.sig.returnType = (some .boolean)) {out : Int32 × (Nat → Int64)} {N : Nat}  (nx213 : Int32 → Int32 → Int32 → (Nat → Int64) → Option (Int32 × (Nat → Int64))) (hn213 : ∀ (x1 : Int32) (x3 : Int32) (x4 : Int32) (b57' : Nat → Int64) (ls : Array Slot) (H : Heap) (locs : List Loc), nx213 x1 x3 x4 b57' = some out → MM D y nn ad A0 s.heap I J A (va_up B 57 b57') G H locs → lv_has ls 9 [(0, .ref (ad 7)), (1, .int x1), (3, .int x3), (4, .int x4)] → W p l e ({ frames := 3, cells := 0, slots := 0, locals := 68 } : Room) s m args below meth c H locs 0 0 (MQ below (mQi D y nn ad A0 out.1 (I, J, A, (va_up B 57 out.2), G)) args s 0 0 A0) (F0 m 213 ls [])) : ∀ (x1 : Int32) (x3 : Int32) (x4 : Int32) (b57' : Nat → Int64) (ls : Array Slot) (H : Heap) (locs : List Loc), f_X7_shorten_213 N (I 6) (B 54)  nx213 x1 x3 x4 b57' = some out → MM D y nn ad A0 s.heap I J A (va_up B 57 b57') G H locs → lv_has ls 9 [(0, .ref (ad 7)), (1, .int x1), (3, .int x3), (4, .int x4)] → W p l e ({ frames := 3, cells := 0, slots := 0, locals := 68 } : Room) s m args below meth c H locs 0 0 (MQ below (mQi D y nn ad A0 out.1 (I, J, A, (va_up B 57 out.2), G)) args s 0 0 A0) (F0 m 213 ls []) := by
  intro x1 x3 x4 b57' ls H locs hE hM hl
  have hx := F.1.1
  have hb := F.1.2.1
  unfold f_X7_shorten_213 at hE
  refine lv_iload hx hb dX7_shorten_213 (lv_at hl 3 rfl) ?_
  refine lv_aload_n hx hb dX7_shorten_215 rfl (lv_at hl 0 rfl) ?_
  refine m_get F hM 7 mg_7 rfl 1 (by decide) (by decide +kernel) (by decide +kernel) (v := .int (I 6)) rfl dX7_shorten_216 ?_
  refine lv_icmp_ge (tgt := 296) hx hb dX7_shorten_219 (by decide) (fun c219 => ?_) (fun c219 => ?_)
  · replace hE := (if_pos c219).symm.trans hE
    refine lv_iload_n hx hb dX7_shorten_296 rfl (lv_at hl 2 rfl) ?_
    obtain ⟨hz, hE⟩ := bz_some hE
    obtain rfl := Option.some.inj hE
    exact m_zret F hM hr hz rfl rfl dX7_shorten_297
  · replace hE := (if_neg c219).symm.trans hE
    refine lv_iconst (v := 0) hx hb dX7_shorten_222 (by decide) ?_
    refine lv_istore (lv' := [(5, .int (0 : Int32)), (0, .ref (ad 7)), (1, .int x1), (3, .int x3), (4, .int x4)]) hx hb dX7_shorten_223 hl (by decide) rfl (fun ls hl => ?_)
    exact k_X7_shorten_225 F hr (N := N) nx213 hn213 N x1 x3 x4 (0 : Int32) b57' ls H locs hE hM (lv_sub hl [1, 2, 3, 4, 0] rfl)
theorem k_X7_shorten_213 {p : Program} {l : Launch} {e : Env} {s : State} {m : MethodId} {args : Array Value} {below : List Frame} {meth : Method} {c : Code} {D : va_G} {y : Nat → ClassId} {nn : Nat} {ad : Nat → Nat} {A0 : Nat → Prop} {I : Nat → Int32} {J : Nat → Int64} {A : Nat → Nat → Int32} {B : Nat → Nat → Int64} {G : Nat → Nat → Nat → Int32} (F : Fx p s m args meth c cX7_shorten 9 wsX7_shorten RX7 D y A0) (hr : meth.sig.returnType = (some .boolean)) {out : Int32 × (Nat → Int64)} {N : Nat}  : ∀ (n : Nat), ∀ (x1 : Int32) (x3 : Int32) (x4 : Int32) (b57' : Nat → Int64) (ls : Array Slot) (H : Heap) (locs : List Loc), lq4 (f_X7_shorten_213 N (I 6) (B 54) ) n x1 x3 x4 b57' = some out → MM D y nn ad A0 s.heap I J A (va_up B 57 b57') G H locs → lv_has ls 9 [(0, .ref (ad 7)), (1, .int x1), (3, .int x3), (4, .int x4)] → W p l e ({ frames := 3, cells := 0, slots := 0, locals := 68 } : Room) s m args below meth c H locs 0 0 (MQ below (mQi D y nn ad A0 out.1 (I, J, A, (va_up B 57 out.2), G)) args s 0 0 A0) (F0 m 213 ls []) := by
  intro n
  induction n with
  | zero =>
    intro x1 x3 x4 b57' ls H locs hE
    cases (show (none : Option _) = some out from hE)
  | succ n ih =>
    intro x1 x3 x4 b57' ls H locs hE hM hl
    exact s_X7_shorten_213 F hr (N := N)  (lq4 (f_X7_shorten_213 N (I 6) (B 54) ) n) ih x1 x3 x4 b57' ls H locs hE hM hl
set_option maxHeartbeats 4000000 in
set_option maxRecDepth 100000 in
theorem s_X7_shorten_73 {p : Program} {l : Launch} {e : Env} {s : State} {m : MethodId} {args : Array Value} {below : List Frame} {meth : Method} {c : Code} {D : va_G} {y : Nat → ClassId} {nn : Nat} {ad : Nat → Nat} {A0 : Nat → Prop} {I : Nat → Int32} {J : Nat → Int64} {A : Nat → Nat → Int32} {B : Nat → Nat → Int64} {G : Nat → Nat → Nat → Int32} (F : Fx p s m args meth c cX7_shorten 9 wsX7_shorten RX7 D y A0) (hr : meth.sig.returnType = (some .boolean)) {out : Int32 × (Nat → Int64)} {N : Nat} (nx65 : Int32 → Int32 → (Nat → Int64) → Option (Int32 × (Nat → Int64))) (hn65 : ∀ (x1 : Int32) (x2 : Int32) (b57' : Nat → Int64) (ls : Array Slot) (H : Heap) (locs : List Loc), nx65 x1 x2 b57' = some out → MM D y nn ad A0 s.heap I J A (va_up B 57 b57') G H locs → lv_has ls 9 [(0, .ref (ad 7)), (1, .int x1), (2, .int x2)] → W p l e ({ frames := 3, cells := 0, slots := 0, locals := 68 } : Room) s m args below meth c H locs 0 0 (MQ below (mQi D y nn ad A0 out.1 (I, J, A, (va_up B 57 out.2), G)) args s 0 0 A0) (F0 m 65 ls [])) (nx73 : Int32 → Int32 → Int32 → (Nat → Int64) → Option (Int32 × (Nat → Int64))) (hn73 : ∀ (x1 : Int32) (x2 : Int32) (x3 : Int32) (b57' : Nat → Int64) (ls : Array Slot) (H : Heap) (locs : List Loc), nx73 x1 x2 x3 b57' = some out → MM D y nn ad A0 s.heap I J A (va_up B 57 b57') G H locs → lv_has ls 9 [(0, .ref (ad 7)), (1, .int x1), (2, .int x2), (3, .int x3)] → W p l e ({ frames := 3, cells := 0, slots := 0, locals := 68 } : Room) s m args below meth c H locs 0 0 (MQ below (mQi D y nn ad A0 out.1 (I, J, A, (va_up B 57 out.2), G)) args s 0 0 A0) (F0 m 73 ls [])) : ∀ (x1 : Int32) (x2 : Int32) (x3 : Int32) (b57' : Nat → Int64) (ls : Array Slot) (H : Heap) (locs : List Loc), f_X7_shorten_73 N (I 6) (B 54) nx65 nx73 x1 x2 x3 b57' = some out → MM D y nn ad A0 s.heap I J A (va_up B 57 b57') G H locs → lv_has ls 9 [(0, .ref (ad 7)), (1, .int x1), (2, .int x2), (3, .int x3)] → W p l e ({ frames := 3, cells := 0, slots := 0, locals := 68 } : Room) s m args below meth c H locs 0 0 (MQ below (mQi D y nn ad A0 out.1 (I, J, A, (va_up B 57 out.2), G)) args s 0 0 A0) (F0 m 73 ls []) := by
  intro x1 x2 x3 b57' ls H locs hE hM hl
  have hx := F.1.1
  have hb := F.1.2.1
  unfold f_X7_shorten_73 at hE
  refine lv_iload_n hx hb dX7_shorten_73 rfl (lv_at hl 3 rfl) ?_
  refine lv_aload_n hx hb dX7_shorten_74 rfl (lv_at hl 0 rfl) ?_
  refine m_get F hM 7 mg_7 rfl 1 (by decide) (by decide +kernel) (by decide +kernel) (v := .int (I 6)) rfl dX7_shorten_75 ?_
  refine lv_aload_n hx hb dX7_shorten_78 rfl (lv_at hl 0 rfl) ?_
  refine m_get F hM 7 mg_7 rfl 1 (by decide) (by decide +kernel) (by decide +kernel) (v := .int (I 6)) rfl dX7_shorten_79 ?_
  refine lv_imul hx hb dX7_shorten_82 ?_
  refine lv_aload_n hx hb dX7_shorten_83 rfl (lv_at hl 0 rfl) ?_
  refine m_get F hM 7 mg_7 rfl 1 (by decide) (by decide +kernel) (by decide +kernel) (v := .int (I 6)) rfl dX7_shorten_84 ?_
  refine lv_imul hx hb dX7_shorten_87 ?_
  refine lv_icmp_ge (tgt := 205) hx hb dX7_shorten_88 (by decide) (fun c88 => ?_) (fun c88 => ?_)
  · replace hE := (if_pos c88).symm.trans hE
    refine lv_goto (tgt := 65) hx hb dX7_shorten_205 (by decide) ?_
    exact hn65 x1 x2 b57' ls H locs hE hM (lv_sub hl [0, 1, 2] rfl)
  · replace hE := (if_neg c88).symm.trans hE
    refine lv_iload_n hx hb dX7_shorten_91 rfl (lv_at hl 3 rfl) ?_
    refine lv_aload_n hx hb dX7_shorten_92 rfl (lv_at hl 0 rfl) ?_
    refine m_get F hM 7 mg_7 rfl 1 (by decide) (by decide +kernel) (by decide +kernel) (v := .int (I 6)) rfl dX7_shorten_93 ?_
    obtain ⟨hz96, hE⟩ := dv_some hE
    refine lv_idiv hx hb dX7_shorten_96 hz96 ?_
    refine lv_aload_n hx hb dX7_shorten_97 rfl (lv_at hl 0 rfl) ?_
    refine m_get F hM 7 mg_7 rfl 1 (by decide) (by decide +kernel) (by decide +kernel) (v := .int (I 6)) rfl dX7_shorten_98 ?_
    obtain ⟨hz101, hE⟩ := dv_some hE
    refine lv_idiv hx hb dX7_shorten_101 hz101 ?_
    refine lv_istore (lv' := [(4, .int ((x3 / (I 6)) / (I 6))), (0, .ref (ad 7)), (1, .int x1), (2, .int x2), (3, .int x3)]) hx hb dX7_shorten_102 hl (by decide) rfl (fun ls hl => ?_)
    refine lv_iload_n hx hb dX7_shorten_104 rfl (lv_at hl 4 rfl) ?_
    refine lv_aload_n hx hb dX7_shorten_105 rfl (lv_at hl 1 rfl) ?_
    refine m_get F hM 7 mg_7 rfl 1 (by decide) (by decide +kernel) (by decide +kernel) (v := .int (I 6)) rfl dX7_shorten_106 ?_
    obtain ⟨hz109, hE⟩ := dv_some hE
    refine lv_idiv hx hb dX7_shorten_109 hz109 ?_
    refine lv_aload_n hx hb dX7_shorten_110 rfl (lv_at hl 1 rfl) ?_
    refine m_get F hM 7 mg_7 rfl 1 (by decide) (by decide +kernel) (by decide +kernel) (v := .int (I 6)) rfl dX7_shorten_111 ?_
    obtain ⟨hz114, hE⟩ := dv_some hE
    refine lv_irem hx hb dX7_shorten_114 hz114 ?_
    refine lv_istore (lv' := [(5, .int ((x3 / (I 6)) - (x3 / (I 6)) / (I 6) * (I 6))), (4, .int ((x3 / (I 6)) / (I 6))), (0, .ref (ad 7)), (1, .int x1), (2, .int x2), (3, .int x3)]) hx hb dX7_shorten_115 hl (by decide) rfl (fun ls hl => ?_)
    refine lv_iload_n hx hb dX7_shorten_117 rfl (lv_at hl 5 rfl) ?_
    refine lv_aload_n hx hb dX7_shorten_118 rfl (lv_at hl 2 rfl) ?_
    refine m_get F hM 7 mg_7 rfl 1 (by decide) (by decide +kernel) (by decide +kernel) (v := .int (I 6)) rfl dX7_shorten_119 ?_
    obtain ⟨hz122, hE⟩ := dv_some hE
    refine lv_irem hx hb dX7_shorten_122 hz122 ?_
    refine lv_istore (lv' := [(6, .int (x3 - x3 / (I 6) * (I 6))), (5, .int ((x3 / (I 6)) - (x3 / (I 6)) / (I 6) * (I 6))), (4, .int ((x3 / (I 6)) / (I 6))), (0, .ref (ad 7)), (1, .int x1), (2, .int x2), (3, .int x3)]) hx hb dX7_shorten_123 hl (by decide) rfl (fun ls hl => ?_)
    refine lv_aload_n hx hb dX7_shorten_125 rfl (lv_at hl 3 rfl) ?_
    refine m_get F hM 7 mg_7 rfl 11 (by decide) (by decide +kernel) (by decide +kernel) (v := .ref (ad 57)) rfl dX7_shorten_126 ?_
    refine lv_bipush (v := 12) hx hb dX7_shorten_129 (by decide) ?_
    refine lv_iload hx hb dX7_shorten_131 (lv_at hl 2 rfl) ?_
    refine lv_imul hx hb dX7_shorten_133 ?_
    refine lv_iload hx hb dX7_shorten_134 (lv_at hl 1 rfl) ?_
    refine lv_iadd hx hb dX7_shorten_136 ?_
    obtain ⟨hi137_3, hE⟩ := ck_some hE
    refine m_lald (g := b57') F hM mg_57 rfl hi137_3 dX7_shorten_137 ?_
    refine lv_aload_n hx hb dX7_shorten_138 rfl (lv_at hl 3 rfl) ?_
    refine m_get F hM 7 mg_7 rfl 11 (by decide) (by decide +kernel) (by decide +kernel) (v := .ref (ad 57)) rfl dX7_shorten_139 ?_
    refine lv_bipush (v := 12) hx hb dX7_shorten_142 (by decide) ?_
    refine lv_iload hx hb dX7_shorten_144 (lv_at hl 1 rfl) ?_
    refine lv_imul hx hb dX7_shorten_146 ?_
    refine lv_iload hx hb dX7_shorten_147 (lv_at hl 0 rfl) ?_
    refine lv_iadd hx hb dX7_shorten_149 ?_
    obtain ⟨hi150_4, hE⟩ := ck_some hE
    refine m_lald (g := b57') F hM mg_57 rfl hi150_4 dX7_shorten_150 ?_
    refine lv_ladd hx hb dX7_shorten_151 ?_
    obtain ⟨v152_5, ev152_5, hE⟩ := nmd_some hE
    refine m_topl ev152_5 ?_
    refine lv_lstore (lv' := [(7, .long v152_5), (6, .int (x3 - x3 / (I 6) * (I 6))), (5, .int ((x3 / (I 6)) - (x3 / (I 6)) / (I 6) * (I 6))), (4, .int ((x3 / (I 6)) / (I 6))), (0, .ref (ad 7)), (1, .int x1), (2, .int x2), (3, .int x3)]) hx hb dX7_shorten_152 hl (by decide) rfl (fun ls hl => ?_)
    refine lv_lload hx hb dX7_shorten_154 (lv_at hl 0 rfl) ?_
    refine lv_aload_n hx hb dX7_shorten_156 rfl (lv_at hl 4 rfl) ?_
    refine m_get F hM 7 mg_7 rfl 11 (by decide) (by decide +kernel) (by decide +kernel) (v := .ref (ad 57)) rfl dX7_shorten_157 ?_
    refine lv_bipush (v := 12) hx hb dX7_shorten_160 (by decide) ?_
    refine lv_iload hx hb dX7_shorten_162 (lv_at hl 3 rfl) ?_
    refine lv_imul hx hb dX7_shorten_164 ?_
    refine lv_iload hx hb dX7_shorten_165 (lv_at hl 1 rfl) ?_
    refine lv_iadd hx hb dX7_shorten_167 ?_
    obtain ⟨hi168_6, hE⟩ := ck_some hE
    refine m_lald (g := b57') F hM mg_57 rfl hi168_6 dX7_shorten_168 ?_
    refine m_lge (tgt := 199) F dX7_shorten_169 dX7_shorten_170 (by decide) (fun c170 => ?_) (fun c170 => ?_)
    · replace hE := (if_pos c170).symm.trans hE
      refine lv_iinc (v := x3 + (1 : Int32)) (lv' := [(3, .int (x3 + (1 : Int32))), (7, .long v152_5), (6, .int (x3 - x3 / (I 6) * (I 6))), (5, .int ((x3 / (I 6)) - (x3 / (I 6)) / (I 6) * (I 6))), (4, .int ((x3 / (I 6)) / (I 6))), (0, .ref (ad 7)), (1, .int x1), (2, .int x2)]) hx hb dX7_shorten_199 hl (k := 7) rfl rfl (by decide) rfl (fun ls hl => ?_)
      refine lv_goto (tgt := 73) hx hb dX7_shorten_202 (by decide) ?_
      exact hn73 x1 x2 (x3 + (1 : Int32)) b57' ls H locs hE hM (lv_sub hl [5, 6, 7, 0] rfl)
    · replace hE := (if_neg c170).symm.trans hE
      refine lv_lload hx hb dX7_shorten_173 (lv_at hl 0 rfl) ?_
      refine lv_ldc2 (v := (1000000000000)) hx hb F.1.2.2.2.1 (F.1.2.2.2.2 (.constantLong RX7 52 (1000000000000)) (by decide +kernel)) dX7_shorten_175 ?_
      refine m_lge (tgt := 199) F dX7_shorten_178 dX7_shorten_179 (by decide) (fun c179 => ?_) (fun c179 => ?_)
      · replace hE := (if_pos c179).symm.trans hE
        refine lv_iinc (v := x3 + (1 : Int32)) (lv' := [(3, .int (x3 + (1 : Int32))), (7, .long v152_5), (6, .int (x3 - x3 / (I 6) * (I 6))), (5, .int ((x3 / (I 6)) - (x3 / (I 6)) / (I 6) * (I 6))), (4, .int ((x3 / (I 6)) / (I 6))), (0, .ref (ad 7)), (1, .int x1), (2, .int x2)]) hx hb dX7_shorten_199 hl (k := 7) rfl rfl (by decide) rfl (fun ls hl => ?_)
        refine lv_goto (tgt := 73) hx hb dX7_shorten_202 (by decide) ?_
        exact hn73 x1 x2 (x3 + (1 : Int32)) b57' ls H locs hE hM (lv_sub hl [5, 6, 7, 0] rfl)
      · replace hE := (if_neg c179).symm.trans hE
        refine lv_aload_n hx hb dX7_shorten_182 rfl (lv_at hl 4 rfl) ?_
        refine m_get F hM 7 mg_7 rfl 11 (by decide) (by decide +kernel) (by decide +kernel) (v := .ref (ad 57)) rfl dX7_shorten_183 ?_
        refine lv_bipush (v := 12) hx hb dX7_shorten_186 (by decide) ?_
        refine lv_iload hx hb dX7_shorten_188 (lv_at hl 3 rfl) ?_
        refine lv_imul hx hb dX7_shorten_190 ?_
        refine lv_iload hx hb dX7_shorten_191 (lv_at hl 1 rfl) ?_
        refine lv_iadd hx hb dX7_shorten_193 ?_
        refine lv_lload hx hb dX7_shorten_194 (lv_at hl 0 rfl) ?_
        obtain ⟨hi196_7, hE⟩ := ck_some hE
        obtain ⟨w196_8, ew196_8, hE⟩ := nmd_some hE
        refine m_last (f := b57') (B' := (va_up B 57 w196_8)) F hM mg_57 ms_57 (by rw [ew196_8]; exact (bx_uu _ _ _ _)) hi196_7 dX7_shorten_196 (fun H locs hM => ?_)
        refine lv_iconst (v := 1) hx hb dX7_shorten_197 (by decide) ?_
        refine lv_istore_n (lv' := [(2, .int (1 : Int32)), (7, .long v152_5), (6, .int (x3 - x3 / (I 6) * (I 6))), (5, .int ((x3 / (I 6)) - (x3 / (I 6)) / (I 6) * (I 6))), (4, .int ((x3 / (I 6)) / (I 6))), (0, .ref (ad 7)), (1, .int x1), (3, .int x3)]) hx hb dX7_shorten_198 rfl hl (by decide) rfl (fun ls hl => ?_)
        refine lv_iinc (v := x3 + (1 : Int32)) (lv' := [(3, .int (x3 + (1 : Int32))), (2, .int (1 : Int32)), (7, .long v152_5), (6, .int (x3 - x3 / (I 6) * (I 6))), (5, .int ((x3 / (I 6)) - (x3 / (I 6)) / (I 6) * (I 6))), (4, .int ((x3 / (I 6)) / (I 6))), (0, .ref (ad 7)), (1, .int x1)]) hx hb dX7_shorten_199 hl (k := 7) rfl rfl (by decide) rfl (fun ls hl => ?_)
        refine lv_goto (tgt := 73) hx hb dX7_shorten_202 (by decide) ?_
        exact hn73 x1 (1 : Int32) (x3 + (1 : Int32)) w196_8 ls H locs hE hM (lv_sub hl [6, 7, 1, 0] rfl)
theorem k_X7_shorten_73 {p : Program} {l : Launch} {e : Env} {s : State} {m : MethodId} {args : Array Value} {below : List Frame} {meth : Method} {c : Code} {D : va_G} {y : Nat → ClassId} {nn : Nat} {ad : Nat → Nat} {A0 : Nat → Prop} {I : Nat → Int32} {J : Nat → Int64} {A : Nat → Nat → Int32} {B : Nat → Nat → Int64} {G : Nat → Nat → Nat → Int32} (F : Fx p s m args meth c cX7_shorten 9 wsX7_shorten RX7 D y A0) (hr : meth.sig.returnType = (some .boolean)) {out : Int32 × (Nat → Int64)} {N : Nat} (nx65 : Int32 → Int32 → (Nat → Int64) → Option (Int32 × (Nat → Int64))) (hn65 : ∀ (x1 : Int32) (x2 : Int32) (b57' : Nat → Int64) (ls : Array Slot) (H : Heap) (locs : List Loc), nx65 x1 x2 b57' = some out → MM D y nn ad A0 s.heap I J A (va_up B 57 b57') G H locs → lv_has ls 9 [(0, .ref (ad 7)), (1, .int x1), (2, .int x2)] → W p l e ({ frames := 3, cells := 0, slots := 0, locals := 68 } : Room) s m args below meth c H locs 0 0 (MQ below (mQi D y nn ad A0 out.1 (I, J, A, (va_up B 57 out.2), G)) args s 0 0 A0) (F0 m 65 ls [])) : ∀ (n : Nat), ∀ (x1 : Int32) (x2 : Int32) (x3 : Int32) (b57' : Nat → Int64) (ls : Array Slot) (H : Heap) (locs : List Loc), lq4 (f_X7_shorten_73 N (I 6) (B 54) nx65) n x1 x2 x3 b57' = some out → MM D y nn ad A0 s.heap I J A (va_up B 57 b57') G H locs → lv_has ls 9 [(0, .ref (ad 7)), (1, .int x1), (2, .int x2), (3, .int x3)] → W p l e ({ frames := 3, cells := 0, slots := 0, locals := 68 } : Room) s m args below meth c H locs 0 0 (MQ below (mQi D y nn ad A0 out.1 (I, J, A, (va_up B 57 out.2), G)) args s 0 0 A0) (F0 m 73 ls []) := by
  intro n
  induction n with
  | zero =>
    intro x1 x2 x3 b57' ls H locs hE
    cases (show (none : Option _) = some out from hE)
  | succ n ih =>
    intro x1 x2 x3 b57' ls H locs hE hM hl
    exact s_X7_shorten_73 F hr (N := N) nx65 hn65 (lq4 (f_X7_shorten_73 N (I 6) (B 54) nx65) n) ih x1 x2 x3 b57' ls H locs hE hM hl
set_option maxHeartbeats 4000000 in
set_option maxRecDepth 100000 in
theorem s_X7_shorten_65 {p : Program} {l : Launch} {e : Env} {s : State} {m : MethodId} {args : Array Value} {below : List Frame} {meth : Method} {c : Code} {D : va_G} {y : Nat → ClassId} {nn : Nat} {ad : Nat → Nat} {A0 : Nat → Prop} {I : Nat → Int32} {J : Nat → Int64} {A : Nat → Nat → Int32} {B : Nat → Nat → Int64} {G : Nat → Nat → Nat → Int32} (F : Fx p s m args meth c cX7_shorten 9 wsX7_shorten RX7 D y A0) (hr : meth.sig.returnType = (some .boolean)) {out : Int32 × (Nat → Int64)} {N : Nat}  (nx65 : Int32 → Int32 → (Nat → Int64) → Option (Int32 × (Nat → Int64))) (hn65 : ∀ (x1 : Int32) (x2 : Int32) (b57' : Nat → Int64) (ls : Array Slot) (H : Heap) (locs : List Loc), nx65 x1 x2 b57' = some out → MM D y nn ad A0 s.heap I J A (va_up B 57 b57') G H locs → lv_has ls 9 [(0, .ref (ad 7)), (1, .int x1), (2, .int x2)] → W p l e ({ frames := 3, cells := 0, slots := 0, locals := 68 } : Room) s m args below meth c H locs 0 0 (MQ below (mQi D y nn ad A0 out.1 (I, J, A, (va_up B 57 out.2), G)) args s 0 0 A0) (F0 m 65 ls [])) : ∀ (x1 : Int32) (x2 : Int32) (b57' : Nat → Int64) (ls : Array Slot) (H : Heap) (locs : List Loc), f_X7_shorten_65 N (I 6) (B 54)  nx65 x1 x2 b57' = some out → MM D y nn ad A0 s.heap I J A (va_up B 57 b57') G H locs → lv_has ls 9 [(0, .ref (ad 7)), (1, .int x1), (2, .int x2)] → W p l e ({ frames := 3, cells := 0, slots := 0, locals := 68 } : Room) s m args below meth c H locs 0 0 (MQ below (mQi D y nn ad A0 out.1 (I, J, A, (va_up B 57 out.2), G)) args s 0 0 A0) (F0 m 65 ls []) := by
  intro x1 x2 b57' ls H locs hE hM hl
  have hx := F.1.1
  have hb := F.1.2.1
  unfold f_X7_shorten_65 at hE
  refine lv_iload_n hx hb dX7_shorten_65 rfl (lv_at hl 2 rfl) ?_
  refine lv_if_eq (tgt := 208) hx hb dX7_shorten_66 (by decide) (fun c66 => ?_) (fun c66 => ?_)
  · replace hE := (if_pos c66).symm.trans hE
    refine lv_iconst (v := 1) hx hb dX7_shorten_208 (by decide) ?_
    refine lv_istore_n (lv' := [(3, .int (1 : Int32)), (0, .ref (ad 7)), (1, .int x1), (2, .int x2)]) hx hb dX7_shorten_209 rfl hl (by decide) rfl (fun ls hl => ?_)
    refine lv_iconst (v := 0) hx hb dX7_shorten_210 (by decide) ?_
    refine lv_istore (lv' := [(4, .int (0 : Int32)), (3, .int (1 : Int32)), (0, .ref (ad 7)), (1, .int x1), (2, .int x2)]) hx hb dX7_shorten_211 hl (by decide) rfl (fun ls hl => ?_)
    exact k_X7_shorten_213 F hr (N := N)  N x1 (1 : Int32) (0 : Int32) b57' ls H locs hE hM (lv_sub hl [2, 3, 1, 0] rfl)
  · replace hE := (if_neg c66).symm.trans hE
    refine lv_iconst (v := 0) hx hb dX7_shorten_69 (by decide) ?_
    refine lv_istore_n (lv' := [(2, .int (0 : Int32)), (0, .ref (ad 7)), (1, .int x1)]) hx hb dX7_shorten_70 rfl hl (by decide) rfl (fun ls hl => ?_)
    refine lv_iconst (v := 0) hx hb dX7_shorten_71 (by decide) ?_
    refine lv_istore_n (lv' := [(3, .int (0 : Int32)), (2, .int (0 : Int32)), (0, .ref (ad 7)), (1, .int x1)]) hx hb dX7_shorten_72 rfl hl (by decide) rfl (fun ls hl => ?_)
    exact k_X7_shorten_73 F hr (N := N) nx65 hn65 N x1 (0 : Int32) (0 : Int32) b57' ls H locs hE hM (lv_sub hl [2, 3, 1, 0] rfl)
theorem k_X7_shorten_65 {p : Program} {l : Launch} {e : Env} {s : State} {m : MethodId} {args : Array Value} {below : List Frame} {meth : Method} {c : Code} {D : va_G} {y : Nat → ClassId} {nn : Nat} {ad : Nat → Nat} {A0 : Nat → Prop} {I : Nat → Int32} {J : Nat → Int64} {A : Nat → Nat → Int32} {B : Nat → Nat → Int64} {G : Nat → Nat → Nat → Int32} (F : Fx p s m args meth c cX7_shorten 9 wsX7_shorten RX7 D y A0) (hr : meth.sig.returnType = (some .boolean)) {out : Int32 × (Nat → Int64)} {N : Nat}  : ∀ (n : Nat), ∀ (x1 : Int32) (x2 : Int32) (b57' : Nat → Int64) (ls : Array Slot) (H : Heap) (locs : List Loc), lq3 (f_X7_shorten_65 N (I 6) (B 54) ) n x1 x2 b57' = some out → MM D y nn ad A0 s.heap I J A (va_up B 57 b57') G H locs → lv_has ls 9 [(0, .ref (ad 7)), (1, .int x1), (2, .int x2)] → W p l e ({ frames := 3, cells := 0, slots := 0, locals := 68 } : Room) s m args below meth c H locs 0 0 (MQ below (mQi D y nn ad A0 out.1 (I, J, A, (va_up B 57 out.2), G)) args s 0 0 A0) (F0 m 65 ls []) := by
  intro n
  induction n with
  | zero =>
    intro x1 x2 b57' ls H locs hE
    cases (show (none : Option _) = some out from hE)
  | succ n ih =>
    intro x1 x2 b57' ls H locs hE hM hl
    exact s_X7_shorten_65 F hr (N := N)  (lq3 (f_X7_shorten_65 N (I 6) (B 54) ) n) ih x1 x2 b57' ls H locs hE hM hl
set_option maxHeartbeats 4000000 in
set_option maxRecDepth 100000 in
theorem s_X7_shorten_2 {p : Program} {l : Launch} {e : Env} {s : State} {m : MethodId} {args : Array Value} {below : List Frame} {meth : Method} {c : Code} {D : va_G} {y : Nat → ClassId} {nn : Nat} {ad : Nat → Nat} {A0 : Nat → Prop} {I : Nat → Int32} {J : Nat → Int64} {A : Nat → Nat → Int32} {B : Nat → Nat → Int64} {G : Nat → Nat → Nat → Int32} (F : Fx p s m args meth c cX7_shorten 9 wsX7_shorten RX7 D y A0) (hr : meth.sig.returnType = (some .boolean)) {out : Int32 × (Nat → Int64)} {N : Nat}  (nx2 : Int32 → Int32 → (Nat → Int64) → Option (Int32 × (Nat → Int64))) (hn2 : ∀ (x1 : Int32) (x2 : Int32) (b57' : Nat → Int64) (ls : Array Slot) (H : Heap) (locs : List Loc), nx2 x1 x2 b57' = some out → MM D y nn ad A0 s.heap I J A (va_up B 57 b57') G H locs → lv_has ls 9 [(0, .ref (ad 7)), (1, .int x1), (2, .int x2)] → W p l e ({ frames := 3, cells := 0, slots := 0, locals := 68 } : Room) s m args below meth c H locs 0 0 (MQ below (mQi D y nn ad A0 out.1 (I, J, A, (va_up B 57 out.2), G)) args s 0 0 A0) (F0 m 2 ls [])) : ∀ (x1 : Int32) (x2 : Int32) (b57' : Nat → Int64) (ls : Array Slot) (H : Heap) (locs : List Loc), f_X7_shorten_2 N (I 6) (B 54)  nx2 x1 x2 b57' = some out → MM D y nn ad A0 s.heap I J A (va_up B 57 b57') G H locs → lv_has ls 9 [(0, .ref (ad 7)), (1, .int x1), (2, .int x2)] → W p l e ({ frames := 3, cells := 0, slots := 0, locals := 68 } : Room) s m args below meth c H locs 0 0 (MQ below (mQi D y nn ad A0 out.1 (I, J, A, (va_up B 57 out.2), G)) args s 0 0 A0) (F0 m 2 ls []) := by
  intro x1 x2 b57' ls H locs hE hM hl
  have hx := F.1.1
  have hb := F.1.2.1
  unfold f_X7_shorten_2 at hE
  refine lv_iload_n hx hb dX7_shorten_2 rfl (lv_at hl 2 rfl) ?_
  refine lv_sipush (v := 144) hx hb dX7_shorten_3 (by decide) ?_
  refine lv_icmp_ge (tgt := 63) hx hb dX7_shorten_6 (by decide) (fun c6 => ?_) (fun c6 => ?_)
  · replace hE := (if_pos c6).symm.trans hE
    refine lv_iconst (v := 1) hx hb dX7_shorten_63 (by decide) ?_
    refine lv_istore_n (lv' := [(2, .int (1 : Int32)), (0, .ref (ad 7)), (1, .int x1)]) hx hb dX7_shorten_64 rfl hl (by decide) rfl (fun ls hl => ?_)
    exact k_X7_shorten_65 F hr (N := N)  N x1 (1 : Int32) b57' ls H locs hE hM (lv_sub hl [1, 2, 0] rfl)
  · replace hE := (if_neg c6).symm.trans hE
    refine lv_iload_n hx hb dX7_shorten_9 rfl (lv_at hl 2 rfl) ?_
    refine lv_bipush (v := 12) hx hb dX7_shorten_10 (by decide) ?_
    obtain ⟨hz12, hE⟩ := dv_some hE
    refine lv_idiv hx hb dX7_shorten_12 hz12 ?_
    refine lv_istore_n (lv' := [(3, .int (x2 / (12 : Int32))), (0, .ref (ad 7)), (1, .int x1), (2, .int x2)]) hx hb dX7_shorten_13 rfl hl (by decide) rfl (fun ls hl => ?_)
    refine lv_iload_n hx hb dX7_shorten_14 rfl (lv_at hl 3 rfl) ?_
    refine lv_bipush (v := 12) hx hb dX7_shorten_15 (by decide) ?_
    obtain ⟨hz17, hE⟩ := dv_some hE
    refine lv_irem hx hb dX7_shorten_17 hz17 ?_
    refine lv_istore (lv' := [(4, .int (x2 - x2 / (12 : Int32) * (12 : Int32))), (3, .int (x2 / (12 : Int32))), (0, .ref (ad 7)), (1, .int x1), (2, .int x2)]) hx hb dX7_shorten_18 hl (by decide) rfl (fun ls hl => ?_)
    refine lv_aload_n hx hb dX7_shorten_20 rfl (lv_at hl 2 rfl) ?_
    refine m_get F hM 7 mg_7 rfl 11 (by decide) (by decide +kernel) (by decide +kernel) (v := .ref (ad 57)) rfl dX7_shorten_21 ?_
    refine lv_iload_n hx hb dX7_shorten_24 rfl (lv_at hl 4 rfl) ?_
    refine lv_iload_n hx hb dX7_shorten_25 rfl (lv_at hl 1 rfl) ?_
    refine lv_iload hx hb dX7_shorten_26 (lv_at hl 0 rfl) ?_
    refine lv_icmp_ne (tgt := 35) hx hb dX7_shorten_28 (by decide) (fun c28 => ?_) (fun c28 => ?_)
    · replace hE := (if_neg c28).symm.trans hE
      refine lv_iload_n hx hb dX7_shorten_35 rfl (lv_at hl 3 rfl) ?_
      refine lv_if_eq (tgt := 49) hx hb dX7_shorten_36 (by decide) (fun c36 => ?_) (fun c36 => ?_)
      · replace hE := (if_pos c36).symm.trans hE
        refine lv_aload_n hx hb dX7_shorten_49 rfl (lv_at hl 2 rfl) ?_
        refine lv_iload_n hx hb dX7_shorten_50 rfl (lv_at hl 1 rfl) ?_
        refine lv_iload hx hb dX7_shorten_51 (lv_at hl 0 rfl) ?_
        obtain ⟨o53_9, ho53_9, hE⟩ := bd_some hE
        refine m_callVl (As := [.int (x2 / (12 : Int32)), .int (x2 - x2 / (12 : Int32) * (12 : Int32))]) (I2 := I) (J2 := J) (A2 := A) (B2 := (va_up B 57 b57')) (G2 := G) F hM (c_X7_length l D y nn ad H.size I J A (va_up B 57 b57') G (x2 / (12 : Int32)) (x2 - x2 / (12 : Int32) * (12 : Int32))  o53_9 ho53_9) (cwV 2 F.1.2.2.2.2 gX7_shorten_X7_length rfl rfl rfl (by decide +kernel) ⟨Nat.le_of_ble_eq_true rfl, Nat.le_of_ble_eq_true rfl⟩) (m_recv F hM mg_7 rfl) rfl hl.1 (Nat.le_of_ble_eq_true rfl) dX7_shorten_53 ⟨Nat.le_refl 0, Nat.le_refl 0⟩ rfl rfl rfl rfl rfl (fun H locs hM => ?_)
        obtain ⟨hi56_10, hE⟩ := ck_some hE
        obtain ⟨w56_11, ew56_11, hE⟩ := nmd_some hE
        refine m_last (f := b57') (B' := (va_up B 57 w56_11)) F hM mg_57 ms_57 (by rw [ew56_11]; exact (bx_uu _ _ _ _)) hi56_10 dX7_shorten_56 (fun H locs hM => ?_)
        refine lv_iinc (v := x2 + (1 : Int32)) (lv' := [(2, .int (x2 + (1 : Int32))), (4, .int (x2 - x2 / (12 : Int32) * (12 : Int32))), (3, .int (x2 / (12 : Int32))), (0, .ref (ad 7)), (1, .int x1)]) hx hb dX7_shorten_57 hl (k := 4) rfl rfl (by decide) rfl (fun ls hl => ?_)
        refine lv_goto (tgt := 2) hx hb dX7_shorten_60 (by decide) ?_
        exact hn2 x1 (x2 + (1 : Int32)) w56_11 ls H locs hE hM (lv_sub hl [3, 4, 0] rfl)
      · replace hE := (if_neg c36).symm.trans hE
        refine lv_aload_n hx hb dX7_shorten_39 rfl (lv_at hl 2 rfl) ?_
        refine lv_iload_n hx hb dX7_shorten_40 rfl (lv_at hl 1 rfl) ?_
        refine lv_iload hx hb dX7_shorten_41 (lv_at hl 0 rfl) ?_
        obtain ⟨o43_12, ho43_12, hE⟩ := bd_some hE
        refine m_callVl (As := [.int (x2 / (12 : Int32)), .int (x2 - x2 / (12 : Int32) * (12 : Int32))]) (I2 := I) (J2 := J) (A2 := A) (B2 := (va_up B 57 b57')) (G2 := G) F hM (c_X7_way_ l D y nn ad H.size I J A (va_up B 57 b57') G (x2 / (12 : Int32)) (x2 - x2 / (12 : Int32) * (12 : Int32))  o43_12 ho43_12) (cwV 2 F.1.2.2.2.2 gX7_shorten_X7_way_ rfl rfl rfl (by decide +kernel) ⟨Nat.le_of_ble_eq_true rfl, Nat.le_of_ble_eq_true rfl⟩) (m_recv F hM mg_7 rfl) rfl hl.1 (Nat.le_of_ble_eq_true rfl) dX7_shorten_43 ⟨Nat.le_refl 0, Nat.le_refl 0⟩ rfl rfl rfl rfl rfl (fun H locs hM => ?_)
        refine lv_goto (tgt := 56) hx hb dX7_shorten_46 (by decide) ?_
        obtain ⟨hi56_13, hE⟩ := ck_some hE
        obtain ⟨w56_14, ew56_14, hE⟩ := nmd_some hE
        refine m_last (f := b57') (B' := (va_up B 57 w56_14)) F hM mg_57 ms_57 (by rw [ew56_14]; exact (bx_uu _ _ _ _)) hi56_13 dX7_shorten_56 (fun H locs hM => ?_)
        refine lv_iinc (v := x2 + (1 : Int32)) (lv' := [(2, .int (x2 + (1 : Int32))), (4, .int (x2 - x2 / (12 : Int32) * (12 : Int32))), (3, .int (x2 / (12 : Int32))), (0, .ref (ad 7)), (1, .int x1)]) hx hb dX7_shorten_57 hl (k := 4) rfl rfl (by decide) rfl (fun ls hl => ?_)
        refine lv_goto (tgt := 2) hx hb dX7_shorten_60 (by decide) ?_
        exact hn2 x1 (x2 + (1 : Int32)) w56_14 ls H locs hE hM (lv_sub hl [3, 4, 0] rfl)
    · replace hE := (if_pos c28).symm.trans hE
      refine lv_lconst (v := 0) hx hb dX7_shorten_31 (by decide) ?_
      refine lv_goto (tgt := 56) hx hb dX7_shorten_32 (by decide) ?_
      obtain ⟨hi56_15, hE⟩ := ck_some hE
      obtain ⟨w56_16, ew56_16, hE⟩ := nmd_some hE
      refine m_last (f := b57') (B' := (va_up B 57 w56_16)) F hM mg_57 ms_57 (by rw [ew56_16]; exact (bx_uu _ _ _ _)) hi56_15 dX7_shorten_56 (fun H locs hM => ?_)
      refine lv_iinc (v := x2 + (1 : Int32)) (lv' := [(2, .int (x2 + (1 : Int32))), (4, .int (x2 - x2 / (12 : Int32) * (12 : Int32))), (3, .int (x2 / (12 : Int32))), (0, .ref (ad 7)), (1, .int x1)]) hx hb dX7_shorten_57 hl (k := 4) rfl rfl (by decide) rfl (fun ls hl => ?_)
      refine lv_goto (tgt := 2) hx hb dX7_shorten_60 (by decide) ?_
      exact hn2 x1 (x2 + (1 : Int32)) w56_16 ls H locs hE hM (lv_sub hl [3, 4, 0] rfl)
theorem k_X7_shorten_2 {p : Program} {l : Launch} {e : Env} {s : State} {m : MethodId} {args : Array Value} {below : List Frame} {meth : Method} {c : Code} {D : va_G} {y : Nat → ClassId} {nn : Nat} {ad : Nat → Nat} {A0 : Nat → Prop} {I : Nat → Int32} {J : Nat → Int64} {A : Nat → Nat → Int32} {B : Nat → Nat → Int64} {G : Nat → Nat → Nat → Int32} (F : Fx p s m args meth c cX7_shorten 9 wsX7_shorten RX7 D y A0) (hr : meth.sig.returnType = (some .boolean)) {out : Int32 × (Nat → Int64)} {N : Nat}  : ∀ (n : Nat), ∀ (x1 : Int32) (x2 : Int32) (b57' : Nat → Int64) (ls : Array Slot) (H : Heap) (locs : List Loc), lq3 (f_X7_shorten_2 N (I 6) (B 54) ) n x1 x2 b57' = some out → MM D y nn ad A0 s.heap I J A (va_up B 57 b57') G H locs → lv_has ls 9 [(0, .ref (ad 7)), (1, .int x1), (2, .int x2)] → W p l e ({ frames := 3, cells := 0, slots := 0, locals := 68 } : Room) s m args below meth c H locs 0 0 (MQ below (mQi D y nn ad A0 out.1 (I, J, A, (va_up B 57 out.2), G)) args s 0 0 A0) (F0 m 2 ls []) := by
  intro n
  induction n with
  | zero =>
    intro x1 x2 b57' ls H locs hE
    cases (show (none : Option _) = some out from hE)
  | succ n ih =>
    intro x1 x2 b57' ls H locs hE hM hl
    exact s_X7_shorten_2 F hr (N := N)  (lq3 (f_X7_shorten_2 N (I 6) (B 54) ) n) ih x1 x2 b57' ls H locs hE hM hl
set_option maxHeartbeats 4000000 in
set_option maxRecDepth 100000 in
theorem c_X7_shorten (l : Launch) (D : va_G) (y : Nat → ClassId) (nn : Nat) (ad : Nat → Nat) (sz : Nat) (I : Nat → Int32) (J : Nat → Int64) (A : Nat → Nat → Int32) (B : Nat → Nat → Int64) (G : Nat → Nat → Nat → Int32) (p1 : Int32) (N : Nat) (out : Int32 × (Nat → Int64)) (hE : f_X7_shorten N (I 6) (B 54) (B 57) p1 = some out) : Met l yX7_shorten wsX7_shorten ({ frames := 3, cells := 0, slots := 0, locals := 68 } : Room) (mPc [.ref (ad 7), .int p1] D y nn ad sz I J A B G) (mQi D y nn ad (mA y nn ad I J A B G sz) out.1 (I, J, A, (va_up B 57 out.2), G)) 0 0 (mA y nn ad I J A B G sz) := by
  refine Met.ofW (cc := cX7_shorten) (maxL := 9) (ret := (some .boolean)) (by decide) rfl ?_
  intro p e s m args below meth c s₁ Bd hml hv
  obtain ⟨rfl, hsz, hP, hK, hD0, hN⟩ := hv
  have hr := Bd.returns
  subst hsz
  have F : Fx p s m ([.ref (ad 7), .int p1] : List Value).toArray meth c cX7_shorten 9 wsX7_shorten RX7 D y (mA y nn ad I J A B G s.heap.size) := ⟨⟨Bd.exec, Bd.bytes, hml, findClass_of_methodNamed Bd.named, atoms_spec (ws := wsX7_shorten) Bd.pre⟩, hK, hN, fun q h => Or.inr h, Bd.notSynchronized⟩
  have hM := m_start (s := s) rfl hP hD0
  have hM := m_mem (I2 := I) (J2 := J) (A2 := A) (B2 := (va_up B 57 (B 57))) (G2 := G) hM (by rfl) (by rfl) (by rfl) (by simp only [up_id]) (by rfl)
  have hx := F.1.1
  have hb := F.1.2.1
  have hl := lv_entry ([.ref (ad 7), .int p1]) (n := 9) (Nat.le_of_ble_eq_true rfl)
  rw [lg_entry_eq]
  generalize (lg_sl ([.ref (ad 7), .int p1]) ++ List.replicate (9 - (lg_sl ([.ref (ad 7), .int p1])).length) Slot.unset).toArray = ls at hl ⊢
  have hl : lv_has ls 9 [(0, .ref (ad 7)), (1, .int p1)] := hl
  show W p l e ({ frames := 3, cells := 0, slots := 0, locals := 68 } : Room) s m _ below meth c s.heap [] 0 0 _ _
  obtain ⟨locs, hlo⟩ : ∃ locs : List Loc, locs = [] := ⟨_, rfl⟩
  rw [← hlo]; rw [← hlo] at hM
  unfold f_X7_shorten at hE
  revert hM
  suffices hH : ∀ H : Heap, MM D y nn ad (mA y nn ad I J A B G s.heap.size) s.heap I J A (va_up B 57 (B 57)) G H locs → W p l e ({ frames := 3, cells := 0, slots := 0, locals := 68 } : Room) s m ([.ref (ad 7), .int p1] : List Value).toArray below meth c H locs 0 0 (MQ below (mQi D y nn ad (mA y nn ad I J A B G s.heap.size) out.1 (I, J, A, (va_up B 57 out.2), G)) ([.ref (ad 7), .int p1] : List Value).toArray s 0 0 (mA y nn ad I J A B G s.heap.size)) (F0 m 0 ls []) from hH s.heap
  intro H hM
  refine lv_iconst (v := 0) hx hb dX7_shorten_0 (by decide) ?_
  refine lv_istore_n (lv' := [(2, .int (0 : Int32)), (0, .ref (ad 7)), (1, .int p1)]) hx hb dX7_shorten_1 rfl hl (by decide) rfl (fun ls hl => ?_)
  exact k_X7_shorten_2 F hr (N := N)  N p1 (0 : Int32) (B 57) ls H locs hE hM (lv_sub hl [1, 2, 0] rfl)
/-! ===== X7_least: reads , writes , frames 0, locals 0 ===== -/
def f_X7_least_2 (N : Nat)  (nx2 : Int32 → Int32 → Option (Int32)) (x1 : Int32) (x2 : Int32) : Option (Int32) :=
(if ((x1 >>> (x2 &&& 31)) &&& (1 : Int32)) = (0 : Int32) then
nx2 x1 (x2 + (1 : Int32))
else
some x2)
def f_X7_least (N : Nat)  (p1 : Int32) : Option (Int32) :=
lq2 (f_X7_least_2 N ) N p1 (0 : Int32)
set_option maxHeartbeats 4000000 in
set_option maxRecDepth 100000 in
theorem s_X7_least_2 {p : Program} {l : Launch} {e : Env} {s : State} {m : MethodId} {args : Array Value} {below : List Frame} {meth : Method} {c : Code} {D : va_G} {y : Nat → ClassId} {nn : Nat} {ad : Nat → Nat} {A0 : Nat → Prop} {I : Nat → Int32} {J : Nat → Int64} {A : Nat → Nat → Int32} {B : Nat → Nat → Int64} {G : Nat → Nat → Nat → Int32} (F : Fx p s m args meth c cX7_least 3 wsX7_least RX7 D y A0) (hr : meth.sig.returnType = (some .int)) {out : Int32} {N : Nat}  (nx2 : Int32 → Int32 → Option (Int32)) (hn2 : ∀ (x1 : Int32) (x2 : Int32) (ls : Array Slot) (H : Heap) (locs : List Loc), nx2 x1 x2 = some out → MM D y nn ad A0 s.heap I J A B G H locs → lv_has ls 3 [(1, .int x1), (2, .int x2)] → W p l e ({ frames := 0, cells := 0, slots := 0, locals := 0 } : Room) s m args below meth c H locs 0 0 (MQ below (mQi D y nn ad A0 out (I, J, A, B, G)) args s 0 0 A0) (F0 m 2 ls [])) : ∀ (x1 : Int32) (x2 : Int32) (ls : Array Slot) (H : Heap) (locs : List Loc), f_X7_least_2 N  nx2 x1 x2 = some out → MM D y nn ad A0 s.heap I J A B G H locs → lv_has ls 3 [(1, .int x1), (2, .int x2)] → W p l e ({ frames := 0, cells := 0, slots := 0, locals := 0 } : Room) s m args below meth c H locs 0 0 (MQ below (mQi D y nn ad A0 out (I, J, A, B, G)) args s 0 0 A0) (F0 m 2 ls []) := by
  intro x1 x2 ls H locs hE hM hl
  have hx := F.1.1
  have hb := F.1.2.1
  unfold f_X7_least_2 at hE
  refine lv_iload_n hx hb dX7_least_2 rfl (lv_at hl 0 rfl) ?_
  refine lv_iload_n hx hb dX7_least_3 rfl (lv_at hl 1 rfl) ?_
  refine lv_ishr hx hb dX7_least_4 ?_
  refine lv_iconst (v := 1) hx hb dX7_least_5 (by decide) ?_
  refine lv_iand hx hb dX7_least_6 ?_
  refine lv_if_ne (tgt := 16) hx hb dX7_least_7 (by decide) (fun c7 => ?_) (fun c7 => ?_)
  · replace hE := (if_neg c7).symm.trans hE
    refine lv_iload_n hx hb dX7_least_16 rfl (lv_at hl 1 rfl) ?_
    obtain rfl := Option.some.inj hE
    exact m_iret F hM hr rfl rfl dX7_least_17
  · replace hE := (if_pos c7).symm.trans hE
    refine lv_iinc (v := x2 + (1 : Int32)) (lv' := [(2, .int (x2 + (1 : Int32))), (1, .int x1)]) hx hb dX7_least_10 hl (k := 1) rfl rfl (by decide) rfl (fun ls hl => ?_)
    refine lv_goto (tgt := 2) hx hb dX7_least_13 (by decide) ?_
    exact hn2 x1 (x2 + (1 : Int32)) ls H locs hE hM (lv_sub hl [1, 0] rfl)
theorem k_X7_least_2 {p : Program} {l : Launch} {e : Env} {s : State} {m : MethodId} {args : Array Value} {below : List Frame} {meth : Method} {c : Code} {D : va_G} {y : Nat → ClassId} {nn : Nat} {ad : Nat → Nat} {A0 : Nat → Prop} {I : Nat → Int32} {J : Nat → Int64} {A : Nat → Nat → Int32} {B : Nat → Nat → Int64} {G : Nat → Nat → Nat → Int32} (F : Fx p s m args meth c cX7_least 3 wsX7_least RX7 D y A0) (hr : meth.sig.returnType = (some .int)) {out : Int32} {N : Nat}  : ∀ (n : Nat), ∀ (x1 : Int32) (x2 : Int32) (ls : Array Slot) (H : Heap) (locs : List Loc), lq2 (f_X7_least_2 N ) n x1 x2 = some out → MM D y nn ad A0 s.heap I J A B G H locs → lv_has ls 3 [(1, .int x1), (2, .int x2)] → W p l e ({ frames := 0, cells := 0, slots := 0, locals := 0 } : Room) s m args below meth c H locs 0 0 (MQ below (mQi D y nn ad A0 out (I, J, A, B, G)) args s 0 0 A0) (F0 m 2 ls []) := by
  intro n
  induction n with
  | zero =>
    intro x1 x2 ls H locs hE
    cases (show (none : Option _) = some out from hE)
  | succ n ih =>
    intro x1 x2 ls H locs hE hM hl
    exact s_X7_least_2 F hr (N := N)  (lq2 (f_X7_least_2 N ) n) ih x1 x2 ls H locs hE hM hl
set_option maxHeartbeats 4000000 in
set_option maxRecDepth 100000 in
theorem c_X7_least (l : Launch) (D : va_G) (y : Nat → ClassId) (nn : Nat) (ad : Nat → Nat) (sz : Nat) (I : Nat → Int32) (J : Nat → Int64) (A : Nat → Nat → Int32) (B : Nat → Nat → Int64) (G : Nat → Nat → Nat → Int32) (p1 : Int32) (N : Nat) (out : Int32) (hE : f_X7_least N  p1 = some out) : Met l yX7_least wsX7_least ({ frames := 0, cells := 0, slots := 0, locals := 0 } : Room) (mPc [.ref (ad 7), .int p1] D y nn ad sz I J A B G) (mQi D y nn ad (mA y nn ad I J A B G sz) out (I, J, A, B, G)) 0 0 (mA y nn ad I J A B G sz) := by
  refine Met.ofW (cc := cX7_least) (maxL := 3) (ret := (some .int)) (by decide) rfl ?_
  intro p e s m args below meth c s₁ Bd hml hv
  obtain ⟨rfl, hsz, hP, hK, hD0, hN⟩ := hv
  have hr := Bd.returns
  subst hsz
  have F : Fx p s m ([.ref (ad 7), .int p1] : List Value).toArray meth c cX7_least 3 wsX7_least RX7 D y (mA y nn ad I J A B G s.heap.size) := ⟨⟨Bd.exec, Bd.bytes, hml, findClass_of_methodNamed Bd.named, atoms_spec (ws := wsX7_least) Bd.pre⟩, hK, hN, fun q h => Or.inr h, Bd.notSynchronized⟩
  have hM := m_start (s := s) rfl hP hD0
  have hM := m_mem (I2 := I) (J2 := J) (A2 := A) (B2 := B) (G2 := G) hM (by rfl) (by rfl) (by rfl) (by rfl) (by rfl)
  have hx := F.1.1
  have hb := F.1.2.1
  have hl := lv_entry ([.ref (ad 7), .int p1]) (n := 3) (Nat.le_of_ble_eq_true rfl)
  rw [lg_entry_eq]
  generalize (lg_sl ([.ref (ad 7), .int p1]) ++ List.replicate (3 - (lg_sl ([.ref (ad 7), .int p1])).length) Slot.unset).toArray = ls at hl ⊢
  have hl : lv_has ls 3 [(0, .ref (ad 7)), (1, .int p1)] := hl
  show W p l e ({ frames := 0, cells := 0, slots := 0, locals := 0 } : Room) s m _ below meth c s.heap [] 0 0 _ _
  obtain ⟨locs, hlo⟩ : ∃ locs : List Loc, locs = [] := ⟨_, rfl⟩
  rw [← hlo]; rw [← hlo] at hM
  unfold f_X7_least at hE
  revert hM
  suffices hH : ∀ H : Heap, MM D y nn ad (mA y nn ad I J A B G s.heap.size) s.heap I J A B G H locs → W p l e ({ frames := 0, cells := 0, slots := 0, locals := 0 } : Room) s m ([.ref (ad 7), .int p1] : List Value).toArray below meth c H locs 0 0 (MQ below (mQi D y nn ad (mA y nn ad I J A B G s.heap.size) out (I, J, A, B, G)) ([.ref (ad 7), .int p1] : List Value).toArray s 0 0 (mA y nn ad I J A B G s.heap.size)) (F0 m 0 ls []) from hH s.heap
  intro H hM
  refine lv_iconst (v := 0) hx hb dX7_least_0 (by decide) ?_
  refine lv_istore_n (lv' := [(2, .int (0 : Int32)), (0, .ref (ad 7)), (1, .int p1)]) hx hb dX7_least_1 rfl hl (by decide) rfl (fun ls hl => ?_)
  exact k_X7_least_2 F hr (N := N)  N p1 (0 : Int32) ls H locs hE hM (lv_sub hl [2, 0] rfl)
/-! ===== X7_both: reads I6 B54 B57, writes I8 A34 B56, frames 2, locals 44 ===== -/
def f_X7_both_316 (N : Nat) (i6 : Int32) (b54 : Nat → Int64) (b57 : Nat → Int64) (nx297 : Int64 → Int32 → Int32 → Int32 → (Nat → Int32) → (Nat → Int64) → Option (Int64 × Int32 × (Nat → Int32) × (Nat → Int64))) (nx316 : Int64 → Int32 → Int32 → Int32 → Int32 → Int32 → (Nat → Int32) → (Nat → Int64) → Option (Int64 × Int32 × (Nat → Int32) × (Nat → Int64))) (x1 : Int64) (x3 : Int32) (x4 : Int32) (x5 : Int32) (x6 : Int32) (i8' : Int32) (a34' : Nat → Int32) (b56' : Nat → Int64) : Option (Int64 × Int32 × (Nat → Int32) × (Nat → Int64)) :=
(if ((x4 >>> (x6 &&& 31)) &&& (1 : Int32)) = (0 : Int32) then
nx316 x1 x3 x4 x5 (x6 + (1 : Int32)) i8' a34' b56'
else
ck ((x4 ^^^ ((1 : Int32) <<< (x5 &&& 31))) ^^^ ((1 : Int32) <<< (x6 &&& 31))) 4096 (
ck (((12 : Int32) * x5) + x6) 144 (
ck x4 4096 (
(if ((b56' ((x4 ^^^ ((1 : Int32) <<< (x5 &&& 31))) ^^^ ((1 : Int32) <<< (x6 &&& 31))).toNatClampNeg) + (b57 (((12 : Int32) * x5) + x6).toNatClampNeg)) = (b56' x4.toNatClampNeg) then
ck ((2 : Int32) * i8') 12 (
nmd (upd a34' ((2 : Int32) * i8').toNatClampNeg x5) fun w386_8 =>
ck (((2 : Int32) * i8') + (1 : Int32)) 12 (
nmd (upd w386_8 (((2 : Int32) * i8') + (1 : Int32)).toNatClampNeg x6) fun w401_10 =>
nmd (((x4 ^^^ ((1 : Int32) <<< (x5 &&& 31))) ^^^ ((1 : Int32) <<< (x6 &&& 31)))) fun v424_11 =>
nx297 x1 x3 v424_11 (i8' + (1 : Int32)) w401_10 b56'))
else
nx316 x1 x3 x4 x5 (x6 + (1 : Int32)) i8' a34' b56')))))
def f_X7_both_297 (N : Nat) (i6 : Int32) (b54 : Nat → Int64) (b57 : Nat → Int64)  (nx297 : Int64 → Int32 → Int32 → Int32 → (Nat → Int32) → (Nat → Int64) → Option (Int64 × Int32 × (Nat → Int32) × (Nat → Int64))) (x1 : Int64) (x3 : Int32) (x4 : Int32) (i8' : Int32) (a34' : Nat → Int32) (b56' : Nat → Int64) : Option (Int64 × Int32 × (Nat → Int32) × (Nat → Int64)) :=
(if x4 = (0 : Int32) then
ck x3 4096 (
some ((x1 + (b56' x3.toNatClampNeg)), i8', a34', b56'))
else
bd (f_X7_least N x4) fun o305_3 =>
lq8 (f_X7_both_316 N i6 b54 b57 nx297) N x1 x3 x4 o305_3 (o305_3 + (1 : Int32)) i8' a34' b56')
def f_X7_both_168 (N : Nat) (i6 : Int32) (b54 : Nat → Int64) (b57 : Nat → Int64) (nx133 : Int64 → Int32 → Int32 → Int32 → (Nat → Int32) → (Nat → Int64) → Option (Int64 × Int32 × (Nat → Int32) × (Nat → Int64))) (nx168 : Int64 → Int32 → Int32 → Int32 → Int32 → Int32 → (Nat → Int32) → (Nat → Int64) → Option (Int64 × Int32 × (Nat → Int32) × (Nat → Int64))) (x1 : Int64) (x3 : Int32) (x4 : Int32) (x5 : Int32) (x6 : Int32) (i8' : Int32) (a34' : Nat → Int32) (b56' : Nat → Int64) : Option (Int64 × Int32 × (Nat → Int32) × (Nat → Int64)) :=
(if i6 ≤ x6 then
nx133 x1 x3 (x4 + (1 : Int32)) i8' a34' b56'
else
(if (x4 &&& (x3 ^^^ (-1 : Int32))) = (0 : Int32) then
(if ((x4 >>> (x6 &&& 31)) &&& (1 : Int32)) = (1 : Int32) then
ck ((x4 ^^^ ((1 : Int32) <<< (x5 &&& 31))) ^^^ ((1 : Int32) <<< (x6 &&& 31))) 4096 (
ck (((12 : Int32) * x5) + x6) 144 (
ck x4 4096 (
(if (b56' x4.toNatClampNeg) ≤ ((b56' ((x4 ^^^ ((1 : Int32) <<< (x5 &&& 31))) ^^^ ((1 : Int32) <<< (x6 &&& 31))).toNatClampNeg) + (b57 (((12 : Int32) * x5) + x6).toNatClampNeg)) then
nx168 x1 x3 x4 x5 (x6 + (1 : Int32)) i8' a34' b56'
else
ck ((x4 ^^^ ((1 : Int32) <<< (x5 &&& 31))) ^^^ ((1 : Int32) <<< (x6 &&& 31))) 4096 (
ck (((12 : Int32) * x5) + x6) 144 (
ck x4 4096 (
nmd (vp_updL b56' x4.toNatClampNeg ((b56' ((x4 ^^^ ((1 : Int32) <<< (x5 &&& 31))) ^^^ ((1 : Int32) <<< (x6 &&& 31))).toNatClampNeg) + (b57 (((12 : Int32) * x5) + x6).toNatClampNeg))) fun w276_21 =>
nx168 x1 x3 x4 x5 (x6 + (1 : Int32)) i8' a34' w276_21)))))))
else
nx168 x1 x3 x4 x5 (x6 + (1 : Int32)) i8' a34' b56')
else
nx133 x1 x3 (x4 + (1 : Int32)) i8' a34' b56'))
def f_X7_both_133 (N : Nat) (i6 : Int32) (b54 : Nat → Int64) (b57 : Nat → Int64)  (nx133 : Int64 → Int32 → Int32 → Int32 → (Nat → Int32) → (Nat → Int64) → Option (Int64 × Int32 × (Nat → Int32) × (Nat → Int64))) (x1 : Int64) (x3 : Int32) (x4 : Int32) (i8' : Int32) (a34' : Nat → Int32) (b56' : Nat → Int64) : Option (Int64 × Int32 × (Nat → Int32) × (Nat → Int64)) :=
(if ((1 : Int32) <<< (i6 &&& 31)) ≤ x4 then
lq6 (f_X7_both_297 N i6 b54 b57 ) N x1 x3 x3 (0 : Int32) a34' b56'
else
ck x4 4096 (
nmd (vp_updL b56' x4.toNatClampNeg (1000000000000 : Int64)) fun w153_13 =>
bd (f_X7_least N x4) fun o157_14 =>
lq8 (f_X7_both_168 N i6 b54 b57 nx133) N x1 x3 x4 o157_14 (o157_14 + (1 : Int32)) i8' a34' w153_13))
def f_X7_both_60 (N : Nat) (i6 : Int32) (b54 : Nat → Int64) (b57 : Nat → Int64) (nx7 : Int64 → Int32 → Int32 → Int32 → (Nat → Int32) → (Nat → Int64) → Option (Int64 × Int32 × (Nat → Int32) × (Nat → Int64))) (nx22 : Int64 → Int32 → Int32 → Int32 → Int32 → Int32 → (Nat → Int32) → (Nat → Int64) → Option (Int64 × Int32 × (Nat → Int32) × (Nat → Int64))) (x1 : Int64) (x3 : Int32) (x4 : Int32) (x5 : Int32) (x6 : Int32) (i8' : Int32) (a34' : Nat → Int32) (b56' : Nat → Int64) : Option (Int64 × Int32 × (Nat → Int32) × (Nat → Int64)) :=
(if x6 ≤ x4 then
nx22 x1 x3 x4 x5 (x6 + (1 : Int32)) i8' a34' b56'
else
bd (f_X7_length b54 x4 x6) fun o76_23 =>
(if (1000000000000 : Int64) ≤ o76_23 then
nx22 x1 x3 x4 x5 (x6 + (1 : Int32)) i8' a34' b56'
else
bd (f_X7_length b54 x4 x6) fun o92_24 =>
nx22 (x1 + o92_24) x3 x4 x5 (x6 + (1 : Int32)) i8' a34' b56'))
def f_X7_both_22 (N : Nat) (i6 : Int32) (b54 : Nat → Int64) (b57 : Nat → Int64) (nx7 : Int64 → Int32 → Int32 → Int32 → (Nat → Int32) → (Nat → Int64) → Option (Int64 × Int32 × (Nat → Int32) × (Nat → Int64))) (nx22 : Int64 → Int32 → Int32 → Int32 → Int32 → Int32 → (Nat → Int32) → (Nat → Int64) → Option (Int64 × Int32 × (Nat → Int32) × (Nat → Int64))) (x1 : Int64) (x3 : Int32) (x4 : Int32) (x5 : Int32) (x6 : Int32) (i8' : Int32) (a34' : Nat → Int32) (b56' : Nat → Int64) : Option (Int64 × Int32 × (Nat → Int32) × (Nat → Int64)) :=
(if i6 ≤ x6 then
nmd ((x3 ||| ((x5 &&& (1 : Int32)) <<< (x4 &&& 31)))) fun v116_22 =>
nx7 x1 v116_22 (x4 + (1 : Int32)) i8' a34' b56'
else
(if x4 = x6 then
f_X7_both_60 N i6 b54 b57 nx7 nx22 x1 x3 x4 x5 x6 i8' a34' b56'
else
bd (f_X7_length b54 x4 x6) fun o43_25 =>
(if (1000000000000 : Int64) ≤ o43_25 then
f_X7_both_60 N i6 b54 b57 nx7 nx22 x1 x3 x4 x5 x6 i8' a34' b56'
else
(if x6 ≤ x4 then
nx22 x1 x3 x4 (x5 + (1 : Int32)) (x6 + (1 : Int32)) i8' a34' b56'
else
bd (f_X7_length b54 x4 x6) fun o76_26 =>
(if (1000000000000 : Int64) ≤ o76_26 then
nx22 x1 x3 x4 (x5 + (1 : Int32)) (x6 + (1 : Int32)) i8' a34' b56'
else
bd (f_X7_length b54 x4 x6) fun o92_27 =>
nx22 (x1 + o92_27) x3 x4 (x5 + (1 : Int32)) (x6 + (1 : Int32)) i8' a34' b56')))))
def f_X7_both_7 (N : Nat) (i6 : Int32) (b54 : Nat → Int64) (b57 : Nat → Int64)  (nx7 : Int64 → Int32 → Int32 → Int32 → (Nat → Int32) → (Nat → Int64) → Option (Int64 × Int32 × (Nat → Int32) × (Nat → Int64))) (x1 : Int64) (x3 : Int32) (x4 : Int32) (i8' : Int32) (a34' : Nat → Int32) (b56' : Nat → Int64) : Option (Int64 × Int32 × (Nat → Int32) × (Nat → Int64)) :=
(if i6 ≤ x4 then
ck (0 : Int32) 4096 (
nmd (vp_updL b56' (0 : Int32).toNatClampNeg (0 : Int64)) fun w129_1 =>
lq6 (f_X7_both_133 N i6 b54 b57 ) N x1 x3 (1 : Int32) i8' a34' w129_1)
else
lq8 (f_X7_both_22 N i6 b54 b57 nx7) N x1 x3 x4 (0 : Int32) (0 : Int32) i8' a34' b56')
def f_X7_both (N : Nat) (i6 : Int32) (b54 : Nat → Int64) (b57 : Nat → Int64) (i8 : Int32) (a34 : Nat → Int32) (b56 : Nat → Int64)  : Option (Int64 × Int32 × (Nat → Int32) × (Nat → Int64)) :=
lq6 (f_X7_both_7 N i6 b54 b57 ) N (0 : Int64) (0 : Int32) (0 : Int32) i8 a34 b56
set_option maxHeartbeats 4000000 in
set_option maxRecDepth 100000 in
theorem s_X7_both_316 {p : Program} {l : Launch} {e : Env} {s : State} {m : MethodId} {args : Array Value} {below : List Frame} {meth : Method} {c : Code} {D : va_G} {y : Nat → ClassId} {nn : Nat} {ad : Nat → Nat} {A0 : Nat → Prop} {I : Nat → Int32} {J : Nat → Int64} {A : Nat → Nat → Int32} {B : Nat → Nat → Int64} {G : Nat → Nat → Nat → Int32} (F : Fx p s m args meth c cX7_both 7 wsX7_both RX7 D y A0) (hr : meth.sig.returnType = (some .long)) {out : Int64 × Int32 × (Nat → Int32) × (Nat → Int64)} {N : Nat} (nx297 : Int64 → Int32 → Int32 → Int32 → (Nat → Int32) → (Nat → Int64) → Option (Int64 × Int32 × (Nat → Int32) × (Nat → Int64))) (hn297 : ∀ (x1 : Int64) (x3 : Int32) (x4 : Int32) (i8' : Int32) (a34' : Nat → Int32) (b56' : Nat → Int64) (ls : Array Slot) (H : Heap) (locs : List Loc), nx297 x1 x3 x4 i8' a34' b56' = some out → MM D y nn ad A0 s.heap (va_up I 8 i8') J (va_up A 34 a34') (va_up B 56 b56') G H locs → lv_has ls 7 [(0, .ref (ad 7)), (1, .long x1), (3, .int x3), (4, .int x4)] → W p l e ({ frames := 2, cells := 0, slots := 0, locals := 44 } : Room) s m args below meth c H locs 0 0 (MQ below (mQl D y nn ad A0 out.1 ((va_up I 8 out.2.1), J, (va_up A 34 out.2.2.1), (va_up B 56 out.2.2.2), G)) args s 0 0 A0) (F0 m 297 ls [])) (nx316 : Int64 → Int32 → Int32 → Int32 → Int32 → Int32 → (Nat → Int32) → (Nat → Int64) → Option (Int64 × Int32 × (Nat → Int32) × (Nat → Int64))) (hn316 : ∀ (x1 : Int64) (x3 : Int32) (x4 : Int32) (x5 : Int32) (x6 : Int32) (i8' : Int32) (a34' : Nat → Int32) (b56' : Nat → Int64) (ls : Array Slot) (H : Heap) (locs : List Loc), nx316 x1 x3 x4 x5 x6 i8' a34' b56' = some out → MM D y nn ad A0 s.heap (va_up I 8 i8') J (va_up A 34 a34') (va_up B 56 b56') G H locs → lv_has ls 7 [(0, .ref (ad 7)), (1, .long x1), (3, .int x3), (4, .int x4), (5, .int x5), (6, .int x6)] → W p l e ({ frames := 2, cells := 0, slots := 0, locals := 44 } : Room) s m args below meth c H locs 0 0 (MQ below (mQl D y nn ad A0 out.1 ((va_up I 8 out.2.1), J, (va_up A 34 out.2.2.1), (va_up B 56 out.2.2.2), G)) args s 0 0 A0) (F0 m 316 ls [])) : ∀ (x1 : Int64) (x3 : Int32) (x4 : Int32) (x5 : Int32) (x6 : Int32) (i8' : Int32) (a34' : Nat → Int32) (b56' : Nat → Int64) (ls : Array Slot) (H : Heap) (locs : List Loc), f_X7_both_316 N (I 6) (B 54) (B 57) nx297 nx316 x1 x3 x4 x5 x6 i8' a34' b56' = some out → MM D y nn ad A0 s.heap (va_up I 8 i8') J (va_up A 34 a34') (va_up B 56 b56') G H locs → lv_has ls 7 [(0, .ref (ad 7)), (1, .long x1), (3, .int x3), (4, .int x4), (5, .int x5), (6, .int x6)] → W p l e ({ frames := 2, cells := 0, slots := 0, locals := 44 } : Room) s m args below meth c H locs 0 0 (MQ below (mQl D y nn ad A0 out.1 ((va_up I 8 out.2.1), J, (va_up A 34 out.2.2.1), (va_up B 56 out.2.2.2), G)) args s 0 0 A0) (F0 m 316 ls []) := by
  intro x1 x3 x4 x5 x6 i8' a34' b56' ls H locs hE hM hl
  have hx := F.1.1
  have hb := F.1.2.1
  unfold f_X7_both_316 at hE
  refine lv_iload hx hb dX7_both_316 (lv_at hl 3 rfl) ?_
  refine lv_iload hx hb dX7_both_318 (lv_at hl 5 rfl) ?_
  refine lv_ishr hx hb dX7_both_320 ?_
  refine lv_iconst (v := 1) hx hb dX7_both_321 (by decide) ?_
  refine lv_iand hx hb dX7_both_322 ?_
  refine lv_if_eq (tgt := 368) hx hb dX7_both_323 (by decide) (fun c323 => ?_) (fun c323 => ?_)
  · replace hE := (if_pos c323).symm.trans hE
    refine lv_iinc (v := x6 + (1 : Int32)) (lv' := [(6, .int (x6 + (1 : Int32))), (0, .ref (ad 7)), (1, .long x1), (3, .int x3), (4, .int x4), (5, .int x5)]) hx hb dX7_both_368 hl (k := 5) rfl rfl (by decide) rfl (fun ls hl => ?_)
    refine lv_goto (tgt := 316) hx hb dX7_both_371 (by decide) ?_
    exact hn316 x1 x3 x4 x5 (x6 + (1 : Int32)) i8' a34' b56' ls H locs hE hM (lv_sub hl [1, 2, 3, 4, 5, 0] rfl)
  · replace hE := (if_neg c323).symm.trans hE
    refine lv_aload_n hx hb dX7_both_326 rfl (lv_at hl 0 rfl) ?_
    refine m_get F hM 7 mg_7 rfl 10 (by decide) (by decide +kernel) (by decide +kernel) (v := .ref (ad 56)) rfl dX7_both_327 ?_
    refine lv_iload hx hb dX7_both_330 (lv_at hl 3 rfl) ?_
    refine lv_iconst (v := 1) hx hb dX7_both_332 (by decide) ?_
    refine lv_iload hx hb dX7_both_333 (lv_at hl 4 rfl) ?_
    refine lv_ishl hx hb dX7_both_335 ?_
    refine lv_ixor hx hb dX7_both_336 ?_
    refine lv_iconst (v := 1) hx hb dX7_both_337 (by decide) ?_
    refine lv_iload hx hb dX7_both_338 (lv_at hl 5 rfl) ?_
    refine lv_ishl hx hb dX7_both_340 ?_
    refine lv_ixor hx hb dX7_both_341 ?_
    obtain ⟨hi342_4, hE⟩ := ck_some hE
    refine m_lald (g := b56') F hM mg_56 rfl hi342_4 dX7_both_342 ?_
    refine lv_aload_n hx hb dX7_both_343 rfl (lv_at hl 0 rfl) ?_
    refine m_get F hM 7 mg_7 rfl 11 (by decide) (by decide +kernel) (by decide +kernel) (v := .ref (ad 57)) rfl dX7_both_344 ?_
    refine lv_bipush (v := 12) hx hb dX7_both_347 (by decide) ?_
    refine lv_iload hx hb dX7_both_349 (lv_at hl 4 rfl) ?_
    refine lv_imul hx hb dX7_both_351 ?_
    refine lv_iload hx hb dX7_both_352 (lv_at hl 5 rfl) ?_
    refine lv_iadd hx hb dX7_both_354 ?_
    obtain ⟨hi355_5, hE⟩ := ck_some hE
    refine m_lald (g := (B 57)) F hM mg_57 rfl hi355_5 dX7_both_355 ?_
    refine lv_ladd hx hb dX7_both_356 ?_
    refine lv_aload_n hx hb dX7_both_357 rfl (lv_at hl 0 rfl) ?_
    refine m_get F hM 7 mg_7 rfl 10 (by decide) (by decide +kernel) (by decide +kernel) (v := .ref (ad 56)) rfl dX7_both_358 ?_
    refine lv_iload hx hb dX7_both_361 (lv_at hl 3 rfl) ?_
    obtain ⟨hi363_6, hE⟩ := ck_some hE
    refine m_lald (g := b56') F hM mg_56 rfl hi363_6 dX7_both_363 ?_
    refine m_leq (tgt := 374) F dX7_both_364 dX7_both_365 (by decide) (fun c365 => ?_) (fun c365 => ?_)
    · replace hE := (if_pos c365).symm.trans hE
      refine lv_aload_n hx hb dX7_both_374 rfl (lv_at hl 0 rfl) ?_
      refine m_get F hM 7 mg_7 rfl 5 (by decide) (by decide +kernel) (by decide +kernel) (v := .ref (ad 34)) rfl dX7_both_375 ?_
      refine lv_iconst (v := 2) hx hb dX7_both_378 (by decide) ?_
      refine lv_aload_n hx hb dX7_both_379 rfl (lv_at hl 0 rfl) ?_
      refine m_get F hM 7 mg_7 rfl 4 (by decide) (by decide +kernel) (by decide +kernel) (v := .int i8') rfl dX7_both_380 ?_
      refine lv_imul hx hb dX7_both_383 ?_
      refine lv_iload hx hb dX7_both_384 (lv_at hl 4 rfl) ?_
      obtain ⟨hi386_7, hE⟩ := ck_some hE
      obtain ⟨w386_8, ew386_8, hE⟩ := nmd_some hE
      refine m_iast (f := a34') (A' := (va_up A 34 w386_8)) F hM mg_34 ms_34 (by rw [ew386_8]; exact (bx_uu _ _ _ _)) hi386_7 dX7_both_386 (fun H locs hM => ?_)
      refine lv_aload_n hx hb dX7_both_387 rfl (lv_at hl 0 rfl) ?_
      refine m_get F hM 7 mg_7 rfl 5 (by decide) (by decide +kernel) (by decide +kernel) (v := .ref (ad 34)) rfl dX7_both_388 ?_
      refine lv_iconst (v := 2) hx hb dX7_both_391 (by decide) ?_
      refine lv_aload_n hx hb dX7_both_392 rfl (lv_at hl 0 rfl) ?_
      refine m_get F hM 7 mg_7 rfl 4 (by decide) (by decide +kernel) (by decide +kernel) (v := .int i8') rfl dX7_both_393 ?_
      refine lv_imul hx hb dX7_both_396 ?_
      refine lv_iconst (v := 1) hx hb dX7_both_397 (by decide) ?_
      refine lv_iadd hx hb dX7_both_398 ?_
      refine lv_iload hx hb dX7_both_399 (lv_at hl 5 rfl) ?_
      obtain ⟨hi401_9, hE⟩ := ck_some hE
      obtain ⟨w401_10, ew401_10, hE⟩ := nmd_some hE
      refine m_iast (f := w386_8) (A' := (va_up A 34 w401_10)) F hM mg_34 ms_34 (by rw [ew401_10]; exact (bx_uu _ _ _ _)) hi401_9 dX7_both_401 (fun H locs hM => ?_)
      refine lv_aload_n hx hb dX7_both_402 rfl (lv_at hl 0 rfl) ?_
      refine lv_dup hx hb dX7_both_403 rfl ?_
      refine m_get F hM 7 mg_7 rfl 4 (by decide) (by decide +kernel) (by decide +kernel) (v := .int i8') rfl dX7_both_404 ?_
      refine lv_iconst (v := 1) hx hb dX7_both_407 (by decide) ?_
      refine lv_iadd hx hb dX7_both_408 ?_
      refine m_put F hM 7 mg_7 rfl tyX7 tyX7_ok nmX7 4 (by decide) (by decide +kernel) (by decide +kernel) rfl (ty := .int) (v := .int (i8' + (1 : Int32))) (by decide +kernel) rfl rfl (Nat.le_of_ble_eq_true rfl) (ms_7_4 _) (bx_uu _ _ _ _)  rfl dX7_both_409 (fun H locs hM => ?_)
      refine lv_iload hx hb dX7_both_412 (lv_at hl 3 rfl) ?_
      refine lv_iconst (v := 1) hx hb dX7_both_414 (by decide) ?_
      refine lv_iload hx hb dX7_both_415 (lv_at hl 4 rfl) ?_
      refine lv_ishl hx hb dX7_both_417 ?_
      refine lv_ixor hx hb dX7_both_418 ?_
      refine lv_iconst (v := 1) hx hb dX7_both_419 (by decide) ?_
      refine lv_iload hx hb dX7_both_420 (lv_at hl 5 rfl) ?_
      refine lv_ishl hx hb dX7_both_422 ?_
      refine lv_ixor hx hb dX7_both_423 ?_
      obtain ⟨v424_11, ev424_11, hE⟩ := nmd_some hE
      refine m_topi ev424_11 ?_
      refine lv_istore (lv' := [(4, .int v424_11), (0, .ref (ad 7)), (1, .long x1), (3, .int x3), (5, .int x5), (6, .int x6)]) hx hb dX7_both_424 hl (by decide) rfl (fun ls hl => ?_)
      refine lv_goto (tgt := 297) hx hb dX7_both_426 (by decide) ?_
      exact hn297 x1 x3 v424_11 (i8' + (1 : Int32)) w401_10 b56' ls H locs hE hM (lv_sub hl [1, 2, 3, 0] rfl)
    · replace hE := (if_neg c365).symm.trans hE
      refine lv_iinc (v := x6 + (1 : Int32)) (lv' := [(6, .int (x6 + (1 : Int32))), (0, .ref (ad 7)), (1, .long x1), (3, .int x3), (4, .int x4), (5, .int x5)]) hx hb dX7_both_368 hl (k := 5) rfl rfl (by decide) rfl (fun ls hl => ?_)
      refine lv_goto (tgt := 316) hx hb dX7_both_371 (by decide) ?_
      exact hn316 x1 x3 x4 x5 (x6 + (1 : Int32)) i8' a34' b56' ls H locs hE hM (lv_sub hl [1, 2, 3, 4, 5, 0] rfl)
theorem k_X7_both_316 {p : Program} {l : Launch} {e : Env} {s : State} {m : MethodId} {args : Array Value} {below : List Frame} {meth : Method} {c : Code} {D : va_G} {y : Nat → ClassId} {nn : Nat} {ad : Nat → Nat} {A0 : Nat → Prop} {I : Nat → Int32} {J : Nat → Int64} {A : Nat → Nat → Int32} {B : Nat → Nat → Int64} {G : Nat → Nat → Nat → Int32} (F : Fx p s m args meth c cX7_both 7 wsX7_both RX7 D y A0) (hr : meth.sig.returnType = (some .long)) {out : Int64 × Int32 × (Nat → Int32) × (Nat → Int64)} {N : Nat} (nx297 : Int64 → Int32 → Int32 → Int32 → (Nat → Int32) → (Nat → Int64) → Option (Int64 × Int32 × (Nat → Int32) × (Nat → Int64))) (hn297 : ∀ (x1 : Int64) (x3 : Int32) (x4 : Int32) (i8' : Int32) (a34' : Nat → Int32) (b56' : Nat → Int64) (ls : Array Slot) (H : Heap) (locs : List Loc), nx297 x1 x3 x4 i8' a34' b56' = some out → MM D y nn ad A0 s.heap (va_up I 8 i8') J (va_up A 34 a34') (va_up B 56 b56') G H locs → lv_has ls 7 [(0, .ref (ad 7)), (1, .long x1), (3, .int x3), (4, .int x4)] → W p l e ({ frames := 2, cells := 0, slots := 0, locals := 44 } : Room) s m args below meth c H locs 0 0 (MQ below (mQl D y nn ad A0 out.1 ((va_up I 8 out.2.1), J, (va_up A 34 out.2.2.1), (va_up B 56 out.2.2.2), G)) args s 0 0 A0) (F0 m 297 ls [])) : ∀ (n : Nat), ∀ (x1 : Int64) (x3 : Int32) (x4 : Int32) (x5 : Int32) (x6 : Int32) (i8' : Int32) (a34' : Nat → Int32) (b56' : Nat → Int64) (ls : Array Slot) (H : Heap) (locs : List Loc), lq8 (f_X7_both_316 N (I 6) (B 54) (B 57) nx297) n x1 x3 x4 x5 x6 i8' a34' b56' = some out → MM D y nn ad A0 s.heap (va_up I 8 i8') J (va_up A 34 a34') (va_up B 56 b56') G H locs → lv_has ls 7 [(0, .ref (ad 7)), (1, .long x1), (3, .int x3), (4, .int x4), (5, .int x5), (6, .int x6)] → W p l e ({ frames := 2, cells := 0, slots := 0, locals := 44 } : Room) s m args below meth c H locs 0 0 (MQ below (mQl D y nn ad A0 out.1 ((va_up I 8 out.2.1), J, (va_up A 34 out.2.2.1), (va_up B 56 out.2.2.2), G)) args s 0 0 A0) (F0 m 316 ls []) := by
  intro n
  induction n with
  | zero =>
    intro x1 x3 x4 x5 x6 i8' a34' b56' ls H locs hE
    cases (show (none : Option _) = some out from hE)
  | succ n ih =>
    intro x1 x3 x4 x5 x6 i8' a34' b56' ls H locs hE hM hl
    exact s_X7_both_316 F hr (N := N) nx297 hn297 (lq8 (f_X7_both_316 N (I 6) (B 54) (B 57) nx297) n) ih x1 x3 x4 x5 x6 i8' a34' b56' ls H locs hE hM hl
set_option maxHeartbeats 4000000 in
set_option maxRecDepth 100000 in
theorem s_X7_both_297 {p : Program} {l : Launch} {e : Env} {s : State} {m : MethodId} {args : Array Value} {below : List Frame} {meth : Method} {c : Code} {D : va_G} {y : Nat → ClassId} {nn : Nat} {ad : Nat → Nat} {A0 : Nat → Prop} {I : Nat → Int32} {J : Nat → Int64} {A : Nat → Nat → Int32} {B : Nat → Nat → Int64} {G : Nat → Nat → Nat → Int32} (F : Fx p s m args meth c cX7_both 7 wsX7_both RX7 D y A0) (hr : meth.sig.returnType = (some .long)) {out : Int64 × Int32 × (Nat → Int32) × (Nat → Int64)} {N : Nat}  (nx297 : Int64 → Int32 → Int32 → Int32 → (Nat → Int32) → (Nat → Int64) → Option (Int64 × Int32 × (Nat → Int32) × (Nat → Int64))) (hn297 : ∀ (x1 : Int64) (x3 : Int32) (x4 : Int32) (i8' : Int32) (a34' : Nat → Int32) (b56' : Nat → Int64) (ls : Array Slot) (H : Heap) (locs : List Loc), nx297 x1 x3 x4 i8' a34' b56' = some out → MM D y nn ad A0 s.heap (va_up I 8 i8') J (va_up A 34 a34') (va_up B 56 b56') G H locs → lv_has ls 7 [(0, .ref (ad 7)), (1, .long x1), (3, .int x3), (4, .int x4)] → W p l e ({ frames := 2, cells := 0, slots := 0, locals := 44 } : Room) s m args below meth c H locs 0 0 (MQ below (mQl D y nn ad A0 out.1 ((va_up I 8 out.2.1), J, (va_up A 34 out.2.2.1), (va_up B 56 out.2.2.2), G)) args s 0 0 A0) (F0 m 297 ls [])) : ∀ (x1 : Int64) (x3 : Int32) (x4 : Int32) (i8' : Int32) (a34' : Nat → Int32) (b56' : Nat → Int64) (ls : Array Slot) (H : Heap) (locs : List Loc), f_X7_both_297 N (I 6) (B 54) (B 57)  nx297 x1 x3 x4 i8' a34' b56' = some out → MM D y nn ad A0 s.heap (va_up I 8 i8') J (va_up A 34 a34') (va_up B 56 b56') G H locs → lv_has ls 7 [(0, .ref (ad 7)), (1, .long x1), (3, .int x3), (4, .int x4)] → W p l e ({ frames := 2, cells := 0, slots := 0, locals := 44 } : Room) s m args below meth c H locs 0 0 (MQ below (mQl D y nn ad A0 out.1 ((va_up I 8 out.2.1), J, (va_up A 34 out.2.2.1), (va_up B 56 out.2.2.2), G)) args s 0 0 A0) (F0 m 297 ls []) := by
  intro x1 x3 x4 i8' a34' b56' ls H locs hE hM hl
  have hx := F.1.1
  have hb := F.1.2.1
  unfold f_X7_both_297 at hE
  refine lv_iload hx hb dX7_both_297 (lv_at hl 3 rfl) ?_
  refine lv_if_eq (tgt := 429) hx hb dX7_both_299 (by decide) (fun c299 => ?_) (fun c299 => ?_)
  · replace hE := (if_pos c299).symm.trans hE
    refine lv_lload_n hx hb dX7_both_429 rfl (lv_at hl 1 rfl) ?_
    refine lv_aload_n hx hb dX7_both_430 rfl (lv_at hl 0 rfl) ?_
    refine m_get F hM 7 mg_7 rfl 10 (by decide) (by decide +kernel) (by decide +kernel) (v := .ref (ad 56)) rfl dX7_both_431 ?_
    refine lv_iload_n hx hb dX7_both_434 rfl (lv_at hl 2 rfl) ?_
    obtain ⟨hi435_2, hE⟩ := ck_some hE
    refine m_lald (g := b56') F hM mg_56 rfl hi435_2 dX7_both_435 ?_
    refine lv_ladd hx hb dX7_both_436 ?_
    obtain rfl := Option.some.inj hE
    exact m_lret F hM hr rfl rfl dX7_both_437
  · replace hE := (if_neg c299).symm.trans hE
    refine lv_aload_n hx hb dX7_both_302 rfl (lv_at hl 0 rfl) ?_
    refine lv_iload hx hb dX7_both_303 (lv_at hl 3 rfl) ?_
    obtain ⟨o305_3, ho305_3, hE⟩ := bd_some hE
    refine m_callVi (As := [.int x4]) (I2 := (va_up I 8 i8')) (J2 := J) (A2 := (va_up A 34 a34')) (B2 := (va_up B 56 b56')) (G2 := G) F hM (c_X7_least l D y nn ad H.size (va_up I 8 i8') J (va_up A 34 a34') (va_up B 56 b56') G x4 N o305_3 ho305_3) (cwV 1 F.1.2.2.2.2 gX7_both_X7_least rfl rfl rfl (by decide +kernel) ⟨Nat.le_of_ble_eq_true rfl, Nat.le_of_ble_eq_true rfl⟩) (m_recv F hM mg_7 rfl) rfl hl.1 (Nat.le_of_ble_eq_true rfl) dX7_both_305 ⟨Nat.le_refl 0, Nat.le_refl 0⟩ rfl rfl rfl rfl rfl (fun H locs hM => ?_)
    refine lv_istore (lv' := [(5, .int o305_3), (0, .ref (ad 7)), (1, .long x1), (3, .int x3), (4, .int x4)]) hx hb dX7_both_308 hl (by decide) rfl (fun ls hl => ?_)
    refine lv_iload hx hb dX7_both_310 (lv_at hl 0 rfl) ?_
    refine lv_iconst (v := 1) hx hb dX7_both_312 (by decide) ?_
    refine lv_iadd hx hb dX7_both_313 ?_
    refine lv_istore (lv' := [(6, .int (o305_3 + (1 : Int32))), (5, .int o305_3), (0, .ref (ad 7)), (1, .long x1), (3, .int x3), (4, .int x4)]) hx hb dX7_both_314 hl (by decide) rfl (fun ls hl => ?_)
    exact k_X7_both_316 F hr (N := N) nx297 hn297 N x1 x3 x4 o305_3 (o305_3 + (1 : Int32)) i8' a34' b56' ls H locs hE hM (lv_sub hl [2, 3, 4, 5, 1, 0] rfl)
theorem k_X7_both_297 {p : Program} {l : Launch} {e : Env} {s : State} {m : MethodId} {args : Array Value} {below : List Frame} {meth : Method} {c : Code} {D : va_G} {y : Nat → ClassId} {nn : Nat} {ad : Nat → Nat} {A0 : Nat → Prop} {I : Nat → Int32} {J : Nat → Int64} {A : Nat → Nat → Int32} {B : Nat → Nat → Int64} {G : Nat → Nat → Nat → Int32} (F : Fx p s m args meth c cX7_both 7 wsX7_both RX7 D y A0) (hr : meth.sig.returnType = (some .long)) {out : Int64 × Int32 × (Nat → Int32) × (Nat → Int64)} {N : Nat}  : ∀ (n : Nat), ∀ (x1 : Int64) (x3 : Int32) (x4 : Int32) (i8' : Int32) (a34' : Nat → Int32) (b56' : Nat → Int64) (ls : Array Slot) (H : Heap) (locs : List Loc), lq6 (f_X7_both_297 N (I 6) (B 54) (B 57) ) n x1 x3 x4 i8' a34' b56' = some out → MM D y nn ad A0 s.heap (va_up I 8 i8') J (va_up A 34 a34') (va_up B 56 b56') G H locs → lv_has ls 7 [(0, .ref (ad 7)), (1, .long x1), (3, .int x3), (4, .int x4)] → W p l e ({ frames := 2, cells := 0, slots := 0, locals := 44 } : Room) s m args below meth c H locs 0 0 (MQ below (mQl D y nn ad A0 out.1 ((va_up I 8 out.2.1), J, (va_up A 34 out.2.2.1), (va_up B 56 out.2.2.2), G)) args s 0 0 A0) (F0 m 297 ls []) := by
  intro n
  induction n with
  | zero =>
    intro x1 x3 x4 i8' a34' b56' ls H locs hE
    cases (show (none : Option _) = some out from hE)
  | succ n ih =>
    intro x1 x3 x4 i8' a34' b56' ls H locs hE hM hl
    exact s_X7_both_297 F hr (N := N)  (lq6 (f_X7_both_297 N (I 6) (B 54) (B 57) ) n) ih x1 x3 x4 i8' a34' b56' ls H locs hE hM hl
set_option maxHeartbeats 4000000 in
set_option maxRecDepth 100000 in
theorem s_X7_both_168 {p : Program} {l : Launch} {e : Env} {s : State} {m : MethodId} {args : Array Value} {below : List Frame} {meth : Method} {c : Code} {D : va_G} {y : Nat → ClassId} {nn : Nat} {ad : Nat → Nat} {A0 : Nat → Prop} {I : Nat → Int32} {J : Nat → Int64} {A : Nat → Nat → Int32} {B : Nat → Nat → Int64} {G : Nat → Nat → Nat → Int32} (F : Fx p s m args meth c cX7_both 7 wsX7_both RX7 D y A0) (hr : meth.sig.returnType = (some .long)) {out : Int64 × Int32 × (Nat → Int32) × (Nat → Int64)} {N : Nat} (nx133 : Int64 → Int32 → Int32 → Int32 → (Nat → Int32) → (Nat → Int64) → Option (Int64 × Int32 × (Nat → Int32) × (Nat → Int64))) (hn133 : ∀ (x1 : Int64) (x3 : Int32) (x4 : Int32) (i8' : Int32) (a34' : Nat → Int32) (b56' : Nat → Int64) (ls : Array Slot) (H : Heap) (locs : List Loc), nx133 x1 x3 x4 i8' a34' b56' = some out → MM D y nn ad A0 s.heap (va_up I 8 i8') J (va_up A 34 a34') (va_up B 56 b56') G H locs → lv_has ls 7 [(0, .ref (ad 7)), (1, .long x1), (3, .int x3), (4, .int x4)] → W p l e ({ frames := 2, cells := 0, slots := 0, locals := 44 } : Room) s m args below meth c H locs 0 0 (MQ below (mQl D y nn ad A0 out.1 ((va_up I 8 out.2.1), J, (va_up A 34 out.2.2.1), (va_up B 56 out.2.2.2), G)) args s 0 0 A0) (F0 m 133 ls [])) (nx168 : Int64 → Int32 → Int32 → Int32 → Int32 → Int32 → (Nat → Int32) → (Nat → Int64) → Option (Int64 × Int32 × (Nat → Int32) × (Nat → Int64))) (hn168 : ∀ (x1 : Int64) (x3 : Int32) (x4 : Int32) (x5 : Int32) (x6 : Int32) (i8' : Int32) (a34' : Nat → Int32) (b56' : Nat → Int64) (ls : Array Slot) (H : Heap) (locs : List Loc), nx168 x1 x3 x4 x5 x6 i8' a34' b56' = some out → MM D y nn ad A0 s.heap (va_up I 8 i8') J (va_up A 34 a34') (va_up B 56 b56') G H locs → lv_has ls 7 [(0, .ref (ad 7)), (1, .long x1), (3, .int x3), (4, .int x4), (5, .int x5), (6, .int x6)] → W p l e ({ frames := 2, cells := 0, slots := 0, locals := 44 } : Room) s m args below meth c H locs 0 0 (MQ below (mQl D y nn ad A0 out.1 ((va_up I 8 out.2.1), J, (va_up A 34 out.2.2.1), (va_up B 56 out.2.2.2), G)) args s 0 0 A0) (F0 m 168 ls [])) : ∀ (x1 : Int64) (x3 : Int32) (x4 : Int32) (x5 : Int32) (x6 : Int32) (i8' : Int32) (a34' : Nat → Int32) (b56' : Nat → Int64) (ls : Array Slot) (H : Heap) (locs : List Loc), f_X7_both_168 N (I 6) (B 54) (B 57) nx133 nx168 x1 x3 x4 x5 x6 i8' a34' b56' = some out → MM D y nn ad A0 s.heap (va_up I 8 i8') J (va_up A 34 a34') (va_up B 56 b56') G H locs → lv_has ls 7 [(0, .ref (ad 7)), (1, .long x1), (3, .int x3), (4, .int x4), (5, .int x5), (6, .int x6)] → W p l e ({ frames := 2, cells := 0, slots := 0, locals := 44 } : Room) s m args below meth c H locs 0 0 (MQ below (mQl D y nn ad A0 out.1 ((va_up I 8 out.2.1), J, (va_up A 34 out.2.2.1), (va_up B 56 out.2.2.2), G)) args s 0 0 A0) (F0 m 168 ls []) := by
  intro x1 x3 x4 x5 x6 i8' a34' b56' ls H locs hE hM hl
  have hx := F.1.1
  have hb := F.1.2.1
  unfold f_X7_both_168 at hE
  refine lv_iload hx hb dX7_both_168 (lv_at hl 5 rfl) ?_
  refine lv_aload_n hx hb dX7_both_170 rfl (lv_at hl 0 rfl) ?_
  refine m_get F hM 7 mg_7 rfl 1 (by decide) (by decide +kernel) (by decide +kernel) (v := .int (I 6)) rfl dX7_both_171 ?_
  refine lv_icmp_ge (tgt := 283) hx hb dX7_both_174 (by decide) (fun c174 => ?_) (fun c174 => ?_)
  · replace hE := (if_pos c174).symm.trans hE
    refine lv_iinc (v := x4 + (1 : Int32)) (lv' := [(4, .int (x4 + (1 : Int32))), (0, .ref (ad 7)), (1, .long x1), (3, .int x3), (5, .int x5), (6, .int x6)]) hx hb dX7_both_283 hl (k := 3) rfl rfl (by decide) rfl (fun ls hl => ?_)
    refine lv_goto (tgt := 133) hx hb dX7_both_286 (by decide) ?_
    exact hn133 x1 x3 (x4 + (1 : Int32)) i8' a34' b56' ls H locs hE hM (lv_sub hl [1, 2, 3, 0] rfl)
  · replace hE := (if_neg c174).symm.trans hE
    refine lv_iload hx hb dX7_both_177 (lv_at hl 3 rfl) ?_
    refine lv_iload_n hx hb dX7_both_179 rfl (lv_at hl 2 rfl) ?_
    refine lv_iconst (v := (-1)) hx hb dX7_both_180 (by decide) ?_
    refine lv_ixor hx hb dX7_both_181 ?_
    refine lv_iand hx hb dX7_both_182 ?_
    refine lv_if_ne (tgt := 283) hx hb dX7_both_183 (by decide) (fun c183 => ?_) (fun c183 => ?_)
    · replace hE := (if_neg c183).symm.trans hE
      refine lv_iinc (v := x4 + (1 : Int32)) (lv' := [(4, .int (x4 + (1 : Int32))), (0, .ref (ad 7)), (1, .long x1), (3, .int x3), (5, .int x5), (6, .int x6)]) hx hb dX7_both_283 hl (k := 3) rfl rfl (by decide) rfl (fun ls hl => ?_)
      refine lv_goto (tgt := 133) hx hb dX7_both_286 (by decide) ?_
      exact hn133 x1 x3 (x4 + (1 : Int32)) i8' a34' b56' ls H locs hE hM (lv_sub hl [1, 2, 3, 0] rfl)
    · replace hE := (if_pos c183).symm.trans hE
      refine lv_iload hx hb dX7_both_186 (lv_at hl 3 rfl) ?_
      refine lv_iload hx hb dX7_both_188 (lv_at hl 5 rfl) ?_
      refine lv_ishr hx hb dX7_both_190 ?_
      refine lv_iconst (v := 1) hx hb dX7_both_191 (by decide) ?_
      refine lv_iand hx hb dX7_both_192 ?_
      refine lv_iconst (v := 1) hx hb dX7_both_193 (by decide) ?_
      refine lv_icmp_ne (tgt := 277) hx hb dX7_both_194 (by decide) (fun c194 => ?_) (fun c194 => ?_)
      · replace hE := (if_neg c194).symm.trans hE
        refine lv_iinc (v := x6 + (1 : Int32)) (lv' := [(6, .int (x6 + (1 : Int32))), (0, .ref (ad 7)), (1, .long x1), (3, .int x3), (4, .int x4), (5, .int x5)]) hx hb dX7_both_277 hl (k := 5) rfl rfl (by decide) rfl (fun ls hl => ?_)
        refine lv_goto (tgt := 168) hx hb dX7_both_280 (by decide) ?_
        exact hn168 x1 x3 x4 x5 (x6 + (1 : Int32)) i8' a34' b56' ls H locs hE hM (lv_sub hl [1, 2, 3, 4, 5, 0] rfl)
      · replace hE := (if_pos c194).symm.trans hE
        refine lv_aload_n hx hb dX7_both_197 rfl (lv_at hl 0 rfl) ?_
        refine m_get F hM 7 mg_7 rfl 10 (by decide) (by decide +kernel) (by decide +kernel) (v := .ref (ad 56)) rfl dX7_both_198 ?_
        refine lv_iload hx hb dX7_both_201 (lv_at hl 3 rfl) ?_
        refine lv_iconst (v := 1) hx hb dX7_both_203 (by decide) ?_
        refine lv_iload hx hb dX7_both_204 (lv_at hl 4 rfl) ?_
        refine lv_ishl hx hb dX7_both_206 ?_
        refine lv_ixor hx hb dX7_both_207 ?_
        refine lv_iconst (v := 1) hx hb dX7_both_208 (by decide) ?_
        refine lv_iload hx hb dX7_both_209 (lv_at hl 5 rfl) ?_
        refine lv_ishl hx hb dX7_both_211 ?_
        refine lv_ixor hx hb dX7_both_212 ?_
        obtain ⟨hi213_15, hE⟩ := ck_some hE
        refine m_lald (g := b56') F hM mg_56 rfl hi213_15 dX7_both_213 ?_
        refine lv_aload_n hx hb dX7_both_214 rfl (lv_at hl 0 rfl) ?_
        refine m_get F hM 7 mg_7 rfl 11 (by decide) (by decide +kernel) (by decide +kernel) (v := .ref (ad 57)) rfl dX7_both_215 ?_
        refine lv_bipush (v := 12) hx hb dX7_both_218 (by decide) ?_
        refine lv_iload hx hb dX7_both_220 (lv_at hl 4 rfl) ?_
        refine lv_imul hx hb dX7_both_222 ?_
        refine lv_iload hx hb dX7_both_223 (lv_at hl 5 rfl) ?_
        refine lv_iadd hx hb dX7_both_225 ?_
        obtain ⟨hi226_16, hE⟩ := ck_some hE
        refine m_lald (g := (B 57)) F hM mg_57 rfl hi226_16 dX7_both_226 ?_
        refine lv_ladd hx hb dX7_both_227 ?_
        refine lv_aload_n hx hb dX7_both_228 rfl (lv_at hl 0 rfl) ?_
        refine m_get F hM 7 mg_7 rfl 10 (by decide) (by decide +kernel) (by decide +kernel) (v := .ref (ad 56)) rfl dX7_both_229 ?_
        refine lv_iload hx hb dX7_both_232 (lv_at hl 3 rfl) ?_
        obtain ⟨hi234_17, hE⟩ := ck_some hE
        refine m_lald (g := b56') F hM mg_56 rfl hi234_17 dX7_both_234 ?_
        refine m_lge (tgt := 277) F dX7_both_235 dX7_both_236 (by decide) (fun c236 => ?_) (fun c236 => ?_)
        · replace hE := (if_pos c236).symm.trans hE
          refine lv_iinc (v := x6 + (1 : Int32)) (lv' := [(6, .int (x6 + (1 : Int32))), (0, .ref (ad 7)), (1, .long x1), (3, .int x3), (4, .int x4), (5, .int x5)]) hx hb dX7_both_277 hl (k := 5) rfl rfl (by decide) rfl (fun ls hl => ?_)
          refine lv_goto (tgt := 168) hx hb dX7_both_280 (by decide) ?_
          exact hn168 x1 x3 x4 x5 (x6 + (1 : Int32)) i8' a34' b56' ls H locs hE hM (lv_sub hl [1, 2, 3, 4, 5, 0] rfl)
        · replace hE := (if_neg c236).symm.trans hE
          refine lv_aload_n hx hb dX7_both_239 rfl (lv_at hl 0 rfl) ?_
          refine m_get F hM 7 mg_7 rfl 10 (by decide) (by decide +kernel) (by decide +kernel) (v := .ref (ad 56)) rfl dX7_both_240 ?_
          refine lv_iload hx hb dX7_both_243 (lv_at hl 3 rfl) ?_
          refine lv_aload_n hx hb dX7_both_245 rfl (lv_at hl 0 rfl) ?_
          refine m_get F hM 7 mg_7 rfl 10 (by decide) (by decide +kernel) (by decide +kernel) (v := .ref (ad 56)) rfl dX7_both_246 ?_
          refine lv_iload hx hb dX7_both_249 (lv_at hl 3 rfl) ?_
          refine lv_iconst (v := 1) hx hb dX7_both_251 (by decide) ?_
          refine lv_iload hx hb dX7_both_252 (lv_at hl 4 rfl) ?_
          refine lv_ishl hx hb dX7_both_254 ?_
          refine lv_ixor hx hb dX7_both_255 ?_
          refine lv_iconst (v := 1) hx hb dX7_both_256 (by decide) ?_
          refine lv_iload hx hb dX7_both_257 (lv_at hl 5 rfl) ?_
          refine lv_ishl hx hb dX7_both_259 ?_
          refine lv_ixor hx hb dX7_both_260 ?_
          obtain ⟨hi261_18, hE⟩ := ck_some hE
          refine m_lald (g := b56') F hM mg_56 rfl hi261_18 dX7_both_261 ?_
          refine lv_aload_n hx hb dX7_both_262 rfl (lv_at hl 0 rfl) ?_
          refine m_get F hM 7 mg_7 rfl 11 (by decide) (by decide +kernel) (by decide +kernel) (v := .ref (ad 57)) rfl dX7_both_263 ?_
          refine lv_bipush (v := 12) hx hb dX7_both_266 (by decide) ?_
          refine lv_iload hx hb dX7_both_268 (lv_at hl 4 rfl) ?_
          refine lv_imul hx hb dX7_both_270 ?_
          refine lv_iload hx hb dX7_both_271 (lv_at hl 5 rfl) ?_
          refine lv_iadd hx hb dX7_both_273 ?_
          obtain ⟨hi274_19, hE⟩ := ck_some hE
          refine m_lald (g := (B 57)) F hM mg_57 rfl hi274_19 dX7_both_274 ?_
          refine lv_ladd hx hb dX7_both_275 ?_
          obtain ⟨hi276_20, hE⟩ := ck_some hE
          obtain ⟨w276_21, ew276_21, hE⟩ := nmd_some hE
          refine m_last (f := b56') (B' := (va_up B 56 w276_21)) F hM mg_56 ms_56 (by rw [ew276_21]; exact (bx_uu _ _ _ _)) hi276_20 dX7_both_276 (fun H locs hM => ?_)
          refine lv_iinc (v := x6 + (1 : Int32)) (lv' := [(6, .int (x6 + (1 : Int32))), (0, .ref (ad 7)), (1, .long x1), (3, .int x3), (4, .int x4), (5, .int x5)]) hx hb dX7_both_277 hl (k := 5) rfl rfl (by decide) rfl (fun ls hl => ?_)
          refine lv_goto (tgt := 168) hx hb dX7_both_280 (by decide) ?_
          exact hn168 x1 x3 x4 x5 (x6 + (1 : Int32)) i8' a34' w276_21 ls H locs hE hM (lv_sub hl [1, 2, 3, 4, 5, 0] rfl)
theorem k_X7_both_168 {p : Program} {l : Launch} {e : Env} {s : State} {m : MethodId} {args : Array Value} {below : List Frame} {meth : Method} {c : Code} {D : va_G} {y : Nat → ClassId} {nn : Nat} {ad : Nat → Nat} {A0 : Nat → Prop} {I : Nat → Int32} {J : Nat → Int64} {A : Nat → Nat → Int32} {B : Nat → Nat → Int64} {G : Nat → Nat → Nat → Int32} (F : Fx p s m args meth c cX7_both 7 wsX7_both RX7 D y A0) (hr : meth.sig.returnType = (some .long)) {out : Int64 × Int32 × (Nat → Int32) × (Nat → Int64)} {N : Nat} (nx133 : Int64 → Int32 → Int32 → Int32 → (Nat → Int32) → (Nat → Int64) → Option (Int64 × Int32 × (Nat → Int32) × (Nat → Int64))) (hn133 : ∀ (x1 : Int64) (x3 : Int32) (x4 : Int32) (i8' : Int32) (a34' : Nat → Int32) (b56' : Nat → Int64) (ls : Array Slot) (H : Heap) (locs : List Loc), nx133 x1 x3 x4 i8' a34' b56' = some out → MM D y nn ad A0 s.heap (va_up I 8 i8') J (va_up A 34 a34') (va_up B 56 b56') G H locs → lv_has ls 7 [(0, .ref (ad 7)), (1, .long x1), (3, .int x3), (4, .int x4)] → W p l e ({ frames := 2, cells := 0, slots := 0, locals := 44 } : Room) s m args below meth c H locs 0 0 (MQ below (mQl D y nn ad A0 out.1 ((va_up I 8 out.2.1), J, (va_up A 34 out.2.2.1), (va_up B 56 out.2.2.2), G)) args s 0 0 A0) (F0 m 133 ls [])) : ∀ (n : Nat), ∀ (x1 : Int64) (x3 : Int32) (x4 : Int32) (x5 : Int32) (x6 : Int32) (i8' : Int32) (a34' : Nat → Int32) (b56' : Nat → Int64) (ls : Array Slot) (H : Heap) (locs : List Loc), lq8 (f_X7_both_168 N (I 6) (B 54) (B 57) nx133) n x1 x3 x4 x5 x6 i8' a34' b56' = some out → MM D y nn ad A0 s.heap (va_up I 8 i8') J (va_up A 34 a34') (va_up B 56 b56') G H locs → lv_has ls 7 [(0, .ref (ad 7)), (1, .long x1), (3, .int x3), (4, .int x4), (5, .int x5), (6, .int x6)] → W p l e ({ frames := 2, cells := 0, slots := 0, locals := 44 } : Room) s m args below meth c H locs 0 0 (MQ below (mQl D y nn ad A0 out.1 ((va_up I 8 out.2.1), J, (va_up A 34 out.2.2.1), (va_up B 56 out.2.2.2), G)) args s 0 0 A0) (F0 m 168 ls []) := by
  intro n
  induction n with
  | zero =>
    intro x1 x3 x4 x5 x6 i8' a34' b56' ls H locs hE
    cases (show (none : Option _) = some out from hE)
  | succ n ih =>
    intro x1 x3 x4 x5 x6 i8' a34' b56' ls H locs hE hM hl
    exact s_X7_both_168 F hr (N := N) nx133 hn133 (lq8 (f_X7_both_168 N (I 6) (B 54) (B 57) nx133) n) ih x1 x3 x4 x5 x6 i8' a34' b56' ls H locs hE hM hl
set_option maxHeartbeats 4000000 in
set_option maxRecDepth 100000 in
theorem s_X7_both_133 {p : Program} {l : Launch} {e : Env} {s : State} {m : MethodId} {args : Array Value} {below : List Frame} {meth : Method} {c : Code} {D : va_G} {y : Nat → ClassId} {nn : Nat} {ad : Nat → Nat} {A0 : Nat → Prop} {I : Nat → Int32} {J : Nat → Int64} {A : Nat → Nat → Int32} {B : Nat → Nat → Int64} {G : Nat → Nat → Nat → Int32} (F : Fx p s m args meth c cX7_both 7 wsX7_both RX7 D y A0) (hr : meth.sig.returnType = (some .long)) {out : Int64 × Int32 × (Nat → Int32) × (Nat → Int64)} {N : Nat}  (nx133 : Int64 → Int32 → Int32 → Int32 → (Nat → Int32) → (Nat → Int64) → Option (Int64 × Int32 × (Nat → Int32) × (Nat → Int64))) (hn133 : ∀ (x1 : Int64) (x3 : Int32) (x4 : Int32) (i8' : Int32) (a34' : Nat → Int32) (b56' : Nat → Int64) (ls : Array Slot) (H : Heap) (locs : List Loc), nx133 x1 x3 x4 i8' a34' b56' = some out → MM D y nn ad A0 s.heap (va_up I 8 i8') J (va_up A 34 a34') (va_up B 56 b56') G H locs → lv_has ls 7 [(0, .ref (ad 7)), (1, .long x1), (3, .int x3), (4, .int x4)] → W p l e ({ frames := 2, cells := 0, slots := 0, locals := 44 } : Room) s m args below meth c H locs 0 0 (MQ below (mQl D y nn ad A0 out.1 ((va_up I 8 out.2.1), J, (va_up A 34 out.2.2.1), (va_up B 56 out.2.2.2), G)) args s 0 0 A0) (F0 m 133 ls [])) : ∀ (x1 : Int64) (x3 : Int32) (x4 : Int32) (i8' : Int32) (a34' : Nat → Int32) (b56' : Nat → Int64) (ls : Array Slot) (H : Heap) (locs : List Loc), f_X7_both_133 N (I 6) (B 54) (B 57)  nx133 x1 x3 x4 i8' a34' b56' = some out → MM D y nn ad A0 s.heap (va_up I 8 i8') J (va_up A 34 a34') (va_up B 56 b56') G H locs → lv_has ls 7 [(0, .ref (ad 7)), (1, .long x1), (3, .int x3), (4, .int x4)] → W p l e ({ frames := 2, cells := 0, slots := 0, locals := 44 } : Room) s m args below meth c H locs 0 0 (MQ below (mQl D y nn ad A0 out.1 ((va_up I 8 out.2.1), J, (va_up A 34 out.2.2.1), (va_up B 56 out.2.2.2), G)) args s 0 0 A0) (F0 m 133 ls []) := by
  intro x1 x3 x4 i8' a34' b56' ls H locs hE hM hl
  have hx := F.1.1
  have hb := F.1.2.1
  unfold f_X7_both_133 at hE
  refine lv_iload hx hb dX7_both_133 (lv_at hl 3 rfl) ?_
  refine lv_iconst (v := 1) hx hb dX7_both_135 (by decide) ?_
  refine lv_aload_n hx hb dX7_both_136 rfl (lv_at hl 0 rfl) ?_
  refine m_get F hM 7 mg_7 rfl 1 (by decide) (by decide +kernel) (by decide +kernel) (v := .int (I 6)) rfl dX7_both_137 ?_
  refine lv_ishl hx hb dX7_both_140 ?_
  refine lv_icmp_ge (tgt := 289) hx hb dX7_both_141 (by decide) (fun c141 => ?_) (fun c141 => ?_)
  · replace hE := (if_pos c141).symm.trans hE
    refine lv_aload_n hx hb dX7_both_289 rfl (lv_at hl 0 rfl) ?_
    refine lv_iconst (v := 0) hx hb dX7_both_290 (by decide) ?_
    refine m_put F hM 7 mg_7 rfl tyX7 tyX7_ok nmX7 4 (by decide) (by decide +kernel) (by decide +kernel) rfl (ty := .int) (v := .int (0 : Int32)) (by decide +kernel) rfl rfl (Nat.le_of_ble_eq_true rfl) (ms_7_4 _) (bx_uu _ _ _ _)  rfl dX7_both_291 (fun H locs hM => ?_)
    refine lv_iload_n hx hb dX7_both_294 rfl (lv_at hl 2 rfl) ?_
    refine lv_istore (lv' := [(4, .int x3), (0, .ref (ad 7)), (1, .long x1), (3, .int x3)]) hx hb dX7_both_295 hl (by decide) rfl (fun ls hl => ?_)
    exact k_X7_both_297 F hr (N := N)  N x1 x3 x3 (0 : Int32) a34' b56' ls H locs hE hM (lv_sub hl [1, 2, 3, 0] rfl)
  · replace hE := (if_neg c141).symm.trans hE
    refine lv_aload_n hx hb dX7_both_144 rfl (lv_at hl 0 rfl) ?_
    refine m_get F hM 7 mg_7 rfl 10 (by decide) (by decide +kernel) (by decide +kernel) (v := .ref (ad 56)) rfl dX7_both_145 ?_
    refine lv_iload hx hb dX7_both_148 (lv_at hl 3 rfl) ?_
    refine lv_ldc2 (v := (1000000000000)) hx hb F.1.2.2.2.1 (F.1.2.2.2.2 (.constantLong RX7 52 (1000000000000)) (by decide +kernel)) dX7_both_150 ?_
    obtain ⟨hi153_12, hE⟩ := ck_some hE
    obtain ⟨w153_13, ew153_13, hE⟩ := nmd_some hE
    refine m_last (f := b56') (B' := (va_up B 56 w153_13)) F hM mg_56 ms_56 (by rw [ew153_13]; exact (bx_uu _ _ _ _)) hi153_12 dX7_both_153 (fun H locs hM => ?_)
    refine lv_aload_n hx hb dX7_both_154 rfl (lv_at hl 0 rfl) ?_
    refine lv_iload hx hb dX7_both_155 (lv_at hl 3 rfl) ?_
    obtain ⟨o157_14, ho157_14, hE⟩ := bd_some hE
    refine m_callVi (As := [.int x4]) (I2 := (va_up I 8 i8')) (J2 := J) (A2 := (va_up A 34 a34')) (B2 := (va_up B 56 w153_13)) (G2 := G) F hM (c_X7_least l D y nn ad H.size (va_up I 8 i8') J (va_up A 34 a34') (va_up B 56 w153_13) G x4 N o157_14 ho157_14) (cwV 1 F.1.2.2.2.2 gX7_both_X7_least rfl rfl rfl (by decide +kernel) ⟨Nat.le_of_ble_eq_true rfl, Nat.le_of_ble_eq_true rfl⟩) (m_recv F hM mg_7 rfl) rfl hl.1 (Nat.le_of_ble_eq_true rfl) dX7_both_157 ⟨Nat.le_refl 0, Nat.le_refl 0⟩ rfl rfl rfl rfl rfl (fun H locs hM => ?_)
    refine lv_istore (lv' := [(5, .int o157_14), (0, .ref (ad 7)), (1, .long x1), (3, .int x3), (4, .int x4)]) hx hb dX7_both_160 hl (by decide) rfl (fun ls hl => ?_)
    refine lv_iload hx hb dX7_both_162 (lv_at hl 0 rfl) ?_
    refine lv_iconst (v := 1) hx hb dX7_both_164 (by decide) ?_
    refine lv_iadd hx hb dX7_both_165 ?_
    refine lv_istore (lv' := [(6, .int (o157_14 + (1 : Int32))), (5, .int o157_14), (0, .ref (ad 7)), (1, .long x1), (3, .int x3), (4, .int x4)]) hx hb dX7_both_166 hl (by decide) rfl (fun ls hl => ?_)
    exact k_X7_both_168 F hr (N := N) nx133 hn133 N x1 x3 x4 o157_14 (o157_14 + (1 : Int32)) i8' a34' w153_13 ls H locs hE hM (lv_sub hl [2, 3, 4, 5, 1, 0] rfl)
theorem k_X7_both_133 {p : Program} {l : Launch} {e : Env} {s : State} {m : MethodId} {args : Array Value} {below : List Frame} {meth : Method} {c : Code} {D : va_G} {y : Nat → ClassId} {nn : Nat} {ad : Nat → Nat} {A0 : Nat → Prop} {I : Nat → Int32} {J : Nat → Int64} {A : Nat → Nat → Int32} {B : Nat → Nat → Int64} {G : Nat → Nat → Nat → Int32} (F : Fx p s m args meth c cX7_both 7 wsX7_both RX7 D y A0) (hr : meth.sig.returnType = (some .long)) {out : Int64 × Int32 × (Nat → Int32) × (Nat → Int64)} {N : Nat}  : ∀ (n : Nat), ∀ (x1 : Int64) (x3 : Int32) (x4 : Int32) (i8' : Int32) (a34' : Nat → Int32) (b56' : Nat → Int64) (ls : Array Slot) (H : Heap) (locs : List Loc), lq6 (f_X7_both_133 N (I 6) (B 54) (B 57) ) n x1 x3 x4 i8' a34' b56' = some out → MM D y nn ad A0 s.heap (va_up I 8 i8') J (va_up A 34 a34') (va_up B 56 b56') G H locs → lv_has ls 7 [(0, .ref (ad 7)), (1, .long x1), (3, .int x3), (4, .int x4)] → W p l e ({ frames := 2, cells := 0, slots := 0, locals := 44 } : Room) s m args below meth c H locs 0 0 (MQ below (mQl D y nn ad A0 out.1 ((va_up I 8 out.2.1), J, (va_up A 34 out.2.2.1), (va_up B 56 out.2.2.2), G)) args s 0 0 A0) (F0 m 133 ls []) := by
  intro n
  induction n with
  | zero =>
    intro x1 x3 x4 i8' a34' b56' ls H locs hE
    cases (show (none : Option _) = some out from hE)
  | succ n ih =>
    intro x1 x3 x4 i8' a34' b56' ls H locs hE hM hl
    exact s_X7_both_133 F hr (N := N)  (lq6 (f_X7_both_133 N (I 6) (B 54) (B 57) ) n) ih x1 x3 x4 i8' a34' b56' ls H locs hE hM hl
set_option maxHeartbeats 4000000 in
set_option maxRecDepth 100000 in
theorem s_X7_both_60 {p : Program} {l : Launch} {e : Env} {s : State} {m : MethodId} {args : Array Value} {below : List Frame} {meth : Method} {c : Code} {D : va_G} {y : Nat → ClassId} {nn : Nat} {ad : Nat → Nat} {A0 : Nat → Prop} {I : Nat → Int32} {J : Nat → Int64} {A : Nat → Nat → Int32} {B : Nat → Nat → Int64} {G : Nat → Nat → Nat → Int32} (F : Fx p s m args meth c cX7_both 7 wsX7_both RX7 D y A0) (hr : meth.sig.returnType = (some .long)) {out : Int64 × Int32 × (Nat → Int32) × (Nat → Int64)} {N : Nat} (nx7 : Int64 → Int32 → Int32 → Int32 → (Nat → Int32) → (Nat → Int64) → Option (Int64 × Int32 × (Nat → Int32) × (Nat → Int64))) (hn7 : ∀ (x1 : Int64) (x3 : Int32) (x4 : Int32) (i8' : Int32) (a34' : Nat → Int32) (b56' : Nat → Int64) (ls : Array Slot) (H : Heap) (locs : List Loc), nx7 x1 x3 x4 i8' a34' b56' = some out → MM D y nn ad A0 s.heap (va_up I 8 i8') J (va_up A 34 a34') (va_up B 56 b56') G H locs → lv_has ls 7 [(0, .ref (ad 7)), (1, .long x1), (3, .int x3), (4, .int x4)] → W p l e ({ frames := 2, cells := 0, slots := 0, locals := 44 } : Room) s m args below meth c H locs 0 0 (MQ below (mQl D y nn ad A0 out.1 ((va_up I 8 out.2.1), J, (va_up A 34 out.2.2.1), (va_up B 56 out.2.2.2), G)) args s 0 0 A0) (F0 m 7 ls [])) (nx22 : Int64 → Int32 → Int32 → Int32 → Int32 → Int32 → (Nat → Int32) → (Nat → Int64) → Option (Int64 × Int32 × (Nat → Int32) × (Nat → Int64))) (hn22 : ∀ (x1 : Int64) (x3 : Int32) (x4 : Int32) (x5 : Int32) (x6 : Int32) (i8' : Int32) (a34' : Nat → Int32) (b56' : Nat → Int64) (ls : Array Slot) (H : Heap) (locs : List Loc), nx22 x1 x3 x4 x5 x6 i8' a34' b56' = some out → MM D y nn ad A0 s.heap (va_up I 8 i8') J (va_up A 34 a34') (va_up B 56 b56') G H locs → lv_has ls 7 [(0, .ref (ad 7)), (1, .long x1), (3, .int x3), (4, .int x4), (5, .int x5), (6, .int x6)] → W p l e ({ frames := 2, cells := 0, slots := 0, locals := 44 } : Room) s m args below meth c H locs 0 0 (MQ below (mQl D y nn ad A0 out.1 ((va_up I 8 out.2.1), J, (va_up A 34 out.2.2.1), (va_up B 56 out.2.2.2), G)) args s 0 0 A0) (F0 m 22 ls [])) : ∀ (x1 : Int64) (x3 : Int32) (x4 : Int32) (x5 : Int32) (x6 : Int32) (i8' : Int32) (a34' : Nat → Int32) (b56' : Nat → Int64) (ls : Array Slot) (H : Heap) (locs : List Loc), f_X7_both_60 N (I 6) (B 54) (B 57) nx7 nx22 x1 x3 x4 x5 x6 i8' a34' b56' = some out → MM D y nn ad A0 s.heap (va_up I 8 i8') J (va_up A 34 a34') (va_up B 56 b56') G H locs → lv_has ls 7 [(0, .ref (ad 7)), (1, .long x1), (3, .int x3), (4, .int x4), (5, .int x5), (6, .int x6)] → W p l e ({ frames := 2, cells := 0, slots := 0, locals := 44 } : Room) s m args below meth c H locs 0 0 (MQ below (mQl D y nn ad A0 out.1 ((va_up I 8 out.2.1), J, (va_up A 34 out.2.2.1), (va_up B 56 out.2.2.2), G)) args s 0 0 A0) (F0 m 60 ls []) := by
  intro x1 x3 x4 x5 x6 i8' a34' b56' ls H locs hE hM hl
  have hx := F.1.1
  have hb := F.1.2.1
  unfold f_X7_both_60 at hE
  refine lv_iload hx hb dX7_both_60 (lv_at hl 4 rfl) ?_
  refine lv_istore (lv' := [(5, .int x5), (0, .ref (ad 7)), (1, .long x1), (3, .int x3), (4, .int x4), (6, .int x6)]) hx hb dX7_both_62 hl (by decide) rfl (fun ls hl => ?_)
  refine lv_iload hx hb dX7_both_64 (lv_at hl 4 rfl) ?_
  refine lv_iload hx hb dX7_both_66 (lv_at hl 5 rfl) ?_
  refine lv_icmp_ge (tgt := 99) hx hb dX7_both_68 (by decide) (fun c68 => ?_) (fun c68 => ?_)
  · replace hE := (if_pos c68).symm.trans hE
    refine lv_lload_n hx hb dX7_both_99 rfl (lv_at hl 2 rfl) ?_
    refine lv_lstore_n (lv' := [(1, .long x1), (5, .int x5), (0, .ref (ad 7)), (3, .int x3), (4, .int x4), (6, .int x6)]) hx hb dX7_both_100 rfl hl (by decide) rfl (fun ls hl => ?_)
    refine lv_iinc (v := x6 + (1 : Int32)) (lv' := [(6, .int (x6 + (1 : Int32))), (1, .long x1), (5, .int x5), (0, .ref (ad 7)), (3, .int x3), (4, .int x4)]) hx hb dX7_both_101 hl (k := 5) rfl rfl (by decide) rfl (fun ls hl => ?_)
    refine lv_goto (tgt := 22) hx hb dX7_both_104 (by decide) ?_
    exact hn22 x1 x3 x4 x5 (x6 + (1 : Int32)) i8' a34' b56' ls H locs hE hM (lv_sub hl [3, 1, 4, 5, 2, 0] rfl)
  · replace hE := (if_neg c68).symm.trans hE
    refine lv_aload_n hx hb dX7_both_71 rfl (lv_at hl 1 rfl) ?_
    refine lv_iload hx hb dX7_both_72 (lv_at hl 4 rfl) ?_
    refine lv_iload hx hb dX7_both_74 (lv_at hl 5 rfl) ?_
    obtain ⟨o76_23, ho76_23, hE⟩ := bd_some hE
    refine m_callVl (As := [.int x4, .int x6]) (I2 := (va_up I 8 i8')) (J2 := J) (A2 := (va_up A 34 a34')) (B2 := (va_up B 56 b56')) (G2 := G) F hM (c_X7_length l D y nn ad H.size (va_up I 8 i8') J (va_up A 34 a34') (va_up B 56 b56') G x4 x6  o76_23 ho76_23) (cwV 2 F.1.2.2.2.2 gX7_both_X7_length rfl rfl rfl (by decide +kernel) ⟨Nat.le_of_ble_eq_true rfl, Nat.le_of_ble_eq_true rfl⟩) (m_recv F hM mg_7 rfl) rfl hl.1 (Nat.le_of_ble_eq_true rfl) dX7_both_76 ⟨Nat.le_refl 0, Nat.le_refl 0⟩ rfl rfl rfl rfl rfl (fun H locs hM => ?_)
    refine lv_ldc2 (v := (1000000000000)) hx hb F.1.2.2.2.1 (F.1.2.2.2.2 (.constantLong RX7 52 (1000000000000)) (by decide +kernel)) dX7_both_79 ?_
    refine m_lge (tgt := 99) F dX7_both_82 dX7_both_83 (by decide) (fun c83 => ?_) (fun c83 => ?_)
    · replace hE := (if_pos c83).symm.trans hE
      refine lv_lload_n hx hb dX7_both_99 rfl (lv_at hl 2 rfl) ?_
      refine lv_lstore_n (lv' := [(1, .long x1), (5, .int x5), (0, .ref (ad 7)), (3, .int x3), (4, .int x4), (6, .int x6)]) hx hb dX7_both_100 rfl hl (by decide) rfl (fun ls hl => ?_)
      refine lv_iinc (v := x6 + (1 : Int32)) (lv' := [(6, .int (x6 + (1 : Int32))), (1, .long x1), (5, .int x5), (0, .ref (ad 7)), (3, .int x3), (4, .int x4)]) hx hb dX7_both_101 hl (k := 5) rfl rfl (by decide) rfl (fun ls hl => ?_)
      refine lv_goto (tgt := 22) hx hb dX7_both_104 (by decide) ?_
      exact hn22 x1 x3 x4 x5 (x6 + (1 : Int32)) i8' a34' b56' ls H locs hE hM (lv_sub hl [3, 1, 4, 5, 2, 0] rfl)
    · replace hE := (if_neg c83).symm.trans hE
      refine lv_lload_n hx hb dX7_both_86 rfl (lv_at hl 2 rfl) ?_
      refine lv_aload_n hx hb dX7_both_87 rfl (lv_at hl 1 rfl) ?_
      refine lv_iload hx hb dX7_both_88 (lv_at hl 4 rfl) ?_
      refine lv_iload hx hb dX7_both_90 (lv_at hl 5 rfl) ?_
      obtain ⟨o92_24, ho92_24, hE⟩ := bd_some hE
      refine m_callVl (As := [.int x4, .int x6]) (I2 := (va_up I 8 i8')) (J2 := J) (A2 := (va_up A 34 a34')) (B2 := (va_up B 56 b56')) (G2 := G) F hM (c_X7_length l D y nn ad H.size (va_up I 8 i8') J (va_up A 34 a34') (va_up B 56 b56') G x4 x6  o92_24 ho92_24) (cwV 2 F.1.2.2.2.2 gX7_both_X7_length rfl rfl rfl (by decide +kernel) ⟨Nat.le_of_ble_eq_true rfl, Nat.le_of_ble_eq_true rfl⟩) (m_recv F hM mg_7 rfl) rfl hl.1 (Nat.le_of_ble_eq_true rfl) dX7_both_92 ⟨Nat.le_refl 0, Nat.le_refl 0⟩ rfl rfl rfl rfl rfl (fun H locs hM => ?_)
      refine lv_ladd hx hb dX7_both_95 ?_
      refine lv_goto (tgt := 100) hx hb dX7_both_96 (by decide) ?_
      refine lv_lstore_n (lv' := [(1, .long (x1 + o92_24)), (5, .int x5), (0, .ref (ad 7)), (3, .int x3), (4, .int x4), (6, .int x6)]) hx hb dX7_both_100 rfl hl (by decide) rfl (fun ls hl => ?_)
      refine lv_iinc (v := x6 + (1 : Int32)) (lv' := [(6, .int (x6 + (1 : Int32))), (1, .long (x1 + o92_24)), (5, .int x5), (0, .ref (ad 7)), (3, .int x3), (4, .int x4)]) hx hb dX7_both_101 hl (k := 5) rfl rfl (by decide) rfl (fun ls hl => ?_)
      refine lv_goto (tgt := 22) hx hb dX7_both_104 (by decide) ?_
      exact hn22 (x1 + o92_24) x3 x4 x5 (x6 + (1 : Int32)) i8' a34' b56' ls H locs hE hM (lv_sub hl [3, 1, 4, 5, 2, 0] rfl)
set_option maxHeartbeats 4000000 in
set_option maxRecDepth 100000 in
theorem s_X7_both_22 {p : Program} {l : Launch} {e : Env} {s : State} {m : MethodId} {args : Array Value} {below : List Frame} {meth : Method} {c : Code} {D : va_G} {y : Nat → ClassId} {nn : Nat} {ad : Nat → Nat} {A0 : Nat → Prop} {I : Nat → Int32} {J : Nat → Int64} {A : Nat → Nat → Int32} {B : Nat → Nat → Int64} {G : Nat → Nat → Nat → Int32} (F : Fx p s m args meth c cX7_both 7 wsX7_both RX7 D y A0) (hr : meth.sig.returnType = (some .long)) {out : Int64 × Int32 × (Nat → Int32) × (Nat → Int64)} {N : Nat} (nx7 : Int64 → Int32 → Int32 → Int32 → (Nat → Int32) → (Nat → Int64) → Option (Int64 × Int32 × (Nat → Int32) × (Nat → Int64))) (hn7 : ∀ (x1 : Int64) (x3 : Int32) (x4 : Int32) (i8' : Int32) (a34' : Nat → Int32) (b56' : Nat → Int64) (ls : Array Slot) (H : Heap) (locs : List Loc), nx7 x1 x3 x4 i8' a34' b56' = some out → MM D y nn ad A0 s.heap (va_up I 8 i8') J (va_up A 34 a34') (va_up B 56 b56') G H locs → lv_has ls 7 [(0, .ref (ad 7)), (1, .long x1), (3, .int x3), (4, .int x4)] → W p l e ({ frames := 2, cells := 0, slots := 0, locals := 44 } : Room) s m args below meth c H locs 0 0 (MQ below (mQl D y nn ad A0 out.1 ((va_up I 8 out.2.1), J, (va_up A 34 out.2.2.1), (va_up B 56 out.2.2.2), G)) args s 0 0 A0) (F0 m 7 ls [])) (nx22 : Int64 → Int32 → Int32 → Int32 → Int32 → Int32 → (Nat → Int32) → (Nat → Int64) → Option (Int64 × Int32 × (Nat → Int32) × (Nat → Int64))) (hn22 : ∀ (x1 : Int64) (x3 : Int32) (x4 : Int32) (x5 : Int32) (x6 : Int32) (i8' : Int32) (a34' : Nat → Int32) (b56' : Nat → Int64) (ls : Array Slot) (H : Heap) (locs : List Loc), nx22 x1 x3 x4 x5 x6 i8' a34' b56' = some out → MM D y nn ad A0 s.heap (va_up I 8 i8') J (va_up A 34 a34') (va_up B 56 b56') G H locs → lv_has ls 7 [(0, .ref (ad 7)), (1, .long x1), (3, .int x3), (4, .int x4), (5, .int x5), (6, .int x6)] → W p l e ({ frames := 2, cells := 0, slots := 0, locals := 44 } : Room) s m args below meth c H locs 0 0 (MQ below (mQl D y nn ad A0 out.1 ((va_up I 8 out.2.1), J, (va_up A 34 out.2.2.1), (va_up B 56 out.2.2.2), G)) args s 0 0 A0) (F0 m 22 ls [])) : ∀ (x1 : Int64) (x3 : Int32) (x4 : Int32) (x5 : Int32) (x6 : Int32) (i8' : Int32) (a34' : Nat → Int32) (b56' : Nat → Int64) (ls : Array Slot) (H : Heap) (locs : List Loc), f_X7_both_22 N (I 6) (B 54) (B 57) nx7 nx22 x1 x3 x4 x5 x6 i8' a34' b56' = some out → MM D y nn ad A0 s.heap (va_up I 8 i8') J (va_up A 34 a34') (va_up B 56 b56') G H locs → lv_has ls 7 [(0, .ref (ad 7)), (1, .long x1), (3, .int x3), (4, .int x4), (5, .int x5), (6, .int x6)] → W p l e ({ frames := 2, cells := 0, slots := 0, locals := 44 } : Room) s m args below meth c H locs 0 0 (MQ below (mQl D y nn ad A0 out.1 ((va_up I 8 out.2.1), J, (va_up A 34 out.2.2.1), (va_up B 56 out.2.2.2), G)) args s 0 0 A0) (F0 m 22 ls []) := by
  intro x1 x3 x4 x5 x6 i8' a34' b56' ls H locs hE hM hl
  have hx := F.1.1
  have hb := F.1.2.1
  unfold f_X7_both_22 at hE
  refine lv_iload hx hb dX7_both_22 (lv_at hl 5 rfl) ?_
  refine lv_aload_n hx hb dX7_both_24 rfl (lv_at hl 0 rfl) ?_
  refine m_get F hM 7 mg_7 rfl 1 (by decide) (by decide +kernel) (by decide +kernel) (v := .int (I 6)) rfl dX7_both_25 ?_
  refine lv_icmp_ge (tgt := 107) hx hb dX7_both_28 (by decide) (fun c28 => ?_) (fun c28 => ?_)
  · replace hE := (if_pos c28).symm.trans hE
    refine lv_iload_n hx hb dX7_both_107 rfl (lv_at hl 2 rfl) ?_
    refine lv_iload hx hb dX7_both_108 (lv_at hl 4 rfl) ?_
    refine lv_iconst (v := 1) hx hb dX7_both_110 (by decide) ?_
    refine lv_iand hx hb dX7_both_111 ?_
    refine lv_iload hx hb dX7_both_112 (lv_at hl 3 rfl) ?_
    refine lv_ishl hx hb dX7_both_114 ?_
    refine lv_ior hx hb dX7_both_115 ?_
    obtain ⟨v116_22, ev116_22, hE⟩ := nmd_some hE
    refine m_topi ev116_22 ?_
    refine lv_istore_n (lv' := [(3, .int v116_22), (0, .ref (ad 7)), (1, .long x1), (4, .int x4), (5, .int x5), (6, .int x6)]) hx hb dX7_both_116 rfl hl (by decide) rfl (fun ls hl => ?_)
    refine lv_iinc (v := x4 + (1 : Int32)) (lv' := [(4, .int (x4 + (1 : Int32))), (3, .int v116_22), (0, .ref (ad 7)), (1, .long x1), (5, .int x5), (6, .int x6)]) hx hb dX7_both_117 hl (k := 3) rfl rfl (by decide) rfl (fun ls hl => ?_)
    refine lv_goto (tgt := 7) hx hb dX7_both_120 (by decide) ?_
    exact hn7 x1 v116_22 (x4 + (1 : Int32)) i8' a34' b56' ls H locs hE hM (lv_sub hl [2, 3, 1, 0] rfl)
  · replace hE := (if_neg c28).symm.trans hE
    refine lv_iload hx hb dX7_both_31 (lv_at hl 3 rfl) ?_
    refine lv_iload hx hb dX7_both_33 (lv_at hl 5 rfl) ?_
    refine lv_icmp_eq (tgt := 60) hx hb dX7_both_35 (by decide) (fun c35 => ?_) (fun c35 => ?_)
    · replace hE := (if_pos c35).symm.trans hE
      exact s_X7_both_60 F hr (N := N) nx7 hn7 nx22 hn22 x1 x3 x4 x5 x6 i8' a34' b56' ls H locs hE hM (lv_sub hl [0, 1, 2, 3, 4, 5] rfl)
    · replace hE := (if_neg c35).symm.trans hE
      refine lv_aload_n hx hb dX7_both_38 rfl (lv_at hl 0 rfl) ?_
      refine lv_iload hx hb dX7_both_39 (lv_at hl 3 rfl) ?_
      refine lv_iload hx hb dX7_both_41 (lv_at hl 5 rfl) ?_
      obtain ⟨o43_25, ho43_25, hE⟩ := bd_some hE
      refine m_callVl (As := [.int x4, .int x6]) (I2 := (va_up I 8 i8')) (J2 := J) (A2 := (va_up A 34 a34')) (B2 := (va_up B 56 b56')) (G2 := G) F hM (c_X7_length l D y nn ad H.size (va_up I 8 i8') J (va_up A 34 a34') (va_up B 56 b56') G x4 x6  o43_25 ho43_25) (cwV 2 F.1.2.2.2.2 gX7_both_X7_length rfl rfl rfl (by decide +kernel) ⟨Nat.le_of_ble_eq_true rfl, Nat.le_of_ble_eq_true rfl⟩) (m_recv F hM mg_7 rfl) rfl hl.1 (Nat.le_of_ble_eq_true rfl) dX7_both_43 ⟨Nat.le_refl 0, Nat.le_refl 0⟩ rfl rfl rfl rfl rfl (fun H locs hM => ?_)
      refine lv_ldc2 (v := (1000000000000)) hx hb F.1.2.2.2.1 (F.1.2.2.2.2 (.constantLong RX7 52 (1000000000000)) (by decide +kernel)) dX7_both_46 ?_
      refine m_lge (tgt := 60) F dX7_both_49 dX7_both_50 (by decide) (fun c50 => ?_) (fun c50 => ?_)
      · replace hE := (if_pos c50).symm.trans hE
        exact s_X7_both_60 F hr (N := N) nx7 hn7 nx22 hn22 x1 x3 x4 x5 x6 i8' a34' b56' ls H locs hE hM (lv_sub hl [0, 1, 2, 3, 4, 5] rfl)
      · replace hE := (if_neg c50).symm.trans hE
        refine lv_iload hx hb dX7_both_53 (lv_at hl 4 rfl) ?_
        refine lv_iconst (v := 1) hx hb dX7_both_55 (by decide) ?_
        refine lv_iadd hx hb dX7_both_56 ?_
        refine lv_goto (tgt := 62) hx hb dX7_both_57 (by decide) ?_
        refine lv_istore (lv' := [(5, .int (x5 + (1 : Int32))), (0, .ref (ad 7)), (1, .long x1), (3, .int x3), (4, .int x4), (6, .int x6)]) hx hb dX7_both_62 hl (by decide) rfl (fun ls hl => ?_)
        refine lv_iload hx hb dX7_both_64 (lv_at hl 4 rfl) ?_
        refine lv_iload hx hb dX7_both_66 (lv_at hl 5 rfl) ?_
        refine lv_icmp_ge (tgt := 99) hx hb dX7_both_68 (by decide) (fun c68 => ?_) (fun c68 => ?_)
        · replace hE := (if_pos c68).symm.trans hE
          refine lv_lload_n hx hb dX7_both_99 rfl (lv_at hl 2 rfl) ?_
          refine lv_lstore_n (lv' := [(1, .long x1), (5, .int (x5 + (1 : Int32))), (0, .ref (ad 7)), (3, .int x3), (4, .int x4), (6, .int x6)]) hx hb dX7_both_100 rfl hl (by decide) rfl (fun ls hl => ?_)
          refine lv_iinc (v := x6 + (1 : Int32)) (lv' := [(6, .int (x6 + (1 : Int32))), (1, .long x1), (5, .int (x5 + (1 : Int32))), (0, .ref (ad 7)), (3, .int x3), (4, .int x4)]) hx hb dX7_both_101 hl (k := 5) rfl rfl (by decide) rfl (fun ls hl => ?_)
          refine lv_goto (tgt := 22) hx hb dX7_both_104 (by decide) ?_
          exact hn22 x1 x3 x4 (x5 + (1 : Int32)) (x6 + (1 : Int32)) i8' a34' b56' ls H locs hE hM (lv_sub hl [3, 1, 4, 5, 2, 0] rfl)
        · replace hE := (if_neg c68).symm.trans hE
          refine lv_aload_n hx hb dX7_both_71 rfl (lv_at hl 1 rfl) ?_
          refine lv_iload hx hb dX7_both_72 (lv_at hl 4 rfl) ?_
          refine lv_iload hx hb dX7_both_74 (lv_at hl 5 rfl) ?_
          obtain ⟨o76_26, ho76_26, hE⟩ := bd_some hE
          refine m_callVl (As := [.int x4, .int x6]) (I2 := (va_up I 8 i8')) (J2 := J) (A2 := (va_up A 34 a34')) (B2 := (va_up B 56 b56')) (G2 := G) F hM (c_X7_length l D y nn ad H.size (va_up I 8 i8') J (va_up A 34 a34') (va_up B 56 b56') G x4 x6  o76_26 ho76_26) (cwV 2 F.1.2.2.2.2 gX7_both_X7_length rfl rfl rfl (by decide +kernel) ⟨Nat.le_of_ble_eq_true rfl, Nat.le_of_ble_eq_true rfl⟩) (m_recv F hM mg_7 rfl) rfl hl.1 (Nat.le_of_ble_eq_true rfl) dX7_both_76 ⟨Nat.le_refl 0, Nat.le_refl 0⟩ rfl rfl rfl rfl rfl (fun H locs hM => ?_)
          refine lv_ldc2 (v := (1000000000000)) hx hb F.1.2.2.2.1 (F.1.2.2.2.2 (.constantLong RX7 52 (1000000000000)) (by decide +kernel)) dX7_both_79 ?_
          refine m_lge (tgt := 99) F dX7_both_82 dX7_both_83 (by decide) (fun c83 => ?_) (fun c83 => ?_)
          · replace hE := (if_pos c83).symm.trans hE
            refine lv_lload_n hx hb dX7_both_99 rfl (lv_at hl 2 rfl) ?_
            refine lv_lstore_n (lv' := [(1, .long x1), (5, .int (x5 + (1 : Int32))), (0, .ref (ad 7)), (3, .int x3), (4, .int x4), (6, .int x6)]) hx hb dX7_both_100 rfl hl (by decide) rfl (fun ls hl => ?_)
            refine lv_iinc (v := x6 + (1 : Int32)) (lv' := [(6, .int (x6 + (1 : Int32))), (1, .long x1), (5, .int (x5 + (1 : Int32))), (0, .ref (ad 7)), (3, .int x3), (4, .int x4)]) hx hb dX7_both_101 hl (k := 5) rfl rfl (by decide) rfl (fun ls hl => ?_)
            refine lv_goto (tgt := 22) hx hb dX7_both_104 (by decide) ?_
            exact hn22 x1 x3 x4 (x5 + (1 : Int32)) (x6 + (1 : Int32)) i8' a34' b56' ls H locs hE hM (lv_sub hl [3, 1, 4, 5, 2, 0] rfl)
          · replace hE := (if_neg c83).symm.trans hE
            refine lv_lload_n hx hb dX7_both_86 rfl (lv_at hl 2 rfl) ?_
            refine lv_aload_n hx hb dX7_both_87 rfl (lv_at hl 1 rfl) ?_
            refine lv_iload hx hb dX7_both_88 (lv_at hl 4 rfl) ?_
            refine lv_iload hx hb dX7_both_90 (lv_at hl 5 rfl) ?_
            obtain ⟨o92_27, ho92_27, hE⟩ := bd_some hE
            refine m_callVl (As := [.int x4, .int x6]) (I2 := (va_up I 8 i8')) (J2 := J) (A2 := (va_up A 34 a34')) (B2 := (va_up B 56 b56')) (G2 := G) F hM (c_X7_length l D y nn ad H.size (va_up I 8 i8') J (va_up A 34 a34') (va_up B 56 b56') G x4 x6  o92_27 ho92_27) (cwV 2 F.1.2.2.2.2 gX7_both_X7_length rfl rfl rfl (by decide +kernel) ⟨Nat.le_of_ble_eq_true rfl, Nat.le_of_ble_eq_true rfl⟩) (m_recv F hM mg_7 rfl) rfl hl.1 (Nat.le_of_ble_eq_true rfl) dX7_both_92 ⟨Nat.le_refl 0, Nat.le_refl 0⟩ rfl rfl rfl rfl rfl (fun H locs hM => ?_)
            refine lv_ladd hx hb dX7_both_95 ?_
            refine lv_goto (tgt := 100) hx hb dX7_both_96 (by decide) ?_
            refine lv_lstore_n (lv' := [(1, .long (x1 + o92_27)), (5, .int (x5 + (1 : Int32))), (0, .ref (ad 7)), (3, .int x3), (4, .int x4), (6, .int x6)]) hx hb dX7_both_100 rfl hl (by decide) rfl (fun ls hl => ?_)
            refine lv_iinc (v := x6 + (1 : Int32)) (lv' := [(6, .int (x6 + (1 : Int32))), (1, .long (x1 + o92_27)), (5, .int (x5 + (1 : Int32))), (0, .ref (ad 7)), (3, .int x3), (4, .int x4)]) hx hb dX7_both_101 hl (k := 5) rfl rfl (by decide) rfl (fun ls hl => ?_)
            refine lv_goto (tgt := 22) hx hb dX7_both_104 (by decide) ?_
            exact hn22 (x1 + o92_27) x3 x4 (x5 + (1 : Int32)) (x6 + (1 : Int32)) i8' a34' b56' ls H locs hE hM (lv_sub hl [3, 1, 4, 5, 2, 0] rfl)
theorem k_X7_both_22 {p : Program} {l : Launch} {e : Env} {s : State} {m : MethodId} {args : Array Value} {below : List Frame} {meth : Method} {c : Code} {D : va_G} {y : Nat → ClassId} {nn : Nat} {ad : Nat → Nat} {A0 : Nat → Prop} {I : Nat → Int32} {J : Nat → Int64} {A : Nat → Nat → Int32} {B : Nat → Nat → Int64} {G : Nat → Nat → Nat → Int32} (F : Fx p s m args meth c cX7_both 7 wsX7_both RX7 D y A0) (hr : meth.sig.returnType = (some .long)) {out : Int64 × Int32 × (Nat → Int32) × (Nat → Int64)} {N : Nat} (nx7 : Int64 → Int32 → Int32 → Int32 → (Nat → Int32) → (Nat → Int64) → Option (Int64 × Int32 × (Nat → Int32) × (Nat → Int64))) (hn7 : ∀ (x1 : Int64) (x3 : Int32) (x4 : Int32) (i8' : Int32) (a34' : Nat → Int32) (b56' : Nat → Int64) (ls : Array Slot) (H : Heap) (locs : List Loc), nx7 x1 x3 x4 i8' a34' b56' = some out → MM D y nn ad A0 s.heap (va_up I 8 i8') J (va_up A 34 a34') (va_up B 56 b56') G H locs → lv_has ls 7 [(0, .ref (ad 7)), (1, .long x1), (3, .int x3), (4, .int x4)] → W p l e ({ frames := 2, cells := 0, slots := 0, locals := 44 } : Room) s m args below meth c H locs 0 0 (MQ below (mQl D y nn ad A0 out.1 ((va_up I 8 out.2.1), J, (va_up A 34 out.2.2.1), (va_up B 56 out.2.2.2), G)) args s 0 0 A0) (F0 m 7 ls [])) : ∀ (n : Nat), ∀ (x1 : Int64) (x3 : Int32) (x4 : Int32) (x5 : Int32) (x6 : Int32) (i8' : Int32) (a34' : Nat → Int32) (b56' : Nat → Int64) (ls : Array Slot) (H : Heap) (locs : List Loc), lq8 (f_X7_both_22 N (I 6) (B 54) (B 57) nx7) n x1 x3 x4 x5 x6 i8' a34' b56' = some out → MM D y nn ad A0 s.heap (va_up I 8 i8') J (va_up A 34 a34') (va_up B 56 b56') G H locs → lv_has ls 7 [(0, .ref (ad 7)), (1, .long x1), (3, .int x3), (4, .int x4), (5, .int x5), (6, .int x6)] → W p l e ({ frames := 2, cells := 0, slots := 0, locals := 44 } : Room) s m args below meth c H locs 0 0 (MQ below (mQl D y nn ad A0 out.1 ((va_up I 8 out.2.1), J, (va_up A 34 out.2.2.1), (va_up B 56 out.2.2.2), G)) args s 0 0 A0) (F0 m 22 ls []) := by
  intro n
  induction n with
  | zero =>
    intro x1 x3 x4 x5 x6 i8' a34' b56' ls H locs hE
    cases (show (none : Option _) = some out from hE)
  | succ n ih =>
    intro x1 x3 x4 x5 x6 i8' a34' b56' ls H locs hE hM hl
    exact s_X7_both_22 F hr (N := N) nx7 hn7 (lq8 (f_X7_both_22 N (I 6) (B 54) (B 57) nx7) n) ih x1 x3 x4 x5 x6 i8' a34' b56' ls H locs hE hM hl
set_option maxHeartbeats 4000000 in
set_option maxRecDepth 100000 in
theorem s_X7_both_7 {p : Program} {l : Launch} {e : Env} {s : State} {m : MethodId} {args : Array Value} {below : List Frame} {meth : Method} {c : Code} {D : va_G} {y : Nat → ClassId} {nn : Nat} {ad : Nat → Nat} {A0 : Nat → Prop} {I : Nat → Int32} {J : Nat → Int64} {A : Nat → Nat → Int32} {B : Nat → Nat → Int64} {G : Nat → Nat → Nat → Int32} (F : Fx p s m args meth c cX7_both 7 wsX7_both RX7 D y A0) (hr : meth.sig.returnType = (some .long)) {out : Int64 × Int32 × (Nat → Int32) × (Nat → Int64)} {N : Nat}  (nx7 : Int64 → Int32 → Int32 → Int32 → (Nat → Int32) → (Nat → Int64) → Option (Int64 × Int32 × (Nat → Int32) × (Nat → Int64))) (hn7 : ∀ (x1 : Int64) (x3 : Int32) (x4 : Int32) (i8' : Int32) (a34' : Nat → Int32) (b56' : Nat → Int64) (ls : Array Slot) (H : Heap) (locs : List Loc), nx7 x1 x3 x4 i8' a34' b56' = some out → MM D y nn ad A0 s.heap (va_up I 8 i8') J (va_up A 34 a34') (va_up B 56 b56') G H locs → lv_has ls 7 [(0, .ref (ad 7)), (1, .long x1), (3, .int x3), (4, .int x4)] → W p l e ({ frames := 2, cells := 0, slots := 0, locals := 44 } : Room) s m args below meth c H locs 0 0 (MQ below (mQl D y nn ad A0 out.1 ((va_up I 8 out.2.1), J, (va_up A 34 out.2.2.1), (va_up B 56 out.2.2.2), G)) args s 0 0 A0) (F0 m 7 ls [])) : ∀ (x1 : Int64) (x3 : Int32) (x4 : Int32) (i8' : Int32) (a34' : Nat → Int32) (b56' : Nat → Int64) (ls : Array Slot) (H : Heap) (locs : List Loc), f_X7_both_7 N (I 6) (B 54) (B 57)  nx7 x1 x3 x4 i8' a34' b56' = some out → MM D y nn ad A0 s.heap (va_up I 8 i8') J (va_up A 34 a34') (va_up B 56 b56') G H locs → lv_has ls 7 [(0, .ref (ad 7)), (1, .long x1), (3, .int x3), (4, .int x4)] → W p l e ({ frames := 2, cells := 0, slots := 0, locals := 44 } : Room) s m args below meth c H locs 0 0 (MQ below (mQl D y nn ad A0 out.1 ((va_up I 8 out.2.1), J, (va_up A 34 out.2.2.1), (va_up B 56 out.2.2.2), G)) args s 0 0 A0) (F0 m 7 ls []) := by
  intro x1 x3 x4 i8' a34' b56' ls H locs hE hM hl
  have hx := F.1.1
  have hb := F.1.2.1
  unfold f_X7_both_7 at hE
  refine lv_iload hx hb dX7_both_7 (lv_at hl 3 rfl) ?_
  refine lv_aload_n hx hb dX7_both_9 rfl (lv_at hl 0 rfl) ?_
  refine m_get F hM 7 mg_7 rfl 1 (by decide) (by decide +kernel) (by decide +kernel) (v := .int (I 6)) rfl dX7_both_10 ?_
  refine lv_icmp_ge (tgt := 123) hx hb dX7_both_13 (by decide) (fun c13 => ?_) (fun c13 => ?_)
  · replace hE := (if_pos c13).symm.trans hE
    refine lv_aload_n hx hb dX7_both_123 rfl (lv_at hl 0 rfl) ?_
    refine m_get F hM 7 mg_7 rfl 10 (by decide) (by decide +kernel) (by decide +kernel) (v := .ref (ad 56)) rfl dX7_both_124 ?_
    refine lv_iconst (v := 0) hx hb dX7_both_127 (by decide) ?_
    refine lv_lconst (v := 0) hx hb dX7_both_128 (by decide) ?_
    obtain ⟨hi129_0, hE⟩ := ck_some hE
    obtain ⟨w129_1, ew129_1, hE⟩ := nmd_some hE
    refine m_last (f := b56') (B' := (va_up B 56 w129_1)) F hM mg_56 ms_56 (by rw [ew129_1]; exact (bx_uu _ _ _ _)) hi129_0 dX7_both_129 (fun H locs hM => ?_)
    refine lv_iconst (v := 1) hx hb dX7_both_130 (by decide) ?_
    refine lv_istore (lv' := [(4, .int (1 : Int32)), (0, .ref (ad 7)), (1, .long x1), (3, .int x3)]) hx hb dX7_both_131 hl (by decide) rfl (fun ls hl => ?_)
    exact k_X7_both_133 F hr (N := N)  N x1 x3 (1 : Int32) i8' a34' w129_1 ls H locs hE hM (lv_sub hl [1, 2, 3, 0] rfl)
  · replace hE := (if_neg c13).symm.trans hE
    refine lv_iconst (v := 0) hx hb dX7_both_16 (by decide) ?_
    refine lv_istore (lv' := [(5, .int (0 : Int32)), (0, .ref (ad 7)), (1, .long x1), (3, .int x3), (4, .int x4)]) hx hb dX7_both_17 hl (by decide) rfl (fun ls hl => ?_)
    refine lv_iconst (v := 0) hx hb dX7_both_19 (by decide) ?_
    refine lv_istore (lv' := [(6, .int (0 : Int32)), (5, .int (0 : Int32)), (0, .ref (ad 7)), (1, .long x1), (3, .int x3), (4, .int x4)]) hx hb dX7_both_20 hl (by decide) rfl (fun ls hl => ?_)
    exact k_X7_both_22 F hr (N := N) nx7 hn7 N x1 x3 x4 (0 : Int32) (0 : Int32) i8' a34' b56' ls H locs hE hM (lv_sub hl [2, 3, 4, 5, 1, 0] rfl)
theorem k_X7_both_7 {p : Program} {l : Launch} {e : Env} {s : State} {m : MethodId} {args : Array Value} {below : List Frame} {meth : Method} {c : Code} {D : va_G} {y : Nat → ClassId} {nn : Nat} {ad : Nat → Nat} {A0 : Nat → Prop} {I : Nat → Int32} {J : Nat → Int64} {A : Nat → Nat → Int32} {B : Nat → Nat → Int64} {G : Nat → Nat → Nat → Int32} (F : Fx p s m args meth c cX7_both 7 wsX7_both RX7 D y A0) (hr : meth.sig.returnType = (some .long)) {out : Int64 × Int32 × (Nat → Int32) × (Nat → Int64)} {N : Nat}  : ∀ (n : Nat), ∀ (x1 : Int64) (x3 : Int32) (x4 : Int32) (i8' : Int32) (a34' : Nat → Int32) (b56' : Nat → Int64) (ls : Array Slot) (H : Heap) (locs : List Loc), lq6 (f_X7_both_7 N (I 6) (B 54) (B 57) ) n x1 x3 x4 i8' a34' b56' = some out → MM D y nn ad A0 s.heap (va_up I 8 i8') J (va_up A 34 a34') (va_up B 56 b56') G H locs → lv_has ls 7 [(0, .ref (ad 7)), (1, .long x1), (3, .int x3), (4, .int x4)] → W p l e ({ frames := 2, cells := 0, slots := 0, locals := 44 } : Room) s m args below meth c H locs 0 0 (MQ below (mQl D y nn ad A0 out.1 ((va_up I 8 out.2.1), J, (va_up A 34 out.2.2.1), (va_up B 56 out.2.2.2), G)) args s 0 0 A0) (F0 m 7 ls []) := by
  intro n
  induction n with
  | zero =>
    intro x1 x3 x4 i8' a34' b56' ls H locs hE
    cases (show (none : Option _) = some out from hE)
  | succ n ih =>
    intro x1 x3 x4 i8' a34' b56' ls H locs hE hM hl
    exact s_X7_both_7 F hr (N := N)  (lq6 (f_X7_both_7 N (I 6) (B 54) (B 57) ) n) ih x1 x3 x4 i8' a34' b56' ls H locs hE hM hl
set_option maxHeartbeats 4000000 in
set_option maxRecDepth 100000 in
theorem c_X7_both (l : Launch) (D : va_G) (y : Nat → ClassId) (nn : Nat) (ad : Nat → Nat) (sz : Nat) (I : Nat → Int32) (J : Nat → Int64) (A : Nat → Nat → Int32) (B : Nat → Nat → Int64) (G : Nat → Nat → Nat → Int32)  (N : Nat) (out : Int64 × Int32 × (Nat → Int32) × (Nat → Int64)) (hE : f_X7_both N (I 6) (B 54) (B 57) (I 8) (A 34) (B 56)  = some out) : Met l yX7_both wsX7_both ({ frames := 2, cells := 0, slots := 0, locals := 44 } : Room) (mPc [.ref (ad 7)] D y nn ad sz I J A B G) (mQl D y nn ad (mA y nn ad I J A B G sz) out.1 ((va_up I 8 out.2.1), J, (va_up A 34 out.2.2.1), (va_up B 56 out.2.2.2), G)) 0 0 (mA y nn ad I J A B G sz) := by
  refine Met.ofW (cc := cX7_both) (maxL := 7) (ret := (some .long)) (by decide) rfl ?_
  intro p e s m args below meth c s₁ Bd hml hv
  obtain ⟨rfl, hsz, hP, hK, hD0, hN⟩ := hv
  have hr := Bd.returns
  subst hsz
  have F : Fx p s m ([.ref (ad 7)] : List Value).toArray meth c cX7_both 7 wsX7_both RX7 D y (mA y nn ad I J A B G s.heap.size) := ⟨⟨Bd.exec, Bd.bytes, hml, findClass_of_methodNamed Bd.named, atoms_spec (ws := wsX7_both) Bd.pre⟩, hK, hN, fun q h => Or.inr h, Bd.notSynchronized⟩
  have hM := m_start (s := s) rfl hP hD0
  have hM := m_mem (I2 := (va_up I 8 (I 8))) (J2 := J) (A2 := (va_up A 34 (A 34))) (B2 := (va_up B 56 (B 56))) (G2 := G) hM (by simp only [up_id]) (by rfl) (by simp only [up_id]) (by simp only [up_id]) (by rfl)
  have hx := F.1.1
  have hb := F.1.2.1
  have hl := lv_entry ([.ref (ad 7)]) (n := 7) (Nat.le_of_ble_eq_true rfl)
  rw [lg_entry_eq]
  generalize (lg_sl ([.ref (ad 7)]) ++ List.replicate (7 - (lg_sl ([.ref (ad 7)])).length) Slot.unset).toArray = ls at hl ⊢
  have hl : lv_has ls 7 [(0, .ref (ad 7))] := hl
  show W p l e ({ frames := 2, cells := 0, slots := 0, locals := 44 } : Room) s m _ below meth c s.heap [] 0 0 _ _
  obtain ⟨locs, hlo⟩ : ∃ locs : List Loc, locs = [] := ⟨_, rfl⟩
  rw [← hlo]; rw [← hlo] at hM
  unfold f_X7_both at hE
  revert hM
  suffices hH : ∀ H : Heap, MM D y nn ad (mA y nn ad I J A B G s.heap.size) s.heap (va_up I 8 (I 8)) J (va_up A 34 (A 34)) (va_up B 56 (B 56)) G H locs → W p l e ({ frames := 2, cells := 0, slots := 0, locals := 44 } : Room) s m ([.ref (ad 7)] : List Value).toArray below meth c H locs 0 0 (MQ below (mQl D y nn ad (mA y nn ad I J A B G s.heap.size) out.1 ((va_up I 8 out.2.1), J, (va_up A 34 out.2.2.1), (va_up B 56 out.2.2.2), G)) ([.ref (ad 7)] : List Value).toArray s 0 0 (mA y nn ad I J A B G s.heap.size)) (F0 m 0 ls []) from hH s.heap
  intro H hM
  refine lv_lconst (v := 0) hx hb dX7_both_0 (by decide) ?_
  refine lv_lstore_n (lv' := [(1, .long (0 : Int64)), (0, .ref (ad 7))]) hx hb dX7_both_1 rfl hl (by decide) rfl (fun ls hl => ?_)
  refine lv_iconst (v := 0) hx hb dX7_both_2 (by decide) ?_
  refine lv_istore_n (lv' := [(3, .int (0 : Int32)), (1, .long (0 : Int64)), (0, .ref (ad 7))]) hx hb dX7_both_3 rfl hl (by decide) rfl (fun ls hl => ?_)
  refine lv_iconst (v := 0) hx hb dX7_both_4 (by decide) ?_
  refine lv_istore (lv' := [(4, .int (0 : Int32)), (3, .int (0 : Int32)), (1, .long (0 : Int64)), (0, .ref (ad 7))]) hx hb dX7_both_5 hl (by decide) rfl (fun ls hl => ?_)
  exact k_X7_both_7 F hr (N := N)  N (0 : Int64) (0 : Int32) (0 : Int32) (I 8) (A 34) (B 56) ls H locs hE hM (lv_sub hl [3, 2, 1, 0] rfl)
