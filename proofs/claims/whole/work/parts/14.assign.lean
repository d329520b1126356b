/-! ===== X0_cost: reads I0 G0, writes , frames 0, locals 0 ===== -/
def f_X0_cost (nn : Nat) (i0 : Int32) (g0 : Nat → Nat → Int32)  (p1 : Int32) (p2 : Int32) : Option (Int64) :=
(if p1 < (1 : Int32) then
some (100000000 : Int64)
else
(if i0 < p1 then
some (100000000 : Int64)
else
(if p2 < (1 : Int32) then
some (100000000 : Int64)
else
(if p2 ≤ i0 then
ck (p1 - (1 : Int32)) nn (
ck (p2 - (1 : Int32)) nn (
nmd ((g0 (p1 - (1 : Int32)).toNatClampNeg (p2 - (1 : Int32)).toNatClampNeg)) fun v51_2 =>
(if v51_2 = (-1 : Int32) then
some (100000000 : Int64)
else
some v51_2.toInt64)))
else
some (100000000 : Int64)))))
set_option maxHeartbeats 4000000 in
set_option maxRecDepth 100000 in
theorem c_X0_cost (l : Launch) (D : va_G) (y : Nat → ClassId) (nn : Nat) (ad : Nat → Nat) (sz : Nat) (I : Nat → Int32) (J : Nat → Int64) (A : Nat → Nat → Int32) (B : Nat → Nat → Int64) (G : Nat → Nat → Nat → Int32) (p1 : Int32) (p2 : Int32)  (out : Int64) (hE : f_X0_cost nn (I 0) (G 0)  p1 p2 = some out) : Met l yX0_cost wsX0_cost ({ frames := 0, cells := 0, slots := 0, locals := 0 } : Room) (mPc [.ref (ad 3), .int p1, .int p2] D y nn ad sz I J A B G) (mQl D y nn ad (mA y nn ad I J A B G sz) out (I, J, A, B, G)) 0 0 (mA y nn ad I J A B G sz) := by
  refine Met.ofW (cc := cX0_cost) (maxL := 4) (ret := (some .long)) (by decide) rfl ?_
  intro p e s m args below meth c s₁ Bd hml hv
  obtain ⟨rfl, hsz, hP, hK, hD0, hN⟩ := hv
  have hr := Bd.returns
  subst hsz
  have F : Fx p s m ([.ref (ad 3), .int p1, .int p2] : List Value).toArray meth c cX0_cost 4 wsX0_cost RX0 D y (mA y nn ad I J A B G s.heap.size) := ⟨⟨Bd.exec, Bd.bytes, hml, findClass_of_methodNamed Bd.named, atoms_spec (ws := wsX0_cost) Bd.pre⟩, hK, hN, fun q h => Or.inr h, Bd.notSynchronized⟩
  have hM := m_start (s := s) rfl hP hD0
  have hM := m_mem (I2 := I) (J2 := J) (A2 := A) (B2 := B) (G2 := G) hM (by rfl) (by rfl) (by rfl) (by rfl) (by rfl)
  have hx := F.1.1
  have hb := F.1.2.1
  have hl := lv_entry ([.ref (ad 3), .int p1, .int p2]) (n := 4) (Nat.le_of_ble_eq_true rfl)
  rw [lg_entry_eq]
  generalize (lg_sl ([.ref (ad 3), .int p1, .int p2]) ++ List.replicate (4 - (lg_sl ([.ref (ad 3), .int p1, .int p2])).length) Slot.unset).toArray = ls at hl ⊢
  have hl : lv_has ls 4 [(0, .ref (ad 3)), (1, .int p1), (2, .int p2)] := hl
  show W p l e ({ frames := 0, cells := 0, slots := 0, locals := 0 } : Room) s m _ below meth c s.heap [] 0 0 _ _
  obtain ⟨locs, hlo⟩ : ∃ locs : List Loc, locs = [] := ⟨_, rfl⟩
  rw [← hlo]; rw [← hlo] at hM
  unfold f_X0_cost at hE
  revert hM
  suffices hH : ∀ H : Heap, MM D y nn ad (mA y nn ad I J A B G s.heap.size) s.heap I J A B G H locs → W p l e ({ frames := 0, cells := 0, slots := 0, locals := 0 } : Room) s m ([.ref (ad 3), .int p1, .int p2] : List Value).toArray below meth c H locs 0 0 (MQ below (mQl D y nn ad (mA y nn ad I J A B G s.heap.size) out (I, J, A, B, G)) ([.ref (ad 3), .int p1, .int p2] : List Value).toArray s 0 0 (mA y nn ad I J A B G s.heap.size)) (F0 m 0 ls []) from hH s.heap
  intro H hM
  refine lv_iload_n hx hb dX0_cost_0 rfl (lv_at hl 1 rfl) ?_
  refine lv_iconst (v := 1) hx hb dX0_cost_1 (by decide) ?_
  refine lv_icmp_lt (tgt := 32) hx hb dX0_cost_2 (by decide) (fun c2 => ?_) (fun c2 => ?_)
  · replace hE := (if_pos c2).symm.trans hE
    refine lv_ldc2 (v := (100000000)) hx hb F.1.2.2.2.1 (F.1.2.2.2.2 (.constantLong RX0 79 (100000000)) (by decide +kernel)) dX0_cost_32 ?_
    obtain rfl := Option.some.inj hE
    exact m_lret F hM hr rfl rfl dX0_cost_35
  · replace hE := (if_neg c2).symm.trans hE
    refine lv_iload_n hx hb dX0_cost_5 rfl (lv_at hl 1 rfl) ?_
    refine lv_aload_n hx hb dX0_cost_6 rfl (lv_at hl 0 rfl) ?_
    refine m_get F hM 3 mg_3 rfl 0 (by decide) (by decide +kernel) (by decide +kernel) (v := .ref (ad 1)) rfl dX0_cost_7 ?_
    refine m_getN F hM 1 mg_1 rfl 0 (by decide) (by decide +kernel) (by decide +kernel) (v := .int (I 0)) rfl dX0_cost_10 ?_
    refine lv_icmp_gt (tgt := 32) hx hb dX0_cost_13 (by decide) (fun c13 => ?_) (fun c13 => ?_)
    · replace hE := (if_pos c13).symm.trans hE
      refine lv_ldc2 (v := (100000000)) hx hb F.1.2.2.2.1 (F.1.2.2.2.2 (.constantLong RX0 79 (100000000)) (by decide +kernel)) dX0_cost_32 ?_
      obtain rfl := Option.some.inj hE
      exact m_lret F hM hr rfl rfl dX0_cost_35
    · replace hE := (if_neg c13).symm.trans hE
      refine lv_iload_n hx hb dX0_cost_16 rfl (lv_at hl 2 rfl) ?_
      refine lv_iconst (v := 1) hx hb dX0_cost_17 (by decide) ?_
      refine lv_icmp_lt (tgt := 32) hx hb dX0_cost_18 (by decide) (fun c18 => ?_) (fun c18 => ?_)
      · replace hE := (if_pos c18).symm.trans hE
        refine lv_ldc2 (v := (100000000)) hx hb F.1.2.2.2.1 (F.1.2.2.2.2 (.constantLong RX0 79 (100000000)) (by decide +kernel)) dX0_cost_32 ?_
        obtain rfl := Option.some.inj hE
        exact m_lret F hM hr rfl rfl dX0_cost_35
      · replace hE := (if_neg c18).symm.trans hE
        refine lv_iload_n hx hb dX0_cost_21 rfl (lv_at hl 2 rfl) ?_
        refine lv_aload_n hx hb dX0_cost_22 rfl (lv_at hl 0 rfl) ?_
        refine m_get F hM 3 mg_3 rfl 0 (by decide) (by decide +kernel) (by decide +kernel) (v := .ref (ad 1)) rfl dX0_cost_23 ?_
        refine m_getN F hM 1 mg_1 rfl 0 (by decide) (by decide +kernel) (by decide +kernel) (v := .int (I 0)) rfl dX0_cost_26 ?_
        refine lv_icmp_le (tgt := 36) hx hb dX0_cost_29 (by decide) (fun c29 => ?_) (fun c29 => ?_)
        · replace hE := (if_pos c29).symm.trans hE
          refine lv_aload_n hx hb dX0_cost_36 rfl (lv_at hl 0 rfl) ?_
          refine m_get F hM 3 mg_3 rfl 0 (by decide) (by decide +kernel) (by decide +kernel) (v := .ref (ad 1)) rfl dX0_cost_37 ?_
          refine m_getN F hM 1 mg_1 rfl 1 (by decide) (by decide +kernel) (by decide +kernel) (v := .ref (ad 8)) rfl dX0_cost_40 ?_
          refine lv_iload_n hx hb dX0_cost_43 rfl (lv_at hl 1 rfl) ?_
          refine lv_iconst (v := 1) hx hb dX0_cost_44 (by decide) ?_
          refine lv_isub hx hb dX0_cost_45 ?_
          obtain ⟨hi46_0, hE⟩ := ck_some hE
          refine m_aald F hM mg_8 hi46_0 dX0_cost_46 ?_
          refine lv_iload_n hx hb dX0_cost_47 rfl (lv_at hl 2 rfl) ?_
          refine lv_iconst (v := 1) hx hb dX0_cost_48 (by decide) ?_
          refine lv_isub hx hb dX0_cost_49 ?_
          obtain ⟨hi50_1, hE⟩ := ck_some hE
          refine m_rald (M := (G 0)) F hM (by decide) (vp_lt hi46_0) rfl hi50_1 dX0_cost_50 ?_
          obtain ⟨v51_2, ev51_2, hE⟩ := nmd_some hE
          refine m_topi ev51_2 ?_
          refine lv_istore_n (lv' := [(3, .int v51_2), (0, .ref (ad 3)), (1, .int p1), (2, .int p2)]) hx hb dX0_cost_51 rfl hl (by decide) rfl (fun ls hl => ?_)
          refine lv_iload_n hx hb dX0_cost_52 rfl (lv_at hl 0 rfl) ?_
          refine lv_iconst (v := (-1)) hx hb dX0_cost_53 (by decide) ?_
          refine lv_icmp_ne (tgt := 63) hx hb dX0_cost_54 (by decide) (fun c54 => ?_) (fun c54 => ?_)
          · replace hE := (if_neg c54).symm.trans hE
            refine lv_iload_n hx hb dX0_cost_63 rfl (lv_at hl 0 rfl) ?_
            refine lv_i2l hx hb dX0_cost_64 rfl ?_
            obtain rfl := Option.some.inj hE
            exact m_lret F hM hr rfl rfl dX0_cost_65
          · replace hE := (if_pos c54).symm.trans hE
            refine lv_ldc2 (v := (100000000)) hx hb F.1.2.2.2.1 (F.1.2.2.2.2 (.constantLong RX0 79 (100000000)) (by decide +kernel)) dX0_cost_57 ?_
            refine lv_goto (tgt := 65) hx hb dX0_cost_60 (by decide) ?_
            obtain rfl := Option.some.inj hE
            exact m_lret F hM hr rfl rfl dX0_cost_65
        · replace hE := (if_neg c29).symm.trans hE
          refine lv_ldc2 (v := (100000000)) hx hb F.1.2.2.2.1 (F.1.2.2.2.2 (.constantLong RX0 79 (100000000)) (by decide +kernel)) dX0_cost_32 ?_
          obtain rfl := Option.some.inj hE
          exact m_lret F hM hr rfl rfl dX0_cost_35
/-! ===== X0_lowerSlackFrom: reads I0 A23 A25 B50 B51 G0, writes A24 B52, frames 1, locals 23 ===== -/
def f_X0_lowerSlackFrom_9 (N : Nat) (nn : Nat) (i0 : Int32) (a23 : Nat → Int32) (a25 : Nat → Int32) (b50 : Nat → Int64) (b51 : Nat → Int64) (g0 : Nat → Nat → Int32)  (nx9 : Int32 → Int32 → Int32 → (Nat → Int32) → (Nat → Int64) → Option ((Nat → Int32) × (Nat → Int64))) (x1 : Int32) (x2 : Int32) (x3 : Int32) (a24' : Nat → Int32) (b52' : Nat → Int64) : Option ((Nat → Int32) × (Nat → Int64)) :=
(if i0 < x3 then
some (a24', b52')
else
bd (f_X0_cost nn i0 g0 x2 x3) fun o23_1 =>
ck x2 (nn + 1) (
ck x3 (nn + 1) (
nmd (((o23_1 - (b50 x2.toNatClampNeg)) - (b51 x3.toNatClampNeg))) fun v40_4 =>
ck x3 (nn + 1) (
(if (a25 x3.toNatClampNeg) = (0 : Int32) then
ck x3 (nn + 1) (
(if (b52' x3.toNatClampNeg) ≤ v40_4 then
nx9 x1 x2 (x3 + (1 : Int32)) a24' b52'
else
ck x3 (nn + 1) (
nmd (vp_updL b52' x3.toNatClampNeg v40_4) fun w70_8 =>
ck x3 (nn + 1) (
nmd (upd a24' x3.toNatClampNeg x1) fun w77_10 =>
nx9 x1 x2 (x3 + (1 : Int32)) w77_10 w70_8))))
else
nx9 x1 x2 (x3 + (1 : Int32)) a24' b52')))))
def f_X0_lowerSlackFrom (N : Nat) (nn : Nat) (i0 : Int32) (a23 : Nat → Int32) (a25 : Nat → Int32) (b50 : Nat → Int64) (b51 : Nat → Int64) (g0 : Nat → Nat → Int32) (a24 : Nat → Int32) (b52 : Nat → Int64) (p1 : Int32) : Option ((Nat → Int32) × (Nat → Int64)) :=
ck p1 (nn + 1) (
lq5 (f_X0_lowerSlackFrom_9 N nn i0 a23 a25 b50 b51 g0 ) N p1 (a23 p1.toNatClampNeg) (1 : Int32) a24 b52)
set_option maxHeartbeats 4000000 in
set_option maxRecDepth 100000 in
theorem s_X0_lowerSlackFrom_9 {p : Program} {l : Launch} {e : Env} {s : State} {m : MethodId} {args : Array Value} {below : List Frame} {meth : Method} {c : Code} {D : va_G} {y : Nat → ClassId} {nn : Nat} {ad : Nat → Nat} {A0 : Nat → Prop} {I : Nat → Int32} {J : Nat → Int64} {A : Nat → Nat → Int32} {B : Nat → Nat → Int64} {G : Nat → Nat → Nat → Int32} (F : Fx p s m args meth c cX0_lowerSlackFrom 6 wsX0_lowerSlackFrom RX0 D y A0) (hr : meth.sig.returnType = none) {out : (Nat → Int32) × (Nat → Int64)} {N : Nat}  (nx9 : Int32 → Int32 → Int32 → (Nat → Int32) → (Nat → Int64) → Option ((Nat → Int32) × (Nat → Int64))) (hn9 : ∀ (x1 : Int32) (x2 : Int32) (x3 : Int32) (a24' : Nat → Int32) (b52' : Nat → Int64) (ls : Array Slot) (H : Heap) (locs : List Loc), nx9 x1 x2 x3 a24' b52' = some out → MM D y nn ad A0 s.heap I J (va_up A 24 a24') (va_up B 52 b52') G H locs → lv_has ls 6 [(0, .ref (ad 3)), (1, .int x1), (2, .int x2), (3, .int x3)] → W p l e ({ frames := 1, cells := 0, slots := 0, locals := 23 } : Room) s m args below meth c H locs 0 0 (MQ below (mQv D y nn ad A0 (I, J, (va_up A 24 out.1), (va_up B 52 out.2), G)) args s 0 0 A0) (F0 m 9 ls [])) : ∀ (x1 : Int32) (x2 : Int32) (x3 : Int32) (a24' : Nat → Int32) (b52' : Nat → Int64) (ls : Array Slot) (H : Heap) (locs : List Loc), f_X0_lowerSlackFrom_9 N nn (I 0) (A 23) (A 25) (B 50) (B 51) (G 0)  nx9 x1 x2 x3 a24' b52' = some out → MM D y nn ad A0 s.heap I J (va_up A 24 a24') (va_up B 52 b52') G H locs → lv_has ls 6 [(0, .ref (ad 3)), (1, .int x1), (2, .int x2), (3, .int x3)] → W p l e ({ frames := 1, cells := 0, slots := 0, locals := 23 } : Room) s m args below meth c H locs 0 0 (MQ below (mQv D y nn ad A0 (I, J, (va_up A 24 out.1), (va_up B 52 out.2), G)) args s 0 0 A0) (F0 m 9 ls []) := by
  intro x1 x2 x3 a24' b52' ls H locs hE hM hl
  have hx := F.1.1
  have hb := F.1.2.1
  unfold f_X0_lowerSlackFrom_9 at hE
  refine lv_iload_n hx hb dX0_lowerSlackFrom_9 rfl (lv_at hl 3 rfl) ?_
  refine lv_aload_n hx hb dX0_lowerSlackFrom_10 rfl (lv_at hl 0 rfl) ?_
  refine m_get F hM 3 mg_3 rfl 0 (by decide) (by decide +kernel) (by decide +kernel) (v := .ref (ad 1)) rfl dX0_lowerSlackFrom_11 ?_
  refine m_getN F hM 1 mg_1 rfl 0 (by decide) (by decide +kernel) (by decide +kernel) (v := .int (I 0)) rfl dX0_lowerSlackFrom_14 ?_
  refine lv_icmp_gt (tgt := 84) hx hb dX0_lowerSlackFrom_17 (by decide) (fun c17 => ?_) (fun c17 => ?_)
  · replace hE := (if_pos c17).symm.trans hE
    obtain rfl := Option.some.inj hE
    exact m_vret F hM hr rfl dX0_lowerSlackFrom_84
  · replace hE := (if_neg c17).symm.trans hE
    refine lv_aload_n hx hb dX0_lowerSlackFrom_20 rfl (lv_at hl 0 rfl) ?_
    refine lv_iload_n hx hb dX0_lowerSlackFrom_21 rfl (lv_at hl 2 rfl) ?_
    refine lv_iload_n hx hb dX0_lowerSlackFrom_22 rfl (lv_at hl 3 rfl) ?_
    obtain ⟨o23_1, ho23_1, hE⟩ := bd_some hE
    refine m_callVl (As := [.int x2, .int x3]) (I2 := I) (J2 := J) (A2 := (va_up A 24 a24')) (B2 := (va_up B 52 b52')) (G2 := G) F hM (c_X0_cost l D y nn ad H.size I J (va_up A 24 a24') (va_up B 52 b52') G x2 x3  o23_1 ho23_1) (cwV 2 F.1.2.2.2.2 gX0_lowerSlackFrom_X0_cost rfl rfl rfl (by decide +kernel) ⟨Nat.le_of_ble_eq_true rfl, Nat.le_of_ble_eq_true rfl⟩) (m_recv F hM mg_3 rfl) rfl hl.1 (Nat.le_of_ble_eq_true rfl) dX0_lowerSlackFrom_23 ⟨Nat.le_refl 0, Nat.le_refl 0⟩ rfl rfl rfl rfl rfl (fun H locs hM => ?_)
    refine lv_aload_n hx hb dX0_lowerSlackFrom_26 rfl (lv_at hl 0 rfl) ?_
    refine m_get F hM 3 mg_3 rfl 1 (by decide) (by decide +kernel) (by decide +kernel) (v := .ref (ad 50)) rfl dX0_lowerSlackFrom_27 ?_
    refine lv_iload_n hx hb dX0_lowerSlackFrom_30 rfl (lv_at hl 2 rfl) ?_
    obtain ⟨hi31_2, hE⟩ := ck_some hE
    refine m_lald (g := (B 50)) F hM mg_50 rfl hi31_2 dX0_lowerSlackFrom_31 ?_
    refine lv_lsub hx hb dX0_lowerSlackFrom_32 ?_
    refine lv_aload_n hx hb dX0_lowerSlackFrom_33 rfl (lv_at hl 0 rfl) ?_
    refine m_get F hM 3 mg_3 rfl 2 (by decide) (by decide +kernel) (by decide +kernel) (v := .ref (ad 51)) rfl dX0_lowerSlackFrom_34 ?_
    refine lv_iload_n hx hb dX0_lowerSlackFrom_37 rfl (lv_at hl 3 rfl) ?_
    obtain ⟨hi38_3, hE⟩ := ck_some hE
    refine m_lald (g := (B 51)) F hM mg_51 rfl hi38_3 dX0_lowerSlackFrom_38 ?_
    refine lv_lsub hx hb dX0_lowerSlackFrom_39 ?_
    obtain ⟨v40_4, ev40_4, hE⟩ := nmd_some hE
    refine m_topl ev40_4 ?_
    refine lv_lstore (lv' := [(4, .long v40_4), (0, .ref (ad 3)), (1, .int x1), (2, .int x2), (3, .int x3)]) hx hb dX0_lowerSlackFrom_40 hl (by decide) rfl (fun ls hl => ?_)
    refine lv_aload_n hx hb dX0_lowerSlackFrom_42 rfl (lv_at hl 1 rfl) ?_
    refine m_get F hM 3 mg_3 rfl 6 (by decide) (by decide +kernel) (by decide +kernel) (v := .ref (ad 25)) rfl dX0_lowerSlackFrom_43 ?_
    refine lv_iload_n hx hb dX0_lowerSlackFrom_46 rfl (lv_at hl 4 rfl) ?_
    obtain ⟨hi47_5, hE⟩ := ck_some hE
    refine m_zald (g := (A 25)) F hM mg_25 rfl hi47_5 dX0_lowerSlackFrom_47 ?_
    refine lv_if_ne (tgt := 78) hx hb dX0_lowerSlackFrom_48 (by decide) (fun c48 => ?_) (fun c48 => ?_)
    · replace hE := (if_neg c48).symm.trans hE
      refine lv_iinc (v := x3 + (1 : Int32)) (lv' := [(3, .int (x3 + (1 : Int32))), (4, .long v40_4), (0, .ref (ad 3)), (1, .int x1), (2, .int x2)]) hx hb dX0_lowerSlackFrom_78 hl (k := 4) rfl rfl (by decide) rfl (fun ls hl => ?_)
      refine lv_goto (tgt := 9) hx hb dX0_lowerSlackFrom_81 (by decide) ?_
      exact hn9 x1 x2 (x3 + (1 : Int32)) a24' b52' ls H locs hE hM (lv_sub hl [2, 3, 4, 0] rfl)
    · replace hE := (if_pos c48).symm.trans hE
      refine lv_lload hx hb dX0_lowerSlackFrom_51 (lv_at hl 0 rfl) ?_
      refine lv_aload_n hx hb dX0_lowerSlackFrom_53 rfl (lv_at hl 1 rfl) ?_
      refine m_get F hM 3 mg_3 rfl 3 (by decide) (by decide +kernel) (by decide +kernel) (v := .ref (ad 52)) rfl dX0_lowerSlackFrom_54 ?_
      refine lv_iload_n hx hb dX0_lowerSlackFrom_57 rfl (lv_at hl 4 rfl) ?_
      obtain ⟨hi58_6, hE⟩ := ck_some hE
      refine m_lald (g := b52') F hM mg_52 rfl hi58_6 dX0_lowerSlackFrom_58 ?_
      refine m_lge (tgt := 78) F dX0_lowerSlackFrom_59 dX0_lowerSlackFrom_60 (by decide) (fun c60 => ?_) (fun c60 => ?_)
      · replace hE := (if_pos c60).symm.trans hE
        refine lv_iinc (v := x3 + (1 : Int32)) (lv' := [(3, .int (x3 + (1 : Int32))), (4, .long v40_4), (0, .ref (ad 3)), (1, .int x1), (2, .int x2)]) hx hb dX0_lowerSlackFrom_78 hl (k := 4) rfl rfl (by decide) rfl (fun ls hl => ?_)
        refine lv_goto (tgt := 9) hx hb dX0_lowerSlackFrom_81 (by decide) ?_
        exact hn9 x1 x2 (x3 + (1 : Int32)) a24' b52' ls H locs hE hM (lv_sub hl [2, 3, 4, 0] rfl)
      · replace hE := (if_neg c60).symm.trans hE
        refine lv_aload_n hx hb dX0_lowerSlackFrom_63 rfl (lv_at hl 1 rfl) ?_
        refine m_get F hM 3 mg_3 rfl 3 (by decide) (by decide +kernel) (by decide +kernel) (v := .ref (ad 52)) rfl dX0_lowerSlackFrom_64 ?_
        refine lv_iload_n hx hb dX0_lowerSlackFrom_67 rfl (lv_at hl 4 rfl) ?_
        refine lv_lload hx hb dX0_lowerSlackFrom_68 (lv_at hl 0 rfl) ?_
        obtain ⟨hi70_7, hE⟩ := ck_some hE
        obtain ⟨w70_8, ew70_8, hE⟩ := nmd_some hE
        refine m_last (f := b52') (B' := (va_up B 52 w70_8)) F hM mg_52 ms_52 (by rw [ew70_8]; exact (bx_uu _ _ _ _)) hi70_7 dX0_lowerSlackFrom_70 (fun H locs hM => ?_)
        refine lv_aload_n hx hb dX0_lowerSlackFrom_71 rfl (lv_at hl 1 rfl) ?_
        refine m_get F hM 3 mg_3 rfl 5 (by decide) (by decide +kernel) (by decide +kernel) (v := .ref (ad 24)) rfl dX0_lowerSlackFrom_72 ?_
        refine lv_iload_n hx hb dX0_lowerSlackFrom_75 rfl (lv_at hl 4 rfl) ?_
        refine lv_iload_n hx hb dX0_lowerSlackFrom_76 rfl (lv_at hl 2 rfl) ?_
        obtain ⟨hi77_9, hE⟩ := ck_some hE
        obtain ⟨w77_10, ew77_10, hE⟩ := nmd_some hE
        refine m_iast (f := a24') (A' := (va_up A 24 w77_10)) F hM mg_24 ms_24 (by rw [ew77_10]; exact (bx_uu _ _ _ _)) hi77_9 dX0_lowerSlackFrom_77 (fun H locs hM => ?_)
        refine lv_iinc (v := x3 + (1 : Int32)) (lv' := [(3, .int (x3 + (1 : Int32))), (4, .long v40_4), (0, .ref (ad 3)), (1, .int x1), (2, .int x2)]) hx hb dX0_lowerSlackFrom_78 hl (k := 4) rfl rfl (by decide) rfl (fun ls hl => ?_)
        refine lv_goto (tgt := 9) hx hb dX0_lowerSlackFrom_81 (by decide) ?_
        exact hn9 x1 x2 (x3 + (1 : Int32)) w77_10 w70_8 ls H locs hE hM (lv_sub hl [2, 3, 4, 0] rfl)
theorem k_X0_lowerSlackFrom_9 {p : Program} {l : Launch} {e : Env} {s : State} {m : MethodId} {args : Array Value} {below : List Frame} {meth : Method} {c : Code} {D : va_G} {y : Nat → ClassId} {nn : Nat} {ad : Nat → Nat} {A0 : Nat → Prop} {I : Nat → Int32} {J : Nat → Int64} {A : Nat → Nat → Int32} {B : Nat → Nat → Int64} {G : Nat → Nat → Nat → Int32} (F : Fx p s m args meth c cX0_lowerSlackFrom 6 wsX0_lowerSlackFrom RX0 D y A0) (hr : meth.sig.returnType = none) {out : (Nat → Int32) × (Nat → Int64)} {N : Nat}  : ∀ (n : Nat), ∀ (x1 : Int32) (x2 : Int32) (x3 : Int32) (a24' : Nat → Int32) (b52' : Nat → Int64) (ls : Array Slot) (H : Heap) (locs : List Loc), lq5 (f_X0_lowerSlackFrom_9 N nn (I 0) (A 23) (A 25) (B 50) (B 51) (G 0) ) n x1 x2 x3 a24' b52' = some out → MM D y nn ad A0 s.heap I J (va_up A 24 a24') (va_up B 52 b52') G H locs → lv_has ls 6 [(0, .ref (ad 3)), (1, .int x1), (2, .int x2), (3, .int x3)] → W p l e ({ frames := 1, cells := 0, slots := 0, locals := 23 } : Room) s m args below meth c H locs 0 0 (MQ below (mQv D y nn ad A0 (I, J, (va_up A 24 out.1), (va_up B 52 out.2), G)) args s 0 0 A0) (F0 m 9 ls []) := by
  intro n
  induction n with
  | zero =>
    intro x1 x2 x3 a24' b52' ls H locs hE
    cases (show (none : Option _) = some out from hE)
  | succ n ih =>
    intro x1 x2 x3 a24' b52' ls H locs hE hM hl
    exact s_X0_lowerSlackFrom_9 F hr (N := N)  (lq5 (f_X0_lowerSlackFrom_9 N nn (I 0) (A 23) (A 25) (B 50) (B 51) (G 0) ) n) ih x1 x2 x3 a24' b52' ls H locs hE hM hl
set_option maxHeartbeats 4000000 in
set_option maxRecDepth 100000 in
theorem c_X0_lowerSlackFrom (l : Launch) (D : va_G) (y : Nat → ClassId) (nn : Nat) (ad : Nat → Nat) (sz : Nat) (I : Nat → Int32) (J : Nat → Int64) (A : Nat → Nat → Int32) (B : Nat → Nat → Int64) (G : Nat → Nat → Nat → Int32) (p1 : Int32) (N : Nat) (out : (Nat → Int32) × (Nat → Int64)) (hE : f_X0_lowerSlackFrom N nn (I 0) (A 23) (A 25) (B 50) (B 51) (G 0) (A 24) (B 52) p1 = some out) : Met l yX0_lowerSlackFrom wsX0_lowerSlackFrom ({ frames := 1, cells := 0, slots := 0, locals := 23 } : Room) (mPc [.ref (ad 3), .int p1] D y nn ad sz I J A B G) (mQv D y nn ad (mA y nn ad I J A B G sz) (I, J, (va_up A 24 out.1), (va_up B 52 out.2), G)) 0 0 (mA y nn ad I J A B G sz) := by
  refine Met.ofW (cc := cX0_lowerSlackFrom) (maxL := 6) (ret := none) (by decide) rfl ?_
  intro p e s m args below meth c s₁ Bd hml hv
  obtain ⟨rfl, hsz, hP, hK, hD0, hN⟩ := hv
  have hr := Bd.returns
  subst hsz
  have F : Fx p s m ([.ref (ad 3), .int p1] : List Value).toArray meth c cX0_lowerSlackFrom 6 wsX0_lowerSlackFrom RX0 D y (mA y nn ad I J A B G s.heap.size) := ⟨⟨Bd.exec, Bd.bytes, hml, findClass_of_methodNamed Bd.named, atoms_spec (ws := wsX0_lowerSlackFrom) Bd.pre⟩, hK, hN, fun q h => Or.inr h, Bd.notSynchronized⟩
  have hM := m_start (s := s) rfl hP hD0
  have hM := m_mem (I2 := I) (J2 := J) (A2 := (va_up A 24 (A 24))) (B2 := (va_up B 52 (B 52))) (G2 := G) hM (by rfl) (by rfl) (by simp only [up_id]) (by simp only [up_id]) (by rfl)
  have hx := F.1.1
  have hb := F.1.2.1
  have hl := lv_entry ([.ref (ad 3), .int p1]) (n := 6) (Nat.le_of_ble_eq_true rfl)
  rw [lg_entry_eq]
  generalize (lg_sl ([.ref (ad 3), .int p1]) ++ List.replicate (6 - (lg_sl ([.ref (ad 3), .int p1])).length) Slot.unset).toArray = ls at hl ⊢
  have hl : lv_has ls 6 [(0, .ref (ad 3)), (1, .int p1)] := hl
  show W p l e ({ frames := 1, cells := 0, slots := 0, locals := 23 } : Room) s m _ below meth c s.heap [] 0 0 _ _
  obtain ⟨locs, hlo⟩ : ∃ locs : List Loc, locs = [] := ⟨_, rfl⟩
  rw [← hlo]; rw [← hlo] at hM
  unfold f_X0_lowerSlackFrom at hE
  revert hM
  suffices hH : ∀ H : Heap, MM D y nn ad (mA y nn ad I J A B G s.heap.size) s.heap I J (va_up A 24 (A 24)) (va_up B 52 (B 52)) G H locs → W p l e ({ frames := 1, cells := 0, slots := 0, locals := 23 } : Room) s m ([.ref (ad 3), .int p1] : List Value).toArray below meth c H locs 0 0 (MQ below (mQv D y nn ad (mA y nn ad I J A B G s.heap.size) (I, J, (va_up A 24 out.1), (va_up B 52 out.2), G)) ([.ref (ad 3), .int p1] : List Value).toArray s 0 0 (mA y nn ad I J A B G s.heap.size)) (F0 m 0 ls []) from hH s.heap
  intro H hM
  refine lv_aload_n hx hb dX0_lowerSlackFrom_0 rfl (lv_at hl 0 rfl) ?_
  refine m_get F hM 3 mg_3 rfl 4 (by decide) (by decide +kernel) (by decide +kernel) (v := .ref (ad 23)) rfl dX0_lowerSlackFrom_1 ?_
  refine lv_iload_n hx hb dX0_lowerSlackFrom_4 rfl (lv_at hl 1 rfl) ?_
  obtain ⟨hi5_0, hE⟩ := ck_some hE
  refine m_iald (g := (A 23)) F hM mg_23 rfl hi5_0 dX0_lowerSlackFrom_5 ?_
  refine lv_istore_n (lv' := [(2, .int ((A 23) p1.toNatClampNeg)), (0, .ref (ad 3)), (1, .int p1)]) hx hb dX0_lowerSlackFrom_6 rfl hl (by decide) rfl (fun ls hl => ?_)
  refine lv_iconst (v := 1) hx hb dX0_lowerSlackFrom_7 (by decide) ?_
  refine lv_istore_n (lv' := [(3, .int (1 : Int32)), (2, .int ((A 23) p1.toNatClampNeg)), (0, .ref (ad 3)), (1, .int p1)]) hx hb dX0_lowerSlackFrom_8 rfl hl (by decide) rfl (fun ls hl => ?_)
  exact k_X0_lowerSlackFrom_9 F hr (N := N)  N p1 ((A 23) p1.toNatClampNeg) (1 : Int32) (A 24) (B 52) ls H locs hE hM (lv_sub hl [2, 3, 1, 0] rfl)
/-! ===== X0_nearestColumn: reads I0 A25 B52, writes , frames 0, locals 0 ===== -/
def f_X0_nearestColumn_4 (N : Nat) (nn : Nat) (i0 : Int32) (a25 : Nat → Int32) (b52 : Nat → Int64)  (nx4 : Int32 → Int32 → Option (Int32)) (x1 : Int32) (x2 : Int32) : Option (Int32) :=
(if i0 < x2 then
some x1
else
ck x2 (nn + 1) (
(if (a25 x2.toNatClampNeg) = (0 : Int32) then
(if x1 = (0 : Int32) then
nx4 x2 (x2 + (1 : Int32))
else
ck x2 (nn + 1) (
ck x1 (nn + 1) (
(if (b52 x1.toNatClampNeg) ≤ (b52 x2.toNatClampNeg) then
nx4 x1 (x2 + (1 : Int32))
else
nx4 x2 (x2 + (1 : Int32))))))
else
nx4 x1 (x2 + (1 : Int32)))))
def f_X0_nearestColumn (N : Nat) (nn : Nat) (i0 : Int32) (a25 : Nat → Int32) (b52 : Nat → Int64)   : Option (Int32) :=
lq2 (f_X0_nearestColumn_4 N nn i0 a25 b52 ) N (0 : Int32) (1 : Int32)
set_option maxHeartbeats 4000000 in
set_option maxRecDepth 100000 in
theorem s_X0_nearestColumn_4 {p : Program} {l : Launch} {e : Env} {s : State} {m : MethodId} {args : Array Value} {below : List Frame} {meth : Method} {c : Code} {D : va_G} {y : Nat → ClassId} {nn : Nat} {ad : Nat → Nat} {A0 : Nat → Prop} {I : Nat → Int32} {J : Nat → Int64} {A : Nat → Nat → Int32} {B : Nat → Nat → Int64} {G : Nat → Nat → Nat → Int32} (F : Fx p s m args meth c cX0_nearestColumn 3 wsX0_nearestColumn RX0 D y A0) (hr : meth.sig.returnType = (some .int)) {out : Int32} {N : Nat}  (nx4 : Int32 → Int32 → Option (Int32)) (hn4 : ∀ (x1 : Int32) (x2 : Int32) (ls : Array Slot) (H : Heap) (locs : List Loc), nx4 x1 x2 = some out → MM D y nn ad A0 s.heap I J A B G H locs → lv_has ls 3 [(0, .ref (ad 3)), (1, .int x1), (2, .int x2)] → W p l e ({ frames := 0, cells := 0, slots := 0, locals := 0 } : Room) s m args below meth c H locs 0 0 (MQ below (mQi D y nn ad A0 out (I, J, A, B, G)) args s 0 0 A0) (F0 m 4 ls [])) : ∀ (x1 : Int32) (x2 : Int32) (ls : Array Slot) (H : Heap) (locs : List Loc), f_X0_nearestColumn_4 N nn (I 0) (A 25) (B 52)  nx4 x1 x2 = some out → MM D y nn ad A0 s.heap I J A B G H locs → lv_has ls 3 [(0, .ref (ad 3)), (1, .int x1), (2, .int x2)] → W p l e ({ frames := 0, cells := 0, slots := 0, locals := 0 } : Room) s m args below meth c H locs 0 0 (MQ below (mQi D y nn ad A0 out (I, J, A, B, G)) args s 0 0 A0) (F0 m 4 ls []) := by
  intro x1 x2 ls H locs hE hM hl
  have hx := F.1.1
  have hb := F.1.2.1
  unfold f_X0_nearestColumn_4 at hE
  refine lv_iload_n hx hb dX0_nearestColumn_4 rfl (lv_at hl 2 rfl) ?_
  refine lv_aload_n hx hb dX0_nearestColumn_5 rfl (lv_at hl 0 rfl) ?_
  refine m_get F hM 3 mg_3 rfl 0 (by decide) (by decide +kernel) (by decide +kernel) (v := .ref (ad 1)) rfl dX0_nearestColumn_6 ?_
  refine m_getN F hM 1 mg_1 rfl 0 (by decide) (by decide +kernel) (by decide +kernel) (v := .int (I 0)) rfl dX0_nearestColumn_9 ?_
  refine lv_icmp_gt (tgt := 52) hx hb dX0_nearestColumn_12 (by decide) (fun c12 => ?_) (fun c12 => ?_)
  · replace hE := (if_pos c12).symm.trans hE
    refine lv_iload_n hx hb dX0_nearestColumn_52 rfl (lv_at hl 1 rfl) ?_
    obtain rfl := Option.some.inj hE
    exact m_iret F hM hr rfl rfl dX0_nearestColumn_53
  · replace hE := (if_neg c12).symm.trans hE
    refine lv_aload_n hx hb dX0_nearestColumn_15 rfl (lv_at hl 0 rfl) ?_
    refine m_get F hM 3 mg_3 rfl 6 (by decide) (by decide +kernel) (by decide +kernel) (v := .ref (ad 25)) rfl dX0_nearestColumn_16 ?_
    refine lv_iload_n hx hb dX0_nearestColumn_19 rfl (lv_at hl 2 rfl) ?_
    obtain ⟨hi20_0, hE⟩ := ck_some hE
    refine m_zald (g := (A 25)) F hM mg_25 rfl hi20_0 dX0_nearestColumn_20 ?_
    refine lv_if_ne (tgt := 46) hx hb dX0_nearestColumn_21 (by decide) (fun c21 => ?_) (fun c21 => ?_)
    · replace hE := (if_neg c21).symm.trans hE
      refine lv_iinc (v := x2 + (1 : Int32)) (lv' := [(2, .int (x2 + (1 : Int32))), (0, .ref (ad 3)), (1, .int x1)]) hx hb dX0_nearestColumn_46 hl (k := 2) rfl rfl (by decide) rfl (fun ls hl => ?_)
      refine lv_goto (tgt := 4) hx hb dX0_nearestColumn_49 (by decide) ?_
      exact hn4 x1 (x2 + (1 : Int32)) ls H locs hE hM (lv_sub hl [1, 2, 0] rfl)
    · replace hE := (if_pos c21).symm.trans hE
      refine lv_iload_n hx hb dX0_nearestColumn_24 rfl (lv_at hl 1 rfl) ?_
      refine lv_if_eq (tgt := 44) hx hb dX0_nearestColumn_25 (by decide) (fun c25 => ?_) (fun c25 => ?_)
      · replace hE := (if_pos c25).symm.trans hE
        refine lv_iload_n hx hb dX0_nearestColumn_44 rfl (lv_at hl 2 rfl) ?_
        refine lv_istore_n (lv' := [(1, .int x2), (0, .ref (ad 3)), (2, .int x2)]) hx hb dX0_nearestColumn_45 rfl hl (by decide) rfl (fun ls hl => ?_)
        refine lv_iinc (v := x2 + (1 : Int32)) (lv' := [(2, .int (x2 + (1 : Int32))), (1, .int x2), (0, .ref (ad 3))]) hx hb dX0_nearestColumn_46 hl (k := 2) rfl rfl (by decide) rfl (fun ls hl => ?_)
        refine lv_goto (tgt := 4) hx hb dX0_nearestColumn_49 (by decide) ?_
        exact hn4 x2 (x2 + (1 : Int32)) ls H locs hE hM (lv_sub hl [2, 1, 0] rfl)
      · replace hE := (if_neg c25).symm.trans hE
        refine lv_aload_n hx hb dX0_nearestColumn_28 rfl (lv_at hl 0 rfl) ?_
        refine m_get F hM 3 mg_3 rfl 3 (by decide) (by decide +kernel) (by decide +kernel) (v := .ref (ad 52)) rfl dX0_nearestColumn_29 ?_
        refine lv_iload_n hx hb dX0_nearestColumn_32 rfl (lv_at hl 2 rfl) ?_
        obtain ⟨hi33_1, hE⟩ := ck_some hE
        refine m_lald (g := (B 52)) F hM mg_52 rfl hi33_1 dX0_nearestColumn_33 ?_
        refine lv_aload_n hx hb dX0_nearestColumn_34 rfl (lv_at hl 0 rfl) ?_
        refine m_get F hM 3 mg_3 rfl 3 (by decide) (by decide +kernel) (by decide +kernel) (v := .ref (ad 52)) rfl dX0_nearestColumn_35 ?_
        refine lv_iload_n hx hb dX0_nearestColumn_38 rfl (lv_at hl 1 rfl) ?_
        obtain ⟨hi39_2, hE⟩ := ck_some hE
        refine m_lald (g := (B 52)) F hM mg_52 rfl hi39_2 dX0_nearestColumn_39 ?_
        refine m_lge (tgt := 46) F dX0_nearestColumn_40 dX0_nearestColumn_41 (by decide) (fun c41 => ?_) (fun c41 => ?_)
        · replace hE := (if_pos c41).symm.trans hE
          refine lv_iinc (v := x2 + (1 : Int32)) (lv' := [(2, .int (x2 + (1 : Int32))), (0, .ref (ad 3)), (1, .int x1)]) hx hb dX0_nearestColumn_46 hl (k := 2) rfl rfl (by decide) rfl (fun ls hl => ?_)
          refine lv_goto (tgt := 4) hx hb dX0_nearestColumn_49 (by decide) ?_
          exact hn4 x1 (x2 + (1 : Int32)) ls H locs hE hM (lv_sub hl [1, 2, 0] rfl)
        · replace hE := (if_neg c41).symm.trans hE
          refine lv_iload_n hx hb dX0_nearestColumn_44 rfl (lv_at hl 2 rfl) ?_
          refine lv_istore_n (lv' := [(1, .int x2), (0, .ref (ad 3)), (2, .int x2)]) hx hb dX0_nearestColumn_45 rfl hl (by decide) rfl (fun ls hl => ?_)
          refine lv_iinc (v := x2 + (1 : Int32)) (lv' := [(2, .int (x2 + (1 : Int32))), (1, .int x2), (0, .ref (ad 3))]) hx hb dX0_nearestColumn_46 hl (k := 2) rfl rfl (by decide) rfl (fun ls hl => ?_)
          refine lv_goto (tgt := 4) hx hb dX0_nearestColumn_49 (by decide) ?_
          exact hn4 x2 (x2 + (1 : Int32)) ls H locs hE hM (lv_sub hl [2, 1, 0] rfl)
theorem k_X0_nearestColumn_4 {p : Program} {l : Launch} {e : Env} {s : State} {m : MethodId} {args : Array Value} {below : List Frame} {meth : Method} {c : Code} {D : va_G} {y : Nat → ClassId} {nn : Nat} {ad : Nat → Nat} {A0 : Nat → Prop} {I : Nat → Int32} {J : Nat → Int64} {A : Nat → Nat → Int32} {B : Nat → Nat → Int64} {G : Nat → Nat → Nat → Int32} (F : Fx p s m args meth c cX0_nearestColumn 3 wsX0_nearestColumn RX0 D y A0) (hr : meth.sig.returnType = (some .int)) {out : Int32} {N : Nat}  : ∀ (n : Nat), ∀ (x1 : Int32) (x2 : Int32) (ls : Array Slot) (H : Heap) (locs : List Loc), lq2 (f_X0_nearestColumn_4 N nn (I 0) (A 25) (B 52) ) n x1 x2 = some out → MM D y nn ad A0 s.heap I J A B G H locs → lv_has ls 3 [(0, .ref (ad 3)), (1, .int x1), (2, .int x2)] → W p l e ({ frames := 0, cells := 0, slots := 0, locals := 0 } : Room) s m args below meth c H locs 0 0 (MQ below (mQi D y nn ad A0 out (I, J, A, B, G)) args s 0 0 A0) (F0 m 4 ls []) := by
  intro n
  induction n with
  | zero =>
    intro x1 x2 ls H locs hE
    cases (show (none : Option _) = some out from hE)
  | succ n ih =>
    intro x1 x2 ls H locs hE hM hl
    exact s_X0_nearestColumn_4 F hr (N := N)  (lq2 (f_X0_nearestColumn_4 N nn (I 0) (A 25) (B 52) ) n) ih x1 x2 ls H locs hE hM hl
set_option maxHeartbeats 4000000 in
set_option maxRecDepth 100000 in
theorem c_X0_nearestColumn (l : Launch) (D : va_G) (y : Nat → ClassId) (nn : Nat) (ad : Nat → Nat) (sz : Nat) (I : Nat → Int32) (J : Nat → Int64) (A : Nat → Nat → Int32) (B : Nat → Nat → Int64) (G : Nat → Nat → Nat → Int32)  (N : Nat) (out : Int32) (hE : f_X0_nearestColumn N nn (I 0) (A 25) (B 52)   = some out) : Met l yX0_nearestColumn wsX0_nearestColumn ({ frames := 0, cells := 0, slots := 0, locals := 0 } : Room) (mPc [.ref (ad 3)] D y nn ad sz I J A B G) (mQi D y nn ad (mA y nn ad I J A B G sz) out (I, J, A, B, G)) 0 0 (mA y nn ad I J A B G sz) := by
  refine Met.ofW (cc := cX0_nearestColumn) (maxL := 3) (ret := (some .int)) (by decide) rfl ?_
  intro p e s m args below meth c s₁ Bd hml hv
  obtain ⟨rfl, hsz, hP, hK, hD0, hN⟩ := hv
  have hr := Bd.returns
  subst hsz
  have F : Fx p s m ([.ref (ad 3)] : List Value).toArray meth c cX0_nearestColumn 3 wsX0_nearestColumn RX0 D y (mA y nn ad I J A B G s.heap.size) := ⟨⟨Bd.exec, Bd.bytes, hml, findClass_of_methodNamed Bd.named, atoms_spec (ws := wsX0_nearestColumn) Bd.pre⟩, hK, hN, fun q h => Or.inr h, Bd.notSynchronized⟩
  have hM := m_start (s := s) rfl hP hD0
  have hM := m_mem (I2 := I) (J2 := J) (A2 := A) (B2 := B) (G2 := G) hM (by rfl) (by rfl) (by rfl) (by rfl) (by rfl)
  have hx := F.1.1
  have hb := F.1.2.1
  have hl := lv_entry ([.ref (ad 3)]) (n := 3) (Nat.le_of_ble_eq_true rfl)
  rw [lg_entry_eq]
  generalize (lg_sl ([.ref (ad 3)]) ++ List.replicate (3 - (lg_sl ([.ref (ad 3)])).length) Slot.unset).toArray = ls at hl ⊢
  have hl : lv_has ls 3 [(0, .ref (ad 3))] := hl
  show W p l e ({ frames := 0, cells := 0, slots := 0, locals := 0 } : Room) s m _ below meth c s.heap [] 0 0 _ _
  obtain ⟨locs, hlo⟩ : ∃ locs : List Loc, locs = [] := ⟨_, rfl⟩
  rw [← hlo]; rw [← hlo] at hM
  unfold f_X0_nearestColumn at hE
  revert hM
  suffices hH : ∀ H : Heap, MM D y nn ad (mA y nn ad I J A B G s.heap.size) s.heap I J A B G H locs → W p l e ({ frames := 0, cells := 0, slots := 0, locals := 0 } : Room) s m ([.ref (ad 3)] : List Value).toArray below meth c H locs 0 0 (MQ below (mQi D y nn ad (mA y nn ad I J A B G s.heap.size) out (I, J, A, B, G)) ([.ref (ad 3)] : List Value).toArray s 0 0 (mA y nn ad I J A B G s.heap.size)) (F0 m 0 ls []) from hH s.heap
  intro H hM
  refine lv_iconst (v := 0) hx hb dX0_nearestColumn_0 (by decide) ?_
  refine lv_istore_n (lv' := [(1, .int (0 : Int32)), (0, .ref (ad 3))]) hx hb dX0_nearestColumn_1 rfl hl (by decide) rfl (fun ls hl => ?_)
  refine lv_iconst (v := 1) hx hb dX0_nearestColumn_2 (by decide) ?_
  refine lv_istore_n (lv' := [(2, .int (1 : Int32)), (1, .int (0 : Int32)), (0, .ref (ad 3))]) hx hb dX0_nearestColumn_3 rfl hl (by decide) rfl (fun ls hl => ?_)
  exact k_X0_nearestColumn_4 F hr (N := N)  N (0 : Int32) (1 : Int32) ls H locs hE hM (lv_sub hl [2, 1, 0] rfl)
/-! ===== X0_shiftPotentials: reads I0 A23 A25, writes B50 B51 B52, frames 0, locals 0 ===== -/
def f_X0_shiftPotentials_2 (N : Nat) (nn : Nat) (i0 : Int32) (a23 : Nat → Int32) (a25 : Nat → Int32)  (nx2 : Int64 → Int32 → (Nat → Int64) → (Nat → Int64) → (Nat → Int64) → Option ((Nat → Int64) × (Nat → Int64) × (Nat → Int64))) (x1 : Int64) (x3 : Int32) (b50' : Nat → Int64) (b51' : Nat → Int64) (b52' : Nat → Int64) : Option ((Nat → Int64) × (Nat → Int64) × (Nat → Int64)) :=
(if i0 < x3 then
some (b50', b51', b52')
else
ck x3 (nn + 1) (
(if (a25 x3.toNatClampNeg) = (0 : Int32) then
ck x3 (nn + 1) (
ck x3 (nn + 1) (
nmd (vp_updL b52' x3.toNatClampNeg ((b52' x3.toNatClampNeg) - x1)) fun w59_3 =>
nx2 x1 (x3 + (1 : Int32)) b50' b51' w59_3))
else
ck x3 (nn + 1) (
ck (a23 x3.toNatClampNeg) (nn + 1) (
ck (a23 x3.toNatClampNeg) (nn + 1) (
nmd (vp_updL b50' (a23 x3.toNatClampNeg).toNatClampNeg ((b50' (a23 x3.toNatClampNeg).toNatClampNeg) + x1)) fun w36_7 =>
ck x3 (nn + 1) (
ck x3 (nn + 1) (
nmd (vp_updL b51' x3.toNatClampNeg ((b51' x3.toNatClampNeg) - x1)) fun w46_10 =>
nx2 x1 (x3 + (1 : Int32)) w36_7 w46_10 b52'))))))))
def f_X0_shiftPotentials (N : Nat) (nn : Nat) (i0 : Int32) (a23 : Nat → Int32) (a25 : Nat → Int32) (b50 : Nat → Int64) (b51 : Nat → Int64) (b52 : Nat → Int64) (p1 : Int64) : Option ((Nat → Int64) × (Nat → Int64) × (Nat → Int64)) :=
lq5 (f_X0_shiftPotentials_2 N nn i0 a23 a25 ) N p1 (0 : Int32) b50 b51 b52
set_option maxHeartbeats 4000000 in
set_option maxRecDepth 100000 in
theorem s_X0_shiftPotentials_2 {p : Program} {l : Launch} {e : Env} {s : State} {m : MethodId} {args : Array Value} {below : List Frame} {meth : Method} {c : Code} {D : va_G} {y : Nat → ClassId} {nn : Nat} {ad : Nat → Nat} {A0 : Nat → Prop} {I : Nat → Int32} {J : Nat → Int64} {A : Nat → Nat → Int32} {B : Nat → Nat → Int64} {G : Nat → Nat → Nat → Int32} (F : Fx p s m args meth c cX0_shiftPotentials 4 wsX0_shiftPotentials RX0 D y A0) (hr : meth.sig.returnType = none) {out : (Nat → Int64) × (Nat → Int64) × (Nat → Int64)} {N : Nat}  (nx2 : Int64 → Int32 → (Nat → Int64) → (Nat → Int64) → (Nat → Int64) → Option ((Nat → Int64) × (Nat → Int64) × (Nat → Int64))) (hn2 : ∀ (x1 : Int64) (x3 : Int32) (b50' : Nat → Int64) (b51' : Nat → Int64) (b52' : Nat → Int64) (ls : Array Slot) (H : Heap) (locs : List Loc), nx2 x1 x3 b50' b51' b52' = some out → MM D y nn ad A0 s.heap I J A (va_up (va_up (va_up B 50 b50') 51 b51') 52 b52') G H locs → lv_has ls 4 [(0, .ref (ad 3)), (1, .long x1), (3, .int x3)] → W p l e ({ frames := 0, cells := 0, slots := 0, locals := 0 } : Room) s m args below meth c H locs 0 0 (MQ below (mQv D y nn ad A0 (I, J, A, (va_up (va_up (va_up B 50 out.1) 51 out.2.1) 52 out.2.2), G)) args s 0 0 A0) (F0 m 2 ls [])) : ∀ (x1 : Int64) (x3 : Int32) (b50' : Nat → Int64) (b51' : Nat → Int64) (b52' : Nat → Int64) (ls : Array Slot) (H : Heap) (locs : List Loc), f_X0_shiftPotentials_2 N nn (I 0) (A 23) (A 25)  nx2 x1 x3 b50' b51' b52' = some out → MM D y nn ad A0 s.heap I J A (va_up (va_up (va_up B 50 b50') 51 b51') 52 b52') G H locs → lv_has ls 4 [(0, .ref (ad 3)), (1, .long x1), (3, .int x3)] → W p l e ({ frames := 0, cells := 0, slots := 0, locals := 0 } : Room) s m args below meth c H locs 0 0 (MQ below (mQv D y nn ad A0 (I, J, A, (va_up (va_up (va_up B 50 out.1) 51 out.2.1) 52 out.2.2), G)) args s 0 0 A0) (F0 m 2 ls []) := by
  intro x1 x3 b50' b51' b52' ls H locs hE hM hl
  have hx := F.1.1
  have hb := F.1.2.1
  unfold f_X0_shiftPotentials_2 at hE
  refine lv_iload_n hx hb dX0_shiftPotentials_2 rfl (lv_at hl 2 rfl) ?_
  refine lv_aload_n hx hb dX0_shiftPotentials_3 rfl (lv_at hl 0 rfl) ?_
  refine m_get F hM 3 mg_3 rfl 0 (by decide) (by decide +kernel) (by decide +kernel) (v := .ref (ad 1)) rfl dX0_shiftPotentials_4 ?_
  refine m_getN F hM 1 mg_1 rfl 0 (by decide) (by decide +kernel) (by decide +kernel) (v := .int (I 0)) rfl dX0_shiftPotentials_7 ?_
  refine lv_icmp_gt (tgt := 66) hx hb dX0_shiftPotentials_10 (by decide) (fun c10 => ?_) (fun c10 => ?_)
  · replace hE := (if_pos c10).symm.trans hE
    obtain rfl := Option.some.inj hE
    exact m_vret F hM hr rfl dX0_shiftPotentials_66
  · replace hE := (if_neg c10).symm.trans hE
    refine lv_aload_n hx hb dX0_shiftPotentials_13 rfl (lv_at hl 0 rfl) ?_
    refine m_get F hM 3 mg_3 rfl 6 (by decide) (by decide +kernel) (by decide +kernel) (v := .ref (ad 25)) rfl dX0_shiftPotentials_14 ?_
    refine lv_iload_n hx hb dX0_shiftPotentials_17 rfl (lv_at hl 2 rfl) ?_
    obtain ⟨hi18_0, hE⟩ := ck_some hE
    refine m_zald (g := (A 25)) F hM mg_25 rfl hi18_0 dX0_shiftPotentials_18 ?_
    refine lv_if_eq (tgt := 50) hx hb dX0_shiftPotentials_19 (by decide) (fun c19 => ?_) (fun c19 => ?_)
    · replace hE := (if_pos c19).symm.trans hE
      refine lv_aload_n hx hb dX0_shiftPotentials_50 rfl (lv_at hl 0 rfl) ?_
      refine m_get F hM 3 mg_3 rfl 3 (by decide) (by decide +kernel) (by decide +kernel) (v := .ref (ad 52)) rfl dX0_shiftPotentials_51 ?_
      refine lv_iload_n hx hb dX0_shiftPotentials_54 rfl (lv_at hl 2 rfl) ?_
      refine lv_dup2_11 hx hb dX0_shiftPotentials_55 rfl rfl ?_
      obtain ⟨hi56_1, hE⟩ := ck_some hE
      refine m_lald (g := b52') F hM mg_52 rfl hi56_1 dX0_shiftPotentials_56 ?_
      refine lv_lload_n hx hb dX0_shiftPotentials_57 rfl (lv_at hl 1 rfl) ?_
      refine lv_lsub hx hb dX0_shiftPotentials_58 ?_
      obtain ⟨hi59_2, hE⟩ := ck_some hE
      obtain ⟨w59_3, ew59_3, hE⟩ := nmd_some hE
      refine m_last (f := b52') (B' := (va_up (va_up (va_up B 50 b50') 51 b51') 52 w59_3)) F hM mg_52 ms_52 (by rw [ew59_3]; exact un_50_51_52__52) hi59_2 dX0_shiftPotentials_59 (fun H locs hM => ?_)
      refine lv_iinc (v := x3 + (1 : Int32)) (lv' := [(3, .int (x3 + (1 : Int32))), (0, .ref (ad 3)), (1, .long x1)]) hx hb dX0_shiftPotentials_60 hl (k := 2) rfl rfl (by decide) rfl (fun ls hl => ?_)
      refine lv_goto (tgt := 2) hx hb dX0_shiftPotentials_63 (by decide) ?_
      exact hn2 x1 (x3 + (1 : Int32)) b50' b51' w59_3 ls H locs hE hM (lv_sub hl [1, 2, 0] rfl)
    · replace hE := (if_neg c19).symm.trans hE
      refine lv_aload_n hx hb dX0_shiftPotentials_22 rfl (lv_at hl 0 rfl) ?_
      refine m_get F hM 3 mg_3 rfl 1 (by decide) (by decide +kernel) (by decide +kernel) (v := .ref (ad 50)) rfl dX0_shiftPotentials_23 ?_
      refine lv_aload_n hx hb dX0_shiftPotentials_26 rfl (lv_at hl 0 rfl) ?_
      refine m_get F hM 3 mg_3 rfl 4 (by decide) (by decide +kernel) (by decide +kernel) (v := .ref (ad 23)) rfl dX0_shiftPotentials_27 ?_
      refine lv_iload_n hx hb dX0_shiftPotentials_30 rfl (lv_at hl 2 rfl) ?_
      obtain ⟨hi31_4, hE⟩ := ck_some hE
      refine m_iald (g := (A 23)) F hM mg_23 rfl hi31_4 dX0_shiftPotentials_31 ?_
      refine lv_dup2_11 hx hb dX0_shiftPotentials_32 rfl rfl ?_
      obtain ⟨hi33_5, hE⟩ := ck_some hE
      refine m_lald (g := b50') F hM mg_50 rfl hi33_5 dX0_shiftPotentials_33 ?_
      refine lv_lload_n hx hb dX0_shiftPotentials_34 rfl (lv_at hl 1 rfl) ?_
      refine lv_ladd hx hb dX0_shiftPotentials_35 ?_
      obtain ⟨hi36_6, hE⟩ := ck_some hE
      obtain ⟨w36_7, ew36_7, hE⟩ := nmd_some hE
      refine m_last (f := b50') (B' := (va_up (va_up (va_up B 50 w36_7) 51 b51') 52 b52')) F hM mg_50 ms_50 (by rw [ew36_7]; exact un_50_51_52__50) hi36_6 dX0_shiftPotentials_36 (fun H locs hM => ?_)
      refine lv_aload_n hx hb dX0_shiftPotentials_37 rfl (lv_at hl 0 rfl) ?_
      refine m_get F hM 3 mg_3 rfl 2 (by decide) (by decide +kernel) (by decide +kernel) (v := .ref (ad 51)) rfl dX0_shiftPotentials_38 ?_
      refine lv_iload_n hx hb dX0_shiftPotentials_41 rfl (lv_at hl 2 rfl) ?_
      refine lv_dup2_11 hx hb dX0_shiftPotentials_42 rfl rfl ?_
      obtain ⟨hi43_8, hE⟩ := ck_some hE
      refine m_lald (g := b51') F hM mg_51 rfl hi43_8 dX0_shiftPotentials_43 ?_
      refine lv_lload_n hx hb dX0_shiftPotentials_44 rfl (lv_at hl 1 rfl) ?_
      refine lv_lsub hx hb dX0_shiftPotentials_45 ?_
      obtain ⟨hi46_9, hE⟩ := ck_some hE
      obtain ⟨w46_10, ew46_10, hE⟩ := nmd_some hE
      refine m_last (f := b51') (B' := (va_up (va_up (va_up B 50 w36_7) 51 w46_10) 52 b52')) F hM mg_51 ms_51 (by rw [ew46_10]; exact un_50_51_52__51) hi46_9 dX0_shiftPotentials_46 (fun H locs hM => ?_)
      refine lv_goto (tgt := 60) hx hb dX0_shiftPotentials_47 (by decide) ?_
      refine lv_iinc (v := x3 + (1 : Int32)) (lv' := [(3, .int (x3 + (1 : Int32))), (0, .ref (ad 3)), (1, .long x1)]) hx hb dX0_shiftPotentials_60 hl (k := 2) rfl rfl (by decide) rfl (fun ls hl => ?_)
      refine lv_goto (tgt := 2) hx hb dX0_shiftPotentials_63 (by decide) ?_
      exact hn2 x1 (x3 + (1 : Int32)) w36_7 w46_10 b52' ls H locs hE hM (lv_sub hl [1, 2, 0] rfl)
theorem k_X0_shiftPotentials_2 {p : Program} {l : Launch} {e : Env} {s : State} {m : MethodId} {args : Array Value} {below : List Frame} {meth : Method} {c : Code} {D : va_G} {y : Nat → ClassId} {nn : Nat} {ad : Nat → Nat} {A0 : Nat → Prop} {I : Nat → Int32} {J : Nat → Int64} {A : Nat → Nat → Int32} {B : Nat → Nat → Int64} {G : Nat → Nat → Nat → Int32} (F : Fx p s m args meth c cX0_shiftPotentials 4 wsX0_shiftPotentials RX0 D y A0) (hr : meth.sig.returnType = none) {out : (Nat → Int64) × (Nat → Int64) × (Nat → Int64)} {N : Nat}  : ∀ (n : Nat), ∀ (x1 : Int64) (x3 : Int32) (b50' : Nat → Int64) (b51' : Nat → Int64) (b52' : Nat → Int64) (ls : Array Slot) (H : Heap) (locs : List Loc), lq5 (f_X0_shiftPotentials_2 N nn (I 0) (A 23) (A 25) ) n x1 x3 b50' b51' b52' = some out → MM D y nn ad A0 s.heap I J A (va_up (va_up (va_up B 50 b50') 51 b51') 52 b52') G H locs → lv_has ls 4 [(0, .ref (ad 3)), (1, .long x1), (3, .int x3)] → W p l e ({ frames := 0, cells := 0, slots := 0, locals := 0 } : Room) s m args below meth c H locs 0 0 (MQ below (mQv D y nn ad A0 (I, J, A, (va_up (va_up (va_up B 50 out.1) 51 out.2.1) 52 out.2.2), G)) args s 0 0 A0) (F0 m 2 ls []) := by
  intro n
  induction n with
  | zero =>
    intro x1 x3 b50' b51' b52' ls H locs hE
    cases (show (none : Option _) = some out from hE)
  | succ n ih =>
    intro x1 x3 b50' b51' b52' ls H locs hE hM hl
    exact s_X0_shiftPotentials_2 F hr (N := N)  (lq5 (f_X0_shiftPotentials_2 N nn (I 0) (A 23) (A 25) ) n) ih x1 x3 b50' b51' b52' ls H locs hE hM hl
set_option maxHeartbeats 4000000 in
set_option maxRecDepth 100000 in
theorem c_X0_shiftPotentials (l : Launch) (D : va_G) (y : Nat → ClassId) (nn : Nat) (ad : Nat → Nat) (sz : Nat) (I : Nat → Int32) (J : Nat → Int64) (A : Nat → Nat → Int32) (B : Nat → Nat → Int64) (G : Nat → Nat → Nat → Int32) (p1 : Int64) (N : Nat) (out : (Nat → Int64) × (Nat → Int64) × (Nat → Int64)) (hE : f_X0_shiftPotentials N nn (I 0) (A 23) (A 25) (B 50) (B 51) (B 52) p1 = some out) : Met l yX0_shiftPotentials wsX0_shiftPotentials ({ frames := 0, cells := 0, slots := 0, locals := 0 } : Room) (mPc [.ref (ad 3), .long p1] D y nn ad sz I J A B G) (mQv D y nn ad (mA y nn ad I J A B G sz) (I, J, A, (va_up (va_up (va_up B 50 out.1) 51 out.2.1) 52 out.2.2), G)) 0 0 (mA y nn ad I J A B G sz) := by
  refine Met.ofW (cc := cX0_shiftPotentials) (maxL := 4) (ret := none) (by decide) rfl ?_
  intro p e s m args below meth c s₁ Bd hml hv
  obtain ⟨rfl, hsz, hP, hK, hD0, hN⟩ := hv
  have hr := Bd.returns
  subst hsz
  have F : Fx p s m ([.ref (ad 3), .long p1] : List Value).toArray meth c cX0_shiftPotentials 4 wsX0_shiftPotentials RX0 D y (mA y nn ad I J A B G s.heap.size) := ⟨⟨Bd.exec, Bd.bytes, hml, findClass_of_methodNamed Bd.named, atoms_spec (ws := wsX0_shiftPotentials) Bd.pre⟩, hK, hN, fun q h => Or.inr h, Bd.notSynchronized⟩
  have hM := m_start (s := s) rfl hP hD0
  have hM := m_mem (I2 := I) (J2 := J) (A2 := A) (B2 := (va_up (va_up (va_up B 50 (B 50)) 51 (B 51)) 52 (B 52))) (G2 := G) hM (by rfl) (by rfl) (by rfl) (by simp only [up_id]) (by rfl)
  have hx := F.1.1
  have hb := F.1.2.1
  have hl := lv_entry ([.ref (ad 3), .long p1]) (n := 4) (Nat.le_of_ble_eq_true rfl)
  rw [lg_entry_eq]
  generalize (lg_sl ([.ref (ad 3), .long p1]) ++ List.replicate (4 - (lg_sl ([.ref (ad 3), .long p1])).length) Slot.unset).toArray = ls at hl ⊢
  have hl : lv_has ls 4 [(0, .ref (ad 3)), (1, .long p1)] := hl
  show W p l e ({ frames := 0, cells := 0, slots := 0, locals := 0 } : Room) s m _ below meth c s.heap [] 0 0 _ _
  obtain ⟨locs, hlo⟩ : ∃ locs : List Loc, locs = [] := ⟨_, rfl⟩
  rw [← hlo]; rw [← hlo] at hM
  unfold f_X0_shiftPotentials at hE
  revert hM
  suffices hH : ∀ H : Heap, MM D y nn ad (mA y nn ad I J A B G s.heap.size) s.heap I J A (va_up (va_up (va_up B 50 (B 50)) 51 (B 51)) 52 (B 52)) G H locs → W p l e ({ frames := 0, cells := 0, slots := 0, locals := 0 } : Room) s m ([.ref (ad 3), .long p1] : List Value).toArray below meth c H locs 0 0 (MQ below (mQv D y nn ad (mA y nn ad I J A B G s.heap.size) (I, J, A, (va_up (va_up (va_up B 50 out.1) 51 out.2.1) 52 out.2.2), G)) ([.ref (ad 3), .long p1] : List Value).toArray s 0 0 (mA y nn ad I J A B G s.heap.size)) (F0 m 0 ls []) from hH s.heap
  intro H hM
  refine lv_iconst (v := 0) hx hb dX0_shiftPotentials_0 (by decide) ?_
  refine lv_istore_n (lv' := [(3, .int (0 : Int32)), (0, .ref (ad 3)), (1, .long p1)]) hx hb dX0_shiftPotentials_1 rfl hl (by decide) rfl (fun ls hl => ?_)
  exact k_X0_shiftPotentials_2 F hr (N := N)  N p1 (0 : Int32) (B 50) (B 51) (B 52) ls H locs hE hM (lv_sub hl [1, 2, 0] rfl)
/-! ===== X0_findFreeColumn: reads I0 A23 G0, writes A24 A25 B50 B51 B52, frames 2, locals 48 ===== -/
def f_X0_findFreeColumn_46 (N : Nat) (nn : Nat) (i0 : Int32) (a23 : Nat → Int32) (g0 : Nat → Nat → Int32)  (nx46 : Int32 → Int32 → (Nat → Int32) → (Nat → Int32) → (Nat → Int64) → (Nat → Int64) → (Nat → Int64) → Option (Int32 × (Nat → Int32) × (Nat → Int32) × (Nat → Int64) × (Nat → Int64) × (Nat → Int64))) (x1 : Int32) (x2 : Int32) (a24' : Nat → Int32) (a25' : Nat → Int32) (b50' : Nat → Int64) (b51' : Nat → Int64) (b52' : Nat → Int64) : Option (Int32 × (Nat → Int32) × (Nat → Int32) × (Nat → Int64) × (Nat → Int64) × (Nat → Int64)) :=
(if i0 < x2 then
some (x1, a24', a25', b50', b51', b52')
else
ck x1 (nn + 1) (
(if (a23 x1.toNatClampNeg) = (0 : Int32) then
some (x1, a24', a25', b50', b51', b52')
else
ck x1 (nn + 1) (
nmd (upd a25' x1.toNatClampNeg (vp_nar .boolean (1 : Int32))) fun w72_2 =>
bd (f_X0_lowerSlackFrom N nn i0 a23 w72_2 b50' b51' g0 a24' b52' x1) fun o75_3 =>
bd (f_X0_nearestColumn N nn i0 w72_2 o75_3.2) fun o79_4 =>
ck o79_4 (nn + 1) (
bd (f_X0_shiftPotentials N nn i0 a23 w72_2 b50' b51' o75_3.2 (o75_3.2 o79_4.toNatClampNeg)) fun o90_6 =>
nx46 o79_4 (x2 + (1 : Int32)) o75_3.1 w72_2 o90_6.1 o90_6.2.1 o90_6.2.2)))))
def f_X0_findFreeColumn_2 (N : Nat) (nn : Nat) (i0 : Int32) (a23 : Nat → Int32) (g0 : Nat → Nat → Int32)  (nx2 : Int32 → (Nat → Int32) → (Nat → Int32) → (Nat → Int64) → (Nat → Int64) → (Nat → Int64) → Option (Int32 × (Nat → Int32) × (Nat → Int32) × (Nat → Int64) × (Nat → Int64) × (Nat → Int64))) (x1 : Int32) (a24' : Nat → Int32) (a25' : Nat → Int32) (b50' : Nat → Int64) (b51' : Nat → Int64) (b52' : Nat → Int64) : Option (Int32 × (Nat → Int32) × (Nat → Int32) × (Nat → Int64) × (Nat → Int64) × (Nat → Int64)) :=
(if i0 < x1 then
lq7 (f_X0_findFreeColumn_46 N nn i0 a23 g0 ) N (0 : Int32) (0 : Int32) a24' a25' b50' b51' b52'
else
ck x1 (nn + 1) (
nmd (vp_updL b52' x1.toNatClampNeg (1000000000000 : Int64)) fun w21_8 =>
ck x1 (nn + 1) (
nmd (upd a24' x1.toNatClampNeg (0 : Int32)) fun w28_10 =>
ck x1 (nn + 1) (
nmd (upd a25' x1.toNatClampNeg (vp_nar .boolean (0 : Int32))) fun w35_12 =>
nx2 (x1 + (1 : Int32)) w28_10 w35_12 b50' b51' w21_8))))
def f_X0_findFreeColumn (N : Nat) (nn : Nat) (i0 : Int32) (a23 : Nat → Int32) (g0 : Nat → Nat → Int32) (a24 : Nat → Int32) (a25 : Nat → Int32) (b50 : Nat → Int64) (b51 : Nat → Int64) (b52 : Nat → Int64)  : Option (Int32 × (Nat → Int32) × (Nat → Int32) × (Nat → Int64) × (Nat → Int64) × (Nat → Int64)) :=
lq6 (f_X0_findFreeColumn_2 N nn i0 a23 g0 ) N (0 : Int32) a24 a25 b50 b51 b52
set_option maxHeartbeats 4000000 in
set_option maxRecDepth 100000 in
theorem s_X0_findFreeColumn_46 {p : Program} {l : Launch} {e : Env} {s : State} {m : MethodId} {args : Array Value} {below : List Frame} {meth : Method} {c : Code} {D : va_G} {y : Nat → ClassId} {nn : Nat} {ad : Nat → Nat} {A0 : Nat → Prop} {I : Nat → Int32} {J : Nat → Int64} {A : Nat → Nat → Int32} {B : Nat → Nat → Int64} {G : Nat → Nat → Nat → Int32} (F : Fx p s m args meth c cX0_findFreeColumn 3 wsX0_findFreeColumn RX0 D y A0) (hr : meth.sig.returnType = (some .int)) {out : Int32 × (Nat → Int32) × (Nat → Int32) × (Nat → Int64) × (Nat → Int64) × (Nat → Int64)} {N : Nat}  (nx46 : Int32 → Int32 → (Nat → Int32) → (Nat → Int32) → (Nat → Int64) → (Nat → Int64) → (Nat → Int64) → Option (Int32 × (Nat → Int32) × (Nat → Int32) × (Nat → Int64) × (Nat → Int64) × (Nat → Int64))) (hn46 : ∀ (x1 : Int32) (x2 : Int32) (a24' : Nat → Int32) (a25' : Nat → Int32) (b50' : Nat → Int64) (b51' : Nat → Int64) (b52' : Nat → Int64) (ls : Array Slot) (H : Heap) (locs : List Loc), nx46 x1 x2 a24' a25' b50' b51' b52' = some out → MM D y nn ad A0 s.heap I J (va_up (va_up A 24 a24') 25 a25') (va_up (va_up (va_up B 50 b50') 51 b51') 52 b52') G H locs → lv_has ls 3 [(0, .ref (ad 3)), (1, .int x1), (2, .int x2)] → W p l e ({ frames := 2, cells := 0, slots := 0, locals := 48 } : Room) s m args below meth c H locs 0 0 (MQ below (mQi D y nn ad A0 out.1 (I, J, (va_up (va_up A 24 out.2.1) 25 out.2.2.1), (va_up (va_up (va_up B 50 out.2.2.2.1) 51 out.2.2.2.2.1) 52 out.2.2.2.2.2), G)) args s 0 0 A0) (F0 m 46 ls [])) : ∀ (x1 : Int32) (x2 : Int32) (a24' : Nat → Int32) (a25' : Nat → Int32) (b50' : Nat → Int64) (b51' : Nat → Int64) (b52' : Nat → Int64) (ls : Array Slot) (H : Heap) (locs : List Loc), f_X0_findFreeColumn_46 N nn (I 0) (A 23) (G 0)  nx46 x1 x2 a24' a25' b50' b51' b52' = some out → MM D y nn ad A0 s.heap I J (va_up (va_up A 24 a24') 25 a25') (va_up (va_up (va_up B 50 b50') 51 b51') 52 b52') G H locs → lv_has ls 3 [(0, .ref (ad 3)), (1, .int x1), (2, .int x2)] → W p l e ({ frames := 2, cells := 0, slots := 0, locals := 48 } : Room) s m args below meth c H locs 0 0 (MQ below (mQi D y nn ad A0 out.1 (I, J, (va_up (va_up A 24 out.2.1) 25 out.2.2.1), (va_up (va_up (va_up B 50 out.2.2.2.1) 51 out.2.2.2.2.1) 52 out.2.2.2.2.2), G)) args s 0 0 A0) (F0 m 46 ls []) := by
  intro x1 x2 a24' a25' b50' b51' b52' ls H locs hE hM hl
  have hx := F.1.1
  have hb := F.1.2.1
  unfold f_X0_findFreeColumn_46 at hE
  refine lv_iload_n hx hb dX0_findFreeColumn_46 rfl (lv_at hl 2 rfl) ?_
  refine lv_aload_n hx hb dX0_findFreeColumn_47 rfl (lv_at hl 0 rfl) ?_
  refine m_get F hM 3 mg_3 rfl 0 (by decide) (by decide +kernel) (by decide +kernel) (v := .ref (ad 1)) rfl dX0_findFreeColumn_48 ?_
  refine m_getN F hM 1 mg_1 rfl 0 (by decide) (by decide +kernel) (by decide +kernel) (v := .int (I 0)) rfl dX0_findFreeColumn_51 ?_
  refine lv_icmp_gt (tgt := 99) hx hb dX0_findFreeColumn_54 (by decide) (fun c54 => ?_) (fun c54 => ?_)
  · replace hE := (if_pos c54).symm.trans hE
    refine lv_iload_n hx hb dX0_findFreeColumn_99 rfl (lv_at hl 1 rfl) ?_
    obtain rfl := Option.some.inj hE
    exact m_iret F hM hr rfl rfl dX0_findFreeColumn_100
  · replace hE := (if_neg c54).symm.trans hE
    refine lv_aload_n hx hb dX0_findFreeColumn_57 rfl (lv_at hl 0 rfl) ?_
    refine m_get F hM 3 mg_3 rfl 4 (by decide) (by decide +kernel) (by decide +kernel) (v := .ref (ad 23)) rfl dX0_findFreeColumn_58 ?_
    refine lv_iload_n hx hb dX0_findFreeColumn_61 rfl (lv_at hl 1 rfl) ?_
    obtain ⟨hi62_0, hE⟩ := ck_some hE
    refine m_iald (g := (A 23)) F hM mg_23 rfl hi62_0 dX0_findFreeColumn_62 ?_
    refine lv_if_eq (tgt := 99) hx hb dX0_findFreeColumn_63 (by decide) (fun c63 => ?_) (fun c63 => ?_)
    · replace hE := (if_pos c63).symm.trans hE
      refine lv_iload_n hx hb dX0_findFreeColumn_99 rfl (lv_at hl 1 rfl) ?_
      obtain rfl := Option.some.inj hE
      exact m_iret F hM hr rfl rfl dX0_findFreeColumn_100
    · replace hE := (if_neg c63).symm.trans hE
      refine lv_aload_n hx hb dX0_findFreeColumn_66 rfl (lv_at hl 0 rfl) ?_
      refine m_get F hM 3 mg_3 rfl 6 (by decide) (by decide +kernel) (by decide +kernel) (v := .ref (ad 25)) rfl dX0_findFreeColumn_67 ?_
      refine lv_iload_n hx hb dX0_findFreeColumn_70 rfl (lv_at hl 1 rfl) ?_
      refine lv_iconst (v := 1) hx hb dX0_findFreeColumn_71 (by decide) ?_
      obtain ⟨hi72_1, hE⟩ := ck_some hE
      obtain ⟨w72_2, ew72_2, hE⟩ := nmd_some hE
      refine m_zast (f := a25') (A' := (va_up (va_up A 24 a24') 25 w72_2)) F hM mg_25 ms_25 (by rw [ew72_2]; exact un_24_25__25) hi72_1 dX0_findFreeColumn_72 (fun H locs hM => ?_)
      refine lv_aload_n hx hb dX0_findFreeColumn_73 rfl (lv_at hl 0 rfl) ?_
      refine lv_iload_n hx hb dX0_findFreeColumn_74 rfl (lv_at hl 1 rfl) ?_
      obtain ⟨o75_3, ho75_3, hE⟩ := bd_some hE
      refine m_callVv (As := [.int x1]) (I2 := I) (J2 := J) (A2 := (va_up (va_up A 24 o75_3.1) 25 w72_2)) (B2 := (va_up (va_up (va_up B 50 b50') 51 b51') 52 o75_3.2)) (G2 := G) F hM (c_X0_lowerSlackFrom l D y nn ad H.size I J (va_up (va_up A 24 a24') 25 w72_2) (va_up (va_up (va_up B 50 b50') 51 b51') 52 b52') G x1 N o75_3 ho75_3) (cwV 1 F.1.2.2.2.2 gX0_findFreeColumn_X0_lowerSlackFrom rfl rfl rfl (by decide +kernel) ⟨Nat.le_of_ble_eq_true rfl, Nat.le_of_ble_eq_true rfl⟩) (m_recv F hM mg_3 rfl) rfl hl.1 (Nat.le_of_ble_eq_true rfl) dX0_findFreeColumn_75 ⟨Nat.le_refl 0, Nat.le_refl 0⟩ rfl rfl un_24_25__24 un_50_51_52__52 rfl (fun H locs hM => ?_)
      refine lv_aload_n hx hb dX0_findFreeColumn_78 rfl (lv_at hl 0 rfl) ?_
      obtain ⟨o79_4, ho79_4, hE⟩ := bd_some hE
      refine m_callVi (As := []) (I2 := I) (J2 := J) (A2 := (va_up (va_up A 24 o75_3.1) 25 w72_2)) (B2 := (va_up (va_up (va_up B 50 b50') 51 b51') 52 o75_3.2)) (G2 := G) F hM (c_X0_nearestColumn l D y nn ad H.size I J (va_up (va_up A 24 o75_3.1) 25 w72_2) (va_up (va_up (va_up B 50 b50') 51 b51') 52 o75_3.2) G  N o79_4 ho79_4) (cwV 0 F.1.2.2.2.2 gX0_findFreeColumn_X0_nearestColumn rfl rfl rfl (by decide +kernel) ⟨Nat.le_of_ble_eq_true rfl, Nat.le_of_ble_eq_true rfl⟩) (m_recv F hM mg_3 rfl) rfl hl.1 (Nat.le_of_ble_eq_true rfl) dX0_findFreeColumn_79 ⟨Nat.le_refl 0, Nat.le_refl 0⟩ rfl rfl rfl rfl rfl (fun H locs hM => ?_)
      refine lv_istore_n (lv' := [(1, .int o79_4), (0, .ref (ad 3)), (2, .int x2)]) hx hb dX0_findFreeColumn_82 rfl hl (by decide) rfl (fun ls hl => ?_)
      refine lv_aload_n hx hb dX0_findFreeColumn_83 rfl (lv_at hl 1 rfl) ?_
      refine lv_aload_n hx hb dX0_findFreeColumn_84 rfl (lv_at hl 1 rfl) ?_
      refine m_get F hM 3 mg_3 rfl 3 (by decide) (by decide +kernel) (by decide +kernel) (v := .ref (ad 52)) rfl dX0_findFreeColumn_85 ?_
      refine lv_iload_n hx hb dX0_findFreeColumn_88 rfl (lv_at hl 0 rfl) ?_
      obtain ⟨hi89_5, hE⟩ := ck_some hE
      refine m_lald (g := o75_3.2) F hM mg_52 rfl hi89_5 dX0_findFreeColumn_89 ?_
      obtain ⟨o90_6, ho90_6, hE⟩ := bd_some hE
      refine m_callVv (As := [.long (o75_3.2 o79_4.toNatClampNeg)]) (I2 := I) (J2 := J) (A2 := (va_up (va_up A 24 o75_3.1) 25 w72_2)) (B2 := (va_up (va_up (va_up B 50 o90_6.1) 51 o90_6.2.1) 52 o90_6.2.2)) (G2 := G) F hM (c_X0_shiftPotentials l D y nn ad H.size I J (va_up (va_up A 24 o75_3.1) 25 w72_2) (va_up (va_up (va_up B 50 b50') 51 b51') 52 o75_3.2) G (o75_3.2 o79_4.toNatClampNeg) N o90_6 ho90_6) (cwV 1 F.1.2.2.2.2 gX0_findFreeColumn_X0_shiftPotentials rfl rfl rfl (by decide +kernel) ⟨Nat.le_of_ble_eq_true rfl, Nat.le_of_ble_eq_true rfl⟩) (m_recv F hM mg_3 rfl) rfl hl.1 (Nat.le_of_ble_eq_true rfl) dX0_findFreeColumn_90 ⟨Nat.le_refl 0, Nat.le_refl 0⟩ rfl rfl rfl un_50_51_52__50_51_52 rfl (fun H locs hM => ?_)
      refine lv_iinc (v := x2 + (1 : Int32)) (lv' := [(2, .int (x2 + (1 : Int32))), (1, .int o79_4), (0, .ref (ad 3))]) hx hb dX0_findFreeColumn_93 hl (k := 2) rfl rfl (by decide) rfl (fun ls hl => ?_)
      refine lv_goto (tgt := 46) hx hb dX0_findFreeColumn_96 (by decide) ?_
      exact hn46 o79_4 (x2 + (1 : Int32)) o75_3.1 w72_2 o90_6.1 o90_6.2.1 o90_6.2.2 ls H locs hE hM (lv_sub hl [2, 1, 0] rfl)
theorem k_X0_findFreeColumn_46 {p : Program} {l : Launch} {e : Env} {s : State} {m : MethodId} {args : Array Value} {below : List Frame} {meth : Method} {c : Code} {D : va_G} {y : Nat → ClassId} {nn : Nat} {ad : Nat → Nat} {A0 : Nat → Prop} {I : Nat → Int32} {J : Nat → Int64} {A : Nat → Nat → Int32} {B : Nat → Nat → Int64} {G : Nat → Nat → Nat → Int32} (F : Fx p s m args meth c cX0_findFreeColumn 3 wsX0_findFreeColumn RX0 D y A0) (hr : meth.sig.returnType = (some .int)) {out : Int32 × (Nat → Int32) × (Nat → Int32) × (Nat → Int64) × (Nat → Int64) × (Nat → Int64)} {N : Nat}  : ∀ (n : Nat), ∀ (x1 : Int32) (x2 : Int32) (a24' : Nat → Int32) (a25' : Nat → Int32) (b50' : Nat → Int64) (b51' : Nat → Int64) (b52' : Nat → Int64) (ls : Array Slot) (H : Heap) (locs : List Loc), lq7 (f_X0_findFreeColumn_46 N nn (I 0) (A 23) (G 0) ) n x1 x2 a24' a25' b50' b51' b52' = some out → MM D y nn ad A0 s.heap I J (va_up (va_up A 24 a24') 25 a25') (va_up (va_up (va_up B 50 b50') 51 b51') 52 b52') G H locs → lv_has ls 3 [(0, .ref (ad 3)), (1, .int x1), (2, .int x2)] → W p l e ({ frames := 2, cells := 0, slots := 0, locals := 48 } : Room) s m args below meth c H locs 0 0 (MQ below (mQi D y nn ad A0 out.1 (I, J, (va_up (va_up A 24 out.2.1) 25 out.2.2.1), (va_up (va_up (va_up B 50 out.2.2.2.1) 51 out.2.2.2.2.1) 52 out.2.2.2.2.2), G)) args s 0 0 A0) (F0 m 46 ls []) := by
  intro n
  induction n with
  | zero =>
    intro x1 x2 a24' a25' b50' b51' b52' ls H locs hE
    cases (show (none : Option _) = some out from hE)
  | succ n ih =>
    intro x1 x2 a24' a25' b50' b51' b52' ls H locs hE hM hl
    exact s_X0_findFreeColumn_46 F hr (N := N)  (lq7 (f_X0_findFreeColumn_46 N nn (I 0) (A 23) (G 0) ) n) ih x1 x2 a24' a25' b50' b51' b52' ls H locs hE hM hl
set_option maxHeartbeats 4000000 in
set_option maxRecDepth 100000 in
theorem s_X0_findFreeColumn_2 {p : Program} {l : Launch} {e : Env} {s : State} {m : MethodId} {args : Array Value} {below : List Frame} {meth : Method} {c : Code} {D : va_G} {y : Nat → ClassId} {nn : Nat} {ad : Nat → Nat} {A0 : Nat → Prop} {I : Nat → Int32} {J : Nat → Int64} {A : Nat → Nat → Int32} {B : Nat → Nat → Int64} {G : Nat → Nat → Nat → Int32} (F : Fx p s m args meth c cX0_findFreeColumn 3 wsX0_findFreeColumn RX0 D y A0) (hr : meth.sig.returnType = (some .int)) {out : Int32 × (Nat → Int32) × (Nat → Int32) × (Nat → Int64) × (Nat → Int64) × (Nat → Int64)} {N : Nat}  (nx2 : Int32 → (Nat → Int32) → (Nat → Int32) → (Nat → Int64) → (Nat → Int64) → (Nat → Int64) → Option (Int32 × (Nat → Int32) × (Nat → Int32) × (Nat → Int64) × (Nat → Int64) × (Nat → Int64))) (hn2 : ∀ (x1 : Int32) (a24' : Nat → Int32) (a25' : Nat → Int32) (b50' : Nat → Int64) (b51' : Nat → Int64) (b52' : Nat → Int64) (ls : Array Slot) (H : Heap) (locs : List Loc), nx2 x1 a24' a25' b50' b51' b52' = some out → MM D y nn ad A0 s.heap I J (va_up (va_up A 24 a24') 25 a25') (va_up (va_up (va_up B 50 b50') 51 b51') 52 b52') G H locs → lv_has ls 3 [(0, .ref (ad 3)), (1, .int x1)] → W p l e ({ frames := 2, cells := 0, slots := 0, locals := 48 } : Room) s m args below meth c H locs 0 0 (MQ below (mQi D y nn ad A0 out.1 (I, J, (va_up (va_up A 24 out.2.1) 25 out.2.2.1), (va_up (va_up (va_up B 50 out.2.2.2.1) 51 out.2.2.2.2.1) 52 out.2.2.2.2.2), G)) args s 0 0 A0) (F0 m 2 ls [])) : ∀ (x1 : Int32) (a24' : Nat → Int32) (a25' : Nat → Int32) (b50' : Nat → Int64) (b51' : Nat → Int64) (b52' : Nat → Int64) (ls : Array Slot) (H : Heap) (locs : List Loc), f_X0_findFreeColumn_2 N nn (I 0) (A 23) (G 0)  nx2 x1 a24' a25' b50' b51' b52' = some out → MM D y nn ad A0 s.heap I J (va_up (va_up A 24 a24') 25 a25') (va_up (va_up (va_up B 50 b50') 51 b51') 52 b52') G H locs → lv_has ls 3 [(0, .ref (ad 3)), (1, .int x1)] → W p l e ({ frames := 2, cells := 0, slots := 0, locals := 48 } : Room) s m args below meth c H locs 0 0 (MQ below (mQi D y nn ad A0 out.1 (I, J, (va_up (va_up A 24 out.2.1) 25 out.2.2.1), (va_up (va_up (va_up B 50 out.2.2.2.1) 51 out.2.2.2.2.1) 52 out.2.2.2.2.2), G)) args s 0 0 A0) (F0 m 2 ls []) := by
  intro x1 a24' a25' b50' b51' b52' ls H locs hE hM hl
  have hx := F.1.1
  have hb := F.1.2.1
  unfold f_X0_findFreeColumn_2 at hE
  refine lv_iload_n hx hb dX0_findFreeColumn_2 rfl (lv_at hl 1 rfl) ?_
  refine lv_aload_n hx hb dX0_findFreeColumn_3 rfl (lv_at hl 0 rfl) ?_
  refine m_get F hM 3 mg_3 rfl 0 (by decide) (by decide +kernel) (by decide +kernel) (v := .ref (ad 1)) rfl dX0_findFreeColumn_4 ?_
  refine m_getN F hM 1 mg_1 rfl 0 (by decide) (by decide +kernel) (by decide +kernel) (v := .int (I 0)) rfl dX0_findFreeColumn_7 ?_
  refine lv_icmp_gt (tgt := 42) hx hb dX0_findFreeColumn_10 (by decide) (fun c10 => ?_) (fun c10 => ?_)
  · replace hE := (if_pos c10).symm.trans hE
    refine lv_iconst (v := 0) hx hb dX0_findFreeColumn_42 (by decide) ?_
    refine lv_istore_n (lv' := [(1, .int (0 : Int32)), (0, .ref (ad 3))]) hx hb dX0_findFreeColumn_43 rfl hl (by decide) rfl (fun ls hl => ?_)
    refine lv_iconst (v := 0) hx hb dX0_findFreeColumn_44 (by decide) ?_
    refine lv_istore_n (lv' := [(2, .int (0 : Int32)), (1, .int (0 : Int32)), (0, .ref (ad 3))]) hx hb dX0_findFreeColumn_45 rfl hl (by decide) rfl (fun ls hl => ?_)
    exact k_X0_findFreeColumn_46 F hr (N := N)  N (0 : Int32) (0 : Int32) a24' a25' b50' b51' b52' ls H locs hE hM (lv_sub hl [2, 1, 0] rfl)
  · replace hE := (if_neg c10).symm.trans hE
    refine lv_aload_n hx hb dX0_findFreeColumn_13 rfl (lv_at hl 0 rfl) ?_
    refine m_get F hM 3 mg_3 rfl 3 (by decide) (by decide +kernel) (by decide +kernel) (v := .ref (ad 52)) rfl dX0_findFreeColumn_14 ?_
    refine lv_iload_n hx hb dX0_findFreeColumn_17 rfl (lv_at hl 1 rfl) ?_
    refine lv_ldc2 (v := (1000000000000)) hx hb F.1.2.2.2.1 (F.1.2.2.2.2 (.constantLong RX0 63 (1000000000000)) (by decide +kernel)) dX0_findFreeColumn_18 ?_
    obtain ⟨hi21_7, hE⟩ := ck_some hE
    obtain ⟨w21_8, ew21_8, hE⟩ := nmd_some hE
    refine m_last (f := b52') (B' := (va_up (va_up (va_up B 50 b50') 51 b51') 52 w21_8)) F hM mg_52 ms_52 (by rw [ew21_8]; exact un_50_51_52__52) hi21_7 dX0_findFreeColumn_21 (fun H locs hM => ?_)
    refine lv_aload_n hx hb dX0_findFreeColumn_22 rfl (lv_at hl 0 rfl) ?_
    refine m_get F hM 3 mg_3 rfl 5 (by decide) (by decide +kernel) (by decide +kernel) (v := .ref (ad 24)) rfl dX0_findFreeColumn_23 ?_
    refine lv_iload_n hx hb dX0_findFreeColumn_26 rfl (lv_at hl 1 rfl) ?_
    refine lv_iconst (v := 0) hx hb dX0_findFreeColumn_27 (by decide) ?_
    obtain ⟨hi28_9, hE⟩ := ck_some hE
    obtain ⟨w28_10, ew28_10, hE⟩ := nmd_some hE
    refine m_iast (f := a24') (A' := (va_up (va_up A 24 w28_10) 25 a25')) F hM mg_24 ms_24 (by rw [ew28_10]; exact un_24_25__24) hi28_9 dX0_findFreeColumn_28 (fun H locs hM => ?_)
    refine lv_aload_n hx hb dX0_findFreeColumn_29 rfl (lv_at hl 0 rfl) ?_
    refine m_get F hM 3 mg_3 rfl 6 (by decide) (by decide +kernel) (by decide +kernel) (v := .ref (ad 25)) rfl dX0_findFreeColumn_30 ?_
    refine lv_iload_n hx hb dX0_findFreeColumn_33 rfl (lv_at hl 1 rfl) ?_
    refine lv_iconst (v := 0) hx hb dX0_findFreeColumn_34 (by decide) ?_
    obtain ⟨hi35_11, hE⟩ := ck_some hE
    obtain ⟨w35_12, ew35_12, hE⟩ := nmd_some hE
    refine m_zast (f := a25') (A' := (va_up (va_up A 24 w28_10) 25 w35_12)) F hM mg_25 ms_25 (by rw [ew35_12]; exact un_24_25__25) hi35_11 dX0_findFreeColumn_35 (fun H locs hM => ?_)
    refine lv_iinc (v := x1 + (1 : Int32)) (lv' := [(1, .int (x1 + (1 : Int32))), (0, .ref (ad 3))]) hx hb dX0_findFreeColumn_36 hl (k := 1) rfl rfl (by decide) rfl (fun ls hl => ?_)
    refine lv_goto (tgt := 2) hx hb dX0_findFreeColumn_39 (by decide) ?_
    exact hn2 (x1 + (1 : Int32)) w28_10 w35_12 b50' b51' w21_8 ls H locs hE hM (lv_sub hl [1, 0] rfl)
theorem k_X0_findFreeColumn_2 {p : Program} {l : Launch} {e : Env} {s : State} {m : MethodId} {args : Array Value} {below : List Frame} {meth : Method} {c : Code} {D : va_G} {y : Nat → ClassId} {nn : Nat} {ad : Nat → Nat} {A0 : Nat → Prop} {I : Nat → Int32} {J : Nat → Int64} {A : Nat → Nat → Int32} {B : Nat → Nat → Int64} {G : Nat → Nat → Nat → Int32} (F : Fx p s m args meth c cX0_findFreeColumn 3 wsX0_findFreeColumn RX0 D y A0) (hr : meth.sig.returnType = (some .int)) {out : Int32 × (Nat → Int32) × (Nat → Int32) × (Nat → Int64) × (Nat → Int64) × (Nat → Int64)} {N : Nat}  : ∀ (n : Nat), ∀ (x1 : Int32) (a24' : Nat → Int32) (a25' : Nat → Int32) (b50' : Nat → Int64) (b51' : Nat → Int64) (b52' : Nat → Int64) (ls : Array Slot) (H : Heap) (locs : List Loc), lq6 (f_X0_findFreeColumn_2 N nn (I 0) (A 23) (G 0) ) n x1 a24' a25' b50' b51' b52' = some out → MM D y nn ad A0 s.heap I J (va_up (va_up A 24 a24') 25 a25') (va_up (va_up (va_up B 50 b50') 51 b51') 52 b52') G H locs → lv_has ls 3 [(0, .ref (ad 3)), (1, .int x1)] → W p l e ({ frames := 2, cells := 0, slots := 0, locals := 48 } : Room) s m args below meth c H locs 0 0 (MQ below (mQi D y nn ad A0 out.1 (I, J, (va_up (va_up A 24 out.2.1) 25 out.2.2.1), (va_up (va_up (va_up B 50 out.2.2.2.1) 51 out.2.2.2.2.1) 52 out.2.2.2.2.2), G)) args s 0 0 A0) (F0 m 2 ls []) := by
  intro n
  induction n with
  | zero =>
    intro x1 a24' a25' b50' b51' b52' ls H locs hE
    cases (show (none : Option _) = some out from hE)
  | succ n ih =>
    intro x1 a24' a25' b50' b51' b52' ls H locs hE hM hl
    exact s_X0_findFreeColumn_2 F hr (N := N)  (lq6 (f_X0_findFreeColumn_2 N nn (I 0) (A 23) (G 0) ) n) ih x1 a24' a25' b50' b51' b52' ls H locs hE hM hl
set_option maxHeartbeats 4000000 in
set_option maxRecDepth 100000 in
theorem c_X0_findFreeColumn (l : Launch) (D : va_G) (y : Nat → ClassId) (nn : Nat) (ad : Nat → Nat) (sz : Nat) (I : Nat → Int32) (J : Nat → Int64) (A : Nat → Nat → Int32) (B : Nat → Nat → Int64) (G : Nat → Nat → Nat → Int32)  (N : Nat) (out : Int32 × (Nat → Int32) × (Nat → Int32) × (Nat → Int64) × (Nat → Int64) × (Nat → Int64)) (hE : f_X0_findFreeColumn N nn (I 0) (A 23) (G 0) (A 24) (A 25) (B 50) (B 51) (B 52)  = some out) : Met l yX0_findFreeColumn wsX0_findFreeColumn ({ frames := 2, cells := 0, slots := 0, locals := 48 } : Room) (mPc [.ref (ad 3)] D y nn ad sz I J A B G) (mQi D y nn ad (mA y nn ad I J A B G sz) out.1 (I, J, (va_up (va_up A 24 out.2.1) 25 out.2.2.1), (va_up (va_up (va_up B 50 out.2.2.2.1) 51 out.2.2.2.2.1) 52 out.2.2.2.2.2), G)) 0 0 (mA y nn ad I J A B G sz) := by
  refine Met.ofW (cc := cX0_findFreeColumn) (maxL := 3) (ret := (some .int)) (by decide) rfl ?_
  intro p e s m args below meth c s₁ Bd hml hv
  obtain ⟨rfl, hsz, hP, hK, hD0, hN⟩ := hv
  have hr := Bd.returns
  subst hsz
  have F : Fx p s m ([.ref (ad 3)] : List Value).toArray meth c cX0_findFreeColumn 3 wsX0_findFreeColumn RX0 D y (mA y nn ad I J A B G s.heap.size) := ⟨⟨Bd.exec, Bd.bytes, hml, findClass_of_methodNamed Bd.named, atoms_spec (ws := wsX0_findFreeColumn) Bd.pre⟩, hK, hN, fun q h => Or.inr h, Bd.notSynchronized⟩
  have hM := m_start (s := s) rfl hP hD0
  have hM := m_mem (I2 := I) (J2 := J) (A2 := (va_up (va_up A 24 (A 24)) 25 (A 25))) (B2 := (va_up (va_up (va_up B 50 (B 50)) 51 (B 51)) 52 (B 52))) (G2 := G) hM (by rfl) (by rfl) (by simp only [up_id]) (by simp only [up_id]) (by rfl)
  have hx := F.1.1
  have hb := F.1.2.1
  have hl := lv_entry ([.ref (ad 3)]) (n := 3) (Nat.le_of_ble_eq_true rfl)
  rw [lg_entry_eq]
  generalize (lg_sl ([.ref (ad 3)]) ++ List.replicate (3 - (lg_sl ([.ref (ad 3)])).length) Slot.unset).toArray = ls at hl ⊢
  have hl : lv_has ls 3 [(0, .ref (ad 3))] := hl
  show W p l e ({ frames := 2, cells := 0, slots := 0, locals := 48 } : Room) s m _ below meth c s.heap [] 0 0 _ _
  obtain ⟨locs, hlo⟩ : ∃ locs : List Loc, locs = [] := ⟨_, rfl⟩
  rw [← hlo]; rw [← hlo] at hM
  unfold f_X0_findFreeColumn at hE
  revert hM
  suffices hH : ∀ H : Heap, MM D y nn ad (mA y nn ad I J A B G s.heap.size) s.heap I J (va_up (va_up A 24 (A 24)) 25 (A 25)) (va_up (va_up (va_up B 50 (B 50)) 51 (B 51)) 52 (B 52)) G H locs → W p l e ({ frames := 2, cells := 0, slots := 0, locals := 48 } : Room) s m ([.ref (ad 3)] : List Value).toArray below meth c H locs 0 0 (MQ below (mQi D y nn ad (mA y nn ad I J A B G s.heap.size) out.1 (I, J, (va_up (va_up A 24 out.2.1) 25 out.2.2.1), (va_up (va_up (va_up B 50 out.2.2.2.1) 51 out.2.2.2.2.1) 52 out.2.2.2.2.2), G)) ([.ref (ad 3)] : List Value).toArray s 0 0 (mA y nn ad I J A B G s.heap.size)) (F0 m 0 ls []) from hH s.heap
  intro H hM
  refine lv_iconst (v := 0) hx hb dX0_findFreeColumn_0 (by decide) ?_
  refine lv_istore_n (lv' := [(1, .int (0 : Int32)), (0, .ref (ad 3))]) hx hb dX0_findFreeColumn_1 rfl hl (by decide) rfl (fun ls hl => ?_)
  exact k_X0_findFreeColumn_2 F hr (N := N)  N (0 : Int32) (A 24) (A 25) (B 50) (B 51) (B 52) ls H locs hE hM (lv_sub hl [1, 0] rfl)
/-! ===== X0_changeAlong: reads I0 A24, writes A23, frames 0, locals 0 ===== -/
def f_X0_changeAlong_4 (N : Nat) (nn : Nat) (i0 : Int32) (a24 : Nat → Int32)  (nx4 : Int32 → Int32 → (Nat → Int32) → Option ((Nat → Int32))) (x2 : Int32) (x3 : Int32) (a23' : Nat → Int32) : Option ((Nat → Int32)) :=
(if i0 < x3 then
some a23'
else
(if x2 = (0 : Int32) then
some a23'
else
ck x2 (nn + 1) (
ck (a24 x2.toNatClampNeg) (nn + 1) (
ck x2 (nn + 1) (
nmd (upd a23' x2.toNatClampNeg (a23' (a24 x2.toNatClampNeg).toNatClampNeg)) fun w39_3 =>
nx4 (a24 x2.toNatClampNeg) (x3 + (1 : Int32)) w39_3)))))
def f_X0_changeAlong (N : Nat) (nn : Nat) (i0 : Int32) (a24 : Nat → Int32) (a23 : Nat → Int32) (p1 : Int32) : Option ((Nat → Int32)) :=
lq3 (f_X0_changeAlong_4 N nn i0 a24 ) N p1 (0 : Int32) a23
set_option maxHeartbeats 4000000 in
set_option maxRecDepth 100000 in
theorem s_X0_changeAlong_4 {p : Program} {l : Launch} {e : Env} {s : State} {m : MethodId} {args : Array Value} {below : List Frame} {meth : Method} {c : Code} {D : va_G} {y : Nat → ClassId} {nn : Nat} {ad : Nat → Nat} {A0 : Nat → Prop} {I : Nat → Int32} {J : Nat → Int64} {A : Nat → Nat → Int32} {B : Nat → Nat → Int64} {G : Nat → Nat → Nat → Int32} (F : Fx p s m args meth c cX0_changeAlong 5 wsX0_changeAlong RX0 D y A0) (hr : meth.sig.returnType = none) {out : (Nat → Int32)} {N : Nat}  (nx4 : Int32 → Int32 → (Nat → Int32) → Option ((Nat → Int32))) (hn4 : ∀ (x2 : Int32) (x3 : Int32) (a23' : Nat → Int32) (ls : Array Slot) (H : Heap) (locs : List Loc), nx4 x2 x3 a23' = some out → MM D y nn ad A0 s.heap I J (va_up A 23 a23') B G H locs → lv_has ls 5 [(0, .ref (ad 3)), (2, .int x2), (3, .int x3)] → W p l e ({ frames := 0, cells := 0, slots := 0, locals := 0 } : Room) s m args below meth c H locs 0 0 (MQ below (mQv D y nn ad A0 (I, J, (va_up A 23 out), B, G)) args s 0 0 A0) (F0 m 4 ls [])) : ∀ (x2 : Int32) (x3 : Int32) (a23' : Nat → Int32) (ls : Array Slot) (H : Heap) (locs : List Loc), f_X0_changeAlong_4 N nn (I 0) (A 24)  nx4 x2 x3 a23' = some out → MM D y nn ad A0 s.heap I J (va_up A 23 a23') B G H locs → lv_has ls 5 [(0, .ref (ad 3)), (2, .int x2), (3, .int x3)] → W p l e ({ frames := 0, cells := 0, slots := 0, locals := 0 } : Room) s m args below meth c H locs 0 0 (MQ below (mQv D y nn ad A0 (I, J, (va_up A 23 out), B, G)) args s 0 0 A0) (F0 m 4 ls []) := by
  intro x2 x3 a23' ls H locs hE hM hl
  have hx := F.1.1
  have hb := F.1.2.1
  unfold f_X0_changeAlong_4 at hE
  refine lv_iload_n hx hb dX0_changeAlong_4 rfl (lv_at hl 2 rfl) ?_
  refine lv_aload_n hx hb dX0_changeAlong_5 rfl (lv_at hl 0 rfl) ?_
  refine m_get F hM 3 mg_3 rfl 0 (by decide) (by decide +kernel) (by decide +kernel) (v := .ref (ad 1)) rfl dX0_changeAlong_6 ?_
  refine m_getN F hM 1 mg_1 rfl 0 (by decide) (by decide +kernel) (by decide +kernel) (v := .int (I 0)) rfl dX0_changeAlong_9 ?_
  refine lv_icmp_gt (tgt := 49) hx hb dX0_changeAlong_12 (by decide) (fun c12 => ?_) (fun c12 => ?_)
  · replace hE := (if_pos c12).symm.trans hE
    obtain rfl := Option.some.inj hE
    exact m_vret F hM hr rfl dX0_changeAlong_49
  · replace hE := (if_neg c12).symm.trans hE
    refine lv_iload_n hx hb dX0_changeAlong_15 rfl (lv_at hl 1 rfl) ?_
    refine lv_if_eq (tgt := 49) hx hb dX0_changeAlong_16 (by decide) (fun c16 => ?_) (fun c16 => ?_)
    · replace hE := (if_pos c16).symm.trans hE
      obtain rfl := Option.some.inj hE
      exact m_vret F hM hr rfl dX0_changeAlong_49
    · replace hE := (if_neg c16).symm.trans hE
      refine lv_aload_n hx hb dX0_changeAlong_19 rfl (lv_at hl 0 rfl) ?_
      refine m_get F hM 3 mg_3 rfl 5 (by decide) (by decide +kernel) (by decide +kernel) (v := .ref (ad 24)) rfl dX0_changeAlong_20 ?_
      refine lv_iload_n hx hb dX0_changeAlong_23 rfl (lv_at hl 1 rfl) ?_
      obtain ⟨hi24_0, hE⟩ := ck_some hE
      refine m_iald (g := (A 24)) F hM mg_24 rfl hi24_0 dX0_changeAlong_24 ?_
      refine lv_istore (lv' := [(4, .int ((A 24) x2.toNatClampNeg)), (0, .ref (ad 3)), (2, .int x2), (3, .int x3)]) hx hb dX0_changeAlong_25 hl (by decide) rfl (fun ls hl => ?_)
      refine lv_aload_n hx hb dX0_changeAlong_27 rfl (lv_at hl 1 rfl) ?_
      refine m_get F hM 3 mg_3 rfl 4 (by decide) (by decide +kernel) (by decide +kernel) (v := .ref (ad 23)) rfl dX0_changeAlong_28 ?_
      refine lv_iload_n hx hb dX0_changeAlong_31 rfl (lv_at hl 2 rfl) ?_
      refine lv_aload_n hx hb dX0_changeAlong_32 rfl (lv_at hl 1 rfl) ?_
      refine m_get F hM 3 mg_3 rfl 4 (by decide) (by decide +kernel) (by decide +kernel) (v := .ref (ad 23)) rfl dX0_changeAlong_33 ?_
      refine lv_iload hx hb dX0_changeAlong_36 (lv_at hl 0 rfl) ?_
      obtain ⟨hi38_1, hE⟩ := ck_some hE
      refine m_iald (g := a23') F hM mg_23 rfl hi38_1 dX0_changeAlong_38 ?_
      obtain ⟨hi39_2, hE⟩ := ck_some hE
      obtain ⟨w39_3, ew39_3, hE⟩ := nmd_some hE
      refine m_iast (f := a23') (A' := (va_up A 23 w39_3)) F hM mg_23 ms_23 (by rw [ew39_3]; exact (bx_uu _ _ _ _)) hi39_2 dX0_changeAlong_39 (fun H locs hM => ?_)
      refine lv_iload hx hb dX0_changeAlong_40 (lv_at hl 0 rfl) ?_
      refine lv_istore_n (lv' := [(2, .int ((A 24) x2.toNatClampNeg)), (4, .int ((A 24) x2.toNatClampNeg)), (0, .ref (ad 3)), (3, .int x3)]) hx hb dX0_changeAlong_42 rfl hl (by decide) rfl (fun ls hl => ?_)
      refine lv_iinc (v := x3 + (1 : Int32)) (lv' := [(3, .int (x3 + (1 : Int32))), (2, .int ((A 24) x2.toNatClampNeg)), (4, .int ((A 24) x2.toNatClampNeg)), (0, .ref (ad 3))]) hx hb dX0_changeAlong_43 hl (k := 3) rfl rfl (by decide) rfl (fun ls hl => ?_)
      refine lv_goto (tgt := 4) hx hb dX0_changeAlong_46 (by decide) ?_
      exact hn4 ((A 24) x2.toNatClampNeg) (x3 + (1 : Int32)) w39_3 ls H locs hE hM (lv_sub hl [3, 1, 0] rfl)
theorem k_X0_changeAlong_4 {p : Program} {l : Launch} {e : Env} {s : State} {m : MethodId} {args : Array Value} {below : List Frame} {meth : Method} {c : Code} {D : va_G} {y : Nat → ClassId} {nn : Nat} {ad : Nat → Nat} {A0 : Nat → Prop} {I : Nat → Int32} {J : Nat → Int64} {A : Nat → Nat → Int32} {B : Nat → Nat → Int64} {G : Nat → Nat → Nat → Int32} (F : Fx p s m args meth c cX0_changeAlong 5 wsX0_changeAlong RX0 D y A0) (hr : meth.sig.returnType = none) {out : (Nat → Int32)} {N : Nat}  : ∀ (n : Nat), ∀ (x2 : Int32) (x3 : Int32) (a23' : Nat → Int32) (ls : Array Slot) (H : Heap) (locs : List Loc), lq3 (f_X0_changeAlong_4 N nn (I 0) (A 24) ) n x2 x3 a23' = some out → MM D y nn ad A0 s.heap I J (va_up A 23 a23') B G H locs → lv_has ls 5 [(0, .ref (ad 3)), (2, .int x2), (3, .int x3)] → W p l e ({ frames := 0, cells := 0, slots := 0, locals := 0 } : Room) s m args below meth c H locs 0 0 (MQ below (mQv D y nn ad A0 (I, J, (va_up A 23 out), B, G)) args s 0 0 A0) (F0 m 4 ls []) := by
  intro n
  induction n with
  | zero =>
    intro x2 x3 a23' ls H locs hE
    cases (show (none : Option _) = some out from hE)
  | succ n ih =>
    intro x2 x3 a23' ls H locs hE hM hl
    exact s_X0_changeAlong_4 F hr (N := N)  (lq3 (f_X0_changeAlong_4 N nn (I 0) (A 24) ) n) ih x2 x3 a23' ls H locs hE hM hl
set_option maxHeartbeats 4000000 in
set_option maxRecDepth 100000 in
theorem c_X0_changeAlong (l : Launch) (D : va_G) (y : Nat → ClassId) (nn : Nat) (ad : Nat → Nat) (sz : Nat) (I : Nat → Int32) (J : Nat → Int64) (A : Nat → Nat → Int32) (B : Nat → Nat → Int64) (G : Nat → Nat → Nat → Int32) (p1 : Int32) (N : Nat) (out : (Nat → Int32)) (hE : f_X0_changeAlong N nn (I 0) (A 24) (A 23) p1 = some out) : Met l yX0_changeAlong wsX0_changeAlong ({ frames := 0, cells := 0, slots := 0, locals := 0 } : Room) (mPc [.ref (ad 3), .int p1] D y nn ad sz I J A B G) (mQv D y nn ad (mA y nn ad I J A B G sz) (I, J, (va_up A 23 out), B, G)) 0 0 (mA y nn ad I J A B G sz) := by
  refine Met.ofW (cc := cX0_changeAlong) (maxL := 5) (ret := none) (by decide) rfl ?_
  intro p e s m args below meth c s₁ Bd hml hv
  obtain ⟨rfl, hsz, hP, hK, hD0, hN⟩ := hv
  have hr := Bd.returns
  subst hsz
  have F : Fx p s m ([.ref (ad 3), .int p1] : List Value).toArray meth c cX0_changeAlong 5 wsX0_changeAlong RX0 D y (mA y nn ad I J A B G s.heap.size) := ⟨⟨Bd.exec, Bd.bytes, hml, findClass_of_methodNamed Bd.named, atoms_spec (ws := wsX0_changeAlong) Bd.pre⟩, hK, hN, fun q h => Or.inr h, Bd.notSynchronized⟩
  have hM := m_start (s := s) rfl hP hD0
  have hM := m_mem (I2 := I) (J2 := J) (A2 := (va_up A 23 (A 23))) (B2 := B) (G2 := G) hM (by rfl) (by rfl) (by simp only [up_id]) (by rfl) (by rfl)
  have hx := F.1.1
  have hb := F.1.2.1
  have hl := lv_entry ([.ref (ad 3), .int p1]) (n := 5) (Nat.le_of_ble_eq_true rfl)
  rw [lg_entry_eq]
  generalize (lg_sl ([.ref (ad 3), .int p1]) ++ List.replicate (5 - (lg_sl ([.ref (ad 3), .int p1])).length) Slot.unset).toArray = ls at hl ⊢
  have hl : lv_has ls 5 [(0, .ref (ad 3)), (1, .int p1)] := hl
  show W p l e ({ frames := 0, cells := 0, slots := 0, locals := 0 } : Room) s m _ below meth c s.heap [] 0 0 _ _
  obtain ⟨locs, hlo⟩ : ∃ locs : List Loc, locs = [] := ⟨_, rfl⟩
  rw [← hlo]; rw [← hlo] at hM
  unfold f_X0_changeAlong at hE
  revert hM
  suffices hH : ∀ H : Heap, MM D y nn ad (mA y nn ad I J A B G s.heap.size) s.heap I J (va_up A 23 (A 23)) B G H locs → W p l e ({ frames := 0, cells := 0, slots := 0, locals := 0 } : Room) s m ([.ref (ad 3), .int p1] : List Value).toArray below meth c H locs 0 0 (MQ below (mQv D y nn ad (mA y nn ad I J A B G s.heap.size) (I, J, (va_up A 23 out), B, G)) ([.ref (ad 3), .int p1] : List Value).toArray s 0 0 (mA y nn ad I J A B G s.heap.size)) (F0 m 0 ls []) from hH s.heap
  intro H hM
  refine lv_iload_n hx hb dX0_changeAlong_0 rfl (lv_at hl 1 rfl) ?_
  refine lv_istore_n (lv' := [(2, .int p1), (0, .ref (ad 3)), (1, .int p1)]) hx hb dX0_changeAlong_1 rfl hl (by decide) rfl (fun ls hl => ?_)
  refine lv_iconst (v := 0) hx hb dX0_changeAlong_2 (by decide) ?_
  refine lv_istore_n (lv' := [(3, .int (0 : Int32)), (2, .int p1), (0, .ref (ad 3)), (1, .int p1)]) hx hb dX0_changeAlong_3 rfl hl (by decide) rfl (fun ls hl => ?_)
  exact k_X0_changeAlong_4 F hr (N := N)  N p1 (0 : Int32) (A 23) ls H locs hE hM (lv_sub hl [2, 1, 0] rfl)
/-! ===== X0_sumOfChosen: reads I0 A23 G0, writes , frames 1, locals 23 ===== -/
def f_X0_sumOfChosen_4 (N : Nat) (nn : Nat) (i0 : Int32) (a23 : Nat → Int32) (g0 : Nat → Nat → Int32)  (nx4 : Int64 → Int32 → Option (Int64)) (x1 : Int64) (x3 : Int32) : Option (Int64) :=
(if i0 < x3 then
(if x1 < (100000000 : Int64) then
some x1
else
some (-1 : Int64))
else
ck x3 (nn + 1) (
bd (f_X0_cost nn i0 g0 (a23 x3.toNatClampNeg) x3) fun o24_1 =>
nx4 (x1 + o24_1) (x3 + (1 : Int32))))
def f_X0_sumOfChosen (N : Nat) (nn : Nat) (i0 : Int32) (a23 : Nat → Int32) (g0 : Nat → Nat → Int32)   : Option (Int64) :=
lq2 (f_X0_sumOfChosen_4 N nn i0 a23 g0 ) N (0 : Int64) (1 : Int32)
set_option maxHeartbeats 4000000 in
set_option maxRecDepth 100000 in
theorem s_X0_sumOfChosen_4 {p : Program} {l : Launch} {e : Env} {s : State} {m : MethodId} {args : Array Value} {below : List Frame} {meth : Method} {c : Code} {D : va_G} {y : Nat → ClassId} {nn : Nat} {ad : Nat → Nat} {A0 : Nat → Prop} {I : Nat → Int32} {J : Nat → Int64} {A : Nat → Nat → Int32} {B : Nat → Nat → Int64} {G : Nat → Nat → Nat → Int32} (F : Fx p s m args meth c cX0_sumOfChosen 4 wsX0_sumOfChosen RX0 D y A0) (hr : meth.sig.returnType = (some .long)) {out : Int64} {N : Nat}  (nx4 : Int64 → Int32 → Option (Int64)) (hn4 : ∀ (x1 : Int64) (x3 : Int32) (ls : Array Slot) (H : Heap) (locs : List Loc), nx4 x1 x3 = some out → MM D y nn ad A0 s.heap I J A B G H locs → lv_has ls 4 [(0, .ref (ad 3)), (1, .long x1), (3, .int x3)] → W p l e ({ frames := 1, cells := 0, slots := 0, locals := 23 } : Room) s m args below meth c H locs 0 0 (MQ below (mQl D y nn ad A0 out (I, J, A, B, G)) args s 0 0 A0) (F0 m 4 ls [])) : ∀ (x1 : Int64) (x3 : Int32) (ls : Array Slot) (H : Heap) (locs : List Loc), f_X0_sumOfChosen_4 N nn (I 0) (A 23) (G 0)  nx4 x1 x3 = some out → MM D y nn ad A0 s.heap I J A B G H locs → lv_has ls 4 [(0, .ref (ad 3)), (1, .long x1), (3, .int x3)] → W p l e ({ frames := 1, cells := 0, slots := 0, locals := 23 } : Room) s m args below meth c H locs 0 0 (MQ below (mQl D y nn ad A0 out (I, J, A, B, G)) args s 0 0 A0) (F0 m 4 ls []) := by
  intro x1 x3 ls H locs hE hM hl
  have hx := F.1.1
  have hb := F.1.2.1
  unfold f_X0_sumOfChosen_4 at hE
  refine lv_iload_n hx hb dX0_sumOfChosen_4 rfl (lv_at hl 2 rfl) ?_
  refine lv_aload_n hx hb dX0_sumOfChosen_5 rfl (lv_at hl 0 rfl) ?_
  refine m_get F hM 3 mg_3 rfl 0 (by decide) (by decide +kernel) (by decide +kernel) (v := .ref (ad 1)) rfl dX0_sumOfChosen_6 ?_
  refine m_getN F hM 1 mg_1 rfl 0 (by decide) (by decide +kernel) (by decide +kernel) (v := .int (I 0)) rfl dX0_sumOfChosen_9 ?_
  refine lv_icmp_gt (tgt := 35) hx hb dX0_sumOfChosen_12 (by decide) (fun c12 => ?_) (fun c12 => ?_)
  · replace hE := (if_pos c12).symm.trans hE
    refine lv_lload_n hx hb dX0_sumOfChosen_35 rfl (lv_at hl 1 rfl) ?_
    refine lv_ldc2 (v := (100000000)) hx hb F.1.2.2.2.1 (F.1.2.2.2.2 (.constantLong RX0 79 (100000000)) (by decide +kernel)) dX0_sumOfChosen_36 ?_
    refine m_llt (tgt := 49) F dX0_sumOfChosen_39 dX0_sumOfChosen_40 (by decide) (fun c40 => ?_) (fun c40 => ?_)
    · replace hE := (if_pos c40).symm.trans hE
      refine lv_lload_n hx hb dX0_sumOfChosen_49 rfl (lv_at hl 1 rfl) ?_
      obtain rfl := Option.some.inj hE
      exact m_lret F hM hr rfl rfl dX0_sumOfChosen_50
    · replace hE := (if_neg c40).symm.trans hE
      refine lv_ldc2 (v := (-1)) hx hb F.1.2.2.2.1 (F.1.2.2.2.2 (.constantLong RX0 81 (-1)) (by decide +kernel)) dX0_sumOfChosen_43 ?_
      refine lv_goto (tgt := 50) hx hb dX0_sumOfChosen_46 (by decide) ?_
      obtain rfl := Option.some.inj hE
      exact m_lret F hM hr rfl rfl dX0_sumOfChosen_50
  · replace hE := (if_neg c12).symm.trans hE
    refine lv_lload_n hx hb dX0_sumOfChosen_15 rfl (lv_at hl 1 rfl) ?_
    refine lv_aload_n hx hb dX0_sumOfChosen_16 rfl (lv_at hl 0 rfl) ?_
    refine lv_aload_n hx hb dX0_sumOfChosen_17 rfl (lv_at hl 0 rfl) ?_
    refine m_get F hM 3 mg_3 rfl 4 (by decide) (by decide +kernel) (by decide +kernel) (v := .ref (ad 23)) rfl dX0_sumOfChosen_18 ?_
    refine lv_iload_n hx hb dX0_sumOfChosen_21 rfl (lv_at hl 2 rfl) ?_
    obtain ⟨hi22_0, hE⟩ := ck_some hE
    refine m_iald (g := (A 23)) F hM mg_23 rfl hi22_0 dX0_sumOfChosen_22 ?_
    refine lv_iload_n hx hb dX0_sumOfChosen_23 rfl (lv_at hl 2 rfl) ?_
    obtain ⟨o24_1, ho24_1, hE⟩ := bd_some hE
    refine m_callVl (As := [.int ((A 23) x3.toNatClampNeg), .int x3]) (I2 := I) (J2 := J) (A2 := A) (B2 := B) (G2 := G) F hM (c_X0_cost l D y nn ad H.size I J A B G ((A 23) x3.toNatClampNeg) x3  o24_1 ho24_1) (cwV 2 F.1.2.2.2.2 gX0_sumOfChosen_X0_cost rfl rfl rfl (by decide +kernel) ⟨Nat.le_of_ble_eq_true rfl, Nat.le_of_ble_eq_true rfl⟩) (m_recv F hM mg_3 rfl) rfl hl.1 (Nat.le_of_ble_eq_true rfl) dX0_sumOfChosen_24 ⟨Nat.le_refl 0, Nat.le_refl 0⟩ rfl rfl rfl rfl rfl (fun H locs hM => ?_)
    refine lv_ladd hx hb dX0_sumOfChosen_27 ?_
    refine lv_lstore_n (lv' := [(1, .long (x1 + o24_1)), (0, .ref (ad 3)), (3, .int x3)]) hx hb dX0_sumOfChosen_28 rfl hl (by decide) rfl (fun ls hl => ?_)
    refine lv_iinc (v := x3 + (1 : Int32)) (lv' := [(3, .int (x3 + (1 : Int32))), (1, .long (x1 + o24_1)), (0, .ref (ad 3))]) hx hb dX0_sumOfChosen_29 hl (k := 2) rfl rfl (by decide) rfl (fun ls hl => ?_)
    refine lv_goto (tgt := 4) hx hb dX0_sumOfChosen_32 (by decide) ?_
    exact hn4 (x1 + o24_1) (x3 + (1 : Int32)) ls H locs hE hM (lv_sub hl [2, 1, 0] rfl)
theorem k_X0_sumOfChosen_4 {p : Program} {l : Launch} {e : Env} {s : State} {m : MethodId} {args : Array Value} {below : List Frame} {meth : Method} {c : Code} {D : va_G} {y : Nat → ClassId} {nn : Nat} {ad : Nat → Nat} {A0 : Nat → Prop} {I : Nat → Int32} {J : Nat → Int64} {A : Nat → Nat → Int32} {B : Nat → Nat → Int64} {G : Nat → Nat → Nat → Int32} (F : Fx p s m args meth c cX0_sumOfChosen 4 wsX0_sumOfChosen RX0 D y A0) (hr : meth.sig.returnType = (some .long)) {out : Int64} {N : Nat}  : ∀ (n : Nat), ∀ (x1 : Int64) (x3 : Int32) (ls : Array Slot) (H : Heap) (locs : List Loc), lq2 (f_X0_sumOfChosen_4 N nn (I 0) (A 23) (G 0) ) n x1 x3 = some out → MM D y nn ad A0 s.heap I J A B G H locs → lv_has ls 4 [(0, .ref (ad 3)), (1, .long x1), (3, .int x3)] → W p l e ({ frames := 1, cells := 0, slots := 0, locals := 23 } : Room) s m args below meth c H locs 0 0 (MQ below (mQl D y nn ad A0 out (I, J, A, B, G)) args s 0 0 A0) (F0 m 4 ls []) := by
  intro n
  induction n with
  | zero =>
    intro x1 x3 ls H locs hE
    cases (show (none : Option _) = some out from hE)
  | succ n ih =>
    intro x1 x3 ls H locs hE hM hl
    exact s_X0_sumOfChosen_4 F hr (N := N)  (lq2 (f_X0_sumOfChosen_4 N nn (I 0) (A 23) (G 0) ) n) ih x1 x3 ls H locs hE hM hl
set_option maxHeartbeats 4000000 in
set_option maxRecDepth 100000 in
theorem c_X0_sumOfChosen (l : Launch) (D : va_G) (y : Nat → ClassId) (nn : Nat) (ad : Nat → Nat) (sz : Nat) (I : Nat → Int32) (J : Nat → Int64) (A : Nat → Nat → Int32) (B : Nat → Nat → Int64) (G : Nat → Nat → Nat → Int32)  (N : Nat) (out : Int64) (hE : f_X0_sumOfChosen N nn (I 0) (A 23) (G 0)   = some out) : Met l yX0_sumOfChosen wsX0_sumOfChosen ({ frames := 1, cells := 0, slots := 0, locals := 23 } : Room) (mPc [.ref (ad 3)] D y nn ad sz I J A B G) (mQl D y nn ad (mA y nn ad I J A B G sz) out (I, J, A, B, G)) 0 0 (mA y nn ad I J A B G sz) := by
  refine Met.ofW (cc := cX0_sumOfChosen) (maxL := 4) (ret := (some .long)) (by decide) rfl ?_
  intro p e s m args below meth c s₁ Bd hml hv
  obtain ⟨rfl, hsz, hP, hK, hD0, hN⟩ := hv
  have hr := Bd.returns
  subst hsz
  have F : Fx p s m ([.ref (ad 3)] : List Value).toArray meth c cX0_sumOfChosen 4 wsX0_sumOfChosen RX0 D y (mA y nn ad I J A B G s.heap.size) := ⟨⟨Bd.exec, Bd.bytes, hml, findClass_of_methodNamed Bd.named, atoms_spec (ws := wsX0_sumOfChosen) Bd.pre⟩, hK, hN, fun q h => Or.inr h, Bd.notSynchronized⟩
  have hM := m_start (s := s) rfl hP hD0
  have hM := m_mem (I2 := I) (J2 := J) (A2 := A) (B2 := B) (G2 := G) hM (by rfl) (by rfl) (by rfl) (by rfl) (by rfl)
  have hx := F.1.1
  have hb := F.1.2.1
  have hl := lv_entry ([.ref (ad 3)]) (n := 4) (Nat.le_of_ble_eq_true rfl)
  rw [lg_entry_eq]
  generalize (lg_sl ([.ref (ad 3)]) ++ List.replicate (4 - (lg_sl ([.ref (ad 3)])).length) Slot.unset).toArray = ls at hl ⊢
  have hl : lv_has ls 4 [(0, .ref (ad 3))] := hl
  show W p l e ({ frames := 1, cells := 0, slots := 0, locals := 23 } : Room) s m _ below meth c s.heap [] 0 0 _ _
  obtain ⟨locs, hlo⟩ : ∃ locs : List Loc, locs = [] := ⟨_, rfl⟩
  rw [← hlo]; rw [← hlo] at hM
  unfold f_X0_sumOfChosen at hE
  revert hM
  suffices hH : ∀ H : Heap, MM D y nn ad (mA y nn ad I J A B G s.heap.size) s.heap I J A B G H locs → W p l e ({ frames := 1, cells := 0, slots := 0, locals := 23 } : Room) s m ([.ref (ad 3)] : List Value).toArray below meth c H locs 0 0 (MQ below (mQl D y nn ad (mA y nn ad I J A B G s.heap.size) out (I, J, A, B, G)) ([.ref (ad 3)] : List Value).toArray s 0 0 (mA y nn ad I J A B G s.heap.size)) (F0 m 0 ls []) from hH s.heap
  intro H hM
  refine lv_lconst (v := 0) hx hb dX0_sumOfChosen_0 (by decide) ?_
  refine lv_lstore_n (lv' := [(1, .long (0 : Int64)), (0, .ref (ad 3))]) hx hb dX0_sumOfChosen_1 rfl hl (by decide) rfl (fun ls hl => ?_)
  refine lv_iconst (v := 1) hx hb dX0_sumOfChosen_2 (by decide) ?_
  refine lv_istore_n (lv' := [(3, .int (1 : Int32)), (1, .long (0 : Int64)), (0, .ref (ad 3))]) hx hb dX0_sumOfChosen_3 rfl hl (by decide) rfl (fun ls hl => ?_)
  exact k_X0_sumOfChosen_4 F hr (N := N)  N (0 : Int64) (1 : Int32) ls H locs hE hM (lv_sub hl [2, 1, 0] rfl)
/-! ===== X0_leastSum: reads I0 G0, writes A23 A24 A25 B50 B51 B52, frames 3, locals 70 ===== -/
def f_X0_leastSum_26 (N : Nat) (nn : Nat) (i0 : Int32) (g0 : Nat → Nat → Int32)  (nx26 : Int32 → (Nat → Int32) → (Nat → Int32) → (Nat → Int32) → (Nat → Int64) → (Nat → Int64) → (Nat → Int64) → Option (Int64 × (Nat → Int32) × (Nat → Int32) × (Nat → Int32) × (Nat → Int64) × (Nat → Int64) × (Nat → Int64))) (x1 : Int32) (a23' : Nat → Int32) (a24' : Nat → Int32) (a25' : Nat → Int32) (b50' : Nat → Int64) (b51' : Nat → Int64) (b52' : Nat → Int64) : Option (Int64 × (Nat → Int32) × (Nat → Int32) × (Nat → Int32) × (Nat → Int64) × (Nat → Int64) × (Nat → Int64)) :=
(if i0 < x1 then
bd (f_X0_sumOfChosen N nn i0 a23' g0) fun o59_6 =>
some (o59_6, a23', a24', a25', b50', b51', b52')
else
ck (0 : Int32) (nn + 1) (
nmd (upd a23' (0 : Int32).toNatClampNeg x1) fun w43_8 =>
bd (f_X0_findFreeColumn N nn i0 w43_8 g0 a24' a25' b50' b51' b52') fun o46_9 =>
bd (f_X0_changeAlong N nn i0 o46_9.2.1 w43_8 o46_9.1) fun o49_10 =>
nx26 (x1 + (1 : Int32)) o49_10 o46_9.2.1 o46_9.2.2.1 o46_9.2.2.2.1 o46_9.2.2.2.2.1 o46_9.2.2.2.2.2))
def f_X0_leastSum (N : Nat) (nn : Nat) (i0 : Int32) (g0 : Nat → Nat → Int32) (a23 : Nat → Int32) (a24 : Nat → Int32) (a25 : Nat → Int32) (b50 : Nat → Int64) (b51 : Nat → Int64) (b52 : Nat → Int64)  : Option (Int64 × (Nat → Int32) × (Nat → Int32) × (Nat → Int32) × (Nat → Int64) × (Nat → Int64) × (Nat → Int64)) :=
fck (nn + 1) (
nmd (fil (nn + 1) (0 : Int64) b50) fun w5_0 =>
fck (nn + 1) (
nmd (fil (nn + 1) (0 : Int64) b51) fun w13_2 =>
fck (nn + 1) (
nmd (fil (nn + 1) (0 : Int32) a23) fun w21_4 =>
lq7 (f_X0_leastSum_26 N nn i0 g0 ) N (1 : Int32) w21_4 a24 a25 w5_0 w13_2 b52)))
set_option maxHeartbeats 4000000 in
set_option maxRecDepth 100000 in
theorem s_X0_leastSum_26 {p : Program} {l : Launch} {e : Env} {s : State} {m : MethodId} {args : Array Value} {below : List Frame} {meth : Method} {c : Code} {D : va_G} {y : Nat → ClassId} {nn : Nat} {ad : Nat → Nat} {A0 : Nat → Prop} {I : Nat → Int32} {J : Nat → Int64} {A : Nat → Nat → Int32} {B : Nat → Nat → Int64} {G : Nat → Nat → Nat → Int32} (F : Fx p s m args meth c cX0_leastSum 2 wsX0_leastSum RX0 D y A0) (hr : meth.sig.returnType = (some .long)) {out : Int64 × (Nat → Int32) × (Nat → Int32) × (Nat → Int32) × (Nat → Int64) × (Nat → Int64) × (Nat → Int64)} {N : Nat}  (nx26 : Int32 → (Nat → Int32) → (Nat → Int32) → (Nat → Int32) → (Nat → Int64) → (Nat → Int64) → (Nat → Int64) → Option (Int64 × (Nat → Int32) × (Nat → Int32) × (Nat → Int32) × (Nat → Int64) × (Nat → Int64) × (Nat → Int64))) (hn26 : ∀ (x1 : Int32) (a23' : Nat → Int32) (a24' : Nat → Int32) (a25' : Nat → Int32) (b50' : Nat → Int64) (b51' : Nat → Int64) (b52' : Nat → Int64) (ls : Array Slot) (H : Heap) (locs : List Loc), nx26 x1 a23' a24' a25' b50' b51' b52' = some out → MM D y nn ad A0 s.heap I J (va_up (va_up (va_up A 23 a23') 24 a24') 25 a25') (va_up (va_up (va_up B 50 b50') 51 b51') 52 b52') G H locs → lv_has ls 2 [(0, .ref (ad 3)), (1, .int x1)] → W p l e ({ frames := 3, cells := 0, slots := 0, locals := 70 } : Room) s m args below meth c H locs 0 0 (MQ below (mQl D y nn ad A0 out.1 (I, J, (va_up (va_up (va_up A 23 out.2.1) 24 out.2.2.1) 25 out.2.2.2.1), (va_up (va_up (va_up B 50 out.2.2.2.2.1) 51 out.2.2.2.2.2.1) 52 out.2.2.2.2.2.2), G)) args s 0 0 A0) (F0 m 26 ls [])) : ∀ (x1 : Int32) (a23' : Nat → Int32) (a24' : Nat → Int32) (a25' : Nat → Int32) (b50' : Nat → Int64) (b51' : Nat → Int64) (b52' : Nat → Int64) (ls : Array Slot) (H : Heap) (locs : List Loc), f_X0_leastSum_26 N nn (I 0) (G 0)  nx26 x1 a23' a24' a25' b50' b51' b52' = some out → MM D y nn ad A0 s.heap I J (va_up (va_up (va_up A 23 a23') 24 a24') 25 a25') (va_up (va_up (va_up B 50 b50') 51 b51') 52 b52') G H locs → lv_has ls 2 [(0, .ref (ad 3)), (1, .int x1)] → W p l e ({ frames := 3, cells := 0, slots := 0, locals := 70 } : Room) s m args below meth c H locs 0 0 (MQ below (mQl D y nn ad A0 out.1 (I, J, (va_up (va_up (va_up A 23 out.2.1) 24 out.2.2.1) 25 out.2.2.2.1), (va_up (va_up (va_up B 50 out.2.2.2.2.1) 51 out.2.2.2.2.2.1) 52 out.2.2.2.2.2.2), G)) args s 0 0 A0) (F0 m 26 ls []) := by
  intro x1 a23' a24' a25' b50' b51' b52' ls H locs hE hM hl
  have hx := F.1.1
  have hb := F.1.2.1
  unfold f_X0_leastSum_26 at hE
  refine lv_iload_n hx hb dX0_leastSum_26 rfl (lv_at hl 1 rfl) ?_
  refine lv_aload_n hx hb dX0_leastSum_27 rfl (lv_at hl 0 rfl) ?_
  refine m_get F hM 3 mg_3 rfl 0 (by decide) (by decide +kernel) (by decide +kernel) (v := .ref (ad 1)) rfl dX0_leastSum_28 ?_
  refine m_getN F hM 1 mg_1 rfl 0 (by decide) (by decide +kernel) (by decide +kernel) (v := .int (I 0)) rfl dX0_leastSum_31 ?_
  refine lv_icmp_gt (tgt := 58) hx hb dX0_leastSum_34 (by decide) (fun c34 => ?_) (fun c34 => ?_)
  · replace hE := (if_pos c34).symm.trans hE
    refine lv_aload_n hx hb dX0_leastSum_58 rfl (lv_at hl 0 rfl) ?_
    obtain ⟨o59_6, ho59_6, hE⟩ := bd_some hE
    refine m_callVl (As := []) (I2 := I) (J2 := J) (A2 := (va_up (va_up (va_up A 23 a23') 24 a24') 25 a25')) (B2 := (va_up (va_up (va_up B 50 b50') 51 b51') 52 b52')) (G2 := G) F hM (c_X0_sumOfChosen l D y nn ad H.size I J (va_up (va_up (va_up A 23 a23') 24 a24') 25 a25') (va_up (va_up (va_up B 50 b50') 51 b51') 52 b52') G  N o59_6 ho59_6) (cwV 0 F.1.2.2.2.2 gX0_leastSum_X0_sumOfChosen rfl rfl rfl (by decide +kernel) ⟨Nat.le_of_ble_eq_true rfl, Nat.le_of_ble_eq_true rfl⟩) (m_recv F hM mg_3 rfl) rfl hl.1 (Nat.le_of_ble_eq_true rfl) dX0_leastSum_59 ⟨Nat.le_refl 0, Nat.le_refl 0⟩ rfl rfl rfl rfl rfl (fun H locs hM => ?_)
    obtain rfl := Option.some.inj hE
    exact m_lret F hM hr rfl rfl dX0_leastSum_62
  · replace hE := (if_neg c34).symm.trans hE
    refine lv_aload_n hx hb dX0_leastSum_37 rfl (lv_at hl 0 rfl) ?_
    refine m_get F hM 3 mg_3 rfl 4 (by decide) (by decide +kernel) (by decide +kernel) (v := .ref (ad 23)) rfl dX0_leastSum_38 ?_
    refine lv_iconst (v := 0) hx hb dX0_leastSum_41 (by decide) ?_
    refine lv_iload_n hx hb dX0_leastSum_42 rfl (lv_at hl 1 rfl) ?_
    obtain ⟨hi43_7, hE⟩ := ck_some hE
    obtain ⟨w43_8, ew43_8, hE⟩ := nmd_some hE
    refine m_iast (f := a23') (A' := (va_up (va_up (va_up A 23 w43_8) 24 a24') 25 a25')) F hM mg_23 ms_23 (by rw [ew43_8]; exact un_23_24_25__23) hi43_7 dX0_leastSum_43 (fun H locs hM => ?_)
    refine lv_aload_n hx hb dX0_leastSum_44 rfl (lv_at hl 0 rfl) ?_
    refine lv_aload_n hx hb dX0_leastSum_45 rfl (lv_at hl 0 rfl) ?_
    obtain ⟨o46_9, ho46_9, hE⟩ := bd_some hE
    refine m_callVi (As := []) (I2 := I) (J2 := J) (A2 := (va_up (va_up (va_up A 23 w43_8) 24 o46_9.2.1) 25 o46_9.2.2.1)) (B2 := (va_up (va_up (va_up B 50 o46_9.2.2.2.1) 51 o46_9.2.2.2.2.1) 52 o46_9.2.2.2.2.2)) (G2 := G) F hM (c_X0_findFreeColumn l D y nn ad H.size I J (va_up (va_up (va_up A 23 w43_8) 24 a24') 25 a25') (va_up (va_up (va_up B 50 b50') 51 b51') 52 b52') G  N o46_9 ho46_9) (cwV 0 F.1.2.2.2.2 gX0_leastSum_X0_findFreeColumn rfl rfl rfl (by decide +kernel) ⟨Nat.le_of_ble_eq_true rfl, Nat.le_of_ble_eq_true rfl⟩) (m_recv F hM mg_3 rfl) rfl hl.1 (Nat.le_of_ble_eq_true rfl) dX0_leastSum_46 ⟨Nat.le_refl 0, Nat.le_refl 0⟩ rfl rfl un_23_24_25__24_25 un_50_51_52__50_51_52 rfl (fun H locs hM => ?_)
    obtain ⟨o49_10, ho49_10, hE⟩ := bd_some hE
    refine m_callVv (As := [.int o46_9.1]) (I2 := I) (J2 := J) (A2 := (va_up (va_up (va_up A 23 o49_10) 24 o46_9.2.1) 25 o46_9.2.2.1)) (B2 := (va_up (va_up (va_up B 50 o46_9.2.2.2.1) 51 o46_9.2.2.2.2.1) 52 o46_9.2.2.2.2.2)) (G2 := G) F hM (c_X0_changeAlong l D y nn ad H.size I J (va_up (va_up (va_up A 23 w43_8) 24 o46_9.2.1) 25 o46_9.2.2.1) (va_up (va_up (va_up B 50 o46_9.2.2.2.1) 51 o46_9.2.2.2.2.1) 52 o46_9.2.2.2.2.2) G o46_9.1 N o49_10 ho49_10) (cwV 1 F.1.2.2.2.2 gX0_leastSum_X0_changeAlong rfl rfl rfl (by decide +kernel) ⟨Nat.le_of_ble_eq_true rfl, Nat.le_of_ble_eq_true rfl⟩) (m_recv F hM mg_3 rfl) rfl hl.1 (Nat.le_of_ble_eq_true rfl) dX0_leastSum_49 ⟨Nat.le_refl 0, Nat.le_refl 0⟩ rfl rfl un_23_24_25__23 rfl rfl (fun H locs hM => ?_)
    refine lv_iinc (v := x1 + (1 : Int32)) (lv' := [(1, .int (x1 + (1 : Int32))), (0, .ref (ad 3))]) hx hb dX0_leastSum_52 hl (k := 1) rfl rfl (by decide) rfl (fun ls hl => ?_)
    refine lv_goto (tgt := 26) hx hb dX0_leastSum_55 (by decide) ?_
    exact hn26 (x1 + (1 : Int32)) o49_10 o46_9.2.1 o46_9.2.2.1 o46_9.2.2.2.1 o46_9.2.2.2.2.1 o46_9.2.2.2.2.2 ls H locs hE hM (lv_sub hl [1, 0] rfl)
theorem k_X0_leastSum_26 {p : Program} {l : Launch} {e : Env} {s : State} {m : MethodId} {args : Array Value} {below : List Frame} {meth : Method} {c : Code} {D : va_G} {y : Nat → ClassId} {nn : Nat} {ad : Nat → Nat} {A0 : Nat → Prop} {I : Nat → Int32} {J : Nat → Int64} {A : Nat → Nat → Int32} {B : Nat → Nat → Int64} {G : Nat → Nat → Nat → Int32} (F : Fx p s m args meth c cX0_leastSum 2 wsX0_leastSum RX0 D y A0) (hr : meth.sig.returnType = (some .long)) {out : Int64 × (Nat → Int32) × (Nat → Int32) × (Nat → Int32) × (Nat → Int64) × (Nat → Int64) × (Nat → Int64)} {N : Nat}  : ∀ (n : Nat), ∀ (x1 : Int32) (a23' : Nat → Int32) (a24' : Nat → Int32) (a25' : Nat → Int32) (b50' : Nat → Int64) (b51' : Nat → Int64) (b52' : Nat → Int64) (ls : Array Slot) (H : Heap) (locs : List Loc), lq7 (f_X0_leastSum_26 N nn (I 0) (G 0) ) n x1 a23' a24' a25' b50' b51' b52' = some out → MM D y nn ad A0 s.heap I J (va_up (va_up (va_up A 23 a23') 24 a24') 25 a25') (va_up (va_up (va_up B 50 b50') 51 b51') 52 b52') G H locs → lv_has ls 2 [(0, .ref (ad 3)), (1, .int x1)] → W p l e ({ frames := 3, cells := 0, slots := 0, locals := 70 } : Room) s m args below meth c H locs 0 0 (MQ below (mQl D y nn ad A0 out.1 (I, J, (va_up (va_up (va_up A 23 out.2.1) 24 out.2.2.1) 25 out.2.2.2.1), (va_up (va_up (va_up B 50 out.2.2.2.2.1) 51 out.2.2.2.2.2.1) 52 out.2.2.2.2.2.2), G)) args s 0 0 A0) (F0 m 26 ls []) := by
  intro n
  induction n with
  | zero =>
    intro x1 a23' a24' a25' b50' b51' b52' ls H locs hE
    cases (show (none : Option _) = some out from hE)
  | succ n ih =>
    intro x1 a23' a24' a25' b50' b51' b52' ls H locs hE hM hl
    exact s_X0_leastSum_26 F hr (N := N)  (lq7 (f_X0_leastSum_26 N nn (I 0) (G 0) ) n) ih x1 a23' a24' a25' b50' b51' b52' ls H locs hE hM hl
set_option maxHeartbeats 4000000 in
set_option maxRecDepth 100000 in
theorem c_X0_leastSum (l : Launch) (D : va_G) (y : Nat → ClassId) (nn : Nat) (ad : Nat → Nat) (sz : Nat) (I : Nat → Int32) (J : Nat → Int64) (A : Nat → Nat → Int32) (B : Nat → Nat → Int64) (G : Nat → Nat → Nat → Int32)  (N : Nat) (out : Int64 × (Nat → Int32) × (Nat → Int32) × (Nat → Int32) × (Nat → Int64) × (Nat → Int64) × (Nat → Int64)) (hE : f_X0_leastSum N nn (I 0) (G 0) (A 23) (A 24) (A 25) (B 50) (B 51) (B 52)  = some out) : Met l yX0_leastSum wsX0_leastSum ({ frames := 3, cells := 0, slots := 0, locals := 70 } : Room) (mPc [.ref (ad 3)] D y nn ad sz I J A B G) (mQl D y nn ad (mA y nn ad I J A B G sz) out.1 (I, J, (va_up (va_up (va_up A 23 out.2.1) 24 out.2.2.1) 25 out.2.2.2.1), (va_up (va_up (va_up B 50 out.2.2.2.2.1) 51 out.2.2.2.2.2.1) 52 out.2.2.2.2.2.2), G)) 0 0 (mA y nn ad I J A B G sz) := by
  refine Met.ofW (cc := cX0_leastSum) (maxL := 2) (ret := (some .long)) (by decide) rfl ?_
  intro p e s m args below meth c s₁ Bd hml hv
  obtain ⟨rfl, hsz, hP, hK, hD0, hN⟩ := hv
  have hr := Bd.returns
  subst hsz
  have F : Fx p s m ([.ref (ad 3)] : List Value).toArray meth c cX0_leastSum 2 wsX0_leastSum RX0 D y (mA y nn ad I J A B G s.heap.size) := ⟨⟨Bd.exec, Bd.bytes, hml, findClass_of_methodNamed Bd.named, atoms_spec (ws := wsX0_leastSum) Bd.pre⟩, hK, hN, fun q h => Or.inr h, Bd.notSynchronized⟩
  have hM := m_start (s := s) rfl hP hD0
  have hM := m_mem (I2 := I) (J2 := J) (A2 := (va_up (va_up (va_up A 23 (A 23)) 24 (A 24)) 25 (A 25))) (B2 := (va_up (va_up (va_up B 50 (B 50)) 51 (B 51)) 52 (B 52))) (G2 := G) hM (by rfl) (by rfl) (by simp only [up_id]) (by simp only [up_id]) (by rfl)
  have hx := F.1.1
  have hb := F.1.2.1
  have hl := lv_entry ([.ref (ad 3)]) (n := 2) (Nat.le_of_ble_eq_true rfl)
  rw [lg_entry_eq]
  generalize (lg_sl ([.ref (ad 3)]) ++ List.replicate (2 - (lg_sl ([.ref (ad 3)])).length) Slot.unset).toArray = ls at hl ⊢
  have hl : lv_has ls 2 [(0, .ref (ad 3))] := hl
  show W p l e ({ frames := 3, cells := 0, slots := 0, locals := 70 } : Room) s m _ below meth c s.heap [] 0 0 _ _
  obtain ⟨locs, hlo⟩ : ∃ locs : List Loc, locs = [] := ⟨_, rfl⟩
  rw [← hlo]; rw [← hlo] at hM
  unfold f_X0_leastSum at hE
  revert hM
  suffices hH : ∀ H : Heap, MM D y nn ad (mA y nn ad I J A B G s.heap.size) s.heap I J (va_up (va_up (va_up A 23 (A 23)) 24 (A 24)) 25 (A 25)) (va_up (va_up (va_up B 50 (B 50)) 51 (B 51)) 52 (B 52)) G H locs → W p l e ({ frames := 3, cells := 0, slots := 0, locals := 70 } : Room) s m ([.ref (ad 3)] : List Value).toArray below meth c H locs 0 0 (MQ below (mQl D y nn ad (mA y nn ad I J A B G s.heap.size) out.1 (I, J, (va_up (va_up (va_up A 23 out.2.1) 24 out.2.2.1) 25 out.2.2.2.1), (va_up (va_up (va_up B 50 out.2.2.2.2.1) 51 out.2.2.2.2.2.1) 52 out.2.2.2.2.2.2), G)) ([.ref (ad 3)] : List Value).toArray s 0 0 (mA y nn ad I J A B G s.heap.size)) (F0 m 0 ls []) from hH s.heap
  intro H hM
  refine lv_aload_n hx hb dX0_leastSum_0 rfl (lv_at hl 0 rfl) ?_
  refine m_get F hM 3 mg_3 rfl 1 (by decide) (by decide +kernel) (by decide +kernel) (v := .ref (ad 50)) rfl dX0_leastSum_1 ?_
  refine lv_lconst (v := 0) hx hb dX0_leastSum_4 (by decide) ?_
  obtain ⟨hf5_1, hE⟩ := fck_some hE
  obtain ⟨w5_0, ew5_0, hE⟩ := nmd_some hE
  refine m_callSv (As := [.ref (ad 50), .long (0 : Int64)]) (A2 := (va_up (va_up (va_up A 23 (A 23)) 24 (A 24)) 25 (A 25))) (B2 := (va_up (va_up (va_up B 50 w5_0) 51 (B 51)) 52 (B 52))) F hM (c_J7_fill_d0a16 l D y nn ad H.size _ _ _ _ _ hf5_1 (fun _ => mg_50) (fun _ f1 => ms_50 f1) (0 : Int64)) (va_cwS 2 F.1.2.2.2.2 gX0_leastSum_J7_fill_d0a16 rfl rfl rfl (by decide +kernel) ⟨Nat.le_of_ble_eq_true rfl, Nat.le_of_ble_eq_true rfl⟩) rfl hl.1 (Nat.le_of_ble_eq_true rfl) dX0_leastSum_5 ⟨Nat.le_refl 0, Nat.le_refl 0⟩ rfl rfl rfl (by rw [ew5_0]; exact un_50_51_52__50) rfl (fun H locs hM => ?_)
  refine lv_aload_n hx hb dX0_leastSum_8 rfl (lv_at hl 0 rfl) ?_
  refine m_get F hM 3 mg_3 rfl 2 (by decide) (by decide +kernel) (by decide +kernel) (v := .ref (ad 51)) rfl dX0_leastSum_9 ?_
  refine lv_lconst (v := 0) hx hb dX0_leastSum_12 (by decide) ?_
  obtain ⟨hf13_3, hE⟩ := fck_some hE
  obtain ⟨w13_2, ew13_2, hE⟩ := nmd_some hE
  refine m_callSv (As := [.ref (ad 51), .long (0 : Int64)]) (A2 := (va_up (va_up (va_up A 23 (A 23)) 24 (A 24)) 25 (A 25))) (B2 := (va_up (va_up (va_up B 50 w5_0) 51 w13_2) 52 (B 52))) F hM (c_J7_fill_d0a16 l D y nn ad H.size _ _ _ _ _ hf13_3 (fun _ => mg_51) (fun _ f1 => ms_51 f1) (0 : Int64)) (va_cwS 2 F.1.2.2.2.2 gX0_leastSum_J7_fill_d0a16 rfl rfl rfl (by decide +kernel) ⟨Nat.le_of_ble_eq_true rfl, Nat.le_of_ble_eq_true rfl⟩) rfl hl.1 (Nat.le_of_ble_eq_true rfl) dX0_leastSum_13 ⟨Nat.le_refl 0, Nat.le_refl 0⟩ rfl rfl rfl (by rw [ew13_2]; exact un_50_51_52__51) rfl (fun H locs hM => ?_)
  refine lv_aload_n hx hb dX0_leastSum_16 rfl (lv_at hl 0 rfl) ?_
  refine m_get F hM 3 mg_3 rfl 4 (by decide) (by decide +kernel) (by decide +kernel) (v := .ref (ad 23)) rfl dX0_leastSum_17 ?_
  refine lv_iconst (v := 0) hx hb dX0_leastSum_20 (by decide) ?_
  obtain ⟨hf21_5, hE⟩ := fck_some hE
  obtain ⟨w21_4, ew21_4, hE⟩ := nmd_some hE
  refine m_callSv (As := [.ref (ad 23), .int (0 : Int32)]) (A2 := (va_up (va_up (va_up A 23 w21_4) 24 (A 24)) 25 (A 25))) (B2 := (va_up (va_up (va_up B 50 w5_0) 51 w13_2) 52 (B 52))) F hM (c_J7_fill_53178 l D y nn ad H.size _ _ _ _ _ hf21_5 (fun _ => mg_23) (fun _ f1 => ms_23 f1) (0 : Int32)) (va_cwS 2 F.1.2.2.2.2 gX0_leastSum_J7_fill_53178 rfl rfl rfl (by decide +kernel) ⟨Nat.le_of_ble_eq_true rfl, Nat.le_of_ble_eq_true rfl⟩) rfl hl.1 (Nat.le_of_ble_eq_true rfl) dX0_leastSum_21 ⟨Nat.le_refl 0, Nat.le_refl 0⟩ rfl rfl (by rw [ew21_4]; exact un_23_24_25__23) rfl rfl (fun H locs hM => ?_)
  refine lv_iconst (v := 1) hx hb dX0_leastSum_24 (by decide) ?_
  refine lv_istore_n (lv' := [(1, .int (1 : Int32)), (0, .ref (ad 3))]) hx hb dX0_leastSum_25 rfl hl (by decide) rfl (fun ls hl => ?_)
  exact k_X0_leastSum_26 F hr (N := N)  N (1 : Int32) w21_4 (A 24) (A 25) w5_0 w13_2 (B 52) ls H locs hE hM (lv_sub hl [1, 0] rfl)
