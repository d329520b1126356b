/-! ===== the law's cases with exceptions ===== -/
theorem inq_way : ∀ w ∈ (vx_atS RX6 80 RJx00060 nmA).filter goodWord, w ∈ lw_tbl := by decide +kernel
theorem inq_c13 : Cond.classLink RL 13 RJx00060 ∈ lw_tbl := by decide +kernel
theorem gT_L_way : GoodIn lw_tbl (va_wsS RL 35 yL_way wsL_wayT) := by
  intro w h
  have g0 : ∀ w ∈ va_wsS RL 35 yL_way wsL_way, w ∈ lw_tbl ∧ ((w.onTables && w.keeps) = true ∨ ∃ ty, w = .arrayClass ty) := fun w h => ⟨wsL_law_in w (gL_law_L_way w h).1, (gL_law_L_way w h).2⟩
  have g1 : ∀ w ∈ wsL_way, w ∈ lw_tbl ∧ ((w.onTables && w.keeps) = true ∨ ∃ ty, w = .arrayClass ty) := fun w h => g0 w (List.mem_append_right _ h)
  unfold va_wsS at h
  rcases List.mem_append.mp h with h | h
  · exact g0 w (List.mem_append_left _ h)
  · unfold wsL_wayT at h
    rcases List.mem_cons.mp h with h | h
    · rw [h]; exact g1 _ List.mem_cons_self
    · rcases List.mem_cons.mp h with h | h
      · rw [h]; exact ⟨inq_c13, Or.inl (by decide +kernel)⟩
      · rcases wsV_T w h with h | h
        · exact ⟨(g1 w (gL_way_X6_way w h).1).1, (gL_way_X6_way w h).2⟩
        · exact ⟨inq_way w h, good_app h⟩
section LAW2
variable {p : Program} {l : Launch} {e : Env} {s : State} {m : MethodId} {below : List Frame} {meth : Method} {c : Code} {Q : State → Prop} {b L nn cells slots i : Nat} {xs : Nat → Int32} {D : va_G} {y : Nat → ClassId} {ad : Nat → Nat} {I : Nat → Int32} {J : Nat → Int64} {A : Nat → Nat → Int32} {B : Nat → Nat → Int64} {G : Nat → Nat → Nat → Int32} {H : Heap} {locs : List Loc} {ls : Array Slot}
theorem law_callS {Ts : List Cond} {ym : MethodName} {bytes : ByteArray} {maxL n index pc mc ms : Nat} {ret : Option FieldType} {hh : List (Nat × Nat × Nat × Nat)} {ws : List Cond} {rm : Room} {r0 : Int32} {I1 : Nat → Int32} {J1 : Nat → Int64} {A1 : Nat → Nat → Int32} {B1 : Nat → Nat → Int64} {G1 : Nat → Nat → Nat → Int32} {As rest : List Value} {Pc : Array Value → State → Prop} (hX : LX p l s m meth c b L xs D y) (Ft : CallFix p m c cL_law 8 s #[Value.ref b] Ts RL) (hM : LM D y nn ad s I J A B G H locs) (hMet : Met l ym ws rm Pc (mQi D y nn ad (mA y nn ad I J A B G H.size) r0 (I1, J1, A1, B1, G1)) mc ms (mA y nn ad I J A B G H.size)) (cw : vx_CSW room_1 s #[Value.ref b] RL index ym bytes maxL ret hh ws rm mc ms n) (hp : PreS s H Pc As) (hn : As.length = n) (hl : ls.size = 8) (hw8 : (rest.map fun v => v.category).sum ≤ 8) (hdg : decode cL_law pc = .ok (.invokestatic index, 3)) (hf : cells + mc ≤ room_1.cells ∧ slots + ms ≤ room_1.slots)
    (kk : ∀ (H1 : Heap) (locs1 : List Loc), LM D y nn ad s I1 J1 A1 B1 G1 H1 locs1 → W p l e room_1 s m #[Value.ref b] below meth c H1 locs1 (cells + mc) (slots + ms) Q (F0 m (pc + 3) ls (.int r0 :: rest))) : W p l e room_1 s m #[Value.ref b] below meth c H locs cells slots Q (F0 m pc ls (As.reverse ++ rest)) := by
  have hFc := m_free hX.1 hM
  refine va_calli (vx_runSW (As := As) (rest := rest) Ft hMet cw hp rfl hn hl rfl (lv_room hw8) hdg hf) hM.2.2 (fun q _ h => hFc q h) hFc (fun v u t H1 locs1 ht hvm hw hB hz1 hk1 hS1 => ?_)
  obtain ⟨rfl, rfl⟩ := hw
  obtain ⟨hP1, hK1, hD1⟩ := hB
  rw [ht] at hP1
  exact kk H1 locs1 ⟨hP1, hD1.weaken (fun _ _ _ h => hFc _ h), hS1⟩
theorem law_preN {As : List Value} (hX : LX p l s m meth c b L xs D y) (hM : LM D y nn ad s I J A B G H locs) : PreS s H (mPc As D y nn ad H.size I J A B G) As := ⟨mPc_blind, fun U hU hW => ⟨rfl, by rw [hU], by rw [hU]; exact hM.1, va_K.moved hW.alike hX.1.2.1, hM.2.1.weaken (fun _ _ _ _ => trivial), hX.1.2.2.1.warm hW⟩⟩
theorem law_preX {As : List Value} (hX : LX p l s m meth c b L xs D y) (hM : LM D y nn ad s I J A B G H locs) : PreS s H (xPc As D y nn ad H.size I J A B G) As := ⟨xPc_blind, fun U hU hW => ⟨⟨rfl, by rw [hU], by rw [hU]; exact hM.1, va_K.moved hW.alike hX.1.2.1, hM.2.1.weaken (fun _ _ _ _ => trivial), hX.1.2.2.1.warm hW⟩, xF_go hW hU hX.2.2.2.1 hM.2.2 (m_free hX.1 hM)⟩⟩
theorem v_tz (z : Int64) : ((if z < (0 : Int64) then (-1 : Int32) else if z ≤ (1000000 : Int64) then z.toInt32 else (-1 : Int32))).toInt = tz z.toInt := by
  have z64 : (0 : Int64).toInt = 0 := by decide
  have m64 : (1000000 : Int64).toInt = 1000000 := by decide
  unfold tz
  by_cases c1 : z < 0
  · rw [if_pos c1]
    rw [i64_lt, z64] at c1
    rw [if_pos (Or.inl c1)]
    decide
  · rw [if_neg c1]
    rw [i64_lt, z64] at c1
    by_cases c2 : z ≤ 1000000
    · rw [if_pos c2]
      rw [i64_le, m64] at c2
      rw [if_neg (by omega), Int64.toInt_toInt32]
      exact bm32 (by omega) (by omega)
    · rw [if_neg c2]
      rw [i64_le, m64] at c2
      rw [if_pos (Or.inr (by omega))]
      decide
set_option maxHeartbeats 4000000 in
set_option maxRecDepth 100000 in
/-- the reference's half of 'way', and the comparison -/
theorem law_0b (hX : LX p l s m meth c b L xs D y) (hcells : cells ≤ 601024) (hslots : slots ≤ 7293000) (hi : i + 5 ≤ L) {k : Int32} {z : Int64} (ez : z = ((xs (i + 3)).toInt64 <<< ((32 : Int32).toInt64 &&& 63)) ||| ((xs (i + 4)).toInt64 &&& 4294967295)) {b' : Nat → Int64} (hE : f_X7_way (I 6) (I 5) (B 54) (xs (i + 1)) (xs (i + 2)) z = some (k, b')) (hM : LM D y nn ad s I J A B G H locs) (hl : lv_has ls 8 ((5, .int k) :: Lvs b ad i)) (K : ∀ (H : Heap) (locs : List Loc) (ls : Array Slot), LM D y nn ad s (va_up I 5 k) J A (va_up B 54 b') G H locs → lv_has ls 8 (Lvs b ad i) → W p l e room_1 s m #[Value.ref b] below meth c H locs cells slots Q (F0 m 460 ls [])) : W p l e room_1 s m #[Value.ref b] below meth c H locs cells slots Q (F0 m 144 ls []) := by
  have F := hX.1
  have hx := F.1.1
  have hb := F.1.2.1
  refine lv_aload_n hx hb dL_law_144 rfl (lv_at hl 4 rfl) ?_
  refine law_ld (k := 1) hX hM.2.2 hl 2 1 rfl rfl (by omega) (by decide) dL_law_145 dL_law_146 dL_law_148 dL_law_149 dL_law_150 ?_
  refine law_ld (k := 2) hX hM.2.2 hl 2 1 rfl rfl (by omega) (by decide) dL_law_151 dL_law_152 dL_law_154 dL_law_155 dL_law_156 ?_
  refine law_ld (k := 3) hX hM.2.2 hl 2 1 rfl rfl (by omega) (by decide) dL_law_157 dL_law_158 dL_law_160 dL_law_161 dL_law_162 ?_
  refine lv_i2l hx hb dL_law_163 rfl ?_
  refine lv_bipush (v := 32) hx hb dL_law_164 (by decide) ?_
  refine lv_lshl hx hb dL_law_166 rfl ?_
  refine law_ld (k := 4) hX hM.2.2 hl 2 1 rfl rfl (by omega) (by decide) dL_law_167 dL_law_168 dL_law_170 dL_law_171 dL_law_172 ?_
  refine lv_i2l hx hb dL_law_173 rfl ?_
  refine lv_ldc2 (v := (4294967295)) hx hb F.1.2.2.2.1 (F.1.2.2.2.2 (.constantLong RL 33 (4294967295)) (by decide +kernel)) dL_law_174 ?_
  refine lv_land hx hb dL_law_177 ?_
  refine lv_lor hx hb dL_law_178 ?_
  refine m_topl (v := z) ez ?_
  refine m_callVv (As := [.int (xs (i + 1)), .int (xs (i + 2)), .long z]) F hM (c_X7_way l D y nn ad _ _ _ _ _ _ (xs (i + 1)) (xs (i + 2)) z (k, b') hE) (cwV 3 F.1.2.2.2.2 gL_law_X7_way rfl rfl rfl (by decide +kernel) ⟨Nat.le_of_ble_eq_true rfl, Nat.le_of_ble_eq_true rfl⟩) (m_recv F hM mg_7 rfl) rfl hl.1 (Nat.le_of_ble_eq_true rfl) dL_law_179 ⟨hcells, hslots⟩ rfl rfl rfl rfl rfl (fun H locs hM => ?_)
  refine lv_aload_n hx hb dL_law_182 rfl (lv_at hl 4 rfl) ?_
  refine m_callVi (As := []) F hM (c_X7_thrown l D y nn ad _ _ _ _ _ _ k rfl) (cwV 0 F.1.2.2.2.2 gL_law_X7_thrown rfl rfl rfl (by decide +kernel) ⟨Nat.le_of_ble_eq_true rfl, Nat.le_of_ble_eq_true rfl⟩) (m_recv F hM mg_7 rfl) rfl hl.1 (Nat.le_of_ble_eq_true rfl) dL_law_183 ⟨hcells, hslots⟩ rfl rfl rfl rfl rfl (fun H locs hM => ?_)
  refine lv_iload hx hb dL_law_186 (lv_at hl 0 rfl) ?_
  refine lv_icmp_eq (tgt := 193) hx hb dL_law_188 (by decide) (fun _ => ?_) (fun h => absurd rfl h)
  refine lv_goto (tgt := 460) hx hb dL_law_193 (by decide) ?_
  exact K H locs ls hM (lv_sub hl [1, 2, 3, 4, 5] rfl)
set_option maxHeartbeats 4000000 in
set_option maxRecDepth 100000 in
theorem law_0 (hX : LX p l s m meth c b L xs D y) (hcells : cells + 1 ≤ 601024) (hslots : slots + 6 ≤ 7293000) (hi : i + 5 ≤ L) (hS : SysR nn I A B G) (hM : LM D y nn ad s I J A B G H locs) (hl : lv_has ls 8 (Lvs b ad i)) (K : Kns p l e s m below meth c Q b nn D y ad i cells slots) : W p l e room_1 s m #[Value.ref b] below meth c H locs cells slots Q (F0 m 104 ls []) := by
  have F := hX.1
  have hx := F.1.1
  have hb := F.1.2.1
  obtain ⟨w, hw, h0, h1, hR, e0, e6, e47, hP, h37⟩ := hS
  have h12 := hw.2.1
  refine lv_aload_n hx hb dL_law_104 rfl (lv_at hl 2 rfl) ?_
  refine law_ld (k := 1) hX hM.2.2 hl 1 0 rfl rfl (by omega) (by decide) dL_law_105 dL_law_106 dL_law_108 dL_law_109 dL_law_110 ?_
  refine law_ld (k := 2) hX hM.2.2 hl 1 0 rfl rfl (by omega) (by decide) dL_law_111 dL_law_112 dL_law_114 dL_law_115 dL_law_116 ?_
  refine law_ld (k := 3) hX hM.2.2 hl 1 0 rfl rfl (by omega) (by decide) dL_law_117 dL_law_118 dL_law_120 dL_law_121 dL_law_122 ?_
  refine lv_i2l hx hb dL_law_123 rfl ?_
  refine lv_bipush (v := 32) hx hb dL_law_124 (by decide) ?_
  refine lv_lshl hx hb dL_law_126 rfl ?_
  refine law_ld (k := 4) hX hM.2.2 hl 1 0 rfl rfl (by omega) (by decide) dL_law_127 dL_law_128 dL_law_130 dL_law_131 dL_law_132 ?_
  refine lv_i2l hx hb dL_law_133 rfl ?_
  refine lv_ldc2 (v := (4294967295)) hx hb F.1.2.2.2.1 (F.1.2.2.2.2 (.constantLong RL 33 (4294967295)) (by decide +kernel)) dL_law_134 ?_
  refine lv_land hx hb dL_law_137 ?_
  refine lv_lor hx hb dL_law_138 ?_
  refine lv_topl (fun z ez => ?_)
  have thrown : (f_X3_has (I 0) (xs (i + 1)) = some 0 ∨ (f_X3_has (I 0) (xs (i + 1)) = some 1 ∧ f_X3_has (I 0) (xs (i + 2)) = some 0)) → f_X7_way (I 6) (I 5) (B 54) (xs (i + 1)) (xs (i + 2)) z = some (1, B 54) → W p l e room_1 s m #[Value.ref b] below meth c H locs cells slots Q (F0 m 139 ls [.long z, .int (xs (i + 2)), .int (xs (i + 1)), .ref (ad 0)]) := by
    intro hh he
    refine law_callS (As := [.ref (ad 0), .int (xs (i + 1)), .int (xs (i + 2)), .long z]) (rest := []) hX hX.2.2.2.2.2.1 hM (x_L_way l hX.2.2.2.2.1 D y nn ad _ I J A B G (xs (i + 1)) (xs (i + 2)) z hh) (vx_cwSW 4 hX.2.2.2.2.2.1.2.2.2.2 gT_L_way rfl rfl rfl (by decide +kernel) ⟨Nat.le_of_ble_eq_true rfl, Nat.le_of_ble_eq_true rfl⟩) (law_preX hX hM) rfl hl.1 (Nat.le_of_ble_eq_true rfl) dL_law_139 ⟨hcells, hslots⟩ (fun H locs hM => ?_)
    refine lv_istore (lv' := (5, .int 1) :: Lvs b ad i) hx hb dL_law_142 hl (by decide) rfl (fun ls hl => ?_)
    exact law_0b hX hcells hslots hi ez he hM hl (fun H locs ls hM hl => K _ _ _ _ _ H locs ls hM ⟨w, hw, h0, h1, hR, e0, e6, e47, hP, h37⟩ hl)
  rcases pl_cases h12 (xs (i + 1)) with ⟨q1, q2⟩ | ⟨a, ha, ea, q1, q2⟩
  · exact thrown (Or.inl (by rw [e0]; exact q1)) (by rw [e6]; exact t_rsame z (Or.inl q2))
  rcases pl_cases h12 (xs (i + 2)) with ⟨q3, q4⟩ | ⟨a2, ha2, ea2, q3, q4⟩
  · exact thrown (Or.inr ⟨by rw [e0]; exact q1, by rw [e0]; exact q3⟩) (by rw [e6]; exact t_rsame z (Or.inr ⟨q2, q4⟩))
  have go : ∀ (out : (Nat → Nat → Int32) × (Nat → Nat → Int32)) (b' : Nat → Int64) (w' : Nat → Nat → Int), (if xs (i + 1) = xs (i + 2) then some (G 0, G 1) else f_X3_tell nn (G 0) (G 1) (xs (i + 1)) (xs (i + 2)) (if z < (0 : Int64) then (-1 : Int32) else if z ≤ (1000000 : Int64) then z.toInt32 else (-1 : Int32))) = some out → f_X7_way (I 6) (I 5) (B 54) (xs (i + 1)) (xs (i + 2)) z = some (0, b') → WW nn w' → Cw nn w' out.1 → Cs nn w' out.2 → Rw nn w' b' → W p l e room_1 s m #[Value.ref b] below meth c H locs cells slots Q (F0 m 139 ls [.long z, .int (xs (i + 2)), .int (xs (i + 1)), .ref (ad 0)]) := by
    intro out b' w' hE he hw' hc' hs' hr'
    refine law_callS (As := [.ref (ad 0), .int (xs (i + 1)), .int (xs (i + 2)), .long z]) (rest := []) hX F.1 hM (c_L_wayN l D y nn ad _ I J A B G (xs (i + 1)) (xs (i + 2)) z out (by rw [e0]; exact q1) (by rw [e0]; exact q3) hE) (vx_cwSW 4 F.1.2.2.2.2 gL_law_L_way rfl rfl rfl (by decide +kernel) ⟨Nat.le_of_ble_eq_true rfl, Nat.le_of_ble_eq_true rfl⟩) (law_preN hX hM) rfl hl.1 (Nat.le_of_ble_eq_true rfl) dL_law_139 ⟨Nat.le_of_succ_le hcells, Nat.le_trans (Nat.le_add_right _ 6) hslots⟩ (fun H locs hM => ?_)
    refine lv_istore (lv' := (5, .int 0) :: Lvs b ad i) hx hb dL_law_142 hl (by decide) rfl (fun ls hl => ?_)
    exact law_0b hX (Nat.le_of_succ_le hcells) (Nat.le_trans (Nat.le_add_right _ 6) hslots) hi ez he hM hl (fun H locs ls hM hl => W.widen (k := cells + 1) (n := slots + 6) (Nat.le_succ _) (Nat.le_add_right _ 6) (K _ _ _ _ _ H locs ls hM ⟨w', hw', hc', hs', hr', e0, e6, e47, hP, h37⟩ hl))
  by_cases ce : xs (i + 1) = xs (i + 2)
  · refine go (G 0, G 1) (B 54) w (if_pos ce) ?_ hw h0 h1 hR
    rw [e6, ← ce]
    exact t_req z q2
  · have hab : a ≠ a2 := fun h => ce (by rw [ea, ea2, h])
    obtain ⟨r, er, hr1, hr2⟩ := t_tell (x := z.toInt) (v := if z < (0 : Int64) then (-1 : Int32) else if z ≤ (1000000 : Int64) then z.toInt32 else (-1 : Int32)) hw h0 h1 ha ha2 hab (v_tz z)
    obtain ⟨b', eb, hb'⟩ := t_rway (i5 := I 5) z hw hR ha ha2 hab
    refine go r b' _ ?_ ?_ (WW_up hw hab) hr1 hr2 hb'
    · rw [if_neg ce, ea, ea2]
      exact er
    · rw [e6, ea, ea2]
      exact eb
set_option maxHeartbeats 4000000 in
set_option maxRecDepth 100000 in
/-- the reference's half of 'linear', and the comparison -/
theorem law_8b {N : Nat} (hX : LX p l s m meth c b L xs D y) (hcells : cells ≤ 601024) (hslots : slots ≤ 7293000) (hi : i + 5 ≤ L) {k : Int32} {t : Int64 × Int32 × Int32 × Int64 × (Nat → Int32) × (Nat → Int32) × (Nat → Int64) × (Nat → Int64)} (hE : f_X7_linear N (I 6) (B 54) (I 5) (I 7) (J 1) (A 35) (A 36) (B 55) (B 56) (xs (i + 1)) = some t) (hk : t.2.1 = k) (hv : k = 0 → B 59 0 = t.1) (hM : LM D y nn ad s I J A B G H locs) (hl : lv_has ls 8 ((5, .int k) :: Lvs b ad i)) (K : ∀ (H : Heap) (locs : List Loc) (ls : Array Slot), LM D y nn ad s (va_up (va_up I 5 t.2.1) 7 t.2.2.1) (va_up J 1 t.2.2.2.1) (va_up (va_up A 35 t.2.2.2.2.1) 36 t.2.2.2.2.2.1) (va_up (va_up B 55 t.2.2.2.2.2.2.1) 56 t.2.2.2.2.2.2.2) G H locs → lv_has ls 8 (Lvs b ad i) → W p l e room_1 s m #[Value.ref b] below meth c H locs cells slots Q (F0 m 460 ls [])) : W p l e room_1 s m #[Value.ref b] below meth c H locs cells slots Q (F0 m 393 ls []) := by
  have F := hX.1
  have hx := F.1.1
  have hb := F.1.2.1
  subst hk
  refine lv_aload_n hx hb dL_law_393 rfl (lv_at hl 4 rfl) ?_
  refine law_ld (k := 1) hX hM.2.2 hl 2 1 rfl rfl (by omega) (by decide) dL_law_394 dL_law_395 dL_law_397 dL_law_398 dL_law_399 ?_
  refine m_callVl (As := [.int (xs (i + 1))]) F hM (c_X7_linear l D y nn ad _ _ _ _ _ _ (xs (i + 1)) N t hE) (cwV 1 F.1.2.2.2.2 gL_law_X7_linear rfl rfl rfl (by decide +kernel) ⟨Nat.le_of_ble_eq_true rfl, Nat.le_of_ble_eq_true rfl⟩) (m_recv F hM mg_7 rfl) rfl hl.1 (Nat.le_of_ble_eq_true rfl) dL_law_400 ⟨hcells, hslots⟩ rfl rfl rfl rfl rfl (fun H locs hM => ?_)
  refine lv_lstore (lv' := (6, .long t.1) :: (5, .int t.2.1) :: Lvs b ad i) hx hb dL_law_403 hl (by decide) rfl (fun ls hl => ?_)
  refine lv_aload_n hx hb dL_law_405 rfl (lv_at hl 5 rfl) ?_
  refine m_callVi (As := []) F hM (c_X7_thrown l D y nn ad _ _ _ _ _ _ t.2.1 rfl) (cwV 0 F.1.2.2.2.2 gL_law_X7_thrown rfl rfl rfl (by decide +kernel) ⟨Nat.le_of_ble_eq_true rfl, Nat.le_of_ble_eq_true rfl⟩) (m_recv F hM mg_7 rfl) rfl hl.1 (Nat.le_of_ble_eq_true rfl) dL_law_406 ⟨hcells, hslots⟩ rfl rfl rfl rfl rfl (fun H locs hM => ?_)
  refine lv_iload hx hb dL_law_409 (lv_at hl 1 rfl) ?_
  refine lv_icmp_eq (tgt := 416) hx hb dL_law_411 (by decide) (fun _ => ?_) (fun h => absurd rfl h)
  refine lv_iload hx hb dL_law_416 (lv_at hl 1 rfl) ?_
  refine lv_if_ne (tgt := 432) hx hb dL_law_418 (by decide) (fun _ => ?_) (fun c18 => ?_)
  · refine lv_goto (tgt := 460) hx hb dL_law_432 (by decide) ?_
    exact K H locs ls hM (lv_sub hl [2, 3, 4, 5, 6] rfl)
  · refine lv_aload_n hx hb dL_law_421 rfl (lv_at hl 6 rfl) ?_
    refine lv_iconst (v := 0) hx hb dL_law_422 (by decide) ?_
    refine m_lald (g := B 59) F hM mg_59 rfl (vp_in_nI (n := 0) (N := 1) (by decide) (by decide)) dL_law_423 ?_
    refine lv_lload hx hb dL_law_424 (lv_at hl 0 rfl) ?_
    refine m_leq (tgt := 432) F dL_law_426 dL_law_427 (by decide) (fun _ => ?_) (fun h => absurd (hv c18) h)
    refine lv_goto (tgt := 460) hx hb dL_law_432 (by decide) ?_
    exact K H locs ls hM (lv_sub hl [2, 3, 4, 5, 6] rfl)
set_option maxHeartbeats 4000000 in
set_option maxRecDepth 100000 in
theorem law_8 (hX : LX p l s m meth c b L xs D y) (hcells : cells + 1 ≤ 601024) (hslots : slots + 6 ≤ 7293000) (hi : i + 5 ≤ L) (hS : SysR nn I A B G) (hM : LM D y nn ad s I J A B G H locs) (hl : lv_has ls 8 (Lvs b ad i)) (K : Kns p l e s m below meth c Q b nn D y ad i cells slots) : W p l e room_1 s m #[Value.ref b] below meth c H locs cells slots Q (F0 m 380 ls []) := by
  have F := hX.1
  have hx := F.1.1
  have hb := F.1.2.1
  obtain ⟨N, hN⟩ : ∃ N : Nat, 1000000000000000 ≤ N := ⟨_, Nat.le_refl _⟩
  obtain ⟨w, hw, h0, h1, hR, e0, e6, e47, hP, h37⟩ := hS
  obtain ⟨r, t, e1, e2, e4, e3⟩ := w_lin (N := N) (by omega) hw h0 h1 hR (xs (i + 1)) (I 1) (I 5) (I 7) (J 0) (J 1) (A 20) (A 21) (A 22) (A 23) (A 24) (A 25) (A 35) (A 36) (B 50) (B 51) (B 52) (B 55) (B 56)
  refine lv_aload_n hx hb dL_law_380 rfl (lv_at hl 2 rfl) ?_
  refine law_ld (k := 1) hX hM.2.2 hl 1 0 rfl rfl (by omega) (by decide) dL_law_381 dL_law_382 dL_law_384 dL_law_385 dL_law_386 ?_
  refine lv_aload_n hx hb dL_law_387 rfl (lv_at hl 4 rfl) ?_
  have e1' : f_X6_greatest N nn (I 0) (G 0) (G 1) (I 1) (J 0) (A 20) (A 21) (A 22) (A 23) (A 24) (A 25) (B 50) (B 51) (B 52) = some r := by rw [e0]; exact e1
  have e2' : f_X7_linear N (I 6) (B 54) (I 5) (I 7) (J 1) (A 35) (A 36) (B 55) (B 56) (xs (i + 1)) = some t := by rw [e6]; exact e2
  have norm : ∀ v : Int64, ((r.1 = -1 ∧ v = -1) ∨ (¬ r.1 = -1 ∧ ¬ xs (i + 1) = 0 ∧ v = ((1000 : Int64) * r.1) / (xs (i + 1)).toInt64)) → t.2.1 = 0 → v = t.1 → W p l e room_1 s m #[Value.ref b] below meth c H locs cells slots Q (F0 m 388 ls [.ref (ad 59), .int (xs (i + 1)), .ref (ad 0)]) := by
    intro v hv ht hvt
    refine law_callS (As := [.ref (ad 0), .int (xs (i + 1)), .ref (ad 59)]) (rest := []) hX F.1 hM (c_L_linN l D y nn ad _ I J A B G (xs (i + 1)) N r e1' v hv) (vx_cwSW 3 F.1.2.2.2.2 gL_law_L_linear rfl rfl rfl (by decide +kernel) ⟨Nat.le_of_ble_eq_true rfl, Nat.le_of_ble_eq_true rfl⟩) (law_preN hX hM) rfl hl.1 (Nat.le_of_ble_eq_true rfl) dL_law_388 ⟨Nat.le_of_succ_le hcells, Nat.le_trans (Nat.le_add_right _ 6) hslots⟩ (fun H locs hM => ?_)
    refine lv_istore (lv' := (5, .int 0) :: Lvs b ad i) hx hb dL_law_391 hl (by decide) rfl (fun ls hl => ?_)
    exact law_8b (N := N) (t := t) (I := gI I r) (J := gJ J r) (A := gA A r) (B := va_up (gB B r) 59 (vp_updL (B 59) 0 v)) hX (Nat.le_of_succ_le hcells) (Nat.le_trans (Nat.le_add_right _ 6) hslots) hi e2' ht (fun _ => (by show vp_updL (B 59) 0 v 0 = t.1; rw [upL, if_pos rfl]; exact hvt)) hM hl (fun H locs ls hM hl => W.widen (k := cells + 1) (n := slots + 6) (Nat.le_succ _) (Nat.le_add_right _ 6) (K _ _ _ _ _ H locs ls hM ⟨w, hw, h0, h1, hR, e0, e6, e47.trans e4.symm, hP, h37⟩ hl))
  rcases e3 with ⟨k1, k2, k3⟩ | ⟨k1, k2, k3⟩ | ⟨k1, k2, k3, k4⟩
  · exact norm (-1) (Or.inl ⟨k1, rfl⟩) k3 k2.symm
  · have ez : xs (i + 1) = 0 := k2
    have hMet := x_L_lin l hX.2.2.2.2.1 D y nn ad H.size I J A B G N r e1' k1
    rw [← ez] at hMet
    refine law_callS (As := [.ref (ad 0), .int (xs (i + 1)), .ref (ad 59)]) (rest := []) hX F.1 hM hMet (vx_cwSW 3 F.1.2.2.2.2 gL_law_L_linear rfl rfl rfl (by decide +kernel) ⟨Nat.le_of_ble_eq_true rfl, Nat.le_of_ble_eq_true rfl⟩) (law_preX hX hM) rfl hl.1 (Nat.le_of_ble_eq_true rfl) dL_law_388 ⟨hcells, hslots⟩ (fun H locs hM => ?_)
    refine lv_istore (lv' := (5, .int 1) :: Lvs b ad i) hx hb dL_law_391 hl (by decide) rfl (fun ls hl => ?_)
    exact law_8b (N := N) (t := t) (I := gI I r) (J := gJ J r) (A := gA A r) (B := gB B r) hX hcells hslots hi e2' k3 (fun h => absurd h (by decide)) hM hl (fun H locs ls hM hl => K _ _ _ _ _ H locs ls hM ⟨w, hw, h0, h1, hR, e0, e6, e47.trans e4.symm, hP, h37⟩ hl)
  · exact norm _ (Or.inr ⟨k1, k2, rfl⟩) k3 k4.symm
end LAW2
