/-! ===== the law's cases (gen/law.py) ===== -/
/-- what holds all through the law -/
def LX (p : Program) (l : Launch) (s : State) (m : MethodId) (meth : Method) (c : Code) (b L : Nat) (xs : Nat → Int32) (D : va_G) (y : Nat → ClassId) : Prop := Fx p s m #[Value.ref b] meth c cL_law 8 wsL_law RL D y (fun q : Nat => s.heap.size ≤ q) ∧ va_X b L xs s s.heap ∧ b < s.heap.size ∧ xF (fun q : Nat => s.heap.size ≤ q) s s.heap ∧ l.stackTraces = false ∧ CallFix p m c cL_law 8 s #[Value.ref b] lw_tbl RL ∧ L ≤ 2561
abbrev LM (D : va_G) (y : Nat → ClassId) (nn : Nat) (ad : Nat → Nat) (s : State) (I : Nat → Int32) (J : Nat → Int64) (A : Nat → Nat → Int32) (B : Nat → Nat → Int64) (G : Nat → Nat → Nat → Int32) (H : Heap) (locs : List Loc) : Prop := MM D y nn ad (fun q : Nat => s.heap.size ≤ q) s.heap I J A B G H locs
abbrev Lvs (b : Nat) (ad : Nat → Nat) (i : Nat) : List (Nat × Value) := [(4, .int (nI i)), (0, .ref b), (1, .ref (ad 0)), (2, .ref (ad 7)), (3, .ref (ad 59))]
/-- where each case goes on -/
def Kns (p : Program) (l : Launch) (e : Env) (s : State) (m : MethodId) (below : List Frame) (meth : Method) (c : Code) (Q : State → Prop) (b nn : Nat) (D : va_G) (y : Nat → ClassId) (ad : Nat → Nat) (i cells slots : Nat) : Prop := ∀ (I : Nat → Int32) (J : Nat → Int64) (A : Nat → Nat → Int32) (B : Nat → Nat → Int64) (G : Nat → Nat → Nat → Int32) (H : Heap) (locs : List Loc) (ls : Array Slot), LM D y nn ad s I J A B G H locs → SysR nn I A B G → lv_has ls 8 (Lvs b ad i) → W p l e room_1 s m #[Value.ref b] below meth c H locs (cells + 1) (slots + 6) Q (F0 m 460 ls [])
section LAW
variable {p : Program} {l : Launch} {e : Env} {s : State} {m : MethodId} {below : List Frame} {meth : Method} {c : Code} {Q : State → Prop} {b L nn cells slots i : Nat} {xs : Nat → Int32} {D : va_G} {y : Nat → ClassId} {ad : Nat → Nat} {I : Nat → Int32} {J : Nat → Int64} {A : Nat → Nat → Int32} {B : Nat → Nat → Int64} {G : Nat → Nat → Nat → Int32} {H : Heap} {locs : List Loc} {ls : Array Slot}
theorem law_ld {R : Room} {lv : List (Nat × Value)} {k pc : Nat} {kz : Int} {rest : List Value} (hX : LX p l s m meth c b L xs D y) (hS : va_S (fun q : Nat => s.heap.size ≤ q) s.heap H locs) (hl : lv_has ls 8 lv) (j0 j4 : Nat) (h0 : lv[j0]? = some (0, .ref b)) (h4 : lv[j4]? = some (4, .int (nI i))) (hk : i + k < L) (hkz : Int32.ofInt kz = nI k) (d1 : decode cL_law pc = .ok (.aload_n 0, 1)) (d2 : decode cL_law (pc + 1) = .ok (.iload 4, 2)) (d3 : decode cL_law (pc + 3) = .ok (.iconst kz, 1)) (d4 : decode cL_law (pc + 4) = .ok (.iadd, 1)) (d5 : decode cL_law (pc + 5) = .ok (.iaload, 1)) (kk : W p l e R s m #[Value.ref b] below meth c H locs cells slots Q (F0 m (pc + 6) ls (.int (xs (i + k)) :: rest))) : W p l e R s m #[Value.ref b] below meth c H locs cells slots Q (F0 m pc ls rest) := by
  obtain ⟨F, hSc, hbl, -, -, -, hL⟩ := hX
  have hx := F.1.1
  have hb := F.1.2.1
  have hbA : ¬ (fun q : Nat => s.heap.size ≤ q) b := Nat.not_le.mpr hbl
  have ea : nI k + nI i = nI (i + k) := by rw [Int32.add_comm]; exact nI_add i k
  have ea2 : nI i + nI k = nI (i + k) := nI_add i k
  refine lv_aload_n hx hb d1 rfl (lv_at hl j0 h0) ?_
  refine lv_iload hx hb d2 (lv_at hl j4 h4) ?_
  refine lv_iconst (v := nI k) hx hb d3 hkz ?_
  refine lv_iadd hx hb d4 ?_
  refine m_topi (v := nI (i + k)) (by first | exact ea2.symm | exact ea.symm) ?_
  refine va_sld hx hb hSc hbl hbA hS (vp_in_nI hk (by omega)) d5 ?_
  rw [nI_c (show i + k < 2147483648 by omega)]
  exact kk
set_option maxHeartbeats 4000000 in
set_option maxRecDepth 100000 in
theorem law_1 (hX : LX p l s m meth c b L xs D y) (hcells : cells + 1 ≤ 601024) (hslots : slots + 6 ≤ 7293000) (hi : i + 5 ≤ L) (hS : SysR nn I A B G) (hM : LM D y nn ad s I J A B G H locs) (hl : lv_has ls 8 (Lvs b ad i)) (K : Kns p l e s m below meth c Q b nn D y ad i cells slots) : W p l e room_1 s m #[Value.ref b] below meth c H locs cells slots Q (F0 m 196 ls []) := by
  have F := hX.1
  have hx := F.1.1
  have hb := F.1.2.1
  have hL := hX.2.2.2.2.2.2
  obtain ⟨N, hN⟩ : ∃ N : Nat, 1000000000000000 ≤ N := ⟨_, Nat.le_refl _⟩
  obtain ⟨w, hw, h0, h1, hR, e0, e6, e47, hP, h37⟩ := hS
  have h12 := hw.2.1
  obtain ⟨r, t, e1, e2, e3, e4, -⟩ := t_tree (N := N) (by omega) hw h1 hR (xs (i + 1)) (I 1) (I 4) (I 5) (I 7) (J 0) (J 1) (A 20) (A 21) (A 22) (A 35) (A 36) (B 55)
  refine lv_aload_n hx hb dL_law_196 rfl (lv_at hl 2 rfl) ?_
  refine law_ld (k := 1) hX hM.2.2 hl 1 0 rfl rfl (by omega) (by decide) dL_law_197 dL_law_198 dL_law_200 dL_law_201 dL_law_202 ?_
  refine m_callVl (As := [.int (xs (i + 1))]) F hM (c_X6_tree l D y nn ad _ _ _ _ _ _ (xs (i + 1)) N r (by rw [e0]; exact e1)) (cwV 1 F.1.2.2.2.2 gL_law_X6_tree rfl rfl rfl (by decide +kernel) ⟨Nat.le_of_ble_eq_true rfl, Nat.le_of_ble_eq_true rfl⟩) (m_recv F hM mg_0 rfl) rfl hl.1 (Nat.le_of_ble_eq_true rfl) dL_law_203 ⟨Nat.le_of_succ_le hcells, Nat.le_trans (Nat.le_add_right _ 6) hslots⟩ rfl rfl rfl rfl rfl (fun H locs hM => ?_)
  refine lv_aload_n hx hb dL_law_206 rfl (lv_at hl 3 rfl) ?_
  refine law_ld (k := 1) hX hM.2.2 hl 1 0 rfl rfl (by omega) (by decide) dL_law_207 dL_law_208 dL_law_210 dL_law_211 dL_law_212 ?_
  refine m_callVl (As := [.int (xs (i + 1))]) F hM (c_X7_tree l D y nn ad _ _ _ _ _ _ (xs (i + 1)) N t (by show f_X7_tree N (I 6) (B 54) (I 5) (I 7) (J 1) (A 35) (A 36) (B 55) (xs (i + 1)) = some t; rw [e6]; exact e2)) (cwV 1 F.1.2.2.2.2 gL_law_X7_tree rfl rfl rfl (by decide +kernel) ⟨Nat.le_of_ble_eq_true rfl, Nat.le_of_ble_eq_true rfl⟩) (m_recv F hM mg_7 rfl) rfl hl.1 (Nat.le_of_ble_eq_true rfl) dL_law_213 ⟨Nat.le_of_succ_le hcells, Nat.le_trans (Nat.le_add_right _ 6) hslots⟩ rfl rfl rfl rfl rfl (fun H locs hM => ?_)
  exact m_leq (tgt := 460) F dL_law_216 dL_law_217 (by decide) (fun _ => W.widen (k := cells + 1) (n := slots + 6) (Nat.le_succ _) (Nat.le_add_right _ 6) (K _ _ _ _ _ H locs ls hM ⟨w, hw, h0, h1, hR, e0, e6, e4, hP, h37⟩ hl)) (fun h => absurd e3 h)
set_option maxHeartbeats 4000000 in
set_option maxRecDepth 100000 in
theorem law_2 (hX : LX p l s m meth c b L xs D y) (hcells : cells + 1 ≤ 601024) (hslots : slots + 6 ≤ 7293000) (hi : i + 5 ≤ L) (hS : SysR nn I A B G) (hM : LM D y nn ad s I J A B G H locs) (hl : lv_has ls 8 (Lvs b ad i)) (K : Kns p l e s m below meth c Q b nn D y ad i cells slots) : W p l e room_1 s m #[Value.ref b] below meth c H locs cells slots Q (F0 m 222 ls []) := by
  have F := hX.1
  have hx := F.1.1
  have hb := F.1.2.1
  have hL := hX.2.2.2.2.2.2
  obtain ⟨N, hN⟩ : ∃ N : Nat, 1000000000000000 ≤ N := ⟨_, Nat.le_refl _⟩
  obtain ⟨w, hw, h0, h1, hR, e0, e6, e47, hP, h37⟩ := hS
  have h12 := hw.2.1
  have e3 : I 4 = I 7 := e47
  refine lv_aload_n hx hb dL_law_222 rfl (lv_at hl 2 rfl) ?_
  refine m_callVi (As := []) F hM (c_X6_rounds l D y nn ad _ _ _ _ _ _   (I 4) rfl) (cwV 0 F.1.2.2.2.2 gL_law_X6_rounds rfl rfl rfl (by decide +kernel) ⟨Nat.le_of_ble_eq_true rfl, Nat.le_of_ble_eq_true rfl⟩) (m_recv F hM mg_0 rfl) rfl hl.1 (Nat.le_of_ble_eq_true rfl) dL_law_223 ⟨Nat.le_of_succ_le hcells, Nat.le_trans (Nat.le_add_right _ 6) hslots⟩ rfl rfl rfl rfl rfl (fun H locs hM => ?_)
  refine lv_aload_n hx hb dL_law_226 rfl (lv_at hl 3 rfl) ?_
  refine m_callVi (As := []) F hM (c_X7_rounds l D y nn ad _ _ _ _ _ _   (I 7, 0) rfl) (cwV 0 F.1.2.2.2.2 gL_law_X7_rounds rfl rfl rfl (by decide +kernel) ⟨Nat.le_of_ble_eq_true rfl, Nat.le_of_ble_eq_true rfl⟩) (m_recv F hM mg_7 rfl) rfl hl.1 (Nat.le_of_ble_eq_true rfl) dL_law_227 ⟨Nat.le_of_succ_le hcells, Nat.le_trans (Nat.le_add_right _ 6) hslots⟩ rfl rfl rfl rfl rfl (fun H locs hM => ?_)
  exact lv_icmp_eq (tgt := 460) hx hb dL_law_230 (by decide) (fun _ => W.widen (k := cells + 1) (n := slots + 6) (Nat.le_succ _) (Nat.le_add_right _ 6) (K _ _ _ _ _ H locs ls hM ⟨w, hw, h0, h1, hR, e0, e6, e47, hP, h37⟩ hl)) (fun h => absurd e3 h)
set_option maxHeartbeats 4000000 in
set_option maxRecDepth 100000 in
theorem law_3 (hX : LX p l s m meth c b L xs D y) (hcells : cells + 1 ≤ 601024) (hslots : slots + 6 ≤ 7293000) (hi : i + 5 ≤ L) (hS : SysR nn I A B G) (hM : LM D y nn ad s I J A B G H locs) (hl : lv_has ls 8 (Lvs b ad i)) (K : Kns p l e s m below meth c Q b nn D y ad i cells slots) : W p l e room_1 s m #[Value.ref b] below meth c H locs cells slots Q (F0 m 235 ls []) := by
  have F := hX.1
  have hx := F.1.1
  have hb := F.1.2.1
  have hL := hX.2.2.2.2.2.2
  obtain ⟨N, hN⟩ : ∃ N : Nat, 1000000000000000 ≤ N := ⟨_, Nat.le_refl _⟩
  obtain ⟨w, hw, h0, h1, hR, e0, e6, e47, hP, h37⟩ := hS
  have h12 := hw.2.1
  obtain ⟨r, t, e1, e2, e3⟩ := w_assign (N := N) (a23 := A 23) (a24 := A 24) (a25 := A 25) (b50 := B 50) (b51 := B 51) (b52 := B 52) (b56 := B 56) (i5 := I 5) (by omega) hw h0 hR
  refine lv_aload_n hx hb dL_law_235 rfl (lv_at hl 2 rfl) ?_
  refine m_callVl (As := []) F hM (c_X6_assign l D y nn ad _ _ _ _ _ _  N r (by rw [e0]; exact e1)) (cwV 0 F.1.2.2.2.2 gL_law_X6_assign rfl rfl rfl (by decide +kernel) ⟨Nat.le_of_ble_eq_true rfl, Nat.le_of_ble_eq_true rfl⟩) (m_recv F hM mg_0 rfl) rfl hl.1 (Nat.le_of_ble_eq_true rfl) dL_law_236 ⟨Nat.le_of_succ_le hcells, Nat.le_trans (Nat.le_add_right _ 6) hslots⟩ rfl rfl rfl rfl rfl (fun H locs hM => ?_)
  refine lv_aload_n hx hb dL_law_239 rfl (lv_at hl 3 rfl) ?_
  refine m_callVl (As := []) F hM (c_X7_assign l D y nn ad _ _ _ _ _ _  N t (by show f_X7_assign N (I 6) (B 54) (I 5) (B 56) = some t; rw [e6]; exact e2)) (cwV 0 F.1.2.2.2.2 gL_law_X7_assign rfl rfl rfl (by decide +kernel) ⟨Nat.le_of_ble_eq_true rfl, Nat.le_of_ble_eq_true rfl⟩) (m_recv F hM mg_7 rfl) rfl hl.1 (Nat.le_of_ble_eq_true rfl) dL_law_240 ⟨Nat.le_of_succ_le hcells, Nat.le_trans (Nat.le_add_right _ 6) hslots⟩ rfl rfl rfl rfl rfl (fun H locs hM => ?_)
  exact m_leq (tgt := 460) F dL_law_243 dL_law_244 (by decide) (fun _ => W.widen (k := cells + 1) (n := slots + 6) (Nat.le_succ _) (Nat.le_add_right _ 6) (K _ _ _ _ _ H locs ls hM ⟨w, hw, h0, h1, hR, e0, e6, e47, hP, h37⟩ hl)) (fun h => absurd e3 h)
set_option maxHeartbeats 4000000 in
set_option maxRecDepth 100000 in
theorem law_4 (hX : LX p l s m meth c b L xs D y) (hcells : cells + 1 ≤ 601024) (hslots : slots + 6 ≤ 7293000) (hi : i + 5 ≤ L) (hS : SysR nn I A B G) (hM : LM D y nn ad s I J A B G H locs) (hl : lv_has ls 8 (Lvs b ad i)) (K : Kns p l e s m below meth c Q b nn D y ad i cells slots) : W p l e room_1 s m #[Value.ref b] below meth c H locs cells slots Q (F0 m 249 ls []) := by
  have F := hX.1
  have hx := F.1.1
  have hb := F.1.2.1
  have hL := hX.2.2.2.2.2.2
  obtain ⟨N, hN⟩ : ∃ N : Nat, 1000000000000000 ≤ N := ⟨_, Nat.le_refl _⟩
  obtain ⟨w, hw, h0, h1, hR, e0, e6, e47, hP, h37⟩ := hS
  have h12 := hw.2.1
  obtain ⟨r, t, e1, e2, e3, -⟩ := t_cut (N := N) (a26 := A 26) (a27 := A 27) (g2 := G 2) (i5 := I 5) (xs (i + 1)) (xs (i + 2)) (by omega) hw h1 hR
  refine lv_aload_n hx hb dL_law_249 rfl (lv_at hl 2 rfl) ?_
  refine law_ld (k := 1) hX hM.2.2 hl 1 0 rfl rfl (by omega) (by decide) dL_law_250 dL_law_251 dL_law_253 dL_law_254 dL_law_255 ?_
  refine law_ld (k := 2) hX hM.2.2 hl 1 0 rfl rfl (by omega) (by decide) dL_law_256 dL_law_257 dL_law_259 dL_law_260 dL_law_261 ?_
  refine m_callVl (As := [.int (xs (i + 1)), .int (xs (i + 2))]) F hM (c_X6_cut l D y nn ad _ _ _ _ _ _ (xs (i + 1)) (xs (i + 2)) N r (by rw [e0]; exact e1)) (cwV 2 F.1.2.2.2.2 gL_law_X6_cut rfl rfl rfl (by decide +kernel) ⟨Nat.le_of_ble_eq_true rfl, Nat.le_of_ble_eq_true rfl⟩) (m_recv F hM mg_0 rfl) rfl hl.1 (Nat.le_of_ble_eq_true rfl) dL_law_262 ⟨Nat.le_of_succ_le hcells, Nat.le_trans (Nat.le_add_right _ 6) hslots⟩ rfl rfl rfl rfl rfl (fun H locs hM => ?_)
  refine lv_aload_n hx hb dL_law_265 rfl (lv_at hl 3 rfl) ?_
  refine law_ld (k := 1) hX hM.2.2 hl 1 0 rfl rfl (by omega) (by decide) dL_law_266 dL_law_267 dL_law_269 dL_law_270 dL_law_271 ?_
  refine law_ld (k := 2) hX hM.2.2 hl 1 0 rfl rfl (by omega) (by decide) dL_law_272 dL_law_273 dL_law_275 dL_law_276 dL_law_277 ?_
  refine m_callVl (As := [.int (xs (i + 1)), .int (xs (i + 2))]) F hM (c_X7_cut l D y nn ad _ _ _ _ _ _ (xs (i + 1)) (xs (i + 2)) N t (by show f_X7_cut N (I 6) (B 54) (I 5) (xs (i + 1)) (xs (i + 2)) = some t; rw [e6]; exact e2)) (cwV 2 F.1.2.2.2.2 gL_law_X7_cut rfl rfl rfl (by decide +kernel) ⟨Nat.le_of_ble_eq_true rfl, Nat.le_of_ble_eq_true rfl⟩) (m_recv F hM mg_7 rfl) rfl hl.1 (Nat.le_of_ble_eq_true rfl) dL_law_278 ⟨Nat.le_of_succ_le hcells, Nat.le_trans (Nat.le_add_right _ 6) hslots⟩ rfl rfl rfl rfl rfl (fun H locs hM => ?_)
  exact m_leq (tgt := 460) F dL_law_281 dL_law_282 (by decide) (fun _ => W.widen (k := cells + 1) (n := slots + 6) (Nat.le_succ _) (Nat.le_add_right _ 6) (K _ _ _ _ _ H locs ls hM ⟨w, hw, h0, h1, hR, e0, e6, e47, hP, h37⟩ hl)) (fun h => absurd e3 h)
set_option maxHeartbeats 4000000 in
set_option maxRecDepth 100000 in
theorem law_6 (hX : LX p l s m meth c b L xs D y) (hcells : cells + 1 ≤ 601024) (hslots : slots + 6 ≤ 7293000) (hi : i + 5 ≤ L) (hS : SysR nn I A B G) (hM : LM D y nn ad s I J A B G H locs) (hl : lv_has ls 8 (Lvs b ad i)) (K : Kns p l e s m below meth c Q b nn D y ad i cells slots) : W p l e room_1 s m #[Value.ref b] below meth c H locs cells slots Q (F0 m 329 ls []) := by
  have F := hX.1
  have hx := F.1.1
  have hb := F.1.2.1
  have hL := hX.2.2.2.2.2.2
  obtain ⟨N, hN⟩ : ∃ N : Nat, 1000000000000000 ≤ N := ⟨_, Nat.le_refl _⟩
  obtain ⟨w, hw, h0, h1, hR, e0, e6, e47, hP, h37⟩ := hS
  have h12 := hw.2.1
  obtain ⟨r, e1, e2⟩ := t_pair (i5 := I 5) (xs (i + 1)) (xs (i + 2)) h12 hP
  obtain ⟨t, et⟩ : ∃ t, t = (r, (0 : Int32)) := ⟨_, rfl⟩
  rw [← et] at e2
  have e3 : r = t.1 := by rw [et]
  refine lv_aload_n hx hb dL_law_329 rfl (lv_at hl 2 rfl) ?_
  refine law_ld (k := 1) hX hM.2.2 hl 1 0 rfl rfl (by omega) (by decide) dL_law_330 dL_law_331 dL_law_333 dL_law_334 dL_law_335 ?_
  refine law_ld (k := 2) hX hM.2.2 hl 1 0 rfl rfl (by omega) (by decide) dL_law_336 dL_law_337 dL_law_339 dL_law_340 dL_law_341 ?_
  refine m_callVi (As := [.int (xs (i + 1)), .int (xs (i + 2))]) F hM (c_X6_pair l D y nn ad _ _ _ _ _ _ (xs (i + 1)) (xs (i + 2))  r (e1)) (cwV 2 F.1.2.2.2.2 gL_law_X6_pair rfl rfl rfl (by decide +kernel) ⟨Nat.le_of_ble_eq_true rfl, Nat.le_of_ble_eq_true rfl⟩) (m_recv F hM mg_0 rfl) rfl hl.1 (Nat.le_of_ble_eq_true rfl) dL_law_342 ⟨Nat.le_of_succ_le hcells, Nat.le_trans (Nat.le_add_right _ 6) hslots⟩ rfl rfl rfl rfl rfl (fun H locs hM => ?_)
  refine lv_aload_n hx hb dL_law_345 rfl (lv_at hl 3 rfl) ?_
  refine law_ld (k := 1) hX hM.2.2 hl 1 0 rfl rfl (by omega) (by decide) dL_law_346 dL_law_347 dL_law_349 dL_law_350 dL_law_351 ?_
  refine law_ld (k := 2) hX hM.2.2 hl 1 0 rfl rfl (by omega) (by decide) dL_law_352 dL_law_353 dL_law_355 dL_law_356 dL_law_357 ?_
  refine m_callVi (As := [.int (xs (i + 1)), .int (xs (i + 2))]) F hM (c_X7_pair l D y nn ad _ _ _ _ _ _ (xs (i + 1)) (xs (i + 2))  t (by show f_X7_pair (I 8) (A 34) (I 5) (xs (i + 1)) (xs (i + 2)) = some t; exact e2)) (cwV 2 F.1.2.2.2.2 gL_law_X7_pair rfl rfl rfl (by decide +kernel) ⟨Nat.le_of_ble_eq_true rfl, Nat.le_of_ble_eq_true rfl⟩) (m_recv F hM mg_7 rfl) rfl hl.1 (Nat.le_of_ble_eq_true rfl) dL_law_358 ⟨Nat.le_of_succ_le hcells, Nat.le_trans (Nat.le_add_right _ 6) hslots⟩ rfl rfl rfl rfl rfl (fun H locs hM => ?_)
  exact lv_icmp_eq (tgt := 460) hx hb dL_law_361 (by decide) (fun _ => W.widen (k := cells + 1) (n := slots + 6) (Nat.le_succ _) (Nat.le_add_right _ 6) (K _ _ _ _ _ H locs ls hM ⟨w, hw, h0, h1, hR, e0, e6, e47, hP, h37⟩ hl)) (fun h => absurd e3 h)
set_option maxHeartbeats 4000000 in
set_option maxRecDepth 100000 in
theorem law_7 (hX : LX p l s m meth c b L xs D y) (hcells : cells + 1 ≤ 601024) (hslots : slots + 6 ≤ 7293000) (hi : i + 5 ≤ L) (hS : SysR nn I A B G) (hM : LM D y nn ad s I J A B G H locs) (hl : lv_has ls 8 (Lvs b ad i)) (K : Kns p l e s m below meth c Q b nn D y ad i cells slots) : W p l e room_1 s m #[Value.ref b] below meth c H locs cells slots Q (F0 m 366 ls []) := by
  have F := hX.1
  have hx := F.1.1
  have hb := F.1.2.1
  have hL := hX.2.2.2.2.2.2
  obtain ⟨N, hN⟩ : ∃ N : Nat, 1000000000000000 ≤ N := ⟨_, Nat.le_refl _⟩
  obtain ⟨w, hw, h0, h1, hR, e0, e6, e47, hP, h37⟩ := hS
  have h12 := hw.2.1
  obtain ⟨r, t, e1, e2, e3, e4⟩ := w_great (N := N) (by omega) hw h0 h1 hR (I 1) (I 5) (I 7) (J 0) (J 1) (A 20) (A 21) (A 22) (A 23) (A 24) (A 25) (A 35) (A 36) (B 50) (B 51) (B 52) (B 55) (B 56)
  refine lv_aload_n hx hb dL_law_366 rfl (lv_at hl 2 rfl) ?_
  refine m_callVl (As := []) F hM (c_X6_greatest l D y nn ad _ _ _ _ _ _  N r (by rw [e0]; exact e1)) (cwV 0 F.1.2.2.2.2 gL_law_X6_greatest rfl rfl rfl (by decide +kernel) ⟨Nat.le_of_ble_eq_true rfl, Nat.le_of_ble_eq_true rfl⟩) (m_recv F hM mg_0 rfl) rfl hl.1 (Nat.le_of_ble_eq_true rfl) dL_law_367 ⟨Nat.le_of_succ_le hcells, Nat.le_trans (Nat.le_add_right _ 6) hslots⟩ rfl rfl rfl rfl rfl (fun H locs hM => ?_)
  refine lv_aload_n hx hb dL_law_370 rfl (lv_at hl 3 rfl) ?_
  refine m_callVl (As := []) F hM (c_X7_greatest l D y nn ad _ _ _ _ _ _  N t (by show f_X7_greatest N (I 6) (B 54) (I 5) (I 7) (J 1) (A 35) (A 36) (B 55) (B 56) = some t; rw [e6]; exact e2)) (cwV 0 F.1.2.2.2.2 gL_law_X7_greatest rfl rfl rfl (by decide +kernel) ⟨Nat.le_of_ble_eq_true rfl, Nat.le_of_ble_eq_true rfl⟩) (m_recv F hM mg_7 rfl) rfl hl.1 (Nat.le_of_ble_eq_true rfl) dL_law_371 ⟨Nat.le_of_succ_le hcells, Nat.le_trans (Nat.le_add_right _ 6) hslots⟩ rfl rfl rfl rfl rfl (fun H locs hM => ?_)
  exact m_leq (tgt := 460) F dL_law_374 dL_law_375 (by decide) (fun _ => W.widen (k := cells + 1) (n := slots + 6) (Nat.le_succ _) (Nat.le_add_right _ 6) (K _ _ _ _ _ H locs ls hM ⟨w, hw, h0, h1, hR, e0, e6, (e47.trans e4.symm), hP, h37⟩ hl)) (fun h => absurd e3 h)
set_option maxHeartbeats 4000000 in
set_option maxRecDepth 100000 in
theorem law_9 (hX : LX p l s m meth c b L xs D y) (hcells : cells + 1 ≤ 601024) (hslots : slots + 6 ≤ 7293000) (hi : i + 5 ≤ L) (hS : SysR nn I A B G) (hM : LM D y nn ad s I J A B G H locs) (hl : lv_has ls 8 (Lvs b ad i)) (K : Kns p l e s m below meth c Q b nn D y ad i cells slots) : W p l e room_1 s m #[Value.ref b] below meth c H locs cells slots Q (F0 m 435 ls []) := by
  have F := hX.1
  have hx := F.1.1
  have hb := F.1.2.1
  have hL := hX.2.2.2.2.2.2
  obtain ⟨N, hN⟩ : ∃ N : Nat, 1000000000000000 ≤ N := ⟨_, Nat.le_refl _⟩
  obtain ⟨w, hw, h0, h1, hR, e0, e6, e47, hP, h37⟩ := hS
  have h12 := hw.2.1
  obtain ⟨r, t, e1, e2, e3, -, e4⟩ := t_cert (N := N) (by omega) hw h0 h1 hR (xs (i + 1)) (I 1) (I 5) (I 7) (J 0) (J 1) (A 20) (A 21) (A 22) (A 23) (A 24) (A 25) (A 33) (A 35) (A 36) (A 39) (B 50) (B 51) (B 52) (B 55) (B 56)
  refine lv_aload_n hx hb dL_law_435 rfl (lv_at hl 2 rfl) ?_
  refine law_ld (k := 1) hX hM.2.2 hl 1 0 rfl rfl (by omega) (by decide) dL_law_436 dL_law_437 dL_law_439 dL_law_440 dL_law_441 ?_
  refine m_callVi (As := [.int (xs (i + 1))]) F hM (c_X6_certificate l D y nn ad _ _ _ _ _ _ (xs (i + 1)) N r (by rw [e0]; exact e1)) (cwV 1 F.1.2.2.2.2 gL_law_X6_certificate rfl rfl rfl (by decide +kernel) ⟨Nat.le_of_ble_eq_true rfl, Nat.le_of_ble_eq_true rfl⟩) (m_recv F hM mg_0 rfl) rfl hl.1 (Nat.le_of_ble_eq_true rfl) dL_law_442 ⟨Nat.le_of_succ_le hcells, Nat.le_trans (Nat.le_add_right _ 6) hslots⟩ rfl rfl rfl rfl rfl (fun H locs hM => ?_)
  refine lv_aload_n hx hb dL_law_445 rfl (lv_at hl 3 rfl) ?_
  refine law_ld (k := 1) hX hM.2.2 hl 1 0 rfl rfl (by omega) (by decide) dL_law_446 dL_law_447 dL_law_449 dL_law_450 dL_law_451 ?_
  refine m_callVi (As := [.int (xs (i + 1))]) F hM (c_X7_certificate l D y nn ad _ _ _ _ _ _ (xs (i + 1)) N t (by show f_X7_certificate N (I 6) (B 54) (I 5) (I 7) (J 1) (A 35) (A 36) (A 39) (B 55) (B 56) (xs (i + 1)) = some t; rw [e6]; exact e2)) (cwV 1 F.1.2.2.2.2 gL_law_X7_certificate rfl rfl rfl (by decide +kernel) ⟨Nat.le_of_ble_eq_true rfl, Nat.le_of_ble_eq_true rfl⟩) (m_recv F hM mg_7 rfl) rfl hl.1 (Nat.le_of_ble_eq_true rfl) dL_law_452 ⟨Nat.le_of_succ_le hcells, Nat.le_trans (Nat.le_add_right _ 6) hslots⟩ rfl rfl rfl rfl rfl (fun H locs hM => ?_)
  exact lv_icmp_eq (tgt := 460) hx hb dL_law_455 (by decide) (fun _ => W.widen (k := cells + 1) (n := slots + 6) (Nat.le_succ _) (Nat.le_add_right _ 6) (K _ _ _ _ _ H locs ls hM ⟨w, hw, h0, h1, hR, e0, e6, (e47.trans e4.symm), hP, h37⟩ hl)) (fun h => absurd e3 h)
set_option maxHeartbeats 4000000 in
set_option maxRecDepth 100000 in
theorem law_5 (hX : LX p l s m meth c b L xs D y) (hcells : cells + 1 ≤ 601024) (hslots : slots + 6 ≤ 7293000) (hi : i + 5 ≤ L) (hS : SysR nn I A B G) (hM : LM D y nn ad s I J A B G H locs) (hl : lv_has ls 8 (Lvs b ad i)) (K : Kns p l e s m below meth c Q b nn D y ad i cells slots) : W p l e room_1 s m #[Value.ref b] below meth c H locs cells slots Q (F0 m 287 ls []) := by
  have F := hX.1
  have hx := F.1.1
  have hb := F.1.2.1
  have hL := hX.2.2.2.2.2.2
  obtain ⟨N, hN⟩ : ∃ N : Nat, 1000000000000000 ≤ N := ⟨_, Nat.le_refl _⟩
  obtain ⟨w, hw, h0, h1, hR, e0, e6, e47, hP, h37⟩ := hS
  have h12 := hw.2.1
  refine lv_aload_n hx hb dL_law_287 rfl (lv_at hl 2 rfl) ?_
  refine law_ld (k := 1) hX hM.2.2 hl 1 0 rfl rfl (by omega) (by decide) dL_law_288 dL_law_289 dL_law_291 dL_law_292 dL_law_293 ?_
  refine lv_if_eq (tgt := 301) hx hb dL_law_294 (by decide) (fun c1 => ?_) (fun c1 => ?_)
  · obtain ⟨r, t, e1, e2, e3, -, e5, e7⟩ := t_street (N := N) (g0 := G 0) (g3 := G 3) (g4 := G 4) (i2 := I 2) (i5 := I 5) (a28 := A 28) (a29 := A 29) (a31 := A 31) (a32 := A 32) (a37 := A 37) (a38 := A 38) (a40 := A 40) (b53 := B 53) (b56 := B 56) (b57 := B 57) (b58 := B 58) hN hw h1 hR hP
    refine lv_iconst (v := 0) hx hb dL_law_301 (by decide) ?_
    refine m_callVl (As := [.int 0]) F hM (c_X6_postman l D y nn ad _ _ _ _ _ _ 0 N r (by rw [e0]; exact e1)) (cwV 1 F.1.2.2.2.2 gL_law_X6_postman rfl rfl rfl (by decide +kernel) ⟨Nat.le_of_ble_eq_true rfl, Nat.le_of_ble_eq_true rfl⟩) (m_recv F hM mg_0 rfl) rfl hl.1 (Nat.le_of_ble_eq_true rfl) dL_law_302 ⟨Nat.le_of_succ_le hcells, Nat.le_trans (Nat.le_add_right _ 6) hslots⟩ rfl rfl rfl rfl rfl (fun H locs hM => ?_)
    refine lv_aload_n hx hb dL_law_305 rfl (lv_at hl 3 rfl) ?_
    refine law_ld (k := 1) hX hM.2.2 hl 1 0 rfl rfl (by omega) (by decide) dL_law_306 dL_law_307 dL_law_309 dL_law_310 dL_law_311 ?_
    refine lv_if_eq (tgt := 319) hx hb dL_law_312 (by decide) (fun c2 => ?_) (fun c2 => absurd c1 c2)
    refine lv_iconst (v := 0) hx hb dL_law_319 (by decide) ?_
    refine m_callVl (As := [.int 0]) F hM (c_X7_postman l D y nn ad _ _ _ _ _ _ 0 N t (by show f_X7_postman N (I 6) (B 54) (I 5) (I 8) (A 34) (A 37) (A 38) (A 40) (B 56) (B 57) (B 58) 0 = some t; rw [e6]; exact e2)) (cwV 1 F.1.2.2.2.2 gL_law_X7_postman rfl rfl rfl (by decide +kernel) ⟨Nat.le_of_ble_eq_true rfl, Nat.le_of_ble_eq_true rfl⟩) (m_recv F hM mg_7 rfl) rfl hl.1 (Nat.le_of_ble_eq_true rfl) dL_law_320 ⟨Nat.le_of_succ_le hcells, Nat.le_trans (Nat.le_add_right _ 6) hslots⟩ rfl rfl rfl rfl rfl (fun H locs hM => ?_)
    exact m_leq (tgt := 460) F dL_law_323 dL_law_324 (by decide) (fun _ => W.widen (k := cells + 1) (n := slots + 6) (Nat.le_succ _) (Nat.le_add_right _ 6) (K _ _ _ _ _ H locs ls hM ⟨w, hw, h0, h1, hR, e0, e6, e47, e5, (by intro a b ha hb hab; show t.2.2.2.2.1 (12 * a + b) = 0; rw [e7]; exact h37 a b ha hb hab)⟩ hl)) (fun h => absurd e3 h)
  · obtain ⟨r, t, e1, e2, e3, -, e5, e7⟩ := t_way (N := N) (g3 := G 3) (g4 := G 4) (i2 := I 2) (i5 := I 5) (a28 := A 28) (a29 := A 29) (a31 := A 31) (a32 := A 32) (a37 := A 37) (a38 := A 38) (a40 := A 40) (b53 := B 53) (b56 := B 56) (b57 := B 57) (b58 := B 58) hN hw h0 h1 hR hP h37
    refine lv_iconst (v := 1) hx hb dL_law_297 (by decide) ?_
    refine lv_goto (tgt := 302) hx hb dL_law_298 (by decide) ?_
    refine m_callVl (As := [.int 1]) F hM (c_X6_postman l D y nn ad _ _ _ _ _ _ 1 N r (by rw [e0]; exact e1)) (cwV 1 F.1.2.2.2.2 gL_law_X6_postman rfl rfl rfl (by decide +kernel) ⟨Nat.le_of_ble_eq_true rfl, Nat.le_of_ble_eq_true rfl⟩) (m_recv F hM mg_0 rfl) rfl hl.1 (Nat.le_of_ble_eq_true rfl) dL_law_302 ⟨Nat.le_of_succ_le hcells, Nat.le_trans (Nat.le_add_right _ 6) hslots⟩ rfl rfl rfl rfl rfl (fun H locs hM => ?_)
    refine lv_aload_n hx hb dL_law_305 rfl (lv_at hl 3 rfl) ?_
    refine law_ld (k := 1) hX hM.2.2 hl 1 0 rfl rfl (by omega) (by decide) dL_law_306 dL_law_307 dL_law_309 dL_law_310 dL_law_311 ?_
    refine lv_if_eq (tgt := 319) hx hb dL_law_312 (by decide) (fun c2 => absurd c2 c1) (fun c2 => ?_)
    refine lv_iconst (v := 1) hx hb dL_law_315 (by decide) ?_
    refine lv_goto (tgt := 320) hx hb dL_law_316 (by decide) ?_
    refine m_callVl (As := [.int 1]) F hM (c_X7_postman l D y nn ad _ _ _ _ _ _ 1 N t (by show f_X7_postman N (I 6) (B 54) (I 5) (I 8) (A 34) (A 37) (A 38) (A 40) (B 56) (B 57) (B 58) 1 = some t; rw [e6]; exact e2)) (cwV 1 F.1.2.2.2.2 gL_law_X7_postman rfl rfl rfl (by decide +kernel) ⟨Nat.le_of_ble_eq_true rfl, Nat.le_of_ble_eq_true rfl⟩) (m_recv F hM mg_7 rfl) rfl hl.1 (Nat.le_of_ble_eq_true rfl) dL_law_320 ⟨Nat.le_of_succ_le hcells, Nat.le_trans (Nat.le_add_right _ 6) hslots⟩ rfl rfl rfl rfl rfl (fun H locs hM => ?_)
    exact m_leq (tgt := 460) F dL_law_323 dL_law_324 (by decide) (fun _ => W.widen (k := cells + 1) (n := slots + 6) (Nat.le_succ _) (Nat.le_add_right _ 6) (K _ _ _ _ _ H locs ls hM ⟨w, hw, h0, h1, hR, e0, e6, e47, e5, e7⟩ hl)) (fun h => absurd e3 h)
end LAW
