/-! ===== the law's own methods ===== -/
theorem m_iretX {p : Program} {l : Launch} {e : Env} {R : Room} {s : State} {m : MethodId} {args : Array Value} {below : List Frame} {meth : Method} {c : Code} {H : Heap} {locs : List Loc} {cc : ByteArray} {nL : Nat} {Ts : List Cond} {own : String} {D : va_G} {y : Nat → ClassId} {nn : Nat} {ad : Nat → Nat} {A0 : Nat → Prop} {I : Nat → Int32} {J : Nat → Int64} {A : Nat → Nat → Int32} {B : Nat → Nat → Int64} {G : Nat → Nat → Nat → Int32} {pc mc ms : Nat} {ls : Array Slot} (F : Fx p s m args meth c cc nL Ts own D y A0) (hM : MM D y nn ad A0 s.heap I J A B G H locs) (hr : meth.sig.returnType = some .int) {r0 v : Int32} {u0 : mSt} (hv : v = r0) (hu : (I, J, A, B, G) = u0) (hdg : decode cc pc = .ok (.ireturn, 1)) : W p l e R s m args below meth c H locs mc ms (MQ below (mQi D y nn ad A0 r0 u0) args s mc ms A0) (F0 m pc ls [.int v]) := by
  have hlk := F.2.2.2.2
  exact W.iret F.1.1 F.1.2.1 hr (fun t ht hW => ⟨⟨v, (I, J, A, B, G), rfl, ⟨hv, hu⟩, by rw [ht]; exact hM.1, va_K.moved hW.alike F.2.1, hM.2.1⟩, hM.2.2.F ht⟩) hM.2.2.2.2 hdg hlk
theorem m_free {p : Program} {s : State} {m : MethodId} {args : Array Value} {meth : Method} {c : Code} {H : Heap} {locs : List Loc} {cc : ByteArray} {nL : Nat} {Ts : List Cond} {own : String} {D : va_G} {y : Nat → ClassId} {nn : Nat} {ad : Nat → Nat} {A0 : Nat → Prop} {I : Nat → Int32} {J : Nat → Int64} {A : Nat → Nat → Int32} {B : Nat → Nat → Int64} {G : Nat → Nat → Nat → Int32} (F : Fx p s m args meth c cc nL Ts own D y A0) (hM : MM D y nn ad A0 s.heap I J A B G H locs) : ∀ q, mA y nn ad I J A B G H.size q → A0 q := by
  intro q h
  rcases h with ⟨k, e, h⟩ | h
  · exact hM.2.1.2 k (q, e) h
  · exact F.2.2.2.1 q (Nat.le_trans hM.2.2.1 h)
set_option maxHeartbeats 4000000 in
set_option maxRecDepth 100000 in
theorem c_L_wayN (l : Launch) (D : va_G) (y : Nat → ClassId) (nn : Nat) (ad : Nat → Nat) (sz : Nat) (I : Nat → Int32) (J : Nat → Int64) (A : Nat → Nat → Int32) (B : Nat → Nat → Int64) (G : Nat → Nat → Nat → Int32) (p1 p2 : Int32) (p3 : Int64) (out : (Nat → Nat → Int32) × (Nat → Nat → Int32)) (h1 : f_X3_has (I 0) p1 = some 1) (h2 : f_X3_has (I 0) p2 = some 1) (hE : (if p1 = p2 then some (G 0, G 1) else f_X3_tell nn (G 0) (G 1) p1 p2 (if p3 < (0 : Int64) then (-1 : Int32) else if p3 ≤ (1000000 : Int64) then p3.toInt32 else (-1 : Int32))) = some out) : Met l yL_way wsL_way ({ frames := 4, cells := 0, slots := 0, locals := 100 } : Room) (mPc [.ref (ad 0), .int p1, .int p2, .long p3] D y nn ad sz I J A B G) (mQi D y nn ad (mA y nn ad I J A B G sz) 0 (I, J, A, B, (va_up (va_up G 0 out.1) 1 out.2))) 0 0 (mA y nn ad I J A B G sz) := by
  refine va_MetW (cc := cL_way) (maxL := 6) (ret := (some .int)) (hh := [(0, 7, 10, 13)]) (by decide) rfl ?_
  intro p e s m args below meth c s₁ Bd hml hv
  obtain ⟨rfl, hsz, hP, hK, hD0, hN⟩ := hv
  have hr := Bd.returns
  subst hsz
  have F : Fx p s m ([.ref (ad 0), .int p1, .int p2, .long p3] : List Value).toArray meth c cL_way 6 wsL_way RL D y (mA y nn ad I J A B G s.heap.size) := ⟨⟨Bd.exec, Bd.bytes, hml, findClass_of_methodNamed Bd.named, atoms_spec (ws := wsL_way) Bd.pre⟩, hK, hN, fun q h => Or.inr h, Bd.notSynchronized⟩
  have hM := m_start (s := s) rfl hP hD0
  have hx := F.1.1
  have hb := F.1.2.1
  have hl := lv_entry ([.ref (ad 0), .int p1, .int p2, .long p3]) (n := 6) (Nat.le_of_ble_eq_true rfl)
  rw [lg_entry_eq]
  generalize (lg_sl ([.ref (ad 0), .int p1, .int p2, .long p3]) ++ List.replicate (6 - (lg_sl ([.ref (ad 0), .int p1, .int p2, .long p3])).length) Slot.unset).toArray = ls at hl ⊢
  have hl : lv_has ls 6 [(0, .ref (ad 0)), (1, .int p1), (2, .int p2), (3, .long p3)] := hl
  show W p l e ({ frames := 4, cells := 0, slots := 0, locals := 100 } : Room) s m _ below meth c s.heap [] 0 0 _ _
  refine lv_aload_n hx hb dL_way_0 rfl (lv_at hl 0 rfl) ?_
  refine lv_iload_n hx hb dL_way_1 rfl (lv_at hl 1 rfl) ?_
  refine lv_iload_n hx hb dL_way_2 rfl (lv_at hl 2 rfl) ?_
  refine lv_lload_n hx hb dL_way_3 rfl (lv_at hl 3 rfl) ?_
  refine m_callVv (As := [.int p1, .int p2, .long p3]) (I2 := I) (J2 := J) (A2 := A) (B2 := B) (G2 := (va_up (va_up G 0 out.1) 1 out.2)) F hM (c_X6_wayN l D y nn ad _ I J A B G p1 p2 p3 out h1 h2 hE) (cwV 3 F.1.2.2.2.2 gL_way_X6_way rfl rfl rfl (by decide +kernel) ⟨Nat.le_of_ble_eq_true rfl, Nat.le_of_ble_eq_true rfl⟩) (m_recv F hM mg_0 rfl) rfl hl.1 (Nat.le_of_ble_eq_true rfl) dL_way_4 ⟨Nat.le_refl 0, Nat.le_refl 0⟩ rfl rfl rfl rfl rfl (fun H locs hM => ?_)
  refine lv_goto (tgt := 14) hx hb dL_way_7 (by decide) ?_
  refine lv_iconst (v := 0) hx hb dL_way_14 (by decide) ?_
  exact m_iret F hM hr rfl rfl dL_way_15
def wsL_wayT : List Cond := .codeWith yL_way cL_way 6 (some .int) [(0, 7, 10, 13)] :: .classLink RL 13 RJx00060 :: wsV RL 7 RX6 yX6_way wsX6_wayT
theorem good_app {w : Cond} (h : w ∈ (vx_atS RX6 80 RJx00060 nmA).filter goodWord) : (w.onTables && w.keeps) = true ∨ ∃ ty, w = .arrayClass ty := good_of_word (List.mem_filter.mp h).2
theorem wsV_T : ∀ w ∈ wsV RL 7 RX6 yX6_way wsX6_wayT, w ∈ wsV RL 7 RX6 yX6_way wsX6_way ∨ w ∈ (vx_atS RX6 80 RJx00060 nmA).filter goodWord := by
  intro w h
  unfold wsV wsX6_wayT at h
  rw [← List.append_assoc] at h
  exact List.mem_append.mp h
theorem gL_wayT_X6_wayT : GoodIn wsL_wayT (wsV RL 7 RX6 yX6_way wsX6_wayT) := by
  intro w h
  refine ⟨List.mem_cons_of_mem _ (List.mem_cons_of_mem _ h), ?_⟩
  rcases wsV_T w h with h | h
  · exact (gL_way_X6_way w h).2
  · exact good_app h
set_option maxHeartbeats 4000000 in
set_option maxRecDepth 100000 in
theorem x_L_way (l : Launch) (hlt : l.stackTraces = false) (D : va_G) (y : Nat → ClassId) (nn : Nat) (ad : Nat → Nat) (sz : Nat) (I : Nat → Int32) (J : Nat → Int64) (A : Nat → Nat → Int32) (B : Nat → Nat → Int64) (G : Nat → Nat → Nat → Int32) (p1 p2 : Int32) (p3 : Int64) (h : f_X3_has (I 0) p1 = some 0 ∨ (f_X3_has (I 0) p1 = some 1 ∧ f_X3_has (I 0) p2 = some 0)) : Met l yL_way wsL_wayT ({ frames := 9, cells := 1, slots := 6, locals := 160 } : Room) (xPc [.ref (ad 0), .int p1, .int p2, .long p3] D y nn ad sz I J A B G) (mQi D y nn ad (mA y nn ad I J A B G sz) 1 (I, J, A, B, G)) 1 6 (mA y nn ad I J A B G sz) := by
  refine va_MetW (cc := cL_way) (maxL := 6) (ret := (some .int)) (hh := [(0, 7, 10, 13)]) (by decide) rfl ?_
  intro p e s m args below meth c s₁ Bd hml hv
  obtain ⟨⟨rfl, hsz, hP, hK, hD0, hN⟩, hxF⟩ := hv
  have hr := Bd.returns
  subst hsz
  have F : Fx p s m ([.ref (ad 0), .int p1, .int p2, .long p3] : List Value).toArray meth c cL_way 6 wsL_wayT RL D y (mA y nn ad I J A B G s.heap.size) := ⟨⟨Bd.exec, Bd.bytes, hml, findClass_of_methodNamed Bd.named, atoms_spec (ws := wsL_wayT) Bd.pre⟩, hK, hN, fun q h => Or.inr h, Bd.notSynchronized⟩
  have hM := m_start (s := s) rfl hP hD0
  have hx := F.1.1
  have hb := F.1.2.1
  have hl := lv_entry ([.ref (ad 0), .int p1, .int p2, .long p3]) (n := 6) (Nat.le_of_ble_eq_true rfl)
  rw [lg_entry_eq]
  generalize (lg_sl ([.ref (ad 0), .int p1, .int p2, .long p3]) ++ List.replicate (6 - (lg_sl ([.ref (ad 0), .int p1, .int p2, .long p3])).length) Slot.unset).toArray = ls at hl ⊢
  have hl : lv_has ls 6 [(0, .ref (ad 0)), (1, .int p1), (2, .int p2), (3, .long p3)] := hl
  show W p l e ({ frames := 9, cells := 1, slots := 6, locals := 160 } : Room) s m _ below meth c s.heap [] 0 0 _ _
  refine lv_aload_n hx hb dL_way_0 rfl (lv_at hl 0 rfl) ?_
  refine lv_iload_n hx hb dL_way_1 rfl (lv_at hl 1 rfl) ?_
  refine lv_iload_n hx hb dL_way_2 rfl (lv_at hl 2 rfl) ?_
  refine lv_lload_n hx hb dL_way_3 rfl (lv_at hl 3 rfl) ?_
  have hFc := m_free F hM
  refine vx_callv (vx_runV (As := [.int p1, .int p2, .long p3]) (rest := []) F.1 (x_X6_way l hlt D y nn ad _ I J A B G p1 p2 p3 h) (cwV 3 F.1.2.2.2.2 gL_wayT_X6_wayT rfl rfl rfl (by decide +kernel) ⟨Nat.le_of_ble_eq_true rfl, Nat.le_of_ble_eq_true rfl⟩) ⟨xPc_blind, m_recv F hM mg_0 rfl, fun U hU hW => ⟨⟨rfl, by rw [hU], by rw [hU]; exact hM.1, va_K.moved hW.alike F.2.1, hM.2.1.weaken (fun _ _ _ _ => trivial), F.2.2.1.warm hW⟩, xF_go hW hU hxF hM.2.2 hFc⟩⟩ rfl rfl hl.1 rfl (lv_room (Nat.le_of_ble_eq_true rfl)) dL_way_4 ⟨Nat.le_of_ble_eq_true rfl, Nat.le_of_ble_eq_true rfl⟩) hM.2.2 (fun q _ h => hFc q h) hFc (fun q _ h => hFc q h) (fun E ce q9 u t H1 locs1 ht hvm hpu hBX hz1 hk1 hS1 hcell hcv hcl => ?_) (fun u t H1 locs1 ht hvm hw hB hz1 hk1 hS1 => hw.elim)
  obtain rfl := hpu
  obtain ⟨rfl, hP1, hK1, hD1⟩ := hBX
  rw [ht] at hP1
  have hM : MM D y nn ad (mA y nn ad I J A B G s.heap.size) s.heap I J A B G H1 locs1 := ⟨hP1, hD1.weaken (fun _ _ _ h => hFc _ h), hS1⟩
  refine vx_catch (own := RL) (name := RJx00060) F.1.2.2.2.1 [] ⟨0, 7, 10, 13⟩ [] (vx_table (x := yL_way) Bd (F.1.2.2.2.2 _ List.mem_cons_self)) (fun z hz => nomatch hz) (by decide) (by decide) (F.1.2.2.2.2 _ (List.mem_cons_of_mem _ List.mem_cons_self)) (va_Nw.use rfl (hxF.2.2.1 (.castable RJx00060 RJx00060) (by decide +kernel))) hcell hcv hcl ?_
  refine lv_astore (lv' := [(5, .ref q9), (0, .ref (ad 0)), (1, .int p1), (2, .int p2), (3, .long p3)]) hx hb dL_way_10 hl (by decide) rfl (fun ls hl => ?_)
  refine lv_iconst (v := 1) hx hb dL_way_12 (by decide) ?_
  exact m_iretX F hM hr rfl rfl dL_way_13
set_option maxHeartbeats 4000000 in
set_option maxRecDepth 100000 in
theorem c_L_linN (l : Launch) (D : va_G) (y : Nat → ClassId) (nn : Nat) (ad : Nat → Nat) (sz : Nat) (I : Nat → Int32) (J : Nat → Int64) (A : Nat → Nat → Int32) (B : Nat → Nat → Int64) (G : Nat → Nat → Nat → Int32) (p1 : Int32) (N : Nat) (out : GO) (hE : f_X6_greatest N nn (I 0) (G 0) (G 1) (I 1) (J 0) (A 20) (A 21) (A 22) (A 23) (A 24) (A 25) (B 50) (B 51) (B 52) = some out) (r : Int64) (hr0 : (out.1 = -1 ∧ r = -1) ∨ (¬ out.1 = -1 ∧ ¬ p1 = 0 ∧ r = ((1000 : Int64) * out.1) / p1.toInt64)) : Met l yL_linear wsL_linear ({ frames := 7, cells := 0, slots := 0, locals := 170 } : Room) (mPc [.ref (ad 0), .int p1, .ref (ad 59)] D y nn ad sz I J A B G) (mQi D y nn ad (mA y nn ad I J A B G sz) 0 (gI I out, gJ J out, gA A out, va_up (gB B out) 59 (vp_updL (B 59) 0 r), G)) 0 0 (mA y nn ad I J A B G sz) := by
  refine va_MetW (cc := cL_linear) (maxL := 4) (ret := (some .int)) (hh := [(0, 8, 11, 19)]) (by decide) rfl ?_
  intro p e s m args below meth c s₁ Bd hml hv
  obtain ⟨rfl, hsz, hP, hK, hD0, hN⟩ := hv
  have hr := Bd.returns
  subst hsz
  have F : Fx p s m ([.ref (ad 0), .int p1, .ref (ad 59)] : List Value).toArray meth c cL_linear 4 wsL_linear RL D y (mA y nn ad I J A B G s.heap.size) := ⟨⟨Bd.exec, Bd.bytes, hml, findClass_of_methodNamed Bd.named, atoms_spec (ws := wsL_linear) Bd.pre⟩, hK, hN, fun q h => Or.inr h, Bd.notSynchronized⟩
  have hM := m_start (s := s) rfl hP hD0
  have hx := F.1.1
  have hb := F.1.2.1
  have hl := lv_entry ([.ref (ad 0), .int p1, .ref (ad 59)]) (n := 4) (Nat.le_of_ble_eq_true rfl)
  rw [lg_entry_eq]
  generalize (lg_sl ([.ref (ad 0), .int p1, .ref (ad 59)]) ++ List.replicate (4 - (lg_sl ([.ref (ad 0), .int p1, .ref (ad 59)])).length) Slot.unset).toArray = ls at hl ⊢
  have hl : lv_has ls 4 [(0, .ref (ad 0)), (1, .int p1), (2, .ref (ad 59))] := hl
  show W p l e ({ frames := 7, cells := 0, slots := 0, locals := 170 } : Room) s m _ below meth c s.heap [] 0 0 _ _
  refine lv_aload_n hx hb dL_linear_0 rfl (lv_at hl 2 rfl) ?_
  refine lv_iconst (v := 0) hx hb dL_linear_1 (by decide) ?_
  refine lv_aload_n hx hb dL_linear_2 rfl (lv_at hl 0 rfl) ?_
  refine lv_iload_n hx hb dL_linear_3 rfl (lv_at hl 1 rfl) ?_
  refine m_callVl (As := [.int p1]) (I2 := gI I out) (J2 := gJ J out) (A2 := gA A out) (B2 := gB B out) (G2 := G) F hM (c_X6_linN l D y nn ad _ I J A B G p1 N out hE r hr0) (cwV 1 F.1.2.2.2.2 gL_linear_X6_linear rfl rfl rfl (by decide +kernel) ⟨Nat.le_of_ble_eq_true rfl, Nat.le_of_ble_eq_true rfl⟩) (m_recv F hM mg_0 rfl) rfl hl.1 (Nat.le_of_ble_eq_true rfl) dL_linear_4 ⟨Nat.le_refl 0, Nat.le_refl 0⟩ rfl rfl rfl rfl rfl (fun H locs hM => ?_)
  refine m_last (q := 59) (n := 1) (f := (gB B out) 59) (B' := va_up (gB B out) 59 (vp_updL (B 59) 0 r)) F hM mg_59 (fun f1 => ms_59 f1) rfl (vp_in_nI (n := 0) (N := 1) (by decide) (by decide)) dL_linear_7 (fun H locs hM => ?_)
  refine lv_goto (tgt := 14) hx hb dL_linear_8 (by decide) ?_
  refine lv_iconst (v := 0) hx hb dL_linear_14 (by decide) ?_
  exact m_iret F hM hr rfl rfl dL_linear_15
set_option maxHeartbeats 4000000 in
set_option maxRecDepth 100000 in
theorem x_L_lin (l : Launch) (hlt : l.stackTraces = false) (D : va_G) (y : Nat → ClassId) (nn : Nat) (ad : Nat → Nat) (sz : Nat) (I : Nat → Int32) (J : Nat → Int64) (A : Nat → Nat → Int32) (B : Nat → Nat → Int64) (G : Nat → Nat → Nat → Int32) (N : Nat) (out : GO) (hE : f_X6_greatest N nn (I 0) (G 0) (G 1) (I 1) (J 0) (A 20) (A 21) (A 22) (A 23) (A 24) (A 25) (B 50) (B 51) (B 52) = some out) (h1 : ¬ out.1 = -1) : Met l yL_linear wsL_linear ({ frames := 8, cells := 1, slots := 6, locals := 170 } : Room) (xPc [.ref (ad 0), .int 0, .ref (ad 59)] D y nn ad sz I J A B G) (mQi D y nn ad (mA y nn ad I J A B G sz) 1 (gI I out, gJ J out, gA A out, gB B out, G)) 1 6 (mA y nn ad I J A B G sz) := by
  refine va_MetW (cc := cL_linear) (maxL := 4) (ret := (some .int)) (hh := [(0, 8, 11, 19)]) (by decide) rfl ?_
  intro p e s m args below meth c s₁ Bd hml hv
  obtain ⟨⟨rfl, hsz, hP, hK, hD0, hN⟩, hxF⟩ := hv
  have hr := Bd.returns
  subst hsz
  have F : Fx p s m ([.ref (ad 0), .int 0, .ref (ad 59)] : List Value).toArray meth c cL_linear 4 wsL_linear RL D y (mA y nn ad I J A B G s.heap.size) := ⟨⟨Bd.exec, Bd.bytes, hml, findClass_of_methodNamed Bd.named, atoms_spec (ws := wsL_linear) Bd.pre⟩, hK, hN, fun q h => Or.inr h, Bd.notSynchronized⟩
  have hM := m_start (s := s) rfl hP hD0
  have hx := F.1.1
  have hb := F.1.2.1
  have hl := lv_entry ([.ref (ad 0), .int 0, .ref (ad 59)]) (n := 4) (Nat.le_of_ble_eq_true rfl)
  rw [lg_entry_eq]
  generalize (lg_sl ([.ref (ad 0), .int 0, .ref (ad 59)]) ++ List.replicate (4 - (lg_sl ([.ref (ad 0), .int 0, .ref (ad 59)])).length) Slot.unset).toArray = ls at hl ⊢
  have hl : lv_has ls 4 [(0, .ref (ad 0)), (1, .int 0), (2, .ref (ad 59))] := hl
  show W p l e ({ frames := 8, cells := 1, slots := 6, locals := 170 } : Room) s m _ below meth c s.heap [] 0 0 _ _
  refine lv_aload_n hx hb dL_linear_0 rfl (lv_at hl 2 rfl) ?_
  refine lv_iconst (v := 0) hx hb dL_linear_1 (by decide) ?_
  refine lv_aload_n hx hb dL_linear_2 rfl (lv_at hl 0 rfl) ?_
  refine lv_iload_n hx hb dL_linear_3 rfl (lv_at hl 1 rfl) ?_
  have hFc := m_free F hM
  refine vx_calll (vx_runV (As := [.int 0]) (rest := [.int 0, .ref (ad 59)]) F.1 (x_X6_lin l hlt D y nn ad _ I J A B G N out hE h1) (cwV 1 F.1.2.2.2.2 gL_linear_X6_linear rfl rfl rfl (by decide +kernel) ⟨Nat.le_of_ble_eq_true rfl, Nat.le_of_ble_eq_true rfl⟩) ⟨xPc_blind, m_recv F hM mg_0 rfl, fun U hU hW => ⟨⟨rfl, by rw [hU], by rw [hU]; exact hM.1, va_K.moved hW.alike F.2.1, hM.2.1.weaken (fun _ _ _ _ => trivial), F.2.2.1.warm hW⟩, xF_go hW hU hxF hM.2.2 hFc⟩⟩ rfl rfl hl.1 rfl (lv_room (Nat.le_of_ble_eq_true rfl)) dL_linear_4 ⟨Nat.le_of_ble_eq_true rfl, Nat.le_of_ble_eq_true rfl⟩) hM.2.2 (fun q _ h => hFc q h) hFc (fun q _ h => hFc q h) (fun E ce q9 u t H1 locs1 ht hvm hpu hBX hz1 hk1 hS1 hcell hcv hcl => ?_) (fun v u t H1 locs1 ht hvm hw hB hz1 hk1 hS1 => hw.elim)
  obtain rfl := hpu
  obtain ⟨rfl, hP1, hK1, hD1⟩ := hBX
  rw [ht] at hP1
  have hM : MM D y nn ad (mA y nn ad I J A B G s.heap.size) s.heap (gI I out) (gJ J out) (gA A out) (gB B out) G H1 locs1 := ⟨hP1, hD1.weaken (fun _ _ _ h => hFc _ h), hS1⟩
  refine vx_catch (own := RL) (name := AEx) F.1.2.2.2.1 [] ⟨0, 8, 11, 19⟩ [] (vx_table (x := yL_way) Bd (F.1.2.2.2.2 _ List.mem_cons_self)) (fun z hz => nomatch hz) (by decide) (by decide) (F.1.2.2.2.2 _ (by decide +kernel)) (va_Nw.use rfl (hxF.2.2.1 (.castable AEx AEx) (by decide +kernel))) hcell hcv hcl ?_
  refine lv_astore_n (lv' := [(3, .ref q9), (0, .ref (ad 0)), (1, .int 0), (2, .ref (ad 59))]) hx hb dL_linear_11 rfl hl (by decide) rfl (fun ls hl => ?_)
  refine lv_iconst (v := 1) hx hb dL_linear_12 (by decide) ?_
  exact m_iretX F hM hr rfl rfl dL_linear_13
def cPc (b L : Nat) (xs : Nat → Int32) (sz : Nat) : Array Value → State → Prop := va_Pc [.ref b, .int 0] (fun U => U.heap.size = sz ∧ va_X b L xs U U.heap ∧ b < U.heap.size)
set_option maxHeartbeats 4000000 in
theorem c_L_cell (l : Launch) (b L : Nat) (xs : Nat → Int32) (sz : Nat) (hL : L < 2147483648) : Met l yL_cell wsL_cell ({ frames := 0, cells := 0, slots := 0, locals := 0 } : Room) (cPc b L xs sz) (va_Qi (fun r (_ : Unit) => r = if 0 < L then xs 0 else 0) (fun _ _ => True) (fun q => sz ≤ q)) 0 0 (fun q => sz ≤ q) := by
  refine Met.ofW (cc := cL_cell) (maxL := 2) (ret := (some .int)) (by decide) rfl ?_
  intro p e s m args below meth c s₁ Bd hml hv
  obtain ⟨rfl, hsz, hX, hbl⟩ := hv
  have hr := Bd.returns
  subst hsz
  have hx := Bd.exec
  have hb := Bd.bytes
  have hlk := Bd.notSynchronized
  have hS : va_S (fun q : Nat => s.heap.size ≤ q) s.heap s.heap [] := va_S.rf
  have hbA : ¬ (fun q : Nat => s.heap.size ≤ q) b := Nat.not_le.mpr hbl
  have hl := lv_entry ([.ref b, .int 0]) (n := 2) (Nat.le_of_ble_eq_true rfl)
  rw [lg_entry_eq]
  generalize (lg_sl ([.ref b, .int 0]) ++ List.replicate (2 - (lg_sl ([.ref b, .int 0])).length) Slot.unset).toArray = ls at hl ⊢
  have hl : lv_has ls 2 [(0, .ref b), (1, .int 0)] := hl
  refine lv_iload_n hx hb dL_cell_0 rfl (lv_at hl 1 rfl) ?_
  refine lv_aload_n hx hb dL_cell_1 rfl (lv_at hl 0 rfl) ?_
  refine va_slen hx hb hX hbl hbA hS dL_cell_2 ?_
  refine lv_icmp_ge (tgt := 12) hx hb dL_cell_3 (by decide) (fun c3 => ?_) (fun c3 => ?_)
  · refine lv_iconst (v := 0) hx hb dL_cell_12 (by decide) ?_
    have h0 : ¬ 0 < L := fun h => by
      have c3 : nI L ≤ nI 0 := c3
      rw [nI_lei hL (by omega)] at c3
      omega
    exact W.iret hx hb hr (fun t ht hW => ⟨⟨0, (), rfl, by rw [if_neg h0], trivial⟩, hS.F ht⟩) hS.2.2 dL_cell_13 hlk
  · have h0 : 0 < L := Nat.pos_of_ne_zero (fun h => c3 (by rw [h]; exact Int32.le_refl _))
    refine lv_aload_n hx hb dL_cell_6 rfl (lv_at hl 0 rfl) ?_
    refine lv_iload_n hx hb dL_cell_7 rfl (lv_at hl 1 rfl) ?_
    refine va_sld hx hb hX hbl hbA hS (vp_in_nI (n := 0) (N := L) h0 hL) dL_cell_8 ?_
    refine lv_goto (tgt := 13) hx hb dL_cell_9 (by decide) ?_
    exact W.iret hx hb hr (fun t ht hW => ⟨⟨_, (), rfl, by rw [if_pos h0]; rfl, trivial⟩, hS.F ht⟩) hS.2.2 dL_cell_13 hlk
