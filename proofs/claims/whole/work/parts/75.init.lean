/-! ===== constructors with straight code (gen/init.py) ===== -/
set_option maxHeartbeats 4000000 in
set_option maxRecDepth 100000 in
theorem c_X2_init (l : Launch) (D : va_G) (y : Nat → ClassId) (ws : va_W) (sz : Nat) {nn h0 h1 k0 k1 : Nat} {f1 f2 : Value} (h3 : 3 ≤ nn) (h12 : nn ≤ 12) (hne : k0 ≠ k1) (hk0 : ws[k0]? = some (h0, .inr (3, [.null, .null, .null, .null, .long 0, .int 0]))) (hk1 : ws[k1]? = some (h1, .inr (4, [.int (nI nn), f1, f2]))) : Met l yX2_init wsX2_init ({ frames := 1, cells := 3, slots := 39, locals := 20 } : Room) (kPc [.ref h0, .ref h1] D y ws sz) (kQ D y (va_A ws sz) (fun u : Nat × Nat × Nat => wd ws k0 (h0, .inr (3, [.ref h1, .ref u.1, .ref u.2.1, .ref u.2.2, .long 0, .int 0])) ([(u.1, .inl (y 0, (nn), .inl fun _ => 0))] ++ [(u.2.1, .inl (y 0, (nn), .inl fun _ => 0))] ++ [(u.2.2, .inl (y 0, (nn), .inl fun _ => 0))]))) 3 39 (va_A ws sz) := by
  refine Met.ofW (cc := cX2_init) (maxL := 2) (ret := none) (by decide) rfl ?_
  intro p e s m args below meth c s₁ Bd hml hv
  obtain ⟨rfl, hsz, hP, hK, hD0, hN, hao⟩ := hv
  have hr := Bd.returns
  subst hsz
  have hmn : meth.name = "<init>" := (name_of_methodNamed Bd.named Bd.method).1
  have F : Fx p s m ([.ref h0, .ref h1] : List Value).toArray meth c cX2_init 2 wsX2_init RX2 D y (va_A ws s.heap.size) := ⟨⟨Bd.exec, Bd.bytes, hml, findClass_of_methodNamed Bd.named, atoms_spec (ws := wsX2_init) Bd.pre⟩, hK, hN, fun q h => Or.inr h, Bd.notSynchronized⟩
  have hM := k_start (s := s) rfl hP hD0
  have hlen := wd_lt hk0
  have hnn : nn * nn ≤ 144 := Nat.mul_le_mul h12 h12
  have hpw : 2 ^ (nn - 1) ≤ 2048 := Nat.pow_le_pow_right (n := 2) (i := nn - 1) (j := 11) (by decide) (by omega)
  have hx := F.1.1
  have hb := F.1.2.1
  have hl := lv_entry ([.ref h0, .ref h1]) (n := 2) (Nat.le_of_ble_eq_true rfl)
  rw [lg_entry_eq]
  generalize (lg_sl ([.ref h0, .ref h1]) ++ List.replicate (2 - (lg_sl ([.ref h0, .ref h1])).length) Slot.unset).toArray = ls at hl ⊢
  have hl : lv_has ls 2 [(0, .ref h0), (1, .ref h1)] := hl
  show W p l e ({ frames := 1, cells := 3, slots := 39, locals := 20 } : Room) s m _ below meth c s.heap [] 0 0 _ _
  have hM := kk_0 hk0 hM
  refine lv_aload_n hx hb dX2_init_0 rfl (lv_at hl 0 rfl) ?_
  refine W.objInit hx hb F.1.2.2.2.1 (F.1.2.2.2.2 (.methodLink RX2 3 objectInit) (by decide +kernel)) (F.1.2.2.2.2 (.instanceMethod objectInit) (by decide +kernel)) (F.1.2.2.2.2 (.code objectInit ⟨#[0xb1]⟩ 1 none) (by decide +kernel)) rfl (by rw [F.1.2.2.1]; exact hl.1) rfl dX2_init_1 (Nat.le_of_ble_eq_true rfl) (Nat.le_of_ble_eq_true rfl) ?_
  refine W.eq (g2 := F0 m 4 ls []) rfl ?_
  refine lv_aload_n hx hb dX2_init_4 rfl (lv_at hl 0 rfl) ?_
  refine lv_aload_n hx hb dX2_init_5 rfl (lv_at hl 1 rfl) ?_
  refine k_putF F hM k0 (wd_at hlen) rfl tyX2 tyX2_ok nmX2 0 (by decide) (by decide +kernel) (by decide +kernel) rfl hmn rfl (ty := .object "RoundBounds$Net") (v := .ref h1) (by decide +kernel) rfl rfl (Nat.le_of_ble_eq_true rfl) (ws2 := wd ws k0 (h0, .inr (3, [.ref h1, .null, .null, .null, .long 0, .int 0])) ([])) (wd_set hlen) dX2_init_6 (fun H locs hM => ?_)
  refine lv_aload_n hx hb dX2_init_9 rfl (lv_at hl 0 rfl) ?_
  refine lv_aload_n hx hb dX2_init_10 rfl (lv_at hl 1 rfl) ?_
  refine k_getN F hM k1 (wd_ne hne hk1) rfl 0 (by decide) (by decide +kernel) (by decide +kernel) (v := .int (nI nn)) rfl dX2_init_11 ?_
  refine k_newa F hM (ty := .int) rfl (by decide +kernel) 0 rfl (fun _ h => h) (n := nI (nn)) (N' := (nn)) (a0 := ((nn), .inl fun _ => 0)) (fun _ => rfl) (nI_nneg (by omega)) (nI_c (by omega)) (by show (nn) * 4 ≤ 536870912; omega) (by show 0 + 1 ≤ 3; omega) (by show 0 + (nn) ≤ 39; omega) dX2_init_14 (fun q14 H hM => ?_)
  have hM := kk_app hM
  refine k_putF F hM k0 (wd_at hlen) rfl tyX2 tyX2_ok nmX2 1 (by decide) (by decide +kernel) (by decide +kernel) rfl hmn rfl (ty := .array .int) (v := .ref q14) (by decide +kernel) rfl rfl (Nat.le_of_ble_eq_true rfl) (ws2 := wd ws k0 (h0, .inr (3, [.ref h1, .ref q14, .null, .null, .long 0, .int 0])) ([(q14, .inl (y 0, (nn), .inl fun _ => 0))])) (wd_set hlen) dX2_init_16 (fun H locs hM => ?_)
  refine lv_aload_n hx hb dX2_init_19 rfl (lv_at hl 0 rfl) ?_
  refine lv_aload_n hx hb dX2_init_20 rfl (lv_at hl 1 rfl) ?_
  refine k_getN F hM k1 (wd_ne hne hk1) rfl 0 (by decide) (by decide +kernel) (by decide +kernel) (v := .int (nI nn)) rfl dX2_init_21 ?_
  refine k_newa F hM (ty := .int) rfl (by decide +kernel) 0 rfl (fun _ h => h) (n := nI (nn)) (N' := (nn)) (a0 := ((nn), .inl fun _ => 0)) (fun _ => rfl) (nI_nneg (by omega)) (nI_c (by omega)) (by show (nn) * 4 ≤ 536870912; omega) (by show 0 + 1 + 1 ≤ 3; omega) (by show 0 + (nn) + (nn) ≤ 39; omega) dX2_init_24 (fun q24 H hM => ?_)
  have hM := kk_app hM
  refine k_putF F hM k0 (wd_at hlen) rfl tyX2 tyX2_ok nmX2 2 (by decide) (by decide +kernel) (by decide +kernel) rfl hmn rfl (ty := .array .int) (v := .ref q24) (by decide +kernel) rfl rfl (Nat.le_of_ble_eq_true rfl) (ws2 := wd ws k0 (h0, .inr (3, [.ref h1, .ref q14, .ref q24, .null, .long 0, .int 0])) ([(q14, .inl (y 0, (nn), .inl fun _ => 0))] ++ [(q24, .inl (y 0, (nn), .inl fun _ => 0))])) (wd_set hlen) dX2_init_26 (fun H locs hM => ?_)
  refine lv_aload_n hx hb dX2_init_29 rfl (lv_at hl 0 rfl) ?_
  refine lv_aload_n hx hb dX2_init_30 rfl (lv_at hl 1 rfl) ?_
  refine k_getN F hM k1 (wd_ne hne hk1) rfl 0 (by decide) (by decide +kernel) (by decide +kernel) (v := .int (nI nn)) rfl dX2_init_31 ?_
  refine k_newa F hM (ty := .int) rfl (by decide +kernel) 0 rfl (fun _ h => h) (n := nI (nn)) (N' := (nn)) (a0 := ((nn), .inl fun _ => 0)) (fun _ => rfl) (nI_nneg (by omega)) (nI_c (by omega)) (by show (nn) * 4 ≤ 536870912; omega) (by show 0 + 1 + 1 + 1 ≤ 3; omega) (by show 0 + (nn) + (nn) + (nn) ≤ 39; omega) dX2_init_34 (fun q34 H hM => ?_)
  have hM := kk_app hM
  refine k_putF F hM k0 (wd_at hlen) rfl tyX2 tyX2_ok nmX2 3 (by decide) (by decide +kernel) (by decide +kernel) rfl hmn rfl (ty := .array .int) (v := .ref q34) (by decide +kernel) rfl rfl (Nat.le_of_ble_eq_true rfl) (ws2 := wd ws k0 (h0, .inr (3, [.ref h1, .ref q14, .ref q24, .ref q34, .long 0, .int 0])) ([(q14, .inl (y 0, (nn), .inl fun _ => 0))] ++ [(q24, .inl (y 0, (nn), .inl fun _ => 0))] ++ [(q34, .inl (y 0, (nn), .inl fun _ => 0))])) (wd_set hlen) dX2_init_36 (fun H locs hM => ?_)
  refine lv_aload_n hx hb dX2_init_39 rfl (lv_at hl 0 rfl) ?_
  refine lv_lconst (v := 0) hx hb dX2_init_40 (by decide) ?_
  refine k_put F hM k0 (wd_at hlen) rfl tyX2 tyX2_ok nmX2 4 (by decide) (by decide +kernel) (by decide +kernel) rfl (ty := .long) (v := .long 0) (by decide +kernel) rfl rfl (Nat.le_of_ble_eq_true rfl) (ws2 := wd ws k0 (h0, .inr (3, [.ref h1, .ref q14, .ref q24, .ref q34, .long 0, .int 0])) ([(q14, .inl (y 0, (nn), .inl fun _ => 0))] ++ [(q24, .inl (y 0, (nn), .inl fun _ => 0))] ++ [(q34, .inl (y 0, (nn), .inl fun _ => 0))])) (wd_set hlen) dX2_init_41 (fun H locs hM => ?_)
  refine lv_aload_n hx hb dX2_init_44 rfl (lv_at hl 0 rfl) ?_
  refine lv_iconst (v := 0) hx hb dX2_init_45 (by decide) ?_
  refine k_put F hM k0 (wd_at hlen) rfl tyX2 tyX2_ok nmX2 5 (by decide) (by decide +kernel) (by decide +kernel) rfl (ty := .int) (v := .int 0) (by decide +kernel) rfl rfl (Nat.le_of_ble_eq_true rfl) (ws2 := wd ws k0 (h0, .inr (3, [.ref h1, .ref q14, .ref q24, .ref q34, .long 0, .int 0])) ([(q14, .inl (y 0, (nn), .inl fun _ => 0))] ++ [(q24, .inl (y 0, (nn), .inl fun _ => 0))] ++ [(q34, .inl (y 0, (nn), .inl fun _ => 0))])) (wd_set hlen) dX2_init_46 (fun H locs hM => ?_)
  refine W.widen (k := 3) (n := 39) (by omega) (by omega) ?_
  exact k_vret F hM hr (q14, q24, q34) rfl dX2_init_49
set_option maxHeartbeats 4000000 in
set_option maxRecDepth 100000 in
theorem c_X0_init (l : Launch) (D : va_G) (y : Nat → ClassId) (ws : va_W) (sz : Nat) {nn h0 h1 k0 k1 : Nat} {f1 f2 : Value} (h3 : 3 ≤ nn) (h12 : nn ≤ 12) (hne : k0 ≠ k1) (hk0 : ws[k0]? = some (h0, .inr (1, [.null, .null, .null, .null, .null, .null, .null]))) (hk1 : ws[k1]? = some (h1, .inr (4, [.int (nI nn), f1, f2]))) : Met l yX0_init wsX0_init ({ frames := 1, cells := 6, slots := 78, locals := 20 } : Room) (kPc [.ref h0, .ref h1] D y ws sz) (kQ D y (va_A ws sz) (fun u : Nat × Nat × Nat × Nat × Nat × Nat => wd ws k0 (h0, .inr (1, [.ref h1, .ref u.1, .ref u.2.1, .ref u.2.2.1, .ref u.2.2.2.1, .ref u.2.2.2.2.1, .ref u.2.2.2.2.2])) ([(u.1, .inl (y 1, (nn + 1), .inr (.inl fun _ => 0)))] ++ [(u.2.1, .inl (y 1, (nn + 1), .inr (.inl fun _ => 0)))] ++ [(u.2.2.1, .inl (y 1, (nn + 1), .inr (.inl fun _ => 0)))] ++ [(u.2.2.2.1, .inl (y 0, (nn + 1), .inl fun _ => 0))] ++ [(u.2.2.2.2.1, .inl (y 0, (nn + 1), .inl fun _ => 0))] ++ [(u.2.2.2.2.2, .inl (y 2, (nn + 1), .inl fun _ => 0))]))) 6 78 (va_A ws sz) := by
  refine Met.ofW (cc := cX0_init) (maxL := 3) (ret := none) (by decide) rfl ?_
  intro p e s m args below meth c s₁ Bd hml hv
  obtain ⟨rfl, hsz, hP, hK, hD0, hN, hao⟩ := hv
  have hr := Bd.returns
  subst hsz
  have hmn : meth.name = "<init>" := (name_of_methodNamed Bd.named Bd.method).1
  have F : Fx p s m ([.ref h0, .ref h1] : List Value).toArray meth c cX0_init 3 wsX0_init RX0 D y (va_A ws s.heap.size) := ⟨⟨Bd.exec, Bd.bytes, hml, findClass_of_methodNamed Bd.named, atoms_spec (ws := wsX0_init) Bd.pre⟩, hK, hN, fun q h => Or.inr h, Bd.notSynchronized⟩
  have hM := k_start (s := s) rfl hP hD0
  have hlen := wd_lt hk0
  have hnn : nn * nn ≤ 144 := Nat.mul_le_mul h12 h12
  have hpw : 2 ^ (nn - 1) ≤ 2048 := Nat.pow_le_pow_right (n := 2) (i := nn - 1) (j := 11) (by decide) (by omega)
  have hx := F.1.1
  have hb := F.1.2.1
  have hl := lv_entry ([.ref h0, .ref h1]) (n := 3) (Nat.le_of_ble_eq_true rfl)
  rw [lg_entry_eq]
  generalize (lg_sl ([.ref h0, .ref h1]) ++ List.replicate (3 - (lg_sl ([.ref h0, .ref h1])).length) Slot.unset).toArray = ls at hl ⊢
  have hl : lv_has ls 3 [(0, .ref h0), (1, .ref h1)] := hl
  show W p l e ({ frames := 1, cells := 6, slots := 78, locals := 20 } : Room) s m _ below meth c s.heap [] 0 0 _ _
  have hM := kk_0 hk0 hM
  refine lv_aload_n hx hb dX0_init_0 rfl (lv_at hl 0 rfl) ?_
  refine W.objInit hx hb F.1.2.2.2.1 (F.1.2.2.2.2 (.methodLink RX0 3 objectInit) (by decide +kernel)) (F.1.2.2.2.2 (.instanceMethod objectInit) (by decide +kernel)) (F.1.2.2.2.2 (.code objectInit ⟨#[0xb1]⟩ 1 none) (by decide +kernel)) rfl (by rw [F.1.2.2.1]; exact hl.1) rfl dX0_init_1 (Nat.le_of_ble_eq_true rfl) (Nat.le_of_ble_eq_true rfl) ?_
  refine W.eq (g2 := F0 m 4 ls []) rfl ?_
  refine lv_aload_n hx hb dX0_init_4 rfl (lv_at hl 0 rfl) ?_
  refine lv_aload_n hx hb dX0_init_5 rfl (lv_at hl 1 rfl) ?_
  refine k_putF F hM k0 (wd_at hlen) rfl tyX0 tyX0_ok nmX0 0 (by decide) (by decide +kernel) (by decide +kernel) rfl hmn rfl (ty := .object "RoundBounds$Net") (v := .ref h1) (by decide +kernel) rfl rfl (Nat.le_of_ble_eq_true rfl) (ws2 := wd ws k0 (h0, .inr (1, [.ref h1, .null, .null, .null, .null, .null, .null])) ([])) (wd_set hlen) dX0_init_6 (fun H locs hM => ?_)
  refine lv_aload_n hx hb dX0_init_9 rfl (lv_at hl 1 rfl) ?_
  refine k_getN F hM k1 (wd_ne hne hk1) rfl 0 (by decide) (by decide +kernel) (by decide +kernel) (v := .int (nI nn)) rfl dX0_init_10 ?_
  refine lv_iconst (v := 1) hx hb dX0_init_13 (by decide) ?_
  refine lv_iadd hx hb dX0_init_14 ?_
  refine m_topi (v := nI (nn + 1)) (by first | exact (nI_1 nn).symm | (rw [Int32.add_comm]; exact (nI_1 nn).symm)) ?_
  refine lv_istore_n (lv' := [(2, .int (nI (nn + 1))), (0, .ref h0), (1, .ref h1)]) hx hb dX0_init_15 rfl hl (by decide) rfl (fun ls hl => ?_)
  refine lv_aload_n hx hb dX0_init_16 rfl (lv_at hl 1 rfl) ?_
  refine lv_iload_n hx hb dX0_init_17 rfl (lv_at hl 0 rfl) ?_
  refine k_newa F hM (ty := .long) rfl (by decide +kernel) 1 rfl (fun _ h => h) (n := nI (nn + 1)) (N' := (nn + 1)) (a0 := ((nn + 1), .inr (.inl fun _ => 0))) (fun _ => rfl) (nI_nneg (by omega)) (nI_c (by omega)) (by show (nn + 1) * 8 ≤ 536870912; omega) (by show 0 + 1 ≤ 6; omega) (by show 0 + (nn + 1) ≤ 78; omega) dX0_init_18 (fun q18 H hM => ?_)
  have hM := kk_app hM
  refine k_putF F hM k0 (wd_at hlen) rfl tyX0 tyX0_ok nmX0 1 (by decide) (by decide +kernel) (by decide +kernel) rfl hmn rfl (ty := .array .long) (v := .ref q18) (by decide +kernel) rfl rfl (Nat.le_of_ble_eq_true rfl) (ws2 := wd ws k0 (h0, .inr (1, [.ref h1, .ref q18, .null, .null, .null, .null, .null])) ([(q18, .inl (y 1, (nn + 1), .inr (.inl fun _ => 0)))])) (wd_set hlen) dX0_init_20 (fun H locs hM => ?_)
  refine lv_aload_n hx hb dX0_init_23 rfl (lv_at hl 1 rfl) ?_
  refine lv_iload_n hx hb dX0_init_24 rfl (lv_at hl 0 rfl) ?_
  refine k_newa F hM (ty := .long) rfl (by decide +kernel) 1 rfl (fun _ h => h) (n := nI (nn + 1)) (N' := (nn + 1)) (a0 := ((nn + 1), .inr (.inl fun _ => 0))) (fun _ => rfl) (nI_nneg (by omega)) (nI_c (by omega)) (by show (nn + 1) * 8 ≤ 536870912; omega) (by show 0 + 1 + 1 ≤ 6; omega) (by show 0 + (nn + 1) + (nn + 1) ≤ 78; omega) dX0_init_25 (fun q25 H hM => ?_)
  have hM := kk_app hM
  refine k_putF F hM k0 (wd_at hlen) rfl tyX0 tyX0_ok nmX0 2 (by decide) (by decide +kernel) (by decide +kernel) rfl hmn rfl (ty := .array .long) (v := .ref q25) (by decide +kernel) rfl rfl (Nat.le_of_ble_eq_true rfl) (ws2 := wd ws k0 (h0, .inr (1, [.ref h1, .ref q18, .ref q25, .null, .null, .null, .null])) ([(q18, .inl (y 1, (nn + 1), .inr (.inl fun _ => 0)))] ++ [(q25, .inl (y 1, (nn + 1), .inr (.inl fun _ => 0)))])) (wd_set hlen) dX0_init_27 (fun H locs hM => ?_)
  refine lv_aload_n hx hb dX0_init_30 rfl (lv_at hl 1 rfl) ?_
  refine lv_iload_n hx hb dX0_init_31 rfl (lv_at hl 0 rfl) ?_
  refine k_newa F hM (ty := .long) rfl (by decide +kernel) 1 rfl (fun _ h => h) (n := nI (nn + 1)) (N' := (nn + 1)) (a0 := ((nn + 1), .inr (.inl fun _ => 0))) (fun _ => rfl) (nI_nneg (by omega)) (nI_c (by omega)) (by show (nn + 1) * 8 ≤ 536870912; omega) (by show 0 + 1 + 1 + 1 ≤ 6; omega) (by show 0 + (nn + 1) + (nn + 1) + (nn + 1) ≤ 78; omega) dX0_init_32 (fun q32 H hM => ?_)
  have hM := kk_app hM
  refine k_putF F hM k0 (wd_at hlen) rfl tyX0 tyX0_ok nmX0 3 (by decide) (by decide +kernel) (by decide +kernel) rfl hmn rfl (ty := .array .long) (v := .ref q32) (by decide +kernel) rfl rfl (Nat.le_of_ble_eq_true rfl) (ws2 := wd ws k0 (h0, .inr (1, [.ref h1, .ref q18, .ref q25, .ref q32, .null, .null, .null])) ([(q18, .inl (y 1, (nn + 1), .inr (.inl fun _ => 0)))] ++ [(q25, .inl (y 1, (nn + 1), .inr (.inl fun _ => 0)))] ++ [(q32, .inl (y 1, (nn + 1), .inr (.inl fun _ => 0)))])) (wd_set hlen) dX0_init_34 (fun H locs hM => ?_)
  refine lv_aload_n hx hb dX0_init_37 rfl (lv_at hl 1 rfl) ?_
  refine lv_iload_n hx hb dX0_init_38 rfl (lv_at hl 0 rfl) ?_
  refine k_newa F hM (ty := .int) rfl (by decide +kernel) 0 rfl (fun _ h => h) (n := nI (nn + 1)) (N' := (nn + 1)) (a0 := ((nn + 1), .inl fun _ => 0)) (fun _ => rfl) (nI_nneg (by omega)) (nI_c (by omega)) (by show (nn + 1) * 4 ≤ 536870912; omega) (by show 0 + 1 + 1 + 1 + 1 ≤ 6; omega) (by show 0 + (nn + 1) + (nn + 1) + (nn + 1) + (nn + 1) ≤ 78; omega) dX0_init_39 (fun q39 H hM => ?_)
  have hM := kk_app hM
  refine k_putF F hM k0 (wd_at hlen) rfl tyX0 tyX0_ok nmX0 4 (by decide) (by decide +kernel) (by decide +kernel) rfl hmn rfl (ty := .array .int) (v := .ref q39) (by decide +kernel) rfl rfl (Nat.le_of_ble_eq_true rfl) (ws2 := wd ws k0 (h0, .inr (1, [.ref h1, .ref q18, .ref q25, .ref q32, .ref q39, .null, .null])) ([(q18, .inl (y 1, (nn + 1), .inr (.inl fun _ => 0)))] ++ [(q25, .inl (y 1, (nn + 1), .inr (.inl fun _ => 0)))] ++ [(q32, .inl (y 1, (nn + 1), .inr (.inl fun _ => 0)))] ++ [(q39, .inl (y 0, (nn + 1), .inl fun _ => 0))])) (wd_set hlen) dX0_init_41 (fun H locs hM => ?_)
  refine lv_aload_n hx hb dX0_init_44 rfl (lv_at hl 1 rfl) ?_
  refine lv_iload_n hx hb dX0_init_45 rfl (lv_at hl 0 rfl) ?_
  refine k_newa F hM (ty := .int) rfl (by decide +kernel) 0 rfl (fun _ h => h) (n := nI (nn + 1)) (N' := (nn + 1)) (a0 := ((nn + 1), .inl fun _ => 0)) (fun _ => rfl) (nI_nneg (by omega)) (nI_c (by omega)) (by show (nn + 1) * 4 ≤ 536870912; omega) (by show 0 + 1 + 1 + 1 + 1 + 1 ≤ 6; omega) (by show 0 + (nn + 1) + (nn + 1) + (nn + 1) + (nn + 1) + (nn + 1) ≤ 78; omega) dX0_init_46 (fun q46 H hM => ?_)
  have hM := kk_app hM
  refine k_putF F hM k0 (wd_at hlen) rfl tyX0 tyX0_ok nmX0 5 (by decide) (by decide +kernel) (by decide +kernel) rfl hmn rfl (ty := .array .int) (v := .ref q46) (by decide +kernel) rfl rfl (Nat.le_of_ble_eq_true rfl) (ws2 := wd ws k0 (h0, .inr (1, [.ref h1, .ref q18, .ref q25, .ref q32, .ref q39, .ref q46, .null])) ([(q18, .inl (y 1, (nn + 1), .inr (.inl fun _ => 0)))] ++ [(q25, .inl (y 1, (nn + 1), .inr (.inl fun _ => 0)))] ++ [(q32, .inl (y 1, (nn + 1), .inr (.inl fun _ => 0)))] ++ [(q39, .inl (y 0, (nn + 1), .inl fun _ => 0))] ++ [(q46, .inl (y 0, (nn + 1), .inl fun _ => 0))])) (wd_set hlen) dX0_init_48 (fun H locs hM => ?_)
  refine lv_aload_n hx hb dX0_init_51 rfl (lv_at hl 1 rfl) ?_
  refine lv_iload_n hx hb dX0_init_52 rfl (lv_at hl 0 rfl) ?_
  refine k_newa F hM (ty := .boolean) rfl (by decide +kernel) 2 rfl (fun _ h => h) (n := nI (nn + 1)) (N' := (nn + 1)) (a0 := ((nn + 1), .inl fun _ => 0)) (fun _ => rfl) (nI_nneg (by omega)) (nI_c (by omega)) (by show (nn + 1) * 1 ≤ 536870912; omega) (by show 0 + 1 + 1 + 1 + 1 + 1 + 1 ≤ 6; omega) (by show 0 + (nn + 1) + (nn + 1) + (nn + 1) + (nn + 1) + (nn + 1) + (nn + 1) ≤ 78; omega) dX0_init_53 (fun q53 H hM => ?_)
  have hM := kk_app hM
  refine k_putF F hM k0 (wd_at hlen) rfl tyX0 tyX0_ok nmX0 6 (by decide) (by decide +kernel) (by decide +kernel) rfl hmn rfl (ty := .array .boolean) (v := .ref q53) (by decide +kernel) rfl rfl (Nat.le_of_ble_eq_true rfl) (ws2 := wd ws k0 (h0, .inr (1, [.ref h1, .ref q18, .ref q25, .ref q32, .ref q39, .ref q46, .ref q53])) ([(q18, .inl (y 1, (nn + 1), .inr (.inl fun _ => 0)))] ++ [(q25, .inl (y 1, (nn + 1), .inr (.inl fun _ => 0)))] ++ [(q32, .inl (y 1, (nn + 1), .inr (.inl fun _ => 0)))] ++ [(q39, .inl (y 0, (nn + 1), .inl fun _ => 0))] ++ [(q46, .inl (y 0, (nn + 1), .inl fun _ => 0))] ++ [(q53, .inl (y 2, (nn + 1), .inl fun _ => 0))])) (wd_set hlen) dX0_init_55 (fun H locs hM => ?_)
  refine W.widen (k := 6) (n := 78) (by omega) (by omega) ?_
  exact k_vret F hM hr (q18, q25, q32, q39, q46, q53) rfl dX0_init_58
set_option maxHeartbeats 4000000 in
set_option maxRecDepth 100000 in
theorem c_X1_init (l : Launch) (D : va_G) (y : Nat → ClassId) (ws : va_W) (sz : Nat) {nn h0 h1 k0 k1 : Nat} {f1 f2 : Value} (h3 : 3 ≤ nn) (h12 : nn ≤ 12) (hne : k0 ≠ k1) (hk0 : ws[k0]? = some (h0, .inr (2, [.null, .null, .null, .null]))) (hk1 : ws[k1]? = some (h1, .inr (4, [.int (nI nn), f1, f2]))) : Met l yX1_init wsX1_init ({ frames := 1, cells := 15, slots := 182, locals := 20 } : Room) (kPc [.ref h0, .ref h1] D y ws sz) (kQ D y (va_A ws sz) (fun u : Nat × (Nat → Nat) × Nat × Nat => wd ws k0 (h0, .inr (2, [.ref h1, .ref u.1, .ref u.2.2.1, .ref u.2.2.2])) (((u.1, kout y nn u.2.1) :: krow y nn u.2.1 (fun _ _ => 0)) ++ [(u.2.2.1, .inl (y 0, (nn), .inl fun _ => 0))] ++ [(u.2.2.2, .inl (y 0, (nn), .inl fun _ => 0))]))) 15 182 (va_A ws sz) := by
  refine Met.ofW (cc := cX1_init) (maxL := 2) (ret := none) (by decide) rfl ?_
  intro p e s m args below meth c s₁ Bd hml hv
  obtain ⟨rfl, hsz, hP, hK, hD0, hN, hao⟩ := hv
  have hr := Bd.returns
  subst hsz
  have hmn : meth.name = "<init>" := (name_of_methodNamed Bd.named Bd.method).1
  have F : Fx p s m ([.ref h0, .ref h1] : List Value).toArray meth c cX1_init 2 wsX1_init RX1 D y (va_A ws s.heap.size) := ⟨⟨Bd.exec, Bd.bytes, hml, findClass_of_methodNamed Bd.named, atoms_spec (ws := wsX1_init) Bd.pre⟩, hK, hN, fun q h => Or.inr h, Bd.notSynchronized⟩
  have hM := k_start (s := s) rfl hP hD0
  have hlen := wd_lt hk0
  have hnn : nn * nn ≤ 144 := Nat.mul_le_mul h12 h12
  have hpw : 2 ^ (nn - 1) ≤ 2048 := Nat.pow_le_pow_right (n := 2) (i := nn - 1) (j := 11) (by decide) (by omega)
  have hx := F.1.1
  have hb := F.1.2.1
  have hl := lv_entry ([.ref h0, .ref h1]) (n := 2) (Nat.le_of_ble_eq_true rfl)
  rw [lg_entry_eq]
  generalize (lg_sl ([.ref h0, .ref h1]) ++ List.replicate (2 - (lg_sl ([.ref h0, .ref h1])).length) Slot.unset).toArray = ls at hl ⊢
  have hl : lv_has ls 2 [(0, .ref h0), (1, .ref h1)] := hl
  show W p l e ({ frames := 1, cells := 15, slots := 182, locals := 20 } : Room) s m _ below meth c s.heap [] 0 0 _ _
  have hM := kk_0 hk0 hM
  refine lv_aload_n hx hb dX1_init_0 rfl (lv_at hl 0 rfl) ?_
  refine W.objInit hx hb F.1.2.2.2.1 (F.1.2.2.2.2 (.methodLink RX1 3 objectInit) (by decide +kernel)) (F.1.2.2.2.2 (.instanceMethod objectInit) (by decide +kernel)) (F.1.2.2.2.2 (.code objectInit ⟨#[0xb1]⟩ 1 none) (by decide +kernel)) rfl (by rw [F.1.2.2.1]; exact hl.1) rfl dX1_init_1 (Nat.le_of_ble_eq_true rfl) (Nat.le_of_ble_eq_true rfl) ?_
  refine W.eq (g2 := F0 m 4 ls []) rfl ?_
  refine lv_aload_n hx hb dX1_init_4 rfl (lv_at hl 0 rfl) ?_
  refine lv_aload_n hx hb dX1_init_5 rfl (lv_at hl 1 rfl) ?_
  refine k_putF F hM k0 (wd_at hlen) rfl tyX1 tyX1_ok nmX1 0 (by decide) (by decide +kernel) (by decide +kernel) rfl hmn rfl (ty := .object "RoundBounds$Net") (v := .ref h1) (by decide +kernel) rfl rfl (Nat.le_of_ble_eq_true rfl) (ws2 := wd ws k0 (h0, .inr (2, [.ref h1, .null, .null, .null])) ([])) (wd_set hlen) dX1_init_6 (fun H locs hM => ?_)
  refine lv_aload_n hx hb dX1_init_9 rfl (lv_at hl 0 rfl) ?_
  refine lv_aload_n hx hb dX1_init_10 rfl (lv_at hl 1 rfl) ?_
  refine k_getN F hM k1 (wd_ne hne hk1) rfl 0 (by decide) (by decide +kernel) (by decide +kernel) (v := .int (nI nn)) rfl dX1_init_11 ?_
  refine lv_aload_n hx hb dX1_init_14 rfl (lv_at hl 1 rfl) ?_
  refine k_getN F hM k1 (wd_ne hne hk1) rfl 0 (by decide) (by decide +kernel) (by decide +kernel) (v := .int (nI nn)) rfl dX1_init_15 ?_
  refine k_mna F hao hM (n := nn) (by decide +kernel) (by decide +kernel) h12 (by show 0 + (1 + nn) ≤ 15; omega) (by show 0 + (nn + nn * nn) ≤ 182; omega) dX1_init_18 (fun q18 r18 H hM => ?_)
  have hM := kk_app hM
  refine k_putF F hM k0 (wd_at hlen) rfl tyX1 tyX1_ok nmX1 1 (by decide) (by decide +kernel) (by decide +kernel) rfl hmn rfl (ty := .array (.array .int)) (v := .ref q18) (by decide +kernel) rfl rfl (Nat.le_of_ble_eq_true rfl) (ws2 := wd ws k0 (h0, .inr (2, [.ref h1, .ref q18, .null, .null])) (((q18, kout y nn r18) :: krow y nn r18 (fun _ _ => 0)))) (wd_set hlen) dX1_init_22 (fun H locs hM => ?_)
  refine lv_aload_n hx hb dX1_init_25 rfl (lv_at hl 0 rfl) ?_
  refine lv_aload_n hx hb dX1_init_26 rfl (lv_at hl 1 rfl) ?_
  refine k_getN F hM k1 (wd_ne hne hk1) rfl 0 (by decide) (by decide +kernel) (by decide +kernel) (v := .int (nI nn)) rfl dX1_init_27 ?_
  refine k_newa F hM (ty := .int) rfl (by decide +kernel) 0 rfl (fun _ h => h) (n := nI (nn)) (N' := (nn)) (a0 := ((nn), .inl fun _ => 0)) (fun _ => rfl) (nI_nneg (by omega)) (nI_c (by omega)) (by show (nn) * 4 ≤ 536870912; omega) (by show 0 + 1 + nn + 1 ≤ 15; omega) (by show 0 + nn + nn * nn + (nn) ≤ 182; omega) dX1_init_30 (fun q30 H hM => ?_)
  have hM := kk_app hM
  refine k_putF F hM k0 (wd_at hlen) rfl tyX1 tyX1_ok nmX1 2 (by decide) (by decide +kernel) (by decide +kernel) rfl hmn rfl (ty := .array .int) (v := .ref q30) (by decide +kernel) rfl rfl (Nat.le_of_ble_eq_true rfl) (ws2 := wd ws k0 (h0, .inr (2, [.ref h1, .ref q18, .ref q30, .null])) (((q18, kout y nn r18) :: krow y nn r18 (fun _ _ => 0)) ++ [(q30, .inl (y 0, (nn), .inl fun _ => 0))])) (wd_set hlen) dX1_init_32 (fun H locs hM => ?_)
  refine lv_aload_n hx hb dX1_init_35 rfl (lv_at hl 0 rfl) ?_
  refine lv_aload_n hx hb dX1_init_36 rfl (lv_at hl 1 rfl) ?_
  refine k_getN F hM k1 (wd_ne hne hk1) rfl 0 (by decide) (by decide +kernel) (by decide +kernel) (v := .int (nI nn)) rfl dX1_init_37 ?_
  refine k_newa F hM (ty := .int) rfl (by decide +kernel) 0 rfl (fun _ h => h) (n := nI (nn)) (N' := (nn)) (a0 := ((nn), .inl fun _ => 0)) (fun _ => rfl) (nI_nneg (by omega)) (nI_c (by omega)) (by show (nn) * 4 ≤ 536870912; omega) (by show 0 + 1 + nn + 1 + 1 ≤ 15; omega) (by show 0 + nn + nn * nn + (nn) + (nn) ≤ 182; omega) dX1_init_40 (fun q40 H hM => ?_)
  have hM := kk_app hM
  refine k_putF F hM k0 (wd_at hlen) rfl tyX1 tyX1_ok nmX1 3 (by decide) (by decide +kernel) (by decide +kernel) rfl hmn rfl (ty := .array .int) (v := .ref q40) (by decide +kernel) rfl rfl (Nat.le_of_ble_eq_true rfl) (ws2 := wd ws k0 (h0, .inr (2, [.ref h1, .ref q18, .ref q30, .ref q40])) (((q18, kout y nn r18) :: krow y nn r18 (fun _ _ => 0)) ++ [(q30, .inl (y 0, (nn), .inl fun _ => 0))] ++ [(q40, .inl (y 0, (nn), .inl fun _ => 0))])) (wd_set hlen) dX1_init_42 (fun H locs hM => ?_)
  refine W.widen (k := 15) (n := 182) (by omega) (by omega) ?_
  exact k_vret F hM hr (q18, r18, q30, q40) rfl dX1_init_45
set_option maxHeartbeats 4000000 in
set_option maxRecDepth 100000 in
theorem c_X4_init (l : Launch) (D : va_G) (y : Nat → ClassId) (ws : va_W) (sz : Nat) {nn h0 h1 k0 k1 : Nat} {f1 f2 : Value} (h3 : 3 ≤ nn) (h12 : nn ≤ 12) (hne : k0 ≠ k1) (hk0 : ws[k0]? = some (h0, .inr (5, [.null, .null, .null, .int 0, .null, .null, .int 0]))) (hk1 : ws[k1]? = some (h1, .inr (4, [.int (nI nn), f1, f2]))) : Met l yX4_init wsX4_init ({ frames := 1, cells := 16, slots := 2243, locals := 20 } : Room) (kPc [.ref h0, .ref h1] D y ws sz) (kQ D y (va_A ws sz) (fun u : Nat × (Nat → Nat) × Nat × Nat × Nat => wd ws k0 (h0, .inr (5, [.ref h1, .ref u.1, .ref u.2.2.1, .int 0, .ref u.2.2.2.1, .ref u.2.2.2.2, .int 0])) (((u.1, kout y nn u.2.1) :: krow y nn u.2.1 (fun _ _ => 0)) ++ [(u.2.2.1, .inl (y 0, (nn), .inl fun _ => 0))] ++ [(u.2.2.2.1, .inl (y 0, (2 ^ (nn - 1)), .inl fun _ => 0))] ++ [(u.2.2.2.2, .inl (y 0, (nn), .inl fun _ => 0))]))) 16 2243 (va_A ws sz) := by
  refine Met.ofW (cc := cX4_init) (maxL := 2) (ret := none) (by decide) rfl ?_
  intro p e s m args below meth c s₁ Bd hml hv
  obtain ⟨rfl, hsz, hP, hK, hD0, hN, hao⟩ := hv
  have hr := Bd.returns
  subst hsz
  have hmn : meth.name = "<init>" := (name_of_methodNamed Bd.named Bd.method).1
  have F : Fx p s m ([.ref h0, .ref h1] : List Value).toArray meth c cX4_init 2 wsX4_init RX4 D y (va_A ws s.heap.size) := ⟨⟨Bd.exec, Bd.bytes, hml, findClass_of_methodNamed Bd.named, atoms_spec (ws := wsX4_init) Bd.pre⟩, hK, hN, fun q h => Or.inr h, Bd.notSynchronized⟩
  have hM := k_start (s := s) rfl hP hD0
  have hlen := wd_lt hk0
  have hnn : nn * nn ≤ 144 := Nat.mul_le_mul h12 h12
  have hpw : 2 ^ (nn - 1) ≤ 2048 := Nat.pow_le_pow_right (n := 2) (i := nn - 1) (j := 11) (by decide) (by omega)
  have hx := F.1.1
  have hb := F.1.2.1
  have hl := lv_entry ([.ref h0, .ref h1]) (n := 2) (Nat.le_of_ble_eq_true rfl)
  rw [lg_entry_eq]
  generalize (lg_sl ([.ref h0, .ref h1]) ++ List.replicate (2 - (lg_sl ([.ref h0, .ref h1])).length) Slot.unset).toArray = ls at hl ⊢
  have hl : lv_has ls 2 [(0, .ref h0), (1, .ref h1)] := hl
  show W p l e ({ frames := 1, cells := 16, slots := 2243, locals := 20 } : Room) s m _ below meth c s.heap [] 0 0 _ _
  have hM := kk_0 hk0 hM
  refine lv_aload_n hx hb dX4_init_0 rfl (lv_at hl 0 rfl) ?_
  refine W.objInit hx hb F.1.2.2.2.1 (F.1.2.2.2.2 (.methodLink RX4 3 objectInit) (by decide +kernel)) (F.1.2.2.2.2 (.instanceMethod objectInit) (by decide +kernel)) (F.1.2.2.2.2 (.code objectInit ⟨#[0xb1]⟩ 1 none) (by decide +kernel)) rfl (by rw [F.1.2.2.1]; exact hl.1) rfl dX4_init_1 (Nat.le_of_ble_eq_true rfl) (Nat.le_of_ble_eq_true rfl) ?_
  refine W.eq (g2 := F0 m 4 ls []) rfl ?_
  refine lv_aload_n hx hb dX4_init_4 rfl (lv_at hl 0 rfl) ?_
  refine lv_aload_n hx hb dX4_init_5 rfl (lv_at hl 1 rfl) ?_
  refine k_putF F hM k0 (wd_at hlen) rfl tyX4 tyX4_ok nmX4 0 (by decide) (by decide +kernel) (by decide +kernel) rfl hmn rfl (ty := .object "RoundBounds$Net") (v := .ref h1) (by decide +kernel) rfl rfl (Nat.le_of_ble_eq_true rfl) (ws2 := wd ws k0 (h0, .inr (5, [.ref h1, .null, .null, .int 0, .null, .null, .int 0])) ([])) (wd_set hlen) dX4_init_6 (fun H locs hM => ?_)
  refine lv_aload_n hx hb dX4_init_9 rfl (lv_at hl 0 rfl) ?_
  refine lv_aload_n hx hb dX4_init_10 rfl (lv_at hl 1 rfl) ?_
  refine k_getN F hM k1 (wd_ne hne hk1) rfl 0 (by decide) (by decide +kernel) (by decide +kernel) (v := .int (nI nn)) rfl dX4_init_11 ?_
  refine lv_aload_n hx hb dX4_init_14 rfl (lv_at hl 1 rfl) ?_
  refine k_getN F hM k1 (wd_ne hne hk1) rfl 0 (by decide) (by decide +kernel) (by decide +kernel) (v := .int (nI nn)) rfl dX4_init_15 ?_
  refine k_mna F hao hM (n := nn) (by decide +kernel) (by decide +kernel) h12 (by show 0 + (1 + nn) ≤ 16; omega) (by show 0 + (nn + nn * nn) ≤ 2243; omega) dX4_init_18 (fun q18 r18 H hM => ?_)
  have hM := kk_app hM
  refine k_putF F hM k0 (wd_at hlen) rfl tyX4 tyX4_ok nmX4 1 (by decide) (by decide +kernel) (by decide +kernel) rfl hmn rfl (ty := .array (.array .int)) (v := .ref q18) (by decide +kernel) rfl rfl (Nat.le_of_ble_eq_true rfl) (ws2 := wd ws k0 (h0, .inr (5, [.ref h1, .ref q18, .null, .int 0, .null, .null, .int 0])) (((q18, kout y nn r18) :: krow y nn r18 (fun _ _ => 0)))) (wd_set hlen) dX4_init_22 (fun H locs hM => ?_)
  refine lv_aload_n hx hb dX4_init_25 rfl (lv_at hl 0 rfl) ?_
  refine lv_aload_n hx hb dX4_init_26 rfl (lv_at hl 1 rfl) ?_
  refine k_getN F hM k1 (wd_ne hne hk1) rfl 0 (by decide) (by decide +kernel) (by decide +kernel) (v := .int (nI nn)) rfl dX4_init_27 ?_
  refine k_newa F hM (ty := .int) rfl (by decide +kernel) 0 rfl (fun _ h => h) (n := nI (nn)) (N' := (nn)) (a0 := ((nn), .inl fun _ => 0)) (fun _ => rfl) (nI_nneg (by omega)) (nI_c (by omega)) (by show (nn) * 4 ≤ 536870912; omega) (by show 0 + 1 + nn + 1 ≤ 16; omega) (by show 0 + nn + nn * nn + (nn) ≤ 2243; omega) dX4_init_30 (fun q30 H hM => ?_)
  have hM := kk_app hM
  refine k_putF F hM k0 (wd_at hlen) rfl tyX4 tyX4_ok nmX4 2 (by decide) (by decide +kernel) (by decide +kernel) rfl hmn rfl (ty := .array .int) (v := .ref q30) (by decide +kernel) rfl rfl (Nat.le_of_ble_eq_true rfl) (ws2 := wd ws k0 (h0, .inr (5, [.ref h1, .ref q18, .ref q30, .int 0, .null, .null, .int 0])) (((q18, kout y nn r18) :: krow y nn r18 (fun _ _ => 0)) ++ [(q30, .inl (y 0, (nn), .inl fun _ => 0))])) (wd_set hlen) dX4_init_32 (fun H locs hM => ?_)
  refine lv_aload_n hx hb dX4_init_35 rfl (lv_at hl 0 rfl) ?_
  refine lv_iconst (v := 0) hx hb dX4_init_36 (by decide) ?_
  refine k_put F hM k0 (wd_at hlen) rfl tyX4 tyX4_ok nmX4 3 (by decide) (by decide +kernel) (by decide +kernel) rfl (ty := .int) (v := .int 0) (by decide +kernel) rfl rfl (Nat.le_of_ble_eq_true rfl) (ws2 := wd ws k0 (h0, .inr (5, [.ref h1, .ref q18, .ref q30, .int 0, .null, .null, .int 0])) (((q18, kout y nn r18) :: krow y nn r18 (fun _ _ => 0)) ++ [(q30, .inl (y 0, (nn), .inl fun _ => 0))])) (wd_set hlen) dX4_init_37 (fun H locs hM => ?_)
  refine lv_aload_n hx hb dX4_init_40 rfl (lv_at hl 0 rfl) ?_
  refine lv_iconst (v := 1) hx hb dX4_init_41 (by decide) ?_
  refine lv_aload_n hx hb dX4_init_42 rfl (lv_at hl 1 rfl) ?_
  refine k_getN F hM k1 (wd_ne hne hk1) rfl 0 (by decide) (by decide +kernel) (by decide +kernel) (v := .int (nI nn)) rfl dX4_init_43 ?_
  refine lv_iconst (v := 1) hx hb dX4_init_46 (by decide) ?_
  refine lv_isub hx hb dX4_init_47 ?_
  refine m_topi (v := nI (nn - 1)) (pk_sub (a := nn) (b := 1) (by omega)).symm ?_
  refine lv_ishl hx hb dX4_init_48 ?_
  refine m_topi (v := nI (2 ^ (nn - 1))) (b_pow (show nn - 1 < 31 by omega)).symm ?_
  refine k_newa F hM (ty := .int) rfl (by decide +kernel) 0 rfl (fun _ h => h) (n := nI (2 ^ (nn - 1))) (N' := (2 ^ (nn - 1))) (a0 := ((2 ^ (nn - 1)), .inl fun _ => 0)) (fun _ => rfl) (nI_nneg (by omega)) (nI_c (by omega)) (by show (2 ^ (nn - 1)) * 4 ≤ 536870912; omega) (by show 0 + 1 + nn + 1 + 1 ≤ 16; omega) (by show 0 + nn + nn * nn + (nn) + (2 ^ (nn - 1)) ≤ 2243; omega) dX4_init_49 (fun q49 H hM => ?_)
  have hM := kk_app hM
  refine k_putF F hM k0 (wd_at hlen) rfl tyX4 tyX4_ok nmX4 4 (by decide) (by decide +kernel) (by decide +kernel) rfl hmn rfl (ty := .array .int) (v := .ref q49) (by decide +kernel) rfl rfl (Nat.le_of_ble_eq_true rfl) (ws2 := wd ws k0 (h0, .inr (5, [.ref h1, .ref q18, .ref q30, .int 0, .ref q49, .null, .int 0])) (((q18, kout y nn r18) :: krow y nn r18 (fun _ _ => 0)) ++ [(q30, .inl (y 0, (nn), .inl fun _ => 0))] ++ [(q49, .inl (y 0, (2 ^ (nn - 1)), .inl fun _ => 0))])) (wd_set hlen) dX4_init_51 (fun H locs hM => ?_)
  refine lv_aload_n hx hb dX4_init_54 rfl (lv_at hl 0 rfl) ?_
  refine lv_aload_n hx hb dX4_init_55 rfl (lv_at hl 1 rfl) ?_
  refine k_getN F hM k1 (wd_ne hne hk1) rfl 0 (by decide) (by decide +kernel) (by decide +kernel) (v := .int (nI nn)) rfl dX4_init_56 ?_
  refine k_newa F hM (ty := .int) rfl (by decide +kernel) 0 rfl (fun _ h => h) (n := nI (nn)) (N' := (nn)) (a0 := ((nn), .inl fun _ => 0)) (fun _ => rfl) (nI_nneg (by omega)) (nI_c (by omega)) (by show (nn) * 4 ≤ 536870912; omega) (by show 0 + 1 + nn + 1 + 1 + 1 ≤ 16; omega) (by show 0 + nn + nn * nn + (nn) + (2 ^ (nn - 1)) + (nn) ≤ 2243; omega) dX4_init_59 (fun q59 H hM => ?_)
  have hM := kk_app hM
  refine k_putF F hM k0 (wd_at hlen) rfl tyX4 tyX4_ok nmX4 5 (by decide) (by decide +kernel) (by decide +kernel) rfl hmn rfl (ty := .array .int) (v := .ref q59) (by decide +kernel) rfl rfl (Nat.le_of_ble_eq_true rfl) (ws2 := wd ws k0 (h0, .inr (5, [.ref h1, .ref q18, .ref q30, .int 0, .ref q49, .ref q59, .int 0])) (((q18, kout y nn r18) :: krow y nn r18 (fun _ _ => 0)) ++ [(q30, .inl (y 0, (nn), .inl fun _ => 0))] ++ [(q49, .inl (y 0, (2 ^ (nn - 1)), .inl fun _ => 0))] ++ [(q59, .inl (y 0, (nn), .inl fun _ => 0))])) (wd_set hlen) dX4_init_61 (fun H locs hM => ?_)
  refine lv_aload_n hx hb dX4_init_64 rfl (lv_at hl 0 rfl) ?_
  refine lv_iconst (v := 0) hx hb dX4_init_65 (by decide) ?_
  refine k_put F hM k0 (wd_at hlen) rfl tyX4 tyX4_ok nmX4 6 (by decide) (by decide +kernel) (by decide +kernel) rfl (ty := .int) (v := .int 0) (by decide +kernel) rfl rfl (Nat.le_of_ble_eq_true rfl) (ws2 := wd ws k0 (h0, .inr (5, [.ref h1, .ref q18, .ref q30, .int 0, .ref q49, .ref q59, .int 0])) (((q18, kout y nn r18) :: krow y nn r18 (fun _ _ => 0)) ++ [(q30, .inl (y 0, (nn), .inl fun _ => 0))] ++ [(q49, .inl (y 0, (2 ^ (nn - 1)), .inl fun _ => 0))] ++ [(q59, .inl (y 0, (nn), .inl fun _ => 0))])) (wd_set hlen) dX4_init_66 (fun H locs hM => ?_)
  refine W.widen (k := 16) (n := 2243) (by omega) (by omega) ?_
  exact k_vret F hM hr (q18, r18, q30, q49, q59) rfl dX4_init_69
set_option maxHeartbeats 4000000 in
set_option maxRecDepth 100000 in
theorem c_X5_init (l : Launch) (D : va_G) (y : Nat → ClassId) (ws : va_W) (sz : Nat) {nn h0 h1 k0 k1 : Nat} {f1 f2 : Value} (h3 : 3 ≤ nn) (h12 : nn ≤ 12) (hne : k0 ≠ k1) (hk0 : ws[k0]? = some (h0, .inr (6, [.null, .null, .null, .null, .null]))) (hk1 : ws[k1]? = some (h1, .inr (4, [.int (nI nn), f1, f2]))) : Met l yX5_init wsX5_init ({ frames := 1, cells := 16, slots := 195, locals := 20 } : Room) (kPc [.ref h0, .ref h1] D y ws sz) (kQ D y (va_A ws sz) (fun u : Nat × (Nat → Nat) × Nat × Nat × Nat => wd ws k0 (h0, .inr (6, [.ref h1, .ref u.1, .ref u.2.2.1, .ref u.2.2.2.1, .ref u.2.2.2.2])) (((u.1, kout y nn u.2.1) :: krow y nn u.2.1 (fun _ _ => 0)) ++ [(u.2.2.1, .inl (y 0, (nn), .inl fun _ => 0))] ++ [(u.2.2.2.1, .inl (y 1, (nn), .inr (.inl fun _ => 0)))] ++ [(u.2.2.2.2, .inl (y 0, (nn), .inl fun _ => 0))]))) 16 195 (va_A ws sz) := by
  refine Met.ofW (cc := cX5_init) (maxL := 2) (ret := none) (by decide) rfl ?_
  intro p e s m args below meth c s₁ Bd hml hv
  obtain ⟨rfl, hsz, hP, hK, hD0, hN, hao⟩ := hv
  have hr := Bd.returns
  subst hsz
  have hmn : meth.name = "<init>" := (name_of_methodNamed Bd.named Bd.method).1
  have F : Fx p s m ([.ref h0, .ref h1] : List Value).toArray meth c cX5_init 2 wsX5_init RX5 D y (va_A ws s.heap.size) := ⟨⟨Bd.exec, Bd.bytes, hml, findClass_of_methodNamed Bd.named, atoms_spec (ws := wsX5_init) Bd.pre⟩, hK, hN, fun q h => Or.inr h, Bd.notSynchronized⟩
  have hM := k_start (s := s) rfl hP hD0
  have hlen := wd_lt hk0
  have hnn : nn * nn ≤ 144 := Nat.mul_le_mul h12 h12
  have hpw : 2 ^ (nn - 1) ≤ 2048 := Nat.pow_le_pow_right (n := 2) (i := nn - 1) (j := 11) (by decide) (by omega)
  have hx := F.1.1
  have hb := F.1.2.1
  have hl := lv_entry ([.ref h0, .ref h1]) (n := 2) (Nat.le_of_ble_eq_true rfl)
  rw [lg_entry_eq]
  generalize (lg_sl ([.ref h0, .ref h1]) ++ List.replicate (2 - (lg_sl ([.ref h0, .ref h1])).length) Slot.unset).toArray = ls at hl ⊢
  have hl : lv_has ls 2 [(0, .ref h0), (1, .ref h1)] := hl
  show W p l e ({ frames := 1, cells := 16, slots := 195, locals := 20 } : Room) s m _ below meth c s.heap [] 0 0 _ _
  have hM := kk_0 hk0 hM
  refine lv_aload_n hx hb dX5_init_0 rfl (lv_at hl 0 rfl) ?_
  refine W.objInit hx hb F.1.2.2.2.1 (F.1.2.2.2.2 (.methodLink RX5 3 objectInit) (by decide +kernel)) (F.1.2.2.2.2 (.instanceMethod objectInit) (by decide +kernel)) (F.1.2.2.2.2 (.code objectInit ⟨#[0xb1]⟩ 1 none) (by decide +kernel)) rfl (by rw [F.1.2.2.1]; exact hl.1) rfl dX5_init_1 (Nat.le_of_ble_eq_true rfl) (Nat.le_of_ble_eq_true rfl) ?_
  refine W.eq (g2 := F0 m 4 ls []) rfl ?_
  refine lv_aload_n hx hb dX5_init_4 rfl (lv_at hl 0 rfl) ?_
  refine lv_aload_n hx hb dX5_init_5 rfl (lv_at hl 1 rfl) ?_
  refine k_putF F hM k0 (wd_at hlen) rfl tyX5 tyX5_ok nmX5 0 (by decide) (by decide +kernel) (by decide +kernel) rfl hmn rfl (ty := .object "RoundBounds$Net") (v := .ref h1) (by decide +kernel) rfl rfl (Nat.le_of_ble_eq_true rfl) (ws2 := wd ws k0 (h0, .inr (6, [.ref h1, .null, .null, .null, .null])) ([])) (wd_set hlen) dX5_init_6 (fun H locs hM => ?_)
  refine lv_aload_n hx hb dX5_init_9 rfl (lv_at hl 0 rfl) ?_
  refine lv_aload_n hx hb dX5_init_10 rfl (lv_at hl 1 rfl) ?_
  refine k_getN F hM k1 (wd_ne hne hk1) rfl 0 (by decide) (by decide +kernel) (by decide +kernel) (v := .int (nI nn)) rfl dX5_init_11 ?_
  refine lv_aload_n hx hb dX5_init_14 rfl (lv_at hl 1 rfl) ?_
  refine k_getN F hM k1 (wd_ne hne hk1) rfl 0 (by decide) (by decide +kernel) (by decide +kernel) (v := .int (nI nn)) rfl dX5_init_15 ?_
  refine k_mna F hao hM (n := nn) (by decide +kernel) (by decide +kernel) h12 (by show 0 + (1 + nn) ≤ 16; omega) (by show 0 + (nn + nn * nn) ≤ 195; omega) dX5_init_18 (fun q18 r18 H hM => ?_)
  have hM := kk_app hM
  refine k_putF F hM k0 (wd_at hlen) rfl tyX5 tyX5_ok nmX5 1 (by decide) (by decide +kernel) (by decide +kernel) rfl hmn rfl (ty := .array (.array .int)) (v := .ref q18) (by decide +kernel) rfl rfl (Nat.le_of_ble_eq_true rfl) (ws2 := wd ws k0 (h0, .inr (6, [.ref h1, .ref q18, .null, .null, .null])) (((q18, kout y nn r18) :: krow y nn r18 (fun _ _ => 0)))) (wd_set hlen) dX5_init_22 (fun H locs hM => ?_)
  refine lv_aload_n hx hb dX5_init_25 rfl (lv_at hl 0 rfl) ?_
  refine lv_aload_n hx hb dX5_init_26 rfl (lv_at hl 1 rfl) ?_
  refine k_getN F hM k1 (wd_ne hne hk1) rfl 0 (by decide) (by decide +kernel) (by decide +kernel) (v := .int (nI nn)) rfl dX5_init_27 ?_
  refine k_newa F hM (ty := .int) rfl (by decide +kernel) 0 rfl (fun _ h => h) (n := nI (nn)) (N' := (nn)) (a0 := ((nn), .inl fun _ => 0)) (fun _ => rfl) (nI_nneg (by omega)) (nI_c (by omega)) (by show (nn) * 4 ≤ 536870912; omega) (by show 0 + 1 + nn + 1 ≤ 16; omega) (by show 0 + nn + nn * nn + (nn) ≤ 195; omega) dX5_init_30 (fun q30 H hM => ?_)
  have hM := kk_app hM
  refine k_putF F hM k0 (wd_at hlen) rfl tyX5 tyX5_ok nmX5 2 (by decide) (by decide +kernel) (by decide +kernel) rfl hmn rfl (ty := .array .int) (v := .ref q30) (by decide +kernel) rfl rfl (Nat.le_of_ble_eq_true rfl) (ws2 := wd ws k0 (h0, .inr (6, [.ref h1, .ref q18, .ref q30, .null, .null])) (((q18, kout y nn r18) :: krow y nn r18 (fun _ _ => 0)) ++ [(q30, .inl (y 0, (nn), .inl fun _ => 0))])) (wd_set hlen) dX5_init_32 (fun H locs hM => ?_)
  refine lv_aload_n hx hb dX5_init_35 rfl (lv_at hl 0 rfl) ?_
  refine lv_aload_n hx hb dX5_init_36 rfl (lv_at hl 1 rfl) ?_
  refine k_getN F hM k1 (wd_ne hne hk1) rfl 0 (by decide) (by decide +kernel) (by decide +kernel) (v := .int (nI nn)) rfl dX5_init_37 ?_
  refine k_newa F hM (ty := .long) rfl (by decide +kernel) 1 rfl (fun _ h => h) (n := nI (nn)) (N' := (nn)) (a0 := ((nn), .inr (.inl fun _ => 0))) (fun _ => rfl) (nI_nneg (by omega)) (nI_c (by omega)) (by show (nn) * 8 ≤ 536870912; omega) (by show 0 + 1 + nn + 1 + 1 ≤ 16; omega) (by show 0 + nn + nn * nn + (nn) + (nn) ≤ 195; omega) dX5_init_40 (fun q40 H hM => ?_)
  have hM := kk_app hM
  refine k_putF F hM k0 (wd_at hlen) rfl tyX5 tyX5_ok nmX5 3 (by decide) (by decide +kernel) (by decide +kernel) rfl hmn rfl (ty := .array .long) (v := .ref q40) (by decide +kernel) rfl rfl (Nat.le_of_ble_eq_true rfl) (ws2 := wd ws k0 (h0, .inr (6, [.ref h1, .ref q18, .ref q30, .ref q40, .null])) (((q18, kout y nn r18) :: krow y nn r18 (fun _ _ => 0)) ++ [(q30, .inl (y 0, (nn), .inl fun _ => 0))] ++ [(q40, .inl (y 1, (nn), .inr (.inl fun _ => 0)))])) (wd_set hlen) dX5_init_42 (fun H locs hM => ?_)
  refine lv_aload_n hx hb dX5_init_45 rfl (lv_at hl 0 rfl) ?_
  refine lv_aload_n hx hb dX5_init_46 rfl (lv_at hl 1 rfl) ?_
  refine k_getN F hM k1 (wd_ne hne hk1) rfl 0 (by decide) (by decide +kernel) (by decide +kernel) (v := .int (nI nn)) rfl dX5_init_47 ?_
  refine k_newa F hM (ty := .int) rfl (by decide +kernel) 0 rfl (fun _ h => h) (n := nI (nn)) (N' := (nn)) (a0 := ((nn), .inl fun _ => 0)) (fun _ => rfl) (nI_nneg (by omega)) (nI_c (by omega)) (by show (nn) * 4 ≤ 536870912; omega) (by show 0 + 1 + nn + 1 + 1 + 1 ≤ 16; omega) (by show 0 + nn + nn * nn + (nn) + (nn) + (nn) ≤ 195; omega) dX5_init_50 (fun q50 H hM => ?_)
  have hM := kk_app hM
  refine k_putF F hM k0 (wd_at hlen) rfl tyX5 tyX5_ok nmX5 4 (by decide) (by decide +kernel) (by decide +kernel) rfl hmn rfl (ty := .array .int) (v := .ref q50) (by decide +kernel) rfl rfl (Nat.le_of_ble_eq_true rfl) (ws2 := wd ws k0 (h0, .inr (6, [.ref h1, .ref q18, .ref q30, .ref q40, .ref q50])) (((q18, kout y nn r18) :: krow y nn r18 (fun _ _ => 0)) ++ [(q30, .inl (y 0, (nn), .inl fun _ => 0))] ++ [(q40, .inl (y 1, (nn), .inr (.inl fun _ => 0)))] ++ [(q50, .inl (y 0, (nn), .inl fun _ => 0))])) (wd_set hlen) dX5_init_52 (fun H locs hM => ?_)
  refine W.widen (k := 16) (n := 195) (by omega) (by omega) ?_
  exact k_vret F hM hr (q18, r18, q30, q40, q50) rfl dX5_init_55
