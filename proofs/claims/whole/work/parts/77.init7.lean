/-! ===== the reference's constructor (gen/init7.py) ===== -/
theorem in77 : ∀ w ∈ u_ws RX7 TX7 17, w ∈ wsX7_init := by decide +kernel
abbrev X7W (y : Nat → ClassId) (ws : va_W) (k0 h0 nn : Nat) (u : Nat × Nat × Nat × Nat × Nat × Nat × Nat × Nat × Nat × Nat × Nat × Nat) : va_W := wd ws k0 (h0, .inr (8, [.int 0, .int (nI nn), .ref u.1, .int 0, .int 0, .ref u.2.1, .ref u.2.2.1, .ref u.2.2.2.1, .ref u.2.2.2.2.1, .long 0, .ref u.2.2.2.2.2.1, .ref u.2.2.2.2.2.2.1, .ref u.2.2.2.2.2.2.2.1, .ref u.2.2.2.2.2.2.2.2.1, .ref u.2.2.2.2.2.2.2.2.2.1, .ref u.2.2.2.2.2.2.2.2.2.2.1, .ref u.2.2.2.2.2.2.2.2.2.2.2])) ([(u.1, .inl (y 1, 144, .inr (.inl (fil 144 1000000000000 (fun _ => 0)))))] ++ [(u.2.1, .inl (y 0, 12, .inl fun _ => 0))] ++ [(u.2.2.1, .inl (y 1, 12, .inr (.inl fun _ => 0)))] ++ [(u.2.2.2.1, .inl (y 0, 12, .inl fun _ => 0))] ++ [(u.2.2.2.2.1, .inl (y 2, 12, .inl fun _ => 0))] ++ [(u.2.2.2.2.2.1, .inl (y 1, 4096, .inr (.inl fun _ => 0)))] ++ [(u.2.2.2.2.2.2.1, .inl (y 1, 144, .inr (.inl fun _ => 0)))] ++ [(u.2.2.2.2.2.2.2.1, .inl (y 0, 144, .inl fun _ => 0))] ++ [(u.2.2.2.2.2.2.2.2.1, .inl (y 0, 12, .inl fun _ => 0))] ++ [(u.2.2.2.2.2.2.2.2.2.1, .inl (y 0, 12, .inl fun _ => 0))] ++ [(u.2.2.2.2.2.2.2.2.2.2.1, .inl (y 1, 24, .inr (.inl fun _ => 0)))] ++ [(u.2.2.2.2.2.2.2.2.2.2.2, .inl (y 0, 24, .inl fun _ => 0))])
set_option maxHeartbeats 4000000 in
set_option maxRecDepth 100000 in
theorem kw_ref {p : Program} {l : Launch} {e : Env} {s : State} {m : MethodId} {args : Array Value} {below : List Frame} {meth : Method} {c : Code} {D : va_G} {y : Nat → ClassId} {A0 : Nat → Prop} {ws : va_W} {nn h0 k0 q54 q34 q55 q35 q36 q56 q57 q37 q38 q39 q58 q40 : Nat} {k : Int32} (F : Fx p s m args meth c cX7_init 3 wsX7_init RX7 D y A0) (hr : meth.sig.returnType = none) (hlen : k0 < ws.length) : ∀ (j t : Nat), t + j = 144 → ∀ (ls : Array Slot) (H : Heap) (locs : List Loc), KK D A0 s.heap (wd ws k0 (h0, .inr (8, [.int 0, .int (nI nn), .ref q54, .int 0, .int 0, .ref q34, .ref q55, .ref q35, .ref q36, .long 0, .ref q56, .ref q57, .ref q37, .ref q38, .ref q39, .ref q58, .ref q40])) ([(q54, .inl (y 1, 144, .inr (.inl (fil t 1000000000000 (fun _ => 0)))))] ++ [(q34, .inl (y 0, 12, .inl fun _ => 0))] ++ [(q55, .inl (y 1, 12, .inr (.inl fun _ => 0)))] ++ [(q35, .inl (y 0, 12, .inl fun _ => 0))] ++ [(q36, .inl (y 2, 12, .inl fun _ => 0))] ++ [(q56, .inl (y 1, 4096, .inr (.inl fun _ => 0)))] ++ [(q57, .inl (y 1, 144, .inr (.inl fun _ => 0)))] ++ [(q37, .inl (y 0, 144, .inl fun _ => 0))] ++ [(q38, .inl (y 0, 12, .inl fun _ => 0))] ++ [(q39, .inl (y 0, 12, .inl fun _ => 0))] ++ [(q58, .inl (y 1, 24, .inr (.inl fun _ => 0)))] ++ [(q40, .inl (y 0, 24, .inl fun _ => 0))])) H locs → lv_has ls 3 [(2, .int (nI t)), (0, .ref h0), (1, .int k)] → W p l e ({ frames := 1, cells := 12, slots := 4648, locals := 20 } : Room) s m args below meth c H locs 12 4648 (MQ below (kQ D y A0 (X7W y ws k0 h0 nn)) args s 12 4648 A0) (F0 m 131 ls []) := by
  have hx := F.1.1
  have hb := F.1.2.1
  intro j
  induction j with
  | zero =>
    intro t ht ls H locs hM hl
    have e : t = 144 := by omega
    subst e
    refine lv_iload_n hx hb dX7_init_131 rfl (lv_at hl 0 rfl) ?_
    refine lv_sipush (v := 144) hx hb dX7_init_132 (by decide) ?_
    refine lv_icmp_ge (tgt := 153) hx hb dX7_init_135 (by decide) (fun c => ?_) (fun c => ?_)
    · exact k_vret F hM hr (q54, q34, q55, q35, q36, q56, q57, q37, q38, q39, q58, q40) rfl dX7_init_153
    · exact absurd (show (144 : Int32) ≤ nI 144 by decide) c
  | succ j ih =>
    intro t ht ls H locs hM hl
    have hlt : t < 144 := by omega
    refine lv_iload_n hx hb dX7_init_131 rfl (lv_at hl 0 rfl) ?_
    refine lv_sipush (v := 144) hx hb dX7_init_132 (by decide) ?_
    refine lv_icmp_ge (tgt := 153) hx hb dX7_init_135 (by decide) (fun c => ?_) (fun c => ?_)
    · rw [show (144 : Int32) = nI 144 by decide, nI_lei (by omega) (by omega)] at c
      omega
    have hin : vp_in (nI t) 144 := vp_in_nI hlt (by omega)
    have hcl : (nI t).toNatClampNeg = t := nI_clamp (by omega)
    refine lv_aload_n hx hb dX7_init_138 rfl (lv_at hl 1 rfl) ?_
    refine k_get F hM k0 (wd_at hlen) rfl 2 (by decide) in77 (by decide +kernel) (v := .ref q54) rfl dX7_init_139 ?_
    refine lv_iload_n hx hb dX7_init_142 rfl (lv_at hl 0 rfl) ?_
    refine lv_ldc2 (v := (1000000000000)) hx hb F.1.2.2.2.1 (F.1.2.2.2.2 (.constantLong RX7 52 (1000000000000)) (by decide +kernel)) dX7_init_143 ?_
    refine k_last (k := ws.length + 0) (n := 144) (f := fil t 1000000000000 (fun _ => 0)) F hM (by rw [wd_new]; rfl) hin dX7_init_146 (fun H locs hM => ?_)
    have hM : KK D A0 s.heap (wd ws k0 (h0, .inr (8, [.int 0, .int (nI nn), .ref q54, .int 0, .int 0, .ref q34, .ref q55, .ref q35, .ref q36, .long 0, .ref q56, .ref q57, .ref q37, .ref q38, .ref q39, .ref q58, .ref q40])) ([(q54, .inl (y 1, 144, .inr (.inl (fil (t + 1) 1000000000000 (fun _ => 0)))))] ++ [(q34, .inl (y 0, 12, .inl fun _ => 0))] ++ [(q55, .inl (y 1, 12, .inr (.inl fun _ => 0)))] ++ [(q35, .inl (y 0, 12, .inl fun _ => 0))] ++ [(q36, .inl (y 2, 12, .inl fun _ => 0))] ++ [(q56, .inl (y 1, 4096, .inr (.inl fun _ => 0)))] ++ [(q57, .inl (y 1, 144, .inr (.inl fun _ => 0)))] ++ [(q37, .inl (y 0, 144, .inl fun _ => 0))] ++ [(q38, .inl (y 0, 12, .inl fun _ => 0))] ++ [(q39, .inl (y 0, 12, .inl fun _ => 0))] ++ [(q58, .inl (y 1, 24, .inr (.inl fun _ => 0)))] ++ [(q40, .inl (y 0, 24, .inl fun _ => 0))])) H locs := by
      rw [wd_nset, hcl, fil_sl] at hM
      exact hM
    refine lv_iinc (v := nI (t + 1)) (lv' := [(2, .int (nI (t + 1))), (0, .ref h0), (1, .int k)]) hx hb dX7_init_147 hl (k := 0) rfl (nI_1 t) (by decide) rfl (fun ls hl => ?_)
    refine lv_goto (tgt := 131) hx hb dX7_init_150 (by decide) ?_
    exact ih (t + 1) (by omega) ls H locs hM hl
set_option maxHeartbeats 40000000 in
set_option maxRecDepth 100000 in
theorem c_X7_init (l : Launch) (D : va_G) (y : Nat → ClassId) (ws : va_W) (sz : Nat) {nn h0 k0 : Nat} {k : Int32} (hk0 : ws[k0]? = some (h0, .inr (8, [.int 0, .int 0, .null, .int 0, .int 0, .null, .null, .null, .null, .long 0, .null, .null, .null, .null, .null, .null, .null]))) (hnn : nI nn = (if (3 : Int32) ≤ k then (if k ≤ (12 : Int32) then k else (12 : Int32)) else (3 : Int32))) : Met l yX7_init wsX7_init ({ frames := 1, cells := 12, slots := 4648, locals := 20 } : Room) (kPc [.ref h0, .int k] D y ws sz) (kQ D y (va_A ws sz) (X7W y ws k0 h0 nn)) 12 4648 (va_A ws sz) := by
  refine Met.ofW (cc := cX7_init) (maxL := 3) (ret := none) (by decide) rfl ?_
  intro p e s m args below meth c s₁ Bd hml hv
  obtain ⟨rfl, hsz, hP, hK, hD0, hN, hao⟩ := hv
  have hr := Bd.returns
  subst hsz
  have hmn : meth.name = "<init>" := (name_of_methodNamed Bd.named Bd.method).1
  have F : Fx p s m ([.ref h0, .int k] : List Value).toArray meth c cX7_init 3 wsX7_init RX7 D y (va_A ws s.heap.size) := ⟨⟨Bd.exec, Bd.bytes, hml, findClass_of_methodNamed Bd.named, atoms_spec (ws := wsX7_init) Bd.pre⟩, hK, hN, fun q h => Or.inr h, Bd.notSynchronized⟩
  have hM := k_start (s := s) rfl hP hD0
  have hlen := wd_lt hk0
  have hx := F.1.1
  have hb := F.1.2.1
  have hl := lv_entry ([.ref h0, .int k]) (n := 3) (Nat.le_of_ble_eq_true rfl)
  rw [lg_entry_eq]
  generalize (lg_sl ([.ref h0, .int k]) ++ List.replicate (3 - (lg_sl ([.ref h0, .int k])).length) Slot.unset).toArray = ls at hl ⊢
  have hl : lv_has ls 3 [(0, .ref h0), (1, .int k)] := hl
  show W p l e ({ frames := 1, cells := 12, slots := 4648, locals := 20 } : Room) s m _ below meth c s.heap [] 0 0 _ _
  have hM := kk_0 hk0 hM
  refine lv_aload_n hx hb dX7_init_0 rfl (lv_at hl 0 rfl) ?_
  refine W.objInit hx hb F.1.2.2.2.1 (F.1.2.2.2.2 (.methodLink RX7 1 objectInit) (by decide +kernel)) (F.1.2.2.2.2 (.instanceMethod objectInit) (by decide +kernel)) (F.1.2.2.2.2 (.code objectInit ⟨#[0xb1]⟩ 1 none) (by decide +kernel)) rfl (by rw [F.1.2.2.1]; exact hl.1) rfl dX7_init_1 (Nat.le_of_ble_eq_true rfl) (Nat.le_of_ble_eq_true rfl) ?_
  refine W.eq (g2 := F0 m 4 ls []) rfl ?_
  refine lv_aload_n hx hb dX7_init_4 rfl (lv_at hl 0 rfl) ?_
  refine lv_sipush (v := 144) hx hb dX7_init_5 (by decide) ?_
  refine k_newa F hM (ty := .long) rfl (by decide +kernel) 1 rfl (fun _ h => h) (n := 144) (N' := 144) (a0 := (144, .inr (.inl fun _ => 0))) (fun _ => rfl) (by decide) (by decide) (by decide) (Nat.le_of_ble_eq_true rfl) (Nat.le_of_ble_eq_true rfl) dX7_init_8 (fun q54 H hM => ?_)
  have hM := kk_app hM
  refine k_putF F hM k0 (wd_at hlen) rfl tyX7 tyX7_ok nmX7 2 (by decide) in77 (by decide +kernel) rfl hmn rfl (ty := .array .long) (v := .ref q54) (by decide +kernel) rfl rfl (Nat.le_of_ble_eq_true rfl) (ws2 := wd ws k0 (h0, .inr (8, [.int 0, .int 0, .ref q54, .int 0, .int 0, .null, .null, .null, .null, .long 0, .null, .null, .null, .null, .null, .null, .null])) ([(q54, .inl (y 1, 144, .inr (.inl fun _ => 0)))])) (wd_set hlen) dX7_init_10 (fun H locs hM => ?_)
  refine lv_aload_n hx hb dX7_init_13 rfl (lv_at hl 0 rfl) ?_
  refine lv_bipush (v := 12) hx hb dX7_init_14 (by decide) ?_
  refine k_newa F hM (ty := .int) rfl (by decide +kernel) 0 rfl (fun _ h => h) (n := 12) (N' := 12) (a0 := (12, .inl fun _ => 0)) (fun _ => rfl) (by decide) (by decide) (by decide) (Nat.le_of_ble_eq_true rfl) (Nat.le_of_ble_eq_true rfl) dX7_init_16 (fun q34 H hM => ?_)
  have hM := kk_app hM
  refine k_putF F hM k0 (wd_at hlen) rfl tyX7 tyX7_ok nmX7 5 (by decide) in77 (by decide +kernel) rfl hmn rfl (ty := .array .int) (v := .ref q34) (by decide +kernel) rfl rfl (Nat.le_of_ble_eq_true rfl) (ws2 := wd ws k0 (h0, .inr (8, [.int 0, .int 0, .ref q54, .int 0, .int 0, .ref q34, .null, .null, .null, .long 0, .null, .null, .null, .null, .null, .null, .null])) ([(q54, .inl (y 1, 144, .inr (.inl fun _ => 0)))] ++ [(q34, .inl (y 0, 12, .inl fun _ => 0))])) (wd_set hlen) dX7_init_18 (fun H locs hM => ?_)
  refine lv_aload_n hx hb dX7_init_21 rfl (lv_at hl 0 rfl) ?_
  refine lv_bipush (v := 12) hx hb dX7_init_22 (by decide) ?_
  refine k_newa F hM (ty := .long) rfl (by decide +kernel) 1 rfl (fun _ h => h) (n := 12) (N' := 12) (a0 := (12, .inr (.inl fun _ => 0))) (fun _ => rfl) (by decide) (by decide) (by decide) (Nat.le_of_ble_eq_true rfl) (Nat.le_of_ble_eq_true rfl) dX7_init_24 (fun q55 H hM => ?_)
  have hM := kk_app hM
  refine k_putF F hM k0 (wd_at hlen) rfl tyX7 tyX7_ok nmX7 6 (by decide) in77 (by decide +kernel) rfl hmn rfl (ty := .array .long) (v := .ref q55) (by decide +kernel) rfl rfl (Nat.le_of_ble_eq_true rfl) (ws2 := wd ws k0 (h0, .inr (8, [.int 0, .int 0, .ref q54, .int 0, .int 0, .ref q34, .ref q55, .null, .null, .long 0, .null, .null, .null, .null, .null, .null, .null])) ([(q54, .inl (y 1, 144, .inr (.inl fun _ => 0)))] ++ [(q34, .inl (y 0, 12, .inl fun _ => 0))] ++ [(q55, .inl (y 1, 12, .inr (.inl fun _ => 0)))])) (wd_set hlen) dX7_init_26 (fun H locs hM => ?_)
  refine lv_aload_n hx hb dX7_init_29 rfl (lv_at hl 0 rfl) ?_
  refine lv_bipush (v := 12) hx hb dX7_init_30 (by decide) ?_
  refine k_newa F hM (ty := .int) rfl (by decide +kernel) 0 rfl (fun _ h => h) (n := 12) (N' := 12) (a0 := (12, .inl fun _ => 0)) (fun _ => rfl) (by decide) (by decide) (by decide) (Nat.le_of_ble_eq_true rfl) (Nat.le_of_ble_eq_true rfl) dX7_init_32 (fun q35 H hM => ?_)
  have hM := kk_app hM
  refine k_putF F hM k0 (wd_at hlen) rfl tyX7 tyX7_ok nmX7 7 (by decide) in77 (by decide +kernel) rfl hmn rfl (ty := .array .int) (v := .ref q35) (by decide +kernel) rfl rfl (Nat.le_of_ble_eq_true rfl) (ws2 := wd ws k0 (h0, .inr (8, [.int 0, .int 0, .ref q54, .int 0, .int 0, .ref q34, .ref q55, .ref q35, .null, .long 0, .null, .null, .null, .null, .null, .null, .null])) ([(q54, .inl (y 1, 144, .inr (.inl fun _ => 0)))] ++ [(q34, .inl (y 0, 12, .inl fun _ => 0))] ++ [(q55, .inl (y 1, 12, .inr (.inl fun _ => 0)))] ++ [(q35, .inl (y 0, 12, .inl fun _ => 0))])) (wd_set hlen) dX7_init_34 (fun H locs hM => ?_)
  refine lv_aload_n hx hb dX7_init_37 rfl (lv_at hl 0 rfl) ?_
  refine lv_bipush (v := 12) hx hb dX7_init_38 (by decide) ?_
  refine k_newa F hM (ty := .boolean) rfl (by decide +kernel) 2 rfl (fun _ h => h) (n := 12) (N' := 12) (a0 := (12, .inl fun _ => 0)) (fun _ => rfl) (by decide) (by decide) (by decide) (Nat.le_of_ble_eq_true rfl) (Nat.le_of_ble_eq_true rfl) dX7_init_40 (fun q36 H hM => ?_)
  have hM := kk_app hM
  refine k_putF F hM k0 (wd_at hlen) rfl tyX7 tyX7_ok nmX7 8 (by decide) in77 (by decide +kernel) rfl hmn rfl (ty := .array .boolean) (v := .ref q36) (by decide +kernel) rfl rfl (Nat.le_of_ble_eq_true rfl) (ws2 := wd ws k0 (h0, .inr (8, [.int 0, .int 0, .ref q54, .int 0, .int 0, .ref q34, .ref q55, .ref q35, .ref q36, .long 0, .null, .null, .null, .null, .null, .null, .null])) ([(q54, .inl (y 1, 144, .inr (.inl fun _ => 0)))] ++ [(q34, .inl (y 0, 12, .inl fun _ => 0))] ++ [(q55, .inl (y 1, 12, .inr (.inl fun _ => 0)))] ++ [(q35, .inl (y 0, 12, .inl fun _ => 0))] ++ [(q36, .inl (y 2, 12, .inl fun _ => 0))])) (wd_set hlen) dX7_init_42 (fun H locs hM => ?_)
  refine lv_aload_n hx hb dX7_init_45 rfl (lv_at hl 0 rfl) ?_
  refine lv_sipush (v := 4096) hx hb dX7_init_46 (by decide) ?_
  refine k_newa F hM (ty := .long) rfl (by decide +kernel) 1 rfl (fun _ h => h) (n := 4096) (N' := 4096) (a0 := (4096, .inr (.inl fun _ => 0))) (fun _ => rfl) (by decide) (by decide) (by decide) (Nat.le_of_ble_eq_true rfl) (Nat.le_of_ble_eq_true rfl) dX7_init_49 (fun q56 H hM => ?_)
  have hM := kk_app hM
  refine k_putF F hM k0 (wd_at hlen) rfl tyX7 tyX7_ok nmX7 10 (by decide) in77 (by decide +kernel) rfl hmn rfl (ty := .array .long) (v := .ref q56) (by decide +kernel) rfl rfl (Nat.le_of_ble_eq_true rfl) (ws2 := wd ws k0 (h0, .inr (8, [.int 0, .int 0, .ref q54, .int 0, .int 0, .ref q34, .ref q55, .ref q35, .ref q36, .long 0, .ref q56, .null, .null, .null, .null, .null, .null])) ([(q54, .inl (y 1, 144, .inr (.inl fun _ => 0)))] ++ [(q34, .inl (y 0, 12, .inl fun _ => 0))] ++ [(q55, .inl (y 1, 12, .inr (.inl fun _ => 0)))] ++ [(q35, .inl (y 0, 12, .inl fun _ => 0))] ++ [(q36, .inl (y 2, 12, .inl fun _ => 0))] ++ [(q56, .inl (y 1, 4096, .inr (.inl fun _ => 0)))])) (wd_set hlen) dX7_init_51 (fun H locs hM => ?_)
  refine lv_aload_n hx hb dX7_init_54 rfl (lv_at hl 0 rfl) ?_
  refine lv_sipush (v := 144) hx hb dX7_init_55 (by decide) ?_
  refine k_newa F hM (ty := .long) rfl (by decide +kernel) 1 rfl (fun _ h => h) (n := 144) (N' := 144) (a0 := (144, .inr (.inl fun _ => 0))) (fun _ => rfl) (by decide) (by decide) (by decide) (Nat.le_of_ble_eq_true rfl) (Nat.le_of_ble_eq_true rfl) dX7_init_58 (fun q57 H hM => ?_)
  have hM := kk_app hM
  refine k_putF F hM k0 (wd_at hlen) rfl tyX7 tyX7_ok nmX7 11 (by decide) in77 (by decide +kernel) rfl hmn rfl (ty := .array .long) (v := .ref q57) (by decide +kernel) rfl rfl (Nat.le_of_ble_eq_true rfl) (ws2 := wd ws k0 (h0, .inr (8, [.int 0, .int 0, .ref q54, .int 0, .int 0, .ref q34, .ref q55, .ref q35, .ref q36, .long 0, .ref q56, .ref q57, .null, .null, .null, .null, .null])) ([(q54, .inl (y 1, 144, .inr (.inl fun _ => 0)))] ++ [(q34, .inl (y 0, 12, .inl fun _ => 0))] ++ [(q55, .inl (y 1, 12, .inr (.inl fun _ => 0)))] ++ [(q35, .inl (y 0, 12, .inl fun _ => 0))] ++ [(q36, .inl (y 2, 12, .inl fun _ => 0))] ++ [(q56, .inl (y 1, 4096, .inr (.inl fun _ => 0)))] ++ [(q57, .inl (y 1, 144, .inr (.inl fun _ => 0)))])) (wd_set hlen) dX7_init_60 (fun H locs hM => ?_)
  refine lv_aload_n hx hb dX7_init_63 rfl (lv_at hl 0 rfl) ?_
  refine lv_sipush (v := 144) hx hb dX7_init_64 (by decide) ?_
  refine k_newa F hM (ty := .int) rfl (by decide +kernel) 0 rfl (fun _ h => h) (n := 144) (N' := 144) (a0 := (144, .inl fun _ => 0)) (fun _ => rfl) (by decide) (by decide) (by decide) (Nat.le_of_ble_eq_true rfl) (Nat.le_of_ble_eq_true rfl) dX7_init_67 (fun q37 H hM => ?_)
  have hM := kk_app hM
  refine k_putF F hM k0 (wd_at hlen) rfl tyX7 tyX7_ok nmX7 12 (by decide) in77 (by decide +kernel) rfl hmn rfl (ty := .array .int) (v := .ref q37) (by decide +kernel) rfl rfl (Nat.le_of_ble_eq_true rfl) (ws2 := wd ws k0 (h0, .inr (8, [.int 0, .int 0, .ref q54, .int 0, .int 0, .ref q34, .ref q55, .ref q35, .ref q36, .long 0, .ref q56, .ref q57, .ref q37, .null, .null, .null, .null])) ([(q54, .inl (y 1, 144, .inr (.inl fun _ => 0)))] ++ [(q34, .inl (y 0, 12, .inl fun _ => 0))] ++ [(q55, .inl (y 1, 12, .inr (.inl fun _ => 0)))] ++ [(q35, .inl (y 0, 12, .inl fun _ => 0))] ++ [(q36, .inl (y 2, 12, .inl fun _ => 0))] ++ [(q56, .inl (y 1, 4096, .inr (.inl fun _ => 0)))] ++ [(q57, .inl (y 1, 144, .inr (.inl fun _ => 0)))] ++ [(q37, .inl (y 0, 144, .inl fun _ => 0))])) (wd_set hlen) dX7_init_69 (fun H locs hM => ?_)
  refine lv_aload_n hx hb dX7_init_72 rfl (lv_at hl 0 rfl) ?_
  refine lv_bipush (v := 12) hx hb dX7_init_73 (by decide) ?_
  refine k_newa F hM (ty := .int) rfl (by decide +kernel) 0 rfl (fun _ h => h) (n := 12) (N' := 12) (a0 := (12, .inl fun _ => 0)) (fun _ => rfl) (by decide) (by decide) (by decide) (Nat.le_of_ble_eq_true rfl) (Nat.le_of_ble_eq_true rfl) dX7_init_75 (fun q38 H hM => ?_)
  have hM := kk_app hM
  refine k_putF F hM k0 (wd_at hlen) rfl tyX7 tyX7_ok nmX7 13 (by decide) in77 (by decide +kernel) rfl hmn rfl (ty := .array .int) (v := .ref q38) (by decide +kernel) rfl rfl (Nat.le_of_ble_eq_true rfl) (ws2 := wd ws k0 (h0, .inr (8, [.int 0, .int 0, .ref q54, .int 0, .int 0, .ref q34, .ref q55, .ref q35, .ref q36, .long 0, .ref q56, .ref q57, .ref q37, .ref q38, .null, .null, .null])) ([(q54, .inl (y 1, 144, .inr (.inl fun _ => 0)))] ++ [(q34, .inl (y 0, 12, .inl fun _ => 0))] ++ [(q55, .inl (y 1, 12, .inr (.inl fun _ => 0)))] ++ [(q35, .inl (y 0, 12, .inl fun _ => 0))] ++ [(q36, .inl (y 2, 12, .inl fun _ => 0))] ++ [(q56, .inl (y 1, 4096, .inr (.inl fun _ => 0)))] ++ [(q57, .inl (y 1, 144, .inr (.inl fun _ => 0)))] ++ [(q37, .inl (y 0, 144, .inl fun _ => 0))] ++ [(q38, .inl (y 0, 12, .inl fun _ => 0))])) (wd_set hlen) dX7_init_77 (fun H locs hM => ?_)
  refine lv_aload_n hx hb dX7_init_80 rfl (lv_at hl 0 rfl) ?_
  refine lv_bipush (v := 12) hx hb dX7_init_81 (by decide) ?_
  refine k_newa F hM (ty := .int) rfl (by decide +kernel) 0 rfl (fun _ h => h) (n := 12) (N' := 12) (a0 := (12, .inl fun _ => 0)) (fun _ => rfl) (by decide) (by decide) (by decide) (Nat.le_of_ble_eq_true rfl) (Nat.le_of_ble_eq_true rfl) dX7_init_83 (fun q39 H hM => ?_)
  have hM := kk_app hM
  refine k_putF F hM k0 (wd_at hlen) rfl tyX7 tyX7_ok nmX7 14 (by decide) in77 (by decide +kernel) rfl hmn rfl (ty := .array .int) (v := .ref q39) (by decide +kernel) rfl rfl (Nat.le_of_ble_eq_true rfl) (ws2 := wd ws k0 (h0, .inr (8, [.int 0, .int 0, .ref q54, .int 0, .int 0, .ref q34, .ref q55, .ref q35, .ref q36, .long 0, .ref q56, .ref q57, .ref q37, .ref q38, .ref q39, .null, .null])) ([(q54, .inl (y 1, 144, .inr (.inl fun _ => 0)))] ++ [(q34, .inl (y 0, 12, .inl fun _ => 0))] ++ [(q55, .inl (y 1, 12, .inr (.inl fun _ => 0)))] ++ [(q35, .inl (y 0, 12, .inl fun _ => 0))] ++ [(q36, .inl (y 2, 12, .inl fun _ => 0))] ++ [(q56, .inl (y 1, 4096, .inr (.inl fun _ => 0)))] ++ [(q57, .inl (y 1, 144, .inr (.inl fun _ => 0)))] ++ [(q37, .inl (y 0, 144, .inl fun _ => 0))] ++ [(q38, .inl (y 0, 12, .inl fun _ => 0))] ++ [(q39, .inl (y 0, 12, .inl fun _ => 0))])) (wd_set hlen) dX7_init_85 (fun H locs hM => ?_)
  refine lv_aload_n hx hb dX7_init_88 rfl (lv_at hl 0 rfl) ?_
  refine lv_bipush (v := 24) hx hb dX7_init_89 (by decide) ?_
  refine k_newa F hM (ty := .long) rfl (by decide +kernel) 1 rfl (fun _ h => h) (n := 24) (N' := 24) (a0 := (24, .inr (.inl fun _ => 0))) (fun _ => rfl) (by decide) (by decide) (by decide) (Nat.le_of_ble_eq_true rfl) (Nat.le_of_ble_eq_true rfl) dX7_init_91 (fun q58 H hM => ?_)
  have hM := kk_app hM
  refine k_putF F hM k0 (wd_at hlen) rfl tyX7 tyX7_ok nmX7 15 (by decide) in77 (by decide +kernel) rfl hmn rfl (ty := .array .long) (v := .ref q58) (by decide +kernel) rfl rfl (Nat.le_of_ble_eq_true rfl) (ws2 := wd ws k0 (h0, .inr (8, [.int 0, .int 0, .ref q54, .int 0, .int 0, .ref q34, .ref q55, .ref q35, .ref q36, .long 0, .ref q56, .ref q57, .ref q37, .ref q38, .ref q39, .ref q58, .null])) ([(q54, .inl (y 1, 144, .inr (.inl fun _ => 0)))] ++ [(q34, .inl (y 0, 12, .inl fun _ => 0))] ++ [(q55, .inl (y 1, 12, .inr (.inl fun _ => 0)))] ++ [(q35, .inl (y 0, 12, .inl fun _ => 0))] ++ [(q36, .inl (y 2, 12, .inl fun _ => 0))] ++ [(q56, .inl (y 1, 4096, .inr (.inl fun _ => 0)))] ++ [(q57, .inl (y 1, 144, .inr (.inl fun _ => 0)))] ++ [(q37, .inl (y 0, 144, .inl fun _ => 0))] ++ [(q38, .inl (y 0, 12, .inl fun _ => 0))] ++ [(q39, .inl (y 0, 12, .inl fun _ => 0))] ++ [(q58, .inl (y 1, 24, .inr (.inl fun _ => 0)))])) (wd_set hlen) dX7_init_93 (fun H locs hM => ?_)
  refine lv_aload_n hx hb dX7_init_96 rfl (lv_at hl 0 rfl) ?_
  refine lv_bipush (v := 24) hx hb dX7_init_97 (by decide) ?_
  refine k_newa F hM (ty := .int) rfl (by decide +kernel) 0 rfl (fun _ h => h) (n := 24) (N' := 24) (a0 := (24, .inl fun _ => 0)) (fun _ => rfl) (by decide) (by decide) (by decide) (Nat.le_of_ble_eq_true rfl) (Nat.le_of_ble_eq_true rfl) dX7_init_99 (fun q40 H hM => ?_)
  have hM := kk_app hM
  refine k_putF F hM k0 (wd_at hlen) rfl tyX7 tyX7_ok nmX7 16 (by decide) in77 (by decide +kernel) rfl hmn rfl (ty := .array .int) (v := .ref q40) (by decide +kernel) rfl rfl (Nat.le_of_ble_eq_true rfl) (ws2 := wd ws k0 (h0, .inr (8, [.int 0, .int 0, .ref q54, .int 0, .int 0, .ref q34, .ref q55, .ref q35, .ref q36, .long 0, .ref q56, .ref q57, .ref q37, .ref q38, .ref q39, .ref q58, .ref q40])) ([(q54, .inl (y 1, 144, .inr (.inl fun _ => 0)))] ++ [(q34, .inl (y 0, 12, .inl fun _ => 0))] ++ [(q55, .inl (y 1, 12, .inr (.inl fun _ => 0)))] ++ [(q35, .inl (y 0, 12, .inl fun _ => 0))] ++ [(q36, .inl (y 2, 12, .inl fun _ => 0))] ++ [(q56, .inl (y 1, 4096, .inr (.inl fun _ => 0)))] ++ [(q57, .inl (y 1, 144, .inr (.inl fun _ => 0)))] ++ [(q37, .inl (y 0, 144, .inl fun _ => 0))] ++ [(q38, .inl (y 0, 12, .inl fun _ => 0))] ++ [(q39, .inl (y 0, 12, .inl fun _ => 0))] ++ [(q58, .inl (y 1, 24, .inr (.inl fun _ => 0)))] ++ [(q40, .inl (y 0, 24, .inl fun _ => 0))])) (wd_set hlen) dX7_init_101 (fun H locs hM => ?_)
  refine lv_aload_n hx hb dX7_init_104 rfl (lv_at hl 0 rfl) ?_
  have tail : ∀ (ls : Array Slot), lv_has ls 3 [(0, .ref h0), (1, .int k)] → W p l e ({ frames := 1, cells := 12, slots := 4648, locals := 20 } : Room) s m ([.ref h0, .int k] : List Value).toArray below meth c H locs 12 4648 (MQ below (kQ D y (va_A ws s.heap.size) (X7W y ws k0 h0 nn)) ([.ref h0, .int k] : List Value).toArray s 12 4648 (va_A ws s.heap.size)) (F0 m 126 ls [.int (nI nn), .ref h0]) := by
    intro ls hl
    refine k_putF F hM k0 (wd_at hlen) rfl tyX7 tyX7_ok nmX7 1 (by decide) in77 (by decide +kernel) rfl hmn rfl (ty := .int) (v := .int (nI nn)) (by decide +kernel) rfl rfl (Nat.le_of_ble_eq_true rfl) (ws2 := wd ws k0 (h0, .inr (8, [.int 0, .int (nI nn), .ref q54, .int 0, .int 0, .ref q34, .ref q55, .ref q35, .ref q36, .long 0, .ref q56, .ref q57, .ref q37, .ref q38, .ref q39, .ref q58, .ref q40])) ([(q54, .inl (y 1, 144, .inr (.inl fun _ => 0)))] ++ [(q34, .inl (y 0, 12, .inl fun _ => 0))] ++ [(q55, .inl (y 1, 12, .inr (.inl fun _ => 0)))] ++ [(q35, .inl (y 0, 12, .inl fun _ => 0))] ++ [(q36, .inl (y 2, 12, .inl fun _ => 0))] ++ [(q56, .inl (y 1, 4096, .inr (.inl fun _ => 0)))] ++ [(q57, .inl (y 1, 144, .inr (.inl fun _ => 0)))] ++ [(q37, .inl (y 0, 144, .inl fun _ => 0))] ++ [(q38, .inl (y 0, 12, .inl fun _ => 0))] ++ [(q39, .inl (y 0, 12, .inl fun _ => 0))] ++ [(q58, .inl (y 1, 24, .inr (.inl fun _ => 0)))] ++ [(q40, .inl (y 0, 24, .inl fun _ => 0))])) (wd_set hlen) dX7_init_126 (fun H locs hM => ?_)
    refine lv_iconst (v := 0) hx hb dX7_init_129 (by decide) ?_
    refine lv_istore_n (lv' := [(2, .int 0), (0, .ref h0), (1, .int k)]) hx hb dX7_init_130 rfl hl (by decide) rfl (fun ls hl => ?_)
    exact kw_ref F hr hlen 144 0 (Nat.zero_add 144) ls H locs (by rw [fil_0]; exact hM) hl
  refine W.widen (k := 12) (n := 4648) (Nat.le_of_ble_eq_true rfl) (Nat.le_of_ble_eq_true rfl) ?_
  refine lv_iload_n hx hb dX7_init_105 rfl (lv_at hl 1 rfl) ?_
  refine lv_iconst (v := 3) hx hb dX7_init_106 (by decide) ?_
  refine lv_icmp_ge (tgt := 114) hx hb dX7_init_107 (by decide) (fun c1 => ?_) (fun c1 => ?_)
  · refine lv_iload_n hx hb dX7_init_114 rfl (lv_at hl 1 rfl) ?_
    refine lv_bipush (v := 12) hx hb dX7_init_115 (by decide) ?_
    refine lv_icmp_le (tgt := 125) hx hb dX7_init_117 (by decide) (fun c2 => ?_) (fun c2 => ?_)
    · refine lv_iload_n hx hb dX7_init_125 rfl (lv_at hl 1 rfl) ?_
      refine m_topi (v := nI nn) (by rw [hnn, if_pos c1, if_pos c2]) ?_
      exact tail ls hl
    · refine lv_bipush (v := 12) hx hb dX7_init_120 (by decide) ?_
      refine lv_goto (tgt := 126) hx hb dX7_init_122 (by decide) ?_
      refine m_topi (v := nI nn) (by rw [hnn, if_pos c1, if_neg c2]) ?_
      exact tail ls hl
  · refine lv_iconst (v := 3) hx hb dX7_init_110 (by decide) ?_
    refine lv_goto (tgt := 126) hx hb dX7_init_111 (by decide) ?_
    refine m_topi (v := nI nn) (by rw [hnn, if_neg c1]) ?_
    exact tail ls hl
