/-! ===== Net's constructor ===== -/
theorem kr_len {y : Nat → ClassId} {n : Nat} {r : Nat → Nat} {g : Nat → Nat → Int32} : (krow y n r g).length = n := by
  unfold krow
  rw [List.length_map, List.length_range]
theorem kr_at {y : Nat → ClassId} {n i : Nat} {r : Nat → Nat} {g : Nat → Nat → Int32} (h : i < n) : (krow y n r g)[i]? = some (r i, .inl (y 0, n, .inl (g i))) := by
  unfold krow
  rw [List.getElem?_map, List.getElem?_range h]
  rfl
theorem kr_congr {y : Nat → ClassId} {n : Nat} {r : Nat → Nat} {g g' : Nat → Nat → Int32} (h : ∀ i, i < n → g i = g' i) : krow y n r g = krow y n r g' := by
  unfold krow
  exact List.map_congr_left (fun i hi => by rw [h i (List.mem_range.mp hi)])
theorem kr_set {y : Nat → ClassId} {n i : Nat} {r : Nat → Nat} {g : Nat → Nat → Int32} {f : Nat → Int32} (h : i < n) : (krow y n r g).set i (r i, .inl (y 0, n, .inl f)) = krow y n r (up1 g i f) := by
  refine List.ext_getElem? (fun j => ?_)
  rw [List.getElem?_set]
  by_cases c : i = j
  · subst c
    rw [if_pos rfl, if_pos (by rw [kr_len]; exact h), kr_at h, up1_s]
  · rw [if_neg c]
    by_cases hj : j < n
    · rw [kr_at hj, kr_at hj, up1_n (fun e => c e.symm)]
    · rw [List.getElem?_eq_none (by rw [kr_len]; omega), List.getElem?_eq_none (by rw [kr_len]; omega)]
theorem wd_new {ws : va_W} {k0 j : Nat} {e : Nat × va_E} {Z : va_W} : (wd ws k0 e Z)[ws.length + j]? = Z[j]? := by
  unfold wd
  rw [List.getElem?_append_right (by rw [List.length_set]; omega), List.length_set, Nat.add_sub_cancel_left]
theorem wd_nset {ws : va_W} {k0 j : Nat} {e x : Nat × va_E} {Z : va_W} : (wd ws k0 e Z).set (ws.length + j) x = wd ws k0 e (Z.set j x) := by
  unfold wd
  rw [List.set_append_right _ _ (by rw [List.length_set]; omega), List.length_set, Nat.add_sub_cancel_left]
/-- both grids of the net -/
def nzz (y : Nat → ClassId) (n q1 : Nat) (r1 : Nat → Nat) (g1 : Nat → Nat → Int32) (q2 : Nat) (r2 : Nat → Nat) (g2 : Nat → Nat → Int32) : va_W := ((q1, kout y n r1) :: krow y n r1 g1) ++ ((q2, kout y n r2) :: krow y n r2 g2)
section NZ
variable {y : Nat → ClassId} {n q1 q2 i : Nat} {r1 r2 : Nat → Nat} {g1 g2 : Nat → Nat → Int32} {f : Nat → Int32}
theorem nz_0 : (nzz y n q1 r1 g1 q2 r2 g2)[0]? = some (q1, kout y n r1) := rfl
theorem nz_r1 (h : i < n) : (nzz y n q1 r1 g1 q2 r2 g2)[i + 1]? = some (r1 i, .inl (y 0, n, .inl (g1 i))) := by
  unfold nzz
  rw [List.cons_append, List.getElem?_cons_succ, List.getElem?_append_left (by rw [kr_len]; exact h), kr_at h]
theorem nz_q2 : (nzz y n q1 r1 g1 q2 r2 g2)[n + 1]? = some (q2, kout y n r2) := by
  unfold nzz
  rw [List.cons_append, List.getElem?_cons_succ, List.getElem?_append_right (by rw [kr_len]; omega), kr_len, Nat.sub_self]
  rfl
theorem nz_r2 (h : i < n) : (nzz y n q1 r1 g1 q2 r2 g2)[n + 2 + i]? = some (r2 i, .inl (y 0, n, .inl (g2 i))) := by
  unfold nzz
  rw [List.cons_append, show n + 2 + i = (n + 1 + i) + 1 by omega, List.getElem?_cons_succ, List.getElem?_append_right (by rw [kr_len]; omega), kr_len, show n + 1 + i - n = i + 1 by omega, List.getElem?_cons_succ, kr_at h]
theorem nz_s1 (h : i < n) : (nzz y n q1 r1 g1 q2 r2 g2).set (i + 1) (r1 i, .inl (y 0, n, .inl f)) = nzz y n q1 r1 (up1 g1 i f) q2 r2 g2 := by
  unfold nzz
  rw [List.cons_append, List.set_cons_succ, List.set_append_left _ _ (by rw [kr_len]; exact h), kr_set h, ← List.cons_append]
theorem nz_s2 (h : i < n) : (nzz y n q1 r1 g1 q2 r2 g2).set (n + 2 + i) (r2 i, .inl (y 0, n, .inl f)) = nzz y n q1 r1 g1 q2 r2 (up1 g2 i f) := by
  unfold nzz
  rw [List.cons_append, show n + 2 + i = (n + 1 + i) + 1 by omega, List.set_cons_succ, List.set_append_right _ _ (by rw [kr_len]; omega), kr_len, show n + 1 + i - n = i + 1 by omega, List.set_cons_succ, kr_set h, ← List.cons_append]
end NZ
/-- t rows are filled -/
def gt_ (n t i : Nat) : Nat → Int32 := if i < t then fil n (-1) (fun _ => 0) else fun _ => 0
theorem gt_s (n t : Nat) : up1 (gt_ n t) t (fil n (-1) (fun _ => 0)) = gt_ n (t + 1) := by
  funext i
  unfold up1 gt_
  by_cases c : i = t
  · rw [if_pos c, if_pos (by omega)]
  · rw [if_neg c]
    by_cases c2 : i < t
    · rw [if_pos c2, if_pos (by omega)]
    · rw [if_neg c2, if_neg (by omega)]
theorem gt_0 (n : Nat) : gt_ n 0 = fun _ _ => 0 := by
  funext i
  unfold gt_
  rw [if_neg (Nat.not_lt_zero i)]
abbrev net_W (y : Nat → ClassId) (ws : va_W) (k0 h0 nn : Nat) (u : Nat × (Nat → Nat) × Nat × (Nat → Nat)) : va_W := wd ws k0 (h0, .inr (4, [.int (nI nn), .ref u.1, .ref u.2.2.1])) (nzz y nn u.1 u.2.1 (gt_ nn nn) u.2.2.1 u.2.2.2 (gt_ nn nn))
set_option maxHeartbeats 4000000 in
set_option maxRecDepth 100000 in
theorem kw_net {p : Program} {l : Launch} {e : Env} {s : State} {m : MethodId} {args : Array Value} {below : List Frame} {meth : Method} {c : Code} {D : va_G} {y : Nat → ClassId} {A0 : Nat → Prop} {ws : va_W} {nn h0 k0 q1 q2 : Nat} {r1 r2 : Nat → Nat} (F : Fx p s m args meth c cX3_init 3 wsX3_init RX3 D y A0) (hao : va_AOA .int s) (hr : meth.sig.returnType = none) (h12 : nn ≤ 12) (hlen : k0 < ws.length) : ∀ (j t : Nat), t + j = nn → ∀ (ls : Array Slot) (H : Heap) (locs : List Loc), KK D A0 s.heap (wd ws k0 (h0, .inr (4, [.int (nI nn), .ref q1, .ref q2])) (nzz y nn q1 r1 (gt_ nn t) q2 r2 (gt_ nn t))) H locs → lv_has ls 3 [(2, .int (nI t)), (0, .ref h0), (1, .int (nI nn))] → W p l e ({ frames := 1, cells := 26, slots := 312, locals := 43 } : Room) s m args below meth c H locs 26 312 (MQ below (kQ D y A0 (net_W y ws k0 h0 nn)) args s 26 312 A0) (F0 m 31 ls []) := by
  have hx := F.1.1
  have hb := F.1.2.1
  intro j
  induction j with
  | zero =>
    intro t ht ls H locs hM hl
    have e : t = nn := by omega
    subst e
    refine lv_iload_n hx hb dX3_init_31 rfl (lv_at hl 0 rfl) ?_
    refine lv_iload_n hx hb dX3_init_32 rfl (lv_at hl 2 rfl) ?_
    refine lv_icmp_ge (tgt := 62) hx hb dX3_init_33 (by decide) (fun c => ?_) (fun c => ?_)
    · exact k_vret F hM hr (q1, r1, q2, r2) rfl dX3_init_62
    · exact absurd (nI_le (Nat.le_refl t) (by omega)) c
  | succ j ih =>
    intro t ht ls H locs hM hl
    have hlt : t < nn := by omega
    refine lv_iload_n hx hb dX3_init_31 rfl (lv_at hl 0 rfl) ?_
    refine lv_iload_n hx hb dX3_init_32 rfl (lv_at hl 2 rfl) ?_
    refine lv_icmp_ge (tgt := 62) hx hb dX3_init_33 (by decide) (fun c => ?_) (fun c => ?_)
    · exact absurd c (nI_ge hlt (by omega))
    have hin : vp_in (nI t) nn := vp_in_nI hlt (by omega)
    have hcl : (nI t).toNatClampNeg = t := nI_clamp (by omega)
    have gz : gt_ nn t t = fun _ => 0 := if_neg (Nat.lt_irrefl t)
    refine lv_aload_n hx hb dX3_init_36 rfl (lv_at hl 1 rfl) ?_
    refine k_get F hM k0 (wd_at hlen) rfl 1 (by decide) (by decide +kernel) (by decide +kernel) (v := .ref q1) rfl dX3_init_37 ?_
    refine lv_iload_n hx hb dX3_init_40 rfl (lv_at hl 0 rfl) ?_
    refine k_aald (k := ws.length + 0) (r := r1) F hM (wd_new.trans nz_0) hin dX3_init_41 ?_
    rw [hcl]
    refine lv_iconst (v := -1) hx hb dX3_init_42 (by decide) ?_
    refine k_callS (As := [.ref (r1 t), .int (-1)]) F hao hM (ck_fill l D y _ H.size (k := ws.length + (t + 1)) (n := nn) (f := fun _ => 0) (by omega) (by rw [wd_new, nz_r1 hlt, gz]) (-1)) (va_cwS 2 F.1.2.2.2.2 gX3_init_J7_fill_53178 rfl rfl rfl (by decide +kernel) ⟨Nat.le_of_ble_eq_true rfl, Nat.le_of_ble_eq_true rfl⟩) rfl hl.1 (Nat.le_of_ble_eq_true rfl) dX3_init_43 ⟨Nat.le_refl _, Nat.le_refl _⟩ (fun _ H locs hM => ?_)
    have hM : KK D A0 s.heap (wd ws k0 (h0, .inr (4, [.int (nI nn), .ref q1, .ref q2])) (nzz y nn q1 r1 (gt_ nn (t + 1)) q2 r2 (gt_ nn t))) H locs := by
      rw [wd_nset, nz_s1 hlt, gt_s] at hM
      exact hM
    refine lv_aload_n hx hb dX3_init_46 rfl (lv_at hl 1 rfl) ?_
    refine k_get F hM k0 (wd_at hlen) rfl 2 (by decide) (by decide +kernel) (by decide +kernel) (v := .ref q2) rfl dX3_init_47 ?_
    refine lv_iload_n hx hb dX3_init_50 rfl (lv_at hl 0 rfl) ?_
    refine k_aald (k := ws.length + (nn + 1)) (r := r2) F hM (wd_new.trans nz_q2) hin dX3_init_51 ?_
    rw [hcl]
    refine lv_iconst (v := -1) hx hb dX3_init_52 (by decide) ?_
    refine k_callS (As := [.ref (r2 t), .int (-1)]) F hao hM (ck_fill l D y _ H.size (k := ws.length + (nn + 2 + t)) (n := nn) (f := fun _ => 0) (by omega) (by rw [wd_new, nz_r2 hlt, gz]) (-1)) (va_cwS 2 F.1.2.2.2.2 gX3_init_J7_fill_53178 rfl rfl rfl (by decide +kernel) ⟨Nat.le_of_ble_eq_true rfl, Nat.le_of_ble_eq_true rfl⟩) rfl hl.1 (Nat.le_of_ble_eq_true rfl) dX3_init_53 ⟨Nat.le_refl _, Nat.le_refl _⟩ (fun _ H locs hM => ?_)
    have hM : KK D A0 s.heap (wd ws k0 (h0, .inr (4, [.int (nI nn), .ref q1, .ref q2])) (nzz y nn q1 r1 (gt_ nn (t + 1)) q2 r2 (gt_ nn (t + 1)))) H locs := by
      rw [wd_nset, nz_s2 hlt, gt_s] at hM
      exact hM
    refine lv_iinc (v := nI (t + 1)) (lv' := [(2, .int (nI (t + 1))), (0, .ref h0), (1, .int (nI nn))]) hx hb dX3_init_56 hl (k := 0) rfl (nI_1 t) (by decide) rfl (fun ls hl => ?_)
    refine lv_goto (tgt := 31) hx hb dX3_init_59 (by decide) ?_
    exact ih (t + 1) (by omega) ls H locs hM hl
set_option maxHeartbeats 4000000 in
set_option maxRecDepth 100000 in
theorem c_X3_init (l : Launch) (D : va_G) (y : Nat → ClassId) (ws : va_W) (sz : Nat) {nn h0 k0 : Nat} (h12 : nn ≤ 12) (hk0 : ws[k0]? = some (h0, .inr (4, [.int 0, .null, .null]))) : Met l yX3_init wsX3_init ({ frames := 1, cells := 26, slots := 312, locals := 43 } : Room) (kPc [.ref h0, .int (nI nn)] D y ws sz) (kQ D y (va_A ws sz) (net_W y ws k0 h0 nn)) 26 312 (va_A ws sz) := by
  refine Met.ofW (cc := cX3_init) (maxL := 3) (ret := none) (by decide) rfl ?_
  intro p e s m args below meth c s₁ Bd hml hv
  obtain ⟨rfl, hsz, hP, hK, hD0, hN, hao⟩ := hv
  have hr := Bd.returns
  subst hsz
  have hmn : meth.name = "<init>" := (name_of_methodNamed Bd.named Bd.method).1
  have F : Fx p s m ([.ref h0, .int (nI nn)] : List Value).toArray meth c cX3_init 3 wsX3_init RX3 D y (va_A ws s.heap.size) := ⟨⟨Bd.exec, Bd.bytes, hml, findClass_of_methodNamed Bd.named, atoms_spec (ws := wsX3_init) Bd.pre⟩, hK, hN, fun q h => Or.inr h, Bd.notSynchronized⟩
  have hM := k_start (s := s) rfl hP hD0
  have hlen := wd_lt hk0
  have hnn : nn * nn ≤ 144 := Nat.mul_le_mul h12 h12
  have hx := F.1.1
  have hb := F.1.2.1
  have hl := lv_entry ([.ref h0, .int (nI nn)]) (n := 3) (Nat.le_of_ble_eq_true rfl)
  rw [lg_entry_eq]
  generalize (lg_sl ([.ref h0, .int (nI nn)]) ++ List.replicate (3 - (lg_sl ([.ref h0, .int (nI nn)])).length) Slot.unset).toArray = ls at hl ⊢
  have hl : lv_has ls 3 [(0, .ref h0), (1, .int (nI nn))] := hl
  show W p l e ({ frames := 1, cells := 26, slots := 312, locals := 43 } : Room) s m _ below meth c s.heap [] 0 0 _ _
  have hM := kk_0 hk0 hM
  refine lv_aload_n hx hb dX3_init_0 rfl (lv_at hl 0 rfl) ?_
  refine W.objInit hx hb F.1.2.2.2.1 (F.1.2.2.2.2 (.methodLink RX3 3 objectInit) (by decide +kernel)) (F.1.2.2.2.2 (.instanceMethod objectInit) (by decide +kernel)) (F.1.2.2.2.2 (.code objectInit ⟨#[0xb1]⟩ 1 none) (by decide +kernel)) rfl (by rw [F.1.2.2.1]; exact hl.1) rfl dX3_init_1 (Nat.le_of_ble_eq_true rfl) (Nat.le_of_ble_eq_true rfl) ?_
  refine W.eq (g2 := F0 m 4 ls []) rfl ?_
  refine lv_aload_n hx hb dX3_init_4 rfl (lv_at hl 0 rfl) ?_
  refine lv_iload_n hx hb dX3_init_5 rfl (lv_at hl 1 rfl) ?_
  refine k_putF F hM k0 (wd_at hlen) rfl tyX3 tyX3_ok nmX3 0 (by decide) (by decide +kernel) (by decide +kernel) rfl hmn rfl (ty := .int) (v := .int (nI nn)) (by decide +kernel) rfl rfl (Nat.le_of_ble_eq_true rfl) (ws2 := wd ws k0 (h0, .inr (4, [.int (nI nn), .null, .null])) []) (wd_set hlen) dX3_init_6 (fun H locs hM => ?_)
  refine lv_aload_n hx hb dX3_init_9 rfl (lv_at hl 0 rfl) ?_
  refine lv_iload_n hx hb dX3_init_10 rfl (lv_at hl 1 rfl) ?_
  refine lv_iload_n hx hb dX3_init_11 rfl (lv_at hl 1 rfl) ?_
  refine k_mna F hao hM (n := nn) (by decide +kernel) (by decide +kernel) h12 (by show 0 + (1 + nn) ≤ 26; omega) (by show 0 + (nn + nn * nn) ≤ 312; omega) dX3_init_12 (fun q1 r1 H hM => ?_)
  have hM := kk_app hM
  refine k_putF F hM k0 (wd_at hlen) rfl tyX3 tyX3_ok nmX3 1 (by decide) (by decide +kernel) (by decide +kernel) rfl hmn rfl (ty := .array (.array .int)) (v := .ref q1) (by decide +kernel) rfl rfl (Nat.le_of_ble_eq_true rfl) (ws2 := wd ws k0 (h0, .inr (4, [.int (nI nn), .ref q1, .null])) ((q1, kout y nn r1) :: krow y nn r1 (fun _ _ => 0))) (wd_set hlen) dX3_init_16 (fun H locs hM => ?_)
  refine lv_aload_n hx hb dX3_init_19 rfl (lv_at hl 0 rfl) ?_
  refine lv_iload_n hx hb dX3_init_20 rfl (lv_at hl 1 rfl) ?_
  refine lv_iload_n hx hb dX3_init_21 rfl (lv_at hl 1 rfl) ?_
  refine k_mna F hao hM (n := nn) (by decide +kernel) (by decide +kernel) h12 (by show 0 + 1 + nn + (1 + nn) ≤ 26; omega) (by show 0 + nn + nn * nn + (nn + nn * nn) ≤ 312; omega) dX3_init_22 (fun q2 r2 H hM => ?_)
  have hM := kk_app hM
  refine k_putF F hM k0 (wd_at hlen) rfl tyX3 tyX3_ok nmX3 2 (by decide) (by decide +kernel) (by decide +kernel) rfl hmn rfl (ty := .array (.array .int)) (v := .ref q2) (by decide +kernel) rfl rfl (Nat.le_of_ble_eq_true rfl) (ws2 := wd ws k0 (h0, .inr (4, [.int (nI nn), .ref q1, .ref q2])) (nzz y nn q1 r1 (gt_ nn 0) q2 r2 (gt_ nn 0))) ((wd_set hlen).trans (by rw [gt_0]; rfl)) dX3_init_26 (fun H locs hM => ?_)
  refine lv_iconst (v := 0) hx hb dX3_init_29 (by decide) ?_
  refine lv_istore_n (lv' := [(2, .int 0), (0, .ref h0), (1, .int (nI nn))]) hx hb dX3_init_30 rfl hl (by decide) rfl (fun ls hl => ?_)
  refine W.widen (k := 26) (n := 312) (by omega) (by omega) ?_
  exact kw_net F hao hr h12 hlen nn 0 (Nat.zero_add nn) ls H locs hM hl
