/-! ===== the law from its entry ===== -/
theorem nn_ex (k : Int32) : ∃ nn, 3 ≤ nn ∧ nn ≤ 12 ∧ nI nn = (if (3 : Int32) < (if k < (12 : Int32) then k else (12 : Int32)) then (if k < (12 : Int32) then k else (12 : Int32)) else (3 : Int32)) ∧ nI nn = (if (3 : Int32) ≤ k then (if k ≤ (12 : Int32) then k else (12 : Int32)) else (3 : Int32)) := by
  have e3 : (3 : Int32).toInt = 3 := by decide
  have e12 : (12 : Int32).toInt = 12 := by decide
  by_cases c1 : k.toInt < 3
  · refine ⟨3, by omega, by omega, ?_, ?_⟩
    · rw [if_pos (show k < 12 by rw [i32_lt, e12]; omega), if_neg (by rw [i32_lt, e3]; omega)]; decide
    · rw [if_neg (by rw [i32_le, e3]; omega)]; decide
  · by_cases c2 : k.toInt ≤ 12
    · have ek : nI k.toInt.toNat = k := by rw [i32_eq, nI_i (by omega)]; omega
      refine ⟨k.toInt.toNat, by omega, by omega, ?_, ?_⟩
      · rw [ek]
        by_cases c3 : k < 12
        · rw [if_pos c3]
          by_cases c4 : 3 < k
          · rw [if_pos c4]
          · rw [if_neg c4, i32_eq, e3]
            rw [i32_lt, e3] at c4
            omega
        · rw [if_neg c3, if_pos (by decide), i32_eq, e12]
          rw [i32_lt, e12] at c3
          omega
      · rw [ek, if_pos (by rw [i32_le, e3]; omega), if_pos (by rw [i32_le, e12]; omega)]
    · refine ⟨12, by omega, by omega, ?_, ?_⟩
      · rw [if_neg (show ¬ k < 12 by rw [i32_lt, e12]; omega), if_pos (by decide)]; decide
      · rw [if_pos (by rw [i32_le, e3]; omega), if_neg (by rw [i32_le, e12]; omega)]; decide
theorem cPc_blind {b L : Nat} {xs : Nat → Int32} {sz : Nat} : FrameBlind (cPc b L xs sz) := by
  intro a U g mk q
  obtain ⟨q0, q1, q2, q3⟩ := q
  exact ⟨q0, q1, va_X.moved (u := U) (U := U.calling g mk a) (Vm.Alike.refl U.vm) q2, q3⟩
theorem law_cell {p : Program} {l : Launch} {e : Env} {s : State} {m : MethodId} {below : List Frame} {meth : Method} {c : Code} {Q : State → Prop} {b L cells slots pc : Nat} {xs : Nat → Int32} {D : va_G} {y : Nat → ClassId} {H : Heap} {locs : List Loc} {ls : Array Slot} {ws : va_W} {rest : List Value} (F : Fx p s m #[Value.ref b] meth c cL_law 8 wsL_law RL D y (fun q : Nat => s.heap.size ≤ q)) (hX : va_X b L xs s s.heap) (hbl : b < s.heap.size) (hL : L < 2147483648) (hM : KK D (fun q : Nat => s.heap.size ≤ q) s.heap ws H locs) (hl : ls.size = 8) (hw8 : (rest.map fun v => v.category).sum ≤ 8) (hdg : decode cL_law pc = .ok (.invokestatic 21, 3)) (hf : cells ≤ room_1.cells ∧ slots ≤ room_1.slots)
    (kk : ∀ (H1 : Heap) (locs1 : List Loc), KK D (fun q : Nat => s.heap.size ≤ q) s.heap ws H1 locs1 → W p l e room_1 s m #[Value.ref b] below meth c H1 locs1 cells slots Q (F0 m (pc + 3) ls (.int (if 0 < L then xs 0 else 0) :: rest))) : W p l e room_1 s m #[Value.ref b] below meth c H locs cells slots Q (F0 m pc ls (.int 0 :: .ref b :: rest)) := by
  have hbA : ¬ (fun q : Nat => s.heap.size ≤ q) b := Nat.not_le.mpr hbl
  refine va_calli (va_runS (As := [.ref b, .int 0]) (rest := rest) F.1 (c_L_cell l b L xs H.size hL) (va_cwS 2 F.1.2.2.2.2 gL_law_L_cell rfl rfl rfl (by decide +kernel) ⟨Nat.le_of_ble_eq_true rfl, Nat.le_of_ble_eq_true rfl⟩) ⟨cPc_blind, fun U hU hW => ⟨rfl, by rw [hU], by rw [hU]; exact (hX.kept (hM.2.2.2.1 b hbl hbA)).moved hW.alike, by rw [hU]; exact Nat.lt_of_lt_of_le hbl hM.2.2.1⟩⟩ rfl rfl hl rfl (lv_room hw8) hdg hf) hM.2.2 (fun q _ h => Nat.le_trans hM.2.2.1 h) (fun q h => Nat.le_trans hM.2.2.1 h) (fun r u t H1 locs1 ht hvm hw hB hz1 hk1 hS1 => ?_)
  rw [hw]
  exact kk H1 locs1 ⟨hM.1.kept (fun k x hx => hk1 x.1 ((hM.1 k x hx).lt) (Nat.not_le.mpr ((hM.1 k x hx).lt))), hM.2.1, hS1⟩
theorem mst_in : ∀ w ∈ mst, w ∈ lw_tbl := by decide +kernel
theorem xB_in : ∀ w ∈ xB, w ∈ lw_tbl := by decide +kernel
theorem law_xF {s : State} {b : Nat} (hts : ∀ w ∈ lw_tbl, w.before #[Value.ref b] s = true) (hgv : (Jvm.Cond.and given_1 narrow_1).before #[Value.ref b] s = true) : xF (fun q : Nat => s.heap.size ≤ q) s s.heap := by
  have hs := flat_of_before _ hgv
  have hA : ∀ a : Nat, a < s.heap.size → ¬ (fun q : Nat => s.heap.size ≤ q) a := fun a ha => Nat.not_le.mpr ha
  obtain ⟨sa, -, -, -, ea, -⟩ := Cond.exactly_spec (hs (.exactly (.string RX6 78) "java/lang/String") (by decide +kernel))
  obtain ⟨sb, -, -, -, eb, -⟩ := Cond.exactly_spec (hs (.exactly (.string RX6 121) "java/lang/String") (by decide +kernel))
  exact ⟨⟨sa, vk_R.of (hts (.stringRef RX6 78 "no such place") (by decide +kernel)) ea⟩, ⟨sb, vk_R.of (hts (.stringRef RX6 121 "side is 0") (by decide +kernel)) eb⟩, fun w hw => va_Nw.of (xB_tab w hw) (hts w (xB_in w hw)), vx_Zqof (hts _ (by decide +kernel)) (hts _ (by decide +kernel)) (hs _ (by decide +kernel)) hA, vx_Zqof (hts _ (by decide +kernel)) (hts _ (by decide +kernel)) (hs _ (by decide +kernel)) hA⟩
theorem law_K {s : State} {b : Nat} (hts : ∀ w ∈ lw_tbl, w.before #[Value.ref b] s = true) : ∃ (D : va_G) (y : Nat → ClassId), va_K D vwCl (mtys y) s := by
  obtain ⟨c0, i0, k0⟩ := u_known (C := RJx00060) (T := TJx00060) (N := 6) (n := 6) hts inJx00060 (hts (.instantiable RJx00060 6) (by decide +kernel))
  obtain ⟨c1, i1, k1⟩ := u_known (C := RX0) (T := TX0) (N := 7) (n := 7) hts inX0 (hts (.instantiable RX0 7) (by decide +kernel))
  obtain ⟨c2, i2, k2⟩ := u_known (C := RX1) (T := TX1) (N := 4) (n := 4) hts inX1 (hts (.instantiable RX1 4) (by decide +kernel))
  obtain ⟨c3, i3, k3⟩ := u_known (C := RX2) (T := TX2) (N := 6) (n := 6) hts inX2 (hts (.instantiable RX2 6) (by decide +kernel))
  obtain ⟨c4, i4, k4⟩ := u_known (C := RX3) (T := TX3) (N := 3) (n := 3) hts inX3 (hts (.instantiable RX3 3) (by decide +kernel))
  obtain ⟨c5, i5, k5⟩ := u_known (C := RX4) (T := TX4) (N := 7) (n := 7) hts inX4 (hts (.instantiable RX4 7) (by decide +kernel))
  obtain ⟨c6, i6, k6⟩ := u_known (C := RX5) (T := TX5) (N := 5) (n := 5) hts inX5 (hts (.instantiable RX5 5) (by decide +kernel))
  obtain ⟨c7, i7, k7⟩ := u_known (C := RX6) (T := TX6) (N := 8) (n := 8) hts inX6 (hts (.instantiable RX6 8) (by decide +kernel))
  obtain ⟨c8, i8, k8⟩ := u_known (C := RX7) (T := TX7) (N := 17) (n := 17) hts inX7 (hts (.instantiable RX7 17) (by decide +kernel))
  obtain ⟨yi, ki, mi, f1, f2, f3⟩ := Cond.arrayClass_spec (hts (.arrayClass .int) (by decide +kernel))
  obtain ⟨yl, kl, ml, g1, g2, g3⟩ := Cond.arrayClass_spec (hts (.arrayClass .long) (by decide +kernel))
  obtain ⟨yz, kz, mz, z1, z2, z3⟩ := Cond.arrayClass_spec (hts (.arrayClass .boolean) (by decide +kernel))
  obtain ⟨ma, ya, ka, -, -, a2, a3, a1⟩ := ao_spec (t := .int) (s := s) (hts (.arrayOver (.array .int)) (by decide +kernel))
  refine ⟨(fun k => match k with | 0 => c0 | 1 => c1 | 2 => c2 | 3 => c3 | 4 => c4 | 5 => c5 | 6 => c6 | 7 => c7 | _ => c8, fun k => match k with | 0 => i0 | 1 => i1 | 2 => i2 | 3 => i3 | 4 => i4 | 5 => i5 | 6 => i6 | 7 => i7 | _ => i8), fun k => match k with | 0 => yi | 1 => yl | 2 => yz | _ => ya, ?_, ?_⟩
  · intro k q hq
    match k, hq with
    | 0, hq => cases hq; exact k0
    | 1, hq => cases hq; exact k1
    | 2, hq => cases hq; exact k2
    | 3, hq => cases hq; exact k3
    | 4, hq => cases hq; exact k4
    | 5, hq => cases hq; exact k5
    | 6, hq => cases hq; exact k6
    | 7, hq => cases hq; exact k7
    | 8, hq => cases hq; exact k8
    | k + 9, hq => simp [vwCl] at hq
  · intro k q hq
    match k, hq with
    | 0, hq => cases hq; exact ⟨fun _ _ => ⟨fun _ h => (by cases h), ki, f2, mi, f3⟩, f1⟩
    | 1, hq => cases hq; exact ⟨fun _ _ => ⟨fun _ h => (by cases h), kl, g2, ml, g3⟩, g1⟩
    | 2, hq => cases hq; exact ⟨fun _ _ => ⟨fun _ h => (by cases h), kz, z2, mz, z3⟩, z1⟩
    | 3, hq => cases hq; exact ⟨fun _ _ => ⟨fun _ h => (by cases h), ka, a2, ma, a3⟩, a1⟩
    | k + 4, hq => simp [mtys] at hq
theorem wd_last {W0 : va_W} {x e : Nat × va_E} {Z : va_W} : wd (W0 ++ [x]) W0.length e Z = (W0 ++ [e]) ++ Z := by
  unfold wd
  rw [List.set_append_right _ _ (Nat.le_refl _), Nat.sub_self]
  rfl
theorem at_last {W0 : va_W} {x : Nat × va_E} : (W0 ++ [x])[W0.length]? = some x := by
  rw [List.getElem?_append_right (Nat.le_refl _), Nat.sub_self]
  rfl
theorem perm_t {X R T1 T2 T3 : va_W} : ((((X ++ R) ++ T1) ++ T2) ++ T3).Perm ((X ++ (T1 ++ T2 ++ T3)) ++ R) := by
  rw [List.append_assoc (X ++ R), List.append_assoc (X ++ R)]
  exact perm_z
set_option maxHeartbeats 8000000 in
set_option maxRecDepth 100000 in
/-- THE LAW, from its entry -/
theorem whole_start {p : Program} {e : Env} {s : State} {m : MethodId} {below : List Frame} {meth : Method} {c : Code} (l : Launch) (hlt : l.stackTraces = false) {b L : Nat} {xs : Nat → Int32} (hL : L ≤ 2561) (C0 : lw_At p s m meth c b L xs) : W p l e room_1 s m #[Value.ref b] below meth c s.heap [] 0 0 (lw_Z below #[Value.ref b] s) (entryFrame m ([Value.ref b] : List Value).toArray 8) := by
  obtain ⟨hx, hb, hr, hml, hown, hts, hX, hbl, hlocks, hgv⟩ := C0
  have hxF := law_xF hts hgv
  have hao : va_AOA .int s := hts (.arrayOver (.array .int)) (by decide +kernel)
  obtain ⟨D, y, hK⟩ := law_K hts
  have hN : mNst s := fun w hw => va_Nw.of (mst_tab w hw) (hts w (mst_in w hw))
  have F : Fx p s m #[Value.ref b] meth c cL_law 8 wsL_law RL D y (fun q : Nat => s.heap.size ≤ q) := ⟨⟨hx, hb, hml, hown, fun w h => hts w (wsL_law_in w h)⟩, hK, hN, fun q h => h, hlocks⟩
  have LXp : LX p l s m meth c b L xs D y := ⟨F, hX, hbl, hxF, hlt, ⟨hx, hb, hml, hown, hts⟩, hL⟩
  have hM : KK D (fun q : Nat => s.heap.size ≤ q) s.heap [] s.heap [] := ⟨fun k q h => by simp at h, ⟨fun i j p q h => by simp at h, fun k q h => by simp at h⟩, va_S.rf⟩
  have hl := lv_entry ([.ref b]) (n := 8) (Nat.le_of_ble_eq_true rfl)
  rw [lg_entry_eq]
  generalize (lg_sl ([.ref b]) ++ List.replicate (8 - (lg_sl ([.ref b])).length) Slot.unset).toArray = ls at hl ⊢
  have hl : lv_has ls 8 [(0, .ref b)] := hl
  obtain ⟨v0, ev0⟩ : ∃ v0 : Int32, v0 = if 0 < L then xs 0 else 0 := ⟨_, rfl⟩
  obtain ⟨nn, h3, h12, en1, en2⟩ := nn_ex v0
  refine k_new F hM (C := RX6) (T := TX6) (N := 8) (ci := 7) (fs := [.null, .null, .null, .null, .null, .null, .null, .int 0]) inlX6 tyX6 tyX6_ok (by decide +kernel) (by decide +kernel) (by decide +kernel) rfl (fun j hj => by rcases (show j = 0 ∨ j = 1 ∨ j = 2 ∨ j = 3 ∨ j = 4 ∨ j = 5 ∨ j = 6 ∨ j = 7 by omega) with rfl | rfl | rfl | rfl | rfl | rfl | rfl | rfl <;> rfl) (Nat.le_of_ble_eq_true rfl) (Nat.le_of_ble_eq_true rfl) dL_law_0 (fun x0 H hM => ?_)
  have hM : KK D (fun q : Nat => s.heap.size ≤ q) s.heap [(x0, .inr (7, [.null, .null, .null, .null, .null, .null, .null, .int 0]))] H [] := hM
  refine lv_dup hx hb dL_law_3 rfl ?_
  refine lv_aload_n hx hb dL_law_4 rfl (lv_at hl 0 rfl) ?_
  refine lv_iconst (v := 0) hx hb dL_law_5 (by decide) ?_
  refine law_cell F hX hbl (by omega) hM hl.1 (Nat.le_of_ble_eq_true rfl) dL_law_6 ⟨Nat.le_of_ble_eq_true rfl, Nat.le_of_ble_eq_true rfl⟩ (fun H locs hM => ?_)
  rw [← ev0]
  refine k_callI (As := [.int v0]) (rest := [.ref x0]) F hao hM (c_X6_init2 l D y H.size h3 h12 en1) (cwI 1 F.1.2.2.2.2 gL_law_X6_init rfl rfl rfl (F.1.2.2.2.2 (.initialized RX6) (by decide +kernel)) (F.1.2.2.2.2 (.methodLink RL 27 yX6_init) (by decide +kernel)) (F.1.2.2.2.2 (.instanceMethod yX6_init) (by decide +kernel)) rfl (by decide +kernel) ⟨Nat.le_of_ble_eq_true rfl, Nat.le_of_ble_eq_true rfl⟩) rfl hl.1 (Nat.le_of_ble_eq_true rfl) dL_law_9 ⟨Nat.le_of_ble_eq_true rfl, Nat.le_of_ble_eq_true rfl⟩ (fun u H locs hM => ?_)
  refine lv_astore_n (lv' := [(1, .ref x0), (0, .ref b)]) hx hb dL_law_12 rfl hl (by decide) rfl (fun ls hl => ?_)
  refine k_new F hM (C := RX7) (T := TX7) (N := 17) (ci := 8) (fs := [.int 0, .int 0, .null, .int 0, .int 0, .null, .null, .null, .null, .long 0, .null, .null, .null, .null, .null, .null, .null]) inlX7 tyX7 tyX7_ok (by decide +kernel) (by decide +kernel) (by decide +kernel) rfl (fun j hj => by rcases (show j = 0 ∨ j = 1 ∨ j = 2 ∨ j = 3 ∨ j = 4 ∨ j = 5 ∨ j = 6 ∨ j = 7 ∨ j = 8 ∨ j = 9 ∨ j = 10 ∨ j = 11 ∨ j = 12 ∨ j = 13 ∨ j = 14 ∨ j = 15 ∨ j = 16 by omega) with rfl | rfl | rfl | rfl | rfl | rfl | rfl | rfl | rfl | rfl | rfl | rfl | rfl | rfl | rfl | rfl | rfl <;> rfl) (Nat.le_of_ble_eq_true rfl) (Nat.le_of_ble_eq_true rfl) dL_law_13 (fun mm H hM => ?_)
  refine lv_dup hx hb dL_law_16 rfl ?_
  refine lv_aload_n hx hb dL_law_17 rfl (lv_at hl 1 rfl) ?_
  refine lv_iconst (v := 0) hx hb dL_law_18 (by decide) ?_
  refine law_cell F hX hbl (by omega) hM hl.1 (Nat.le_of_ble_eq_true rfl) dL_law_19 ⟨Nat.le_of_ble_eq_true rfl, Nat.le_of_ble_eq_true rfl⟩ (fun H locs hM => ?_)
  rw [← ev0]
  refine k_callI (As := [.int v0]) (rest := [.ref mm]) F hao hM (c_X7_init l D y _ H.size (k0 := (X6V y nn x0 u).length) at_last en2) (cwI 1 F.1.2.2.2.2 gL_law_X7_init rfl rfl rfl (F.1.2.2.2.2 (.initialized RX7) (by decide +kernel)) (F.1.2.2.2.2 (.methodLink RL 32 yX7_init) (by decide +kernel)) (F.1.2.2.2.2 (.instanceMethod yX7_init) (by decide +kernel)) rfl (by decide +kernel) ⟨Nat.le_of_ble_eq_true rfl, Nat.le_of_ble_eq_true rfl⟩) rfl hl.1 (Nat.le_of_ble_eq_true rfl) dL_law_22 ⟨Nat.le_of_ble_eq_true rfl, Nat.le_of_ble_eq_true rfl⟩ (fun v H locs hM => ?_)
  have hM := kk_eq hM wd_last
  refine lv_astore_n (lv' := [(2, .ref mm), (1, .ref x0), (0, .ref b)]) hx hb dL_law_25 rfl hl (by decide) rfl (fun ls hl => ?_)
  refine lv_iconst (v := 1) hx hb dL_law_26 (by decide) ?_
  refine k_newa F hM (ty := .long) rfl (by decide +kernel) 1 rfl (fun _ h => h) (n := 1) (N' := 1) (a0 := (1, .inr (.inl fun _ => 0))) (fun _ => rfl) (by decide) (by decide) (by decide) (Nat.le_of_ble_eq_true rfl) (Nat.le_of_ble_eq_true rfl) dL_law_27 (fun o H hM => ?_)
  have hM : MM D y nn (ad_ x0 u mm v o) (fun q : Nat => s.heap.size ≤ q) s.heap (I0_ nn) J0_ A0_ B0_ (G0_ nn) H _ := conv h12 (kk_perm hM perm_t)
  refine lv_astore_n (lv' := [(3, .ref o), (2, .ref mm), (1, .ref x0), (0, .ref b)]) hx hb dL_law_29 rfl hl (by decide) rfl (fun ls hl => ?_)
  refine lv_iconst (v := 1) hx hb dL_law_30 (by decide) ?_
  refine lv_istore (lv' := [(4, .int 1), (3, .ref o), (2, .ref mm), (1, .ref x0), (0, .ref b)]) hx hb dL_law_31 hl (by decide) rfl (fun ls hl => ?_)
  exact law_loop (ad := ad_ x0 u mm v o) LXp hr 513 1 _ _ _ _ _ _ _ H _ ls (by omega) (by omega) (Nat.le_of_ble_eq_true rfl) (Nat.le_of_ble_eq_true rfl) (sys_0 h3 h12) hM (lv_sub hl [0, 4, 3, 2, 1] rfl)
