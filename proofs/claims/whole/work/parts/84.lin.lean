/-! ===== linear; the law's own methods ===== -/
abbrev GO : Type := Int64 × Int32 × Int64 × (Nat → Int32) × (Nat → Int32) × (Nat → Int32) × (Nat → Int32) × (Nat → Int32) × (Nat → Int32) × (Nat → Int64) × (Nat → Int64) × (Nat → Int64)
abbrev gI (I : Nat → Int32) (out : GO) : Nat → Int32 := va_up I 1 out.2.1
abbrev gJ (J : Nat → Int64) (out : GO) : Nat → Int64 := va_up J 0 out.2.2.1
abbrev gA (A : Nat → Nat → Int32) (out : GO) : Nat → Nat → Int32 := va_up (va_up (va_up (va_up (va_up (va_up A 20 out.2.2.2.1) 21 out.2.2.2.2.1) 22 out.2.2.2.2.2.1) 23 out.2.2.2.2.2.2.1) 24 out.2.2.2.2.2.2.2.1) 25 out.2.2.2.2.2.2.2.2.1
abbrev gB (B : Nat → Nat → Int64) (out : GO) : Nat → Nat → Int64 := va_up (va_up (va_up B 50 out.2.2.2.2.2.2.2.2.2.1) 51 out.2.2.2.2.2.2.2.2.2.2.1) 52 out.2.2.2.2.2.2.2.2.2.2.2
set_option maxHeartbeats 4000000 in
set_option maxRecDepth 100000 in
theorem c_X6_linN (l : Launch) (D : va_G) (y : Nat → ClassId) (nn : Nat) (ad : Nat → Nat) (sz : Nat) (I : Nat → Int32) (J : Nat → Int64) (A : Nat → Nat → Int32) (B : Nat → Nat → Int64) (G : Nat → Nat → Nat → Int32) (p1 : Int32) (N : Nat) (out : GO) (hE : f_X6_greatest N nn (I 0) (G 0) (G 1) (I 1) (J 0) (A 20) (A 21) (A 22) (A 23) (A 24) (A 25) (B 50) (B 51) (B 52) = some out) (r : Int64) (hr0 : (out.1 = -1 ∧ r = -1) ∨ (¬ out.1 = -1 ∧ ¬ p1 = 0 ∧ r = ((1000 : Int64) * out.1) / p1.toInt64)) : Met l yX6_linear wsX6_linear ({ frames := 6, cells := 0, slots := 0, locals := 140 } : Room) (mPc [.ref (ad 0), .int p1] D y nn ad sz I J A B G) (mQl D y nn ad (mA y nn ad I J A B G sz) r (gI I out, gJ J out, gA A out, gB B out, G)) 0 0 (mA y nn ad I J A B G sz) := by
  refine Met.ofW (cc := cX6_linear) (maxL := 4) (ret := (some .long)) (by decide) rfl ?_
  intro p e s m args below meth c s₁ Bd hml hv
  obtain ⟨rfl, hsz, hP, hK, hD0, hN⟩ := hv
  have hr := Bd.returns
  subst hsz
  have F : Fx p s m ([.ref (ad 0), .int p1] : List Value).toArray meth c cX6_linear 4 wsX6_linear RX6 D y (mA y nn ad I J A B G s.heap.size) := ⟨⟨Bd.exec, Bd.bytes, hml, findClass_of_methodNamed Bd.named, atoms_spec (ws := wsX6_linear) Bd.pre⟩, hK, hN, fun q h => Or.inr h, Bd.notSynchronized⟩
  have hM := m_start (s := s) rfl hP hD0
  have hx := F.1.1
  have hb := F.1.2.1
  have hl := lv_entry ([.ref (ad 0), .int p1]) (n := 4) (Nat.le_of_ble_eq_true rfl)
  rw [lg_entry_eq]
  generalize (lg_sl ([.ref (ad 0), .int p1]) ++ List.replicate (4 - (lg_sl ([.ref (ad 0), .int p1])).length) Slot.unset).toArray = ls at hl ⊢
  have hl : lv_has ls 4 [(0, .ref (ad 0)), (1, .int p1)] := hl
  show W p l e ({ frames := 6, cells := 0, slots := 0, locals := 140 } : Room) s m _ below meth c s.heap [] 0 0 _ _
  refine lv_aload_n hx hb dX6_linear_0 rfl (lv_at hl 0 rfl) ?_
  refine m_callVl (As := []) (I2 := gI I out) (J2 := gJ J out) (A2 := gA A out) (B2 := gB B out) (G2 := G) F hM (c_X6_greatest l D y nn ad _ I J A B G N out hE) (cwV 0 F.1.2.2.2.2 gX6_linear_X6_greatest rfl rfl rfl (by decide +kernel) ⟨Nat.le_of_ble_eq_true rfl, Nat.le_of_ble_eq_true rfl⟩) (m_recv F hM mg_0 rfl) rfl hl.1 (Nat.le_of_ble_eq_true rfl) dX6_linear_1 ⟨Nat.le_refl 0, Nat.le_refl 0⟩ rfl rfl rfl rfl rfl (fun H locs hM => ?_)
  refine lv_lstore_n (lv' := [(2, .long out.1), (0, .ref (ad 0)), (1, .int p1)]) hx hb dX6_linear_4 rfl hl (by decide) rfl (fun ls hl => ?_)
  refine lv_lload_n hx hb dX6_linear_5 rfl (lv_at hl 0 rfl) ?_
  refine lv_ldc2 (v := (-1)) hx hb F.1.2.2.2.1 (F.1.2.2.2.2 (.constantLong RX6 100 (-1)) (by decide +kernel)) dX6_linear_6 ?_
  refine m_lne (tgt := 17) F dX6_linear_9 dX6_linear_10 (by decide) (fun c10 => ?_) (fun c10 => ?_)
  · rcases hr0 with ⟨h1, -⟩ | ⟨-, h2, h3⟩
    · exact absurd h1 c10
    refine lv_iload_n hx hb dX6_linear_17 rfl (lv_at hl 2 rfl) ?_
    refine lv_if_ne (tgt := 31) hx hb dX6_linear_18 (by decide) (fun c18 => ?_) (fun c18 => ?_)
    · refine lv_ldc2 (v := (1000)) hx hb F.1.2.2.2.1 (F.1.2.2.2.2 (.constantLong RX6 124 (1000)) (by decide +kernel)) dX6_linear_31 ?_
      refine lv_lload_n hx hb dX6_linear_34 rfl (lv_at hl 0 rfl) ?_
      refine lv_lmul hx hb dX6_linear_35 ?_
      refine lv_iload_n hx hb dX6_linear_36 rfl (lv_at hl 2 rfl) ?_
      refine lv_i2l hx hb dX6_linear_37 rfl ?_
      refine lv_ldiv hx hb dX6_linear_38 ?_ ?_
      · rw [i64_eq, i64_of32]
        rw [i32_eq] at h2
        exact h2
      · exact m_lret F hM hr h3.symm rfl dX6_linear_39
    · exact absurd c18 h2
  · rcases hr0 with ⟨-, h2⟩ | ⟨h1, -, -⟩
    · refine lv_ldc2 (v := (-1)) hx hb F.1.2.2.2.1 (F.1.2.2.2.2 (.constantLong RX6 100 (-1)) (by decide +kernel)) dX6_linear_13 ?_
      exact m_lret F hM hr h2.symm rfl dX6_linear_16
    · exact absurd c10 h1
set_option maxHeartbeats 4000000 in
set_option maxRecDepth 100000 in
theorem x_X6_lin (l : Launch) (hlt : l.stackTraces = false) (D : va_G) (y : Nat → ClassId) (nn : Nat) (ad : Nat → Nat) (sz : Nat) (I : Nat → Int32) (J : Nat → Int64) (A : Nat → Nat → Int32) (B : Nat → Nat → Int64) (G : Nat → Nat → Nat → Int32) (N : Nat) (out : GO) (hE : f_X6_greatest N nn (I 0) (G 0) (G 1) (I 1) (J 0) (A 20) (A 21) (A 22) (A 23) (A 24) (A 25) (B 50) (B 51) (B 52) = some out) (h1 : ¬ out.1 = -1) : vx_Met l yX6_linear wsX6_linear ({ frames := 7, cells := 1, slots := 6, locals := 140 } : Room) (xPc [.ref (ad 0), .int 0] D y nn ad sz I J A B G) (va_Ql (fun (_ : Int64) (_ : Unit) => False) (fun _ _ => True) (mA y nn ad I J A B G sz)) (xQ D y nn ad (mA y nn ad I J A B G sz) AEx (gI I out, gJ J out, gA A out, gB B out, G)) 1 6 (mA y nn ad I J A B G sz) := by
  refine vx_ofW (cc := cX6_linear) (maxL := 4) (ret := (some .long)) (by decide) rfl ?_
  intro p e s m args below meth c s₁ Bd hml hex hv
  obtain ⟨⟨rfl, hsz, hP, hK, hD0, hN⟩, hxF⟩ := hv
  subst hsz
  have F : Fx p s m ([.ref (ad 0), .int 0] : List Value).toArray meth c cX6_linear 4 wsX6_linear RX6 D y (mA y nn ad I J A B G s.heap.size) := ⟨⟨Bd.exec, Bd.bytes, hml, findClass_of_methodNamed Bd.named, atoms_spec (ws := wsX6_linear) Bd.pre⟩, hK, hN, fun q h => Or.inr h, Bd.notSynchronized⟩
  have hM := m_start (s := s) rfl hP hD0
  have hx := F.1.1
  have hb := F.1.2.1
  have hl := lv_entry ([.ref (ad 0), .int 0]) (n := 4) (Nat.le_of_ble_eq_true rfl)
  rw [lg_entry_eq]
  generalize (lg_sl ([.ref (ad 0), .int 0]) ++ List.replicate (4 - (lg_sl ([.ref (ad 0), .int 0])).length) Slot.unset).toArray = ls at hl ⊢
  have hl : lv_has ls 4 [(0, .ref (ad 0)), (1, .int 0)] := hl
  show W p l e ({ frames := 7, cells := 1, slots := 6, locals := 140 } : Room) s m _ below meth c s.heap [] 0 0 _ _
  obtain ⟨-, ⟨sb, hstr⟩, hcA, hU, hSt⟩ := hxF
  refine lv_aload_n hx hb dX6_linear_0 rfl (lv_at hl 0 rfl) ?_
  refine m_callVl (As := []) (I2 := gI I out) (J2 := gJ J out) (A2 := gA A out) (B2 := gB B out) (G2 := G) F hM (c_X6_greatest l D y nn ad _ I J A B G N out hE) (cwV 0 F.1.2.2.2.2 gX6_linear_X6_greatest rfl rfl rfl (by decide +kernel) ⟨Nat.le_of_ble_eq_true rfl, Nat.le_of_ble_eq_true rfl⟩) (m_recv F hM mg_0 rfl) rfl hl.1 (Nat.le_of_ble_eq_true rfl) dX6_linear_1 ⟨Nat.le_of_ble_eq_true rfl, Nat.le_of_ble_eq_true rfl⟩ rfl rfl rfl rfl rfl (fun H locs hM => ?_)
  refine lv_lstore_n (lv' := [(2, .long out.1), (0, .ref (ad 0)), (1, .int 0)]) hx hb dX6_linear_4 rfl hl (by decide) rfl (fun ls hl => ?_)
  refine lv_lload_n hx hb dX6_linear_5 rfl (lv_at hl 0 rfl) ?_
  refine lv_ldc2 (v := (-1)) hx hb F.1.2.2.2.1 (F.1.2.2.2.2 (.constantLong RX6 100 (-1)) (by decide +kernel)) dX6_linear_6 ?_
  refine m_lne (tgt := 17) F dX6_linear_9 dX6_linear_10 (by decide) (fun c10 => ?_) (fun c10 => absurd c10 h1)
  refine lv_iload_n hx hb dX6_linear_17 rfl (lv_at hl 2 rfl) ?_
  refine lv_if_ne (tgt := 31) hx hb dX6_linear_18 (by decide) (fun c18 => absurd rfl c18) (fun c18 => ?_)
  exact vx_throwS hx hb hlt (own := RX6) (cls := AEx) (text := "side is 0") (names := nmE) (ik := 119) (is := 121) (ic := 123) F.1.2.2.2.1 (by decide +kernel) (by decide +kernel) (F.1.2.2.2.2 _ (by decide +kernel)) (F.1.2.2.2.2 _ (by decide +kernel)) hstr (x_hat (fun w h => F.1.2.2.2.2 w (List.mem_cons_of_mem _ (List.mem_append_right _ h))) x_good3 hcA) x_good4 hU hSt hM.2.2 (hl.1.trans F.1.2.2.1.symm) dX6_linear_21 dX6_linear_24 dX6_linear_25 dX6_linear_27 dX6_linear_30 (fun x hx => (hex x hx).elim) (Nat.le_of_ble_eq_true rfl) (Nat.le_of_ble_eq_true rfl) (Nat.le_refl _) (Nat.le_refl _) F.2.2.2.2 (fun t ha hz hk => x_end F.2.1 hM ha hz hk) hM.2.2.2.2 (Nat.le_refl _) (Nat.le_refl _)
