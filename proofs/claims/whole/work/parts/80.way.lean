/-! ===== RoundBounds.way, where both are places ===== -/
set_option maxHeartbeats 4000000 in
set_option maxRecDepth 100000 in
theorem c_X6_wayN (l : Launch) (D : va_G) (y : Nat → ClassId) (nn : Nat) (ad : Nat → Nat) (sz : Nat) (I : Nat → Int32) (J : Nat → Int64) (A : Nat → Nat → Int32) (B : Nat → Nat → Int64) (G : Nat → Nat → Nat → Int32) (p1 p2 : Int32) (p3 : Int64) (out : (Nat → Nat → Int32) × (Nat → Nat → Int32)) (h1 : f_X3_has (I 0) p1 = some 1) (h2 : f_X3_has (I 0) p2 = some 1) (hE : (if p1 = p2 then some (G 0, G 1) else f_X3_tell nn (G 0) (G 1) p1 p2 (if p3 < (0 : Int64) then (-1 : Int32) else if p3 ≤ (1000000 : Int64) then p3.toInt32 else (-1 : Int32))) = some out) : Met l yX6_way wsX6_way ({ frames := 3, cells := 0, slots := 0, locals := 70 } : Room) (mPc [.ref (ad 0), .int p1, .int p2, .long p3] D y nn ad sz I J A B G) (mQv D y nn ad (mA y nn ad I J A B G sz) (I, J, A, B, (va_up (va_up G 0 out.1) 1 out.2))) 0 0 (mA y nn ad I J A B G sz) := by
  refine Met.ofW (cc := cX6_way) (maxL := 5) (ret := none) (by decide) rfl ?_
  intro p e s m args below meth c s₁ Bd hml hv
  obtain ⟨rfl, hsz, hP, hK, hD0, hN⟩ := hv
  have hr := Bd.returns
  subst hsz
  have F : Fx p s m ([.ref (ad 0), .int p1, .int p2, .long p3] : List Value).toArray meth c cX6_way 5 wsX6_way RX6 D y (mA y nn ad I J A B G s.heap.size) := ⟨⟨Bd.exec, Bd.bytes, hml, findClass_of_methodNamed Bd.named, atoms_spec (ws := wsX6_way) Bd.pre⟩, hK, hN, fun q h => Or.inr h, Bd.notSynchronized⟩
  have hM := m_start (s := s) rfl hP hD0
  have hx := F.1.1
  have hb := F.1.2.1
  have hl := lv_entry ([.ref (ad 0), .int p1, .int p2, .long p3]) (n := 5) (Nat.le_of_ble_eq_true rfl)
  rw [lg_entry_eq]
  generalize (lg_sl ([.ref (ad 0), .int p1, .int p2, .long p3]) ++ List.replicate (5 - (lg_sl ([.ref (ad 0), .int p1, .int p2, .long p3])).length) Slot.unset).toArray = ls at hl ⊢
  have hl : lv_has ls 5 [(0, .ref (ad 0)), (1, .int p1), (2, .int p2), (3, .long p3)] := hl
  show W p l e ({ frames := 3, cells := 0, slots := 0, locals := 70 } : Room) s m _ below meth c s.heap [] 0 0 _ _
  obtain ⟨locs, hlo⟩ : ∃ locs : List Loc, locs = [] := ⟨_, rfl⟩
  rw [← hlo]; rw [← hlo] at hM
  revert hM
  suffices hH : ∀ H : Heap, MM D y nn ad (mA y nn ad I J A B G s.heap.size) s.heap I J A B G H locs → W p l e ({ frames := 3, cells := 0, slots := 0, locals := 70 } : Room) s m ([.ref (ad 0), .int p1, .int p2, .long p3] : List Value).toArray below meth c H locs 0 0 (MQ below (mQv D y nn ad (mA y nn ad I J A B G s.heap.size) (I, J, A, B, (va_up (va_up G 0 out.1) 1 out.2))) ([.ref (ad 0), .int p1, .int p2, .long p3] : List Value).toArray s 0 0 (mA y nn ad I J A B G s.heap.size)) (F0 m 0 ls []) from hH s.heap
  intro H hM
  refine lv_aload_n hx hb dX6_way_0 rfl (lv_at hl 0 rfl) ?_
  refine m_get F hM 0 mg_0 rfl 0 (by decide) (by decide +kernel) (by decide +kernel) (v := .ref (ad 1)) rfl dX6_way_1 ?_
  refine lv_iload_n hx hb dX6_way_4 rfl (lv_at hl 1 rfl) ?_
  refine m_callVi (As := [.int p1]) (I2 := I) (J2 := J) (A2 := A) (B2 := B) (G2 := G) F hM (c_X3_has l D y nn ad H.size I J A B G p1 1 h1) (cwV 1 F.1.2.2.2.2 gX6_way_X3_has rfl rfl rfl (by decide +kernel) ⟨Nat.le_of_ble_eq_true rfl, Nat.le_of_ble_eq_true rfl⟩) (m_recv F hM mg_1 rfl) rfl hl.1 (Nat.le_of_ble_eq_true rfl) dX6_way_5 ⟨Nat.le_refl 0, Nat.le_refl 0⟩ rfl rfl rfl rfl rfl (fun H locs hM => ?_)
  refine lv_if_eq (tgt := 22) hx hb dX6_way_8 (by decide) (fun c8 => ?_) (fun c8 => ?_)
  · exact absurd c8 (by decide)
  refine lv_aload_n hx hb dX6_way_11 rfl (lv_at hl 0 rfl) ?_
  refine m_get F hM 0 mg_0 rfl 0 (by decide) (by decide +kernel) (by decide +kernel) (v := .ref (ad 1)) rfl dX6_way_12 ?_
  refine lv_iload_n hx hb dX6_way_15 rfl (lv_at hl 2 rfl) ?_
  refine m_callVi (As := [.int p2]) (I2 := I) (J2 := J) (A2 := A) (B2 := B) (G2 := G) F hM (c_X3_has l D y nn ad H.size I J A B G p2 1 h2) (cwV 1 F.1.2.2.2.2 gX6_way_X3_has rfl rfl rfl (by decide +kernel) ⟨Nat.le_of_ble_eq_true rfl, Nat.le_of_ble_eq_true rfl⟩) (m_recv F hM mg_1 rfl) rfl hl.1 (Nat.le_of_ble_eq_true rfl) dX6_way_16 ⟨Nat.le_refl 0, Nat.le_refl 0⟩ rfl rfl rfl rfl rfl (fun H locs hM => ?_)
  refine lv_if_ne (tgt := 32) hx hb dX6_way_19 (by decide) (fun c19 => ?_) (fun c19 => ?_)
  rotate_left
  · exact absurd c19 (by decide)
  refine lv_iload_n hx hb dX6_way_32 rfl (lv_at hl 1 rfl) ?_
  refine lv_iload_n hx hb dX6_way_33 rfl (lv_at hl 2 rfl) ?_
  refine lv_icmp_eq (tgt := 66) hx hb dX6_way_34 (by decide) (fun c34 => ?_) (fun c34 => ?_)
  · rw [if_pos c34] at hE
    obtain rfl := Option.some.inj hE
    exact m_vret F hM hr (by simp only [up_id]) dX6_way_66
  rw [if_neg c34] at hE
  refine lv_aload_n hx hb dX6_way_37 rfl (lv_at hl 0 rfl) ?_
  refine m_get F hM 0 mg_0 rfl 0 (by decide) (by decide +kernel) (by decide +kernel) (v := .ref (ad 1)) rfl dX6_way_38 ?_
  refine lv_iload_n hx hb dX6_way_41 rfl (lv_at hl 1 rfl) ?_
  refine lv_iload_n hx hb dX6_way_42 rfl (lv_at hl 2 rfl) ?_
  have tail : ∀ v : Int32, f_X3_tell nn (G 0) (G 1) p1 p2 v = some out → W p l e ({ frames := 3, cells := 0, slots := 0, locals := 70 } : Room) s m ([.ref (ad 0), .int p1, .int p2, .long p3] : List Value).toArray below meth c H locs 0 0 (MQ below (mQv D y nn ad (mA y nn ad I J A B G s.heap.size) (I, J, A, B, (va_up (va_up G 0 out.1) 1 out.2))) ([.ref (ad 0), .int p1, .int p2, .long p3] : List Value).toArray s 0 0 (mA y nn ad I J A B G s.heap.size)) (F0 m 63 ls [.int v, .int p2, .int p1, .ref (ad 1)]) := by
    intro v hv
    refine m_callVv (As := [.int p1, .int p2, .int v]) (I2 := I) (J2 := J) (A2 := A) (B2 := B) (G2 := (va_up (va_up G 0 out.1) 1 out.2)) F hM (c_X3_tell l D y nn ad H.size I J A B G p1 p2 v out hv) (cwV 3 F.1.2.2.2.2 gX6_way_X3_tell rfl rfl rfl (by decide +kernel) ⟨Nat.le_of_ble_eq_true rfl, Nat.le_of_ble_eq_true rfl⟩) (m_recv F hM mg_1 rfl) rfl hl.1 (Nat.le_of_ble_eq_true rfl) dX6_way_63 ⟨Nat.le_refl 0, Nat.le_refl 0⟩ rfl rfl rfl rfl rfl (fun H locs hM => ?_)
    exact m_vret F hM hr rfl dX6_way_66
  refine lv_lload_n hx hb dX6_way_43 rfl (lv_at hl 3 rfl) ?_
  refine lv_lconst (v := 0) hx hb dX6_way_44 (by decide) ?_
  refine m_llt (tgt := 57) F dX6_way_45 dX6_way_46 (by decide) (fun c46 => ?_) (fun c46 => ?_)
  · rw [if_pos c46] at hE
    refine lv_iconst (v := -1) hx hb dX6_way_57 (by decide) ?_
    refine lv_goto (tgt := 63) hx hb dX6_way_58 (by decide) ?_
    exact tail _ hE
  rw [if_neg c46] at hE
  refine lv_lload_n hx hb dX6_way_49 rfl (lv_at hl 3 rfl) ?_
  refine lv_ldc2 (v := (1000000)) hx hb F.1.2.2.2.1 (F.1.2.2.2.2 (.constantLong RX6 83 (1000000)) (by decide +kernel)) dX6_way_50 ?_
  refine m_lle (tgt := 61) F dX6_way_53 dX6_way_54 (by decide) (fun c54 => ?_) (fun c54 => ?_)
  · rw [if_pos c54] at hE
    refine lv_lload_n hx hb dX6_way_61 rfl (lv_at hl 3 rfl) ?_
    refine lv_l2i hx hb dX6_way_62 rfl ?_
    exact tail _ hE
  · rw [if_neg c54] at hE
    refine lv_iconst (v := -1) hx hb dX6_way_57 (by decide) ?_
    refine lv_goto (tgt := 63) hx hb dX6_way_58 (by decide) ?_
    exact tail _ hE
