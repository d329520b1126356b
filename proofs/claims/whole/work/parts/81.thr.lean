/-! ===== what throwing needs of the state ===== -/
def xB : List Cond := [.castable RJx00060 RJx00060, .castable "java/lang/ArithmeticException" "java/lang/ArithmeticException", .declares (Bundle.initS "java/lang/IndexOutOfBoundsException"), .declares (Bundle.initS "java/lang/RuntimeException"), .declares (Bundle.initS "java/lang/Exception"), .declares (Bundle.initS Bundle.tN)]
theorem xB_tab : ∀ w ∈ xB, w.onTables = true := by
  intro w hw
  simp only [xB, List.mem_cons, List.not_mem_nil, or_false] at hw
  rcases hw with rfl | rfl | rfl | rfl | rfl | rfl <;> rfl
theorem xB_warm {s U : State} (hW : s.WarmedH U.vm) (h : ∀ w ∈ xB, va_Nw w s) : ∀ w ∈ xB, va_Nw w U := by
  intro w hw
  have h0 := h w hw
  simp only [xB, List.mem_cons, List.not_mem_nil, or_false] at hw
  rcases hw with rfl | rfl | rfl | rfl | rfl | rfl
  · exact va_Nw.warmC hW h0
  · exact va_Nw.warmC hW h0
  · exact va_Nw.warmD hW h0
  · exact va_Nw.warmD hW h0
  · exact va_Nw.warmD hW h0
  · exact va_Nw.warmD hW h0
def xF (A : Nat → Prop) (U : State) (H : Heap) : Prop := (∃ sa, vk_R RX6 78 "no such place" sa U) ∧ (∃ sb, vk_R RX6 121 "side is 0" sb U) ∧ (∀ w ∈ xB, va_Nw w U) ∧ vx_Zq Bundle.tN "UNASSIGNED_STACK" Bundle.steD A U H ∧ vx_Zq Bundle.tN "SUPPRESSED_SENTINEL" Bundle.listD A U H
theorem xF_go {A0 A1 : Nat → Prop} {s U : State} {H : Heap} {locs : List Loc} (hW : s.WarmedH U.vm) (hU : U.heap = H) (h : xF A0 s s.heap) (hS : va_S A0 s.heap H locs) (hAB : ∀ q, A1 q → A0 q) : xF A1 U U.heap := by
  obtain ⟨⟨sa, h1⟩, ⟨sb, h2⟩, h3, h5, h6⟩ := h
  rw [hU]
  exact ⟨⟨sa, h1.warm hW⟩, ⟨sb, h2.warm hW⟩, xB_warm hW h3, ((vx_Zq.kept h5 (fun a ha hn => hS.2.1 a ha hn)).moved hW.alike).narrow hAB, ((vx_Zq.kept h6 (fun a ha hn => hS.2.1 a ha hn)).moved hW.alike).narrow hAB⟩
theorem xF_same {A : Nat → Prop} {u U : State} {H : Heap} (hv : U.vm = u.vm) (h : xF A u H) : xF A U H := by
  obtain ⟨⟨sa, h1⟩, ⟨sb, h2⟩, h3, h5, h6⟩ := h
  have ha : u.vm.Alike U.vm := by rw [hv]; exact Vm.Alike.refl u.vm
  exact ⟨⟨sa, h1.same hv⟩, ⟨sb, h2.same hv⟩, fun w hw => va_Nw.same (xB_tab w hw) hv.symm (h3 w hw), h5.moved ha, h6.moved ha⟩
def xPc (av : List Value) (D : va_G) (y : Nat → ClassId) (nn : Nat) (ad : Nat → Nat) (sz : Nat) (I : Nat → Int32) (J : Nat → Int64) (A : Nat → Nat → Int32) (B : Nat → Nat → Int64) (G : Nat → Nat → Nat → Int32) : Array Value → State → Prop := fun v U => mPc av D y nn ad sz I J A B G v U ∧ xF (mA y nn ad I J A B G sz) U U.heap
theorem xPc_blind {av : List Value} {D : va_G} {y : Nat → ClassId} {nn : Nat} {ad : Nat → Nat} {sz : Nat} {I : Nat → Int32} {J : Nat → Int64} {A : Nat → Nat → Int32} {B : Nat → Nat → Int64} {G : Nat → Nat → Nat → Int32} : FrameBlind (xPc av D y nn ad sz I J A B G) := by
  intro a U g mk q
  exact ⟨mPc_blind a U g mk q.1, xF_same (u := U) (U := U.calling g mk a) rfl q.2⟩
def nmA : List String := ["java/lang/IndexOutOfBoundsException", "java/lang/RuntimeException", "java/lang/Exception"]
def nmE : List String := ["java/lang/RuntimeException", "java/lang/Exception"]
abbrev AEx : String := "java/lang/ArithmeticException"
def wsX6_wayT : List Cond := wsX6_way ++ (vx_atS RX6 80 RJx00060 nmA).filter goodWord
def xQ (D : va_G) (y : Nat → ClassId) (nn : Nat) (ad : Nat → Nat) (A0 : Nat → Prop) (E0 : String) (u0 : mSt) : String → State → State → Prop := vx_X (fun u : mSt => u = u0) (fun E u t => E = E0 ∧ mB D y nn ad A0 u t) A0
theorem x_hat {args : Array Value} {s : State} {L : List Cond} (h1 : ∀ w ∈ L.filter goodWord, w.before args s = true) (h2 : ∀ w ∈ L.filter (fun w => !goodWord w), w ∈ xB) (h3 : ∀ w ∈ xB, va_Nw w s) : ∀ w ∈ L, w.before args s = true :=
  vx_hat h1 h2 (fun w hw => va_Nw.use (xB_tab w hw) (h3 w hw))
theorem x_good1 : ∀ w ∈ (vx_atS RX6 80 RJx00060 nmA).filter (fun w => !goodWord w), w ∈ xB := by decide +kernel
theorem x_good2 : ∀ w ∈ Cond.classLink RX6 76 RJx00060 :: Cond.initialized RJx00060 :: vx_atS RX6 80 RJx00060 nmA, vx_ot w = true := by decide +kernel
theorem x_good3 : ∀ w ∈ (vx_atS RX6 123 AEx nmE).filter (fun w => !goodWord w), w ∈ xB := by decide +kernel
theorem x_good4 : ∀ w ∈ Cond.classLink RX6 119 AEx :: Cond.initialized AEx :: vx_atS RX6 123 AEx nmE, vx_ot w = true := by decide +kernel
/-- nothing of the memory is touched by what is new -/
theorem x_end {D : va_G} {y : Nat → ClassId} {nn : Nat} {ad : Nat → Nat} {A0 : Nat → Prop} {s : State} {I : Nat → Int32} {J : Nat → Int64} {A : Nat → Nat → Int32} {B : Nat → Nat → Int64} {G : Nat → Nat → Nat → Int32} {H : Heap} {locs : List Loc} {E0 : String} (hK : va_K D vwCl (mtys y) s) (hM : MM D y nn ad A0 s.heap I J A B G H locs) {t : State} (ha : s.vm.Alike t.vm) (hz : H.size ≤ t.heap.size) (hk : ∀ q : Nat, q < H.size → t.heap[q]? = H[q]?) : xQ D y nn ad A0 E0 (I, J, A, B, G) E0 s t :=
  ⟨(I, J, A, B, G), rfl, ⟨rfl, hM.1.kept (fun k x hx => hk x.1 ((hM.1 k x hx).lt)), va_K.moved ha hK, hM.2.1⟩, ⟨Nat.le_trans hM.2.2.1 hz, fun q h1 h2 => (hk q (Nat.lt_of_lt_of_le h1 hM.2.2.1)).trans (hM.2.2.2.1 q h1 h2)⟩⟩
theorem gX6_wayT_X3_has : GoodIn wsX6_wayT (wsV RX6 72 RX3 yX3_has wsX3_has) := fun w h => ⟨List.mem_append_left _ (gX6_way_X3_has w h).1, (gX6_way_X3_has w h).2⟩
set_option maxHeartbeats 4000000 in
set_option maxRecDepth 100000 in
theorem x_X6_way (l : Launch) (hlt : l.stackTraces = false) (D : va_G) (y : Nat → ClassId) (nn : Nat) (ad : Nat → Nat) (sz : Nat) (I : Nat → Int32) (J : Nat → Int64) (A : Nat → Nat → Int32) (B : Nat → Nat → Int64) (G : Nat → Nat → Nat → Int32) (p1 p2 : Int32) (p3 : Int64) (h : f_X3_has (I 0) p1 = some 0 ∨ (f_X3_has (I 0) p1 = some 1 ∧ f_X3_has (I 0) p2 = some 0)) : vx_Met l yX6_way wsX6_wayT ({ frames := 8, cells := 1, slots := 6, locals := 130 } : Room) (xPc [.ref (ad 0), .int p1, .int p2, .long p3] D y nn ad sz I J A B G) (va_Qv (fun _ : Unit => False) (fun _ _ => True) (mA y nn ad I J A B G sz)) (xQ D y nn ad (mA y nn ad I J A B G sz) RJx00060 (I, J, A, B, G)) 1 6 (mA y nn ad I J A B G sz) := by
  refine vx_ofW (cc := cX6_way) (maxL := 5) (ret := none) (by decide) rfl ?_
  intro p e s m args below meth c s₁ Bd hml hex hv
  obtain ⟨⟨rfl, hsz, hP, hK, hD0, hN⟩, hxF⟩ := hv
  subst hsz
  have F : Fx p s m ([.ref (ad 0), .int p1, .int p2, .long p3] : List Value).toArray meth c cX6_way 5 wsX6_wayT RX6 D y (mA y nn ad I J A B G s.heap.size) := ⟨⟨Bd.exec, Bd.bytes, hml, findClass_of_methodNamed Bd.named, atoms_spec (ws := wsX6_wayT) Bd.pre⟩, hK, hN, fun q h => Or.inr h, Bd.notSynchronized⟩
  have hM := m_start (s := s) rfl hP hD0
  have hx := F.1.1
  have hb := F.1.2.1
  have hl := lv_entry ([.ref (ad 0), .int p1, .int p2, .long p3]) (n := 5) (Nat.le_of_ble_eq_true rfl)
  rw [lg_entry_eq]
  generalize (lg_sl ([.ref (ad 0), .int p1, .int p2, .long p3]) ++ List.replicate (5 - (lg_sl ([.ref (ad 0), .int p1, .int p2, .long p3])).length) Slot.unset).toArray = ls at hl ⊢
  have hl : lv_has ls 5 [(0, .ref (ad 0)), (1, .int p1), (2, .int p2), (3, .long p3)] := hl
  show W p l e ({ frames := 8, cells := 1, slots := 6, locals := 130 } : Room) s m _ below meth c s.heap [] 0 0 _ _
  obtain ⟨⟨sa, hstr⟩, -, hcA, hU, hSt⟩ := hxF
  have inl : ∀ w ∈ wsX6_way, w ∈ wsX6_wayT := fun w h => List.mem_append_left _ h
  have thr : ∀ (H : Heap) (locs : List Loc), MM D y nn ad (mA y nn ad I J A B G s.heap.size) s.heap I J A B G H locs → W p l e ({ frames := 8, cells := 1, slots := 6, locals := 130 } : Room) s m ([.ref (ad 0), .int p1, .int p2, .long p3] : List Value).toArray below meth c H locs 0 0 (vx_MQ below (va_Qv (fun _ : Unit => False) (fun _ _ => True) (mA y nn ad I J A B G s.heap.size)) (xQ D y nn ad (mA y nn ad I J A B G s.heap.size) RJx00060 (I, J, A, B, G)) ([.ref (ad 0), .int p1, .int p2, .long p3] : List Value).toArray s 1 6 (mA y nn ad I J A B G s.heap.size)) (F0 m 22 ls []) := by
    intro H locs hM
    exact vx_throwS hx hb hlt (own := RX6) (cls := RJx00060) (text := "no such place") (names := nmA) (ik := 76) (is := 78) (ic := 80) F.1.2.2.2.1 (by decide +kernel) (by decide +kernel) (F.1.2.2.2.2 _ (inl _ (by decide +kernel))) (F.1.2.2.2.2 _ (inl _ (by decide +kernel))) hstr (x_hat (fun w h => F.1.2.2.2.2 w (List.mem_append_right _ h)) x_good1 hcA) x_good2 hU hSt hM.2.2 (hl.1.trans F.1.2.2.1.symm) dX6_way_22 dX6_way_25 dX6_way_26 dX6_way_28 dX6_way_31 (fun x hx => (hex x hx).elim) (Nat.le_of_ble_eq_true rfl) (Nat.le_of_ble_eq_true rfl) (Nat.le_refl _) (Nat.le_refl _) F.2.2.2.2 (fun t ha hz hk => x_end F.2.1 hM ha hz hk) hM.2.2.2.2 (Nat.le_refl _) (Nat.le_refl _)
  refine lv_aload_n hx hb dX6_way_0 rfl (lv_at hl 0 rfl) ?_
  refine m_get F hM 0 mg_0 rfl 0 (by decide) (fun w h => inl w ((by decide +kernel : ∀ w ∈ u_ws RX6 TX6 8, w ∈ wsX6_way) w h)) (inl _ (by decide +kernel)) (v := .ref (ad 1)) rfl dX6_way_1 ?_
  refine lv_iload_n hx hb dX6_way_4 rfl (lv_at hl 1 rfl) ?_
  rcases h with h1 | ⟨h1, h2⟩
  · refine m_callVi (As := [.int p1]) (I2 := I) (J2 := J) (A2 := A) (B2 := B) (G2 := G) F hM (c_X3_has l D y nn ad _ I J A B G p1 0 h1) (cwV 1 F.1.2.2.2.2 gX6_wayT_X3_has rfl rfl rfl (by decide +kernel) ⟨Nat.le_of_ble_eq_true rfl, Nat.le_of_ble_eq_true rfl⟩) (m_recv F hM mg_1 rfl) rfl hl.1 (Nat.le_of_ble_eq_true rfl) dX6_way_5 ⟨Nat.le_of_ble_eq_true rfl, Nat.le_of_ble_eq_true rfl⟩ rfl rfl rfl rfl rfl (fun H locs hM => ?_)
    refine lv_if_eq (tgt := 22) hx hb dX6_way_8 (by decide) (fun c8 => ?_) (fun c8 => ?_)
    · exact thr H locs hM
    · exact absurd rfl c8
  · refine m_callVi (As := [.int p1]) (I2 := I) (J2 := J) (A2 := A) (B2 := B) (G2 := G) F hM (c_X3_has l D y nn ad _ I J A B G p1 1 h1) (cwV 1 F.1.2.2.2.2 gX6_wayT_X3_has rfl rfl rfl (by decide +kernel) ⟨Nat.le_of_ble_eq_true rfl, Nat.le_of_ble_eq_true rfl⟩) (m_recv F hM mg_1 rfl) rfl hl.1 (Nat.le_of_ble_eq_true rfl) dX6_way_5 ⟨Nat.le_of_ble_eq_true rfl, Nat.le_of_ble_eq_true rfl⟩ rfl rfl rfl rfl rfl (fun H locs hM => ?_)
    refine lv_if_eq (tgt := 22) hx hb dX6_way_8 (by decide) (fun c8 => ?_) (fun c8 => ?_)
    · exact absurd c8 (by decide)
    refine lv_aload_n hx hb dX6_way_11 rfl (lv_at hl 0 rfl) ?_
    refine m_get F hM 0 mg_0 rfl 0 (by decide) (fun w h => inl w ((by decide +kernel : ∀ w ∈ u_ws RX6 TX6 8, w ∈ wsX6_way) w h)) (inl _ (by decide +kernel)) (v := .ref (ad 1)) rfl dX6_way_12 ?_
    refine lv_iload_n hx hb dX6_way_15 rfl (lv_at hl 2 rfl) ?_
    refine m_callVi (As := [.int p2]) (I2 := I) (J2 := J) (A2 := A) (B2 := B) (G2 := G) F hM (c_X3_has l D y nn ad H.size I J A B G p2 0 h2) (cwV 1 F.1.2.2.2.2 gX6_wayT_X3_has rfl rfl rfl (by decide +kernel) ⟨Nat.le_of_ble_eq_true rfl, Nat.le_of_ble_eq_true rfl⟩) (m_recv F hM mg_1 rfl) rfl hl.1 (Nat.le_of_ble_eq_true rfl) dX6_way_16 ⟨Nat.le_of_ble_eq_true rfl, Nat.le_of_ble_eq_true rfl⟩ rfl rfl rfl rfl rfl (fun H locs hM => ?_)
    refine lv_if_ne (tgt := 32) hx hb dX6_way_19 (by decide) (fun c19 => ?_) (fun c19 => ?_)
    · exact absurd rfl c19
    · exact thr H locs hM
