def fck {ρ : Type} (n : Nat) (k : Option ρ) : Option ρ := if n < 2147483648 then k else none
theorem fck_some {ρ : Type} {n : Nat} {k : Option ρ} {r : ρ} (h : fck n k = some r) : n < 2147483648 ∧ k = some r := by
  unfold fck at h
  by_cases q : n < 2147483648
  · rw [if_pos q] at h; exact ⟨q, h⟩
  · rw [if_neg q] at h; cases h
theorem fil_0 {α : Type} {v : α} {f : Nat → α} : fil 0 v f = f := by
  funext j
  unfold fil
  rw [if_neg (Nat.not_lt_zero j)]
theorem fil_s {v : Int32} {f : Nat → Int32} {i : Nat} : upd (fil i v f) i v = fil (i + 1) v f := by
  funext j
  unfold upd fil
  by_cases e : j = i
  · subst e
    rw [if_pos rfl, if_pos (Nat.lt_succ_self j)]
  · rw [if_neg e]
    by_cases h : j < i
    · rw [if_pos h, if_pos (by omega)]
    · rw [if_neg h, if_neg (by omega)]
theorem fil_sl {v : Int64} {f : Nat → Int64} {i : Nat} : vp_updL (fil i v f) i v = fil (i + 1) v f := by
  funext j
  unfold vp_updL fil
  by_cases e : j = i
  · subst e
    rw [if_pos rfl, if_pos (Nat.lt_succ_self j)]
  · rw [if_neg e]
    by_cases h : j < i
    · rw [if_pos h, if_pos (by omega)]
    · rw [if_neg h, if_neg (by omega)]
set_option maxHeartbeats 4000000 in
theorem k_J7_fill_53178 {p : Program} {l : Launch} {e : Env} {s : State} {m : MethodId} {args : Array Value} {below : List Frame} {meth : Method} {c : Code} {D : va_G} {y : Nat → ClassId} {nn : Nat} {ad : Nat → Nat} {A0 : Nat → Prop} {I : Nat → Int32} {J : Nat → Int64} {A : Nat → Nat → Int32} {B : Nat → Nat → Int64} {G : Nat → Nat → Nat → Int32} (F : Fx p s m args meth c cJ7_fill_53178 4 wsJ7_fill_53178 RJ7 D y A0) (hr : meth.sig.returnType = none) {k q n : Nat} (hn : n < 2147483648) (hq : ∀ A : Nat → Nat → Int32, (mw y nn ad I J A B G)[k]? = some (ad q, .inl (y 0, n, .inl (A q)))) (hs : ∀ (A : Nat → Nat → Int32) (f1 : Nat → Int32), (mw y nn ad I J A B G).set k (ad q, .inl (y 0, n, .inl f1)) = mw y nn ad I J (va_up A q f1) B G) (v : Int32) : ∀ (j i : Nat), i + j = n → ∀ (ls : Array Slot) (H : Heap) (locs : List Loc), MM D y nn ad A0 s.heap I J (va_up A q (fil i v (A q))) B G H locs → lv_has ls 4 [(3, .int (nI n)), (2, .int (nI i)), (0, .ref (ad q)), (1, .int v)] → W p l e ({ frames := 0, cells := 0, slots := 0, locals := 0 } : Room) s m args below meth c H locs 0 0 (MQ below (mQv D y nn ad A0 (I, J, va_up A q (fil n v (A q)), B, G)) args s 0 0 A0) (F0 m 5 ls []) := by
  have hx := F.1.1
  have hb := F.1.2.1
  intro j
  induction j with
  | zero =>
    intro i hi ls H locs hM hl
    have e : i = n := by omega
    subst e
    refine lv_iload_n hx hb dJ7_fill_53178_5 rfl (lv_at hl 1 rfl) ?_
    refine lv_iload_n hx hb dJ7_fill_53178_6 rfl (lv_at hl 0 rfl) ?_
    refine lv_icmp_ge (tgt := 20) hx hb dJ7_fill_53178_7 (by decide) (fun c => ?_) (fun c => ?_)
    · exact m_vret F hM hr rfl dJ7_fill_53178_20
    · exact absurd (nI_le (Nat.le_refl i) hn) c
  | succ j ih =>
    intro i hi ls H locs hM hl
    have hlt : i < n := by omega
    refine lv_iload_n hx hb dJ7_fill_53178_5 rfl (lv_at hl 1 rfl) ?_
    refine lv_iload_n hx hb dJ7_fill_53178_6 rfl (lv_at hl 0 rfl) ?_
    refine lv_icmp_ge (tgt := 20) hx hb dJ7_fill_53178_7 (by decide) (fun c => ?_) (fun c => ?_)
    · exact absurd c (nI_ge hlt hn)
    · have hin : vp_in (nI i) n := vp_in_nI hlt hn
      have hcl : (nI i).toNatClampNeg = i := nI_clamp (by omega)
      refine lv_aload_n hx hb dJ7_fill_53178_10 rfl (lv_at hl 2 rfl) ?_
      refine lv_iload_n hx hb dJ7_fill_53178_11 rfl (lv_at hl 1 rfl) ?_
      refine lv_iload_n hx hb dJ7_fill_53178_12 rfl (lv_at hl 3 rfl) ?_
      refine m_iast (f := (va_up A q (fil i v (A q))) q) (A' := va_up A q (fil (i + 1) v (A q))) F hM (hq _) (hs _) (by rw [hcl, va_up_self, fil_s]; exact bx_uu _ _ _ _) hin dJ7_fill_53178_13 (fun H locs hM => ?_)
      refine lv_iinc (v := nI (i + 1)) (lv' := [(2, .int (nI (i + 1))), (3, .int (nI n)), (0, .ref (ad q)), (1, .int v)]) hx hb dJ7_fill_53178_14 hl (k := 1) rfl (nI_1 i) (by decide) rfl (fun ls hl => ?_)
      refine lv_goto (tgt := 5) hx hb dJ7_fill_53178_17 (by decide) ?_
      exact ih (i + 1) (by omega) ls H locs hM (lv_sub hl [1, 0, 2, 3] rfl)
set_option maxHeartbeats 4000000 in
theorem c_J7_fill_53178 (l : Launch) (D : va_G) (y : Nat → ClassId) (nn : Nat) (ad : Nat → Nat) (sz : Nat) (I : Nat → Int32) (J : Nat → Int64) (A : Nat → Nat → Int32) (B : Nat → Nat → Int64) (G : Nat → Nat → Nat → Int32) {k q n : Nat} (hn : n < 2147483648) (hq : ∀ A : Nat → Nat → Int32, (mw y nn ad I J A B G)[k]? = some (ad q, .inl (y 0, n, .inl (A q)))) (hs : ∀ (A : Nat → Nat → Int32) (f1 : Nat → Int32), (mw y nn ad I J A B G).set k (ad q, .inl (y 0, n, .inl f1)) = mw y nn ad I J (va_up A q f1) B G) (v : Int32) : Met l yJ7_fill_53178 wsJ7_fill_53178 ({ frames := 0, cells := 0, slots := 0, locals := 0 } : Room) (mPc [.ref (ad q), .int v] D y nn ad sz I J A B G) (mQv D y nn ad (mA y nn ad I J A B G sz) (I, J, va_up A q (fil n v (A q)), B, G)) 0 0 (mA y nn ad I J A B G sz) := by
  refine Met.ofW (cc := cJ7_fill_53178) (maxL := 4) (ret := none) (by decide) rfl ?_
  intro p e s m args below meth c s₁ Bd hml hv
  obtain ⟨rfl, hsz, hP, hK, hD0, hN⟩ := hv
  have hr := Bd.returns
  subst hsz
  have F : Fx p s m ([.ref (ad q), .int v] : List Value).toArray meth c cJ7_fill_53178 4 wsJ7_fill_53178 RJ7 D y (mA y nn ad I J A B G s.heap.size) := ⟨⟨Bd.exec, Bd.bytes, hml, findClass_of_methodNamed Bd.named, atoms_spec (ws := wsJ7_fill_53178) Bd.pre⟩, hK, hN, fun q h => Or.inr h, Bd.notSynchronized⟩
  have hM := m_start (s := s) rfl hP hD0
  have hx := F.1.1
  have hb := F.1.2.1
  have hl := lv_entry ([.ref (ad q), .int v]) (n := 4) (Nat.le_of_ble_eq_true rfl)
  rw [lg_entry_eq]
  generalize (lg_sl ([.ref (ad q), .int v]) ++ List.replicate (4 - (lg_sl ([.ref (ad q), .int v])).length) Slot.unset).toArray = ls at hl ⊢
  have hl : lv_has ls 4 [(0, .ref (ad q)), (1, .int v)] := hl
  refine lv_iconst (v := 0) hx hb dJ7_fill_53178_0 (by decide) ?_
  refine lv_istore_n (lv' := [(2, .int 0), (0, .ref (ad q)), (1, .int v)]) hx hb dJ7_fill_53178_1 rfl hl (by decide) rfl (fun ls hl => ?_)
  refine lv_aload_n hx hb dJ7_fill_53178_2 rfl (lv_at hl 1 rfl) ?_
  refine m_alen (t := 0) (v := nI n) F hM (hq _) rfl rfl dJ7_fill_53178_3 ?_
  refine lv_istore_n (lv' := [(3, .int (nI n)), (2, .int 0), (0, .ref (ad q)), (1, .int v)]) hx hb dJ7_fill_53178_4 rfl hl (by decide) rfl (fun ls hl => ?_)
  have hM := m_mem (A2 := va_up A q (fil 0 v (A q))) hM rfl rfl (by rw [fil_0, up_id]) rfl rfl
  exact k_J7_fill_53178 F hr hn hq hs v n 0 (Nat.zero_add n) ls s.heap [] hM hl
set_option maxHeartbeats 4000000 in
theorem k_J7_fill_d0a16 {p : Program} {l : Launch} {e : Env} {s : State} {m : MethodId} {args : Array Value} {below : List Frame} {meth : Method} {c : Code} {D : va_G} {y : Nat → ClassId} {nn : Nat} {ad : Nat → Nat} {A0 : Nat → Prop} {I : Nat → Int32} {J : Nat → Int64} {A : Nat → Nat → Int32} {B : Nat → Nat → Int64} {G : Nat → Nat → Nat → Int32} (F : Fx p s m args meth c cJ7_fill_d0a16 5 wsJ7_fill_d0a16 RJ7 D y A0) (hr : meth.sig.returnType = none) {k q n : Nat} (hn : n < 2147483648) (hq : ∀ B : Nat → Nat → Int64, (mw y nn ad I J A B G)[k]? = some (ad q, .inl (y 1, n, .inr (.inl (B q))))) (hs : ∀ (B : Nat → Nat → Int64) (f1 : Nat → Int64), (mw y nn ad I J A B G).set k (ad q, .inl (y 1, n, .inr (.inl f1))) = mw y nn ad I J A (va_up B q f1) G) (v : Int64) : ∀ (j i : Nat), i + j = n → ∀ (ls : Array Slot) (H : Heap) (locs : List Loc), MM D y nn ad A0 s.heap I J A (va_up B q (fil i v (B q))) G H locs → lv_has ls 5 [(4, .int (nI n)), (3, .int (nI i)), (0, .ref (ad q)), (1, .long v)] → W p l e ({ frames := 0, cells := 0, slots := 0, locals := 0 } : Room) s m args below meth c H locs 0 0 (MQ below (mQv D y nn ad A0 (I, J, A, va_up B q (fil n v (B q)), G)) args s 0 0 A0) (F0 m 6 ls []) := by
  have hx := F.1.1
  have hb := F.1.2.1
  intro j
  induction j with
  | zero =>
    intro i hi ls H locs hM hl
    have e : i = n := by omega
    subst e
    refine lv_iload_n hx hb dJ7_fill_d0a16_6 rfl (lv_at hl 1 rfl) ?_
    refine lv_iload hx hb dJ7_fill_d0a16_7 (lv_at hl 0 rfl) ?_
    refine lv_icmp_ge (tgt := 22) hx hb dJ7_fill_d0a16_9 (by decide) (fun c => ?_) (fun c => ?_)
    · exact m_vret F hM hr rfl dJ7_fill_d0a16_22
    · exact absurd (nI_le (Nat.le_refl i) hn) c
  | succ j ih =>
    intro i hi ls H locs hM hl
    have hlt : i < n := by omega
    refine lv_iload_n hx hb dJ7_fill_d0a16_6 rfl (lv_at hl 1 rfl) ?_
    refine lv_iload hx hb dJ7_fill_d0a16_7 (lv_at hl 0 rfl) ?_
    refine lv_icmp_ge (tgt := 22) hx hb dJ7_fill_d0a16_9 (by decide) (fun c => ?_) (fun c => ?_)
    · exact absurd c (nI_ge hlt hn)
    · have hin : vp_in (nI i) n := vp_in_nI hlt hn
      have hcl : (nI i).toNatClampNeg = i := nI_clamp (by omega)
      refine lv_aload_n hx hb dJ7_fill_d0a16_12 rfl (lv_at hl 2 rfl) ?_
      refine lv_iload_n hx hb dJ7_fill_d0a16_13 rfl (lv_at hl 1 rfl) ?_
      refine lv_lload_n hx hb dJ7_fill_d0a16_14 rfl (lv_at hl 3 rfl) ?_
      refine m_last (f := (va_up B q (fil i v (B q))) q) (B' := va_up B q (fil (i + 1) v (B q))) F hM (hq _) (hs _) (by rw [hcl, va_up_self, fil_sl]; exact bx_uu _ _ _ _) hin dJ7_fill_d0a16_15 (fun H locs hM => ?_)
      refine lv_iinc (v := nI (i + 1)) (lv' := [(3, .int (nI (i + 1))), (4, .int (nI n)), (0, .ref (ad q)), (1, .long v)]) hx hb dJ7_fill_d0a16_16 hl (k := 1) rfl (nI_1 i) (by decide) rfl (fun ls hl => ?_)
      refine lv_goto (tgt := 6) hx hb dJ7_fill_d0a16_19 (by decide) ?_
      exact ih (i + 1) (by omega) ls H locs hM (lv_sub hl [1, 0, 2, 3] rfl)
set_option maxHeartbeats 4000000 in
theorem c_J7_fill_d0a16 (l : Launch) (D : va_G) (y : Nat → ClassId) (nn : Nat) (ad : Nat → Nat) (sz : Nat) (I : Nat → Int32) (J : Nat → Int64) (A : Nat → Nat → Int32) (B : Nat → Nat → Int64) (G : Nat → Nat → Nat → Int32) {k q n : Nat} (hn : n < 2147483648) (hq : ∀ B : Nat → Nat → Int64, (mw y nn ad I J A B G)[k]? = some (ad q, .inl (y 1, n, .inr (.inl (B q))))) (hs : ∀ (B : Nat → Nat → Int64) (f1 : Nat → Int64), (mw y nn ad I J A B G).set k (ad q, .inl (y 1, n, .inr (.inl f1))) = mw y nn ad I J A (va_up B q f1) G) (v : Int64) : Met l yJ7_fill_d0a16 wsJ7_fill_d0a16 ({ frames := 0, cells := 0, slots := 0, locals := 0 } : Room) (mPc [.ref (ad q), .long v] D y nn ad sz I J A B G) (mQv D y nn ad (mA y nn ad I J A B G sz) (I, J, A, va_up B q (fil n v (B q)), G)) 0 0 (mA y nn ad I J A B G sz) := by
  refine Met.ofW (cc := cJ7_fill_d0a16) (maxL := 5) (ret := none) (by decide) rfl ?_
  intro p e s m args below meth c s₁ Bd hml hv
  obtain ⟨rfl, hsz, hP, hK, hD0, hN⟩ := hv
  have hr := Bd.returns
  subst hsz
  have F : Fx p s m ([.ref (ad q), .long v] : List Value).toArray meth c cJ7_fill_d0a16 5 wsJ7_fill_d0a16 RJ7 D y (mA y nn ad I J A B G s.heap.size) := ⟨⟨Bd.exec, Bd.bytes, hml, findClass_of_methodNamed Bd.named, atoms_spec (ws := wsJ7_fill_d0a16) Bd.pre⟩, hK, hN, fun q h => Or.inr h, Bd.notSynchronized⟩
  have hM := m_start (s := s) rfl hP hD0
  have hx := F.1.1
  have hb := F.1.2.1
  have hl := lv_entry ([.ref (ad q), .long v]) (n := 5) (Nat.le_of_ble_eq_true rfl)
  rw [lg_entry_eq]
  generalize (lg_sl ([.ref (ad q), .long v]) ++ List.replicate (5 - (lg_sl ([.ref (ad q), .long v])).length) Slot.unset).toArray = ls at hl ⊢
  have hl : lv_has ls 5 [(0, .ref (ad q)), (1, .long v)] := hl
  refine lv_iconst (v := 0) hx hb dJ7_fill_d0a16_0 (by decide) ?_
  refine lv_istore_n (lv' := [(3, .int 0), (0, .ref (ad q)), (1, .long v)]) hx hb dJ7_fill_d0a16_1 rfl hl (by decide) rfl (fun ls hl => ?_)
  refine lv_aload_n hx hb dJ7_fill_d0a16_2 rfl (lv_at hl 1 rfl) ?_
  refine m_alen (t := 1) (v := nI n) F hM (hq _) rfl rfl dJ7_fill_d0a16_3 ?_
  refine lv_istore (lv' := [(4, .int (nI n)), (3, .int 0), (0, .ref (ad q)), (1, .long v)]) hx hb dJ7_fill_d0a16_4 hl (by decide) rfl (fun ls hl => ?_)
  have hM := m_mem (B2 := va_up B q (fil 0 v (B q))) hM rfl rfl rfl (by rw [fil_0, up_id]) rfl
  exact k_J7_fill_d0a16 F hr hn hq hs v n 0 (Nat.zero_add n) ls s.heap [] hM hl
