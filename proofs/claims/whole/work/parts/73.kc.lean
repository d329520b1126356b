/-! ===== one cell that changes, and what is new behind ===== -/
def wd (ws : va_W) (k0 : Nat) (e : Nat × va_E) (Z : va_W) : va_W := ws.set k0 e ++ Z
theorem wd_lt {ws : va_W} {k0 : Nat} {e : Nat × va_E} (h : ws[k0]? = some e) : k0 < ws.length := (List.getElem?_eq_some_iff.mp h).1
theorem wd_0 {ws : va_W} {k0 : Nat} {e : Nat × va_E} (h : ws[k0]? = some e) : ws = wd ws k0 e [] := by
  unfold wd
  rw [List.append_nil]
  refine List.ext_getElem? (fun i => ?_)
  rw [List.getElem?_set]
  by_cases c : k0 = i
  · subst c
    rw [if_pos rfl, if_pos (wd_lt h), h]
  · rw [if_neg c]
theorem wd_at {ws : va_W} {k0 : Nat} {e : Nat × va_E} {Z : va_W} (h : k0 < ws.length) : (wd ws k0 e Z)[k0]? = some e := by
  unfold wd
  rw [List.getElem?_append_left (by rw [List.length_set]; exact h), List.getElem?_set, if_pos rfl, if_pos h]
theorem wd_ne {ws : va_W} {k0 k : Nat} {e x : Nat × va_E} {Z : va_W} (hk : k0 ≠ k) (h : ws[k]? = some x) : (wd ws k0 e Z)[k]? = some x := by
  unfold wd
  rw [List.getElem?_append_left (by rw [List.length_set]; exact wd_lt h), List.getElem?_set, if_neg hk, h]
theorem wd_set {ws : va_W} {k0 : Nat} {e e' : Nat × va_E} {Z : va_W} (h : k0 < ws.length) : (wd ws k0 e Z).set k0 e' = wd ws k0 e' Z := by
  unfold wd
  rw [List.set_append_left _ _ (by rw [List.length_set]; exact h), List.set_set]
theorem kk_app {D : va_G} {A0 : Nat → Prop} {H0 : Heap} {ws : va_W} {k0 : Nat} {e : Nat × va_E} {Z Z' : va_W} {H : Heap} {locs : List Loc} (h : KK D A0 H0 (wd ws k0 e Z ++ Z') H locs) : KK D A0 H0 (wd ws k0 e (Z ++ Z')) H locs := by
  unfold wd at h ⊢
  rw [List.append_assoc] at h
  exact h
theorem kk_0 {D : va_G} {A0 : Nat → Prop} {H0 : Heap} {ws : va_W} {k0 : Nat} {e : Nat × va_E} {H : Heap} {locs : List Loc} (hk : ws[k0]? = some e) (h : KK D A0 H0 ws H locs) : KK D A0 H0 (wd ws k0 e []) H locs := by
  rw [← wd_0 hk]
  exact h
theorem nI_nneg {n : Nat} (h : n < 2147483648) : ¬ nI n < (0 : Int32) := by
  rw [zero32, nI_lti h (by omega)]
  omega
section KC
variable {p : Program} {l : Launch} {e : Env} {R : Room} {s : State} {m : MethodId} {args : Array Value} {below : List Frame} {meth : Method} {c : Code} {H : Heap} {locs : List Loc} {cells slots : Nat} {Q : State → Prop} {cc : ByteArray} {nL : Nat} {Ts : List Cond} {own : String} {D : va_G} {y : Nat → ClassId} {A0 : Nat → Prop} {ws : va_W} {pc : Nat} {ls : Array Slot} {rest : List Value}
theorem k_callI {S : Type} {Wf : S → va_W} (F : Fx p s m args meth c cc nL Ts own D y A0) (hao : va_AOA .int s) (hM : KK D A0 s.heap ws H locs) {ym : MethodName} {bytes : ByteArray} {maxL n index b mc ms : Nat} {wsm : List Cond} {rm : Room} {As : List Value} (hMet : Met l ym wsm rm (kPc (Value.ref b :: As) D y ws H.size) (kQ D y (va_A ws H.size) Wf) mc ms (va_A ws H.size)) (cw : CallB R s args own index ym bytes maxL none wsm rm mc ms n ∧ ym.name = "<init>" ∧ (Cond.instanceMethod ym).before args s = true) (hn : As.length = n) (hl : ls.size = nL) (hw8 : (rest.map fun v => v.category).sum ≤ 8) (hdg : decode cc pc = .ok (.invokespecial index, 3)) (hf : cells + mc ≤ R.cells ∧ slots + ms ≤ R.slots)
    (kk : ∀ (u : S) (H1 : Heap) (locs1 : List Loc), KK D A0 s.heap (Wf u) H1 locs1 → W p l e R s m args below meth c H1 locs1 (cells + mc) (slots + ms) Q (F0 m (pc + 3) ls rest)) : W p l e R s m args below meth c H locs cells slots Q (F0 m pc ls (As.reverse ++ .ref b :: rest)) := by
  have hFc := k_free F hM
  refine va_callv (va_runI (As := As) (rest := rest) F.1 hMet cw ⟨kPc_blind, fun U hU hW => ⟨rfl, by rw [hU], by rw [hU]; exact hM.1, va_K.moved hW.alike F.2.1, hM.2.1.weaken (fun _ _ _ _ => trivial), F.2.2.1.warm hW, va_AOA.moved hW.alike hao⟩⟩ rfl hn hl rfl (lv_room hw8) hdg hf) hM.2.2 (fun q _ h => hFc q h) hFc (fun u t H1 locs1 ht hvm hw hB hz1 hk1 hS1 => ?_)
  obtain ⟨hP1, hK1, hD1⟩ := hB
  rw [ht] at hP1
  exact kk u H1 locs1 ⟨hP1, hD1.weaken (fun _ _ _ h => hFc _ h), hS1⟩
theorem k_callS {S : Type} {Wf : S → va_W} (F : Fx p s m args meth c cc nL Ts own D y A0) (hao : va_AOA .int s) (hM : KK D A0 s.heap ws H locs) {ym : MethodName} {bytes : ByteArray} {maxL n index mc ms : Nat} {wsm : List Cond} {rm : Room} {As : List Value} (hMet : Met l ym wsm rm (kPc As D y ws H.size) (kQ D y (va_A ws H.size) Wf) mc ms (va_A ws H.size)) (cw : CallB R s args own index ym bytes maxL none wsm rm mc ms n ∧ (Cond.static ym).before args s = true) (hn : As.length = n) (hl : ls.size = nL) (hw8 : (rest.map fun v => v.category).sum ≤ 8) (hdg : decode cc pc = .ok (.invokestatic index, 3)) (hf : cells + mc ≤ R.cells ∧ slots + ms ≤ R.slots)
    (kk : ∀ (u : S) (H1 : Heap) (locs1 : List Loc), KK D A0 s.heap (Wf u) H1 locs1 → W p l e R s m args below meth c H1 locs1 (cells + mc) (slots + ms) Q (F0 m (pc + 3) ls rest)) : W p l e R s m args below meth c H locs cells slots Q (F0 m pc ls (As.reverse ++ rest)) := by
  have hFc := k_free F hM
  refine va_callv (va_runS (As := As) (rest := rest) F.1 hMet cw ⟨kPc_blind, fun U hU hW => ⟨rfl, by rw [hU], by rw [hU]; exact hM.1, va_K.moved hW.alike F.2.1, hM.2.1.weaken (fun _ _ _ _ => trivial), F.2.2.1.warm hW, va_AOA.moved hW.alike hao⟩⟩ rfl hn hl rfl (lv_room hw8) hdg hf) hM.2.2 (fun q _ h => hFc q h) hFc (fun u t H1 locs1 ht hvm hw hB hz1 hk1 hS1 => ?_)
  obtain ⟨hP1, hK1, hD1⟩ := hB
  rw [ht] at hP1
  exact kk u H1 locs1 ⟨hP1, hD1.weaken (fun _ _ _ h => hFc _ h), hS1⟩
end KC
set_option maxHeartbeats 4000000 in
theorem kw_fill {p : Program} {l : Launch} {e : Env} {s : State} {m : MethodId} {args : Array Value} {below : List Frame} {meth : Method} {c : Code} {D : va_G} {y : Nat → ClassId} {A0 : Nat → Prop} {ws : va_W} (F : Fx p s m args meth c cJ7_fill_53178 4 wsJ7_fill_53178 RJ7 D y A0) (hr : meth.sig.returnType = none) {k a n : Nat} (hn : n < 2147483648) {f : Nat → Int32} (hk : k < ws.length) (v : Int32) : ∀ (j i : Nat), i + j = n → ∀ (ls : Array Slot) (H : Heap) (locs : List Loc), KK D A0 s.heap (ws.set k (a, .inl (y 0, n, .inl (fil i v f)))) H locs → lv_has ls 4 [(3, .int (nI n)), (2, .int (nI i)), (0, .ref a), (1, .int v)] → W p l e ({ frames := 0, cells := 0, slots := 0, locals := 0 } : Room) s m args below meth c H locs 0 0 (MQ below (kQ D y A0 (fun _ : Unit => ws.set k (a, .inl (y 0, n, .inl (fil n v f))))) args s 0 0 A0) (F0 m 5 ls []) := by
  have hx := F.1.1
  have hb := F.1.2.1
  intro j
  induction j with
  | zero =>
    intro i hi ls H locs hM hl
    have e : i = n := by omega
    subst e
    refine lv_iload_n hx hb dJ7_fill_53178_5 rfl (lv_at hl 1 rfl) ?_
    refine lv_iload_n hx hb dJ7_fill_53178_6 rfl (lv_at hl 0 rfl) ?_
    refine lv_icmp_ge (tgt := 20) hx hb dJ7_fill_53178_7 (by decide) (fun c => ?_) (fun c => ?_)
    · exact k_vret F hM hr () rfl dJ7_fill_53178_20
    · exact absurd (nI_le (Nat.le_refl i) hn) c
  | succ j ih =>
    intro i hi ls H locs hM hl
    have hlt : i < n := by omega
    refine lv_iload_n hx hb dJ7_fill_53178_5 rfl (lv_at hl 1 rfl) ?_
    refine lv_iload_n hx hb dJ7_fill_53178_6 rfl (lv_at hl 0 rfl) ?_
    refine lv_icmp_ge (tgt := 20) hx hb dJ7_fill_53178_7 (by decide) (fun c => ?_) (fun c => ?_)
    · exact absurd c (nI_ge hlt hn)
    · have hin : vp_in (nI i) n := vp_in_nI hlt hn
      have hcl : (nI i).toNatClampNeg = i := nI_clamp (by omega)
      refine lv_aload_n hx hb dJ7_fill_53178_10 rfl (lv_at hl 2 rfl) ?_
      refine lv_iload_n hx hb dJ7_fill_53178_11 rfl (lv_at hl 1 rfl) ?_
      refine lv_iload_n hx hb dJ7_fill_53178_12 rfl (lv_at hl 3 rfl) ?_
      refine k_iast (k := k) (f := fil i v f) F hM (by rw [List.getElem?_set, if_pos rfl, if_pos hk]) hin dJ7_fill_53178_13 (fun H locs hM => ?_)
      rw [List.set_set, hcl, fil_s] at hM
      refine lv_iinc (v := nI (i + 1)) (lv' := [(2, .int (nI (i + 1))), (3, .int (nI n)), (0, .ref a), (1, .int v)]) hx hb dJ7_fill_53178_14 hl (k := 1) rfl (nI_1 i) (by decide) rfl (fun ls hl => ?_)
      refine lv_goto (tgt := 5) hx hb dJ7_fill_53178_17 (by decide) ?_
      exact ih (i + 1) (by omega) ls H locs hM (lv_sub hl [1, 0, 2, 3] rfl)
set_option maxHeartbeats 4000000 in
theorem ck_fill (l : Launch) (D : va_G) (y : Nat → ClassId) (ws : va_W) (sz : Nat) {k a n : Nat} (hn : n < 2147483648) {f : Nat → Int32} (hk : ws[k]? = some (a, .inl (y 0, n, .inl f))) (v : Int32) : Met l yJ7_fill_53178 wsJ7_fill_53178 ({ frames := 0, cells := 0, slots := 0, locals := 0 } : Room) (kPc [.ref a, .int v] D y ws sz) (kQ D y (va_A ws sz) (fun _ : Unit => ws.set k (a, .inl (y 0, n, .inl (fil n v f))))) 0 0 (va_A ws sz) := by
  refine Met.ofW (cc := cJ7_fill_53178) (maxL := 4) (ret := none) (by decide) rfl ?_
  intro p e s m args below meth c s₁ Bd hml hv
  obtain ⟨rfl, hsz, hP, hK, hD0, hN, hao⟩ := hv
  have hr := Bd.returns
  subst hsz
  have F : Fx p s m ([.ref a, .int v] : List Value).toArray meth c cJ7_fill_53178 4 wsJ7_fill_53178 RJ7 D y (va_A ws s.heap.size) := ⟨⟨Bd.exec, Bd.bytes, hml, findClass_of_methodNamed Bd.named, atoms_spec (ws := wsJ7_fill_53178) Bd.pre⟩, hK, hN, fun q h => Or.inr h, Bd.notSynchronized⟩
  have hM := k_start (s := s) rfl hP hD0
  have hx := F.1.1
  have hb := F.1.2.1
  have hl := lv_entry ([.ref a, .int v]) (n := 4) (Nat.le_of_ble_eq_true rfl)
  rw [lg_entry_eq]
  generalize (lg_sl ([.ref a, .int v]) ++ List.replicate (4 - (lg_sl ([.ref a, .int v])).length) Slot.unset).toArray = ls at hl ⊢
  have hl : lv_has ls 4 [(0, .ref a), (1, .int v)] := hl
  refine lv_iconst (v := 0) hx hb dJ7_fill_53178_0 (by decide) ?_
  refine lv_istore_n (lv' := [(2, .int 0), (0, .ref a), (1, .int v)]) hx hb dJ7_fill_53178_1 rfl hl (by decide) rfl (fun ls hl => ?_)
  refine lv_aload_n hx hb dJ7_fill_53178_2 rfl (lv_at hl 1 rfl) ?_
  refine k_alen (t := 0) (v := nI n) F hM hk rfl rfl dJ7_fill_53178_3 ?_
  refine lv_istore_n (lv' := [(3, .int (nI n)), (2, .int 0), (0, .ref a), (1, .int v)]) hx hb dJ7_fill_53178_4 rfl hl (by decide) rfl (fun ls hl => ?_)
  have e0 : ws.set k (a, .inl (y 0, n, .inl (fil 0 v f))) = ws := by
    rw [fil_0]
    have := wd_0 hk
    unfold wd at this
    rw [List.append_nil] at this
    exact this.symm
  exact kw_fill F hr hn (wd_lt hk) v n 0 (Nat.zero_add n) ls s.heap [] (by rw [e0]; exact hM) hl
