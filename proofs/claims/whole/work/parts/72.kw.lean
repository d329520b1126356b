/-! ===== worlds that grow: constructors ===== -/
def va_AOA (ty : FieldType) (U : State) : Prop := (Cond.arrayOver (.array ty)).before #[] U = true
theorem va_AOA.use {ty : FieldType} {args : Array Value} {U : State} (h : va_AOA ty U) : (Cond.arrayOver (.array ty)).before args U = true := h
theorem ao_spec {s : State} {t : FieldType} (h : va_AOA t s) :
    ∃ comp c k, s.vm.findClass (FieldType.array t).toString = some comp ∧ (s.vm.classes.findIdx? fun (x : Class) => match x.kind with | .array component _ => component == comp | _ => false) = some c ∧ s.vm.classes[c]? = some k ∧ k.kind = .array comp (.array t) ∧ s.vm.findClass ("[" ++ (FieldType.array t).toString) = some c := by
  unfold va_AOA Cond.before at h
  simp only [Cond.holds, Cond.value, beq_iff_eq] at h
  cases hc : s.vm.findClass (FieldType.array t).toString with
  | none => simp [hc] at h
  | some comp =>
    simp only [hc, Option.bind_some, Option.bind_eq_some_iff, Option.map_eq_some_iff] at h
    obtain ⟨c, hi, k, hk, hb⟩ := h
    obtain ⟨hlt, hp, -⟩ := Array.findIdx?_eq_some_iff_getElem.mp hi
    have hkk : s.vm.classes[c] = k := (Array.getElem?_eq_some_iff.mp hk).2
    rw [hkk] at hp
    cases hkind : k.kind with
    | array component ty =>
      rw [hkind] at hb hp
      simp at hb hp
      exact ⟨comp, c, k, rfl, hi, hk, by rw [hkind, hp, hb.1], hb.2⟩
    | _ => rw [hkind] at hb; simp at hb
theorem va_AOA.moved {t : FieldType} {u U : State} (hvm : u.vm.Alike U.vm) (h : va_AOA t u) : va_AOA t U := by
  obtain ⟨comp, c, k, h1, h2, h3, h4, h5⟩ := ao_spec h
  obtain ⟨k', hk', he⟩ := hvm.2.2 _ _ h3
  have hi : (U.vm.classes.findIdx? fun (x : Class) => match x.kind with | .array component _ => component == comp | _ => false) = some c := by
    have q1 := va_idx_bare U.vm comp
    have q2 := va_idx_bare u.vm comp
    have q3 : U.vm.bare = u.vm.bare := by first | exact hvm.bare_eq | exact hvm.bare_eq.symm
    rw [q3] at q1
    exact (q1.symm.trans q2).trans h2
  have hkind : k'.kind = .array comp (.array t) := by rw [he]; exact h4
  have f1 : U.vm.findClass (FieldType.array t).toString = some comp := by rw [hvm.findClass]; exact h1
  have f2 : U.vm.findClass ("[" ++ (FieldType.array t).toString) = some c := by rw [hvm.findClass]; exact h5
  unfold va_AOA Cond.before Cond.holds
  simp only [Cond.value]
  rw [f1, Option.bind_some]
  refine (congrArg (fun o : Option Nat => (o.bind (fun c => (U.vm.classes[c]?).map fun (k : Class) => match k.kind with | .array _ ty => decide (ty = FieldType.array t) && decide (U.vm.findClass ("[" ++ (FieldType.array t).toString) = some c) | _ => false) == some true)) hi).trans ?_
  simp [hk', hkind, f2]
/-- the heap holds the world -/
def KK (D : va_G) (A0 : Nat → Prop) (H0 : Heap) (ws : va_W) (H : Heap) (locs : List Loc) : Prop := va_P D vwCl ws H ∧ va_D A0 ws ∧ va_S A0 H0 H locs
def kPc (av : List Value) (D : va_G) (y : Nat → ClassId) (ws : va_W) (sz : Nat) : Array Value → State → Prop :=
  va_Pc av (fun U => U.heap.size = sz ∧ va_P D vwCl ws U.heap ∧ va_K D vwCl (mtys y) U ∧ va_D (fun _ => True) ws ∧ mNst U ∧ va_AOA .int U)
def kB {S : Type} (D : va_G) (y : Nat → ClassId) (A0 : Nat → Prop) (Wf : S → va_W) (u : S) (t : State) : Prop := va_P D vwCl (Wf u) t.heap ∧ va_K D vwCl (mtys y) t ∧ va_D A0 (Wf u)
def kQ {S : Type} (D : va_G) (y : Nat → ClassId) (A0 : Nat → Prop) (Wf : S → va_W) : Array Value → State → Outcome → State → Prop := va_Qv (fun _ : S => True) (kB D y A0 Wf) A0
theorem kPc_blind {av : List Value} {D : va_G} {y : Nat → ClassId} {ws : va_W} {sz : Nat} : FrameBlind (kPc av D y ws sz) := by
  intro a U g mk q
  obtain ⟨q0, q1, qP, qK, qD, qN, qA⟩ := q
  exact ⟨q0, q1, qP, va_K.moved (u := U) (U := U.calling g mk a) (Vm.Alike.refl U.vm) qK, qD, mNst.same (u := U) (U := U.calling g mk a) rfl qN, va_AOA.moved (u := U) (U := U.calling g mk a) (Vm.Alike.refl U.vm) qA⟩
section KR
variable {p : Program} {l : Launch} {e : Env} {R : Room} {s : State} {m : MethodId} {args : Array Value} {below : List Frame} {meth : Method} {c : Code} {H : Heap} {locs : List Loc} {cells slots : Nat} {Q : State → Prop} {cc : ByteArray} {nL : Nat} {Ts : List Cond} {own : String} {D : va_G} {y : Nat → ClassId} {A0 : Nat → Prop} {ws : va_W} {pc : Nat} {ls : Array Slot} {rest : List Value}
theorem k_get (F : Fx p s m args meth c cc nL Ts own D y A0) (hM : KK D A0 s.heap ws H locs) {C : String} {T : u_T} {N ci index a : Nat} (q0 : Nat) {fs : List Value} (he : ws[q0]? = some (a, .inr (ci, fs))) (hc : vwCl[ci]? = some (C, T, N)) (k : Nat) (hk : k < N) (hin : ∀ w ∈ u_ws C T N, w ∈ Ts) (hl : Cond.fieldLink own index (T k).1 (T k).2.1 (T k).2.2.1 ∈ Ts) {v : Value} (hv : fs[k]? = some v) (hdg : decode cc pc = .ok (.getfield index, 3))
    (kk : W p l e R s m args below meth c H locs cells slots Q (F0 m (pc + 3) ls (v :: rest))) : W p l e R s m args below meth c H locs cells slots Q (F0 m pc ls (.ref a :: rest)) := va_get F.1.1 F.1.2.1 F.1.2.2.2.2 hin F.1.2.2.2.1 F.2.1 hM.1 q0 he hc k hk (F.1.2.2.2.2 _ hl) (fun _ h => h) hv hdg kk
theorem k_getN (F : Fx p s m args meth c cc nL Ts own D y A0) (hM : KK D A0 s.heap ws H locs) {C : String} {T : u_T} {N ci index a : Nat} (q0 : Nat) {fs : List Value} (he : ws[q0]? = some (a, .inr (ci, fs))) (hc : vwCl[ci]? = some (C, T, N)) (k : Nat) (hk : k < N) (hin : ∀ w ∈ u_ws C T N, w ∈ Ts) (hl : Cond.fieldLinkNest own index (T k).1 (T k).2.1 (T k).2.2.1 "RoundBounds" ∈ mst) {v : Value} (hv : fs[k]? = some v) (hdg : decode cc pc = .ok (.getfield index, 3))
    (kk : W p l e R s m args below meth c H locs cells slots Q (F0 m (pc + 3) ls (v :: rest))) : W p l e R s m args below meth c H locs cells slots Q (F0 m pc ls (.ref a :: rest)) := va_getN F.1.1 F.1.2.1 F.1.2.2.2.2 hin F.1.2.2.2.1 F.2.1 hM.1 q0 he hc k hk (va_Nw.use (mst_tab _ hl) (F.2.2.1 _ hl)) (fun _ h => h) hv hdg kk
theorem k_put (F : Fx p s m args meth c cc nL Ts own D y A0) (hM : KK D A0 s.heap ws H locs) {C : String} {T : u_T} {N ci index a : Nat} (q0 : Nat) {fs : List Value} (he : ws[q0]? = some (a, .inr (ci, fs))) (hc : vwCl[ci]? = some (C, T, N)) (ty0 : Nat → FieldType) (hty : ∀ k, k < N → parseFieldDescriptor (T k).2.2.1 = some (ty0 k)) (hnm : ∀ a, a < N → ∀ b, b < N → a ≠ b → (T a).2.1 ≠ (T b).2.1) (k : Nat) (hk : k < N) (hin : ∀ w ∈ u_ws C T N, w ∈ Ts) (hl : Cond.fieldLink own index (T k).1 (T k).2.1 (T k).2.2.1 ∈ Ts) (hfin : (T k).2.2.2 = false) {ty : FieldType} {v : Value} (hd : parseFieldDescriptor (T k).2.2.1 = some ty) (hn : narrow ty v = v) (hfit : fits ty v = true) (hle : k < fs.length) {ws2 : va_W} (hs : ws.set q0 (a, .inr (ci, fs.set k v)) = ws2) (hdg : decode cc pc = .ok (.putfield index, 3))
    (kk : ∀ (H1 : Heap) (locs1 : List Loc), KK D A0 s.heap ws2 H1 locs1 → W p l e R s m args below meth c H1 locs1 cells slots Q (F0 m (pc + 3) ls rest)) : W p l e R s m args below meth c H locs cells slots Q (F0 m pc ls (v :: .ref a :: rest)) := by
  subst hs
  exact va_put F.1.1 F.1.2.1 F.1.2.2.2.2 hin ty0 hty hnm F.1.2.2.2.1 F.2.1 hM.1 hM.2.1 hM.2.2 q0 he hc k hk (F.1.2.2.2.2 _ hl) (fun _ h => h) hfin hd hn hfit hle hdg (fun H1 locs1 hP hD hS => kk H1 locs1 ⟨hP, hD, hS⟩)
theorem k_putF (F : Fx p s m args meth c cc nL Ts own D y A0) (hM : KK D A0 s.heap ws H locs) {C : String} {T : u_T} {N ci index a : Nat} (q0 : Nat) {fs : List Value} (he : ws[q0]? = some (a, .inr (ci, fs))) (hc : vwCl[ci]? = some (C, T, N)) (ty0 : Nat → FieldType) (hty : ∀ k, k < N → parseFieldDescriptor (T k).2.2.1 = some (ty0 k)) (hnm : ∀ a, a < N → ∀ b, b < N → a ≠ b → (T a).2.1 ≠ (T b).2.1) (k : Nat) (hk : k < N) (hin : ∀ w ∈ u_ws C T N, w ∈ Ts) (hl : Cond.fieldLink own index (T k).1 (T k).2.1 (T k).2.2.1 ∈ Ts) (hfin : (T k).2.2.2 = true) (hmn : meth.name = "<init>") (hdc : (T k).1 = own) {ty : FieldType} {v : Value} (hd : parseFieldDescriptor (T k).2.2.1 = some ty) (hn : narrow ty v = v) (hfit : fits ty v = true) (hle : k < fs.length) {ws2 : va_W} (hs : ws.set q0 (a, .inr (ci, fs.set k v)) = ws2) (hdg : decode cc pc = .ok (.putfield index, 3))
    (kk : ∀ (H1 : Heap) (locs1 : List Loc), KK D A0 s.heap ws2 H1 locs1 → W p l e R s m args below meth c H1 locs1 cells slots Q (F0 m (pc + 3) ls rest)) : W p l e R s m args below meth c H locs cells slots Q (F0 m pc ls (v :: .ref a :: rest)) := by
  subst hs
  exact va_putF F.1.1 F.1.2.1 F.1.2.2.2.2 hin ty0 hty hnm F.1.2.2.2.1 F.2.1 hM.1 hM.2.1 hM.2.2 q0 he hc k hk (F.1.2.2.2.2 _ hl) (fun _ h => h) hfin hmn hdc hd hn hfit hle hdg (fun H1 locs1 hP hD hS => kk H1 locs1 ⟨hP, hD, hS⟩)
theorem k_newa (F : Fx p s m args meth c cc nL Ts own D y A0) (hM : KK D A0 s.heap ws H locs) {atype : ArrayType} {ty : FieldType} (hty : newarray.typeOf atype = ty) (harr : Cond.arrayClass (newarray.typeOf atype) ∈ Ts) (t0 : Nat) {ct : ClassId} (ht : (mtys y)[t0]? = some (ct, ty)) (hra : ∀ c, va_RA s c ty → s.vm.findClass ("[" ++ ty.toString) = some c) {n : Int32} {N' : Nat} {a0 : vp_A} (ha : ∀ cA : ClassId, vp_cell cA a0 = arrV cA N' (fun _ => defaultValue ty)) (hn : ¬ n < 0) (hN : n.toNatClampNeg = N') (hbytes : N' * componentBytes ty ≤ 536870912) (hcells : cells + 1 ≤ R.cells) (hslots : slots + N' ≤ R.slots) (hdg : decode cc pc = .ok (.newarray atype, 2))
    (kk : ∀ (q : Nat) (H1 : Heap), KK D A0 s.heap (ws ++ [(q, .inl (ct, a0))]) H1 locs → W p l e R s m args below meth c H1 locs (cells + 1) (slots + N') Q (F0 m (pc + 2) ls (.ref q :: rest))) : W p l e R s m args below meth c H locs cells slots Q (F0 m pc ls (.int n :: rest)) := by
  refine va_newa F.1.1 F.1.2.1 (F.1.2.2.2.2 _ harr) hty F.2.1 hM.1 hM.2.1 hM.2.2 F.2.2.2.1 ha hn hN hbytes hcells hslots hdg (fun q cA H1 hK1 hP1 hD1 hS1 => ?_)
  have h1 := hra _ (hK1.2 4 (cA, ty) rfl).2
  have h2 := hra _ (F.2.1.2 t0 _ ht).2
  have e : cA = ct := Option.some.inj (h1.symm.trans h2)
  subst e
  exact kk q H1 ⟨hP1, hD1, hS1⟩
theorem k_new (F : Fx p s m args meth c cc nL Ts own D y A0) (hM : KK D A0 s.heap ws H locs) {C : String} {T : u_T} {N ci index : Nat} (hin : ∀ w ∈ u_ws C T N, w ∈ Ts) (ty : Nat → FieldType) (hty : ∀ k, k < N → parseFieldDescriptor (T k).2.2.1 = some (ty k)) (hcl : Cond.classLink own index C ∈ Ts) (hinst : Cond.instantiable C N ∈ Ts) (hini : Cond.initialized C ∈ Ts) (hc : vwCl[ci]? = some (C, T, N)) {fs : List Value} (hfs : ∀ j, j < N → defaultValue (ty j) = vp_V fs j) (hcells : cells + 1 ≤ R.cells) (hslots : slots + N ≤ R.slots) (hdg : decode cc pc = .ok (.new index, 3))
    (kk : ∀ (q : Nat) (H1 : Heap), KK D A0 s.heap (ws ++ [(q, .inr (ci, fs))]) H1 locs → W p l e R s m args below meth c H1 locs (cells + 1) (slots + N) Q (F0 m (pc + 3) ls (.ref q :: rest))) : W p l e R s m args below meth c H locs cells slots Q (F0 m pc ls rest) :=
  va_new F.1.1 F.1.2.1 F.1.2.2.2.2 hin ty hty F.1.2.2.2.1 (F.1.2.2.2.2 _ hcl) (F.1.2.2.2.2 _ hinst) (F.1.2.2.2.2 _ hini) F.2.1 hM.1 hM.2.1 hM.2.2 F.2.2.2.1 hc hfs hcells hslots hdg (fun q H1 hP1 hD1 hS1 => kk q H1 ⟨hP1, hD1, hS1⟩)
theorem k_iast (F : Fx p s m args meth c cc nL Ts own D y A0) (hM : KK D A0 s.heap ws H locs) {k a n : Nat} {f : Nat → Int32} (hq : ws[k]? = some (a, .inl (y 0, n, .inl f))) {i : Int32} {x : Int32} (hin : vp_in i n) (hdg : decode cc pc = .ok (.iastore, 1))
    (kk : ∀ (H1 : Heap) (locs1 : List Loc), KK D A0 s.heap (ws.set k (a, .inl (y 0, n, .inl (upd f i.toNatClampNeg x)))) H1 locs1 → W p l e R s m args below meth c H1 locs1 cells slots Q (F0 m (pc + 1) ls rest)) : W p l e R s m args below meth c H locs cells slots Q (F0 m pc ls (.int x :: .int i :: .ref a :: rest)) :=
  va_iast F.1.1 F.1.2.1 F.2.1 hM.1 hM.2.1 hM.2.2 k 0 hq rfl hin hdg (fun H1 locs1 hP hD hS => kk H1 locs1 ⟨hP, hD, hS⟩)
theorem k_last (F : Fx p s m args meth c cc nL Ts own D y A0) (hM : KK D A0 s.heap ws H locs) {k a n : Nat} {f : Nat → Int64} (hq : ws[k]? = some (a, .inl (y 1, n, .inr (.inl f)))) {i : Int32} {x : Int64} (hin : vp_in i n) (hdg : decode cc pc = .ok (.lastore, 1))
    (kk : ∀ (H1 : Heap) (locs1 : List Loc), KK D A0 s.heap (ws.set k (a, .inl (y 1, n, .inr (.inl (vp_updL f i.toNatClampNeg x))))) H1 locs1 → W p l e R s m args below meth c H1 locs1 cells slots Q (F0 m (pc + 1) ls rest)) : W p l e R s m args below meth c H locs cells slots Q (F0 m pc ls (.long x :: .int i :: .ref a :: rest)) :=
  va_last F.1.1 F.1.2.1 F.2.1 hM.1 hM.2.1 hM.2.2 k 1 hq rfl hin hdg (fun H1 locs1 hP hD hS => kk H1 locs1 ⟨hP, hD, hS⟩)
theorem k_alen (F : Fx p s m args meth c cc nL Ts own D y A0) (hM : KK D A0 s.heap ws H locs) {k a t : Nat} {z : vp_A} {ty : FieldType} (hq : ws[k]? = some (a, .inl (y t, z))) (ht : (mtys y)[t]? = some (y t, ty)) {v : Int32} (hv : Int32.ofNat z.1 = v) (hdg : decode cc pc = .ok (.arraylength, 1))
    (kk : W p l e R s m args below meth c H locs cells slots Q (F0 m (pc + 1) ls (.int v :: rest))) : W p l e R s m args below meth c H locs cells slots Q (F0 m pc ls (.ref a :: rest)) := va_alen F.1.1 F.1.2.1 F.2.1 hM.1 k t hq ht hv hdg kk
theorem k_aald (F : Fx p s m args meth c cc nL Ts own D y A0) (hM : KK D A0 s.heap ws H locs) {k a n : Nat} {r : Nat → Nat} (hq : ws[k]? = some (a, .inl (y 3, n, .inr (.inr (.inr (.inr (fun i => if i < n then some (r i) else none))))))) {i : Int32} (hin : vp_in i n) (hdg : decode cc pc = .ok (.aaload, 1))
    (kk : W p l e R s m args below meth c H locs cells slots Q (F0 m (pc + 1) ls (.ref (r i.toNatClampNeg) :: rest))) : W p l e R s m args below meth c H locs cells slots Q (F0 m pc ls (.int i :: .ref a :: rest)) := by
  have hlt : i.toNatClampNeg < n := vp_lt hin
  have hv : va_rf ((fun i => if i < n then some (r i) else none) i.toNatClampNeg) = .ref (r i.toNatClampNeg) := by
    show va_rf (if i.toNatClampNeg < n then some (r i.toNatClampNeg) else none) = _
    rw [if_pos hlt]
    rfl
  exact W.aald (v := .ref (r i.toNatClampNeg)) (ty := .array .int) F.1.1 F.1.2.1 (hM.1 k _ hq) ((F.2.1.2 3 _ rfl).1 n (fun j => va_rf ((fun i => if i < n then some (r i) else none) j))) rfl (fun q => by cases q) (by show ¬ (i < 0 ∨ (arrV _ _ _).slots.size ≤ _); rw [arrV_size]; exact hin) (by show (arrV _ _ _).slots[_]? = _; rw [arrV_read _ _ hlt, hv]) rfl rfl hdg kk
theorem k_vret {S : Type} {Wf : S → va_W} (F : Fx p s m args meth c cc nL Ts own D y A0) (hM : KK D A0 s.heap ws H locs) (hr : meth.sig.returnType = none) (u0 : S) (hu : ws = Wf u0) {mc ms : Nat} (hdg : decode cc pc = .ok (.return_, 1)) : W p l e R s m args below meth c H locs mc ms (MQ below (kQ D y A0 Wf) args s mc ms A0) (F0 m pc ls []) := by
  have hlk := F.2.2.2.2
  subst hu
  exact W.vret F.1.1 F.1.2.1 hr (fun t ht hW => ⟨⟨u0, rfl, trivial, by rw [ht]; exact hM.1, va_K.moved hW.alike F.2.1, hM.2.1⟩, hM.2.2.F ht⟩) hM.2.2.2.2 hdg hlk
theorem k_free (F : Fx p s m args meth c cc nL Ts own D y A0) (hM : KK D A0 s.heap ws H locs) : ∀ q, va_A ws H.size q → A0 q := by
  intro q h
  rcases h with ⟨k, e, h⟩ | h
  · exact hM.2.1.2 k (q, e) h
  · exact F.2.2.2.1 q (Nat.le_trans hM.2.2.1 h)
theorem k_start {sz : Nat} (hsz : s.heap.size = sz) (hP : va_P D vwCl ws s.heap) (hD : va_D (fun _ => True) ws) : KK D (va_A ws sz) s.heap ws s.heap [] := ⟨hP, hD.self, va_S.rf⟩
end KR
