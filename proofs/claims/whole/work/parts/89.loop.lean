/-! ===== the law's loop ===== -/
theorem and15 (x : Int32) : ∃ k, k < 16 ∧ x &&& (15 : Int32) = nI k := by
  have h : x.toBitVec.toNat &&& 15 ≤ 15 := Nat.and_le_right
  refine ⟨x.toBitVec.toNat &&& 15, by omega, ?_⟩
  apply Int32.toBitVec_inj.mp
  rw [Int32.toBitVec_and]
  apply BitVec.eq_of_toNat_eq
  rw [BitVec.toNat_and]
  show _ = (BitVec.ofNat 32 (x.toBitVec.toNat &&& 15)).toNat
  rw [BitVec.toNat_ofNat, Nat.mod_eq_of_lt (by omega)]
  rfl
set_option maxHeartbeats 4000000 in
set_option maxRecDepth 100000 in
theorem law_loop {p : Program} {l : Launch} {e : Env} {s : State} {m : MethodId} {below : List Frame} {meth : Method} {c : Code} {b L nn : Nat} {xs : Nat → Int32} {D : va_G} {y : Nat → ClassId} {ad : Nat → Nat} (hX : LX p l s m meth c b L xs D y) (hr : meth.sig.returnType = ret) : ∀ (n i cells slots : Nat) (I : Nat → Int32) (J : Nat → Int64) (A : Nat → Nat → Int32) (B : Nat → Nat → Int64) (G : Nat → Nat → Nat → Int32) (H : Heap) (locs : List Loc) (ls : Array Slot), L < i + 5 * n → i ≤ L + 5 → cells + n ≤ 601024 → slots + 6 * n ≤ 7293000 → SysR nn I A B G → LM D y nn ad s I J A B G H locs → lv_has ls 8 (Lvs b ad i) → W p l e room_1 s m #[Value.ref b] below meth c H locs cells slots (lw_Z below #[Value.ref b] s) (F0 m 33 ls []) := by
  have F := hX.1
  have hx := F.1.1
  have hb := F.1.2.1
  have hbl := hX.2.2.1
  have hL := hX.2.2.2.2.2.2
  have hbA : ¬ (fun q : Nat => s.heap.size ≤ q) b := Nat.not_le.mpr hbl
  intro n
  induction n with
  | zero =>
    intro i cells slots I J A B G H locs ls h1 h2 hc hs hS hM hl
    refine lv_iload hx hb dL_law_33 (lv_at hl 0 rfl) ?_
    refine lv_aload_n hx hb dL_law_35 rfl (lv_at hl 1 rfl) ?_
    refine va_slen hx hb hX.2.1 hbl hbA hM.2.2 dL_law_36 ?_
    refine lv_iconst (v := 5) hx hb dL_law_37 (by decide) ?_
    refine lv_isub hx hb dL_law_38 ?_
    refine lv_icmp_gt (tgt := 466) hx hb dL_law_39 (by decide) (fun _ => ?_) (fun cg => ?_)
    · refine lv_iconst (v := 1) hx hb dL_law_466 (by decide) ?_
      refine va_forget (fun q hq => hM.2.2.2.2 q hq) ?_
      refine W.widen (k := 601024) (n := 7293000) (by omega) (by omega) ?_
      exact lw_ret hx hb hr F.2.2.2.2 dL_law_467
    · exfalso
      apply cg
      have e5 : (nI L - (5 : Int32)).toInt = (L : Int) - 5 := by
        have h5 : (5 : Int32).toInt = 5 := by decide
        rw [i32_sub] <;> rw [nI_i (by omega), h5] <;> omega
      rw [i32_lt, nI_i (by omega)]
      show (nI L - (5 : Int32)).toInt < (i : Int)
      omega
  | succ n ih =>
    intro i cells slots I J A B G H locs ls h1 h2 hc hs hS hM hl
    refine lv_iload hx hb dL_law_33 (lv_at hl 0 rfl) ?_
    refine lv_aload_n hx hb dL_law_35 rfl (lv_at hl 1 rfl) ?_
    refine va_slen hx hb hX.2.1 hbl hbA hM.2.2 dL_law_36 ?_
    refine lv_iconst (v := 5) hx hb dL_law_37 (by decide) ?_
    refine lv_isub hx hb dL_law_38 ?_
    refine lv_icmp_gt (tgt := 466) hx hb dL_law_39 (by decide) (fun _ => ?_) (fun cg => ?_)
    · refine lv_iconst (v := 1) hx hb dL_law_466 (by decide) ?_
      refine va_forget (fun q hq => hM.2.2.2.2 q hq) ?_
      refine W.widen (k := 601024) (n := 7293000) (by omega) (by omega) ?_
      exact lw_ret hx hb hr F.2.2.2.2 dL_law_467
    have hi : i + 5 ≤ L := by
      have e5 : (nI L - (5 : Int32)).toInt = (L : Int) - 5 := by
        have h5 : (5 : Int32).toInt = 5 := by decide
        rw [i32_sub] <;> rw [nI_i (by omega), h5] <;> omega
      refine Nat.le_of_not_lt (fun hh => cg ?_)
      rw [i32_lt, nI_i (by omega)]
      show (nI L - (5 : Int32)).toInt < (i : Int)
      omega
    have K : Kns p l e s m below meth c (lw_Z below #[Value.ref b] s) b nn D y ad i cells slots := by
      intro I J A B G H locs ls hM hS hl
      refine lv_iinc (v := nI (i + 5)) (lv' := Lvs b ad (i + 5)) hx hb dL_law_460 hl (k := 0) rfl (show nI i + 5 = nI (i + 5) from nI_add i 5) (by decide) rfl (fun ls hl => ?_)
      refine lv_goto (tgt := 33) hx hb dL_law_463 (by decide) ?_
      exact ih (i + 5) (cells + 1) (slots + 6) I J A B G H locs ls (by omega) (by omega) (by omega) (by omega) hS hM hl
    have hc1 : cells + 1 ≤ 601024 := by omega
    have hs1 : slots + 6 ≤ 7293000 := by omega
    refine lv_aload_n hx hb dL_law_42 rfl (lv_at hl 1 rfl) ?_
    refine lv_iload hx hb dL_law_43 (lv_at hl 0 rfl) ?_
    refine va_sld hx hb hX.2.1 hbl hbA hM.2.2 (vp_in_nI (show i < L by omega) (by omega)) dL_law_45 ?_
    refine lv_bipush (v := 15) hx hb dL_law_46 (by decide) ?_
    refine lv_iand hx hb dL_law_48 ?_
    obtain ⟨k, hk, ek⟩ := and15 (xs (nI i).toNatClampNeg)
    refine m_topi (v := nI k) (by first | exact ek.symm | (rw [Int32.and_comm]; exact ek.symm)) ?_
    have out : ∀ k, 10 ≤ k → k < 16 → W p l e room_1 s m #[Value.ref b] below meth c H locs cells slots (lw_Z below #[Value.ref b] s) (F0 m 49 ls [.int (nI k)]) := by
      intro k h10 h16
      refine lv_tableOut (tgt := 460) hx hb dL_law_49 (Or.inr (by rw [nI_i (by omega)]; omega)) (by decide) ?_
      exact W.widen (k := cells + 1) (n := slots + 6) (Nat.le_succ _) (Nat.le_add_right _ 6) (K _ _ _ _ _ H locs ls hM hS hl)
    by_cases h10 : 10 ≤ k
    · exact out k h10 hk
    rcases (show k = 0 ∨ k = 1 ∨ k = 2 ∨ k = 3 ∨ k = 4 ∨ k = 5 ∨ k = 6 ∨ k = 7 ∨ k = 8 ∨ k = 9 by omega) with rfl | rfl | rfl | rfl | rfl | rfl | rfl | rfl | rfl | rfl
    · exact lv_tableIn (tgt := 104) (off := 55) hx hb dL_law_49 (by decide) (by decide) (by decide) (by decide) (law_0 hX hc1 hs1 hi hS hM hl K)
    · exact lv_tableIn (tgt := 196) (off := 147) hx hb dL_law_49 (by decide) (by decide) (by decide) (by decide) (law_1 hX hc1 hs1 hi hS hM hl K)
    · exact lv_tableIn (tgt := 222) (off := 173) hx hb dL_law_49 (by decide) (by decide) (by decide) (by decide) (law_2 hX hc1 hs1 hi hS hM hl K)
    · exact lv_tableIn (tgt := 235) (off := 186) hx hb dL_law_49 (by decide) (by decide) (by decide) (by decide) (law_3 hX hc1 hs1 hi hS hM hl K)
    · exact lv_tableIn (tgt := 249) (off := 200) hx hb dL_law_49 (by decide) (by decide) (by decide) (by decide) (law_4 hX hc1 hs1 hi hS hM hl K)
    · exact lv_tableIn (tgt := 287) (off := 238) hx hb dL_law_49 (by decide) (by decide) (by decide) (by decide) (law_5 hX hc1 hs1 hi hS hM hl K)
    · exact lv_tableIn (tgt := 329) (off := 280) hx hb dL_law_49 (by decide) (by decide) (by decide) (by decide) (law_6 hX hc1 hs1 hi hS hM hl K)
    · exact lv_tableIn (tgt := 366) (off := 317) hx hb dL_law_49 (by decide) (by decide) (by decide) (by decide) (law_7 hX hc1 hs1 hi hS hM hl K)
    · exact lv_tableIn (tgt := 380) (off := 331) hx hb dL_law_49 (by decide) (by decide) (by decide) (by decide) (law_8 hX hc1 hs1 hi hS hM hl K)
    · exact lv_tableIn (tgt := 435) (off := 386) hx hb dL_law_49 (by decide) (by decide) (by decide) (by decide) (law_9 hX hc1 hs1 hi hS hM hl K)
